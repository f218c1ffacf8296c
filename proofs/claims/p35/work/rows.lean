section
-- ===== PART A: goes FIRST, ahead of the names: the tables' words, and 'selects' of the private methods out of them =====
/-- a private method of a class that the tables say can be made, by its rows of tables_1 -/
def lw_okq (q : MethodName × Nat) : Prop := (q.1.cls ≠ "java/lang/invoke/MethodHandle" ∧ q.1.cls ≠ "java/lang/invoke/VarHandle") ∧ Cond.instantiable q.1.cls q.2 ∈ tables_1 ∧ Cond.privateMethod q.1 ∈ tables_1 ∧ Cond.instanceMethod q.1 ∈ tables_1
theorem lw_p0 : lw_okq (⟨"MiddleAlgebras", "isTold", "(I)Z"⟩, 12) := ⟨⟨by decide +kernel, by decide +kernel⟩, List.mem_of_getElem? (i := 26) (by decide +kernel), List.mem_of_getElem? (i := 306) (by decide +kernel), List.mem_of_getElem? (i := 307) (by decide +kernel)⟩
theorem lw_p1 : lw_okq (⟨"MiddleAlgebras", "isQuaternion", "(I)Z"⟩, 12) := ⟨⟨by decide +kernel, by decide +kernel⟩, List.mem_of_getElem? (i := 26) (by decide +kernel), List.mem_of_getElem? (i := 360) (by decide +kernel), List.mem_of_getElem? (i := 361) (by decide +kernel)⟩
theorem lw_p2 : lw_okq (⟨"MiddleAlgebras", "isSplit", "(I)Z"⟩, 12) := ⟨⟨by decide +kernel, by decide +kernel⟩, List.mem_of_getElem? (i := 26) (by decide +kernel), List.mem_of_getElem? (i := 368) (by decide +kernel), List.mem_of_getElem? (i := 369) (by decide +kernel)⟩
theorem lw_p3 : lw_okq (⟨"MiddleAlgebras", "putBytes", "(I)V"⟩, 12) := ⟨⟨by decide +kernel, by decide +kernel⟩, List.mem_of_getElem? (i := 26) (by decide +kernel), List.mem_of_getElem? (i := 479) (by decide +kernel), List.mem_of_getElem? (i := 480) (by decide +kernel)⟩
theorem lw_p4 : lw_okq (⟨"MiddleAlgebras$Tokens", "isLetter", "(I)Z"⟩, 5) := ⟨⟨by decide +kernel, by decide +kernel⟩, List.mem_of_getElem? (i := 40) (by decide +kernel), List.mem_of_getElem? (i := 503) (by decide +kernel), List.mem_of_getElem? (i := 504) (by decide +kernel)⟩
theorem lw_p5 : lw_okq (⟨"MiddleAlgebras$Tokens", "takeRun", "(I)V"⟩, 5) := ⟨⟨by decide +kernel, by decide +kernel⟩, List.mem_of_getElem? (i := 40) (by decide +kernel), List.mem_of_getElem? (i := 507) (by decide +kernel), List.mem_of_getElem? (i := 508) (by decide +kernel)⟩
theorem lw_p6 : lw_okq (⟨"MiddleAlgebras$Tokens", "isDigit", "(I)Z"⟩, 5) := ⟨⟨by decide +kernel, by decide +kernel⟩, List.mem_of_getElem? (i := 40) (by decide +kernel), List.mem_of_getElem? (i := 511) (by decide +kernel), List.mem_of_getElem? (i := 512) (by decide +kernel)⟩
theorem lw_p7 : lw_okq (⟨"MiddleAlgebras$Tokens", "signKind", "(B)I"⟩, 5) := ⟨⟨by decide +kernel, by decide +kernel⟩, List.mem_of_getElem? (i := 40) (by decide +kernel), List.mem_of_getElem? (i := 515) (by decide +kernel), List.mem_of_getElem? (i := 516) (by decide +kernel)⟩
theorem lw_p8 : lw_okq (⟨"MiddleAlgebras$Reader", "readLine", "()Z"⟩, 4) := ⟨⟨by decide +kernel, by decide +kernel⟩, List.mem_of_getElem? (i := 34) (by decide +kernel), List.mem_of_getElem? (i := 519) (by decide +kernel), List.mem_of_getElem? (i := 520) (by decide +kernel)⟩
theorem lw_p9 : lw_okq (⟨"MiddleAlgebras$Tokens", "isWord", "(Ljava/lang/String;)Z"⟩, 5) := ⟨⟨by decide +kernel, by decide +kernel⟩, List.mem_of_getElem? (i := 40) (by decide +kernel), List.mem_of_getElem? (i := 528) (by decide +kernel), List.mem_of_getElem? (i := 529) (by decide +kernel)⟩
theorem lw_p10 : lw_okq (⟨"MiddleAlgebras$Reader", "refuse", "(I)Z"⟩, 4) := ⟨⟨by decide +kernel, by decide +kernel⟩, List.mem_of_getElem? (i := 34) (by decide +kernel), List.mem_of_getElem? (i := 544) (by decide +kernel), List.mem_of_getElem? (i := 545) (by decide +kernel)⟩
theorem lw_p11 : lw_okq (⟨"MiddleAlgebras$Reader", "readNewName", "(I)Z"⟩, 4) := ⟨⟨by decide +kernel, by decide +kernel⟩, List.mem_of_getElem? (i := 34) (by decide +kernel), List.mem_of_getElem? (i := 557) (by decide +kernel), List.mem_of_getElem? (i := 558) (by decide +kernel)⟩
theorem lw_p12 : lw_okq (⟨"MiddleAlgebras$Book", "hasName", "(ILMiddleAlgebras$Tokens;)Z"⟩, 8) := ⟨⟨by decide +kernel, by decide +kernel⟩, List.mem_of_getElem? (i := 63) (by decide +kernel), List.mem_of_getElem? (i := 570) (by decide +kernel), List.mem_of_getElem? (i := 571) (by decide +kernel)⟩
theorem lw_p13 : lw_okq (⟨"MiddleAlgebras$Reader", "readSides", "()Z"⟩, 4) := ⟨⟨by decide +kernel, by decide +kernel⟩, List.mem_of_getElem? (i := 34) (by decide +kernel), List.mem_of_getElem? (i := 581) (by decide +kernel), List.mem_of_getElem? (i := 582) (by decide +kernel)⟩
theorem lw_p14 : lw_okq (⟨"MiddleAlgebras$Reader", "readWhole", "(IZ)Z"⟩, 4) := ⟨⟨by decide +kernel, by decide +kernel⟩, List.mem_of_getElem? (i := 34) (by decide +kernel), List.mem_of_getElem? (i := 585) (by decide +kernel), List.mem_of_getElem? (i := 586) (by decide +kernel)⟩
theorem lw_p15 : lw_okq (⟨"MiddleAlgebras$Reader", "readField", "()Z"⟩, 4) := ⟨⟨by decide +kernel, by decide +kernel⟩, List.mem_of_getElem? (i := 34) (by decide +kernel), List.mem_of_getElem? (i := 613) (by decide +kernel), List.mem_of_getElem? (i := 614) (by decide +kernel)⟩
def lw_privs_1 : List (MethodName × Nat) := [(⟨"MiddleAlgebras", "isTold", "(I)Z"⟩, 12), (⟨"MiddleAlgebras", "isQuaternion", "(I)Z"⟩, 12), (⟨"MiddleAlgebras", "isSplit", "(I)Z"⟩, 12), (⟨"MiddleAlgebras", "putBytes", "(I)V"⟩, 12), (⟨"MiddleAlgebras$Tokens", "isLetter", "(I)Z"⟩, 5), (⟨"MiddleAlgebras$Tokens", "takeRun", "(I)V"⟩, 5), (⟨"MiddleAlgebras$Tokens", "isDigit", "(I)Z"⟩, 5), (⟨"MiddleAlgebras$Tokens", "signKind", "(B)I"⟩, 5), (⟨"MiddleAlgebras$Reader", "readLine", "()Z"⟩, 4), (⟨"MiddleAlgebras$Tokens", "isWord", "(Ljava/lang/String;)Z"⟩, 5), (⟨"MiddleAlgebras$Reader", "refuse", "(I)Z"⟩, 4), (⟨"MiddleAlgebras$Reader", "readNewName", "(I)Z"⟩, 4), (⟨"MiddleAlgebras$Book", "hasName", "(ILMiddleAlgebras$Tokens;)Z"⟩, 8), (⟨"MiddleAlgebras$Reader", "readSides", "()Z"⟩, 4), (⟨"MiddleAlgebras$Reader", "readWhole", "(IZ)Z"⟩, 4), (⟨"MiddleAlgebras$Reader", "readField", "()Z"⟩, 4)]
theorem lw_r1 : ∀ q ∈ lw_privs_1, lw_okq q := List.forall_mem_cons.mpr ⟨lw_p0, List.forall_mem_cons.mpr ⟨lw_p1, List.forall_mem_cons.mpr ⟨lw_p2, List.forall_mem_cons.mpr ⟨lw_p3, List.forall_mem_cons.mpr ⟨lw_p4, List.forall_mem_cons.mpr ⟨lw_p5, List.forall_mem_cons.mpr ⟨lw_p6, List.forall_mem_cons.mpr ⟨lw_p7, List.forall_mem_cons.mpr ⟨lw_p8, List.forall_mem_cons.mpr ⟨lw_p9, List.forall_mem_cons.mpr ⟨lw_p10, List.forall_mem_cons.mpr ⟨lw_p11, List.forall_mem_cons.mpr ⟨lw_p12, List.forall_mem_cons.mpr ⟨lw_p13, List.forall_mem_cons.mpr ⟨lw_p14, List.forall_mem_cons.mpr ⟨lw_p15, fun _ h => absurd h List.not_mem_nil⟩⟩⟩⟩⟩⟩⟩⟩⟩⟩⟩⟩⟩⟩⟩⟩
theorem lw_p16 : lw_okq (⟨"MiddleAlgebras$Reader", "isField", "(J)Z"⟩, 4) := ⟨⟨by decide +kernel, by decide +kernel⟩, List.mem_of_getElem? (i := 34) (by decide +kernel), List.mem_of_getElem? (i := 617) (by decide +kernel), List.mem_of_getElem? (i := 618) (by decide +kernel)⟩
theorem lw_p17 : lw_okq (⟨"MiddleAlgebras$Reader", "readTerms", "()Z"⟩, 4) := ⟨⟨by decide +kernel, by decide +kernel⟩, List.mem_of_getElem? (i := 34) (by decide +kernel), List.mem_of_getElem? (i := 627) (by decide +kernel), List.mem_of_getElem? (i := 628) (by decide +kernel)⟩
theorem lw_p18 : lw_okq (⟨"MiddleAlgebras$Reader", "isSign", "()Z"⟩, 4) := ⟨⟨by decide +kernel, by decide +kernel⟩, List.mem_of_getElem? (i := 34) (by decide +kernel), List.mem_of_getElem? (i := 631) (by decide +kernel), List.mem_of_getElem? (i := 632) (by decide +kernel)⟩
theorem lw_p19 : lw_okq (⟨"MiddleAlgebras", "beginAnew", "()V"⟩, 12) := ⟨⟨by decide +kernel, by decide +kernel⟩, List.mem_of_getElem? (i := 26) (by decide +kernel), List.mem_of_getElem? (i := 648) (by decide +kernel), List.mem_of_getElem? (i := 649) (by decide +kernel)⟩
theorem lw_p20 : lw_okq (⟨"MiddleAlgebras$Places", "note", "(I)V"⟩, 4) := ⟨⟨by decide +kernel, by decide +kernel⟩, List.mem_of_getElem? (i := 114) (by decide +kernel), List.mem_of_getElem? (i := 657) (by decide +kernel), List.mem_of_getElem? (i := 658) (by decide +kernel)⟩
theorem lw_p21 : lw_okq (⟨"MiddleAlgebras$Places", "noteAll", "(LMiddleAlgebras$Book;I)V"⟩, 4) := ⟨⟨by decide +kernel, by decide +kernel⟩, List.mem_of_getElem? (i := 114) (by decide +kernel), List.mem_of_getElem? (i := 661) (by decide +kernel), List.mem_of_getElem? (i := 662) (by decide +kernel)⟩
theorem lw_p22 : lw_okq (⟨"MiddleAlgebras$Places", "noteDivisors", "(I)V"⟩, 4) := ⟨⟨by decide +kernel, by decide +kernel⟩, List.mem_of_getElem? (i := 114) (by decide +kernel), List.mem_of_getElem? (i := 667) (by decide +kernel), List.mem_of_getElem? (i := 668) (by decide +kernel)⟩
theorem lw_p23 : lw_okq (⟨"MiddleAlgebras$Places", "reckonOne", "(LMiddleAlgebras$Book;I)V"⟩, 4) := ⟨⟨by decide +kernel, by decide +kernel⟩, List.mem_of_getElem? (i := 114) (by decide +kernel), List.mem_of_getElem? (i := 675) (by decide +kernel), List.mem_of_getElem? (i := 676) (by decide +kernel)⟩
theorem lw_p24 : lw_okq (⟨"MiddleAlgebras$Places", "isRamified", "(III)Z"⟩, 4) := ⟨⟨by decide +kernel, by decide +kernel⟩, List.mem_of_getElem? (i := 114) (by decide +kernel), List.mem_of_getElem? (i := 679) (by decide +kernel), List.mem_of_getElem? (i := 680) (by decide +kernel)⟩
theorem lw_p25 : lw_okq (⟨"MiddleAlgebras$Places", "reckonCyclic", "(III)V"⟩, 4) := ⟨⟨by decide +kernel, by decide +kernel⟩, List.mem_of_getElem? (i := 114) (by decide +kernel), List.mem_of_getElem? (i := 697) (by decide +kernel), List.mem_of_getElem? (i := 698) (by decide +kernel)⟩
theorem lw_p26 : lw_okq (⟨"MiddleAlgebras$Places", "leastGenerator", "(I)I"⟩, 4) := ⟨⟨by decide +kernel, by decide +kernel⟩, List.mem_of_getElem? (i := 114) (by decide +kernel), List.mem_of_getElem? (i := 701) (by decide +kernel), List.mem_of_getElem? (i := 702) (by decide +kernel)⟩
theorem lw_p27 : lw_okq (⟨"MiddleAlgebras$Places", "powerThatIs", "(III)I"⟩, 4) := ⟨⟨by decide +kernel, by decide +kernel⟩, List.mem_of_getElem? (i := 114) (by decide +kernel), List.mem_of_getElem? (i := 705) (by decide +kernel), List.mem_of_getElem? (i := 706) (by decide +kernel)⟩
theorem lw_p28 : lw_okq (⟨"MiddleAlgebras$Places", "reckonSum", "(LMiddleAlgebras$Book;I)V"⟩, 4) := ⟨⟨by decide +kernel, by decide +kernel⟩, List.mem_of_getElem? (i := 114) (by decide +kernel), List.mem_of_getElem? (i := 710) (by decide +kernel), List.mem_of_getElem? (i := 711) (by decide +kernel)⟩
def lw_privs_2 : List (MethodName × Nat) := [(⟨"MiddleAlgebras$Reader", "isField", "(J)Z"⟩, 4), (⟨"MiddleAlgebras$Reader", "readTerms", "()Z"⟩, 4), (⟨"MiddleAlgebras$Reader", "isSign", "()Z"⟩, 4), (⟨"MiddleAlgebras", "beginAnew", "()V"⟩, 12), (⟨"MiddleAlgebras$Places", "note", "(I)V"⟩, 4), (⟨"MiddleAlgebras$Places", "noteAll", "(LMiddleAlgebras$Book;I)V"⟩, 4), (⟨"MiddleAlgebras$Places", "noteDivisors", "(I)V"⟩, 4), (⟨"MiddleAlgebras$Places", "reckonOne", "(LMiddleAlgebras$Book;I)V"⟩, 4), (⟨"MiddleAlgebras$Places", "isRamified", "(III)Z"⟩, 4), (⟨"MiddleAlgebras$Places", "reckonCyclic", "(III)V"⟩, 4), (⟨"MiddleAlgebras$Places", "leastGenerator", "(I)I"⟩, 4), (⟨"MiddleAlgebras$Places", "powerThatIs", "(III)I"⟩, 4), (⟨"MiddleAlgebras$Places", "reckonSum", "(LMiddleAlgebras$Book;I)V"⟩, 4)]
theorem lw_r2 : ∀ q ∈ lw_privs_2, lw_okq q := List.forall_mem_cons.mpr ⟨lw_p16, List.forall_mem_cons.mpr ⟨lw_p17, List.forall_mem_cons.mpr ⟨lw_p18, List.forall_mem_cons.mpr ⟨lw_p19, List.forall_mem_cons.mpr ⟨lw_p20, List.forall_mem_cons.mpr ⟨lw_p21, List.forall_mem_cons.mpr ⟨lw_p22, List.forall_mem_cons.mpr ⟨lw_p23, List.forall_mem_cons.mpr ⟨lw_p24, List.forall_mem_cons.mpr ⟨lw_p25, List.forall_mem_cons.mpr ⟨lw_p26, List.forall_mem_cons.mpr ⟨lw_p27, List.forall_mem_cons.mpr ⟨lw_p28, fun _ h => absurd h List.not_mem_nil⟩⟩⟩⟩⟩⟩⟩⟩⟩⟩⟩⟩⟩
def lw_privs : List (MethodName × Nat) := lw_privs_1 ++ (lw_privs_2)
def lw_tbl : List Cond := k2_sels lw_privs ++ tables_1
theorem lw_privs_ok : ∀ q ∈ lw_privs, lw_okq q := by
  show ∀ q ∈ lw_privs_1 ++ (lw_privs_2), lw_okq q
  exact List.forall_mem_append.mpr ⟨lw_r1, lw_r2⟩
-- ===== end of PART A; then your names; then what follows =====
end
section
theorem zz_wide : True := (fun _ => trivial) (@Jvm.Stand.multianewarray2F)
def RX0 : String := "MiddleAlgebras$Book"
def TX0 : u_T := fun k => match k with
  | 0 => ("MiddleAlgebras$Book", "size", "I", false)
  | 1 => ("MiddleAlgebras$Book", "kinds", "[I", true)
  | 2 => ("MiddleAlgebras$Book", "firsts", "[I", true)
  | 3 => ("MiddleAlgebras$Book", "seconds", "[I", true)
  | 4 => ("MiddleAlgebras$Book", "lengths", "[I", true)
  | 5 => ("MiddleAlgebras$Book", "names", "[[B", true)
  | 6 => ("MiddleAlgebras$Book", "terms", "[[I", true)
  | _ => ("MiddleAlgebras$Book", "signs", "[[I", true)
def tyX0 : Nat → FieldType := fun k => match k with
  | 0 => .int
  | 1 => .array .int
  | 2 => .array .int
  | 3 => .array .int
  | 4 => .array .int
  | 5 => .array (.array .byte)
  | 6 => .array (.array .int)
  | _ => .array (.array .int)
theorem nmX0 : ∀ a, a < 8 → ∀ b, b < 8 → a ≠ b → (TX0 a).2.1 ≠ (TX0 b).2.1 := by decide +kernel
theorem tyX0_ok : ∀ k, k < 8 → parseFieldDescriptor (TX0 k).2.2.1 = some (tyX0 k) := by decide +kernel
abbrev cX0_init : ByteArray := prog_2_method_1_code
def yX0_init : MethodName := ⟨RX0, "<init>", "()V"⟩
abbrev cX0_size : ByteArray := prog_2_method_2_code
def yX0_size : MethodName := ⟨RX0, "size", "()I"⟩
abbrev cX0_kind : ByteArray := prog_2_method_3_code
def yX0_kind : MethodName := ⟨RX0, "kind", "(I)I"⟩
abbrev cX0_first : ByteArray := prog_2_method_4_code
def yX0_first : MethodName := ⟨RX0, "first", "(I)I"⟩
abbrev cX0_second : ByteArray := prog_2_method_5_code
def yX0_second : MethodName := ⟨RX0, "second", "(I)I"⟩
abbrev cX0_term : ByteArray := prog_2_method_7_code
def yX0_term : MethodName := ⟨RX0, "term", "(II)I"⟩
abbrev cX0_sign : ByteArray := prog_2_method_8_code
def yX0_sign : MethodName := ⟨RX0, "sign", "(II)I"⟩
abbrev cX0_clear : ByteArray := prog_2_method_9_code
def yX0_clear : MethodName := ⟨RX0, "clear", "()V"⟩
abbrev cX0_isFull : ByteArray := prog_2_method_10_code
def yX0_isFull : MethodName := ⟨RX0, "isFull", "()Z"⟩
abbrev cX0_begin : ByteArray := prog_2_method_11_code
def yX0_begin : MethodName := ⟨RX0, "begin", "(ILMiddleAlgebras$Tokens;)V"⟩
abbrev cX0_setFirst : ByteArray := prog_2_method_12_code
def yX0_setFirst : MethodName := ⟨RX0, "setFirst", "(J)V"⟩
abbrev cX0_setSecond : ByteArray := prog_2_method_13_code
def yX0_setSecond : MethodName := ⟨RX0, "setSecond", "(J)V"⟩
abbrev cX0_hasAllTerms : ByteArray := prog_2_method_14_code
def yX0_hasAllTerms : MethodName := ⟨RX0, "hasAllTerms", "()Z"⟩
abbrev cX0_addTerm : ByteArray := prog_2_method_15_code
def yX0_addTerm : MethodName := ⟨RX0, "addTerm", "(II)V"⟩
abbrev cX0_finish : ByteArray := prog_2_method_16_code
def yX0_finish : MethodName := ⟨RX0, "finish", "()V"⟩
abbrev cX0_find : ByteArray := prog_2_method_17_code
def yX0_find : MethodName := ⟨RX0, "find", "(LMiddleAlgebras$Tokens;)I"⟩
abbrev cX0_hasName : ByteArray := prog_2_method_18_code
def yX0_hasName : MethodName := ⟨RX0, "hasName", "(ILMiddleAlgebras$Tokens;)Z"⟩
def RX1 : String := "MiddleAlgebras$Element"
def TX1 : u_T := fun k => match k with
  | 0 => ("MiddleAlgebras$Element", "numbers", "[J", true)
  | 1 => ("MiddleAlgebras$Element", "below", "J", false)
  | _ => ("MiddleAlgebras$Element", "owner", "I", false)
def tyX1 : Nat → FieldType := fun k => match k with
  | 0 => .array .long
  | 1 => .long
  | _ => .int
theorem nmX1 : ∀ a, a < 3 → ∀ b, b < 3 → a ≠ b → (TX1 a).2.1 ≠ (TX1 b).2.1 := by decide +kernel
theorem tyX1_ok : ∀ k, k < 3 → parseFieldDescriptor (TX1 k).2.2.1 = some (tyX1 k) := by decide +kernel
abbrev cX1_init : ByteArray := prog_3_method_1_code
def yX1_init : MethodName := ⟨RX1, "<init>", "()V"⟩
abbrev cX1_drop : ByteArray := prog_3_method_3_code
def yX1_drop : MethodName := ⟨RX1, "drop", "()V"⟩
def RX2 : String := "MiddleAlgebras$Enlarger"
def TX2 : u_T := fun k => match k with
  | 0 => ("MiddleAlgebras$Enlarger", "order", "LMiddleAlgebras$Order;", false)
  | 1 => ("MiddleAlgebras$Enlarger", "prime", "I", false)
  | 2 => ("MiddleAlgebras$Enlarger", "over", "J", false)
  | 3 => ("MiddleAlgebras$Enlarger", "trial", "LMiddleAlgebras$Lattice;", false)
  | 4 => ("MiddleAlgebras$Enlarger", "next", "LMiddleAlgebras$Lattice;", false)
  | 5 => ("MiddleAlgebras$Enlarger", "sums", "[[J", true)
  | _ => ("MiddleAlgebras$Enlarger", "product", "[J", true)
def tyX2 : Nat → FieldType := fun k => match k with
  | 0 => .object "MiddleAlgebras$Order"
  | 1 => .int
  | 2 => .long
  | 3 => .object "MiddleAlgebras$Lattice"
  | 4 => .object "MiddleAlgebras$Lattice"
  | 5 => .array (.array .long)
  | _ => .array .long
theorem nmX2 : ∀ a, a < 7 → ∀ b, b < 7 → a ≠ b → (TX2 a).2.1 ≠ (TX2 b).2.1 := by decide +kernel
theorem tyX2_ok : ∀ k, k < 7 → parseFieldDescriptor (TX2 k).2.2.1 = some (tyX2 k) := by decide +kernel
abbrev cX2_init : ByteArray := prog_4_method_1_code
def yX2_init : MethodName := ⟨RX2, "<init>", "()V"⟩
def RX3 : String := "MiddleAlgebras$Lattice"
def TX3 : u_T := fun k => match k with
  | 0 => ("MiddleAlgebras$Lattice", "rows", "[[J", true)
  | 1 => ("MiddleAlgebras$Lattice", "work", "[J", true)
  | _ => ("MiddleAlgebras$Lattice", "modulus", "J", false)
def tyX3 : Nat → FieldType := fun k => match k with
  | 0 => .array (.array .long)
  | 1 => .array .long
  | _ => .long
theorem nmX3 : ∀ a, a < 3 → ∀ b, b < 3 → a ≠ b → (TX3 a).2.1 ≠ (TX3 b).2.1 := by decide +kernel
theorem tyX3_ok : ∀ k, k < 3 → parseFieldDescriptor (TX3 k).2.2.1 = some (tyX3 k) := by decide +kernel
abbrev cX3_init : ByteArray := prog_5_method_1_code
def yX3_init : MethodName := ⟨RX3, "<init>", "()V"⟩
abbrev cX3_begin : ByteArray := prog_5_method_2_code
def yX3_begin : MethodName := ⟨RX3, "begin", "(J)V"⟩
abbrev cX3_lotsByWhole : ByteArray := prog_5_method_12_code
def yX3_lotsByWhole : MethodName := ⟨RX3, "lotsByWhole", "(J)J"⟩
def RX4 : String := "MiddleAlgebras$LeftIdeal"
def TX4 : u_T := fun k => match k with
  | 0 => ("MiddleAlgebras$LeftIdeal", "order", "LMiddleAlgebras$Order;", false)
  | 1 => ("MiddleAlgebras$LeftIdeal", "lattice", "LMiddleAlgebras$Lattice;", true)
  | _ => ("MiddleAlgebras$LeftIdeal", "point", "[J", true)
def tyX4 : Nat → FieldType := fun k => match k with
  | 0 => .object "MiddleAlgebras$Order"
  | 1 => .object "MiddleAlgebras$Lattice"
  | _ => .array .long
theorem nmX4 : ∀ a, a < 3 → ∀ b, b < 3 → a ≠ b → (TX4 a).2.1 ≠ (TX4 b).2.1 := by decide +kernel
theorem tyX4_ok : ∀ k, k < 3 → parseFieldDescriptor (TX4 k).2.2.1 = some (tyX4 k) := by decide +kernel
abbrev cX4_init : ByteArray := prog_6_method_1_code
def yX4_init : MethodName := ⟨RX4, "<init>", "()V"⟩
def RX5 : String := "MiddleAlgebras$Numbers"
def TX5 : u_T := fun k => match k with
  | _ => ("", "", "", false)
def tyX5 : Nat → FieldType := fun k => match k with
  | _ => .int
theorem nmX5 : ∀ a, a < 0 → ∀ b, b < 0 → a ≠ b → (TX5 a).2.1 ≠ (TX5 b).2.1 := by decide +kernel
theorem tyX5_ok : ∀ k, k < 0 → parseFieldDescriptor (TX5 k).2.2.1 = some (tyX5 k) := by decide +kernel
abbrev cX5_greatestDivisor : ByteArray := prog_7_method_2_code
def yX5_greatestDivisor : MethodName := ⟨RX5, "greatestDivisor", "(JJ)J"⟩
abbrev cX5_quotient : ByteArray := prog_7_method_3_code
def yX5_quotient : MethodName := ⟨RX5, "quotient", "(JJ)J"⟩
abbrev cX5_rest : ByteArray := prog_7_method_4_code
def yX5_rest : MethodName := ⟨RX5, "rest", "(JJ)J"⟩
abbrev cX5_divides : ByteArray := prog_7_method_5_code
def yX5_divides : MethodName := ⟨RX5, "divides", "(JJ)Z"⟩
abbrev cX5_isPrime : ByteArray := prog_7_method_7_code
def yX5_isPrime : MethodName := ⟨RX5, "isPrime", "(I)Z"⟩
abbrev cX5_isSquareFree : ByteArray := prog_7_method_8_code
def yX5_isSquareFree : MethodName := ⟨RX5, "isSquareFree", "(J)Z"⟩
abbrev cX5_howOften : ByteArray := prog_7_method_9_code
def yX5_howOften : MethodName := ⟨RX5, "howOften", "(IJ)I"⟩
abbrev cX5_isSquareModulo : ByteArray := prog_7_method_10_code
def yX5_isSquareModulo : MethodName := ⟨RX5, "isSquareModulo", "(JI)Z"⟩
abbrev cX5_root : ByteArray := prog_7_method_11_code
def yX5_root : MethodName := ⟨RX5, "root", "(J)J"⟩
def RX6 : String := "MiddleAlgebras$Order"
def TX6 : u_T := fun k => match k with
  | 0 => ("MiddleAlgebras$Order", "a", "J", false)
  | 1 => ("MiddleAlgebras$Order", "b", "J", false)
  | 2 => ("MiddleAlgebras$Order", "basis", "LMiddleAlgebras$Lattice;", true)
  | _ => ("MiddleAlgebras$Order", "point", "[J", true)
def tyX6 : Nat → FieldType := fun k => match k with
  | 0 => .long
  | 1 => .long
  | 2 => .object "MiddleAlgebras$Lattice"
  | _ => .array .long
theorem nmX6 : ∀ a, a < 4 → ∀ b, b < 4 → a ≠ b → (TX6 a).2.1 ≠ (TX6 b).2.1 := by decide +kernel
theorem tyX6_ok : ∀ k, k < 4 → parseFieldDescriptor (TX6 k).2.2.1 = some (tyX6 k) := by decide +kernel
abbrev cX6_init : ByteArray := prog_8_method_1_code
def yX6_init : MethodName := ⟨RX6, "<init>", "()V"⟩
abbrev cX6_begin : ByteArray := prog_8_method_2_code
def yX6_begin : MethodName := ⟨RX6, "begin", "(JJ)V"⟩
abbrev cX6_discriminant : ByteArray := prog_8_method_5_code
def yX6_discriminant : MethodName := ⟨RX6, "discriminant", "()J"⟩
abbrev cX6_discriminantOf : ByteArray := prog_8_method_6_code
def yX6_discriminantOf : MethodName := ⟨RX6, "discriminantOf", "(LMiddleAlgebras$Lattice;)J"⟩
def RX7 : String := "MiddleAlgebras$Places"
def TX7 : u_T := fun k => match k with
  | 0 => ("MiddleAlgebras$Places", "size", "I", false)
  | 1 => ("MiddleAlgebras$Places", "algebras", "I", false)
  | 2 => ("MiddleAlgebras$Places", "list", "[I", true)
  | _ => ("MiddleAlgebras$Places", "sixths", "[[I", true)
def tyX7 : Nat → FieldType := fun k => match k with
  | 0 => .int
  | 1 => .int
  | 2 => .array .int
  | _ => .array (.array .int)
theorem nmX7 : ∀ a, a < 4 → ∀ b, b < 4 → a ≠ b → (TX7 a).2.1 ≠ (TX7 b).2.1 := by decide +kernel
theorem tyX7_ok : ∀ k, k < 4 → parseFieldDescriptor (TX7 k).2.2.1 = some (tyX7 k) := by decide +kernel
abbrev cX7_init : ByteArray := prog_9_method_1_code
def yX7_init : MethodName := ⟨RX7, "<init>", "()V"⟩
abbrev cX7_reckon : ByteArray := prog_9_method_2_code
def yX7_reckon : MethodName := ⟨RX7, "reckon", "(LMiddleAlgebras$Book;)V"⟩
abbrev cX7_noteAll : ByteArray := prog_9_method_3_code
def yX7_noteAll : MethodName := ⟨RX7, "noteAll", "(LMiddleAlgebras$Book;I)V"⟩
abbrev cX7_noteDivisors : ByteArray := prog_9_method_4_code
def yX7_noteDivisors : MethodName := ⟨RX7, "noteDivisors", "(I)V"⟩
abbrev cX7_note : ByteArray := prog_9_method_5_code
def yX7_note : MethodName := ⟨RX7, "note", "(I)V"⟩
abbrev cX7_reckonOne : ByteArray := prog_9_method_6_code
def yX7_reckonOne : MethodName := ⟨RX7, "reckonOne", "(LMiddleAlgebras$Book;I)V"⟩
abbrev cX7_isRamified : ByteArray := prog_9_method_7_code
def yX7_isRamified : MethodName := ⟨RX7, "isRamified", "(III)Z"⟩
abbrev cX7_reckonCyclic : ByteArray := prog_9_method_8_code
def yX7_reckonCyclic : MethodName := ⟨RX7, "reckonCyclic", "(III)V"⟩
abbrev cX7_leastGenerator : ByteArray := prog_9_method_9_code
def yX7_leastGenerator : MethodName := ⟨RX7, "leastGenerator", "(I)I"⟩
abbrev cX7_powerThatIs : ByteArray := prog_9_method_10_code
def yX7_powerThatIs : MethodName := ⟨RX7, "powerThatIs", "(III)I"⟩
abbrev cX7_reckonSum : ByteArray := prog_9_method_11_code
def yX7_reckonSum : MethodName := ⟨RX7, "reckonSum", "(LMiddleAlgebras$Book;I)V"⟩
abbrev cX7_sixthsAt : ByteArray := prog_9_method_12_code
def yX7_sixthsAt : MethodName := ⟨RX7, "sixthsAt", "(II)I"⟩
abbrev cX7_howMany : ByteArray := prog_9_method_13_code
def yX7_howMany : MethodName := ⟨RX7, "howMany", "(I)I"⟩
abbrev cX7_placeOf : ByteArray := prog_9_method_14_code
def yX7_placeOf : MethodName := ⟨RX7, "placeOf", "(II)I"⟩
abbrev cX7_indexOf : ByteArray := prog_9_method_15_code
def yX7_indexOf : MethodName := ⟨RX7, "indexOf", "(I)I"⟩
abbrev cX7_areAlike : ByteArray := prog_9_method_16_code
def yX7_areAlike : MethodName := ⟨RX7, "areAlike", "(II)Z"⟩
def RX8 : String := "MiddleAlgebras$Reader"
def TX8 : u_T := fun k => match k with
  | 0 => ("MiddleAlgebras$Reader", "tokens", "LMiddleAlgebras$Tokens;", true)
  | 1 => ("MiddleAlgebras$Reader", "told", "LMiddleAlgebras$Book;", false)
  | 2 => ("MiddleAlgebras$Reader", "fault", "I", false)
  | _ => ("MiddleAlgebras$Reader", "whole", "J", false)
def tyX8 : Nat → FieldType := fun k => match k with
  | 0 => .object "MiddleAlgebras$Tokens"
  | 1 => .object "MiddleAlgebras$Book"
  | 2 => .int
  | _ => .long
theorem nmX8 : ∀ a, a < 4 → ∀ b, b < 4 → a ≠ b → (TX8 a).2.1 ≠ (TX8 b).2.1 := by decide +kernel
theorem tyX8_ok : ∀ k, k < 4 → parseFieldDescriptor (TX8 k).2.2.1 = some (tyX8 k) := by decide +kernel
abbrev cX8_init : ByteArray := prog_10_method_1_code
def yX8_init : MethodName := ⟨RX8, "<init>", "()V"⟩
abbrev cX8_readText : ByteArray := prog_10_method_2_code
def yX8_readText : MethodName := ⟨RX8, "readText", "([BILMiddleAlgebras$Book;)I"⟩
abbrev cX8_refuse : ByteArray := prog_10_method_3_code
def yX8_refuse : MethodName := ⟨RX8, "refuse", "(I)Z"⟩
abbrev cX8_readLine : ByteArray := prog_10_method_4_code
def yX8_readLine : MethodName := ⟨RX8, "readLine", "()Z"⟩
abbrev cX8_readNewName : ByteArray := prog_10_method_5_code
def yX8_readNewName : MethodName := ⟨RX8, "readNewName", "(I)Z"⟩
abbrev cX8_readSides : ByteArray := prog_10_method_6_code
def yX8_readSides : MethodName := ⟨RX8, "readSides", "()Z"⟩
abbrev cX8_readField : ByteArray := prog_10_method_7_code
def yX8_readField : MethodName := ⟨RX8, "readField", "()Z"⟩
abbrev cX8_isField : ByteArray := prog_10_method_8_code
def yX8_isField : MethodName := ⟨RX8, "isField", "(J)Z"⟩
abbrev cX8_readWhole : ByteArray := prog_10_method_9_code
def yX8_readWhole : MethodName := ⟨RX8, "readWhole", "(IZ)Z"⟩
abbrev cX8_readTerms : ByteArray := prog_10_method_10_code
def yX8_readTerms : MethodName := ⟨RX8, "readTerms", "()Z"⟩
abbrev cX8_isSign : ByteArray := prog_10_method_11_code
def yX8_isSign : MethodName := ⟨RX8, "isSign", "()Z"⟩
def RX9 : String := "MiddleAlgebras$Splitting"
def TX9 : u_T := fun k => match k with
  | 0 => ("MiddleAlgebras$Splitting", "a", "J", false)
  | 1 => ("MiddleAlgebras$Splitting", "b", "J", false)
  | 2 => ("MiddleAlgebras$Splitting", "x", "J", false)
  | 3 => ("MiddleAlgebras$Splitting", "y", "J", false)
  | _ => ("MiddleAlgebras$Splitting", "z", "J", false)
def tyX9 : Nat → FieldType := fun k => match k with
  | 0 => .long
  | 1 => .long
  | 2 => .long
  | 3 => .long
  | _ => .long
theorem nmX9 : ∀ a, a < 5 → ∀ b, b < 5 → a ≠ b → (TX9 a).2.1 ≠ (TX9 b).2.1 := by decide +kernel
theorem tyX9_ok : ∀ k, k < 5 → parseFieldDescriptor (TX9 k).2.2.1 = some (tyX9 k) := by decide +kernel
abbrev cX9_init : ByteArray := prog_11_method_1_code
def yX9_init : MethodName := ⟨RX9, "<init>", "()V"⟩
abbrev cX9_solve : ByteArray := prog_11_method_2_code
def yX9_solve : MethodName := ⟨RX9, "solve", "(JJ)Z"⟩
abbrev cX9_part : ByteArray := prog_11_method_3_code
def yX9_part : MethodName := ⟨RX9, "part", "(I)I"⟩
def RX10 : String := "MiddleAlgebras$Tokens"
def TX10 : u_T := fun k => match k with
  | 0 => ("MiddleAlgebras$Tokens", "bytes", "[B", false)
  | 1 => ("MiddleAlgebras$Tokens", "size", "I", false)
  | 2 => ("MiddleAlgebras$Tokens", "start", "I", false)
  | 3 => ("MiddleAlgebras$Tokens", "end", "I", false)
  | _ => ("MiddleAlgebras$Tokens", "kind", "I", false)
def tyX10 : Nat → FieldType := fun k => match k with
  | 0 => .array .byte
  | 1 => .int
  | 2 => .int
  | 3 => .int
  | _ => .int
theorem nmX10 : ∀ a, a < 5 → ∀ b, b < 5 → a ≠ b → (TX10 a).2.1 ≠ (TX10 b).2.1 := by decide +kernel
theorem tyX10_ok : ∀ k, k < 5 → parseFieldDescriptor (TX10 k).2.2.1 = some (tyX10 k) := by decide +kernel
abbrev cX10_init : ByteArray := prog_12_method_1_code
def yX10_init : MethodName := ⟨RX10, "<init>", "()V"⟩
abbrev cX10_begin : ByteArray := prog_12_method_2_code
def yX10_begin : MethodName := ⟨RX10, "begin", "([BI)V"⟩
abbrev cX10_step : ByteArray := prog_12_method_3_code
def yX10_step : MethodName := ⟨RX10, "step", "()V"⟩
abbrev cX10_takeRun : ByteArray := prog_12_method_4_code
def yX10_takeRun : MethodName := ⟨RX10, "takeRun", "(I)V"⟩
abbrev cX10_signKind : ByteArray := prog_12_method_5_code
def yX10_signKind : MethodName := ⟨RX10, "signKind", "(B)I"⟩
abbrev cX10_isLetter : ByteArray := prog_12_method_6_code
def yX10_isLetter : MethodName := ⟨RX10, "isLetter", "(I)Z"⟩
abbrev cX10_isDigit : ByteArray := prog_12_method_7_code
def yX10_isDigit : MethodName := ⟨RX10, "isDigit", "(I)Z"⟩
abbrev cX10_is : ByteArray := prog_12_method_8_code
def yX10_is : MethodName := ⟨RX10, "is", "(I)Z"⟩
abbrev cX10_start : ByteArray := prog_12_method_9_code
def yX10_start : MethodName := ⟨RX10, "start", "()I"⟩
abbrev cX10_length : ByteArray := prog_12_method_10_code
def yX10_length : MethodName := ⟨RX10, "length", "()I"⟩
abbrev cX10_byteAt : ByteArray := prog_12_method_11_code
def yX10_byteAt : MethodName := ⟨RX10, "byteAt", "(I)B"⟩
abbrev cX10_value : ByteArray := prog_12_method_12_code
def yX10_value : MethodName := ⟨RX10, "value", "()J"⟩
abbrev cX10_lineKind : ByteArray := prog_12_method_13_code
def yX10_lineKind : MethodName := ⟨RX10, "lineKind", "()I"⟩
abbrev cX10_isName : ByteArray := prog_12_method_14_code
def yX10_isName : MethodName := ⟨RX10, "isName", "()Z"⟩
abbrev cX10_isWord : ByteArray := prog_12_method_15_code
def yX10_isWord : MethodName := ⟨RX10, "isWord", "(Ljava/lang/String;)Z"⟩
def RX11 : String := "MiddleAlgebras"
def TX11 : u_T := fun k => match k with
  | 0 => ("MiddleAlgebras", "tape", "[B", true)
  | 1 => ("MiddleAlgebras", "tapeSize", "I", false)
  | 2 => ("MiddleAlgebras", "reader", "LMiddleAlgebras$Reader;", true)
  | 3 => ("MiddleAlgebras", "book", "LMiddleAlgebras$Book;", false)
  | 4 => ("MiddleAlgebras", "spareBook", "LMiddleAlgebras$Book;", false)
  | 5 => ("MiddleAlgebras", "places", "LMiddleAlgebras$Places;", true)
  | 6 => ("MiddleAlgebras", "elements", "[LMiddleAlgebras$Element;", true)
  | 7 => ("MiddleAlgebras", "orders", "[LMiddleAlgebras$Order;", true)
  | 8 => ("MiddleAlgebras", "enlarger", "LMiddleAlgebras$Enlarger;", true)
  | 9 => ("MiddleAlgebras", "splitting", "LMiddleAlgebras$Splitting;", true)
  | 10 => ("MiddleAlgebras", "leftIdeal", "LMiddleAlgebras$LeftIdeal;", true)
  | _ => ("MiddleAlgebras", "result", "[J", true)
def tyX11 : Nat → FieldType := fun k => match k with
  | 0 => .array .byte
  | 1 => .int
  | 2 => .object "MiddleAlgebras$Reader"
  | 3 => .object "MiddleAlgebras$Book"
  | 4 => .object "MiddleAlgebras$Book"
  | 5 => .object "MiddleAlgebras$Places"
  | 6 => .array (.object "MiddleAlgebras$Element")
  | 7 => .array (.object "MiddleAlgebras$Order")
  | 8 => .object "MiddleAlgebras$Enlarger"
  | 9 => .object "MiddleAlgebras$Splitting"
  | 10 => .object "MiddleAlgebras$LeftIdeal"
  | _ => .array .long
theorem nmX11 : ∀ a, a < 12 → ∀ b, b < 12 → a ≠ b → (TX11 a).2.1 ≠ (TX11 b).2.1 := by decide +kernel
theorem tyX11_ok : ∀ k, k < 12 → parseFieldDescriptor (TX11 k).2.2.1 = some (tyX11 k) := by decide +kernel
abbrev cX11_init : ByteArray := prog_1_method_1_code
def yX11_init : MethodName := ⟨RX11, "<init>", "()V"⟩
abbrev cX11_feed : ByteArray := prog_1_method_2_code
def yX11_feed : MethodName := ⟨RX11, "feed", "(IIIII)I"⟩
abbrev cX11_putBytes : ByteArray := prog_1_method_3_code
def yX11_putBytes : MethodName := ⟨RX11, "putBytes", "(I)V"⟩
abbrev cX11_text : ByteArray := prog_1_method_4_code
def yX11_text : MethodName := ⟨RX11, "text", "(I)I"⟩
abbrev cX11_beginAnew : ByteArray := prog_1_method_5_code
def yX11_beginAnew : MethodName := ⟨RX11, "beginAnew", "()V"⟩
abbrev cX11_isTold : ByteArray := prog_1_method_7_code
def yX11_isTold : MethodName := ⟨RX11, "isTold", "(I)Z"⟩
abbrev cX11_isQuaternion : ByteArray := prog_1_method_8_code
def yX11_isQuaternion : MethodName := ⟨RX11, "isQuaternion", "(I)Z"⟩
abbrev cX11_local : ByteArray := prog_1_method_9_code
def yX11_local : MethodName := ⟨RX11, "local", "(II)I"⟩
abbrev cX11_place : ByteArray := prog_1_method_10_code
def yX11_place : MethodName := ⟨RX11, "place", "(II)I"⟩
abbrev cX11_index : ByteArray := prog_1_method_11_code
def yX11_index : MethodName := ⟨RX11, "index", "(I)I"⟩
abbrev cX11_alike : ByteArray := prog_1_method_12_code
def yX11_alike : MethodName := ⟨RX11, "alike", "(II)I"⟩
abbrev cX11_classes : ByteArray := prog_1_method_13_code
def yX11_classes : MethodName := ⟨RX11, "classes", "()I"⟩
abbrev cX11_solution : ByteArray := prog_1_method_28_code
def yX11_solution : MethodName := ⟨RX11, "solution", "(II)I"⟩
abbrev cX11_isSplit : ByteArray := prog_1_method_30_code
def yX11_isSplit : MethodName := ⟨RX11, "isSplit", "(I)Z"⟩
abbrev cX11_disc : ByteArray := prog_1_method_31_code
def yX11_disc : MethodName := ⟨RX11, "disc", "(I)I"⟩
def RX12 : String := "MiddleAlgebrasModel"
def TX12 : u_T := fun k => match k with
  | _ => ("", "", "", false)
def tyX12 : Nat → FieldType := fun k => match k with
  | _ => .int
theorem nmX12 : ∀ a, a < 0 → ∀ b, b < 0 → a ≠ b → (TX12 a).2.1 ≠ (TX12 b).2.1 := by decide +kernel
theorem tyX12_ok : ∀ k, k < 0 → parseFieldDescriptor (TX12 k).2.2.1 = some (tyX12 k) := by decide +kernel
def RJx145de : String := "java/io/Serializable"
def TJx145de : u_T := fun k => match k with
  | _ => ("", "", "", false)
def tyJx145de : Nat → FieldType := fun k => match k with
  | _ => .int
theorem nmJx145de : ∀ a, a < 0 → ∀ b, b < 0 → a ≠ b → (TJx145de a).2.1 ≠ (TJx145de b).2.1 := by decide +kernel
theorem tyJx145de_ok : ∀ k, k < 0 → parseFieldDescriptor (TJx145de k).2.2.1 = some (tyJx145de k) := by decide +kernel
def RJ5 : String := "java/lang/AbstractStringBuilder"
def TJ5 : u_T := fun k => match k with
  | _ => ("", "", "", false)
def tyJ5 : Nat → FieldType := fun k => match k with
  | _ => .int
theorem nmJ5 : ∀ a, a < 0 → ∀ b, b < 0 → a ≠ b → (TJ5 a).2.1 ≠ (TJ5 b).2.1 := by decide +kernel
theorem tyJ5_ok : ∀ k, k < 0 → parseFieldDescriptor (TJ5 k).2.2.1 = some (tyJ5 k) := by decide +kernel
abbrev cJ5_init_d00df : ByteArray := prog_15_method_2_code
def yJ5_init_d00df : MethodName := ⟨RJ5, "<init>", "(I)V"⟩
abbrev cJ5_length_8abf5 : ByteArray := prog_15_method_6_code
def yJ5_length_8abf5 : MethodName := ⟨RJ5, "length", "()I"⟩
abbrev cJ5_ensureCapacityInternal_d00df : ByteArray := prog_15_method_9_code
def yJ5_ensureCapacityInternal_d00df : MethodName := ⟨RJ5, "ensureCapacityInternal", "(I)V"⟩
abbrev cJ5_newCapacity_0f7a4 : ByteArray := prog_15_method_10_code
def yJ5_newCapacity_0f7a4 : MethodName := ⟨RJ5, "newCapacity", "(I)I"⟩
abbrev cJ5_inflate_da8c8 : ByteArray := prog_15_method_11_code
def yJ5_inflate_da8c8 : MethodName := ⟨RJ5, "inflate", "()V"⟩
abbrev cJ5_append_cf1ce : ByteArray := prog_15_method_22_code
def yJ5_append_cf1ce : MethodName := ⟨RJ5, "append", "(Ljava/lang/String;)Ljava/lang/AbstractStringBuilder;"⟩
abbrev cJ5_appendNull_278bc : ByteArray := prog_15_method_26_code
def yJ5_appendNull_278bc : MethodName := ⟨RJ5, "appendNull", "()Ljava/lang/AbstractStringBuilder;"⟩
abbrev cJ5_append_3fe6f : ByteArray := prog_15_method_31_code
def yJ5_append_3fe6f : MethodName := ⟨RJ5, "append", "(C)Ljava/lang/AbstractStringBuilder;"⟩
abbrev cJ5_append_c97b9 : ByteArray := prog_15_method_32_code
def yJ5_append_c97b9 : MethodName := ⟨RJ5, "append", "(I)Ljava/lang/AbstractStringBuilder;"⟩
abbrev cJ5_getValue_6d5f1 : ByteArray := prog_15_method_64_code
def yJ5_getValue_6d5f1 : MethodName := ⟨RJ5, "getValue", "()[B"⟩
abbrev cJ5_isLatin1_aae02 : ByteArray := prog_15_method_68_code
def yJ5_isLatin1_aae02 : MethodName := ⟨RJ5, "isLatin1", "()Z"⟩
abbrev cJ5_inflateIfNeededFor_a7421 : ByteArray := prog_15_method_71_code
def yJ5_inflateIfNeededFor_a7421 : MethodName := ⟨RJ5, "inflateIfNeededFor", "(Ljava/lang/String;)V"⟩
abbrev cJ5_putStringAt_47b60 : ByteArray := prog_15_method_73_code
def yJ5_putStringAt_47b60 : MethodName := ⟨RJ5, "putStringAt", "(ILjava/lang/String;)V"⟩
def RJx2cfe8 : String := "java/lang/Appendable"
def TJx2cfe8 : u_T := fun k => match k with
  | _ => ("", "", "", false)
def tyJx2cfe8 : Nat → FieldType := fun k => match k with
  | _ => .int
theorem nmJx2cfe8 : ∀ a, a < 0 → ∀ b, b < 0 → a ≠ b → (TJx2cfe8 a).2.1 ≠ (TJx2cfe8 b).2.1 := by decide +kernel
theorem tyJx2cfe8_ok : ∀ k, k < 0 → parseFieldDescriptor (TJx2cfe8 k).2.2.1 = some (tyJx2cfe8 k) := by decide +kernel
def RJx9f9b0 : String := "java/lang/CharSequence"
def TJx9f9b0 : u_T := fun k => match k with
  | _ => ("", "", "", false)
def tyJx9f9b0 : Nat → FieldType := fun k => match k with
  | _ => .int
theorem nmJx9f9b0 : ∀ a, a < 0 → ∀ b, b < 0 → a ≠ b → (TJx9f9b0 a).2.1 ≠ (TJx9f9b0 b).2.1 := by decide +kernel
theorem tyJx9f9b0_ok : ∀ k, k < 0 → parseFieldDescriptor (TJx9f9b0 k).2.2.1 = some (tyJx9f9b0 k) := by decide +kernel
def RJx8e188 : String := "java/lang/Cloneable"
def TJx8e188 : u_T := fun k => match k with
  | _ => ("", "", "", false)
def tyJx8e188 : Nat → FieldType := fun k => match k with
  | _ => .int
theorem nmJx8e188 : ∀ a, a < 0 → ∀ b, b < 0 → a ≠ b → (TJx8e188 a).2.1 ≠ (TJx8e188 b).2.1 := by decide +kernel
theorem tyJx8e188_ok : ∀ k, k < 0 → parseFieldDescriptor (TJx8e188 k).2.2.1 = some (tyJx8e188 k) := by decide +kernel
def RJxb160c : String := "java/lang/Comparable"
def TJxb160c : u_T := fun k => match k with
  | _ => ("", "", "", false)
def tyJxb160c : Nat → FieldType := fun k => match k with
  | _ => .int
theorem nmJxb160c : ∀ a, a < 0 → ∀ b, b < 0 → a ≠ b → (TJxb160c a).2.1 ≠ (TJxb160c b).2.1 := by decide +kernel
theorem tyJxb160c_ok : ∀ k, k < 0 → parseFieldDescriptor (TJxb160c k).2.2.1 = some (tyJxb160c k) := by decide +kernel
def RJ6 : String := "java/lang/Integer"
def TJ6 : u_T := fun k => match k with
  | _ => ("", "", "", false)
def tyJ6 : Nat → FieldType := fun k => match k with
  | _ => .int
theorem nmJ6 : ∀ a, a < 0 → ∀ b, b < 0 → a ≠ b → (TJ6 a).2.1 ≠ (TJ6 b).2.1 := by decide +kernel
theorem tyJ6_ok : ∀ k, k < 0 → parseFieldDescriptor (TJ6 k).2.2.1 = some (tyJ6 k) := by decide +kernel
abbrev cJ6_getChars_ba4f3 : ByteArray := prog_17_method_12_code
def yJ6_getChars_ba4f3 : MethodName := ⟨RJ6, "getChars", "(II[B)I"⟩
abbrev cJ6_stringSize_0f7a4 : ByteArray := prog_17_method_13_code
def yJ6_stringSize_0f7a4 : MethodName := ⟨RJ6, "stringSize", "(I)I"⟩
def RJ9 : String := "java/lang/Math"
def TJ9 : u_T := fun k => match k with
  | _ => ("", "", "", false)
def tyJ9 : Nat → FieldType := fun k => match k with
  | _ => .int
theorem nmJ9 : ∀ a, a < 0 → ∀ b, b < 0 → a ≠ b → (TJ9 a).2.1 ≠ (TJ9 b).2.1 := by decide +kernel
theorem tyJ9_ok : ∀ k, k < 0 → parseFieldDescriptor (TJ9 k).2.2.1 = some (tyJ9 k) := by decide +kernel
abbrev cJ9_floorDiv_f86c9 : ByteArray := prog_18_method_49_code
def yJ9_floorDiv_f86c9 : MethodName := ⟨RJ9, "floorDiv", "(JJ)J"⟩
abbrev cJ9_floorMod_f86c9 : ByteArray := prog_18_method_52_code
def yJ9_floorMod_f86c9 : MethodName := ⟨RJ9, "floorMod", "(JJ)J"⟩
abbrev cJ9_abs_0f7a4 : ByteArray := prog_18_method_59_code
def yJ9_abs_0f7a4 : MethodName := ⟨RJ9, "abs", "(I)I"⟩
abbrev cJ9_abs_067f4 : ByteArray := prog_18_method_61_code
def yJ9_abs_067f4 : MethodName := ⟨RJ9, "abs", "(J)J"⟩
abbrev cJ9_max_7cf53 : ByteArray := prog_18_method_65_code
def yJ9_max_7cf53 : MethodName := ⟨RJ9, "max", "(II)I"⟩
abbrev cJ9_min_7cf53 : ByteArray := prog_18_method_69_code
def yJ9_min_7cf53 : MethodName := ⟨RJ9, "min", "(II)I"⟩
abbrev cJ9_min_f86c9 : ByteArray := prog_18_method_70_code
def yJ9_min_f86c9 : MethodName := ⟨RJ9, "min", "(JJ)J"⟩
def RJxd2413 : String := "java/lang/Number"
def TJxd2413 : u_T := fun k => match k with
  | _ => ("", "", "", false)
def tyJxd2413 : Nat → FieldType := fun k => match k with
  | _ => .int
theorem nmJxd2413 : ∀ a, a < 0 → ∀ b, b < 0 → a ≠ b → (TJxd2413 a).2.1 ≠ (TJxd2413 b).2.1 := by decide +kernel
theorem tyJxd2413_ok : ∀ k, k < 0 → parseFieldDescriptor (TJxd2413 k).2.2.1 = some (tyJxd2413 k) := by decide +kernel
def RJ0 : String := "java/lang/String"
def TJ0 : u_T := fun k => match k with
  | 0 => ("java/lang/String", "value", "[B", true)
  | 1 => ("java/lang/String", "coder", "B", true)
  | 2 => ("java/lang/String", "hash", "I", false)
  | _ => ("java/lang/String", "hashIsZero", "Z", false)
def tyJ0 : Nat → FieldType := fun k => match k with
  | 0 => .array .byte
  | 1 => .byte
  | 2 => .int
  | _ => .boolean
theorem nmJ0 : ∀ a, a < 4 → ∀ b, b < 4 → a ≠ b → (TJ0 a).2.1 ≠ (TJ0 b).2.1 := by decide +kernel
theorem tyJ0_ok : ∀ k, k < 4 → parseFieldDescriptor (TJ0 k).2.2.1 = some (tyJ0 k) := by decide +kernel
abbrev cJ0_init_81219 : ByteArray := prog_20_method_53_code
def yJ0_init_81219 : MethodName := ⟨RJ0, "<init>", "(Ljava/lang/StringBuilder;)V"⟩
abbrev cJ0_length_8abf5 : ByteArray := prog_20_method_54_code
def yJ0_length_8abf5 : MethodName := ⟨RJ0, "length", "()I"⟩
abbrev cJ0_charAt_5068e : ByteArray := prog_20_method_56_code
def yJ0_charAt_5068e : MethodName := ⟨RJ0, "charAt", "(I)C"⟩
abbrev cJ0_getBytes_840e7 : ByteArray := prog_20_method_147_code
def yJ0_getBytes_840e7 : MethodName := ⟨RJ0, "getBytes", "([BIB)V"⟩
abbrev cJ0_init_db425 : ByteArray := prog_20_method_150_code
def yJ0_init_db425 : MethodName := ⟨RJ0, "<init>", "(Ljava/lang/AbstractStringBuilder;Ljava/lang/Void;)V"⟩
abbrev cJ0_coder_7d493 : ByteArray := prog_20_method_152_code
def yJ0_coder_7d493 : MethodName := ⟨RJ0, "coder", "()B"⟩
abbrev cJ0_isLatin1_aae02 : ByteArray := prog_20_method_154_code
def yJ0_isLatin1_aae02 : MethodName := ⟨RJ0, "isLatin1", "()Z"⟩
abbrev cJ0_checkIndex_df160 : ByteArray := prog_20_method_155_code
def yJ0_checkIndex_df160 : MethodName := ⟨RJ0, "checkIndex", "(II)V"⟩
abbrev cJ0_checkBoundsOffCount_cabcc : ByteArray := prog_20_method_157_code
def yJ0_checkBoundsOffCount_cabcc : MethodName := ⟨RJ0, "checkBoundsOffCount", "(III)I"⟩
abbrev cJ0_checkBoundsBeginEnd_23922 : ByteArray := prog_20_method_158_code
def yJ0_checkBoundsBeginEnd_23922 : MethodName := ⟨RJ0, "checkBoundsBeginEnd", "(III)V"⟩
def RJ4 : String := "java/lang/StringBuilder"
def TJ4 : u_T := fun k => match k with
  | 0 => ("java/lang/AbstractStringBuilder", "value", "[B", false)
  | 1 => ("java/lang/AbstractStringBuilder", "coder", "B", false)
  | 2 => ("java/lang/AbstractStringBuilder", "maybeLatin1", "Z", false)
  | _ => ("java/lang/AbstractStringBuilder", "count", "I", false)
def tyJ4 : Nat → FieldType := fun k => match k with
  | 0 => .array .byte
  | 1 => .byte
  | 2 => .boolean
  | _ => .int
theorem nmJ4 : ∀ a, a < 4 → ∀ b, b < 4 → a ≠ b → (TJ4 a).2.1 ≠ (TJ4 b).2.1 := by decide +kernel
theorem tyJ4_ok : ∀ k, k < 4 → parseFieldDescriptor (TJ4 k).2.2.1 = some (tyJ4 k) := by decide +kernel
abbrev cJ4_init_da8c8 : ByteArray := prog_21_method_1_code
def yJ4_init_da8c8 : MethodName := ⟨RJ4, "<init>", "()V"⟩
abbrev cJ4_append_15ec4 : ByteArray := prog_21_method_7_code
def yJ4_append_15ec4 : MethodName := ⟨RJ4, "append", "(Ljava/lang/String;)Ljava/lang/StringBuilder;"⟩
abbrev cJ4_append_cf468 : ByteArray := prog_21_method_14_code
def yJ4_append_cf468 : MethodName := ⟨RJ4, "append", "(C)Ljava/lang/StringBuilder;"⟩
abbrev cJ4_append_bf812 : ByteArray := prog_21_method_15_code
def yJ4_append_bf812 : MethodName := ⟨RJ4, "append", "(I)Ljava/lang/StringBuilder;"⟩
abbrev cJ4_toString_0e30d : ByteArray := prog_21_method_42_code
def yJ4_toString_0e30d : MethodName := ⟨RJ4, "toString", "()Ljava/lang/String;"⟩
abbrev cJ4_length_8abf5 : ByteArray := prog_21_method_93_code
def yJ4_length_8abf5 : MethodName := ⟨RJ4, "length", "()I"⟩
def RJ1 : String := "java/lang/StringLatin1"
def TJ1 : u_T := fun k => match k with
  | _ => ("", "", "", false)
def tyJ1 : Nat → FieldType := fun k => match k with
  | _ => .int
theorem nmJ1 : ∀ a, a < 0 → ∀ b, b < 0 → a ≠ b → (TJ1 a).2.1 ≠ (TJ1 b).2.1 := by decide +kernel
theorem tyJ1_ok : ∀ k, k < 0 → parseFieldDescriptor (TJ1 k).2.2.1 = some (tyJ1 k) := by decide +kernel
abbrev cJ1_charAt_3b067 : ByteArray := prog_22_method_2_code
def yJ1_charAt_3b067 : MethodName := ⟨RJ1, "charAt", "([BI)C"⟩
abbrev cJ1_canEncode_fc78d : ByteArray := prog_22_method_3_code
def yJ1_canEncode_fc78d : MethodName := ⟨RJ1, "canEncode", "(C)Z"⟩
abbrev cJ1_inflate_0e8fd : ByteArray := prog_22_method_50_code
def yJ1_inflate_0e8fd : MethodName := ⟨RJ1, "inflate", "([BI[BII)V"⟩
def RJ2 : String := "java/lang/StringUTF16"
def TJ2 : u_T := fun k => match k with
  | _ => ("", "", "", false)
def tyJ2 : Nat → FieldType := fun k => match k with
  | _ => .int
theorem nmJ2 : ∀ a, a < 0 → ∀ b, b < 0 → a ≠ b → (TJ2 a).2.1 ≠ (TJ2 b).2.1 := by decide +kernel
theorem tyJ2_ok : ∀ k, k < 0 → parseFieldDescriptor (TJ2 k).2.2.1 = some (tyJ2 k) := by decide +kernel
abbrev cJ2_newBytesFor_77867 : ByteArray := prog_23_method_2_code
def yJ2_newBytesFor_77867 : MethodName := ⟨RJ2, "newBytesFor", "(I)[B"⟩
abbrev cJ2_newBytesLength_0f7a4 : ByteArray := prog_23_method_3_code
def yJ2_newBytesLength_0f7a4 : MethodName := ⟨RJ2, "newBytesLength", "(I)I"⟩
abbrev cJ2_putChar_b72d1 : ByteArray := prog_23_method_4_code
def yJ2_putChar_b72d1 : MethodName := ⟨RJ2, "putChar", "([BII)V"⟩
abbrev cJ2_getChar_3b067 : ByteArray := prog_23_method_5_code
def yJ2_getChar_3b067 : MethodName := ⟨RJ2, "getChar", "([BI)C"⟩
abbrev cJ2_length_9d52b : ByteArray := prog_23_method_6_code
def yJ2_length_9d52b : MethodName := ⟨RJ2, "length", "([B)I"⟩
abbrev cJ2_coderFromArrayLen_85cad : ByteArray := prog_23_method_15_code
def yJ2_coderFromArrayLen_85cad : MethodName := ⟨RJ2, "coderFromArrayLen", "([BI)B"⟩
abbrev cJ2_compress_39247 : ByteArray := prog_23_method_17_code
def yJ2_compress_39247 : MethodName := ⟨RJ2, "compress", "([BII)[B"⟩
abbrev cJ2_compress_5af95 : ByteArray := prog_23_method_22_code
def yJ2_compress_5af95 : MethodName := ⟨RJ2, "compress", "([BI[BII)I"⟩
abbrev cJ2_putCharSB_b72d1 : ByteArray := prog_23_method_71_code
def yJ2_putCharSB_b72d1 : MethodName := ⟨RJ2, "putCharSB", "([BII)V"⟩
abbrev cJ2_getChars_46870 : ByteArray := prog_23_method_77_code
def yJ2_getChars_46870 : MethodName := ⟨RJ2, "getChars", "(III[B)I"⟩
abbrev cJ2_putCharsAt_cd4e5 : ByteArray := prog_23_method_81_code
def yJ2_putCharsAt_cd4e5 : MethodName := ⟨RJ2, "putCharsAt", "([BICCCC)I"⟩
abbrev cJ2_charAt_3b067 : ByteArray := prog_23_method_83_code
def yJ2_charAt_3b067 : MethodName := ⟨RJ2, "charAt", "([BI)C"⟩
abbrev cJ2_inflate_0e8fd : ByteArray := prog_23_method_86_code
def yJ2_inflate_0e8fd : MethodName := ⟨RJ2, "inflate", "([BI[BII)V"⟩
abbrev cJ2_getChars_ba4f3 : ByteArray := prog_23_method_89_code
def yJ2_getChars_ba4f3 : MethodName := ⟨RJ2, "getChars", "(II[B)I"⟩
abbrev cJ2_checkIndex_2214a : ByteArray := prog_23_method_91_code
def yJ2_checkIndex_2214a : MethodName := ⟨RJ2, "checkIndex", "(I[B)V"⟩
abbrev cJ2_checkBoundsBeginEnd_d044e : ByteArray := prog_23_method_93_code
def yJ2_checkBoundsBeginEnd_d044e : MethodName := ⟨RJ2, "checkBoundsBeginEnd", "(II[B)V"⟩
abbrev cJ2_checkBoundsOffCount_d044e : ByteArray := prog_23_method_94_code
def yJ2_checkBoundsOffCount_d044e : MethodName := ⟨RJ2, "checkBoundsOffCount", "(II[B)V"⟩
def RJ10 : String := "java/lang/System"
def TJ10 : u_T := fun k => match k with
  | _ => ("", "", "", false)
def tyJ10 : Nat → FieldType := fun k => match k with
  | _ => .int
theorem nmJ10 : ∀ a, a < 0 → ∀ b, b < 0 → a ≠ b → (TJ10 a).2.1 ≠ (TJ10 b).2.1 := by decide +kernel
theorem tyJ10_ok : ∀ k, k < 0 → parseFieldDescriptor (TJ10 k).2.2.1 = some (tyJ10 k) := by decide +kernel
def RJxfd54e : String := "java/lang/constant/Constable"
def TJxfd54e : u_T := fun k => match k with
  | _ => ("", "", "", false)
def tyJxfd54e : Nat → FieldType := fun k => match k with
  | _ => .int
theorem nmJxfd54e : ∀ a, a < 0 → ∀ b, b < 0 → a ≠ b → (TJxfd54e a).2.1 ≠ (TJxfd54e b).2.1 := by decide +kernel
theorem tyJxfd54e_ok : ∀ k, k < 0 → parseFieldDescriptor (TJxfd54e k).2.2.1 = some (tyJxfd54e k) := by decide +kernel
def RJx3cf43 : String := "java/lang/constant/ConstantDesc"
def TJx3cf43 : u_T := fun k => match k with
  | _ => ("", "", "", false)
def tyJx3cf43 : Nat → FieldType := fun k => match k with
  | _ => .int
theorem nmJx3cf43 : ∀ a, a < 0 → ∀ b, b < 0 → a ≠ b → (TJx3cf43 a).2.1 ≠ (TJx3cf43 b).2.1 := by decide +kernel
theorem tyJx3cf43_ok : ∀ k, k < 0 → parseFieldDescriptor (TJx3cf43 k).2.2.1 = some (tyJx3cf43 k) := by decide +kernel
def RJ7 : String := "java/util/Arrays"
def TJ7 : u_T := fun k => match k with
  | _ => ("", "", "", false)
def tyJ7 : Nat → FieldType := fun k => match k with
  | _ => .int
theorem nmJ7 : ∀ a, a < 0 → ∀ b, b < 0 → a ≠ b → (TJ7 a).2.1 ≠ (TJ7 b).2.1 := by decide +kernel
theorem tyJ7_ok : ∀ k, k < 0 → parseFieldDescriptor (TJ7 k).2.2.1 = some (tyJ7 k) := by decide +kernel
abbrev cJ7_copyOf_9075b : ByteArray := prog_25_method_121_code
def yJ7_copyOf_9075b : MethodName := ⟨RJ7, "copyOf", "([BI)[B"⟩
abbrev cJ7_checkLength_df160 : ByteArray := prog_25_method_131_code
def yJ7_checkLength_df160 : MethodName := ⟨RJ7, "checkLength", "(II)V"⟩
abbrev cJ7_copyOfRange_39247 : ByteArray := prog_25_method_132_code
def yJ7_copyOfRange_39247 : MethodName := ⟨RJ7, "copyOfRange", "([BII)[B"⟩
abbrev cJ7_copyOfRangeByte_39247 : ByteArray := prog_25_method_133_code
def yJ7_copyOfRangeByte_39247 : MethodName := ⟨RJ7, "copyOfRangeByte", "([BII)[B"⟩
def RJ8 : String := "jdk/internal/util/ArraysSupport"
def TJ8 : u_T := fun k => match k with
  | _ => ("", "", "", false)
def tyJ8 : Nat → FieldType := fun k => match k with
  | _ => .int
theorem nmJ8 : ∀ a, a < 0 → ∀ b, b < 0 → a ≠ b → (TJ8 a).2.1 ≠ (TJ8 b).2.1 := by decide +kernel
theorem tyJ8_ok : ∀ k, k < 0 → parseFieldDescriptor (TJ8 k).2.2.1 = some (tyJ8 k) := by decide +kernel
abbrev cJ8_newLength_cabcc : ByteArray := prog_26_method_27_code
def yJ8_newLength_cabcc : MethodName := ⟨RJ8, "newLength", "(III)I"⟩
abbrev cJ8_hugeLength_7cf53 : ByteArray := prog_26_method_28_code
def yJ8_hugeLength_7cf53 : MethodName := ⟨RJ8, "hugeLength", "(II)I"⟩
def RJ3 : String := "jdk/internal/util/Preconditions"
def TJ3 : u_T := fun k => match k with
  | _ => ("", "", "", false)
def tyJ3 : Nat → FieldType := fun k => match k with
  | _ => .int
theorem nmJ3 : ∀ a, a < 0 → ∀ b, b < 0 → a ≠ b → (TJ3 a).2.1 ≠ (TJ3 b).2.1 := by decide +kernel
theorem tyJ3_ok : ∀ k, k < 0 → parseFieldDescriptor (TJ3 k).2.2.1 = some (tyJ3 k) := by decide +kernel
abbrev cJ3_checkIndex_8e157 : ByteArray := prog_27_method_11_code
def yJ3_checkIndex_8e157 : MethodName := ⟨RJ3, "checkIndex", "(IILjava/util/function/BiFunction;)I"⟩
abbrev cJ3_checkFromToIndex_8c36e : ByteArray := prog_27_method_12_code
def yJ3_checkFromToIndex_8c36e : MethodName := ⟨RJ3, "checkFromToIndex", "(IIILjava/util/function/BiFunction;)I"⟩
abbrev cJ3_checkFromIndexSize_8c36e : ByteArray := prog_27_method_13_code
def yJ3_checkFromIndexSize_8c36e : MethodName := ⟨RJ3, "checkFromIndexSize", "(IIILjava/util/function/BiFunction;)I"⟩
def RL : String := "MiddleAlgebrasLaw"
abbrev cL_cell : ByteArray := method_2_code
def yL_cell : MethodName := ⟨RL, "cell", "([II)I"⟩
abbrev cL_some : ByteArray := method_3_code
def yL_some : MethodName := ⟨RL, "some", "([III)I"⟩
abbrev cL_feeds : ByteArray := method_4_code
def yL_feeds : MethodName := ⟨RL, "feeds", "(LMiddleAlgebras;Ljava/lang/String;)I"⟩
abbrev cL_hasSquare : ByteArray := method_5_code
def yL_hasSquare : MethodName := ⟨RL, "hasSquare", "(I)Z"⟩
abbrev cL_free : ByteArray := method_6_code
def yL_free : MethodName := ⟨RL, "free", "([III)I"⟩
abbrev cL_law : ByteArray := code
def yL_law : MethodName := ⟨RL, "law", "([I)Z"⟩
abbrev cL_isWhole : ByteArray := method_8_code
def yL_isWhole : MethodName := ⟨RL, "isWhole", "(LMiddleAlgebras;I)Z"⟩
abbrev cL_isSolved : ByteArray := method_9_code
def yL_isSolved : MethodName := ⟨RL, "isSolved", "(LMiddleAlgebras;III)Z"⟩
abbrev vwCl : List vw_C := [(RX0, TX0, 8), (RX1, TX1, 3), (RX2, TX2, 7), (RX3, TX3, 3), (RX4, TX4, 3), (RX6, TX6, 4), (RX7, TX7, 4), (RX8, TX8, 4), (RX9, TX9, 5), (RX10, TX10, 5), (RX11, TX11, 12), (RJ0, TJ0, 4), (RJ4, TJ4, 4)]
end
section
/-! THE WORLD OF THE WHOLE SYSTEM: objects are numbered in the order of their making; a store gives each slot of each object a whole number (references: 0 is null, else the number of an object). -/
def mOK : Cond → Bool
  | .fieldLinkNest _ _ _ _ _ _ => true
  | .methodLinkNest _ _ _ _ => true
  | .arrayOver _ => true
  | .declares _ => true
  | .castable _ _ => true
  | w => goodWord w
theorem ov_same {t : FieldType} {args a' : Array Value} {u U : State} (h : u.vm = U.vm) (hz : (Cond.arrayOver t).before args u = true) : (Cond.arrayOver t).before a' U = true := by
  unfold Cond.before Cond.holds at hz ⊢
  simp only [Cond.value] at hz ⊢
  rw [← h]
  exact hz
theorem ov_ride {t : FieldType} {args a' : Array Value} {s U : State} (hW : s.WarmedH U.vm) (h : (Cond.arrayOver t).before args s = true) : (Cond.arrayOver t).before a' U = true :=
  ov_same (u := s.setVm U.vm) (args := args) rfl (by rw [Cond.arrayOver_setVmC hW.alike]; exact h)
theorem mOK_ride {w : Cond} (hw : mOK w = true) {args a' : Array Value} {s U : State} (hW : s.WarmedH U.vm) (h : w.before args s = true) : w.before a' U = true := by
  unfold mOK at hw
  split at hw
  · exact va_Nw.use rfl (va_Nw.warmF hW (va_Nw.of rfl h))
  · exact va_Nw.use rfl (va_Nw.warmM hW (va_Nw.of rfl h))
  · exact ov_ride hW h
  · exact va_Nw.use rfl (va_Nw.warmD hW (va_Nw.of rfl h))
  · exact va_Nw.use rfl (va_Nw.warmC hW (va_Nw.of rfl h))
  · exact word_at hW (good_of_word hw) h
def mTs : List Cond := lw_tbl.filter mOK
theorem mTs_in {w : Cond} (i : Nat) (h : lw_tbl[i]? = some w) (h2 : mOK w = true) : w ∈ mTs := List.mem_filter.mpr ⟨List.mem_of_getElem? h, h2⟩
def mWords (U : State) : Prop := ∀ w ∈ mTs, w.before #[] U = true
theorem mWords.ride {s U : State} {args : Array Value} (hW : s.WarmedH U.vm) (h : ∀ w ∈ mTs, w.before args s = true) : mWords U :=
  fun w hw => mOK_ride (List.mem_filter.mp hw).2 hW (h w hw)
theorem mWords.use {s : State} {args : Array Value} (h : mWords s) : ∀ w ∈ mTs, w.before args s = true :=
  fun w hw => mOK_ride (List.mem_filter.mp hw).2 (State.WarmedH.refl s) (h w hw)
/-- kind and length of each object: 0 to 11 classes, 20 int[], 21 long[], 22 byte[], 23 to 27 rows of references -/
def shpL : List (Nat × Nat) := [(10, 0), (22, 600), (7, 0), (9, 0), (22, 0), (0, 0), (20, 8), (20, 8), (20, 8), (20, 8), (25, 8), (22, 10), (22, 10), (22, 10), (22, 10), (22, 10), (22, 10), (22, 10), (22, 10), (26, 8), (20, 4), (20, 4), (20, 4), (20, 4), (20, 4), (20, 4), (20, 4), (20, 4), (26, 8), (20, 4), (20, 4), (20, 4), (20, 4), (20, 4), (20, 4), (20, 4), (20, 4), (0, 0), (20, 8), (20, 8), (20, 8), (20, 8), (25, 8), (22, 10), (22, 10), (22, 10), (22, 10), (22, 10), (22, 10), (22, 10), (22, 10), (26, 8), (20, 4), (20, 4), (20, 4), (20, 4), (20, 4), (20, 4), (20, 4), (20, 4), (26, 8), (20, 4), (20, 4), (20, 4), (20, 4), (20, 4), (20, 4), (20, 4), (20, 4), (0, 0), (20, 8), (20, 8), (20, 8), (20, 8), (25, 8), (22, 10), (22, 10), (22, 10), (22, 10), (22, 10), (22, 10), (22, 10), (22, 10), (26, 8), (20, 4), (20, 4), (20, 4), (20, 4), (20, 4), (20, 4), (20, 4), (20, 4), (26, 8), (20, 4), (20, 4), (20, 4), (20, 4), (20, 4), (20, 4), (20, 4), (20, 4), (6, 0), (20, 64), (26, 8), (20, 64), (20, 64), (20, 64), (20, 64), (20, 64), (20, 64), (20, 64), (20, 64), (23, 8), (24, 8), (2, 0), (5, 0), (3, 0), (27, 4), (21, 4), (21, 4), (21, 4), (21, 4), (21, 4), (21, 4), (3, 0), (27, 4), (21, 4), (21, 4), (21, 4), (21, 4), (21, 4), (3, 0), (27, 4), (21, 4), (21, 4), (21, 4), (21, 4), (21, 4), (27, 5), (21, 4), (21, 4), (21, 4), (21, 4), (21, 4), (21, 4), (8, 0), (4, 0), (5, 0), (3, 0), (27, 4), (21, 4), (21, 4), (21, 4), (21, 4), (21, 4), (21, 4), (3, 0), (27, 4), (21, 4), (21, 4), (21, 4), (21, 4), (21, 4), (21, 4), (21, 4), (1, 0), (21, 4), (1, 0), (21, 4), (1, 0), (21, 4), (1, 0), (21, 4), (1, 0), (21, 4), (1, 0), (21, 4), (1, 0), (21, 4), (1, 0), (21, 4), (5, 0), (3, 0), (27, 4), (21, 4), (21, 4), (21, 4), (21, 4), (21, 4), (21, 4), (5, 0), (3, 0), (27, 4), (21, 4), (21, 4), (21, 4), (21, 4), (21, 4), (21, 4), (5, 0), (3, 0), (27, 4), (21, 4), (21, 4), (21, 4), (21, 4), (21, 4), (21, 4), (5, 0), (3, 0), (27, 4), (21, 4), (21, 4), (21, 4), (21, 4), (21, 4), (21, 4), (5, 0), (3, 0), (27, 4), (21, 4), (21, 4), (21, 4), (21, 4), (21, 4), (21, 4), (5, 0), (3, 0), (27, 4), (21, 4), (21, 4), (21, 4), (21, 4), (21, 4), (21, 4), (5, 0), (3, 0), (27, 4), (21, 4), (21, 4), (21, 4), (21, 4), (21, 4), (21, 4), (5, 0), (3, 0), (27, 4), (21, 4), (21, 4), (21, 4), (21, 4), (21, 4), (21, 4), (20, 6), (20, 3), (20, 3), (20, 5)]
def shp (i : Nat) : Nat × Nat := shpL.getD i (99, 0)
/-- what the fields of a class are: 0 int, 1 long, 2 reference -/
def mFt : Nat → List Nat
  | 0 => [0, 2, 2, 2, 2, 2, 2, 2]
  | 1 => [2, 1, 0]
  | 2 => [2, 0, 1, 2, 2, 2, 2]
  | 3 => [2, 2, 1]
  | 4 => [2, 2, 2]
  | 5 => [1, 1, 2, 2]
  | 6 => [0, 0, 2, 2]
  | 7 => [2, 2, 0, 1]
  | 8 => [1, 1, 1, 1, 1]
  | 9 => [2, 0, 0, 0, 0]
  | 10 => [2, 0, 2, 2, 2, 2, 2, 2, 2, 2, 2, 2]
  | _ => []
abbrev mE : Type := (va_G × (Nat → ClassId)) × (Nat → Nat) × (Nat → Nat) × (Nat → Nat)
abbrev eD (E : mE) : va_G := E.1.1
abbrev eT (E : mE) : Nat → ClassId := E.1.2
abbrev eA (E : mE) : Nat → Nat := E.2.1
abbrev eK (E : mE) : Nat → Nat := E.2.2.1
abbrev eV (E : mE) : Nat → Nat := E.2.2.2
abbrev mSt : Type := Nat → Nat → Int
def vI (x : Int) : Value := .int (Int32.ofInt x)
def vL (x : Int) : Value := .long (Int64.ofInt x)
def mRf (E : mE) (x : Int) : Option Nat := if x = 0 then none else some (eA E x.toNat)
def mV (E : mE) (t : Nat) (x : Int) : Value := match t with
  | 0 => vI x
  | 1 => vL x
  | _ => va_rf (mRf E x)
def mFs (E : mE) (f : Nat → Int) : List Nat → Nat → List Value
  | [], _ => []
  | t :: ts, k => mV E t (f k) :: mFs E f ts (k + 1)
def mEnt (E : mE) (f : Nat → Int) (i : Nat) : va_E :=
  if (shp i).1 < 12 then .inr ((shp i).1, mFs E f (mFt (shp i).1) 0)
  else if (shp i).1 = 20 then .inl (eT E 0, (shp i).2, .inl (fun j => Int32.ofInt (f j)))
  else if (shp i).1 = 21 then .inl (eT E 1, (shp i).2, .inr (.inl (fun j => Int64.ofInt (f j))))
  else if (shp i).1 = 22 then .inl (eT E 2, (shp i).2, .inl (fun j => Int32.ofInt (f j)))
  else .inl (eT E ((shp i).1 - 20), (shp i).2, .inr (.inr (.inr (.inr (fun j => mRf E (f j))))))
def wl (E : mE) (N : Nat) (σ : mSt) : va_W := (List.range N).map (fun i => (eA E i, mEnt E (σ i) i))
def mTys (E : mE) : List (ClassId × FieldType) := [(eT E 0, .int), (eT E 1, .long), (eT E 2, .byte), (eT E 3, .object "MiddleAlgebras$Element"), (eT E 4, .object "MiddleAlgebras$Order"), (eT E 5, .array .byte), (eT E 6, .array .int), (eT E 7, .array .long), (eT E 8, .object "java/lang/String")]
def mA (E : mE) (N : Nat) : Nat → Prop := fun a => ∃ i, i < N ∧ a = eA E i
/-- a slot takes a number -/
def upS (σ : mSt) (i k : Nat) (v : Int) : mSt := fun a b => if a = i ∧ b = k then v else σ a b
theorem upS_same (σ : mSt) (i k : Nat) (v : Int) : upS σ i k v i k = v := by simp [upS]
theorem upS_row {σ : mSt} {i k : Nat} {v : Int} {j : Nat} (h : j ≠ i) : upS σ i k v j = σ j := by
  funext b; simp [upS, h]
theorem wl_get {E : mE} {N : Nat} {σ : mSt} {i : Nat} (h : i < N) : (wl E N σ)[i]? = some (eA E i, mEnt E (σ i) i) := by
  simp [wl, List.getElem?_map, List.getElem?_range h]
theorem wl_at {E : mE} {N : Nat} {σ : mSt} {i : Nat} {q : Nat × va_E} (h : (wl E N σ)[i]? = some q) : i < N ∧ q = (eA E i, mEnt E (σ i) i) := by
  have hi : i < N := by
    have := (List.getElem?_eq_some_iff.mp h).1
    simpa [wl] using this
  exact ⟨hi, (Option.some.inj (h.symm.trans (wl_get hi)))⟩
theorem wl_set {E : mE} {N : Nat} {σ σ' : mSt} {i : Nat} {e : va_E} (hi : i < N) (he : e = mEnt E (σ' i) i) (ho : ∀ j, j ≠ i → σ' j = σ j) : (wl E N σ).set i (eA E i, e) = wl E N σ' := by
  subst he
  apply List.ext_getElem?
  intro j
  by_cases hj : j = i
  · subst hj
    rw [List.getElem?_set_self (by simpa [wl] using hi), wl_get hi]
  · rw [List.getElem?_set_ne (Ne.symm hj)]
    by_cases hN : j < N
    · rw [wl_get hN, wl_get hN, ho j hj]
    · rw [List.getElem?_eq_none (by simpa [wl] using hN), List.getElem?_eq_none (by simpa [wl] using hN)]
theorem wl_A {E : mE} {N : Nat} {σ : mSt} {A : Nat → Prop} (hD : va_D A (wl E N σ)) : ∀ q, mA E N q → A q := by
  rintro q ⟨i, hi, rfl⟩
  exact hD.2 i _ (wl_get hi)
theorem wl_D {E : mE} {N : Nat} {σ σ' : mSt} {A B : Nat → Prop} (hD : va_D A (wl E N σ)) (hB : ∀ i, i < N → B (eA E i)) : va_D B (wl E N σ') := by
  refine ⟨fun i j p q hi hj hpq => ?_, fun k q hk => ?_⟩
  · obtain ⟨h1, rfl⟩ := wl_at hi
    obtain ⟨h2, rfl⟩ := wl_at hj
    exact hD.1 i j _ _ (wl_get h1) (wl_get h2) hpq
  · obtain ⟨h1, rfl⟩ := wl_at hk
    exact hB k h1
theorem mFs_get {E : mE} {f : Nat → Int} : ∀ (ts : List Nat) (k0 j t : Nat), ts[j]? = some t → (mFs E f ts k0)[j]? = some (mV E t (f (k0 + j)))
  | [], _, j, _, h => by simp at h
  | t0 :: ts, k0, 0, t, h => by
    simp at h
    subst h
    rfl
  | t0 :: ts, k0, j + 1, t, h => by
    have := mFs_get (E := E) (f := f) ts (k0 + 1) j t (by simpa using h)
    simp only [mFs, List.getElem?_cons_succ]
    rw [this]
    congr 3
    omega
theorem mFs_len {E : mE} {f : Nat → Int} : ∀ (ts : List Nat) (k0 : Nat), (mFs E f ts k0).length = ts.length
  | [], _ => rfl
  | _ :: ts, k0 => by simp [mFs, mFs_len ts (k0 + 1)]
theorem mFs_ext {E : mE} {f g : Nat → Int} : ∀ (ts : List Nat) (k0 : Nat), (∀ j, k0 ≤ j → f j = g j) → mFs E f ts k0 = mFs E g ts k0
  | [], _, _ => rfl
  | t :: ts, k0, h => by
    simp only [mFs]
    rw [h k0 (Nat.le_refl _), mFs_ext ts (k0 + 1) (fun j hj => h j (by omega))]
theorem mFs_set {E : mE} {f g : Nat → Int} : ∀ (ts : List Nat) (k0 j t : Nat), ts[j]? = some t → (∀ b, b ≠ k0 + j → g b = f b) → (mFs E f ts k0).set j (mV E t (g (k0 + j))) = mFs E g ts k0
  | [], _, j, _, h, _ => by simp at h
  | t0 :: ts, k0, 0, t, h, hg => by
    simp at h
    subst h
    simp only [mFs, List.set_cons_zero, Nat.add_zero]
    rw [mFs_ext ts (k0 + 1) (fun b hb => (hg b (by omega)).symm)]
  | t0 :: ts, k0, j + 1, t, h, hg => by
    simp only [mFs, List.set_cons_succ]
    rw [hg k0 (by omega)]
    congr 1
    have := mFs_set (E := E) (f := f) (g := g) ts (k0 + 1) j t (by simpa using h) (fun b hb => hg b (by omega))
    rw [show k0 + (j + 1) = k0 + 1 + j by omega]
    exact this
theorem mEnt_obj {E : mE} {f : Nat → Int} {i ci : Nat} (h : (shp i).1 = ci) (h2 : ci < 12) : mEnt E f i = .inr (ci, mFs E f (mFt ci) 0) := by
  subst h
  simp [mEnt, h2]
theorem mEnt_int {E : mE} {f : Nat → Int} {i : Nat} (h : (shp i).1 = 20) : mEnt E f i = .inl (eT E 0, (shp i).2, .inl (fun j => Int32.ofInt (f j))) := by simp [mEnt, h]
theorem mEnt_long {E : mE} {f : Nat → Int} {i : Nat} (h : (shp i).1 = 21) : mEnt E f i = .inl (eT E 1, (shp i).2, .inr (.inl (fun j => Int64.ofInt (f j)))) := by simp [mEnt, h]
theorem mEnt_byte {E : mE} {f : Nat → Int} {i : Nat} (h : (shp i).1 = 22) : mEnt E f i = .inl (eT E 2, (shp i).2, .inl (fun j => Int32.ofInt (f j))) := by simp [mEnt, h]
theorem mEnt_refs {E : mE} {f : Nat → Int} {i t : Nat} (h : (shp i).1 = 20 + t) (h2 : 3 ≤ t) : mEnt E f i = .inl (eT E t, (shp i).2, .inr (.inr (.inr (.inr (fun j => mRf E (f j)))))) := by
  unfold mEnt
  rw [h, if_neg (by omega), if_neg (by omega), if_neg (by omega), if_neg (by omega)]
  rw [show 20 + t - 20 = t by omega]
/-! texts, and the one static -/
def mXLen : List Nat := [10, 6, 3, 0, 12, 1, 1, 8, 1, 2, 2, 2, 2, 2, 6, 3, 3]
def mXByt : List (List Int32) := [[113, 117, 97, 116, 101, 114, 110, 105, 111, 110], [99, 121, 99, 108, 105, 99], [115, 117, 109], [], [113, 117, 97, 116, 101, 114, 110, 105, 111, 110, 32, 113], [32], [59], [99, 121, 99, 108, 105, 99, 32, 99], [45], [113, 97], [113, 98], [113, 99], [99, 97], [99, 98], [115, 117, 109, 32, 115, 97], [32, 43, 32], [32, 45, 32]]
def mXTx : List String := ["quaternion", "cyclic", "sum", "", "quaternion q", " ", ";", "cyclic c", "-", "qa", "qb", "qc", "ca", "cb", "sum sa", " + ", " - "]
def mXIt : List Nat := [58, 64, 66]
def mXIl : List Nat := [44, 56, 61, 66, 72, 74, 76, 78, 80, 82, 84, 86, 88, 90]
def mX (B : Nat → Prop) (E : mE) (U : State) (H : Heap) : Prop :=
  vk_S 17 mXLen mXByt (eK E) (eV E) B U H ∧ (∀ i, i < 3 → vk_R "MiddleAlgebras$Tokens" (mXIt.getD i 0) (mXTx.getD i "") (eK E i) U) ∧ va_Z "java/lang/String" "COMPACT_STRINGS" "Z" (.int 1) B U H ∧ va_Zq "jdk/internal/util/Preconditions" "SIOOBE_FORMATTER" "Ljava/util/function/BiFunction;" B U H ∧ (∀ i, i < 14 → vk_R "MiddleAlgebrasLaw" (mXIl.getD i 0) (mXTx.getD (3 + i) "") (eK E (3 + i)) U) ∧ (va_Z "java/lang/Integer" "DigitOnes" "[B" (.ref (eV E 20)) B U H ∧ va_T .byte (eV E 20) 100 (fun j => .int (Int32.ofNat (48 + j % 10))) B U H) ∧ va_Z "java/lang/Integer" "DigitTens" "[B" (.ref (eV E 21)) B U H ∧ va_T .byte (eV E 21) 100 (fun j => .int (Int32.ofNat (48 + j / 10))) B U H
theorem mX.ride {A B : Nat → Prop} {E : mE} {s U : State} {H H' : Heap} (h : mX A E s H) (hW : s.WarmedH U.vm) (hH : ∀ a : Nat, a < H.size → ¬ A a → H'[a]? = H[a]?) (hAB : ∀ q, B q → A q) : mX B E U H' :=
  ⟨((h.1.kept hH).narrow hAB).moved hW.alike, fun i hi => (h.2.1 i hi).warm hW, ((h.2.2.1.kept hH).narrow hAB).moved hW.alike, ((h.2.2.2.1.kept hH).narrow hAB).moved hW.alike, fun i hi => (h.2.2.2.2.1 i hi).warm hW, ⟨((h.2.2.2.2.2.1.1.kept hH).narrow hAB).moved hW.alike, va_T.moved hW.alike ((h.2.2.2.2.2.1.2.kept hH).narrow hAB)⟩, ((h.2.2.2.2.2.2.1.kept hH).narrow hAB).moved hW.alike, va_T.moved hW.alike ((h.2.2.2.2.2.2.2.kept hH).narrow hAB)⟩
/-! the state in a walk; a method's start and end -/
def mM (A : Nat → Prop) (E : mE) (N : Nat) (σ : mSt) (s : State) (H : Heap) (locs : List Loc) : Prop :=
  mWords s ∧ va_K (eD E) vwCl (mTys E) s ∧ mX A E s s.heap ∧ va_P (eD E) vwCl (wl E N σ) H ∧ va_D A (wl E N σ) ∧ va_S A s.heap H locs
def mPre (E : mE) (N : Nat) (σ : mSt) (U : State) : Prop :=
  mWords U ∧ va_K (eD E) vwCl (mTys E) U ∧ mX (mA E N) E U U.heap ∧ va_P (eD E) vwCl (wl E N σ) U.heap ∧ va_D (mA E N) (wl E N σ)
def mQ (E : mE) (N : Nat) (v : Option Value) (σ : mSt) : Array Value → State → Outcome → State → Prop := fun _ st oc t =>
  oc = .returned v ∧ va_P (eD E) vwCl (wl E N σ) t.heap ∧ va_F (mA E N) st t
def mMet (l : Launch) (y : MethodName) (cc : ByteArray) (maxL : Nat) (ret : Option FieldType) (fr lo : Nat) (E : mE) (N : Nat) (As : List Value) (σ : mSt) (v : Option Value) (σ' : mSt) : Prop :=
  Met l y [.code y cc maxL ret] ({ frames := fr, cells := 0, slots := 0, locals := lo } : Room) (va_Pc As (mPre E N σ)) (mQ E N v σ') 0 0 (mA E N)
theorem mPre.blind {E : mE} {N : Nat} {σ : mSt} {As : List Value} : FrameBlind (va_Pc As (mPre E N σ)) := by
  rintro a U g mk ⟨h0, h1, h2, h3, h4, h5⟩
  have hW : U.WarmedH (U.calling g mk a).vm := State.WarmedH.refl U
  exact ⟨h0, mWords.ride hW (mWords.use (args := #[]) h1), va_K.moved (U := U.calling g mk a) hW.alike h2, h3.ride (U := U.calling g mk a) hW (fun _ _ _ => rfl) (fun _ h => h), h4, h5⟩
theorem mM.pre {A : Nat → Prop} {E : mE} {N : Nat} {σ : mSt} {s U : State} {H : Heap} {locs : List Loc} (h : mM A E N σ s H locs) (hU : U.heap = H) (hW : s.WarmedH U.vm) : mPre E N σ U := by
  obtain ⟨h1, h2, h3, h4, h5, h6⟩ := h
  subst hU
  exact ⟨mWords.ride hW (mWords.use (args := #[]) h1), va_K.moved hW.alike h2, h3.ride hW (fun a ha hn => h6.2.1 a ha hn) (wl_A h5), h4, wl_D h5 (fun i hi => ⟨i, hi, rfl⟩)⟩
theorem mTs_ins (ws : List Cond) (ps : List Nat) (hp : ws = ps.filterMap (fun i => lw_tbl[i]?)) (h : ws.all mOK = true) : ∀ w ∈ ws, w ∈ mTs := by
  intro w hw
  have h1 := List.all_eq_true.mp h w hw
  rw [hp] at hw
  obtain ⟨i, -, hi⟩ := List.mem_filterMap.mp hw
  exact mTs_in i hi h1
end
section
/-! ROWS OF THE WALK: numbers as whole numbers; wI, wL: what a number is as an int, as a long -/
def wI (x : Int) : Int := (Int32.ofInt x).toInt
def wL (x : Int) : Int := (Int64.ofInt x).toInt
def wB (x : Int) : Int := (Int8.ofInt x).toInt
theorem wI_eq {x : Int} (h1 : -2147483648 ≤ x) (h2 : x < 2147483648) : wI x = x := by
  unfold wI
  rw [Int32.toInt_ofInt_of_le (by omega) (by omega)]
theorem wL_eq {x : Int} (h1 : -9223372036854775808 ≤ x) (h2 : x < 9223372036854775808) : wL x = x := by
  unfold wL
  rw [Int64.toInt_ofInt_of_le (by omega) (by omega)]
theorem wB_eq {x : Int} (h1 : -128 ≤ x) (h2 : x < 128) : wB x = x := by
  unfold wB
  rw [Int8.toInt_ofInt_of_le (by omega) (by omega)]
theorem vI_w {x : Int} {z : Int32} (h : z.toInt = wI x) : (Value.int z) = vI x := by
  unfold vI
  congr 1
  exact Int32.toInt_inj.mp h
theorem wI_toInt (z : Int32) : wI z.toInt = z.toInt := by
  unfold wI
  rw [Int32.ofInt_toInt]
theorem wL_toInt (z : Int64) : wL z.toInt = z.toInt := by
  unfold wL
  rw [Int64.ofInt_toInt]
theorem vL_w {x : Int} {z : Int64} (h : z.toInt = wL x) : (Value.long z) = vL x := by
  unfold vL
  congr 1
  exact Int64.toInt_inj.mp h
theorem ofI_w (x : Int) : Int32.ofInt (wI x) = Int32.ofInt x := Int32.ofInt_toInt _
theorem ofL_w (x : Int) : Int64.ofInt (wL x) = Int64.ofInt x := Int64.ofInt_toInt _
theorem i32_of_bmod (z : Int) : Int32.ofInt (z.bmod (2 ^ 32)) = Int32.ofInt z := by
  rw [Int32.ofInt_eq_iff_bmod_eq_toInt, Int32.toInt_ofInt]
  simp [Int32.size]
theorem i64_of_bmod (z : Int) : Int64.ofInt (z.bmod (2 ^ 64)) = Int64.ofInt z := by
  rw [Int64.ofInt_eq_iff_bmod_eq_toInt, Int64.toInt_ofInt]
  simp [Int64.size]
theorem i32_div (x y : Int) : Int32.ofInt x / Int32.ofInt y = Int32.ofInt ((wI x).tdiv (wI y)) := by
  rw [← Int32.ofInt_toInt (Int32.ofInt x / Int32.ofInt y), Int32.toInt_div, i32_of_bmod]; rfl
theorem i64_div (x y : Int) : Int64.ofInt x / Int64.ofInt y = Int64.ofInt ((wL x).tdiv (wL y)) := by
  rw [← Int64.ofInt_toInt (Int64.ofInt x / Int64.ofInt y), Int64.toInt_div, i64_of_bmod]; rfl
theorem i32_rem (x y : Int) : Int32.ofInt x - Int32.ofInt x / Int32.ofInt y * Int32.ofInt y = Int32.ofInt ((wI x).tmod (wI y)) := by
  rw [i32_div, show (wI x).tmod (wI y) = wI x - (wI x).tdiv (wI y) * wI y by have := Int.tdiv_mul_add_tmod (wI x) (wI y); omega, Int32.ofInt_sub, Int32.ofInt_mul, ofI_w, ofI_w]
theorem i64_rem (x y : Int) : Int64.ofInt x - Int64.ofInt x / Int64.ofInt y * Int64.ofInt y = Int64.ofInt ((wL x).tmod (wL y)) := by
  rw [i64_div, show (wL x).tmod (wL y) = wL x - (wL x).tdiv (wL y) * wL y by have := Int.tdiv_mul_add_tmod (wL x) (wL y); omega, Int64.ofInt_sub, Int64.ofInt_mul, ofL_w, ofL_w]
theorem i32_eq (x y : Int) : Int32.ofInt x = Int32.ofInt y ↔ wI x = wI y := Int32.toInt_inj.symm
theorem i32_le (x y : Int) : Int32.ofInt x ≤ Int32.ofInt y ↔ wI x ≤ wI y := Int32.le_iff_toInt_le
theorem i32_lt (x y : Int) : Int32.ofInt x < Int32.ofInt y ↔ wI x < wI y := Int32.lt_iff_toInt_lt
theorem i64_eq (x y : Int) : Int64.ofInt x = Int64.ofInt y ↔ wL x = wL y := Int64.toInt_inj.symm
theorem i64_le (x y : Int) : Int64.ofInt x ≤ Int64.ofInt y ↔ wL x ≤ wL y := Int64.le_iff_toInt_le
theorem i64_lt (x y : Int) : Int64.ofInt x < Int64.ofInt y ↔ wL x < wL y := Int64.lt_iff_toInt_lt
theorem i32_0 : (0 : Int32) = Int32.ofInt 0 := rfl
theorem wI_0 : wI 0 = 0 := rfl
def oAnd (x y : Int) : Int := (Int32.ofInt x &&& Int32.ofInt y).toInt
def oOr (x y : Int) : Int := (Int32.ofInt x ||| Int32.ofInt y).toInt
def oShl (x y : Int) : Int := (Int32.ofInt x <<< (Int32.ofInt y &&& 31)).toInt
def oShr (x y : Int) : Int := (Int32.ofInt x >>> (Int32.ofInt y &&& 31)).toInt
def oAndL (x y : Int) : Int := (Int64.ofInt x &&& Int64.ofInt y).toInt
def oOrL (x y : Int) : Int := (Int64.ofInt x ||| Int64.ofInt y).toInt
def oXorL (x y : Int) : Int := (Int64.ofInt x ^^^ Int64.ofInt y).toInt
def oShlL (x y : Int) : Int := (Int64.ofInt x <<< ((Int32.ofInt y).toInt64 &&& 63)).toInt
def oShrL (x y : Int) : Int := (Int64.ofInt x >>> ((Int32.ofInt y).toInt64 &&& 63)).toInt
/-! the models' own words -/
def mG {α : Type} (c : Prop) [Decidable c] (k : Option α) : Option α := if c then k else none
def bnd {α β : Type} (v : α) (f : α → β) : β := f v
def mRef {α : Type} (x : Int) (f : Nat → Option α) : Option α := if x = 0 then none else f x.toNat
def mCall {α β γ : Type} (o : Option (α × β)) (f : α → β → Option γ) : Option γ := match o with
  | some (x, y) => f x y
  | none => none
theorem g_t {α : Type} {c : Prop} [inst : Decidable c] {k : Option α} {o : α} (h : mG c k = some o) : c ∧ k = some o := by
  unfold mG at h
  by_cases hc : c
  · rw [if_pos hc] at h; exact ⟨hc, h⟩
  · rw [if_neg hc] at h; cases h
theorem b_t {α : Type} {c : Prop} [inst : Decidable c] {a b : α} {o : α} (hc : c) (h : (if c then a else b) = o) : a = o := by rw [if_pos hc] at h; exact h
theorem b_f {α : Type} {c : Prop} [inst : Decidable c] {a b : α} {o : α} (hc : ¬ c) (h : (if c then a else b) = o) : b = o := by rw [if_neg hc] at h; exact h
theorem bnd_t {α β : Type} {v : α} {f : α → β} {o : β} (h : bnd v f = o) : ∃ x, x = v ∧ f x = o := ⟨v, rfl, h⟩
theorem ref_t {α : Type} {x : Int} {f : Nat → Option α} {o : α} (h : mRef x f = some o) : ∃ r, (x ≠ 0 ∧ r = x.toNat) ∧ f r = some o := by
  unfold mRef at h
  by_cases hc : x = 0
  · rw [if_pos hc] at h; cases h
  · rw [if_neg hc] at h; exact ⟨_, ⟨hc, rfl⟩, h⟩
theorem call_t {α β γ : Type} {o : Option (α × β)} {f : α → β → Option γ} {z : γ} (h : mCall o f = some z) : ∃ x y, o = some (x, y) ∧ f x y = some z := by
  unfold mCall at h
  split at h
  · exact ⟨_, _, rfl, h⟩
  · cases h
abbrev ixOK (r κ : Nat) (j : Int) : Prop := (shp r).1 = κ ∧ 0 ≤ wI j ∧ wI j < ((shp r).2 : Int)
abbrev isC (r ci : Nat) : Prop := (shp r).1 = ci
theorem shpL_len : shpL.length = 257 := by decide +kernel
theorem shp_lt {r κ : Nat} (h : (shp r).1 = κ) (hk : κ ≠ 99) : r < 257 := by
  rcases Nat.lt_or_ge r 257 with h1 | h1
  · exact h1
  · exfalso
    apply hk
    rw [← h]
    unfold shp
    rw [List.getD_eq_getElem?_getD, List.getElem?_eq_none (by rw [shpL_len]; exact h1)]
    rfl
theorem ix_in {r κ n : Nat} {j : Int} (h : ixOK r κ j) (hn : (shp r).2 = n) : vp_in (Int32.ofInt j) n := by
  rw [vp_in_iff]
  subst hn
  exact h.2
section MR
variable {p : Program} {l : Launch} {e : Env} {R : Room} {s : State} {m : MethodId} {args : Array Value} {below : List Frame} {meth : Method} {c : Code} {H : Heap} {locs : List Loc} {cells slots : Nat} {Q : State → Prop}
variable {cc : ByteArray} {pc np nL : Nat} {ls : Array Slot} {rest : List Value} {own : String} {lv : List (Nat × Value)} {A : Nat → Prop} {E : mE} {σ : mSt}
theorem r_iconst (G : CallFix p m c cc nL s args mTs own) (n : Int) (d : decode cc pc = .ok (.iconst n, 1)) (hn : pc + 1 = np) (k : W p l e R s m args below meth c H locs cells slots Q (F0 m np ls (vI n :: rest))) : W p l e R s m args below meth c H locs cells slots Q (F0 m pc ls rest) := by
  subst hn
  exact lv_iconst G.1 G.2.1 d rfl k
theorem r_bipush (G : CallFix p m c cc nL s args mTs own) (n : Int) (d : decode cc pc = .ok (.bipush n, 2)) (hv : (Int8.ofInt n).toInt32 = Int32.ofInt n) (hn : pc + 2 = np) (k : W p l e R s m args below meth c H locs cells slots Q (F0 m np ls (vI n :: rest))) : W p l e R s m args below meth c H locs cells slots Q (F0 m pc ls rest) := by
  subst hn
  exact lv_bipush G.1 G.2.1 d hv k
theorem r_sipush (G : CallFix p m c cc nL s args mTs own) (n : Int) (d : decode cc pc = .ok (.sipush n, 3)) (hv : (Int16.ofInt n).toInt32 = Int32.ofInt n) (hn : pc + 3 = np) (k : W p l e R s m args below meth c H locs cells slots Q (F0 m np ls (vI n :: rest))) : W p l e R s m args below meth c H locs cells slots Q (F0 m pc ls rest) := by
  subst hn
  exact lv_sipush G.1 G.2.1 d hv k
theorem r_lconst (G : CallFix p m c cc nL s args mTs own) (n : Int) {f : Fin 2} (d : decode cc pc = .ok (.lconst f, 1)) (hv : Int64.ofNat (f : Nat) = Int64.ofInt n) (hn : pc + 1 = np) (k : W p l e R s m args below meth c H locs cells slots Q (F0 m np ls (vL n :: rest))) : W p l e R s m args below meth c H locs cells slots Q (F0 m pc ls rest) := by
  subst hn
  exact lv_lconst G.1 G.2.1 d hv k
theorem r_ldc (G : CallFix p m c cc nL s args mTs own) (n : Int) {ix : Nat} {z : Int32} (d : decode cc pc = .ok (.ldc ix, 2)) (hw : Cond.constant own ix z ∈ mTs) (hv : z = Int32.ofInt n) (hn : pc + 2 = np) (k : W p l e R s m args below meth c H locs cells slots Q (F0 m np ls (vI n :: rest))) : W p l e R s m args below meth c H locs cells slots Q (F0 m pc ls rest) := by
  subst hn
  subst hv
  exact lv_ldc G.1 G.2.1 G.2.2.2.1 (G.2.2.2.2 _ hw) d k
theorem r_ldc2 (G : CallFix p m c cc nL s args mTs own) (n : Int) {ix : Nat} {z : Int64} (d : decode cc pc = .ok (.ldc2_w ix, 3)) (hw : Cond.constantLong own ix z ∈ mTs) (hv : z = Int64.ofInt n) (hn : pc + 3 = np) (k : W p l e R s m args below meth c H locs cells slots Q (F0 m np ls (vL n :: rest))) : W p l e R s m args below meth c H locs cells slots Q (F0 m pc ls rest) := by
  subst hn
  subst hv
  exact lv_ldc2 G.1 G.2.1 G.2.2.2.1 (G.2.2.2.2 _ hw) d k
theorem r_iload_n (G : CallFix p m c cc nL s args mTs own) (hl : lv_has ls nL lv) (j : Nat) {i : Nat} {x : Int} (hj : lv[j]? = some (i, vI x)) {f : Fin 4} (d : decode cc pc = .ok (.iload_n f, 1)) (hf : (f : Nat) = i) (hn : pc + 1 = np) (k : W p l e R s m args below meth c H locs cells slots Q (F0 m np ls (vI x :: rest))) : W p l e R s m args below meth c H locs cells slots Q (F0 m pc ls rest) := by
  subst hn
  exact lv_iload_n G.1 G.2.1 d hf (lv_at hl j hj) k
theorem r_iload (G : CallFix p m c cc nL s args mTs own) (hl : lv_has ls nL lv) (j : Nat) {i : Nat} {x : Int} (hj : lv[j]? = some (i, vI x)) (d : decode cc pc = .ok (.iload i, 2)) (hn : pc + 2 = np) (k : W p l e R s m args below meth c H locs cells slots Q (F0 m np ls (vI x :: rest))) : W p l e R s m args below meth c H locs cells slots Q (F0 m pc ls rest) := by
  subst hn
  exact lv_iload G.1 G.2.1 d (lv_at hl j hj) k
theorem r_lload_n (G : CallFix p m c cc nL s args mTs own) (hl : lv_has ls nL lv) (j : Nat) {i : Nat} {x : Int} (hj : lv[j]? = some (i, vL x)) {f : Fin 4} (d : decode cc pc = .ok (.lload_n f, 1)) (hf : (f : Nat) = i) (hn : pc + 1 = np) (k : W p l e R s m args below meth c H locs cells slots Q (F0 m np ls (vL x :: rest))) : W p l e R s m args below meth c H locs cells slots Q (F0 m pc ls rest) := by
  subst hn
  exact lv_lload_n G.1 G.2.1 d hf (lv_at hl j hj) k
theorem r_lload (G : CallFix p m c cc nL s args mTs own) (hl : lv_has ls nL lv) (j : Nat) {i : Nat} {x : Int} (hj : lv[j]? = some (i, vL x)) (d : decode cc pc = .ok (.lload i, 2)) (hn : pc + 2 = np) (k : W p l e R s m args below meth c H locs cells slots Q (F0 m np ls (vL x :: rest))) : W p l e R s m args below meth c H locs cells slots Q (F0 m pc ls rest) := by
  subst hn
  exact lv_lload G.1 G.2.1 d (lv_at hl j hj) k
theorem r_aload_n (G : CallFix p m c cc nL s args mTs own) (hl : lv_has ls nL lv) (j : Nat) {i : Nat} {x : Nat} (hj : lv[j]? = some (i, .ref x)) {f : Fin 4} (d : decode cc pc = .ok (.aload_n f, 1)) (hf : (f : Nat) = i) (hn : pc + 1 = np) (k : W p l e R s m args below meth c H locs cells slots Q (F0 m np ls (.ref x :: rest))) : W p l e R s m args below meth c H locs cells slots Q (F0 m pc ls rest) := by
  subst hn
  exact lv_aload_n G.1 G.2.1 d hf (lv_at hl j hj) k
theorem r_aload (G : CallFix p m c cc nL s args mTs own) (hl : lv_has ls nL lv) (j : Nat) {i : Nat} {x : Nat} (hj : lv[j]? = some (i, .ref x)) (d : decode cc pc = .ok (.aload i, 2)) (hn : pc + 2 = np) (k : W p l e R s m args below meth c H locs cells slots Q (F0 m np ls (.ref x :: rest))) : W p l e R s m args below meth c H locs cells slots Q (F0 m pc ls rest) := by
  subst hn
  exact lv_aload G.1 G.2.1 d (lv_at hl j hj) k
theorem r_istore_n (G : CallFix p m c cc nL s args mTs own) (hl : lv_has ls nL lv) {i : Nat} {x y : Int} (hx : y = x) (lv2 : List (Nat × Value)) {f : Fin 4} (d : decode cc pc = .ok (.istore_n f, 1)) (hf : (f : Nat) = i) (hn : pc + 1 = np) (hi : i < nL) (hv : (i, (vI y : Value)) :: lv.filter (fun q => !(q.1 == i) && !(q.1 + 1 == i && q.2.category == 2)) = lv2) (k : ∀ ls2 : Array Slot, lv_has ls2 nL lv2 → W p l e R s m args below meth c H locs cells slots Q (F0 m np ls2 rest)) : W p l e R s m args below meth c H locs cells slots Q (F0 m pc ls ((vI x : Value) :: rest)) := by
  subst hn
  subst hx
  exact lv_istore_n G.1 G.2.1 d hf hl hi hv k
theorem r_istore (G : CallFix p m c cc nL s args mTs own) (hl : lv_has ls nL lv) {i : Nat} {x y : Int} (hx : y = x) (lv2 : List (Nat × Value)) (d : decode cc pc = .ok (.istore i, 2)) (hn : pc + 2 = np) (hi : i < nL) (hv : (i, (vI y : Value)) :: lv.filter (fun q => !(q.1 == i) && !(q.1 + 1 == i && q.2.category == 2)) = lv2) (k : ∀ ls2 : Array Slot, lv_has ls2 nL lv2 → W p l e R s m args below meth c H locs cells slots Q (F0 m np ls2 rest)) : W p l e R s m args below meth c H locs cells slots Q (F0 m pc ls ((vI x : Value) :: rest)) := by
  subst hn
  subst hx
  exact lv_istore G.1 G.2.1 d hl hi hv k
theorem r_lstore_n (G : CallFix p m c cc nL s args mTs own) (hl : lv_has ls nL lv) {i : Nat} {x y : Int} (hx : y = x) (lv2 : List (Nat × Value)) {f : Fin 4} (d : decode cc pc = .ok (.lstore_n f, 1)) (hf : (f : Nat) = i) (hn : pc + 1 = np) (hi : i + 1 < nL) (hv : (i, (vL y : Value)) :: lv.filter (fun q => !(q.1 == i) && (!(q.1 == i + 1) && !(q.1 + 1 == i && q.2.category == 2))) = lv2) (k : ∀ ls2 : Array Slot, lv_has ls2 nL lv2 → W p l e R s m args below meth c H locs cells slots Q (F0 m np ls2 rest)) : W p l e R s m args below meth c H locs cells slots Q (F0 m pc ls ((vL x : Value) :: rest)) := by
  subst hn
  subst hx
  exact lv_lstore_n G.1 G.2.1 d hf hl hi hv k
theorem r_lstore (G : CallFix p m c cc nL s args mTs own) (hl : lv_has ls nL lv) {i : Nat} {x y : Int} (hx : y = x) (lv2 : List (Nat × Value)) (d : decode cc pc = .ok (.lstore i, 2)) (hn : pc + 2 = np) (hi : i + 1 < nL) (hv : (i, (vL y : Value)) :: lv.filter (fun q => !(q.1 == i) && (!(q.1 == i + 1) && !(q.1 + 1 == i && q.2.category == 2))) = lv2) (k : ∀ ls2 : Array Slot, lv_has ls2 nL lv2 → W p l e R s m args below meth c H locs cells slots Q (F0 m np ls2 rest)) : W p l e R s m args below meth c H locs cells slots Q (F0 m pc ls ((vL x : Value) :: rest)) := by
  subst hn
  subst hx
  exact lv_lstore G.1 G.2.1 d hl hi hv k
theorem r_astore_n (G : CallFix p m c cc nL s args mTs own) (hl : lv_has ls nL lv) {i : Nat} {x y : Nat} (hx : y = x) (lv2 : List (Nat × Value)) {f : Fin 4} (d : decode cc pc = .ok (.astore_n f, 1)) (hf : (f : Nat) = i) (hn : pc + 1 = np) (hi : i < nL) (hv : (i, (.ref y : Value)) :: lv.filter (fun q => !(q.1 == i) && !(q.1 + 1 == i && q.2.category == 2)) = lv2) (k : ∀ ls2 : Array Slot, lv_has ls2 nL lv2 → W p l e R s m args below meth c H locs cells slots Q (F0 m np ls2 rest)) : W p l e R s m args below meth c H locs cells slots Q (F0 m pc ls ((.ref x : Value) :: rest)) := by
  subst hn
  subst hx
  exact lv_astore_n G.1 G.2.1 d hf hl hi hv k
theorem r_astore (G : CallFix p m c cc nL s args mTs own) (hl : lv_has ls nL lv) {i : Nat} {x y : Nat} (hx : y = x) (lv2 : List (Nat × Value)) (d : decode cc pc = .ok (.astore i, 2)) (hn : pc + 2 = np) (hi : i < nL) (hv : (i, (.ref y : Value)) :: lv.filter (fun q => !(q.1 == i) && !(q.1 + 1 == i && q.2.category == 2)) = lv2) (k : ∀ ls2 : Array Slot, lv_has ls2 nL lv2 → W p l e R s m args below meth c H locs cells slots Q (F0 m np ls2 rest)) : W p l e R s m args below meth c H locs cells slots Q (F0 m pc ls ((.ref x : Value) :: rest)) := by
  subst hn
  subst hx
  exact lv_astore G.1 G.2.1 d hl hi hv k
theorem r_iinc (G : CallFix p m c cc nL s args mTs own) (hl : lv_has ls nL lv) (j : Nat) {i : Nat} {n x y : Int} (hj : lv[j]? = some (i, vI x)) (hy : y = x + n) (lv2 : List (Nat × Value)) (d : decode cc pc = .ok (.iinc i n, 3)) (hn : pc + 3 = np) (hi : i < nL) (hv : (i, vI y) :: lv.filter (fun q => !(q.1 == i) && !(q.1 + 1 == i && q.2.category == 2)) = lv2) (k : ∀ ls2 : Array Slot, lv_has ls2 nL lv2 → W p l e R s m args below meth c H locs cells slots Q (F0 m np ls2 rest)) : W p l e R s m args below meth c H locs cells slots Q (F0 m pc ls rest) := by
  subst hn
  subst hy
  exact lv_iinc (k := j) (v := Int32.ofInt (x + n)) G.1 G.2.1 d hl hj (by rw [Int32.ofInt_add]) hi hv k
theorem r_iadd (G : CallFix p m c cc nL s args mTs own) {x y : Int} (d : decode cc pc = .ok (.iadd, 1)) (hn : pc + 1 = np) (k : W p l e R s m args below meth c H locs cells slots Q (F0 m np ls (vI (x + y) :: rest))) : W p l e R s m args below meth c H locs cells slots Q (F0 m pc ls (vI y :: vI x :: rest)) := by
  subst hn
  refine lv_iadd G.1 G.2.1 d ?_
  rw [← Int32.ofInt_add]
  exact k
theorem r_ladd (G : CallFix p m c cc nL s args mTs own) {x y : Int} (d : decode cc pc = .ok (.ladd, 1)) (hn : pc + 1 = np) (k : W p l e R s m args below meth c H locs cells slots Q (F0 m np ls (vL (x + y) :: rest))) : W p l e R s m args below meth c H locs cells slots Q (F0 m pc ls (vL y :: vL x :: rest)) := by
  subst hn
  refine lv_ladd G.1 G.2.1 d ?_
  rw [← Int64.ofInt_add]
  exact k
theorem r_isub (G : CallFix p m c cc nL s args mTs own) {x y : Int} (d : decode cc pc = .ok (.isub, 1)) (hn : pc + 1 = np) (k : W p l e R s m args below meth c H locs cells slots Q (F0 m np ls (vI (x - y) :: rest))) : W p l e R s m args below meth c H locs cells slots Q (F0 m pc ls (vI y :: vI x :: rest)) := by
  subst hn
  refine lv_isub G.1 G.2.1 d ?_
  rw [← Int32.ofInt_sub]
  exact k
theorem r_lsub (G : CallFix p m c cc nL s args mTs own) {x y : Int} (d : decode cc pc = .ok (.lsub, 1)) (hn : pc + 1 = np) (k : W p l e R s m args below meth c H locs cells slots Q (F0 m np ls (vL (x - y) :: rest))) : W p l e R s m args below meth c H locs cells slots Q (F0 m pc ls (vL y :: vL x :: rest)) := by
  subst hn
  refine lv_lsub G.1 G.2.1 d ?_
  rw [← Int64.ofInt_sub]
  exact k
theorem r_imul (G : CallFix p m c cc nL s args mTs own) {x y : Int} (d : decode cc pc = .ok (.imul, 1)) (hn : pc + 1 = np) (k : W p l e R s m args below meth c H locs cells slots Q (F0 m np ls (vI (x * y) :: rest))) : W p l e R s m args below meth c H locs cells slots Q (F0 m pc ls (vI y :: vI x :: rest)) := by
  subst hn
  refine lv_imul G.1 G.2.1 d ?_
  rw [← Int32.ofInt_mul]
  exact k
theorem r_lmul (G : CallFix p m c cc nL s args mTs own) {x y : Int} (d : decode cc pc = .ok (.lmul, 1)) (hn : pc + 1 = np) (k : W p l e R s m args below meth c H locs cells slots Q (F0 m np ls (vL (x * y) :: rest))) : W p l e R s m args below meth c H locs cells slots Q (F0 m pc ls (vL y :: vL x :: rest)) := by
  subst hn
  refine lv_lmul G.1 G.2.1 d ?_
  rw [← Int64.ofInt_mul]
  exact k
theorem r_ineg (G : CallFix p m c cc nL s args mTs own) {x : Int} (d : decode cc pc = .ok (.ineg, 1)) (hn : pc + 1 = np) (k : W p l e R s m args below meth c H locs cells slots Q (F0 m np ls (vI (-x) :: rest))) : W p l e R s m args below meth c H locs cells slots Q (F0 m pc ls (vI x :: rest)) := by
  subst hn
  refine lv_ineg G.1 G.2.1 d ?_
  rw [← Int32.ofInt_neg]
  exact k
theorem r_idiv (G : CallFix p m c cc nL s args mTs own) {x y : Int} (h : wI y ≠ 0) (d : decode cc pc = .ok (.idiv, 1)) (hn : pc + 1 = np) (k : W p l e R s m args below meth c H locs cells slots Q (F0 m np ls (vI ((wI x).tdiv (wI y)) :: rest))) : W p l e R s m args below meth c H locs cells slots Q (F0 m pc ls (vI y :: vI x :: rest)) := by
  subst hn
  refine lv_idiv G.1 G.2.1 d (fun q => h ?_) ?_
  · exact (i32_eq y 0).mp q
  · rw [i32_div]
    exact k
theorem r_irem (G : CallFix p m c cc nL s args mTs own) {x y : Int} (h : wI y ≠ 0) (d : decode cc pc = .ok (.irem, 1)) (hn : pc + 1 = np) (k : W p l e R s m args below meth c H locs cells slots Q (F0 m np ls (vI ((wI x).tmod (wI y)) :: rest))) : W p l e R s m args below meth c H locs cells slots Q (F0 m pc ls (vI y :: vI x :: rest)) := by
  subst hn
  refine lv_irem G.1 G.2.1 d (fun q => h ?_) ?_
  · exact (i32_eq y 0).mp q
  · rw [i32_rem]
    exact k
theorem r_lneg (G : CallFix p m c cc nL s args mTs own) {x : Int} (d : decode cc pc = .ok (.lneg, 1)) (hn : pc + 1 = np) (k : W p l e R s m args below meth c H locs cells slots Q (F0 m np ls (vL (-x) :: rest))) : W p l e R s m args below meth c H locs cells slots Q (F0 m pc ls (vL x :: rest)) := by
  subst hn
  refine lv_lneg G.1 G.2.1 d ?_
  rw [← Int64.ofInt_neg]
  exact k
theorem r_ldiv (G : CallFix p m c cc nL s args mTs own) {x y : Int} (h : wL y ≠ 0) (d : decode cc pc = .ok (.ldiv, 1)) (hn : pc + 1 = np) (k : W p l e R s m args below meth c H locs cells slots Q (F0 m np ls (vL ((wL x).tdiv (wL y)) :: rest))) : W p l e R s m args below meth c H locs cells slots Q (F0 m pc ls (vL y :: vL x :: rest)) := by
  subst hn
  refine lv_ldiv G.1 G.2.1 d (fun q => h ?_) ?_
  · exact (i64_eq y 0).mp q
  · rw [i64_div]
    exact k
theorem r_lrem (G : CallFix p m c cc nL s args mTs own) {x y : Int} (h : wL y ≠ 0) (d : decode cc pc = .ok (.lrem, 1)) (hn : pc + 1 = np) (k : W p l e R s m args below meth c H locs cells slots Q (F0 m np ls (vL ((wL x).tmod (wL y)) :: rest))) : W p l e R s m args below meth c H locs cells slots Q (F0 m pc ls (vL y :: vL x :: rest)) := by
  subst hn
  refine lv_lrem G.1 G.2.1 d (fun q => h ?_) ?_
  · exact (i64_eq y 0).mp q
  · rw [i64_rem]
    exact k
theorem r_iand (G : CallFix p m c cc nL s args mTs own) {x y : Int} (d : decode cc pc = .ok (.iand, 1)) (hn : pc + 1 = np) (k : W p l e R s m args below meth c H locs cells slots Q (F0 m np ls (vI (oAnd x y) :: rest))) : W p l e R s m args below meth c H locs cells slots Q (F0 m pc ls (vI y :: vI x :: rest)) := by
  subst hn
  refine lv_iand G.1 G.2.1 d ?_
  rw [vI_w (x := oAnd x y) (wI_toInt _).symm]
  exact k
theorem r_ior (G : CallFix p m c cc nL s args mTs own) {x y : Int} (d : decode cc pc = .ok (.ior, 1)) (hn : pc + 1 = np) (k : W p l e R s m args below meth c H locs cells slots Q (F0 m np ls (vI (oOr x y) :: rest))) : W p l e R s m args below meth c H locs cells slots Q (F0 m pc ls (vI y :: vI x :: rest)) := by
  subst hn
  refine lv_ior G.1 G.2.1 d ?_
  rw [vI_w (x := oOr x y) (wI_toInt _).symm]
  exact k
theorem r_ishl (G : CallFix p m c cc nL s args mTs own) {x y : Int} (d : decode cc pc = .ok (.ishl, 1)) (hn : pc + 1 = np) (k : W p l e R s m args below meth c H locs cells slots Q (F0 m np ls (vI (oShl x y) :: rest))) : W p l e R s m args below meth c H locs cells slots Q (F0 m pc ls (vI y :: vI x :: rest)) := by
  subst hn
  refine lv_ishl G.1 G.2.1 d ?_
  rw [vI_w (x := oShl x y) (wI_toInt _).symm]
  exact k
theorem r_ishr (G : CallFix p m c cc nL s args mTs own) {x y : Int} (d : decode cc pc = .ok (.ishr, 1)) (hn : pc + 1 = np) (k : W p l e R s m args below meth c H locs cells slots Q (F0 m np ls (vI (oShr x y) :: rest))) : W p l e R s m args below meth c H locs cells slots Q (F0 m pc ls (vI y :: vI x :: rest)) := by
  subst hn
  refine lv_ishr G.1 G.2.1 d ?_
  rw [vI_w (x := oShr x y) (wI_toInt _).symm]
  exact k
theorem r_land (G : CallFix p m c cc nL s args mTs own) {x y : Int} (d : decode cc pc = .ok (.land, 1)) (hn : pc + 1 = np) (k : W p l e R s m args below meth c H locs cells slots Q (F0 m np ls (vL (oAndL x y) :: rest))) : W p l e R s m args below meth c H locs cells slots Q (F0 m pc ls (vL y :: vL x :: rest)) := by
  subst hn
  refine lv_land G.1 G.2.1 d ?_
  rw [vL_w (x := oAndL x y) (wL_toInt _).symm]
  exact k
theorem r_lor (G : CallFix p m c cc nL s args mTs own) {x y : Int} (d : decode cc pc = .ok (.lor, 1)) (hn : pc + 1 = np) (k : W p l e R s m args below meth c H locs cells slots Q (F0 m np ls (vL (oOrL x y) :: rest))) : W p l e R s m args below meth c H locs cells slots Q (F0 m pc ls (vL y :: vL x :: rest)) := by
  subst hn
  refine lv_lor G.1 G.2.1 d ?_
  rw [vL_w (x := oOrL x y) (wL_toInt _).symm]
  exact k
theorem r_lxor (G : CallFix p m c cc nL s args mTs own) {x y : Int} (d : decode cc pc = .ok (.lxor, 1)) (hn : pc + 1 = np) (k : W p l e R s m args below meth c H locs cells slots Q (F0 m np ls (vL (oXorL x y) :: rest))) : W p l e R s m args below meth c H locs cells slots Q (F0 m pc ls (vL y :: vL x :: rest)) := by
  subst hn
  refine lv_lxor G.1 G.2.1 d ?_
  rw [vL_w (x := oXorL x y) (wL_toInt _).symm]
  exact k
theorem r_lshl (G : CallFix p m c cc nL s args mTs own) {x y : Int} (d : decode cc pc = .ok (.lshl, 1)) (hn : pc + 1 = np) (k : W p l e R s m args below meth c H locs cells slots Q (F0 m np ls (vL (oShlL x y) :: rest))) : W p l e R s m args below meth c H locs cells slots Q (F0 m pc ls (vI y :: vL x :: rest)) := by
  subst hn
  refine lv_lshl G.1 G.2.1 d rfl ?_
  rw [vL_w (x := oShlL x y) (wL_toInt _).symm]
  exact k
theorem r_lshr (G : CallFix p m c cc nL s args mTs own) {x y : Int} (d : decode cc pc = .ok (.lshr, 1)) (hn : pc + 1 = np) (k : W p l e R s m args below meth c H locs cells slots Q (F0 m np ls (vL (oShrL x y) :: rest))) : W p l e R s m args below meth c H locs cells slots Q (F0 m pc ls (vI y :: vL x :: rest)) := by
  subst hn
  refine lv_lshr G.1 G.2.1 d rfl ?_
  rw [vL_w (x := oShrL x y) (wL_toInt _).symm]
  exact k
theorem r_i2l (G : CallFix p m c cc nL s args mTs own) {x y : Int} (hy : wI x = y) (d : decode cc pc = .ok (.i2l, 1)) (hn : pc + 1 = np) (k : W p l e R s m args below meth c H locs cells slots Q (F0 m np ls (vL y :: rest))) : W p l e R s m args below meth c H locs cells slots Q (F0 m pc ls (vI x :: rest)) := by
  subst hn
  subst hy
  exact lv_i2l G.1 G.2.1 d (by rw [← Int64.ofInt_toInt (Int32.ofInt x).toInt64, Int32.toInt_toInt64]; rfl) k
theorem r_l2i (G : CallFix p m c cc nL s args mTs own) {x : Int} (d : decode cc pc = .ok (.l2i, 1)) (hn : pc + 1 = np) (k : W p l e R s m args below meth c H locs cells slots Q (F0 m np ls (vI x :: rest))) : W p l e R s m args below meth c H locs cells slots Q (F0 m pc ls (vL x :: rest)) := by
  subst hn
  exact lv_l2i G.1 G.2.1 d Int64.toInt32_ofInt k
theorem r_i2b (G : CallFix p m c cc nL s args mTs own) {x : Int} (d : decode cc pc = .ok (.i2b, 1)) (hn : pc + 1 = np) (k : W p l e R s m args below meth c H locs cells slots Q (F0 m np ls (vI (wB x) :: rest))) : W p l e R s m args below meth c H locs cells slots Q (F0 m pc ls (vI x :: rest)) := by
  subst hn
  exact lv_i2b G.1 G.2.1 d (by rw [Int32.toInt8_ofInt]; rfl) k
theorem r_dup (G : CallFix p m c cc nL s args mTs own) {v : Value} (d : decode cc pc = .ok (.dup, 1)) (hv : v.category = 1) (hn : pc + 1 = np) (k : W p l e R s m args below meth c H locs cells slots Q (F0 m np ls (v :: v :: rest))) : W p l e R s m args below meth c H locs cells slots Q (F0 m pc ls (v :: rest)) := by
  subst hn
  exact lv_dup G.1 G.2.1 d hv k
theorem r_pop (G : CallFix p m c cc nL s args mTs own) {v : Value} (d : decode cc pc = .ok (.pop, 1)) (hv : v.category = 1) (hn : pc + 1 = np) (k : W p l e R s m args below meth c H locs cells slots Q (F0 m np ls rest)) : W p l e R s m args below meth c H locs cells slots Q (F0 m pc ls (v :: rest)) := by
  subst hn
  exact lv_pop G.1 G.2.1 d hv k
theorem r_dup2 (G : CallFix p m c cc nL s args mTs own) {v u : Value} (d : decode cc pc = .ok (.dup2, 1)) (hv : v.category = 1) (hu : u.category = 1) (hn : pc + 1 = np) (k : W p l e R s m args below meth c H locs cells slots Q (F0 m np ls (v :: u :: v :: u :: rest))) : W p l e R s m args below meth c H locs cells slots Q (F0 m pc ls (v :: u :: rest)) := by
  subst hn
  exact lv_dup2_11 G.1 G.2.1 d hv hu k
theorem r_goto (G : CallFix p m c cc nL s args mTs own) {off : Int} (d : decode cc pc = .ok (.goto off, 3)) (ht : (pc : Int) + off = (np : Int)) (k : W p l e R s m args below meth c H locs cells slots Q (F0 m np ls rest)) : W p l e R s m args below meth c H locs cells slots Q (F0 m pc ls rest) := lv_goto G.1 G.2.1 d ht k
theorem r_icmp_eq (G : CallFix p m c cc nL s args mTs own) {x y a b : Int} {off : Int} {tgt : Nat} (ha : wI x = a) (hb : wI y = b) (d : decode cc pc = .ok (.if_icmp .eq off, 3)) (ht : (pc : Int) + off = (tgt : Int)) (hn : pc + 3 = np) (kt : a = b → W p l e R s m args below meth c H locs cells slots Q (F0 m tgt ls rest)) (kf : ¬ a = b → W p l e R s m args below meth c H locs cells slots Q (F0 m np ls rest)) : W p l e R s m args below meth c H locs cells slots Q (F0 m pc ls (vI y :: vI x :: rest)) := by
  subst hn
  subst ha
  subst hb
  exact lv_icmp_eq G.1 G.2.1 d ht (fun q => kt ((i32_eq x y).mp q)) (fun q => kf (fun z => q ((i32_eq x y).mpr z)))
theorem r_if_eq (G : CallFix p m c cc nL s args mTs own) {x a : Int} {off : Int} {tgt : Nat} (ha : wI x = a) (d : decode cc pc = .ok (.ifCond .eq off, 3)) (ht : (pc : Int) + off = (tgt : Int)) (hn : pc + 3 = np) (kt : a = 0 → W p l e R s m args below meth c H locs cells slots Q (F0 m tgt ls rest)) (kf : ¬ a = 0 → W p l e R s m args below meth c H locs cells slots Q (F0 m np ls rest)) : W p l e R s m args below meth c H locs cells slots Q (F0 m pc ls (vI x :: rest)) := by
  subst hn
  subst ha
  exact lv_if_eq G.1 G.2.1 d ht (fun q => kt ((i32_eq x 0).mp q)) (fun q => kf (fun z => q ((i32_eq x 0).mpr z)))
theorem r_lcmp_eq (G : CallFix p m c cc nL s args mTs own) {x y a b : Int} {off : Int} {tgt : Nat} (ha : wL x = a) (hb : wL y = b) (d : decode cc pc = .ok (.lcmp, 1)) (d2 : decode cc (pc + 1) = .ok (.ifCond .eq off, 3)) (ht : ((pc + 1 : Nat) : Int) + off = (tgt : Int)) (hn : pc + 1 + 3 = np) (kt : a = b → W p l e R s m args below meth c H locs cells slots Q (F0 m tgt ls rest)) (kf : ¬ a = b → W p l e R s m args below meth c H locs cells slots Q (F0 m np ls rest)) : W p l e R s m args below meth c H locs cells slots Q (F0 m pc ls (vL y :: vL x :: rest)) := by
  subst hn
  subst ha
  subst hb
  exact W.lcmp G.1 G.2.1 d (lv_if_eq G.1 G.2.1 d2 ht (fun q => kt (((lg_cmp_eq _ _).trans (i64_eq x y)).mp q)) (fun q => kf (fun z => q (((lg_cmp_eq _ _).trans (i64_eq x y)).mpr z))))
theorem r_icmp_ne (G : CallFix p m c cc nL s args mTs own) {x y a b : Int} {off : Int} {tgt : Nat} (ha : wI x = a) (hb : wI y = b) (d : decode cc pc = .ok (.if_icmp .ne off, 3)) (ht : (pc : Int) + off = (tgt : Int)) (hn : pc + 3 = np) (kt : ¬ a = b → W p l e R s m args below meth c H locs cells slots Q (F0 m tgt ls rest)) (kf : a = b → W p l e R s m args below meth c H locs cells slots Q (F0 m np ls rest)) : W p l e R s m args below meth c H locs cells slots Q (F0 m pc ls (vI y :: vI x :: rest)) := by
  subst hn
  subst ha
  subst hb
  exact lv_icmp_ne G.1 G.2.1 d ht (fun q => kt (fun z => q ((i32_eq x y).mpr z))) (fun q => kf ((i32_eq x y).mp q))
theorem r_if_ne (G : CallFix p m c cc nL s args mTs own) {x a : Int} {off : Int} {tgt : Nat} (ha : wI x = a) (d : decode cc pc = .ok (.ifCond .ne off, 3)) (ht : (pc : Int) + off = (tgt : Int)) (hn : pc + 3 = np) (kt : ¬ a = 0 → W p l e R s m args below meth c H locs cells slots Q (F0 m tgt ls rest)) (kf : a = 0 → W p l e R s m args below meth c H locs cells slots Q (F0 m np ls rest)) : W p l e R s m args below meth c H locs cells slots Q (F0 m pc ls (vI x :: rest)) := by
  subst hn
  subst ha
  exact lv_if_ne G.1 G.2.1 d ht (fun q => kt (fun z => q ((i32_eq x 0).mpr z))) (fun q => kf ((i32_eq x 0).mp q))
theorem r_lcmp_ne (G : CallFix p m c cc nL s args mTs own) {x y a b : Int} {off : Int} {tgt : Nat} (ha : wL x = a) (hb : wL y = b) (d : decode cc pc = .ok (.lcmp, 1)) (d2 : decode cc (pc + 1) = .ok (.ifCond .ne off, 3)) (ht : ((pc + 1 : Nat) : Int) + off = (tgt : Int)) (hn : pc + 1 + 3 = np) (kt : ¬ a = b → W p l e R s m args below meth c H locs cells slots Q (F0 m tgt ls rest)) (kf : a = b → W p l e R s m args below meth c H locs cells slots Q (F0 m np ls rest)) : W p l e R s m args below meth c H locs cells slots Q (F0 m pc ls (vL y :: vL x :: rest)) := by
  subst hn
  subst ha
  subst hb
  exact W.lcmp G.1 G.2.1 d (lv_if_ne G.1 G.2.1 d2 ht (fun q => kt (fun z => q (((lg_cmp_eq _ _).trans (i64_eq x y)).mpr z))) (fun q => kf (((lg_cmp_eq _ _).trans (i64_eq x y)).mp q)))
theorem r_icmp_lt (G : CallFix p m c cc nL s args mTs own) {x y a b : Int} {off : Int} {tgt : Nat} (ha : wI x = a) (hb : wI y = b) (d : decode cc pc = .ok (.if_icmp .lt off, 3)) (ht : (pc : Int) + off = (tgt : Int)) (hn : pc + 3 = np) (kt : a < b → W p l e R s m args below meth c H locs cells slots Q (F0 m tgt ls rest)) (kf : ¬ a < b → W p l e R s m args below meth c H locs cells slots Q (F0 m np ls rest)) : W p l e R s m args below meth c H locs cells slots Q (F0 m pc ls (vI y :: vI x :: rest)) := by
  subst hn
  subst ha
  subst hb
  exact lv_icmp_lt G.1 G.2.1 d ht (fun q => kt ((i32_lt x y).mp q)) (fun q => kf (fun z => q ((i32_lt x y).mpr z)))
theorem r_if_lt (G : CallFix p m c cc nL s args mTs own) {x a : Int} {off : Int} {tgt : Nat} (ha : wI x = a) (d : decode cc pc = .ok (.ifCond .lt off, 3)) (ht : (pc : Int) + off = (tgt : Int)) (hn : pc + 3 = np) (kt : a < 0 → W p l e R s m args below meth c H locs cells slots Q (F0 m tgt ls rest)) (kf : ¬ a < 0 → W p l e R s m args below meth c H locs cells slots Q (F0 m np ls rest)) : W p l e R s m args below meth c H locs cells slots Q (F0 m pc ls (vI x :: rest)) := by
  subst hn
  subst ha
  exact lv_if_lt G.1 G.2.1 d ht (fun q => kt ((i32_lt x 0).mp q)) (fun q => kf (fun z => q ((i32_lt x 0).mpr z)))
theorem r_lcmp_lt (G : CallFix p m c cc nL s args mTs own) {x y a b : Int} {off : Int} {tgt : Nat} (ha : wL x = a) (hb : wL y = b) (d : decode cc pc = .ok (.lcmp, 1)) (d2 : decode cc (pc + 1) = .ok (.ifCond .lt off, 3)) (ht : ((pc + 1 : Nat) : Int) + off = (tgt : Int)) (hn : pc + 1 + 3 = np) (kt : a < b → W p l e R s m args below meth c H locs cells slots Q (F0 m tgt ls rest)) (kf : ¬ a < b → W p l e R s m args below meth c H locs cells slots Q (F0 m np ls rest)) : W p l e R s m args below meth c H locs cells slots Q (F0 m pc ls (vL y :: vL x :: rest)) := by
  subst hn
  subst ha
  subst hb
  exact W.lcmp G.1 G.2.1 d (lv_if_lt G.1 G.2.1 d2 ht (fun q => kt (((lg_cmp_lt _ _).trans (i64_lt x y)).mp q)) (fun q => kf (fun z => q (((lg_cmp_lt _ _).trans (i64_lt x y)).mpr z))))
theorem r_icmp_ge (G : CallFix p m c cc nL s args mTs own) {x y a b : Int} {off : Int} {tgt : Nat} (ha : wI x = a) (hb : wI y = b) (d : decode cc pc = .ok (.if_icmp .ge off, 3)) (ht : (pc : Int) + off = (tgt : Int)) (hn : pc + 3 = np) (kt : b ≤ a → W p l e R s m args below meth c H locs cells slots Q (F0 m tgt ls rest)) (kf : ¬ b ≤ a → W p l e R s m args below meth c H locs cells slots Q (F0 m np ls rest)) : W p l e R s m args below meth c H locs cells slots Q (F0 m pc ls (vI y :: vI x :: rest)) := by
  subst hn
  subst ha
  subst hb
  exact lv_icmp_ge G.1 G.2.1 d ht (fun q => kt ((i32_le y x).mp q)) (fun q => kf (fun z => q ((i32_le y x).mpr z)))
theorem r_if_ge (G : CallFix p m c cc nL s args mTs own) {x a : Int} {off : Int} {tgt : Nat} (ha : wI x = a) (d : decode cc pc = .ok (.ifCond .ge off, 3)) (ht : (pc : Int) + off = (tgt : Int)) (hn : pc + 3 = np) (kt : 0 ≤ a → W p l e R s m args below meth c H locs cells slots Q (F0 m tgt ls rest)) (kf : ¬ 0 ≤ a → W p l e R s m args below meth c H locs cells slots Q (F0 m np ls rest)) : W p l e R s m args below meth c H locs cells slots Q (F0 m pc ls (vI x :: rest)) := by
  subst hn
  subst ha
  exact lv_if_ge G.1 G.2.1 d ht (fun q => kt ((i32_le 0 x).mp q)) (fun q => kf (fun z => q ((i32_le 0 x).mpr z)))
theorem r_lcmp_ge (G : CallFix p m c cc nL s args mTs own) {x y a b : Int} {off : Int} {tgt : Nat} (ha : wL x = a) (hb : wL y = b) (d : decode cc pc = .ok (.lcmp, 1)) (d2 : decode cc (pc + 1) = .ok (.ifCond .ge off, 3)) (ht : ((pc + 1 : Nat) : Int) + off = (tgt : Int)) (hn : pc + 1 + 3 = np) (kt : b ≤ a → W p l e R s m args below meth c H locs cells slots Q (F0 m tgt ls rest)) (kf : ¬ b ≤ a → W p l e R s m args below meth c H locs cells slots Q (F0 m np ls rest)) : W p l e R s m args below meth c H locs cells slots Q (F0 m pc ls (vL y :: vL x :: rest)) := by
  subst hn
  subst ha
  subst hb
  exact W.lcmp G.1 G.2.1 d (lv_if_ge G.1 G.2.1 d2 ht (fun q => kt (((lg_cmp_ge _ _).trans (i64_le y x)).mp q)) (fun q => kf (fun z => q (((lg_cmp_ge _ _).trans (i64_le y x)).mpr z))))
theorem r_icmp_gt (G : CallFix p m c cc nL s args mTs own) {x y a b : Int} {off : Int} {tgt : Nat} (ha : wI x = a) (hb : wI y = b) (d : decode cc pc = .ok (.if_icmp .gt off, 3)) (ht : (pc : Int) + off = (tgt : Int)) (hn : pc + 3 = np) (kt : b < a → W p l e R s m args below meth c H locs cells slots Q (F0 m tgt ls rest)) (kf : ¬ b < a → W p l e R s m args below meth c H locs cells slots Q (F0 m np ls rest)) : W p l e R s m args below meth c H locs cells slots Q (F0 m pc ls (vI y :: vI x :: rest)) := by
  subst hn
  subst ha
  subst hb
  exact lv_icmp_gt G.1 G.2.1 d ht (fun q => kt ((i32_lt y x).mp q)) (fun q => kf (fun z => q ((i32_lt y x).mpr z)))
theorem r_if_gt (G : CallFix p m c cc nL s args mTs own) {x a : Int} {off : Int} {tgt : Nat} (ha : wI x = a) (d : decode cc pc = .ok (.ifCond .gt off, 3)) (ht : (pc : Int) + off = (tgt : Int)) (hn : pc + 3 = np) (kt : 0 < a → W p l e R s m args below meth c H locs cells slots Q (F0 m tgt ls rest)) (kf : ¬ 0 < a → W p l e R s m args below meth c H locs cells slots Q (F0 m np ls rest)) : W p l e R s m args below meth c H locs cells slots Q (F0 m pc ls (vI x :: rest)) := by
  subst hn
  subst ha
  exact lv_if_gt G.1 G.2.1 d ht (fun q => kt ((i32_lt 0 x).mp q)) (fun q => kf (fun z => q ((i32_lt 0 x).mpr z)))
theorem r_lcmp_gt (G : CallFix p m c cc nL s args mTs own) {x y a b : Int} {off : Int} {tgt : Nat} (ha : wL x = a) (hb : wL y = b) (d : decode cc pc = .ok (.lcmp, 1)) (d2 : decode cc (pc + 1) = .ok (.ifCond .gt off, 3)) (ht : ((pc + 1 : Nat) : Int) + off = (tgt : Int)) (hn : pc + 1 + 3 = np) (kt : b < a → W p l e R s m args below meth c H locs cells slots Q (F0 m tgt ls rest)) (kf : ¬ b < a → W p l e R s m args below meth c H locs cells slots Q (F0 m np ls rest)) : W p l e R s m args below meth c H locs cells slots Q (F0 m pc ls (vL y :: vL x :: rest)) := by
  subst hn
  subst ha
  subst hb
  exact W.lcmp G.1 G.2.1 d (lv_if_gt G.1 G.2.1 d2 ht (fun q => kt (((lg_cmp_gt _ _).trans (i64_lt y x)).mp q)) (fun q => kf (fun z => q (((lg_cmp_gt _ _).trans (i64_lt y x)).mpr z))))
theorem r_icmp_le (G : CallFix p m c cc nL s args mTs own) {x y a b : Int} {off : Int} {tgt : Nat} (ha : wI x = a) (hb : wI y = b) (d : decode cc pc = .ok (.if_icmp .le off, 3)) (ht : (pc : Int) + off = (tgt : Int)) (hn : pc + 3 = np) (kt : a ≤ b → W p l e R s m args below meth c H locs cells slots Q (F0 m tgt ls rest)) (kf : ¬ a ≤ b → W p l e R s m args below meth c H locs cells slots Q (F0 m np ls rest)) : W p l e R s m args below meth c H locs cells slots Q (F0 m pc ls (vI y :: vI x :: rest)) := by
  subst hn
  subst ha
  subst hb
  exact lv_icmp_le G.1 G.2.1 d ht (fun q => kt ((i32_le x y).mp q)) (fun q => kf (fun z => q ((i32_le x y).mpr z)))
theorem r_if_le (G : CallFix p m c cc nL s args mTs own) {x a : Int} {off : Int} {tgt : Nat} (ha : wI x = a) (d : decode cc pc = .ok (.ifCond .le off, 3)) (ht : (pc : Int) + off = (tgt : Int)) (hn : pc + 3 = np) (kt : a ≤ 0 → W p l e R s m args below meth c H locs cells slots Q (F0 m tgt ls rest)) (kf : ¬ a ≤ 0 → W p l e R s m args below meth c H locs cells slots Q (F0 m np ls rest)) : W p l e R s m args below meth c H locs cells slots Q (F0 m pc ls (vI x :: rest)) := by
  subst hn
  subst ha
  exact lv_if_le G.1 G.2.1 d ht (fun q => kt ((i32_le x 0).mp q)) (fun q => kf (fun z => q ((i32_le x 0).mpr z)))
theorem r_lcmp_le (G : CallFix p m c cc nL s args mTs own) {x y a b : Int} {off : Int} {tgt : Nat} (ha : wL x = a) (hb : wL y = b) (d : decode cc pc = .ok (.lcmp, 1)) (d2 : decode cc (pc + 1) = .ok (.ifCond .le off, 3)) (ht : ((pc + 1 : Nat) : Int) + off = (tgt : Int)) (hn : pc + 1 + 3 = np) (kt : a ≤ b → W p l e R s m args below meth c H locs cells slots Q (F0 m tgt ls rest)) (kf : ¬ a ≤ b → W p l e R s m args below meth c H locs cells slots Q (F0 m np ls rest)) : W p l e R s m args below meth c H locs cells slots Q (F0 m pc ls (vL y :: vL x :: rest)) := by
  subst hn
  subst ha
  subst hb
  exact W.lcmp G.1 G.2.1 d (lv_if_le G.1 G.2.1 d2 ht (fun q => kt (((lg_cmp_le _ _).trans (i64_le x y)).mp q)) (fun q => kf (fun z => q (((lg_cmp_le _ _).trans (i64_le x y)).mpr z))))
theorem r_tswIn (G : CallFix p m c cc nL s args mTs own) {x k : Int} (hx : wI x = k) {dflt lo hi off : Int} {offs : Array Int} {len tgt : Nat} (d : decode cc pc = .ok (.tableswitch dflt lo hi offs, len)) (h1 : ¬ k < lo) (h2 : ¬ hi < k) (ho : offs[(k - lo).toNat]? = some off) (ht : (pc : Int) + off = (tgt : Int)) (kk : W p l e R s m args below meth c H locs cells slots Q (F0 m tgt ls rest)) : W p l e R s m args below meth c H locs cells slots Q (F0 m pc ls (vI x :: rest)) := by
  subst hx
  exact lv_tableIn G.1 G.2.1 d h1 h2 ho ht kk
theorem r_tswOut (G : CallFix p m c cc nL s args mTs own) {x : Int} {dflt lo hi : Int} {offs : Array Int} {len tgt : Nat} (h : wI x < lo ∨ hi < wI x) (d : decode cc pc = .ok (.tableswitch dflt lo hi offs, len)) (ht : (pc : Int) + dflt = (tgt : Int)) (kk : W p l e R s m args below meth c H locs cells slots Q (F0 m tgt ls rest)) : W p l e R s m args below meth c H locs cells slots Q (F0 m pc ls (vI x :: rest)) := by
  exact lv_tableOut G.1 G.2.1 d h ht kk
theorem r_lsw (G : CallFix p m c cc nL s args mTs own) {x dflt off : Int} {ps : Array (Int × Int)} {len tgt : Nat} (ho : Op.lookupswitch.offset ps.toList dflt (wI x) = off) (hp : (ps.toList.zip (ps.toList.drop 1)).all (fun (a, next) => a.1 < next.1) = true) (d : decode cc pc = .ok (.lookupswitch dflt ps, len)) (ht : (pc : Int) + off = (tgt : Int)) (kk : W p l e R s m args below meth c H locs cells slots Q (F0 m tgt ls rest)) : W p l e R s m args below meth c H locs cells slots Q (F0 m pc ls (vI x :: rest)) := by
  exact lv_lookup G.1 G.2.1 d hp ho ht kk
theorem ite_c {α : Type} {c : Prop} [inst : Decidable c] {a b o : α} (h : (if c then a else b) = o) : (c ∧ a = o) ∨ (¬ c ∧ b = o) := by
  by_cases hc : c
  · exact Or.inl ⟨hc, b_t hc h⟩
  · exact Or.inr ⟨hc, b_f hc h⟩
theorem wIk (n : Int) (h : (decide (-2147483648 ≤ n) && decide (n < 2147483648)) = true) : wI n = n := by
  simp only [Bool.and_eq_true, decide_eq_true_eq] at h
  exact wI_eq h.1 h.2
theorem wLk (n : Int) (h : (decide (-9223372036854775808 ≤ n) && decide (n < 9223372036854775808)) = true) : wL n = n := by
  simp only [Bool.and_eq_true, decide_eq_true_eq] at h
  exact wL_eq h.1 h.2
theorem lsw_out (L : List (Int × Int)) {ps : Array (Int × Int)} {d x : Int} (h : ∀ q ∈ L, q.1 ≠ x) (hL : ps.toList = L := by rfl) : Op.lookupswitch.offset ps.toList d x = d := by
  rw [hL]
  clear hL
  induction L with
  | nil => rfl
  | cons a l ih =>
    rw [Op.lookupswitch.offset_cons, if_neg (h a List.mem_cons_self)]
    exact ih (fun q hq => h q (List.mem_cons_of_mem _ hq))
/-- the fuel of every loop -/
def mF : Nat := 1000000000000
end MR
end
section
/-! ROWS OF THE HEAP, calls, ends -/
/-- a class's field: class number ci, field k of kind t; its words -/
def mFld (ci k t n : Nat) (C : String) (T : u_T) : Prop := vwCl[ci]? = some (C, T, n) ∧ (∀ w ∈ u_ws C T n, w ∈ mTs) ∧ k < n ∧ (mFt ci)[k]? = some t ∧ ci < 12
/-- .. that is written outside constructors: its type -/
def mPut (ci k t n : Nat) (C : String) (T : u_T) (ty0 : Nat → FieldType) (ty : FieldType) : Prop := mFld ci k t n C T ∧ (∀ j, j < n → parseFieldDescriptor (T j).2.2.1 = some (ty0 j)) ∧ (∀ a, a < n → ∀ b, b < n → a ≠ b → (T a).2.1 ≠ (T b).2.1) ∧ parseFieldDescriptor (T k).2.2.1 = some ty ∧ (mFt ci).length = n
theorem upd_row (σ : mSt) (r k : Nat) (x : Int) : upd (fun j => Int32.ofInt (σ r j)) k (Int32.ofInt x) = fun j => Int32.ofInt (upS σ r k x r j) := by
  funext j
  by_cases hk : j = k <;> simp [upd, upS, hk]
theorem updL_row (σ : mSt) (r k : Nat) (x : Int) : vp_updL (fun j => Int64.ofInt (σ r j)) k (Int64.ofInt x) = fun j => Int64.ofInt (upS σ r k x r j) := by
  funext j
  by_cases hk : j = k <;> simp [vp_updL, upS, hk]
section MH
variable {p : Program} {l : Launch} {e : Env} {R : Room} {s : State} {m : MethodId} {args : Array Value} {below : List Frame} {meth : Method} {c : Code} {H : Heap} {locs : List Loc} {cells slots : Nat} {Q : State → Prop}
variable {cc : ByteArray} {pc np nL : Nat} {ls : Array Slot} {rest : List Value} {own : String} {lv : List (Nat × Value)} {A : Nat → Prop} {E : mE} {σ : mSt} {N : Nat}
theorem m_get (G : CallFix p m c cc nL s args mTs own) (hM : mM A E N σ s H locs) {r ci k t n : Nat} {C : String} {T : u_T} (hr : r < N) (hc : isC r ci) (hF : mFld ci k t n C T) {ix : Nat} (hw : Cond.fieldLink own ix (T k).1 (T k).2.1 (T k).2.2.1 ∈ mTs) (d : decode cc pc = .ok (.getfield ix, 3)) (hn : pc + 3 = np)
    (kk : W p l e R s m args below meth c H locs cells slots Q (F0 m np ls (mV E t (σ r k) :: rest))) : W p l e R s m args below meth c H locs cells slots Q (F0 m pc ls (.ref (eA E r) :: rest)) := by
  subst hn
  obtain ⟨h1, h2, h3, h4, h5⟩ := hF
  refine va_get (C := C) (T := T) (N := n) (ref := (T k).1) G.1 G.2.1 G.2.2.2.2 h2 G.2.2.2.1 hM.2.1 hM.2.2.2.1 r ((wl_get hr).trans (by rw [mEnt_obj hc h5])) h1 k h3 (G.2.2.2.2 _ hw) (fun _ h => h) (v := mV E t (σ r k)) ?_ d kk
  have := mFs_get (E := E) (f := σ r) (mFt ci) 0 k t h4
  rwa [Nat.zero_add] at this
theorem m_getN (G : CallFix p m c cc nL s args mTs own) (hM : mM A E N σ s H locs) {r ci k t n : Nat} {C host : String} {T : u_T} (hr : r < N) (hc : isC r ci) (hF : mFld ci k t n C T) {ix : Nat} (hw : Cond.fieldLinkNest own ix (T k).1 (T k).2.1 (T k).2.2.1 host ∈ mTs) (d : decode cc pc = .ok (.getfield ix, 3)) (hn : pc + 3 = np)
    (kk : W p l e R s m args below meth c H locs cells slots Q (F0 m np ls (mV E t (σ r k) :: rest))) : W p l e R s m args below meth c H locs cells slots Q (F0 m pc ls (.ref (eA E r) :: rest)) := by
  subst hn
  obtain ⟨h1, h2, h3, h4, h5⟩ := hF
  refine va_getN (C := C) (T := T) (N := n) (ref := (T k).1) (host := host) G.1 G.2.1 G.2.2.2.2 h2 G.2.2.2.1 hM.2.1 hM.2.2.2.1 r ((wl_get hr).trans (by rw [mEnt_obj hc h5])) h1 k h3 (G.2.2.2.2 _ hw) (fun _ h => h) (v := mV E t (σ r k)) ?_ d kk
  have := mFs_get (E := E) (f := σ r) (mFt ci) 0 k t h4
  rwa [Nat.zero_add] at this
theorem m_put (G : CallFix p m c cc nL s args mTs own) (hM : mM A E N σ s H locs) {r ci k t n : Nat} {C : String} {T : u_T} {ty0 : Nat → FieldType} {ty : FieldType} (hr : r < N) (hc : isC r ci) (hF : mPut ci k t n C T ty0 ty) (hfin : (T k).2.2.2 = false) {ix : Nat} (hw : Cond.fieldLink own ix (T k).1 (T k).2.1 (T k).2.2.1 ∈ mTs) {x : Int} {v : Value} (hv : v = mV E t x) (h1 : narrow ty v = v) (h2 : fits ty v = true) (σ2 : mSt) (hσ : σ2 = upS σ r k x) (d : decode cc pc = .ok (.putfield ix, 3)) (hn : pc + 3 = np)
    (kk : ∀ (H1 : Heap) (locs1 : List Loc), mM A E N σ2 s H1 locs1 → W p l e R s m args below meth c H1 locs1 cells slots Q (F0 m np ls rest)) : W p l e R s m args below meth c H locs cells slots Q (F0 m pc ls (v :: .ref (eA E r) :: rest)) := by
  subst hn
  obtain ⟨⟨g1, g2, g3, g4, g5⟩, g6, g7, g8, g9⟩ := hF
  obtain ⟨m1, m2, m3, m4, m5, m6⟩ := hM
  refine va_put (C := C) (T := T) (N := n) (ref := (T k).1) G.1 G.2.1 G.2.2.2.2 g2 ty0 g6 g7 G.2.2.2.1 m2 m4 m5 m6 r ((wl_get hr).trans (by rw [mEnt_obj hc g5])) g1 k g3 (G.2.2.2.2 _ hw) (fun _ h => h) hfin g8 h1 h2 (by rw [mFs_len, g9]; exact g3) d (fun H1 locs1 hP hD hS => ?_)
  have e : (wl E N σ).set r (eA E r, .inr (ci, (mFs E (σ r) (mFt ci) 0).set k v)) = wl E N σ2 := by
    refine wl_set hr ?_ (fun j hj => by rw [hσ]; exact upS_row hj)
    rw [mEnt_obj hc g5, hv]
    have e2 : mV E t x = mV E t (σ2 r (0 + k)) := by rw [Nat.zero_add, hσ, upS_same]
    rw [e2, mFs_set (E := E) (f := σ r) (g := σ2 r) (mFt ci) 0 k t g4 (fun b hb => by rw [hσ]; simp only [upS]; rw [if_neg]; intro z; exact hb (by rw [Nat.zero_add]; exact z.2))]
  rw [e] at hP hD
  exact kk H1 locs1 ⟨m1, m2, m3, hP, hD, hS⟩
theorem m_putF (G : CallFix p m c cc nL s args mTs own) (hM : mM A E N σ s H locs) {r ci k t n : Nat} {C : String} {T : u_T} {ty0 : Nat → FieldType} {ty : FieldType} (hr : r < N) (hc : isC r ci) (hF : mPut ci k t n C T ty0 ty) (hfin : (T k).2.2.2 = true) (hin : meth.name = "<init>") (hdecl : (T k).1 = own) {ix : Nat} (hw : Cond.fieldLink own ix (T k).1 (T k).2.1 (T k).2.2.1 ∈ mTs) {x : Int} {v : Value} (hv : v = mV E t x) (h1 : narrow ty v = v) (h2 : fits ty v = true) (σ2 : mSt) (hσ : σ2 = upS σ r k x) (d : decode cc pc = .ok (.putfield ix, 3)) (hn : pc + 3 = np)
    (kk : ∀ (H1 : Heap) (locs1 : List Loc), mM A E N σ2 s H1 locs1 → W p l e R s m args below meth c H1 locs1 cells slots Q (F0 m np ls rest)) : W p l e R s m args below meth c H locs cells slots Q (F0 m pc ls (v :: .ref (eA E r) :: rest)) := by
  subst hn
  obtain ⟨⟨g1, g2, g3, g4, g5⟩, g6, g7, g8, g9⟩ := hF
  obtain ⟨m1, m2, m3, m4, m5, m6⟩ := hM
  refine va_putF (C := C) (T := T) (N := n) (ref := (T k).1) G.1 G.2.1 G.2.2.2.2 g2 ty0 g6 g7 G.2.2.2.1 m2 m4 m5 m6 r ((wl_get hr).trans (by rw [mEnt_obj hc g5])) g1 k g3 (G.2.2.2.2 _ hw) (fun _ h => h) hfin hin hdecl g8 h1 h2 (by rw [mFs_len, g9]; exact g3) d (fun H1 locs1 hP hD hS => ?_)
  have e : (wl E N σ).set r (eA E r, .inr (ci, (mFs E (σ r) (mFt ci) 0).set k v)) = wl E N σ2 := by
    refine wl_set hr ?_ (fun j hj => by rw [hσ]; exact upS_row hj)
    rw [mEnt_obj hc g5, hv]
    have e2 : mV E t x = mV E t (σ2 r (0 + k)) := by rw [Nat.zero_add, hσ, upS_same]
    rw [e2, mFs_set (E := E) (f := σ r) (g := σ2 r) (mFt ci) 0 k t g4 (fun b hb => by rw [hσ]; simp only [upS]; rw [if_neg]; intro z; exact hb (by rw [Nat.zero_add]; exact z.2))]
  rw [e] at hP hD
  exact kk H1 locs1 ⟨m1, m2, m3, hP, hD, hS⟩
theorem rf_ne {E : mE} {x : Int} {r : Nat} (h : x ≠ 0 ∧ r = x.toNat) : va_rf (mRf E x) = .ref (eA E r) := by
  rw [h.2]
  unfold mRf
  rw [if_neg h.1]
  rfl
/-! the walk's own rows: all objects made (N = 257) -/
theorem r_getI (G : CallFix p m c cc nL s args mTs own) (hM : mM A E 257 σ s H locs) {r ci k n : Nat} {C : String} {T : u_T} (hr : r < 257) (hc : isC r ci) (hF : mFld ci k 0 n C T) {ix : Nat} (hw : Cond.fieldLink own ix (T k).1 (T k).2.1 (T k).2.2.1 ∈ mTs) (d : decode cc pc = .ok (.getfield ix, 3)) (hn : pc + 3 = np)
    (kk : W p l e R s m args below meth c H locs cells slots Q (F0 m np ls (vI (σ r k) :: rest))) : W p l e R s m args below meth c H locs cells slots Q (F0 m pc ls (.ref (eA E r) :: rest)) := m_get G hM hr hc hF hw d hn kk
theorem r_getL (G : CallFix p m c cc nL s args mTs own) (hM : mM A E 257 σ s H locs) {r ci k n : Nat} {C : String} {T : u_T} (hr : r < 257) (hc : isC r ci) (hF : mFld ci k 1 n C T) {ix : Nat} (hw : Cond.fieldLink own ix (T k).1 (T k).2.1 (T k).2.2.1 ∈ mTs) (d : decode cc pc = .ok (.getfield ix, 3)) (hn : pc + 3 = np)
    (kk : W p l e R s m args below meth c H locs cells slots Q (F0 m np ls (vL (σ r k) :: rest))) : W p l e R s m args below meth c H locs cells slots Q (F0 m pc ls (.ref (eA E r) :: rest)) := m_get G hM hr hc hF hw d hn kk
theorem r_getR (G : CallFix p m c cc nL s args mTs own) (hM : mM A E 257 σ s H locs) {r r2 ci k n : Nat} {C : String} {T : u_T} (hr : r < 257) (hc : isC r ci) (h2 : σ r k ≠ 0 ∧ r2 = (σ r k).toNat) (hF : mFld ci k 2 n C T) {ix : Nat} (hw : Cond.fieldLink own ix (T k).1 (T k).2.1 (T k).2.2.1 ∈ mTs) (d : decode cc pc = .ok (.getfield ix, 3)) (hn : pc + 3 = np)
    (kk : W p l e R s m args below meth c H locs cells slots Q (F0 m np ls (.ref (eA E r2) :: rest))) : W p l e R s m args below meth c H locs cells slots Q (F0 m pc ls (.ref (eA E r) :: rest)) := m_get G hM hr hc hF hw d hn (by rw [show mV E 2 (σ r k) = va_rf (mRf E (σ r k)) from rfl, rf_ne h2]; exact kk)
theorem r_getIN (G : CallFix p m c cc nL s args mTs own) (hM : mM A E 257 σ s H locs) {r ci k n : Nat} {C host : String} {T : u_T} (hr : r < 257) (hc : isC r ci) (hF : mFld ci k 0 n C T) {ix : Nat} (hw : Cond.fieldLinkNest own ix (T k).1 (T k).2.1 (T k).2.2.1 host ∈ mTs) (d : decode cc pc = .ok (.getfield ix, 3)) (hn : pc + 3 = np)
    (kk : W p l e R s m args below meth c H locs cells slots Q (F0 m np ls (vI (σ r k) :: rest))) : W p l e R s m args below meth c H locs cells slots Q (F0 m pc ls (.ref (eA E r) :: rest)) := m_getN G hM hr hc hF hw d hn kk
theorem r_getLN (G : CallFix p m c cc nL s args mTs own) (hM : mM A E 257 σ s H locs) {r ci k n : Nat} {C host : String} {T : u_T} (hr : r < 257) (hc : isC r ci) (hF : mFld ci k 1 n C T) {ix : Nat} (hw : Cond.fieldLinkNest own ix (T k).1 (T k).2.1 (T k).2.2.1 host ∈ mTs) (d : decode cc pc = .ok (.getfield ix, 3)) (hn : pc + 3 = np)
    (kk : W p l e R s m args below meth c H locs cells slots Q (F0 m np ls (vL (σ r k) :: rest))) : W p l e R s m args below meth c H locs cells slots Q (F0 m pc ls (.ref (eA E r) :: rest)) := m_getN G hM hr hc hF hw d hn kk
theorem r_getRN (G : CallFix p m c cc nL s args mTs own) (hM : mM A E 257 σ s H locs) {r r2 ci k n : Nat} {C host : String} {T : u_T} (hr : r < 257) (hc : isC r ci) (h2 : σ r k ≠ 0 ∧ r2 = (σ r k).toNat) (hF : mFld ci k 2 n C T) {ix : Nat} (hw : Cond.fieldLinkNest own ix (T k).1 (T k).2.1 (T k).2.2.1 host ∈ mTs) (d : decode cc pc = .ok (.getfield ix, 3)) (hn : pc + 3 = np)
    (kk : W p l e R s m args below meth c H locs cells slots Q (F0 m np ls (.ref (eA E r2) :: rest))) : W p l e R s m args below meth c H locs cells slots Q (F0 m pc ls (.ref (eA E r) :: rest)) := m_getN G hM hr hc hF hw d hn (by rw [show mV E 2 (σ r k) = va_rf (mRf E (σ r k)) from rfl, rf_ne h2]; exact kk)
theorem r_putI (G : CallFix p m c cc nL s args mTs own) (hM : mM A E 257 σ s H locs) {r ci k n : Nat} {C : String} {T : u_T} {ty0 : Nat → FieldType} (hr : r < 257) (hc : isC r ci) (hF : mPut ci k 0 n C T ty0 .int) (hfin : (T k).2.2.2 = false) {ix : Nat} (hw : Cond.fieldLink own ix (T k).1 (T k).2.1 (T k).2.2.1 ∈ mTs) {x : Int} (σ2 : mSt) (hσ : σ2 = upS σ r k x) (d : decode cc pc = .ok (.putfield ix, 3)) (hn : pc + 3 = np)
    (kk : ∀ (H1 : Heap) (locs1 : List Loc), mM A E 257 σ2 s H1 locs1 → W p l e R s m args below meth c H1 locs1 cells slots Q (F0 m np ls rest)) : W p l e R s m args below meth c H locs cells slots Q (F0 m pc ls (vI x :: .ref (eA E r) :: rest)) := m_put G hM hr hc hF hfin hw rfl (vp_nar_int _) rfl σ2 hσ d hn kk
theorem r_putZ (G : CallFix p m c cc nL s args mTs own) (hM : mM A E 257 σ s H locs) {r ci k n : Nat} {C : String} {T : u_T} {ty0 : Nat → FieldType} (hr : r < 257) (hc : isC r ci) (hF : mPut ci k 0 n C T ty0 .boolean) (hfin : (T k).2.2.2 = false) {ix : Nat} (hw : Cond.fieldLink own ix (T k).1 (T k).2.1 (T k).2.2.1 ∈ mTs) {x : Int} (h01 : x = 0 ∨ x = 1) (σ2 : mSt) (hσ : σ2 = upS σ r k x) (d : decode cc pc = .ok (.putfield ix, 3)) (hn : pc + 3 = np)
    (kk : ∀ (H1 : Heap) (locs1 : List Loc), mM A E 257 σ2 s H1 locs1 → W p l e R s m args below meth c H1 locs1 cells slots Q (F0 m np ls rest)) : W p l e R s m args below meth c H locs cells slots Q (F0 m pc ls (vI x :: .ref (eA E r) :: rest)) := m_put G hM hr hc hF hfin hw rfl (by rcases h01 with rfl | rfl <;> decide) (by rcases h01 with rfl | rfl <;> decide) σ2 hσ d hn kk
theorem r_putL (G : CallFix p m c cc nL s args mTs own) (hM : mM A E 257 σ s H locs) {r ci k n : Nat} {C : String} {T : u_T} {ty0 : Nat → FieldType} (hr : r < 257) (hc : isC r ci) (hF : mPut ci k 1 n C T ty0 .long) (hfin : (T k).2.2.2 = false) {ix : Nat} (hw : Cond.fieldLink own ix (T k).1 (T k).2.1 (T k).2.2.1 ∈ mTs) {x : Int} (σ2 : mSt) (hσ : σ2 = upS σ r k x) (d : decode cc pc = .ok (.putfield ix, 3)) (hn : pc + 3 = np)
    (kk : ∀ (H1 : Heap) (locs1 : List Loc), mM A E 257 σ2 s H1 locs1 → W p l e R s m args below meth c H1 locs1 cells slots Q (F0 m np ls rest)) : W p l e R s m args below meth c H locs cells slots Q (F0 m pc ls (vL x :: .ref (eA E r) :: rest)) := m_put G hM hr hc hF hfin hw rfl rfl rfl σ2 hσ d hn kk
/-- a reference is written: its object is no null -/
theorem r_putR (G : CallFix p m c cc nL s args mTs own) (hM : mM A E 257 σ s H locs) {r r2 ci k n : Nat} {C : String} {T : u_T} {ty0 : Nat → FieldType} {ty : FieldType} (hr : r < 257) (hc : isC r ci) (hF : mPut ci k 2 n C T ty0 ty) (hfin : (T k).2.2.2 = false) {ix : Nat} (hw : Cond.fieldLink own ix (T k).1 (T k).2.1 (T k).2.2.1 ∈ mTs) (h0 : r2 ≠ 0) (h1 : ∀ a, narrow ty (.ref a) = .ref a) (h2 : ∀ a, fits ty (.ref a) = true) (σ2 : mSt) (hσ : σ2 = upS σ r k (r2 : Int)) (d : decode cc pc = .ok (.putfield ix, 3)) (hn : pc + 3 = np)
    (kk : ∀ (H1 : Heap) (locs1 : List Loc), mM A E 257 σ2 s H1 locs1 → W p l e R s m args below meth c H1 locs1 cells slots Q (F0 m np ls rest)) : W p l e R s m args below meth c H locs cells slots Q (F0 m pc ls (.ref (eA E r2) :: .ref (eA E r) :: rest)) :=
  m_put G hM hr hc hF hfin hw (by rw [show mV E 2 (r2 : Int) = va_rf (mRf E (r2 : Int)) from rfl, rf_ne (r := r2) ⟨by omega, by simp⟩]) (h1 _) (h2 _) σ2 hσ d hn kk
theorem r_iaload (G : CallFix p m c cc nL s args mTs own) (hM : mM A E 257 σ s H locs) {r k : Nat} {j : Int} (h : ixOK r 20 j) (hk : (wI j).toNat = k) (d : decode cc pc = .ok (.iaload, 1)) (hn : pc + 1 = np)
    (kk : W p l e R s m args below meth c H locs cells slots Q (F0 m np ls (vI (σ r k) :: rest))) : W p l e R s m args below meth c H locs cells slots Q (F0 m pc ls (vI j :: .ref (eA E r) :: rest)) := by
  subst hn
  subst hk
  exact va_iald (n := (shp r).2) (f := fun k => Int32.ofInt (σ r k)) G.1 G.2.1 hM.2.1 hM.2.2.2.1 r 0 ((wl_get (shp_lt h.1 (by decide))).trans (by rw [mEnt_int h.1])) rfl (ix_in h rfl) d kk
theorem r_laload (G : CallFix p m c cc nL s args mTs own) (hM : mM A E 257 σ s H locs) {r k : Nat} {j : Int} (h : ixOK r 21 j) (hk : (wI j).toNat = k) (d : decode cc pc = .ok (.laload, 1)) (hn : pc + 1 = np)
    (kk : W p l e R s m args below meth c H locs cells slots Q (F0 m np ls (vL (σ r k) :: rest))) : W p l e R s m args below meth c H locs cells slots Q (F0 m pc ls (vI j :: .ref (eA E r) :: rest)) := by
  subst hn
  subst hk
  exact va_lald (n := (shp r).2) (f := fun k => Int64.ofInt (σ r k)) G.1 G.2.1 hM.2.1 hM.2.2.2.1 r 1 ((wl_get (shp_lt h.1 (by decide))).trans (by rw [mEnt_long h.1])) rfl (ix_in h rfl) d kk
theorem r_baload (G : CallFix p m c cc nL s args mTs own) (hM : mM A E 257 σ s H locs) {r k : Nat} {j : Int} (h : ixOK r 22 j) (hk : (wI j).toNat = k) (d : decode cc pc = .ok (.baload, 1)) (hn : pc + 1 = np)
    (kk : W p l e R s m args below meth c H locs cells slots Q (F0 m np ls (vI (σ r k) :: rest))) : W p l e R s m args below meth c H locs cells slots Q (F0 m pc ls (vI j :: .ref (eA E r) :: rest)) := by
  subst hn
  subst hk
  exact va_bald (n := (shp r).2) (f := fun k => Int32.ofInt (σ r k)) G.1 G.2.1 hM.2.1 hM.2.2.2.1 r 2 ((wl_get (shp_lt h.1 (by decide))).trans (by rw [mEnt_byte h.1])) rfl (ix_in h rfl) d kk
theorem r_aaload (G : CallFix p m c cc nL s args mTs own) (hM : mM A E 257 σ s H locs) {r r2 t k : Nat} {j : Int} {ty : FieldType} (h : ixOK r (20 + t) j) (hk : (wI j).toNat = k) (ht3 : 3 ≤ t ∧ t < 8) (hty : (mTys E)[t]? = some (eT E t, ty)) (hir : ty.isReference = true) (h2 : σ r k ≠ 0 ∧ r2 = (σ r k).toNat) (d : decode cc pc = .ok (.aaload, 1)) (hn : pc + 1 = np)
    (kk : W p l e R s m args below meth c H locs cells slots Q (F0 m np ls (.ref (eA E r2) :: rest))) : W p l e R s m args below meth c H locs cells slots Q (F0 m pc ls (vI j :: .ref (eA E r) :: rest)) := by
  subst hn
  subst hk
  have hr : r < 257 := shp_lt h.1 (by omega)
  have hin := ix_in h rfl
  have hlt : (Int32.ofInt j).toNatClampNeg < (shp r).2 := Nat.not_le.mp fun q => hin (Or.inr q)
  have ha := (wl_get (σ := σ) (E := E) hr).trans (by rw [mEnt_refs h.1 ht3.1])
  refine W.aald (v := .ref (eA E r2)) (ty := ty) G.1 G.2.1 (hM.2.2.2.1 r _ ha) ((hM.2.1.2 t _ hty).1 (shp r).2 (fun j => va_rf (mRf E (σ r j)))) hir (fun q => by cases q) (by show ¬ (_ ∨ (arrV _ _ _).slots.size ≤ _); rw [arrV_size]; exact hin) ?_ rfl rfl d kk
  show (arrV _ _ _).slots[_]? = _
  rw [arrV_read _ _ hlt]
  exact congrArg some (rf_ne h2)
theorem r_iastore (G : CallFix p m c cc nL s args mTs own) (hM : mM A E 257 σ s H locs) {r k : Nat} {j x : Int} (h : ixOK r 20 j) (hk : (wI j).toNat = k) (σ2 : mSt) (hσ : σ2 = upS σ r k x) (d : decode cc pc = .ok (.iastore, 1)) (hn : pc + 1 = np)
    (kk : ∀ (H1 : Heap) (locs1 : List Loc), mM A E 257 σ2 s H1 locs1 → W p l e R s m args below meth c H1 locs1 cells slots Q (F0 m np ls rest)) : W p l e R s m args below meth c H locs cells slots Q (F0 m pc ls (vI x :: vI j :: .ref (eA E r) :: rest)) := by
  subst hn
  subst hk
  obtain ⟨m1, m2, m3, m4, m5, m6⟩ := hM
  have hr := shp_lt h.1 (by decide)
  refine va_iast G.1 G.2.1 m2 m4 m5 m6 r 0 ((wl_get hr).trans (by rw [mEnt_int h.1])) rfl (ix_in h rfl) d (fun H1 locs1 hP hD hS => ?_)
  rw [wl_set (σ' := σ2) hr (by
    rw [mEnt_int h.1, hσ]
    exact congrArg (fun f => (Sum.inl (eT E 0, (shp r).2, Sum.inl f) : va_E)) (upd_row σ r (wI j).toNat x)) (fun k hk => by rw [hσ]; exact upS_row hk)] at hP hD
  exact kk H1 locs1 ⟨m1, m2, m3, hP, hD, hS⟩
theorem r_bastore (G : CallFix p m c cc nL s args mTs own) (hM : mM A E 257 σ s H locs) {r k : Nat} {j x : Int} (h : ixOK r 22 j) (hk : (wI j).toNat = k) (hx : -128 ≤ x ∧ x < 128) (σ2 : mSt) (hσ : σ2 = upS σ r k x) (d : decode cc pc = .ok (.bastore, 1)) (hn : pc + 1 = np)
    (kk : ∀ (H1 : Heap) (locs1 : List Loc), mM A E 257 σ2 s H1 locs1 → W p l e R s m args below meth c H1 locs1 cells slots Q (F0 m np ls rest)) : W p l e R s m args below meth c H locs cells slots Q (F0 m pc ls (vI x :: vI j :: .ref (eA E r) :: rest)) := by
  subst hn
  subst hk
  obtain ⟨m1, m2, m3, m4, m5, m6⟩ := hM
  have hr := shp_lt h.1 (by decide)
  refine va_bast G.1 G.2.1 m2 m4 m5 m6 r 2 ((wl_get hr).trans (by rw [mEnt_byte h.1])) rfl (ix_in h rfl) d (fun H1 locs1 hP hD hS => ?_)
  have hnar : vp_nar .byte (Int32.ofInt x) = Int32.ofInt x := by
    rw [vp_nar_byte]
    apply Int32.toInt_inj.mp
    rw [Int32.toInt8_ofInt, Int8.toInt_toInt32, Int8.toInt_ofInt_of_le (by omega) (by omega), Int32.toInt_ofInt_of_le (by omega) (by omega)]
  rw [wl_set (σ' := σ2) hr (by
    rw [mEnt_byte h.1, hσ, hnar]
    exact congrArg (fun f => (Sum.inl (eT E 2, (shp r).2, Sum.inl f) : va_E)) (upd_row σ r (wI j).toNat x)) (fun k hk => by rw [hσ]; exact upS_row hk)] at hP hD
  exact kk H1 locs1 ⟨m1, m2, m3, hP, hD, hS⟩
theorem r_lastore (G : CallFix p m c cc nL s args mTs own) (hM : mM A E 257 σ s H locs) {r k : Nat} {j x : Int} (h : ixOK r 21 j) (hk : (wI j).toNat = k) (σ2 : mSt) (hσ : σ2 = upS σ r k x) (d : decode cc pc = .ok (.lastore, 1)) (hn : pc + 1 = np)
    (kk : ∀ (H1 : Heap) (locs1 : List Loc), mM A E 257 σ2 s H1 locs1 → W p l e R s m args below meth c H1 locs1 cells slots Q (F0 m np ls rest)) : W p l e R s m args below meth c H locs cells slots Q (F0 m pc ls (vL x :: vI j :: .ref (eA E r) :: rest)) := by
  subst hn
  subst hk
  obtain ⟨m1, m2, m3, m4, m5, m6⟩ := hM
  have hr := shp_lt h.1 (by decide)
  refine va_last G.1 G.2.1 m2 m4 m5 m6 r 1 ((wl_get hr).trans (by rw [mEnt_long h.1])) rfl (ix_in h rfl) d (fun H1 locs1 hP hD hS => ?_)
  rw [wl_set (σ' := σ2) hr (by
    rw [mEnt_long h.1, hσ]
    exact congrArg (fun f => (Sum.inl (eT E 1, (shp r).2, Sum.inr (Sum.inl f)) : va_E)) (updL_row σ r (wI j).toNat x)) (fun k hk => by rw [hσ]; exact upS_row hk)] at hP hD
  exact kk H1 locs1 ⟨m1, m2, m3, hP, hD, hS⟩
theorem r_alen (G : CallFix p m c cc nL s args mTs own) (hM : mM A E 257 σ s H locs) {r : Nat} (h : (shp r).1 = 20 ∨ (shp r).1 = 21 ∨ (shp r).1 = 22) (d : decode cc pc = .ok (.arraylength, 1)) (hn : pc + 1 = np)
    (kk : W p l e R s m args below meth c H locs cells slots Q (F0 m np ls (vI ((shp r).2 : Int) :: rest))) : W p l e R s m args below meth c H locs cells slots Q (F0 m pc ls (.ref (eA E r) :: rest)) := by
  subst hn
  rcases h with h | h | h
  · have ha := (wl_get (σ := σ) (E := E) (shp_lt h (by decide))).trans (by rw [mEnt_int h])
    exact va_alen (v := Int32.ofInt ((shp r).2 : Int)) G.1 G.2.1 hM.2.1 hM.2.2.2.1 r 0 ha rfl Int32.ofInt_eq_ofNat.symm d kk
  · have ha := (wl_get (σ := σ) (E := E) (shp_lt h (by decide))).trans (by rw [mEnt_long h])
    exact va_alen (v := Int32.ofInt ((shp r).2 : Int)) G.1 G.2.1 hM.2.1 hM.2.2.2.1 r 1 ha rfl Int32.ofInt_eq_ofNat.symm d kk
  · have ha := (wl_get (σ := σ) (E := E) (shp_lt h (by decide))).trans (by rw [mEnt_byte h])
    exact va_alen (v := Int32.ofInt ((shp r).2 : Int)) G.1 G.2.1 hM.2.1 hM.2.2.2.1 r 2 ha rfl Int32.ofInt_eq_ofNat.symm d kk
end MH
end
section
/-! ENTRY, CALLS, ENDS -/
abbrev mGo (l : Launch) (p : Program) (e : Env) (fr lo : Nat) (s : State) (m : MethodId) (args : Array Value) (below : List Frame) (meth : Method) (c : Code) (E : mE) (v : Option Value) (σ2 : mSt) (H : Heap) (locs : List Loc) (g : JFrame) : Prop := W p l e ({ frames := fr, cells := 0, slots := 0, locals := lo } : Room) s m args below meth c H locs 0 0 (MQ below (mQ E 257 v σ2) args s 0 0 (mA E 257)) g
def mY (y : MethodName) (cc : ByteArray) (maxL : Nat) (ret : Option FieldType) (n : Nat) : Prop := Cond.code y cc maxL ret ∈ mTs ∧ Cond.initialized y.cls ∈ mTs ∧ (y.cls ≠ "java/lang/invoke/MethodHandle" ∧ y.cls ≠ "java/lang/invoke/VarHandle") ∧ (parseMethodDescriptor y.desc).map (fun d => d.parameters.length) = some n
def mYV (y : MethodName) (cc : ByteArray) (maxL : Nat) (ret : Option FieldType) (n : Nat) : Prop := mY y cc maxL ret n ∧ Cond.instanceMethod y ∈ mTs ∧ Cond.selects y.cls y y ∈ mTs
def mYS (y : MethodName) (cc : ByteArray) (maxL : Nat) (ret : Option FieldType) (n : Nat) : Prop := mY y cc maxL ret n ∧ Cond.static y ∈ mTs
theorem mY.len {y : MethodName} {cc : ByteArray} {maxL n : Nat} {ret : Option FieldType} (h : mY y cc maxL ret n) : ∀ sig, parseMethodDescriptor y.desc = some sig → n = sig.parameters.length := by
  intro sig hs
  have h2 := h.2.2.2
  rw [hs] at h2
  exact (Option.some.inj h2).symm
section MC
variable {p : Program} {l : Launch} {e : Env} {R : Room} {s : State} {m : MethodId} {args : Array Value} {below : List Frame} {meth : Method} {c : Code} {H : Heap} {locs : List Loc} {cells slots : Nat} {Q : State → Prop}
variable {cc : ByteArray} {pc np nL : Nat} {ls : Array Slot} {rest st : List Value} {own : String} {A : Nat → Prop} {E : mE} {σ σ2 : mSt}
theorem m_entry {y : MethodName} {maxL fr lo : Nat} {ret : Option FieldType} {As : List Value} {v : Option Value} (hy : plainName y.cls = true) (hA : (lg_sl As).length ≤ maxL)
    (body : ∀ (p : Program) (e : Env) (s : State) (m : MethodId) (args : Array Value) (below : List Frame) (meth : Method) (c : Code) (_ : CallFix p m c cc maxL s args mTs y.cls) (_ : meth.sig.returnType = ret) (_ : meth.locks = false) (_ : mM (mA E 257) E 257 σ s s.heap []) (ls : Array Slot) (_ : lv_has ls maxL (lv_args 0 As)),
      W p l e ({ frames := fr, cells := 0, slots := 0, locals := lo } : Room) s m args below meth c s.heap [] 0 0 (MQ below (mQ E 257 v σ2) args s 0 0 (mA E 257)) (F0 m 0 ls [])) : mMet l y cc maxL ret fr lo E 257 As σ v σ2 := by
  refine Met.ofW (cc := cc) (maxL := maxL) (ret := ret) hy rfl ?_
  intro p e s m args below meth c s₁ B hml hv
  obtain ⟨rfl, w1, w2, w3, w4, w5⟩ := hv
  rw [lg_entry_eq]
  exact body p e s m _ below meth c ⟨B.exec, B.bytes, hml, findClass_of_methodNamed B.named, mWords.use w1⟩ B.returns B.notSynchronized ⟨w1, w2, w3, w4, w5, va_S.rf⟩ _ (lv_entry As hA)
theorem m_entryF {y : MethodName} {maxL fr lo : Nat} {ret : Option FieldType} {As : List Value} {v : Option Value} (hy : plainFor y = true) (hA : (lg_sl As).length ≤ maxL)
    (body : ∀ (p : Program) (e : Env) (s : State) (m : MethodId) (args : Array Value) (below : List Frame) (meth : Method) (c : Code) (_ : CallFix p m c cc maxL s args mTs y.cls) (_ : meth.sig.returnType = ret) (_ : meth.locks = false) (_ : mM (mA E 257) E 257 σ s s.heap []) (ls : Array Slot) (_ : lv_has ls maxL (lv_args 0 As)),
      W p l e ({ frames := fr, cells := 0, slots := 0, locals := lo } : Room) s m args below meth c s.heap [] 0 0 (MQ below (mQ E 257 v σ2) args s 0 0 (mA E 257)) (F0 m 0 ls [])) : mMet l y cc maxL ret fr lo E 257 As σ v σ2 := by
  refine va_MetF (cc := cc) (maxL := maxL) (ret := ret) hy rfl ?_
  intro p e s m args below meth c s₁ B hml hv
  obtain ⟨rfl, w1, w2, w3, w4, w5⟩ := hv
  rw [lg_entry_eq]
  exact body p e s m _ below meth c ⟨B.exec, B.bytes, hml, findClass_of_methodNamed B.named, mWords.use w1⟩ B.returns B.notSynchronized ⟨w1, w2, w3, w4, w5, va_S.rf⟩ _ (lv_entry As hA)
theorem m_go {v : Option Value} {st0 : List Value} {a : Array Value} (hr : va_Run p l e R s m args below meth c H locs cells slots 0 0 (F0 m pc ls st0) rest (mQ E 257 v σ2 a) (mA E 257)) (hM : mM A E 257 σ s H locs)
    (kk : ∀ (H1 : Heap) (locs1 : List Loc), mM A E 257 σ2 s H1 locs1 → W p l e R s m args below meth c H1 locs1 cells slots Q (F0 m (pc + 3) ls (v.toList ++ rest))) : W p l e R s m args below meth c H locs cells slots Q (F0 m pc ls st0) := by
  intro T hT X
  obtain ⟨m1, m2, m3, m4, m5, m6⟩ := hM
  have hA : ∀ q, mA E 257 q → A q := wl_A m5
  obtain ⟨v', st₀, t, T', L, h0, X', hL, e1, e2, ⟨hv, hP, hz, hk⟩, st⟩ := hr T hT X
  cases hv
  rw [h0] at hz hk
  obtain ⟨t2, a1, b1⟩ := kk T'.heap (locs ++ L) ⟨m1, m2, m3, by rw [e1]; exact hP, wl_D m5 (fun i hi => hA _ ⟨i, hi, rfl⟩), Nat.le_trans m6.1 (by rw [e1]; exact hz), fun q h1 h2 => by rw [e1, hk q (Nat.lt_of_lt_of_le h1 m6.1) (fun z => h2 (hA q z))]; exact m6.2.1 q h1 h2, fun q hq => by
      rcases List.mem_append.mp hq with h | h
      · exact m6.2.2 q h
      · exact hA _ (hL q h)⟩ T' rfl X'
  exact ⟨t2, st t2 a1, b1⟩
theorem m_recv (hM : mM A E 257 σ s H locs) {r ci n : Nat} {C : String} {T : u_T} (hr : r < 257) (hcl : isC r ci) (hcc : vwCl[ci]? = some (C, T, n)) (hci : ci < 12) : ∃ cell : Cell, H[eA E r]? = some cell ∧ cell.vm.isStatics = false ∧ s.vm.findClass C = some cell.cls :=
  va_recv hM.2.1 hM.2.2.2.1 hcc ((wl_get hr).trans (by rw [mEnt_obj hcl hci]))
theorem m_rideW (G : CallFix p m c cc nL s args mTs own) {w : Cond} (hw : w ∈ mTs) : ∀ (a' : Array Value) (U : State), s.WarmedH U.vm → w.before a' U = true :=
  fun _ _ hW => mOK_ride (List.mem_filter.mp hw).2 hW (G.2.2.2.2 w hw)
theorem m_cb (G : CallFix p m c cc nL s args mTs own) {y : MethodName} {cc' : ByteArray} {maxL fr lo n ix : Nat} {ret : Option FieldType} (hY : mY y cc' maxL ret n) (hw : Cond.methodLink own ix y ∈ mTs) (hroom : fr + 1 ≤ R.frames ∧ 8 + (maxL + 11) + lo ≤ R.locals) :
    CallB R s args own ix y cc' maxL ret [.code y cc' maxL ret] ({ frames := fr, cells := 0, slots := 0, locals := lo } : Room) 0 0 n :=
  ⟨rfl, rfl, hroom.1, hroom.2, fun w h a' U hW => by rw [List.mem_singleton.mp h]; exact m_rideW G hY.1 a' U hW, List.mem_singleton.mpr rfl, G.2.2.2.2 _ hY.1, G.2.2.2.2 _ hY.2.1, hY.2.2.1, hY.len, G.2.2.2.2 _ hw⟩
theorem m_cn (G : CallFix p m c cc nL s args mTs own) {y : MethodName} {host : String} {cc' : ByteArray} {maxL fr lo n ix : Nat} {ret : Option FieldType} (hY : mY y cc' maxL ret n) (hw : Cond.methodLinkNest own ix y host ∈ mTs) (hroom : fr + 1 ≤ R.frames ∧ 8 + (maxL + 11) + lo ≤ R.locals) :
    va_CN R s args own ix y host cc' maxL ret [.code y cc' maxL ret] ({ frames := fr, cells := 0, slots := 0, locals := lo } : Room) 0 0 n :=
  ⟨⟨rfl, rfl, hroom.1, hroom.2, fun w h a' U hW => by rw [List.mem_singleton.mp h]; exact m_rideW G hY.1 a' U hW, List.mem_singleton.mpr rfl⟩, G.2.2.2.2 _ hY.1, G.2.2.2.2 _ hY.2.1, hY.2.2.1, hY.len, G.2.2.2.2 _ hw⟩
theorem m_callV (G : CallFix p m c cc nL s args mTs own) (hM : mM A E 257 σ s H locs) (hls : ls.size = nL) {y : MethodName} {cc' : ByteArray} {maxL fr lo r ci n ix : Nat} {ret : Option FieldType} {As : List Value} {v : Option Value} {T : u_T} (hc : mMet l y cc' maxL ret fr lo E 257 (.ref (eA E r) :: As) σ v σ2) (hY : mYV y cc' maxL ret As.length) (hr : r < 257) (hcl : isC r ci) (hcc : vwCl[ci]? = some (y.cls, T, n)) (hci : ci < 12) (hw : Cond.methodLink own ix y ∈ mTs) (hroom : fr + 1 ≤ R.frames ∧ 8 + (maxL + 11) + lo ≤ R.locals) (hcs : cells ≤ R.cells ∧ slots ≤ R.slots)
    (hst : st = As.reverse ++ .ref (eA E r) :: rest) (hcat : (rest.map fun v => v.category).sum ≤ 8) (d : decode cc pc = .ok (.invokevirtual ix, 3)) (hn : pc + 3 = np)
    (kk : ∀ (H1 : Heap) (locs1 : List Loc), mM A E 257 σ2 s H1 locs1 → W p l e R s m args below meth c H1 locs1 cells slots Q (F0 m np ls (v.toList ++ rest))) : W p l e R s m args below meth c H locs cells slots Q (F0 m pc ls st) := by
  subst hn
  subst hst
  exact m_go (va_runV (As := As) (rest := rest) G hc ⟨m_cb G hY.1 hw hroom, G.2.2.2.2 _ hY.2.1, G.2.2.2.2 _ hY.2.2⟩ ⟨mPre.blind, m_recv hM hr hcl hcc hci, fun U hU hW => ⟨rfl, hM.pre hU hW⟩⟩ rfl rfl hls rfl (lv_room hcat) d hcs) hM kk
theorem m_callS (G : CallFix p m c cc nL s args mTs own) (hM : mM A E 257 σ s H locs) (hls : ls.size = nL) {y : MethodName} {cc' : ByteArray} {maxL fr lo ix : Nat} {ret : Option FieldType} {As : List Value} {v : Option Value} (hc : mMet l y cc' maxL ret fr lo E 257 As σ v σ2) (hY : mYS y cc' maxL ret As.length) (hw : Cond.methodLink own ix y ∈ mTs) (hroom : fr + 1 ≤ R.frames ∧ 8 + (maxL + 11) + lo ≤ R.locals) (hcs : cells ≤ R.cells ∧ slots ≤ R.slots)
    (hst : st = As.reverse ++ rest) (hcat : (rest.map fun v => v.category).sum ≤ 8) (d : decode cc pc = .ok (.invokestatic ix, 3)) (hn : pc + 3 = np)
    (kk : ∀ (H1 : Heap) (locs1 : List Loc), mM A E 257 σ2 s H1 locs1 → W p l e R s m args below meth c H1 locs1 cells slots Q (F0 m np ls (v.toList ++ rest))) : W p l e R s m args below meth c H locs cells slots Q (F0 m pc ls st) := by
  subst hn
  subst hst
  exact m_go (va_runS (As := As) (rest := rest) G hc ⟨m_cb G hY.1 hw hroom, G.2.2.2.2 _ hY.2⟩ ⟨mPre.blind, fun U hU hW => ⟨rfl, hM.pre hU hW⟩⟩ rfl rfl hls rfl (lv_room hcat) d hcs) hM kk
theorem m_callVI (G : CallFix p m c cc nL s args mTs own) (hM : mM A E 257 σ s H locs) (hls : ls.size = nL) {y : MethodName} {cc' : ByteArray} {maxL fr lo r ci n ix : Nat} {ret : Option FieldType} (As : List Value) {x : Int} {T : u_T} (hc : mMet l y cc' maxL ret fr lo E 257 (.ref (eA E r) :: As) σ (some (vI x)) σ2) (hY : mYV y cc' maxL ret As.length) (hr : r < 257) (hcl : isC r ci) (hcc : vwCl[ci]? = some (y.cls, T, n)) (hci : ci < 12) (hw : Cond.methodLink own ix y ∈ mTs) (hroom : fr + 1 ≤ R.frames ∧ 8 + (maxL + 11) + lo ≤ R.locals) (hcs : cells ≤ R.cells ∧ slots ≤ R.slots) (rest : List Value)
    (hst : st = As.reverse ++ .ref (eA E r) :: rest) (hcat : (rest.map fun v => v.category).sum ≤ 8) (d : decode cc pc = .ok (.invokevirtual ix, 3)) (hn : pc + 3 = np)
    (kk : ∀ (H1 : Heap) (locs1 : List Loc), mM A E 257 σ2 s H1 locs1 → W p l e R s m args below meth c H1 locs1 cells slots Q (F0 m np ls (vI x :: rest))) : W p l e R s m args below meth c H locs cells slots Q (F0 m pc ls st) := m_callV G hM hls hc hY hr hcl hcc hci hw hroom hcs hst hcat d hn kk
theorem m_callSI (G : CallFix p m c cc nL s args mTs own) (hM : mM A E 257 σ s H locs) (hls : ls.size = nL) {y : MethodName} {cc' : ByteArray} {maxL fr lo ix : Nat} {ret : Option FieldType} (As : List Value) {x : Int} (hc : mMet l y cc' maxL ret fr lo E 257 As σ (some (vI x)) σ2) (hY : mYS y cc' maxL ret As.length) (hw : Cond.methodLink own ix y ∈ mTs) (hroom : fr + 1 ≤ R.frames ∧ 8 + (maxL + 11) + lo ≤ R.locals) (hcs : cells ≤ R.cells ∧ slots ≤ R.slots) (rest : List Value)
    (hst : st = As.reverse ++ rest) (hcat : (rest.map fun v => v.category).sum ≤ 8) (d : decode cc pc = .ok (.invokestatic ix, 3)) (hn : pc + 3 = np)
    (kk : ∀ (H1 : Heap) (locs1 : List Loc), mM A E 257 σ2 s H1 locs1 → W p l e R s m args below meth c H1 locs1 cells slots Q (F0 m np ls (vI x :: rest))) : W p l e R s m args below meth c H locs cells slots Q (F0 m pc ls st) := m_callS G hM hls hc hY hw hroom hcs hst hcat d hn kk
theorem m_callVL (G : CallFix p m c cc nL s args mTs own) (hM : mM A E 257 σ s H locs) (hls : ls.size = nL) {y : MethodName} {cc' : ByteArray} {maxL fr lo r ci n ix : Nat} {ret : Option FieldType} (As : List Value) {x : Int} {T : u_T} (hc : mMet l y cc' maxL ret fr lo E 257 (.ref (eA E r) :: As) σ (some (vL x)) σ2) (hY : mYV y cc' maxL ret As.length) (hr : r < 257) (hcl : isC r ci) (hcc : vwCl[ci]? = some (y.cls, T, n)) (hci : ci < 12) (hw : Cond.methodLink own ix y ∈ mTs) (hroom : fr + 1 ≤ R.frames ∧ 8 + (maxL + 11) + lo ≤ R.locals) (hcs : cells ≤ R.cells ∧ slots ≤ R.slots) (rest : List Value)
    (hst : st = As.reverse ++ .ref (eA E r) :: rest) (hcat : (rest.map fun v => v.category).sum ≤ 8) (d : decode cc pc = .ok (.invokevirtual ix, 3)) (hn : pc + 3 = np)
    (kk : ∀ (H1 : Heap) (locs1 : List Loc), mM A E 257 σ2 s H1 locs1 → W p l e R s m args below meth c H1 locs1 cells slots Q (F0 m np ls (vL x :: rest))) : W p l e R s m args below meth c H locs cells slots Q (F0 m pc ls st) := m_callV G hM hls hc hY hr hcl hcc hci hw hroom hcs hst hcat d hn kk
theorem m_callSL (G : CallFix p m c cc nL s args mTs own) (hM : mM A E 257 σ s H locs) (hls : ls.size = nL) {y : MethodName} {cc' : ByteArray} {maxL fr lo ix : Nat} {ret : Option FieldType} (As : List Value) {x : Int} (hc : mMet l y cc' maxL ret fr lo E 257 As σ (some (vL x)) σ2) (hY : mYS y cc' maxL ret As.length) (hw : Cond.methodLink own ix y ∈ mTs) (hroom : fr + 1 ≤ R.frames ∧ 8 + (maxL + 11) + lo ≤ R.locals) (hcs : cells ≤ R.cells ∧ slots ≤ R.slots) (rest : List Value)
    (hst : st = As.reverse ++ rest) (hcat : (rest.map fun v => v.category).sum ≤ 8) (d : decode cc pc = .ok (.invokestatic ix, 3)) (hn : pc + 3 = np)
    (kk : ∀ (H1 : Heap) (locs1 : List Loc), mM A E 257 σ2 s H1 locs1 → W p l e R s m args below meth c H1 locs1 cells slots Q (F0 m np ls (vL x :: rest))) : W p l e R s m args below meth c H locs cells slots Q (F0 m pc ls st) := m_callS G hM hls hc hY hw hroom hcs hst hcat d hn kk
theorem m_callVR (G : CallFix p m c cc nL s args mTs own) (hM : mM A E 257 σ s H locs) (hls : ls.size = nL) {y : MethodName} {cc' : ByteArray} {maxL fr lo r ci n ix : Nat} {ret : Option FieldType} (As : List Value) {x : Nat} {T : u_T} (hc : mMet l y cc' maxL ret fr lo E 257 (.ref (eA E r) :: As) σ (some (.ref (eA E x))) σ2) (hY : mYV y cc' maxL ret As.length) (hr : r < 257) (hcl : isC r ci) (hcc : vwCl[ci]? = some (y.cls, T, n)) (hci : ci < 12) (hw : Cond.methodLink own ix y ∈ mTs) (hroom : fr + 1 ≤ R.frames ∧ 8 + (maxL + 11) + lo ≤ R.locals) (hcs : cells ≤ R.cells ∧ slots ≤ R.slots) (rest : List Value)
    (hst : st = As.reverse ++ .ref (eA E r) :: rest) (hcat : (rest.map fun v => v.category).sum ≤ 8) (d : decode cc pc = .ok (.invokevirtual ix, 3)) (hn : pc + 3 = np)
    (kk : ∀ (H1 : Heap) (locs1 : List Loc), mM A E 257 σ2 s H1 locs1 → W p l e R s m args below meth c H1 locs1 cells slots Q (F0 m np ls (.ref (eA E x) :: rest))) : W p l e R s m args below meth c H locs cells slots Q (F0 m pc ls st) := m_callV G hM hls hc hY hr hcl hcc hci hw hroom hcs hst hcat d hn kk
theorem m_callSR (G : CallFix p m c cc nL s args mTs own) (hM : mM A E 257 σ s H locs) (hls : ls.size = nL) {y : MethodName} {cc' : ByteArray} {maxL fr lo ix : Nat} {ret : Option FieldType} (As : List Value) {x : Nat} (hc : mMet l y cc' maxL ret fr lo E 257 As σ (some (.ref (eA E x))) σ2) (hY : mYS y cc' maxL ret As.length) (hw : Cond.methodLink own ix y ∈ mTs) (hroom : fr + 1 ≤ R.frames ∧ 8 + (maxL + 11) + lo ≤ R.locals) (hcs : cells ≤ R.cells ∧ slots ≤ R.slots) (rest : List Value)
    (hst : st = As.reverse ++ rest) (hcat : (rest.map fun v => v.category).sum ≤ 8) (d : decode cc pc = .ok (.invokestatic ix, 3)) (hn : pc + 3 = np)
    (kk : ∀ (H1 : Heap) (locs1 : List Loc), mM A E 257 σ2 s H1 locs1 → W p l e R s m args below meth c H1 locs1 cells slots Q (F0 m np ls (.ref (eA E x) :: rest))) : W p l e R s m args below meth c H locs cells slots Q (F0 m pc ls st) := m_callS G hM hls hc hY hw hroom hcs hst hcat d hn kk
theorem m_callVV (G : CallFix p m c cc nL s args mTs own) (hM : mM A E 257 σ s H locs) (hls : ls.size = nL) {y : MethodName} {cc' : ByteArray} {maxL fr lo r ci n ix : Nat} {ret : Option FieldType} (As : List Value) {T : u_T} (hc : mMet l y cc' maxL ret fr lo E 257 (.ref (eA E r) :: As) σ none σ2) (hY : mYV y cc' maxL ret As.length) (hr : r < 257) (hcl : isC r ci) (hcc : vwCl[ci]? = some (y.cls, T, n)) (hci : ci < 12) (hw : Cond.methodLink own ix y ∈ mTs) (hroom : fr + 1 ≤ R.frames ∧ 8 + (maxL + 11) + lo ≤ R.locals) (hcs : cells ≤ R.cells ∧ slots ≤ R.slots) (rest : List Value)
    (hst : st = As.reverse ++ .ref (eA E r) :: rest) (hcat : (rest.map fun v => v.category).sum ≤ 8) (d : decode cc pc = .ok (.invokevirtual ix, 3)) (hn : pc + 3 = np)
    (kk : ∀ (H1 : Heap) (locs1 : List Loc), mM A E 257 σ2 s H1 locs1 → W p l e R s m args below meth c H1 locs1 cells slots Q (F0 m np ls rest)) : W p l e R s m args below meth c H locs cells slots Q (F0 m pc ls st) := m_callV G hM hls hc hY hr hcl hcc hci hw hroom hcs hst hcat d hn kk
theorem m_callSV (G : CallFix p m c cc nL s args mTs own) (hM : mM A E 257 σ s H locs) (hls : ls.size = nL) {y : MethodName} {cc' : ByteArray} {maxL fr lo ix : Nat} {ret : Option FieldType} (As : List Value) (hc : mMet l y cc' maxL ret fr lo E 257 As σ none σ2) (hY : mYS y cc' maxL ret As.length) (hw : Cond.methodLink own ix y ∈ mTs) (hroom : fr + 1 ≤ R.frames ∧ 8 + (maxL + 11) + lo ≤ R.locals) (hcs : cells ≤ R.cells ∧ slots ≤ R.slots) (rest : List Value)
    (hst : st = As.reverse ++ rest) (hcat : (rest.map fun v => v.category).sum ≤ 8) (d : decode cc pc = .ok (.invokestatic ix, 3)) (hn : pc + 3 = np)
    (kk : ∀ (H1 : Heap) (locs1 : List Loc), mM A E 257 σ2 s H1 locs1 → W p l e R s m args below meth c H1 locs1 cells slots Q (F0 m np ls rest)) : W p l e R s m args below meth c H locs cells slots Q (F0 m pc ls st) := m_callS G hM hls hc hY hw hroom hcs hst hcat d hn kk
/-! ends -/
theorem r_iret (G : CallFix p m c cc nL s args mTs own) (hr : meth.sig.returnType = some .int) (hlk : meth.locks = false) (hM : mM (mA E 257) E 257 σ s H locs) {x : Int} {out : Int × mSt} (h : some (x, σ) = some out) (d : decode cc pc = .ok (.ireturn, 1)) : W p l e R s m args below meth c H locs cells slots (MQ below (mQ E 257 (some (vI out.1)) out.2) args s cells slots (mA E 257)) (F0 m pc ls [vI x]) := by
  cases h
  exact W.iret G.1 G.2.1 hr (fun t ht _ => ⟨rfl, by rw [ht]; exact hM.2.2.2.1, hM.2.2.2.2.2.F ht⟩) hM.2.2.2.2.2.2.2 d hlk
theorem r_zret (G : CallFix p m c cc nL s args mTs own) (hr : meth.sig.returnType = some .boolean) (hlk : meth.locks = false) (hM : mM (mA E 257) E 257 σ s H locs) {x : Int} {out : Int × mSt} (h01 : x = 0 ∨ x = 1) (h : some (x, σ) = some out) (d : decode cc pc = .ok (.ireturn, 1)) : W p l e R s m args below meth c H locs cells slots (MQ below (mQ E 257 (some (vI out.1)) out.2) args s cells slots (mA E 257)) (F0 m pc ls [vI x]) := by
  cases h
  exact W.zret G.1 G.2.1 hr (by rcases h01 with rfl | rfl <;> decide) (fun t ht _ => ⟨rfl, by rw [ht]; exact hM.2.2.2.1, hM.2.2.2.2.2.F ht⟩) hM.2.2.2.2.2.2.2 d hlk
theorem r_bret (G : CallFix p m c cc nL s args mTs own) (hr : meth.sig.returnType = some .byte) (hlk : meth.locks = false) (hM : mM (mA E 257) E 257 σ s H locs) {x : Int} {out : Int × mSt} (hx : -128 ≤ x ∧ x < 128) (h : some (x, σ) = some out) (d : decode cc pc = .ok (.ireturn, 1)) : W p l e R s m args below meth c H locs cells slots (MQ below (mQ E 257 (some (vI out.1)) out.2) args s cells slots (mA E 257)) (F0 m pc ls [vI x]) := by
  cases h
  refine W.zret G.1 G.2.1 hr ?_ (fun t ht _ => ⟨rfl, by rw [ht]; exact hM.2.2.2.1, hM.2.2.2.2.2.F ht⟩) hM.2.2.2.2.2.2.2 d hlk
  have e : Int32.ofInt x = (Int32.ofInt x).toInt8.toInt32 := by
    apply Int32.toInt_inj.mp
    rw [Int32.toInt8_ofInt, Int8.toInt_toInt32, Int8.toInt_ofInt_of_le (by omega) (by omega), Int32.toInt_ofInt_of_le (by omega) (by omega)]
  rw [e]
  exact pk_nb _
theorem r_lret (G : CallFix p m c cc nL s args mTs own) (hr : meth.sig.returnType = some .long) (hlk : meth.locks = false) (hM : mM (mA E 257) E 257 σ s H locs) {x : Int} {out : Int × mSt} (h : some (x, σ) = some out) (d : decode cc pc = .ok (.lreturn, 1)) : W p l e R s m args below meth c H locs cells slots (MQ below (mQ E 257 (some (vL out.1)) out.2) args s cells slots (mA E 257)) (F0 m pc ls [vL x]) := by
  cases h
  exact W.lret G.1 G.2.1 hr (fun t ht _ => ⟨rfl, by rw [ht]; exact hM.2.2.2.1, hM.2.2.2.2.2.F ht⟩) hM.2.2.2.2.2.2.2 d hlk
theorem r_vret (G : CallFix p m c cc nL s args mTs own) (hr : meth.sig.returnType = none) (hlk : meth.locks = false) (hM : mM (mA E 257) E 257 σ s H locs) {out : Int × mSt} (h : some ((0 : Int), σ) = some out) (d : decode cc pc = .ok (.return_, 1)) : W p l e R s m args below meth c H locs cells slots (MQ below (mQ E 257 none out.2) args s cells slots (mA E 257)) (F0 m pc ls []) := by
  cases h
  exact W.vret G.1 G.2.1 hr (fun t ht _ => ⟨rfl, by rw [ht]; exact hM.2.2.2.1, hM.2.2.2.2.2.F ht⟩) hM.2.2.2.2.2.2.2 d hlk
theorem r_aret (G : CallFix p m c cc nL s args mTs own) {rt : FieldType} (hr : meth.sig.returnType = some rt) (hrt : (∃ n, rt = .object n) ∨ ∃ t, rt = .array t) (hlk : meth.locks = false) (hM : mM (mA E 257) E 257 σ s H locs) {r : Nat} {out : Int × mSt} (h : some ((r : Int), σ) = some out) (d : decode cc pc = .ok (.areturn, 1)) : W p l e R s m args below meth c H locs cells slots (MQ below (mQ E 257 (some (.ref (eA E out.1.toNat))) out.2) args s cells slots (mA E 257)) (F0 m pc ls [.ref (eA E r)]) := by
  cases h
  exact W.aret G.1 G.2.1 hr hrt (Or.inr ⟨_, rfl⟩) (fun t ht _ => ⟨by simp, by rw [ht]; exact hM.2.2.2.1, hM.2.2.2.2.2.F ht⟩) hM.2.2.2.2.2.2.2 d hlk
end MC
end
section
theorem myJ0_length_8abf5 : mYV yJ0_length_8abf5 cJ0_length_8abf5 1 (some .int) 0 := ⟨⟨mTs_in 458 (by decide +kernel) (by decide +kernel), mTs_in 43 (by decide +kernel) (by decide +kernel), ⟨by decide, by decide⟩, by decide +kernel⟩, mTs_in 456 (by decide +kernel) (by decide +kernel), mTs_in 457 (by decide +kernel) (by decide +kernel)⟩
theorem myJ0_charAt_5068e : mYV yJ0_charAt_5068e cJ0_charAt_5068e 2 (some .char) 1 := ⟨⟨mTs_in 468 (by decide +kernel) (by decide +kernel), mTs_in 43 (by decide +kernel) (by decide +kernel), ⟨by decide, by decide⟩, by decide +kernel⟩, mTs_in 466 (by decide +kernel) (by decide +kernel), mTs_in 467 (by decide +kernel) (by decide +kernel)⟩
theorem myJ0_coder_7d493 : mYV yJ0_coder_7d493 cJ0_coder_7d493 1 (some .byte) 0 := ⟨⟨mTs_in 462 (by decide +kernel) (by decide +kernel), mTs_in 43 (by decide +kernel) (by decide +kernel), ⟨by decide, by decide⟩, by decide +kernel⟩, mTs_in 460 (by decide +kernel) (by decide +kernel), mTs_in 461 (by decide +kernel) (by decide +kernel)⟩
theorem myJ0_isLatin1_aae02 : mYV yJ0_isLatin1_aae02 cJ0_isLatin1_aae02 1 (some .boolean) 0 := ⟨⟨mTs_in 472 (by decide +kernel) (by decide +kernel), mTs_in 43 (by decide +kernel) (by decide +kernel), ⟨by decide, by decide⟩, by decide +kernel⟩, mTs_in 470 (by decide +kernel) (by decide +kernel), mTs_in 471 (by decide +kernel) (by decide +kernel)⟩
theorem myJ0_checkIndex_df160 : mYS yJ0_checkIndex_df160 cJ0_checkIndex_df160 2 none 2 := ⟨⟨mTs_in 478 (by decide +kernel) (by decide +kernel), mTs_in 43 (by decide +kernel) (by decide +kernel), ⟨by decide, by decide⟩, by decide +kernel⟩, mTs_in 477 (by decide +kernel) (by decide +kernel)⟩
theorem myJ1_charAt_3b067 : mYS yJ1_charAt_3b067 cJ1_charAt_3b067 2 (some .char) 2 := ⟨⟨mTs_in 475 (by decide +kernel) (by decide +kernel), mTs_in 50 (by decide +kernel) (by decide +kernel), ⟨by decide, by decide⟩, by decide +kernel⟩, mTs_in 474 (by decide +kernel) (by decide +kernel)⟩
theorem myJ3_checkIndex_8e157 : mYS yJ3_checkIndex_8e157 cJ3_checkIndex_8e157 3 (some .int) 3 := ⟨⟨mTs_in 483 (by decide +kernel) (by decide +kernel), mTs_in 49 (by decide +kernel) (by decide +kernel), ⟨by decide, by decide⟩, by decide +kernel⟩, mTs_in 482 (by decide +kernel) (by decide +kernel)⟩
theorem dJ0_length_8abf5_0 : decode cJ0_length_8abf5 0 = .ok (.aload_n 0, 1) := by decide +kernel
theorem dJ0_length_8abf5_1 : decode cJ0_length_8abf5 1 = .ok (.getfield 9, 3) := by decide +kernel
theorem dJ0_length_8abf5_4 : decode cJ0_length_8abf5 4 = .ok (.arraylength, 1) := by decide +kernel
theorem dJ0_length_8abf5_5 : decode cJ0_length_8abf5 5 = .ok (.aload_n 0, 1) := by decide +kernel
theorem dJ0_length_8abf5_6 : decode cJ0_length_8abf5 6 = .ok (.invokevirtual 335, 3) := by decide +kernel
theorem dJ0_length_8abf5_9 : decode cJ0_length_8abf5 9 = .ok (.ishr, 1) := by decide +kernel
theorem dJ0_length_8abf5_10 : decode cJ0_length_8abf5 10 = .ok (.ireturn, 1) := by decide +kernel
theorem dJ0_charAt_5068e_0 : decode cJ0_charAt_5068e 0 = .ok (.aload_n 0, 1) := by decide +kernel
theorem dJ0_charAt_5068e_1 : decode cJ0_charAt_5068e 1 = .ok (.invokevirtual 492, 3) := by decide +kernel
theorem dJ0_charAt_5068e_4 : decode cJ0_charAt_5068e 4 = .ok (.ifCond .eq 12, 3) := by decide +kernel
theorem dJ0_charAt_5068e_7 : decode cJ0_charAt_5068e 7 = .ok (.aload_n 0, 1) := by decide +kernel
theorem dJ0_charAt_5068e_8 : decode cJ0_charAt_5068e 8 = .ok (.getfield 9, 3) := by decide +kernel
theorem dJ0_charAt_5068e_11 : decode cJ0_charAt_5068e 11 = .ok (.iload_n 1, 1) := by decide +kernel
theorem dJ0_charAt_5068e_12 : decode cJ0_charAt_5068e 12 = .ok (.invokestatic 495, 3) := by decide +kernel
theorem dJ0_charAt_5068e_15 : decode cJ0_charAt_5068e 15 = .ok (.ireturn, 1) := by decide +kernel
theorem dJ0_charAt_5068e_16 : decode cJ0_charAt_5068e 16 = .ok (.aload_n 0, 1) := by decide +kernel
theorem dJ0_charAt_5068e_17 : decode cJ0_charAt_5068e 17 = .ok (.getfield 9, 3) := by decide +kernel
theorem dJ0_charAt_5068e_20 : decode cJ0_charAt_5068e 20 = .ok (.iload_n 1, 1) := by decide +kernel
theorem dJ0_charAt_5068e_21 : decode cJ0_charAt_5068e 21 = .ok (.invokestatic 498, 3) := by decide +kernel
theorem dJ0_charAt_5068e_24 : decode cJ0_charAt_5068e 24 = .ok (.ireturn, 1) := by decide +kernel
theorem dJ0_coder_7d493_0 : decode cJ0_coder_7d493 0 = .ok (.getstatic 38, 3) := by decide +kernel
theorem dJ0_coder_7d493_3 : decode cJ0_coder_7d493 3 = .ok (.ifCond .eq 10, 3) := by decide +kernel
theorem dJ0_coder_7d493_6 : decode cJ0_coder_7d493 6 = .ok (.aload_n 0, 1) := by decide +kernel
theorem dJ0_coder_7d493_7 : decode cJ0_coder_7d493 7 = .ok (.getfield 15, 3) := by decide +kernel
theorem dJ0_coder_7d493_10 : decode cJ0_coder_7d493 10 = .ok (.goto 4, 3) := by decide +kernel
theorem dJ0_coder_7d493_13 : decode cJ0_coder_7d493 13 = .ok (.iconst 1, 1) := by decide +kernel
theorem dJ0_coder_7d493_14 : decode cJ0_coder_7d493 14 = .ok (.ireturn, 1) := by decide +kernel
theorem dJ0_isLatin1_aae02_0 : decode cJ0_isLatin1_aae02 0 = .ok (.getstatic 38, 3) := by decide +kernel
theorem dJ0_isLatin1_aae02_3 : decode cJ0_isLatin1_aae02 3 = .ok (.ifCond .eq 14, 3) := by decide +kernel
theorem dJ0_isLatin1_aae02_6 : decode cJ0_isLatin1_aae02 6 = .ok (.aload_n 0, 1) := by decide +kernel
theorem dJ0_isLatin1_aae02_7 : decode cJ0_isLatin1_aae02 7 = .ok (.getfield 15, 3) := by decide +kernel
theorem dJ0_isLatin1_aae02_10 : decode cJ0_isLatin1_aae02 10 = .ok (.ifCond .ne 7, 3) := by decide +kernel
theorem dJ0_isLatin1_aae02_13 : decode cJ0_isLatin1_aae02 13 = .ok (.iconst 1, 1) := by decide +kernel
theorem dJ0_isLatin1_aae02_14 : decode cJ0_isLatin1_aae02 14 = .ok (.goto 4, 3) := by decide +kernel
theorem dJ0_isLatin1_aae02_17 : decode cJ0_isLatin1_aae02 17 = .ok (.iconst 0, 1) := by decide +kernel
theorem dJ0_isLatin1_aae02_18 : decode cJ0_isLatin1_aae02 18 = .ok (.ireturn, 1) := by decide +kernel
theorem dJ0_checkIndex_df160_0 : decode cJ0_checkIndex_df160 0 = .ok (.iload_n 0, 1) := by decide +kernel
theorem dJ0_checkIndex_df160_1 : decode cJ0_checkIndex_df160 1 = .ok (.iload_n 1, 1) := by decide +kernel
theorem dJ0_checkIndex_df160_2 : decode cJ0_checkIndex_df160 2 = .ok (.getstatic 1053, 3) := by decide +kernel
theorem dJ0_checkIndex_df160_5 : decode cJ0_checkIndex_df160 5 = .ok (.invokestatic 1059, 3) := by decide +kernel
theorem dJ0_checkIndex_df160_8 : decode cJ0_checkIndex_df160 8 = .ok (.pop, 1) := by decide +kernel
theorem dJ0_checkIndex_df160_9 : decode cJ0_checkIndex_df160 9 = .ok (.return_, 1) := by decide +kernel
theorem dJ1_charAt_3b067_0 : decode cJ1_charAt_3b067 0 = .ok (.iload_n 1, 1) := by decide +kernel
theorem dJ1_charAt_3b067_1 : decode cJ1_charAt_3b067 1 = .ok (.aload_n 0, 1) := by decide +kernel
theorem dJ1_charAt_3b067_2 : decode cJ1_charAt_3b067 2 = .ok (.arraylength, 1) := by decide +kernel
theorem dJ1_charAt_3b067_3 : decode cJ1_charAt_3b067 3 = .ok (.invokestatic 9, 3) := by decide +kernel
theorem dJ1_charAt_3b067_6 : decode cJ1_charAt_3b067 6 = .ok (.aload_n 0, 1) := by decide +kernel
theorem dJ1_charAt_3b067_7 : decode cJ1_charAt_3b067 7 = .ok (.iload_n 1, 1) := by decide +kernel
theorem dJ1_charAt_3b067_8 : decode cJ1_charAt_3b067 8 = .ok (.baload, 1) := by decide +kernel
theorem dJ1_charAt_3b067_9 : decode cJ1_charAt_3b067 9 = .ok (.sipush 255, 3) := by decide +kernel
theorem dJ1_charAt_3b067_12 : decode cJ1_charAt_3b067 12 = .ok (.iand, 1) := by decide +kernel
theorem dJ1_charAt_3b067_13 : decode cJ1_charAt_3b067 13 = .ok (.i2c, 1) := by decide +kernel
theorem dJ1_charAt_3b067_14 : decode cJ1_charAt_3b067 14 = .ok (.ireturn, 1) := by decide +kernel
theorem dJ3_checkIndex_8e157_0 : decode cJ3_checkIndex_8e157 0 = .ok (.iload_n 0, 1) := by decide +kernel
theorem dJ3_checkIndex_8e157_1 : decode cJ3_checkIndex_8e157 1 = .ok (.ifCond .lt 8, 3) := by decide +kernel
theorem dJ3_checkIndex_8e157_4 : decode cJ3_checkIndex_8e157 4 = .ok (.iload_n 0, 1) := by decide +kernel
theorem dJ3_checkIndex_8e157_5 : decode cJ3_checkIndex_8e157 5 = .ok (.iload_n 1, 1) := by decide +kernel
theorem dJ3_checkIndex_8e157_6 : decode cJ3_checkIndex_8e157 6 = .ok (.if_icmp .lt 10, 3) := by decide +kernel
theorem dJ3_checkIndex_8e157_9 : decode cJ3_checkIndex_8e157 9 = .ok (.aload_n 2, 1) := by decide +kernel
theorem dJ3_checkIndex_8e157_10 : decode cJ3_checkIndex_8e157 10 = .ok (.iload_n 0, 1) := by decide +kernel
theorem dJ3_checkIndex_8e157_11 : decode cJ3_checkIndex_8e157 11 = .ok (.iload_n 1, 1) := by decide +kernel
theorem dJ3_checkIndex_8e157_12 : decode cJ3_checkIndex_8e157 12 = .ok (.invokestatic 95, 3) := by decide +kernel
theorem dJ3_checkIndex_8e157_15 : decode cJ3_checkIndex_8e157 15 = .ok (.athrow, 1) := by decide +kernel
theorem dJ3_checkIndex_8e157_16 : decode cJ3_checkIndex_8e157 16 = .ok (.iload_n 0, 1) := by decide +kernel
theorem dJ3_checkIndex_8e157_17 : decode cJ3_checkIndex_8e157 17 = .ok (.ireturn, 1) := by decide +kernel
theorem k_335 : Cond.methodLink RJ0 335 yJ0_coder_7d493 ∈ mTs := mTs_in 459 (by decide +kernel) (by decide +kernel)
theorem k_492 : Cond.methodLink RJ0 492 yJ0_isLatin1_aae02 ∈ mTs := mTs_in 469 (by decide +kernel) (by decide +kernel)
theorem k_495 : Cond.methodLink RJ0 495 yJ1_charAt_3b067 ∈ mTs := mTs_in 473 (by decide +kernel) (by decide +kernel)
theorem k_L9 : Cond.methodLink RJ1 9 yJ0_checkIndex_df160 ∈ mTs := mTs_in 476 (by decide +kernel) (by decide +kernel)
theorem k_1059 : Cond.methodLink RJ0 1059 yJ3_checkIndex_8e157 ∈ mTs := mTs_in 481 (by decide +kernel) (by decide +kernel)
theorem k_38 : Cond.fieldLink RJ0 38 "java/lang/String" "COMPACT_STRINGS" "Z" ∈ mTs := mTs_in 463 (by decide +kernel) (by decide +kernel)
theorem k_1053 : Cond.fieldLink RJ0 1053 "jdk/internal/util/Preconditions" "SIOOBE_FORMATTER" "Ljava/util/function/BiFunction;" ∈ mTs := mTs_in 479 (by decide +kernel) (by decide +kernel)
theorem k_9 : Cond.fieldLink RJ0 9 "java/lang/String" "value" "[B" ∈ mTs := mTs_in 1001 (by decide +kernel) (by decide +kernel)
theorem k_15 : Cond.fieldLink RJ0 15 "java/lang/String" "coder" "B" ∈ mTs := mTs_in 1002 (by decide +kernel) (by decide +kernel)
theorem sx_b : ∀ k, k < 3 → ∀ j, j < mXLen.getD k 0 → (((((mXByt.getD k []).getD j 0) &&& Int32.ofInt 255).toUInt32 % 65536).toInt32 = (mXByt.getD k []).getD j 0 ∧ narrow .char (.int ((mXByt.getD k []).getD j 0)) = .int ((mXByt.getD k []).getD j 0)) := by decide +kernel
theorem sx_l : ∀ k, k < 3 → mXLen.getD k 0 < 1000 := by decide +kernel
section MSX
variable {p : Program} {l : Launch} {e : Env} {R : Room} {s : State} {m : MethodId} {args : Array Value} {below : List Frame} {meth : Method} {c : Code} {H : Heap} {locs : List Loc} {cells slots : Nat} {Q : State → Prop}
variable {cc : ByteArray} {pc np nL : Nat} {ls : Array Slot} {rest st : List Value} {own : String} {A : Nat → Prop} {E : mE} {σ σ2 : mSt}
theorem r_sval (G : CallFix p m c cc nL s args mTs RJ0) (hM : mM A E 257 σ s H locs) {k : Nat} (hk : k < 3) (d : decode cc pc = .ok (.getfield 9, 3)) (hn : pc + 3 = np)
    (kk : W p l e R s m args below meth c H locs cells slots Q (F0 m np ls (.ref (eV E k) :: rest))) : W p l e R s m args below meth c H locs cells slots Q (F0 m pc ls (.ref (eK E k) :: rest)) := by
  subst hn
  exact vk_getf G.1 G.2.1 (hM.2.2.1.1.1 k (by omega)).2.2.1 hM.2.2.2.2.2 G.2.2.2.1 (G.2.2.2.2 _ k_9) (fun _ h => h) d kk
theorem r_scod (G : CallFix p m c cc nL s args mTs RJ0) (hM : mM A E 257 σ s H locs) {k : Nat} (hk : k < 3) (d : decode cc pc = .ok (.getfield 15, 3)) (hn : pc + 3 = np)
    (kk : W p l e R s m args below meth c H locs cells slots Q (F0 m np ls (vI 0 :: rest))) : W p l e R s m args below meth c H locs cells slots Q (F0 m pc ls (.ref (eK E k) :: rest)) := by
  subst hn
  exact vk_getf G.1 G.2.1 (hM.2.2.1.1.1 k (by omega)).2.1 hM.2.2.2.2.2 G.2.2.2.1 (G.2.2.2.2 _ k_15) (fun _ h => h) d kk
theorem r_scs (G : CallFix p m c cc nL s args mTs RJ0) (hM : mM A E 257 σ s H locs) (d : decode cc pc = .ok (.getstatic 38, 3)) (hn : pc + 3 = np)
    (kk : W p l e R s m args below meth c H locs cells slots Q (F0 m np ls (vI 1 :: rest))) : W p l e R s m args below meth c H locs cells slots Q (F0 m pc ls rest) := by
  subst hn
  exact va_gets G.1 G.2.1 hM.2.2.1.2.2.1 hM.2.2.2.2.2 G.2.2.2.1 (G.2.2.2.2 _ k_38) (fun _ h => h) d kk
theorem r_slen (G : CallFix p m c cc nL s args mTs own) (hM : mM A E 257 σ s H locs) {k : Nat} (hk : k < 3) (d : decode cc pc = .ok (.arraylength, 1)) (hn : pc + 1 = np)
    (kk : W p l e R s m args below meth c H locs cells slots Q (F0 m np ls (vI ((mXLen.getD k 0 : Nat) : Int) :: rest))) : W p l e R s m args below meth c H locs cells slots Q (F0 m pc ls (.ref (eV E k) :: rest)) := by
  subst hn
  obtain ⟨cell, h1, h2, h3, h4, h5, h6, h7⟩ := (hM.2.2.1.1.1 k (by omega)).2.2.2.kept hM.2.2.2.2.2.2.1
  exact W.alen (n := Int32.ofInt ((mXLen.getD k 0 : Nat) : Int)) G.1 G.2.1 h1 h2 (h5.trans Int32.ofInt_eq_ofNat.symm) rfl rfl d kk
theorem r_sbal (G : CallFix p m c cc nL s args mTs own) (hM : mM A E 257 σ s H locs) {k : Nat} {i : Int} (hk : k < 3) (hi : 0 ≤ wI i ∧ wI i < ((mXLen.getD k 0 : Nat) : Int)) (d : decode cc pc = .ok (.baload, 1)) (hn : pc + 1 = np)
    (kk : W p l e R s m args below meth c H locs cells slots Q (F0 m np ls (.int ((mXByt.getD k []).getD (wI i).toNat 0) :: rest))) : W p l e R s m args below meth c H locs cells slots Q (F0 m pc ls (vI i :: .ref (eV E k) :: rest)) := by
  subst hn
  obtain ⟨cell, h1, h2, h3, h4, h5, h6, h7⟩ := (hM.2.2.1.1.1 k (by omega)).2.2.2.kept hM.2.2.2.2.2.2.1
  have hlt : (wI i).toNat < mXLen.getD k 0 := by omega
  refine W.bald (v := .int ((mXByt.getD k []).getD (wI i).toNat 0)) G.1 G.2.1 h1 h2 h3 ?_ (h6 _ hlt) rfl rfl d kk
  rintro (q | q)
  · have : wI i < 0 := Int32.lt_iff_toInt_lt.mp q
    omega
  · have : (Int32.ofInt i).toNatClampNeg = (wI i).toNat := rfl
    rw [this] at q
    omega
theorem r_ldcSt (G : CallFix p m c cc nL s args mTs RX10) (hM : mM A E 257 σ s H locs) (i : Nat) (hi : i < 3) (d : decode cc pc = .ok (.ldc (mXIt.getD i 0), 2)) (hn : pc + 2 = np)
    (kk : W p l e R s m args below meth c H locs cells slots Q (F0 m np ls (.ref (eK E i) :: rest))) : W p l e R s m args below meth c H locs cells slots Q (F0 m pc ls rest) := by
  subst hn
  exact va_ldcS G.1 G.2.1 G.2.2.2.1 (hM.2.2.1.2.1 i hi) d kk
theorem m_callStr (G : CallFix p m c cc nL s args mTs own) (hM : mM A E 257 σ s H locs) (hls : ls.size = nL) {y : MethodName} {cc' : ByteArray} {maxL fr lo k ix : Nat} {ret : Option FieldType} {As : List Value} {v : Value} (hc : mMet l y cc' maxL ret fr lo E 257 (.ref (eK E k) :: As) σ (some v) σ) (hY : mYV y cc' maxL ret As.length) (hk : k < 3) (hcc : y.cls = "java/lang/String") (hw : Cond.methodLink own ix y ∈ mTs) (hroom : fr + 1 ≤ R.frames ∧ 8 + (maxL + 11) + lo ≤ R.locals) (hcs : cells ≤ R.cells ∧ slots ≤ R.slots)
    (hst : st = As.reverse ++ .ref (eK E k) :: rest) (hcat : (rest.map fun v => v.category).sum ≤ 8) (d : decode cc pc = .ok (.invokevirtual ix, 3)) (hn : pc + 3 = np)
    (kk : ∀ (H1 : Heap) (locs1 : List Loc), mM A E 257 σ s H1 locs1 → W p l e R s m args below meth c H1 locs1 cells slots Q (F0 m np ls (v :: rest))) : W p l e R s m args below meth c H locs cells slots Q (F0 m pc ls st) := by
  subst hn
  subst hst
  refine m_go (va_runV (As := As) (rest := rest) G hc ⟨m_cb G hY.1 hw hroom, G.2.2.2.2 _ hY.2.1, G.2.2.2.2 _ hY.2.2⟩ ⟨mPre.blind, ?_, fun U hU hW => ⟨rfl, hM.pre hU hW⟩⟩ rfl rfl hls rfl (lv_room hcat) d hcs) hM kk
  rw [hcc]
  exact vk_recv hM.2.2.1.1 (show k < 17 by omega) hM.2.2.2.2.2
end MSX
theorem q_pci (l : Launch) (E : mE) (σ : mSt) (i n : Int) (o : Option Nat) (h : 0 ≤ wI i ∧ wI i < wI n) : mMet l yJ3_checkIndex_8e157 cJ3_checkIndex_8e157 3 (some .int) 0 0 E 257 [vI i, vI n, va_rf o] σ (some (vI i)) σ := by
  refine m_entryF (by decide +kernel) (by cases o <;> exact Nat.le_of_ble_eq_true rfl) (fun p e s m args below meth c G hr hk hM ls hl => ?_)
  have G : CallFix p m c cJ3_checkIndex_8e157 3 s args mTs RJ3 := G
  have hl : lv_has ls 3 [(0, vI i), (1, vI n), (2, va_rf o)] := by cases o <;> exact hl
  refine r_iload_n (np := 1) G hl 0 rfl dJ3_checkIndex_8e157_0 rfl rfl ?_
  refine r_if_lt (np := 4) (tgt := 9) G rfl dJ3_checkIndex_8e157_1 (by decide) rfl (fun hc => absurd h.1 (by omega)) (fun hc => ?_)
  refine r_iload_n (np := 5) G hl 0 rfl dJ3_checkIndex_8e157_4 rfl rfl ?_
  refine r_iload_n (np := 6) G hl 1 rfl dJ3_checkIndex_8e157_5 rfl rfl ?_
  refine r_icmp_lt (np := 9) (tgt := 16) G rfl rfl dJ3_checkIndex_8e157_6 (by decide) rfl (fun hc => ?_) (fun hc => absurd h.2 hc)
  refine r_iload_n (np := 17) G hl 0 rfl dJ3_checkIndex_8e157_16 rfl rfl ?_
  exact r_iret (out := (i, σ)) G hr hk hM rfl dJ3_checkIndex_8e157_17
theorem q_sci (l : Launch) (E : mE) (σ : mSt) (i n : Int) (h : 0 ≤ wI i ∧ wI i < wI n) : mMet l yJ0_checkIndex_df160 cJ0_checkIndex_df160 2 none 1 40 E 257 [vI i, vI n] σ none σ := by
  refine m_entryF (by decide +kernel) (Nat.le_of_ble_eq_true rfl) (fun p e s m args below meth c G hr hk hM ls hl => ?_)
  have G : CallFix p m c cJ0_checkIndex_df160 2 s args mTs RJ0 := G
  have hl : lv_has ls 2 [(0, vI i), (1, vI n)] := hl
  refine r_iload_n (np := 1) G hl 0 rfl dJ0_checkIndex_df160_0 rfl rfl ?_
  refine r_iload_n (np := 2) G hl 1 rfl dJ0_checkIndex_df160_1 rfl rfl ?_
  have go : ∀ o : Option Nat, mGo l p e 1 40 s m args below meth c E none σ s.heap [] (F0 m 5 ls [va_rf o, vI n, vI i]) := by
    intro o
    refine m_callSI (np := 8) G hM hl.1 [vI i, vI n, va_rf o] (q_pci l E σ i n o h) myJ3_checkIndex_8e157 k_1059 ⟨Nat.le_of_ble_eq_true rfl, Nat.le_of_ble_eq_true rfl⟩ ⟨Nat.le_of_ble_eq_true rfl, Nat.le_of_ble_eq_true rfl⟩ [] rfl (Nat.le_of_ble_eq_true rfl) dJ0_checkIndex_df160_5 rfl (fun H locs hM => ?_)
    refine r_pop (np := 9) G dJ0_checkIndex_df160_8 rfl rfl ?_
    exact r_vret (out := (0, σ)) G hr hk hM rfl dJ0_checkIndex_df160_9
  rcases hM.2.2.1.2.2.2.1 with hz | ⟨t, hz⟩
  · exact va_gets G.1 G.2.1 hz hM.2.2.2.2.2 G.2.2.2.1 (G.2.2.2.2 _ k_1053) (fun _ h => h) dJ0_checkIndex_df160_2 (go none)
  · exact va_gets G.1 G.2.1 hz hM.2.2.2.2.2 G.2.2.2.1 (G.2.2.2.2 _ k_1053) (fun _ h => h) dJ0_checkIndex_df160_2 (go (some t))
theorem q_sla (l : Launch) (E : mE) (σ : mSt) (k : Nat) (i : Int) (h3 : k < 3) (h : 0 ≤ wI i ∧ wI i < ((mXLen.getD k 0 : Nat) : Int)) : mMet l yJ1_charAt_3b067 cJ1_charAt_3b067 2 (some .char) 2 100 E 257 [.ref (eV E k), vI i] σ (some (vI ((mXByt.getD k []).getD (wI i).toNat 0).toInt)) σ := by
  have hb := sx_b k h3 (wI i).toNat (by omega)
  have hL := sx_l k h3
  refine m_entryF (by decide +kernel) (Nat.le_of_ble_eq_true rfl) (fun p e s m args below meth c G hr hk hM ls hl => ?_)
  have G : CallFix p m c cJ1_charAt_3b067 2 s args mTs RJ1 := G
  have hl : lv_has ls 2 [(0, .ref (eV E k)), (1, vI i)] := hl
  refine r_iload_n (np := 1) G hl 1 rfl dJ1_charAt_3b067_0 rfl rfl ?_
  refine r_aload_n (np := 2) G hl 0 rfl dJ1_charAt_3b067_1 rfl rfl ?_
  refine r_slen (np := 3) G hM h3 dJ1_charAt_3b067_2 rfl ?_
  refine m_callSV (np := 6) G hM hl.1 [vI i, vI ((mXLen.getD k 0 : Nat) : Int)] (q_sci l E σ i _ ⟨h.1, by rw [wI_eq (x := ((mXLen.getD k 0 : Nat) : Int)) (by omega) (by omega)]; exact h.2⟩) myJ0_checkIndex_df160 k_L9 ⟨Nat.le_of_ble_eq_true rfl, Nat.le_of_ble_eq_true rfl⟩ ⟨Nat.le_of_ble_eq_true rfl, Nat.le_of_ble_eq_true rfl⟩ [] rfl (Nat.le_of_ble_eq_true rfl) dJ1_charAt_3b067_3 rfl (fun H locs hM => ?_)
  refine r_aload_n (np := 7) G hl 0 rfl dJ1_charAt_3b067_6 rfl rfl ?_
  refine r_iload_n (np := 8) G hl 1 rfl dJ1_charAt_3b067_7 rfl rfl ?_
  refine r_sbal (np := 9) G hM h3 h dJ1_charAt_3b067_8 rfl ?_
  refine r_sipush (np := 12) G 255 dJ1_charAt_3b067_9 (by decide) rfl ?_
  refine lv_iand G.1 G.2.1 dJ1_charAt_3b067_12 ?_
  refine lv_i2c G.1 G.2.1 dJ1_charAt_3b067_13 hb.1 ?_
  have e : vI ((mXByt.getD k []).getD (wI i).toNat 0).toInt = .int ((mXByt.getD k []).getD (wI i).toNat 0) := by
    unfold vI
    rw [Int32.ofInt_toInt]
  rw [e]
  exact W.zret G.1 G.2.1 hr hb.2 (fun t ht _ => ⟨rfl, by rw [ht]; exact hM.2.2.2.1, hM.2.2.2.2.2.F ht⟩) hM.2.2.2.2.2.2.2 dJ1_charAt_3b067_14 hk
theorem q_scoder (l : Launch) (E : mE) (σ : mSt) (k : Nat) (h3 : k < 3) : mMet l yJ0_coder_7d493 cJ0_coder_7d493 1 (some .byte) 0 0 E 257 [.ref (eK E k)] σ (some (vI 0)) σ := by
  refine m_entryF (by decide +kernel) (Nat.le_of_ble_eq_true rfl) (fun p e s m args below meth c G hr hk hM ls hl => ?_)
  have G : CallFix p m c cJ0_coder_7d493 1 s args mTs RJ0 := G
  have hl : lv_has ls 1 [(0, .ref (eK E k))] := hl
  refine r_scs (np := 3) G hM dJ0_coder_7d493_0 rfl ?_
  refine r_if_eq (np := 6) (tgt := 13) G (wIk 1 rfl) dJ0_coder_7d493_3 (by decide) rfl (fun hc => absurd hc (by decide)) (fun hc => ?_)
  refine r_aload_n (np := 7) G hl 0 rfl dJ0_coder_7d493_6 rfl rfl ?_
  refine r_scod (np := 10) G hM h3 dJ0_coder_7d493_7 rfl ?_
  refine r_goto (np := 14) G dJ0_coder_7d493_10 (by decide) ?_
  exact r_bret (out := (0, σ)) G hr hk hM ⟨by decide, by decide⟩ rfl dJ0_coder_7d493_14
theorem q_slat (l : Launch) (E : mE) (σ : mSt) (k : Nat) (h3 : k < 3) : mMet l yJ0_isLatin1_aae02 cJ0_isLatin1_aae02 1 (some .boolean) 0 0 E 257 [.ref (eK E k)] σ (some (vI 1)) σ := by
  refine m_entryF (by decide +kernel) (Nat.le_of_ble_eq_true rfl) (fun p e s m args below meth c G hr hk hM ls hl => ?_)
  have G : CallFix p m c cJ0_isLatin1_aae02 1 s args mTs RJ0 := G
  have hl : lv_has ls 1 [(0, .ref (eK E k))] := hl
  refine r_scs (np := 3) G hM dJ0_isLatin1_aae02_0 rfl ?_
  refine r_if_eq (np := 6) (tgt := 17) G (wIk 1 rfl) dJ0_isLatin1_aae02_3 (by decide) rfl (fun hc => absurd hc (by decide)) (fun hc => ?_)
  refine r_aload_n (np := 7) G hl 0 rfl dJ0_isLatin1_aae02_6 rfl rfl ?_
  refine r_scod (np := 10) G hM h3 dJ0_isLatin1_aae02_7 rfl ?_
  refine r_if_ne (np := 13) (tgt := 17) G (wIk 0 rfl) dJ0_isLatin1_aae02_10 (by decide) rfl (fun hc => absurd rfl hc) (fun hc => ?_)
  refine r_iconst (np := 14) G 1 dJ0_isLatin1_aae02_13 rfl ?_
  refine r_goto (np := 18) G dJ0_isLatin1_aae02_14 (by decide) ?_
  exact r_zret (out := (1, σ)) G hr hk hM (Or.inr rfl) rfl dJ0_isLatin1_aae02_18
theorem q_slength (l : Launch) (E : mE) (σ : mSt) (k : Nat) (h3 : k < 3) : mMet l yJ0_length_8abf5 cJ0_length_8abf5 1 (some .int) 4 200 E 257 [.ref (eK E k)] σ (some (vI ((mXLen.getD k 0 : Nat) : Int))) σ := by
  refine m_entryF (by decide +kernel) (Nat.le_of_ble_eq_true rfl) (fun p e s m args below meth c G hr hk hM ls hl => ?_)
  have G : CallFix p m c cJ0_length_8abf5 1 s args mTs RJ0 := G
  have hl : lv_has ls 1 [(0, .ref (eK E k))] := hl
  refine r_aload_n (np := 1) G hl 0 rfl dJ0_length_8abf5_0 rfl rfl ?_
  refine r_sval (np := 4) G hM h3 dJ0_length_8abf5_1 rfl ?_
  refine r_slen (np := 5) G hM h3 dJ0_length_8abf5_4 rfl ?_
  refine r_aload_n (np := 6) G hl 0 rfl dJ0_length_8abf5_5 rfl rfl ?_
  refine m_callStr (np := 9) (rest := [vI ((mXLen.getD k 0 : Nat) : Int)]) (As := []) G hM hl.1 (q_scoder l E σ k h3) myJ0_coder_7d493 h3 rfl k_335 ⟨Nat.le_of_ble_eq_true rfl, Nat.le_of_ble_eq_true rfl⟩ ⟨Nat.le_of_ble_eq_true rfl, Nat.le_of_ble_eq_true rfl⟩ rfl (Nat.le_of_ble_eq_true rfl) dJ0_length_8abf5_6 rfl (fun H locs hM => ?_)
  refine r_ishr (np := 10) G dJ0_length_8abf5_9 rfl ?_
  have e : vI (oShr ((mXLen.getD k 0 : Nat) : Int) 0) = vI ((mXLen.getD k 0 : Nat) : Int) := by
    rcases (by omega : k = 0 ∨ k = 1 ∨ k = 2) with rfl | rfl | rfl <;> decide
  rw [e]
  exact r_iret (out := (((mXLen.getD k 0 : Nat) : Int), σ)) G hr hk hM rfl dJ0_length_8abf5_10
theorem q_scharAt (l : Launch) (E : mE) (σ : mSt) (k : Nat) (i : Int) (h3 : k < 3) (h : 0 ≤ wI i ∧ wI i < ((mXLen.getD k 0 : Nat) : Int)) : mMet l yJ0_charAt_5068e cJ0_charAt_5068e 2 (some .char) 4 200 E 257 [.ref (eK E k), vI i] σ (some (vI ((mXByt.getD k []).getD (wI i).toNat 0).toInt)) σ := by
  have hb := sx_b k h3 (wI i).toNat (by omega)
  refine m_entryF (by decide +kernel) (Nat.le_of_ble_eq_true rfl) (fun p e s m args below meth c G hr hk hM ls hl => ?_)
  have G : CallFix p m c cJ0_charAt_5068e 2 s args mTs RJ0 := G
  have hl : lv_has ls 2 [(0, .ref (eK E k)), (1, vI i)] := hl
  refine r_aload_n (np := 1) G hl 0 rfl dJ0_charAt_5068e_0 rfl rfl ?_
  refine m_callStr (np := 4) (rest := []) (As := []) G hM hl.1 (q_slat l E σ k h3) myJ0_isLatin1_aae02 h3 rfl k_492 ⟨Nat.le_of_ble_eq_true rfl, Nat.le_of_ble_eq_true rfl⟩ ⟨Nat.le_of_ble_eq_true rfl, Nat.le_of_ble_eq_true rfl⟩ rfl (Nat.le_of_ble_eq_true rfl) dJ0_charAt_5068e_1 rfl (fun H locs hM => ?_)
  refine r_if_eq (np := 7) (tgt := 16) G (wIk 1 rfl) dJ0_charAt_5068e_4 (by decide) rfl (fun hc => absurd hc (by decide)) (fun hc => ?_)
  refine r_aload_n (np := 8) G hl 0 rfl dJ0_charAt_5068e_7 rfl rfl ?_
  refine r_sval (np := 11) G hM h3 dJ0_charAt_5068e_8 rfl ?_
  refine r_iload_n (np := 12) G hl 1 rfl dJ0_charAt_5068e_11 rfl rfl ?_
  refine m_callSI (np := 15) G hM hl.1 [.ref (eV E k), vI i] (q_sla l E σ k i h3 h) myJ1_charAt_3b067 k_495 ⟨Nat.le_of_ble_eq_true rfl, Nat.le_of_ble_eq_true rfl⟩ ⟨Nat.le_of_ble_eq_true rfl, Nat.le_of_ble_eq_true rfl⟩ [] rfl (Nat.le_of_ble_eq_true rfl) dJ0_charAt_5068e_12 rfl (fun H locs hM => ?_)
  have e : vI ((mXByt.getD k []).getD (wI i).toNat 0).toInt = .int ((mXByt.getD k []).getD (wI i).toNat 0) := by
    unfold vI
    rw [Int32.ofInt_toInt]
  rw [e]
  exact W.zret G.1 G.2.1 hr hb.2 (fun t ht _ => ⟨rfl, by rw [ht]; exact hM.2.2.2.1, hM.2.2.2.2.2.F ht⟩) hM.2.2.2.2.2.2.2 dJ0_charAt_5068e_15 hk
section MSY
variable {p : Program} {l : Launch} {e : Env} {R : Room} {s : State} {m : MethodId} {args : Array Value} {below : List Frame} {meth : Method} {c : Code} {H : Heap} {locs : List Loc} {cells slots : Nat} {Q : State → Prop}
variable {cc : ByteArray} {pc np nL : Nat} {ls : Array Slot} {own : String} {A : Nat → Prop} {E : mE} {σ : mSt}
theorem r_strlen (G : CallFix p m c cc nL s args mTs own) (hM : mM A E 257 σ s H locs) {k : Nat} (hk : k < 3) (hls : ls.size = nL) {ix : Nat} (hw : Cond.methodLink own ix yJ0_length_8abf5 ∈ mTs) (hroom : 5 ≤ R.frames ∧ 8 + (1 + 11) + 200 ≤ R.locals) (hcs : cells ≤ R.cells ∧ slots ≤ R.slots) (rest : List Value) (hcat : (rest.map fun v => v.category).sum ≤ 8) (d : decode cc pc = .ok (.invokevirtual ix, 3)) (hn : pc + 3 = np)
    (kk : ∀ (H1 : Heap) (locs1 : List Loc), mM A E 257 σ s H1 locs1 → W p l e R s m args below meth c H1 locs1 cells slots Q (F0 m np ls (vI ((mXLen.getD k 0 : Nat) : Int) :: rest))) : W p l e R s m args below meth c H locs cells slots Q (F0 m pc ls (.ref (eK E k) :: rest)) :=
  m_callStr (rest := rest) (As := []) G hM hls (q_slength l E σ k hk) myJ0_length_8abf5 hk rfl hw hroom hcs rfl hcat d hn kk
theorem r_strat (G : CallFix p m c cc nL s args mTs own) (hM : mM A E 257 σ s H locs) {k : Nat} {i : Int} (h : k < 3 ∧ 0 ≤ wI i ∧ wI i < ((mXLen.getD k 0 : Nat) : Int)) (hls : ls.size = nL) {ix : Nat} (hw : Cond.methodLink own ix yJ0_charAt_5068e ∈ mTs) (hroom : 5 ≤ R.frames ∧ 8 + (2 + 11) + 200 ≤ R.locals) (hcs : cells ≤ R.cells ∧ slots ≤ R.slots) (rest : List Value) (hcat : (rest.map fun v => v.category).sum ≤ 8) (d : decode cc pc = .ok (.invokevirtual ix, 3)) (hn : pc + 3 = np)
    (kk : ∀ (H1 : Heap) (locs1 : List Loc), mM A E 257 σ s H1 locs1 → W p l e R s m args below meth c H1 locs1 cells slots Q (F0 m np ls (vI ((mXByt.getD k []).getD (wI i).toNat 0).toInt :: rest))) : W p l e R s m args below meth c H locs cells slots Q (F0 m pc ls (vI i :: .ref (eK E k) :: rest)) :=
  m_callStr (rest := rest) (As := [vI i]) G hM hls (q_scharAt l E σ k i h.1 h.2) myJ0_charAt_5068e h.1 rfl hw hroom hcs rfl hcat d hn kk
end MSY
end
section
/-! MAKING: objects are made in the order of their numbers, one behind the other in the heap -/
def upR (σ : mSt) (N : Nat) : mSt := fun a b => if a = N then 0 else σ a b
def upM (σ : mSt) (N n : Nat) : mSt := fun a b => if a = N then (if b < n then ((N + 1 + b : Nat) : Int) else 0) else if N < a ∧ a ≤ N + n then 0 else σ a b
theorem upR_old {σ : mSt} {N j : Nat} (h : j ≠ N) : upR σ N j = σ j := by
  funext b; simp [upR, h]
theorem upR_new (σ : mSt) (N : Nat) : upR σ N N = fun _ => 0 := by
  funext b; simp [upR]
theorem wl_ext {E : mE} {N : Nat} {σ σ' : mSt} (h : ∀ j, j < N → σ' j = σ j) : wl E N σ' = wl E N σ := by
  unfold wl
  apply List.map_congr_left
  intro i hi
  rw [h i (List.mem_range.mp hi)]
theorem wl_push {E : mE} {N : Nat} {σ σ' : mSt} (h : ∀ j, j < N → σ' j = σ j) : wl E (N + 1) σ' = wl E N σ ++ [(eA E N, mEnt E (σ' N) N)] := by
  have e : wl E (N + 1) σ' = wl E N σ' ++ [(eA E N, mEnt E (σ' N) N)] := by
    unfold wl
    rw [List.range_succ, List.map_append]
    rfl
  rw [e, wl_ext h]
theorem wl_Dat {E : mE} {N : Nat} {σ : mSt} {A : Nat → Prop} (hE : ∀ i, eA E i = eA E 0 + i) (hA : ∀ i, i < N → A (eA E i)) : va_D A (wl E N σ) := by
  refine ⟨fun i j p q hi hj hpq => ?_, fun k q hk => ?_⟩
  · obtain ⟨-, rfl⟩ := wl_at hi
    obtain ⟨-, rfl⟩ := wl_at hj
    have h : eA E i = eA E j := hpq
    rw [hE i, hE j] at h
    omega
  · obtain ⟨h1, rfl⟩ := wl_at hk
    exact hA k h1
def mNew (ci n : Nat) (C : String) (T : u_T) (ty : Nat → FieldType) : Prop := vwCl[ci]? = some (C, T, n) ∧ (∀ w ∈ u_ws C T n, w ∈ mTs) ∧ (∀ k, k < n → parseFieldDescriptor (T k).2.2.1 = some (ty k)) ∧ ci < 12 ∧ (∀ (E : mE) (j : Nat), j < n → defaultValue (ty j) = vp_V (mFs E (fun _ => 0) (mFt ci) 0) j)
def zarr (t n : Nat) : vp_A := if t = 1 then (n, .inr (.inl fun _ => 0)) else (n, .inl fun _ => 0)
section MI
variable {p : Program} {l : Launch} {e : Env} {R : Room} {s : State} {m : MethodId} {args : Array Value} {below : List Frame} {meth : Method} {c : Code} {H : Heap} {locs : List Loc} {cells slots : Nat} {Q : State → Prop}
variable {cc : ByteArray} {pc np nL : Nat} {ls : Array Slot} {rest st : List Value} {own : String} {A : Nat → Prop} {E : mE} {σ : mSt} {N : Nat}
theorem mM_push (hM : mM A E N σ s H locs) (hz : H.size = eA E N) (hE : ∀ i, eA E i = eA E 0 + i) (hA : ∀ q, s.heap.size ≤ q → A q) {H1 : Heap} {σ2 : mSt} (hσ : ∀ j, j < N → σ2 j = σ j) (z1 : H1.size = H.size + 1) (o1 : ∀ q, q < H.size → H1[q]? = H[q]?) (e1 : va_at (eD E) vwCl (eA E N, mEnt E (σ2 N) N) H1) : mM A E (N + 1) σ2 s H1 locs := by
  obtain ⟨m1, m2, m3, m4, m5, m6⟩ := hM
  refine ⟨m1, m2, m3, ?_, wl_Dat hE (fun i hi => ?_), Nat.le_trans m6.1 (by omega), fun x h1 h2 => (o1 x (Nat.lt_of_lt_of_le h1 m6.1)).trans (m6.2.1 x h1 h2), m6.2.2⟩
  · rw [wl_push hσ]
    refine va_P.app (m4.kept (fun k x hx => o1 x.1 ((m4 k x hx).lt))) (fun k x hx => ?_)
    have hz : k < 1 := (List.getElem?_eq_some_iff.mp hx).1
    rw [show k = 0 by omega] at hx
    cases hx
    exact e1
  · by_cases h : i < N
    · exact m5.2 i _ (wl_get h)
    · refine hA _ (Nat.le_trans m6.1 ?_)
      rw [hz, show i = N by omega]
      exact Nat.le_refl _
theorem r_newO (G : CallFix p m c cc nL s args mTs own) (hM : mM A E N σ s H locs) (hz : H.size = eA E N) (hE : ∀ i, eA E i = eA E 0 + i) (hA : ∀ q, s.heap.size ≤ q → A q) {ci n ix : Nat} {C : String} {T : u_T} {ty : Nat → FieldType} (hF : mNew ci n C T ty) (hsh : shp N = (ci, 0)) (hcl : Cond.classLink own ix C ∈ mTs) (hinst : Cond.instantiable C n ∈ mTs) (hini : Cond.initialized C ∈ mTs) (hcells : cells + 1 ≤ R.cells) (hslots : slots + n ≤ R.slots) (σ2 : mSt) (hσ : σ2 = upR σ N) (d : decode cc pc = .ok (.new ix, 3)) (hn : pc + 3 = np)
    (kk : ∀ H1 : Heap, mM A E (N + 1) σ2 s H1 locs → H1.size = eA E (N + 1) → W p l e R s m args below meth c H1 locs (cells + 1) (slots + n) Q (F0 m np ls (.ref (eA E N) :: rest))) : W p l e R s m args below meth c H locs cells slots Q (F0 m pc ls rest) := by
  subst hn
  obtain ⟨f1, f2, f3, f4, f5⟩ := hF
  have hKn := hM.2.1.1 ci _ f1
  refine W.newcK G.1 G.2.1 G.2.2.2.1 (G.2.2.2.2 _ hcl) (G.2.2.2.2 _ hinst) (G.2.2.2.2 _ hini) rfl d hcells hslots hKn.2.1 hz fun H1 kC hkC e1 z1 o1 => ?_
  refine kk H1 (mM_push hM hz hE hA (fun j hj => by rw [hσ]; exact upR_old (by omega)) (by rw [z1, hz]) (fun q hq => o1 q (by rw [← hz]; exact hq)) ?_) (by rw [z1, hE (N + 1), hE N]; omega)
  rw [hσ, upR_new, mEnt_obj (by rw [hsh]) f4]
  exact ⟨_, f1, (u_born ty G.2.2.2.2 f2 hKn hkC e1 f3).to (fun j hj => f5 E j hj)⟩
theorem r_newP (G : CallFix p m c cc nL s args mTs own) (hM : mM A E N σ s H locs) (hz : H.size = eA E N) (hE : ∀ i, eA E i = eA E 0 + i) (hA : ∀ q, s.heap.size ≤ q → A q) {at0 : ArrayType} {t : Nat} {x : Int} {n : Nat} (hx : x = (n : Int)) (hn31 : n < 2147483648) (ht : t < 3) (hT : (mTys E)[t]? = some (eT E t, newarray.typeOf at0)) (hne : ∀ C, newarray.typeOf at0 ≠ .object C) (hsh : shp N = (20 + t, n)) (hw : Cond.arrayClass (newarray.typeOf at0) ∈ mTs) (hbytes : n * componentBytes (newarray.typeOf at0) ≤ 536870912)
    (hcell : ∀ E : mE, vp_cell (eT E t) (zarr t n) = arrV (eT E t) n (fun _ => defaultValue (newarray.typeOf at0)))
    (hcells : cells + 1 ≤ R.cells) (hslots : slots + n ≤ R.slots) (σ2 : mSt) (hσ : σ2 = upR σ N) (d : decode cc pc = .ok (.newarray at0, 2)) (hn : pc + 2 = np)
    (kk : ∀ H1 : Heap, mM A E (N + 1) σ2 s H1 locs → H1.size = eA E (N + 1) → W p l e R s m args below meth c H1 locs (cells + 1) (slots + n) Q (F0 m np ls (.ref (eA E N) :: rest))) : W p l e R s m args below meth c H locs cells slots Q (F0 m pc ls (vI x :: rest)) := by
  subst hn
  subst hx
  have hw1 : wI (n : Int) = (n : Int) := wI_eq (by omega) (by omega)
  have hnn : ¬ Int32.ofInt (n : Int) < 0 := by
    intro q
    have h2 : wI (n : Int) < 0 := Int32.lt_iff_toInt_lt.mp q
    omega
  have hN : (Int32.ofInt (n : Int)).toNatClampNeg = n := by
    show (wI (n : Int)).toNat = n
    rw [hw1]
    simp
  refine va_newaK G.1 G.2.1 (G.2.2.2.2 _ hw) rfl d rfl hnn hN hbytes hcells hslots hz fun H1 cA e1 z1 o1 hAr hNm => ?_
  have hcA : cA = eT E t := by
    have h1 := (hM.2.1.2 t _ hT).2
    have h2 : s.vm.findClass ("[" ++ (newarray.typeOf at0).toString) = some (eT E t) := by
      revert h1
      generalize newarray.typeOf at0 = ty at hne
      intro h1
      cases ty <;> first | exact h1 | exact absurd rfl (hne _)
    exact Option.some.inj (hNm.symm.trans h2)
  refine kk H1 (mM_push hM hz hE hA (fun j hj => by rw [hσ]; exact upR_old (by omega)) (by rw [z1, hz]) (fun q hq => o1 q (by rw [← hz]; exact hq)) ?_) (by rw [z1, hE (N + 1), hE N]; omega)
  rw [hσ, upR_new]
  have hent : mEnt E (fun _ => 0) N = .inl (eT E t, (zarr t n)) := by
    rcases (by omega : t = 0 ∨ t = 1 ∨ t = 2) with rfl | rfl | rfl
    · rw [mEnt_int (by rw [hsh]), hsh]; rfl
    · rw [mEnt_long (by rw [hsh]), hsh]; rfl
    · rw [mEnt_byte (by rw [hsh]), hsh]; rfl
  rw [hent]
  show H1[eA E N]? = some (vp_cell _ _)
  rw [hcell E, ← hcA]
  exact e1
theorem r_newQ (G : CallFix p m c cc nL s args mTs own) (hM : mM A E N σ s H locs) (hz : H.size = eA E N) (hE : ∀ i, eA E i = eA E 0 + i) (hA : ∀ q, s.heap.size ≤ q → A q) {t n ix : Nat} {x : Int} {C : String} (hx : x = (n : Int)) (hn31 : n < 2147483648) (ht : 3 ≤ t) (hT : (mTys E)[t]? = some (eT E t, .object C)) (hsh : shp N = (20 + t, n)) (hcl : Cond.classLink own ix C ∈ mTs) (hw : Cond.arrayOver (.object C) ∈ mTs) (hbytes : n * 4 ≤ 536870912)
    (hcells : cells + 1 ≤ R.cells) (hslots : slots + n ≤ R.slots) (σ2 : mSt) (hσ : σ2 = upR σ N) (d : decode cc pc = .ok (.anewarray ix, 3)) (hn : pc + 3 = np)
    (kk : ∀ H1 : Heap, mM A E (N + 1) σ2 s H1 locs → H1.size = eA E (N + 1) → W p l e R s m args below meth c H1 locs (cells + 1) (slots + n) Q (F0 m np ls (.ref (eA E N) :: rest))) : W p l e R s m args below meth c H locs cells slots Q (F0 m pc ls (vI x :: rest)) := by
  subst hn
  subst hx
  have hw1 : wI (n : Int) = (n : Int) := wI_eq (by omega) (by omega)
  have hnn : ¬ Int32.ofInt (n : Int) < 0 := by
    intro q
    have h2 : wI (n : Int) < 0 := Int32.lt_iff_toInt_lt.mp q
    omega
  have hN : (Int32.ofInt (n : Int)).toNatClampNeg = n := by
    show (wI (n : Int)).toNat = n
    rw [hw1]
    simp
  refine W.anew G.1 G.2.1 G.2.2.2.1 (G.2.2.2.2 _ hcl) (G.2.2.2.2 _ hw) rfl d rfl hnn (by rw [hN]; exact hbytes) hcells (by rw [hN]; exact hslots) fun cA kA comp f1 f2 f3 f4 => ?_
  rw [hN]
  generalize hH1 : H.push ({ cls := cA, slots := Array.replicate n .null, vm := .none } : Cell) = H1
  have z1 : H1.size = H.size + 1 := by rw [← hH1, Array.size_push]
  have e1 : H1[H.size]? = some (arrV cA n (fun _ => .null)) := by rw [← hH1, Array.getElem?_push_size, ← arrV_new]
  have o1 : ∀ q : Nat, q < H.size → H1[q]? = H[q]? := fun q hq => by rw [← hH1, Array.getElem?_push, if_neg (Nat.ne_of_lt hq)]
  have hcA : cA = eT E t := by
    obtain ⟨kA', comp', g1, g2, g3, g4⟩ := (hM.2.1.2 t _ hT).2
    exact Option.some.inj (f1.symm.trans g4)
  have res := kk H1 (mM_push hM hz hE hA (fun j hj => by rw [hσ]; exact upR_old (by omega)) z1 o1 (by
    rw [hσ, upR_new, mEnt_refs (by rw [hsh]) ht, hsh]
    show H1[eA E N]? = some (vp_cell _ _)
    rw [vp_cell_q, ← hz, ← hcA]
    exact e1)) (by rw [z1, hz, hE (N + 1), hE N]; omega)
  rw [hz]
  exact res
theorem r_newM (G : CallFix p m c cc nL s args mTs own) (hM : mM A E N σ s H locs) (hz : H.size = eA E N) (hE : ∀ i, eA E i = eA E 0 + i) (hA : ∀ q, s.heap.size ≤ q → A q) {t t1 n k ix : Nat} {x y : Int} {ty : FieldType} (hx : x = (n : Int)) (hy : y = (k : Int)) (hn31 : n < 1000) (hk31 : k < 1000) (ht : 5 ≤ t) (ht1 : t1 < 3) (hT : (mTys E)[t]? = some (eT E t, .array ty)) (hT1 : (mTys E)[t1]? = some (eT E t1, ty)) (hne : ∀ C, ty ≠ .object C) (hsh : shp N = (20 + t, n)) (hsh1 : ∀ j, j < n → shp (N + 1 + j) = (20 + t1, k)) (hcl : Cond.classLink own ix ("[" ++ (FieldType.array ty).toString) ∈ mTs) (hw : Cond.arrayOver (.array ty) ∈ mTs) (hw1 : Cond.arrayClass ty ∈ mTs) (hcb : componentBytes ty ≤ 8) (hdf : fits ty (defaultValue ty) = true) (hdd : (defaultValue ty).isDefault = true)
    (hcell : ∀ E : mE, vp_cell (eT E t1) (zarr t1 k) = arrV (eT E t1) k (fun _ => defaultValue ty))
    (hcells : cells + (1 + n) ≤ R.cells) (hslots : slots + (n + n * k) ≤ R.slots) (σ2 : mSt) (hσ : σ2 = upM σ N n) (d : decode cc pc = .ok (.multianewarray ix 2, 4)) (hn : pc + 4 = np)
    (kk : ∀ H1 : Heap, mM A E (N + 1 + n) σ2 s H1 locs → H1.size = eA E (N + 1 + n) → W p l e R s m args below meth c H1 locs (cells + 1 + n) (slots + n + n * k) Q (F0 m np ls (.ref (eA E N) :: rest))) : W p l e R s m args below meth c H locs cells slots Q (F0 m pc ls (vI y :: vI x :: rest)) := by
  subst hn
  subst hx
  subst hy
  have nn : ∀ z : Nat, z < 1000 → ¬ Int32.ofInt (z : Int) < 0 ∧ (Int32.ofInt (z : Int)).toNatClampNeg = z := by
    intro z hz
    have h1 : wI (z : Int) = (z : Int) := wI_eq (by omega) (by omega)
    refine ⟨fun q => ?_, ?_⟩
    · have h2 : wI (z : Int) < 0 := Int32.lt_iff_toInt_lt.mp q
      omega
    · show (wI (z : Int)).toNat = z
      rw [h1]
      simp
  intro T hTh X
  have hb2 : k * componentBytes ty ≤ 536870912 := Nat.le_trans (Nat.mul_le_mul (Nat.le_of_lt hk31) hcb) (by decide)
  obtain ⟨vm₁, cA, comp, -, fA, fC, -, -, X', step⟩ := X.multianewarray2F G.1 G.2.2.2.1 (G.2.2.2.2 _ hcl) (G.2.2.2.2 _ hw) (G.2.2.2.2 _ hw1) (g := F0 m pc ls (vI k :: vI n :: rest)) rfl (by rw [G.2.1]; exact d) rfl (nn n hn31).1 (nn k hk31).1 (by rw [(nn n hn31).2]; omega) (by rw [(nn k hk31).2]; exact hb2) (by rw [(nn k hk31).2]; omega) hdf hdd (by rw [(nn n hn31).2]; exact hcells) (by rw [(nn n hn31).2, (nn k hk31).2]; exact hslots)
  rw [(nn n hn31).2, (nn k hk31).2] at X' step
  generalize hF : Jvm.Free.Multi.fill (T.setVm vm₁) cA comp n k (defaultValue ty) n = F at X' step
  have hTH : (T.setVm vm₁).heap = H := hTh
  obtain ⟨f1, f2, -, -⟩ := Jvm.Free.Multi.fill_facts (T.setVm vm₁) cA comp n k (defaultValue ty) n
  rw [hF, hTH] at f1 f2
  have hold : ∀ x : Nat, x < H.size → F.heap[x]? = H[x]? := fun x hx => by
    have := Jvm.Free.Multi.fill_old (T.setVm vm₁) cA comp n k (defaultValue ty) (a := x) (by rw [hTH]; exact hx) n
    rw [hF, hTH] at this
    exact this
  have hrow : ∀ j : Nat, j < n → F.heap[H.size + 1 + j]? = some (Jvm.Free.Multi.innerC comp k (defaultValue ty)) := fun j hj => by
    have := Jvm.Free.Multi.fill_inner (T.setVm vm₁) cA comp n k (defaultValue ty) n j hj
    rw [hF, hTH] at this
    exact this
  have hcA : cA = eT E t := by
    have h1 : s.vm.findClass ("[" ++ (FieldType.array ty).toString) = some (eT E t) := (hM.2.1.2 t _ hT).2
    exact Option.some.inj (fA.symm.trans h1)
  have hcomp : comp = eT E t1 := by
    have h1 := (hM.2.1.2 t1 _ hT1).2
    have h2 : s.vm.findClass ("[" ++ ty.toString) = some (eT E t1) := by
      revert h1
      cases ty <;> intro h1 <;> first | exact h1 | exact absurd rfl (hne _)
    exact Option.some.inj (fC.symm.trans h2)
  have hent1 : ∀ j, j < n → mEnt E (fun _ => 0) (N + 1 + j) = .inl (eT E t1, (zarr t1 k)) := by
    intro j hj
    rcases (by omega : t1 = 0 ∨ t1 = 1 ∨ t1 = 2) with rfl | rfl | rfl
    · rw [mEnt_int (by rw [hsh1 j hj]), hsh1 j hj]; rfl
    · rw [mEnt_long (by rw [hsh1 j hj]), hsh1 j hj]; rfl
    · rw [mEnt_byte (by rw [hsh1 j hj]), hsh1 j hj]; rfl
  have outer : ∀ i : Nat, Jvm.Free.Multi.outerC cA n H.size i = arrV cA n (fun j => va_rf (if j < i then some (H.size + 1 + j) else none)) := by
    intro i
    induction i with
    | zero =>
      show ({ cls := cA, slots := Array.replicate n .null, vm := .none } : Cell) = _
      rw [arrV_new]
      refine congrArg (arrV cA n) (funext fun j => ?_)
      simp [va_rf]
    | succ i ih =>
      show (Jvm.Free.Multi.outerC cA n H.size i).setSlot i (.ref (H.size + 1 + i)) = _
      rw [ih, arrV_store]
      refine congrArg (arrV cA n) (funext fun j => ?_)
      by_cases e : j = i
      · subst e
        simp [updV, va_rf]
      · by_cases h : j < i
        · simp [updV, e, h, Nat.lt_succ_of_lt h]
        · have h2 : ¬ j < i + 1 := by omega
          simp [updV, e, h, h2]
  obtain ⟨m1, m2, m3, m4, m5, m6⟩ := hM
  have key : mM A E (N + 1 + n) σ2 s F.heap locs := by
    refine ⟨m1, m2, m3, fun i q hq => ?_, wl_Dat hE (fun i hi => ?_), Nat.le_trans m6.1 (by omega), fun x h1 h2 => (hold x (Nat.lt_of_lt_of_le h1 m6.1)).trans (m6.2.1 x h1 h2), m6.2.2⟩
    · obtain ⟨hi, rfl⟩ := wl_at hq
      by_cases h1 : i < N
      · have e : σ2 i = σ i := by
          rw [hσ]
          funext b
          simp only [upM]
          rw [if_neg (by omega), if_neg (by omega)]
        rw [e]
        have ha := m4 i _ (wl_get h1)
        exact ha.kept (hold _ ha.lt)
      · by_cases h2 : i = N
        · subst h2
          have e : σ2 i = fun b => if b < n then ((i + 1 + b : Nat) : Int) else 0 := by
            rw [hσ]
            funext b
            simp [upM]
          rw [e, mEnt_refs (by rw [hsh]) (by omega), hsh]
          show F.heap[eA E i]? = some (vp_cell _ _)
          rw [vp_cell_q, ← hz, f2, outer n, hcA]
          congr 2
          funext j
          by_cases hj : j < n
          · rw [if_pos hj, if_pos hj]
            unfold mRf
            rw [if_neg (by omega), hz]
            have e3 : eA E i + 1 + j = eA E ((i + 1 + j : Nat) : Int).toNat := by
              rw [Int.toNat_natCast, hE (i + 1 + j), hE i]
              omega
            rw [e3]
          · rw [if_neg hj, if_neg hj]
            rfl
        · obtain ⟨j, rfl⟩ : ∃ j, i = N + 1 + j := ⟨i - (N + 1), by omega⟩
          have e : σ2 (N + 1 + j) = fun _ => 0 := by
            rw [hσ]
            funext b
            simp only [upM]
            rw [if_neg (by omega), if_pos (by omega)]
          rw [e, hent1 j (by omega)]
          show F.heap[eA E (N + 1 + j)]? = some (vp_cell _ _)
          rw [hcell E, ← hcomp, show eA E (N + 1 + j) = H.size + 1 + j by rw [hz, hE (N + 1 + j), hE N]; omega, hrow j (by omega)]
          exact congrArg some (arrV_new _ _ _)
    · by_cases h : i < N
      · exact m5.2 i _ (wl_get h)
      · refine hA _ (Nat.le_trans m6.1 ?_)
        rw [hz, hE i, hE N]
        omega
  obtain ⟨tt, a1, b1⟩ := kk F.heap key (by rw [f1, hz, hE (N + 1 + n), hE N]; omega) F rfl X'
  refine ⟨tt, step tt ?_, b1⟩
  rw [show T.heap.size = eA E N by rw [hTh, hz]]
  exact a1
theorem mi_put (G : CallFix p m c cc nL s args mTs own) (hM : mM A E N σ s H locs) {r ci k t n : Nat} {C : String} {T : u_T} {ty0 : Nat → FieldType} {ty : FieldType} (hr : r < N) (hc : isC r ci) (hF : mPut ci k t n C T ty0 ty) (hfin : (T k).2.2.2 = false) {ix : Nat} (hw : Cond.fieldLink own ix (T k).1 (T k).2.1 (T k).2.2.1 ∈ mTs) {x : Int} {v : Value} (hv : v = mV E t x) (h1 : narrow ty v = v) (h2 : fits ty v = true) (σ2 : mSt) (hσ : σ2 = upS σ r k x) (d : decode cc pc = .ok (.putfield ix, 3)) (hn : pc + 3 = np)
    (kk : ∀ (H1 : Heap) (locs1 : List Loc), mM A E N σ2 s H1 locs1 → H1.size = H.size → W p l e R s m args below meth c H1 locs1 cells slots Q (F0 m np ls rest)) : W p l e R s m args below meth c H locs cells slots Q (F0 m pc ls (v :: .ref (eA E r) :: rest)) := by
  subst hn
  obtain ⟨⟨g1, g2, g3, g4, g5⟩, g6, g7, g8, g9⟩ := hF
  obtain ⟨m1, m2, m3, m4, m5, m6⟩ := hM
  have he := (wl_get (σ := σ) (E := E) hr).trans (by rw [mEnt_obj hc g5])
  have hap := va_apart (own := own) G.2.2.2.2 g2 ty0 g6 g7 m2 g1
  obtain ⟨r1, q0, cell, q1, q2, q3, q4⟩ := m4 r _ he
  have hr1 : r1 = (C, T, n) := Option.some.inj (q0.symm.trans g1)
  subst hr1
  obtain ⟨hS, hfc, kC, hkC, hkind⟩ := m2.1 ci _ g1
  obtain ⟨cf, kf, fi, f, hi, hsl⟩ := hS k g3
  have hlay := G.2.2.2.2 _ (g2 _ (u_in_lay g3))
  unfold u_lay at hlay
  rw [if_neg (by rw [hfin]; decide)] at hlay
  have hst := (u_facts hfc hkC (u_lays G.2.2.2.2 g2 g3) hi).1
  have h6 := u_store hfc hkC hkind hlay hi g8 h1 h2
  refine W.putK G.1 G.2.1 (f := f) ⟨G.2.2.2.1, G.2.2.2.2 _ hw, ⟨_, _, _, hi⟩, hst⟩ (by rw [q2]; exact h6) q1 q3 (by rw [hsl]; exact k2_hasslot (q4 k g3)) rfl rfl d fun H' e1 e2 e3 => ?_
  rw [hsl] at e1 ⊢
  have e : (wl E N σ).set r (eA E r, .inr (ci, (mFs E (σ r) (mFt ci) 0).set k v)) = wl E N σ2 := by
    refine wl_set hr ?_ (fun j hj => by rw [hσ]; exact upS_row hj)
    rw [mEnt_obj hc g5, hv]
    have e2 : mV E t x = mV E t (σ2 r (0 + k)) := by rw [Nat.zero_add, hσ, upS_same]
    rw [e2, mFs_set (E := E) (f := σ r) (g := σ2 r) (mFt ci) 0 k t g4 (fun b hb => by rw [hσ]; simp only [upS]; rw [if_neg]; intro z; exact hb (by rw [Nat.zero_add]; exact z.2))]
  have hP := va_P.set (e := .inr (ci, (mFs E (σ r) (mFt ci) 0).set k v)) m4 m5 he ⟨_, g1, t_OB.to (V := updV (vp_V (mFs E (σ r) (mFt ci) 0)) k v) ⟨_, e1, q2, q3, t_set q4 hap g3 v⟩ (fun j _ => vp_updV_set (by rw [mFs_len, g9]; exact g3) v j)⟩ e3
  rw [e] at hP
  exact kk H' _ ⟨m1, m2, m3, hP, wl_D m5 (fun i hi => m5.2 i _ (wl_get hi)), m6.put e2 e3 (m5.2 r _ he)⟩ e2
theorem mi_putF (G : CallFix p m c cc nL s args mTs own) (hM : mM A E N σ s H locs) {r ci k t n : Nat} {C : String} {T : u_T} {ty0 : Nat → FieldType} {ty : FieldType} (hr : r < N) (hc : isC r ci) (hF : mPut ci k t n C T ty0 ty) (hfin : (T k).2.2.2 = true) (hin : meth.name = "<init>") (hdecl : (T k).1 = own) {ix : Nat} (hw : Cond.fieldLink own ix (T k).1 (T k).2.1 (T k).2.2.1 ∈ mTs) {x : Int} {v : Value} (hv : v = mV E t x) (h1 : narrow ty v = v) (h2 : fits ty v = true) (σ2 : mSt) (hσ : σ2 = upS σ r k x) (d : decode cc pc = .ok (.putfield ix, 3)) (hn : pc + 3 = np)
    (kk : ∀ (H1 : Heap) (locs1 : List Loc), mM A E N σ2 s H1 locs1 → H1.size = H.size → W p l e R s m args below meth c H1 locs1 cells slots Q (F0 m np ls rest)) : W p l e R s m args below meth c H locs cells slots Q (F0 m pc ls (v :: .ref (eA E r) :: rest)) := by
  subst hn
  obtain ⟨⟨g1, g2, g3, g4, g5⟩, g6, g7, g8, g9⟩ := hF
  obtain ⟨m1, m2, m3, m4, m5, m6⟩ := hM
  have he := (wl_get (σ := σ) (E := E) hr).trans (by rw [mEnt_obj hc g5])
  have hap := va_apart (own := own) G.2.2.2.2 g2 ty0 g6 g7 m2 g1
  obtain ⟨r1, q0, cell, q1, q2, q3, q4⟩ := m4 r _ he
  have hr1 : r1 = (C, T, n) := Option.some.inj (q0.symm.trans g1)
  subst hr1
  obtain ⟨hS, hfc, kC, hkC, hkind⟩ := m2.1 ci _ g1
  obtain ⟨cf, kf, fi, f, hi, hsl⟩ := hS k g3
  have hlay := G.2.2.2.2 _ (g2 _ (u_in_lay g3))
  unfold u_lay at hlay
  rw [if_pos hfin] at hlay
  have hst := (u_facts hfc hkC (u_lays G.2.2.2.2 g2 g3) hi).1
  have hcf : m.cls = cf := by
    obtain ⟨_, _, c', _, _, _, -, -, hf', -, -, -, hown2, -⟩ := Cond.laysFinal_spec hlay
    have e1 : c' = cf := by have := hi.symm.trans hf'; simp at this; exact this.1.symm
    rw [hdecl] at hown2
    rw [← e1]; exact Option.some.inj (G.2.2.2.1.symm.trans hown2)
  have h6 := u_fits hfc hkC hkind (Or.inr hlay) hi g8 h1 h2
  refine W.putFinK G.1 G.2.1 G.2.2.2.1 (G.2.2.2.2 _ hw) hi hst hcf hin (by rw [q2]; exact h6) q1 q3 (by rw [hsl]; exact k2_hasslot (q4 k g3)) rfl rfl d fun H' e1 e2 e3 => ?_
  rw [hsl] at e1 ⊢
  have e : (wl E N σ).set r (eA E r, .inr (ci, (mFs E (σ r) (mFt ci) 0).set k v)) = wl E N σ2 := by
    refine wl_set hr ?_ (fun j hj => by rw [hσ]; exact upS_row hj)
    rw [mEnt_obj hc g5, hv]
    have e2 : mV E t x = mV E t (σ2 r (0 + k)) := by rw [Nat.zero_add, hσ, upS_same]
    rw [e2, mFs_set (E := E) (f := σ r) (g := σ2 r) (mFt ci) 0 k t g4 (fun b hb => by rw [hσ]; simp only [upS]; rw [if_neg]; intro z; exact hb (by rw [Nat.zero_add]; exact z.2))]
  have hP := va_P.set (e := .inr (ci, (mFs E (σ r) (mFt ci) 0).set k v)) m4 m5 he ⟨_, g1, t_OB.to (V := updV (vp_V (mFs E (σ r) (mFt ci) 0)) k v) ⟨_, e1, q2, q3, t_set q4 hap g3 v⟩ (fun j _ => vp_updV_set (by rw [mFs_len, g9]; exact g3) v j)⟩ e3
  rw [e] at hP
  exact kk H' _ ⟨m1, m2, m3, hP, wl_D m5 (fun i hi => m5.2 i _ (wl_get hi)), m6.put e2 e3 (m5.2 r _ he)⟩ e2
theorem r_aastore (G : CallFix p m c cc nL s args mTs own) (hM : mM A E N σ s H locs) {r r2 t ci k : Nat} {C : String} {T : u_T} {nf : Nat} {j : Int} (hr : r < N) (hr2 : r2 < N) (h0 : r2 ≠ 0) (h : (shp r).1 = 20 + t ∧ 0 ≤ wI j ∧ wI j < ((shp r).2 : Int)) (hk : (wI j).toNat = k) (ht : 3 ≤ t) (hT : (mTys E)[t]? = some (eT E t, .object C)) (hcc : vwCl[ci]? = some (C, T, nf)) (hci : ci < 12) (hc2 : isC r2 ci) (σ2 : mSt) (hσ : σ2 = upS σ r k (r2 : Int)) (d : decode cc pc = .ok (.aastore, 1)) (hn : pc + 1 = np)
    (kk : ∀ (H1 : Heap) (locs1 : List Loc), mM A E N σ2 s H1 locs1 → H1.size = H.size → W p l e R s m args below meth c H1 locs1 cells slots Q (F0 m np ls rest)) : W p l e R s m args below meth c H locs cells slots Q (F0 m pc ls (.ref (eA E r2) :: vI j :: .ref (eA E r) :: rest)) := by
  subst hn
  subst hk
  obtain ⟨m1, m2, m3, m4, m5, m6⟩ := hM
  have hin : vp_in (Int32.ofInt j) (shp r).2 := vp_in_iff.mpr h.2
  have ha := (wl_get (σ := σ) (E := E) hr).trans (by rw [mEnt_refs h.1 ht])
  have hv := (wl_get (σ := σ) (E := E) hr2).trans (by rw [mEnt_obj hc2 hci])
  have hlt : (Int32.ofInt j).toNatClampNeg < (shp r).2 := Nat.not_le.mp fun q => hin (Or.inr q)
  have h00 : ¬ Int32.ofInt j < 0 := fun q => hin (Or.inl q)
  obtain ⟨r', hr', cellV, g1, g2, g3, -⟩ := m4 r2 _ hv
  have hcls := (m2.1 ci _ hcc).2
  obtain ⟨kA, comp, k1, k2, k3, -⟩ := (m2.2 t _ hT).2
  have hcomp : comp = (eD E).1 ci := Option.some.inj (k3.symm.trans hcls.1)
  subst hcomp
  obtain ⟨kC, hkC, -⟩ := hcls.2
  refine W.aast G.1 G.2.1 (m4 r _ ha) (fun q h => by cases h) (fun h => by cases h) k1 k2 rfl hkC ⟨h00, by show _ < (arrV _ _ _).slots.size; rw [arrV_size]; exact hlt⟩ g1 (fun q h => by rw [g3] at h; cases h) (by rw [g2]; exact hkC) (by rw [g2]; exact va_assign hcls) rfl rfl d fun H1 e z oq => ?_
  have hat : va_at (eD E) vwCl (eA E r, mEnt E (σ2 r) r) H1 := by
    rw [mEnt_refs h.1 ht]
    show H1[eA E r]? = some (vp_cell _ _)
    rw [e, vp_cell_q, vp_cell_q, arrV_store]
    congr 2
    funext q
    rw [hσ]
    by_cases hq : q = (Int32.ofInt j).toNatClampNeg
    · subst hq
      have e4 : upS σ r (wI j).toNat (r2 : Int) r (Int32.ofInt j).toNatClampNeg = (r2 : Int) := upS_same σ r _ _
      rw [e4]
      simp [updV, va_rf, mRf, h0]
    · have e4 : upS σ r (wI j).toNat (r2 : Int) r q = σ r q := by
        simp only [upS]
        rw [if_neg (fun z => hq z.2)]
      rw [e4]
      simp [updV, hq]
  have es : (wl E N σ).set r (eA E r, mEnt E (σ2 r) r) = wl E N σ2 := wl_set hr rfl (fun k hk => by rw [hσ]; exact upS_row hk)
  have hP := m4.set m5 ha hat oq
  rw [es] at hP
  refine kk H1 _ ⟨m1, m2, m3, hP, wl_D m5 (fun i hi => m5.2 i _ (wl_get hi)), m6.put z oq (m5.2 r _ ha)⟩ z
end MI
def shpIs (N : Nat) (L : List (Nat × Nat)) : Prop := ∀ j, (h : j < L.length) → shp (N + j) = L[j]
theorem shpIs_sub {N : Nat} {L L2 : List (Nat × Nat)} (h : shpIs N L) (k : Nat) (e : (L.drop k).take L2.length = L2) : shpIs (N + k) L2 := by
  intro j hj
  have h1 : (L.drop k)[j]? = some L2[j] := by
    have h2 : ((L.drop k).take L2.length)[j]? = some L2[j] := by rw [e]; exact List.getElem?_eq_getElem hj
    rwa [List.getElem?_take_of_lt hj] at h2
  rw [List.getElem?_drop] at h1
  obtain ⟨h3, h4⟩ := List.getElem?_eq_some_iff.mp h1
  have h5 := h (k + j) h3
  rw [Nat.add_assoc, h5, h4]
theorem shpIs_at {N : Nat} {L : List (Nat × Nat)} (e : (shpL.drop N).take L.length = L) : shpIs N L := by
  intro j hj
  have h2 : ((shpL.drop N).take L.length)[j]? = some L[j] := by rw [e]; exact List.getElem?_eq_getElem hj
  rw [List.getElem?_take_of_lt hj, List.getElem?_drop] at h2
  unfold shp
  rw [List.getD_eq_getElem?_getD, h2]
  rfl
def mAF (E : mE) (N : Nat) : Nat → Prop := fun a => mA E N a ∨ eA E N ≤ a
def mIPre (E : mE) (N : Nat) (σ : mSt) (U : State) : Prop :=
  mWords U ∧ va_K (eD E) vwCl (mTys E) U ∧ mX (mAF E N) E U U.heap ∧ va_P (eD E) vwCl (wl E N σ) U.heap ∧ va_D (mAF E N) (wl E N σ) ∧ U.heap.size = eA E N ∧ ∀ i, eA E i = eA E 0 + i
def mIQ (E : mE) (N N2 : Nat) (σ : mSt) : Array Value → State → Outcome → State → Prop := fun _ st oc t =>
  oc = .returned none ∧ va_P (eD E) vwCl (wl E N2 σ) t.heap ∧ t.heap.size = eA E N2 ∧ va_F (mAF E N) st t
def mIMet (l : Launch) (y : MethodName) (cc : ByteArray) (maxL : Nat) (fr lo : Nat) (E : mE) (r N : Nat) (σ : mSt) (N2 : Nat) (σ2 : mSt) (mc ms : Nat) : Prop :=
  Met l y [.code y cc maxL none] ({ frames := fr, cells := mc, slots := ms, locals := lo } : Room) (va_Pc [.ref (eA E r)] (mIPre E N σ)) (mIQ E N N2 σ2) mc ms (mAF E N)
theorem mIPre.blind {E : mE} {N : Nat} {σ : mSt} {As : List Value} : FrameBlind (va_Pc As (mIPre E N σ)) := by
  rintro a U g mk ⟨h0, h1, h2, h3, h4, h5, h6, h7⟩
  have hW : U.WarmedH (U.calling g mk a).vm := State.WarmedH.refl U
  exact ⟨h0, mWords.ride hW (mWords.use (args := #[]) h1), va_K.moved (U := U.calling g mk a) hW.alike h2, h3.ride (U := U.calling g mk a) hW (fun _ _ _ => rfl) (fun _ h => h), h4, h5, h6, h7⟩
section MJ
variable {p : Program} {l : Launch} {e : Env} {R : Room} {s : State} {m : MethodId} {args : Array Value} {below : List Frame} {meth : Method} {c : Code} {H : Heap} {locs : List Loc} {cells slots : Nat} {Q : State → Prop}
variable {cc : ByteArray} {pc np nL : Nat} {ls : Array Slot} {rest st : List Value} {own : String} {A : Nat → Prop} {E : mE} {σ σ2 : mSt} {N N2 : Nat}
theorem m_ientry {y : MethodName} {maxL fr lo r mc ms : Nat} (hy : plainName y.cls = true) (hA0 : (lg_sl [Value.ref (eA E r)]).length ≤ maxL)
    (body : ∀ (p : Program) (e : Env) (s : State) (m : MethodId) (args : Array Value) (below : List Frame) (meth : Method) (c : Code) (_ : CallFix p m c cc maxL s args mTs y.cls) (_ : meth.sig.returnType = none) (_ : meth.locks = false) (_ : meth.name = "<init>") (_ : mM (mAF E N) E N σ s s.heap []) (_ : s.heap.size = eA E N) (_ : ∀ i, eA E i = eA E 0 + i) (_ : ∀ q, s.heap.size ≤ q → mAF E N q) (ls : Array Slot) (_ : lv_has ls maxL (lv_args 0 [Value.ref (eA E r)])),
      W p l e ({ frames := fr, cells := mc, slots := ms, locals := lo } : Room) s m args below meth c s.heap [] 0 0 (MQ below (mIQ E N N2 σ2) args s mc ms (mAF E N)) (F0 m 0 ls [])) (hy1 : y.name = "<init>" := by rfl) : mIMet l y cc maxL fr lo E r N σ N2 σ2 mc ms := by
  refine Met.ofW (cc := cc) (maxL := maxL) (ret := none) hy rfl ?_
  intro p e s m args below meth c s₁ B hml hv
  obtain ⟨rfl, w1, w2, w3, w4, w5, w6, w7⟩ := hv
  rw [lg_entry_eq]
  exact body p e s m _ below meth c ⟨B.exec, B.bytes, hml, findClass_of_methodNamed B.named, mWords.use w1⟩ B.returns B.notSynchronized ((name_of_methodNamed B.named B.method).1.trans hy1) ⟨w1, w2, w3, w4, w5, va_S.rf⟩ w6 w7 (fun q h => Or.inr (by rw [← w6]; exact h)) _ (lv_entry _ hA0)
theorem m_igo {mc ms : Nat} {st0 : List Value} {a : Array Value} (hr : va_Run p l e R s m args below meth c H locs cells slots mc ms (F0 m pc ls st0) rest (mIQ E N N2 σ2 a) (mAF E N)) (hM : mM A E N σ s H locs) (hz : H.size = eA E N) (hE : ∀ i, eA E i = eA E 0 + i) (hA : ∀ q, s.heap.size ≤ q → A q)
    (kk : ∀ (H1 : Heap) (locs1 : List Loc), mM A E N2 σ2 s H1 locs1 → H1.size = eA E N2 → W p l e R s m args below meth c H1 locs1 (cells + mc) (slots + ms) Q (F0 m (pc + 3) ls rest)) : W p l e R s m args below meth c H locs cells slots Q (F0 m pc ls st0) := by
  intro T hT X
  obtain ⟨m1, m2, m3, m4, m5, m6⟩ := hM
  have hA2 : ∀ q, mAF E N q → A q := by
    rintro q (h | h)
    · exact wl_A m5 q h
    · exact hA q (Nat.le_trans m6.1 (by rw [hz]; exact h))
  obtain ⟨v', st₀, t, T', L, h0, X', hL, e1, e2, ⟨hv, hP, hzt, hz1, hk⟩, st⟩ := hr T hT X
  cases hv
  rw [h0] at hz1 hk
  have hAN : ∀ i, A (eA E i) := by
    intro i
    by_cases h : i < N
    · exact m5.2 i _ (wl_get h)
    · exact hA2 _ (Or.inr (by rw [hE i, hE N]; omega))
  obtain ⟨t2, a1, b1⟩ := kk T'.heap (locs ++ L) ⟨m1, m2, m3, by rw [e1]; exact hP, wl_Dat hE (fun i _ => hAN i), Nat.le_trans m6.1 (by rw [e1]; exact hz1), fun q h1 h2 => by rw [e1, hk q (Nat.lt_of_lt_of_le h1 m6.1) (fun z => h2 (hA2 q z))]; exact m6.2.1 q h1 h2, fun q hq => by
      rcases List.mem_append.mp hq with h | h
      · exact m6.2.2 q h
      · exact hA2 _ (hL q h)⟩ (by rw [e1]; exact hzt) T' rfl X'
  exact ⟨t2, st t2 a1, b1⟩
theorem mM.ipre {U : State} (h : mM A E N σ s H locs) (hz : H.size = eA E N) (hE : ∀ i, eA E i = eA E 0 + i) (hA : ∀ q, s.heap.size ≤ q → A q) (hU : U.heap = H) (hW : s.WarmedH U.vm) : mIPre E N σ U := by
  obtain ⟨h1, h2, h3, h4, h5, h6⟩ := h
  subst hU
  refine ⟨mWords.ride hW (mWords.use (args := #[]) h1), va_K.moved hW.alike h2, h3.ride hW (fun a ha hn => h6.2.1 a ha hn) ?_, h4, wl_Dat hE (fun i hi => Or.inl ⟨i, hi, rfl⟩), hz, hE⟩
  rintro q (h | h)
  · exact wl_A h5 q h
  · exact hA q (Nat.le_trans h6.1 (by rw [hz]; exact h))
theorem m_icall (G : CallFix p m c cc nL s args mTs own) (hM : mM A E N σ s H locs) (hz : H.size = eA E N) (hE : ∀ i, eA E i = eA E 0 + i) (hA : ∀ q, s.heap.size ≤ q → A q) (hls : ls.size = nL) {y : MethodName} {cc' : ByteArray} {maxL fr lo r mc ms ix : Nat} (hc : mIMet l y cc' maxL fr lo E r N σ N2 σ2 mc ms) (hY : mY y cc' maxL none 0 ∧ Cond.instanceMethod y ∈ mTs) (hw : Cond.methodLink own ix y ∈ mTs) (hroom : fr + 1 ≤ R.frames ∧ 8 + (maxL + 11) + lo ≤ R.locals) (hcs : cells + mc ≤ R.cells ∧ slots + ms ≤ R.slots) (hcat : (rest.map fun v => v.category).sum ≤ 8) (d : decode cc pc = .ok (.invokespecial ix, 3)) (hn : pc + 3 = np)
    (kk : ∀ (H1 : Heap) (locs1 : List Loc), mM A E N2 σ2 s H1 locs1 → H1.size = eA E N2 → W p l e R s m args below meth c H1 locs1 (cells + mc) (slots + ms) Q (F0 m np ls rest)) (hy1 : y.name = "<init>" := by rfl) : W p l e R s m args below meth c H locs cells slots Q (F0 m pc ls (.ref (eA E r) :: rest)) := by
  subst hn
  exact m_igo (va_runI (As := []) (rest := rest) G hc ⟨⟨rfl, rfl, hroom.1, hroom.2, fun w h a' U hW => by rw [List.mem_singleton.mp h]; exact m_rideW G hY.1.1 a' U hW, List.mem_singleton.mpr rfl, G.2.2.2.2 _ hY.1.1, G.2.2.2.2 _ hY.1.2.1, hY.1.2.2.1, hY.1.len, G.2.2.2.2 _ hw⟩, hy1, G.2.2.2.2 _ hY.2⟩ ⟨mIPre.blind, fun U hU hW => ⟨rfl, hM.ipre hz hE hA hU hW⟩⟩ rfl rfl hls rfl (lv_room hcat) d hcs) hM hz hE hA kk
theorem m_icallN (G : CallFix p m c cc nL s args mTs own) (hM : mM A E N σ s H locs) (hz : H.size = eA E N) (hE : ∀ i, eA E i = eA E 0 + i) (hA : ∀ q, s.heap.size ≤ q → A q) (hls : ls.size = nL) {y : MethodName} {host : String} {cc' : ByteArray} {maxL fr lo r mc ms ix : Nat} (hc : mIMet l y cc' maxL fr lo E r N σ N2 σ2 mc ms) (hY : mY y cc' maxL none 0 ∧ Cond.instanceMethod y ∈ mTs) (hw : Cond.methodLinkNest own ix y host ∈ mTs) (hroom : fr + 1 ≤ R.frames ∧ 8 + (maxL + 11) + lo ≤ R.locals) (hcs : cells + mc ≤ R.cells ∧ slots + ms ≤ R.slots) (hcat : (rest.map fun v => v.category).sum ≤ 8) (d : decode cc pc = .ok (.invokespecial ix, 3)) (hn : pc + 3 = np)
    (kk : ∀ (H1 : Heap) (locs1 : List Loc), mM A E N2 σ2 s H1 locs1 → H1.size = eA E N2 → W p l e R s m args below meth c H1 locs1 (cells + mc) (slots + ms) Q (F0 m np ls rest)) (hy1 : y.name = "<init>" := by rfl) : W p l e R s m args below meth c H locs cells slots Q (F0 m pc ls (.ref (eA E r) :: rest)) := by
  subst hn
  exact m_igo (va_runIN (As := []) (rest := rest) G hc ⟨⟨⟨rfl, rfl, hroom.1, hroom.2, fun w h a' U hW => by rw [List.mem_singleton.mp h]; exact m_rideW G hY.1.1 a' U hW, List.mem_singleton.mpr rfl⟩, G.2.2.2.2 _ hY.1.1, G.2.2.2.2 _ hY.1.2.1, hY.1.2.2.1, hY.1.len, G.2.2.2.2 _ hw⟩, hy1, G.2.2.2.2 _ hY.2⟩ ⟨mIPre.blind, fun U hU hW => ⟨rfl, hM.ipre hz hE hA hU hW⟩⟩ rfl rfl hls rfl (lv_room hcat) d hcs) hM hz hE hA kk
theorem r_objInit (G : CallFix p m c cc nL s args mTs own) (hls : ls.size = nL) {ix a : Nat} (hw : Cond.methodLink own ix Lib.objectInit ∈ mTs) (hi : Cond.instanceMethod Lib.objectInit ∈ mTs) (hc : Cond.code Lib.objectInit ⟨#[0xb1]⟩ 1 none ∈ mTs) (hf : 1 ≤ R.frames) (hl : (rest.map fun v => v.category).sum + 12 ≤ R.locals) (d : decode cc pc = .ok (.invokespecial ix, 3)) (hn : pc + 3 = np)
    (kk : W p l e R s m args below meth c H locs cells slots Q (F0 m np ls rest)) : W p l e R s m args below meth c H locs cells slots Q (F0 m pc ls (.ref a :: rest)) := by
  subst hn
  exact W.objInit G.1 G.2.1 G.2.2.2.1 (G.2.2.2.2 _ hw) (G.2.2.2.2 _ hi) (G.2.2.2.2 _ hc) rfl (hls.trans G.2.2.1.symm) rfl d hf (by show 2 * 0 + _ + 12 ≤ _; omega) kk
theorem r_ivret (G : CallFix p m c cc nL s args mTs own) (hr : meth.sig.returnType = none) (hlk : meth.locks = false) (hM : mM (mAF E N) E N2 σ2 s H locs) (hz : H.size = eA E N2) {mc ms : Nat} (hcs : (cells, slots) = (mc, ms)) (d : decode cc pc = .ok (.return_, 1)) : W p l e R s m args below meth c H locs cells slots (MQ below (mIQ E N N2 σ2) args s mc ms (mAF E N)) (F0 m pc ls []) := by
  cases hcs
  exact W.vret G.1 G.2.1 hr (fun t ht _ => ⟨rfl, by rw [ht]; exact hM.2.2.2.1, by rw [ht]; exact hz, hM.2.2.2.2.2.F ht⟩) hM.2.2.2.2.2.2.2 d hlk
end MJ
end
