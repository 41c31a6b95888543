/-- a private method of a class that the tables say can be made, by its rows of tables_1 -/
def lw_okq (q : MethodName × Nat) : Prop := (q.1.cls ≠ "java/lang/invoke/MethodHandle" ∧ q.1.cls ≠ "java/lang/invoke/VarHandle") ∧ Cond.instantiable q.1.cls q.2 ∈ tables_1 ∧ Cond.privateMethod q.1 ∈ tables_1 ∧ Cond.instanceMethod q.1 ∈ tables_1
theorem lw_p0 : lw_okq (⟨"FloodTax", "refuse", "(I)I"⟩, 10) := ⟨⟨by decide +kernel, by decide +kernel⟩, List.mem_of_getElem? (i := 16) (by decide +kernel), List.mem_of_getElem? (i := 249) (by decide +kernel), List.mem_of_getElem? (i := 250) (by decide +kernel)⟩
theorem lw_p1 : lw_okq (⟨"FloodTax", "accept", "(I)I"⟩, 10) := ⟨⟨by decide +kernel, by decide +kernel⟩, List.mem_of_getElem? (i := 16) (by decide +kernel), List.mem_of_getElem? (i := 257) (by decide +kernel), List.mem_of_getElem? (i := 258) (by decide +kernel)⟩
theorem lw_p2 : lw_okq (⟨"FloodTax$River", "carryOn", "()V"⟩, 6) := ⟨⟨by decide +kernel, by decide +kernel⟩, List.mem_of_getElem? (i := 24) (by decide +kernel), List.mem_of_getElem? (i := 273) (by decide +kernel), List.mem_of_getElem? (i := 274) (by decide +kernel)⟩
theorem lw_p3 : lw_okq (⟨"FloodTax$Land", "giveOneMore", "(II)V"⟩, 7) := ⟨⟨by decide +kernel, by decide +kernel⟩, List.mem_of_getElem? (i := 53) (by decide +kernel), List.mem_of_getElem? (i := 324) (by decide +kernel), List.mem_of_getElem? (i := 325) (by decide +kernel)⟩
theorem lw_p4 : lw_okq (⟨"FloodTax", "harvestSeen", "(I)I"⟩, 10) := ⟨⟨by decide +kernel, by decide +kernel⟩, List.mem_of_getElem? (i := 16) (by decide +kernel), List.mem_of_getElem? (i := 352) (by decide +kernel), List.mem_of_getElem? (i := 353) (by decide +kernel)⟩
theorem lw_p5 : lw_okq (⟨"FloodTax", "harvestAfter", "(II)I"⟩, 10) := ⟨⟨by decide +kernel, by decide +kernel⟩, List.mem_of_getElem? (i := 16) (by decide +kernel), List.mem_of_getElem? (i := 356) (by decide +kernel), List.mem_of_getElem? (i := 357) (by decide +kernel)⟩
theorem lw_p6 : lw_okq (⟨"FloodTax$Tape", "nextToken", "()V"⟩, 5) := ⟨⟨by decide +kernel, by decide +kernel⟩, List.mem_of_getElem? (i := 103) (by decide +kernel), List.mem_of_getElem? (i := 389) (by decide +kernel), List.mem_of_getElem? (i := 390) (by decide +kernel)⟩
theorem lw_p7 : lw_okq (⟨"FloodTax$Tape", "kindAt", "(I)I"⟩, 5) := ⟨⟨by decide +kernel, by decide +kernel⟩, List.mem_of_getElem? (i := 103) (by decide +kernel), List.mem_of_getElem? (i := 393) (by decide +kernel), List.mem_of_getElem? (i := 394) (by decide +kernel)⟩
theorem lw_p8 : lw_okq (⟨"FloodTax$Tape", "takeDecree", "(LFloodTax$DecreeBook;)Z"⟩, 5) := ⟨⟨by decide +kernel, by decide +kernel⟩, List.mem_of_getElem? (i := 103) (by decide +kernel), List.mem_of_getElem? (i := 397) (by decide +kernel), List.mem_of_getElem? (i := 398) (by decide +kernel)⟩
theorem lw_p9 : lw_okq (⟨"FloodTax$Tape", "takeDecreeKind", "()I"⟩, 5) := ⟨⟨by decide +kernel, by decide +kernel⟩, List.mem_of_getElem? (i := 103) (by decide +kernel), List.mem_of_getElem? (i := 401) (by decide +kernel), List.mem_of_getElem? (i := 402) (by decide +kernel)⟩
theorem lw_p10 : lw_okq (⟨"FloodTax$Tape", "takeWord", "(Ljava/lang/String;)Z"⟩, 5) := ⟨⟨by decide +kernel, by decide +kernel⟩, List.mem_of_getElem? (i := 103) (by decide +kernel), List.mem_of_getElem? (i := 406) (by decide +kernel), List.mem_of_getElem? (i := 407) (by decide +kernel)⟩
theorem lw_p11 : lw_okq (⟨"FloodTax$Tape", "takeNumber", "(I)I"⟩, 5) := ⟨⟨by decide +kernel, by decide +kernel⟩, List.mem_of_getElem? (i := 103) (by decide +kernel), List.mem_of_getElem? (i := 461) (by decide +kernel), List.mem_of_getElem? (i := 462) (by decide +kernel)⟩
theorem lw_p12 : lw_okq (⟨"FloodTax$Tape", "numberAhead", "()I"⟩, 5) := ⟨⟨by decide +kernel, by decide +kernel⟩, List.mem_of_getElem? (i := 103) (by decide +kernel), List.mem_of_getElem? (i := 465) (by decide +kernel), List.mem_of_getElem? (i := 466) (by decide +kernel)⟩
theorem lw_p13 : lw_okq (⟨"FloodTax$Tape", "takeBound", "(I)I"⟩, 5) := ⟨⟨by decide +kernel, by decide +kernel⟩, List.mem_of_getElem? (i := 103) (by decide +kernel), List.mem_of_getElem? (i := 478) (by decide +kernel), List.mem_of_getElem? (i := 479) (by decide +kernel)⟩
theorem lw_p14 : lw_okq (⟨"FloodTax$Tape", "takeSemicolon", "()Z"⟩, 5) := ⟨⟨by decide +kernel, by decide +kernel⟩, List.mem_of_getElem? (i := 103) (by decide +kernel), List.mem_of_getElem? (i := 484) (by decide +kernel), List.mem_of_getElem? (i := 485) (by decide +kernel)⟩
theorem lw_p15 : lw_okq (⟨"FloodTax", "assessSeen", "(I)V"⟩, 10) := ⟨⟨by decide +kernel, by decide +kernel⟩, List.mem_of_getElem? (i := 16) (by decide +kernel), List.mem_of_getElem? (i := 497) (by decide +kernel), List.mem_of_getElem? (i := 498) (by decide +kernel)⟩
def lw_privs_1 : List (MethodName × Nat) := [(⟨"FloodTax", "refuse", "(I)I"⟩, 10), (⟨"FloodTax", "accept", "(I)I"⟩, 10), (⟨"FloodTax$River", "carryOn", "()V"⟩, 6), (⟨"FloodTax$Land", "giveOneMore", "(II)V"⟩, 7), (⟨"FloodTax", "harvestSeen", "(I)I"⟩, 10), (⟨"FloodTax", "harvestAfter", "(II)I"⟩, 10), (⟨"FloodTax$Tape", "nextToken", "()V"⟩, 5), (⟨"FloodTax$Tape", "kindAt", "(I)I"⟩, 5), (⟨"FloodTax$Tape", "takeDecree", "(LFloodTax$DecreeBook;)Z"⟩, 5), (⟨"FloodTax$Tape", "takeDecreeKind", "()I"⟩, 5), (⟨"FloodTax$Tape", "takeWord", "(Ljava/lang/String;)Z"⟩, 5), (⟨"FloodTax$Tape", "takeNumber", "(I)I"⟩, 5), (⟨"FloodTax$Tape", "numberAhead", "()I"⟩, 5), (⟨"FloodTax$Tape", "takeBound", "(I)I"⟩, 5), (⟨"FloodTax$Tape", "takeSemicolon", "()Z"⟩, 5), (⟨"FloodTax", "assessSeen", "(I)V"⟩, 10)]
theorem lw_r1 : ∀ q ∈ lw_privs_1, lw_okq q := List.forall_mem_cons.mpr ⟨lw_p0, List.forall_mem_cons.mpr ⟨lw_p1, List.forall_mem_cons.mpr ⟨lw_p2, List.forall_mem_cons.mpr ⟨lw_p3, List.forall_mem_cons.mpr ⟨lw_p4, List.forall_mem_cons.mpr ⟨lw_p5, List.forall_mem_cons.mpr ⟨lw_p6, List.forall_mem_cons.mpr ⟨lw_p7, List.forall_mem_cons.mpr ⟨lw_p8, List.forall_mem_cons.mpr ⟨lw_p9, List.forall_mem_cons.mpr ⟨lw_p10, List.forall_mem_cons.mpr ⟨lw_p11, List.forall_mem_cons.mpr ⟨lw_p12, List.forall_mem_cons.mpr ⟨lw_p13, List.forall_mem_cons.mpr ⟨lw_p14, List.forall_mem_cons.mpr ⟨lw_p15, fun _ h => absurd h List.not_mem_nil⟩⟩⟩⟩⟩⟩⟩⟩⟩⟩⟩⟩⟩⟩⟩⟩
theorem lw_p16 : lw_okq (⟨"FloodTax$DecreeBook", "lastOf", "(I)I"⟩, 5) := ⟨⟨by decide +kernel, by decide +kernel⟩, List.mem_of_getElem? (i := 184) (by decide +kernel), List.mem_of_getElem? (i := 509) (by decide +kernel), List.mem_of_getElem? (i := 510) (by decide +kernel)⟩
theorem lw_p17 : lw_okq (⟨"FloodTax$DecreeBook", "partOf", "(II)I"⟩, 5) := ⟨⟨by decide +kernel, by decide +kernel⟩, List.mem_of_getElem? (i := 184) (by decide +kernel), List.mem_of_getElem? (i := 517) (by decide +kernel), List.mem_of_getElem? (i := 518) (by decide +kernel)⟩
theorem lw_p18 : lw_okq (⟨"FloodTax", "gainSeen", "(I)J"⟩, 10) := ⟨⟨by decide +kernel, by decide +kernel⟩, List.mem_of_getElem? (i := 16) (by decide +kernel), List.mem_of_getElem? (i := 550) (by decide +kernel), List.mem_of_getElem? (i := 551) (by decide +kernel)⟩
theorem lw_p19 : lw_okq (⟨"FloodTax", "whoGets", "(II)I"⟩, 10) := ⟨⟨by decide +kernel, by decide +kernel⟩, List.mem_of_getElem? (i := 16) (by decide +kernel), List.mem_of_getElem? (i := 563) (by decide +kernel), List.mem_of_getElem? (i := 564) (by decide +kernel)⟩
theorem lw_p20 : lw_okq (⟨"FloodTaxModel", "told", "(I)I"⟩, 39) := ⟨⟨by decide +kernel, by decide +kernel⟩, List.mem_of_getElem? (i := 583) (by decide +kernel), List.mem_of_getElem? (i := 723) (by decide +kernel), List.mem_of_getElem? (i := 724) (by decide +kernel)⟩
theorem lw_p21 : lw_okq (⟨"FloodTaxModel", "find", "(II)V"⟩, 39) := ⟨⟨by decide +kernel, by decide +kernel⟩, List.mem_of_getElem? (i := 583) (by decide +kernel), List.mem_of_getElem? (i := 731) (by decide +kernel), List.mem_of_getElem? (i := 732) (by decide +kernel)⟩
theorem lw_p22 : lw_okq (⟨"FloodTaxModel", "peakOf", "()I"⟩, 39) := ⟨⟨by decide +kernel, by decide +kernel⟩, List.mem_of_getElem? (i := 583) (by decide +kernel), List.mem_of_getElem? (i := 739) (by decide +kernel), List.mem_of_getElem? (i := 740) (by decide +kernel)⟩
theorem lw_p23 : lw_okq (⟨"FloodTaxModel", "isStrip", "(I)Z"⟩, 39) := ⟨⟨by decide +kernel, by decide +kernel⟩, List.mem_of_getElem? (i := 583) (by decide +kernel), List.mem_of_getElem? (i := 752) (by decide +kernel), List.mem_of_getElem? (i := 753) (by decide +kernel)⟩
theorem lw_p24 : lw_okq (⟨"FloodTaxModel", "isMark", "(I)Z"⟩, 39) := ⟨⟨by decide +kernel, by decide +kernel⟩, List.mem_of_getElem? (i := 583) (by decide +kernel), List.mem_of_getElem? (i := 760) (by decide +kernel), List.mem_of_getElem? (i := 761) (by decide +kernel)⟩
theorem lw_p25 : lw_okq (⟨"FloodTaxModel", "wetOf", "(I)I"⟩, 39) := ⟨⟨by decide +kernel, by decide +kernel⟩, List.mem_of_getElem? (i := 583) (by decide +kernel), List.mem_of_getElem? (i := 784) (by decide +kernel), List.mem_of_getElem? (i := 785) (by decide +kernel)⟩
theorem lw_p26 : lw_okq (⟨"FloodTaxModel", "harvestOf", "(I)I"⟩, 39) := ⟨⟨by decide +kernel, by decide +kernel⟩, List.mem_of_getElem? (i := 583) (by decide +kernel), List.mem_of_getElem? (i := 792) (by decide +kernel), List.mem_of_getElem? (i := 793) (by decide +kernel)⟩
theorem lw_p27 : lw_okq (⟨"FloodTaxModel", "four", "(I)V"⟩, 39) := ⟨⟨by decide +kernel, by decide +kernel⟩, List.mem_of_getElem? (i := 583) (by decide +kernel), List.mem_of_getElem? (i := 804) (by decide +kernel), List.mem_of_getElem? (i := 805) (by decide +kernel)⟩
theorem lw_p28 : lw_okq (⟨"FloodTaxModel", "next", "()V"⟩, 39) := ⟨⟨by decide +kernel, by decide +kernel⟩, List.mem_of_getElem? (i := 583) (by decide +kernel), List.mem_of_getElem? (i := 816) (by decide +kernel), List.mem_of_getElem? (i := 817) (by decide +kernel)⟩
theorem lw_p29 : lw_okq (⟨"FloodTaxModel", "readDecree", "()V"⟩, 39) := ⟨⟨by decide +kernel, by decide +kernel⟩, List.mem_of_getElem? (i := 583) (by decide +kernel), List.mem_of_getElem? (i := 831) (by decide +kernel), List.mem_of_getElem? (i := 832) (by decide +kernel)⟩
theorem lw_p30 : lw_okq (⟨"FloodTaxModel", "isWord", "(IIIIIII)Z"⟩, 39) := ⟨⟨by decide +kernel, by decide +kernel⟩, List.mem_of_getElem? (i := 583) (by decide +kernel), List.mem_of_getElem? (i := 835) (by decide +kernel), List.mem_of_getElem? (i := 836) (by decide +kernel)⟩
theorem lw_p31 : lw_okq (⟨"FloodTaxModel", "must", "(Z)V"⟩, 39) := ⟨⟨by decide +kernel, by decide +kernel⟩, List.mem_of_getElem? (i := 583) (by decide +kernel), List.mem_of_getElem? (i := 839) (by decide +kernel), List.mem_of_getElem? (i := 840) (by decide +kernel)⟩
def lw_privs_2 : List (MethodName × Nat) := [(⟨"FloodTax$DecreeBook", "lastOf", "(I)I"⟩, 5), (⟨"FloodTax$DecreeBook", "partOf", "(II)I"⟩, 5), (⟨"FloodTax", "gainSeen", "(I)J"⟩, 10), (⟨"FloodTax", "whoGets", "(II)I"⟩, 10), (⟨"FloodTaxModel", "told", "(I)I"⟩, 39), (⟨"FloodTaxModel", "find", "(II)V"⟩, 39), (⟨"FloodTaxModel", "peakOf", "()I"⟩, 39), (⟨"FloodTaxModel", "isStrip", "(I)Z"⟩, 39), (⟨"FloodTaxModel", "isMark", "(I)Z"⟩, 39), (⟨"FloodTaxModel", "wetOf", "(I)I"⟩, 39), (⟨"FloodTaxModel", "harvestOf", "(I)I"⟩, 39), (⟨"FloodTaxModel", "four", "(I)V"⟩, 39), (⟨"FloodTaxModel", "next", "()V"⟩, 39), (⟨"FloodTaxModel", "readDecree", "()V"⟩, 39), (⟨"FloodTaxModel", "isWord", "(IIIIIII)Z"⟩, 39), (⟨"FloodTaxModel", "must", "(Z)V"⟩, 39)]
theorem lw_r2 : ∀ q ∈ lw_privs_2, lw_okq q := List.forall_mem_cons.mpr ⟨lw_p16, List.forall_mem_cons.mpr ⟨lw_p17, List.forall_mem_cons.mpr ⟨lw_p18, List.forall_mem_cons.mpr ⟨lw_p19, List.forall_mem_cons.mpr ⟨lw_p20, List.forall_mem_cons.mpr ⟨lw_p21, List.forall_mem_cons.mpr ⟨lw_p22, List.forall_mem_cons.mpr ⟨lw_p23, List.forall_mem_cons.mpr ⟨lw_p24, List.forall_mem_cons.mpr ⟨lw_p25, List.forall_mem_cons.mpr ⟨lw_p26, List.forall_mem_cons.mpr ⟨lw_p27, List.forall_mem_cons.mpr ⟨lw_p28, List.forall_mem_cons.mpr ⟨lw_p29, List.forall_mem_cons.mpr ⟨lw_p30, List.forall_mem_cons.mpr ⟨lw_p31, fun _ h => absurd h List.not_mem_nil⟩⟩⟩⟩⟩⟩⟩⟩⟩⟩⟩⟩⟩⟩⟩⟩
theorem lw_p32 : lw_okq (⟨"FloodTaxModel", "number", "(J)I"⟩, 39) := ⟨⟨by decide +kernel, by decide +kernel⟩, List.mem_of_getElem? (i := 583) (by decide +kernel), List.mem_of_getElem? (i := 843) (by decide +kernel), List.mem_of_getElem? (i := 844) (by decide +kernel)⟩
theorem lw_p33 : lw_okq (⟨"FloodTaxModel", "reckon", "(I)V"⟩, 39) := ⟨⟨by decide +kernel, by decide +kernel⟩, List.mem_of_getElem? (i := 583) (by decide +kernel), List.mem_of_getElem? (i := 856) (by decide +kernel), List.mem_of_getElem? (i := 857) (by decide +kernel)⟩
def lw_privs_3 : List (MethodName × Nat) := [(⟨"FloodTaxModel", "number", "(J)I"⟩, 39), (⟨"FloodTaxModel", "reckon", "(I)V"⟩, 39)]
theorem lw_r3 : ∀ q ∈ lw_privs_3, lw_okq q := List.forall_mem_cons.mpr ⟨lw_p32, List.forall_mem_cons.mpr ⟨lw_p33, fun _ h => absurd h List.not_mem_nil⟩⟩
def lw_privs : List (MethodName × Nat) := lw_privs_1 ++ (lw_privs_2 ++ (lw_privs_3))
def lw_tbl : List Cond := k2_sels lw_privs ++ tables_1
theorem lw_privs_ok : ∀ q ∈ lw_privs, lw_okq q := by
  show ∀ q ∈ lw_privs_1 ++ (lw_privs_2 ++ (lw_privs_3)), lw_okq q
  exact List.forall_mem_append.mpr ⟨lw_r1, List.forall_mem_append.mpr ⟨lw_r2, lw_r3⟩⟩
def RX0 : String := "FloodTax$BearTable"
def TX0 : u_T := fun k => match k with
  | 0 => ("FloodTax$BearTable", "fromDays", "[I", true)
  | _ => ("FloodTax$BearTable", "sheavesARope", "[I", true)
def tyX0 : Nat → FieldType := fun k => match k with
  | 0 => .array .int
  | _ => .array .int
theorem nmX0 : ∀ a, a < 2 → ∀ b, b < 2 → a ≠ b → (TX0 a).2.1 ≠ (TX0 b).2.1 := by decide +kernel
theorem tyX0_ok : ∀ k, k < 2 → parseFieldDescriptor (TX0 k).2.2.1 = some (tyX0 k) := by decide +kernel
abbrev cX0_init : ByteArray := prog_2_method_1_code
def yX0_init : MethodName := ⟨RX0, "<init>", "()V"⟩
abbrev cX0_borneAfter : ByteArray := prog_2_method_2_code
def yX0_borneAfter : MethodName := ⟨RX0, "borneAfter", "(I)I"⟩
def RX1 : String := "FloodTax$DecreeBook"
def TX1 : u_T := fun k => match k with
  | 0 => ("FloodTax$DecreeBook", "kinds", "[I", true)
  | 1 => ("FloodTax$DecreeBook", "parts", "[I", true)
  | 2 => ("FloodTax$DecreeBook", "wholes", "[I", true)
  | 3 => ("FloodTax$DecreeBook", "bounds", "[I", true)
  | _ => ("FloodTax$DecreeBook", "size", "I", false)
def tyX1 : Nat → FieldType := fun k => match k with
  | 0 => .array .int
  | 1 => .array .int
  | 2 => .array .int
  | 3 => .array .int
  | _ => .int
theorem nmX1 : ∀ a, a < 5 → ∀ b, b < 5 → a ≠ b → (TX1 a).2.1 ≠ (TX1 b).2.1 := by decide +kernel
theorem tyX1_ok : ∀ k, k < 5 → parseFieldDescriptor (TX1 k).2.2.1 = some (tyX1 k) := by decide +kernel
abbrev cX1_init : ByteArray := prog_3_method_1_code
def yX1_init : MethodName := ⟨RX1, "<init>", "()V"⟩
abbrev cX1_add : ByteArray := prog_3_method_2_code
def yX1_add : MethodName := ⟨RX1, "add", "(IIII)V"⟩
abbrev cX1_frees : ByteArray := prog_3_method_3_code
def yX1_frees : MethodName := ⟨RX1, "frees", "(I)Z"⟩
abbrev cX1_taxOn : ByteArray := prog_3_method_4_code
def yX1_taxOn : MethodName := ⟨RX1, "taxOn", "(II)I"⟩
abbrev cX1_reliefOn : ByteArray := prog_3_method_5_code
def yX1_reliefOn : MethodName := ⟨RX1, "reliefOn", "(II)I"⟩
abbrev cX1_officerPart : ByteArray := prog_3_method_6_code
def yX1_officerPart : MethodName := ⟨RX1, "officerPart", "(I)I"⟩
abbrev cX1_lastOf : ByteArray := prog_3_method_7_code
def yX1_lastOf : MethodName := ⟨RX1, "lastOf", "(I)I"⟩
abbrev cX1_partOf : ByteArray := prog_3_method_8_code
def yX1_partOf : MethodName := ⟨RX1, "partOf", "(II)I"⟩
def RX2 : String := "FloodTax$Land"
def TX2 : u_T := fun k => match k with
  | 0 => ("FloodTax$Land", "widths", "[I", true)
  | 1 => ("FloodTax$Land", "register", "[I", true)
  | 2 => ("FloodTax$Land", "levels", "[I", true)
  | 3 => ("FloodTax$Land", "owners", "[I", true)
  | 4 => ("FloodTax$Land", "lost", "[Z", true)
  | 5 => ("FloodTax$Land", "rests", "[I", true)
  | _ => ("FloodTax$Land", "strips", "I", false)
def tyX2 : Nat → FieldType := fun k => match k with
  | 0 => .array .int
  | 1 => .array .int
  | 2 => .array .int
  | 3 => .array .int
  | 4 => .array .boolean
  | 5 => .array .int
  | _ => .int
theorem nmX2 : ∀ a, a < 7 → ∀ b, b < 7 → a ≠ b → (TX2 a).2.1 ≠ (TX2 b).2.1 := by decide +kernel
theorem tyX2_ok : ∀ k, k < 7 → parseFieldDescriptor (TX2 k).2.2.1 = some (tyX2 k) := by decide +kernel
abbrev cX2_init : ByteArray := prog_4_method_1_code
def yX2_init : MethodName := ⟨RX2, "<init>", "()V"⟩
abbrev cX2_addStrip : ByteArray := prog_4_method_2_code
def yX2_addStrip : MethodName := ⟨RX2, "addStrip", "(III)V"⟩
abbrev cX2_hasStrip : ByteArray := prog_4_method_3_code
def yX2_hasStrip : MethodName := ⟨RX2, "hasStrip", "(I)Z"⟩
abbrev cX2_hasMark : ByteArray := prog_4_method_4_code
def yX2_hasMark : MethodName := ⟨RX2, "hasMark", "(I)Z"⟩
abbrev cX2_isRock : ByteArray := prog_4_method_5_code
def yX2_isRock : MethodName := ⟨RX2, "isRock", "(I)Z"⟩
abbrev cX2_canDraw : ByteArray := prog_4_method_6_code
def yX2_canDraw : MethodName := ⟨RX2, "canDraw", "(II)Z"⟩
abbrev cX2_partRopes : ByteArray := prog_4_method_7_code
def yX2_partRopes : MethodName := ⟨RX2, "partRopes", "(III)V"⟩
abbrev cX2_giveOneMore : ByteArray := prog_4_method_8_code
def yX2_giveOneMore : MethodName := ⟨RX2, "giveOneMore", "(II)V"⟩
abbrev cX2_setMarksBetween : ByteArray := prog_4_method_9_code
def yX2_setMarksBetween : MethodName := ⟨RX2, "setMarksBetween", "(II)I"⟩
abbrev cX2_lostMarks : ByteArray := prog_4_method_10_code
def yX2_lostMarks : MethodName := ⟨RX2, "lostMarks", "()I"⟩
abbrev cX2_allWidths : ByteArray := prog_4_method_11_code
def yX2_allWidths : MethodName := ⟨RX2, "allWidths", "()I"⟩
def RX3 : String := "FloodTax$Levy"
def TX3 : u_T := fun k => match k with
  | 0 => ("FloodTax$Levy", "due", "I", false)
  | 1 => ("FloodTax$Levy", "relieved", "I", false)
  | 2 => ("FloodTax$Levy", "toOfficer", "I", false)
  | 3 => ("FloodTax$Levy", "toKing", "I", false)
  | _ => ("FloodTax$Levy", "toOwner", "I", false)
def tyX3 : Nat → FieldType := fun k => match k with
  | 0 => .int
  | 1 => .int
  | 2 => .int
  | 3 => .int
  | _ => .int
theorem nmX3 : ∀ a, a < 5 → ∀ b, b < 5 → a ≠ b → (TX3 a).2.1 ≠ (TX3 b).2.1 := by decide +kernel
theorem tyX3_ok : ∀ k, k < 5 → parseFieldDescriptor (TX3 k).2.2.1 = some (tyX3 k) := by decide +kernel
abbrev cX3_init : ByteArray := prog_5_method_1_code
def yX3_init : MethodName := ⟨RX3, "<init>", "()V"⟩
abbrev cX3_assess : ByteArray := prog_5_method_2_code
def yX3_assess : MethodName := ⟨RX3, "assess", "(LFloodTax$DecreeBook;III)V"⟩
def RX4 : String := "FloodTax$River"
def TX4 : u_T := fun k => match k with
  | 0 => ("FloodTax$River", "days", "[I", true)
  | 1 => ("FloodTax$River", "heights", "[I", true)
  | 2 => ("FloodTax$River", "knownFrom", "[I", true)
  | 3 => ("FloodTax$River", "told", "I", false)
  | 4 => ("FloodTax$River", "seen", "[I", true)
  | _ => ("FloodTax$River", "seenPeak", "I", false)
def tyX4 : Nat → FieldType := fun k => match k with
  | 0 => .array .int
  | 1 => .array .int
  | 2 => .array .int
  | 3 => .int
  | 4 => .array .int
  | _ => .int
theorem nmX4 : ∀ a, a < 6 → ∀ b, b < 6 → a ≠ b → (TX4 a).2.1 ≠ (TX4 b).2.1 := by decide +kernel
theorem tyX4_ok : ∀ k, k < 6 → parseFieldDescriptor (TX4 k).2.2.1 = some (tyX4 k) := by decide +kernel
abbrev cX4_init : ByteArray := prog_6_method_1_code
def yX4_init : MethodName := ⟨RX4, "<init>", "()V"⟩
abbrev cX4_tell : ByteArray := prog_6_method_2_code
def yX4_tell : MethodName := ⟨RX4, "tell", "(III)V"⟩
abbrev cX4_look : ByteArray := prog_6_method_3_code
def yX4_look : MethodName := ⟨RX4, "look", "(I)V"⟩
abbrev cX4_lookUpTo : ByteArray := prog_6_method_4_code
def yX4_lookUpTo : MethodName := ⟨RX4, "lookUpTo", "(II)V"⟩
abbrev cX4_carryOn : ByteArray := prog_6_method_5_code
def yX4_carryOn : MethodName := ⟨RX4, "carryOn", "()V"⟩
abbrev cX4_wetDays : ByteArray := prog_6_method_6_code
def yX4_wetDays : MethodName := ⟨RX4, "wetDays", "(I)I"⟩
def RX5 : String := "FloodTax$Takings"
def TX5 : u_T := fun k => match k with
  | 0 => ("FloodTax$Takings", "officers", "[I", true)
  | 1 => ("FloodTax$Takings", "strips", "[I", true)
  | 2 => ("FloodTax$Takings", "amounts", "[I", true)
  | 3 => ("FloodTax$Takings", "knownFrom", "[I", true)
  | 4 => ("FloodTax$Takings", "own", "[I", true)
  | 5 => ("FloodTax$Takings", "all", "[I", true)
  | _ => ("FloodTax$Takings", "size", "I", false)
def tyX5 : Nat → FieldType := fun k => match k with
  | 0 => .array .int
  | 1 => .array .int
  | 2 => .array .int
  | 3 => .array .int
  | 4 => .array .int
  | 5 => .array .int
  | _ => .int
theorem nmX5 : ∀ a, a < 7 → ∀ b, b < 7 → a ≠ b → (TX5 a).2.1 ≠ (TX5 b).2.1 := by decide +kernel
theorem tyX5_ok : ∀ k, k < 7 → parseFieldDescriptor (TX5 k).2.2.1 = some (tyX5 k) := by decide +kernel
abbrev cX5_init : ByteArray := prog_7_method_1_code
def yX5_init : MethodName := ⟨RX5, "<init>", "()V"⟩
abbrev cX5_add : ByteArray := prog_7_method_2_code
def yX5_add : MethodName := ⟨RX5, "add", "(IIII)V"⟩
abbrev cX5_sumUp : ByteArray := prog_7_method_3_code
def yX5_sumUp : MethodName := ⟨RX5, "sumUp", "(II)V"⟩
def RX6 : String := "FloodTax$Tape"
def TX6 : u_T := fun k => match k with
  | 0 => ("FloodTax$Tape", "bytes", "[I", true)
  | 1 => ("FloodTax$Tape", "length", "I", false)
  | 2 => ("FloodTax$Tape", "kind", "I", false)
  | 3 => ("FloodTax$Tape", "start", "I", false)
  | _ => ("FloodTax$Tape", "after", "I", false)
def tyX6 : Nat → FieldType := fun k => match k with
  | 0 => .array .int
  | 1 => .int
  | 2 => .int
  | 3 => .int
  | _ => .int
theorem nmX6 : ∀ a, a < 5 → ∀ b, b < 5 → a ≠ b → (TX6 a).2.1 ≠ (TX6 b).2.1 := by decide +kernel
theorem tyX6_ok : ∀ k, k < 5 → parseFieldDescriptor (TX6 k).2.2.1 = some (tyX6 k) := by decide +kernel
abbrev cX6_init : ByteArray := prog_8_method_1_code
def yX6_init : MethodName := ⟨RX6, "<init>", "()V"⟩
abbrev cX6_append : ByteArray := prog_8_method_2_code
def yX6_append : MethodName := ⟨RX6, "append", "(I)V"⟩
abbrev cX6_parseInto : ByteArray := prog_8_method_3_code
def yX6_parseInto : MethodName := ⟨RX6, "parseInto", "(LFloodTax$DecreeBook;)I"⟩
abbrev cX6_takeDecree : ByteArray := prog_8_method_4_code
def yX6_takeDecree : MethodName := ⟨RX6, "takeDecree", "(LFloodTax$DecreeBook;)Z"⟩
abbrev cX6_takeDecreeKind : ByteArray := prog_8_method_5_code
def yX6_takeDecreeKind : MethodName := ⟨RX6, "takeDecreeKind", "()I"⟩
abbrev cX6_takeBound : ByteArray := prog_8_method_6_code
def yX6_takeBound : MethodName := ⟨RX6, "takeBound", "(I)I"⟩
abbrev cX6_takeNumber : ByteArray := prog_8_method_7_code
def yX6_takeNumber : MethodName := ⟨RX6, "takeNumber", "(I)I"⟩
abbrev cX6_numberAhead : ByteArray := prog_8_method_8_code
def yX6_numberAhead : MethodName := ⟨RX6, "numberAhead", "()I"⟩
abbrev cX6_takeWord : ByteArray := prog_8_method_9_code
def yX6_takeWord : MethodName := ⟨RX6, "takeWord", "(Ljava/lang/String;)Z"⟩
abbrev cX6_takeSemicolon : ByteArray := prog_8_method_10_code
def yX6_takeSemicolon : MethodName := ⟨RX6, "takeSemicolon", "()Z"⟩
abbrev cX6_nextToken : ByteArray := prog_8_method_11_code
def yX6_nextToken : MethodName := ⟨RX6, "nextToken", "()V"⟩
abbrev cX6_kindAt : ByteArray := prog_8_method_12_code
def yX6_kindAt : MethodName := ⟨RX6, "kindAt", "(I)I"⟩
def RX7 : String := "FloodTax"
def TX7 : u_T := fun k => match k with
  | 0 => ("FloodTax", "river", "LFloodTax$River;", true)
  | 1 => ("FloodTax", "land", "LFloodTax$Land;", true)
  | 2 => ("FloodTax", "bearTable", "LFloodTax$BearTable;", true)
  | 3 => ("FloodTax", "tape", "LFloodTax$Tape;", true)
  | 4 => ("FloodTax", "levy", "LFloodTax$Levy;", true)
  | 5 => ("FloodTax", "takings", "LFloodTax$Takings;", true)
  | 6 => ("FloodTax", "book", "LFloodTax$DecreeBook;", false)
  | 7 => ("FloodTax", "spareBook", "LFloodTax$DecreeBook;", false)
  | 8 => ("FloodTax", "faultPlace", "I", false)
  | _ => ("FloodTax", "refusal", "I", false)
def tyX7 : Nat → FieldType := fun k => match k with
  | 0 => .object "FloodTax$River"
  | 1 => .object "FloodTax$Land"
  | 2 => .object "FloodTax$BearTable"
  | 3 => .object "FloodTax$Tape"
  | 4 => .object "FloodTax$Levy"
  | 5 => .object "FloodTax$Takings"
  | 6 => .object "FloodTax$DecreeBook"
  | 7 => .object "FloodTax$DecreeBook"
  | 8 => .int
  | _ => .int
theorem nmX7 : ∀ a, a < 10 → ∀ b, b < 10 → a ≠ b → (TX7 a).2.1 ≠ (TX7 b).2.1 := by decide +kernel
theorem tyX7_ok : ∀ k, k < 10 → parseFieldDescriptor (TX7 k).2.2.1 = some (tyX7 k) := by decide +kernel
abbrev cX7_init : ByteArray := prog_1_method_1_code
def yX7_init : MethodName := ⟨RX7, "<init>", "()V"⟩
abbrev cX7_read : ByteArray := prog_1_method_2_code
def yX7_read : MethodName := ⟨RX7, "read", "(III)I"⟩
abbrev cX7_height : ByteArray := prog_1_method_3_code
def yX7_height : MethodName := ⟨RX7, "height", "(II)I"⟩
abbrev cX7_peak : ByteArray := prog_1_method_4_code
def yX7_peak : MethodName := ⟨RX7, "peak", "(I)I"⟩
abbrev cX7_strip : ByteArray := prog_1_method_5_code
def yX7_strip : MethodName := ⟨RX7, "strip", "(III)I"⟩
abbrev cX7_of : ByteArray := prog_1_method_6_code
def yX7_of : MethodName := ⟨RX7, "of", "(II)I"⟩
abbrev cX7_lose : ByteArray := prog_1_method_7_code
def yX7_lose : MethodName := ⟨RX7, "lose", "(I)I"⟩
abbrev cX7_draw : ByteArray := prog_1_method_8_code
def yX7_draw : MethodName := ⟨RX7, "draw", "(III)I"⟩
abbrev cX7_stands : ByteArray := prog_1_method_9_code
def yX7_stands : MethodName := ⟨RX7, "stands", "(I)I"⟩
abbrev cX7_table : ByteArray := prog_1_method_10_code
def yX7_table : MethodName := ⟨RX7, "table", "(III)I"⟩
abbrev cX7_wet : ByteArray := prog_1_method_11_code
def yX7_wet : MethodName := ⟨RX7, "wet", "(II)I"⟩
abbrev cX7_harvest : ByteArray := prog_1_method_12_code
def yX7_harvest : MethodName := ⟨RX7, "harvest", "(II)I"⟩
abbrev cX7_foretold : ByteArray := prog_1_method_13_code
def yX7_foretold : MethodName := ⟨RX7, "foretold", "(II)I"⟩
abbrev cX7_feed : ByteArray := prog_1_method_14_code
def yX7_feed : MethodName := ⟨RX7, "feed", "(IIIII)I"⟩
abbrev cX7_end : ByteArray := prog_1_method_15_code
def yX7_end : MethodName := ⟨RX7, "end", "(I)I"⟩
abbrev cX7_decrees : ByteArray := prog_1_method_16_code
def yX7_decrees : MethodName := ⟨RX7, "decrees", "()I"⟩
abbrev cX7_fault : ByteArray := prog_1_method_17_code
def yX7_fault : MethodName := ⟨RX7, "fault", "()I"⟩
abbrev cX7_tax : ByteArray := prog_1_method_18_code
def yX7_tax : MethodName := ⟨RX7, "tax", "(III)I"⟩
abbrev cX7_take : ByteArray := prog_1_method_19_code
def yX7_take : MethodName := ⟨RX7, "take", "(IIII)I"⟩
abbrev cX7_gain : ByteArray := prog_1_method_20_code
def yX7_gain : MethodName := ⟨RX7, "gain", "(II)J"⟩
abbrev cX7_sheaves : ByteArray := prog_1_method_21_code
def yX7_sheaves : MethodName := ⟨RX7, "sheaves", "(I)I"⟩
abbrev cX7_led : ByteArray := prog_1_method_22_code
def yX7_led : MethodName := ⟨RX7, "led", "(III)I"⟩
abbrev cX7_count : ByteArray := prog_1_method_23_code
def yX7_count : MethodName := ⟨RX7, "count", "(I)I"⟩
abbrev cX7_status : ByteArray := prog_1_method_24_code
def yX7_status : MethodName := ⟨RX7, "status", "()I"⟩
abbrev cX7_refuse : ByteArray := prog_1_method_25_code
def yX7_refuse : MethodName := ⟨RX7, "refuse", "(I)I"⟩
abbrev cX7_accept : ByteArray := prog_1_method_26_code
def yX7_accept : MethodName := ⟨RX7, "accept", "(I)I"⟩
abbrev cX7_harvestSeen : ByteArray := prog_1_method_27_code
def yX7_harvestSeen : MethodName := ⟨RX7, "harvestSeen", "(I)I"⟩
abbrev cX7_harvestAfter : ByteArray := prog_1_method_28_code
def yX7_harvestAfter : MethodName := ⟨RX7, "harvestAfter", "(II)I"⟩
abbrev cX7_assessSeen : ByteArray := prog_1_method_29_code
def yX7_assessSeen : MethodName := ⟨RX7, "assessSeen", "(I)V"⟩
abbrev cX7_gainSeen : ByteArray := prog_1_method_30_code
def yX7_gainSeen : MethodName := ⟨RX7, "gainSeen", "(I)J"⟩
abbrev cX7_whoGets : ByteArray := prog_1_method_31_code
def yX7_whoGets : MethodName := ⟨RX7, "whoGets", "(II)I"⟩
abbrev cX7_isWithin : ByteArray := prog_1_method_32_code
def yX7_isWithin : MethodName := ⟨RX7, "isWithin", "(II)Z"⟩
abbrev cX7_isKnownDay : ByteArray := prog_1_method_33_code
def yX7_isKnownDay : MethodName := ⟨RX7, "isKnownDay", "(I)Z"⟩
abbrev cX7_share : ByteArray := prog_1_method_34_code
def yX7_share : MethodName := ⟨RX7, "share", "(JJJ)J"⟩
def RX8 : String := "FloodTaxModel"
def TX8 : u_T := fun k => match k with
  | 0 => ("FloodTaxModel", "thrown", "I", false)
  | 1 => ("FloodTaxModel", "status", "I", false)
  | 2 => ("FloodTaxModel", "readings", "I", false)
  | 3 => ("FloodTaxModel", "rDay", "[I", true)
  | 4 => ("FloodTaxModel", "rHeight", "[I", true)
  | 5 => ("FloodTaxModel", "rKnown", "[I", true)
  | 6 => ("FloodTaxModel", "heights", "[I", true)
  | 7 => ("FloodTaxModel", "strips", "I", false)
  | 8 => ("FloodTaxModel", "register", "[I", true)
  | 9 => ("FloodTaxModel", "land", "[I", true)
  | 10 => ("FloodTaxModel", "levels", "[I", true)
  | 11 => ("FloodTaxModel", "owners", "[I", true)
  | 12 => ("FloodTaxModel", "isLost", "[Z", true)
  | 13 => ("FloodTaxModel", "tableDays", "[I", true)
  | 14 => ("FloodTaxModel", "tableSheaves", "[I", true)
  | 15 => ("FloodTaxModel", "decrees", "I", false)
  | 16 => ("FloodTaxModel", "dSort", "[I", true)
  | 17 => ("FloodTaxModel", "dA", "[I", true)
  | 18 => ("FloodTaxModel", "dB", "[I", true)
  | 19 => ("FloodTaxModel", "dC", "[I", true)
  | 20 => ("FloodTaxModel", "nMany", "I", false)
  | 21 => ("FloodTaxModel", "nDecree", "[I", true)
  | 22 => ("FloodTaxModel", "tape", "[I", true)
  | 23 => ("FloodTaxModel", "taped", "I", false)
  | 24 => ("FloodTaxModel", "from", "I", false)
  | 25 => ("FloodTaxModel", "to", "I", false)
  | 26 => ("FloodTaxModel", "sort", "I", false)
  | 27 => ("FloodTaxModel", "worth", "J", false)
  | 28 => ("FloodTaxModel", "fault", "I", false)
  | 29 => ("FloodTaxModel", "bad", "Z", false)
  | 30 => ("FloodTaxModel", "tax", "I", false)
  | 31 => ("FloodTaxModel", "relief", "I", false)
  | 32 => ("FloodTaxModel", "officers", "I", false)
  | 33 => ("FloodTaxModel", "harvest", "I", false)
  | 34 => ("FloodTaxModel", "taken", "I", false)
  | 35 => ("FloodTaxModel", "tOfficer", "[I", true)
  | 36 => ("FloodTaxModel", "tStrip", "[I", true)
  | 37 => ("FloodTaxModel", "tSheaves", "[I", true)
  | _ => ("FloodTaxModel", "tKnown", "[I", true)
def tyX8 : Nat → FieldType := fun k => match k with
  | 0 => .int
  | 1 => .int
  | 2 => .int
  | 3 => .array .int
  | 4 => .array .int
  | 5 => .array .int
  | 6 => .array .int
  | 7 => .int
  | 8 => .array .int
  | 9 => .array .int
  | 10 => .array .int
  | 11 => .array .int
  | 12 => .array .boolean
  | 13 => .array .int
  | 14 => .array .int
  | 15 => .int
  | 16 => .array .int
  | 17 => .array .int
  | 18 => .array .int
  | 19 => .array .int
  | 20 => .int
  | 21 => .array .int
  | 22 => .array .int
  | 23 => .int
  | 24 => .int
  | 25 => .int
  | 26 => .int
  | 27 => .long
  | 28 => .int
  | 29 => .boolean
  | 30 => .int
  | 31 => .int
  | 32 => .int
  | 33 => .int
  | 34 => .int
  | 35 => .array .int
  | 36 => .array .int
  | 37 => .array .int
  | _ => .array .int
theorem nmX8 : ∀ a, a < 39 → ∀ b, b < 39 → a ≠ b → (TX8 a).2.1 ≠ (TX8 b).2.1 := by decide +kernel
theorem tyX8_ok : ∀ k, k < 39 → parseFieldDescriptor (TX8 k).2.2.1 = some (tyX8 k) := by decide +kernel
abbrev cX8_init : ByteArray := prog_10_method_1_code
def yX8_init : MethodName := ⟨RX8, "<init>", "()V"⟩
abbrev cX8_in : ByteArray := prog_10_method_3_code
def yX8_in : MethodName := ⟨RX8, "in", "(JJJ)Z"⟩
abbrev cX8_told : ByteArray := prog_10_method_4_code
def yX8_told : MethodName := ⟨RX8, "told", "(I)I"⟩
abbrev cX8_isDay : ByteArray := prog_10_method_5_code
def yX8_isDay : MethodName := ⟨RX8, "isDay", "(I)Z"⟩
abbrev cX8_isKnown : ByteArray := prog_10_method_6_code
def yX8_isKnown : MethodName := ⟨RX8, "isKnown", "(I)Z"⟩
abbrev cX8_read : ByteArray := prog_10_method_7_code
def yX8_read : MethodName := ⟨RX8, "read", "(III)I"⟩
abbrev cX8_find : ByteArray := prog_10_method_8_code
def yX8_find : MethodName := ⟨RX8, "find", "(II)V"⟩
abbrev cX8_peakOf : ByteArray := prog_10_method_9_code
def yX8_peakOf : MethodName := ⟨RX8, "peakOf", "()I"⟩
abbrev cX8_height : ByteArray := prog_10_method_10_code
def yX8_height : MethodName := ⟨RX8, "height", "(II)I"⟩
abbrev cX8_peak : ByteArray := prog_10_method_11_code
def yX8_peak : MethodName := ⟨RX8, "peak", "(I)I"⟩
abbrev cX8_isStrip : ByteArray := prog_10_method_12_code
def yX8_isStrip : MethodName := ⟨RX8, "isStrip", "(I)Z"⟩
abbrev cX8_isMark : ByteArray := prog_10_method_13_code
def yX8_isMark : MethodName := ⟨RX8, "isMark", "(I)Z"⟩
abbrev cX8_strip : ByteArray := prog_10_method_14_code
def yX8_strip : MethodName := ⟨RX8, "strip", "(III)I"⟩
abbrev cX8_of : ByteArray := prog_10_method_15_code
def yX8_of : MethodName := ⟨RX8, "of", "(II)I"⟩
abbrev cX8_lose : ByteArray := prog_10_method_16_code
def yX8_lose : MethodName := ⟨RX8, "lose", "(I)I"⟩
abbrev cX8_draw : ByteArray := prog_10_method_17_code
def yX8_draw : MethodName := ⟨RX8, "draw", "(III)I"⟩
abbrev cX8_stands : ByteArray := prog_10_method_18_code
def yX8_stands : MethodName := ⟨RX8, "stands", "(I)I"⟩
abbrev cX8_table : ByteArray := prog_10_method_19_code
def yX8_table : MethodName := ⟨RX8, "table", "(III)I"⟩
abbrev cX8_wetOf : ByteArray := prog_10_method_20_code
def yX8_wetOf : MethodName := ⟨RX8, "wetOf", "(I)I"⟩
abbrev cX8_harvestOf : ByteArray := prog_10_method_21_code
def yX8_harvestOf : MethodName := ⟨RX8, "harvestOf", "(I)I"⟩
abbrev cX8_wet : ByteArray := prog_10_method_22_code
def yX8_wet : MethodName := ⟨RX8, "wet", "(II)I"⟩
abbrev cX8_harvest : ByteArray := prog_10_method_23_code
def yX8_harvest : MethodName := ⟨RX8, "harvest", "(II)I"⟩
abbrev cX8_foretold : ByteArray := prog_10_method_24_code
def yX8_foretold : MethodName := ⟨RX8, "foretold", "(II)I"⟩
abbrev cX8_four : ByteArray := prog_10_method_25_code
def yX8_four : MethodName := ⟨RX8, "four", "(I)V"⟩
abbrev cX8_feed : ByteArray := prog_10_method_26_code
def yX8_feed : MethodName := ⟨RX8, "feed", "(IIIII)I"⟩
abbrev cX8_end : ByteArray := prog_10_method_27_code
def yX8_end : MethodName := ⟨RX8, "end", "(I)I"⟩
abbrev cX8_isSmall : ByteArray := prog_10_method_28_code
def yX8_isSmall : MethodName := ⟨RX8, "isSmall", "(I)Z"⟩
abbrev cX8_isDigit : ByteArray := prog_10_method_29_code
def yX8_isDigit : MethodName := ⟨RX8, "isDigit", "(I)Z"⟩
abbrev cX8_next : ByteArray := prog_10_method_30_code
def yX8_next : MethodName := ⟨RX8, "next", "()V"⟩
abbrev cX8_isWord : ByteArray := prog_10_method_31_code
def yX8_isWord : MethodName := ⟨RX8, "isWord", "(IIIIIII)Z"⟩
abbrev cX8_must : ByteArray := prog_10_method_32_code
def yX8_must : MethodName := ⟨RX8, "must", "(Z)V"⟩
abbrev cX8_number : ByteArray := prog_10_method_33_code
def yX8_number : MethodName := ⟨RX8, "number", "(J)I"⟩
abbrev cX8_readDecree : ByteArray := prog_10_method_34_code
def yX8_readDecree : MethodName := ⟨RX8, "readDecree", "()V"⟩
abbrev cX8_decrees : ByteArray := prog_10_method_35_code
def yX8_decrees : MethodName := ⟨RX8, "decrees", "()I"⟩
abbrev cX8_fault : ByteArray := prog_10_method_36_code
def yX8_fault : MethodName := ⟨RX8, "fault", "()I"⟩
abbrev cX8_reckon : ByteArray := prog_10_method_37_code
def yX8_reckon : MethodName := ⟨RX8, "reckon", "(I)V"⟩
abbrev cX8_tax : ByteArray := prog_10_method_38_code
def yX8_tax : MethodName := ⟨RX8, "tax", "(III)I"⟩
abbrev cX8_take : ByteArray := prog_10_method_39_code
def yX8_take : MethodName := ⟨RX8, "take", "(IIII)I"⟩
abbrev cX8_gain : ByteArray := prog_10_method_40_code
def yX8_gain : MethodName := ⟨RX8, "gain", "(II)J"⟩
abbrev cX8_sheaves : ByteArray := prog_10_method_41_code
def yX8_sheaves : MethodName := ⟨RX8, "sheaves", "(I)I"⟩
abbrev cX8_led : ByteArray := prog_10_method_42_code
def yX8_led : MethodName := ⟨RX8, "led", "(III)I"⟩
abbrev cX8_count : ByteArray := prog_10_method_43_code
def yX8_count : MethodName := ⟨RX8, "count", "(I)I"⟩
abbrev cX8_status : ByteArray := prog_10_method_44_code
def yX8_status : MethodName := ⟨RX8, "status", "()I"⟩
def RJ9 : String := "java/lang/Math"
abbrev cJ9_max_7cf53 : ByteArray := prog_11_method_65_code
def yJ9_max_7cf53 : MethodName := ⟨RJ9, "max", "(II)I"⟩
abbrev cJ9_min_7cf53 : ByteArray := prog_11_method_69_code
def yJ9_min_7cf53 : MethodName := ⟨RJ9, "min", "(II)I"⟩
def RJ0 : String := "java/lang/String"
abbrev cJ0_length_8abf5 : ByteArray := prog_12_method_54_code
def yJ0_length_8abf5 : MethodName := ⟨RJ0, "length", "()I"⟩
abbrev cJ0_charAt_5068e : ByteArray := prog_12_method_56_code
def yJ0_charAt_5068e : MethodName := ⟨RJ0, "charAt", "(I)C"⟩
abbrev cJ0_coder_7d493 : ByteArray := prog_12_method_152_code
def yJ0_coder_7d493 : MethodName := ⟨RJ0, "coder", "()B"⟩
abbrev cJ0_isLatin1_aae02 : ByteArray := prog_12_method_154_code
def yJ0_isLatin1_aae02 : MethodName := ⟨RJ0, "isLatin1", "()Z"⟩
abbrev cJ0_checkIndex_df160 : ByteArray := prog_12_method_155_code
def yJ0_checkIndex_df160 : MethodName := ⟨RJ0, "checkIndex", "(II)V"⟩
def RJ1 : String := "java/lang/StringLatin1"
abbrev cJ1_charAt_3b067 : ByteArray := prog_13_method_2_code
def yJ1_charAt_3b067 : MethodName := ⟨RJ1, "charAt", "([BI)C"⟩
def RJ2 : String := "java/lang/StringUTF16"
abbrev cJ2_getChar_3b067 : ByteArray := prog_14_method_5_code
def yJ2_getChar_3b067 : MethodName := ⟨RJ2, "getChar", "([BI)C"⟩
abbrev cJ2_length_9d52b : ByteArray := prog_14_method_6_code
def yJ2_length_9d52b : MethodName := ⟨RJ2, "length", "([B)I"⟩
abbrev cJ2_charAt_3b067 : ByteArray := prog_14_method_83_code
def yJ2_charAt_3b067 : MethodName := ⟨RJ2, "charAt", "([BI)C"⟩
abbrev cJ2_checkIndex_2214a : ByteArray := prog_14_method_91_code
def yJ2_checkIndex_2214a : MethodName := ⟨RJ2, "checkIndex", "(I[B)V"⟩
def RJ3 : String := "jdk/internal/util/Preconditions"
abbrev cJ3_checkIndex_8e157 : ByteArray := prog_15_method_11_code
def yJ3_checkIndex_8e157 : MethodName := ⟨RJ3, "checkIndex", "(IILjava/util/function/BiFunction;)I"⟩
def RL : String := "FloodTaxLaw"
abbrev cL_law : ByteArray := code
def yL_law : MethodName := ⟨RL, "law", "([I)Z"⟩
