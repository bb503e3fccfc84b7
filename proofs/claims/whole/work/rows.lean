section
-- ===== PART A: goes FIRST, ahead of the names: the tables' words, and 'selects' of the private methods out of them =====
/-- a private method of a class that the tables say can be made, by its rows of tables_1 -/
def lw_okq (q : MethodName × Nat) : Prop := (q.1.cls ≠ "java/lang/invoke/MethodHandle" ∧ q.1.cls ≠ "java/lang/invoke/VarHandle") ∧ Cond.instantiable q.1.cls q.2 ∈ tables_1 ∧ Cond.privateMethod q.1 ∈ tables_1 ∧ Cond.instanceMethod q.1 ∈ tables_1
theorem lw_p0 : lw_okq (⟨"ShutterTown$Letters", "fitsHead", "(I)Z"⟩, 2) := ⟨⟨by decide +kernel, by decide +kernel⟩, List.mem_of_getElem? (i := 23) (by decide +kernel), List.mem_of_getElem? (i := 202) (by decide +kernel), List.mem_of_getElem? (i := 203) (by decide +kernel)⟩
theorem lw_p1 : lw_okq (⟨"ShutterTown$Letters", "isLetter", "(IC)Z"⟩, 2) := ⟨⟨by decide +kernel, by decide +kernel⟩, List.mem_of_getElem? (i := 23) (by decide +kernel), List.mem_of_getElem? (i := 206) (by decide +kernel), List.mem_of_getElem? (i := 207) (by decide +kernel)⟩
theorem lw_p2 : lw_okq (⟨"ShutterTown$Letters", "isFigure", "(III)Z"⟩, 2) := ⟨⟨by decide +kernel, by decide +kernel⟩, List.mem_of_getElem? (i := 23) (by decide +kernel), List.mem_of_getElem? (i := 210) (by decide +kernel), List.mem_of_getElem? (i := 211) (by decide +kernel)⟩
theorem lw_p3 : lw_okq (⟨"ShutterTown$Letters", "fitsWindow", "(I)Z"⟩, 2) := ⟨⟨by decide +kernel, by decide +kernel⟩, List.mem_of_getElem? (i := 23) (by decide +kernel), List.mem_of_getElem? (i := 218) (by decide +kernel), List.mem_of_getElem? (i := 219) (by decide +kernel)⟩
theorem lw_p4 : lw_okq (⟨"ShutterTown$Letters", "isTaken", "(II)Z"⟩, 2) := ⟨⟨by decide +kernel, by decide +kernel⟩, List.mem_of_getElem? (i := 23) (by decide +kernel), List.mem_of_getElem? (i := 222) (by decide +kernel), List.mem_of_getElem? (i := 223) (by decide +kernel)⟩
theorem lw_p5 : lw_okq (⟨"ShutterTown$Houses", "facing", "(I)I"⟩, 8) := ⟨⟨by decide +kernel, by decide +kernel⟩, List.mem_of_getElem? (i := 37) (by decide +kernel), List.mem_of_getElem? (i := 242) (by decide +kernel), List.mem_of_getElem? (i := 243) (by decide +kernel)⟩
theorem lw_p6 : lw_okq (⟨"ShutterTown$Acts", "forgetFirst", "()V"⟩, 2) := ⟨⟨by decide +kernel, by decide +kernel⟩, List.mem_of_getElem? (i := 87) (by decide +kernel), List.mem_of_getElem? (i := 338) (by decide +kernel), List.mem_of_getElem? (i := 339) (by decide +kernel)⟩
theorem lw_p7 : lw_okq (⟨"ShutterTown", "refusalOfTwo", "(II)I"⟩, 11) := ⟨⟨by decide +kernel, by decide +kernel⟩, List.mem_of_getElem? (i := 15) (by decide +kernel), List.mem_of_getElem? (i := 414) (by decide +kernel), List.mem_of_getElem? (i := 415) (by decide +kernel)⟩
theorem lw_p8 : lw_okq (⟨"ShutterTown$Ways", "goOn", "(II)V"⟩, 2) := ⟨⟨by decide +kernel, by decide +kernel⟩, List.mem_of_getElem? (i := 113) (by decide +kernel), List.mem_of_getElem? (i := 428) (by decide +kernel), List.mem_of_getElem? (i := 429) (by decide +kernel)⟩
theorem lw_p9 : lw_okq (⟨"ShutterTown$Ways", "hoursAt", "(I)I"⟩, 2) := ⟨⟨by decide +kernel, by decide +kernel⟩, List.mem_of_getElem? (i := 113) (by decide +kernel), List.mem_of_getElem? (i := 443) (by decide +kernel), List.mem_of_getElem? (i := 444) (by decide +kernel)⟩
theorem lw_p10 : lw_okq (⟨"ShutterTown", "happens", "(II)Z"⟩, 11) := ⟨⟨by decide +kernel, by decide +kernel⟩, List.mem_of_getElem? (i := 15) (by decide +kernel), List.mem_of_getElem? (i := 496) (by decide +kernel), List.mem_of_getElem? (i := 497) (by decide +kernel)⟩
theorem lw_p11 : lw_okq (⟨"ShutterTown$Houses", "gain", "(II)I"⟩, 8) := ⟨⟨by decide +kernel, by decide +kernel⟩, List.mem_of_getElem? (i := 37) (by decide +kernel), List.mem_of_getElem? (i := 581) (by decide +kernel), List.mem_of_getElem? (i := 582) (by decide +kernel)⟩
theorem lw_p12 : lw_okq (⟨"ShutterTownModel", "readText", "()I"⟩, 31) := ⟨⟨by decide +kernel, by decide +kernel⟩, List.mem_of_getElem? (i := 660) (by decide +kernel), List.mem_of_getElem? (i := 777) (by decide +kernel), List.mem_of_getElem? (i := 778) (by decide +kernel)⟩
theorem lw_p13 : lw_okq (⟨"ShutterTownModel", "figure", "(II)I"⟩, 31) := ⟨⟨by decide +kernel, by decide +kernel⟩, List.mem_of_getElem? (i := 660) (by decide +kernel), List.mem_of_getElem? (i := 781) (by decide +kernel), List.mem_of_getElem? (i := 782) (by decide +kernel)⟩
theorem lw_p14 : lw_okq (⟨"ShutterTownModel", "readWindow", "()V"⟩, 31) := ⟨⟨by decide +kernel, by decide +kernel⟩, List.mem_of_getElem? (i := 660) (by decide +kernel), List.mem_of_getElem? (i := 785) (by decide +kernel), List.mem_of_getElem? (i := 786) (by decide +kernel)⟩
theorem lw_p15 : lw_okq (⟨"ShutterTownModel", "placesLeft", "()I"⟩, 31) := ⟨⟨by decide +kernel, by decide +kernel⟩, List.mem_of_getElem? (i := 660) (by decide +kernel), List.mem_of_getElem? (i := 789) (by decide +kernel), List.mem_of_getElem? (i := 790) (by decide +kernel)⟩
def lw_privs_1 : List (MethodName × Nat) := [(⟨"ShutterTown$Letters", "fitsHead", "(I)Z"⟩, 2), (⟨"ShutterTown$Letters", "isLetter", "(IC)Z"⟩, 2), (⟨"ShutterTown$Letters", "isFigure", "(III)Z"⟩, 2), (⟨"ShutterTown$Letters", "fitsWindow", "(I)Z"⟩, 2), (⟨"ShutterTown$Letters", "isTaken", "(II)Z"⟩, 2), (⟨"ShutterTown$Houses", "facing", "(I)I"⟩, 8), (⟨"ShutterTown$Acts", "forgetFirst", "()V"⟩, 2), (⟨"ShutterTown", "refusalOfTwo", "(II)I"⟩, 11), (⟨"ShutterTown$Ways", "goOn", "(II)V"⟩, 2), (⟨"ShutterTown$Ways", "hoursAt", "(I)I"⟩, 2), (⟨"ShutterTown", "happens", "(II)Z"⟩, 11), (⟨"ShutterTown$Houses", "gain", "(II)I"⟩, 8), (⟨"ShutterTownModel", "readText", "()I"⟩, 31), (⟨"ShutterTownModel", "figure", "(II)I"⟩, 31), (⟨"ShutterTownModel", "readWindow", "()V"⟩, 31), (⟨"ShutterTownModel", "placesLeft", "()I"⟩, 31)]
theorem lw_r1 : ∀ q ∈ lw_privs_1, lw_okq q := List.forall_mem_cons.mpr ⟨lw_p0, List.forall_mem_cons.mpr ⟨lw_p1, List.forall_mem_cons.mpr ⟨lw_p2, List.forall_mem_cons.mpr ⟨lw_p3, List.forall_mem_cons.mpr ⟨lw_p4, List.forall_mem_cons.mpr ⟨lw_p5, List.forall_mem_cons.mpr ⟨lw_p6, List.forall_mem_cons.mpr ⟨lw_p7, List.forall_mem_cons.mpr ⟨lw_p8, List.forall_mem_cons.mpr ⟨lw_p9, List.forall_mem_cons.mpr ⟨lw_p10, List.forall_mem_cons.mpr ⟨lw_p11, List.forall_mem_cons.mpr ⟨lw_p12, List.forall_mem_cons.mpr ⟨lw_p13, List.forall_mem_cons.mpr ⟨lw_p14, List.forall_mem_cons.mpr ⟨lw_p15, fun _ h => absurd h List.not_mem_nil⟩⟩⟩⟩⟩⟩⟩⟩⟩⟩⟩⟩⟩⟩⟩⟩
theorem lw_p16 : lw_okq (⟨"ShutterTownModel", "figureOf", "(I)I"⟩, 31) := ⟨⟨by decide +kernel, by decide +kernel⟩, List.mem_of_getElem? (i := 660) (by decide +kernel), List.mem_of_getElem? (i := 793) (by decide +kernel), List.mem_of_getElem? (i := 794) (by decide +kernel)⟩
theorem lw_p17 : lw_okq (⟨"ShutterTownModel", "isWindow", "(I)Z"⟩, 31) := ⟨⟨by decide +kernel, by decide +kernel⟩, List.mem_of_getElem? (i := 660) (by decide +kernel), List.mem_of_getElem? (i := 809) (by decide +kernel), List.mem_of_getElem? (i := 810) (by decide +kernel)⟩
theorem lw_p18 : lw_okq (⟨"ShutterTownModel", "wordOf", "(II)I"⟩, 31) := ⟨⟨by decide +kernel, by decide +kernel⟩, List.mem_of_getElem? (i := 660) (by decide +kernel), List.mem_of_getElem? (i := 813) (by decide +kernel), List.mem_of_getElem? (i := 814) (by decide +kernel)⟩
theorem lw_p19 : lw_okq (⟨"ShutterTownModel", "seen", "(I)I"⟩, 31) := ⟨⟨by decide +kernel, by decide +kernel⟩, List.mem_of_getElem? (i := 660) (by decide +kernel), List.mem_of_getElem? (i := 817) (by decide +kernel), List.mem_of_getElem? (i := 818) (by decide +kernel)⟩
theorem lw_p20 : lw_okq (⟨"ShutterTownModel", "sees", "(II)Z"⟩, 31) := ⟨⟨by decide +kernel, by decide +kernel⟩, List.mem_of_getElem? (i := 660) (by decide +kernel), List.mem_of_getElem? (i := 821) (by decide +kernel), List.mem_of_getElem? (i := 822) (by decide +kernel)⟩
theorem lw_p21 : lw_okq (⟨"ShutterTownModel", "keepAct", "()V"⟩, 31) := ⟨⟨by decide +kernel, by decide +kernel⟩, List.mem_of_getElem? (i := 660) (by decide +kernel), List.mem_of_getElem? (i := 831) (by decide +kernel), List.mem_of_getElem? (i := 832) (by decide +kernel)⟩
theorem lw_p22 : lw_okq (⟨"ShutterTownModel", "windOn", "(I)I"⟩, 31) := ⟨⟨by decide +kernel, by decide +kernel⟩, List.mem_of_getElem? (i := 660) (by decide +kernel), List.mem_of_getElem? (i := 839) (by decide +kernel), List.mem_of_getElem? (i := 840) (by decide +kernel)⟩
theorem lw_p23 : lw_okq (⟨"ShutterTownModel", "leastState", "(I)I"⟩, 31) := ⟨⟨by decide +kernel, by decide +kernel⟩, List.mem_of_getElem? (i := 660) (by decide +kernel), List.mem_of_getElem? (i := 847) (by decide +kernel), List.mem_of_getElem? (i := 848) (by decide +kernel)⟩
theorem lw_p24 : lw_okq (⟨"ShutterTownModel", "hourOn", "(I)I"⟩, 31) := ⟨⟨by decide +kernel, by decide +kernel⟩, List.mem_of_getElem? (i := 660) (by decide +kernel), List.mem_of_getElem? (i := 855) (by decide +kernel), List.mem_of_getElem? (i := 856) (by decide +kernel)⟩
theorem lw_p25 : lw_okq (⟨"ShutterTownModel", "layWays", "(III)V"⟩, 31) := ⟨⟨by decide +kernel, by decide +kernel⟩, List.mem_of_getElem? (i := 660) (by decide +kernel), List.mem_of_getElem? (i := 867) (by decide +kernel), List.mem_of_getElem? (i := 868) (by decide +kernel)⟩
theorem lw_p26 : lw_okq (⟨"ShutterTownModel", "hoursBy", "(IIIII)I"⟩, 31) := ⟨⟨by decide +kernel, by decide +kernel⟩, List.mem_of_getElem? (i := 660) (by decide +kernel), List.mem_of_getElem? (i := 874) (by decide +kernel), List.mem_of_getElem? (i := 875) (by decide +kernel)⟩
theorem lw_p27 : lw_okq (⟨"ShutterTownModel", "isTold", "(II)Z"⟩, 31) := ⟨⟨by decide +kernel, by decide +kernel⟩, List.mem_of_getElem? (i := 660) (by decide +kernel), List.mem_of_getElem? (i := 892) (by decide +kernel), List.mem_of_getElem? (i := 893) (by decide +kernel)⟩
theorem lw_p28 : lw_okq (⟨"ShutterTownModel", "layTrial", "()V"⟩, 31) := ⟨⟨by decide +kernel, by decide +kernel⟩, List.mem_of_getElem? (i := 660) (by decide +kernel), List.mem_of_getElem? (i := 909) (by decide +kernel), List.mem_of_getElem? (i := 910) (by decide +kernel)⟩
theorem lw_p29 : lw_okq (⟨"ShutterTownModel", "tryMove", "(II)Z"⟩, 31) := ⟨⟨by decide +kernel, by decide +kernel⟩, List.mem_of_getElem? (i := 660) (by decide +kernel), List.mem_of_getElem? (i := 914) (by decide +kernel), List.mem_of_getElem? (i := 915) (by decide +kernel)⟩
theorem lw_p30 : lw_okq (⟨"ShutterTownModel", "alike", "(I)I"⟩, 31) := ⟨⟨by decide +kernel, by decide +kernel⟩, List.mem_of_getElem? (i := 660) (by decide +kernel), List.mem_of_getElem? (i := 918) (by decide +kernel), List.mem_of_getElem? (i := 919) (by decide +kernel)⟩
theorem lw_p31 : lw_okq (⟨"ShutterTownModel", "isCode", "(I)Z"⟩, 31) := ⟨⟨by decide +kernel, by decide +kernel⟩, List.mem_of_getElem? (i := 660) (by decide +kernel), List.mem_of_getElem? (i := 934) (by decide +kernel), List.mem_of_getElem? (i := 935) (by decide +kernel)⟩
def lw_privs_2 : List (MethodName × Nat) := [(⟨"ShutterTownModel", "figureOf", "(I)I"⟩, 31), (⟨"ShutterTownModel", "isWindow", "(I)Z"⟩, 31), (⟨"ShutterTownModel", "wordOf", "(II)I"⟩, 31), (⟨"ShutterTownModel", "seen", "(I)I"⟩, 31), (⟨"ShutterTownModel", "sees", "(II)Z"⟩, 31), (⟨"ShutterTownModel", "keepAct", "()V"⟩, 31), (⟨"ShutterTownModel", "windOn", "(I)I"⟩, 31), (⟨"ShutterTownModel", "leastState", "(I)I"⟩, 31), (⟨"ShutterTownModel", "hourOn", "(I)I"⟩, 31), (⟨"ShutterTownModel", "layWays", "(III)V"⟩, 31), (⟨"ShutterTownModel", "hoursBy", "(IIIII)I"⟩, 31), (⟨"ShutterTownModel", "isTold", "(II)Z"⟩, 31), (⟨"ShutterTownModel", "layTrial", "()V"⟩, 31), (⟨"ShutterTownModel", "tryMove", "(II)Z"⟩, 31), (⟨"ShutterTownModel", "alike", "(I)I"⟩, 31), (⟨"ShutterTownModel", "isCode", "(I)Z"⟩, 31)]
theorem lw_r2 : ∀ q ∈ lw_privs_2, lw_okq q := List.forall_mem_cons.mpr ⟨lw_p16, List.forall_mem_cons.mpr ⟨lw_p17, List.forall_mem_cons.mpr ⟨lw_p18, List.forall_mem_cons.mpr ⟨lw_p19, List.forall_mem_cons.mpr ⟨lw_p20, List.forall_mem_cons.mpr ⟨lw_p21, List.forall_mem_cons.mpr ⟨lw_p22, List.forall_mem_cons.mpr ⟨lw_p23, List.forall_mem_cons.mpr ⟨lw_p24, List.forall_mem_cons.mpr ⟨lw_p25, List.forall_mem_cons.mpr ⟨lw_p26, List.forall_mem_cons.mpr ⟨lw_p27, List.forall_mem_cons.mpr ⟨lw_p28, List.forall_mem_cons.mpr ⟨lw_p29, List.forall_mem_cons.mpr ⟨lw_p30, List.forall_mem_cons.mpr ⟨lw_p31, fun _ h => absurd h List.not_mem_nil⟩⟩⟩⟩⟩⟩⟩⟩⟩⟩⟩⟩⟩⟩⟩⟩
theorem lw_p32 : lw_okq (⟨"ShutterTownModel", "greatestPart", "(I)I"⟩, 31) := ⟨⟨by decide +kernel, by decide +kernel⟩, List.mem_of_getElem? (i := 660) (by decide +kernel), List.mem_of_getElem? (i := 945) (by decide +kernel), List.mem_of_getElem? (i := 946) (by decide +kernel)⟩
theorem lw_p33 : lw_okq (⟨"ShutterTownModel", "layHours", "(III)V"⟩, 31) := ⟨⟨by decide +kernel, by decide +kernel⟩, List.mem_of_getElem? (i := 660) (by decide +kernel), List.mem_of_getElem? (i := 958) (by decide +kernel), List.mem_of_getElem? (i := 959) (by decide +kernel)⟩
theorem lw_p34 : lw_okq (⟨"ShutterTownModel", "isRest", "(II)Z"⟩, 31) := ⟨⟨by decide +kernel, by decide +kernel⟩, List.mem_of_getElem? (i := 660) (by decide +kernel), List.mem_of_getElem? (i := 966) (by decide +kernel), List.mem_of_getElem? (i := 967) (by decide +kernel)⟩
theorem lw_p35 : lw_okq (⟨"ShutterTownModel", "lets", "(II)I"⟩, 31) := ⟨⟨by decide +kernel, by decide +kernel⟩, List.mem_of_getElem? (i := 660) (by decide +kernel), List.mem_of_getElem? (i := 970) (by decide +kernel), List.mem_of_getElem? (i := 971) (by decide +kernel)⟩
theorem lw_p36 : lw_okq (⟨"ShutterTownModel", "loose", "()I"⟩, 31) := ⟨⟨by decide +kernel, by decide +kernel⟩, List.mem_of_getElem? (i := 660) (by decide +kernel), List.mem_of_getElem? (i := 978) (by decide +kernel), List.mem_of_getElem? (i := 979) (by decide +kernel)⟩
theorem lw_p37 : lw_okq (⟨"ShutterTownModel", "reads", "(III)Z"⟩, 31) := ⟨⟨by decide +kernel, by decide +kernel⟩, List.mem_of_getElem? (i := 660) (by decide +kernel), List.mem_of_getElem? (i := 982) (by decide +kernel), List.mem_of_getElem? (i := 983) (by decide +kernel)⟩
def lw_privs_3 : List (MethodName × Nat) := [(⟨"ShutterTownModel", "greatestPart", "(I)I"⟩, 31), (⟨"ShutterTownModel", "layHours", "(III)V"⟩, 31), (⟨"ShutterTownModel", "isRest", "(II)Z"⟩, 31), (⟨"ShutterTownModel", "lets", "(II)I"⟩, 31), (⟨"ShutterTownModel", "loose", "()I"⟩, 31), (⟨"ShutterTownModel", "reads", "(III)Z"⟩, 31)]
theorem lw_r3 : ∀ q ∈ lw_privs_3, lw_okq q := List.forall_mem_cons.mpr ⟨lw_p32, List.forall_mem_cons.mpr ⟨lw_p33, List.forall_mem_cons.mpr ⟨lw_p34, List.forall_mem_cons.mpr ⟨lw_p35, List.forall_mem_cons.mpr ⟨lw_p36, List.forall_mem_cons.mpr ⟨lw_p37, fun _ h => absurd h List.not_mem_nil⟩⟩⟩⟩⟩⟩
def lw_privs : List (MethodName × Nat) := lw_privs_1 ++ (lw_privs_2 ++ (lw_privs_3))
def lw_tbl : List Cond := k2_sels lw_privs ++ tables_1
theorem lw_privs_ok : ∀ q ∈ lw_privs, lw_okq q := by
  show ∀ q ∈ lw_privs_1 ++ (lw_privs_2 ++ (lw_privs_3)), lw_okq q
  exact List.forall_mem_append.mpr ⟨lw_r1, List.forall_mem_append.mpr ⟨lw_r2, lw_r3⟩⟩
def RX0 : String := "ShutterTown$Acts"
def TX0 : u_T := fun k => match k with
  | 0 => ("ShutterTown$Acts", "rows", "[I", true)
  | _ => ("ShutterTown$Acts", "size", "I", false)
def tyX0 : Nat → FieldType := fun k => match k with
  | 0 => .array .int
  | _ => .int
theorem nmX0 : ∀ a, a < 2 → ∀ b, b < 2 → a ≠ b → (TX0 a).2.1 ≠ (TX0 b).2.1 := by decide +kernel
theorem tyX0_ok : ∀ k, k < 2 → parseFieldDescriptor (TX0 k).2.2.1 = some (tyX0 k) := by decide +kernel
abbrev cX0_init : ByteArray := prog_2_method_1_code
def yX0_init : MethodName := ⟨RX0, "<init>", "()V"⟩
abbrev cX0_size : ByteArray := prog_2_method_2_code
def yX0_size : MethodName := ⟨RX0, "size", "()I"⟩
abbrev cX0_clear : ByteArray := prog_2_method_3_code
def yX0_clear : MethodName := ⟨RX0, "clear", "()V"⟩
abbrev cX0_remember : ByteArray := prog_2_method_4_code
def yX0_remember : MethodName := ⟨RX0, "remember", "(LShutterTown$Shutters;)V"⟩
abbrev cX0_giveBack : ByteArray := prog_2_method_5_code
def yX0_giveBack : MethodName := ⟨RX0, "giveBack", "(LShutterTown$Shutters;)V"⟩
abbrev cX0_forgetFirst : ByteArray := prog_2_method_6_code
def yX0_forgetFirst : MethodName := ⟨RX0, "forgetFirst", "()V"⟩
def RX1 : String := "ShutterTown$Followed"
def TX1 : u_T := fun k => match k with
  | 0 => ("ShutterTown$Followed", "wordsLeft", "[I", true)
  | _ => ("ShutterTown$Followed", "size", "I", false)
def tyX1 : Nat → FieldType := fun k => match k with
  | 0 => .array .int
  | _ => .int
theorem nmX1 : ∀ a, a < 2 → ∀ b, b < 2 → a ≠ b → (TX1 a).2.1 ≠ (TX1 b).2.1 := by decide +kernel
theorem tyX1_ok : ∀ k, k < 2 → parseFieldDescriptor (TX1 k).2.2.1 = some (tyX1 k) := by decide +kernel
abbrev cX1_init : ByteArray := prog_3_method_1_code
def yX1_init : MethodName := ⟨RX1, "<init>", "()V"⟩
abbrev cX1_size : ByteArray := prog_3_method_2_code
def yX1_size : MethodName := ⟨RX1, "size", "()I"⟩
abbrev cX1_clear : ByteArray := prog_3_method_3_code
def yX1_clear : MethodName := ⟨RX1, "clear", "()V"⟩
abbrev cX1_add : ByteArray := prog_3_method_4_code
def yX1_add : MethodName := ⟨RX1, "add", "(IIZ)Z"⟩
abbrev cX1_codesLeft : ByteArray := prog_3_method_5_code
def yX1_codesLeft : MethodName := ⟨RX1, "codesLeft", "()I"⟩
abbrev cX1_firstCode : ByteArray := prog_3_method_6_code
def yX1_firstCode : MethodName := ⟨RX1, "firstCode", "()I"⟩
abbrev cX1_bestState : ByteArray := prog_3_method_7_code
def yX1_bestState : MethodName := ⟨RX1, "bestState", "()I"⟩
def RX2 : String := "ShutterTown$Houses"
def TX2 : u_T := fun k => match k with
  | 0 => ("ShutterTown$Houses", "words", "[I", true)
  | 1 => ("ShutterTown$Houses", "places", "[I", true)
  | 2 => ("ShutterTown$Houses", "sides", "[I", true)
  | 3 => ("ShutterTown$Houses", "floors", "[I", true)
  | 4 => ("ShutterTown$Houses", "kinds", "[I", true)
  | 5 => ("ShutterTown$Houses", "seen", "[I", true)
  | 6 => ("ShutterTown$Houses", "sight", "I", false)
  | _ => ("ShutterTown$Houses", "count", "I", false)
def tyX2 : Nat → FieldType := fun k => match k with
  | 0 => .array .int
  | 1 => .array .int
  | 2 => .array .int
  | 3 => .array .int
  | 4 => .array .int
  | 5 => .array .int
  | 6 => .int
  | _ => .int
theorem nmX2 : ∀ a, a < 8 → ∀ b, b < 8 → a ≠ b → (TX2 a).2.1 ≠ (TX2 b).2.1 := by decide +kernel
theorem tyX2_ok : ∀ k, k < 8 → parseFieldDescriptor (TX2 k).2.2.1 = some (tyX2 k) := by decide +kernel
abbrev cX2_init : ByteArray := prog_4_method_1_code
def yX2_init : MethodName := ⟨RX2, "<init>", "()V"⟩
abbrev cX2_build : ByteArray := prog_4_method_2_code
def yX2_build : MethodName := ⟨RX2, "build", "(LShutterTown$Letters;)V"⟩
abbrev cX2_has : ByteArray := prog_4_method_3_code
def yX2_has : MethodName := ⟨RX2, "has", "(I)Z"⟩
abbrev cX2_windows : ByteArray := prog_4_method_4_code
def yX2_windows : MethodName := ⟨RX2, "windows", "()I"⟩
abbrev cX2_sets : ByteArray := prog_4_method_5_code
def yX2_sets : MethodName := ⟨RX2, "sets", "()I"⟩
abbrev cX2_sight : ByteArray := prog_4_method_6_code
def yX2_sight : MethodName := ⟨RX2, "sight", "()I"⟩
abbrev cX2_place : ByteArray := prog_4_method_7_code
def yX2_place : MethodName := ⟨RX2, "place", "(I)I"⟩
abbrev cX2_side : ByteArray := prog_4_method_8_code
def yX2_side : MethodName := ⟨RX2, "side", "(I)I"⟩
abbrev cX2_floor : ByteArray := prog_4_method_9_code
def yX2_floor : MethodName := ⟨RX2, "floor", "(I)I"⟩
abbrev cX2_kind : ByteArray := prog_4_method_10_code
def yX2_kind : MethodName := ⟨RX2, "kind", "(I)I"⟩
abbrev cX2_sees : ByteArray := prog_4_method_11_code
def yX2_sees : MethodName := ⟨RX2, "sees", "(I)I"⟩
abbrev cX2_areFacing : ByteArray := prog_4_method_12_code
def yX2_areFacing : MethodName := ⟨RX2, "areFacing", "(II)Z"⟩
abbrev cX2_ofKind : ByteArray := prog_4_method_13_code
def yX2_ofKind : MethodName := ⟨RX2, "ofKind", "(I)I"⟩
abbrev cX2_wordOf : ByteArray := prog_4_method_14_code
def yX2_wordOf : MethodName := ⟨RX2, "wordOf", "(I)I"⟩
abbrev cX2_leastStateFor : ByteArray := prog_4_method_15_code
def yX2_leastStateFor : MethodName := ⟨RX2, "leastStateFor", "(I)I"⟩
abbrev cX2_wordsAsFigures : ByteArray := prog_4_method_16_code
def yX2_wordsAsFigures : MethodName := ⟨RX2, "wordsAsFigures", "()I"⟩
abbrev cX2_reachedBy : ByteArray := prog_4_method_17_code
def yX2_reachedBy : MethodName := ⟨RX2, "reachedBy", "(I)I"⟩
abbrev cX2_isBestAgainst : ByteArray := prog_4_method_18_code
def yX2_isBestAgainst : MethodName := ⟨RX2, "isBestAgainst", "(II)Z"⟩
abbrev cX2_gain : ByteArray := prog_4_method_19_code
def yX2_gain : MethodName := ⟨RX2, "gain", "(II)I"⟩
abbrev cX2_facing : ByteArray := prog_4_method_20_code
def yX2_facing : MethodName := ⟨RX2, "facing", "(I)I"⟩
def RX3 : String := "ShutterTown$Letters"
def TX3 : u_T := fun k => match k with
  | 0 => ("ShutterTown$Letters", "row", "[I", true)
  | _ => ("ShutterTown$Letters", "length", "I", false)
def tyX3 : Nat → FieldType := fun k => match k with
  | 0 => .array .int
  | _ => .int
theorem nmX3 : ∀ a, a < 2 → ∀ b, b < 2 → a ≠ b → (TX3 a).2.1 ≠ (TX3 b).2.1 := by decide +kernel
theorem tyX3_ok : ∀ k, k < 2 → parseFieldDescriptor (TX3 k).2.2.1 = some (tyX3 k) := by decide +kernel
abbrev cX3_init : ByteArray := prog_5_method_1_code
def yX3_init : MethodName := ⟨RX3, "<init>", "()V"⟩
abbrev cX3_size : ByteArray := prog_5_method_2_code
def yX3_size : MethodName := ⟨RX3, "size", "()I"⟩
abbrev cX3_add : ByteArray := prog_5_method_3_code
def yX3_add : MethodName := ⟨RX3, "add", "(I)Z"⟩
abbrev cX3_clear : ByteArray := prog_5_method_4_code
def yX3_clear : MethodName := ⟨RX3, "clear", "()V"⟩
abbrev cX3_firstFault : ByteArray := prog_5_method_5_code
def yX3_firstFault : MethodName := ⟨RX3, "firstFault", "()I"⟩
abbrev cX3_figure : ByteArray := prog_5_method_6_code
def yX3_figure : MethodName := ⟨RX3, "figure", "(I)I"⟩
abbrev cX3_isLetter : ByteArray := prog_5_method_7_code
def yX3_isLetter : MethodName := ⟨RX3, "isLetter", "(IC)Z"⟩
abbrev cX3_isFigure : ByteArray := prog_5_method_8_code
def yX3_isFigure : MethodName := ⟨RX3, "isFigure", "(III)Z"⟩
abbrev cX3_fitsHead : ByteArray := prog_5_method_9_code
def yX3_fitsHead : MethodName := ⟨RX3, "fitsHead", "(I)Z"⟩
abbrev cX3_fitsWindow : ByteArray := prog_5_method_10_code
def yX3_fitsWindow : MethodName := ⟨RX3, "fitsWindow", "(I)Z"⟩
abbrev cX3_isTaken : ByteArray := prog_5_method_11_code
def yX3_isTaken : MethodName := ⟨RX3, "isTaken", "(II)Z"⟩
def RX4 : String := "ShutterTown$Shutters"
def TX4 : u_T := fun k => match k with
  | 0 => ("ShutterTown$Shutters", "houses", "LShutterTown$Houses;", true)
  | 1 => ("ShutterTown$Shutters", "states", "[I", true)
  | 2 => ("ShutterTown$Shutters", "dues", "[I", true)
  | _ => ("ShutterTown$Shutters", "hour", "I", false)
def tyX4 : Nat → FieldType := fun k => match k with
  | 0 => .object "ShutterTown$Houses"
  | 1 => .array .int
  | 2 => .array .int
  | _ => .int
theorem nmX4 : ∀ a, a < 4 → ∀ b, b < 4 → a ≠ b → (TX4 a).2.1 ≠ (TX4 b).2.1 := by decide +kernel
theorem tyX4_ok : ∀ k, k < 4 → parseFieldDescriptor (TX4 k).2.2.1 = some (tyX4 k) := by decide +kernel
abbrev cX4_init : ByteArray := prog_6_method_1_code
def yX4_init : MethodName := ⟨RX4, "<init>", "(LShutterTown$Houses;)V"⟩
abbrev cX4_begin : ByteArray := prog_6_method_2_code
def yX4_begin : MethodName := ⟨RX4, "begin", "(LShutterTown$Letters;)V"⟩
abbrev cX4_state : ByteArray := prog_6_method_3_code
def yX4_state : MethodName := ⟨RX4, "state", "(I)I"⟩
abbrev cX4_word : ByteArray := prog_6_method_4_code
def yX4_word : MethodName := ⟨RX4, "word", "(I)I"⟩
abbrev cX4_due : ByteArray := prog_6_method_5_code
def yX4_due : MethodName := ⟨RX4, "due", "(I)I"⟩
abbrev cX4_theHour : ByteArray := prog_6_method_6_code
def yX4_theHour : MethodName := ⟨RX4, "theHour", "()I"⟩
abbrev cX4_dueCount : ByteArray := prog_6_method_7_code
def yX4_dueCount : MethodName := ⟨RX4, "dueCount", "()I"⟩
abbrev cX4_canShift : ByteArray := prog_6_method_8_code
def yX4_canShift : MethodName := ⟨RX4, "canShift", "(II)Z"⟩
abbrev cX4_shift : ByteArray := prog_6_method_9_code
def yX4_shift : MethodName := ⟨RX4, "shift", "(II)V"⟩
abbrev cX4_blow : ByteArray := prog_6_method_10_code
def yX4_blow : MethodName := ⟨RX4, "blow", "()I"⟩
abbrev cX4_takeUp : ByteArray := prog_6_method_11_code
def yX4_takeUp : MethodName := ⟨RX4, "takeUp", "(II)V"⟩
abbrev cX4_strike : ByteArray := prog_6_method_12_code
def yX4_strike : MethodName := ⟨RX4, "strike", "()I"⟩
abbrev cX4_pairsAlike : ByteArray := prog_6_method_13_code
def yX4_pairsAlike : MethodName := ⟨RX4, "pairsAlike", "()I"⟩
abbrev cX4_isRead : ByteArray := prog_6_method_14_code
def yX4_isRead : MethodName := ⟨RX4, "isRead", "(III)Z"⟩
abbrev cX4_copy : ByteArray := prog_6_method_15_code
def yX4_copy : MethodName := ⟨RX4, "copy", "(LShutterTown$Shutters;)V"⟩
abbrev cX4_store : ByteArray := prog_6_method_16_code
def yX4_store : MethodName := ⟨RX4, "store", "([II)V"⟩
abbrev cX4_restore : ByteArray := prog_6_method_17_code
def yX4_restore : MethodName := ⟨RX4, "restore", "([II)V"⟩
def RX5 : String := "ShutterTown$Slots"
def TX5 : u_T := fun k => match k with
  | 0 => ("ShutterTown$Slots", "rows", "[I", true)
  | _ => ("ShutterTown$Slots", "kept", "I", false)
def tyX5 : Nat → FieldType := fun k => match k with
  | 0 => .array .int
  | _ => .int
theorem nmX5 : ∀ a, a < 2 → ∀ b, b < 2 → a ≠ b → (TX5 a).2.1 ≠ (TX5 b).2.1 := by decide +kernel
theorem tyX5_ok : ∀ k, k < 2 → parseFieldDescriptor (TX5 k).2.2.1 = some (tyX5 k) := by decide +kernel
abbrev cX5_init : ByteArray := prog_7_method_1_code
def yX5_init : MethodName := ⟨RX5, "<init>", "()V"⟩
abbrev cX5_has : ByteArray := prog_7_method_2_code
def yX5_has : MethodName := ⟨RX5, "has", "(I)Z"⟩
abbrev cX5_isKept : ByteArray := prog_7_method_3_code
def yX5_isKept : MethodName := ⟨RX5, "isKept", "(I)Z"⟩
abbrev cX5_clear : ByteArray := prog_7_method_4_code
def yX5_clear : MethodName := ⟨RX5, "clear", "()V"⟩
abbrev cX5_put : ByteArray := prog_7_method_5_code
def yX5_put : MethodName := ⟨RX5, "put", "(ILShutterTown$Shutters;)V"⟩
abbrev cX5_giveBack : ByteArray := prog_7_method_6_code
def yX5_giveBack : MethodName := ⟨RX5, "giveBack", "(ILShutterTown$Shutters;)V"⟩
def RX6 : String := "ShutterTown$Ways"
def TX6 : u_T := fun k => match k with
  | 0 => ("ShutterTown$Ways", "houses", "LShutterTown$Houses;", true)
  | _ => ("ShutterTown$Ways", "ranks", "[J", true)
def tyX6 : Nat → FieldType := fun k => match k with
  | 0 => .object "ShutterTown$Houses"
  | _ => .array .long
theorem nmX6 : ∀ a, a < 2 → ∀ b, b < 2 → a ≠ b → (TX6 a).2.1 ≠ (TX6 b).2.1 := by decide +kernel
theorem tyX6_ok : ∀ k, k < 2 → parseFieldDescriptor (TX6 k).2.2.1 = some (tyX6 k) := by decide +kernel
abbrev cX6_init : ByteArray := prog_8_method_1_code
def yX6_init : MethodName := ⟨RX6, "<init>", "(LShutterTown$Houses;)V"⟩
abbrev cX6_measure : ByteArray := prog_8_method_2_code
def yX6_measure : MethodName := ⟨RX6, "measure", "(II)V"⟩
abbrev cX6_comesTo : ByteArray := prog_8_method_3_code
def yX6_comesTo : MethodName := ⟨RX6, "comesTo", "(I)Z"⟩
abbrev cX6_hoursTo : ByteArray := prog_8_method_4_code
def yX6_hoursTo : MethodName := ⟨RX6, "hoursTo", "(I)I"⟩
abbrev cX6_wayTo : ByteArray := prog_8_method_5_code
def yX6_wayTo : MethodName := ⟨RX6, "wayTo", "(I)I"⟩
abbrev cX6_hoursBetween : ByteArray := prog_8_method_6_code
def yX6_hoursBetween : MethodName := ⟨RX6, "hoursBetween", "(II[I)V"⟩
abbrev cX6_hoursAt : ByteArray := prog_8_method_7_code
def yX6_hoursAt : MethodName := ⟨RX6, "hoursAt", "(I)I"⟩
abbrev cX6_goOn : ByteArray := prog_8_method_8_code
def yX6_goOn : MethodName := ⟨RX6, "goOn", "(II)V"⟩
def RX7 : String := "ShutterTown"
def TX7 : u_T := fun k => match k with
  | 0 => ("ShutterTown", "text", "LShutterTown$Letters;", true)
  | 1 => ("ShutterTown", "houses", "LShutterTown$Houses;", true)
  | 2 => ("ShutterTown", "now", "LShutterTown$Shutters;", true)
  | 3 => ("ShutterTown", "tried", "LShutterTown$Shutters;", true)
  | 4 => ("ShutterTown", "acts", "LShutterTown$Acts;", true)
  | 5 => ("ShutterTown", "slots", "LShutterTown$Slots;", true)
  | 6 => ("ShutterTown", "ways", "LShutterTown$Ways;", true)
  | 7 => ("ShutterTown", "followed", "LShutterTown$Followed;", true)
  | 8 => ("ShutterTown", "hoursThere", "[I", true)
  | 9 => ("ShutterTown", "hoursBack", "[I", true)
  | _ => ("ShutterTown", "theSeed", "J", false)
def tyX7 : Nat → FieldType := fun k => match k with
  | 0 => .object "ShutterTown$Letters"
  | 1 => .object "ShutterTown$Houses"
  | 2 => .object "ShutterTown$Shutters"
  | 3 => .object "ShutterTown$Shutters"
  | 4 => .object "ShutterTown$Acts"
  | 5 => .object "ShutterTown$Slots"
  | 6 => .object "ShutterTown$Ways"
  | 7 => .object "ShutterTown$Followed"
  | 8 => .array .int
  | 9 => .array .int
  | _ => .long
theorem nmX7 : ∀ a, a < 11 → ∀ b, b < 11 → a ≠ b → (TX7 a).2.1 ≠ (TX7 b).2.1 := by decide +kernel
theorem tyX7_ok : ∀ k, k < 11 → parseFieldDescriptor (TX7 k).2.2.1 = some (tyX7 k) := by decide +kernel
abbrev cX7_init : ByteArray := prog_1_method_1_code
def yX7_init : MethodName := ⟨RX7, "<init>", "()V"⟩
abbrev cX7_write : ByteArray := prog_1_method_2_code
def yX7_write : MethodName := ⟨RX7, "write", "(I)I"⟩
abbrev cX7_wipe : ByteArray := prog_1_method_3_code
def yX7_wipe : MethodName := ⟨RX7, "wipe", "()I"⟩
abbrev cX7_fault : ByteArray := prog_1_method_4_code
def yX7_fault : MethodName := ⟨RX7, "fault", "()I"⟩
abbrev cX7_town : ByteArray := prog_1_method_5_code
def yX7_town : MethodName := ⟨RX7, "town", "()I"⟩
abbrev cX7_window : ByteArray := prog_1_method_6_code
def yX7_window : MethodName := ⟨RX7, "window", "(II)I"⟩
abbrev cX7_move : ByteArray := prog_1_method_7_code
def yX7_move : MethodName := ⟨RX7, "move", "(II)I"⟩
abbrev cX7_wind : ByteArray := prog_1_method_8_code
def yX7_wind : MethodName := ⟨RX7, "wind", "()I"⟩
abbrev cX7_pass : ByteArray := prog_1_method_9_code
def yX7_pass : MethodName := ⟨RX7, "pass", "(II)I"⟩
abbrev cX7_hour : ByteArray := prog_1_method_10_code
def yX7_hour : MethodName := ⟨RX7, "hour", "()I"⟩
abbrev cX7_undo : ByteArray := prog_1_method_11_code
def yX7_undo : MethodName := ⟨RX7, "undo", "()I"⟩
abbrev cX7_soonest : ByteArray := prog_1_method_12_code
def yX7_soonest : MethodName := ⟨RX7, "soonest", "(IIZ)I"⟩
abbrev cX7_knows : ByteArray := prog_1_method_13_code
def yX7_knows : MethodName := ⟨RX7, "knows", "(II)I"⟩
abbrev cX7_toTell : ByteArray := prog_1_method_14_code
def yX7_toTell : MethodName := ⟨RX7, "toTell", "(I)I"⟩
abbrev cX7_cut : ByteArray := prog_1_method_15_code
def yX7_cut : MethodName := ⟨RX7, "cut", "(II)I"⟩
abbrev cX7_judge : ByteArray := prog_1_method_16_code
def yX7_judge : MethodName := ⟨RX7, "judge", "(IJ)I"⟩
abbrev cX7_follow : ByteArray := prog_1_method_17_code
def yX7_follow : MethodName := ⟨RX7, "follow", "(IIZ)I"⟩
abbrev cX7_unfollow : ByteArray := prog_1_method_18_code
def yX7_unfollow : MethodName := ⟨RX7, "unfollow", "()I"⟩
abbrev cX7_codes : ByteArray := prog_1_method_19_code
def yX7_codes : MethodName := ⟨RX7, "codes", "(Z)I"⟩
abbrev cX7_look : ByteArray := prog_1_method_20_code
def yX7_look : MethodName := ⟨RX7, "look", "()I"⟩
abbrev cX7_will : ByteArray := prog_1_method_21_code
def yX7_will : MethodName := ⟨RX7, "will", "(III)I"⟩
abbrev cX7_cross : ByteArray := prog_1_method_22_code
def yX7_cross : MethodName := ⟨RX7, "cross", "(II)I"⟩
abbrev cX7_rests : ByteArray := prog_1_method_23_code
def yX7_rests : MethodName := ⟨RX7, "rests", "(I)I"⟩
abbrev cX7_slams : ByteArray := prog_1_method_24_code
def yX7_slams : MethodName := ⟨RX7, "slams", "(IIIZ)I"⟩
abbrev cX7_seed : ByteArray := prog_1_method_25_code
def yX7_seed : MethodName := ⟨RX7, "seed", "(J)J"⟩
abbrev cX7_afternoons : ByteArray := prog_1_method_26_code
def yX7_afternoons : MethodName := ⟨RX7, "afternoons", "(I)I"⟩
abbrev cX7_keep : ByteArray := prog_1_method_27_code
def yX7_keep : MethodName := ⟨RX7, "keep", "(I)I"⟩
abbrev cX7_again : ByteArray := prog_1_method_28_code
def yX7_again : MethodName := ⟨RX7, "again", "(I)I"⟩
abbrev cX7_count : ByteArray := prog_1_method_29_code
def yX7_count : MethodName := ⟨RX7, "count", "(I)I"⟩
abbrev cX7_isState : ByteArray := prog_1_method_30_code
def yX7_isState : MethodName := ⟨RX7, "isState", "(I)Z"⟩
abbrev cX7_isWord : ByteArray := prog_1_method_31_code
def yX7_isWord : MethodName := ⟨RX7, "isWord", "(I)Z"⟩
abbrev cX7_isFewer : ByteArray := prog_1_method_32_code
def yX7_isFewer : MethodName := ⟨RX7, "isFewer", "(II)Z"⟩
abbrev cX7_refusalOfTwo : ByteArray := prog_1_method_33_code
def yX7_refusalOfTwo : MethodName := ⟨RX7, "refusalOfTwo", "(II)I"⟩
abbrev cX7_happens : ByteArray := prog_1_method_34_code
def yX7_happens : MethodName := ⟨RX7, "happens", "(II)Z"⟩
abbrev cX7_weightOf : ByteArray := prog_1_method_35_code
def yX7_weightOf : MethodName := ⟨RX7, "weightOf", "(III)I"⟩
abbrev cX7_commonDivisor : ByteArray := prog_1_method_36_code
def yX7_commonDivisor : MethodName := ⟨RX7, "commonDivisor", "(II)I"⟩
def RX8 : String := "ShutterTownModel"
def TX8 : u_T := fun k => match k with
  | 0 => ("ShutterTownModel", "windows", "I", false)
  | 1 => ("ShutterTownModel", "sight", "I", false)
  | 2 => ("ShutterTownModel", "code", "[I", true)
  | 3 => ("ShutterTownModel", "place", "[I", true)
  | 4 => ("ShutterTownModel", "side", "[I", true)
  | 5 => ("ShutterTownModel", "floor", "[I", true)
  | 6 => ("ShutterTownModel", "kind", "[I", true)
  | 7 => ("ShutterTownModel", "now", "[I", true)
  | 8 => ("ShutterTownModel", "readCode", "[I", true)
  | 9 => ("ShutterTownModel", "readOf", "[I", true)
  | 10 => ("ShutterTownModel", "readSight", "I", false)
  | 11 => ("ShutterTownModel", "readMany", "I", false)
  | 12 => ("ShutterTownModel", "readTaken", "I", false)
  | 13 => ("ShutterTownModel", "text", "[I", true)
  | 14 => ("ShutterTownModel", "length", "I", false)
  | 15 => ("ShutterTownModel", "at", "I", false)
  | 16 => ("ShutterTownModel", "faultAt", "I", false)
  | 17 => ("ShutterTownModel", "acts", "I", false)
  | 18 => ("ShutterTownModel", "next", "I", false)
  | 19 => ("ShutterTownModel", "row", "[I", true)
  | 20 => ("ShutterTownModel", "bestHours", "I", false)
  | 21 => ("ShutterTownModel", "bestWay", "I", false)
  | 22 => ("ShutterTownModel", "bestMany", "I", false)
  | 23 => ("ShutterTownModel", "followed", "I", false)
  | 24 => ("ShutterTownModel", "behind", "[I", true)
  | 25 => ("ShutterTownModel", "said", "[I", true)
  | 26 => ("ShutterTownModel", "isSure", "[Z", true)
  | 27 => ("ShutterTownModel", "saysAt", "[I", true)
  | 28 => ("ShutterTownModel", "seed", "J", false)
  | 29 => ("ShutterTownModel", "isKept", "[Z", true)
  | _ => ("ShutterTownModel", "kept", "[I", true)
def tyX8 : Nat → FieldType := fun k => match k with
  | 0 => .int
  | 1 => .int
  | 2 => .array .int
  | 3 => .array .int
  | 4 => .array .int
  | 5 => .array .int
  | 6 => .array .int
  | 7 => .array .int
  | 8 => .array .int
  | 9 => .array .int
  | 10 => .int
  | 11 => .int
  | 12 => .int
  | 13 => .array .int
  | 14 => .int
  | 15 => .int
  | 16 => .int
  | 17 => .int
  | 18 => .int
  | 19 => .array .int
  | 20 => .int
  | 21 => .int
  | 22 => .int
  | 23 => .int
  | 24 => .array .int
  | 25 => .array .int
  | 26 => .array .boolean
  | 27 => .array .int
  | 28 => .long
  | 29 => .array .boolean
  | _ => .array .int
theorem nmX8 : ∀ a, a < 31 → ∀ b, b < 31 → a ≠ b → (TX8 a).2.1 ≠ (TX8 b).2.1 := by decide +kernel
theorem tyX8_ok : ∀ k, k < 31 → parseFieldDescriptor (TX8 k).2.2.1 = some (tyX8 k) := by decide +kernel
abbrev cX8_init : ByteArray := prog_10_method_1_code
def yX8_init : MethodName := ⟨RX8, "<init>", "()V"⟩
abbrev cX8_in : ByteArray := prog_10_method_3_code
def yX8_in : MethodName := ⟨RX8, "in", "(JJJ)Z"⟩
abbrev cX8_has : ByteArray := prog_10_method_4_code
def yX8_has : MethodName := ⟨RX8, "has", "(II)Z"⟩
abbrev cX8_ones : ByteArray := prog_10_method_5_code
def yX8_ones : MethodName := ⟨RX8, "ones", "(I)I"⟩
abbrev cX8_write : ByteArray := prog_10_method_6_code
def yX8_write : MethodName := ⟨RX8, "write", "(I)I"⟩
abbrev cX8_wipe : ByteArray := prog_10_method_7_code
def yX8_wipe : MethodName := ⟨RX8, "wipe", "()I"⟩
abbrev cX8_figure : ByteArray := prog_10_method_8_code
def yX8_figure : MethodName := ⟨RX8, "figure", "(II)I"⟩
abbrev cX8_figureOf : ByteArray := prog_10_method_9_code
def yX8_figureOf : MethodName := ⟨RX8, "figureOf", "(I)I"⟩
abbrev cX8_readText : ByteArray := prog_10_method_10_code
def yX8_readText : MethodName := ⟨RX8, "readText", "()I"⟩
abbrev cX8_placesLeft : ByteArray := prog_10_method_11_code
def yX8_placesLeft : MethodName := ⟨RX8, "placesLeft", "()I"⟩
abbrev cX8_readWindow : ByteArray := prog_10_method_12_code
def yX8_readWindow : MethodName := ⟨RX8, "readWindow", "()V"⟩
abbrev cX8_fault : ByteArray := prog_10_method_13_code
def yX8_fault : MethodName := ⟨RX8, "fault", "()I"⟩
abbrev cX8_town : ByteArray := prog_10_method_14_code
def yX8_town : MethodName := ⟨RX8, "town", "()I"⟩
abbrev cX8_isWindow : ByteArray := prog_10_method_15_code
def yX8_isWindow : MethodName := ⟨RX8, "isWindow", "(I)Z"⟩
abbrev cX8_sees : ByteArray := prog_10_method_16_code
def yX8_sees : MethodName := ⟨RX8, "sees", "(II)Z"⟩
abbrev cX8_seen : ByteArray := prog_10_method_17_code
def yX8_seen : MethodName := ⟨RX8, "seen", "(I)I"⟩
abbrev cX8_wordOf : ByteArray := prog_10_method_18_code
def yX8_wordOf : MethodName := ⟨RX8, "wordOf", "(II)I"⟩
abbrev cX8_leastState : ByteArray := prog_10_method_19_code
def yX8_leastState : MethodName := ⟨RX8, "leastState", "(I)I"⟩
abbrev cX8_alike : ByteArray := prog_10_method_20_code
def yX8_alike : MethodName := ⟨RX8, "alike", "(I)I"⟩
abbrev cX8_window : ByteArray := prog_10_method_21_code
def yX8_window : MethodName := ⟨RX8, "window", "(II)I"⟩
abbrev cX8_keepAct : ByteArray := prog_10_method_22_code
def yX8_keepAct : MethodName := ⟨RX8, "keepAct", "()V"⟩
abbrev cX8_move : ByteArray := prog_10_method_23_code
def yX8_move : MethodName := ⟨RX8, "move", "(II)I"⟩
abbrev cX8_windOn : ByteArray := prog_10_method_24_code
def yX8_windOn : MethodName := ⟨RX8, "windOn", "(I)I"⟩
abbrev cX8_wind : ByteArray := prog_10_method_25_code
def yX8_wind : MethodName := ⟨RX8, "wind", "()I"⟩
abbrev cX8_pass : ByteArray := prog_10_method_26_code
def yX8_pass : MethodName := ⟨RX8, "pass", "(II)I"⟩
abbrev cX8_hourOn : ByteArray := prog_10_method_27_code
def yX8_hourOn : MethodName := ⟨RX8, "hourOn", "(I)I"⟩
abbrev cX8_hour : ByteArray := prog_10_method_28_code
def yX8_hour : MethodName := ⟨RX8, "hour", "()I"⟩
abbrev cX8_undo : ByteArray := prog_10_method_29_code
def yX8_undo : MethodName := ⟨RX8, "undo", "()I"⟩
abbrev cX8_sixes : ByteArray := prog_10_method_30_code
def yX8_sixes : MethodName := ⟨RX8, "sixes", "(I)I"⟩
abbrev cX8_between : ByteArray := prog_10_method_31_code
def yX8_between : MethodName := ⟨RX8, "between", "(III)I"⟩
abbrev cX8_hoursBy : ByteArray := prog_10_method_32_code
def yX8_hoursBy : MethodName := ⟨RX8, "hoursBy", "(IIIII)I"⟩
abbrev cX8_layWays : ByteArray := prog_10_method_33_code
def yX8_layWays : MethodName := ⟨RX8, "layWays", "(III)V"⟩
abbrev cX8_soonest : ByteArray := prog_10_method_34_code
def yX8_soonest : MethodName := ⟨RX8, "soonest", "(IIZ)I"⟩
abbrev cX8_knows : ByteArray := prog_10_method_35_code
def yX8_knows : MethodName := ⟨RX8, "knows", "(II)I"⟩
abbrev cX8_isTold : ByteArray := prog_10_method_36_code
def yX8_isTold : MethodName := ⟨RX8, "isTold", "(II)Z"⟩
abbrev cX8_toTell : ByteArray := prog_10_method_37_code
def yX8_toTell : MethodName := ⟨RX8, "toTell", "(I)I"⟩
abbrev cX8_cut : ByteArray := prog_10_method_38_code
def yX8_cut : MethodName := ⟨RX8, "cut", "(II)I"⟩
abbrev cX8_tenTo : ByteArray := prog_10_method_39_code
def yX8_tenTo : MethodName := ⟨RX8, "tenTo", "(I)J"⟩
abbrev cX8_layTrial : ByteArray := prog_10_method_40_code
def yX8_layTrial : MethodName := ⟨RX8, "layTrial", "()V"⟩
abbrev cX8_tryMove : ByteArray := prog_10_method_41_code
def yX8_tryMove : MethodName := ⟨RX8, "tryMove", "(II)Z"⟩
abbrev cX8_judge : ByteArray := prog_10_method_42_code
def yX8_judge : MethodName := ⟨RX8, "judge", "(IJ)I"⟩
abbrev cX8_follow : ByteArray := prog_10_method_43_code
def yX8_follow : MethodName := ⟨RX8, "follow", "(IIZ)I"⟩
abbrev cX8_unfollow : ByteArray := prog_10_method_44_code
def yX8_unfollow : MethodName := ⟨RX8, "unfollow", "()I"⟩
abbrev cX8_wordBy : ByteArray := prog_10_method_45_code
def yX8_wordBy : MethodName := ⟨RX8, "wordBy", "(II)I"⟩
abbrev cX8_isCode : ByteArray := prog_10_method_46_code
def yX8_isCode : MethodName := ⟨RX8, "isCode", "(I)Z"⟩
abbrev cX8_codes : ByteArray := prog_10_method_47_code
def yX8_codes : MethodName := ⟨RX8, "codes", "(Z)I"⟩
abbrev cX8_greatestPart : ByteArray := prog_10_method_48_code
def yX8_greatestPart : MethodName := ⟨RX8, "greatestPart", "(I)I"⟩
abbrev cX8_look : ByteArray := prog_10_method_49_code
def yX8_look : MethodName := ⟨RX8, "look", "()I"⟩
abbrev cX8_will : ByteArray := prog_10_method_50_code
def yX8_will : MethodName := ⟨RX8, "will", "(III)I"⟩
abbrev cX8_layHours : ByteArray := prog_10_method_51_code
def yX8_layHours : MethodName := ⟨RX8, "layHours", "(III)V"⟩
abbrev cX8_cross : ByteArray := prog_10_method_52_code
def yX8_cross : MethodName := ⟨RX8, "cross", "(II)I"⟩
abbrev cX8_lets : ByteArray := prog_10_method_53_code
def yX8_lets : MethodName := ⟨RX8, "lets", "(II)I"⟩
abbrev cX8_isRest : ByteArray := prog_10_method_54_code
def yX8_isRest : MethodName := ⟨RX8, "isRest", "(II)Z"⟩
abbrev cX8_rests : ByteArray := prog_10_method_55_code
def yX8_rests : MethodName := ⟨RX8, "rests", "(I)I"⟩
abbrev cX8_common : ByteArray := prog_10_method_56_code
def yX8_common : MethodName := ⟨RX8, "common", "(II)I"⟩
abbrev cX8_reads : ByteArray := prog_10_method_57_code
def yX8_reads : MethodName := ⟨RX8, "reads", "(III)Z"⟩
abbrev cX8_loose : ByteArray := prog_10_method_58_code
def yX8_loose : MethodName := ⟨RX8, "loose", "()I"⟩
abbrev cX8_slams : ByteArray := prog_10_method_59_code
def yX8_slams : MethodName := ⟨RX8, "slams", "(IIIZ)I"⟩
abbrev cX8_seed : ByteArray := prog_10_method_60_code
def yX8_seed : MethodName := ⟨RX8, "seed", "(J)J"⟩
abbrev cX8_afternoons : ByteArray := prog_10_method_61_code
def yX8_afternoons : MethodName := ⟨RX8, "afternoons", "(I)I"⟩
abbrev cX8_keep : ByteArray := prog_10_method_62_code
def yX8_keep : MethodName := ⟨RX8, "keep", "(I)I"⟩
abbrev cX8_again : ByteArray := prog_10_method_63_code
def yX8_again : MethodName := ⟨RX8, "again", "(I)I"⟩
abbrev cX8_count : ByteArray := prog_10_method_64_code
def yX8_count : MethodName := ⟨RX8, "count", "(I)I"⟩
def RJ6 : String := "java/lang/Integer"
abbrev cJ6_numberOfTrailingZeros_0f7a4 : ByteArray := prog_11_method_48_code
def yJ6_numberOfTrailingZeros_0f7a4 : MethodName := ⟨RJ6, "numberOfTrailingZeros", "(I)I"⟩
abbrev cJ6_bitCount_0f7a4 : ByteArray := prog_11_method_49_code
def yJ6_bitCount_0f7a4 : MethodName := ⟨RJ6, "bitCount", "(I)I"⟩
def RJ9 : String := "java/lang/Math"
abbrev cJ9_abs_0f7a4 : ByteArray := prog_12_method_59_code
def yJ9_abs_0f7a4 : MethodName := ⟨RJ9, "abs", "(I)I"⟩
abbrev cJ9_max_7cf53 : ByteArray := prog_12_method_65_code
def yJ9_max_7cf53 : MethodName := ⟨RJ9, "max", "(II)I"⟩
abbrev cJ9_min_7cf53 : ByteArray := prog_12_method_69_code
def yJ9_min_7cf53 : MethodName := ⟨RJ9, "min", "(II)I"⟩
abbrev cJ9_min_f86c9 : ByteArray := prog_12_method_70_code
def yJ9_min_f86c9 : MethodName := ⟨RJ9, "min", "(JJ)J"⟩
def RJ10 : String := "java/lang/System"
def RJ7 : String := "java/util/Arrays"
abbrev cJ7_fill_d0a16 : ByteArray := prog_14_method_101_code
def yJ7_fill_d0a16 : MethodName := ⟨RJ7, "fill", "([JJ)V"⟩
abbrev cJ7_fill_53178 : ByteArray := prog_14_method_103_code
def yJ7_fill_53178 : MethodName := ⟨RJ7, "fill", "([II)V"⟩
def RL : String := "ShutterTownLaw"
abbrev cL_law : ByteArray := code
def yL_law : MethodName := ⟨RL, "law", "([I)Z"⟩
abbrev vwCl : List vw_C := [(RX0, TX0, 2), (RX1, TX1, 2), (RX2, TX2, 8), (RX3, TX3, 2), (RX4, TX4, 4), (RX5, TX5, 2), (RX6, TX6, 2), (RX7, TX7, 11), (RX8, TX8, 31)]
end
section
/-! THE ABSTRACT STEP: a state of cells by number, locals, stack; a run of straight instructions as a function; its soundness over the machine -/
/-- a field: .inl 0 an int, .inl _ a long, .inr none null, .inr (some r) the cell r -/
abbrev am_Kd : Type := Nat ⊕ Option Nat
/-- a cell: .inl (t, n) an array of n (t: 0 int, 1 boolean, 2 long); .inr (ci, ks) an object -/
abbrev am_Sh : Type := (Nat × Nat) ⊕ (Nat × List am_Kd)
abbrev am_Y : Type := List am_Sh
abbrev am_G : Type := Nat → Nat → Int32
abbrev am_J : Type := Nat → Nat → Int64
abbrev am_AI : Type := Instr × Nat × Nat × Value
abbrev am_S : Type := List (Option Value) × List Value × am_G × am_J
/-- an index within -/
abbrev am_in (i : Int32) (n : Nat) : Prop := ¬ (i < 0 ∨ n ≤ i.toNatClampNeg)
def am_u (g : am_G) (i j : Nat) (v : Int32) : am_G := fun a => if a = i then upd (g i) j v else g a
def am_ul (w : am_J) (i j : Nat) (v : Int64) : am_J := fun a => if a = i then vp_updL (w i) j v else w a
def am_ad (base tt b i : Nat) : Nat := if i = 99 then tt else if i = 98 then b else base + i
def am_v (ad : Nat → Nat) (v : Value) : Value := match v with
  | .ref i => .ref (ad i)
  | v => v
def am_fv (g : am_G) (w : am_J) (i k : Nat) (d : am_Kd) : Value := match d with
  | .inl 0 => .int (g i k)
  | .inl _ => .long (w i k)
  | .inr none => .null
  | .inr (some r) => .ref r
def am_fs (ad : Nat → Nat) (g : am_G) (w : am_J) (i : Nat) (ks : List am_Kd) : List Value := ks.zipIdx.map (fun q => am_v ad (am_fv g w i q.2 q.1))
def am_e (c3 : ClassId × ClassId × ClassId) (ad : Nat → Nat) (g : am_G) (w : am_J) (i : Nat) (sh : am_Sh) : va_E := match sh with
  | .inl (0, n) => .inl (c3.1, n, .inl (g i))
  | .inl (1, n) => .inl (c3.2.1, n, .inl (g i))
  | .inl (_, n) => .inl (c3.2.2, n, .inr (.inl (w i)))
  | .inr (ci, ks) => .inr (ci, am_fs ad g w i ks)
def am_w (c3 : ClassId × ClassId × ClassId) (ad : Nat → Nat) (base : Nat) (y : am_Y) (g : am_G) (w : am_J) : va_W := y.zipIdx.map (fun q => (base + q.2, am_e c3 ad g w q.2 q.1))
def am_ty (c3 : ClassId × ClassId × ClassId) : List (ClassId × FieldType) := [(c3.1, .int), (c3.2.1, .boolean), (c3.2.2, .long)]
theorem am_w_at {c3 : ClassId × ClassId × ClassId} {ad : Nat → Nat} {base : Nat} {y : am_Y} {g : am_G} {w : am_J} {i : Nat} {sh : am_Sh} (h : y[i]? = some sh) : (am_w c3 ad base y g w)[i]? = some (base + i, am_e c3 ad g w i sh) := by
  simp [am_w, List.getElem?_map, List.getElem?_zipIdx, h]
theorem am_w_len {c3 : ClassId × ClassId × ClassId} {ad : Nat → Nat} {base : Nat} {y : am_Y} {g : am_G} {w : am_J} : (am_w c3 ad base y g w).length = y.length := by simp [am_w]
theorem am_w_inv {c3 : ClassId × ClassId × ClassId} {ad : Nat → Nat} {base : Nat} {y : am_Y} {g : am_G} {w : am_J} {i : Nat} {q : Nat × va_E} (h : (am_w c3 ad base y g w)[i]? = some q) : ∃ sh, y[i]? = some sh ∧ q = (base + i, am_e c3 ad g w i sh) := by
  simp only [am_w, List.getElem?_map, List.getElem?_zipIdx] at h
  cases hy : y[i]? with
  | none => rw [hy] at h; cases h
  | some sh =>
    rw [hy] at h
    refine ⟨sh, rfl, ?_⟩
    simpa using h.symm
theorem am_D {c3 : ClassId × ClassId × ClassId} {ad : Nat → Nat} {base : Nat} {y : am_Y} {g : am_G} {w : am_J} : va_D (fun q => base ≤ q) (am_w c3 ad base y g w) := by
  refine ⟨fun i j p q hp hq h => ?_, fun k q hq => ?_⟩
  · obtain ⟨_, -, rfl⟩ := am_w_inv hp
    obtain ⟨_, -, rfl⟩ := am_w_inv hq
    simp only at h
    omega
  · obtain ⟨_, -, rfl⟩ := am_w_inv hq
    show base ≤ base + k
    omega
theorem am_fs_at {ad : Nat → Nat} {g : am_G} {w : am_J} {i k : Nat} {ks : List am_Kd} {d : am_Kd} (h : ks[k]? = some d) : (am_fs ad g w i ks)[k]? = some (am_v ad (am_fv g w i k d)) := by
  simp [am_fs, List.getElem?_map, List.getElem?_zipIdx, h]
/-- one cell changed: the world of the new contents -/
theorem am_w_set {c3 : ClassId × ClassId × ClassId} {ad : Nat → Nat} {base : Nat} {y : am_Y} {g g' : am_G} {w w' : am_J} {i : Nat} {sh : am_Sh} {e : va_E} (h : y[i]? = some sh) (hg : ∀ a, a ≠ i → g' a = g a) (hw : ∀ a, a ≠ i → w' a = w a) (he : e = am_e c3 ad g' w' i sh) :
    (am_w c3 ad base y g w).set i (base + i, e) = am_w c3 ad base y g' w' := by
  subst he
  apply List.ext_getElem?
  intro k
  by_cases hk : k = i
  · subst hk
    have hl : k < (am_w c3 ad base y g w).length := by rw [am_w_len]; exact (List.getElem?_eq_some_iff.mp h).1
    rw [List.getElem?_set_self hl, am_w_at h]
  · rw [List.getElem?_set_ne (Ne.symm hk)]
    cases hy : y[k]? with
    | none =>
      have h1 : y.length ≤ k := by simpa using hy
      rw [List.getElem?_eq_none (by rw [am_w_len]; exact h1), List.getElem?_eq_none (by rw [am_w_len]; exact h1)]
    | some s2 =>
      rw [am_w_at hy, am_w_at hy]
      have e1 := hg k hk
      have e2 := hw k hk
      have : am_e c3 ad g w k s2 = am_e c3 ad g' w' k s2 := by
        cases s2 with
        | inl t =>
          obtain ⟨t, n⟩ := t
          match t with
          | 0 => simp [am_e, e1]
          | 1 => simp [am_e, e1]
          | (t + 2) => simp [am_e, e2]
        | inr o =>
          simp only [am_e, am_fs]
          congr 2
          apply List.map_congr_left
          intro q _
          obtain ⟨d, kk⟩ := q
          match d with
          | .inl 0 => simp [am_fv, e1]
          | .inl (z + 1) => simp [am_fv, e2]
          | .inr none => rfl
          | .inr (some r) => rfl
      rw [this]
theorem am_u_ne {g : am_G} {i j : Nat} {v : Int32} : ∀ a, a ≠ i → am_u g i j v a = g a := fun a h => by simp [am_u, h]
theorem am_ul_ne {w : am_J} {i j : Nat} {v : Int64} : ∀ a, a ≠ i → am_ul w i j v a = w a := fun a h => by simp [am_ul, h]
theorem am_u_at (g : am_G) (i j : Nat) (v : Int32) (a b : Nat) : am_u g i j v a b = if a = i ∧ b = j then v else g a b := by
  unfold am_u
  by_cases h : a = i
  · subst h
    by_cases h2 : b = j
    · simp [upd, h2]
    · simp [upd, h2]
  · simp [h]
theorem am_ul_at (w : am_J) (i j : Nat) (v : Int64) (a b : Nat) : am_ul w i j v a b = if a = i ∧ b = j then v else w a b := by
  unfold am_ul
  by_cases h : a = i
  · subst h
    by_cases h2 : b = j
    · simp [vp_updL, h2]
    · simp [vp_updL, h2]
  · simp [h]
/-- the locals: those that are listed are held -/
def am_l (ad : Nat → Nat) (ls : Array Slot) (nL : Nat) (L : List (Option Value)) : Prop := ls.size = nL ∧ lv_wf ls ∧ L.length ≤ nL ∧ ∀ (i : Nat) (v : Value), L[i]? = some (some v) → ls[i]? = some (.val (am_v ad v))
def am_as (ad : Nat → Nat) (L : List (Option Value)) : List (Nat × Value) := L.zipIdx.filterMap (fun q => q.1.map (fun v => (q.2, am_v ad v)))
theorem am_as_mem {ad : Nat → Nat} {L : List (Option Value)} {q : Nat × Value} : q ∈ am_as ad L ↔ ∃ v, L[q.1]? = some (some v) ∧ q.2 = am_v ad v := by
  constructor
  · intro h
    obtain ⟨⟨o, i⟩, h1, h2⟩ := List.mem_filterMap.mp h
    have h3 : L[i]? = some o := List.mem_zipIdx_iff_getElem?.mp h1
    cases o with
    | none => cases h2
    | some v =>
      simp only [Option.map_some, Option.some.injEq] at h2
      subst h2
      exact ⟨v, h3, rfl⟩
  · rintro ⟨v, h1, h2⟩
    refine List.mem_filterMap.mpr ⟨(some v, q.1), List.mem_zipIdx_iff_getElem?.mpr h1, ?_⟩
    simp [← h2]
theorem am_l.has {ad : Nat → Nat} {ls : Array Slot} {nL : Nat} {L : List (Option Value)} (h : am_l ad ls nL L) : lv_has ls nL (am_as ad L) :=
  ⟨h.1, h.2.1, fun q hq => by obtain ⟨v, h1, h2⟩ := am_as_mem.mp hq; rw [h2]; exact h.2.2.2 _ _ h1⟩
/-- a long before the place is no more held -/
def am_kill (L : List (Option Value)) (i : Nat) : List (Option Value) := match i with
  | 0 => L
  | j + 1 => match L[j]? with
    | some (some v) => if v.category = 2 then L.set j none else L
    | _ => L
def am_s1 (L : List (Option Value)) (i : Nat) (v : Value) : Option (List (Option Value)) := if i < L.length then some ((am_kill L i).set i (some v)) else none
def am_s2 (L : List (Option Value)) (i : Nat) (v : Value) : Option (List (Option Value)) := if i + 1 < L.length then some (((am_kill L i).set i (some v)).set (i + 1) none) else none
theorem am_kill_len (L : List (Option Value)) (i : Nat) : (am_kill L i).length = L.length := by
  unfold am_kill
  split
  · rfl
  · split
    · split <;> simp
    · rfl
theorem am_v_cat (ad : Nat → Nat) (v : Value) : (am_v ad v).category = v.category := by cases v <;> rfl
theorem am_kill_at {L : List (Option Value)} {i j : Nat} {v : Value} (h : (am_kill L i)[j]? = some (some v)) : L[j]? = some (some v) ∧ (j + 1 = i → v.category ≠ 2) := by
  unfold am_kill at h
  split at h
  · exact ⟨h, fun q => by omega⟩
  · rename_i i'
    split at h
    · rename_i v' hz
      split at h
      · rename_i hc
        by_cases hj : j = i'
        · subst hj
          have hl := (List.getElem?_eq_some_iff.mp hz).1
          rw [List.getElem?_set_self hl] at h
          cases h
        · rw [List.getElem?_set_ne (Ne.symm hj)] at h
          exact ⟨h, fun q => by omega⟩
      · rename_i hc
        refine ⟨h, fun q => ?_⟩
        have : j = i' := by omega
        subst this
        rw [hz] at h
        cases h
        exact hc
    · rename_i hz
      refine ⟨h, fun q => ?_⟩
      have : j = i' := by omega
      subst this
      exact absurd h (hz v)
theorem am_l.s1 {ad : Nat → Nat} {ls : Array Slot} {nL i : Nat} {L L' : List (Option Value)} {v : Value} (hlen : L.length ≤ nL) (hs : am_s1 L i v = some L') (h : lv_has ls nL ((i, am_v ad v) :: (am_as ad L).filter (fun q => !(q.1 == i) && !(q.1 + 1 == i && q.2.category == 2)))) : am_l ad ls nL L' := by
  unfold am_s1 at hs
  split at hs
  · rename_i hi
    cases hs
    refine ⟨h.1, h.2.1, by rw [List.length_set, am_kill_len]; exact hlen, fun j z hz => ?_⟩
    by_cases hj : j = i
    · subst hj
      rw [List.getElem?_set_self (by rw [am_kill_len]; exact hi)] at hz
      cases hz
      exact h.2.2 _ List.mem_cons_self
    · rw [List.getElem?_set_ne (Ne.symm hj)] at hz
      obtain ⟨h1, h2⟩ := am_kill_at hz
      refine h.2.2 (j, am_v ad z) (List.mem_cons_of_mem _ (List.mem_filter.mpr ⟨am_as_mem.mpr ⟨z, h1, rfl⟩, ?_⟩))
      simp only [Bool.and_eq_true, Bool.not_eq_true', beq_eq_false_iff_ne, ne_eq, Bool.and_eq_false_iff, am_v_cat]
      refine ⟨hj, ?_⟩
      by_cases hji : j + 1 = i
      · exact Or.inr (h2 hji)
      · exact Or.inl hji
  · cases hs
theorem am_l.s2 {ad : Nat → Nat} {ls : Array Slot} {nL i : Nat} {L L' : List (Option Value)} {v : Value} (hlen : L.length ≤ nL) (hs : am_s2 L i v = some L') (h : lv_has ls nL ((i, am_v ad v) :: (am_as ad L).filter (fun q => !(q.1 == i) && (!(q.1 == i + 1) && !(q.1 + 1 == i && q.2.category == 2))))) : am_l ad ls nL L' := by
  unfold am_s2 at hs
  split at hs
  · rename_i hi
    cases hs
    refine ⟨h.1, h.2.1, by rw [List.length_set, List.length_set, am_kill_len]; exact hlen, fun j z hz => ?_⟩
    by_cases hj1 : j = i + 1
    · subst hj1
      rw [List.getElem?_set_self (by rw [List.length_set, am_kill_len]; exact hi)] at hz
      cases hz
    · rw [List.getElem?_set_ne (Ne.symm hj1)] at hz
      by_cases hj : j = i
      · subst hj
        rw [List.getElem?_set_self (by rw [am_kill_len]; omega)] at hz
        cases hz
        exact h.2.2 _ List.mem_cons_self
      · rw [List.getElem?_set_ne (Ne.symm hj)] at hz
        obtain ⟨h1, h2⟩ := am_kill_at hz
        refine h.2.2 (j, am_v ad z) (List.mem_cons_of_mem _ (List.mem_filter.mpr ⟨am_as_mem.mpr ⟨z, h1, rfl⟩, ?_⟩))
        simp only [Bool.and_eq_true, Bool.not_eq_true', beq_eq_false_iff_ne, ne_eq, Bool.and_eq_false_iff, am_v_cat]
        refine ⟨hj, hj1, ?_⟩
        by_cases hji : j + 1 = i
        · exact Or.inr (h2 hji)
        · exact Or.inl hji
  · cases hs
/-! the machine's fixed things of one method's run -/
abbrev am_X : Type := Program × Launch × Env × Room × State × MethodId × Array Value × List Frame × Method × Code × va_G × (ClassId × ClassId × ClassId) × Nat × Nat × Nat
abbrev am_p (x : am_X) : Program := x.1
abbrev am_la (x : am_X) : Launch := x.2.1
abbrev am_en (x : am_X) : Env := x.2.2.1
abbrev am_R (x : am_X) : Room := x.2.2.2.1
abbrev am_s (x : am_X) : State := x.2.2.2.2.1
abbrev am_m (x : am_X) : MethodId := x.2.2.2.2.2.1
abbrev am_a (x : am_X) : Array Value := x.2.2.2.2.2.2.1
abbrev am_bw (x : am_X) : List Frame := x.2.2.2.2.2.2.2.1
abbrev am_me (x : am_X) : Method := x.2.2.2.2.2.2.2.2.1
abbrev am_c (x : am_X) : Code := x.2.2.2.2.2.2.2.2.2.1
abbrev am_Dg (x : am_X) : va_G := x.2.2.2.2.2.2.2.2.2.2.1
abbrev am_c3 (x : am_X) : ClassId × ClassId × ClassId := x.2.2.2.2.2.2.2.2.2.2.2.1
abbrev am_ba (x : am_X) : Nat := x.2.2.2.2.2.2.2.2.2.2.2.2.1
abbrev am_tt (x : am_X) : Nat := x.2.2.2.2.2.2.2.2.2.2.2.2.2.1
abbrev am_sc (x : am_X) : Nat := x.2.2.2.2.2.2.2.2.2.2.2.2.2.2
abbrev am_xa (x : am_X) : Nat → Nat := am_ad (am_ba x) (am_tt x) (am_sc x)
/-- the heap holds the cells of y, with the contents g, w; there are no cells behind them -/
def am_P (D : va_G) (c3 : ClassId × ClassId × ClassId) (base tt b : Nat) (y : am_Y) (g : am_G) (w : am_J) (H : Heap) : Prop := H.size = base + y.length ∧ va_P D vwCl (am_w c3 (am_ad base tt b) base y g w) H
/-- the static row of longs -/
def am_bt (j : Nat) : Int64 := match j with
  | 0 => 1
  | 1 => 100
  | 2 => 10000
  | 3 => 1000000
  | 4 => 100000000
  | 5 => 10000000000
  | _ => 0
def am_T (base tt : Nat) (U : State) : Prop := va_Z RX7 "BEYOND_THINGS" "[J" (.ref tt) (fun q => base ≤ q) U U.heap ∧ va_T .long tt 6 (fun j => .long (am_bt j)) (fun q => base ≤ q) U U.heap
theorem am_T.go {base tt : Nat} {s U : State} {H : Heap} {locs : List Loc} (h : am_T base tt s) (hS : va_S (fun q => base ≤ q) s.heap H locs) (hU : U.heap = H) (hvm : s.vm.Alike U.vm) : am_T base tt U := by
  unfold am_T
  rw [hU]
  exact ⟨(h.1.kept (H1 := H) (fun a h1 h2 => hS.2.1 a h1 h2)).moved hvm, (h.2.kept (H1 := H) (fun a h1 h2 => hS.2.1 a h1 h2)).moved hvm⟩
/-- the classes by number -/
def am_cn (n : Nat) : String := match n with
  | 0 => RX0
  | 1 => RX1
  | 2 => RX2
  | 3 => RX3
  | 4 => RX4
  | 5 => RX5
  | 6 => RX6
  | 7 => RX7
  | 8 => RX8
  | 9 => RJ6
  | 10 => RJ9
  | 11 => RJ10
  | 12 => RJ7
  | _ => RL
/-- the words that every method has -/
def am_tbl : List Cond := lw_tbl.filter goodWord
theorem am_tbl_in {w : Cond} (h : w ∈ lw_tbl) (hg : goodWord w = true) : w ∈ am_tbl := List.mem_filter.mpr ⟨h, hg⟩
theorem am_goodIn : GoodIn am_tbl am_tbl := fun w hw => ⟨hw, good_of_word (List.mem_filter.mp hw).2⟩
end
section
/-! tables, by program: classes by number, links of fields, constants, each with its place among the words -/
def am_Rc (n : Nat) : String := match n with
  | 0 => RX0
  | 1 => RX1
  | 2 => RX2
  | 3 => RX3
  | 4 => RX4
  | 5 => RX5
  | 6 => RX6
  | 7 => RX7
  | _ => RX8
def am_Tc (n : Nat) : u_T := match n with
  | 0 => TX0
  | 1 => TX1
  | 2 => TX2
  | 3 => TX3
  | 4 => TX4
  | 5 => TX5
  | 6 => TX6
  | 7 => TX7
  | _ => TX8
def am_yc (n : Nat) : Nat → FieldType := match n with
  | 0 => tyX0
  | 1 => tyX1
  | 2 => tyX2
  | 3 => tyX3
  | 4 => tyX4
  | 5 => tyX5
  | 6 => tyX6
  | 7 => tyX7
  | _ => tyX8
def am_Nc (n : Nat) : Nat := match n with
  | 0 => 2
  | 1 => 2
  | 2 => 8
  | 3 => 2
  | 4 => 4
  | 5 => 2
  | 6 => 2
  | 7 => 11
  | _ => 31
theorem am_nine {P : Nat → Prop} (h0 : P 0) (h1 : P 1) (h2 : P 2) (h3 : P 3) (h4 : P 4) (h5 : P 5) (h6 : P 6) (h7 : P 7) (h8 : P 8) : ∀ ci, ci < 9 → P ci := by
  intro ci h
  match ci, h with
  | 0, _ => exact h0
  | 1, _ => exact h1
  | 2, _ => exact h2
  | 3, _ => exact h3
  | 4, _ => exact h4
  | 5, _ => exact h5
  | 6, _ => exact h6
  | 7, _ => exact h7
  | 8, _ => exact h8
theorem am_clc : ∀ ci, ci < 9 → vwCl[ci]? = some (am_Rc ci, am_Tc ci, am_Nc ci) := am_nine rfl rfl rfl rfl rfl rfl rfl rfl rfl
theorem am_nmc : ∀ ci, ci < 9 → ∀ a, a < am_Nc ci → ∀ b, b < am_Nc ci → a ≠ b → (am_Tc ci a).2.1 ≠ (am_Tc ci b).2.1 := am_nine nmX0 nmX1 nmX2 nmX3 nmX4 nmX5 nmX6 nmX7 nmX8
theorem am_tyc : ∀ ci, ci < 9 → ∀ k, k < am_Nc ci → parseFieldDescriptor (am_Tc ci k).2.2.1 = some (am_yc ci k) := am_nine tyX0_ok tyX1_ok tyX2_ok tyX3_ok tyX4_ok tyX5_ok tyX6_ok tyX7_ok tyX8_ok
set_option maxRecDepth 100000 in
theorem am_wi0 : ∀ w ∈ u_ws RX0 TX0 2, w ∈ am_tbl := by
  have h : (u_ws RX0 TX0 2) = ([132, 134] : List Nat).filterMap (fun i => lw_tbl[i]?) := by decide +kernel
  intro w hw
  have hw0 := hw
  rw [h] at hw
  obtain ⟨i, -, hi⟩ := List.mem_filterMap.mp hw
  exact am_tbl_in (List.mem_of_getElem? hi) (List.all_eq_true.mp (show ((u_ws RX0 TX0 2).all goodWord) = true by decide +kernel) w hw0)
set_option maxRecDepth 100000 in
theorem am_wi1 : ∀ w ∈ u_ws RX1 TX1 2, w ∈ am_tbl := by
  have h : (u_ws RX1 TX1 2) = ([172, 174] : List Nat).filterMap (fun i => lw_tbl[i]?) := by decide +kernel
  intro w hw
  have hw0 := hw
  rw [h] at hw
  obtain ⟨i, -, hi⟩ := List.mem_filterMap.mp hw
  exact am_tbl_in (List.mem_of_getElem? hi) (List.all_eq_true.mp (show ((u_ws RX1 TX1 2).all goodWord) = true by decide +kernel) w hw0)
set_option maxRecDepth 100000 in
theorem am_wi2 : ∀ w ∈ u_ws RX2 TX2 8, w ∈ am_tbl := by
  have h : (u_ws RX2 TX2 8) = ([88, 90, 92, 94, 96, 98, 100, 102] : List Nat).filterMap (fun i => lw_tbl[i]?) := by decide +kernel
  intro w hw
  have hw0 := hw
  rw [h] at hw
  obtain ⟨i, -, hi⟩ := List.mem_filterMap.mp hw
  exact am_tbl_in (List.mem_of_getElem? hi) (List.all_eq_true.mp (show ((u_ws RX2 TX2 8).all goodWord) = true by decide +kernel) w hw0)
set_option maxRecDepth 100000 in
theorem am_wi3 : ∀ w ∈ u_ws RX3 TX3 2, w ∈ am_tbl := by
  have h : (u_ws RX3 TX3 2) = ([68, 70] : List Nat).filterMap (fun i => lw_tbl[i]?) := by decide +kernel
  intro w hw
  have hw0 := hw
  rw [h] at hw
  obtain ⟨i, -, hi⟩ := List.mem_filterMap.mp hw
  exact am_tbl_in (List.mem_of_getElem? hi) (List.all_eq_true.mp (show ((u_ws RX3 TX3 2).all goodWord) = true by decide +kernel) w hw0)
set_option maxRecDepth 100000 in
theorem am_wi4 : ∀ w ∈ u_ws RX4 TX4 4, w ∈ am_tbl := by
  have h : (u_ws RX4 TX4 4) = ([115, 117, 119, 121] : List Nat).filterMap (fun i => lw_tbl[i]?) := by decide +kernel
  intro w hw
  have hw0 := hw
  rw [h] at hw
  obtain ⟨i, -, hi⟩ := List.mem_filterMap.mp hw
  exact am_tbl_in (List.mem_of_getElem? hi) (List.all_eq_true.mp (show ((u_ws RX4 TX4 4).all goodWord) = true by decide +kernel) w hw0)
set_option maxRecDepth 100000 in
theorem am_wi5 : ∀ w ∈ u_ws RX5 TX5 2, w ∈ am_tbl := by
  have h : (u_ws RX5 TX5 2) = ([145, 147] : List Nat).filterMap (fun i => lw_tbl[i]?) := by decide +kernel
  intro w hw
  have hw0 := hw
  rw [h] at hw
  obtain ⟨i, -, hi⟩ := List.mem_filterMap.mp hw
  exact am_tbl_in (List.mem_of_getElem? hi) (List.all_eq_true.mp (show ((u_ws RX5 TX5 2).all goodWord) = true by decide +kernel) w hw0)
set_option maxRecDepth 100000 in
theorem am_wi6 : ∀ w ∈ u_ws RX6 TX6 2, w ∈ am_tbl := by
  have h : (u_ws RX6 TX6 2) = ([158, 160] : List Nat).filterMap (fun i => lw_tbl[i]?) := by decide +kernel
  intro w hw
  have hw0 := hw
  rw [h] at hw
  obtain ⟨i, -, hi⟩ := List.mem_filterMap.mp hw
  exact am_tbl_in (List.mem_of_getElem? hi) (List.all_eq_true.mp (show ((u_ws RX6 TX6 2).all goodWord) = true by decide +kernel) w hw0)
set_option maxRecDepth 100000 in
theorem am_wi7 : ∀ w ∈ u_ws RX7 TX7 11, w ∈ am_tbl := by
  have h : (u_ws RX7 TX7 11) = ([188, 190, 192, 194, 196, 198, 200, 202, 204, 206, 208] : List Nat).filterMap (fun i => lw_tbl[i]?) := by decide +kernel
  intro w hw
  have hw0 := hw
  rw [h] at hw
  obtain ⟨i, -, hi⟩ := List.mem_filterMap.mp hw
  exact am_tbl_in (List.mem_of_getElem? hi) (List.all_eq_true.mp (show ((u_ws RX7 TX7 11).all goodWord) = true by decide +kernel) w hw0)
set_option maxRecDepth 100000 in
theorem am_wi8 : ∀ w ∈ u_ws RX8 TX8 31, w ∈ am_tbl := by
  have h : (u_ws RX8 TX8 31) = ([734, 736, 738, 740, 742, 744, 746, 748, 750, 752, 754, 756, 758, 760, 762, 764, 766, 768, 770, 772, 774, 776, 778, 780, 782, 784, 786, 788, 790, 792, 794] : List Nat).filterMap (fun i => lw_tbl[i]?) := by decide +kernel
  intro w hw
  have hw0 := hw
  rw [h] at hw
  obtain ⟨i, -, hi⟩ := List.mem_filterMap.mp hw
  exact am_tbl_in (List.mem_of_getElem? hi) (List.all_eq_true.mp (show ((u_ws RX8 TX8 31).all goodWord) = true by decide +kernel) w hw0)
theorem am_wic : ∀ ci, ci < 9 → ∀ w ∈ u_ws (am_Rc ci) (am_Tc ci) (am_Nc ci), w ∈ am_tbl := am_nine am_wi0 am_wi1 am_wi2 am_wi3 am_wi4 am_wi5 am_wi6 am_wi7 am_wi8
def am_fl : List (Nat × Nat × Nat × Nat × Nat) := [(3, 9, 3, 0, 66), (3, 15, 3, 1, 67), (2, 9, 2, 0, 80), (2, 15, 2, 1, 81), (2, 18, 2, 2, 82), (2, 21, 2, 3, 83), (2, 24, 2, 4, 84), (2, 27, 2, 5, 85), (2, 30, 2, 6, 86), (2, 53, 2, 7, 87), (4, 18, 4, 0, 111), (4, 9, 4, 1, 112), (4, 15, 4, 2, 113), (4, 40, 4, 3, 114), (0, 9, 0, 0, 130), (0, 15, 0, 1, 131), (5, 9, 5, 0, 143), (5, 19, 5, 1, 144), (6, 15, 6, 0, 156), (6, 11, 6, 1, 157), (1, 11, 1, 0, 170), (1, 15, 1, 1, 171), (7, 12, 7, 0, 177), (7, 19, 7, 1, 178), (7, 28, 7, 2, 179), (7, 32, 7, 3, 180), (7, 38, 7, 4, 181), (7, 45, 7, 5, 182), (7, 52, 7, 6, 183), (7, 59, 7, 7, 184), (7, 63, 7, 8, 185), (7, 67, 7, 9, 186), (7, 233, 7, 10, 187), (8, 111, 8, 0, 703), (8, 59, 8, 1, 704), (8, 7, 8, 2, 705), (8, 13, 8, 3, 706), (8, 16, 8, 4, 707), (8, 19, 8, 5, 708), (8, 22, 8, 6, 709), (8, 25, 8, 7, 710), (8, 28, 8, 8, 711), (8, 31, 8, 9, 712), (8, 94, 8, 10, 713), (8, 84, 8, 11, 714), (8, 87, 8, 12, 715), (8, 34, 8, 13, 716), (8, 69, 8, 14, 717), (8, 75, 8, 15, 718), (8, 72, 8, 16, 719), (8, 114, 8, 17, 720), (8, 132, 8, 18, 721), (8, 37, 8, 19, 722), (8, 156, 8, 20, 723), (8, 163, 8, 21, 724), (8, 166, 8, 22, 725), (8, 198, 8, 23, 726), (8, 40, 8, 24, 727), (8, 43, 8, 25, 728), (8, 46, 8, 26, 729), (8, 50, 8, 27, 730), (8, 233, 8, 28, 731), (8, 53, 8, 29, 732), (8, 56, 8, 30, 733)]
set_option maxRecDepth 100000 in
theorem am_fl_all : (am_fl.all fun q => decide (q.2.2.1 < 9) && (decide (q.2.2.2.1 < am_Nc q.2.2.1) && decide (lw_tbl[q.2.2.2.2]? = some (Cond.fieldLink (am_cn q.1) q.2.1 (am_Tc q.2.2.1 q.2.2.2.1).1 (am_Tc q.2.2.1 q.2.2.2.1).2.1 (am_Tc q.2.2.1 q.2.2.2.1).2.2.1)))) = true := by decide +kernel
def am_flb (own idx ci k : Nat) : Bool := am_fl.any fun q => q.1 == own && (q.2.1 == idx && (q.2.2.1 == ci && q.2.2.2.1 == k))
theorem am_flb_ok {own idx ci k : Nat} (h : am_flb own idx ci k = true) : ci < 9 ∧ k < am_Nc ci ∧ Cond.fieldLink (am_cn own) idx (am_Tc ci k).1 (am_Tc ci k).2.1 (am_Tc ci k).2.2.1 ∈ am_tbl := by
  obtain ⟨q, hq, h2⟩ := List.any_eq_true.mp h
  simp only [Bool.and_eq_true, beq_iff_eq] at h2
  obtain ⟨rfl, rfl, rfl, rfl⟩ := h2
  have h3 := List.all_eq_true.mp am_fl_all q hq
  simp only [Bool.and_eq_true, decide_eq_true_eq] at h3
  exact ⟨h3.1, h3.2.1, am_tbl_in (List.mem_of_getElem? h3.2.2) rfl⟩
def am_kc : List (Nat × Nat × Int32 × Nat) := [(9, 265, 1431655765, 515), (9, 266, 858993459, 516), (9, 267, 252645135, 517), (9, 264, 65536, 584)]
def am_kl : List (Nat × Nat × Int64 × Nat) := [(6, 19, 1000000000, 459), (6, 51, 10000000, 473), (6, 69, 10, 475), (7, 187, 100, 532), (7, 237, 6364136223846793005, 646), (7, 239, 1442695040888963407, 647), (7, 241, 32, 648), (8, 63, 255, 802), (8, 78, 9, 834), (8, 117, (-1), 862), (8, 135, 3, 867), (8, 181, 5, 941), (8, 179, 10, 945), (8, 190, 100, 950), (8, 237, 30, 1034), (8, 239, 6364136223846793005, 1035), (8, 241, 1442695040888963407, 1036), (8, 243, 32, 1037), (13, 73, 4294967295, 1050)]
set_option maxRecDepth 100000 in
theorem am_kc_all : (am_kc.all fun q => decide (lw_tbl[q.2.2.2]? = some (Cond.constant (am_cn q.1) q.2.1 q.2.2.1))) = true := by decide +kernel
set_option maxRecDepth 100000 in
theorem am_kl_all : (am_kl.all fun q => decide (lw_tbl[q.2.2.2]? = some (Cond.constantLong (am_cn q.1) q.2.1 q.2.2.1))) = true := by decide +kernel
def am_kcb (own idx : Nat) (v : Value) : Bool := match v with
  | .int z => am_kc.any fun q => q.1 == own && (q.2.1 == idx && decide (q.2.2.1 = z))
  | _ => false
def am_klb (own idx : Nat) (v : Value) : Bool := match v with
  | .long z => am_kl.any fun q => q.1 == own && (q.2.1 == idx && decide (q.2.2.1 = z))
  | _ => false
theorem am_kcb_ok {own idx : Nat} {v : Value} (h : am_kcb own idx v = true) : ∃ z, v = .int z ∧ Cond.constant (am_cn own) idx z ∈ am_tbl := by
  unfold am_kcb at h
  split at h
  · obtain ⟨q, hq, h2⟩ := List.any_eq_true.mp h
    simp only [Bool.and_eq_true, beq_iff_eq, decide_eq_true_eq] at h2
    obtain ⟨rfl, rfl, rfl⟩ := h2
    have h3 := List.all_eq_true.mp am_kc_all q hq
    simp only [decide_eq_true_eq] at h3
    exact ⟨_, rfl, am_tbl_in (List.mem_of_getElem? h3) rfl⟩
  · cases h
theorem am_klb_ok {own idx : Nat} {v : Value} (h : am_klb own idx v = true) : ∃ z, v = .long z ∧ Cond.constantLong (am_cn own) idx z ∈ am_tbl := by
  unfold am_klb at h
  split at h
  · obtain ⟨q, hq, h2⟩ := List.any_eq_true.mp h
    simp only [Bool.and_eq_true, beq_iff_eq, decide_eq_true_eq] at h2
    obtain ⟨rfl, rfl, rfl⟩ := h2
    have h3 := List.all_eq_true.mp am_kl_all q hq
    simp only [decide_eq_true_eq] at h3
    exact ⟨_, rfl, am_tbl_in (List.mem_of_getElem? h3) rfl⟩
  · cases h
/-- links to private members of nest mates -/
def am_nst : List (Nat × Nat × MethodName × Nat) := [(7, 11, yX3_init, 62), (7, 18, yX2_init, 76), (7, 37, yX0_init, 126), (7, 44, yX5_init, 139), (7, 58, yX1_init, 166), (2, 69, yX7_isState, 349), (4, 54, yX7_isState, 369), (1, 25, yX7_isState, 553), (1, 29, yX7_isWord, 554)]
set_option maxRecDepth 100000 in
theorem am_nst_all : (am_nst.all fun q => decide (lw_tbl[q.2.2.2]? = some (Cond.methodLinkNest (am_cn q.1) q.2.1 q.2.2.1 RX7))) = true := by decide +kernel
def am_N (U : State) : Prop := ∀ q ∈ am_nst, va_Nw (.methodLinkNest (am_cn q.1) q.2.1 q.2.2.1 RX7) U
theorem am_N.warm {s U : State} (hW : s.WarmedH U.vm) (h : am_N s) : am_N U := fun q hq => va_Nw.warmM hW (h q hq)
theorem am_N.of {A : Array Value} {U : State} (h : ∀ w ∈ lw_tbl, w.before A U = true) : am_N U := fun q hq => va_Nw.of rfl (h _ (List.mem_of_getElem? (of_decide_eq_true (List.all_eq_true.mp am_nst_all q hq))))
end
section
def am_Cx (x : am_X) (own : Nat) (cc : ByteArray) (nL : Nat) : Prop :=
  (am_p x).tables.exec = Jvm.exec ∧ (am_c x).code = cc ∧ (am_c x).maxLocals = nL ∧ (am_s x).vm.findClass (am_cn own) = some (am_m x).cls ∧ (∀ w ∈ am_tbl, w.before (am_a x) (am_s x) = true) ∧ (am_me x).locks = false ∧ va_K (am_Dg x) vwCl (am_ty (am_c3 x)) (am_s x) ∧ am_T (am_ba x) (am_tt x) (am_s x) ∧ am_N (am_s x)
def am_Ev (x : am_X) (nL : Nat) (cs : Nat × Nat) (Q : State → Prop) (pc : Nat) (L : List (Option Value)) (st : List Value) (y : am_Y) (g : am_G) (w : am_J) : Prop :=
  ∀ (H : Heap) (locs : List Loc) (ls : Array Slot), am_P (am_Dg x) (am_c3 x) (am_ba x) (am_tt x) (am_sc x) y g w H → va_S (fun q => am_ba x ≤ q) (am_s x).heap H locs → am_l (am_xa x) ls nL L →
    W (am_p x) (am_la x) (am_en x) (am_R x) (am_s x) (am_m x) (am_a x) (am_bw x) (am_me x) (am_c x) H locs cs.1 cs.2 Q (F0 (am_m x) pc ls (st.map (am_v (am_xa x))))
/-! THE STEP -/
def am_b (f : Int32 → Int32 → Int32) (st : List Value) : Option (List Value) := match st with
  | .int y :: .int x :: r => some (.int (f x y) :: r)
  | _ => none
def am_bl (f : Int64 → Int64 → Int64) (st : List Value) : Option (List Value) := match st with
  | .long y :: .long x :: r => some (.long (f x y) :: r)
  | _ => none
def am_bs (f : Int64 → Int32 → Int64) (st : List Value) : Option (List Value) := match st with
  | .int y :: .long x :: r => some (.long (f x y) :: r)
  | _ => none
theorem am_b_inv {f : Int32 → Int32 → Int32} {st st' : List Value} (h : am_b f st = some st') : ∃ x y r, st = .int y :: .int x :: r ∧ st' = .int (f x y) :: r := by
  unfold am_b at h
  split at h
  · cases h; exact ⟨_, _, _, rfl, rfl⟩
  · cases h
theorem am_bl_inv {f : Int64 → Int64 → Int64} {st st' : List Value} (h : am_bl f st = some st') : ∃ x y r, st = .long y :: .long x :: r ∧ st' = .long (f x y) :: r := by
  unfold am_bl at h
  split at h
  · cases h; exact ⟨_, _, _, rfl, rfl⟩
  · cases h
theorem am_bs_inv {f : Int64 → Int32 → Int64} {st st' : List Value} (h : am_bs f st = some st') : ∃ x y r, st = .int y :: .long x :: r ∧ st' = .long (f x y) :: r := by
  unfold am_bs at h
  split at h
  · cases h; exact ⟨_, _, _, rfl, rfl⟩
  · cases h
def am_ushr (x y : Int32) : Int32 := (x.toUInt32 >>> (y.toUInt32 &&& Int32.toUInt32 31)).toInt32
def am_lushr (x : Int64) (y : Int32) : Int64 := (x.toUInt64 >>> (y.toInt64.toUInt64 &&& Int64.toUInt64 63)).toInt64
def am_lshl (x : Int64) (y : Int32) : Int64 := x <<< (y.toInt64 &&& 63)
abbrev am_O : Type := Option (am_S × Option Prop)
def am_mk (L : List (Option Value)) (g : am_G) (w : am_J) (o : Option (List Value)) : am_O := match o with
  | some st => some ((L, st, g, w), none)
  | none => none
def am_ldi (L : List (Option Value)) (st : List Value) (g : am_G) (w : am_J) (i : Nat) : am_O := match L[i]? with
  | some (some (.int z)) => some ((L, .int z :: st, g, w), none)
  | _ => none
def am_ldl (L : List (Option Value)) (st : List Value) (g : am_G) (w : am_J) (i : Nat) : am_O := match L[i]? with
  | some (some (.long z)) => some ((L, .long z :: st, g, w), none)
  | _ => none
def am_lda (L : List (Option Value)) (st : List Value) (g : am_G) (w : am_J) (i : Nat) : am_O := match L[i]? with
  | some (some (.ref z)) => some ((L, .ref z :: st, g, w), none)
  | _ => none
def am_sti (L : List (Option Value)) (st : List Value) (g : am_G) (w : am_J) (i : Nat) : am_O := match st with
  | .int z :: r => match am_s1 L i (.int z) with
    | some L' => some ((L', r, g, w), none)
    | none => none
  | _ => none
def am_sta (L : List (Option Value)) (st : List Value) (g : am_G) (w : am_J) (i : Nat) : am_O := match st with
  | .ref z :: r => match am_s1 L i (.ref z) with
    | some L' => some ((L', r, g, w), none)
    | none => none
  | _ => none
def am_stl (L : List (Option Value)) (st : List Value) (g : am_G) (w : am_J) (i : Nat) : am_O := match st with
  | .long z :: r => match am_s2 L i (.long z) with
    | some L' => some ((L', r, g, w), none)
    | none => none
  | _ => none
def am_inc (L : List (Option Value)) (st : List Value) (g : am_G) (w : am_J) (i : Nat) (v : Value) : am_O := match L[i]? with
  | some (some (.int z)) => match v with
    | .int c => match am_s1 L i (.int (z + c)) with
      | some L' => some ((L', st, g, w), none)
      | none => none
    | _ => none
  | _ => none
/-- an element of an array of type t -/
def am_ald (y : am_Y) (t : Nat) (L : List (Option Value)) (st : List Value) (g : am_G) (w : am_J) : am_O := match st with
  | .int j :: .ref i :: r => match y[i]? with
    | some (.inl (t', n)) => if t' = t then some ((L, (if t = 2 then Value.long (w i j.toNatClampNeg) else Value.int (g i j.toNatClampNeg)) :: r, g, w), some (am_in j n)) else none
    | _ => none
  | _ => none
def am_ast (y : am_Y) (t : Nat) (nf : Int32 → Int32) (L : List (Option Value)) (st : List Value) (g : am_G) (w : am_J) : am_O := match st with
  | .int v :: .int j :: .ref i :: r => match y[i]? with
    | some (.inl (t', n)) => if t' = t then some ((L, r, am_u g i j.toNatClampNeg (nf v), w), some (am_in j n)) else none
    | _ => none
  | _ => none
def am_lst (y : am_Y) (L : List (Option Value)) (st : List Value) (g : am_G) (w : am_J) : am_O := match st with
  | .long v :: .int j :: .ref i :: r => match y[i]? with
    | some (.inl (2, n)) => some ((L, r, g, am_ul w i j.toNatClampNeg v), some (am_in j n))
    | _ => none
  | _ => none
def am_len (y : am_Y) (L : List (Option Value)) (st : List Value) (g : am_G) (w : am_J) : am_O := match st with
  | .ref i :: r => match y[i]? with
    | some (.inl (_, n)) => some ((L, .int (Int32.ofNat n) :: r, g, w), none)
    | _ => none
  | _ => none
def am_gf (y : am_Y) (ci k : Nat) (L : List (Option Value)) (st : List Value) (g : am_G) (w : am_J) : am_O := match st with
  | .ref i :: r => match y[i]? with
    | some (.inr (c, ks)) => if c = ci then (match ks[k]? with
      | some d => some ((L, am_fv g w i k d :: r, g, w), none)
      | none => none) else none
    | _ => none
  | _ => none
def am_pfi (y : am_Y) (ci k : Nat) (L : List (Option Value)) (r : List Value) (i : Nat) (z : Int32) (g : am_G) (w : am_J) : am_O := match y[i]? with
  | some (.inr (c, ks)) => if c = ci then (match ks[k]? with
    | some (.inl 0) => some ((L, r, am_u g i k z, w), none)
    | _ => none) else none
  | _ => none
def am_pfl (y : am_Y) (ci k : Nat) (L : List (Option Value)) (r : List Value) (i : Nat) (z : Int64) (g : am_G) (w : am_J) : am_O := match y[i]? with
  | some (.inr (c, ks)) => if c = ci then (match ks[k]? with
    | some (.inl 1) => some ((L, r, g, am_ul w i k z), none)
    | _ => none) else none
  | _ => none
def am_pf (y : am_Y) (ci k : Nat) (L : List (Option Value)) (st : List Value) (g : am_G) (w : am_J) : am_O := match st with
  | .int z :: .ref i :: r => am_pfi y ci k L r i z g w
  | .long z :: .ref i :: r => am_pfl y ci k L r i z g w
  | _ => none
def am_c1 (v : Value) : Bool := match v with
  | .int _ => true
  | .ref _ => true
  | _ => false
def am_dup (st : List Value) : Option (List Value) := match st with
  | v :: r => if am_c1 v then some (v :: v :: r) else none
  | _ => none
def am_dup2 (st : List Value) : Option (List Value) := match st with
  | v :: u :: r => if am_c1 v && am_c1 u then some (v :: u :: v :: u :: r) else none
  | _ => none
def am_pop (st : List Value) : Option (List Value) := match st with
  | v :: r => if am_c1 v then some r else none
  | _ => none
def am_i1 (f : Int32 → Value) (st : List Value) : Option (List Value) := match st with
  | .int x :: r => some (f x :: r)
  | _ => none
def am_l1 (f : Int64 → Value) (st : List Value) : Option (List Value) := match st with
  | .long x :: r => some (f x :: r)
  | _ => none
def am_lc (st : List Value) : Option (List Value) := match st with
  | .long y :: .long x :: r => some (.int (lg_cmp x y) :: r)
  | _ => none
def am_dv (f : Int32 → Int32 → Int32) (L : List (Option Value)) (st : List Value) (g : am_G) (w : am_J) : am_O := match st with
  | .int y :: .int x :: r => some ((L, .int (f x y) :: r, g, w), some (¬ y = 0))
  | _ => none
def am_dvl (f : Int64 → Int64 → Int64) (L : List (Option Value)) (st : List Value) (g : am_G) (w : am_J) : am_O := match st with
  | .long y :: .long x :: r => some ((L, .long (f x y) :: r, g, w), some (¬ y = 0))
  | _ => none
def am_st (y : am_Y) (a : am_AI) (L : List (Option Value)) (st : List Value) (g : am_G) (w : am_J) : am_O := match a.1 with
  | .iconst _ => some ((L, a.2.2.2 :: st, g, w), none)
  | .bipush _ => some ((L, a.2.2.2 :: st, g, w), none)
  | .sipush _ => some ((L, a.2.2.2 :: st, g, w), none)
  | .lconst _ => some ((L, a.2.2.2 :: st, g, w), none)
  | .ldc_w _ => some ((L, a.2.2.2 :: st, g, w), none)
  | .ldc2_w _ => some ((L, a.2.2.2 :: st, g, w), none)
  | .iload_n k => am_ldi L st g w k.val
  | .iload i => am_ldi L st g w i
  | .lload_n k => am_ldl L st g w k.val
  | .lload i => am_ldl L st g w i
  | .aload_n k => am_lda L st g w k.val
  | .aload i => am_lda L st g w i
  | .istore_n k => am_sti L st g w k.val
  | .istore i => am_sti L st g w i
  | .lstore_n k => am_stl L st g w k.val
  | .lstore i => am_stl L st g w i
  | .astore_n k => am_sta L st g w k.val
  | .astore i => am_sta L st g w i
  | .iinc i _ => am_inc L st g w i a.2.2.2
  | .iadd => am_mk L g w (am_b (fun x y => x + y) st)
  | .isub => am_mk L g w (am_b (fun x y => x - y) st)
  | .imul => am_mk L g w (am_b (fun x y => x * y) st)
  | .iand => am_mk L g w (am_b (fun x y => x &&& y) st)
  | .ior => am_mk L g w (am_b (fun x y => x ||| y) st)
  | .ixor => am_mk L g w (am_b (fun x y => x ^^^ y) st)
  | .ishl => am_mk L g w (am_b (fun x y => x <<< (y &&& 31)) st)
  | .ishr => am_mk L g w (am_b (fun x y => x >>> (y &&& 31)) st)
  | .iushr => am_mk L g w (am_b am_ushr st)
  | .idiv => am_dv (fun x y => x / y) L st g w
  | .irem => am_dv (fun x y => x - x / y * y) L st g w
  | .ineg => am_mk L g w (am_i1 (fun x => .int (-x)) st)
  | .ladd => am_mk L g w (am_bl (fun x y => x + y) st)
  | .lsub => am_mk L g w (am_bl (fun x y => x - y) st)
  | .lmul => am_mk L g w (am_bl (fun x y => x * y) st)
  | .land => am_mk L g w (am_bl (fun x y => x &&& y) st)
  | .lor => am_mk L g w (am_bl (fun x y => x ||| y) st)
  | .ldiv => am_dvl (fun x y => x / y) L st g w
  | .lrem => am_dvl (fun x y => x - x / y * y) L st g w
  | .lshl => am_mk L g w (am_bs am_lshl st)
  | .lushr => am_mk L g w (am_bs am_lushr st)
  | .lcmp => am_mk L g w (am_lc st)
  | .i2l => am_mk L g w (am_i1 (fun x => .long x.toInt64) st)
  | .l2i => am_mk L g w (am_l1 (fun x => .int x.toInt32) st)
  | .dup => am_mk L g w (am_dup st)
  | .dup2 => am_mk L g w (am_dup2 st)
  | .pop => am_mk L g w (am_pop st)
  | .iaload => am_ald y 0 L st g w
  | .baload => am_ald y 1 L st g w
  | .laload => am_ald y 2 L st g w
  | .iastore => am_ast y 0 (fun v => v) L st g w
  | .bastore => am_ast y 1 (fun v => vp_nar .boolean v) L st g w
  | .lastore => am_lst y L st g w
  | .arraylength => am_len y L st g w
  | .getfield _ => am_gf y a.2.1 a.2.2.1 L st g w
  | .putfield _ => am_pf y a.2.1 a.2.2.1 L st g w
  | _ => none
def am_ln (i : Instr) : Nat := match i with
  | .bipush _ => 2
  | .sipush _ => 3
  | .ldc_w _ => 3
  | .ldc2_w _ => 3
  | .iload _ => 2
  | .lload _ => 2
  | .aload _ => 2
  | .istore _ => 2
  | .lstore _ => 2
  | .astore _ => 2
  | .iinc _ _ => 3
  | .getfield _ => 3
  | .putfield _ => 3
  | _ => 1
/-- the fields that may be written outside a constructor -/
def am_wr (ci k : Nat) : Bool := !(am_Tc ci k).2.2.2 && (decide (am_yc ci k = .int) || decide (am_yc ci k = .long))
def am_ok (own : Nat) (a : am_AI) : Bool := match a.1 with
  | .iconst n => decide (a.2.2.2 = .int (Int32.ofInt n))
  | .bipush n => decide (a.2.2.2 = .int (Int8.ofInt n).toInt32)
  | .sipush n => decide (a.2.2.2 = .int (Int16.ofInt n).toInt32)
  | .lconst n => decide (a.2.2.2 = .long (Int64.ofNat n.val))
  | .iinc _ n => decide (a.2.2.2 = .int (Int32.ofInt n))
  | .ldc_w idx => am_kcb own idx a.2.2.2
  | .ldc2_w idx => am_klb own idx a.2.2.2
  | .getfield idx => am_flb own idx a.2.1 a.2.2.1
  | .putfield idx => am_flb own idx a.2.1 a.2.2.1 && am_wr a.2.1 a.2.2.1
  | _ => true
end
section
/-! SOUNDNESS of the abstract step -/
theorem am_Cx.hx {x : am_X} {own : Nat} {cc : ByteArray} {nL : Nat} (h : am_Cx x own cc nL) : (am_p x).tables.exec = Jvm.exec := h.1
theorem am_Cx.hb {x : am_X} {own : Nat} {cc : ByteArray} {nL : Nat} (h : am_Cx x own cc nL) : (am_c x).code = cc := h.2.1
theorem am_Cx.hml {x : am_X} {own : Nat} {cc : ByteArray} {nL : Nat} (h : am_Cx x own cc nL) : (am_c x).maxLocals = nL := h.2.2.1
theorem am_Cx.hown {x : am_X} {own : Nat} {cc : ByteArray} {nL : Nat} (h : am_Cx x own cc nL) : (am_s x).vm.findClass (am_cn own) = some (am_m x).cls := h.2.2.2.1
theorem am_Cx.hts {x : am_X} {own : Nat} {cc : ByteArray} {nL : Nat} (h : am_Cx x own cc nL) : ∀ w ∈ am_tbl, w.before (am_a x) (am_s x) = true := h.2.2.2.2.1
theorem am_Cx.hlk {x : am_X} {own : Nat} {cc : ByteArray} {nL : Nat} (h : am_Cx x own cc nL) : (am_me x).locks = false := h.2.2.2.2.2.1
theorem am_Cx.hK {x : am_X} {own : Nat} {cc : ByteArray} {nL : Nat} (h : am_Cx x own cc nL) : va_K (am_Dg x) vwCl (am_ty (am_c3 x)) (am_s x) := h.2.2.2.2.2.2.1
theorem am_Cx.hT {x : am_X} {own : Nat} {cc : ByteArray} {nL : Nat} (h : am_Cx x own cc nL) : am_T (am_ba x) (am_tt x) (am_s x) := h.2.2.2.2.2.2.2.1
theorem am_Cx.hN {x : am_X} {own : Nat} {cc : ByteArray} {nL : Nat} (h : am_Cx x own cc nL) : am_N (am_s x) := h.2.2.2.2.2.2.2.2
theorem am_mk_inv {L : List (Option Value)} {g : am_G} {w : am_J} {o : Option (List Value)} {r : am_S × Option Prop} (h : am_mk L g w o = some r) : ∃ st', o = some st' ∧ r = ((L, st', g, w), none) := by
  unfold am_mk at h
  split at h
  · cases h; exact ⟨_, rfl, rfl⟩
  · cases h
/-- the address of a cell -/
theorem am_ad_lt {base tt b i n : Nat} (hi : i < n) (hn : n ≤ 98) : am_ad base tt b i = base + i := by
  unfold am_ad
  rw [if_neg (by omega), if_neg (by omega)]
section AMS
variable {x : am_X} {own : Nat} {cc : ByteArray} {nL : Nat} {cs : Nat × Nat} {Q : State → Prop} {pc : Nat} {L L' : List (Option Value)} {st st' : List Value} {y : am_Y} {g g' : am_G} {w w' : am_J}
theorem am_ev_ldi {i : Nat} {r : am_S × Option Prop} (hs : am_ldi L st g w i = some r)
    (kk : ∀ z, L[i]? = some (some (.int z)) → r = ((L, .int z :: st, g, w), none) → am_Ev x nL cs Q pc L st y g w) : am_Ev x nL cs Q pc L st y g w := by
  unfold am_ldi at hs
  split at hs
  · rename_i z hz
    cases hs
    exact kk z hz rfl
  · cases hs
theorem am_in_vp {i : Int32} {n : Nat} (h : am_in i n) : vp_in i n := h
/-- loads -/
theorem am_ldi_ok (C0 : am_Cx x own cc nL) {i n : Nat} {ins : Instr} (hins : (∃ k : Fin 4, ins = .iload_n k ∧ k.val = i ∧ n = 1) ∨ (ins = .iload i ∧ n = 2)) (hdec : decode cc pc = .ok (ins, n)) {r : am_S × Option Prop} (hs : am_ldi L st g w i = some r)
    (kk : am_Ev x nL cs Q (pc + n) r.1.1 r.1.2.1 y r.1.2.2.1 r.1.2.2.2) : am_Ev x nL cs Q pc L st y g w := by
  unfold am_ldi at hs
  split at hs
  · rename_i z hz
    cases hs
    intro H locs ls hP hS hl
    have h1 := hl.2.2.2 i _ hz
    rcases hins with ⟨k, rfl, hk, rfl⟩ | ⟨rfl, rfl⟩
    · exact lv_iload_n C0.hx C0.hb hdec hk h1 (kk H locs ls hP hS hl)
    · exact lv_iload C0.hx C0.hb hdec h1 (kk H locs ls hP hS hl)
  · cases hs
theorem am_ldl_ok (C0 : am_Cx x own cc nL) {i n : Nat} {ins : Instr} (hins : (∃ k : Fin 4, ins = .lload_n k ∧ k.val = i ∧ n = 1) ∨ (ins = .lload i ∧ n = 2)) (hdec : decode cc pc = .ok (ins, n)) {r : am_S × Option Prop} (hs : am_ldl L st g w i = some r)
    (kk : am_Ev x nL cs Q (pc + n) r.1.1 r.1.2.1 y r.1.2.2.1 r.1.2.2.2) : am_Ev x nL cs Q pc L st y g w := by
  unfold am_ldl at hs
  split at hs
  · rename_i z hz
    cases hs
    intro H locs ls hP hS hl
    have h1 := hl.2.2.2 i _ hz
    rcases hins with ⟨k, rfl, hk, rfl⟩ | ⟨rfl, rfl⟩
    · exact lv_lload_n C0.hx C0.hb hdec hk h1 (kk H locs ls hP hS hl)
    · exact lv_lload C0.hx C0.hb hdec h1 (kk H locs ls hP hS hl)
  · cases hs
theorem am_lda_ok (C0 : am_Cx x own cc nL) {i n : Nat} {ins : Instr} (hins : (∃ k : Fin 4, ins = .aload_n k ∧ k.val = i ∧ n = 1) ∨ (ins = .aload i ∧ n = 2)) (hdec : decode cc pc = .ok (ins, n)) {r : am_S × Option Prop} (hs : am_lda L st g w i = some r)
    (kk : am_Ev x nL cs Q (pc + n) r.1.1 r.1.2.1 y r.1.2.2.1 r.1.2.2.2) : am_Ev x nL cs Q pc L st y g w := by
  unfold am_lda at hs
  split at hs
  · rename_i z hz
    cases hs
    intro H locs ls hP hS hl
    have h1 := hl.2.2.2 i _ hz
    rcases hins with ⟨k, rfl, hk, rfl⟩ | ⟨rfl, rfl⟩
    · exact lv_aload_n C0.hx C0.hb hdec hk h1 (kk H locs ls hP hS hl)
    · exact lv_aload C0.hx C0.hb hdec h1 (kk H locs ls hP hS hl)
  · cases hs
theorem am_s1_lt {i : Nat} {v : Value} (h : am_s1 L i v = some L') : i < L.length := by
  unfold am_s1 at h
  split at h
  · assumption
  · cases h
theorem am_s2_lt {i : Nat} {v : Value} (h : am_s2 L i v = some L') : i + 1 < L.length := by
  unfold am_s2 at h
  split at h
  · assumption
  · cases h
theorem am_sti_ok (C0 : am_Cx x own cc nL) {i n : Nat} {ins : Instr} (hins : (∃ k : Fin 4, ins = .istore_n k ∧ k.val = i ∧ n = 1) ∨ (ins = .istore i ∧ n = 2)) (hdec : decode cc pc = .ok (ins, n)) {r : am_S × Option Prop} (hs : am_sti L st g w i = some r)
    (kk : am_Ev x nL cs Q (pc + n) r.1.1 r.1.2.1 y r.1.2.2.1 r.1.2.2.2) : am_Ev x nL cs Q pc L st y g w := by
  unfold am_sti at hs
  split at hs
  · rename_i z r0
    split at hs
    · rename_i L1 hL1
      cases hs
      intro H locs ls hP hS hl
      have hlt : i < nL := Nat.lt_of_lt_of_le (am_s1_lt hL1) hl.2.2.1
      rcases hins with ⟨k, rfl, hk, rfl⟩ | ⟨rfl, rfl⟩
      · exact lv_istore_n C0.hx C0.hb hdec hk hl.has hlt rfl (fun ls2 hl2 => kk H locs ls2 hP hS (am_l.s1 hl.2.2.1 hL1 hl2))
      · exact lv_istore C0.hx C0.hb hdec hl.has hlt rfl (fun ls2 hl2 => kk H locs ls2 hP hS (am_l.s1 hl.2.2.1 hL1 hl2))
    · cases hs
  · cases hs
theorem am_sta_ok (C0 : am_Cx x own cc nL) {i n : Nat} {ins : Instr} (hins : (∃ k : Fin 4, ins = .astore_n k ∧ k.val = i ∧ n = 1) ∨ (ins = .astore i ∧ n = 2)) (hdec : decode cc pc = .ok (ins, n)) {r : am_S × Option Prop} (hs : am_sta L st g w i = some r)
    (kk : am_Ev x nL cs Q (pc + n) r.1.1 r.1.2.1 y r.1.2.2.1 r.1.2.2.2) : am_Ev x nL cs Q pc L st y g w := by
  unfold am_sta at hs
  split at hs
  · rename_i z r0
    split at hs
    · rename_i L1 hL1
      cases hs
      intro H locs ls hP hS hl
      have hlt : i < nL := Nat.lt_of_lt_of_le (am_s1_lt hL1) hl.2.2.1
      rcases hins with ⟨k, rfl, hk, rfl⟩ | ⟨rfl, rfl⟩
      · exact lv_astore_n C0.hx C0.hb hdec hk hl.has hlt rfl (fun ls2 hl2 => kk H locs ls2 hP hS (am_l.s1 hl.2.2.1 hL1 hl2))
      · exact lv_astore C0.hx C0.hb hdec hl.has hlt rfl (fun ls2 hl2 => kk H locs ls2 hP hS (am_l.s1 hl.2.2.1 hL1 hl2))
    · cases hs
  · cases hs
theorem am_stl_ok (C0 : am_Cx x own cc nL) {i n : Nat} {ins : Instr} (hins : (∃ k : Fin 4, ins = .lstore_n k ∧ k.val = i ∧ n = 1) ∨ (ins = .lstore i ∧ n = 2)) (hdec : decode cc pc = .ok (ins, n)) {r : am_S × Option Prop} (hs : am_stl L st g w i = some r)
    (kk : am_Ev x nL cs Q (pc + n) r.1.1 r.1.2.1 y r.1.2.2.1 r.1.2.2.2) : am_Ev x nL cs Q pc L st y g w := by
  unfold am_stl at hs
  split at hs
  · rename_i z r0
    split at hs
    · rename_i L1 hL1
      cases hs
      intro H locs ls hP hS hl
      have hlt : i + 1 < nL := Nat.lt_of_lt_of_le (am_s2_lt hL1) hl.2.2.1
      rcases hins with ⟨k, rfl, hk, rfl⟩ | ⟨rfl, rfl⟩
      · exact lv_lstore_n C0.hx C0.hb hdec hk hl.has hlt rfl (fun ls2 hl2 => kk H locs ls2 hP hS (am_l.s2 hl.2.2.1 hL1 hl2))
      · exact lv_lstore C0.hx C0.hb hdec hl.has hlt rfl (fun ls2 hl2 => kk H locs ls2 hP hS (am_l.s2 hl.2.2.1 hL1 hl2))
    · cases hs
  · cases hs
theorem am_inc_ok (C0 : am_Cx x own cc nL) {i : Nat} {n : Int} {v : Value} (hv : v = .int (Int32.ofInt n)) (hdec : decode cc pc = .ok (.iinc i n, 3)) {r : am_S × Option Prop} (hs : am_inc L st g w i v = some r)
    (kk : am_Ev x nL cs Q (pc + 3) r.1.1 r.1.2.1 y r.1.2.2.1 r.1.2.2.2) : am_Ev x nL cs Q pc L st y g w := by
  subst hv
  unfold am_inc at hs
  split at hs
  · rename_i z hz
    simp only at hs
    split at hs
    · rename_i L1 hL1
      cases hs
      intro H locs ls hP hS hl
      have hlt : i < nL := Nat.lt_of_lt_of_le (am_s1_lt hL1) hl.2.2.1
      obtain ⟨k, hk⟩ := List.getElem?_of_mem (am_as_mem (ad := am_xa x) (L := L) (q := (i, .int z)).mpr ⟨_, hz, rfl⟩)
      exact lv_iinc (v := z + Int32.ofInt n) C0.hx C0.hb hdec hl.has hk rfl hlt rfl (fun ls2 hl2 => kk H locs ls2 hP hS (am_l.s1 hl.2.2.1 hL1 hl2))
    · cases hs
  · cases hs
/-- arrays -/
theorem am_ald_ok (C0 : am_Cx x own cc nL) (hy : y.length ≤ 98) {t : Nat} {ins : Instr} (hins : (t = 0 ∧ ins = .iaload) ∨ (t = 1 ∧ ins = .baload) ∨ (t = 2 ∧ ins = .laload)) (hdec : decode cc pc = .ok (ins, 1)) {r : am_S × Option Prop} (hs : am_ald y t L st g w = some r) (hc : ∀ c, r.2 = some c → c)
    (kk : am_Ev x nL cs Q (pc + 1) r.1.1 r.1.2.1 y r.1.2.2.1 r.1.2.2.2) : am_Ev x nL cs Q pc L st y g w := by
  unfold am_ald at hs
  split at hs
  · rename_i j i r0
    split at hs
    · rename_i t' n hyi
      split at hs
      · rename_i ht
        subst ht
        cases hs
        have hin := hc _ rfl
        have hlt := (List.getElem?_eq_some_iff.mp hyi).1
        intro H locs ls hP hS hl
        have ha := am_ad_lt (base := am_ba x) (tt := am_tt x) (b := am_sc x) hlt hy
        have hw := am_w_at (c3 := am_c3 x) (ad := am_xa x) (base := am_ba x) (g := g) (w := w) hyi
        have k2 := kk H locs ls hP hS hl
        show W _ _ _ _ _ _ _ _ _ _ _ _ _ _ _ (F0 _ _ _ (.int j :: .ref (am_xa x i) :: _))
        rw [show am_xa x i = am_ba x + i from ha]
        rcases hins with ⟨rfl, rfl⟩ | ⟨rfl, rfl⟩ | ⟨rfl, rfl⟩
        · exact va_iald C0.hx C0.hb C0.hK hP.2 i 0 hw rfl hin hdec k2
        · exact va_zald C0.hx C0.hb C0.hK hP.2 i 1 hw rfl hin hdec k2
        · exact va_lald C0.hx C0.hb C0.hK hP.2 i 2 hw rfl hin hdec k2
      · cases hs
    · cases hs
  · cases hs
theorem am_len_ok (C0 : am_Cx x own cc nL) (hy : y.length ≤ 98) (hdec : decode cc pc = .ok (.arraylength, 1)) {r : am_S × Option Prop} (hs : am_len y L st g w = some r)
    (kk : am_Ev x nL cs Q (pc + 1) r.1.1 r.1.2.1 y r.1.2.2.1 r.1.2.2.2) : am_Ev x nL cs Q pc L st y g w := by
  unfold am_len at hs
  split at hs
  · rename_i i r0
    split at hs
    · rename_i t n hyi
      cases hs
      have hlt := (List.getElem?_eq_some_iff.mp hyi).1
      intro H locs ls hP hS hl
      have ha := am_ad_lt (base := am_ba x) (tt := am_tt x) (b := am_sc x) hlt hy
      have hw := am_w_at (c3 := am_c3 x) (ad := am_xa x) (base := am_ba x) (g := g) (w := w) hyi
      have k2 := kk H locs ls hP hS hl
      show W _ _ _ _ _ _ _ _ _ _ _ _ _ _ _ (F0 _ _ _ (.ref (am_xa x i) :: _))
      rw [show am_xa x i = am_ba x + i from ha]
      match t with
      | 0 => exact va_alen C0.hx C0.hb C0.hK hP.2 i 0 hw (ty := .int) rfl rfl hdec k2
      | 1 => exact va_alen C0.hx C0.hb C0.hK hP.2 i 1 hw (ty := .boolean) rfl rfl hdec k2
      | (t + 2) => exact va_alen C0.hx C0.hb C0.hK hP.2 i 2 hw (ty := .long) rfl rfl hdec k2
    · cases hs
  · cases hs
theorem am_P.put {D : va_G} {c3 : ClassId × ClassId × ClassId} {base tt b i : Nat} {sh : am_Sh} {e : va_E} {H H1 : Heap} (h0 : am_P D c3 base tt b y g w H) (hz : H1.size = H.size) (hP : va_P D vwCl ((am_w c3 (am_ad base tt b) base y g w).set i (base + i, e)) H1) (hi : y[i]? = some sh) (hg : ∀ a, a ≠ i → g' a = g a) (hw : ∀ a, a ≠ i → w' a = w a) (he : e = am_e c3 (am_ad base tt b) g' w' i sh) : am_P D c3 base tt b y g' w' H1 := by
  refine ⟨hz.trans h0.1, ?_⟩
  rw [am_w_set hi hg hw he] at hP
  exact hP
end AMS
end
section
/-! STORES: the kit's rows for stores once more, with the heap's size in the end -/
section AMT
variable {p : Program} {l : Launch} {e : Env} {R : Room} {s : State} {m : MethodId} {args : Array Value} {below : List Frame} {meth : Method} {c : Code} {H : Heap} {locs : List Loc} {cells slots : Nat} {Q : State → Prop}
variable {cc : ByteArray} {pc : Nat} {ls : Array Slot} {rest : List Value} {D : va_G} {cl : List vw_C} {A : Nat → Prop} {a : Nat} {tys : List (ClassId × FieldType)} {ws : va_W} {H0 : Heap}
theorem am_iastW (hexec : p.tables.exec = Jvm.exec) (hb : c.code = cc) (hK : va_K D cl tys s) (hP : va_P D cl ws H) (hD : va_D A ws) (hS : va_S A H0 H locs) (q0 t0 : Nat) {cA : ClassId} {n : Nat} {f : Nat → Int32} (ha : ws[q0]? = some (a, .inl (cA, n, .inl f))) (ht : tys[t0]? = some (cA, .int)) {i : Int32} {x : Int32} (hin : vp_in i n) (hdg : decode cc pc = .ok (.iastore, 1))
    (kk : ∀ (H1 : Heap) (locs1 : List Loc), H1.size = H.size → va_P D cl (ws.set q0 (a, .inl (cA, n, .inl (upd f i.toNatClampNeg x)))) H1 → va_S A H0 H1 locs1 → W p l e R s m args below meth c H1 locs1 cells slots Q (F0 m (pc + 1) ls rest)) : W p l e R s m args below meth c H locs cells slots Q (F0 m pc ls (.int x :: .int i :: .ref a :: rest)) := by
  refine W.iast hexec hb (hP q0 _ ha) ((hK.2 t0 _ ht).1 n (fun j => .int (f j))) (fun q => by cases q) (by show ¬ (i < 0 ∨ (arrV _ _ _).slots.size ≤ _); rw [arrV_size]; exact hin) rfl rfl hdg fun H1 e z oq => ?_
  refine kk H1 _ z (hP.set hD ha ?_ oq) (hS.put z oq (hD.2 q0 _ ha))
  show H1[a]? = some (vp_cell _ _)
  rw [e]
  rw [vp_cell_i, vp_cell_i, arrV_store]
  congr 2
  funext q
  by_cases hq : q = i.toNatClampNeg
  · subst hq
    simp [updV, upd]
  · simp [updV, upd, hq]
theorem am_zastW (hexec : p.tables.exec = Jvm.exec) (hb : c.code = cc) (hK : va_K D cl tys s) (hP : va_P D cl ws H) (hD : va_D A ws) (hS : va_S A H0 H locs) (q0 t0 : Nat) {cA : ClassId} {n : Nat} {f : Nat → Int32} (ha : ws[q0]? = some (a, .inl (cA, n, .inl f))) (ht : tys[t0]? = some (cA, .boolean)) {i : Int32} {x : Int32} (hin : vp_in i n) (hdg : decode cc pc = .ok (.bastore, 1))
    (kk : ∀ (H1 : Heap) (locs1 : List Loc), H1.size = H.size → va_P D cl (ws.set q0 (a, .inl (cA, n, .inl (upd f i.toNatClampNeg (vp_nar .boolean x))))) H1 → va_S A H0 H1 locs1 → W p l e R s m args below meth c H1 locs1 cells slots Q (F0 m (pc + 1) ls rest)) : W p l e R s m args below meth c H locs cells slots Q (F0 m pc ls (.int x :: .int i :: .ref a :: rest)) := by
  refine W.zast hexec hb (hP q0 _ ha) ((hK.2 t0 _ ht).1 n (fun j => .int (f j))) (fun q => by cases q) (by show ¬ (i < 0 ∨ (arrV _ _ _).slots.size ≤ _); rw [arrV_size]; exact hin) rfl rfl hdg fun H1 e z oq => ?_
  refine kk H1 _ z (hP.set hD ha ?_ oq) (hS.put z oq (hD.2 q0 _ ha))
  show H1[a]? = some (vp_cell _ _)
  rw [e]
  rw [vp_cell_i, vp_cell_i, arrV_store]
  congr 2
  funext q
  by_cases hq : q = i.toNatClampNeg
  · subst hq
    simp [updV, upd, vp_nar]
    try rfl
  · simp [updV, upd, hq]
theorem am_lastW (hexec : p.tables.exec = Jvm.exec) (hb : c.code = cc) (hK : va_K D cl tys s) (hP : va_P D cl ws H) (hD : va_D A ws) (hS : va_S A H0 H locs) (q0 t0 : Nat) {cA : ClassId} {n : Nat} {f : Nat → Int64} (ha : ws[q0]? = some (a, .inl (cA, n, .inr (.inl f)))) (ht : tys[t0]? = some (cA, .long)) {i : Int32} {x : Int64} (hin : vp_in i n) (hdg : decode cc pc = .ok (.lastore, 1))
    (kk : ∀ (H1 : Heap) (locs1 : List Loc), H1.size = H.size → va_P D cl (ws.set q0 (a, .inl (cA, n, .inr (.inl (vp_updL f i.toNatClampNeg x))))) H1 → va_S A H0 H1 locs1 → W p l e R s m args below meth c H1 locs1 cells slots Q (F0 m (pc + 1) ls rest)) : W p l e R s m args below meth c H locs cells slots Q (F0 m pc ls (.long x :: .int i :: .ref a :: rest)) := by
  refine W.last hexec hb (hP q0 _ ha) ((hK.2 t0 _ ht).1 n (fun j => .long (f j))) (fun q => by cases q) (by show ¬ (i < 0 ∨ (arrV _ _ _).slots.size ≤ _); rw [arrV_size]; exact hin) rfl rfl hdg fun H1 e z oq => ?_
  refine kk H1 _ z (hP.set hD ha ?_ oq) (hS.put z oq (hD.2 q0 _ ha))
  show H1[a]? = some (vp_cell _ _)
  rw [e]
  rw [vp_cell_l, vp_cell_l, arrV_store]
  congr 2
  funext q
  by_cases hq : q = i.toNatClampNeg
  · subst hq
    simp [updV, vp_updL]
  · simp [updV, vp_updL, hq]
theorem am_putW (hexec : p.tables.exec = Jvm.exec) (hb : c.code = cc) {own ref C : String} {T : u_T} {N ci index : Nat} {Ts : List Cond} (hts : ∀ w ∈ Ts, w.before args s = true) (hin : ∀ w ∈ u_ws C T N, w ∈ Ts) (ty0 : Nat → FieldType) (hty : ∀ k, k < N → parseFieldDescriptor (T k).2.2.1 = some (ty0 k)) (hnm : ∀ a, a < N → ∀ b, b < N → a ≠ b → (T a).2.1 ≠ (T b).2.1) (hown : s.vm.findClass own = some m.cls) (hK : va_K D cl tys s) (hP : va_P D cl ws H) (hD : va_D A ws) (hS0 : va_S A H0 H locs) (q0 : Nat) {fs : List Value} (he : ws[q0]? = some (a, .inr (ci, fs))) (hc : cl[ci]? = some (C, T, N)) (k : Nat) (hk : k < N) (hlink : (Cond.fieldLink own index ref (T k).2.1 (T k).2.2.1).before args s = true) (hsame : ∀ x, s.fieldFound? (T k).1 (T k).2.1 (T k).2.2.1 = some x → s.fieldFound? ref (T k).2.1 (T k).2.2.1 = some x) (hfin : (T k).2.2.2 = false) {ty : FieldType} {v : Value} (hd : parseFieldDescriptor (T k).2.2.1 = some ty) (hn : narrow ty v = v) (hfit : fits ty v = true) (hl : k < fs.length)
    (hdg : decode cc pc = .ok (.putfield index, 3)) (kk : ∀ (H1 : Heap) (locs1 : List Loc), H1.size = H.size → va_P D cl (ws.set q0 (a, .inr (ci, fs.set k v))) H1 → va_S A H0 H1 locs1 → W p l e R s m args below meth c H1 locs1 cells slots Q (F0 m (pc + 3) ls rest)) : W p l e R s m args below meth c H locs cells slots Q (F0 m pc ls (v :: .ref a :: rest)) := by
  have hap := va_apart (own := own) hts hin ty0 hty hnm hK hc
  obtain ⟨r, h1, cell, q1, q2, q3, q4⟩ := hP q0 _ he
  have hr : r = (C, T, N) := Option.some.inj (h1.symm.trans hc)
  subst hr
  obtain ⟨hS, hfc, kC, hkC, hkind⟩ := hK.1 ci _ hc
  obtain ⟨cf, kf, fi, f, hi, hsl⟩ := hS k hk
  have hlay := hts _ (hin _ (u_in_lay hk))
  unfold u_lay at hlay
  rw [if_neg (by rw [hfin]; decide)] at hlay
  have hst := (u_facts hfc hkC (u_lays hts hin hk) hi).1
  have h6 := u_store hfc hkC hkind hlay hi hd hn hfit
  refine W.putK hexec hb (f := f) ⟨hown, hlink, ⟨_, _, _, hsame _ hi⟩, hst⟩ (by rw [q2]; exact h6) q1 q3 (by rw [hsl]; exact k2_hasslot (q4 k hk)) rfl rfl hdg fun H' e1 e2 e3 => ?_
  rw [hsl] at e1 ⊢
  exact kk H' _ e2 (hP.set hD he ⟨_, hc, t_OB.to (V := updV (vp_V fs) k v) ⟨_, e1, q2, q3, t_set q4 hap hk v⟩ (fun j _ => vp_updV_set hl v j)⟩ e3) (hS0.put e2 e3 (hD.2 q0 _ he))
theorem am_putFW (hexec : p.tables.exec = Jvm.exec) (hb : c.code = cc) {own ref C : String} {T : u_T} {N ci index : Nat} {Ts : List Cond} (hts : ∀ w ∈ Ts, w.before args s = true) (hin : ∀ w ∈ u_ws C T N, w ∈ Ts) (ty0 : Nat → FieldType) (hty : ∀ k, k < N → parseFieldDescriptor (T k).2.2.1 = some (ty0 k)) (hnm : ∀ a, a < N → ∀ b, b < N → a ≠ b → (T a).2.1 ≠ (T b).2.1) (hown : s.vm.findClass own = some m.cls) (hK : va_K D cl tys s) (hP : va_P D cl ws H) (hD : va_D A ws) (hS0 : va_S A H0 H locs) (q0 : Nat) {fs : List Value} (he : ws[q0]? = some (a, .inr (ci, fs))) (hc : cl[ci]? = some (C, T, N)) (k : Nat) (hk : k < N) (hlink : (Cond.fieldLink own index ref (T k).2.1 (T k).2.2.1).before args s = true) (hsame : ∀ x, s.fieldFound? (T k).1 (T k).2.1 (T k).2.2.1 = some x → s.fieldFound? ref (T k).2.1 (T k).2.2.1 = some x) (hfin : (T k).2.2.2 = true) (hin2 : meth.name = "<init>") (hdecl : (T k).1 = own) {ty : FieldType} {v : Value} (hd : parseFieldDescriptor (T k).2.2.1 = some ty) (hn : narrow ty v = v) (hfit : fits ty v = true) (hl : k < fs.length)
    (hdg : decode cc pc = .ok (.putfield index, 3)) (kk : ∀ (H1 : Heap) (locs1 : List Loc), H1.size = H.size → va_P D cl (ws.set q0 (a, .inr (ci, fs.set k v))) H1 → va_S A H0 H1 locs1 → W p l e R s m args below meth c H1 locs1 cells slots Q (F0 m (pc + 3) ls rest)) : W p l e R s m args below meth c H locs cells slots Q (F0 m pc ls (v :: .ref a :: rest)) := by
  have hap := va_apart (own := own) hts hin ty0 hty hnm hK hc
  obtain ⟨r, h1, cell, q1, q2, q3, q4⟩ := hP q0 _ he
  have hr : r = (C, T, N) := Option.some.inj (h1.symm.trans hc)
  subst hr
  obtain ⟨hS, hfc, kC, hkC, hkind⟩ := hK.1 ci _ hc
  obtain ⟨cf, kf, fi, f, hi, hsl⟩ := hS k hk
  have hlay := hts _ (hin _ (u_in_lay hk))
  unfold u_lay at hlay
  rw [if_pos hfin] at hlay
  have hst := (u_facts hfc hkC (u_lays hts hin hk) hi).1
  have hcf : m.cls = cf := by
    obtain ⟨_, _, c', _, _, _, -, -, hf', -, -, -, hown2, -⟩ := Cond.laysFinal_spec hlay
    have e1 : c' = cf := by have := hi.symm.trans hf'; simp at this; exact this.1.symm
    rw [hdecl] at hown2
    rw [← e1]; exact Option.some.inj (hown.symm.trans hown2)
  have h6 := u_fits hfc hkC hkind (Or.inr hlay) hi hd hn hfit
  refine W.putFinK hexec hb hown hlink (hsame _ hi) hst hcf hin2 (by rw [q2]; exact h6) q1 q3 (by rw [hsl]; exact k2_hasslot (q4 k hk)) rfl rfl hdg fun H' e1 e2 e3 => ?_
  rw [hsl] at e1 ⊢
  exact kk H' _ e2 (hP.set hD he ⟨_, hc, t_OB.to (V := updV (vp_V fs) k v) ⟨_, e1, q2, q3, t_set q4 hap hk v⟩ (fun j _ => vp_updV_set hl v j)⟩ e3) (hS0.put e2 e3 (hD.2 q0 _ he))
end AMT
section AMU
variable {x : am_X} {own : Nat} {cc : ByteArray} {nL : Nat} {cs : Nat × Nat} {Q : State → Prop} {pc : Nat} {L L' : List (Option Value)} {st st' : List Value} {y : am_Y} {g g' : am_G} {w w' : am_J}
theorem am_u_self (g : am_G) (i j : Nat) (v : Int32) : am_u g i j v i = upd (g i) j v := by simp [am_u]
theorem am_ul_self (w : am_J) (i j : Nat) (v : Int64) : am_ul w i j v i = vp_updL (w i) j v := by simp [am_ul]
theorem am_ast_ok (C0 : am_Cx x own cc nL) (hy : y.length ≤ 98) {t : Nat} {nf : Int32 → Int32} {ins : Instr} (hins : (t = 0 ∧ ins = .iastore ∧ nf = fun v => v) ∨ (t = 1 ∧ ins = .bastore ∧ nf = fun v => vp_nar .boolean v)) (hdec : decode cc pc = .ok (ins, 1)) {r : am_S × Option Prop} (hs : am_ast y t nf L st g w = some r) (hc : ∀ c, r.2 = some c → c)
    (kk : am_Ev x nL cs Q (pc + 1) r.1.1 r.1.2.1 y r.1.2.2.1 r.1.2.2.2) : am_Ev x nL cs Q pc L st y g w := by
  unfold am_ast at hs
  split at hs
  · rename_i v j i r0
    split at hs
    · rename_i t' n hyi
      split at hs
      · rename_i ht
        subst ht
        cases hs
        have hin := hc _ rfl
        have hlt := (List.getElem?_eq_some_iff.mp hyi).1
        intro H locs ls hP hS hl
        have ha := am_ad_lt (base := am_ba x) (tt := am_tt x) (b := am_sc x) hlt hy
        have hw := am_w_at (c3 := am_c3 x) (ad := am_xa x) (base := am_ba x) (g := g) (w := w) hyi
        show W _ _ _ _ _ _ _ _ _ _ _ _ _ _ _ (F0 _ _ _ (.int v :: .int j :: .ref (am_xa x i) :: _))
        rw [show am_xa x i = am_ba x + i from ha]
        rcases hins with ⟨rfl, rfl, rfl⟩ | ⟨rfl, rfl, rfl⟩
        · refine am_iastW C0.hx C0.hb C0.hK hP.2 am_D hS i 0 hw rfl hin hdec (fun H1 locs1 z hP1 hS1 => kk H1 locs1 ls (hP.put z hP1 hyi am_u_ne (fun _ _ => rfl) ?_) hS1 hl)
          simp [am_e, am_u_self]
        · refine am_zastW C0.hx C0.hb C0.hK hP.2 am_D hS i 1 hw rfl hin hdec (fun H1 locs1 z hP1 hS1 => kk H1 locs1 ls (hP.put z hP1 hyi am_u_ne (fun _ _ => rfl) ?_) hS1 hl)
          simp [am_e, am_u_self]
      · cases hs
    · cases hs
  · cases hs
theorem am_lst_ok (C0 : am_Cx x own cc nL) (hy : y.length ≤ 98) (hdec : decode cc pc = .ok (.lastore, 1)) {r : am_S × Option Prop} (hs : am_lst y L st g w = some r) (hc : ∀ c, r.2 = some c → c)
    (kk : am_Ev x nL cs Q (pc + 1) r.1.1 r.1.2.1 y r.1.2.2.1 r.1.2.2.2) : am_Ev x nL cs Q pc L st y g w := by
  unfold am_lst at hs
  split at hs
  · rename_i v j i r0
    split at hs
    · rename_i n hyi
      cases hs
      have hin := hc _ rfl
      have hlt := (List.getElem?_eq_some_iff.mp hyi).1
      intro H locs ls hP hS hl
      have ha := am_ad_lt (base := am_ba x) (tt := am_tt x) (b := am_sc x) hlt hy
      have hw := am_w_at (c3 := am_c3 x) (ad := am_xa x) (base := am_ba x) (g := g) (w := w) hyi
      show W _ _ _ _ _ _ _ _ _ _ _ _ _ _ _ (F0 _ _ _ (.long v :: .int j :: .ref (am_xa x i) :: _))
      rw [show am_xa x i = am_ba x + i from ha]
      refine am_lastW C0.hx C0.hb C0.hK hP.2 am_D hS i 2 hw rfl hin hdec (fun H1 locs1 z hP1 hS1 => kk H1 locs1 ls (hP.put z hP1 hyi (fun _ _ => rfl) am_ul_ne ?_) hS1 hl)
      simp [am_e, am_ul_self]
    · cases hs
  · cases hs
theorem am_gf_ok (C0 : am_Cx x own cc nL) (hy : y.length ≤ 98) {ci k idx : Nat} (hf : am_flb own idx ci k = true) (hdec : decode cc pc = .ok (.getfield idx, 3)) {r : am_S × Option Prop} (hs : am_gf y ci k L st g w = some r)
    (kk : am_Ev x nL cs Q (pc + 3) r.1.1 r.1.2.1 y r.1.2.2.1 r.1.2.2.2) : am_Ev x nL cs Q pc L st y g w := by
  unfold am_gf at hs
  split at hs
  · rename_i i r0
    split at hs
    · rename_i c ks hyi
      split at hs
      · rename_i hc
        subst hc
        split at hs
        · rename_i d hd
          cases hs
          obtain ⟨h1, h2, h3⟩ := am_flb_ok hf
          have hlt := (List.getElem?_eq_some_iff.mp hyi).1
          intro H locs ls hP hS hl
          have ha := am_ad_lt (base := am_ba x) (tt := am_tt x) (b := am_sc x) hlt hy
          have hw := am_w_at (c3 := am_c3 x) (ad := am_xa x) (base := am_ba x) (g := g) (w := w) hyi
          show W _ _ _ _ _ _ _ _ _ _ _ _ _ _ _ (F0 _ _ _ (.ref (am_xa x i) :: _))
          rw [show am_xa x i = am_ba x + i from ha]
          exact va_get C0.hx C0.hb C0.hts (am_wic c h1) C0.hown C0.hK hP.2 i hw (am_clc c h1) k h2 (C0.hts _ h3) (fun _ h9 => h9) (am_fs_at hd) hdec (kk H locs ls hP hS hl)
        · cases hs
      · cases hs
    · cases hs
  · cases hs
theorem am_fs_len {ad : Nat → Nat} {i : Nat} {ks : List am_Kd} : (am_fs ad g w i ks).length = ks.length := by simp [am_fs]
theorem am_fs_set {ad : Nat → Nat} {i k : Nat} {ks : List am_Kd} {d : am_Kd} {v : Value} (hd : ks[k]? = some d) (hv : v = am_v ad (am_fv g' w' i k d)) (hg : ∀ j, j ≠ k → g' i j = g i j) (hw : ∀ j, j ≠ k → w' i j = w i j) : (am_fs ad g w i ks).set k v = am_fs ad g' w' i ks := by
  have hl := (List.getElem?_eq_some_iff.mp hd).1
  apply List.ext_getElem?
  intro j
  by_cases hj : j = k
  · subst hj
    rw [List.getElem?_set_self (by rw [am_fs_len]; exact hl), am_fs_at hd, hv]
  · rw [List.getElem?_set_ne (Ne.symm hj)]
    cases h : ks[j]? with
    | none =>
      have h1 : ks.length ≤ j := by simpa using h
      rw [List.getElem?_eq_none (by rw [am_fs_len]; exact h1), List.getElem?_eq_none (by rw [am_fs_len]; exact h1)]
    | some d2 =>
      rw [am_fs_at h, am_fs_at h]
      match d2 with
      | .inl 0 => simp [am_fv, hg j hj]
      | .inl (z + 1) => simp [am_fv, hw j hj]
      | .inr none => rfl
      | .inr (some r) => rfl
theorem am_pf_ok (C0 : am_Cx x own cc nL) (hy : y.length ≤ 98) {ci k idx : Nat} (hf : am_flb own idx ci k = true) (hwr : am_wr ci k = true) (hdec : decode cc pc = .ok (.putfield idx, 3)) {r : am_S × Option Prop} (hs : am_pf y ci k L st g w = some r)
    (kk : am_Ev x nL cs Q (pc + 3) r.1.1 r.1.2.1 y r.1.2.2.1 r.1.2.2.2) (hty : ∀ (i : Nat) (ks : List am_Kd), y[i]? = some (Sum.inr (ci, ks)) → (ks[k]? = some (Sum.inl 0) → am_yc ci k = .int) ∧ (ks[k]? = some (Sum.inl 1) → am_yc ci k = .long)) : am_Ev x nL cs Q pc L st y g w := by
  obtain ⟨h1, h2, h3⟩ := am_flb_ok hf
  simp only [am_wr, Bool.and_eq_true, Bool.not_eq_true'] at hwr
  unfold am_pf at hs
  split at hs
  · rename_i z i r0
    unfold am_pfi at hs
    split at hs
    · rename_i c ks hyi
      split at hs
      · rename_i hc
        subst hc
        split at hs
        · rename_i hd
          cases hs
          have hlt := (List.getElem?_eq_some_iff.mp hyi).1
          have hyc := (hty i ks hyi).1 hd
          intro H locs ls hP hS hl
          have ha := am_ad_lt (base := am_ba x) (tt := am_tt x) (b := am_sc x) hlt hy
          have hw := am_w_at (c3 := am_c3 x) (ad := am_xa x) (base := am_ba x) (g := g) (w := w) hyi
          show W _ _ _ _ _ _ _ _ _ _ _ _ _ _ _ (F0 _ _ _ (.int z :: .ref (am_xa x i) :: _))
          rw [show am_xa x i = am_ba x + i from ha]
          refine am_putW C0.hx C0.hb C0.hts (am_wic c h1) (am_yc c) (am_tyc c h1) (am_nmc c h1) C0.hown C0.hK hP.2 am_D hS i hw (am_clc c h1) k h2 (C0.hts _ h3) (fun _ h9 => h9) hwr.1 (am_tyc c h1 k h2) (by rw [hyc]; rfl) (by rw [hyc]; rfl) (by rw [am_fs_len]; exact (List.getElem?_eq_some_iff.mp hd).1) hdec (fun H1 locs1 hz hP1 hS1 => kk H1 locs1 ls (hP.put hz hP1 hyi am_u_ne (fun _ _ => rfl) ?_) hS1 hl)
          show (Sum.inr (c, _) : va_E) = Sum.inr (c, _)
          rw [am_fs_set (g' := am_u g i k z) (w' := w) hd (by simp [am_fv, am_v, am_u_at]) (fun j hj => by simp [am_u_at, hj]) (fun _ _ => rfl)]
        · cases hs
      · cases hs
    · cases hs
  · rename_i z i r0
    unfold am_pfl at hs
    split at hs
    · rename_i c ks hyi
      split at hs
      · rename_i hc
        subst hc
        split at hs
        · rename_i hd
          cases hs
          have hlt := (List.getElem?_eq_some_iff.mp hyi).1
          have hyc := (hty i ks hyi).2 hd
          intro H locs ls hP hS hl
          have ha := am_ad_lt (base := am_ba x) (tt := am_tt x) (b := am_sc x) hlt hy
          have hw := am_w_at (c3 := am_c3 x) (ad := am_xa x) (base := am_ba x) (g := g) (w := w) hyi
          show W _ _ _ _ _ _ _ _ _ _ _ _ _ _ _ (F0 _ _ _ (.long z :: .ref (am_xa x i) :: _))
          rw [show am_xa x i = am_ba x + i from ha]
          refine am_putW C0.hx C0.hb C0.hts (am_wic c h1) (am_yc c) (am_tyc c h1) (am_nmc c h1) C0.hown C0.hK hP.2 am_D hS i hw (am_clc c h1) k h2 (C0.hts _ h3) (fun _ h9 => h9) hwr.1 (am_tyc c h1 k h2) (by rw [hyc]; rfl) (by rw [hyc]; rfl) (by rw [am_fs_len]; exact (List.getElem?_eq_some_iff.mp hd).1) hdec (fun H1 locs1 hz hP1 hS1 => kk H1 locs1 ls (hP.put hz hP1 hyi (fun _ _ => rfl) am_ul_ne ?_) hS1 hl)
          show (Sum.inr (c, _) : va_E) = Sum.inr (c, _)
          rw [am_fs_set (g' := g) (w' := am_ul w i k z) hd (by simp [am_fv, am_v, am_ul_at]) (fun _ _ => rfl) (fun j hj => by simp [am_ul_at, hj])]
        · cases hs
      · cases hs
    · cases hs
  · cases hs
end AMU
end
section
/-! STRAIGHT RUNS -/
def am_yk (y : am_Y) : Bool := decide (y.length ≤ 98) && y.all (fun sh => match sh with
  | .inr (ci, ks) => ks.zipIdx.all (fun q => match q.1 with
    | .inl 0 => decide (am_yc ci q.2 = .int)
    | .inl 1 => decide (am_yc ci q.2 = .long)
    | _ => true)
  | _ => true)
theorem am_yk_len {y : am_Y} (h : am_yk y = true) : y.length ≤ 98 := by
  simp only [am_yk, Bool.and_eq_true, decide_eq_true_eq] at h
  exact h.1
theorem am_yk_ty {y : am_Y} (h : am_yk y = true) {ci k : Nat} : ∀ (i : Nat) (ks : List am_Kd), y[i]? = some (Sum.inr (ci, ks)) → (ks[k]? = some (Sum.inl 0) → am_yc ci k = .int) ∧ (ks[k]? = some (Sum.inl 1) → am_yc ci k = .long) := by
  simp only [am_yk, Bool.and_eq_true, decide_eq_true_eq] at h
  intro i ks hi
  have h1 := List.all_eq_true.mp h.2 _ (List.mem_of_getElem? hi)
  simp only at h1
  refine ⟨fun hk => ?_, fun hk => ?_⟩
  · have h2 := List.all_eq_true.mp h1 (Sum.inl 0, k) (List.mem_zipIdx_iff_getElem?.mpr hk)
    simpa using h2
  · have h2 := List.all_eq_true.mp h1 (Sum.inl 1, k) (List.mem_zipIdx_iff_getElem?.mpr hk)
    simpa using h2
section AMB
variable {x : am_X} {own : Nat} {cc : ByteArray} {nL : Nat} {cs : Nat × Nat} {Q : State → Prop} {pc : Nat} {L L' : List (Option Value)} {st st' : List Value} {y : am_Y} {g g' : am_G} {w w' : am_J}
theorem am_c1_cat {v : Value} (h : am_c1 v = true) : v.category = 1 := by
  cases v <;> first | rfl | (simp [am_c1] at h)
set_option maxHeartbeats 4000000 in
theorem am_one (C0 : am_Cx x own cc nL) (hy : am_yk y = true) (a : am_AI) (hdec : decode cc pc = .ok (a.1, am_ln a.1)) (hok : am_ok own a = true) {r : am_S × Option Prop} (hs : am_st y a L st g w = some r) (hc : ∀ c, r.2 = some c → c)
    (kk : am_Ev x nL cs Q (pc + am_ln a.1) r.1.1 r.1.2.1 y r.1.2.2.1 r.1.2.2.2) : am_Ev x nL cs Q pc L st y g w := by
  have hyl := am_yk_len hy
  obtain ⟨ins, ci, k, v⟩ := a
  have hx := C0.hx
  have hb := C0.hb
  cases ins <;> first | (cases hs; done) | skip
  case iconst n =>
    cases hs
    have hv : v = .int (Int32.ofInt n) := of_decide_eq_true hok
    subst hv
    exact fun H locs ls hP hS hl => lv_iconst hx hb hdec rfl (kk H locs ls hP hS hl)
  case bipush n =>
    cases hs
    have hv : v = .int (Int8.ofInt n).toInt32 := of_decide_eq_true hok
    subst hv
    exact fun H locs ls hP hS hl => lv_bipush hx hb hdec rfl (kk H locs ls hP hS hl)
  case sipush n =>
    cases hs
    have hv : v = .int (Int16.ofInt n).toInt32 := of_decide_eq_true hok
    subst hv
    exact fun H locs ls hP hS hl => lv_sipush hx hb hdec rfl (kk H locs ls hP hS hl)
  case lconst n =>
    cases hs
    have hv : v = .long (Int64.ofNat n.val) := of_decide_eq_true hok
    subst hv
    exact fun H locs ls hP hS hl => lv_lconst hx hb hdec rfl (kk H locs ls hP hS hl)
  case ldc_w idx =>
    cases hs
    obtain ⟨z, hz, hm⟩ := am_kcb_ok hok
    have hz : v = .int z := hz
    subst hz
    exact fun H locs ls hP hS hl => lv_ldcw hx hb C0.hown (C0.hts _ hm) hdec (kk H locs ls hP hS hl)
  case ldc2_w idx =>
    cases hs
    obtain ⟨z, hz, hm⟩ := am_klb_ok hok
    have hz : v = .long z := hz
    subst hz
    exact fun H locs ls hP hS hl => lv_ldc2 hx hb C0.hown (C0.hts _ hm) hdec (kk H locs ls hP hS hl)
  case iload_n i => exact am_ldi_ok C0 (Or.inl ⟨i, rfl, rfl, rfl⟩) hdec hs kk
  case iload i => exact am_ldi_ok C0 (Or.inr ⟨rfl, rfl⟩) hdec hs kk
  case lload_n i => exact am_ldl_ok C0 (Or.inl ⟨i, rfl, rfl, rfl⟩) hdec hs kk
  case lload i => exact am_ldl_ok C0 (Or.inr ⟨rfl, rfl⟩) hdec hs kk
  case aload_n i => exact am_lda_ok C0 (Or.inl ⟨i, rfl, rfl, rfl⟩) hdec hs kk
  case aload i => exact am_lda_ok C0 (Or.inr ⟨rfl, rfl⟩) hdec hs kk
  case istore_n i => exact am_sti_ok C0 (Or.inl ⟨i, rfl, rfl, rfl⟩) hdec hs kk
  case istore i => exact am_sti_ok C0 (Or.inr ⟨rfl, rfl⟩) hdec hs kk
  case lstore_n i => exact am_stl_ok C0 (Or.inl ⟨i, rfl, rfl, rfl⟩) hdec hs kk
  case lstore i => exact am_stl_ok C0 (Or.inr ⟨rfl, rfl⟩) hdec hs kk
  case astore_n i => exact am_sta_ok C0 (Or.inl ⟨i, rfl, rfl, rfl⟩) hdec hs kk
  case astore i => exact am_sta_ok C0 (Or.inr ⟨rfl, rfl⟩) hdec hs kk
  case iinc i n => exact am_inc_ok C0 (of_decide_eq_true hok) hdec hs kk
  case iadd => obtain ⟨s1, h1, rfl⟩ := am_mk_inv hs; obtain ⟨a, b, r, rfl, rfl⟩ := am_b_inv h1; exact fun H locs ls hP hS hl => lv_iadd hx hb hdec (kk H locs ls hP hS hl)
  case isub => obtain ⟨s1, h1, rfl⟩ := am_mk_inv hs; obtain ⟨a, b, r, rfl, rfl⟩ := am_b_inv h1; exact fun H locs ls hP hS hl => lv_isub hx hb hdec (kk H locs ls hP hS hl)
  case imul => obtain ⟨s1, h1, rfl⟩ := am_mk_inv hs; obtain ⟨a, b, r, rfl, rfl⟩ := am_b_inv h1; exact fun H locs ls hP hS hl => lv_imul hx hb hdec (kk H locs ls hP hS hl)
  case iand => obtain ⟨s1, h1, rfl⟩ := am_mk_inv hs; obtain ⟨a, b, r, rfl, rfl⟩ := am_b_inv h1; exact fun H locs ls hP hS hl => lv_iand hx hb hdec (kk H locs ls hP hS hl)
  case ior => obtain ⟨s1, h1, rfl⟩ := am_mk_inv hs; obtain ⟨a, b, r, rfl, rfl⟩ := am_b_inv h1; exact fun H locs ls hP hS hl => lv_ior hx hb hdec (kk H locs ls hP hS hl)
  case ixor => obtain ⟨s1, h1, rfl⟩ := am_mk_inv hs; obtain ⟨a, b, r, rfl, rfl⟩ := am_b_inv h1; exact fun H locs ls hP hS hl => lv_ixor hx hb hdec (kk H locs ls hP hS hl)
  case ishl => obtain ⟨s1, h1, rfl⟩ := am_mk_inv hs; obtain ⟨a, b, r, rfl, rfl⟩ := am_b_inv h1; exact fun H locs ls hP hS hl => lv_ishl hx hb hdec (kk H locs ls hP hS hl)
  case ishr => obtain ⟨s1, h1, rfl⟩ := am_mk_inv hs; obtain ⟨a, b, r, rfl, rfl⟩ := am_b_inv h1; exact fun H locs ls hP hS hl => lv_ishr hx hb hdec (kk H locs ls hP hS hl)
  case iushr => obtain ⟨s1, h1, rfl⟩ := am_mk_inv hs; obtain ⟨a, b, r, rfl, rfl⟩ := am_b_inv h1; exact fun H locs ls hP hS hl => lv_iushr hx hb hdec rfl (kk H locs ls hP hS hl)
  case ladd => obtain ⟨s1, h1, rfl⟩ := am_mk_inv hs; obtain ⟨a, b, r, rfl, rfl⟩ := am_bl_inv h1; exact fun H locs ls hP hS hl => lv_ladd hx hb hdec (kk H locs ls hP hS hl)
  case lsub => obtain ⟨s1, h1, rfl⟩ := am_mk_inv hs; obtain ⟨a, b, r, rfl, rfl⟩ := am_bl_inv h1; exact fun H locs ls hP hS hl => lv_lsub hx hb hdec (kk H locs ls hP hS hl)
  case lmul => obtain ⟨s1, h1, rfl⟩ := am_mk_inv hs; obtain ⟨a, b, r, rfl, rfl⟩ := am_bl_inv h1; exact fun H locs ls hP hS hl => lv_lmul hx hb hdec (kk H locs ls hP hS hl)
  case land => obtain ⟨s1, h1, rfl⟩ := am_mk_inv hs; obtain ⟨a, b, r, rfl, rfl⟩ := am_bl_inv h1; exact fun H locs ls hP hS hl => lv_land hx hb hdec (kk H locs ls hP hS hl)
  case lor => obtain ⟨s1, h1, rfl⟩ := am_mk_inv hs; obtain ⟨a, b, r, rfl, rfl⟩ := am_bl_inv h1; exact fun H locs ls hP hS hl => lv_lor hx hb hdec (kk H locs ls hP hS hl)
  case lshl => obtain ⟨s1, h1, rfl⟩ := am_mk_inv hs; obtain ⟨a, b, r, rfl, rfl⟩ := am_bs_inv h1; exact fun H locs ls hP hS hl => lv_lshl hx hb hdec rfl (kk H locs ls hP hS hl)
  case lushr => obtain ⟨s1, h1, rfl⟩ := am_mk_inv hs; obtain ⟨a, b, r, rfl, rfl⟩ := am_bs_inv h1; exact fun H locs ls hP hS hl => lv_lushr hx hb hdec rfl (kk H locs ls hP hS hl)
  case idiv =>
    replace hs : am_dv _ L st g w = some r := hs
    unfold am_dv at hs
    split at hs
    · cases hs
      exact fun H locs ls hP hS hl => lv_idiv hx hb hdec (hc _ rfl) (kk H locs ls hP hS hl)
    · cases hs
  case irem =>
    replace hs : am_dv _ L st g w = some r := hs
    unfold am_dv at hs
    split at hs
    · cases hs
      exact fun H locs ls hP hS hl => lv_irem hx hb hdec (hc _ rfl) (kk H locs ls hP hS hl)
    · cases hs
  case ldiv =>
    replace hs : am_dvl _ L st g w = some r := hs
    unfold am_dvl at hs
    split at hs
    · cases hs
      exact fun H locs ls hP hS hl => lv_ldiv hx hb hdec (hc _ rfl) (kk H locs ls hP hS hl)
    · cases hs
  case lrem =>
    replace hs : am_dvl _ L st g w = some r := hs
    unfold am_dvl at hs
    split at hs
    · cases hs
      exact fun H locs ls hP hS hl => lv_lrem hx hb hdec (hc _ rfl) (kk H locs ls hP hS hl)
    · cases hs
  case ineg =>
    obtain ⟨s1, h1, rfl⟩ := am_mk_inv hs
    unfold am_i1 at h1
    split at h1
    · cases h1
      exact fun H locs ls hP hS hl => lv_ineg hx hb hdec (kk H locs ls hP hS hl)
    · cases h1
  case i2l =>
    obtain ⟨s1, h1, rfl⟩ := am_mk_inv hs
    unfold am_i1 at h1
    split at h1
    · cases h1
      exact fun H locs ls hP hS hl => lv_i2l hx hb hdec rfl (kk H locs ls hP hS hl)
    · cases h1
  case l2i =>
    obtain ⟨s1, h1, rfl⟩ := am_mk_inv hs
    unfold am_l1 at h1
    split at h1
    · cases h1
      exact fun H locs ls hP hS hl => lv_l2i hx hb hdec rfl (kk H locs ls hP hS hl)
    · cases h1
  case lcmp =>
    obtain ⟨s1, h1, rfl⟩ := am_mk_inv hs
    unfold am_lc at h1
    split at h1
    · cases h1
      exact fun H locs ls hP hS hl => W.lcmp hx hb hdec (kk H locs ls hP hS hl)
    · cases h1
  case dup =>
    obtain ⟨s1, h1, rfl⟩ := am_mk_inv hs
    unfold am_dup at h1
    split at h1
    · rename_i v0 r0
      split at h1
      · rename_i h2
        cases h1
        exact fun H locs ls hP hS hl => lv_dup hx hb hdec (by rw [am_v_cat]; exact am_c1_cat h2) (kk H locs ls hP hS hl)
      · cases h1
    · cases h1
  case pop =>
    obtain ⟨s1, h1, rfl⟩ := am_mk_inv hs
    unfold am_pop at h1
    split at h1
    · rename_i v0 r0
      split at h1
      · rename_i h2
        cases h1
        exact fun H locs ls hP hS hl => lv_pop hx hb hdec (by rw [am_v_cat]; exact am_c1_cat h2) (kk H locs ls hP hS hl)
      · cases h1
    · cases h1
  case dup2 =>
    obtain ⟨s1, h1, rfl⟩ := am_mk_inv hs
    unfold am_dup2 at h1
    split at h1
    · rename_i v0 u0 r0
      split at h1
      · rename_i h2
        simp only [Bool.and_eq_true] at h2
        cases h1
        exact fun H locs ls hP hS hl => lv_dup2_11 hx hb hdec (by rw [am_v_cat]; exact am_c1_cat h2.1) (by rw [am_v_cat]; exact am_c1_cat h2.2) (kk H locs ls hP hS hl)
      · cases h1
    · cases h1
  case iaload => exact am_ald_ok C0 hyl (Or.inl ⟨rfl, rfl⟩) hdec hs hc kk
  case baload => exact am_ald_ok C0 hyl (Or.inr (Or.inl ⟨rfl, rfl⟩)) hdec hs hc kk
  case laload => exact am_ald_ok C0 hyl (Or.inr (Or.inr ⟨rfl, rfl⟩)) hdec hs hc kk
  case iastore => exact am_ast_ok C0 hyl (Or.inl ⟨rfl, rfl, rfl⟩) hdec hs hc kk
  case bastore => exact am_ast_ok C0 hyl (Or.inr ⟨rfl, rfl, rfl⟩) hdec hs hc kk
  case lastore => exact am_lst_ok C0 hyl hdec hs hc kk
  case arraylength => exact am_len_ok C0 hyl hdec hs kk
  case getfield idx => exact am_gf_ok C0 hyl hok hdec hs kk
  case putfield idx =>
    have hok2 : (am_flb own idx ci k && am_wr ci k) = true := hok
    simp only [Bool.and_eq_true] at hok2
    exact am_pf_ok C0 hyl hok2.1 hok2.2 hdec hs kk (am_yk_ty hy)
end AMB
end
section
/-! RUNS OF INSTRUCTIONS, JUMPS, RETURNS, CALLS -/
def am_run (y : am_Y) : List am_AI → List (Option Value) → List Value → am_G → am_J → Option (am_S × List Prop)
  | [], L, st, g, w => some ((L, st, g, w), [])
  | a :: is, L, st, g, w => match am_st y a L st g w with
    | none => none
    | some (s, none) => am_run y is s.1 s.2.1 s.2.2.1 s.2.2.2
    | some (s, some c) => match am_run y is s.1 s.2.1 s.2.2.1 s.2.2.2 with
      | none => none
      | some (s2, cl) => some (s2, c :: cl)
def am_all : List Prop → Prop
  | [] => True
  | c :: cl => c ∧ am_all cl
def am_dec (cc : ByteArray) (pc : Nat) (ins : Instr) (n : Nat) : Bool := match decode cc pc with
  | .ok (i, k) => decide (i = ins) && k == n
  | .error _ => false
theorem am_dec_ok {cc : ByteArray} {pc : Nat} {ins : Instr} {n : Nat} (h : am_dec cc pc ins n = true) : decode cc pc = .ok (ins, n) := by
  unfold am_dec at h
  split at h
  · rename_i i k hi
    simp only [Bool.and_eq_true, decide_eq_true_eq, beq_iff_eq] at h
    rw [hi, h.1, h.2]
  · cases h
def am_ck (own : Nat) (cc : ByteArray) : Nat → List am_AI → Nat → Bool
  | pc, [], e => pc == e
  | pc, a :: is, e => am_dec cc pc a.1 (am_ln a.1) && (am_ok own a && am_ck own cc (pc + am_ln a.1) is e)
abbrev am_Cm (x : am_X) (own : Nat) (cc : ByteArray) (nL : Nat) (ret : Option FieldType) : Prop := am_Cx x own cc nL ∧ (am_me x).sig.returnType = ret
def am_Qc (D : va_G) (c3 : ClassId × ClassId × ClassId) (base tt b : Nat) (ro : Option Value) (y : am_Y) (g : am_G) (w : am_J) : Array Value → State → Outcome → State → Prop := fun _ st oc t => oc = .returned (ro.map (am_v (am_ad base tt b))) ∧ am_P D c3 base tt b y g w t.heap ∧ va_F (fun q => base ≤ q) st t
def am_Q (x : am_X) (cs : Nat × Nat) (ro : Option Value) (y : am_Y) (g : am_G) (w : am_J) : State → Prop := MQ (am_bw x) (am_Qc (am_Dg x) (am_c3 x) (am_ba x) (am_tt x) (am_sc x) ro y g w) (am_a x) (am_s x) cs.1 cs.2 (fun q => am_ba x ≤ q)
def am_Pc (D : va_G) (c3 : ClassId × ClassId × ClassId) (base tt b : Nat) (av : List Value) (y : am_Y) (g : am_G) (w : am_J) : Array Value → State → Prop :=
  va_Pc (av.map (am_v (am_ad base tt b))) (fun U => am_P D c3 base tt b y g w U.heap ∧ va_K D vwCl (am_ty c3) U ∧ am_T base tt U ∧ am_N U)
/-- a method: its name, code, locals, answer -/
abbrev am_MI : Type := MethodName × ByteArray × Nat × Option FieldType
abbrev am_cw (mi : am_MI) : Cond := .code mi.1 mi.2.1 mi.2.2.1 mi.2.2.2
def am_Met (l : Launch) (mi : am_MI) (rm : Room) (av : List Value) (y : am_Y) (g : am_G) (w : am_J) (ro : Option Value) (y' : am_Y) (g' : am_G) (w' : am_J) : Prop :=
  ∀ (D : va_G) (c3 : ClassId × ClassId × ClassId) (base tt b : Nat), Met l mi.1 (am_cw mi :: am_tbl) rm (am_Pc D c3 base tt b av y g w) (am_Qc D c3 base tt b ro y' g' w') rm.cells rm.slots (fun q => base ≤ q)
section AMF
variable {x : am_X} {own : Nat} {cc : ByteArray} {nL : Nat} {cs : Nat × Nat} {Q : State → Prop} {pc : Nat} {L L' : List (Option Value)} {st st' : List Value} {y y' : am_Y} {g g' : am_G} {w w' : am_J} {ret : Option FieldType}
theorem am_blk (C0 : am_Cx x own cc nL) (hy : am_yk y = true) (is : List am_AI) : ∀ (pc pc2 : Nat) (L : List (Option Value)) (st : List Value) (g : am_G) (w : am_J) (L' : List (Option Value)) (st' : List Value) (g' : am_G) (w' : am_J) (cl : List Prop), am_ck own cc pc is pc2 = true → am_run y is L st g w = some ((L', st', g', w'), cl) → am_all cl → am_Ev x nL cs Q pc2 L' st' y g' w' → am_Ev x nL cs Q pc L st y g w := by
  induction is with
  | nil =>
    intro pc pc2 L st g w L' st' g' w' cl hck hr hc kk
    have h1 : pc = pc2 := by simpa [am_ck] using hck
    cases hr
    rw [h1]
    exact kk
  | cons a is ih =>
    intro pc pc2 L st g w L' st' g' w' cl hck hr hc kk
    simp only [am_ck, Bool.and_eq_true] at hck
    obtain ⟨h1, h2, h3⟩ := hck
    unfold am_run at hr
    split at hr
    · cases hr
    · rename_i s hs
      exact am_one C0 hy a (am_dec_ok h1) h2 hs (fun c hc => by cases hc) (ih _ _ _ _ _ _ _ _ _ _ _ h3 hr hc kk)
    · rename_i s c hs
      split at hr
      · cases hr
      · rename_i s2 cl2 hr2
        simp only [Option.some.injEq, Prod.mk.injEq] at hr
        obtain ⟨rfl, rfl⟩ := hr
        exact am_one C0 hy a (am_dec_ok h1) h2 hs (fun c' hc' => by cases hc'; exact hc.1) (ih _ _ _ _ _ _ _ _ _ _ _ h3 hr2 hc.2 kk)
/-- a run of straight instructions -/
theorem am_b1 (C0 : am_Cm x own cc nL ret) (hy : am_yk y = true) {pc pc2 : Nat} (is : List am_AI) {cl : List Prop} (hck : am_ck own cc pc is pc2 = true) (hr : am_run y is L st g w = some ((L', st', g', w'), cl)) (hc : am_all cl) (kk : am_Ev x nL cs Q pc2 L' st' y g' w') : am_Ev x nL cs Q pc L st y g w :=
  am_blk C0.1 hy is pc pc2 L st g w L' st' g' w' cl hck hr hc kk
/-- fewer locals -/
def am_le : List (Option Value) → List (Option Value) → Prop
  | [], _ => True
  | none :: l, _ :: m => am_le l m
  | none :: l, [] => am_le l []
  | some v :: l, some u :: m => v = u ∧ am_le l m
  | some _ :: _, _ => False
theorem am_le_at : ∀ (M L : List (Option Value)), am_le M L → ∀ (i : Nat) (v : Value), M[i]? = some (some v) → L[i]? = some (some v)
  | [], _, _, i, v, hv => by simp at hv
  | none :: l, [], h, i, v, hv => by
    cases i with
    | zero => simp at hv
    | succ i => have := am_le_at l [] h i v (by simpa using hv); simp at this
  | none :: l, _ :: m, h, i, v, hv => by
    cases i with
    | zero => simp at hv
    | succ i => simpa using am_le_at l m h i v (by simpa using hv)
  | some a :: l, some b :: m, h, i, v, hv => by
    obtain ⟨rfl, h⟩ := h
    cases i with
    | zero => simpa using hv
    | succ i => simpa using am_le_at l m h i v (by simpa using hv)
  | some a :: l, none :: m, h, i, v, hv => by cases h
  | some a :: l, [], h, i, v, hv => by cases h
theorem am_wk (M : List (Option Value)) (hm : am_le M L) (hlen : M.length = L.length) (kk : am_Ev x nL cs Q pc M st y g w) : am_Ev x nL cs Q pc L st y g w :=
  fun H locs ls hP hS hl => kk H locs ls hP hS ⟨hl.1, hl.2.1, by rw [hlen]; exact hl.2.2.1, fun i v hv => hl.2.2.2 i v (am_le_at M L hm i v hv)⟩
def am_j2 (cc : ByteArray) (pc : Nat) (ins : Int → Instr) (off : Int) (tgt : Nat) : Bool := am_dec cc pc (ins off) 3 && decide ((pc : Int) + off = (tgt : Int))
theorem am_j2_ok {ins : Int → Instr} {off : Int} {tgt : Nat} (h : am_j2 cc pc ins off tgt = true) : decode cc pc = .ok (ins off, 3) ∧ (pc : Int) + off = (tgt : Int) := by
  simp only [am_j2, Bool.and_eq_true, decide_eq_true_eq] at h
  exact ⟨am_dec_ok h.1, h.2⟩
variable {off : Int} {tgt : Nat} {a b : Int32}
theorem am_goto (C0 : am_Cm x own cc nL ret) (hj : am_j2 cc pc .goto off tgt = true) (kk : am_Ev x nL cs Q tgt L st y g w) : am_Ev x nL cs Q pc L st y g w :=
  fun H locs ls hP hS hl => lv_goto C0.1.hx C0.1.hb (am_j2_ok hj).1 (am_j2_ok hj).2 (kk H locs ls hP hS hl)
theorem am_if_eq (C0 : am_Cm x own cc nL ret) (hj : am_j2 cc pc (.ifCond .eq) off tgt = true) (kt : a = 0 → am_Ev x nL cs Q tgt L st y g w) (kf : ¬ a = 0 → am_Ev x nL cs Q (pc + 3) L st y g w) : am_Ev x nL cs Q pc L (.int a :: st) y g w :=
  fun H locs ls hP hS hl => lv_if_eq C0.1.hx C0.1.hb (am_j2_ok hj).1 (am_j2_ok hj).2 (fun h => kt h H locs ls hP hS hl) (fun h => kf h H locs ls hP hS hl)
theorem am_if_ne (C0 : am_Cm x own cc nL ret) (hj : am_j2 cc pc (.ifCond .ne) off tgt = true) (kt : ¬ a = 0 → am_Ev x nL cs Q tgt L st y g w) (kf : a = 0 → am_Ev x nL cs Q (pc + 3) L st y g w) : am_Ev x nL cs Q pc L (.int a :: st) y g w :=
  fun H locs ls hP hS hl => lv_if_ne C0.1.hx C0.1.hb (am_j2_ok hj).1 (am_j2_ok hj).2 (fun h => kt h H locs ls hP hS hl) (fun h => kf h H locs ls hP hS hl)
theorem am_if_lt (C0 : am_Cm x own cc nL ret) (hj : am_j2 cc pc (.ifCond .lt) off tgt = true) (kt : a < 0 → am_Ev x nL cs Q tgt L st y g w) (kf : ¬ a < 0 → am_Ev x nL cs Q (pc + 3) L st y g w) : am_Ev x nL cs Q pc L (.int a :: st) y g w :=
  fun H locs ls hP hS hl => lv_if_lt C0.1.hx C0.1.hb (am_j2_ok hj).1 (am_j2_ok hj).2 (fun h => kt h H locs ls hP hS hl) (fun h => kf h H locs ls hP hS hl)
theorem am_if_ge (C0 : am_Cm x own cc nL ret) (hj : am_j2 cc pc (.ifCond .ge) off tgt = true) (kt : 0 ≤ a → am_Ev x nL cs Q tgt L st y g w) (kf : ¬ 0 ≤ a → am_Ev x nL cs Q (pc + 3) L st y g w) : am_Ev x nL cs Q pc L (.int a :: st) y g w :=
  fun H locs ls hP hS hl => lv_if_ge C0.1.hx C0.1.hb (am_j2_ok hj).1 (am_j2_ok hj).2 (fun h => kt h H locs ls hP hS hl) (fun h => kf h H locs ls hP hS hl)
theorem am_if_gt (C0 : am_Cm x own cc nL ret) (hj : am_j2 cc pc (.ifCond .gt) off tgt = true) (kt : 0 < a → am_Ev x nL cs Q tgt L st y g w) (kf : ¬ 0 < a → am_Ev x nL cs Q (pc + 3) L st y g w) : am_Ev x nL cs Q pc L (.int a :: st) y g w :=
  fun H locs ls hP hS hl => lv_if_gt C0.1.hx C0.1.hb (am_j2_ok hj).1 (am_j2_ok hj).2 (fun h => kt h H locs ls hP hS hl) (fun h => kf h H locs ls hP hS hl)
theorem am_if_le (C0 : am_Cm x own cc nL ret) (hj : am_j2 cc pc (.ifCond .le) off tgt = true) (kt : a ≤ 0 → am_Ev x nL cs Q tgt L st y g w) (kf : ¬ a ≤ 0 → am_Ev x nL cs Q (pc + 3) L st y g w) : am_Ev x nL cs Q pc L (.int a :: st) y g w :=
  fun H locs ls hP hS hl => lv_if_le C0.1.hx C0.1.hb (am_j2_ok hj).1 (am_j2_ok hj).2 (fun h => kt h H locs ls hP hS hl) (fun h => kf h H locs ls hP hS hl)
theorem am_icmp_eq (C0 : am_Cm x own cc nL ret) (hj : am_j2 cc pc (.if_icmp .eq) off tgt = true) (kt : a = b → am_Ev x nL cs Q tgt L st y g w) (kf : ¬ a = b → am_Ev x nL cs Q (pc + 3) L st y g w) : am_Ev x nL cs Q pc L (.int b :: .int a :: st) y g w :=
  fun H locs ls hP hS hl => lv_icmp_eq C0.1.hx C0.1.hb (am_j2_ok hj).1 (am_j2_ok hj).2 (fun h => kt h H locs ls hP hS hl) (fun h => kf h H locs ls hP hS hl)
theorem am_icmp_ne (C0 : am_Cm x own cc nL ret) (hj : am_j2 cc pc (.if_icmp .ne) off tgt = true) (kt : ¬ a = b → am_Ev x nL cs Q tgt L st y g w) (kf : a = b → am_Ev x nL cs Q (pc + 3) L st y g w) : am_Ev x nL cs Q pc L (.int b :: .int a :: st) y g w :=
  fun H locs ls hP hS hl => lv_icmp_ne C0.1.hx C0.1.hb (am_j2_ok hj).1 (am_j2_ok hj).2 (fun h => kt h H locs ls hP hS hl) (fun h => kf h H locs ls hP hS hl)
theorem am_icmp_lt (C0 : am_Cm x own cc nL ret) (hj : am_j2 cc pc (.if_icmp .lt) off tgt = true) (kt : a < b → am_Ev x nL cs Q tgt L st y g w) (kf : ¬ a < b → am_Ev x nL cs Q (pc + 3) L st y g w) : am_Ev x nL cs Q pc L (.int b :: .int a :: st) y g w :=
  fun H locs ls hP hS hl => lv_icmp_lt C0.1.hx C0.1.hb (am_j2_ok hj).1 (am_j2_ok hj).2 (fun h => kt h H locs ls hP hS hl) (fun h => kf h H locs ls hP hS hl)
theorem am_icmp_ge (C0 : am_Cm x own cc nL ret) (hj : am_j2 cc pc (.if_icmp .ge) off tgt = true) (kt : b ≤ a → am_Ev x nL cs Q tgt L st y g w) (kf : ¬ b ≤ a → am_Ev x nL cs Q (pc + 3) L st y g w) : am_Ev x nL cs Q pc L (.int b :: .int a :: st) y g w :=
  fun H locs ls hP hS hl => lv_icmp_ge C0.1.hx C0.1.hb (am_j2_ok hj).1 (am_j2_ok hj).2 (fun h => kt h H locs ls hP hS hl) (fun h => kf h H locs ls hP hS hl)
theorem am_icmp_gt (C0 : am_Cm x own cc nL ret) (hj : am_j2 cc pc (.if_icmp .gt) off tgt = true) (kt : b < a → am_Ev x nL cs Q tgt L st y g w) (kf : ¬ b < a → am_Ev x nL cs Q (pc + 3) L st y g w) : am_Ev x nL cs Q pc L (.int b :: .int a :: st) y g w :=
  fun H locs ls hP hS hl => lv_icmp_gt C0.1.hx C0.1.hb (am_j2_ok hj).1 (am_j2_ok hj).2 (fun h => kt h H locs ls hP hS hl) (fun h => kf h H locs ls hP hS hl)
theorem am_icmp_le (C0 : am_Cm x own cc nL ret) (hj : am_j2 cc pc (.if_icmp .le) off tgt = true) (kt : a ≤ b → am_Ev x nL cs Q tgt L st y g w) (kf : ¬ a ≤ b → am_Ev x nL cs Q (pc + 3) L st y g w) : am_Ev x nL cs Q pc L (.int b :: .int a :: st) y g w :=
  fun H locs ls hP hS hl => lv_icmp_le C0.1.hx C0.1.hb (am_j2_ok hj).1 (am_j2_ok hj).2 (fun h => kt h H locs ls hP hS hl) (fun h => kf h H locs ls hP hS hl)
/-- a switch: the place that a value goes to -/
def am_sw (cc : ByteArray) (pc n : Nat) (dflt lo hi : Int) (offs : Array Int) : Bool := am_dec cc pc (.tableswitch dflt lo hi offs) n
theorem am_swOut (C0 : am_Cm x own cc nL ret) {n : Nat} {dflt lo hi : Int} {offs : Array Int} (hj : am_sw cc pc n dflt lo hi offs = true) (h : a.toInt < lo ∨ hi < a.toInt) (ht : (pc : Int) + dflt = (tgt : Int)) (kk : am_Ev x nL cs Q tgt L st y g w) : am_Ev x nL cs Q pc L (.int a :: st) y g w :=
  fun H locs ls hP hS hl => lv_tableOut C0.1.hx C0.1.hb (am_dec_ok hj) h ht (kk H locs ls hP hS hl)
theorem am_swIn (C0 : am_Cm x own cc nL ret) {n : Nat} {dflt lo hi : Int} {offs : Array Int} (hj : am_sw cc pc n dflt lo hi offs = true) (h1 : ¬ a.toInt < lo) (h2 : ¬ hi < a.toInt) (ho : offs[(a.toInt - lo).toNat]? = some off) (ht : (pc : Int) + off = (tgt : Int)) (kk : am_Ev x nL cs Q tgt L st y g w) : am_Ev x nL cs Q pc L (.int a :: st) y g w :=
  fun H locs ls hP hS hl => lv_tableIn C0.1.hx C0.1.hb (am_dec_ok hj) h1 h2 ho ht (kk H locs ls hP hS hl)
/-- returns -/
theorem am_iret (C0 : am_Cm x own cc nL (some .int)) (hd : am_dec cc pc .ireturn 1 = true) : am_Ev x nL cs (am_Q x cs (some (.int a)) y g w) pc L [.int a] y g w :=
  fun H locs ls hP hS hl => W.iret C0.1.hx C0.1.hb C0.2 (fun t ht hW => ⟨rfl, by rw [ht]; exact hP, hS.F ht⟩) hS.2.2 (am_dec_ok hd) C0.1.hlk
theorem am_zret (C0 : am_Cm x own cc nL (some .boolean)) (hd : am_dec cc pc .ireturn 1 = true) (hz : a = 0 ∨ a = 1) : am_Ev x nL cs (am_Q x cs (some (.int a)) y g w) pc L [.int a] y g w :=
  fun H locs ls hP hS hl => W.zret C0.1.hx C0.1.hb C0.2 (by rcases hz with rfl | rfl <;> rfl) (fun t ht hW => ⟨rfl, by rw [ht]; exact hP, hS.F ht⟩) hS.2.2 (am_dec_ok hd) C0.1.hlk
theorem am_lret (C0 : am_Cm x own cc nL (some .long)) {a : Int64} (hd : am_dec cc pc .lreturn 1 = true) : am_Ev x nL cs (am_Q x cs (some (.long a)) y g w) pc L [.long a] y g w :=
  fun H locs ls hP hS hl => W.lret C0.1.hx C0.1.hb C0.2 (fun t ht hW => ⟨rfl, by rw [ht]; exact hP, hS.F ht⟩) hS.2.2 (am_dec_ok hd) C0.1.hlk
theorem am_vret (C0 : am_Cm x own cc nL none) (hd : am_dec cc pc .return_ 1 = true) : am_Ev x nL cs (am_Q x cs none y g w) pc L [] y g w :=
  fun H locs ls hP hS hl => W.vret C0.1.hx C0.1.hb C0.2 (fun t ht hW => ⟨rfl, by rw [ht]; exact hP, hS.F ht⟩) hS.2.2 (am_dec_ok hd) C0.1.hlk
theorem am_widen {k n : Nat} (h1 : cs.1 ≤ k) (h2 : cs.2 ≤ n) (kk : am_Ev x nL (k, n) Q pc L st y g w) : am_Ev x nL cs Q pc L st y g w :=
  fun H locs ls hP hS hl => W.widen h1 h2 (kk H locs ls hP hS hl)
end AMF
/-- the locals at a method's entry -/
def am_L0 : List Value → List (Option Value)
  | [] => []
  | v :: vs => if v.category = 2 then some v :: none :: am_L0 vs else some v :: am_L0 vs
theorem am_L0_at (ad : Nat → Nat) : ∀ (vs : List Value) (n i : Nat) (v : Value), (am_L0 vs)[i]? = some (some v) → (n + i, am_v ad v) ∈ lv_args n (vs.map (am_v ad))
  | [], n, i, v, h => by simp [am_L0] at h
  | a :: vs, n, i, v, h => by
    simp only [List.map_cons, lv_args, am_v_cat]
    unfold am_L0 at h
    by_cases hc : a.category = 2
    · rw [if_pos hc] at h
      match i with
      | 0 => simp only [List.getElem?_cons_zero, Option.some.injEq] at h; subst h; exact List.mem_cons_self
      | 1 => simp at h
      | i + 2 =>
        rw [if_pos hc]
        have := am_L0_at ad vs (n + 2) i v (by simpa using h)
        rw [show n + (i + 2) = n + 2 + i by omega]
        exact List.mem_cons_of_mem _ this
    · rw [if_neg hc] at h
      match i with
      | 0 => simp only [List.getElem?_cons_zero, Option.some.injEq] at h; subst h; exact List.mem_cons_self
      | i + 1 =>
        rw [if_neg hc]
        have := am_L0_at ad vs (n + 1) i v (by simpa using h)
        rw [show n + (i + 1) = n + 1 + i by omega]
        exact List.mem_cons_of_mem _ this
theorem am_L0_len (ad : Nat → Nat) : ∀ (vs : List Value), (lg_sl (vs.map (am_v ad))).length = (am_L0 vs).length
  | [] => rfl
  | a :: vs => by
    have ih := am_L0_len ad vs
    simp only [lg_sl, List.map_cons, List.flatMap_cons, List.length_append, am_v_cat] at ih ⊢
    unfold am_L0
    by_cases hc : a.category = 2
    · rw [if_pos hc, if_pos hc]
      simp only [List.length_cons, List.length_nil]
      omega
    · rw [if_neg hc, if_neg hc]
      simp only [List.length_cons, List.length_nil]
      omega
theorem am_met {l : Launch} {own : Nat} {mi : am_MI} {rm : Room} {av : List Value} {y y' : am_Y} {g g' : am_G} {w w' : am_J} {ro : Option Value} (L : List (Option Value)) (hpl : plainName mi.1.cls = true) (hcn : mi.1.cls = am_cn own) (hL : L = am_L0 av ++ List.replicate (mi.2.2.1 - (am_L0 av).length) none) (hn : (am_L0 av).length ≤ mi.2.2.1)
    (body : ∀ x : am_X, am_Cm x own mi.2.1 mi.2.2.1 mi.2.2.2 → am_R x = rm → am_la x = l → (am_me x).name = mi.1.name → am_Ev x mi.2.2.1 (0, 0) (am_Q x (rm.cells, rm.slots) ro y' g' w') 0 L [] y g w) : am_Met l mi rm av y g w ro y' g' w' := by
  intro D c3 base tt b
  refine Met.ofW (cc := mi.2.1) (maxL := mi.2.2.1) (ret := mi.2.2.2) hpl rfl ?_
  intro p e s m args below meth c s₁ B hml hv
  obtain ⟨rfl, hP, hK, hT, hN⟩ := hv
  have hts := atoms_spec (ws := am_cw mi :: am_tbl) B.pre
  have hown : s.vm.findClass (am_cn own) = some m.cls := by rw [← hcn]; exact findClass_of_methodNamed B.named
  have hbo := body (p, l, e, rm, s, m, (av.map (am_v (am_ad base tt b))).toArray, below, meth, c, D, c3, base, tt, b) ⟨⟨B.exec, B.bytes, hml, hown, fun w h => hts w (List.mem_cons_of_mem _ h), B.notSynchronized, hK, hT, hN⟩, B.returns⟩ rfl rfl (name_of_methodNamed B.named B.method).1
  have hl := lv_entry (av.map (am_v (am_ad base tt b))) (n := mi.2.2.1) (by rw [am_L0_len]; exact hn)
  rw [lg_entry_eq]
  refine hbo s.heap [] _ hP va_S.rf ⟨hl.1, hl.2.1, ?_, fun i v hi => ?_⟩
  · rw [hL]
    simp only [List.length_append, List.length_replicate]
    omega
  · rw [hL] at hi
    by_cases hlt : i < (am_L0 av).length
    · rw [List.getElem?_append_left hlt] at hi
      have := am_L0_at (am_ad base tt b) av 0 i v hi
      rw [Nat.zero_add] at this
      exact hl.2.2 _ this
    · rw [List.getElem?_append_right (by omega)] at hi
      have := List.eq_of_mem_replicate (List.mem_of_getElem? hi)
      cases this
end
section
/-! CALLS -/
/-- the words of a call of an object's own method -/
def am_wV (own idx : Nat) (mi : am_MI) (n : Nat) : Prop := (Cond.methodLink (am_cn own) idx mi.1 ∈ am_tbl ∧ Cond.instanceMethod mi.1 ∈ am_tbl ∧ Cond.selects mi.1.cls mi.1 mi.1 ∈ am_tbl ∧ Cond.initialized mi.1.cls ∈ am_tbl ∧ am_cw mi ∈ am_tbl) ∧ mi.1.cls ≠ "java/lang/invoke/MethodHandle" ∧ mi.1.cls ≠ "java/lang/invoke/VarHandle" ∧ (parseMethodDescriptor mi.1.desc).map (fun d => d.parameters.length) = some n
def am_wS (own idx : Nat) (mi : am_MI) (n : Nat) : Prop := (Cond.methodLink (am_cn own) idx mi.1 ∈ am_tbl ∧ Cond.static mi.1 ∈ am_tbl ∧ Cond.initialized mi.1.cls ∈ am_tbl ∧ am_cw mi ∈ am_tbl) ∧ mi.1.cls ≠ "java/lang/invoke/MethodHandle" ∧ mi.1.cls ≠ "java/lang/invoke/VarHandle" ∧ (parseMethodDescriptor mi.1.desc).map (fun d => d.parameters.length) = some n
def am_wI (own idx : Nat) (mi : am_MI) (n : Nat) : Prop := (Cond.methodLink (am_cn own) idx mi.1 ∈ am_tbl ∧ Cond.instanceMethod mi.1 ∈ am_tbl ∧ Cond.initialized mi.1.cls ∈ am_tbl ∧ am_cw mi ∈ am_tbl) ∧ mi.1.name = "<init>" ∧ mi.2.2.2 = none ∧ mi.1.cls ≠ "java/lang/invoke/MethodHandle" ∧ mi.1.cls ≠ "java/lang/invoke/VarHandle" ∧ (parseMethodDescriptor mi.1.desc).map (fun d => d.parameters.length) = some n
/-- a private static method of a nest mate; a private constructor of one -/
def am_wSN (own idx : Nat) (mi : am_MI) (n : Nat) : Prop := ((∃ p, (own, idx, mi.1, p) ∈ am_nst) ∧ Cond.static mi.1 ∈ am_tbl ∧ Cond.initialized mi.1.cls ∈ am_tbl ∧ am_cw mi ∈ am_tbl) ∧ mi.1.cls ≠ "java/lang/invoke/MethodHandle" ∧ mi.1.cls ≠ "java/lang/invoke/VarHandle" ∧ (parseMethodDescriptor mi.1.desc).map (fun d => d.parameters.length) = some n
def am_wIN (own idx : Nat) (mi : am_MI) (n : Nat) : Prop := ((∃ p, (own, idx, mi.1, p) ∈ am_nst) ∧ Cond.instanceMethod mi.1 ∈ am_tbl ∧ Cond.initialized mi.1.cls ∈ am_tbl ∧ am_cw mi ∈ am_tbl) ∧ mi.1.name = "<init>" ∧ mi.2.2.2 = none ∧ mi.1.cls ≠ "java/lang/invoke/MethodHandle" ∧ mi.1.cls ≠ "java/lang/invoke/VarHandle" ∧ (parseMethodDescriptor mi.1.desc).map (fun d => d.parameters.length) = some n
theorem am_at {w : Cond} (i : Nat) (h : lw_tbl[i]? = some w) (hg : goodWord w = true) : w ∈ am_tbl := am_tbl_in (List.mem_of_getElem? h) hg
/-- the words at their places -/
def am_pl : List (Nat × Cond) → Bool
  | [] => true
  | q :: r => decide (lw_tbl[q.1]? = some q.2) && (goodWord q.2 && am_pl r)
theorem am_pl_ok : ∀ {l : List (Nat × Cond)}, am_pl l = true → ∀ q ∈ l, q.2 ∈ am_tbl
  | [], _, q, hq => by cases hq
  | a :: r, h, q, hq => by
    simp only [am_pl, Bool.and_eq_true, decide_eq_true_eq] at h
    rcases List.mem_cons.mp hq with rfl | hq
    · exact am_at _ h.1 h.2.1
    · exact am_pl_ok h.2.2 q hq
def am_nd (mi : am_MI) (n : Nat) : Bool := decide (mi.1.cls ≠ "java/lang/invoke/MethodHandle") && (decide (mi.1.cls ≠ "java/lang/invoke/VarHandle") && decide ((parseMethodDescriptor mi.1.desc).map (fun d => d.parameters.length) = some n))
theorem am_wV.mk {own idx : Nat} {mi : am_MI} {n : Nat} (a b c d e : Nat) (h : am_pl [(a, .methodLink (am_cn own) idx mi.1), (b, .instanceMethod mi.1), (c, .selects mi.1.cls mi.1 mi.1), (d, .initialized mi.1.cls), (e, am_cw mi)] = true) (hd : am_nd mi n = true) : am_wV own idx mi n := by
  have h1 := am_pl_ok h
  simp only [am_nd, Bool.and_eq_true, decide_eq_true_eq] at hd
  exact ⟨⟨h1 (a, _) (by simp), h1 (b, _) (by simp), h1 (c, _) (by simp), h1 (d, _) (by simp), h1 (e, _) (by simp)⟩, hd⟩
theorem am_wS.mk {own idx : Nat} {mi : am_MI} {n : Nat} (a b d e : Nat) (h : am_pl [(a, .methodLink (am_cn own) idx mi.1), (b, .static mi.1), (d, .initialized mi.1.cls), (e, am_cw mi)] = true) (hd : am_nd mi n = true) : am_wS own idx mi n := by
  have h1 := am_pl_ok h
  simp only [am_nd, Bool.and_eq_true, decide_eq_true_eq] at hd
  exact ⟨⟨h1 (a, _) (by simp), h1 (b, _) (by simp), h1 (d, _) (by simp), h1 (e, _) (by simp)⟩, hd⟩
theorem am_wI.mk {own idx : Nat} {mi : am_MI} {n : Nat} (a b d e : Nat) (h : am_pl [(a, .methodLink (am_cn own) idx mi.1), (b, .instanceMethod mi.1), (d, .initialized mi.1.cls), (e, am_cw mi)] = true) (hi : mi.1.name = "<init>") (hr : mi.2.2.2 = none) (hd : am_nd mi n = true) : am_wI own idx mi n := by
  have h1 := am_pl_ok h
  simp only [am_nd, Bool.and_eq_true, decide_eq_true_eq] at hd
  exact ⟨⟨h1 (a, _) (by simp), h1 (b, _) (by simp), h1 (d, _) (by simp), h1 (e, _) (by simp)⟩, hi, hr, hd⟩
theorem am_wSN.mk {own idx : Nat} {mi : am_MI} {n : Nat} (p k b d e : Nat) (hp : am_nst[k]? = some (own, idx, mi.1, p)) (h : am_pl [(b, .static mi.1), (d, .initialized mi.1.cls), (e, am_cw mi)] = true) (hd : am_nd mi n = true) : am_wSN own idx mi n := by
  have h1 := am_pl_ok h
  simp only [am_nd, Bool.and_eq_true, decide_eq_true_eq] at hd
  exact ⟨⟨⟨p, List.mem_of_getElem? hp⟩, h1 (b, _) (by simp), h1 (d, _) (by simp), h1 (e, _) (by simp)⟩, hd⟩
theorem am_wIN.mk {own idx : Nat} {mi : am_MI} {n : Nat} (p k b d e : Nat) (hp : am_nst[k]? = some (own, idx, mi.1, p)) (h : am_pl [(b, .instanceMethod mi.1), (d, .initialized mi.1.cls), (e, am_cw mi)] = true) (hi : mi.1.name = "<init>") (hr : mi.2.2.2 = none) (hd : am_nd mi n = true) : am_wIN own idx mi n := by
  have h1 := am_pl_ok h
  simp only [am_nd, Bool.and_eq_true, decide_eq_true_eq] at hd
  exact ⟨⟨⟨p, List.mem_of_getElem? hp⟩, h1 (b, _) (by simp), h1 (d, _) (by simp), h1 (e, _) (by simp)⟩, hi, hr, hd⟩
end
section
def am_rm (R : Room) (mi : am_MI) (rm : Room) (cs : Nat × Nat) : Bool := decide (rm.frames + 1 ≤ R.frames) && (decide (8 + (mi.2.2.1 + 11) + rm.locals ≤ R.locals) && (decide (cs.1 + rm.cells ≤ R.cells) && decide (cs.2 + rm.slots ≤ R.slots)))
section AMC
variable {x : am_X} {own : Nat} {cc : ByteArray} {nL : Nat} {cs : Nat × Nat} {Q : State → Prop} {pc : Nat} {L L' : List (Option Value)} {st st' : List Value} {y y' : am_Y} {g g' : am_G} {w w' : am_J} {ret : Option FieldType}
variable {mi : am_MI} {rm : Room} {idx n : Nat} {ro : Option Value}
theorem am_blind {D : va_G} {c3 : ClassId × ClassId × ClassId} {base tt b : Nat} {av : List Value} : FrameBlind (am_Pc D c3 base tt b av y g w) := by
  intro a U fr mk q
  obtain ⟨q0, q1, q2, q3, q4⟩ := q
  exact ⟨q0, q1, va_K.moved (u := U) (U := U.calling fr mk a) (Vm.Alike.refl U.vm) q2, ⟨va_Z.moved (u := U) (U := U.calling fr mk a) (Vm.Alike.refl U.vm) q3.1, va_T.moved (u := U) (U := U.calling fr mk a) (Vm.Alike.refl U.vm) q3.2⟩, fun z hz => va_Nw.same (u := U) (U := U.calling fr mk a) rfl rfl (q4 z hz)⟩
theorem am_pre (C0 : am_Cx x own cc nL) {H : Heap} {locs : List Loc} (hP : am_P (am_Dg x) (am_c3 x) (am_ba x) (am_tt x) (am_sc x) y g w H) (hS : va_S (fun q => am_ba x ≤ q) (am_s x).heap H locs) (av : List Value) :
    ∀ U : State, U.heap = H → (am_s x).WarmedH U.vm → am_Pc (am_Dg x) (am_c3 x) (am_ba x) (am_tt x) (am_sc x) av y g w (av.map (am_v (am_xa x))).toArray U :=
  fun U hU hW => ⟨rfl, by rw [hU]; exact hP, va_K.moved hW.alike C0.hK, C0.hT.go hS hU hW.alike, C0.hN.warm hW⟩
theorem am_fin {H : Heap} {locs : List Loc} {ls : Array Slot} {st0 rest : List Value} {a : Array Value} (hS : va_S (fun q => am_ba x ≤ q) (am_s x).heap H locs) (hl : am_l (am_xa x) ls nL L)
    (hr : va_Run (am_p x) (am_la x) (am_en x) (am_R x) (am_s x) (am_m x) (am_a x) (am_bw x) (am_me x) (am_c x) H locs cs.1 cs.2 rm.cells rm.slots (F0 (am_m x) pc ls st0) (rest.map (am_v (am_xa x))) (am_Qc (am_Dg x) (am_c3 x) (am_ba x) (am_tt x) (am_sc x) ro y' g' w' a) (fun q => am_ba x ≤ q))
    (kk : am_Ev x nL (cs.1 + rm.cells, cs.2 + rm.slots) Q (pc + 3) L (ro.toList ++ rest) y' g' w') : W (am_p x) (am_la x) (am_en x) (am_R x) (am_s x) (am_m x) (am_a x) (am_bw x) (am_me x) (am_c x) H locs cs.1 cs.2 Q (F0 (am_m x) pc ls st0) := by
  intro T hT X
  obtain ⟨v, st₀, t, T', L1, h0, X', hL, e1, e2, ⟨hv, hP', hz, hk⟩, stp⟩ := hr T hT X
  rw [h0] at hz hk
  have hv2 : v = ro.map (am_v (am_xa x)) := by cases hv; rfl
  subst hv2
  have hS' : va_S (fun q => am_ba x ≤ q) (am_s x).heap T'.heap (locs ++ L1) := ⟨Nat.le_trans hS.1 (by rw [e1]; exact hz), fun q h1 h2 => by rw [e1, hk q (Nat.lt_of_lt_of_le h1 hS.1) h2]; exact hS.2.1 q h1 h2, fun q hq => by
    rcases List.mem_append.mp hq with h | h
    · exact hS.2.2 q h
    · exact hL q h⟩
  have hst : (ro.map (am_v (am_xa x))).toList ++ rest.map (am_v (am_xa x)) = (ro.toList ++ rest).map (am_v (am_xa x)) := by cases ro <;> simp
  have k2 := kk T'.heap (locs ++ L1) ls (by rw [e1]; exact hP') hS' hl T' rfl X'
  rw [← hst] at k2
  obtain ⟨t2, a1, b1⟩ := k2
  exact ⟨t2, stp t2 a1, b1⟩
theorem am_goodC (hc : am_cw mi ∈ am_tbl) : GoodIn am_tbl (am_cw mi :: am_tbl) := fun w hw => by
  rcases List.mem_cons.mp hw with rfl | h
  · exact am_goodIn _ hc
  · exact am_goodIn _ h
theorem am_rm_ok {R : Room} (h : am_rm R mi rm cs = true) : (rm.frames + 1 ≤ R.frames ∧ 8 + (mi.2.2.1 + 11) + rm.locals ≤ R.locals) ∧ cs.1 + rm.cells ≤ R.cells ∧ cs.2 + rm.slots ≤ R.slots := by
  simp only [am_rm, Bool.and_eq_true, decide_eq_true_eq] at h
  exact ⟨⟨h.1, h.2.1⟩, h.2.2.1, h.2.2.2⟩
theorem am_sum (rest : List Value) : ((rest.map (am_v (am_xa x))).map fun v => v.category).sum = (rest.map fun v => v.category).sum := by
  rw [List.map_map]
  congr 1
  apply List.map_congr_left
  intro v _
  exact am_v_cat _ v
end AMC
end
section
section AMC2
variable {x : am_X} {own : Nat} {cc : ByteArray} {nL : Nat} {cs : Nat × Nat} {Q : State → Prop} {pc : Nat} {L L' : List (Option Value)} {st st' : List Value} {y y' : am_Y} {g g' : am_G} {w w' : am_J} {ret : Option FieldType}
variable {mi : am_MI} {rm : Room} {idx n : Nat} {ro : Option Value}
theorem am_callV {ci i : Nat} {ks : List am_Kd} {rest : List Value} (As : List Value) (C0 : am_Cx x own cc nL) (hy : y.length ≤ 98) (hw : am_wV own idx mi n) (hM : am_Met (am_la x) mi rm (.ref i :: As) y g w ro y' g' w') (hi : y[i]? = some (.inr (ci, ks))) (hci : ci < 9) (hcl : am_Rc ci = mi.1.cls) (hR : am_rm (am_R x) mi rm cs = true) (hn : As.length = n) (hst : st = As.reverse ++ .ref i :: rest) (hsum : (rest.map fun v => v.category).sum ≤ 8) (hd : am_dec cc pc (.invokevirtual idx) 3 = true)
    (kk : am_Ev x nL (cs.1 + rm.cells, cs.2 + rm.slots) Q (pc + 3) L (ro.toList ++ rest) y' g' w') : am_Ev x nL cs Q pc L st y g w := by
  intro H locs ls hP hS hl
  obtain ⟨⟨w1, w2, w3, w4, w5⟩, d1, d2, d3⟩ := hw
  obtain ⟨r1, r2⟩ := am_rm_ok hR
  subst hst
  have ha : am_xa x i = am_ba x + i := am_ad_lt (List.getElem?_eq_some_iff.mp hi).1 hy
  have hT : GoodIn am_tbl (wsV (am_cn own) idx mi.1.cls mi.1 (am_cw mi :: am_tbl)) := fun z hz => by
    rcases List.mem_append.mp hz with h | h
    · simp only [List.mem_cons, List.not_mem_nil, or_false] at h
      rcases h with rfl | rfl | rfl | rfl
      · exact am_goodIn _ w1
      · exact am_goodIn _ w2
      · exact am_goodIn _ w3
      · exact am_goodIn _ w4
    · exact am_goodC w5 z h
  have hrec := va_recv C0.hK hP.2 (am_clc ci hci) (am_w_at (c3 := am_c3 x) (ad := am_xa x) (base := am_ba x) (g := g) (w := w) hi)
  refine am_fin hS hl (va_runV (nL := nL) (Ts := am_tbl) (As := As.map (am_v (am_xa x))) (b := am_ba x + i) (C := mi.1.cls) ⟨C0.hx, C0.hb, C0.hml, C0.hown, C0.hts⟩ (hM (am_Dg x) (am_c3 x) (am_ba x) (am_tt x) (am_sc x)) (cwV n C0.hts hT rfl rfl rfl ⟨rfl, d1, d2, d3⟩ r1) ⟨am_blind, by rw [← hcl]; exact hrec, fun U hU hW => ?_⟩ rfl (by rw [List.length_map]; exact hn) hl.1 (by simp [am_v, ha]) (lv_room (by rw [am_sum]; exact hsum)) (am_dec_ok hd) r2) kk
  have := am_pre C0 hP hS (.ref i :: As) U hU hW
  simpa [am_v, ha] using this
end AMC2
end
section
section AMC3
variable {x : am_X} {own : Nat} {cc : ByteArray} {nL : Nat} {cs : Nat × Nat} {Q : State → Prop} {pc : Nat} {L L' : List (Option Value)} {st st' : List Value} {y y' : am_Y} {g g' : am_G} {w w' : am_J} {ret : Option FieldType}
variable {mi : am_MI} {rm : Room} {idx n : Nat} {ro : Option Value}
theorem am_callS {rest : List Value} (As : List Value) (C0 : am_Cx x own cc nL) (hw : am_wS own idx mi n) (hM : am_Met (am_la x) mi rm As y g w ro y' g' w') (hR : am_rm (am_R x) mi rm cs = true) (hn : As.length = n) (hst : st = As.reverse ++ rest) (hsum : (rest.map fun v => v.category).sum ≤ 8) (hd : am_dec cc pc (.invokestatic idx) 3 = true)
    (kk : am_Ev x nL (cs.1 + rm.cells, cs.2 + rm.slots) Q (pc + 3) L (ro.toList ++ rest) y' g' w') : am_Ev x nL cs Q pc L st y g w := by
  intro H locs ls hP hS hl
  obtain ⟨⟨w1, w2, w3, w5⟩, d1, d2, d3⟩ := hw
  obtain ⟨r1, r2⟩ := am_rm_ok hR
  subst hst
  have hT : GoodIn am_tbl (va_wsS (am_cn own) idx mi.1 (am_cw mi :: am_tbl)) := fun z hz => by
    rcases List.mem_append.mp hz with h | h
    · simp only [List.mem_cons, List.not_mem_nil, or_false] at h
      rcases h with rfl | rfl | rfl
      · exact am_goodIn _ w1
      · exact am_goodIn _ w2
      · exact am_goodIn _ w3
    · exact am_goodC w5 z h
  exact am_fin hS hl (va_runS (nL := nL) (Ts := am_tbl) (As := As.map (am_v (am_xa x))) ⟨C0.hx, C0.hb, C0.hml, C0.hown, C0.hts⟩ (hM (am_Dg x) (am_c3 x) (am_ba x) (am_tt x) (am_sc x)) (va_cwS n C0.hts hT rfl rfl rfl ⟨d1, d2, d3⟩ r1) ⟨am_blind, am_pre C0 hP hS As⟩ rfl (by rw [List.length_map]; exact hn) hl.1 (by simp) (lv_room (by rw [am_sum]; exact hsum)) (am_dec_ok hd) r2) kk
theorem am_callSN {rest : List Value} (As : List Value) (C0 : am_Cx x own cc nL) (hw : am_wSN own idx mi n) (hM : am_Met (am_la x) mi rm As y g w ro y' g' w') (hR : am_rm (am_R x) mi rm cs = true) (hn : As.length = n) (hst : st = As.reverse ++ rest) (hsum : (rest.map fun v => v.category).sum ≤ 8) (hd : am_dec cc pc (.invokestatic idx) 3 = true)
    (kk : am_Ev x nL (cs.1 + rm.cells, cs.2 + rm.slots) Q (pc + 3) L (ro.toList ++ rest) y' g' w') : am_Ev x nL cs Q pc L st y g w := by
  intro H locs ls hP hS hl
  obtain ⟨⟨⟨pp, w1⟩, w2, w3, w5⟩, d1, d2, d3⟩ := hw
  obtain ⟨r1, r2⟩ := am_rm_ok hR
  subst hst
  exact am_fin hS hl (va_runSN (nL := nL) (Ts := am_tbl) (As := As.map (am_v (am_xa x))) ⟨C0.hx, C0.hb, C0.hml, C0.hown, C0.hts⟩ (hM (am_Dg x) (am_c3 x) (am_ba x) (am_tt x) (am_sc x)) ⟨va_cnB n C0.hts (am_goodC w5) rfl rfl rfl (C0.hN _ w1) (C0.hts _ w3) ⟨d1, d2, d3⟩ r1, C0.hts _ w2, trivial⟩ ⟨am_blind, am_pre C0 hP hS As⟩ rfl (by rw [List.length_map]; exact hn) hl.1 (by simp) (lv_room (by rw [am_sum]; exact hsum)) (am_dec_ok hd) r2) kk
theorem am_callI {i : Nat} {rest : List Value} (As : List Value) (C0 : am_Cx x own cc nL) (hilt : i < y.length) (hy : y.length ≤ 98) (hw : am_wI own idx mi n) (hM : am_Met (am_la x) mi rm (.ref i :: As) y g w none y' g' w') (hR : am_rm (am_R x) mi rm cs = true) (hn : As.length = n) (hst : st = As.reverse ++ .ref i :: rest) (hsum : (rest.map fun v => v.category).sum ≤ 8) (hd : am_dec cc pc (.invokespecial idx) 3 = true)
    (kk : am_Ev x nL (cs.1 + rm.cells, cs.2 + rm.slots) Q (pc + 3) L rest y' g' w') : am_Ev x nL cs Q pc L st y g w := by
  intro H locs ls hP hS hl
  obtain ⟨⟨w1, w2, w3, w5⟩, i1, i2, d1, d2, d3⟩ := hw
  obtain ⟨r1, r2⟩ := am_rm_ok hR
  obtain ⟨nm, bc, mL, rt⟩ := mi
  have i2 : rt = none := i2
  subst i2
  have hG : GoodIn am_tbl (Cond.code nm bc mL none :: am_tbl) := am_goodC (mi := (nm, bc, mL, none)) w5
  subst hst
  have ha : am_xa x i = am_ba x + i := am_ad_lt hilt hy
  refine am_fin (ro := none) hS hl (va_runI (y := nm) (bytes := bc) (maxL := mL) (ws := Cond.code nm bc mL none :: am_tbl) (nL := nL) (Ts := am_tbl) (As := As.map (am_v (am_xa x))) (b := am_ba x + i) ⟨C0.hx, C0.hb, C0.hml, C0.hown, C0.hts⟩ (hM (am_Dg x) (am_c3 x) (am_ba x) (am_tt x) (am_sc x)) (cwI n C0.hts hG rfl rfl rfl (C0.hts _ w3) (C0.hts _ w1) (C0.hts _ w2) i1 ⟨d1, d2, d3⟩ r1) ⟨am_blind, fun U hU hW => ?_⟩ rfl (by rw [List.length_map]; exact hn) hl.1 (by simp [am_v, ha]) (lv_room (by rw [am_sum]; exact hsum)) (am_dec_ok hd) r2) kk
  have := am_pre C0 hP hS (.ref i :: As) U hU hW
  simpa [am_v, ha] using this
theorem am_callIN {i : Nat} {rest : List Value} (As : List Value) (C0 : am_Cx x own cc nL) (hilt : i < y.length) (hy : y.length ≤ 98) (hw : am_wIN own idx mi n) (hM : am_Met (am_la x) mi rm (.ref i :: As) y g w none y' g' w') (hR : am_rm (am_R x) mi rm cs = true) (hn : As.length = n) (hst : st = As.reverse ++ .ref i :: rest) (hsum : (rest.map fun v => v.category).sum ≤ 8) (hd : am_dec cc pc (.invokespecial idx) 3 = true)
    (kk : am_Ev x nL (cs.1 + rm.cells, cs.2 + rm.slots) Q (pc + 3) L rest y' g' w') : am_Ev x nL cs Q pc L st y g w := by
  intro H locs ls hP hS hl
  obtain ⟨⟨⟨pp, w1⟩, w2, w3, w5⟩, i1, i2, d1, d2, d3⟩ := hw
  obtain ⟨r1, r2⟩ := am_rm_ok hR
  obtain ⟨nm, bc, mL, rt⟩ := mi
  have i2 : rt = none := i2
  subst i2
  have hG : GoodIn am_tbl (Cond.code nm bc mL none :: am_tbl) := am_goodC (mi := (nm, bc, mL, none)) w5
  subst hst
  have ha : am_xa x i = am_ba x + i := am_ad_lt hilt hy
  refine am_fin (ro := none) hS hl (va_runIN (y := nm) (bytes := bc) (maxL := mL) (ws := Cond.code nm bc mL none :: am_tbl) (nL := nL) (Ts := am_tbl) (As := As.map (am_v (am_xa x))) (b := am_ba x + i) ⟨C0.hx, C0.hb, C0.hml, C0.hown, C0.hts⟩ (hM (am_Dg x) (am_c3 x) (am_ba x) (am_tt x) (am_sc x)) ⟨va_cnB n C0.hts hG rfl rfl rfl (C0.hN _ w1) (C0.hts _ w3) ⟨d1, d2, d3⟩ r1, i1, C0.hts _ w2⟩ ⟨am_blind, fun U hU hW => ?_⟩ rfl (by rw [List.length_map]; exact hn) hl.1 (by simp [am_v, ha]) (lv_room (by rw [am_sum]; exact hsum)) (am_dec_ok hd) r2) kk
  have := am_pre C0 hP hS (.ref i :: As) U hU hW
  simpa [am_v, ha] using this
end AMC3
end
section
/-! the static row, arraycopy, what constructors do -/
section AMW
variable {p : Program} {l : Launch} {e : Env} {R : Room} {s : State} {m : MethodId} {args : Array Value} {below : List Frame} {meth : Method} {c : Code} {H : Heap} {locs : List Loc} {cells slots : Nat} {Q : State → Prop}
variable {cc : ByteArray} {pc : Nat} {ls : Array Slot} {rest : List Value} {D : va_G} {cl : List vw_C} {A : Nat → Prop} {a : Nat} {tys : List (ClassId × FieldType)} {ws : va_W} {H0 : Heap}
theorem am_copyW {cc : ByteArray} (hexec : p.tables.exec = Jvm.exec) (hb : c.code = cc) (hml : c.maxLocals = ls.size) {own : String} {index : Nat} (hown : s.vm.findClass own = some m.cls) (hlink : (Cond.methodLink own index arraycopyName).before args s = true) (hnat : (Cond.native arraycopyName).before args s = true) (hstat : (Cond.static arraycopyName).before args s = true) (hini : (Cond.initialized "java/lang/System").before args s = true)
    (hK : va_K D cl tys s) (hP : va_P D cl ws H) (hD : va_D A ws) (hS : va_S A H0 H locs) (q0 q1 t0 t1 : Nat) {a0 : Nat} {c0 c1 : ClassId} {n0 n1 : Nat} {f g : Nat → Int32} {ty : FieldType} (ha0 : ws[q0]? = some (a0, .inl (c0, n0, .inl f))) (ha1 : ws[q1]? = some (a, .inl (c1, n1, .inl g))) (ht0 : tys[t0]? = some (c0, ty)) (ht1 : tys[t1]? = some (c1, ty)) (hprim : refKind ty = false)
    {sp dp n : Int32} (h1 : ¬ sp < 0) (h2 : ¬ dp < 0) (h3 : ¬ n < 0) (h4 : sp.toNatClampNeg + n.toNatClampNeg ≤ n0) (h5 : dp.toNatClampNeg + n.toNatClampNeg ≤ n1) (hfit : ∀ i, i < n.toNatClampNeg → fits ty (.int (f (sp.toNatClampNeg + i))) = true)
    (hframes : 1 ≤ R.frames) (hlocals : (rest.map fun v => v.category).sum + (nativeFrameWords "java/lang/System" "arraycopy" 5 + 11) ≤ R.locals) (hdg : decode cc pc = .ok (.invokestatic index, 3))
    (kk : ∀ (H1 : Heap) (locs1 : List Loc), H1.size = H.size → va_P D cl (ws.set q1 (a, .inl (c1, n1, .inl (va_cpy f g sp.toNatClampNeg dp.toNatClampNeg n.toNatClampNeg)))) H1 → va_S A H0 H1 locs1 → W p l e R s m args below meth c H1 locs1 cells slots Q (F0 m (pc + 3) ls rest)) : W p l e R s m args below meth c H locs cells slots Q (F0 m pc ls (.int n :: .int dp :: .ref a :: .int sp :: .ref a0 :: rest)) := by
  have nn : ∀ z : Int32, ¬ z < 0 → z.toInt = (z.toNatClampNeg : Int) := by
    intro z hz
    have hz0 : (0 : Int) ≤ z.toInt := by
      have := Int32.not_lt.mp hz
      simpa using Int32.le_iff_toInt_le.mp this
    show z.toInt = ((z.toInt.toNat : Nat) : Int)
    omega
  intro T hT X
  have hc0 : H[a0]? = some (vp_cell c0 (n0, .inl f)) := hP q0 _ ha0
  have hc1 : H[a]? = some (vp_cell c1 (n1, .inl g)) := hP q1 _ ha1
  obtain ⟨-, k0, hk0, cm0, hkk0⟩ := (hK.2 t0 _ ht0).1 n0 (fun j => .int (f j))
  obtain ⟨-, k1, hk1, cm1, hkk1⟩ := (hK.2 t1 _ ht1).1 n1 (fun j => .int (g j))
  obtain ⟨vm', X', step⟩ := X.arraycopy hexec hown hlink hnat hstat hini (src := a0) (dst := a) (cs := vp_cell c0 (n0, .inl f)) (cd := vp_cell c1 (n1, .inl g)) (srcPos := sp) (destPos := dp) (n := n) (by rw [hT]; exact hc0) (by rw [hT]; exact hc1)
    (fun _ h => by cases h) (fun _ h => by cases h) (fun h => by cases h) (fun h => by cases h) hk0 hk1 hkk0 hkk1 (by simp [hprim]) h1 h2 h3
    (by rw [nn sp h1, nn n h3]; show ¬ _ > ((arrV c0 n0 (fun j => .int (f j))).slots.size : Int); rw [arrV_size]; omega)
    (by rw [nn dp h2, nn n h3]; show ¬ _ > ((arrV c1 n1 (fun j => .int (g j))).slots.size : Int); rw [arrV_size]; omega)
    (fun vm₁ _ i hi => by
      have e : (vp_cell c0 (n0, .inl f)).slots.getD (sp.toNatClampNeg + i) .null = .int (f (sp.toNatClampNeg + i)) := by
        show (arrV c0 n0 (fun j => .int (f j))).slots.getD _ _ = _
        rw [Array.getD_eq_getD_getElem?, arrV_read _ _ (by omega)]
        rfl
      refine ⟨?_, ?_⟩
      · rw [e]
        exact hfit i hi
      · rw [e]
        exact trivial)
    (g := F0 m pc ls (.int n :: .int dp :: .ref a :: .int sp :: .ref a0 :: rest)) rfl (by rw [hml]) (rest := rest) rfl (by rw [hb]; exact hdg) hframes (by show 2 * 0 + _ + _ ≤ _; omega)
  have e1 : copied (vp_cell c0 (n0, .inl f)) (vp_cell c1 (n1, .inl g)) sp dp n = vp_cell c1 (n1, .inl (va_cpy f g sp.toNatClampNeg dp.toNatClampNeg n.toNatClampNeg)) := va_copied (fun z => .int z) c0 c1 f g h4
  rw [e1] at X' step
  have hl : a < H.size := (Array.getElem?_eq_some_iff.mp hc1).1
  have hheap : ((T.setVm vm').setCell a (vp_cell c1 (n1, .inl (va_cpy f g sp.toNatClampNeg dp.toNatClampNeg n.toNatClampNeg)))).heap = H.setIfInBounds a (vp_cell c1 (n1, .inl (va_cpy f g sp.toNatClampNeg dp.toNatClampNeg n.toNatClampNeg))) := by rw [← hT]; rfl
  have oq : ∀ q : Nat, q ≠ a → (H.setIfInBounds a (vp_cell c1 (n1, .inl (va_cpy f g sp.toNatClampNeg dp.toNatClampNeg n.toNatClampNeg))))[q]? = H[q]? := fun q hq => by simp [Array.getElem?_setIfInBounds, Ne.symm hq]
  obtain ⟨t, a1, b1⟩ := kk _ _ (by simp) (hP.set hD ha1 (show (H.setIfInBounds a _)[a]? = some _ by simp [Array.getElem?_setIfInBounds, hl]) oq) ⟨by simp; exact hS.1, fun q g1 g2 => by
      rw [oq q (fun e => g2 (by rw [e]; exact hD.2 q1 _ ha1))]
      exact hS.2.1 q g1 g2, fun q hq => by
      rcases List.mem_append.mp hq with h | h
      · exact hS.2.2 q h
      · obtain ⟨z, -, hz⟩ := List.mem_map.mp h
        rw [← hz]
        exact hD.2 q1 _ ha1⟩ _ hheap X'
  exact ⟨t, step t a1, b1⟩
end AMW
def am_cp (g : am_G) (s0 d sp dp n : Nat) : am_G := fun a => if a = d then va_cpy (g s0) (g d) sp dp n else g a
theorem am_cp_at (g : am_G) (s0 d sp dp n a k : Nat) : am_cp g s0 d sp dp n a k = if a = d ∧ dp ≤ k ∧ k < dp + n then g s0 (sp + (k - dp)) else g a k := by
  unfold am_cp
  by_cases h : a = d
  · subst h
    simp [va_cpy]
  · simp [h]
section AMM
variable {x : am_X} {own : Nat} {cc : ByteArray} {nL : Nat} {cs : Nat × Nat} {Q : State → Prop} {pc : Nat} {L L' : List (Option Value)} {st st' : List Value} {y y' : am_Y} {g g' : am_G} {w w' : am_J} {ret : Option FieldType}
theorem am_gets (C0 : am_Cx x 7 cc nL) (hw : Cond.fieldLink RX7 180 RX7 "BEYOND_THINGS" "[J" ∈ am_tbl) (hd : am_dec cc pc (.getstatic 180) 3 = true) (kk : am_Ev x nL cs Q (pc + 3) L (.ref 99 :: st) y g w) : am_Ev x nL cs Q pc L st y g w := by
  intro H locs ls hP hS hl
  have k2 := kk H locs ls hP hS hl
  have e : (List.map (am_v (am_xa x)) (.ref 99 :: st)) = .ref (am_tt x) :: st.map (am_v (am_xa x)) := by simp [am_v, am_ad]
  rw [e] at k2
  exact va_gets C0.hx C0.hb C0.hT.1 hS C0.hown (C0.hts _ hw) (fun _ h => h) (am_dec_ok hd) k2
theorem am_tl (C0 : am_Cx x own cc nL) {j : Int32} (hin : am_in j 6) (hd : am_dec cc pc .laload 1 = true) (kk : am_Ev x nL cs Q (pc + 1) L (.long (am_bt j.toNatClampNeg) :: st) y g w) : am_Ev x nL cs Q pc L (.int j :: .ref 99 :: st) y g w := by
  intro H locs ls hP hS hl
  have k2 := kk H locs ls hP hS hl
  have e : (List.map (am_v (am_xa x)) (.int j :: .ref 99 :: st)) = .int j :: .ref (am_tt x) :: st.map (am_v (am_xa x)) := by simp [am_v, am_ad]
  rw [e]
  exact va_tl C0.hx C0.hb C0.hT.2 hS hin rfl (am_dec_ok hd) k2
theorem am_copy (C0 : am_Cx x own cc nL) (hy : y.length ≤ 98) {idx s0 d n0 n1 : Nat} {sp dp n : Int32} {rest : List Value} (hs0 : y[s0]? = some (.inl (0, n0))) (hd1 : y[d]? = some (.inl (0, n1))) (hw : Cond.methodLink (am_cn own) idx arraycopyName ∈ am_tbl ∧ Cond.native arraycopyName ∈ am_tbl ∧ Cond.static arraycopyName ∈ am_tbl ∧ Cond.initialized "java/lang/System" ∈ am_tbl)
    (hc : (¬ sp < 0 ∧ ¬ dp < 0) ∧ ¬ n < 0 ∧ sp.toNatClampNeg + n.toNatClampNeg ≤ n0 ∧ dp.toNatClampNeg + n.toNatClampNeg ≤ n1) (hR : 1 ≤ (am_R x).frames ∧ 8 + (nativeFrameWords "java/lang/System" "arraycopy" 5 + 11) ≤ (am_R x).locals) (hsum : (rest.map fun v => v.category).sum ≤ 8) (hd : am_dec cc pc (.invokestatic idx) 3 = true)
    (kk : am_Ev x nL cs Q (pc + 3) L rest y (am_cp g s0 d sp.toNatClampNeg dp.toNatClampNeg n.toNatClampNeg) w) : am_Ev x nL cs Q pc L (.int n :: .int dp :: .ref d :: .int sp :: .ref s0 :: rest) y g w := by
  intro H locs ls hP hS hl
  have ha0 : am_xa x s0 = am_ba x + s0 := am_ad_lt (List.getElem?_eq_some_iff.mp hs0).1 hy
  have ha1 : am_xa x d = am_ba x + d := am_ad_lt (List.getElem?_eq_some_iff.mp hd1).1 hy
  have hw0 := am_w_at (c3 := am_c3 x) (ad := am_xa x) (base := am_ba x) (g := g) (w := w) hs0
  have hw1 := am_w_at (c3 := am_c3 x) (ad := am_xa x) (base := am_ba x) (g := g) (w := w) hd1
  have e : (List.map (am_v (am_xa x)) (.int n :: .int dp :: .ref d :: .int sp :: .ref s0 :: rest)) = .int n :: .int dp :: .ref (am_ba x + d) :: .int sp :: .ref (am_ba x + s0) :: rest.map (am_v (am_xa x)) := by simp [am_v, ha0, ha1]
  rw [e]
  refine am_copyW C0.hx C0.hb (by rw [C0.hml, hl.1]) C0.hown (C0.hts _ hw.1) (C0.hts _ hw.2.1) (C0.hts _ hw.2.2.1) (C0.hts _ hw.2.2.2) C0.hK hP.2 am_D hS s0 d 0 0 hw0 hw1 rfl rfl rfl hc.1.1 hc.1.2 hc.2.1 hc.2.2.1 hc.2.2.2 (fun _ _ => rfl) hR.1 (by rw [am_sum]; omega) (am_dec_ok hd) (fun H1 locs1 z hP1 hS1 => kk H1 locs1 ls (hP.put z hP1 hd1 (fun a h => by simp [am_cp, h]) (fun _ _ => rfl) ?_) hS1 hl)
  simp [am_e, am_cp]
theorem am_obj (C0 : am_Cx x own cc nL) (hy : y.length ≤ 98) {idx i : Nat} {rest : List Value} (hi : i < y.length) (hw : Cond.methodLink (am_cn own) idx objectInit ∈ am_tbl ∧ Cond.instanceMethod objectInit ∈ am_tbl ∧ Cond.code objectInit ⟨#[0xb1]⟩ 1 none ∈ am_tbl) (hR : 1 ≤ (am_R x).frames ∧ 20 ≤ (am_R x).locals) (hsum : (rest.map fun v => v.category).sum ≤ 8) (hd : am_dec cc pc (.invokespecial idx) 3 = true)
    (kk : am_Ev x nL cs Q (pc + 3) L rest y g w) : am_Ev x nL cs Q pc L (.ref i :: rest) y g w := by
  intro H locs ls hP hS hl
  have ha0 : am_xa x i = am_ba x + i := am_ad_lt hi hy
  have e : (List.map (am_v (am_xa x)) (.ref i :: rest)) = .ref (am_ba x + i) :: rest.map (am_v (am_xa x)) := by simp [am_v, ha0]
  rw [e]
  have hr := lv_room (m := am_m x) (pc := pc) (ls := ls) (rest := .ref (am_ba x + i) :: rest.map (am_v (am_xa x))) (st := rest.map (am_v (am_xa x))) (by rw [am_sum]; exact hsum)
  exact W.objInit C0.hx C0.hb C0.hown (C0.hts _ hw.1) (C0.hts _ hw.2.1) (C0.hts _ hw.2.2) rfl (by rw [C0.hml]; exact hl.1) rfl (am_dec_ok hd) hR.1 (by omega) (kk H locs ls hP hS hl)
/-- one more cell -/
theorem am_w_app {c3 : ClassId × ClassId × ClassId} {ad : Nat → Nat} {base : Nat} {sh : am_Sh} : am_w c3 ad base (y ++ [sh]) g w = am_w c3 ad base y g w ++ [(base + y.length, am_e c3 ad g w y.length sh)] := by
  simp [am_w, List.zipIdx_append]
def am_k0 (ty : FieldType) : am_Kd := match ty with
  | .int => .inl 0
  | .long => .inl 1
  | _ => .inr none
def am_o0 (ci : Nat) : am_Sh := .inr (ci, (List.range (am_Nc ci)).map (fun k => am_k0 (am_yc ci k)))
def am_tys (ci : Nat) : Bool := (List.range (am_Nc ci)).all (fun k => match am_yc ci k with
  | .int => true
  | .long => true
  | .object _ => true
  | .array _ => true
  | _ => false)
theorem am_new (C0 : am_Cx x own cc nL) {idx ci : Nat} (hci : ci < 9) (hty : am_tys ci = true) (hz : ∀ k, g y.length k = 0 ∧ w y.length k = 0) (hy : y.length < 98) (hw : Cond.classLink (am_cn own) idx (am_Rc ci) ∈ am_tbl ∧ Cond.instantiable (am_Rc ci) (am_Nc ci) ∈ am_tbl ∧ Cond.initialized (am_Rc ci) ∈ am_tbl) (hR : cs.1 + 1 ≤ (am_R x).cells ∧ cs.2 + am_Nc ci ≤ (am_R x).slots) (hd : am_dec cc pc (.new idx) 3 = true)
    (hb : am_ba x ≤ (am_s x).heap.size) (kk : am_Ev x nL (cs.1 + 1, cs.2 + am_Nc ci) Q (pc + 3) L (.ref y.length :: st) (y ++ [am_o0 ci]) g w) : am_Ev x nL cs Q pc L st y g w := by
  intro H locs ls hP hS hl
  have hKn := C0.hK.1 ci _ (am_clc ci hci)
  have ha : am_xa x y.length = am_ba x + y.length := am_ad_lt (n := y.length + 1) (by omega) (by omega)
  refine W.newcK C0.hx C0.hb C0.hown (C0.hts _ hw.1) (C0.hts _ hw.2.1) (C0.hts _ hw.2.2) rfl (am_dec_ok hd) hR.1 hR.2 hKn.2.1 hP.1 fun H1 kC hkC e1 z1 o1 => ?_
  have hk : ∀ (k : Nat) (q : Nat × va_E), (am_w (am_c3 x) (am_xa x) (am_ba x) y g w)[k]? = some q → H1[q.1]? = H[q.1]? := fun k q hq => o1 q.1 (by rw [← hP.1]; exact (hP.2 k q hq).lt)
  have k2 := kk H1 locs ls ⟨by rw [z1, List.length_append]; simp; omega, by
    rw [am_w_app]
    refine (hP.2.kept hk).app (fun k q hq => ?_)
    have hz0 : k < 1 := (List.getElem?_eq_some_iff.mp hq).1
    rw [show k = 0 by omega] at hq
    cases hq
    refine ⟨_, am_clc ci hci, (u_born (am_yc ci) C0.hts (am_wic ci hci) hKn hkC e1 (am_tyc ci hci)).to (fun j hj => ?_)⟩
    show defaultValue (am_yc ci j) = vp_V (am_fs (am_xa x) g w y.length _) j
    have hget : (((List.range (am_Nc ci)).map (fun k => am_k0 (am_yc ci k))))[j]? = some (am_k0 (am_yc ci j)) := by
      have hj' : j < am_Nc ci := hj
      rw [List.getElem?_map, List.getElem?_range hj']
      rfl
    have hty2 := List.all_eq_true.mp hty j (List.mem_range.mpr hj)
    simp only [vp_V, List.getD_eq_getElem?_getD, am_fs_at hget, Option.getD_some]
    cases hyc : am_yc ci j <;> simp [am_k0, am_fv, am_v, hz, defaultValue, hyc] at hty2 ⊢⟩ ⟨Nat.le_trans hS.1 (by rw [z1, hP.1]; omega), fun q h1 h2 => (o1 q (by have h3 : q < (am_s x).heap.size := h1; have := hS.1; rw [hP.1] at this; omega)).trans (hS.2.1 q h1 h2), hS.2.2⟩ hl
  have e : (List.map (am_v (am_xa x)) (.ref y.length :: st)) = .ref (am_ba x + y.length) :: st.map (am_v (am_xa x)) := by simp [am_v, ha]
  rw [e] at k2
  exact k2
end AMM
end
section
/-! constructors: new arrays, final fields -/
section AMI
variable {x : am_X} {own : Nat} {cc : ByteArray} {nL : Nat} {cs : Nat × Nat} {Q : State → Prop} {pc : Nat} {L L' : List (Option Value)} {st st' : List Value} {y y' : am_Y} {g g' : am_G} {w w' : am_J} {ret : Option FieldType}
def am_at0 (t : Nat) : ArrayType := match t with
  | 0 => .int
  | 1 => .boolean
  | _ => .long
def am_ft (t : Nat) : FieldType := match t with
  | 0 => .int
  | 1 => .boolean
  | _ => .long
theorem am_newa (C0 : am_Cx x own cc nL) {t N : Nat} {n : Int32} (ht : t < 3) (hn : ¬ n < 0) (hN : n.toNatClampNeg = N) (hz : ∀ k, g y.length k = 0 ∧ w y.length k = 0) (hy : y.length < 98) (hw : Cond.arrayClass (am_ft t) ∈ am_tbl) (hsm : N ≤ 1000) (hR : cs.1 + 1 ≤ (am_R x).cells ∧ cs.2 + N ≤ (am_R x).slots) (hd : am_dec cc pc (.newarray (am_at0 t)) 2 = true)
    (kk : am_Ev x nL (cs.1 + 1, cs.2 + N) Q (pc + 2) L (.ref y.length :: st) (y ++ [.inl (t, N)]) g w) : am_Ev x nL cs Q pc L (.int n :: st) y g w := by
  intro H locs ls hP hS hl
  have ha : am_xa x y.length = am_ba x + y.length := am_ad_lt (n := y.length + 1) (by omega) (by omega)
  have hft : newarray.typeOf (am_at0 t) = am_ft t := by
    match t, ht with
    | 0, _ => rfl
    | 1, _ => rfl
    | 2, _ => rfl
  have hwb : (Cond.arrayClass (newarray.typeOf (am_at0 t))).before (am_a x) (am_s x) = true := by rw [hft]; exact C0.hts _ hw
  refine va_newaK C0.hx C0.hb hwb rfl (am_dec_ok hd) rfl hn hN (by rw [hft]; match t, ht with
    | 0, _ => simp only [am_ft, componentBytes]; omega
    | 1, _ => simp only [am_ft, componentBytes]; omega
    | 2, _ => simp only [am_ft, componentBytes]; omega) hR.1 hR.2 hP.1 fun H1 cA e1 z1 o1 hAr hNm => ?_
  rw [hft] at e1 hNm
  have hk : ∀ (k : Nat) (q : Nat × va_E), (am_w (am_c3 x) (am_xa x) (am_ba x) y g w)[k]? = some q → H1[q.1]? = H[q.1]? := fun k q hq => o1 q.1 (by rw [← hP.1]; exact (hP.2 k q hq).lt)
  have k2 := kk H1 locs ls ⟨by rw [z1, List.length_append]; simp; omega, by
    rw [am_w_app]
    refine (hP.2.kept hk).app (fun k q hq => ?_)
    have hz0 : k < 1 := (List.getElem?_eq_some_iff.mp hq).1
    rw [show k = 0 by omega] at hq
    cases hq
    have hg0 : g y.length = fun _ => 0 := funext fun k => (hz k).1
    have hw0 : w y.length = fun _ => 0 := funext fun k => (hz k).2
    match t, ht with
    | 0, _ =>
      have hc : cA = (am_c3 x).1 := Option.some.inj (hNm.symm.trans (C0.hK.2 0 _ rfl).2)
      show H1[_]? = some (vp_cell _ _)
      rw [← hc, vp_cell_i, hg0]
      exact e1
    | 1, _ =>
      have hc : cA = (am_c3 x).2.1 := Option.some.inj (hNm.symm.trans (C0.hK.2 1 _ rfl).2)
      show H1[_]? = some (vp_cell _ _)
      rw [← hc, vp_cell_i, hg0]
      exact e1
    | 2, _ =>
      have hc : cA = (am_c3 x).2.2 := Option.some.inj (hNm.symm.trans (C0.hK.2 2 _ rfl).2)
      show H1[_]? = some (vp_cell _ _)
      rw [← hc, vp_cell_l, hw0]
      exact e1⟩ ⟨Nat.le_trans hS.1 (by rw [z1, hP.1]; omega), fun q h1 h2 => (o1 q (by have h3 : q < (am_s x).heap.size := h1; have := hS.1; rw [hP.1] at this; omega)).trans (hS.2.1 q h1 h2), hS.2.2⟩ hl
  have e : (List.map (am_v (am_xa x)) (.ref y.length :: st)) = .ref (am_ba x + y.length) :: st.map (am_v (am_xa x)) := by simp [am_v, ha]
  rw [e] at k2
  exact k2
theorem am_w_setY {c3 : ClassId × ClassId × ClassId} {ad : Nat → Nat} {base i : Nat} {sh : am_Sh} : (am_w c3 ad base y g w).set i (base + i, am_e c3 ad g w i sh) = am_w c3 ad base (y.set i sh) g w := by
  apply List.ext_getElem?
  intro k
  by_cases hk : k = i
  · subst hk
    by_cases hl : k < y.length
    · rw [List.getElem?_set_self (by rw [am_w_len]; exact hl), am_w_at (List.getElem?_set_self hl)]
    · rw [List.getElem?_eq_none (by rw [List.length_set, am_w_len]; omega), List.getElem?_eq_none (by rw [am_w_len, List.length_set]; omega)]
  · rw [List.getElem?_set_ne (Ne.symm hk)]
    cases h : y[k]? with
    | none =>
      have h1 : y.length ≤ k := by simpa using h
      rw [List.getElem?_eq_none (by rw [am_w_len]; exact h1), List.getElem?_eq_none (by rw [am_w_len, List.length_set]; exact h1)]
    | some s2 => rw [am_w_at h, am_w_at (show (y.set i sh)[k]? = some s2 by rw [List.getElem?_set_ne (Ne.symm hk)]; exact h)]
theorem am_fs_setK {ad : Nat → Nat} {i k r : Nat} {ks : List am_Kd} (hk : k < ks.length) : (am_fs ad g w i ks).set k (.ref (ad r)) = am_fs ad g w i (ks.set k (.inr (some r))) := by
  apply List.ext_getElem?
  intro j
  by_cases hj : j = k
  · subst hj
    rw [List.getElem?_set_self (by rw [am_fs_len]; exact hk), am_fs_at (List.getElem?_set_self hk)]
    rfl
  · rw [List.getElem?_set_ne (Ne.symm hj)]
    cases h : ks[j]? with
    | none =>
      have h1 : ks.length ≤ j := by simpa using h
      rw [List.getElem?_eq_none (by rw [am_fs_len]; exact h1), List.getElem?_eq_none (by rw [am_fs_len, List.length_set]; exact h1)]
    | some d2 => rw [am_fs_at h, am_fs_at (show (ks.set k (.inr (some r)))[j]? = some d2 by rw [List.getElem?_set_ne (Ne.symm hj)]; exact h)]
def am_isr (ty : FieldType) : Bool := match ty with
  | .object _ => true
  | .array _ => true
  | _ => false
theorem am_pfF (C0 : am_Cx x own cc nL) (hy : y.length ≤ 98) (hnm : (am_me x).name = "<init>") {ci k idx i r : Nat} {ks : List am_Kd} {rest : List Value} (hf : am_flb own idx ci k = true) (hfin : (am_Tc ci k).2.2.2 = true) (hown : (am_Tc ci k).1 = am_cn own) (hr : am_isr (am_yc ci k) = true) (hi : y[i]? = some (.inr (ci, ks))) (hk : k < ks.length) (hd : am_dec cc pc (.putfield idx) 3 = true)
    (kk : am_Ev x nL cs Q (pc + 3) L rest (y.set i (.inr (ci, ks.set k (.inr (some r))))) g w) : am_Ev x nL cs Q pc L (.ref r :: .ref i :: rest) y g w := by
  obtain ⟨h1, h2, h3⟩ := am_flb_ok hf
  intro H locs ls hP hS hl
  have ha : am_xa x i = am_ba x + i := am_ad_lt (List.getElem?_eq_some_iff.mp hi).1 hy
  have hw := am_w_at (c3 := am_c3 x) (ad := am_xa x) (base := am_ba x) (g := g) (w := w) hi
  have e : (List.map (am_v (am_xa x)) (.ref r :: .ref i :: rest)) = .ref (am_xa x r) :: .ref (am_ba x + i) :: rest.map (am_v (am_xa x)) := by simp [am_v, ha]
  rw [e]
  refine am_putFW C0.hx C0.hb C0.hts (am_wic ci h1) (am_yc ci) (am_tyc ci h1) (am_nmc ci h1) C0.hown C0.hK hP.2 am_D hS i hw (am_clc ci h1) k h2 (C0.hts _ h3) (fun _ h9 => h9) hfin hnm hown (am_tyc ci h1 k h2) ?_ ?_ (by rw [am_fs_len]; exact hk) (am_dec_ok hd) (fun H1 locs1 hz hP1 hS1 => kk H1 locs1 ls ⟨by rw [hz, List.length_set]; exact hP.1, ?_⟩ hS1 hl)
  · cases hyc : am_yc ci k <;> first | rfl | (rw [hyc] at hr; cases hr)
  · cases hyc : am_yc ci k <;> first | rfl | (rw [hyc] at hr; cases hr)
  · rw [am_fs_setK hk] at hP1
    have := am_w_setY (c3 := am_c3 x) (ad := am_xa x) (base := am_ba x) (y := y) (g := g) (w := w) (i := i) (sh := .inr (ci, ks.set k (.inr (some r))))
    rw [← this]
    exact hP1
end AMI
end
section
/-! the JDK's Math -/
def am_max (x y : Int32) : Int32 := if x < y then y else x
def am_min (x y : Int32) : Int32 := if y < x then y else x
def am_abs (x : Int32) : Int32 := if 0 ≤ x then x else 0 - x
def am_lmin (x y : Int64) : Int64 := if y < x then y else x
def am_wM (own idx : Nat) (nm : MethodName) (cd : ByteArray) (n : Nat) (rt : Option FieldType) : Prop := Cond.methodLink (am_cn own) idx nm ∈ am_tbl ∧ Cond.static nm ∈ am_tbl ∧ Cond.initialized "java/lang/Math" ∈ am_tbl ∧ Cond.code nm cd n rt ∈ am_tbl
theorem am_wM.mk {own idx : Nat} {nm : MethodName} {cd : ByteArray} {n : Nat} {rt : Option FieldType} (a b d e : Nat) (h : am_pl [(a, .methodLink (am_cn own) idx nm), (b, .static nm), (d, .initialized "java/lang/Math"), (e, .code nm cd n rt)] = true) : am_wM own idx nm cd n rt := by
  have h1 := am_pl_ok h
  exact ⟨h1 (a, _) (by simp), h1 (b, _) (by simp), h1 (d, _) (by simp), h1 (e, _) (by simp)⟩
section AMN
variable {x : am_X} {own : Nat} {cc : ByteArray} {nL : Nat} {Q : State → Prop} {pc idx : Nat} {L : List (Option Value)} {st : List Value} {y : am_Y} {g : am_G} {w : am_J} {a b : Int32}
theorem am_mmax (C0 : am_Cx x own cc nL) (hw : am_wM own idx Lib.Math.max.name Lib.Math.max.code 2 (some .int)) (hR : 1 ≤ (am_R x).frames ∧ 23 ≤ (am_R x).locals) (hsum : (st.map fun v => v.category).sum ≤ 8) (hd : am_dec cc pc (.invokestatic idx) 3 = true) (kk : am_Ev x nL (0, 0) Q (pc + 3) L (.int (am_max a b) :: st) y g w) : am_Ev x nL (0, 0) Q pc L (.int b :: .int a :: st) y g w :=
  fun H locs ls hP hS hl => va_mmax C0.hx C0.hb (by rw [C0.hml, hl.1]) C0.hown (C0.hts _ hw.1) (C0.hts _ hw.2.1) (C0.hts _ hw.2.2.1) (C0.hts _ hw.2.2.2) hR.1 (by rw [am_sum]; omega) (Nat.zero_le _) (Nat.zero_le _) (am_dec_ok hd) (kk H locs ls hP hS hl)
theorem am_mmin (C0 : am_Cx x own cc nL) (hw : am_wM own idx Lib.Math.min.name Lib.Math.min.code 2 (some .int)) (hR : 1 ≤ (am_R x).frames ∧ 23 ≤ (am_R x).locals) (hsum : (st.map fun v => v.category).sum ≤ 8) (hd : am_dec cc pc (.invokestatic idx) 3 = true) (kk : am_Ev x nL (0, 0) Q (pc + 3) L (.int (am_min a b) :: st) y g w) : am_Ev x nL (0, 0) Q pc L (.int b :: .int a :: st) y g w :=
  fun H locs ls hP hS hl => va_mmin C0.hx C0.hb (by rw [C0.hml, hl.1]) C0.hown (C0.hts _ hw.1) (C0.hts _ hw.2.1) (C0.hts _ hw.2.2.1) (C0.hts _ hw.2.2.2) hR.1 (by rw [am_sum]; omega) (Nat.zero_le _) (Nat.zero_le _) (am_dec_ok hd) (kk H locs ls hP hS hl)
theorem am_mabs (C0 : am_Cx x own cc nL) (hw : am_wM own idx Lib.Math.abs.name Lib.Math.abs.code 1 (some .int)) (hR : 1 ≤ (am_R x).frames ∧ 23 ≤ (am_R x).locals) (hsum : (st.map fun v => v.category).sum ≤ 8) (hd : am_dec cc pc (.invokestatic idx) 3 = true) (kk : am_Ev x nL (0, 0) Q (pc + 3) L (.int (am_abs a) :: st) y g w) : am_Ev x nL (0, 0) Q pc L (.int a :: st) y g w :=
  fun H locs ls hP hS hl => va_mabs C0.hx C0.hb (by rw [C0.hml, hl.1]) C0.hown (C0.hts _ hw.1) (C0.hts _ hw.2.1) (C0.hts _ hw.2.2.1) (C0.hts _ hw.2.2.2) hR.1 (by rw [am_sum]; omega) (Nat.zero_le _) (Nat.zero_le _) (am_dec_ok hd) (kk H locs ls hP hS hl)
theorem am_mlmin {a b : Int64} (C0 : am_Cx x own cc nL) (hw : am_wM own idx Lib.MathLoose.min_long.x Lib.MathLoose.min_long.code 4 (some .long)) (hR : 1 ≤ (am_R x).frames ∧ 23 ≤ (am_R x).locals) (hsum : (st.map fun v => v.category).sum ≤ 8) (hd : am_dec cc pc (.invokestatic idx) 3 = true) (kk : am_Ev x nL (0, 0) Q (pc + 3) L (.long (am_lmin a b) :: st) y g w) : am_Ev x nL (0, 0) Q pc L (.long b :: .long a :: st) y g w :=
  fun H locs ls hP hS hl => va_mmin_long C0.hx C0.hb (by rw [C0.hml, hl.1]) C0.hown (C0.hts _ hw.1) (C0.hts _ hw.2.1) (C0.hts _ hw.2.2.1) (C0.hts _ hw.2.2.2) hR.1 (by rw [am_sum]; omega) (Nat.zero_le _) (Nat.zero_le _) (am_dec_ok hd) (kk H locs ls hP hS hl)
end AMN
end
section
/-! by program: the layout, the methods, their rooms, the words of their calls -/
def am_YY : am_Y := [.inr (7, [.inr (some 1), .inr (some 3), .inr (some 10), .inr (some 13), .inr (some 16), .inr (some 18), .inr (some 20), .inr (some 22), .inr (some 24), .inr (some 25), .inl 1]), .inr (3, [.inr (some 2), .inl 0]), .inl (0, 48), .inr (2, [.inr (some 4), .inr (some 5), .inr (some 6), .inr (some 7), .inr (some 8), .inr (some 9), .inl 0, .inl 0]), .inl (0, 4), .inl (0, 6), .inl (0, 6), .inl (0, 6), .inl (0, 6), .inl (0, 6), .inr (4, [.inr (some 3), .inr (some 11), .inr (some 12), .inl 0]), .inl (0, 6), .inl (0, 6), .inr (4, [.inr (some 3), .inr (some 14), .inr (some 15), .inl 0]), .inl (0, 6), .inl (0, 6), .inr (0, [.inr (some 17), .inl 0]), .inl (0, 182), .inr (5, [.inr (some 19), .inl 0]), .inl (0, 26), .inr (6, [.inr (some 3), .inr (some 21)]), .inl (2, 6), .inr (1, [.inr (some 23), .inl 0]), .inl (0, 4), .inl (0, 6), .inl (0, 6), .inr (8, [.inl 0, .inl 0, .inr (some 27), .inr (some 28), .inr (some 29), .inr (some 30), .inr (some 31), .inr (some 32), .inr (some 33), .inr (some 34), .inl 0, .inl 0, .inl 0, .inr (some 35), .inl 0, .inl 0, .inl 0, .inl 0, .inl 0, .inr (some 36), .inl 0, .inl 0, .inl 0, .inl 0, .inr (some 37), .inr (some 38), .inr (some 39), .inr (some 40), .inl 1, .inr (some 41), .inr (some 42)]), .inl (0, 4), .inl (0, 6), .inl (0, 6), .inl (0, 6), .inl (0, 6), .inl (0, 26), .inl (0, 4), .inl (0, 30), .inl (0, 48), .inl (0, 182), .inl (0, 6), .inl (0, 6), .inl (1, 6), .inl (0, 12), .inl (1, 2), .inl (0, 26)]
theorem am_YYk : am_yk am_YY = true := by decide +kernel
theorem am_YYl : am_YY.length ≤ 98 := by decide
theorem am_g {α : Type} {c : Prop} [Decidable c] {a : Option α} {r : α} (h : (if c then a else none) = some r) : c ∧ a = some r := by
  split at h
  · exact ⟨by assumption, h⟩
  · cases h
theorem am_sw2 {a : Int32} (h0 : ¬ a = 0) (h1 : ¬ a = 1) (h2 : ¬ a = 2) : a.toInt < 0 ∨ 2 < a.toInt := by
  have e0 : a.toInt ≠ 0 := fun q => h0 (Int32.toInt_inj.mp (by rw [q]; rfl))
  have e1 : a.toInt ≠ 1 := fun q => h1 (Int32.toInt_inj.mp (by rw [q]; rfl))
  have e2 : a.toInt ≠ 2 := fun q => h2 (Int32.toInt_inj.mp (by rw [q]; rfl))
  omega
theorem am_sw7 {a : Int32} (h0 : ¬ a = 0) (h1 : ¬ a = 1) (h2 : ¬ a = 2) (h3 : ¬ a = 3) (h4 : ¬ a = 4) (h5 : ¬ a = 5) (h6 : ¬ a = 6) (h7 : ¬ a = 7) : a.toInt < 0 ∨ 7 < a.toInt := by
  have e0 : a.toInt ≠ 0 := fun q => h0 (Int32.toInt_inj.mp (by rw [q]; rfl))
  have e1 : a.toInt ≠ 1 := fun q => h1 (Int32.toInt_inj.mp (by rw [q]; rfl))
  have e2 : a.toInt ≠ 2 := fun q => h2 (Int32.toInt_inj.mp (by rw [q]; rfl))
  have e3 : a.toInt ≠ 3 := fun q => h3 (Int32.toInt_inj.mp (by rw [q]; rfl))
  have e4 : a.toInt ≠ 4 := fun q => h4 (Int32.toInt_inj.mp (by rw [q]; rfl))
  have e5 : a.toInt ≠ 5 := fun q => h5 (Int32.toInt_inj.mp (by rw [q]; rfl))
  have e6 : a.toInt ≠ 6 := fun q => h6 (Int32.toInt_inj.mp (by rw [q]; rfl))
  have e7 : a.toInt ≠ 7 := fun q => h7 (Int32.toInt_inj.mp (by rw [q]; rfl))
  omega
theorem am_sw8 {a : Int32} (h0 : ¬ a = 0) (h1 : ¬ a = 1) (h2 : ¬ a = 2) (h3 : ¬ a = 3) (h4 : ¬ a = 4) (h5 : ¬ a = 5) (h6 : ¬ a = 6) (h7 : ¬ a = 7) (h8 : ¬ a = 8) : a.toInt < 0 ∨ 8 < a.toInt := by
  have e0 : a.toInt ≠ 0 := fun q => h0 (Int32.toInt_inj.mp (by rw [q]; rfl))
  have e1 : a.toInt ≠ 1 := fun q => h1 (Int32.toInt_inj.mp (by rw [q]; rfl))
  have e2 : a.toInt ≠ 2 := fun q => h2 (Int32.toInt_inj.mp (by rw [q]; rfl))
  have e3 : a.toInt ≠ 3 := fun q => h3 (Int32.toInt_inj.mp (by rw [q]; rfl))
  have e4 : a.toInt ≠ 4 := fun q => h4 (Int32.toInt_inj.mp (by rw [q]; rfl))
  have e5 : a.toInt ≠ 5 := fun q => h5 (Int32.toInt_inj.mp (by rw [q]; rfl))
  have e6 : a.toInt ≠ 6 := fun q => h6 (Int32.toInt_inj.mp (by rw [q]; rfl))
  have e7 : a.toInt ≠ 7 := fun q => h7 (Int32.toInt_inj.mp (by rw [q]; rfl))
  have e8 : a.toInt ≠ 8 := fun q => h8 (Int32.toInt_inj.mp (by rw [q]; rfl))
  omega
theorem am_gsw : Cond.fieldLink RX7 180 RX7 "BEYOND_THINGS" "[J" ∈ am_tbl := am_at 526 (by decide +kernel) rfl
theorem am_acw_0 : Cond.methodLink (am_cn 0) 31 arraycopyName ∈ am_tbl ∧ Cond.native arraycopyName ∈ am_tbl ∧ Cond.static arraycopyName ∈ am_tbl ∧ Cond.initialized "java/lang/System" ∈ am_tbl := ⟨am_at 379 (by decide +kernel) rfl, am_at 381 (by decide +kernel) rfl, am_at 380 (by decide +kernel) rfl, am_at 50 (by decide +kernel) rfl⟩
theorem am_acw_4 : Cond.methodLink (am_cn 4) 77 arraycopyName ∈ am_tbl ∧ Cond.native arraycopyName ∈ am_tbl ∧ Cond.static arraycopyName ∈ am_tbl ∧ Cond.initialized "java/lang/System" ∈ am_tbl := ⟨am_at 386 (by decide +kernel) rfl, am_at 381 (by decide +kernel) rfl, am_at 380 (by decide +kernel) rfl, am_at 50 (by decide +kernel) rfl⟩
abbrev mi_X3_add : am_MI := (yX3_add, cX3_add, 2, (some .boolean))
abbrev rm_X3_add : Room := { frames := 0, cells := 0, slots := 0, locals := 0 }
abbrev mi_X3_size : am_MI := (yX3_size, cX3_size, 1, (some .int))
abbrev rm_X3_size : Room := { frames := 0, cells := 0, slots := 0, locals := 0 }
abbrev mi_X7_write : am_MI := (yX7_write, cX7_write, 2, (some .int))
abbrev rm_X7_write : Room := { frames := 1, cells := 0, slots := 0, locals := 21 }
abbrev mi_X3_clear : am_MI := (yX3_clear, cX3_clear, 1, none)
abbrev rm_X3_clear : Room := { frames := 0, cells := 0, slots := 0, locals := 0 }
abbrev mi_X7_wipe : am_MI := (yX7_wipe, cX7_wipe, 2, (some .int))
abbrev rm_X7_wipe : Room := { frames := 1, cells := 0, slots := 0, locals := 20 }
abbrev mi_X3_isLetter : am_MI := (yX3_isLetter, cX3_isLetter, 3, (some .boolean))
abbrev rm_X3_isLetter : Room := { frames := 0, cells := 0, slots := 0, locals := 0 }
abbrev mi_X3_figure : am_MI := (yX3_figure, cX3_figure, 2, (some .int))
abbrev rm_X3_figure : Room := { frames := 0, cells := 0, slots := 0, locals := 0 }
abbrev mi_X3_isFigure : am_MI := (yX3_isFigure, cX3_isFigure, 5, (some .boolean))
abbrev rm_X3_isFigure : Room := { frames := 1, cells := 0, slots := 0, locals := 21 }
abbrev mi_X3_fitsHead : am_MI := (yX3_fitsHead, cX3_fitsHead, 2, (some .boolean))
abbrev rm_X3_fitsHead : Room := { frames := 2, cells := 0, slots := 0, locals := 45 }
abbrev mi_X3_isTaken : am_MI := (yX3_isTaken, cX3_isTaken, 4, (some .boolean))
abbrev rm_X3_isTaken : Room := { frames := 1, cells := 0, slots := 0, locals := 21 }
abbrev mi_X3_fitsWindow : am_MI := (yX3_fitsWindow, cX3_fitsWindow, 2, (some .boolean))
abbrev rm_X3_fitsWindow : Room := { frames := 2, cells := 0, slots := 0, locals := 45 }
abbrev mi_X3_firstFault : am_MI := (yX3_firstFault, cX3_firstFault, 3, (some .int))
abbrev rm_X3_firstFault : Room := { frames := 3, cells := 0, slots := 0, locals := 66 }
abbrev mi_X7_fault : am_MI := (yX7_fault, cX7_fault, 1, (some .int))
abbrev rm_X7_fault : Room := { frames := 4, cells := 0, slots := 0, locals := 88 }
abbrev mi_X2_has : am_MI := (yX2_has, cX2_has, 2, (some .boolean))
abbrev rm_X2_has : Room := { frames := 0, cells := 0, slots := 0, locals := 0 }
abbrev mi_X2_side : am_MI := (yX2_side, cX2_side, 2, (some .int))
abbrev rm_X2_side : Room := { frames := 1, cells := 0, slots := 0, locals := 21 }
abbrev mi_X2_place : am_MI := (yX2_place, cX2_place, 2, (some .int))
abbrev rm_X2_place : Room := { frames := 1, cells := 0, slots := 0, locals := 21 }
abbrev mi_X2_floor : am_MI := (yX2_floor, cX2_floor, 2, (some .int))
abbrev rm_X2_floor : Room := { frames := 1, cells := 0, slots := 0, locals := 21 }
abbrev mi_X2_facing : am_MI := (yX2_facing, cX2_facing, 7, (some .int))
abbrev rm_X2_facing : Room := { frames := 2, cells := 0, slots := 0, locals := 42 }
abbrev mi_X2_build : am_MI := (yX2_build, cX2_build, 4, none)
abbrev rm_X2_build : Room := { frames := 3, cells := 0, slots := 0, locals := 68 }
abbrev mi_X2_windows : am_MI := (yX2_windows, cX2_windows, 1, (some .int))
abbrev rm_X2_windows : Room := { frames := 0, cells := 0, slots := 0, locals := 0 }
abbrev mi_J7_fill_53178 : am_MI := (yJ7_fill_53178, cJ7_fill_53178, 4, none)
abbrev rm_J7_fill_53178 : Room := { frames := 0, cells := 0, slots := 0, locals := 0 }
abbrev mi_X4_begin : am_MI := (yX4_begin, cX4_begin, 3, none)
abbrev rm_X4_begin : Room := { frames := 1, cells := 0, slots := 0, locals := 23 }
abbrev mi_X0_clear : am_MI := (yX0_clear, cX0_clear, 1, none)
abbrev rm_X0_clear : Room := { frames := 0, cells := 0, slots := 0, locals := 0 }
abbrev mi_X5_clear : am_MI := (yX5_clear, cX5_clear, 1, none)
abbrev rm_X5_clear : Room := { frames := 0, cells := 0, slots := 0, locals := 0 }
abbrev mi_X7_town : am_MI := (yX7_town, cX7_town, 1, (some .int))
abbrev rm_X7_town : Room := { frames := 4, cells := 0, slots := 0, locals := 91 }
abbrev mi_X4_state : am_MI := (yX4_state, cX4_state, 2, (some .int))
abbrev rm_X4_state : Room := { frames := 1, cells := 0, slots := 0, locals := 21 }
abbrev mi_X2_kind : am_MI := (yX2_kind, cX2_kind, 2, (some .int))
abbrev rm_X2_kind : Room := { frames := 1, cells := 0, slots := 0, locals := 21 }
abbrev mi_X7_isState : am_MI := (yX7_isState, cX7_isState, 1, (some .boolean))
abbrev rm_X7_isState : Room := { frames := 0, cells := 0, slots := 0, locals := 0 }
abbrev mi_X2_wordOf : am_MI := (yX2_wordOf, cX2_wordOf, 2, (some .int))
abbrev rm_X2_wordOf : Room := { frames := 1, cells := 0, slots := 0, locals := 20 }
abbrev mi_X4_word : am_MI := (yX4_word, cX4_word, 2, (some .int))
abbrev rm_X4_word : Room := { frames := 2, cells := 0, slots := 0, locals := 42 }
abbrev mi_X2_sees : am_MI := (yX2_sees, cX2_sees, 2, (some .int))
abbrev rm_X2_sees : Room := { frames := 1, cells := 0, slots := 0, locals := 21 }
abbrev mi_X4_due : am_MI := (yX4_due, cX4_due, 2, (some .int))
abbrev rm_X4_due : Room := { frames := 1, cells := 0, slots := 0, locals := 21 }
abbrev mi_X7_window : am_MI := (yX7_window, cX7_window, 3, (some .int))
abbrev rm_X7_window : Room := { frames := 3, cells := 0, slots := 0, locals := 63 }
abbrev mi_X4_canShift : am_MI := (yX4_canShift, cX4_canShift, 3, (some .boolean))
abbrev rm_X4_canShift : Room := { frames := 2, cells := 0, slots := 0, locals := 42 }
abbrev mi_X0_forgetFirst : am_MI := (yX0_forgetFirst, cX0_forgetFirst, 1, none)
abbrev rm_X0_forgetFirst : Room := { frames := 1, cells := 0, slots := 0, locals := 60 }
abbrev mi_X4_store : am_MI := (yX4_store, cX4_store, 3, none)
abbrev rm_X4_store : Room := { frames := 1, cells := 0, slots := 0, locals := 60 }
abbrev mi_X0_remember : am_MI := (yX0_remember, cX0_remember, 2, none)
abbrev rm_X0_remember : Room := { frames := 2, cells := 0, slots := 0, locals := 82 }
abbrev mi_X4_shift : am_MI := (yX4_shift, cX4_shift, 3, none)
abbrev rm_X4_shift : Room := { frames := 1, cells := 0, slots := 0, locals := 21 }
abbrev mi_X7_move : am_MI := (yX7_move, cX7_move, 3, (some .int))
abbrev rm_X7_move : Room := { frames := 3, cells := 0, slots := 0, locals := 103 }
abbrev mi_X2_ofKind : am_MI := (yX2_ofKind, cX2_ofKind, 4, (some .int))
abbrev rm_X2_ofKind : Room := { frames := 2, cells := 0, slots := 0, locals := 42 }
abbrev mi_X4_blow : am_MI := (yX4_blow, cX4_blow, 3, (some .int))
abbrev rm_X4_blow : Room := { frames := 3, cells := 0, slots := 0, locals := 65 }
abbrev mi_X7_wind : am_MI := (yX7_wind, cX7_wind, 1, (some .int))
abbrev rm_X7_wind : Room := { frames := 4, cells := 0, slots := 0, locals := 103 }
abbrev mi_X2_areFacing : am_MI := (yX2_areFacing, cX2_areFacing, 3, (some .boolean))
abbrev rm_X2_areFacing : Room := { frames := 2, cells := 0, slots := 0, locals := 42 }
abbrev mi_X2_leastStateFor : am_MI := (yX2_leastStateFor, cX2_leastStateFor, 3, (some .int))
abbrev rm_X2_leastStateFor : Room := { frames := 0, cells := 0, slots := 0, locals := 0 }
abbrev mi_X4_takeUp : am_MI := (yX4_takeUp, cX4_takeUp, 3, none)
abbrev rm_X4_takeUp : Room := { frames := 2, cells := 0, slots := 0, locals := 43 }
abbrev mi_X7_pass : am_MI := (yX7_pass, cX7_pass, 4, (some .int))
abbrev rm_X7_pass : Room := { frames := 3, cells := 0, slots := 0, locals := 103 }
abbrev mi_X4_strike : am_MI := (yX4_strike, cX4_strike, 3, (some .int))
abbrev rm_X4_strike : Room := { frames := 3, cells := 0, slots := 0, locals := 63 }
abbrev mi_X7_hour : am_MI := (yX7_hour, cX7_hour, 1, (some .int))
abbrev rm_X7_hour : Room := { frames := 4, cells := 0, slots := 0, locals := 103 }
abbrev mi_X0_size : am_MI := (yX0_size, cX0_size, 1, (some .int))
abbrev rm_X0_size : Room := { frames := 0, cells := 0, slots := 0, locals := 0 }
abbrev mi_X4_restore : am_MI := (yX4_restore, cX4_restore, 3, none)
abbrev rm_X4_restore : Room := { frames := 1, cells := 0, slots := 0, locals := 60 }
abbrev mi_X0_giveBack : am_MI := (yX0_giveBack, cX0_giveBack, 2, none)
abbrev rm_X0_giveBack : Room := { frames := 2, cells := 0, slots := 0, locals := 82 }
abbrev mi_X7_undo : am_MI := (yX7_undo, cX7_undo, 1, (some .int))
abbrev rm_X7_undo : Room := { frames := 3, cells := 0, slots := 0, locals := 103 }
abbrev mi_X7_refusalOfTwo : am_MI := (yX7_refusalOfTwo, cX7_refusalOfTwo, 3, (some .int))
abbrev rm_X7_refusalOfTwo : Room := { frames := 1, cells := 0, slots := 0, locals := 21 }
abbrev mi_J7_fill_d0a16 : am_MI := (yJ7_fill_d0a16, cJ7_fill_d0a16, 5, none)
abbrev rm_J7_fill_d0a16 : Room := { frames := 0, cells := 0, slots := 0, locals := 0 }
abbrev mi_X6_comesTo : am_MI := (yX6_comesTo, cX6_comesTo, 2, (some .boolean))
abbrev rm_X6_comesTo : Room := { frames := 1, cells := 0, slots := 0, locals := 21 }
abbrev mi_X6_goOn : am_MI := (yX6_goOn, cX6_goOn, 8, none)
abbrev rm_X6_goOn : Room := { frames := 3, cells := 0, slots := 0, locals := 64 }
abbrev mi_X6_hoursAt : am_MI := (yX6_hoursAt, cX6_hoursAt, 2, (some .int))
abbrev rm_X6_hoursAt : Room := { frames := 2, cells := 0, slots := 0, locals := 42 }
abbrev mi_X6_measure : am_MI := (yX6_measure, cX6_measure, 5, none)
abbrev rm_X6_measure : Room := { frames := 4, cells := 0, slots := 0, locals := 91 }
abbrev mi_X6_wayTo : am_MI := (yX6_wayTo, cX6_wayTo, 2, (some .int))
abbrev rm_X6_wayTo : Room := { frames := 2, cells := 0, slots := 0, locals := 42 }
abbrev mi_X6_hoursTo : am_MI := (yX6_hoursTo, cX6_hoursTo, 2, (some .int))
abbrev rm_X6_hoursTo : Room := { frames := 2, cells := 0, slots := 0, locals := 42 }
abbrev mi_X7_soonest : am_MI := (yX7_soonest, cX7_soonest, 5, (some .int))
abbrev rm_X7_soonest : Room := { frames := 5, cells := 0, slots := 0, locals := 115 }
abbrev mi_X7_knows : am_MI := (yX7_knows, cX7_knows, 5, (some .int))
abbrev rm_X7_knows : Room := { frames := 5, cells := 0, slots := 0, locals := 115 }
abbrev mi_X2_sets : am_MI := (yX2_sets, cX2_sets, 1, (some .int))
abbrev rm_X2_sets : Room := { frames := 0, cells := 0, slots := 0, locals := 0 }
abbrev mi_X2_reachedBy : am_MI := (yX2_reachedBy, cX2_reachedBy, 4, (some .int))
abbrev rm_X2_reachedBy : Room := { frames := 2, cells := 0, slots := 0, locals := 42 }
abbrev mi_J6_bitCount_0f7a4 : am_MI := (yJ6_bitCount_0f7a4, cJ6_bitCount_0f7a4, 1, (some .int))
abbrev rm_J6_bitCount_0f7a4 : Room := { frames := 0, cells := 0, slots := 0, locals := 0 }
abbrev mi_X7_isFewer : am_MI := (yX7_isFewer, cX7_isFewer, 2, (some .boolean))
abbrev rm_X7_isFewer : Room := { frames := 1, cells := 0, slots := 0, locals := 20 }
abbrev mi_X7_toTell : am_MI := (yX7_toTell, cX7_toTell, 4, (some .int))
abbrev rm_X7_toTell : Room := { frames := 3, cells := 0, slots := 0, locals := 65 }
abbrev mi_X7_cut : am_MI := (yX7_cut, cX7_cut, 7, (some .int))
abbrev rm_X7_cut : Room := { frames := 5, cells := 0, slots := 0, locals := 115 }
abbrev mi_X4_copy : am_MI := (yX4_copy, cX4_copy, 2, none)
abbrev rm_X4_copy : Room := { frames := 1, cells := 0, slots := 0, locals := 60 }
abbrev mi_X7_happens : am_MI := (yX7_happens, cX7_happens, 3, (some .boolean))
abbrev rm_X7_happens : Room := { frames := 4, cells := 0, slots := 0, locals := 87 }
abbrev mi_X4_pairsAlike : am_MI := (yX4_pairsAlike, cX4_pairsAlike, 4, (some .int))
abbrev rm_X4_pairsAlike : Room := { frames := 3, cells := 0, slots := 0, locals := 64 }
abbrev mi_X7_judge : am_MI := (yX7_judge, cX7_judge, 6, (some .int))
abbrev rm_X7_judge : Room := { frames := 5, cells := 0, slots := 0, locals := 109 }
abbrev mi_X7_isWord : am_MI := (yX7_isWord, cX7_isWord, 1, (some .boolean))
abbrev rm_X7_isWord : Room := { frames := 0, cells := 0, slots := 0, locals := 0 }
abbrev mi_X1_add : am_MI := (yX1_add, cX1_add, 5, (some .boolean))
abbrev rm_X1_add : Room := { frames := 1, cells := 0, slots := 0, locals := 20 }
abbrev mi_X1_size : am_MI := (yX1_size, cX1_size, 1, (some .int))
abbrev rm_X1_size : Room := { frames := 0, cells := 0, slots := 0, locals := 0 }
abbrev mi_X7_follow : am_MI := (yX7_follow, cX7_follow, 4, (some .int))
abbrev rm_X7_follow : Room := { frames := 2, cells := 0, slots := 0, locals := 44 }
abbrev mi_X1_clear : am_MI := (yX1_clear, cX1_clear, 1, none)
abbrev rm_X1_clear : Room := { frames := 1, cells := 0, slots := 0, locals := 23 }
abbrev mi_X7_unfollow : am_MI := (yX7_unfollow, cX7_unfollow, 2, (some .int))
abbrev rm_X7_unfollow : Room := { frames := 2, cells := 0, slots := 0, locals := 43 }
abbrev mi_X1_codesLeft : am_MI := (yX1_codesLeft, cX1_codesLeft, 3, (some .int))
abbrev rm_X1_codesLeft : Room := { frames := 1, cells := 0, slots := 0, locals := 20 }
abbrev mi_J6_numberOfTrailingZeros_0f7a4 : am_MI := (yJ6_numberOfTrailingZeros_0f7a4, cJ6_numberOfTrailingZeros_0f7a4, 2, (some .int))
abbrev rm_J6_numberOfTrailingZeros_0f7a4 : Room := { frames := 0, cells := 0, slots := 0, locals := 0 }
abbrev mi_X1_firstCode : am_MI := (yX1_firstCode, cX1_firstCode, 3, (some .int))
abbrev rm_X1_firstCode : Room := { frames := 2, cells := 0, slots := 0, locals := 42 }
abbrev mi_X7_codes : am_MI := (yX7_codes, cX7_codes, 2, (some .int))
abbrev rm_X7_codes : Room := { frames := 3, cells := 0, slots := 0, locals := 64 }
abbrev mi_X1_bestState : am_MI := (yX1_bestState, cX1_bestState, 3, (some .int))
abbrev rm_X1_bestState : Room := { frames := 2, cells := 0, slots := 0, locals := 42 }
abbrev mi_X7_look : am_MI := (yX7_look, cX7_look, 1, (some .int))
abbrev rm_X7_look : Room := { frames := 3, cells := 0, slots := 0, locals := 64 }
abbrev mi_X7_will : am_MI := (yX7_will, cX7_will, 5, (some .int))
abbrev rm_X7_will : Room := { frames := 2, cells := 0, slots := 0, locals := 42 }
abbrev mi_X6_hoursBetween : am_MI := (yX6_hoursBetween, cX6_hoursBetween, 8, none)
abbrev rm_X6_hoursBetween : Room := { frames := 5, cells := 0, slots := 0, locals := 115 }
abbrev mi_X7_cross : am_MI := (yX7_cross, cX7_cross, 7, (some .int))
abbrev rm_X7_cross : Room := { frames := 6, cells := 0, slots := 0, locals := 142 }
abbrev mi_X2_gain : am_MI := (yX2_gain, cX2_gain, 3, (some .int))
abbrev rm_X2_gain : Room := { frames := 2, cells := 0, slots := 0, locals := 42 }
abbrev mi_X2_isBestAgainst : am_MI := (yX2_isBestAgainst, cX2_isBestAgainst, 4, (some .boolean))
abbrev rm_X2_isBestAgainst : Room := { frames := 3, cells := 0, slots := 0, locals := 64 }
abbrev mi_X7_rests : am_MI := (yX7_rests, cX7_rests, 6, (some .int))
abbrev rm_X7_rests : Room := { frames := 4, cells := 0, slots := 0, locals := 87 }
abbrev mi_X7_weightOf : am_MI := (yX7_weightOf, cX7_weightOf, 5, (some .int))
abbrev rm_X7_weightOf : Room := { frames := 0, cells := 0, slots := 0, locals := 0 }
abbrev mi_X4_isRead : am_MI := (yX4_isRead, cX4_isRead, 6, (some .boolean))
abbrev rm_X4_isRead : Room := { frames := 3, cells := 0, slots := 0, locals := 64 }
abbrev mi_X7_commonDivisor : am_MI := (yX7_commonDivisor, cX7_commonDivisor, 6, (some .int))
abbrev rm_X7_commonDivisor : Room := { frames := 0, cells := 0, slots := 0, locals := 0 }
abbrev mi_X7_slams : am_MI := (yX7_slams, cX7_slams, 10, (some .int))
abbrev rm_X7_slams : Room := { frames := 4, cells := 0, slots := 0, locals := 89 }
abbrev mi_X7_seed : am_MI := (yX7_seed, cX7_seed, 5, (some .long))
abbrev rm_X7_seed : Room := { frames := 0, cells := 0, slots := 0, locals := 0 }
abbrev mi_X7_afternoons : am_MI := (yX7_afternoons, cX7_afternoons, 4, (some .int))
abbrev rm_X7_afternoons : Room := { frames := 4, cells := 0, slots := 0, locals := 87 }
abbrev mi_X5_has : am_MI := (yX5_has, cX5_has, 2, (some .boolean))
abbrev rm_X5_has : Room := { frames := 0, cells := 0, slots := 0, locals := 0 }
abbrev mi_X5_put : am_MI := (yX5_put, cX5_put, 3, none)
abbrev rm_X5_put : Room := { frames := 2, cells := 0, slots := 0, locals := 82 }
abbrev mi_X4_theHour : am_MI := (yX4_theHour, cX4_theHour, 1, (some .int))
abbrev rm_X4_theHour : Room := { frames := 0, cells := 0, slots := 0, locals := 0 }
abbrev mi_X7_keep : am_MI := (yX7_keep, cX7_keep, 2, (some .int))
abbrev rm_X7_keep : Room := { frames := 3, cells := 0, slots := 0, locals := 104 }
abbrev mi_X5_isKept : am_MI := (yX5_isKept, cX5_isKept, 2, (some .boolean))
abbrev rm_X5_isKept : Room := { frames := 1, cells := 0, slots := 0, locals := 21 }
abbrev mi_X5_giveBack : am_MI := (yX5_giveBack, cX5_giveBack, 3, none)
abbrev rm_X5_giveBack : Room := { frames := 2, cells := 0, slots := 0, locals := 82 }
abbrev mi_X7_again : am_MI := (yX7_again, cX7_again, 2, (some .int))
abbrev rm_X7_again : Room := { frames := 3, cells := 0, slots := 0, locals := 104 }
abbrev mi_X2_sight : am_MI := (yX2_sight, cX2_sight, 1, (some .int))
abbrev rm_X2_sight : Room := { frames := 0, cells := 0, slots := 0, locals := 0 }
abbrev mi_X2_wordsAsFigures : am_MI := (yX2_wordsAsFigures, cX2_wordsAsFigures, 3, (some .int))
abbrev rm_X2_wordsAsFigures : Room := { frames := 0, cells := 0, slots := 0, locals := 0 }
abbrev mi_X4_dueCount : am_MI := (yX4_dueCount, cX4_dueCount, 3, (some .int))
abbrev rm_X4_dueCount : Room := { frames := 1, cells := 0, slots := 0, locals := 20 }
abbrev mi_X7_count : am_MI := (yX7_count, cX7_count, 2, (some .int))
abbrev rm_X7_count : Room := { frames := 4, cells := 0, slots := 0, locals := 87 }
abbrev mi_X8_in : am_MI := (yX8_in, cX8_in, 6, (some .boolean))
abbrev rm_X8_in : Room := { frames := 0, cells := 0, slots := 0, locals := 0 }
abbrev mi_X8_write : am_MI := (yX8_write, cX8_write, 2, (some .int))
abbrev rm_X8_write : Room := { frames := 1, cells := 0, slots := 0, locals := 25 }
abbrev mi_X8_wipe : am_MI := (yX8_wipe, cX8_wipe, 2, (some .int))
abbrev rm_X8_wipe : Room := { frames := 0, cells := 0, slots := 0, locals := 0 }
abbrev mi_X8_figure : am_MI := (yX8_figure, cX8_figure, 4, (some .int))
abbrev rm_X8_figure : Room := { frames := 1, cells := 0, slots := 0, locals := 25 }
abbrev mi_X8_placesLeft : am_MI := (yX8_placesLeft, cX8_placesLeft, 3, (some .int))
abbrev rm_X8_placesLeft : Room := { frames := 0, cells := 0, slots := 0, locals := 0 }
abbrev mi_X8_has : am_MI := (yX8_has, cX8_has, 2, (some .boolean))
abbrev rm_X8_has : Room := { frames := 0, cells := 0, slots := 0, locals := 0 }
abbrev mi_X8_figureOf : am_MI := (yX8_figureOf, cX8_figureOf, 3, (some .int))
abbrev rm_X8_figureOf : Room := { frames := 1, cells := 0, slots := 0, locals := 25 }
abbrev mi_X8_readWindow : am_MI := (yX8_readWindow, cX8_readWindow, 2, none)
abbrev rm_X8_readWindow : Room := { frames := 2, cells := 0, slots := 0, locals := 48 }
abbrev mi_X8_readText : am_MI := (yX8_readText, cX8_readText, 2, (some .int))
abbrev rm_X8_readText : Room := { frames := 3, cells := 0, slots := 0, locals := 69 }
abbrev mi_X8_fault : am_MI := (yX8_fault, cX8_fault, 1, (some .int))
abbrev rm_X8_fault : Room := { frames := 4, cells := 0, slots := 0, locals := 90 }
abbrev mi_X8_town : am_MI := (yX8_town, cX8_town, 2, (some .int))
abbrev rm_X8_town : Room := { frames := 4, cells := 0, slots := 0, locals := 90 }
abbrev mi_X8_isWindow : am_MI := (yX8_isWindow, cX8_isWindow, 2, (some .boolean))
abbrev rm_X8_isWindow : Room := { frames := 1, cells := 0, slots := 0, locals := 25 }
abbrev mi_X8_wordOf : am_MI := (yX8_wordOf, cX8_wordOf, 3, (some .int))
abbrev rm_X8_wordOf : Room := { frames := 0, cells := 0, slots := 0, locals := 0 }
abbrev mi_X8_sees : am_MI := (yX8_sees, cX8_sees, 3, (some .boolean))
abbrev rm_X8_sees : Room := { frames := 1, cells := 0, slots := 0, locals := 25 }
abbrev mi_X8_seen : am_MI := (yX8_seen, cX8_seen, 4, (some .int))
abbrev rm_X8_seen : Room := { frames := 2, cells := 0, slots := 0, locals := 47 }
abbrev mi_X8_window : am_MI := (yX8_window, cX8_window, 3, (some .int))
abbrev rm_X8_window : Room := { frames := 3, cells := 0, slots := 0, locals := 70 }
abbrev mi_X8_keepAct : am_MI := (yX8_keepAct, cX8_keepAct, 2, none)
abbrev rm_X8_keepAct : Room := { frames := 0, cells := 0, slots := 0, locals := 0 }
abbrev mi_X8_move : am_MI := (yX8_move, cX8_move, 3, (some .int))
abbrev rm_X8_move : Room := { frames := 2, cells := 0, slots := 0, locals := 46 }
abbrev mi_X8_windOn : am_MI := (yX8_windOn, cX8_windOn, 4, (some .int))
abbrev rm_X8_windOn : Room := { frames := 0, cells := 0, slots := 0, locals := 0 }
abbrev mi_X8_wind : am_MI := (yX8_wind, cX8_wind, 1, (some .int))
abbrev rm_X8_wind : Room := { frames := 1, cells := 0, slots := 0, locals := 23 }
abbrev mi_X8_leastState : am_MI := (yX8_leastState, cX8_leastState, 3, (some .int))
abbrev rm_X8_leastState : Room := { frames := 0, cells := 0, slots := 0, locals := 0 }
abbrev mi_X8_pass : am_MI := (yX8_pass, cX8_pass, 4, (some .int))
abbrev rm_X8_pass : Room := { frames := 2, cells := 0, slots := 0, locals := 47 }
abbrev mi_X8_hourOn : am_MI := (yX8_hourOn, cX8_hourOn, 6, (some .int))
abbrev rm_X8_hourOn : Room := { frames := 1, cells := 0, slots := 0, locals := 22 }
abbrev mi_X8_hour : am_MI := (yX8_hour, cX8_hour, 1, (some .int))
abbrev rm_X8_hour : Room := { frames := 2, cells := 0, slots := 0, locals := 47 }
abbrev mi_X8_undo : am_MI := (yX8_undo, cX8_undo, 2, (some .int))
abbrev rm_X8_undo : Room := { frames := 0, cells := 0, slots := 0, locals := 0 }
abbrev mi_X8_sixes : am_MI := (yX8_sixes, cX8_sixes, 3, (some .int))
abbrev rm_X8_sixes : Room := { frames := 0, cells := 0, slots := 0, locals := 0 }
abbrev mi_X8_between : am_MI := (yX8_between, cX8_between, 3, (some .int))
abbrev rm_X8_between : Room := { frames := 1, cells := 0, slots := 0, locals := 22 }
abbrev mi_X8_hoursBy : am_MI := (yX8_hoursBy, cX8_hoursBy, 11, (some .int))
abbrev rm_X8_hoursBy : Room := { frames := 2, cells := 0, slots := 0, locals := 47 }
abbrev mi_X8_layWays : am_MI := (yX8_layWays, cX8_layWays, 7, none)
abbrev rm_X8_layWays : Room := { frames := 3, cells := 0, slots := 0, locals := 77 }
abbrev mi_X8_soonest : am_MI := (yX8_soonest, cX8_soonest, 6, (some .int))
abbrev rm_X8_soonest : Room := { frames := 4, cells := 0, slots := 0, locals := 103 }
abbrev mi_X8_knows : am_MI := (yX8_knows, cX8_knows, 5, (some .int))
abbrev rm_X8_knows : Room := { frames := 4, cells := 0, slots := 0, locals := 103 }
abbrev mi_X8_ones : am_MI := (yX8_ones, cX8_ones, 3, (some .int))
abbrev rm_X8_ones : Room := { frames := 0, cells := 0, slots := 0, locals := 0 }
abbrev mi_X8_isTold : am_MI := (yX8_isTold, cX8_isTold, 3, (some .boolean))
abbrev rm_X8_isTold : Room := { frames := 3, cells := 0, slots := 0, locals := 70 }
abbrev mi_X8_toTell : am_MI := (yX8_toTell, cX8_toTell, 6, (some .int))
abbrev rm_X8_toTell : Room := { frames := 4, cells := 0, slots := 0, locals := 92 }
abbrev mi_X8_cut : am_MI := (yX8_cut, cX8_cut, 6, (some .int))
abbrev rm_X8_cut : Room := { frames := 4, cells := 0, slots := 0, locals := 103 }
abbrev mi_X8_tenTo : am_MI := (yX8_tenTo, cX8_tenTo, 4, (some .long))
abbrev rm_X8_tenTo : Room := { frames := 0, cells := 0, slots := 0, locals := 0 }
abbrev mi_X8_layTrial : am_MI := (yX8_layTrial, cX8_layTrial, 2, none)
abbrev rm_X8_layTrial : Room := { frames := 0, cells := 0, slots := 0, locals := 0 }
abbrev mi_X8_tryMove : am_MI := (yX8_tryMove, cX8_tryMove, 4, (some .boolean))
abbrev rm_X8_tryMove : Room := { frames := 2, cells := 0, slots := 0, locals := 46 }
abbrev mi_X8_alike : am_MI := (yX8_alike, cX8_alike, 5, (some .int))
abbrev rm_X8_alike : Room := { frames := 2, cells := 0, slots := 0, locals := 47 }
abbrev mi_X8_judge : am_MI := (yX8_judge, cX8_judge, 7, (some .int))
abbrev rm_X8_judge : Room := { frames := 3, cells := 0, slots := 0, locals := 71 }
abbrev mi_X8_follow : am_MI := (yX8_follow, cX8_follow, 4, (some .int))
abbrev rm_X8_follow : Room := { frames := 1, cells := 0, slots := 0, locals := 25 }
abbrev mi_X8_unfollow : am_MI := (yX8_unfollow, cX8_unfollow, 2, (some .int))
abbrev rm_X8_unfollow : Room := { frames := 0, cells := 0, slots := 0, locals := 0 }
abbrev mi_X8_wordBy : am_MI := (yX8_wordBy, cX8_wordBy, 2, (some .int))
abbrev rm_X8_wordBy : Room := { frames := 0, cells := 0, slots := 0, locals := 0 }
abbrev mi_X8_isCode : am_MI := (yX8_isCode, cX8_isCode, 5, (some .boolean))
abbrev rm_X8_isCode : Room := { frames := 1, cells := 0, slots := 0, locals := 21 }
abbrev mi_X8_codes : am_MI := (yX8_codes, cX8_codes, 5, (some .int))
abbrev rm_X8_codes : Room := { frames := 2, cells := 0, slots := 0, locals := 45 }
abbrev mi_X8_greatestPart : am_MI := (yX8_greatestPart, cX8_greatestPart, 6, (some .int))
abbrev rm_X8_greatestPart : Room := { frames := 2, cells := 0, slots := 0, locals := 45 }
abbrev mi_X8_look : am_MI := (yX8_look, cX8_look, 3, (some .int))
abbrev rm_X8_look : Room := { frames := 3, cells := 0, slots := 0, locals := 70 }
abbrev mi_X8_will : am_MI := (yX8_will, cX8_will, 4, (some .int))
abbrev rm_X8_will : Room := { frames := 2, cells := 0, slots := 0, locals := 46 }
abbrev mi_X8_layHours : am_MI := (yX8_layHours, cX8_layHours, 7, none)
abbrev rm_X8_layHours : Room := { frames := 4, cells := 0, slots := 0, locals := 103 }
abbrev mi_X8_cross : am_MI := (yX8_cross, cX8_cross, 6, (some .int))
abbrev rm_X8_cross : Room := { frames := 5, cells := 0, slots := 0, locals := 129 }
abbrev mi_X8_lets : am_MI := (yX8_lets, cX8_lets, 3, (some .int))
abbrev rm_X8_lets : Room := { frames := 3, cells := 0, slots := 0, locals := 70 }
abbrev mi_X8_isRest : am_MI := (yX8_isRest, cX8_isRest, 5, (some .boolean))
abbrev rm_X8_isRest : Room := { frames := 4, cells := 0, slots := 0, locals := 92 }
abbrev mi_X8_rests : am_MI := (yX8_rests, cX8_rests, 6, (some .int))
abbrev rm_X8_rests : Room := { frames := 5, cells := 0, slots := 0, locals := 116 }
abbrev mi_X8_loose : am_MI := (yX8_loose, cX8_loose, 3, (some .int))
abbrev rm_X8_loose : Room := { frames := 0, cells := 0, slots := 0, locals := 0 }
abbrev mi_X8_reads : am_MI := (yX8_reads, cX8_reads, 6, (some .boolean))
abbrev rm_X8_reads : Room := { frames := 2, cells := 0, slots := 0, locals := 47 }
abbrev mi_X8_common : am_MI := (yX8_common, cX8_common, 5, (some .int))
abbrev rm_X8_common : Room := { frames := 0, cells := 0, slots := 0, locals := 0 }
abbrev mi_X8_slams : am_MI := (yX8_slams, cX8_slams, 10, (some .int))
abbrev rm_X8_slams : Room := { frames := 3, cells := 0, slots := 0, locals := 72 }
abbrev mi_X8_seed : am_MI := (yX8_seed, cX8_seed, 5, (some .long))
abbrev rm_X8_seed : Room := { frames := 0, cells := 0, slots := 0, locals := 0 }
abbrev mi_X8_afternoons : am_MI := (yX8_afternoons, cX8_afternoons, 4, (some .int))
abbrev rm_X8_afternoons : Room := { frames := 3, cells := 0, slots := 0, locals := 71 }
abbrev mi_X8_keep : am_MI := (yX8_keep, cX8_keep, 3, (some .int))
abbrev rm_X8_keep : Room := { frames := 1, cells := 0, slots := 0, locals := 25 }
abbrev mi_X8_again : am_MI := (yX8_again, cX8_again, 3, (some .int))
abbrev rm_X8_again : Room := { frames := 1, cells := 0, slots := 0, locals := 25 }
abbrev mi_X8_count : am_MI := (yX8_count, cX8_count, 4, (some .int))
abbrev rm_X8_count : Room := { frames := 3, cells := 0, slots := 0, locals := 71 }
theorem cv_7_70 : am_wV 7 70 mi_X3_add 1 := am_wV.mk 215 216 217 40 218 (by decide +kernel) (by decide +kernel)
theorem cv_7_74 : am_wV 7 74 mi_X3_size 0 := am_wV.mk 219 220 221 40 222 (by decide +kernel) (by decide +kernel)
theorem cv_7_78 : am_wV 7 78 mi_X3_clear 0 := am_wV.mk 227 228 229 40 230 (by decide +kernel) (by decide +kernel)
theorem cv_3_26 : am_wV 3 26 mi_X3_figure 1 := am_wV.mk 251 252 253 40 254 (by decide +kernel) (by decide +kernel)
theorem cv_3_30 : am_wV 3 30 mi_X3_isLetter 2 := am_wV.mk 243 245 1 40 246 (by decide +kernel) (by decide +kernel)
theorem cv_3_34 : am_wV 3 34 mi_X3_isFigure 3 := am_wV.mk 247 249 2 40 250 (by decide +kernel) (by decide +kernel)
theorem cv_3_38 : am_wV 3 38 mi_X3_isTaken 2 := am_wV.mk 259 261 4 40 262 (by decide +kernel) (by decide +kernel)
theorem cv_3_19 : am_wV 3 19 mi_X3_fitsHead 1 := am_wV.mk 239 241 0 40 242 (by decide +kernel) (by decide +kernel)
theorem cv_3_23 : am_wV 3 23 mi_X3_fitsWindow 1 := am_wV.mk 255 257 3 40 258 (by decide +kernel) (by decide +kernel)
theorem cv_7_81 : am_wV 7 81 mi_X3_firstFault 0 := am_wV.mk 235 236 237 40 238 (by decide +kernel) (by decide +kernel)
theorem cv_2_59 : am_wV 2 59 mi_X2_has 1 := am_wV.mk 287 288 289 41 290 (by decide +kernel) (by decide +kernel)
theorem cv_2_80 : am_wV 2 80 mi_X2_side 1 := am_wV.mk 283 284 285 41 286 (by decide +kernel) (by decide +kernel)
theorem cv_2_83 : am_wV 2 83 mi_X2_place 1 := am_wV.mk 291 292 293 41 294 (by decide +kernel) (by decide +kernel)
theorem mw_2_86 : am_wM 2 86 Lib.Math.abs.name Lib.Math.abs.code 1 (some .int) := am_wM.mk 295 296 48 297 (by decide +kernel)
theorem cv_2_89 : am_wV 2 89 mi_X2_floor 1 := am_wV.mk 298 299 300 41 301 (by decide +kernel) (by decide +kernel)
theorem cv_2_34 : am_wV 2 34 mi_X3_figure 1 := am_wV.mk 271 252 253 40 254 (by decide +kernel) (by decide +kernel)
theorem cv_2_40 : am_wV 2 40 mi_X3_size 0 := am_wV.mk 272 220 221 40 222 (by decide +kernel) (by decide +kernel)
theorem mw_2_44 : am_wM 2 44 Lib.Math.min.name Lib.Math.min.code 2 (some .int) := am_wM.mk 273 274 48 275 (by decide +kernel)
theorem mw_2_50 : am_wM 2 50 Lib.Math.max.name Lib.Math.max.code 2 (some .int) := am_wM.mk 276 277 48 278 (by decide +kernel)
theorem cv_2_56 : am_wV 2 56 mi_X2_facing 1 := am_wV.mk 279 281 5 41 282 (by decide +kernel) (by decide +kernel)
theorem cv_4_22 : am_wV 4 22 mi_X2_windows 0 := am_wV.mk 306 307 308 41 309 (by decide +kernel) (by decide +kernel)
theorem cv_4_28 : am_wV 4 28 mi_X3_figure 1 := am_wV.mk 310 252 253 40 254 (by decide +kernel) (by decide +kernel)
theorem cv_4_34 : am_wS 4 34 mi_J7_fill_53178 2 := am_wS.mk 311 312 49 313 (by decide +kernel) (by decide +kernel)
theorem cv_7_84 : am_wV 7 84 mi_X2_build 1 := am_wV.mk 267 268 269 41 270 (by decide +kernel) (by decide +kernel)
theorem cv_7_88 : am_wV 7 88 mi_X4_begin 1 := am_wV.mk 302 303 304 42 305 (by decide +kernel) (by decide +kernel)
theorem cv_7_91 : am_wV 7 91 mi_X0_clear 0 := am_wV.mk 314 315 316 43 317 (by decide +kernel) (by decide +kernel)
theorem cv_7_92 : am_wV 7 92 mi_X5_clear 0 := am_wV.mk 318 319 320 44 321 (by decide +kernel) (by decide +kernel)
theorem cv_7_93 : am_wV 7 93 mi_X2_windows 0 := am_wV.mk 322 307 308 41 309 (by decide +kernel) (by decide +kernel)
theorem cv_4_44 : am_wV 4 44 mi_X2_has 1 := am_wV.mk 335 288 289 41 290 (by decide +kernel) (by decide +kernel)
theorem cv_2_69 : am_wSN 2 69 mi_X7_isState 1 := am_wSN.mk 349 5 350 39 351 rfl (by decide +kernel) (by decide +kernel)
theorem cv_4_48 : am_wV 4 48 mi_X4_state 1 := am_wV.mk 344 332 333 42 334 (by decide +kernel) (by decide +kernel)
theorem cv_4_51 : am_wV 4 51 mi_X2_wordOf 1 := am_wV.mk 345 346 347 41 348 (by decide +kernel) (by decide +kernel)
theorem cv_7_96 : am_wV 7 96 mi_X2_has 1 := am_wV.mk 327 288 289 41 290 (by decide +kernel) (by decide +kernel)
theorem cv_7_99 : am_wV 7 99 mi_X2_place 1 := am_wV.mk 328 292 293 41 294 (by decide +kernel) (by decide +kernel)
theorem cv_7_103 : am_wV 7 103 mi_X2_side 1 := am_wV.mk 329 284 285 41 286 (by decide +kernel) (by decide +kernel)
theorem cv_7_106 : am_wV 7 106 mi_X2_floor 1 := am_wV.mk 330 299 300 41 301 (by decide +kernel) (by decide +kernel)
theorem cv_7_109 : am_wV 7 109 mi_X4_state 1 := am_wV.mk 331 332 333 42 334 (by decide +kernel) (by decide +kernel)
theorem cv_7_112 : am_wV 7 112 mi_X2_kind 1 := am_wV.mk 336 337 338 41 339 (by decide +kernel) (by decide +kernel)
theorem cv_7_115 : am_wV 7 115 mi_X4_word 1 := am_wV.mk 340 341 342 42 343 (by decide +kernel) (by decide +kernel)
theorem cv_7_118 : am_wV 7 118 mi_X2_sees 1 := am_wV.mk 352 353 354 41 355 (by decide +kernel) (by decide +kernel)
theorem cv_7_121 : am_wV 7 121 mi_X4_due 1 := am_wV.mk 356 357 358 42 359 (by decide +kernel) (by decide +kernel)
theorem cv_4_54 : am_wSN 4 54 mi_X7_isState 1 := am_wSN.mk 369 6 350 39 351 rfl (by decide +kernel) (by decide +kernel)
theorem cv_4_57 : am_wV 4 57 mi_X2_kind 1 := am_wV.mk 370 337 338 41 339 (by decide +kernel) (by decide +kernel)
theorem cv_0_19 : am_wV 0 19 mi_X0_forgetFirst 0 := am_wV.mk 375 377 6 43 378 (by decide +kernel) (by decide +kernel)
theorem cv_0_22 : am_wV 0 22 mi_X4_store 2 := am_wV.mk 382 383 384 42 385 (by decide +kernel) (by decide +kernel)
theorem cv_7_124 : am_wS 7 124 mi_X7_isState 1 := am_wS.mk 364 350 39 351 (by decide +kernel) (by decide +kernel)
theorem cv_7_127 : am_wV 7 127 mi_X4_canShift 2 := am_wV.mk 365 366 367 42 368 (by decide +kernel) (by decide +kernel)
theorem cv_7_131 : am_wV 7 131 mi_X0_remember 1 := am_wV.mk 371 372 373 43 374 (by decide +kernel) (by decide +kernel)
theorem cv_7_135 : am_wV 7 135 mi_X4_shift 2 := am_wV.mk 387 388 389 42 390 (by decide +kernel) (by decide +kernel)
theorem cv_2_66 : am_wV 2 66 mi_X2_kind 1 := am_wV.mk 403 337 338 41 339 (by decide +kernel) (by decide +kernel)
theorem cv_4_60 : am_wV 4 60 mi_X2_ofKind 1 := am_wV.mk 399 400 401 41 402 (by decide +kernel) (by decide +kernel)
theorem cv_7_139 : am_wV 7 139 mi_X4_blow 0 := am_wV.mk 395 396 397 42 398 (by decide +kernel) (by decide +kernel)
theorem cv_2_63 : am_wV 2 63 mi_X2_sees 1 := am_wV.mk 412 353 354 41 355 (by decide +kernel) (by decide +kernel)
theorem cv_4_63 : am_wV 4 63 mi_X2_leastStateFor 1 := am_wV.mk 417 418 419 41 420 (by decide +kernel) (by decide +kernel)
theorem cv_4_66 : am_wV 4 66 mi_X4_shift 2 := am_wV.mk 421 388 389 42 390 (by decide +kernel) (by decide +kernel)
theorem cv_7_142 : am_wV 7 142 mi_X2_areFacing 2 := am_wV.mk 408 409 410 41 411 (by decide +kernel) (by decide +kernel)
theorem cv_7_145 : am_wV 7 145 mi_X4_takeUp 2 := am_wV.mk 413 414 415 42 416 (by decide +kernel) (by decide +kernel)
theorem cv_4_70 : am_wV 4 70 mi_X4_word 1 := am_wV.mk 430 341 342 42 343 (by decide +kernel) (by decide +kernel)
theorem cv_7_148 : am_wV 7 148 mi_X4_strike 0 := am_wV.mk 426 427 428 42 429 (by decide +kernel) (by decide +kernel)
theorem cv_0_28 : am_wV 0 28 mi_X4_restore 2 := am_wV.mk 443 444 445 42 446 (by decide +kernel) (by decide +kernel)
theorem cv_7_151 : am_wV 7 151 mi_X0_size 0 := am_wV.mk 435 436 437 43 438 (by decide +kernel) (by decide +kernel)
theorem cv_7_152 : am_wV 7 152 mi_X0_giveBack 1 := am_wV.mk 439 440 441 43 442 (by decide +kernel) (by decide +kernel)
theorem cv_6_27 : am_wV 6 27 mi_X2_has 1 := am_wV.mk 463 288 289 41 290 (by decide +kernel) (by decide +kernel)
theorem cv_6_48 : am_wV 6 48 mi_X6_comesTo 1 := am_wV.mk 469 470 471 45 472 (by decide +kernel) (by decide +kernel)
theorem cv_6_33 : am_wV 6 33 mi_X2_windows 0 := am_wV.mk 464 307 308 41 309 (by decide +kernel) (by decide +kernel)
theorem cv_6_65 : am_wV 6 65 mi_X2_areFacing 2 := am_wV.mk 474 409 410 41 411 (by decide +kernel) (by decide +kernel)
theorem mw_6_71 : am_wM 6 71 Lib.MathLoose.min_long.x Lib.MathLoose.min_long.code 4 (some .long) := am_wM.mk 476 477 48 478 (by decide +kernel)
theorem cv_6_41 : am_wV 6 41 mi_X2_kind 1 := am_wV.mk 479 337 338 41 339 (by decide +kernel) (by decide +kernel)
theorem cv_6_21 : am_wS 6 21 mi_J7_fill_d0a16 2 := am_wS.mk 460 461 49 462 (by decide +kernel) (by decide +kernel)
theorem cv_6_37 : am_wV 6 37 mi_X6_goOn 2 := am_wV.mk 465 467 8 45 468 (by decide +kernel) (by decide +kernel)
theorem cv_6_45 : am_wV 6 45 mi_X6_hoursAt 1 := am_wV.mk 480 482 9 45 483 (by decide +kernel) (by decide +kernel)
theorem cv_7_155 : am_wV 7 155 mi_X7_refusalOfTwo 2 := am_wV.mk 451 453 7 39 454 (by decide +kernel) (by decide +kernel)
theorem cv_7_159 : am_wV 7 159 mi_X6_measure 2 := am_wV.mk 455 456 457 45 458 (by decide +kernel) (by decide +kernel)
theorem cv_7_162 : am_wV 7 162 mi_X6_wayTo 1 := am_wV.mk 484 485 486 45 487 (by decide +kernel) (by decide +kernel)
theorem cv_7_165 : am_wV 7 165 mi_X6_hoursTo 1 := am_wV.mk 488 489 490 45 491 (by decide +kernel) (by decide +kernel)
theorem cv_7_168 : am_wV 7 168 mi_X6_comesTo 1 := am_wV.mk 496 470 471 45 472 (by decide +kernel) (by decide +kernel)
theorem cv_7_265 : am_wS 7 265 mi_J6_bitCount_0f7a4 1 := am_wS.mk 512 513 51 514 (by decide +kernel) (by decide +kernel)
theorem cv_7_171 : am_wV 7 171 mi_X2_sets 0 := am_wV.mk 501 502 503 41 504 (by decide +kernel) (by decide +kernel)
theorem cv_7_174 : am_wV 7 174 mi_X2_reachedBy 1 := am_wV.mk 505 506 507 41 508 (by decide +kernel) (by decide +kernel)
theorem cv_7_177 : am_wS 7 177 mi_X7_isFewer 2 := am_wS.mk 509 510 39 511 (by decide +kernel) (by decide +kernel)
theorem cv_4_73 : am_wV 4 73 mi_X2_areFacing 2 := am_wV.mk 541 409 410 41 411 (by decide +kernel) (by decide +kernel)
theorem cv_7_184 : am_wV 7 184 mi_X4_copy 1 := am_wV.mk 528 529 530 42 531 (by decide +kernel) (by decide +kernel)
theorem cv_7_189 : am_wV 7 189 mi_X7_happens 2 := am_wV.mk 533 535 10 39 536 (by decide +kernel) (by decide +kernel)
theorem cv_7_192 : am_wV 7 192 mi_X4_pairsAlike 0 := am_wV.mk 537 538 539 42 540 (by decide +kernel) (by decide +kernel)
theorem cv_1_25 : am_wSN 1 25 mi_X7_isState 1 := am_wSN.mk 553 7 350 39 351 rfl (by decide +kernel) (by decide +kernel)
theorem cv_1_29 : am_wSN 1 29 mi_X7_isWord 1 := am_wSN.mk 554 8 547 39 548 rfl (by decide +kernel) (by decide +kernel)
theorem cv_7_195 : am_wS 7 195 mi_X7_isWord 1 := am_wS.mk 546 547 39 548 (by decide +kernel) (by decide +kernel)
theorem cv_7_198 : am_wV 7 198 mi_X1_add 3 := am_wV.mk 549 550 551 46 552 (by decide +kernel) (by decide +kernel)
theorem cv_7_201 : am_wV 7 201 mi_X1_size 0 := am_wV.mk 555 556 557 46 558 (by decide +kernel) (by decide +kernel)
theorem cv_1_19 : am_wS 1 19 mi_J7_fill_53178 2 := am_wS.mk 567 312 49 313 (by decide +kernel) (by decide +kernel)
theorem cv_7_202 : am_wV 7 202 mi_X1_clear 0 := am_wV.mk 563 564 565 46 566 (by decide +kernel) (by decide +kernel)
theorem cv_1_32 : am_wS 1 32 mi_J6_bitCount_0f7a4 1 := am_wS.mk 580 513 51 514 (by decide +kernel) (by decide +kernel)
theorem cv_1_38 : am_wV 1 38 mi_X1_codesLeft 0 := am_wV.mk 576 577 578 46 579 (by decide +kernel) (by decide +kernel)
theorem cv_1_42 : am_wS 1 42 mi_J6_numberOfTrailingZeros_0f7a4 1 := am_wS.mk 581 582 51 583 (by decide +kernel) (by decide +kernel)
theorem cv_7_203 : am_wV 7 203 mi_X1_firstCode 0 := am_wV.mk 572 573 574 46 575 (by decide +kernel) (by decide +kernel)
theorem cv_7_206 : am_wV 7 206 mi_X1_codesLeft 0 := am_wV.mk 585 577 578 46 579 (by decide +kernel) (by decide +kernel)
theorem cv_7_209 : am_wV 7 209 mi_X1_bestState 0 := am_wV.mk 590 591 592 46 593 (by decide +kernel) (by decide +kernel)
theorem cv_6_53 : am_wS 6 53 mi_J7_fill_53178 2 := am_wS.mk 606 312 49 313 (by decide +kernel) (by decide +kernel)
theorem cv_6_56 : am_wV 6 56 mi_X6_measure 2 := am_wV.mk 607 456 457 45 458 (by decide +kernel) (by decide +kernel)
theorem cv_6_59 : am_wV 6 59 mi_X6_hoursTo 1 := am_wV.mk 608 489 490 45 491 (by decide +kernel) (by decide +kernel)
theorem cv_6_62 : am_wV 6 62 mi_X6_wayTo 1 := am_wV.mk 609 485 486 45 487 (by decide +kernel) (by decide +kernel)
theorem cv_7_212 : am_wV 7 212 mi_X6_hoursBetween 3 := am_wV.mk 602 603 604 45 605 (by decide +kernel) (by decide +kernel)
theorem cv_2_75 : am_wS 2 75 mi_J6_bitCount_0f7a4 1 := am_wS.mk 622 513 51 514 (by decide +kernel) (by decide +kernel)
theorem cv_2_72 : am_wV 2 72 mi_X2_gain 2 := am_wV.mk 618 620 11 41 621 (by decide +kernel) (by decide +kernel)
theorem cv_7_216 : am_wV 7 216 mi_X2_isBestAgainst 2 := am_wV.mk 614 615 616 41 617 (by decide +kernel) (by decide +kernel)
theorem cv_7_219 : am_wV 7 219 mi_X2_ofKind 1 := am_wV.mk 627 400 401 41 402 (by decide +kernel) (by decide +kernel)
theorem cv_7_222 : am_wS 7 222 mi_X7_weightOf 3 := am_wS.mk 628 629 39 630 (by decide +kernel) (by decide +kernel)
theorem cv_7_226 : am_wV 7 226 mi_X4_isRead 3 := am_wV.mk 631 632 633 42 634 (by decide +kernel) (by decide +kernel)
theorem cv_7_230 : am_wS 7 230 mi_X7_commonDivisor 2 := am_wS.mk 635 636 39 637 (by decide +kernel) (by decide +kernel)
theorem cv_5_15 : am_wV 5 15 mi_X5_has 1 := am_wV.mk 661 654 655 44 656 (by decide +kernel) (by decide +kernel)
theorem cv_5_23 : am_wV 5 23 mi_X4_store 2 := am_wV.mk 662 383 384 42 385 (by decide +kernel) (by decide +kernel)
theorem cv_7_243 : am_wV 7 243 mi_X5_has 1 := am_wV.mk 653 654 655 44 656 (by decide +kernel) (by decide +kernel)
theorem cv_7_244 : am_wV 7 244 mi_X5_put 2 := am_wV.mk 657 658 659 44 660 (by decide +kernel) (by decide +kernel)
theorem cv_7_248 : am_wV 7 248 mi_X4_theHour 0 := am_wV.mk 663 664 665 42 666 (by decide +kernel) (by decide +kernel)
theorem cv_5_29 : am_wV 5 29 mi_X5_isKept 1 := am_wV.mk 679 672 673 44 674 (by decide +kernel) (by decide +kernel)
theorem cv_5_32 : am_wV 5 32 mi_X4_restore 2 := am_wV.mk 680 444 445 42 446 (by decide +kernel) (by decide +kernel)
theorem cv_7_251 : am_wV 7 251 mi_X5_isKept 1 := am_wV.mk 671 672 673 44 674 (by decide +kernel) (by decide +kernel)
theorem cv_7_254 : am_wV 7 254 mi_X5_giveBack 2 := am_wV.mk 675 676 677 44 678 (by decide +kernel) (by decide +kernel)
theorem cv_7_256 : am_wV 7 256 mi_X2_sight 0 := am_wV.mk 685 686 687 41 688 (by decide +kernel) (by decide +kernel)
theorem cv_7_259 : am_wV 7 259 mi_X2_wordsAsFigures 0 := am_wV.mk 689 690 691 41 692 (by decide +kernel) (by decide +kernel)
theorem cv_7_262 : am_wV 7 262 mi_X4_dueCount 0 := am_wV.mk 693 694 695 42 696 (by decide +kernel) (by decide +kernel)
theorem cv_8_65 : am_wS 8 65 mi_X8_in 3 := am_wS.mk 803 804 47 805 (by decide +kernel) (by decide +kernel)
theorem cv_8_80 : am_wS 8 80 mi_X8_has 2 := am_wS.mk 835 836 47 837 (by decide +kernel) (by decide +kernel)
theorem cv_8_100 : am_wV 8 100 mi_X8_placesLeft 0 := am_wV.mk 826 828 15 47 829 (by decide +kernel) (by decide +kernel)
theorem cv_8_104 : am_wV 8 104 mi_X8_figureOf 1 := am_wV.mk 830 832 16 47 833 (by decide +kernel) (by decide +kernel)
theorem cv_8_90 : am_wV 8 90 mi_X8_figure 2 := am_wV.mk 818 820 13 47 821 (by decide +kernel) (by decide +kernel)
theorem cv_8_97 : am_wV 8 97 mi_X8_readWindow 0 := am_wV.mk 822 824 14 47 825 (by decide +kernel) (by decide +kernel)
theorem cv_8_108 : am_wV 8 108 mi_X8_readText 0 := am_wV.mk 814 816 12 47 817 (by decide +kernel) (by decide +kernel)
theorem cv_8_119 : am_wV 8 119 mi_X8_sees 2 := am_wV.mk 858 860 20 47 861 (by decide +kernel) (by decide +kernel)
theorem cv_8_125 : am_wV 8 125 mi_X8_isWindow 1 := am_wV.mk 846 848 17 47 849 (by decide +kernel) (by decide +kernel)
theorem cv_8_122 : am_wV 8 122 mi_X8_wordOf 2 := am_wV.mk 850 852 18 47 853 (by decide +kernel) (by decide +kernel)
theorem cv_8_129 : am_wV 8 129 mi_X8_seen 1 := am_wV.mk 854 856 19 47 857 (by decide +kernel) (by decide +kernel)
theorem cv_8_137 : am_wV 8 137 mi_X8_keepAct 0 := am_wV.mk 868 870 21 47 871 (by decide +kernel) (by decide +kernel)
theorem cv_8_140 : am_wV 8 140 mi_X8_windOn 1 := am_wV.mk 876 878 22 47 879 (by decide +kernel) (by decide +kernel)
theorem cv_8_143 : am_wV 8 143 mi_X8_leastState 1 := am_wV.mk 884 886 23 47 887 (by decide +kernel) (by decide +kernel)
theorem cv_8_146 : am_wV 8 146 mi_X8_hourOn 1 := am_wV.mk 892 894 24 47 895 (by decide +kernel) (by decide +kernel)
theorem cv_8_149 : am_wS 8 149 mi_X8_sixes 1 := am_wS.mk 908 909 47 910 (by decide +kernel) (by decide +kernel)
theorem cv_8_152 : am_wS 8 152 mi_X8_between 3 := am_wS.mk 915 916 47 917 (by decide +kernel) (by decide +kernel)
theorem cv_8_159 : am_wV 8 159 mi_X8_hoursBy 5 := am_wV.mk 911 913 26 47 914 (by decide +kernel) (by decide +kernel)
theorem cv_8_169 : am_wV 8 169 mi_X8_layWays 3 := am_wV.mk 904 906 25 47 907 (by decide +kernel) (by decide +kernel)
theorem cv_8_173 : am_wS 8 173 mi_X8_ones 1 := am_wS.mk 926 927 47 928 (by decide +kernel) (by decide +kernel)
theorem cv_8_176 : am_wV 8 176 mi_X8_isTold 2 := am_wV.mk 929 931 27 47 932 (by decide +kernel) (by decide +kernel)
theorem cv_8_183 : am_wS 8 183 mi_X8_tenTo 1 := am_wS.mk 942 943 47 944 (by decide +kernel) (by decide +kernel)
theorem cv_8_187 : am_wV 8 187 mi_X8_layTrial 0 := am_wV.mk 946 948 28 47 949 (by decide +kernel) (by decide +kernel)
theorem cv_8_192 : am_wV 8 192 mi_X8_tryMove 2 := am_wV.mk 951 953 29 47 954 (by decide +kernel) (by decide +kernel)
theorem cv_8_195 : am_wV 8 195 mi_X8_alike 1 := am_wV.mk 955 957 30 47 958 (by decide +kernel) (by decide +kernel)
theorem cv_8_201 : am_wS 8 201 mi_X8_wordBy 2 := am_wS.mk 975 976 47 977 (by decide +kernel) (by decide +kernel)
theorem cv_8_204 : am_wV 8 204 mi_X8_isCode 1 := am_wV.mk 971 973 31 47 974 (by decide +kernel) (by decide +kernel)
theorem cv_8_207 : am_wV 8 207 mi_X8_greatestPart 1 := am_wV.mk 982 984 32 47 985 (by decide +kernel) (by decide +kernel)
theorem cv_8_210 : am_wV 8 210 mi_X8_codes 1 := am_wV.mk 986 968 969 47 970 (by decide +kernel) (by decide +kernel)
theorem cv_8_214 : am_wV 8 214 mi_X8_layHours 3 := am_wV.mk 995 997 33 47 998 (by decide +kernel) (by decide +kernel)
theorem cv_8_217 : am_wV 8 217 mi_X8_lets 2 := am_wV.mk 1007 1009 35 47 1010 (by decide +kernel) (by decide +kernel)
theorem cv_8_220 : am_wV 8 220 mi_X8_isRest 2 := am_wV.mk 1003 1005 34 47 1006 (by decide +kernel) (by decide +kernel)
theorem cv_8_223 : am_wV 8 223 mi_X8_loose 0 := am_wV.mk 1015 1017 36 47 1018 (by decide +kernel) (by decide +kernel)
theorem cv_8_226 : am_wV 8 226 mi_X8_reads 3 := am_wV.mk 1019 1021 37 47 1022 (by decide +kernel) (by decide +kernel)
theorem cv_8_230 : am_wS 8 230 mi_X8_common 2 := am_wS.mk 1023 1024 47 1025 (by decide +kernel) (by decide +kernel)
end
section
/-! ShutterTown$Letters.add(I)Z at (1,) -/
def f_X3_add (g : am_G) (p1 : Int32) : Option (Int32 × am_G) :=
  if (g 1 1) < 0 then
    some ((0 : Int32), g)
  else
    if (g 1 1) < (48 : Int32) then
      if am_in (g 1 1) 48 then
        some ((1 : Int32), am_u (am_u g 2 (Int32.toNatClampNeg (g 1 1)) p1) 1 1 (((am_u g 2 (Int32.toNatClampNeg (g 1 1)) p1) 1 1) + (1 : Int32)))
      else none
    else
      some ((0 : Int32), g)
set_option maxRecDepth 20000 in
theorem M_X3_add (l : Launch) (g : am_G) (w : am_J) (p1 : Int32) (R : Int32 × am_G) (hf : f_X3_add g p1 = some R) : am_Met l mi_X3_add rm_X3_add [.ref 1, .int p1] am_YY g w (some (.int R.1)) am_YY (R.2) w := by
  refine am_met (own := 3) [some (.ref 1), some (.int (p1))] (by decide) rfl rfl (by first | decide | exact Nat.le_of_ble_eq_true rfl) (fun x C0 hR hl hnm => ?_)
  unfold f_X3_add at hf
  refine am_b1 C0 am_YYk (pc := 0) (pc2 := 4) [(.aload_n 0, 0, 0, .null), (.getfield 15, 3, 1, .null)] (L := [some (.ref 1), some (.int (p1))]) (st := []) (L' := [some (.ref 1), some (.int (p1))]) (st' := [.int (g 1 1)]) (g' := g) (w' := w) (cl := []) (by decide +kernel) rfl trivial ?_
  refine am_if_lt C0 (off := 12) (tgt := 16) (by decide +kernel) (fun hc3 => ?_) (fun hc3 => ?_)
  · rw [if_pos hc3] at hf
    refine am_b1 C0 am_YYk (pc := 16) (pc2 := 17) [(.iconst 0, 0, 0, .int 0)] (L := [some (.ref 1), some (.int (p1))]) (st := []) (L' := [some (.ref 1), some (.int (p1))]) (st' := [.int ((0 : Int32))]) (g' := g) (w' := w) (cl := []) (by decide +kernel) rfl trivial ?_
    cases hf
    exact am_zret C0 (by decide +kernel) (Or.inl rfl)
  · rw [if_neg hc3] at hf
    refine am_b1 C0 am_YYk (pc := 7) (pc2 := 13) [(.aload_n 0, 0, 0, .null), (.getfield 15, 3, 1, .null), (.bipush 48, 0, 0, .int 48)] (L := [some (.ref 1), some (.int (p1))]) (st := []) (L' := [some (.ref 1), some (.int (p1))]) (st' := [.int ((48 : Int32)), .int (g 1 1)]) (g' := g) (w' := w) (cl := []) (by decide +kernel) rfl trivial ?_
    refine am_icmp_lt C0 (off := 5) (tgt := 18) (by decide +kernel) (fun hc2 => ?_) (fun hc2 => ?_)
    · rw [if_pos hc2] at hf
      obtain ⟨hg1, hf⟩ := am_g hf
      refine am_b1 C0 am_YYk (pc := 18) (pc2 := 39) [(.aload_n 0, 0, 0, .null), (.getfield 9, 3, 0, .null), (.aload_n 0, 0, 0, .null), (.getfield 15, 3, 1, .null), (.iload_n 1, 0, 0, .null), (.iastore, 0, 0, .null), (.aload_n 0, 0, 0, .null), (.dup, 0, 0, .null), (.getfield 15, 3, 1, .null), (.iconst 1, 0, 0, .int 1), (.iadd, 0, 0, .null), (.putfield 15, 3, 1, .null), (.iconst 1, 0, 0, .int 1)] (L := [some (.ref 1), some (.int (p1))]) (st := []) (L' := [some (.ref 1), some (.int (p1))]) (st' := [.int ((1 : Int32))]) (g' := am_u (am_u g 2 (Int32.toNatClampNeg (g 1 1)) p1) 1 1 (((am_u g 2 (Int32.toNatClampNeg (g 1 1)) p1) 1 1) + (1 : Int32))) (w' := w) (cl := [am_in (g 1 1) 48]) (by decide +kernel) rfl ⟨hg1, trivial⟩ ?_
      cases hf
      exact am_zret C0 (by decide +kernel) (Or.inr rfl)
    · rw [if_neg hc2] at hf
      refine am_b1 C0 am_YYk (pc := 16) (pc2 := 17) [(.iconst 0, 0, 0, .int 0)] (L := [some (.ref 1), some (.int (p1))]) (st := []) (L' := [some (.ref 1), some (.int (p1))]) (st' := [.int ((0 : Int32))]) (g' := g) (w' := w) (cl := []) (by decide +kernel) rfl trivial ?_
      cases hf
      exact am_zret C0 (by decide +kernel) (Or.inl rfl)
/-! ShutterTown$Letters.size()I at (1,) -/
def f_X3_size (g : am_G) : Option (Int32) :=
  some (g 1 1)
set_option maxRecDepth 20000 in
theorem M_X3_size (l : Launch) (g : am_G) (w : am_J)  (R : Int32) (hf : f_X3_size g = some R) : am_Met l mi_X3_size rm_X3_size [.ref 1] am_YY g w (some (.int R)) am_YY g w := by
  refine am_met (own := 3) [some (.ref 1)] (by decide) rfl rfl (by first | decide | exact Nat.le_of_ble_eq_true rfl) (fun x C0 hR hl hnm => ?_)
  unfold f_X3_size at hf
  refine am_b1 C0 am_YYk (pc := 0) (pc2 := 4) [(.aload_n 0, 0, 0, .null), (.getfield 15, 3, 1, .null)] (L := [some (.ref 1)]) (st := []) (L' := [some (.ref 1)]) (st' := [.int (g 1 1)]) (g' := g) (w' := w) (cl := []) (by decide +kernel) rfl trivial ?_
  cases hf
  exact am_iret C0 (by decide +kernel)
/-! ShutterTown.write(I)I at (0,) -/
def f_X7_write (g : am_G) (p1 : Int32) : Option (Int32 × am_G) :=
  if p1 < 0 then
    some ((-2 : Int32), g)
  else
    if p1 ≤ (255 : Int32) then
      (f_X3_add g p1).bind fun q1 =>
        if q1.1 = 0 then
          some ((-4 : Int32), q1.2)
        else
          (f_X3_size q1.2).bind fun q2 =>
            some (q2, q1.2)
    else
      some ((-2 : Int32), g)
set_option maxRecDepth 20000 in
theorem M_X7_write (l : Launch) (g : am_G) (w : am_J) (p1 : Int32) (R : Int32 × am_G) (hf : f_X7_write g p1 = some R) : am_Met l mi_X7_write rm_X7_write [.ref 0, .int p1] am_YY g w (some (.int R.1)) am_YY (R.2) w := by
  refine am_met (own := 7) [some (.ref 0), some (.int (p1))] (by decide) rfl rfl (by first | decide | exact Nat.le_of_ble_eq_true rfl) (fun x C0 hR hl hnm => ?_)
  unfold f_X7_write at hf
  refine am_b1 C0 am_YYk (pc := 0) (pc2 := 1) [(.iload_n 1, 0, 0, .null)] (L := [some (.ref 0), some (.int (p1))]) (st := []) (L' := [some (.ref 0), some (.int (p1))]) (st' := [.int (p1)]) (g' := g) (w' := w) (cl := []) (by decide +kernel) rfl trivial ?_
  refine am_if_lt C0 (off := 10) (tgt := 11) (by decide +kernel) (fun hc5 => ?_) (fun hc5 => ?_)
  · rw [if_pos hc5] at hf
    refine am_b1 C0 am_YYk (pc := 11) (pc2 := 13) [(.bipush (-2), 0, 0, .int (-2))] (L := [some (.ref 0), some (.int (p1))]) (st := []) (L' := [some (.ref 0), some (.int (p1))]) (st' := [.int ((-2 : Int32))]) (g' := g) (w' := w) (cl := []) (by decide +kernel) rfl trivial ?_
    cases hf
    exact am_iret C0 (by decide +kernel)
  · rw [if_neg hc5] at hf
    refine am_b1 C0 am_YYk (pc := 4) (pc2 := 8) [(.iload_n 1, 0, 0, .null), (.sipush 255, 0, 0, .int 255)] (L := [some (.ref 0), some (.int (p1))]) (st := []) (L' := [some (.ref 0), some (.int (p1))]) (st' := [.int ((255 : Int32)), .int (p1)]) (g' := g) (w' := w) (cl := []) (by decide +kernel) rfl trivial ?_
    refine am_icmp_le C0 (off := 6) (tgt := 14) (by decide +kernel) (fun hc4 => ?_) (fun hc4 => ?_)
    · rw [if_pos hc4] at hf
      refine am_b1 C0 am_YYk (pc := 14) (pc2 := 19) [(.aload_n 0, 0, 0, .null), (.getfield 12, 7, 0, .null), (.iload_n 1, 0, 0, .null)] (L := [some (.ref 0), some (.int (p1))]) (st := []) (L' := [some (.ref 0), some (.int (p1))]) (st' := [.int (p1), .ref 1]) (g' := g) (w' := w) (cl := []) (by decide +kernel) rfl trivial ?_
      obtain ⟨q1, hq1, hf⟩ := Option.bind_eq_some_iff.mp hf
      refine am_callV (mi := mi_X3_add) (rm := rm_X3_add) [.int (p1)] C0.1 am_YYl cv_7_70 (M_X3_add _ g w p1 _ hq1) (ci := 3) rfl (by decide) rfl (by rw [hR]; rfl) rfl rfl (Nat.le_of_ble_eq_true rfl) (by decide +kernel) ?_
      refine am_if_eq C0 (off := 13) (tgt := 35) (by decide +kernel) (fun hc3 => ?_) (fun hc3 => ?_)
      · rw [if_pos hc3] at hf
        refine am_b1 C0 am_YYk (pc := 35) (pc2 := 37) [(.bipush (-4), 0, 0, .int (-4))] (L := [some (.ref 0), some (.int (p1))]) (st := []) (L' := [some (.ref 0), some (.int (p1))]) (st' := [.int ((-4 : Int32))]) (g' := q1.2) (w' := w) (cl := []) (by decide +kernel) rfl trivial ?_
        cases hf
        exact am_iret C0 (by decide +kernel)
      · rw [if_neg hc3] at hf
        refine am_b1 C0 am_YYk (pc := 25) (pc2 := 29) [(.aload_n 0, 0, 0, .null), (.getfield 12, 7, 0, .null)] (L := [some (.ref 0), some (.int (p1))]) (st := []) (L' := [some (.ref 0), some (.int (p1))]) (st' := [.ref 1]) (g' := q1.2) (w' := w) (cl := []) (by decide +kernel) rfl trivial ?_
        obtain ⟨q2, hq2, hf⟩ := Option.bind_eq_some_iff.mp hf
        refine am_callV (mi := mi_X3_size) (rm := rm_X3_size) [] C0.1 am_YYl cv_7_74 (M_X3_size _ q1.2 w _ hq2) (ci := 3) rfl (by decide) rfl (by rw [hR]; rfl) rfl rfl (Nat.le_of_ble_eq_true rfl) (by decide +kernel) ?_
        refine am_goto C0 (off := 5) (tgt := 37) (by decide +kernel) ?_
        cases hf
        exact am_iret C0 (by decide +kernel)
    · rw [if_neg hc4] at hf
      refine am_b1 C0 am_YYk (pc := 11) (pc2 := 13) [(.bipush (-2), 0, 0, .int (-2))] (L := [some (.ref 0), some (.int (p1))]) (st := []) (L' := [some (.ref 0), some (.int (p1))]) (st' := [.int ((-2 : Int32))]) (g' := g) (w' := w) (cl := []) (by decide +kernel) rfl trivial ?_
      cases hf
      exact am_iret C0 (by decide +kernel)
/-! ShutterTown$Letters.clear()V at (1,) -/
def f_X3_clear (g : am_G) : Option (am_G) :=
  some (am_u g 1 1 (0 : Int32))
set_option maxRecDepth 20000 in
theorem M_X3_clear (l : Launch) (g : am_G) (w : am_J)  (R : am_G) (hf : f_X3_clear g = some R) : am_Met l mi_X3_clear rm_X3_clear [.ref 1] am_YY g w none am_YY R w := by
  refine am_met (own := 3) [some (.ref 1)] (by decide) rfl rfl (by first | decide | exact Nat.le_of_ble_eq_true rfl) (fun x C0 hR hl hnm => ?_)
  unfold f_X3_clear at hf
  refine am_b1 C0 am_YYk (pc := 0) (pc2 := 5) [(.aload_n 0, 0, 0, .null), (.iconst 0, 0, 0, .int 0), (.putfield 15, 3, 1, .null)] (L := [some (.ref 1)]) (st := []) (L' := [some (.ref 1)]) (st' := []) (g' := am_u g 1 1 (0 : Int32)) (w' := w) (cl := []) (by decide +kernel) rfl trivial ?_
  cases hf
  exact am_vret C0 (by decide +kernel)
/-! ShutterTown.wipe()I at (0,) -/
def f_X7_wipe (g : am_G) : Option (Int32 × am_G) :=
  (f_X3_size g).bind fun q1 =>
    (f_X3_clear g).bind fun q2 =>
      some (q1, q2)
set_option maxRecDepth 20000 in
theorem M_X7_wipe (l : Launch) (g : am_G) (w : am_J)  (R : Int32 × am_G) (hf : f_X7_wipe g = some R) : am_Met l mi_X7_wipe rm_X7_wipe [.ref 0] am_YY g w (some (.int R.1)) am_YY (R.2) w := by
  refine am_met (own := 7) [some (.ref 0), none] (by decide) rfl rfl (by first | decide | exact Nat.le_of_ble_eq_true rfl) (fun x C0 hR hl hnm => ?_)
  unfold f_X7_wipe at hf
  refine am_b1 C0 am_YYk (pc := 0) (pc2 := 4) [(.aload_n 0, 0, 0, .null), (.getfield 12, 7, 0, .null)] (L := [some (.ref 0), none]) (st := []) (L' := [some (.ref 0), none]) (st' := [.ref 1]) (g' := g) (w' := w) (cl := []) (by decide +kernel) rfl trivial ?_
  obtain ⟨q1, hq1, hf⟩ := Option.bind_eq_some_iff.mp hf
  refine am_callV (mi := mi_X3_size) (rm := rm_X3_size) [] C0.1 am_YYl cv_7_74 (M_X3_size _ g w _ hq1) (ci := 3) rfl (by decide) rfl (by rw [hR]; rfl) rfl rfl (Nat.le_of_ble_eq_true rfl) (by decide +kernel) ?_
  refine am_b1 C0 am_YYk (pc := 7) (pc2 := 12) [(.istore_n 1, 0, 0, .null), (.aload_n 0, 0, 0, .null), (.getfield 12, 7, 0, .null)] (L := [some (.ref 0), none]) (st := [.int (q1)]) (L' := [some (.ref 0), some (.int (q1))]) (st' := [.ref 1]) (g' := g) (w' := w) (cl := []) (by decide +kernel) rfl trivial ?_
  obtain ⟨q2, hq2, hf⟩ := Option.bind_eq_some_iff.mp hf
  refine am_callV (mi := mi_X3_clear) (rm := rm_X3_clear) [] C0.1 am_YYl cv_7_78 (M_X3_clear _ g w _ hq2) (ci := 3) rfl (by decide) rfl (by rw [hR]; rfl) rfl rfl (Nat.le_of_ble_eq_true rfl) (by decide +kernel) ?_
  refine am_b1 C0 am_YYk (pc := 15) (pc2 := 16) [(.iload_n 1, 0, 0, .null)] (L := [some (.ref 0), some (.int (q1))]) (st := []) (L' := [some (.ref 0), some (.int (q1))]) (st' := [.int (q1)]) (g' := q2) (w' := w) (cl := []) (by decide +kernel) rfl trivial ?_
  cases hf
  exact am_iret C0 (by decide +kernel)
/-! ShutterTown$Letters.isLetter(IC)Z at (1,) -/
def f_X3_isLetter (g : am_G) (p1 : Int32) (p2 : Int32) : Option (Int32) :=
  if p1 < 0 then
    some ((0 : Int32))
  else
    if (48 : Int32) ≤ p1 then
      some ((0 : Int32))
    else
      if am_in p1 48 then
        if (g 2 (Int32.toNatClampNeg p1)) = p2 then
          some ((1 : Int32))
        else
          some ((0 : Int32))
      else none
set_option maxRecDepth 20000 in
theorem M_X3_isLetter (l : Launch) (g : am_G) (w : am_J) (p1 : Int32) (p2 : Int32) (R : Int32) (hf : f_X3_isLetter g p1 p2 = some R) : am_Met l mi_X3_isLetter rm_X3_isLetter [.ref 1, .int p1, .int p2] am_YY g w (some (.int R)) am_YY g w := by
  refine am_met (own := 3) [some (.ref 1), some (.int (p1)), some (.int (p2))] (by decide) rfl rfl (by first | decide | exact Nat.le_of_ble_eq_true rfl) (fun x C0 hR hl hnm => ?_)
  unfold f_X3_isLetter at hf
  refine am_b1 C0 am_YYk (pc := 0) (pc2 := 1) [(.iload_n 1, 0, 0, .null)] (L := [some (.ref 1), some (.int (p1)), some (.int (p2))]) (st := []) (L' := [some (.ref 1), some (.int (p1)), some (.int (p2))]) (st' := [.int (p1)]) (g' := g) (w' := w) (cl := []) (by decide +kernel) rfl trivial ?_
  refine am_if_lt C0 (off := 23) (tgt := 24) (by decide +kernel) (fun hc4 => ?_) (fun hc4 => ?_)
  · rw [if_pos hc4] at hf
    refine am_b1 C0 am_YYk (pc := 24) (pc2 := 25) [(.iconst 0, 0, 0, .int 0)] (L := [some (.ref 1), some (.int (p1)), some (.int (p2))]) (st := []) (L' := [some (.ref 1), some (.int (p1)), some (.int (p2))]) (st' := [.int ((0 : Int32))]) (g' := g) (w' := w) (cl := []) (by decide +kernel) rfl trivial ?_
    cases hf
    exact am_zret C0 (by decide +kernel) (Or.inl rfl)
  · rw [if_neg hc4] at hf
    refine am_b1 C0 am_YYk (pc := 4) (pc2 := 7) [(.iload_n 1, 0, 0, .null), (.bipush 48, 0, 0, .int 48)] (L := [some (.ref 1), some (.int (p1)), some (.int (p2))]) (st := []) (L' := [some (.ref 1), some (.int (p1)), some (.int (p2))]) (st' := [.int ((48 : Int32)), .int (p1)]) (g' := g) (w' := w) (cl := []) (by decide +kernel) rfl trivial ?_
    refine am_icmp_ge C0 (off := 17) (tgt := 24) (by decide +kernel) (fun hc3 => ?_) (fun hc3 => ?_)
    · rw [if_pos hc3] at hf
      refine am_b1 C0 am_YYk (pc := 24) (pc2 := 25) [(.iconst 0, 0, 0, .int 0)] (L := [some (.ref 1), some (.int (p1)), some (.int (p2))]) (st := []) (L' := [some (.ref 1), some (.int (p1)), some (.int (p2))]) (st' := [.int ((0 : Int32))]) (g' := g) (w' := w) (cl := []) (by decide +kernel) rfl trivial ?_
      cases hf
      exact am_zret C0 (by decide +kernel) (Or.inl rfl)
    · rw [if_neg hc3] at hf
      obtain ⟨hg1, hf⟩ := am_g hf
      refine am_b1 C0 am_YYk (pc := 10) (pc2 := 17) [(.aload_n 0, 0, 0, .null), (.getfield 9, 3, 0, .null), (.iload_n 1, 0, 0, .null), (.iaload, 0, 0, .null), (.iload_n 2, 0, 0, .null)] (L := [some (.ref 1), some (.int (p1)), some (.int (p2))]) (st := []) (L' := [some (.ref 1), some (.int (p1)), some (.int (p2))]) (st' := [.int (p2), .int (g 2 (Int32.toNatClampNeg p1))]) (g' := g) (w' := w) (cl := [am_in p1 48]) (by decide +kernel) rfl ⟨hg1, trivial⟩ ?_
      refine am_icmp_ne C0 (off := 7) (tgt := 24) (by decide +kernel) (fun hc2 => ?_) (fun hc2 => ?_)
      · rw [if_neg hc2] at hf
        refine am_b1 C0 am_YYk (pc := 24) (pc2 := 25) [(.iconst 0, 0, 0, .int 0)] (L := [some (.ref 1), some (.int (p1)), some (.int (p2))]) (st := []) (L' := [some (.ref 1), some (.int (p1)), some (.int (p2))]) (st' := [.int ((0 : Int32))]) (g' := g) (w' := w) (cl := []) (by decide +kernel) rfl trivial ?_
        cases hf
        exact am_zret C0 (by decide +kernel) (Or.inl rfl)
      · rw [if_pos hc2] at hf
        refine am_b1 C0 am_YYk (pc := 20) (pc2 := 21) [(.iconst 1, 0, 0, .int 1)] (L := [some (.ref 1), some (.int (p1)), some (.int (p2))]) (st := []) (L' := [some (.ref 1), some (.int (p1)), some (.int (p2))]) (st' := [.int ((1 : Int32))]) (g' := g) (w' := w) (cl := []) (by decide +kernel) rfl trivial ?_
        refine am_goto C0 (off := 4) (tgt := 25) (by decide +kernel) ?_
        cases hf
        exact am_zret C0 (by decide +kernel) (Or.inr rfl)
/-! ShutterTown$Letters.figure(I)I at (1,) -/
def f_X3_figure (g : am_G) (p1 : Int32) : Option (Int32) :=
  if p1 < 0 then
    some ((-1 : Int32))
  else
    if (g 1 1) ≤ p1 then
      some ((-1 : Int32))
    else
      if p1 < (48 : Int32) then
        if am_in p1 48 then
          if (g 2 (Int32.toNatClampNeg p1)) < (48 : Int32) then
            some ((-1 : Int32))
          else
            if am_in p1 48 then
              if (57 : Int32) < (g 2 (Int32.toNatClampNeg p1)) then
                some ((-1 : Int32))
              else
                if am_in p1 48 then
                  some ((g 2 (Int32.toNatClampNeg p1)) - (48 : Int32))
                else none
            else none
        else none
      else
        some ((-1 : Int32))
set_option maxRecDepth 20000 in
theorem M_X3_figure (l : Launch) (g : am_G) (w : am_J) (p1 : Int32) (R : Int32) (hf : f_X3_figure g p1 = some R) : am_Met l mi_X3_figure rm_X3_figure [.ref 1, .int p1] am_YY g w (some (.int R)) am_YY g w := by
  refine am_met (own := 3) [some (.ref 1), some (.int (p1))] (by decide) rfl rfl (by first | decide | exact Nat.le_of_ble_eq_true rfl) (fun x C0 hR hl hnm => ?_)
  unfold f_X3_figure at hf
  refine am_b1 C0 am_YYk (pc := 0) (pc2 := 1) [(.iload_n 1, 0, 0, .null)] (L := [some (.ref 1), some (.int (p1))]) (st := []) (L' := [some (.ref 1), some (.int (p1))]) (st' := [.int (p1)]) (g' := g) (w' := w) (cl := []) (by decide +kernel) rfl trivial ?_
  refine am_if_lt C0 (off := 17) (tgt := 18) (by decide +kernel) (fun hc8 => ?_) (fun hc8 => ?_)
  · rw [if_pos hc8] at hf
    refine am_b1 C0 am_YYk (pc := 18) (pc2 := 19) [(.iconst (-1), 0, 0, .int (-1))] (L := [some (.ref 1), some (.int (p1))]) (st := []) (L' := [some (.ref 1), some (.int (p1))]) (st' := [.int ((-1 : Int32))]) (g' := g) (w' := w) (cl := []) (by decide +kernel) rfl trivial ?_
    cases hf
    exact am_iret C0 (by decide +kernel)
  · rw [if_neg hc8] at hf
    refine am_b1 C0 am_YYk (pc := 4) (pc2 := 9) [(.iload_n 1, 0, 0, .null), (.aload_n 0, 0, 0, .null), (.getfield 15, 3, 1, .null)] (L := [some (.ref 1), some (.int (p1))]) (st := []) (L' := [some (.ref 1), some (.int (p1))]) (st' := [.int (g 1 1), .int (p1)]) (g' := g) (w' := w) (cl := []) (by decide +kernel) rfl trivial ?_
    refine am_icmp_ge C0 (off := 9) (tgt := 18) (by decide +kernel) (fun hc7 => ?_) (fun hc7 => ?_)
    · rw [if_pos hc7] at hf
      refine am_b1 C0 am_YYk (pc := 18) (pc2 := 19) [(.iconst (-1), 0, 0, .int (-1))] (L := [some (.ref 1), some (.int (p1))]) (st := []) (L' := [some (.ref 1), some (.int (p1))]) (st' := [.int ((-1 : Int32))]) (g' := g) (w' := w) (cl := []) (by decide +kernel) rfl trivial ?_
      cases hf
      exact am_iret C0 (by decide +kernel)
    · rw [if_neg hc7] at hf
      refine am_b1 C0 am_YYk (pc := 12) (pc2 := 15) [(.iload_n 1, 0, 0, .null), (.bipush 48, 0, 0, .int 48)] (L := [some (.ref 1), some (.int (p1))]) (st := []) (L' := [some (.ref 1), some (.int (p1))]) (st' := [.int ((48 : Int32)), .int (p1)]) (g' := g) (w' := w) (cl := []) (by decide +kernel) rfl trivial ?_
      refine am_icmp_lt C0 (off := 5) (tgt := 20) (by decide +kernel) (fun hc6 => ?_) (fun hc6 => ?_)
      · rw [if_pos hc6] at hf
        obtain ⟨hg1, hf⟩ := am_g hf
        refine am_b1 C0 am_YYk (pc := 20) (pc2 := 28) [(.aload_n 0, 0, 0, .null), (.getfield 9, 3, 0, .null), (.iload_n 1, 0, 0, .null), (.iaload, 0, 0, .null), (.bipush 48, 0, 0, .int 48)] (L := [some (.ref 1), some (.int (p1))]) (st := []) (L' := [some (.ref 1), some (.int (p1))]) (st' := [.int ((48 : Int32)), .int (g 2 (Int32.toNatClampNeg p1))]) (g' := g) (w' := w) (cl := [am_in p1 48]) (by decide +kernel) rfl ⟨hg1, trivial⟩ ?_
        refine am_icmp_lt C0 (off := 26) (tgt := 54) (by decide +kernel) (fun hc5 => ?_) (fun hc5 => ?_)
        · rw [if_pos hc5] at hf
          refine am_b1 C0 am_YYk (pc := 54) (pc2 := 55) [(.iconst (-1), 0, 0, .int (-1))] (L := [some (.ref 1), some (.int (p1))]) (st := []) (L' := [some (.ref 1), some (.int (p1))]) (st' := [.int ((-1 : Int32))]) (g' := g) (w' := w) (cl := []) (by decide +kernel) rfl trivial ?_
          cases hf
          exact am_iret C0 (by decide +kernel)
        · rw [if_neg hc5] at hf
          obtain ⟨hg2, hf⟩ := am_g hf
          refine am_b1 C0 am_YYk (pc := 31) (pc2 := 39) [(.aload_n 0, 0, 0, .null), (.getfield 9, 3, 0, .null), (.iload_n 1, 0, 0, .null), (.iaload, 0, 0, .null), (.bipush 57, 0, 0, .int 57)] (L := [some (.ref 1), some (.int (p1))]) (st := []) (L' := [some (.ref 1), some (.int (p1))]) (st' := [.int ((57 : Int32)), .int (g 2 (Int32.toNatClampNeg p1))]) (g' := g) (w' := w) (cl := [am_in p1 48]) (by decide +kernel) rfl ⟨hg2, trivial⟩ ?_
          refine am_icmp_gt C0 (off := 15) (tgt := 54) (by decide +kernel) (fun hc4 => ?_) (fun hc4 => ?_)
          · rw [if_pos hc4] at hf
            refine am_b1 C0 am_YYk (pc := 54) (pc2 := 55) [(.iconst (-1), 0, 0, .int (-1))] (L := [some (.ref 1), some (.int (p1))]) (st := []) (L' := [some (.ref 1), some (.int (p1))]) (st' := [.int ((-1 : Int32))]) (g' := g) (w' := w) (cl := []) (by decide +kernel) rfl trivial ?_
            cases hf
            exact am_iret C0 (by decide +kernel)
          · rw [if_neg hc4] at hf
            obtain ⟨hg3, hf⟩ := am_g hf
            refine am_b1 C0 am_YYk (pc := 42) (pc2 := 51) [(.aload_n 0, 0, 0, .null), (.getfield 9, 3, 0, .null), (.iload_n 1, 0, 0, .null), (.iaload, 0, 0, .null), (.bipush 48, 0, 0, .int 48), (.isub, 0, 0, .null)] (L := [some (.ref 1), some (.int (p1))]) (st := []) (L' := [some (.ref 1), some (.int (p1))]) (st' := [.int ((g 2 (Int32.toNatClampNeg p1)) - (48 : Int32))]) (g' := g) (w' := w) (cl := [am_in p1 48]) (by decide +kernel) rfl ⟨hg3, trivial⟩ ?_
            refine am_goto C0 (off := 4) (tgt := 55) (by decide +kernel) ?_
            cases hf
            exact am_iret C0 (by decide +kernel)
      · rw [if_neg hc6] at hf
        refine am_b1 C0 am_YYk (pc := 18) (pc2 := 19) [(.iconst (-1), 0, 0, .int (-1))] (L := [some (.ref 1), some (.int (p1))]) (st := []) (L' := [some (.ref 1), some (.int (p1))]) (st' := [.int ((-1 : Int32))]) (g' := g) (w' := w) (cl := []) (by decide +kernel) rfl trivial ?_
        cases hf
        exact am_iret C0 (by decide +kernel)
/-! ShutterTown$Letters.isFigure(III)Z at (1,) -/
def f_X3_isFigure (g : am_G) (p1 : Int32) (p2 : Int32) (p3 : Int32) : Option (Int32) :=
  (f_X3_figure g p1).bind fun q1 =>
    if q1 < p2 then
      some ((0 : Int32))
    else
      if p3 < q1 then
        some ((0 : Int32))
      else
        some ((1 : Int32))
set_option maxRecDepth 20000 in
theorem M_X3_isFigure (l : Launch) (g : am_G) (w : am_J) (p1 : Int32) (p2 : Int32) (p3 : Int32) (R : Int32) (hf : f_X3_isFigure g p1 p2 p3 = some R) : am_Met l mi_X3_isFigure rm_X3_isFigure [.ref 1, .int p1, .int p2, .int p3] am_YY g w (some (.int R)) am_YY g w := by
  refine am_met (own := 3) [some (.ref 1), some (.int (p1)), some (.int (p2)), some (.int (p3)), none] (by decide) rfl rfl (by first | decide | exact Nat.le_of_ble_eq_true rfl) (fun x C0 hR hl hnm => ?_)
  unfold f_X3_isFigure at hf
  refine am_b1 C0 am_YYk (pc := 0) (pc2 := 2) [(.aload_n 0, 0, 0, .null), (.iload_n 1, 0, 0, .null)] (L := [some (.ref 1), some (.int (p1)), some (.int (p2)), some (.int (p3)), none]) (st := []) (L' := [some (.ref 1), some (.int (p1)), some (.int (p2)), some (.int (p3)), none]) (st' := [.int (p1), .ref 1]) (g' := g) (w' := w) (cl := []) (by decide +kernel) rfl trivial ?_
  obtain ⟨q1, hq1, hf⟩ := Option.bind_eq_some_iff.mp hf
  refine am_callV (mi := mi_X3_figure) (rm := rm_X3_figure) [.int (p1)] C0.1 am_YYl cv_3_26 (M_X3_figure _ g w p1 _ hq1) (ci := 3) rfl (by decide) rfl (by rw [hR]; rfl) rfl rfl (Nat.le_of_ble_eq_true rfl) (by decide +kernel) ?_
  refine am_b1 C0 am_YYk (pc := 5) (pc2 := 10) [(.istore 4, 0, 0, .null), (.iload 4, 0, 0, .null), (.iload_n 2, 0, 0, .null)] (L := [some (.ref 1), some (.int (p1)), some (.int (p2)), some (.int (p3)), none]) (st := [.int (q1)]) (L' := [some (.ref 1), some (.int (p1)), some (.int (p2)), some (.int (p3)), some (.int (q1))]) (st' := [.int (p2), .int (q1)]) (g' := g) (w' := w) (cl := []) (by decide +kernel) rfl trivial ?_
  refine am_icmp_lt C0 (off := 13) (tgt := 23) (by decide +kernel) (fun hc3 => ?_) (fun hc3 => ?_)
  · rw [if_pos hc3] at hf
    refine am_b1 C0 am_YYk (pc := 23) (pc2 := 24) [(.iconst 0, 0, 0, .int 0)] (L := [some (.ref 1), some (.int (p1)), some (.int (p2)), some (.int (p3)), some (.int (q1))]) (st := []) (L' := [some (.ref 1), some (.int (p1)), some (.int (p2)), some (.int (p3)), some (.int (q1))]) (st' := [.int ((0 : Int32))]) (g' := g) (w' := w) (cl := []) (by decide +kernel) rfl trivial ?_
    cases hf
    exact am_zret C0 (by decide +kernel) (Or.inl rfl)
  · rw [if_neg hc3] at hf
    refine am_b1 C0 am_YYk (pc := 13) (pc2 := 16) [(.iload 4, 0, 0, .null), (.iload_n 3, 0, 0, .null)] (L := [some (.ref 1), some (.int (p1)), some (.int (p2)), some (.int (p3)), some (.int (q1))]) (st := []) (L' := [some (.ref 1), some (.int (p1)), some (.int (p2)), some (.int (p3)), some (.int (q1))]) (st' := [.int (p3), .int (q1)]) (g' := g) (w' := w) (cl := []) (by decide +kernel) rfl trivial ?_
    refine am_icmp_gt C0 (off := 7) (tgt := 23) (by decide +kernel) (fun hc2 => ?_) (fun hc2 => ?_)
    · rw [if_pos hc2] at hf
      refine am_b1 C0 am_YYk (pc := 23) (pc2 := 24) [(.iconst 0, 0, 0, .int 0)] (L := [some (.ref 1), some (.int (p1)), some (.int (p2)), some (.int (p3)), some (.int (q1))]) (st := []) (L' := [some (.ref 1), some (.int (p1)), some (.int (p2)), some (.int (p3)), some (.int (q1))]) (st' := [.int ((0 : Int32))]) (g' := g) (w' := w) (cl := []) (by decide +kernel) rfl trivial ?_
      cases hf
      exact am_zret C0 (by decide +kernel) (Or.inl rfl)
    · rw [if_neg hc2] at hf
      refine am_b1 C0 am_YYk (pc := 19) (pc2 := 20) [(.iconst 1, 0, 0, .int 1)] (L := [some (.ref 1), some (.int (p1)), some (.int (p2)), some (.int (p3)), some (.int (q1))]) (st := []) (L' := [some (.ref 1), some (.int (p1)), some (.int (p2)), some (.int (p3)), some (.int (q1))]) (st' := [.int ((1 : Int32))]) (g' := g) (w' := w) (cl := []) (by decide +kernel) rfl trivial ?_
      refine am_goto C0 (off := 4) (tgt := 24) (by decide +kernel) ?_
      cases hf
      exact am_zret C0 (by decide +kernel) (Or.inr rfl)
/-! ShutterTown$Letters.fitsHead(I)Z at (1,) -/
def f_X3_fitsHead (g : am_G) (p1 : Int32) : Option (Int32) :=
  if p1 = 0 then
    (f_X3_isLetter g p1 (83 : Int32)).bind fun q6 =>
      if q6 = 0 ∨ q6 = 1 then
        some (q6)
      else none
  else
    if (5 : Int32) ≤ p1 then
      (f_X3_isFigure g p1 (1 : Int32) (9 : Int32)).bind fun q1 =>
        if q1 = 0 ∨ q1 = 1 then
          some (q1)
        else none
    else
      (f_X3_isFigure g p1 (0 : Int32) (3 : Int32)).bind fun q3 =>
        if q3 = 0 ∨ q3 = 1 then
          some (q3)
        else none
set_option maxRecDepth 20000 in
theorem M_X3_fitsHead (l : Launch) (g : am_G) (w : am_J) (p1 : Int32) (R : Int32) (hf : f_X3_fitsHead g p1 = some R) : am_Met l mi_X3_fitsHead rm_X3_fitsHead [.ref 1, .int p1] am_YY g w (some (.int R)) am_YY g w := by
  refine am_met (own := 3) [some (.ref 1), some (.int (p1))] (by decide) rfl rfl (by first | decide | exact Nat.le_of_ble_eq_true rfl) (fun x C0 hR hl hnm => ?_)
  unfold f_X3_fitsHead at hf
  refine am_b1 C0 am_YYk (pc := 0) (pc2 := 1) [(.iload_n 1, 0, 0, .null)] (L := [some (.ref 1), some (.int (p1))]) (st := []) (L' := [some (.ref 1), some (.int (p1))]) (st' := [.int (p1)]) (g' := g) (w' := w) (cl := []) (by decide +kernel) rfl trivial ?_
  refine am_if_ne C0 (off := 11) (tgt := 12) (by decide +kernel) (fun hc8 => ?_) (fun hc8 => ?_)
  · rw [if_neg hc8] at hf
    refine am_b1 C0 am_YYk (pc := 12) (pc2 := 14) [(.iload_n 1, 0, 0, .null), (.iconst 5, 0, 0, .int 5)] (L := [some (.ref 1), some (.int (p1))]) (st := []) (L' := [some (.ref 1), some (.int (p1))]) (st' := [.int ((5 : Int32)), .int (p1)]) (g' := g) (w' := w) (cl := []) (by decide +kernel) rfl trivial ?_
    refine am_icmp_ge C0 (off := 13) (tgt := 27) (by decide +kernel) (fun hc5 => ?_) (fun hc5 => ?_)
    · rw [if_pos hc5] at hf
      refine am_b1 C0 am_YYk (pc := 27) (pc2 := 32) [(.aload_n 0, 0, 0, .null), (.iload_n 1, 0, 0, .null), (.iconst 1, 0, 0, .int 1), (.bipush 9, 0, 0, .int 9)] (L := [some (.ref 1), some (.int (p1))]) (st := []) (L' := [some (.ref 1), some (.int (p1))]) (st' := [.int ((9 : Int32)), .int ((1 : Int32)), .int (p1), .ref 1]) (g' := g) (w' := w) (cl := []) (by decide +kernel) rfl trivial ?_
      obtain ⟨q1, hq1, hf⟩ := Option.bind_eq_some_iff.mp hf
      refine am_callV (mi := mi_X3_isFigure) (rm := rm_X3_isFigure) [.int (p1), .int ((1 : Int32)), .int ((9 : Int32))] C0.1 am_YYl cv_3_34 (M_X3_isFigure _ g w p1 (1 : Int32) (9 : Int32) _ hq1) (ci := 3) rfl (by decide) rfl (by rw [hR]; rfl) rfl rfl (Nat.le_of_ble_eq_true rfl) (by decide +kernel) ?_
      obtain ⟨hz2, hf⟩ := am_g hf
      cases hf
      exact am_zret C0 (by decide +kernel) hz2
    · rw [if_neg hc5] at hf
      refine am_b1 C0 am_YYk (pc := 17) (pc2 := 21) [(.aload_n 0, 0, 0, .null), (.iload_n 1, 0, 0, .null), (.iconst 0, 0, 0, .int 0), (.iconst 3, 0, 0, .int 3)] (L := [some (.ref 1), some (.int (p1))]) (st := []) (L' := [some (.ref 1), some (.int (p1))]) (st' := [.int ((3 : Int32)), .int ((0 : Int32)), .int (p1), .ref 1]) (g' := g) (w' := w) (cl := []) (by decide +kernel) rfl trivial ?_
      obtain ⟨q3, hq3, hf⟩ := Option.bind_eq_some_iff.mp hf
      refine am_callV (mi := mi_X3_isFigure) (rm := rm_X3_isFigure) [.int (p1), .int ((0 : Int32)), .int ((3 : Int32))] C0.1 am_YYl cv_3_34 (M_X3_isFigure _ g w p1 (0 : Int32) (3 : Int32) _ hq3) (ci := 3) rfl (by decide) rfl (by rw [hR]; rfl) rfl rfl (Nat.le_of_ble_eq_true rfl) (by decide +kernel) ?_
      refine am_goto C0 (off := 11) (tgt := 35) (by decide +kernel) ?_
      obtain ⟨hz4, hf⟩ := am_g hf
      cases hf
      exact am_zret C0 (by decide +kernel) hz4
  · rw [if_pos hc8] at hf
    refine am_b1 C0 am_YYk (pc := 4) (pc2 := 8) [(.aload_n 0, 0, 0, .null), (.iload_n 1, 0, 0, .null), (.bipush 83, 0, 0, .int 83)] (L := [some (.ref 1), some (.int (p1))]) (st := []) (L' := [some (.ref 1), some (.int (p1))]) (st' := [.int ((83 : Int32)), .int (p1), .ref 1]) (g' := g) (w' := w) (cl := []) (by decide +kernel) rfl trivial ?_
    obtain ⟨q6, hq6, hf⟩ := Option.bind_eq_some_iff.mp hf
    refine am_callV (mi := mi_X3_isLetter) (rm := rm_X3_isLetter) [.int (p1), .int ((83 : Int32))] C0.1 am_YYl cv_3_30 (M_X3_isLetter _ g w p1 (83 : Int32) _ hq6) (ci := 3) rfl (by decide) rfl (by rw [hR]; rfl) rfl rfl (Nat.le_of_ble_eq_true rfl) (by decide +kernel) ?_
    obtain ⟨hz7, hf⟩ := am_g hf
    cases hf
    exact am_zret C0 (by decide +kernel) hz7
/-! ShutterTown$Letters.isTaken(II)Z at (1,) -/
def f_X3_isTaken_34 (F : Nat) (g : am_G) (p1 : Int32) (p2 : Int32) (k3 : Int32 → Option (Int32)) (l3 : Int32) : Option (Int32) :=
  k3 (l3 + (6 : Int32))
set_option maxRecDepth 20000 in
theorem B_X3_isTaken_34 (x : am_X) (C0 : am_Cm x 3 cX3_isTaken 4 (some .boolean)) (hR : am_R x = rm_X3_isTaken) (w : am_J) (F : Nat) (g : am_G) (p1 : Int32) (p2 : Int32) (R : Int32) (k3 : Int32 → Option (Int32)) (hk3 : ∀ (l3 : Int32), k3 l3 = some R → am_Ev x 4 (0, 0) (am_Q x (0, 0) (some (.int R)) am_YY g w) 3 [some (.ref 1), some (.int (p1)), some (.int (p2)), some (.int (l3))] [] am_YY g w) (l3 : Int32) (hf : f_X3_isTaken_34 F g p1 p2 k3 l3 = some R) : am_Ev x 4 (0, 0) (am_Q x (0, 0) (some (.int R)) am_YY g w) 34 [some (.ref 1), some (.int (p1)), some (.int (p2)), some (.int (l3))] [] am_YY g w := by
  unfold f_X3_isTaken_34 at hf
  refine am_b1 C0 am_YYk (pc := 34) (pc2 := 37) [(.iinc 3 6, 0, 0, .int 6)] (L := [some (.ref 1), some (.int (p1)), some (.int (p2)), some (.int (l3))]) (st := []) (L' := [some (.ref 1), some (.int (p1)), some (.int (p2)), some (.int (l3 + (6 : Int32)))]) (st' := []) (g' := g) (w' := w) (cl := []) (by decide +kernel) rfl trivial ?_
  refine am_goto C0 (off := (-34)) (tgt := 3) (by decide +kernel) ?_
  exact hk3 (l3 + (6 : Int32)) hf
def f_X3_isTaken_3 (F : Nat) (g : am_G) (p1 : Int32) (p2 : Int32)  : Nat → Int32 → Option (Int32)
  | 0, _ => none
  | n + 1, l3 =>
    if p1 ≤ l3 then
      some ((0 : Int32))
    else
      (f_X3_figure g l3).bind fun q1 =>
        (f_X3_figure g p1).bind fun q2 =>
          if q1 = q2 then
            (f_X3_figure g (l3 + (1 : Int32))).bind fun q3 =>
              if q3 = p2 then
                some ((1 : Int32))
              else
                f_X3_isTaken_34 F g p1 p2 (fun l3 => f_X3_isTaken_3 F g p1 p2 n l3) (l3)
          else
            f_X3_isTaken_34 F g p1 p2 (fun l3 => f_X3_isTaken_3 F g p1 p2 n l3) (l3)
set_option maxRecDepth 20000 in
theorem B_X3_isTaken_3 (x : am_X) (C0 : am_Cm x 3 cX3_isTaken 4 (some .boolean)) (hR : am_R x = rm_X3_isTaken) (w : am_J) (F : Nat) (g : am_G) (p1 : Int32) (p2 : Int32) (R : Int32)   : ∀ (n : Nat) (l3 : Int32), f_X3_isTaken_3 F g p1 p2 n l3 = some R → am_Ev x 4 (0, 0) (am_Q x (0, 0) (some (.int R)) am_YY g w) 3 [some (.ref 1), some (.int (p1)), some (.int (p2)), some (.int (l3))] [] am_YY g w := by
  intro n
  induction n with
  | zero => intro l3 hf; cases hf
  | succ n ih =>
    intro l3 hf
    rw [f_X3_isTaken_3.eq_2] at hf
    refine am_b1 C0 am_YYk (pc := 3) (pc2 := 5) [(.iload_n 3, 0, 0, .null), (.iload_n 1, 0, 0, .null)] (L := [some (.ref 1), some (.int (p1)), some (.int (p2)), some (.int (l3))]) (st := []) (L' := [some (.ref 1), some (.int (p1)), some (.int (p2)), some (.int (l3))]) (st' := [.int (p1), .int (l3)]) (g' := g) (w' := w) (cl := []) (by decide +kernel) rfl trivial ?_
    refine am_icmp_ge C0 (off := 35) (tgt := 40) (by decide +kernel) (fun hc6 => ?_) (fun hc6 => ?_)
    · rw [if_pos hc6] at hf
      refine am_b1 C0 am_YYk (pc := 40) (pc2 := 41) [(.iconst 0, 0, 0, .int 0)] (L := [some (.ref 1), some (.int (p1)), some (.int (p2)), some (.int (l3))]) (st := []) (L' := [some (.ref 1), some (.int (p1)), some (.int (p2)), some (.int (l3))]) (st' := [.int ((0 : Int32))]) (g' := g) (w' := w) (cl := []) (by decide +kernel) rfl trivial ?_
      cases hf
      exact am_zret C0 (by decide +kernel) (Or.inl rfl)
    · rw [if_neg hc6] at hf
      refine am_b1 C0 am_YYk (pc := 8) (pc2 := 10) [(.aload_n 0, 0, 0, .null), (.iload_n 3, 0, 0, .null)] (L := [some (.ref 1), some (.int (p1)), some (.int (p2)), some (.int (l3))]) (st := []) (L' := [some (.ref 1), some (.int (p1)), some (.int (p2)), some (.int (l3))]) (st' := [.int (l3), .ref 1]) (g' := g) (w' := w) (cl := []) (by decide +kernel) rfl trivial ?_
      obtain ⟨q1, hq1, hf⟩ := Option.bind_eq_some_iff.mp hf
      refine am_callV (mi := mi_X3_figure) (rm := rm_X3_figure) [.int (l3)] C0.1 am_YYl cv_3_26 (M_X3_figure _ g w l3 _ hq1) (ci := 3) rfl (by decide) rfl (by rw [hR]; rfl) rfl rfl (Nat.le_of_ble_eq_true rfl) (by decide +kernel) ?_
      refine am_b1 C0 am_YYk (pc := 13) (pc2 := 15) [(.aload_n 0, 0, 0, .null), (.iload_n 1, 0, 0, .null)] (L := [some (.ref 1), some (.int (p1)), some (.int (p2)), some (.int (l3))]) (st := [.int (q1)]) (L' := [some (.ref 1), some (.int (p1)), some (.int (p2)), some (.int (l3))]) (st' := [.int (p1), .ref 1, .int (q1)]) (g' := g) (w' := w) (cl := []) (by decide +kernel) rfl trivial ?_
      obtain ⟨q2, hq2, hf⟩ := Option.bind_eq_some_iff.mp hf
      refine am_callV (mi := mi_X3_figure) (rm := rm_X3_figure) [.int (p1)] C0.1 am_YYl cv_3_26 (M_X3_figure _ g w p1 _ hq2) (ci := 3) rfl (by decide) rfl (by rw [hR]; rfl) rfl rfl (Nat.le_of_ble_eq_true rfl) (by decide +kernel) ?_
      refine am_icmp_ne C0 (off := 16) (tgt := 34) (by decide +kernel) (fun hc5 => ?_) (fun hc5 => ?_)
      · rw [if_neg hc5] at hf
        exact B_X3_isTaken_34 x C0 hR w F g p1 p2 R _ (fun l3 hf => ih l3 hf) (l3) hf
      · rw [if_pos hc5] at hf
        refine am_b1 C0 am_YYk (pc := 21) (pc2 := 25) [(.aload_n 0, 0, 0, .null), (.iload_n 3, 0, 0, .null), (.iconst 1, 0, 0, .int 1), (.iadd, 0, 0, .null)] (L := [some (.ref 1), some (.int (p1)), some (.int (p2)), some (.int (l3))]) (st := []) (L' := [some (.ref 1), some (.int (p1)), some (.int (p2)), some (.int (l3))]) (st' := [.int (l3 + (1 : Int32)), .ref 1]) (g' := g) (w' := w) (cl := []) (by decide +kernel) rfl trivial ?_
        obtain ⟨q3, hq3, hf⟩ := Option.bind_eq_some_iff.mp hf
        refine am_callV (mi := mi_X3_figure) (rm := rm_X3_figure) [.int (l3 + (1 : Int32))] C0.1 am_YYl cv_3_26 (M_X3_figure _ g w (l3 + (1 : Int32)) _ hq3) (ci := 3) rfl (by decide) rfl (by rw [hR]; rfl) rfl rfl (Nat.le_of_ble_eq_true rfl) (by decide +kernel) ?_
        refine am_b1 C0 am_YYk (pc := 28) (pc2 := 29) [(.iload_n 2, 0, 0, .null)] (L := [some (.ref 1), some (.int (p1)), some (.int (p2)), some (.int (l3))]) (st := [.int (q3)]) (L' := [some (.ref 1), some (.int (p1)), some (.int (p2)), some (.int (l3))]) (st' := [.int (p2), .int (q3)]) (g' := g) (w' := w) (cl := []) (by decide +kernel) rfl trivial ?_
        refine am_icmp_ne C0 (off := 5) (tgt := 34) (by decide +kernel) (fun hc4 => ?_) (fun hc4 => ?_)
        · rw [if_neg hc4] at hf
          exact B_X3_isTaken_34 x C0 hR w F g p1 p2 R _ (fun l3 hf => ih l3 hf) (l3) hf
        · rw [if_pos hc4] at hf
          refine am_b1 C0 am_YYk (pc := 32) (pc2 := 33) [(.iconst 1, 0, 0, .int 1)] (L := [some (.ref 1), some (.int (p1)), some (.int (p2)), some (.int (l3))]) (st := []) (L' := [some (.ref 1), some (.int (p1)), some (.int (p2)), some (.int (l3))]) (st' := [.int ((1 : Int32))]) (g' := g) (w' := w) (cl := []) (by decide +kernel) rfl trivial ?_
          cases hf
          exact am_zret C0 (by decide +kernel) (Or.inr rfl)
def f_X3_isTaken (F : Nat) (g : am_G) (p1 : Int32) (p2 : Int32) : Option (Int32) :=
  f_X3_isTaken_3 F g p1 p2 F ((7 : Int32))
set_option maxRecDepth 20000 in
theorem M_X3_isTaken (l : Launch) (F : Nat) (g : am_G) (w : am_J) (p1 : Int32) (p2 : Int32) (R : Int32) (hf : f_X3_isTaken F g p1 p2 = some R) : am_Met l mi_X3_isTaken rm_X3_isTaken [.ref 1, .int p1, .int p2] am_YY g w (some (.int R)) am_YY g w := by
  refine am_met (own := 3) [some (.ref 1), some (.int (p1)), some (.int (p2)), none] (by decide) rfl rfl (by first | decide | exact Nat.le_of_ble_eq_true rfl) (fun x C0 hR hl hnm => ?_)
  unfold f_X3_isTaken at hf
  refine am_b1 C0 am_YYk (pc := 0) (pc2 := 3) [(.bipush 7, 0, 0, .int 7), (.istore_n 3, 0, 0, .null)] (L := [some (.ref 1), some (.int (p1)), some (.int (p2)), none]) (st := []) (L' := [some (.ref 1), some (.int (p1)), some (.int (p2)), some (.int ((7 : Int32)))]) (st' := []) (g' := g) (w' := w) (cl := []) (by decide +kernel) rfl trivial ?_
  refine B_X3_isTaken_3 x C0 hR w F g p1 p2 R   F ((7 : Int32)) hf
/-! ShutterTown$Letters.fitsWindow(I)Z at (1,) -/
def f_X3_fitsWindow_86 (F : Nat) (g : am_G) (p1 : Int32)   : Option (Int32) :=
  some ((1 : Int32))
set_option maxRecDepth 20000 in
theorem B_X3_fitsWindow_86 (x : am_X) (C0 : am_Cm x 3 cX3_fitsWindow 2 (some .boolean)) (hR : am_R x = rm_X3_fitsWindow) (w : am_J) (F : Nat) (g : am_G) (p1 : Int32) (R : Int32)    (hf : f_X3_fitsWindow_86 F g p1 = some R) : am_Ev x 2 (0, 0) (am_Q x (0, 0) (some (.int R)) am_YY g w) 86 [none, some (.int (p1))] [] am_YY g w := by
  unfold f_X3_fitsWindow_86 at hf
  refine am_b1 C0 am_YYk (pc := 86) (pc2 := 87) [(.iconst 1, 0, 0, .int 1)] (L := [none, some (.int (p1))]) (st := []) (L' := [none, some (.int (p1))]) (st' := [.int ((1 : Int32))]) (g' := g) (w' := w) (cl := []) (by decide +kernel) rfl trivial ?_
  refine am_goto C0 (off := 4) (tgt := 91) (by decide +kernel) ?_
  cases hf
  exact am_zret C0 (by decide +kernel) (Or.inr rfl)
def f_X3_fitsWindow (F : Nat) (g : am_G) (p1 : Int32) : Option (Int32) :=
  if (p1 - p1 / (6 : Int32) * (6 : Int32)) = (0 : Int32) then
    (f_X3_isLetter g p1 (87 : Int32)).bind fun q1 =>
      if q1 = 0 then
        some ((0 : Int32))
      else
        if (6 : Int32) < (p1 / (6 : Int32)) then
          some ((0 : Int32))
        else
          some ((1 : Int32))
  else
  if (p1 - p1 / (6 : Int32) * (6 : Int32)) = (1 : Int32) then
    (f_X3_isFigure g p1 (0 : Int32) (9 : Int32)).bind fun q4 =>
      if q4 = 0 then
        some ((0 : Int32))
      else
        (f_X3_isTaken F g p1 (0 : Int32)).bind fun q5 =>
          if q5 = 0 then
            f_X3_fitsWindow_86 F g p1
          else
            (f_X3_isTaken F g p1 (1 : Int32)).bind fun q6 =>
              if q6 = 0 then
                f_X3_fitsWindow_86 F g p1
              else
                some ((0 : Int32))
  else
  if (p1 - p1 / (6 : Int32) * (6 : Int32)) = (2 : Int32) then
    (f_X3_isFigure g p1 (0 : Int32) (1 : Int32)).bind fun q10 =>
      if q10 = 0 then
        some ((0 : Int32))
      else
        (f_X3_figure g p1).bind fun q11 =>
          (f_X3_isTaken F g (p1 - (1 : Int32)) q11).bind fun q12 =>
            if q12 = 0 then
              some ((1 : Int32))
            else
              some ((0 : Int32))
  else
  (f_X3_isFigure g p1 (0 : Int32) (3 : Int32)).bind fun q15 =>
    if q15 = 0 ∨ q15 = 1 then
      some (q15)
    else none
set_option maxRecDepth 20000 in
theorem M_X3_fitsWindow (l : Launch) (F : Nat) (g : am_G) (w : am_J) (p1 : Int32) (R : Int32) (hf : f_X3_fitsWindow F g p1 = some R) : am_Met l mi_X3_fitsWindow rm_X3_fitsWindow [.ref 1, .int p1] am_YY g w (some (.int R)) am_YY g w := by
  refine am_met (own := 3) [some (.ref 1), some (.int (p1))] (by decide) rfl rfl (by first | decide | exact Nat.le_of_ble_eq_true rfl) (fun x C0 hR hl hnm => ?_)
  unfold f_X3_fitsWindow at hf
  refine am_b1 C0 am_YYk (pc := 0) (pc2 := 4) [(.iload_n 1, 0, 0, .null), (.bipush 6, 0, 0, .int 6), (.irem, 0, 0, .null)] (L := [some (.ref 1), some (.int (p1))]) (st := []) (L' := [some (.ref 1), some (.int (p1))]) (st' := [.int (p1 - p1 / (6 : Int32) * (6 : Int32))]) (g' := g) (w' := w) (cl := [¬ (6 : Int32) = 0]) (by decide +kernel) rfl ⟨by decide, trivial⟩ ?_
  by_cases hs17 : (p1 - p1 / (6 : Int32) * (6 : Int32)) = (0 : Int32)
  · rw [if_pos hs17] at hf
    refine am_swIn C0 (n := 28) (dflt := 119) (lo := 0) (hi := 2) (offs := #[28, 53, 88]) (by decide +kernel) (off := 28) (tgt := 32) (by rw [hs17]; decide) (by rw [hs17]; decide) (by rw [hs17]; rfl) (by decide) ?_
    refine am_b1 C0 am_YYk (pc := 32) (pc2 := 36) [(.aload_n 0, 0, 0, .null), (.iload_n 1, 0, 0, .null), (.bipush 87, 0, 0, .int 87)] (L := [some (.ref 1), some (.int (p1))]) (st := []) (L' := [some (.ref 1), some (.int (p1))]) (st' := [.int ((87 : Int32)), .int (p1), .ref 1]) (g' := g) (w' := w) (cl := []) (by decide +kernel) rfl trivial ?_
    obtain ⟨q1, hq1, hf⟩ := Option.bind_eq_some_iff.mp hf
    refine am_callV (mi := mi_X3_isLetter) (rm := rm_X3_isLetter) [.int (p1), .int ((87 : Int32))] C0.1 am_YYl cv_3_30 (M_X3_isLetter _ g w p1 (87 : Int32) _ hq1) (ci := 3) rfl (by decide) rfl (by rw [hR]; rfl) rfl rfl (Nat.le_of_ble_eq_true rfl) (by decide +kernel) ?_
    refine am_if_eq C0 (off := 16) (tgt := 55) (by decide +kernel) (fun hc3 => ?_) (fun hc3 => ?_)
    · rw [if_pos hc3] at hf
      refine am_b1 C0 am_YYk (pc := 55) (pc2 := 56) [(.iconst 0, 0, 0, .int 0)] (L := [some (.ref 1), some (.int (p1))]) (st := []) (L' := [some (.ref 1), some (.int (p1))]) (st' := [.int ((0 : Int32))]) (g' := g) (w' := w) (cl := []) (by decide +kernel) rfl trivial ?_
      cases hf
      exact am_zret C0 (by decide +kernel) (Or.inl rfl)
    · rw [if_neg hc3] at hf
      refine am_b1 C0 am_YYk (pc := 42) (pc2 := 48) [(.iload_n 1, 0, 0, .null), (.bipush 6, 0, 0, .int 6), (.idiv, 0, 0, .null), (.bipush 6, 0, 0, .int 6)] (L := [some (.ref 1), some (.int (p1))]) (st := []) (L' := [some (.ref 1), some (.int (p1))]) (st' := [.int ((6 : Int32)), .int (p1 / (6 : Int32))]) (g' := g) (w' := w) (cl := [¬ (6 : Int32) = 0]) (by decide +kernel) rfl ⟨by decide, trivial⟩ ?_
      refine am_icmp_gt C0 (off := 7) (tgt := 55) (by decide +kernel) (fun hc2 => ?_) (fun hc2 => ?_)
      · rw [if_pos hc2] at hf
        refine am_b1 C0 am_YYk (pc := 55) (pc2 := 56) [(.iconst 0, 0, 0, .int 0)] (L := [some (.ref 1), some (.int (p1))]) (st := []) (L' := [some (.ref 1), some (.int (p1))]) (st' := [.int ((0 : Int32))]) (g' := g) (w' := w) (cl := []) (by decide +kernel) rfl trivial ?_
        cases hf
        exact am_zret C0 (by decide +kernel) (Or.inl rfl)
      · rw [if_neg hc2] at hf
        refine am_b1 C0 am_YYk (pc := 51) (pc2 := 52) [(.iconst 1, 0, 0, .int 1)] (L := [some (.ref 1), some (.int (p1))]) (st := []) (L' := [some (.ref 1), some (.int (p1))]) (st' := [.int ((1 : Int32))]) (g' := g) (w' := w) (cl := []) (by decide +kernel) rfl trivial ?_
        refine am_goto C0 (off := 4) (tgt := 56) (by decide +kernel) ?_
        cases hf
        exact am_zret C0 (by decide +kernel) (Or.inr rfl)
  rw [if_neg hs17] at hf
  by_cases hs18 : (p1 - p1 / (6 : Int32) * (6 : Int32)) = (1 : Int32)
  · rw [if_pos hs18] at hf
    refine am_swIn C0 (n := 28) (dflt := 119) (lo := 0) (hi := 2) (offs := #[28, 53, 88]) (by decide +kernel) (off := 53) (tgt := 57) (by rw [hs18]; decide) (by rw [hs18]; decide) (by rw [hs18]; rfl) (by decide) ?_
    refine am_b1 C0 am_YYk (pc := 57) (pc2 := 62) [(.aload_n 0, 0, 0, .null), (.iload_n 1, 0, 0, .null), (.iconst 0, 0, 0, .int 0), (.bipush 9, 0, 0, .int 9)] (L := [some (.ref 1), some (.int (p1))]) (st := []) (L' := [some (.ref 1), some (.int (p1))]) (st' := [.int ((9 : Int32)), .int ((0 : Int32)), .int (p1), .ref 1]) (g' := g) (w' := w) (cl := []) (by decide +kernel) rfl trivial ?_
    obtain ⟨q4, hq4, hf⟩ := Option.bind_eq_some_iff.mp hf
    refine am_callV (mi := mi_X3_isFigure) (rm := rm_X3_isFigure) [.int (p1), .int ((0 : Int32)), .int ((9 : Int32))] C0.1 am_YYl cv_3_34 (M_X3_isFigure _ g w p1 (0 : Int32) (9 : Int32) _ hq4) (ci := 3) rfl (by decide) rfl (by rw [hR]; rfl) rfl rfl (Nat.le_of_ble_eq_true rfl) (by decide +kernel) ?_
    refine am_if_eq C0 (off := 25) (tgt := 90) (by decide +kernel) (fun hc9 => ?_) (fun hc9 => ?_)
    · rw [if_pos hc9] at hf
      refine am_b1 C0 am_YYk (pc := 90) (pc2 := 91) [(.iconst 0, 0, 0, .int 0)] (L := [some (.ref 1), some (.int (p1))]) (st := []) (L' := [some (.ref 1), some (.int (p1))]) (st' := [.int ((0 : Int32))]) (g' := g) (w' := w) (cl := []) (by decide +kernel) rfl trivial ?_
      cases hf
      exact am_zret C0 (by decide +kernel) (Or.inl rfl)
    · rw [if_neg hc9] at hf
      refine am_b1 C0 am_YYk (pc := 68) (pc2 := 71) [(.aload_n 0, 0, 0, .null), (.iload_n 1, 0, 0, .null), (.iconst 0, 0, 0, .int 0)] (L := [some (.ref 1), some (.int (p1))]) (st := []) (L' := [some (.ref 1), some (.int (p1))]) (st' := [.int ((0 : Int32)), .int (p1), .ref 1]) (g' := g) (w' := w) (cl := []) (by decide +kernel) rfl trivial ?_
      obtain ⟨q5, hq5, hf⟩ := Option.bind_eq_some_iff.mp hf
      refine am_callV (mi := mi_X3_isTaken) (rm := rm_X3_isTaken) [.int (p1), .int ((0 : Int32))] C0.1 am_YYl cv_3_38 (M_X3_isTaken _ F g w p1 (0 : Int32) _ hq5) (ci := 3) rfl (by decide) rfl (by rw [hR]; rfl) rfl rfl (Nat.le_of_ble_eq_true rfl) (by decide +kernel) ?_
      refine am_if_eq C0 (off := 12) (tgt := 86) (by decide +kernel) (fun hc8 => ?_) (fun hc8 => ?_)
      · rw [if_pos hc8] at hf
        refine am_wk [none, some (.int (p1))] ⟨rfl, trivial⟩ rfl ?_
        exact B_X3_fitsWindow_86 x C0 hR w F g p1 R   hf
      · rw [if_neg hc8] at hf
        refine am_b1 C0 am_YYk (pc := 77) (pc2 := 80) [(.aload_n 0, 0, 0, .null), (.iload_n 1, 0, 0, .null), (.iconst 1, 0, 0, .int 1)] (L := [some (.ref 1), some (.int (p1))]) (st := []) (L' := [some (.ref 1), some (.int (p1))]) (st' := [.int ((1 : Int32)), .int (p1), .ref 1]) (g' := g) (w' := w) (cl := []) (by decide +kernel) rfl trivial ?_
        obtain ⟨q6, hq6, hf⟩ := Option.bind_eq_some_iff.mp hf
        refine am_callV (mi := mi_X3_isTaken) (rm := rm_X3_isTaken) [.int (p1), .int ((1 : Int32))] C0.1 am_YYl cv_3_38 (M_X3_isTaken _ F g w p1 (1 : Int32) _ hq6) (ci := 3) rfl (by decide) rfl (by rw [hR]; rfl) rfl rfl (Nat.le_of_ble_eq_true rfl) (by decide +kernel) ?_
        refine am_if_ne C0 (off := 7) (tgt := 90) (by decide +kernel) (fun hc7 => ?_) (fun hc7 => ?_)
        · rw [if_neg hc7] at hf
          refine am_b1 C0 am_YYk (pc := 90) (pc2 := 91) [(.iconst 0, 0, 0, .int 0)] (L := [some (.ref 1), some (.int (p1))]) (st := []) (L' := [some (.ref 1), some (.int (p1))]) (st' := [.int ((0 : Int32))]) (g' := g) (w' := w) (cl := []) (by decide +kernel) rfl trivial ?_
          cases hf
          exact am_zret C0 (by decide +kernel) (Or.inl rfl)
        · rw [if_pos hc7] at hf
          refine am_wk [none, some (.int (p1))] ⟨rfl, trivial⟩ rfl ?_
          exact B_X3_fitsWindow_86 x C0 hR w F g p1 R   hf
  rw [if_neg hs18] at hf
  by_cases hs19 : (p1 - p1 / (6 : Int32) * (6 : Int32)) = (2 : Int32)
  · rw [if_pos hs19] at hf
    refine am_swIn C0 (n := 28) (dflt := 119) (lo := 0) (hi := 2) (offs := #[28, 53, 88]) (by decide +kernel) (off := 88) (tgt := 92) (by rw [hs19]; decide) (by rw [hs19]; decide) (by rw [hs19]; rfl) (by decide) ?_
    refine am_b1 C0 am_YYk (pc := 92) (pc2 := 96) [(.aload_n 0, 0, 0, .null), (.iload_n 1, 0, 0, .null), (.iconst 0, 0, 0, .int 0), (.iconst 1, 0, 0, .int 1)] (L := [some (.ref 1), some (.int (p1))]) (st := []) (L' := [some (.ref 1), some (.int (p1))]) (st' := [.int ((1 : Int32)), .int ((0 : Int32)), .int (p1), .ref 1]) (g' := g) (w' := w) (cl := []) (by decide +kernel) rfl trivial ?_
    obtain ⟨q10, hq10, hf⟩ := Option.bind_eq_some_iff.mp hf
    refine am_callV (mi := mi_X3_isFigure) (rm := rm_X3_isFigure) [.int (p1), .int ((0 : Int32)), .int ((1 : Int32))] C0.1 am_YYl cv_3_34 (M_X3_isFigure _ g w p1 (0 : Int32) (1 : Int32) _ hq10) (ci := 3) rfl (by decide) rfl (by rw [hR]; rfl) rfl rfl (Nat.le_of_ble_eq_true rfl) (by decide +kernel) ?_
    refine am_if_eq C0 (off := 22) (tgt := 121) (by decide +kernel) (fun hc14 => ?_) (fun hc14 => ?_)
    · rw [if_pos hc14] at hf
      refine am_b1 C0 am_YYk (pc := 121) (pc2 := 122) [(.iconst 0, 0, 0, .int 0)] (L := [some (.ref 1), some (.int (p1))]) (st := []) (L' := [some (.ref 1), some (.int (p1))]) (st' := [.int ((0 : Int32))]) (g' := g) (w' := w) (cl := []) (by decide +kernel) rfl trivial ?_
      cases hf
      exact am_zret C0 (by decide +kernel) (Or.inl rfl)
    · rw [if_neg hc14] at hf
      refine am_b1 C0 am_YYk (pc := 102) (pc2 := 108) [(.aload_n 0, 0, 0, .null), (.iload_n 1, 0, 0, .null), (.iconst 1, 0, 0, .int 1), (.isub, 0, 0, .null), (.aload_n 0, 0, 0, .null), (.iload_n 1, 0, 0, .null)] (L := [some (.ref 1), some (.int (p1))]) (st := []) (L' := [some (.ref 1), some (.int (p1))]) (st' := [.int (p1), .ref 1, .int (p1 - (1 : Int32)), .ref 1]) (g' := g) (w' := w) (cl := []) (by decide +kernel) rfl trivial ?_
      obtain ⟨q11, hq11, hf⟩ := Option.bind_eq_some_iff.mp hf
      refine am_callV (mi := mi_X3_figure) (rm := rm_X3_figure) [.int (p1)] C0.1 am_YYl cv_3_26 (M_X3_figure _ g w p1 _ hq11) (ci := 3) rfl (by decide) rfl (by rw [hR]; rfl) rfl rfl (Nat.le_of_ble_eq_true rfl) (by decide +kernel) ?_
      obtain ⟨q12, hq12, hf⟩ := Option.bind_eq_some_iff.mp hf
      refine am_callV (mi := mi_X3_isTaken) (rm := rm_X3_isTaken) [.int (p1 - (1 : Int32)), .int (q11)] C0.1 am_YYl cv_3_38 (M_X3_isTaken _ F g w (p1 - (1 : Int32)) q11 _ hq12) (ci := 3) rfl (by decide) rfl (by rw [hR]; rfl) rfl rfl (Nat.le_of_ble_eq_true rfl) (by decide +kernel) ?_
      refine am_if_ne C0 (off := 7) (tgt := 121) (by decide +kernel) (fun hc13 => ?_) (fun hc13 => ?_)
      · rw [if_neg hc13] at hf
        refine am_b1 C0 am_YYk (pc := 121) (pc2 := 122) [(.iconst 0, 0, 0, .int 0)] (L := [some (.ref 1), some (.int (p1))]) (st := []) (L' := [some (.ref 1), some (.int (p1))]) (st' := [.int ((0 : Int32))]) (g' := g) (w' := w) (cl := []) (by decide +kernel) rfl trivial ?_
        cases hf
        exact am_zret C0 (by decide +kernel) (Or.inl rfl)
      · rw [if_pos hc13] at hf
        refine am_b1 C0 am_YYk (pc := 117) (pc2 := 118) [(.iconst 1, 0, 0, .int 1)] (L := [some (.ref 1), some (.int (p1))]) (st := []) (L' := [some (.ref 1), some (.int (p1))]) (st' := [.int ((1 : Int32))]) (g' := g) (w' := w) (cl := []) (by decide +kernel) rfl trivial ?_
        refine am_goto C0 (off := 4) (tgt := 122) (by decide +kernel) ?_
        cases hf
        exact am_zret C0 (by decide +kernel) (Or.inr rfl)
  rw [if_neg hs19] at hf
  refine am_swOut C0 (n := 28) (dflt := 119) (lo := 0) (hi := 2) (offs := #[28, 53, 88]) (by decide +kernel) (tgt := 123) (am_sw2 hs17 hs18 hs19) (by decide) ?_
  refine am_b1 C0 am_YYk (pc := 123) (pc2 := 127) [(.aload_n 0, 0, 0, .null), (.iload_n 1, 0, 0, .null), (.iconst 0, 0, 0, .int 0), (.iconst 3, 0, 0, .int 3)] (L := [some (.ref 1), some (.int (p1))]) (st := []) (L' := [some (.ref 1), some (.int (p1))]) (st' := [.int ((3 : Int32)), .int ((0 : Int32)), .int (p1), .ref 1]) (g' := g) (w' := w) (cl := []) (by decide +kernel) rfl trivial ?_
  obtain ⟨q15, hq15, hf⟩ := Option.bind_eq_some_iff.mp hf
  refine am_callV (mi := mi_X3_isFigure) (rm := rm_X3_isFigure) [.int (p1), .int ((0 : Int32)), .int ((3 : Int32))] C0.1 am_YYl cv_3_34 (M_X3_isFigure _ g w p1 (0 : Int32) (3 : Int32) _ hq15) (ci := 3) rfl (by decide) rfl (by rw [hR]; rfl) rfl rfl (Nat.le_of_ble_eq_true rfl) (by decide +kernel) ?_
  obtain ⟨hz16, hf⟩ := am_g hf
  cases hf
  exact am_zret C0 (by decide +kernel) hz16
/-! ShutterTown$Letters.firstFault()I at (1,) -/
def f_X3_firstFault_42 (F : Nat) (g : am_G)   : Option (Int32) :=
  if (g 1 1) < (6 : Int32) then
    some (g 1 1)
  else
    if ((g 1 1) - (g 1 1) / (6 : Int32) * (6 : Int32)) = 0 then
      some ((-9 : Int32))
    else
      some (g 1 1)
set_option maxRecDepth 20000 in
theorem B_X3_firstFault_42 (x : am_X) (C0 : am_Cm x 3 cX3_firstFault 3 (some .int)) (hR : am_R x = rm_X3_firstFault) (w : am_J) (F : Nat) (g : am_G) (R : Int32)    (hf : f_X3_firstFault_42 F g = some R) : am_Ev x 3 (0, 0) (am_Q x (0, 0) (some (.int R)) am_YY g w) 42 [some (.ref 1), none, none] [] am_YY g w := by
  unfold f_X3_firstFault_42 at hf
  refine am_b1 C0 am_YYk (pc := 42) (pc2 := 48) [(.aload_n 0, 0, 0, .null), (.getfield 15, 3, 1, .null), (.bipush 6, 0, 0, .int 6)] (L := [some (.ref 1), none, none]) (st := []) (L' := [some (.ref 1), none, none]) (st' := [.int ((6 : Int32)), .int (g 1 1)]) (g' := g) (w' := w) (cl := []) (by decide +kernel) rfl trivial ?_
  refine am_icmp_lt C0 (off := 18) (tgt := 66) (by decide +kernel) (fun hc2 => ?_) (fun hc2 => ?_)
  · rw [if_pos hc2] at hf
    refine am_b1 C0 am_YYk (pc := 66) (pc2 := 70) [(.aload_n 0, 0, 0, .null), (.getfield 15, 3, 1, .null)] (L := [some (.ref 1), none, none]) (st := []) (L' := [some (.ref 1), none, none]) (st' := [.int (g 1 1)]) (g' := g) (w' := w) (cl := []) (by decide +kernel) rfl trivial ?_
    cases hf
    exact am_iret C0 (by decide +kernel)
  · rw [if_neg hc2] at hf
    refine am_b1 C0 am_YYk (pc := 51) (pc2 := 58) [(.aload_n 0, 0, 0, .null), (.getfield 15, 3, 1, .null), (.bipush 6, 0, 0, .int 6), (.irem, 0, 0, .null)] (L := [some (.ref 1), none, none]) (st := []) (L' := [some (.ref 1), none, none]) (st' := [.int ((g 1 1) - (g 1 1) / (6 : Int32) * (6 : Int32))]) (g' := g) (w' := w) (cl := [¬ (6 : Int32) = 0]) (by decide +kernel) rfl ⟨by decide, trivial⟩ ?_
    refine am_if_ne C0 (off := 8) (tgt := 66) (by decide +kernel) (fun hc1 => ?_) (fun hc1 => ?_)
    · rw [if_neg hc1] at hf
      refine am_b1 C0 am_YYk (pc := 66) (pc2 := 70) [(.aload_n 0, 0, 0, .null), (.getfield 15, 3, 1, .null)] (L := [some (.ref 1), none, none]) (st := []) (L' := [some (.ref 1), none, none]) (st' := [.int (g 1 1)]) (g' := g) (w' := w) (cl := []) (by decide +kernel) rfl trivial ?_
      cases hf
      exact am_iret C0 (by decide +kernel)
    · rw [if_pos hc1] at hf
      refine am_b1 C0 am_YYk (pc := 61) (pc2 := 63) [(.bipush (-9), 0, 0, .int (-9))] (L := [some (.ref 1), none, none]) (st := []) (L' := [some (.ref 1), none, none]) (st' := [.int ((-9 : Int32))]) (g' := g) (w' := w) (cl := []) (by decide +kernel) rfl trivial ?_
      refine am_goto C0 (off := 7) (tgt := 70) (by decide +kernel) ?_
      cases hf
      exact am_iret C0 (by decide +kernel)
def f_X3_firstFault_29 (F : Nat) (g : am_G) (k2 : Int32 → Option (Int32)) (k42 : Option (Int32)) (l1 : Int32) (s0 : Int32) : Option (Int32) :=
  if s0 = 0 then
    some (l1)
  else
    k2 (l1 + (1 : Int32))
set_option maxRecDepth 20000 in
theorem B_X3_firstFault_29 (x : am_X) (C0 : am_Cm x 3 cX3_firstFault 3 (some .int)) (hR : am_R x = rm_X3_firstFault) (w : am_J) (F : Nat) (g : am_G) (R : Int32) (k2 : Int32 → Option (Int32)) (k42 : Option (Int32)) (hk2 : ∀ (l1 : Int32), k2 l1 = some R → am_Ev x 3 (0, 0) (am_Q x (0, 0) (some (.int R)) am_YY g w) 2 [some (.ref 1), some (.int (l1)), none] [] am_YY g w) (hk42 : k42 = some R → am_Ev x 3 (0, 0) (am_Q x (0, 0) (some (.int R)) am_YY g w) 42 [some (.ref 1), none, none] [] am_YY g w) (l1 : Int32) (s0 : Int32) (hf : f_X3_firstFault_29 F g k2 k42 l1 s0 = some R) : am_Ev x 3 (0, 0) (am_Q x (0, 0) (some (.int R)) am_YY g w) 29 [some (.ref 1), some (.int (l1)), none] [.int (s0)] am_YY g w := by
  unfold f_X3_firstFault_29 at hf
  refine am_b1 C0 am_YYk (pc := 29) (pc2 := 31) [(.istore_n 2, 0, 0, .null), (.iload_n 2, 0, 0, .null)] (L := [some (.ref 1), some (.int (l1)), none]) (st := [.int (s0)]) (L' := [some (.ref 1), some (.int (l1)), some (.int (s0))]) (st' := [.int (s0)]) (g' := g) (w' := w) (cl := []) (by decide +kernel) rfl trivial ?_
  refine am_if_ne C0 (off := 5) (tgt := 36) (by decide +kernel) (fun hc3 => ?_) (fun hc3 => ?_)
  · rw [if_neg hc3] at hf
    refine am_b1 C0 am_YYk (pc := 36) (pc2 := 39) [(.iinc 1 1, 0, 0, .int 1)] (L := [some (.ref 1), some (.int (l1)), some (.int (s0))]) (st := []) (L' := [some (.ref 1), some (.int (l1 + (1 : Int32))), some (.int (s0))]) (st' := []) (g' := g) (w' := w) (cl := []) (by decide +kernel) rfl trivial ?_
    refine am_goto C0 (off := (-37)) (tgt := 2) (by decide +kernel) ?_
    refine am_wk [some (.ref 1), some (.int (l1 + (1 : Int32))), none] ⟨rfl, rfl, trivial⟩ rfl ?_
    exact hk2 (l1 + (1 : Int32)) hf
  · rw [if_pos hc3] at hf
    refine am_b1 C0 am_YYk (pc := 34) (pc2 := 35) [(.iload_n 1, 0, 0, .null)] (L := [some (.ref 1), some (.int (l1)), some (.int (s0))]) (st := []) (L' := [some (.ref 1), some (.int (l1)), some (.int (s0))]) (st' := [.int (l1)]) (g' := g) (w' := w) (cl := []) (by decide +kernel) rfl trivial ?_
    cases hf
    exact am_iret C0 (by decide +kernel)
def f_X3_firstFault_2 (F : Nat) (g : am_G) (k42 : Option (Int32)) : Nat → Int32 → Option (Int32)
  | 0, _ => none
  | n + 1, l1 =>
    if (g 1 1) ≤ l1 then
      k42
    else
      if (6 : Int32) ≤ l1 then
        (f_X3_fitsWindow F g l1).bind fun q4 =>
          f_X3_firstFault_29 F g (fun l1 => f_X3_firstFault_2 F g k42 n l1) k42 (l1) (q4)
      else
        (f_X3_fitsHead g l1).bind fun q5 =>
          f_X3_firstFault_29 F g (fun l1 => f_X3_firstFault_2 F g k42 n l1) k42 (l1) (q5)
set_option maxRecDepth 20000 in
theorem B_X3_firstFault_2 (x : am_X) (C0 : am_Cm x 3 cX3_firstFault 3 (some .int)) (hR : am_R x = rm_X3_firstFault) (w : am_J) (F : Nat) (g : am_G) (R : Int32) (k42 : Option (Int32)) (hk42 : k42 = some R → am_Ev x 3 (0, 0) (am_Q x (0, 0) (some (.int R)) am_YY g w) 42 [some (.ref 1), none, none] [] am_YY g w) : ∀ (n : Nat) (l1 : Int32), f_X3_firstFault_2 F g k42 n l1 = some R → am_Ev x 3 (0, 0) (am_Q x (0, 0) (some (.int R)) am_YY g w) 2 [some (.ref 1), some (.int (l1)), none] [] am_YY g w := by
  intro n
  induction n with
  | zero => intro l1 hf; cases hf
  | succ n ih =>
    intro l1 hf
    rw [f_X3_firstFault_2.eq_2] at hf
    refine am_b1 C0 am_YYk (pc := 2) (pc2 := 7) [(.iload_n 1, 0, 0, .null), (.aload_n 0, 0, 0, .null), (.getfield 15, 3, 1, .null)] (L := [some (.ref 1), some (.int (l1)), none]) (st := []) (L' := [some (.ref 1), some (.int (l1)), none]) (st' := [.int (g 1 1), .int (l1)]) (g' := g) (w' := w) (cl := []) (by decide +kernel) rfl trivial ?_
    refine am_icmp_ge C0 (off := 35) (tgt := 42) (by decide +kernel) (fun hc7 => ?_) (fun hc7 => ?_)
    · rw [if_pos hc7] at hf
      refine am_wk [some (.ref 1), none, none] ⟨rfl, trivial⟩ rfl ?_
      exact hk42  hf
    · rw [if_neg hc7] at hf
      refine am_b1 C0 am_YYk (pc := 10) (pc2 := 13) [(.iload_n 1, 0, 0, .null), (.bipush 6, 0, 0, .int 6)] (L := [some (.ref 1), some (.int (l1)), none]) (st := []) (L' := [some (.ref 1), some (.int (l1)), none]) (st' := [.int ((6 : Int32)), .int (l1)]) (g' := g) (w' := w) (cl := []) (by decide +kernel) rfl trivial ?_
      refine am_icmp_ge C0 (off := 11) (tgt := 24) (by decide +kernel) (fun hc6 => ?_) (fun hc6 => ?_)
      · rw [if_pos hc6] at hf
        refine am_b1 C0 am_YYk (pc := 24) (pc2 := 26) [(.aload_n 0, 0, 0, .null), (.iload_n 1, 0, 0, .null)] (L := [some (.ref 1), some (.int (l1)), none]) (st := []) (L' := [some (.ref 1), some (.int (l1)), none]) (st' := [.int (l1), .ref 1]) (g' := g) (w' := w) (cl := []) (by decide +kernel) rfl trivial ?_
        obtain ⟨q4, hq4, hf⟩ := Option.bind_eq_some_iff.mp hf
        refine am_callV (mi := mi_X3_fitsWindow) (rm := rm_X3_fitsWindow) [.int (l1)] C0.1 am_YYl cv_3_23 (M_X3_fitsWindow _ F g w l1 _ hq4) (ci := 3) rfl (by decide) rfl (by rw [hR]; rfl) rfl rfl (Nat.le_of_ble_eq_true rfl) (by decide +kernel) ?_
        exact B_X3_firstFault_29 x C0 hR w F g R _ _ (fun l1 hf => ih l1 hf) hk42 (l1) (q4) hf
      · rw [if_neg hc6] at hf
        refine am_b1 C0 am_YYk (pc := 16) (pc2 := 18) [(.aload_n 0, 0, 0, .null), (.iload_n 1, 0, 0, .null)] (L := [some (.ref 1), some (.int (l1)), none]) (st := []) (L' := [some (.ref 1), some (.int (l1)), none]) (st' := [.int (l1), .ref 1]) (g' := g) (w' := w) (cl := []) (by decide +kernel) rfl trivial ?_
        obtain ⟨q5, hq5, hf⟩ := Option.bind_eq_some_iff.mp hf
        refine am_callV (mi := mi_X3_fitsHead) (rm := rm_X3_fitsHead) [.int (l1)] C0.1 am_YYl cv_3_19 (M_X3_fitsHead _ g w l1 _ hq5) (ci := 3) rfl (by decide) rfl (by rw [hR]; rfl) rfl rfl (Nat.le_of_ble_eq_true rfl) (by decide +kernel) ?_
        refine am_goto C0 (off := 8) (tgt := 29) (by decide +kernel) ?_
        exact B_X3_firstFault_29 x C0 hR w F g R _ _ (fun l1 hf => ih l1 hf) hk42 (l1) (q5) hf
def f_X3_firstFault (F : Nat) (g : am_G) : Option (Int32) :=
  f_X3_firstFault_2 F g (f_X3_firstFault_42 F g) F ((0 : Int32))
set_option maxRecDepth 20000 in
theorem M_X3_firstFault (l : Launch) (F : Nat) (g : am_G) (w : am_J)  (R : Int32) (hf : f_X3_firstFault F g = some R) : am_Met l mi_X3_firstFault rm_X3_firstFault [.ref 1] am_YY g w (some (.int R)) am_YY g w := by
  refine am_met (own := 3) [some (.ref 1), none, none] (by decide) rfl rfl (by first | decide | exact Nat.le_of_ble_eq_true rfl) (fun x C0 hR hl hnm => ?_)
  unfold f_X3_firstFault at hf
  refine am_b1 C0 am_YYk (pc := 0) (pc2 := 2) [(.iconst 0, 0, 0, .int 0), (.istore_n 1, 0, 0, .null)] (L := [some (.ref 1), none, none]) (st := []) (L' := [some (.ref 1), some (.int ((0 : Int32))), none]) (st' := []) (g' := g) (w' := w) (cl := []) (by decide +kernel) rfl trivial ?_
  refine B_X3_firstFault_2 x C0 hR w F g R _ ?_ F ((0 : Int32)) hf
  · intro  hf
    exact B_X3_firstFault_42 x C0 hR w F g R   hf
/-! ShutterTown.fault()I at (0,) -/
def f_X7_fault (F : Nat) (g : am_G) : Option (Int32) :=
  (f_X3_firstFault F g).bind fun q1 =>
    some (q1)
set_option maxRecDepth 20000 in
theorem M_X7_fault (l : Launch) (F : Nat) (g : am_G) (w : am_J)  (R : Int32) (hf : f_X7_fault F g = some R) : am_Met l mi_X7_fault rm_X7_fault [.ref 0] am_YY g w (some (.int R)) am_YY g w := by
  refine am_met (own := 7) [some (.ref 0)] (by decide) rfl rfl (by first | decide | exact Nat.le_of_ble_eq_true rfl) (fun x C0 hR hl hnm => ?_)
  unfold f_X7_fault at hf
  refine am_b1 C0 am_YYk (pc := 0) (pc2 := 4) [(.aload_n 0, 0, 0, .null), (.getfield 12, 7, 0, .null)] (L := [some (.ref 0)]) (st := []) (L' := [some (.ref 0)]) (st' := [.ref 1]) (g' := g) (w' := w) (cl := []) (by decide +kernel) rfl trivial ?_
  obtain ⟨q1, hq1, hf⟩ := Option.bind_eq_some_iff.mp hf
  refine am_callV (mi := mi_X3_firstFault) (rm := rm_X3_firstFault) [] C0.1 am_YYl cv_7_81 (M_X3_firstFault _ F g w _ hq1) (ci := 3) rfl (by decide) rfl (by rw [hR]; rfl) rfl rfl (Nat.le_of_ble_eq_true rfl) (by decide +kernel) ?_
  cases hf
  exact am_iret C0 (by decide +kernel)
/-! ShutterTown$Houses.has(I)Z at (3,) -/
def f_X2_has (g : am_G) (p1 : Int32) : Option (Int32) :=
  if p1 < 0 then
    some ((0 : Int32))
  else
    if (g 3 7) ≤ p1 then
      some ((0 : Int32))
    else
      if (6 : Int32) ≤ p1 then
        some ((0 : Int32))
      else
        some ((1 : Int32))
set_option maxRecDepth 20000 in
theorem M_X2_has (l : Launch) (g : am_G) (w : am_J) (p1 : Int32) (R : Int32) (hf : f_X2_has g p1 = some R) : am_Met l mi_X2_has rm_X2_has [.ref 3, .int p1] am_YY g w (some (.int R)) am_YY g w := by
  refine am_met (own := 2) [some (.ref 3), some (.int (p1))] (by decide) rfl rfl (by first | decide | exact Nat.le_of_ble_eq_true rfl) (fun x C0 hR hl hnm => ?_)
  unfold f_X2_has at hf
  refine am_b1 C0 am_YYk (pc := 0) (pc2 := 1) [(.iload_n 1, 0, 0, .null)] (L := [some (.ref 3), some (.int (p1))]) (st := []) (L' := [some (.ref 3), some (.int (p1))]) (st' := [.int (p1)]) (g' := g) (w' := w) (cl := []) (by decide +kernel) rfl trivial ?_
  refine am_if_lt C0 (off := 21) (tgt := 22) (by decide +kernel) (fun hc3 => ?_) (fun hc3 => ?_)
  · rw [if_pos hc3] at hf
    refine am_b1 C0 am_YYk (pc := 22) (pc2 := 23) [(.iconst 0, 0, 0, .int 0)] (L := [some (.ref 3), some (.int (p1))]) (st := []) (L' := [some (.ref 3), some (.int (p1))]) (st' := [.int ((0 : Int32))]) (g' := g) (w' := w) (cl := []) (by decide +kernel) rfl trivial ?_
    cases hf
    exact am_zret C0 (by decide +kernel) (Or.inl rfl)
  · rw [if_neg hc3] at hf
    refine am_b1 C0 am_YYk (pc := 4) (pc2 := 9) [(.iload_n 1, 0, 0, .null), (.aload_n 0, 0, 0, .null), (.getfield 53, 2, 7, .null)] (L := [some (.ref 3), some (.int (p1))]) (st := []) (L' := [some (.ref 3), some (.int (p1))]) (st' := [.int (g 3 7), .int (p1)]) (g' := g) (w' := w) (cl := []) (by decide +kernel) rfl trivial ?_
    refine am_icmp_ge C0 (off := 13) (tgt := 22) (by decide +kernel) (fun hc2 => ?_) (fun hc2 => ?_)
    · rw [if_pos hc2] at hf
      refine am_b1 C0 am_YYk (pc := 22) (pc2 := 23) [(.iconst 0, 0, 0, .int 0)] (L := [some (.ref 3), some (.int (p1))]) (st := []) (L' := [some (.ref 3), some (.int (p1))]) (st' := [.int ((0 : Int32))]) (g' := g) (w' := w) (cl := []) (by decide +kernel) rfl trivial ?_
      cases hf
      exact am_zret C0 (by decide +kernel) (Or.inl rfl)
    · rw [if_neg hc2] at hf
      refine am_b1 C0 am_YYk (pc := 12) (pc2 := 15) [(.iload_n 1, 0, 0, .null), (.bipush 6, 0, 0, .int 6)] (L := [some (.ref 3), some (.int (p1))]) (st := []) (L' := [some (.ref 3), some (.int (p1))]) (st' := [.int ((6 : Int32)), .int (p1)]) (g' := g) (w' := w) (cl := []) (by decide +kernel) rfl trivial ?_
      refine am_icmp_ge C0 (off := 7) (tgt := 22) (by decide +kernel) (fun hc1 => ?_) (fun hc1 => ?_)
      · rw [if_pos hc1] at hf
        refine am_b1 C0 am_YYk (pc := 22) (pc2 := 23) [(.iconst 0, 0, 0, .int 0)] (L := [some (.ref 3), some (.int (p1))]) (st := []) (L' := [some (.ref 3), some (.int (p1))]) (st' := [.int ((0 : Int32))]) (g' := g) (w' := w) (cl := []) (by decide +kernel) rfl trivial ?_
        cases hf
        exact am_zret C0 (by decide +kernel) (Or.inl rfl)
      · rw [if_neg hc1] at hf
        refine am_b1 C0 am_YYk (pc := 18) (pc2 := 19) [(.iconst 1, 0, 0, .int 1)] (L := [some (.ref 3), some (.int (p1))]) (st := []) (L' := [some (.ref 3), some (.int (p1))]) (st' := [.int ((1 : Int32))]) (g' := g) (w' := w) (cl := []) (by decide +kernel) rfl trivial ?_
        refine am_goto C0 (off := 4) (tgt := 23) (by decide +kernel) ?_
        cases hf
        exact am_zret C0 (by decide +kernel) (Or.inr rfl)
/-! ShutterTown$Houses.side(I)I at (3,) -/
def f_X2_side (g : am_G) (p1 : Int32) : Option (Int32) :=
  (f_X2_has g p1).bind fun q1 =>
    if q1 = 0 then
      some ((-9 : Int32))
    else
      if am_in p1 6 then
        some (g 6 (Int32.toNatClampNeg p1))
      else none
set_option maxRecDepth 20000 in
theorem M_X2_side (l : Launch) (g : am_G) (w : am_J) (p1 : Int32) (R : Int32) (hf : f_X2_side g p1 = some R) : am_Met l mi_X2_side rm_X2_side [.ref 3, .int p1] am_YY g w (some (.int R)) am_YY g w := by
  refine am_met (own := 2) [some (.ref 3), some (.int (p1))] (by decide) rfl rfl (by first | decide | exact Nat.le_of_ble_eq_true rfl) (fun x C0 hR hl hnm => ?_)
  unfold f_X2_side at hf
  refine am_b1 C0 am_YYk (pc := 0) (pc2 := 2) [(.aload_n 0, 0, 0, .null), (.iload_n 1, 0, 0, .null)] (L := [some (.ref 3), some (.int (p1))]) (st := []) (L' := [some (.ref 3), some (.int (p1))]) (st' := [.int (p1), .ref 3]) (g' := g) (w' := w) (cl := []) (by decide +kernel) rfl trivial ?_
  obtain ⟨q1, hq1, hf⟩ := Option.bind_eq_some_iff.mp hf
  refine am_callV (mi := mi_X2_has) (rm := rm_X2_has) [.int (p1)] C0.1 am_YYl cv_2_59 (M_X2_has _ g w p1 _ hq1) (ci := 2) rfl (by decide) rfl (by rw [hR]; rfl) rfl rfl (Nat.le_of_ble_eq_true rfl) (by decide +kernel) ?_
  refine am_if_eq C0 (off := 12) (tgt := 17) (by decide +kernel) (fun hc3 => ?_) (fun hc3 => ?_)
  · rw [if_pos hc3] at hf
    refine am_b1 C0 am_YYk (pc := 17) (pc2 := 19) [(.bipush (-9), 0, 0, .int (-9))] (L := [some (.ref 3), some (.int (p1))]) (st := []) (L' := [some (.ref 3), some (.int (p1))]) (st' := [.int ((-9 : Int32))]) (g' := g) (w' := w) (cl := []) (by decide +kernel) rfl trivial ?_
    cases hf
    exact am_iret C0 (by decide +kernel)
  · rw [if_neg hc3] at hf
    obtain ⟨hg2, hf⟩ := am_g hf
    refine am_b1 C0 am_YYk (pc := 8) (pc2 := 14) [(.aload_n 0, 0, 0, .null), (.getfield 18, 2, 2, .null), (.iload_n 1, 0, 0, .null), (.iaload, 0, 0, .null)] (L := [some (.ref 3), some (.int (p1))]) (st := []) (L' := [some (.ref 3), some (.int (p1))]) (st' := [.int (g 6 (Int32.toNatClampNeg p1))]) (g' := g) (w' := w) (cl := [am_in p1 6]) (by decide +kernel) rfl ⟨hg2, trivial⟩ ?_
    refine am_goto C0 (off := 5) (tgt := 19) (by decide +kernel) ?_
    cases hf
    exact am_iret C0 (by decide +kernel)
/-! ShutterTown$Houses.place(I)I at (3,) -/
def f_X2_place (g : am_G) (p1 : Int32) : Option (Int32) :=
  (f_X2_has g p1).bind fun q1 =>
    if q1 = 0 then
      some ((-9 : Int32))
    else
      if am_in p1 6 then
        some (g 5 (Int32.toNatClampNeg p1))
      else none
set_option maxRecDepth 20000 in
theorem M_X2_place (l : Launch) (g : am_G) (w : am_J) (p1 : Int32) (R : Int32) (hf : f_X2_place g p1 = some R) : am_Met l mi_X2_place rm_X2_place [.ref 3, .int p1] am_YY g w (some (.int R)) am_YY g w := by
  refine am_met (own := 2) [some (.ref 3), some (.int (p1))] (by decide) rfl rfl (by first | decide | exact Nat.le_of_ble_eq_true rfl) (fun x C0 hR hl hnm => ?_)
  unfold f_X2_place at hf
  refine am_b1 C0 am_YYk (pc := 0) (pc2 := 2) [(.aload_n 0, 0, 0, .null), (.iload_n 1, 0, 0, .null)] (L := [some (.ref 3), some (.int (p1))]) (st := []) (L' := [some (.ref 3), some (.int (p1))]) (st' := [.int (p1), .ref 3]) (g' := g) (w' := w) (cl := []) (by decide +kernel) rfl trivial ?_
  obtain ⟨q1, hq1, hf⟩ := Option.bind_eq_some_iff.mp hf
  refine am_callV (mi := mi_X2_has) (rm := rm_X2_has) [.int (p1)] C0.1 am_YYl cv_2_59 (M_X2_has _ g w p1 _ hq1) (ci := 2) rfl (by decide) rfl (by rw [hR]; rfl) rfl rfl (Nat.le_of_ble_eq_true rfl) (by decide +kernel) ?_
  refine am_if_eq C0 (off := 12) (tgt := 17) (by decide +kernel) (fun hc3 => ?_) (fun hc3 => ?_)
  · rw [if_pos hc3] at hf
    refine am_b1 C0 am_YYk (pc := 17) (pc2 := 19) [(.bipush (-9), 0, 0, .int (-9))] (L := [some (.ref 3), some (.int (p1))]) (st := []) (L' := [some (.ref 3), some (.int (p1))]) (st' := [.int ((-9 : Int32))]) (g' := g) (w' := w) (cl := []) (by decide +kernel) rfl trivial ?_
    cases hf
    exact am_iret C0 (by decide +kernel)
  · rw [if_neg hc3] at hf
    obtain ⟨hg2, hf⟩ := am_g hf
    refine am_b1 C0 am_YYk (pc := 8) (pc2 := 14) [(.aload_n 0, 0, 0, .null), (.getfield 15, 2, 1, .null), (.iload_n 1, 0, 0, .null), (.iaload, 0, 0, .null)] (L := [some (.ref 3), some (.int (p1))]) (st := []) (L' := [some (.ref 3), some (.int (p1))]) (st' := [.int (g 5 (Int32.toNatClampNeg p1))]) (g' := g) (w' := w) (cl := [am_in p1 6]) (by decide +kernel) rfl ⟨hg2, trivial⟩ ?_
    refine am_goto C0 (off := 5) (tgt := 19) (by decide +kernel) ?_
    cases hf
    exact am_iret C0 (by decide +kernel)
/-! ShutterTown$Houses.floor(I)I at (3,) -/
def f_X2_floor (g : am_G) (p1 : Int32) : Option (Int32) :=
  (f_X2_has g p1).bind fun q1 =>
    if q1 = 0 then
      some ((-9 : Int32))
    else
      if am_in p1 6 then
        some (g 7 (Int32.toNatClampNeg p1))
      else none
set_option maxRecDepth 20000 in
theorem M_X2_floor (l : Launch) (g : am_G) (w : am_J) (p1 : Int32) (R : Int32) (hf : f_X2_floor g p1 = some R) : am_Met l mi_X2_floor rm_X2_floor [.ref 3, .int p1] am_YY g w (some (.int R)) am_YY g w := by
  refine am_met (own := 2) [some (.ref 3), some (.int (p1))] (by decide) rfl rfl (by first | decide | exact Nat.le_of_ble_eq_true rfl) (fun x C0 hR hl hnm => ?_)
  unfold f_X2_floor at hf
  refine am_b1 C0 am_YYk (pc := 0) (pc2 := 2) [(.aload_n 0, 0, 0, .null), (.iload_n 1, 0, 0, .null)] (L := [some (.ref 3), some (.int (p1))]) (st := []) (L' := [some (.ref 3), some (.int (p1))]) (st' := [.int (p1), .ref 3]) (g' := g) (w' := w) (cl := []) (by decide +kernel) rfl trivial ?_
  obtain ⟨q1, hq1, hf⟩ := Option.bind_eq_some_iff.mp hf
  refine am_callV (mi := mi_X2_has) (rm := rm_X2_has) [.int (p1)] C0.1 am_YYl cv_2_59 (M_X2_has _ g w p1 _ hq1) (ci := 2) rfl (by decide) rfl (by rw [hR]; rfl) rfl rfl (Nat.le_of_ble_eq_true rfl) (by decide +kernel) ?_
  refine am_if_eq C0 (off := 12) (tgt := 17) (by decide +kernel) (fun hc3 => ?_) (fun hc3 => ?_)
  · rw [if_pos hc3] at hf
    refine am_b1 C0 am_YYk (pc := 17) (pc2 := 19) [(.bipush (-9), 0, 0, .int (-9))] (L := [some (.ref 3), some (.int (p1))]) (st := []) (L' := [some (.ref 3), some (.int (p1))]) (st' := [.int ((-9 : Int32))]) (g' := g) (w' := w) (cl := []) (by decide +kernel) rfl trivial ?_
    cases hf
    exact am_iret C0 (by decide +kernel)
  · rw [if_neg hc3] at hf
    obtain ⟨hg2, hf⟩ := am_g hf
    refine am_b1 C0 am_YYk (pc := 8) (pc2 := 14) [(.aload_n 0, 0, 0, .null), (.getfield 21, 2, 3, .null), (.iload_n 1, 0, 0, .null), (.iaload, 0, 0, .null)] (L := [some (.ref 3), some (.int (p1))]) (st := []) (L' := [some (.ref 3), some (.int (p1))]) (st' := [.int (g 7 (Int32.toNatClampNeg p1))]) (g' := g) (w' := w) (cl := [am_in p1 6]) (by decide +kernel) rfl ⟨hg2, trivial⟩ ?_
    refine am_goto C0 (off := 5) (tgt := 19) (by decide +kernel) ?_
    cases hf
    exact am_iret C0 (by decide +kernel)
/-! ShutterTown$Houses.facing(I)I at (3,) -/
def f_X2_facing_108 (F : Nat) (g : am_G) (p1 : Int32) (k4 : Int32 → Int32 → Option (Int32)) (l3 : Int32) (s0 : Int32) (s1 : Int32) : Option (Int32) :=
  k4 (s0 ||| s1) (l3 + (1 : Int32))
set_option maxRecDepth 20000 in
theorem B_X2_facing_108 (x : am_X) (C0 : am_Cm x 2 cX2_facing 7 (some .int)) (hR : am_R x = rm_X2_facing) (w : am_J) (F : Nat) (g : am_G) (p1 : Int32) (R : Int32) (k4 : Int32 → Int32 → Option (Int32)) (hk4 : ∀ (l2 : Int32) (l3 : Int32), k4 l2 l3 = some R → am_Ev x 7 (0, 0) (am_Q x (0, 0) (some (.int R)) am_YY g w) 4 [some (.ref 3), some (.int (p1)), some (.int (l2)), some (.int (l3)), none, none, none] [] am_YY g w) (l3 : Int32) (s0 : Int32) (s1 : Int32) (hf : f_X2_facing_108 F g p1 k4 l3 s0 s1 = some R) : am_Ev x 7 (0, 0) (am_Q x (0, 0) (some (.int R)) am_YY g w) 108 [some (.ref 3), some (.int (p1)), none, some (.int (l3)), none, none, none] [.int (s1), .int (s0)] am_YY g w := by
  unfold f_X2_facing_108 at hf
  refine am_b1 C0 am_YYk (pc := 108) (pc2 := 113) [(.ior, 0, 0, .null), (.istore_n 2, 0, 0, .null), (.iinc 3 1, 0, 0, .int 1)] (L := [some (.ref 3), some (.int (p1)), none, some (.int (l3)), none, none, none]) (st := [.int (s1), .int (s0)]) (L' := [some (.ref 3), some (.int (p1)), some (.int (s0 ||| s1)), some (.int (l3 + (1 : Int32))), none, none, none]) (st' := []) (g' := g) (w' := w) (cl := []) (by decide +kernel) rfl trivial ?_
  refine am_goto C0 (off := (-109)) (tgt := 4) (by decide +kernel) ?_
  exact hk4 (s0 ||| s1) (l3 + (1 : Int32)) hf
def f_X2_facing_107 (F : Nat) (g : am_G) (p1 : Int32) (k4 : Int32 → Int32 → Option (Int32)) (l3 : Int32) (s0 : Int32) : Option (Int32) :=
  f_X2_facing_108 F g p1 k4 (l3) (s0) ((0 : Int32))
set_option maxRecDepth 20000 in
theorem B_X2_facing_107 (x : am_X) (C0 : am_Cm x 2 cX2_facing 7 (some .int)) (hR : am_R x = rm_X2_facing) (w : am_J) (F : Nat) (g : am_G) (p1 : Int32) (R : Int32) (k4 : Int32 → Int32 → Option (Int32)) (hk4 : ∀ (l2 : Int32) (l3 : Int32), k4 l2 l3 = some R → am_Ev x 7 (0, 0) (am_Q x (0, 0) (some (.int R)) am_YY g w) 4 [some (.ref 3), some (.int (p1)), some (.int (l2)), some (.int (l3)), none, none, none] [] am_YY g w) (l3 : Int32) (s0 : Int32) (hf : f_X2_facing_107 F g p1 k4 l3 s0 = some R) : am_Ev x 7 (0, 0) (am_Q x (0, 0) (some (.int R)) am_YY g w) 107 [some (.ref 3), some (.int (p1)), none, some (.int (l3)), none, none, none] [.int (s0)] am_YY g w := by
  unfold f_X2_facing_107 at hf
  refine am_b1 C0 am_YYk (pc := 107) (pc2 := 108) [(.iconst 0, 0, 0, .int 0)] (L := [some (.ref 3), some (.int (p1)), none, some (.int (l3)), none, none, none]) (st := [.int (s0)]) (L' := [some (.ref 3), some (.int (p1)), none, some (.int (l3)), none, none, none]) (st' := [.int ((0 : Int32)), .int (s0)]) (g' := g) (w' := w) (cl := []) (by decide +kernel) rfl trivial ?_
  exact B_X2_facing_108 x C0 hR w F g p1 R _ hk4 (l3) (s0) ((0 : Int32)) hf
def f_X2_facing_83 (F : Nat) (g : am_G) (p1 : Int32) (k4 : Int32 → Int32 → Option (Int32)) (l2 : Int32) (l3 : Int32) (l4 : Int32) (l5 : Int32) (s0 : Int32) : Option (Int32) :=
  if l4 = 0 then
    f_X2_facing_107 F g p1 k4 (l3) (l2)
  else
    if l5 = 0 then
      f_X2_facing_107 F g p1 k4 (l3) (l2)
    else
      if s0 = 0 then
        f_X2_facing_107 F g p1 k4 (l3) (l2)
      else
        f_X2_facing_108 F g p1 k4 (l3) (l2) ((1 : Int32) <<< (l3 &&& 31))
set_option maxRecDepth 20000 in
theorem B_X2_facing_83 (x : am_X) (C0 : am_Cm x 2 cX2_facing 7 (some .int)) (hR : am_R x = rm_X2_facing) (w : am_J) (F : Nat) (g : am_G) (p1 : Int32) (R : Int32) (k4 : Int32 → Int32 → Option (Int32)) (hk4 : ∀ (l2 : Int32) (l3 : Int32), k4 l2 l3 = some R → am_Ev x 7 (0, 0) (am_Q x (0, 0) (some (.int R)) am_YY g w) 4 [some (.ref 3), some (.int (p1)), some (.int (l2)), some (.int (l3)), none, none, none] [] am_YY g w) (l2 : Int32) (l3 : Int32) (l4 : Int32) (l5 : Int32) (s0 : Int32) (hf : f_X2_facing_83 F g p1 k4 l2 l3 l4 l5 s0 = some R) : am_Ev x 7 (0, 0) (am_Q x (0, 0) (some (.int R)) am_YY g w) 83 [some (.ref 3), some (.int (p1)), some (.int (l2)), some (.int (l3)), some (.int (l4)), some (.int (l5)), none] [.int (s0)] am_YY g w := by
  unfold f_X2_facing_83 at hf
  refine am_b1 C0 am_YYk (pc := 83) (pc2 := 88) [(.istore 6, 0, 0, .null), (.iload_n 2, 0, 0, .null), (.iload 4, 0, 0, .null)] (L := [some (.ref 3), some (.int (p1)), some (.int (l2)), some (.int (l3)), some (.int (l4)), some (.int (l5)), none]) (st := [.int (s0)]) (L' := [some (.ref 3), some (.int (p1)), some (.int (l2)), some (.int (l3)), some (.int (l4)), some (.int (l5)), some (.int (s0))]) (st' := [.int (l4), .int (l2)]) (g' := g) (w' := w) (cl := []) (by decide +kernel) rfl trivial ?_
  refine am_if_eq C0 (off := 19) (tgt := 107) (by decide +kernel) (fun hc3 => ?_) (fun hc3 => ?_)
  · rw [if_pos hc3] at hf
    refine am_wk [some (.ref 3), some (.int (p1)), none, some (.int (l3)), none, none, none] ⟨rfl, rfl, rfl, trivial⟩ rfl ?_
    exact B_X2_facing_107 x C0 hR w F g p1 R _ hk4 (l3) (l2) hf
  · rw [if_neg hc3] at hf
    refine am_b1 C0 am_YYk (pc := 91) (pc2 := 93) [(.iload 5, 0, 0, .null)] (L := [some (.ref 3), some (.int (p1)), some (.int (l2)), some (.int (l3)), some (.int (l4)), some (.int (l5)), some (.int (s0))]) (st := [.int (l2)]) (L' := [some (.ref 3), some (.int (p1)), some (.int (l2)), some (.int (l3)), some (.int (l4)), some (.int (l5)), some (.int (s0))]) (st' := [.int (l5), .int (l2)]) (g' := g) (w' := w) (cl := []) (by decide +kernel) rfl trivial ?_
    refine am_if_eq C0 (off := 14) (tgt := 107) (by decide +kernel) (fun hc2 => ?_) (fun hc2 => ?_)
    · rw [if_pos hc2] at hf
      refine am_wk [some (.ref 3), some (.int (p1)), none, some (.int (l3)), none, none, none] ⟨rfl, rfl, rfl, trivial⟩ rfl ?_
      exact B_X2_facing_107 x C0 hR w F g p1 R _ hk4 (l3) (l2) hf
    · rw [if_neg hc2] at hf
      refine am_b1 C0 am_YYk (pc := 96) (pc2 := 98) [(.iload 6, 0, 0, .null)] (L := [some (.ref 3), some (.int (p1)), some (.int (l2)), some (.int (l3)), some (.int (l4)), some (.int (l5)), some (.int (s0))]) (st := [.int (l2)]) (L' := [some (.ref 3), some (.int (p1)), some (.int (l2)), some (.int (l3)), some (.int (l4)), some (.int (l5)), some (.int (s0))]) (st' := [.int (s0), .int (l2)]) (g' := g) (w' := w) (cl := []) (by decide +kernel) rfl trivial ?_
      refine am_if_eq C0 (off := 9) (tgt := 107) (by decide +kernel) (fun hc1 => ?_) (fun hc1 => ?_)
      · rw [if_pos hc1] at hf
        refine am_wk [some (.ref 3), some (.int (p1)), none, some (.int (l3)), none, none, none] ⟨rfl, rfl, rfl, trivial⟩ rfl ?_
        exact B_X2_facing_107 x C0 hR w F g p1 R _ hk4 (l3) (l2) hf
      · rw [if_neg hc1] at hf
        refine am_b1 C0 am_YYk (pc := 101) (pc2 := 104) [(.iconst 1, 0, 0, .int 1), (.iload_n 3, 0, 0, .null), (.ishl, 0, 0, .null)] (L := [some (.ref 3), some (.int (p1)), some (.int (l2)), some (.int (l3)), some (.int (l4)), some (.int (l5)), some (.int (s0))]) (st := [.int (l2)]) (L' := [some (.ref 3), some (.int (p1)), some (.int (l2)), some (.int (l3)), some (.int (l4)), some (.int (l5)), some (.int (s0))]) (st' := [.int ((1 : Int32) <<< (l3 &&& 31)), .int (l2)]) (g' := g) (w' := w) (cl := []) (by decide +kernel) rfl trivial ?_
        refine am_goto C0 (off := 4) (tgt := 108) (by decide +kernel) ?_
        refine am_wk [some (.ref 3), some (.int (p1)), none, some (.int (l3)), none, none, none] ⟨rfl, rfl, rfl, trivial⟩ rfl ?_
        exact B_X2_facing_108 x C0 hR w F g p1 R _ hk4 (l3) (l2) ((1 : Int32) <<< (l3 &&& 31)) hf
def f_X2_facing_58 (F : Nat) (g : am_G) (p1 : Int32) (k4 : Int32 → Int32 → Option (Int32)) (l2 : Int32) (l3 : Int32) (l4 : Int32) (s0 : Int32) : Option (Int32) :=
  (f_X2_floor g p1).bind fun q4 =>
    (f_X2_floor g l3).bind fun q5 =>
      if (1 : Int32) < (am_abs (q4 - q5)) then
        f_X2_facing_83 F g p1 k4 (l2) (l3) (l4) (s0) ((0 : Int32))
      else
        f_X2_facing_83 F g p1 k4 (l2) (l3) (l4) (s0) ((1 : Int32))
set_option maxRecDepth 20000 in
theorem B_X2_facing_58 (x : am_X) (C0 : am_Cm x 2 cX2_facing 7 (some .int)) (hR : am_R x = rm_X2_facing) (w : am_J) (F : Nat) (g : am_G) (p1 : Int32) (R : Int32) (k4 : Int32 → Int32 → Option (Int32)) (hk4 : ∀ (l2 : Int32) (l3 : Int32), k4 l2 l3 = some R → am_Ev x 7 (0, 0) (am_Q x (0, 0) (some (.int R)) am_YY g w) 4 [some (.ref 3), some (.int (p1)), some (.int (l2)), some (.int (l3)), none, none, none] [] am_YY g w) (l2 : Int32) (l3 : Int32) (l4 : Int32) (s0 : Int32) (hf : f_X2_facing_58 F g p1 k4 l2 l3 l4 s0 = some R) : am_Ev x 7 (0, 0) (am_Q x (0, 0) (some (.int R)) am_YY g w) 58 [some (.ref 3), some (.int (p1)), some (.int (l2)), some (.int (l3)), some (.int (l4)), none, none] [.int (s0)] am_YY g w := by
  unfold f_X2_facing_58 at hf
  refine am_b1 C0 am_YYk (pc := 58) (pc2 := 62) [(.istore 5, 0, 0, .null), (.aload_n 0, 0, 0, .null), (.iload_n 1, 0, 0, .null)] (L := [some (.ref 3), some (.int (p1)), some (.int (l2)), some (.int (l3)), some (.int (l4)), none, none]) (st := [.int (s0)]) (L' := [some (.ref 3), some (.int (p1)), some (.int (l2)), some (.int (l3)), some (.int (l4)), some (.int (s0)), none]) (st' := [.int (p1), .ref 3]) (g' := g) (w' := w) (cl := []) (by decide +kernel) rfl trivial ?_
  obtain ⟨q4, hq4, hf⟩ := Option.bind_eq_some_iff.mp hf
  refine am_callV (mi := mi_X2_floor) (rm := rm_X2_floor) [.int (p1)] C0.1 am_YYl cv_2_89 (M_X2_floor _ g w p1 _ hq4) (ci := 2) rfl (by decide) rfl (by rw [hR]; rfl) rfl rfl (Nat.le_of_ble_eq_true rfl) (by decide +kernel) ?_
  refine am_b1 C0 am_YYk (pc := 65) (pc2 := 67) [(.aload_n 0, 0, 0, .null), (.iload_n 3, 0, 0, .null)] (L := [some (.ref 3), some (.int (p1)), some (.int (l2)), some (.int (l3)), some (.int (l4)), some (.int (s0)), none]) (st := [.int (q4)]) (L' := [some (.ref 3), some (.int (p1)), some (.int (l2)), some (.int (l3)), some (.int (l4)), some (.int (s0)), none]) (st' := [.int (l3), .ref 3, .int (q4)]) (g' := g) (w' := w) (cl := []) (by decide +kernel) rfl trivial ?_
  obtain ⟨q5, hq5, hf⟩ := Option.bind_eq_some_iff.mp hf
  refine am_callV (mi := mi_X2_floor) (rm := rm_X2_floor) [.int (l3)] C0.1 am_YYl cv_2_89 (M_X2_floor _ g w l3 _ hq5) (ci := 2) rfl (by decide) rfl (by rw [hR]; rfl) rfl rfl (Nat.le_of_ble_eq_true rfl) (by decide +kernel) ?_
  refine am_b1 C0 am_YYk (pc := 70) (pc2 := 71) [(.isub, 0, 0, .null)] (L := [some (.ref 3), some (.int (p1)), some (.int (l2)), some (.int (l3)), some (.int (l4)), some (.int (s0)), none]) (st := [.int (q5), .int (q4)]) (L' := [some (.ref 3), some (.int (p1)), some (.int (l2)), some (.int (l3)), some (.int (l4)), some (.int (s0)), none]) (st' := [.int (q4 - q5)]) (g' := g) (w' := w) (cl := []) (by decide +kernel) rfl trivial ?_
  refine am_mabs C0.1 mw_2_86 (by rw [hR]; decide) (Nat.le_of_ble_eq_true rfl) (by decide +kernel) ?_
  refine am_b1 C0 am_YYk (pc := 74) (pc2 := 75) [(.iconst 1, 0, 0, .int 1)] (L := [some (.ref 3), some (.int (p1)), some (.int (l2)), some (.int (l3)), some (.int (l4)), some (.int (s0)), none]) (st := [.int (am_abs (q4 - q5))]) (L' := [some (.ref 3), some (.int (p1)), some (.int (l2)), some (.int (l3)), some (.int (l4)), some (.int (s0)), none]) (st' := [.int ((1 : Int32)), .int (am_abs (q4 - q5))]) (g' := g) (w' := w) (cl := []) (by decide +kernel) rfl trivial ?_
  refine am_icmp_gt C0 (off := 7) (tgt := 82) (by decide +kernel) (fun hc6 => ?_) (fun hc6 => ?_)
  · rw [if_pos hc6] at hf
    refine am_b1 C0 am_YYk (pc := 82) (pc2 := 83) [(.iconst 0, 0, 0, .int 0)] (L := [some (.ref 3), some (.int (p1)), some (.int (l2)), some (.int (l3)), some (.int (l4)), some (.int (s0)), none]) (st := []) (L' := [some (.ref 3), some (.int (p1)), some (.int (l2)), some (.int (l3)), some (.int (l4)), some (.int (s0)), none]) (st' := [.int ((0 : Int32))]) (g' := g) (w' := w) (cl := []) (by decide +kernel) rfl trivial ?_
    exact B_X2_facing_83 x C0 hR w F g p1 R _ hk4 (l2) (l3) (l4) (s0) ((0 : Int32)) hf
  · rw [if_neg hc6] at hf
    refine am_b1 C0 am_YYk (pc := 78) (pc2 := 79) [(.iconst 1, 0, 0, .int 1)] (L := [some (.ref 3), some (.int (p1)), some (.int (l2)), some (.int (l3)), some (.int (l4)), some (.int (s0)), none]) (st := []) (L' := [some (.ref 3), some (.int (p1)), some (.int (l2)), some (.int (l3)), some (.int (l4)), some (.int (s0)), none]) (st' := [.int ((1 : Int32))]) (g' := g) (w' := w) (cl := []) (by decide +kernel) rfl trivial ?_
    refine am_goto C0 (off := 4) (tgt := 83) (by decide +kernel) ?_
    exact B_X2_facing_83 x C0 hR w F g p1 R _ hk4 (l2) (l3) (l4) (s0) ((1 : Int32)) hf
def f_X2_facing_30 (F : Nat) (g : am_G) (p1 : Int32) (k4 : Int32 → Int32 → Option (Int32)) (l2 : Int32) (l3 : Int32) (s0 : Int32) : Option (Int32) :=
  (f_X2_place g p1).bind fun q7 =>
    (f_X2_place g l3).bind fun q8 =>
      if (g 3 6) < (am_abs (q7 - q8)) then
        f_X2_facing_58 F g p1 k4 (l2) (l3) (s0) ((0 : Int32))
      else
        f_X2_facing_58 F g p1 k4 (l2) (l3) (s0) ((1 : Int32))
set_option maxRecDepth 20000 in
theorem B_X2_facing_30 (x : am_X) (C0 : am_Cm x 2 cX2_facing 7 (some .int)) (hR : am_R x = rm_X2_facing) (w : am_J) (F : Nat) (g : am_G) (p1 : Int32) (R : Int32) (k4 : Int32 → Int32 → Option (Int32)) (hk4 : ∀ (l2 : Int32) (l3 : Int32), k4 l2 l3 = some R → am_Ev x 7 (0, 0) (am_Q x (0, 0) (some (.int R)) am_YY g w) 4 [some (.ref 3), some (.int (p1)), some (.int (l2)), some (.int (l3)), none, none, none] [] am_YY g w) (l2 : Int32) (l3 : Int32) (s0 : Int32) (hf : f_X2_facing_30 F g p1 k4 l2 l3 s0 = some R) : am_Ev x 7 (0, 0) (am_Q x (0, 0) (some (.int R)) am_YY g w) 30 [some (.ref 3), some (.int (p1)), some (.int (l2)), some (.int (l3)), none, none, none] [.int (s0)] am_YY g w := by
  unfold f_X2_facing_30 at hf
  refine am_b1 C0 am_YYk (pc := 30) (pc2 := 34) [(.istore 4, 0, 0, .null), (.aload_n 0, 0, 0, .null), (.iload_n 1, 0, 0, .null)] (L := [some (.ref 3), some (.int (p1)), some (.int (l2)), some (.int (l3)), none, none, none]) (st := [.int (s0)]) (L' := [some (.ref 3), some (.int (p1)), some (.int (l2)), some (.int (l3)), some (.int (s0)), none, none]) (st' := [.int (p1), .ref 3]) (g' := g) (w' := w) (cl := []) (by decide +kernel) rfl trivial ?_
  obtain ⟨q7, hq7, hf⟩ := Option.bind_eq_some_iff.mp hf
  refine am_callV (mi := mi_X2_place) (rm := rm_X2_place) [.int (p1)] C0.1 am_YYl cv_2_83 (M_X2_place _ g w p1 _ hq7) (ci := 2) rfl (by decide) rfl (by rw [hR]; rfl) rfl rfl (Nat.le_of_ble_eq_true rfl) (by decide +kernel) ?_
  refine am_b1 C0 am_YYk (pc := 37) (pc2 := 39) [(.aload_n 0, 0, 0, .null), (.iload_n 3, 0, 0, .null)] (L := [some (.ref 3), some (.int (p1)), some (.int (l2)), some (.int (l3)), some (.int (s0)), none, none]) (st := [.int (q7)]) (L' := [some (.ref 3), some (.int (p1)), some (.int (l2)), some (.int (l3)), some (.int (s0)), none, none]) (st' := [.int (l3), .ref 3, .int (q7)]) (g' := g) (w' := w) (cl := []) (by decide +kernel) rfl trivial ?_
  obtain ⟨q8, hq8, hf⟩ := Option.bind_eq_some_iff.mp hf
  refine am_callV (mi := mi_X2_place) (rm := rm_X2_place) [.int (l3)] C0.1 am_YYl cv_2_83 (M_X2_place _ g w l3 _ hq8) (ci := 2) rfl (by decide) rfl (by rw [hR]; rfl) rfl rfl (Nat.le_of_ble_eq_true rfl) (by decide +kernel) ?_
  refine am_b1 C0 am_YYk (pc := 42) (pc2 := 43) [(.isub, 0, 0, .null)] (L := [some (.ref 3), some (.int (p1)), some (.int (l2)), some (.int (l3)), some (.int (s0)), none, none]) (st := [.int (q8), .int (q7)]) (L' := [some (.ref 3), some (.int (p1)), some (.int (l2)), some (.int (l3)), some (.int (s0)), none, none]) (st' := [.int (q7 - q8)]) (g' := g) (w' := w) (cl := []) (by decide +kernel) rfl trivial ?_
  refine am_mabs C0.1 mw_2_86 (by rw [hR]; decide) (Nat.le_of_ble_eq_true rfl) (by decide +kernel) ?_
  refine am_b1 C0 am_YYk (pc := 46) (pc2 := 50) [(.aload_n 0, 0, 0, .null), (.getfield 30, 2, 6, .null)] (L := [some (.ref 3), some (.int (p1)), some (.int (l2)), some (.int (l3)), some (.int (s0)), none, none]) (st := [.int (am_abs (q7 - q8))]) (L' := [some (.ref 3), some (.int (p1)), some (.int (l2)), some (.int (l3)), some (.int (s0)), none, none]) (st' := [.int (g 3 6), .int (am_abs (q7 - q8))]) (g' := g) (w' := w) (cl := []) (by decide +kernel) rfl trivial ?_
  refine am_icmp_gt C0 (off := 7) (tgt := 57) (by decide +kernel) (fun hc9 => ?_) (fun hc9 => ?_)
  · rw [if_pos hc9] at hf
    refine am_b1 C0 am_YYk (pc := 57) (pc2 := 58) [(.iconst 0, 0, 0, .int 0)] (L := [some (.ref 3), some (.int (p1)), some (.int (l2)), some (.int (l3)), some (.int (s0)), none, none]) (st := []) (L' := [some (.ref 3), some (.int (p1)), some (.int (l2)), some (.int (l3)), some (.int (s0)), none, none]) (st' := [.int ((0 : Int32))]) (g' := g) (w' := w) (cl := []) (by decide +kernel) rfl trivial ?_
    exact B_X2_facing_58 x C0 hR w F g p1 R _ hk4 (l2) (l3) (s0) ((0 : Int32)) hf
  · rw [if_neg hc9] at hf
    refine am_b1 C0 am_YYk (pc := 53) (pc2 := 54) [(.iconst 1, 0, 0, .int 1)] (L := [some (.ref 3), some (.int (p1)), some (.int (l2)), some (.int (l3)), some (.int (s0)), none, none]) (st := []) (L' := [some (.ref 3), some (.int (p1)), some (.int (l2)), some (.int (l3)), some (.int (s0)), none, none]) (st' := [.int ((1 : Int32))]) (g' := g) (w' := w) (cl := []) (by decide +kernel) rfl trivial ?_
    refine am_goto C0 (off := 4) (tgt := 58) (by decide +kernel) ?_
    exact B_X2_facing_58 x C0 hR w F g p1 R _ hk4 (l2) (l3) (s0) ((1 : Int32)) hf
def f_X2_facing_4 (F : Nat) (g : am_G) (p1 : Int32)  : Nat → Int32 → Int32 → Option (Int32)
  | 0, _, _ => none
  | n + 1, l2, l3 =>
    if (g 3 7) ≤ l3 then
      some (l2)
    else
      (f_X2_side g p1).bind fun q10 =>
        (f_X2_side g l3).bind fun q11 =>
          if q10 = q11 then
            f_X2_facing_30 F g p1 (fun l2 l3 => f_X2_facing_4 F g p1 n l2 l3) (l2) (l3) ((0 : Int32))
          else
            f_X2_facing_30 F g p1 (fun l2 l3 => f_X2_facing_4 F g p1 n l2 l3) (l2) (l3) ((1 : Int32))
set_option maxRecDepth 20000 in
theorem B_X2_facing_4 (x : am_X) (C0 : am_Cm x 2 cX2_facing 7 (some .int)) (hR : am_R x = rm_X2_facing) (w : am_J) (F : Nat) (g : am_G) (p1 : Int32) (R : Int32)   : ∀ (n : Nat) (l2 : Int32) (l3 : Int32), f_X2_facing_4 F g p1 n l2 l3 = some R → am_Ev x 7 (0, 0) (am_Q x (0, 0) (some (.int R)) am_YY g w) 4 [some (.ref 3), some (.int (p1)), some (.int (l2)), some (.int (l3)), none, none, none] [] am_YY g w := by
  intro n
  induction n with
  | zero => intro l2 l3 hf; cases hf
  | succ n ih =>
    intro l2 l3 hf
    rw [f_X2_facing_4.eq_2] at hf
    refine am_b1 C0 am_YYk (pc := 4) (pc2 := 9) [(.iload_n 3, 0, 0, .null), (.aload_n 0, 0, 0, .null), (.getfield 53, 2, 7, .null)] (L := [some (.ref 3), some (.int (p1)), some (.int (l2)), some (.int (l3)), none, none, none]) (st := []) (L' := [some (.ref 3), some (.int (p1)), some (.int (l2)), some (.int (l3)), none, none, none]) (st' := [.int (g 3 7), .int (l3)]) (g' := g) (w' := w) (cl := []) (by decide +kernel) rfl trivial ?_
    refine am_icmp_ge C0 (off := 107) (tgt := 116) (by decide +kernel) (fun hc13 => ?_) (fun hc13 => ?_)
    · rw [if_pos hc13] at hf
      refine am_b1 C0 am_YYk (pc := 116) (pc2 := 117) [(.iload_n 2, 0, 0, .null)] (L := [some (.ref 3), some (.int (p1)), some (.int (l2)), some (.int (l3)), none, none, none]) (st := []) (L' := [some (.ref 3), some (.int (p1)), some (.int (l2)), some (.int (l3)), none, none, none]) (st' := [.int (l2)]) (g' := g) (w' := w) (cl := []) (by decide +kernel) rfl trivial ?_
      cases hf
      exact am_iret C0 (by decide +kernel)
    · rw [if_neg hc13] at hf
      refine am_b1 C0 am_YYk (pc := 12) (pc2 := 14) [(.aload_n 0, 0, 0, .null), (.iload_n 1, 0, 0, .null)] (L := [some (.ref 3), some (.int (p1)), some (.int (l2)), some (.int (l3)), none, none, none]) (st := []) (L' := [some (.ref 3), some (.int (p1)), some (.int (l2)), some (.int (l3)), none, none, none]) (st' := [.int (p1), .ref 3]) (g' := g) (w' := w) (cl := []) (by decide +kernel) rfl trivial ?_
      obtain ⟨q10, hq10, hf⟩ := Option.bind_eq_some_iff.mp hf
      refine am_callV (mi := mi_X2_side) (rm := rm_X2_side) [.int (p1)] C0.1 am_YYl cv_2_80 (M_X2_side _ g w p1 _ hq10) (ci := 2) rfl (by decide) rfl (by rw [hR]; rfl) rfl rfl (Nat.le_of_ble_eq_true rfl) (by decide +kernel) ?_
      refine am_b1 C0 am_YYk (pc := 17) (pc2 := 19) [(.aload_n 0, 0, 0, .null), (.iload_n 3, 0, 0, .null)] (L := [some (.ref 3), some (.int (p1)), some (.int (l2)), some (.int (l3)), none, none, none]) (st := [.int (q10)]) (L' := [some (.ref 3), some (.int (p1)), some (.int (l2)), some (.int (l3)), none, none, none]) (st' := [.int (l3), .ref 3, .int (q10)]) (g' := g) (w' := w) (cl := []) (by decide +kernel) rfl trivial ?_
      obtain ⟨q11, hq11, hf⟩ := Option.bind_eq_some_iff.mp hf
      refine am_callV (mi := mi_X2_side) (rm := rm_X2_side) [.int (l3)] C0.1 am_YYl cv_2_80 (M_X2_side _ g w l3 _ hq11) (ci := 2) rfl (by decide) rfl (by rw [hR]; rfl) rfl rfl (Nat.le_of_ble_eq_true rfl) (by decide +kernel) ?_
      refine am_icmp_eq C0 (off := 7) (tgt := 29) (by decide +kernel) (fun hc12 => ?_) (fun hc12 => ?_)
      · rw [if_pos hc12] at hf
        refine am_b1 C0 am_YYk (pc := 29) (pc2 := 30) [(.iconst 0, 0, 0, .int 0)] (L := [some (.ref 3), some (.int (p1)), some (.int (l2)), some (.int (l3)), none, none, none]) (st := []) (L' := [some (.ref 3), some (.int (p1)), some (.int (l2)), some (.int (l3)), none, none, none]) (st' := [.int ((0 : Int32))]) (g' := g) (w' := w) (cl := []) (by decide +kernel) rfl trivial ?_
        exact B_X2_facing_30 x C0 hR w F g p1 R _ (fun l2 l3 hf => ih l2 l3 hf) (l2) (l3) ((0 : Int32)) hf
      · rw [if_neg hc12] at hf
        refine am_b1 C0 am_YYk (pc := 25) (pc2 := 26) [(.iconst 1, 0, 0, .int 1)] (L := [some (.ref 3), some (.int (p1)), some (.int (l2)), some (.int (l3)), none, none, none]) (st := []) (L' := [some (.ref 3), some (.int (p1)), some (.int (l2)), some (.int (l3)), none, none, none]) (st' := [.int ((1 : Int32))]) (g' := g) (w' := w) (cl := []) (by decide +kernel) rfl trivial ?_
        refine am_goto C0 (off := 4) (tgt := 30) (by decide +kernel) ?_
        exact B_X2_facing_30 x C0 hR w F g p1 R _ (fun l2 l3 hf => ih l2 l3 hf) (l2) (l3) ((1 : Int32)) hf
def f_X2_facing (F : Nat) (g : am_G) (p1 : Int32) : Option (Int32) :=
  f_X2_facing_4 F g p1 F ((0 : Int32)) ((0 : Int32))
set_option maxRecDepth 20000 in
theorem M_X2_facing (l : Launch) (F : Nat) (g : am_G) (w : am_J) (p1 : Int32) (R : Int32) (hf : f_X2_facing F g p1 = some R) : am_Met l mi_X2_facing rm_X2_facing [.ref 3, .int p1] am_YY g w (some (.int R)) am_YY g w := by
  refine am_met (own := 2) [some (.ref 3), some (.int (p1)), none, none, none, none, none] (by decide) rfl rfl (by first | decide | exact Nat.le_of_ble_eq_true rfl) (fun x C0 hR hl hnm => ?_)
  unfold f_X2_facing at hf
  refine am_b1 C0 am_YYk (pc := 0) (pc2 := 4) [(.iconst 0, 0, 0, .int 0), (.istore_n 2, 0, 0, .null), (.iconst 0, 0, 0, .int 0), (.istore_n 3, 0, 0, .null)] (L := [some (.ref 3), some (.int (p1)), none, none, none, none, none]) (st := []) (L' := [some (.ref 3), some (.int (p1)), some (.int ((0 : Int32))), some (.int ((0 : Int32))), none, none, none]) (st' := []) (g' := g) (w' := w) (cl := []) (by decide +kernel) rfl trivial ?_
  refine B_X2_facing_4 x C0 hR w F g p1 R   F ((0 : Int32)) ((0 : Int32)) hf
end
section
/-! ShutterTown$Houses.build(LShutterTown$Letters;)V at (3, 1) -/
def f_X2_build_134 (F : Nat)  : Nat → Int32 → am_G → Option (am_G)
  | 0, _, _ => none
  | n + 1, l2, g =>
    if (g 3 7) ≤ l2 then
      some (g)
    else
      (f_X2_facing F g l2).bind fun q1 =>
        if am_in l2 6 then
          f_X2_build_134 F n (l2 + (1 : Int32)) (am_u g 9 (Int32.toNatClampNeg l2) q1)
        else none
set_option maxRecDepth 20000 in
theorem B_X2_build_134 (x : am_X) (C0 : am_Cm x 2 cX2_build 4 none) (hR : am_R x = rm_X2_build) (w : am_J) (F : Nat) (R : am_G)   : ∀ (n : Nat) (l2 : Int32) (g : am_G), f_X2_build_134 F n l2 g = some R → am_Ev x 4 (0, 0) (am_Q x (0, 0) none am_YY R w) 134 [some (.ref 3), none, some (.int (l2)), none] [] am_YY g w := by
  intro n
  induction n with
  | zero => intro l2 g hf; cases hf
  | succ n ih =>
    intro l2 g hf
    rw [f_X2_build_134.eq_2] at hf
    refine am_b1 C0 am_YYk (pc := 134) (pc2 := 139) [(.iload_n 2, 0, 0, .null), (.aload_n 0, 0, 0, .null), (.getfield 53, 2, 7, .null)] (L := [some (.ref 3), none, some (.int (l2)), none]) (st := []) (L' := [some (.ref 3), none, some (.int (l2)), none]) (st' := [.int (g 3 7), .int (l2)]) (g' := g) (w' := w) (cl := []) (by decide +kernel) rfl trivial ?_
    refine am_icmp_ge C0 (off := 20) (tgt := 159) (by decide +kernel) (fun hc3 => ?_) (fun hc3 => ?_)
    · rw [if_pos hc3] at hf
      cases hf
      exact am_vret C0 (by decide +kernel)
    · rw [if_neg hc3] at hf
      refine am_b1 C0 am_YYk (pc := 142) (pc2 := 149) [(.aload_n 0, 0, 0, .null), (.getfield 27, 2, 5, .null), (.iload_n 2, 0, 0, .null), (.aload_n 0, 0, 0, .null), (.iload_n 2, 0, 0, .null)] (L := [some (.ref 3), none, some (.int (l2)), none]) (st := []) (L' := [some (.ref 3), none, some (.int (l2)), none]) (st' := [.int (l2), .ref 3, .int (l2), .ref 9]) (g' := g) (w' := w) (cl := []) (by decide +kernel) rfl trivial ?_
      obtain ⟨q1, hq1, hf⟩ := Option.bind_eq_some_iff.mp hf
      refine am_callV (mi := mi_X2_facing) (rm := rm_X2_facing) [.int (l2)] C0.1 am_YYl cv_2_56 (M_X2_facing _ F g w l2 _ hq1) (ci := 2) rfl (by decide) rfl (by rw [hR]; rfl) rfl rfl (Nat.le_of_ble_eq_true rfl) (by decide +kernel) ?_
      obtain ⟨hg2, hf⟩ := am_g hf
      refine am_b1 C0 am_YYk (pc := 152) (pc2 := 156) [(.iastore, 0, 0, .null), (.iinc 2 1, 0, 0, .int 1)] (L := [some (.ref 3), none, some (.int (l2)), none]) (st := [.int (q1), .int (l2), .ref 9]) (L' := [some (.ref 3), none, some (.int (l2 + (1 : Int32))), none]) (st' := []) (g' := am_u g 9 (Int32.toNatClampNeg l2) q1) (w' := w) (cl := [am_in l2 6]) (by decide +kernel) rfl ⟨hg2, trivial⟩ ?_
      refine am_goto C0 (off := (-22)) (tgt := 134) (by decide +kernel) ?_
      exact ih (l2 + (1 : Int32)) (am_u g 9 (Int32.toNatClampNeg l2) q1) hf
def f_X2_build_132 (F : Nat)  (g : am_G) : Option (am_G) :=
  f_X2_build_134 F F ((0 : Int32)) (g)
set_option maxRecDepth 20000 in
theorem B_X2_build_132 (x : am_X) (C0 : am_Cm x 2 cX2_build 4 none) (hR : am_R x = rm_X2_build) (w : am_J) (F : Nat) (R : am_G)   (g : am_G) (hf : f_X2_build_132 F g = some R) : am_Ev x 4 (0, 0) (am_Q x (0, 0) none am_YY R w) 132 [some (.ref 3), none, none, none] [] am_YY g w := by
  unfold f_X2_build_132 at hf
  refine am_b1 C0 am_YYk (pc := 132) (pc2 := 134) [(.iconst 0, 0, 0, .int 0), (.istore_n 2, 0, 0, .null)] (L := [some (.ref 3), none, none, none]) (st := []) (L' := [some (.ref 3), none, some (.int ((0 : Int32))), none]) (st' := []) (g' := g) (w' := w) (cl := []) (by decide +kernel) rfl trivial ?_
  refine B_X2_build_134 x C0 hR w F R   F ((0 : Int32)) (g) hf
def f_X2_build_59 (F : Nat) (k132 : am_G → Option (am_G)) : Nat → Int32 → am_G → Option (am_G)
  | 0, _, _ => none
  | n + 1, l2, g =>
    if (g 3 7) ≤ l2 then
      k132 (g)
    else
      (f_X3_figure g (((6 : Int32) * (l2 + (1 : Int32))) + (1 : Int32))).bind fun q4 =>
        if am_in l2 6 then
          (f_X3_figure (am_u g 5 (Int32.toNatClampNeg l2) q4) (((6 : Int32) * (l2 + (1 : Int32))) + (2 : Int32))).bind fun q6 =>
            if am_in l2 6 then
              (f_X3_figure (am_u (am_u g 5 (Int32.toNatClampNeg l2) q4) 6 (Int32.toNatClampNeg l2) q6) (((6 : Int32) * (l2 + (1 : Int32))) + (3 : Int32))).bind fun q8 =>
                if am_in l2 6 then
                  (f_X3_figure (am_u (am_u (am_u g 5 (Int32.toNatClampNeg l2) q4) 6 (Int32.toNatClampNeg l2) q6) 7 (Int32.toNatClampNeg l2) q8) (((6 : Int32) * (l2 + (1 : Int32))) + (5 : Int32))).bind fun q10 =>
                    if am_in l2 6 then
                      f_X2_build_59 F k132 n (l2 + (1 : Int32)) (am_u (am_u (am_u (am_u g 5 (Int32.toNatClampNeg l2) q4) 6 (Int32.toNatClampNeg l2) q6) 7 (Int32.toNatClampNeg l2) q8) 8 (Int32.toNatClampNeg l2) q10)
                    else none
                else none
            else none
        else none
set_option maxRecDepth 20000 in
theorem B_X2_build_59 (x : am_X) (C0 : am_Cm x 2 cX2_build 4 none) (hR : am_R x = rm_X2_build) (w : am_J) (F : Nat) (R : am_G) (k132 : am_G → Option (am_G)) (hk132 : ∀ (g : am_G), k132 g = some R → am_Ev x 4 (0, 0) (am_Q x (0, 0) none am_YY R w) 132 [some (.ref 3), none, none, none] [] am_YY g w) : ∀ (n : Nat) (l2 : Int32) (g : am_G), f_X2_build_59 F k132 n l2 g = some R → am_Ev x 4 (0, 0) (am_Q x (0, 0) none am_YY R w) 59 [some (.ref 3), some (.ref 1), some (.int (l2)), none] [] am_YY g w := by
  intro n
  induction n with
  | zero => intro l2 g hf; cases hf
  | succ n ih =>
    intro l2 g hf
    rw [f_X2_build_59.eq_2] at hf
    refine am_b1 C0 am_YYk (pc := 59) (pc2 := 64) [(.iload_n 2, 0, 0, .null), (.aload_n 0, 0, 0, .null), (.getfield 53, 2, 7, .null)] (L := [some (.ref 3), some (.ref 1), some (.int (l2)), none]) (st := []) (L' := [some (.ref 3), some (.ref 1), some (.int (l2)), none]) (st' := [.int (g 3 7), .int (l2)]) (g' := g) (w' := w) (cl := []) (by decide +kernel) rfl trivial ?_
    refine am_icmp_ge C0 (off := 68) (tgt := 132) (by decide +kernel) (fun hc12 => ?_) (fun hc12 => ?_)
    · rw [if_pos hc12] at hf
      refine am_wk [some (.ref 3), none, none, none] ⟨rfl, trivial⟩ rfl ?_
      exact hk132 (g) hf
    · rw [if_neg hc12] at hf
      refine am_b1 C0 am_YYk (pc := 67) (pc2 := 83) [(.bipush 6, 0, 0, .int 6), (.iload_n 2, 0, 0, .null), (.iconst 1, 0, 0, .int 1), (.iadd, 0, 0, .null), (.imul, 0, 0, .null), (.istore_n 3, 0, 0, .null), (.aload_n 0, 0, 0, .null), (.getfield 15, 2, 1, .null), (.iload_n 2, 0, 0, .null), (.aload_n 1, 0, 0, .null), (.iload_n 3, 0, 0, .null), (.iconst 1, 0, 0, .int 1), (.iadd, 0, 0, .null)] (L := [some (.ref 3), some (.ref 1), some (.int (l2)), none]) (st := []) (L' := [some (.ref 3), some (.ref 1), some (.int (l2)), some (.int ((6 : Int32) * (l2 + (1 : Int32))))]) (st' := [.int (((6 : Int32) * (l2 + (1 : Int32))) + (1 : Int32)), .ref 1, .int (l2), .ref 5]) (g' := g) (w' := w) (cl := []) (by decide +kernel) rfl trivial ?_
      obtain ⟨q4, hq4, hf⟩ := Option.bind_eq_some_iff.mp hf
      refine am_callV (mi := mi_X3_figure) (rm := rm_X3_figure) [.int (((6 : Int32) * (l2 + (1 : Int32))) + (1 : Int32))] C0.1 am_YYl cv_2_34 (M_X3_figure _ g w (((6 : Int32) * (l2 + (1 : Int32))) + (1 : Int32)) _ hq4) (ci := 3) rfl (by decide) rfl (by rw [hR]; rfl) rfl rfl (Nat.le_of_ble_eq_true rfl) (by decide +kernel) ?_
      obtain ⟨hg5, hf⟩ := am_g hf
      refine am_b1 C0 am_YYk (pc := 86) (pc2 := 96) [(.iastore, 0, 0, .null), (.aload_n 0, 0, 0, .null), (.getfield 18, 2, 2, .null), (.iload_n 2, 0, 0, .null), (.aload_n 1, 0, 0, .null), (.iload_n 3, 0, 0, .null), (.iconst 2, 0, 0, .int 2), (.iadd, 0, 0, .null)] (L := [some (.ref 3), some (.ref 1), some (.int (l2)), some (.int ((6 : Int32) * (l2 + (1 : Int32))))]) (st := [.int (q4), .int (l2), .ref 5]) (L' := [some (.ref 3), some (.ref 1), some (.int (l2)), some (.int ((6 : Int32) * (l2 + (1 : Int32))))]) (st' := [.int (((6 : Int32) * (l2 + (1 : Int32))) + (2 : Int32)), .ref 1, .int (l2), .ref 6]) (g' := am_u g 5 (Int32.toNatClampNeg l2) q4) (w' := w) (cl := [am_in l2 6]) (by decide +kernel) rfl ⟨hg5, trivial⟩ ?_
      obtain ⟨q6, hq6, hf⟩ := Option.bind_eq_some_iff.mp hf
      refine am_callV (mi := mi_X3_figure) (rm := rm_X3_figure) [.int (((6 : Int32) * (l2 + (1 : Int32))) + (2 : Int32))] C0.1 am_YYl cv_2_34 (M_X3_figure _ (am_u g 5 (Int32.toNatClampNeg l2) q4) w (((6 : Int32) * (l2 + (1 : Int32))) + (2 : Int32)) _ hq6) (ci := 3) rfl (by decide) rfl (by rw [hR]; rfl) rfl rfl (Nat.le_of_ble_eq_true rfl) (by decide +kernel) ?_
      obtain ⟨hg7, hf⟩ := am_g hf
      refine am_b1 C0 am_YYk (pc := 99) (pc2 := 109) [(.iastore, 0, 0, .null), (.aload_n 0, 0, 0, .null), (.getfield 21, 2, 3, .null), (.iload_n 2, 0, 0, .null), (.aload_n 1, 0, 0, .null), (.iload_n 3, 0, 0, .null), (.iconst 3, 0, 0, .int 3), (.iadd, 0, 0, .null)] (L := [some (.ref 3), some (.ref 1), some (.int (l2)), some (.int ((6 : Int32) * (l2 + (1 : Int32))))]) (st := [.int (q6), .int (l2), .ref 6]) (L' := [some (.ref 3), some (.ref 1), some (.int (l2)), some (.int ((6 : Int32) * (l2 + (1 : Int32))))]) (st' := [.int (((6 : Int32) * (l2 + (1 : Int32))) + (3 : Int32)), .ref 1, .int (l2), .ref 7]) (g' := am_u (am_u g 5 (Int32.toNatClampNeg l2) q4) 6 (Int32.toNatClampNeg l2) q6) (w' := w) (cl := [am_in l2 6]) (by decide +kernel) rfl ⟨hg7, trivial⟩ ?_
      obtain ⟨q8, hq8, hf⟩ := Option.bind_eq_some_iff.mp hf
      refine am_callV (mi := mi_X3_figure) (rm := rm_X3_figure) [.int (((6 : Int32) * (l2 + (1 : Int32))) + (3 : Int32))] C0.1 am_YYl cv_2_34 (M_X3_figure _ (am_u (am_u g 5 (Int32.toNatClampNeg l2) q4) 6 (Int32.toNatClampNeg l2) q6) w (((6 : Int32) * (l2 + (1 : Int32))) + (3 : Int32)) _ hq8) (ci := 3) rfl (by decide) rfl (by rw [hR]; rfl) rfl rfl (Nat.le_of_ble_eq_true rfl) (by decide +kernel) ?_
      obtain ⟨hg9, hf⟩ := am_g hf
      refine am_b1 C0 am_YYk (pc := 112) (pc2 := 122) [(.iastore, 0, 0, .null), (.aload_n 0, 0, 0, .null), (.getfield 24, 2, 4, .null), (.iload_n 2, 0, 0, .null), (.aload_n 1, 0, 0, .null), (.iload_n 3, 0, 0, .null), (.iconst 5, 0, 0, .int 5), (.iadd, 0, 0, .null)] (L := [some (.ref 3), some (.ref 1), some (.int (l2)), some (.int ((6 : Int32) * (l2 + (1 : Int32))))]) (st := [.int (q8), .int (l2), .ref 7]) (L' := [some (.ref 3), some (.ref 1), some (.int (l2)), some (.int ((6 : Int32) * (l2 + (1 : Int32))))]) (st' := [.int (((6 : Int32) * (l2 + (1 : Int32))) + (5 : Int32)), .ref 1, .int (l2), .ref 8]) (g' := am_u (am_u (am_u g 5 (Int32.toNatClampNeg l2) q4) 6 (Int32.toNatClampNeg l2) q6) 7 (Int32.toNatClampNeg l2) q8) (w' := w) (cl := [am_in l2 6]) (by decide +kernel) rfl ⟨hg9, trivial⟩ ?_
      obtain ⟨q10, hq10, hf⟩ := Option.bind_eq_some_iff.mp hf
      refine am_callV (mi := mi_X3_figure) (rm := rm_X3_figure) [.int (((6 : Int32) * (l2 + (1 : Int32))) + (5 : Int32))] C0.1 am_YYl cv_2_34 (M_X3_figure _ (am_u (am_u (am_u g 5 (Int32.toNatClampNeg l2) q4) 6 (Int32.toNatClampNeg l2) q6) 7 (Int32.toNatClampNeg l2) q8) w (((6 : Int32) * (l2 + (1 : Int32))) + (5 : Int32)) _ hq10) (ci := 3) rfl (by decide) rfl (by rw [hR]; rfl) rfl rfl (Nat.le_of_ble_eq_true rfl) (by decide +kernel) ?_
      obtain ⟨hg11, hf⟩ := am_g hf
      refine am_b1 C0 am_YYk (pc := 125) (pc2 := 129) [(.iastore, 0, 0, .null), (.iinc 2 1, 0, 0, .int 1)] (L := [some (.ref 3), some (.ref 1), some (.int (l2)), some (.int ((6 : Int32) * (l2 + (1 : Int32))))]) (st := [.int (q10), .int (l2), .ref 8]) (L' := [some (.ref 3), some (.ref 1), some (.int (l2 + (1 : Int32))), some (.int ((6 : Int32) * (l2 + (1 : Int32))))]) (st' := []) (g' := am_u (am_u (am_u (am_u g 5 (Int32.toNatClampNeg l2) q4) 6 (Int32.toNatClampNeg l2) q6) 7 (Int32.toNatClampNeg l2) q8) 8 (Int32.toNatClampNeg l2) q10) (w' := w) (cl := [am_in l2 6]) (by decide +kernel) rfl ⟨hg11, trivial⟩ ?_
      refine am_goto C0 (off := (-70)) (tgt := 59) (by decide +kernel) ?_
      refine am_wk [some (.ref 3), some (.ref 1), some (.int (l2 + (1 : Int32))), none] ⟨rfl, rfl, rfl, trivial⟩ rfl ?_
      exact ih (l2 + (1 : Int32)) (am_u (am_u (am_u (am_u g 5 (Int32.toNatClampNeg l2) q4) 6 (Int32.toNatClampNeg l2) q6) 7 (Int32.toNatClampNeg l2) q8) 8 (Int32.toNatClampNeg l2) q10) hf
def f_X2_build_26 (F : Nat)  (g : am_G) : Option (am_G) :=
  (f_X3_figure g (5 : Int32)).bind fun q13 =>
    (f_X3_size (am_u g 3 6 q13)).bind fun q14 =>
      f_X2_build_59 F (fun g => f_X2_build_132 F (g)) F ((0 : Int32)) (am_u (am_u g 3 6 q13) 3 7 (am_max (0 : Int32) (am_min (6 : Int32) ((q14 / (6 : Int32)) - (1 : Int32)))))
set_option maxRecDepth 20000 in
theorem B_X2_build_26 (x : am_X) (C0 : am_Cm x 2 cX2_build 4 none) (hR : am_R x = rm_X2_build) (w : am_J) (F : Nat) (R : am_G)   (g : am_G) (hf : f_X2_build_26 F g = some R) : am_Ev x 4 (0, 0) (am_Q x (0, 0) none am_YY R w) 26 [some (.ref 3), some (.ref 1), none, none] [] am_YY g w := by
  unfold f_X2_build_26 at hf
  refine am_b1 C0 am_YYk (pc := 26) (pc2 := 29) [(.aload_n 0, 0, 0, .null), (.aload_n 1, 0, 0, .null), (.iconst 5, 0, 0, .int 5)] (L := [some (.ref 3), some (.ref 1), none, none]) (st := []) (L' := [some (.ref 3), some (.ref 1), none, none]) (st' := [.int ((5 : Int32)), .ref 1, .ref 3]) (g' := g) (w' := w) (cl := []) (by decide +kernel) rfl trivial ?_
  obtain ⟨q13, hq13, hf⟩ := Option.bind_eq_some_iff.mp hf
  refine am_callV (mi := mi_X3_figure) (rm := rm_X3_figure) [.int ((5 : Int32))] C0.1 am_YYl cv_2_34 (M_X3_figure _ g w (5 : Int32) _ hq13) (ci := 3) rfl (by decide) rfl (by rw [hR]; rfl) rfl rfl (Nat.le_of_ble_eq_true rfl) (by decide +kernel) ?_
  refine am_b1 C0 am_YYk (pc := 32) (pc2 := 40) [(.putfield 30, 2, 6, .null), (.aload_n 0, 0, 0, .null), (.iconst 0, 0, 0, .int 0), (.bipush 6, 0, 0, .int 6), (.aload_n 1, 0, 0, .null)] (L := [some (.ref 3), some (.ref 1), none, none]) (st := [.int (q13), .ref 3]) (L' := [some (.ref 3), some (.ref 1), none, none]) (st' := [.ref 1, .int ((6 : Int32)), .int ((0 : Int32)), .ref 3]) (g' := am_u g 3 6 q13) (w' := w) (cl := []) (by decide +kernel) rfl trivial ?_
  obtain ⟨q14, hq14, hf⟩ := Option.bind_eq_some_iff.mp hf
  refine am_callV (mi := mi_X3_size) (rm := rm_X3_size) [] C0.1 am_YYl cv_2_40 (M_X3_size _ (am_u g 3 6 q13) w _ hq14) (ci := 3) rfl (by decide) rfl (by rw [hR]; rfl) rfl rfl (Nat.le_of_ble_eq_true rfl) (by decide +kernel) ?_
  refine am_b1 C0 am_YYk (pc := 43) (pc2 := 48) [(.bipush 6, 0, 0, .int 6), (.idiv, 0, 0, .null), (.iconst 1, 0, 0, .int 1), (.isub, 0, 0, .null)] (L := [some (.ref 3), some (.ref 1), none, none]) (st := [.int (q14), .int ((6 : Int32)), .int ((0 : Int32)), .ref 3]) (L' := [some (.ref 3), some (.ref 1), none, none]) (st' := [.int ((q14 / (6 : Int32)) - (1 : Int32)), .int ((6 : Int32)), .int ((0 : Int32)), .ref 3]) (g' := am_u g 3 6 q13) (w' := w) (cl := [¬ (6 : Int32) = 0]) (by decide +kernel) rfl ⟨by decide, trivial⟩ ?_
  refine am_mmin C0.1 mw_2_44 (by rw [hR]; decide) (Nat.le_of_ble_eq_true rfl) (by decide +kernel) ?_
  refine am_mmax C0.1 mw_2_50 (by rw [hR]; decide) (Nat.le_of_ble_eq_true rfl) (by decide +kernel) ?_
  refine am_b1 C0 am_YYk (pc := 54) (pc2 := 59) [(.putfield 53, 2, 7, .null), (.iconst 0, 0, 0, .int 0), (.istore_n 2, 0, 0, .null)] (L := [some (.ref 3), some (.ref 1), none, none]) (st := [.int (am_max (0 : Int32) (am_min (6 : Int32) ((q14 / (6 : Int32)) - (1 : Int32)))), .ref 3]) (L' := [some (.ref 3), some (.ref 1), some (.int ((0 : Int32))), none]) (st' := []) (g' := am_u (am_u g 3 6 q13) 3 7 (am_max (0 : Int32) (am_min (6 : Int32) ((q14 / (6 : Int32)) - (1 : Int32))))) (w' := w) (cl := []) (by decide +kernel) rfl trivial ?_
  refine B_X2_build_59 x C0 hR w F R _ ?_ F ((0 : Int32)) (am_u (am_u g 3 6 q13) 3 7 (am_max (0 : Int32) (am_min (6 : Int32) ((q14 / (6 : Int32)) - (1 : Int32))))) hf
  · intro g hf
    exact B_X2_build_132 x C0 hR w F R  (g) hf
def f_X2_build_2 (F : Nat) (k26 : am_G → Option (am_G)) : Nat → Int32 → am_G → Option (am_G)
  | 0, _, _ => none
  | n + 1, l2, g =>
    if (4 : Int32) ≤ l2 then
      k26 (g)
    else
      (f_X3_figure g ((1 : Int32) + l2)).bind fun q15 =>
        if am_in l2 4 then
          f_X2_build_2 F k26 n (l2 + (1 : Int32)) (am_u g 4 (Int32.toNatClampNeg l2) q15)
        else none
set_option maxRecDepth 20000 in
theorem B_X2_build_2 (x : am_X) (C0 : am_Cm x 2 cX2_build 4 none) (hR : am_R x = rm_X2_build) (w : am_J) (F : Nat) (R : am_G) (k26 : am_G → Option (am_G)) (hk26 : ∀ (g : am_G), k26 g = some R → am_Ev x 4 (0, 0) (am_Q x (0, 0) none am_YY R w) 26 [some (.ref 3), some (.ref 1), none, none] [] am_YY g w) : ∀ (n : Nat) (l2 : Int32) (g : am_G), f_X2_build_2 F k26 n l2 g = some R → am_Ev x 4 (0, 0) (am_Q x (0, 0) none am_YY R w) 2 [some (.ref 3), some (.ref 1), some (.int (l2)), none] [] am_YY g w := by
  intro n
  induction n with
  | zero => intro l2 g hf; cases hf
  | succ n ih =>
    intro l2 g hf
    rw [f_X2_build_2.eq_2] at hf
    refine am_b1 C0 am_YYk (pc := 2) (pc2 := 4) [(.iload_n 2, 0, 0, .null), (.iconst 4, 0, 0, .int 4)] (L := [some (.ref 3), some (.ref 1), some (.int (l2)), none]) (st := []) (L' := [some (.ref 3), some (.ref 1), some (.int (l2)), none]) (st' := [.int ((4 : Int32)), .int (l2)]) (g' := g) (w' := w) (cl := []) (by decide +kernel) rfl trivial ?_
    refine am_icmp_ge C0 (off := 22) (tgt := 26) (by decide +kernel) (fun hc17 => ?_) (fun hc17 => ?_)
    · rw [if_pos hc17] at hf
      refine am_wk [some (.ref 3), some (.ref 1), none, none] ⟨rfl, rfl, trivial⟩ rfl ?_
      exact hk26 (g) hf
    · rw [if_neg hc17] at hf
      refine am_b1 C0 am_YYk (pc := 7) (pc2 := 16) [(.aload_n 0, 0, 0, .null), (.getfield 9, 2, 0, .null), (.iload_n 2, 0, 0, .null), (.aload_n 1, 0, 0, .null), (.iconst 1, 0, 0, .int 1), (.iload_n 2, 0, 0, .null), (.iadd, 0, 0, .null)] (L := [some (.ref 3), some (.ref 1), some (.int (l2)), none]) (st := []) (L' := [some (.ref 3), some (.ref 1), some (.int (l2)), none]) (st' := [.int ((1 : Int32) + l2), .ref 1, .int (l2), .ref 4]) (g' := g) (w' := w) (cl := []) (by decide +kernel) rfl trivial ?_
      obtain ⟨q15, hq15, hf⟩ := Option.bind_eq_some_iff.mp hf
      refine am_callV (mi := mi_X3_figure) (rm := rm_X3_figure) [.int ((1 : Int32) + l2)] C0.1 am_YYl cv_2_34 (M_X3_figure _ g w ((1 : Int32) + l2) _ hq15) (ci := 3) rfl (by decide) rfl (by rw [hR]; rfl) rfl rfl (Nat.le_of_ble_eq_true rfl) (by decide +kernel) ?_
      obtain ⟨hg16, hf⟩ := am_g hf
      refine am_b1 C0 am_YYk (pc := 19) (pc2 := 23) [(.iastore, 0, 0, .null), (.iinc 2 1, 0, 0, .int 1)] (L := [some (.ref 3), some (.ref 1), some (.int (l2)), none]) (st := [.int (q15), .int (l2), .ref 4]) (L' := [some (.ref 3), some (.ref 1), some (.int (l2 + (1 : Int32))), none]) (st' := []) (g' := am_u g 4 (Int32.toNatClampNeg l2) q15) (w' := w) (cl := [am_in l2 4]) (by decide +kernel) rfl ⟨hg16, trivial⟩ ?_
      refine am_goto C0 (off := (-21)) (tgt := 2) (by decide +kernel) ?_
      exact ih (l2 + (1 : Int32)) (am_u g 4 (Int32.toNatClampNeg l2) q15) hf
def f_X2_build (F : Nat) (g : am_G) : Option (am_G) :=
  f_X2_build_2 F (fun g => f_X2_build_26 F (g)) F ((0 : Int32)) (g)
set_option maxRecDepth 20000 in
theorem M_X2_build (l : Launch) (F : Nat) (g : am_G) (w : am_J)  (R : am_G) (hf : f_X2_build F g = some R) : am_Met l mi_X2_build rm_X2_build [.ref 3, .ref 1] am_YY g w none am_YY R w := by
  refine am_met (own := 2) [some (.ref 3), some (.ref 1), none, none] (by decide) rfl rfl (by first | decide | exact Nat.le_of_ble_eq_true rfl) (fun x C0 hR hl hnm => ?_)
  unfold f_X2_build at hf
  refine am_b1 C0 am_YYk (pc := 0) (pc2 := 2) [(.iconst 0, 0, 0, .int 0), (.istore_n 2, 0, 0, .null)] (L := [some (.ref 3), some (.ref 1), none, none]) (st := []) (L' := [some (.ref 3), some (.ref 1), some (.int ((0 : Int32))), none]) (st' := []) (g' := g) (w' := w) (cl := []) (by decide +kernel) rfl trivial ?_
  refine B_X2_build_2 x C0 hR w F R _ ?_ F ((0 : Int32)) (g) hf
  · intro g hf
    exact B_X2_build_26 x C0 hR w F R  (g) hf
/-! ShutterTown$Houses.windows()I at (3,) -/
def f_X2_windows (g : am_G) : Option (Int32) :=
  some (g 3 7)
set_option maxRecDepth 20000 in
theorem M_X2_windows (l : Launch) (g : am_G) (w : am_J)  (R : Int32) (hf : f_X2_windows g = some R) : am_Met l mi_X2_windows rm_X2_windows [.ref 3] am_YY g w (some (.int R)) am_YY g w := by
  refine am_met (own := 2) [some (.ref 3)] (by decide) rfl rfl (by first | decide | exact Nat.le_of_ble_eq_true rfl) (fun x C0 hR hl hnm => ?_)
  unfold f_X2_windows at hf
  refine am_b1 C0 am_YYk (pc := 0) (pc2 := 4) [(.aload_n 0, 0, 0, .null), (.getfield 53, 2, 7, .null)] (L := [some (.ref 3)]) (st := []) (L' := [some (.ref 3)]) (st' := [.int (g 3 7)]) (g' := g) (w' := w) (cl := []) (by decide +kernel) rfl trivial ?_
  cases hf
  exact am_iret C0 (by decide +kernel)
/-! java/util/Arrays.fill([II)V at (12,) -/
def f_J7_fill_53178_12_5 (F : Nat) (p1 : Int32)  : Nat → Int32 → Int32 → am_G → Option (am_G)
  | 0, _, _, _ => none
  | n + 1, l2, l3, g =>
    if l3 ≤ l2 then
      some (g)
    else
      if am_in l2 6 then
        f_J7_fill_53178_12_5 F p1 n (l2 + (1 : Int32)) (l3) (am_u g 12 (Int32.toNatClampNeg l2) p1)
      else none
set_option maxRecDepth 20000 in
theorem B_J7_fill_53178_12_5 (x : am_X) (C0 : am_Cm x 12 cJ7_fill_53178 4 none) (hR : am_R x = rm_J7_fill_53178) (w : am_J) (F : Nat) (p1 : Int32) (R : am_G)   : ∀ (n : Nat) (l2 : Int32) (l3 : Int32) (g : am_G), f_J7_fill_53178_12_5 F p1 n l2 l3 g = some R → am_Ev x 4 (0, 0) (am_Q x (0, 0) none am_YY R w) 5 [some (.ref 12), some (.int (p1)), some (.int (l2)), some (.int (l3))] [] am_YY g w := by
  intro n
  induction n with
  | zero => intro l2 l3 g hf; cases hf
  | succ n ih =>
    intro l2 l3 g hf
    rw [f_J7_fill_53178_12_5.eq_2] at hf
    refine am_b1 C0 am_YYk (pc := 5) (pc2 := 7) [(.iload_n 2, 0, 0, .null), (.iload_n 3, 0, 0, .null)] (L := [some (.ref 12), some (.int (p1)), some (.int (l2)), some (.int (l3))]) (st := []) (L' := [some (.ref 12), some (.int (p1)), some (.int (l2)), some (.int (l3))]) (st' := [.int (l3), .int (l2)]) (g' := g) (w' := w) (cl := []) (by decide +kernel) rfl trivial ?_
    refine am_icmp_ge C0 (off := 13) (tgt := 20) (by decide +kernel) (fun hc2 => ?_) (fun hc2 => ?_)
    · rw [if_pos hc2] at hf
      cases hf
      exact am_vret C0 (by decide +kernel)
    · rw [if_neg hc2] at hf
      obtain ⟨hg1, hf⟩ := am_g hf
      refine am_b1 C0 am_YYk (pc := 10) (pc2 := 17) [(.aload_n 0, 0, 0, .null), (.iload_n 2, 0, 0, .null), (.iload_n 1, 0, 0, .null), (.iastore, 0, 0, .null), (.iinc 2 1, 0, 0, .int 1)] (L := [some (.ref 12), some (.int (p1)), some (.int (l2)), some (.int (l3))]) (st := []) (L' := [some (.ref 12), some (.int (p1)), some (.int (l2 + (1 : Int32))), some (.int (l3))]) (st' := []) (g' := am_u g 12 (Int32.toNatClampNeg l2) p1) (w' := w) (cl := [am_in l2 6]) (by decide +kernel) rfl ⟨hg1, trivial⟩ ?_
      refine am_goto C0 (off := (-12)) (tgt := 5) (by decide +kernel) ?_
      exact ih (l2 + (1 : Int32)) (l3) (am_u g 12 (Int32.toNatClampNeg l2) p1) hf
def f_J7_fill_53178_12 (F : Nat) (g : am_G) (p1 : Int32) : Option (am_G) :=
  f_J7_fill_53178_12_5 F p1 F ((0 : Int32)) (Int32.ofNat 6) (g)
set_option maxRecDepth 20000 in
theorem M_J7_fill_53178_12 (l : Launch) (F : Nat) (g : am_G) (w : am_J) (p1 : Int32) (R : am_G) (hf : f_J7_fill_53178_12 F g p1 = some R) : am_Met l mi_J7_fill_53178 rm_J7_fill_53178 [.ref 12, .int p1] am_YY g w none am_YY R w := by
  refine am_met (own := 12) [some (.ref 12), some (.int (p1)), none, none] (by decide) rfl rfl (by first | decide | exact Nat.le_of_ble_eq_true rfl) (fun x C0 hR hl hnm => ?_)
  unfold f_J7_fill_53178_12 at hf
  refine am_b1 C0 am_YYk (pc := 0) (pc2 := 5) [(.iconst 0, 0, 0, .int 0), (.istore_n 2, 0, 0, .null), (.aload_n 0, 0, 0, .null), (.arraylength, 0, 0, .null), (.istore_n 3, 0, 0, .null)] (L := [some (.ref 12), some (.int (p1)), none, none]) (st := []) (L' := [some (.ref 12), some (.int (p1)), some (.int ((0 : Int32))), some (.int (Int32.ofNat 6))]) (st' := []) (g' := g) (w' := w) (cl := []) (by decide +kernel) rfl trivial ?_
  refine B_J7_fill_53178_12_5 x C0 hR w F p1 R   F ((0 : Int32)) (Int32.ofNat 6) (g) hf
/-! ShutterTown$Shutters.begin(LShutterTown$Letters;)V at (10, 1) -/
def f_X4_begin_37 (F : Nat)  (g : am_G) : Option (am_G) :=
  (f_J7_fill_53178_12 F g (-9 : Int32)).bind fun q1 =>
    some (am_u q1 10 3 (0 : Int32))
set_option maxRecDepth 20000 in
theorem B_X4_begin_37 (x : am_X) (C0 : am_Cm x 4 cX4_begin 3 none) (hR : am_R x = rm_X4_begin) (w : am_J) (F : Nat) (R : am_G)   (g : am_G) (hf : f_X4_begin_37 F g = some R) : am_Ev x 3 (0, 0) (am_Q x (0, 0) none am_YY R w) 37 [some (.ref 10), none, none] [] am_YY g w := by
  unfold f_X4_begin_37 at hf
  refine am_b1 C0 am_YYk (pc := 37) (pc2 := 43) [(.aload_n 0, 0, 0, .null), (.getfield 15, 4, 2, .null), (.bipush (-9), 0, 0, .int (-9))] (L := [some (.ref 10), none, none]) (st := []) (L' := [some (.ref 10), none, none]) (st' := [.int ((-9 : Int32)), .ref 12]) (g' := g) (w' := w) (cl := []) (by decide +kernel) rfl trivial ?_
  obtain ⟨q1, hq1, hf⟩ := Option.bind_eq_some_iff.mp hf
  refine am_callS (mi := mi_J7_fill_53178) (rm := rm_J7_fill_53178) [.ref 12, .int ((-9 : Int32))] C0.1 cv_4_34 (M_J7_fill_53178_12 _ F g w (-9 : Int32) _ hq1) (by rw [hR]; rfl) rfl rfl (Nat.le_of_ble_eq_true rfl) (by decide +kernel) ?_
  refine am_b1 C0 am_YYk (pc := 46) (pc2 := 51) [(.aload_n 0, 0, 0, .null), (.iconst 0, 0, 0, .int 0), (.putfield 40, 4, 3, .null)] (L := [some (.ref 10), none, none]) (st := []) (L' := [some (.ref 10), none, none]) (st' := []) (g' := am_u q1 10 3 (0 : Int32)) (w' := w) (cl := []) (by decide +kernel) rfl trivial ?_
  cases hf
  exact am_vret C0 (by decide +kernel)
def f_X4_begin_2 (F : Nat) (k37 : am_G → Option (am_G)) : Nat → Int32 → am_G → Option (am_G)
  | 0, _, _ => none
  | n + 1, l2, g =>
    (f_X2_windows g).bind fun q2 =>
      if q2 ≤ l2 then
        k37 (g)
      else
        (f_X3_figure g (((6 : Int32) * (l2 + (1 : Int32))) + (4 : Int32))).bind fun q3 =>
          if am_in l2 6 then
            f_X4_begin_2 F k37 n (l2 + (1 : Int32)) (am_u g 11 (Int32.toNatClampNeg l2) q3)
          else none
set_option maxRecDepth 20000 in
theorem B_X4_begin_2 (x : am_X) (C0 : am_Cm x 4 cX4_begin 3 none) (hR : am_R x = rm_X4_begin) (w : am_J) (F : Nat) (R : am_G) (k37 : am_G → Option (am_G)) (hk37 : ∀ (g : am_G), k37 g = some R → am_Ev x 3 (0, 0) (am_Q x (0, 0) none am_YY R w) 37 [some (.ref 10), none, none] [] am_YY g w) : ∀ (n : Nat) (l2 : Int32) (g : am_G), f_X4_begin_2 F k37 n l2 g = some R → am_Ev x 3 (0, 0) (am_Q x (0, 0) none am_YY R w) 2 [some (.ref 10), some (.ref 1), some (.int (l2))] [] am_YY g w := by
  intro n
  induction n with
  | zero => intro l2 g hf; cases hf
  | succ n ih =>
    intro l2 g hf
    rw [f_X4_begin_2.eq_2] at hf
    refine am_b1 C0 am_YYk (pc := 2) (pc2 := 7) [(.iload_n 2, 0, 0, .null), (.aload_n 0, 0, 0, .null), (.getfield 18, 4, 0, .null)] (L := [some (.ref 10), some (.ref 1), some (.int (l2))]) (st := []) (L' := [some (.ref 10), some (.ref 1), some (.int (l2))]) (st' := [.ref 3, .int (l2)]) (g' := g) (w' := w) (cl := []) (by decide +kernel) rfl trivial ?_
    obtain ⟨q2, hq2, hf⟩ := Option.bind_eq_some_iff.mp hf
    refine am_callV (mi := mi_X2_windows) (rm := rm_X2_windows) [] C0.1 am_YYl cv_4_22 (M_X2_windows _ g w _ hq2) (ci := 2) rfl (by decide) rfl (by rw [hR]; rfl) rfl rfl (Nat.le_of_ble_eq_true rfl) (by decide +kernel) ?_
    refine am_icmp_ge C0 (off := 27) (tgt := 37) (by decide +kernel) (fun hc5 => ?_) (fun hc5 => ?_)
    · rw [if_pos hc5] at hf
      refine am_wk [some (.ref 10), none, none] ⟨rfl, trivial⟩ rfl ?_
      exact hk37 (g) hf
    · rw [if_neg hc5] at hf
      refine am_b1 C0 am_YYk (pc := 13) (pc2 := 27) [(.aload_n 0, 0, 0, .null), (.getfield 9, 4, 1, .null), (.iload_n 2, 0, 0, .null), (.aload_n 1, 0, 0, .null), (.bipush 6, 0, 0, .int 6), (.iload_n 2, 0, 0, .null), (.iconst 1, 0, 0, .int 1), (.iadd, 0, 0, .null), (.imul, 0, 0, .null), (.iconst 4, 0, 0, .int 4), (.iadd, 0, 0, .null)] (L := [some (.ref 10), some (.ref 1), some (.int (l2))]) (st := []) (L' := [some (.ref 10), some (.ref 1), some (.int (l2))]) (st' := [.int (((6 : Int32) * (l2 + (1 : Int32))) + (4 : Int32)), .ref 1, .int (l2), .ref 11]) (g' := g) (w' := w) (cl := []) (by decide +kernel) rfl trivial ?_
      obtain ⟨q3, hq3, hf⟩ := Option.bind_eq_some_iff.mp hf
      refine am_callV (mi := mi_X3_figure) (rm := rm_X3_figure) [.int (((6 : Int32) * (l2 + (1 : Int32))) + (4 : Int32))] C0.1 am_YYl cv_4_28 (M_X3_figure _ g w (((6 : Int32) * (l2 + (1 : Int32))) + (4 : Int32)) _ hq3) (ci := 3) rfl (by decide) rfl (by rw [hR]; rfl) rfl rfl (Nat.le_of_ble_eq_true rfl) (by decide +kernel) ?_
      obtain ⟨hg4, hf⟩ := am_g hf
      refine am_b1 C0 am_YYk (pc := 30) (pc2 := 34) [(.iastore, 0, 0, .null), (.iinc 2 1, 0, 0, .int 1)] (L := [some (.ref 10), some (.ref 1), some (.int (l2))]) (st := [.int (q3), .int (l2), .ref 11]) (L' := [some (.ref 10), some (.ref 1), some (.int (l2 + (1 : Int32)))]) (st' := []) (g' := am_u g 11 (Int32.toNatClampNeg l2) q3) (w' := w) (cl := [am_in l2 6]) (by decide +kernel) rfl ⟨hg4, trivial⟩ ?_
      refine am_goto C0 (off := (-32)) (tgt := 2) (by decide +kernel) ?_
      exact ih (l2 + (1 : Int32)) (am_u g 11 (Int32.toNatClampNeg l2) q3) hf
def f_X4_begin (F : Nat) (g : am_G) : Option (am_G) :=
  f_X4_begin_2 F (fun g => f_X4_begin_37 F (g)) F ((0 : Int32)) (g)
set_option maxRecDepth 20000 in
theorem M_X4_begin (l : Launch) (F : Nat) (g : am_G) (w : am_J)  (R : am_G) (hf : f_X4_begin F g = some R) : am_Met l mi_X4_begin rm_X4_begin [.ref 10, .ref 1] am_YY g w none am_YY R w := by
  refine am_met (own := 4) [some (.ref 10), some (.ref 1), none] (by decide) rfl rfl (by first | decide | exact Nat.le_of_ble_eq_true rfl) (fun x C0 hR hl hnm => ?_)
  unfold f_X4_begin at hf
  refine am_b1 C0 am_YYk (pc := 0) (pc2 := 2) [(.iconst 0, 0, 0, .int 0), (.istore_n 2, 0, 0, .null)] (L := [some (.ref 10), some (.ref 1), none]) (st := []) (L' := [some (.ref 10), some (.ref 1), some (.int ((0 : Int32)))]) (st' := []) (g' := g) (w' := w) (cl := []) (by decide +kernel) rfl trivial ?_
  refine B_X4_begin_2 x C0 hR w F R _ ?_ F ((0 : Int32)) (g) hf
  · intro g hf
    exact B_X4_begin_37 x C0 hR w F R  (g) hf
/-! ShutterTown$Acts.clear()V at (16,) -/
def f_X0_clear (g : am_G) : Option (am_G) :=
  some (am_u g 16 1 (0 : Int32))
set_option maxRecDepth 20000 in
theorem M_X0_clear (l : Launch) (g : am_G) (w : am_J)  (R : am_G) (hf : f_X0_clear g = some R) : am_Met l mi_X0_clear rm_X0_clear [.ref 16] am_YY g w none am_YY R w := by
  refine am_met (own := 0) [some (.ref 16)] (by decide) rfl rfl (by first | decide | exact Nat.le_of_ble_eq_true rfl) (fun x C0 hR hl hnm => ?_)
  unfold f_X0_clear at hf
  refine am_b1 C0 am_YYk (pc := 0) (pc2 := 5) [(.aload_n 0, 0, 0, .null), (.iconst 0, 0, 0, .int 0), (.putfield 15, 0, 1, .null)] (L := [some (.ref 16)]) (st := []) (L' := [some (.ref 16)]) (st' := []) (g' := am_u g 16 1 (0 : Int32)) (w' := w) (cl := []) (by decide +kernel) rfl trivial ?_
  cases hf
  exact am_vret C0 (by decide +kernel)
/-! ShutterTown$Slots.clear()V at (18,) -/
def f_X5_clear (g : am_G) : Option (am_G) :=
  some (am_u g 18 1 (0 : Int32))
set_option maxRecDepth 20000 in
theorem M_X5_clear (l : Launch) (g : am_G) (w : am_J)  (R : am_G) (hf : f_X5_clear g = some R) : am_Met l mi_X5_clear rm_X5_clear [.ref 18] am_YY g w none am_YY R w := by
  refine am_met (own := 5) [some (.ref 18)] (by decide) rfl rfl (by first | decide | exact Nat.le_of_ble_eq_true rfl) (fun x C0 hR hl hnm => ?_)
  unfold f_X5_clear at hf
  refine am_b1 C0 am_YYk (pc := 0) (pc2 := 5) [(.aload_n 0, 0, 0, .null), (.iconst 0, 0, 0, .int 0), (.putfield 19, 5, 1, .null)] (L := [some (.ref 18)]) (st := []) (L' := [some (.ref 18)]) (st' := []) (g' := am_u g 18 1 (0 : Int32)) (w' := w) (cl := []) (by decide +kernel) rfl trivial ?_
  cases hf
  exact am_vret C0 (by decide +kernel)
/-! ShutterTown.town()I at (0,) -/
def f_X7_town (F : Nat) (g : am_G) : Option (Int32 × am_G) :=
  (f_X3_firstFault F g).bind fun q1 =>
    if q1 = (-9 : Int32) then
      (f_X2_build F g).bind fun q2 =>
        (f_X4_begin F q2).bind fun q3 =>
          (f_X0_clear q3).bind fun q4 =>
            (f_X5_clear q4).bind fun q5 =>
              (f_X2_windows q5).bind fun q6 =>
                some (q6, q5)
    else
      some ((-3 : Int32), g)
set_option maxRecDepth 20000 in
theorem M_X7_town (l : Launch) (F : Nat) (g : am_G) (w : am_J)  (R : Int32 × am_G) (hf : f_X7_town F g = some R) : am_Met l mi_X7_town rm_X7_town [.ref 0] am_YY g w (some (.int R.1)) am_YY (R.2) w := by
  refine am_met (own := 7) [some (.ref 0)] (by decide) rfl rfl (by first | decide | exact Nat.le_of_ble_eq_true rfl) (fun x C0 hR hl hnm => ?_)
  unfold f_X7_town at hf
  refine am_b1 C0 am_YYk (pc := 0) (pc2 := 4) [(.aload_n 0, 0, 0, .null), (.getfield 12, 7, 0, .null)] (L := [some (.ref 0)]) (st := []) (L' := [some (.ref 0)]) (st' := [.ref 1]) (g' := g) (w' := w) (cl := []) (by decide +kernel) rfl trivial ?_
  obtain ⟨q1, hq1, hf⟩ := Option.bind_eq_some_iff.mp hf
  refine am_callV (mi := mi_X3_firstFault) (rm := rm_X3_firstFault) [] C0.1 am_YYl cv_7_81 (M_X3_firstFault _ F g w _ hq1) (ci := 3) rfl (by decide) rfl (by rw [hR]; rfl) rfl rfl (Nat.le_of_ble_eq_true rfl) (by decide +kernel) ?_
  refine am_b1 C0 am_YYk (pc := 7) (pc2 := 9) [(.bipush (-9), 0, 0, .int (-9))] (L := [some (.ref 0)]) (st := [.int (q1)]) (L' := [some (.ref 0)]) (st' := [.int ((-9 : Int32)), .int (q1)]) (g' := g) (w' := w) (cl := []) (by decide +kernel) rfl trivial ?_
  refine am_icmp_eq C0 (off := 6) (tgt := 15) (by decide +kernel) (fun hc7 => ?_) (fun hc7 => ?_)
  · rw [if_pos hc7] at hf
    refine am_b1 C0 am_YYk (pc := 15) (pc2 := 23) [(.aload_n 0, 0, 0, .null), (.getfield 19, 7, 1, .null), (.aload_n 0, 0, 0, .null), (.getfield 12, 7, 0, .null)] (L := [some (.ref 0)]) (st := []) (L' := [some (.ref 0)]) (st' := [.ref 1, .ref 3]) (g' := g) (w' := w) (cl := []) (by decide +kernel) rfl trivial ?_
    obtain ⟨q2, hq2, hf⟩ := Option.bind_eq_some_iff.mp hf
    refine am_callV (mi := mi_X2_build) (rm := rm_X2_build) [.ref 1] C0.1 am_YYl cv_7_84 (M_X2_build _ F g w _ hq2) (ci := 2) rfl (by decide) rfl (by rw [hR]; rfl) rfl rfl (Nat.le_of_ble_eq_true rfl) (by decide +kernel) ?_
    refine am_b1 C0 am_YYk (pc := 26) (pc2 := 34) [(.aload_n 0, 0, 0, .null), (.getfield 28, 7, 2, .null), (.aload_n 0, 0, 0, .null), (.getfield 12, 7, 0, .null)] (L := [some (.ref 0)]) (st := []) (L' := [some (.ref 0)]) (st' := [.ref 1, .ref 10]) (g' := q2) (w' := w) (cl := []) (by decide +kernel) rfl trivial ?_
    obtain ⟨q3, hq3, hf⟩ := Option.bind_eq_some_iff.mp hf
    refine am_callV (mi := mi_X4_begin) (rm := rm_X4_begin) [.ref 1] C0.1 am_YYl cv_7_88 (M_X4_begin _ F q2 w _ hq3) (ci := 4) rfl (by decide) rfl (by rw [hR]; rfl) rfl rfl (Nat.le_of_ble_eq_true rfl) (by decide +kernel) ?_
    refine am_b1 C0 am_YYk (pc := 37) (pc2 := 41) [(.aload_n 0, 0, 0, .null), (.getfield 38, 7, 4, .null)] (L := [some (.ref 0)]) (st := []) (L' := [some (.ref 0)]) (st' := [.ref 16]) (g' := q3) (w' := w) (cl := []) (by decide +kernel) rfl trivial ?_
    obtain ⟨q4, hq4, hf⟩ := Option.bind_eq_some_iff.mp hf
    refine am_callV (mi := mi_X0_clear) (rm := rm_X0_clear) [] C0.1 am_YYl cv_7_91 (M_X0_clear _ q3 w _ hq4) (ci := 0) rfl (by decide) rfl (by rw [hR]; rfl) rfl rfl (Nat.le_of_ble_eq_true rfl) (by decide +kernel) ?_
    refine am_b1 C0 am_YYk (pc := 44) (pc2 := 48) [(.aload_n 0, 0, 0, .null), (.getfield 45, 7, 5, .null)] (L := [some (.ref 0)]) (st := []) (L' := [some (.ref 0)]) (st' := [.ref 18]) (g' := q4) (w' := w) (cl := []) (by decide +kernel) rfl trivial ?_
    obtain ⟨q5, hq5, hf⟩ := Option.bind_eq_some_iff.mp hf
    refine am_callV (mi := mi_X5_clear) (rm := rm_X5_clear) [] C0.1 am_YYl cv_7_92 (M_X5_clear _ q4 w _ hq5) (ci := 5) rfl (by decide) rfl (by rw [hR]; rfl) rfl rfl (Nat.le_of_ble_eq_true rfl) (by decide +kernel) ?_
    refine am_b1 C0 am_YYk (pc := 51) (pc2 := 55) [(.aload_n 0, 0, 0, .null), (.getfield 19, 7, 1, .null)] (L := [some (.ref 0)]) (st := []) (L' := [some (.ref 0)]) (st' := [.ref 3]) (g' := q5) (w' := w) (cl := []) (by decide +kernel) rfl trivial ?_
    obtain ⟨q6, hq6, hf⟩ := Option.bind_eq_some_iff.mp hf
    refine am_callV (mi := mi_X2_windows) (rm := rm_X2_windows) [] C0.1 am_YYl cv_7_93 (M_X2_windows _ q5 w _ hq6) (ci := 2) rfl (by decide) rfl (by rw [hR]; rfl) rfl rfl (Nat.le_of_ble_eq_true rfl) (by decide +kernel) ?_
    cases hf
    exact am_iret C0 (by decide +kernel)
  · rw [if_neg hc7] at hf
    refine am_b1 C0 am_YYk (pc := 12) (pc2 := 14) [(.bipush (-3), 0, 0, .int (-3))] (L := [some (.ref 0)]) (st := []) (L' := [some (.ref 0)]) (st' := [.int ((-3 : Int32))]) (g' := g) (w' := w) (cl := []) (by decide +kernel) rfl trivial ?_
    cases hf
    exact am_iret C0 (by decide +kernel)
/-! ShutterTown$Shutters.state(I)I at (10,) -/
def f_X4_state_10 (g : am_G) (p1 : Int32) : Option (Int32) :=
  (f_X2_has g p1).bind fun q1 =>
    if q1 = 0 then
      some ((-9 : Int32))
    else
      if am_in p1 6 then
        some (g 11 (Int32.toNatClampNeg p1))
      else none
set_option maxRecDepth 20000 in
theorem M_X4_state_10 (l : Launch) (g : am_G) (w : am_J) (p1 : Int32) (R : Int32) (hf : f_X4_state_10 g p1 = some R) : am_Met l mi_X4_state rm_X4_state [.ref 10, .int p1] am_YY g w (some (.int R)) am_YY g w := by
  refine am_met (own := 4) [some (.ref 10), some (.int (p1))] (by decide) rfl rfl (by first | decide | exact Nat.le_of_ble_eq_true rfl) (fun x C0 hR hl hnm => ?_)
  unfold f_X4_state_10 at hf
  refine am_b1 C0 am_YYk (pc := 0) (pc2 := 5) [(.aload_n 0, 0, 0, .null), (.getfield 18, 4, 0, .null), (.iload_n 1, 0, 0, .null)] (L := [some (.ref 10), some (.int (p1))]) (st := []) (L' := [some (.ref 10), some (.int (p1))]) (st' := [.int (p1), .ref 3]) (g' := g) (w' := w) (cl := []) (by decide +kernel) rfl trivial ?_
  obtain ⟨q1, hq1, hf⟩ := Option.bind_eq_some_iff.mp hf
  refine am_callV (mi := mi_X2_has) (rm := rm_X2_has) [.int (p1)] C0.1 am_YYl cv_4_44 (M_X2_has _ g w p1 _ hq1) (ci := 2) rfl (by decide) rfl (by rw [hR]; rfl) rfl rfl (Nat.le_of_ble_eq_true rfl) (by decide +kernel) ?_
  refine am_if_eq C0 (off := 12) (tgt := 20) (by decide +kernel) (fun hc3 => ?_) (fun hc3 => ?_)
  · rw [if_pos hc3] at hf
    refine am_b1 C0 am_YYk (pc := 20) (pc2 := 22) [(.bipush (-9), 0, 0, .int (-9))] (L := [some (.ref 10), some (.int (p1))]) (st := []) (L' := [some (.ref 10), some (.int (p1))]) (st' := [.int ((-9 : Int32))]) (g' := g) (w' := w) (cl := []) (by decide +kernel) rfl trivial ?_
    cases hf
    exact am_iret C0 (by decide +kernel)
  · rw [if_neg hc3] at hf
    obtain ⟨hg2, hf⟩ := am_g hf
    refine am_b1 C0 am_YYk (pc := 11) (pc2 := 17) [(.aload_n 0, 0, 0, .null), (.getfield 9, 4, 1, .null), (.iload_n 1, 0, 0, .null), (.iaload, 0, 0, .null)] (L := [some (.ref 10), some (.int (p1))]) (st := []) (L' := [some (.ref 10), some (.int (p1))]) (st' := [.int (g 11 (Int32.toNatClampNeg p1))]) (g' := g) (w' := w) (cl := [am_in p1 6]) (by decide +kernel) rfl ⟨hg2, trivial⟩ ?_
    refine am_goto C0 (off := 5) (tgt := 22) (by decide +kernel) ?_
    cases hf
    exact am_iret C0 (by decide +kernel)
/-! ShutterTown$Houses.kind(I)I at (3,) -/
def f_X2_kind (g : am_G) (p1 : Int32) : Option (Int32) :=
  (f_X2_has g p1).bind fun q1 =>
    if q1 = 0 then
      some ((-9 : Int32))
    else
      if am_in p1 6 then
        some (g 8 (Int32.toNatClampNeg p1))
      else none
set_option maxRecDepth 20000 in
theorem M_X2_kind (l : Launch) (g : am_G) (w : am_J) (p1 : Int32) (R : Int32) (hf : f_X2_kind g p1 = some R) : am_Met l mi_X2_kind rm_X2_kind [.ref 3, .int p1] am_YY g w (some (.int R)) am_YY g w := by
  refine am_met (own := 2) [some (.ref 3), some (.int (p1))] (by decide) rfl rfl (by first | decide | exact Nat.le_of_ble_eq_true rfl) (fun x C0 hR hl hnm => ?_)
  unfold f_X2_kind at hf
  refine am_b1 C0 am_YYk (pc := 0) (pc2 := 2) [(.aload_n 0, 0, 0, .null), (.iload_n 1, 0, 0, .null)] (L := [some (.ref 3), some (.int (p1))]) (st := []) (L' := [some (.ref 3), some (.int (p1))]) (st' := [.int (p1), .ref 3]) (g' := g) (w' := w) (cl := []) (by decide +kernel) rfl trivial ?_
  obtain ⟨q1, hq1, hf⟩ := Option.bind_eq_some_iff.mp hf
  refine am_callV (mi := mi_X2_has) (rm := rm_X2_has) [.int (p1)] C0.1 am_YYl cv_2_59 (M_X2_has _ g w p1 _ hq1) (ci := 2) rfl (by decide) rfl (by rw [hR]; rfl) rfl rfl (Nat.le_of_ble_eq_true rfl) (by decide +kernel) ?_
  refine am_if_eq C0 (off := 12) (tgt := 17) (by decide +kernel) (fun hc3 => ?_) (fun hc3 => ?_)
  · rw [if_pos hc3] at hf
    refine am_b1 C0 am_YYk (pc := 17) (pc2 := 19) [(.bipush (-9), 0, 0, .int (-9))] (L := [some (.ref 3), some (.int (p1))]) (st := []) (L' := [some (.ref 3), some (.int (p1))]) (st' := [.int ((-9 : Int32))]) (g' := g) (w' := w) (cl := []) (by decide +kernel) rfl trivial ?_
    cases hf
    exact am_iret C0 (by decide +kernel)
  · rw [if_neg hc3] at hf
    obtain ⟨hg2, hf⟩ := am_g hf
    refine am_b1 C0 am_YYk (pc := 8) (pc2 := 14) [(.aload_n 0, 0, 0, .null), (.getfield 24, 2, 4, .null), (.iload_n 1, 0, 0, .null), (.iaload, 0, 0, .null)] (L := [some (.ref 3), some (.int (p1))]) (st := []) (L' := [some (.ref 3), some (.int (p1))]) (st' := [.int (g 8 (Int32.toNatClampNeg p1))]) (g' := g) (w' := w) (cl := [am_in p1 6]) (by decide +kernel) rfl ⟨hg2, trivial⟩ ?_
    refine am_goto C0 (off := 5) (tgt := 19) (by decide +kernel) ?_
    cases hf
    exact am_iret C0 (by decide +kernel)
/-! ShutterTown.isState(I)Z at () -/
def f_X7_isState (p0 : Int32) : Option (Int32) :=
  if p0 < 0 then
    some ((0 : Int32))
  else
    if (4 : Int32) ≤ p0 then
      some ((0 : Int32))
    else
      some ((1 : Int32))
set_option maxRecDepth 20000 in
theorem M_X7_isState (l : Launch) (g : am_G) (w : am_J) (p0 : Int32) (R : Int32) (hf : f_X7_isState p0 = some R) : am_Met l mi_X7_isState rm_X7_isState [.int p0] am_YY g w (some (.int R)) am_YY g w := by
  refine am_met (own := 7) [some (.int (p0))] (by decide) rfl rfl (by first | decide | exact Nat.le_of_ble_eq_true rfl) (fun x C0 hR hl hnm => ?_)
  unfold f_X7_isState at hf
  refine am_b1 C0 am_YYk (pc := 0) (pc2 := 1) [(.iload_n 0, 0, 0, .null)] (L := [some (.int (p0))]) (st := []) (L' := [some (.int (p0))]) (st' := [.int (p0)]) (g' := g) (w' := w) (cl := []) (by decide +kernel) rfl trivial ?_
  refine am_if_lt C0 (off := 12) (tgt := 13) (by decide +kernel) (fun hc2 => ?_) (fun hc2 => ?_)
  · rw [if_pos hc2] at hf
    refine am_b1 C0 am_YYk (pc := 13) (pc2 := 14) [(.iconst 0, 0, 0, .int 0)] (L := [some (.int (p0))]) (st := []) (L' := [some (.int (p0))]) (st' := [.int ((0 : Int32))]) (g' := g) (w' := w) (cl := []) (by decide +kernel) rfl trivial ?_
    cases hf
    exact am_zret C0 (by decide +kernel) (Or.inl rfl)
  · rw [if_neg hc2] at hf
    refine am_b1 C0 am_YYk (pc := 4) (pc2 := 6) [(.iload_n 0, 0, 0, .null), (.iconst 4, 0, 0, .int 4)] (L := [some (.int (p0))]) (st := []) (L' := [some (.int (p0))]) (st' := [.int ((4 : Int32)), .int (p0)]) (g' := g) (w' := w) (cl := []) (by decide +kernel) rfl trivial ?_
    refine am_icmp_ge C0 (off := 7) (tgt := 13) (by decide +kernel) (fun hc1 => ?_) (fun hc1 => ?_)
    · rw [if_pos hc1] at hf
      refine am_b1 C0 am_YYk (pc := 13) (pc2 := 14) [(.iconst 0, 0, 0, .int 0)] (L := [some (.int (p0))]) (st := []) (L' := [some (.int (p0))]) (st' := [.int ((0 : Int32))]) (g' := g) (w' := w) (cl := []) (by decide +kernel) rfl trivial ?_
      cases hf
      exact am_zret C0 (by decide +kernel) (Or.inl rfl)
    · rw [if_neg hc1] at hf
      refine am_b1 C0 am_YYk (pc := 9) (pc2 := 10) [(.iconst 1, 0, 0, .int 1)] (L := [some (.int (p0))]) (st := []) (L' := [some (.int (p0))]) (st' := [.int ((1 : Int32))]) (g' := g) (w' := w) (cl := []) (by decide +kernel) rfl trivial ?_
      refine am_goto C0 (off := 4) (tgt := 14) (by decide +kernel) ?_
      cases hf
      exact am_zret C0 (by decide +kernel) (Or.inr rfl)
/-! ShutterTown$Houses.wordOf(I)I at (3,) -/
def f_X2_wordOf (g : am_G) (p1 : Int32) : Option (Int32) :=
  (f_X7_isState p1).bind fun q1 =>
    if q1 = 0 then
      some ((-9 : Int32))
    else
      if am_in p1 4 then
        some (g 4 (Int32.toNatClampNeg p1))
      else none
set_option maxRecDepth 20000 in
theorem M_X2_wordOf (l : Launch) (g : am_G) (w : am_J) (p1 : Int32) (R : Int32) (hf : f_X2_wordOf g p1 = some R) : am_Met l mi_X2_wordOf rm_X2_wordOf [.ref 3, .int p1] am_YY g w (some (.int R)) am_YY g w := by
  refine am_met (own := 2) [some (.ref 3), some (.int (p1))] (by decide) rfl rfl (by first | decide | exact Nat.le_of_ble_eq_true rfl) (fun x C0 hR hl hnm => ?_)
  unfold f_X2_wordOf at hf
  refine am_b1 C0 am_YYk (pc := 0) (pc2 := 1) [(.iload_n 1, 0, 0, .null)] (L := [some (.ref 3), some (.int (p1))]) (st := []) (L' := [some (.ref 3), some (.int (p1))]) (st' := [.int (p1)]) (g' := g) (w' := w) (cl := []) (by decide +kernel) rfl trivial ?_
  obtain ⟨q1, hq1, hf⟩ := Option.bind_eq_some_iff.mp hf
  refine am_callSN (mi := mi_X7_isState) (rm := rm_X7_isState) [.int (p1)] C0.1 cv_2_69 (M_X7_isState _ g w p1 _ hq1) (by rw [hR]; rfl) rfl rfl (Nat.le_of_ble_eq_true rfl) (by decide +kernel) ?_
  refine am_if_eq C0 (off := 12) (tgt := 16) (by decide +kernel) (fun hc3 => ?_) (fun hc3 => ?_)
  · rw [if_pos hc3] at hf
    refine am_b1 C0 am_YYk (pc := 16) (pc2 := 18) [(.bipush (-9), 0, 0, .int (-9))] (L := [some (.ref 3), some (.int (p1))]) (st := []) (L' := [some (.ref 3), some (.int (p1))]) (st' := [.int ((-9 : Int32))]) (g' := g) (w' := w) (cl := []) (by decide +kernel) rfl trivial ?_
    cases hf
    exact am_iret C0 (by decide +kernel)
  · rw [if_neg hc3] at hf
    obtain ⟨hg2, hf⟩ := am_g hf
    refine am_b1 C0 am_YYk (pc := 7) (pc2 := 13) [(.aload_n 0, 0, 0, .null), (.getfield 9, 2, 0, .null), (.iload_n 1, 0, 0, .null), (.iaload, 0, 0, .null)] (L := [some (.ref 3), some (.int (p1))]) (st := []) (L' := [some (.ref 3), some (.int (p1))]) (st' := [.int (g 4 (Int32.toNatClampNeg p1))]) (g' := g) (w' := w) (cl := [am_in p1 4]) (by decide +kernel) rfl ⟨hg2, trivial⟩ ?_
    refine am_goto C0 (off := 5) (tgt := 18) (by decide +kernel) ?_
    cases hf
    exact am_iret C0 (by decide +kernel)
/-! ShutterTown$Shutters.word(I)I at (10,) -/
def f_X4_word_10 (g : am_G) (p1 : Int32) : Option (Int32) :=
  (f_X4_state_10 g p1).bind fun q1 =>
    (f_X2_wordOf g q1).bind fun q2 =>
      some (q2)
set_option maxRecDepth 20000 in
theorem M_X4_word_10 (l : Launch) (g : am_G) (w : am_J) (p1 : Int32) (R : Int32) (hf : f_X4_word_10 g p1 = some R) : am_Met l mi_X4_word rm_X4_word [.ref 10, .int p1] am_YY g w (some (.int R)) am_YY g w := by
  refine am_met (own := 4) [some (.ref 10), some (.int (p1))] (by decide) rfl rfl (by first | decide | exact Nat.le_of_ble_eq_true rfl) (fun x C0 hR hl hnm => ?_)
  unfold f_X4_word_10 at hf
  refine am_b1 C0 am_YYk (pc := 0) (pc2 := 6) [(.aload_n 0, 0, 0, .null), (.getfield 18, 4, 0, .null), (.aload_n 0, 0, 0, .null), (.iload_n 1, 0, 0, .null)] (L := [some (.ref 10), some (.int (p1))]) (st := []) (L' := [some (.ref 10), some (.int (p1))]) (st' := [.int (p1), .ref 10, .ref 3]) (g' := g) (w' := w) (cl := []) (by decide +kernel) rfl trivial ?_
  obtain ⟨q1, hq1, hf⟩ := Option.bind_eq_some_iff.mp hf
  refine am_callV (mi := mi_X4_state) (rm := rm_X4_state) [.int (p1)] C0.1 am_YYl cv_4_48 (M_X4_state_10 _ g w p1 _ hq1) (ci := 4) rfl (by decide) rfl (by rw [hR]; rfl) rfl rfl (Nat.le_of_ble_eq_true rfl) (by decide +kernel) ?_
  obtain ⟨q2, hq2, hf⟩ := Option.bind_eq_some_iff.mp hf
  refine am_callV (mi := mi_X2_wordOf) (rm := rm_X2_wordOf) [.int (q1)] C0.1 am_YYl cv_4_51 (M_X2_wordOf _ g w q1 _ hq2) (ci := 2) rfl (by decide) rfl (by rw [hR]; rfl) rfl rfl (Nat.le_of_ble_eq_true rfl) (by decide +kernel) ?_
  cases hf
  exact am_iret C0 (by decide +kernel)
/-! ShutterTown$Houses.sees(I)I at (3,) -/
def f_X2_sees (g : am_G) (p1 : Int32) : Option (Int32) :=
  (f_X2_has g p1).bind fun q1 =>
    if q1 = 0 then
      some ((0 : Int32))
    else
      if am_in p1 6 then
        some (g 9 (Int32.toNatClampNeg p1))
      else none
set_option maxRecDepth 20000 in
theorem M_X2_sees (l : Launch) (g : am_G) (w : am_J) (p1 : Int32) (R : Int32) (hf : f_X2_sees g p1 = some R) : am_Met l mi_X2_sees rm_X2_sees [.ref 3, .int p1] am_YY g w (some (.int R)) am_YY g w := by
  refine am_met (own := 2) [some (.ref 3), some (.int (p1))] (by decide) rfl rfl (by first | decide | exact Nat.le_of_ble_eq_true rfl) (fun x C0 hR hl hnm => ?_)
  unfold f_X2_sees at hf
  refine am_b1 C0 am_YYk (pc := 0) (pc2 := 2) [(.aload_n 0, 0, 0, .null), (.iload_n 1, 0, 0, .null)] (L := [some (.ref 3), some (.int (p1))]) (st := []) (L' := [some (.ref 3), some (.int (p1))]) (st' := [.int (p1), .ref 3]) (g' := g) (w' := w) (cl := []) (by decide +kernel) rfl trivial ?_
  obtain ⟨q1, hq1, hf⟩ := Option.bind_eq_some_iff.mp hf
  refine am_callV (mi := mi_X2_has) (rm := rm_X2_has) [.int (p1)] C0.1 am_YYl cv_2_59 (M_X2_has _ g w p1 _ hq1) (ci := 2) rfl (by decide) rfl (by rw [hR]; rfl) rfl rfl (Nat.le_of_ble_eq_true rfl) (by decide +kernel) ?_
  refine am_if_eq C0 (off := 12) (tgt := 17) (by decide +kernel) (fun hc3 => ?_) (fun hc3 => ?_)
  · rw [if_pos hc3] at hf
    refine am_b1 C0 am_YYk (pc := 17) (pc2 := 18) [(.iconst 0, 0, 0, .int 0)] (L := [some (.ref 3), some (.int (p1))]) (st := []) (L' := [some (.ref 3), some (.int (p1))]) (st' := [.int ((0 : Int32))]) (g' := g) (w' := w) (cl := []) (by decide +kernel) rfl trivial ?_
    cases hf
    exact am_iret C0 (by decide +kernel)
  · rw [if_neg hc3] at hf
    obtain ⟨hg2, hf⟩ := am_g hf
    refine am_b1 C0 am_YYk (pc := 8) (pc2 := 14) [(.aload_n 0, 0, 0, .null), (.getfield 27, 2, 5, .null), (.iload_n 1, 0, 0, .null), (.iaload, 0, 0, .null)] (L := [some (.ref 3), some (.int (p1))]) (st := []) (L' := [some (.ref 3), some (.int (p1))]) (st' := [.int (g 9 (Int32.toNatClampNeg p1))]) (g' := g) (w' := w) (cl := [am_in p1 6]) (by decide +kernel) rfl ⟨hg2, trivial⟩ ?_
    refine am_goto C0 (off := 4) (tgt := 18) (by decide +kernel) ?_
    cases hf
    exact am_iret C0 (by decide +kernel)
/-! ShutterTown$Shutters.due(I)I at (10,) -/
def f_X4_due (g : am_G) (p1 : Int32) : Option (Int32) :=
  (f_X2_has g p1).bind fun q1 =>
    if q1 = 0 then
      some ((-9 : Int32))
    else
      if am_in p1 6 then
        some (g 12 (Int32.toNatClampNeg p1))
      else none
set_option maxRecDepth 20000 in
theorem M_X4_due (l : Launch) (g : am_G) (w : am_J) (p1 : Int32) (R : Int32) (hf : f_X4_due g p1 = some R) : am_Met l mi_X4_due rm_X4_due [.ref 10, .int p1] am_YY g w (some (.int R)) am_YY g w := by
  refine am_met (own := 4) [some (.ref 10), some (.int (p1))] (by decide) rfl rfl (by first | decide | exact Nat.le_of_ble_eq_true rfl) (fun x C0 hR hl hnm => ?_)
  unfold f_X4_due at hf
  refine am_b1 C0 am_YYk (pc := 0) (pc2 := 5) [(.aload_n 0, 0, 0, .null), (.getfield 18, 4, 0, .null), (.iload_n 1, 0, 0, .null)] (L := [some (.ref 10), some (.int (p1))]) (st := []) (L' := [some (.ref 10), some (.int (p1))]) (st' := [.int (p1), .ref 3]) (g' := g) (w' := w) (cl := []) (by decide +kernel) rfl trivial ?_
  obtain ⟨q1, hq1, hf⟩ := Option.bind_eq_some_iff.mp hf
  refine am_callV (mi := mi_X2_has) (rm := rm_X2_has) [.int (p1)] C0.1 am_YYl cv_4_44 (M_X2_has _ g w p1 _ hq1) (ci := 2) rfl (by decide) rfl (by rw [hR]; rfl) rfl rfl (Nat.le_of_ble_eq_true rfl) (by decide +kernel) ?_
  refine am_if_eq C0 (off := 12) (tgt := 20) (by decide +kernel) (fun hc3 => ?_) (fun hc3 => ?_)
  · rw [if_pos hc3] at hf
    refine am_b1 C0 am_YYk (pc := 20) (pc2 := 22) [(.bipush (-9), 0, 0, .int (-9))] (L := [some (.ref 10), some (.int (p1))]) (st := []) (L' := [some (.ref 10), some (.int (p1))]) (st' := [.int ((-9 : Int32))]) (g' := g) (w' := w) (cl := []) (by decide +kernel) rfl trivial ?_
    cases hf
    exact am_iret C0 (by decide +kernel)
  · rw [if_neg hc3] at hf
    obtain ⟨hg2, hf⟩ := am_g hf
    refine am_b1 C0 am_YYk (pc := 11) (pc2 := 17) [(.aload_n 0, 0, 0, .null), (.getfield 15, 4, 2, .null), (.iload_n 1, 0, 0, .null), (.iaload, 0, 0, .null)] (L := [some (.ref 10), some (.int (p1))]) (st := []) (L' := [some (.ref 10), some (.int (p1))]) (st' := [.int (g 12 (Int32.toNatClampNeg p1))]) (g' := g) (w' := w) (cl := [am_in p1 6]) (by decide +kernel) rfl ⟨hg2, trivial⟩ ?_
    refine am_goto C0 (off := 5) (tgt := 22) (by decide +kernel) ?_
    cases hf
    exact am_iret C0 (by decide +kernel)
/-! ShutterTown.window(II)I at (0,) -/
def f_X7_window (g : am_G) (p1 : Int32) (p2 : Int32) : Option (Int32) :=
  (f_X2_has g p1).bind fun q1 =>
    if q1 = 0 then
      some ((-1 : Int32))
    else
      if p2 = (0 : Int32) then
        (f_X2_place g p1).bind fun q2 =>
          some (q2)
      else
      if p2 = (1 : Int32) then
        (f_X2_side g p1).bind fun q3 =>
          some (q3)
      else
      if p2 = (2 : Int32) then
        (f_X2_floor g p1).bind fun q4 =>
          some (q4)
      else
      if p2 = (3 : Int32) then
        (f_X4_state_10 g p1).bind fun q5 =>
          some (q5)
      else
      if p2 = (4 : Int32) then
        (f_X2_kind g p1).bind fun q6 =>
          some (q6)
      else
      if p2 = (5 : Int32) then
        (f_X4_word_10 g p1).bind fun q7 =>
          some (q7)
      else
      if p2 = (6 : Int32) then
        (f_X2_sees g p1).bind fun q8 =>
          some (q8)
      else
      if p2 = (7 : Int32) then
        (f_X4_due g p1).bind fun q9 =>
          some (q9)
      else
      some ((-2 : Int32))
set_option maxRecDepth 20000 in
theorem M_X7_window (l : Launch) (g : am_G) (w : am_J) (p1 : Int32) (p2 : Int32) (R : Int32) (hf : f_X7_window g p1 p2 = some R) : am_Met l mi_X7_window rm_X7_window [.ref 0, .int p1, .int p2] am_YY g w (some (.int R)) am_YY g w := by
  refine am_met (own := 7) [some (.ref 0), some (.int (p1)), some (.int (p2))] (by decide) rfl rfl (by first | decide | exact Nat.le_of_ble_eq_true rfl) (fun x C0 hR hl hnm => ?_)
  unfold f_X7_window at hf
  refine am_b1 C0 am_YYk (pc := 0) (pc2 := 5) [(.aload_n 0, 0, 0, .null), (.getfield 19, 7, 1, .null), (.iload_n 1, 0, 0, .null)] (L := [some (.ref 0), some (.int (p1)), some (.int (p2))]) (st := []) (L' := [some (.ref 0), some (.int (p1)), some (.int (p2))]) (st' := [.int (p1), .ref 3]) (g' := g) (w' := w) (cl := []) (by decide +kernel) rfl trivial ?_
  obtain ⟨q1, hq1, hf⟩ := Option.bind_eq_some_iff.mp hf
  refine am_callV (mi := mi_X2_has) (rm := rm_X2_has) [.int (p1)] C0.1 am_YYl cv_7_96 (M_X2_has _ g w p1 _ hq1) (ci := 2) rfl (by decide) rfl (by rw [hR]; rfl) rfl rfl (Nat.le_of_ble_eq_true rfl) (by decide +kernel) ?_
  refine am_if_ne C0 (off := 5) (tgt := 13) (by decide +kernel) (fun hc18 => ?_) (fun hc18 => ?_)
  · rw [if_neg hc18] at hf
    refine am_b1 C0 am_YYk (pc := 13) (pc2 := 14) [(.iload_n 2, 0, 0, .null)] (L := [some (.ref 0), some (.int (p1)), some (.int (p2))]) (st := []) (L' := [some (.ref 0), some (.int (p1)), some (.int (p2))]) (st' := [.int (p2)]) (g' := g) (w' := w) (cl := []) (by decide +kernel) rfl trivial ?_
    by_cases hs10 : p2 = (0 : Int32)
    · rw [if_pos hs10] at hf
      refine am_swIn C0 (n := 46) (dflt := 118) (lo := 0) (hi := 7) (offs := #[46, 55, 64, 73, 82, 91, 100, 109]) (by decide +kernel) (off := 46) (tgt := 60) (by rw [hs10]; decide) (by rw [hs10]; decide) (by rw [hs10]; rfl) (by decide) ?_
      refine am_b1 C0 am_YYk (pc := 60) (pc2 := 65) [(.aload_n 0, 0, 0, .null), (.getfield 19, 7, 1, .null), (.iload_n 1, 0, 0, .null)] (L := [some (.ref 0), some (.int (p1)), some (.int (p2))]) (st := []) (L' := [some (.ref 0), some (.int (p1)), some (.int (p2))]) (st' := [.int (p1), .ref 3]) (g' := g) (w' := w) (cl := []) (by decide +kernel) rfl trivial ?_
      obtain ⟨q2, hq2, hf⟩ := Option.bind_eq_some_iff.mp hf
      refine am_callV (mi := mi_X2_place) (rm := rm_X2_place) [.int (p1)] C0.1 am_YYl cv_7_99 (M_X2_place _ g w p1 _ hq2) (ci := 2) rfl (by decide) rfl (by rw [hR]; rfl) rfl rfl (Nat.le_of_ble_eq_true rfl) (by decide +kernel) ?_
      cases hf
      exact am_iret C0 (by decide +kernel)
    rw [if_neg hs10] at hf
    by_cases hs11 : p2 = (1 : Int32)
    · rw [if_pos hs11] at hf
      refine am_swIn C0 (n := 46) (dflt := 118) (lo := 0) (hi := 7) (offs := #[46, 55, 64, 73, 82, 91, 100, 109]) (by decide +kernel) (off := 55) (tgt := 69) (by rw [hs11]; decide) (by rw [hs11]; decide) (by rw [hs11]; rfl) (by decide) ?_
      refine am_b1 C0 am_YYk (pc := 69) (pc2 := 74) [(.aload_n 0, 0, 0, .null), (.getfield 19, 7, 1, .null), (.iload_n 1, 0, 0, .null)] (L := [some (.ref 0), some (.int (p1)), some (.int (p2))]) (st := []) (L' := [some (.ref 0), some (.int (p1)), some (.int (p2))]) (st' := [.int (p1), .ref 3]) (g' := g) (w' := w) (cl := []) (by decide +kernel) rfl trivial ?_
      obtain ⟨q3, hq3, hf⟩ := Option.bind_eq_some_iff.mp hf
      refine am_callV (mi := mi_X2_side) (rm := rm_X2_side) [.int (p1)] C0.1 am_YYl cv_7_103 (M_X2_side _ g w p1 _ hq3) (ci := 2) rfl (by decide) rfl (by rw [hR]; rfl) rfl rfl (Nat.le_of_ble_eq_true rfl) (by decide +kernel) ?_
      cases hf
      exact am_iret C0 (by decide +kernel)
    rw [if_neg hs11] at hf
    by_cases hs12 : p2 = (2 : Int32)
    · rw [if_pos hs12] at hf
      refine am_swIn C0 (n := 46) (dflt := 118) (lo := 0) (hi := 7) (offs := #[46, 55, 64, 73, 82, 91, 100, 109]) (by decide +kernel) (off := 64) (tgt := 78) (by rw [hs12]; decide) (by rw [hs12]; decide) (by rw [hs12]; rfl) (by decide) ?_
      refine am_b1 C0 am_YYk (pc := 78) (pc2 := 83) [(.aload_n 0, 0, 0, .null), (.getfield 19, 7, 1, .null), (.iload_n 1, 0, 0, .null)] (L := [some (.ref 0), some (.int (p1)), some (.int (p2))]) (st := []) (L' := [some (.ref 0), some (.int (p1)), some (.int (p2))]) (st' := [.int (p1), .ref 3]) (g' := g) (w' := w) (cl := []) (by decide +kernel) rfl trivial ?_
      obtain ⟨q4, hq4, hf⟩ := Option.bind_eq_some_iff.mp hf
      refine am_callV (mi := mi_X2_floor) (rm := rm_X2_floor) [.int (p1)] C0.1 am_YYl cv_7_106 (M_X2_floor _ g w p1 _ hq4) (ci := 2) rfl (by decide) rfl (by rw [hR]; rfl) rfl rfl (Nat.le_of_ble_eq_true rfl) (by decide +kernel) ?_
      cases hf
      exact am_iret C0 (by decide +kernel)
    rw [if_neg hs12] at hf
    by_cases hs13 : p2 = (3 : Int32)
    · rw [if_pos hs13] at hf
      refine am_swIn C0 (n := 46) (dflt := 118) (lo := 0) (hi := 7) (offs := #[46, 55, 64, 73, 82, 91, 100, 109]) (by decide +kernel) (off := 73) (tgt := 87) (by rw [hs13]; decide) (by rw [hs13]; decide) (by rw [hs13]; rfl) (by decide) ?_
      refine am_b1 C0 am_YYk (pc := 87) (pc2 := 92) [(.aload_n 0, 0, 0, .null), (.getfield 28, 7, 2, .null), (.iload_n 1, 0, 0, .null)] (L := [some (.ref 0), some (.int (p1)), some (.int (p2))]) (st := []) (L' := [some (.ref 0), some (.int (p1)), some (.int (p2))]) (st' := [.int (p1), .ref 10]) (g' := g) (w' := w) (cl := []) (by decide +kernel) rfl trivial ?_
      obtain ⟨q5, hq5, hf⟩ := Option.bind_eq_some_iff.mp hf
      refine am_callV (mi := mi_X4_state) (rm := rm_X4_state) [.int (p1)] C0.1 am_YYl cv_7_109 (M_X4_state_10 _ g w p1 _ hq5) (ci := 4) rfl (by decide) rfl (by rw [hR]; rfl) rfl rfl (Nat.le_of_ble_eq_true rfl) (by decide +kernel) ?_
      cases hf
      exact am_iret C0 (by decide +kernel)
    rw [if_neg hs13] at hf
    by_cases hs14 : p2 = (4 : Int32)
    · rw [if_pos hs14] at hf
      refine am_swIn C0 (n := 46) (dflt := 118) (lo := 0) (hi := 7) (offs := #[46, 55, 64, 73, 82, 91, 100, 109]) (by decide +kernel) (off := 82) (tgt := 96) (by rw [hs14]; decide) (by rw [hs14]; decide) (by rw [hs14]; rfl) (by decide) ?_
      refine am_b1 C0 am_YYk (pc := 96) (pc2 := 101) [(.aload_n 0, 0, 0, .null), (.getfield 19, 7, 1, .null), (.iload_n 1, 0, 0, .null)] (L := [some (.ref 0), some (.int (p1)), some (.int (p2))]) (st := []) (L' := [some (.ref 0), some (.int (p1)), some (.int (p2))]) (st' := [.int (p1), .ref 3]) (g' := g) (w' := w) (cl := []) (by decide +kernel) rfl trivial ?_
      obtain ⟨q6, hq6, hf⟩ := Option.bind_eq_some_iff.mp hf
      refine am_callV (mi := mi_X2_kind) (rm := rm_X2_kind) [.int (p1)] C0.1 am_YYl cv_7_112 (M_X2_kind _ g w p1 _ hq6) (ci := 2) rfl (by decide) rfl (by rw [hR]; rfl) rfl rfl (Nat.le_of_ble_eq_true rfl) (by decide +kernel) ?_
      cases hf
      exact am_iret C0 (by decide +kernel)
    rw [if_neg hs14] at hf
    by_cases hs15 : p2 = (5 : Int32)
    · rw [if_pos hs15] at hf
      refine am_swIn C0 (n := 46) (dflt := 118) (lo := 0) (hi := 7) (offs := #[46, 55, 64, 73, 82, 91, 100, 109]) (by decide +kernel) (off := 91) (tgt := 105) (by rw [hs15]; decide) (by rw [hs15]; decide) (by rw [hs15]; rfl) (by decide) ?_
      refine am_b1 C0 am_YYk (pc := 105) (pc2 := 110) [(.aload_n 0, 0, 0, .null), (.getfield 28, 7, 2, .null), (.iload_n 1, 0, 0, .null)] (L := [some (.ref 0), some (.int (p1)), some (.int (p2))]) (st := []) (L' := [some (.ref 0), some (.int (p1)), some (.int (p2))]) (st' := [.int (p1), .ref 10]) (g' := g) (w' := w) (cl := []) (by decide +kernel) rfl trivial ?_
      obtain ⟨q7, hq7, hf⟩ := Option.bind_eq_some_iff.mp hf
      refine am_callV (mi := mi_X4_word) (rm := rm_X4_word) [.int (p1)] C0.1 am_YYl cv_7_115 (M_X4_word_10 _ g w p1 _ hq7) (ci := 4) rfl (by decide) rfl (by rw [hR]; rfl) rfl rfl (Nat.le_of_ble_eq_true rfl) (by decide +kernel) ?_
      cases hf
      exact am_iret C0 (by decide +kernel)
    rw [if_neg hs15] at hf
    by_cases hs16 : p2 = (6 : Int32)
    · rw [if_pos hs16] at hf
      refine am_swIn C0 (n := 46) (dflt := 118) (lo := 0) (hi := 7) (offs := #[46, 55, 64, 73, 82, 91, 100, 109]) (by decide +kernel) (off := 100) (tgt := 114) (by rw [hs16]; decide) (by rw [hs16]; decide) (by rw [hs16]; rfl) (by decide) ?_
      refine am_b1 C0 am_YYk (pc := 114) (pc2 := 119) [(.aload_n 0, 0, 0, .null), (.getfield 19, 7, 1, .null), (.iload_n 1, 0, 0, .null)] (L := [some (.ref 0), some (.int (p1)), some (.int (p2))]) (st := []) (L' := [some (.ref 0), some (.int (p1)), some (.int (p2))]) (st' := [.int (p1), .ref 3]) (g' := g) (w' := w) (cl := []) (by decide +kernel) rfl trivial ?_
      obtain ⟨q8, hq8, hf⟩ := Option.bind_eq_some_iff.mp hf
      refine am_callV (mi := mi_X2_sees) (rm := rm_X2_sees) [.int (p1)] C0.1 am_YYl cv_7_118 (M_X2_sees _ g w p1 _ hq8) (ci := 2) rfl (by decide) rfl (by rw [hR]; rfl) rfl rfl (Nat.le_of_ble_eq_true rfl) (by decide +kernel) ?_
      cases hf
      exact am_iret C0 (by decide +kernel)
    rw [if_neg hs16] at hf
    by_cases hs17 : p2 = (7 : Int32)
    · rw [if_pos hs17] at hf
      refine am_swIn C0 (n := 46) (dflt := 118) (lo := 0) (hi := 7) (offs := #[46, 55, 64, 73, 82, 91, 100, 109]) (by decide +kernel) (off := 109) (tgt := 123) (by rw [hs17]; decide) (by rw [hs17]; decide) (by rw [hs17]; rfl) (by decide) ?_
      refine am_b1 C0 am_YYk (pc := 123) (pc2 := 128) [(.aload_n 0, 0, 0, .null), (.getfield 28, 7, 2, .null), (.iload_n 1, 0, 0, .null)] (L := [some (.ref 0), some (.int (p1)), some (.int (p2))]) (st := []) (L' := [some (.ref 0), some (.int (p1)), some (.int (p2))]) (st' := [.int (p1), .ref 10]) (g' := g) (w' := w) (cl := []) (by decide +kernel) rfl trivial ?_
      obtain ⟨q9, hq9, hf⟩ := Option.bind_eq_some_iff.mp hf
      refine am_callV (mi := mi_X4_due) (rm := rm_X4_due) [.int (p1)] C0.1 am_YYl cv_7_121 (M_X4_due _ g w p1 _ hq9) (ci := 4) rfl (by decide) rfl (by rw [hR]; rfl) rfl rfl (Nat.le_of_ble_eq_true rfl) (by decide +kernel) ?_
      cases hf
      exact am_iret C0 (by decide +kernel)
    rw [if_neg hs17] at hf
    refine am_swOut C0 (n := 46) (dflt := 118) (lo := 0) (hi := 7) (offs := #[46, 55, 64, 73, 82, 91, 100, 109]) (by decide +kernel) (tgt := 132) (am_sw7 hs10 hs11 hs12 hs13 hs14 hs15 hs16 hs17) (by decide) ?_
    refine am_b1 C0 am_YYk (pc := 132) (pc2 := 134) [(.bipush (-2), 0, 0, .int (-2))] (L := [some (.ref 0), some (.int (p1)), some (.int (p2))]) (st := []) (L' := [some (.ref 0), some (.int (p1)), some (.int (p2))]) (st' := [.int ((-2 : Int32))]) (g' := g) (w' := w) (cl := []) (by decide +kernel) rfl trivial ?_
    cases hf
    exact am_iret C0 (by decide +kernel)
  · rw [if_pos hc18] at hf
    refine am_b1 C0 am_YYk (pc := 11) (pc2 := 12) [(.iconst (-1), 0, 0, .int (-1))] (L := [some (.ref 0), some (.int (p1)), some (.int (p2))]) (st := []) (L' := [some (.ref 0), some (.int (p1)), some (.int (p2))]) (st' := [.int ((-1 : Int32))]) (g' := g) (w' := w) (cl := []) (by decide +kernel) rfl trivial ?_
    cases hf
    exact am_iret C0 (by decide +kernel)
/-! ShutterTown$Shutters.canShift(II)Z at (10,) -/
def f_X4_canShift_10 (g : am_G) (p1 : Int32) (p2 : Int32) : Option (Int32) :=
  (f_X2_has g p1).bind fun q1 =>
    if q1 = 0 then
      some ((0 : Int32))
    else
      (f_X7_isState p2).bind fun q2 =>
        if q2 = 0 then
          some ((0 : Int32))
        else
          (f_X2_kind g p1).bind fun q3 =>
            if q3 = (3 : Int32) then
              some ((0 : Int32))
            else
              if am_in p1 6 then
                if (g 11 (Int32.toNatClampNeg p1)) = p2 then
                  some ((0 : Int32))
                else
                  some ((1 : Int32))
              else none
set_option maxRecDepth 20000 in
theorem M_X4_canShift_10 (l : Launch) (g : am_G) (w : am_J) (p1 : Int32) (p2 : Int32) (R : Int32) (hf : f_X4_canShift_10 g p1 p2 = some R) : am_Met l mi_X4_canShift rm_X4_canShift [.ref 10, .int p1, .int p2] am_YY g w (some (.int R)) am_YY g w := by
  refine am_met (own := 4) [some (.ref 10), some (.int (p1)), some (.int (p2))] (by decide) rfl rfl (by first | decide | exact Nat.le_of_ble_eq_true rfl) (fun x C0 hR hl hnm => ?_)
  unfold f_X4_canShift_10 at hf
  refine am_b1 C0 am_YYk (pc := 0) (pc2 := 5) [(.aload_n 0, 0, 0, .null), (.getfield 18, 4, 0, .null), (.iload_n 1, 0, 0, .null)] (L := [some (.ref 10), some (.int (p1)), some (.int (p2))]) (st := []) (L' := [some (.ref 10), some (.int (p1)), some (.int (p2))]) (st' := [.int (p1), .ref 3]) (g' := g) (w' := w) (cl := []) (by decide +kernel) rfl trivial ?_
  obtain ⟨q1, hq1, hf⟩ := Option.bind_eq_some_iff.mp hf
  refine am_callV (mi := mi_X2_has) (rm := rm_X2_has) [.int (p1)] C0.1 am_YYl cv_4_44 (M_X2_has _ g w p1 _ hq1) (ci := 2) rfl (by decide) rfl (by rw [hR]; rfl) rfl rfl (Nat.le_of_ble_eq_true rfl) (by decide +kernel) ?_
  refine am_if_eq C0 (off := 36) (tgt := 44) (by decide +kernel) (fun hc8 => ?_) (fun hc8 => ?_)
  · rw [if_pos hc8] at hf
    refine am_b1 C0 am_YYk (pc := 44) (pc2 := 45) [(.iconst 0, 0, 0, .int 0)] (L := [some (.ref 10), some (.int (p1)), some (.int (p2))]) (st := []) (L' := [some (.ref 10), some (.int (p1)), some (.int (p2))]) (st' := [.int ((0 : Int32))]) (g' := g) (w' := w) (cl := []) (by decide +kernel) rfl trivial ?_
    cases hf
    exact am_zret C0 (by decide +kernel) (Or.inl rfl)
  · rw [if_neg hc8] at hf
    refine am_b1 C0 am_YYk (pc := 11) (pc2 := 12) [(.iload_n 2, 0, 0, .null)] (L := [some (.ref 10), some (.int (p1)), some (.int (p2))]) (st := []) (L' := [some (.ref 10), some (.int (p1)), some (.int (p2))]) (st' := [.int (p2)]) (g' := g) (w' := w) (cl := []) (by decide +kernel) rfl trivial ?_
    obtain ⟨q2, hq2, hf⟩ := Option.bind_eq_some_iff.mp hf
    refine am_callSN (mi := mi_X7_isState) (rm := rm_X7_isState) [.int (p2)] C0.1 cv_4_54 (M_X7_isState _ g w p2 _ hq2) (by rw [hR]; rfl) rfl rfl (Nat.le_of_ble_eq_true rfl) (by decide +kernel) ?_
    refine am_if_eq C0 (off := 29) (tgt := 44) (by decide +kernel) (fun hc7 => ?_) (fun hc7 => ?_)
    · rw [if_pos hc7] at hf
      refine am_b1 C0 am_YYk (pc := 44) (pc2 := 45) [(.iconst 0, 0, 0, .int 0)] (L := [some (.ref 10), some (.int (p1)), some (.int (p2))]) (st := []) (L' := [some (.ref 10), some (.int (p1)), some (.int (p2))]) (st' := [.int ((0 : Int32))]) (g' := g) (w' := w) (cl := []) (by decide +kernel) rfl trivial ?_
      cases hf
      exact am_zret C0 (by decide +kernel) (Or.inl rfl)
    · rw [if_neg hc7] at hf
      refine am_b1 C0 am_YYk (pc := 18) (pc2 := 23) [(.aload_n 0, 0, 0, .null), (.getfield 18, 4, 0, .null), (.iload_n 1, 0, 0, .null)] (L := [some (.ref 10), some (.int (p1)), some (.int (p2))]) (st := []) (L' := [some (.ref 10), some (.int (p1)), some (.int (p2))]) (st' := [.int (p1), .ref 3]) (g' := g) (w' := w) (cl := []) (by decide +kernel) rfl trivial ?_
      obtain ⟨q3, hq3, hf⟩ := Option.bind_eq_some_iff.mp hf
      refine am_callV (mi := mi_X2_kind) (rm := rm_X2_kind) [.int (p1)] C0.1 am_YYl cv_4_57 (M_X2_kind _ g w p1 _ hq3) (ci := 2) rfl (by decide) rfl (by rw [hR]; rfl) rfl rfl (Nat.le_of_ble_eq_true rfl) (by decide +kernel) ?_
      refine am_b1 C0 am_YYk (pc := 26) (pc2 := 27) [(.iconst 3, 0, 0, .int 3)] (L := [some (.ref 10), some (.int (p1)), some (.int (p2))]) (st := [.int (q3)]) (L' := [some (.ref 10), some (.int (p1)), some (.int (p2))]) (st' := [.int ((3 : Int32)), .int (q3)]) (g' := g) (w' := w) (cl := []) (by decide +kernel) rfl trivial ?_
      refine am_icmp_eq C0 (off := 17) (tgt := 44) (by decide +kernel) (fun hc6 => ?_) (fun hc6 => ?_)
      · rw [if_pos hc6] at hf
        refine am_b1 C0 am_YYk (pc := 44) (pc2 := 45) [(.iconst 0, 0, 0, .int 0)] (L := [some (.ref 10), some (.int (p1)), some (.int (p2))]) (st := []) (L' := [some (.ref 10), some (.int (p1)), some (.int (p2))]) (st' := [.int ((0 : Int32))]) (g' := g) (w' := w) (cl := []) (by decide +kernel) rfl trivial ?_
        cases hf
        exact am_zret C0 (by decide +kernel) (Or.inl rfl)
      · rw [if_neg hc6] at hf
        obtain ⟨hg4, hf⟩ := am_g hf
        refine am_b1 C0 am_YYk (pc := 30) (pc2 := 37) [(.aload_n 0, 0, 0, .null), (.getfield 9, 4, 1, .null), (.iload_n 1, 0, 0, .null), (.iaload, 0, 0, .null), (.iload_n 2, 0, 0, .null)] (L := [some (.ref 10), some (.int (p1)), some (.int (p2))]) (st := []) (L' := [some (.ref 10), some (.int (p1)), some (.int (p2))]) (st' := [.int (p2), .int (g 11 (Int32.toNatClampNeg p1))]) (g' := g) (w' := w) (cl := [am_in p1 6]) (by decide +kernel) rfl ⟨hg4, trivial⟩ ?_
        refine am_icmp_eq C0 (off := 7) (tgt := 44) (by decide +kernel) (fun hc5 => ?_) (fun hc5 => ?_)
        · rw [if_pos hc5] at hf
          refine am_b1 C0 am_YYk (pc := 44) (pc2 := 45) [(.iconst 0, 0, 0, .int 0)] (L := [some (.ref 10), some (.int (p1)), some (.int (p2))]) (st := []) (L' := [some (.ref 10), some (.int (p1)), some (.int (p2))]) (st' := [.int ((0 : Int32))]) (g' := g) (w' := w) (cl := []) (by decide +kernel) rfl trivial ?_
          cases hf
          exact am_zret C0 (by decide +kernel) (Or.inl rfl)
        · rw [if_neg hc5] at hf
          refine am_b1 C0 am_YYk (pc := 40) (pc2 := 41) [(.iconst 1, 0, 0, .int 1)] (L := [some (.ref 10), some (.int (p1)), some (.int (p2))]) (st := []) (L' := [some (.ref 10), some (.int (p1)), some (.int (p2))]) (st' := [.int ((1 : Int32))]) (g' := g) (w' := w) (cl := []) (by decide +kernel) rfl trivial ?_
          refine am_goto C0 (off := 4) (tgt := 45) (by decide +kernel) ?_
          cases hf
          exact am_zret C0 (by decide +kernel) (Or.inr rfl)
/-! ShutterTown$Acts.forgetFirst()V at (16,) -/
def f_X0_forgetFirst (g : am_G) : Option (am_G) :=
  some (am_u (am_cp g 17 17 (Int32.toNatClampNeg (13 : Int32)) (Int32.toNatClampNeg (0 : Int32)) (Int32.toNatClampNeg (169 : Int32))) 16 1 (13 : Int32))
set_option maxRecDepth 20000 in
theorem M_X0_forgetFirst (l : Launch) (g : am_G) (w : am_J)  (R : am_G) (hf : f_X0_forgetFirst g = some R) : am_Met l mi_X0_forgetFirst rm_X0_forgetFirst [.ref 16] am_YY g w none am_YY R w := by
  refine am_met (own := 0) [some (.ref 16)] (by decide) rfl rfl (by first | decide | exact Nat.le_of_ble_eq_true rfl) (fun x C0 hR hl hnm => ?_)
  unfold f_X0_forgetFirst at hf
  refine am_b1 C0 am_YYk (pc := 0) (pc2 := 14) [(.aload_n 0, 0, 0, .null), (.getfield 9, 0, 0, .null), (.bipush 13, 0, 0, .int 13), (.aload_n 0, 0, 0, .null), (.getfield 9, 0, 0, .null), (.iconst 0, 0, 0, .int 0), (.sipush 169, 0, 0, .int 169)] (L := [some (.ref 16)]) (st := []) (L' := [some (.ref 16)]) (st' := [.int ((169 : Int32)), .int ((0 : Int32)), .ref 17, .int ((13 : Int32)), .ref 17]) (g' := g) (w' := w) (cl := []) (by decide +kernel) rfl trivial ?_
  refine am_copy C0.1 am_YYl rfl rfl am_acw_0 (by decide) (by rw [hR]; decide) (Nat.le_of_ble_eq_true rfl) (by decide +kernel) ?_
  refine am_b1 C0 am_YYk (pc := 17) (pc2 := 23) [(.aload_n 0, 0, 0, .null), (.bipush 13, 0, 0, .int 13), (.putfield 15, 0, 1, .null)] (L := [some (.ref 16)]) (st := []) (L' := [some (.ref 16)]) (st' := []) (g' := am_u (am_cp g 17 17 (Int32.toNatClampNeg (13 : Int32)) (Int32.toNatClampNeg (0 : Int32)) (Int32.toNatClampNeg (169 : Int32))) 16 1 (13 : Int32)) (w' := w) (cl := []) (by decide +kernel) rfl trivial ?_
  cases hf
  exact am_vret C0 (by decide +kernel)
/-! ShutterTown$Shutters.store([II)V at (10, 17) -/
def f_X4_store_10_17 (g : am_G) (p2 : Int32) : Option (am_G) :=
  if p2 < 0 then
    some (g)
  else
    if p2 ≤ ((Int32.ofNat 182) - (13 : Int32)) then
      if (¬ (0 : Int32) < 0 ∧ ¬ p2 < 0) ∧ ¬ (6 : Int32) < 0 ∧ Int32.toNatClampNeg (0 : Int32) + Int32.toNatClampNeg (6 : Int32) ≤ 6 ∧ Int32.toNatClampNeg p2 + Int32.toNatClampNeg (6 : Int32) ≤ 182 then
        if (¬ (0 : Int32) < 0 ∧ ¬ (p2 + (6 : Int32)) < 0) ∧ ¬ (6 : Int32) < 0 ∧ Int32.toNatClampNeg (0 : Int32) + Int32.toNatClampNeg (6 : Int32) ≤ 6 ∧ Int32.toNatClampNeg (p2 + (6 : Int32)) + Int32.toNatClampNeg (6 : Int32) ≤ 182 then
          if am_in ((p2 + (13 : Int32)) - (1 : Int32)) 182 then
            some (am_u (am_cp (am_cp g 11 17 (Int32.toNatClampNeg (0 : Int32)) (Int32.toNatClampNeg p2) (Int32.toNatClampNeg (6 : Int32))) 12 17 (Int32.toNatClampNeg (0 : Int32)) (Int32.toNatClampNeg (p2 + (6 : Int32))) (Int32.toNatClampNeg (6 : Int32))) 17 (Int32.toNatClampNeg ((p2 + (13 : Int32)) - (1 : Int32))) ((am_cp (am_cp g 11 17 (Int32.toNatClampNeg (0 : Int32)) (Int32.toNatClampNeg p2) (Int32.toNatClampNeg (6 : Int32))) 12 17 (Int32.toNatClampNeg (0 : Int32)) (Int32.toNatClampNeg (p2 + (6 : Int32))) (Int32.toNatClampNeg (6 : Int32))) 10 3))
          else none
        else none
      else none
    else
      some (g)
set_option maxRecDepth 20000 in
theorem M_X4_store_10_17 (l : Launch) (g : am_G) (w : am_J) (p2 : Int32) (R : am_G) (hf : f_X4_store_10_17 g p2 = some R) : am_Met l mi_X4_store rm_X4_store [.ref 10, .ref 17, .int p2] am_YY g w none am_YY R w := by
  refine am_met (own := 4) [some (.ref 10), some (.ref 17), some (.int (p2))] (by decide) rfl rfl (by first | decide | exact Nat.le_of_ble_eq_true rfl) (fun x C0 hR hl hnm => ?_)
  unfold f_X4_store_10_17 at hf
  refine am_b1 C0 am_YYk (pc := 0) (pc2 := 1) [(.iload_n 2, 0, 0, .null)] (L := [some (.ref 10), some (.ref 17), some (.int (p2))]) (st := []) (L' := [some (.ref 10), some (.ref 17), some (.int (p2))]) (st' := [.int (p2)]) (g' := g) (w' := w) (cl := []) (by decide +kernel) rfl trivial ?_
  refine am_if_lt C0 (off := 12) (tgt := 13) (by decide +kernel) (fun hc5 => ?_) (fun hc5 => ?_)
  · rw [if_pos hc5] at hf
    cases hf
    exact am_vret C0 (by decide +kernel)
  · rw [if_neg hc5] at hf
    refine am_b1 C0 am_YYk (pc := 4) (pc2 := 10) [(.iload_n 2, 0, 0, .null), (.aload_n 1, 0, 0, .null), (.arraylength, 0, 0, .null), (.bipush 13, 0, 0, .int 13), (.isub, 0, 0, .null)] (L := [some (.ref 10), some (.ref 17), some (.int (p2))]) (st := []) (L' := [some (.ref 10), some (.ref 17), some (.int (p2))]) (st' := [.int ((Int32.ofNat 182) - (13 : Int32)), .int (p2)]) (g' := g) (w' := w) (cl := []) (by decide +kernel) rfl trivial ?_
    refine am_icmp_le C0 (off := 4) (tgt := 14) (by decide +kernel) (fun hc4 => ?_) (fun hc4 => ?_)
    · rw [if_pos hc4] at hf
      refine am_b1 C0 am_YYk (pc := 14) (pc2 := 23) [(.aload_n 0, 0, 0, .null), (.getfield 9, 4, 1, .null), (.iconst 0, 0, 0, .int 0), (.aload_n 1, 0, 0, .null), (.iload_n 2, 0, 0, .null), (.bipush 6, 0, 0, .int 6)] (L := [some (.ref 10), some (.ref 17), some (.int (p2))]) (st := []) (L' := [some (.ref 10), some (.ref 17), some (.int (p2))]) (st' := [.int ((6 : Int32)), .int (p2), .ref 17, .int ((0 : Int32)), .ref 11]) (g' := g) (w' := w) (cl := []) (by decide +kernel) rfl trivial ?_
      obtain ⟨hg1, hf⟩ := am_g hf
      refine am_copy C0.1 am_YYl rfl rfl am_acw_4 hg1 (by rw [hR]; decide) (Nat.le_of_ble_eq_true rfl) (by decide +kernel) ?_
      refine am_b1 C0 am_YYk (pc := 26) (pc2 := 38) [(.aload_n 0, 0, 0, .null), (.getfield 15, 4, 2, .null), (.iconst 0, 0, 0, .int 0), (.aload_n 1, 0, 0, .null), (.iload_n 2, 0, 0, .null), (.bipush 6, 0, 0, .int 6), (.iadd, 0, 0, .null), (.bipush 6, 0, 0, .int 6)] (L := [some (.ref 10), some (.ref 17), some (.int (p2))]) (st := []) (L' := [some (.ref 10), some (.ref 17), some (.int (p2))]) (st' := [.int ((6 : Int32)), .int (p2 + (6 : Int32)), .ref 17, .int ((0 : Int32)), .ref 12]) (g' := am_cp g 11 17 (Int32.toNatClampNeg (0 : Int32)) (Int32.toNatClampNeg p2) (Int32.toNatClampNeg (6 : Int32))) (w' := w) (cl := []) (by decide +kernel) rfl trivial ?_
      obtain ⟨hg2, hf⟩ := am_g hf
      refine am_copy C0.1 am_YYl rfl rfl am_acw_4 hg2 (by rw [hR]; decide) (Nat.le_of_ble_eq_true rfl) (by decide +kernel) ?_
      obtain ⟨hg3, hf⟩ := am_g hf
      refine am_b1 C0 am_YYk (pc := 41) (pc2 := 53) [(.aload_n 1, 0, 0, .null), (.iload_n 2, 0, 0, .null), (.bipush 13, 0, 0, .int 13), (.iadd, 0, 0, .null), (.iconst 1, 0, 0, .int 1), (.isub, 0, 0, .null), (.aload_n 0, 0, 0, .null), (.getfield 40, 4, 3, .null), (.iastore, 0, 0, .null)] (L := [some (.ref 10), some (.ref 17), some (.int (p2))]) (st := []) (L' := [some (.ref 10), some (.ref 17), some (.int (p2))]) (st' := []) (g' := am_u (am_cp (am_cp g 11 17 (Int32.toNatClampNeg (0 : Int32)) (Int32.toNatClampNeg p2) (Int32.toNatClampNeg (6 : Int32))) 12 17 (Int32.toNatClampNeg (0 : Int32)) (Int32.toNatClampNeg (p2 + (6 : Int32))) (Int32.toNatClampNeg (6 : Int32))) 17 (Int32.toNatClampNeg ((p2 + (13 : Int32)) - (1 : Int32))) ((am_cp (am_cp g 11 17 (Int32.toNatClampNeg (0 : Int32)) (Int32.toNatClampNeg p2) (Int32.toNatClampNeg (6 : Int32))) 12 17 (Int32.toNatClampNeg (0 : Int32)) (Int32.toNatClampNeg (p2 + (6 : Int32))) (Int32.toNatClampNeg (6 : Int32))) 10 3)) (w' := w) (cl := [am_in ((p2 + (13 : Int32)) - (1 : Int32)) 182]) (by decide +kernel) rfl ⟨hg3, trivial⟩ ?_
      cases hf
      exact am_vret C0 (by decide +kernel)
    · rw [if_neg hc4] at hf
      cases hf
      exact am_vret C0 (by decide +kernel)
/-! ShutterTown$Acts.remember(LShutterTown$Shutters;)V at (16, 10) -/
def f_X0_remember_13   (g : am_G) : Option (am_G) :=
  (f_X4_store_10_17 g ((g 16 1) * (13 : Int32))).bind fun q1 =>
    some (am_u q1 16 1 ((q1 16 1) + (1 : Int32)))
set_option maxRecDepth 20000 in
theorem B_X0_remember_13 (x : am_X) (C0 : am_Cm x 0 cX0_remember 2 none) (hR : am_R x = rm_X0_remember) (w : am_J)  (R : am_G)   (g : am_G) (hf : f_X0_remember_13 g = some R) : am_Ev x 2 (0, 0) (am_Q x (0, 0) none am_YY R w) 13 [some (.ref 16), some (.ref 10)] [] am_YY g w := by
  unfold f_X0_remember_13 at hf
  refine am_b1 C0 am_YYk (pc := 13) (pc2 := 25) [(.aload_n 1, 0, 0, .null), (.aload_n 0, 0, 0, .null), (.getfield 9, 0, 0, .null), (.aload_n 0, 0, 0, .null), (.getfield 15, 0, 1, .null), (.bipush 13, 0, 0, .int 13), (.imul, 0, 0, .null)] (L := [some (.ref 16), some (.ref 10)]) (st := []) (L' := [some (.ref 16), some (.ref 10)]) (st' := [.int ((g 16 1) * (13 : Int32)), .ref 17, .ref 10]) (g' := g) (w' := w) (cl := []) (by decide +kernel) rfl trivial ?_
  obtain ⟨q1, hq1, hf⟩ := Option.bind_eq_some_iff.mp hf
  refine am_callV (mi := mi_X4_store) (rm := rm_X4_store) [.ref 17, .int ((g 16 1) * (13 : Int32))] C0.1 am_YYl cv_0_22 (M_X4_store_10_17 _ g w ((g 16 1) * (13 : Int32)) _ hq1) (ci := 4) rfl (by decide) rfl (by rw [hR]; rfl) rfl rfl (Nat.le_of_ble_eq_true rfl) (by decide +kernel) ?_
  refine am_b1 C0 am_YYk (pc := 28) (pc2 := 38) [(.aload_n 0, 0, 0, .null), (.dup, 0, 0, .null), (.getfield 15, 0, 1, .null), (.iconst 1, 0, 0, .int 1), (.iadd, 0, 0, .null), (.putfield 15, 0, 1, .null)] (L := [some (.ref 16), some (.ref 10)]) (st := []) (L' := [some (.ref 16), some (.ref 10)]) (st' := []) (g' := am_u q1 16 1 ((q1 16 1) + (1 : Int32))) (w' := w) (cl := []) (by decide +kernel) rfl trivial ?_
  cases hf
  exact am_vret C0 (by decide +kernel)
def f_X0_remember (g : am_G) : Option (am_G) :=
  if (g 16 1) < (14 : Int32) then
    f_X0_remember_13 (g)
  else
    (f_X0_forgetFirst g).bind fun q2 =>
      f_X0_remember_13 (q2)
set_option maxRecDepth 20000 in
theorem M_X0_remember (l : Launch) (g : am_G) (w : am_J)  (R : am_G) (hf : f_X0_remember g = some R) : am_Met l mi_X0_remember rm_X0_remember [.ref 16, .ref 10] am_YY g w none am_YY R w := by
  refine am_met (own := 0) [some (.ref 16), some (.ref 10)] (by decide) rfl rfl (by first | decide | exact Nat.le_of_ble_eq_true rfl) (fun x C0 hR hl hnm => ?_)
  unfold f_X0_remember at hf
  refine am_b1 C0 am_YYk (pc := 0) (pc2 := 6) [(.aload_n 0, 0, 0, .null), (.getfield 15, 0, 1, .null), (.bipush 14, 0, 0, .int 14)] (L := [some (.ref 16), some (.ref 10)]) (st := []) (L' := [some (.ref 16), some (.ref 10)]) (st' := [.int ((14 : Int32)), .int (g 16 1)]) (g' := g) (w' := w) (cl := []) (by decide +kernel) rfl trivial ?_
  refine am_icmp_lt C0 (off := 7) (tgt := 13) (by decide +kernel) (fun hc3 => ?_) (fun hc3 => ?_)
  · rw [if_pos hc3] at hf
    exact B_X0_remember_13 x C0 hR w  R  (g) hf
  · rw [if_neg hc3] at hf
    refine am_b1 C0 am_YYk (pc := 9) (pc2 := 10) [(.aload_n 0, 0, 0, .null)] (L := [some (.ref 16), some (.ref 10)]) (st := []) (L' := [some (.ref 16), some (.ref 10)]) (st' := [.ref 16]) (g' := g) (w' := w) (cl := []) (by decide +kernel) rfl trivial ?_
    obtain ⟨q2, hq2, hf⟩ := Option.bind_eq_some_iff.mp hf
    refine am_callV (mi := mi_X0_forgetFirst) (rm := rm_X0_forgetFirst) [] C0.1 am_YYl cv_0_19 (M_X0_forgetFirst _ g w _ hq2) (ci := 0) rfl (by decide) rfl (by rw [hR]; rfl) rfl rfl (Nat.le_of_ble_eq_true rfl) (by decide +kernel) ?_
    exact B_X0_remember_13 x C0 hR w  R  (q2) hf
end
