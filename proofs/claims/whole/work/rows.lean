section
-- ===== PART A: goes FIRST, ahead of the names: the tables' words, and 'selects' of the private methods out of them =====
/-- a private method of a class that the tables say can be made, by its rows of tables_1 -/
def lw_okq (q : MethodName × Nat) : Prop := (q.1.cls ≠ "java/lang/invoke/MethodHandle" ∧ q.1.cls ≠ "java/lang/invoke/VarHandle") ∧ Cond.instantiable q.1.cls q.2 ∈ tables_1 ∧ Cond.privateMethod q.1 ∈ tables_1 ∧ Cond.instanceMethod q.1 ∈ tables_1
theorem lw_p0 : lw_okq (⟨"ShutterTown$Letters", "fitsHead", "(I)Z"⟩, 2) := ⟨⟨by decide +kernel, by decide +kernel⟩, List.mem_of_getElem? (i := 23) (by decide +kernel), List.mem_of_getElem? (i := 202) (by decide +kernel), List.mem_of_getElem? (i := 203) (by decide +kernel)⟩
theorem lw_p1 : lw_okq (⟨"ShutterTown$Letters", "isLetter", "(IC)Z"⟩, 2) := ⟨⟨by decide +kernel, by decide +kernel⟩, List.mem_of_getElem? (i := 23) (by decide +kernel), List.mem_of_getElem? (i := 206) (by decide +kernel), List.mem_of_getElem? (i := 207) (by decide +kernel)⟩
theorem lw_p2 : lw_okq (⟨"ShutterTown$Letters", "isFigure", "(III)Z"⟩, 2) := ⟨⟨by decide +kernel, by decide +kernel⟩, List.mem_of_getElem? (i := 23) (by decide +kernel), List.mem_of_getElem? (i := 210) (by decide +kernel), List.mem_of_getElem? (i := 211) (by decide +kernel)⟩
theorem lw_p3 : lw_okq (⟨"ShutterTown$Letters", "fitsWindow", "(I)Z"⟩, 2) := ⟨⟨by decide +kernel, by decide +kernel⟩, List.mem_of_getElem? (i := 23) (by decide +kernel), List.mem_of_getElem? (i := 218) (by decide +kernel), List.mem_of_getElem? (i := 219) (by decide +kernel)⟩
theorem lw_p4 : lw_okq (⟨"ShutterTown$Letters", "isTaken", "(II)Z"⟩, 2) := ⟨⟨by decide +kernel, by decide +kernel⟩, List.mem_of_getElem? (i := 23) (by decide +kernel), List.mem_of_getElem? (i := 222) (by decide +kernel), List.mem_of_getElem? (i := 223) (by decide +kernel)⟩
theorem lw_p5 : lw_okq (⟨"ShutterTown$Houses", "facing", "(I)I"⟩, 8) := ⟨⟨by decide +kernel, by decide +kernel⟩, List.mem_of_getElem? (i := 37) (by decide +kernel), List.mem_of_getElem? (i := 242) (by decide +kernel), List.mem_of_getElem? (i := 243) (by decide +kernel)⟩
theorem lw_p6 : lw_okq (⟨"ShutterTown$Acts", "forgetFirst", "()V"⟩, 2) := ⟨⟨by decide +kernel, by decide +kernel⟩, List.mem_of_getElem? (i := 87) (by decide +kernel), List.mem_of_getElem? (i := 338) (by decide +kernel), List.mem_of_getElem? (i := 339) (by decide +kernel)⟩
theorem lw_p7 : lw_okq (⟨"ShutterTown", "refusalOfTwo", "(II)I"⟩, 11) := ⟨⟨by decide +kernel, by decide +kernel⟩, List.mem_of_getElem? (i := 15) (by decide +kernel), List.mem_of_getElem? (i := 414) (by decide +kernel), List.mem_of_getElem? (i := 415) (by decide +kernel)⟩
theorem lw_p8 : lw_okq (⟨"ShutterTown$Ways", "goOn", "(II)V"⟩, 2) := ⟨⟨by decide +kernel, by decide +kernel⟩, List.mem_of_getElem? (i := 113) (by decide +kernel), List.mem_of_getElem? (i := 428) (by decide +kernel), List.mem_of_getElem? (i := 429) (by decide +kernel)⟩
theorem lw_p9 : lw_okq (⟨"ShutterTown$Ways", "hoursAt", "(I)I"⟩, 2) := ⟨⟨by decide +kernel, by decide +kernel⟩, List.mem_of_getElem? (i := 113) (by decide +kernel), List.mem_of_getElem? (i := 443) (by decide +kernel), List.mem_of_getElem? (i := 444) (by decide +kernel)⟩
theorem lw_p10 : lw_okq (⟨"ShutterTown", "happens", "(II)Z"⟩, 11) := ⟨⟨by decide +kernel, by decide +kernel⟩, List.mem_of_getElem? (i := 15) (by decide +kernel), List.mem_of_getElem? (i := 496) (by decide +kernel), List.mem_of_getElem? (i := 497) (by decide +kernel)⟩
theorem lw_p11 : lw_okq (⟨"ShutterTown$Houses", "gain", "(II)I"⟩, 8) := ⟨⟨by decide +kernel, by decide +kernel⟩, List.mem_of_getElem? (i := 37) (by decide +kernel), List.mem_of_getElem? (i := 581) (by decide +kernel), List.mem_of_getElem? (i := 582) (by decide +kernel)⟩
theorem lw_p12 : lw_okq (⟨"ShutterTownModel", "readText", "()I"⟩, 31) := ⟨⟨by decide +kernel, by decide +kernel⟩, List.mem_of_getElem? (i := 660) (by decide +kernel), List.mem_of_getElem? (i := 777) (by decide +kernel), List.mem_of_getElem? (i := 778) (by decide +kernel)⟩
theorem lw_p13 : lw_okq (⟨"ShutterTownModel", "figure", "(II)I"⟩, 31) := ⟨⟨by decide +kernel, by decide +kernel⟩, List.mem_of_getElem? (i := 660) (by decide +kernel), List.mem_of_getElem? (i := 781) (by decide +kernel), List.mem_of_getElem? (i := 782) (by decide +kernel)⟩
theorem lw_p14 : lw_okq (⟨"ShutterTownModel", "readWindow", "()V"⟩, 31) := ⟨⟨by decide +kernel, by decide +kernel⟩, List.mem_of_getElem? (i := 660) (by decide +kernel), List.mem_of_getElem? (i := 785) (by decide +kernel), List.mem_of_getElem? (i := 786) (by decide +kernel)⟩
theorem lw_p15 : lw_okq (⟨"ShutterTownModel", "placesLeft", "()I"⟩, 31) := ⟨⟨by decide +kernel, by decide +kernel⟩, List.mem_of_getElem? (i := 660) (by decide +kernel), List.mem_of_getElem? (i := 789) (by decide +kernel), List.mem_of_getElem? (i := 790) (by decide +kernel)⟩
def lw_privs_1 : List (MethodName × Nat) := [(⟨"ShutterTown$Letters", "fitsHead", "(I)Z"⟩, 2), (⟨"ShutterTown$Letters", "isLetter", "(IC)Z"⟩, 2), (⟨"ShutterTown$Letters", "isFigure", "(III)Z"⟩, 2), (⟨"ShutterTown$Letters", "fitsWindow", "(I)Z"⟩, 2), (⟨"ShutterTown$Letters", "isTaken", "(II)Z"⟩, 2), (⟨"ShutterTown$Houses", "facing", "(I)I"⟩, 8), (⟨"ShutterTown$Acts", "forgetFirst", "()V"⟩, 2), (⟨"ShutterTown", "refusalOfTwo", "(II)I"⟩, 11), (⟨"ShutterTown$Ways", "goOn", "(II)V"⟩, 2), (⟨"ShutterTown$Ways", "hoursAt", "(I)I"⟩, 2), (⟨"ShutterTown", "happens", "(II)Z"⟩, 11), (⟨"ShutterTown$Houses", "gain", "(II)I"⟩, 8), (⟨"ShutterTownModel", "readText", "()I"⟩, 31), (⟨"ShutterTownModel", "figure", "(II)I"⟩, 31), (⟨"ShutterTownModel", "readWindow", "()V"⟩, 31), (⟨"ShutterTownModel", "placesLeft", "()I"⟩, 31)]
theorem lw_r1 : ∀ q ∈ lw_privs_1, lw_okq q := List.forall_mem_cons.mpr ⟨lw_p0, List.forall_mem_cons.mpr ⟨lw_p1, List.forall_mem_cons.mpr ⟨lw_p2, List.forall_mem_cons.mpr ⟨lw_p3, List.forall_mem_cons.mpr ⟨lw_p4, List.forall_mem_cons.mpr ⟨lw_p5, List.forall_mem_cons.mpr ⟨lw_p6, List.forall_mem_cons.mpr ⟨lw_p7, List.forall_mem_cons.mpr ⟨lw_p8, List.forall_mem_cons.mpr ⟨lw_p9, List.forall_mem_cons.mpr ⟨lw_p10, List.forall_mem_cons.mpr ⟨lw_p11, List.forall_mem_cons.mpr ⟨lw_p12, List.forall_mem_cons.mpr ⟨lw_p13, List.forall_mem_cons.mpr ⟨lw_p14, List.forall_mem_cons.mpr ⟨lw_p15, fun _ h => absurd h List.not_mem_nil⟩⟩⟩⟩⟩⟩⟩⟩⟩⟩⟩⟩⟩⟩⟩⟩
theorem lw_p16 : lw_okq (⟨"ShutterTownModel", "figureOf", "(I)I"⟩, 31) := ⟨⟨by decide +kernel, by decide +kernel⟩, List.mem_of_getElem? (i := 660) (by decide +kernel), List.mem_of_getElem? (i := 793) (by decide +kernel), List.mem_of_getElem? (i := 794) (by decide +kernel)⟩
theorem lw_p17 : lw_okq (⟨"ShutterTownModel", "isWindow", "(I)Z"⟩, 31) := ⟨⟨by decide +kernel, by decide +kernel⟩, List.mem_of_getElem? (i := 660) (by decide +kernel), List.mem_of_getElem? (i := 809) (by decide +kernel), List.mem_of_getElem? (i := 810) (by decide +kernel)⟩
theorem lw_p18 : lw_okq (⟨"ShutterTownModel", "wordOf", "(II)I"⟩, 31) := ⟨⟨by decide +kernel, by decide +kernel⟩, List.mem_of_getElem? (i := 660) (by decide +kernel), List.mem_of_getElem? (i := 813) (by decide +kernel), List.mem_of_getElem? (i := 814) (by decide +kernel)⟩
theorem lw_p19 : lw_okq (⟨"ShutterTownModel", "seen", "(I)I"⟩, 31) := ⟨⟨by decide +kernel, by decide +kernel⟩, List.mem_of_getElem? (i := 660) (by decide +kernel), List.mem_of_getElem? (i := 817) (by decide +kernel), List.mem_of_getElem? (i := 818) (by decide +kernel)⟩
theorem lw_p20 : lw_okq (⟨"ShutterTownModel", "sees", "(II)Z"⟩, 31) := ⟨⟨by decide +kernel, by decide +kernel⟩, List.mem_of_getElem? (i := 660) (by decide +kernel), List.mem_of_getElem? (i := 821) (by decide +kernel), List.mem_of_getElem? (i := 822) (by decide +kernel)⟩
theorem lw_p21 : lw_okq (⟨"ShutterTownModel", "keepAct", "()V"⟩, 31) := ⟨⟨by decide +kernel, by decide +kernel⟩, List.mem_of_getElem? (i := 660) (by decide +kernel), List.mem_of_getElem? (i := 831) (by decide +kernel), List.mem_of_getElem? (i := 832) (by decide +kernel)⟩
theorem lw_p22 : lw_okq (⟨"ShutterTownModel", "windOn", "(I)I"⟩, 31) := ⟨⟨by decide +kernel, by decide +kernel⟩, List.mem_of_getElem? (i := 660) (by decide +kernel), List.mem_of_getElem? (i := 839) (by decide +kernel), List.mem_of_getElem? (i := 840) (by decide +kernel)⟩
theorem lw_p23 : lw_okq (⟨"ShutterTownModel", "leastState", "(I)I"⟩, 31) := ⟨⟨by decide +kernel, by decide +kernel⟩, List.mem_of_getElem? (i := 660) (by decide +kernel), List.mem_of_getElem? (i := 847) (by decide +kernel), List.mem_of_getElem? (i := 848) (by decide +kernel)⟩
theorem lw_p24 : lw_okq (⟨"ShutterTownModel", "hourOn", "(I)I"⟩, 31) := ⟨⟨by decide +kernel, by decide +kernel⟩, List.mem_of_getElem? (i := 660) (by decide +kernel), List.mem_of_getElem? (i := 855) (by decide +kernel), List.mem_of_getElem? (i := 856) (by decide +kernel)⟩
theorem lw_p25 : lw_okq (⟨"ShutterTownModel", "layWays", "(III)V"⟩, 31) := ⟨⟨by decide +kernel, by decide +kernel⟩, List.mem_of_getElem? (i := 660) (by decide +kernel), List.mem_of_getElem? (i := 867) (by decide +kernel), List.mem_of_getElem? (i := 868) (by decide +kernel)⟩
theorem lw_p26 : lw_okq (⟨"ShutterTownModel", "hoursBy", "(IIIII)I"⟩, 31) := ⟨⟨by decide +kernel, by decide +kernel⟩, List.mem_of_getElem? (i := 660) (by decide +kernel), List.mem_of_getElem? (i := 874) (by decide +kernel), List.mem_of_getElem? (i := 875) (by decide +kernel)⟩
theorem lw_p27 : lw_okq (⟨"ShutterTownModel", "isTold", "(II)Z"⟩, 31) := ⟨⟨by decide +kernel, by decide +kernel⟩, List.mem_of_getElem? (i := 660) (by decide +kernel), List.mem_of_getElem? (i := 892) (by decide +kernel), List.mem_of_getElem? (i := 893) (by decide +kernel)⟩
theorem lw_p28 : lw_okq (⟨"ShutterTownModel", "layTrial", "()V"⟩, 31) := ⟨⟨by decide +kernel, by decide +kernel⟩, List.mem_of_getElem? (i := 660) (by decide +kernel), List.mem_of_getElem? (i := 909) (by decide +kernel), List.mem_of_getElem? (i := 910) (by decide +kernel)⟩
theorem lw_p29 : lw_okq (⟨"ShutterTownModel", "tryMove", "(II)Z"⟩, 31) := ⟨⟨by decide +kernel, by decide +kernel⟩, List.mem_of_getElem? (i := 660) (by decide +kernel), List.mem_of_getElem? (i := 914) (by decide +kernel), List.mem_of_getElem? (i := 915) (by decide +kernel)⟩
theorem lw_p30 : lw_okq (⟨"ShutterTownModel", "alike", "(I)I"⟩, 31) := ⟨⟨by decide +kernel, by decide +kernel⟩, List.mem_of_getElem? (i := 660) (by decide +kernel), List.mem_of_getElem? (i := 918) (by decide +kernel), List.mem_of_getElem? (i := 919) (by decide +kernel)⟩
theorem lw_p31 : lw_okq (⟨"ShutterTownModel", "isCode", "(I)Z"⟩, 31) := ⟨⟨by decide +kernel, by decide +kernel⟩, List.mem_of_getElem? (i := 660) (by decide +kernel), List.mem_of_getElem? (i := 934) (by decide +kernel), List.mem_of_getElem? (i := 935) (by decide +kernel)⟩
def lw_privs_2 : List (MethodName × Nat) := [(⟨"ShutterTownModel", "figureOf", "(I)I"⟩, 31), (⟨"ShutterTownModel", "isWindow", "(I)Z"⟩, 31), (⟨"ShutterTownModel", "wordOf", "(II)I"⟩, 31), (⟨"ShutterTownModel", "seen", "(I)I"⟩, 31), (⟨"ShutterTownModel", "sees", "(II)Z"⟩, 31), (⟨"ShutterTownModel", "keepAct", "()V"⟩, 31), (⟨"ShutterTownModel", "windOn", "(I)I"⟩, 31), (⟨"ShutterTownModel", "leastState", "(I)I"⟩, 31), (⟨"ShutterTownModel", "hourOn", "(I)I"⟩, 31), (⟨"ShutterTownModel", "layWays", "(III)V"⟩, 31), (⟨"ShutterTownModel", "hoursBy", "(IIIII)I"⟩, 31), (⟨"ShutterTownModel", "isTold", "(II)Z"⟩, 31), (⟨"ShutterTownModel", "layTrial", "()V"⟩, 31), (⟨"ShutterTownModel", "tryMove", "(II)Z"⟩, 31), (⟨"ShutterTownModel", "alike", "(I)I"⟩, 31), (⟨"ShutterTownModel", "isCode", "(I)Z"⟩, 31)]
theorem lw_r2 : ∀ q ∈ lw_privs_2, lw_okq q := List.forall_mem_cons.mpr ⟨lw_p16, List.forall_mem_cons.mpr ⟨lw_p17, List.forall_mem_cons.mpr ⟨lw_p18, List.forall_mem_cons.mpr ⟨lw_p19, List.forall_mem_cons.mpr ⟨lw_p20, List.forall_mem_cons.mpr ⟨lw_p21, List.forall_mem_cons.mpr ⟨lw_p22, List.forall_mem_cons.mpr ⟨lw_p23, List.forall_mem_cons.mpr ⟨lw_p24, List.forall_mem_cons.mpr ⟨lw_p25, List.forall_mem_cons.mpr ⟨lw_p26, List.forall_mem_cons.mpr ⟨lw_p27, List.forall_mem_cons.mpr ⟨lw_p28, List.forall_mem_cons.mpr ⟨lw_p29, List.forall_mem_cons.mpr ⟨lw_p30, List.forall_mem_cons.mpr ⟨lw_p31, fun _ h => absurd h List.not_mem_nil⟩⟩⟩⟩⟩⟩⟩⟩⟩⟩⟩⟩⟩⟩⟩⟩
theorem lw_p32 : lw_okq (⟨"ShutterTownModel", "greatestPart", "(I)I"⟩, 31) := ⟨⟨by decide +kernel, by decide +kernel⟩, List.mem_of_getElem? (i := 660) (by decide +kernel), List.mem_of_getElem? (i := 945) (by decide +kernel), List.mem_of_getElem? (i := 946) (by decide +kernel)⟩
theorem lw_p33 : lw_okq (⟨"ShutterTownModel", "layHours", "(III)V"⟩, 31) := ⟨⟨by decide +kernel, by decide +kernel⟩, List.mem_of_getElem? (i := 660) (by decide +kernel), List.mem_of_getElem? (i := 958) (by decide +kernel), List.mem_of_getElem? (i := 959) (by decide +kernel)⟩
theorem lw_p34 : lw_okq (⟨"ShutterTownModel", "isRest", "(II)Z"⟩, 31) := ⟨⟨by decide +kernel, by decide +kernel⟩, List.mem_of_getElem? (i := 660) (by decide +kernel), List.mem_of_getElem? (i := 966) (by decide +kernel), List.mem_of_getElem? (i := 967) (by decide +kernel)⟩
theorem lw_p35 : lw_okq (⟨"ShutterTownModel", "lets", "(II)I"⟩, 31) := ⟨⟨by decide +kernel, by decide +kernel⟩, List.mem_of_getElem? (i := 660) (by decide +kernel), List.mem_of_getElem? (i := 970) (by decide +kernel), List.mem_of_getElem? (i := 971) (by decide +kernel)⟩
theorem lw_p36 : lw_okq (⟨"ShutterTownModel", "loose", "()I"⟩, 31) := ⟨⟨by decide +kernel, by decide +kernel⟩, List.mem_of_getElem? (i := 660) (by decide +kernel), List.mem_of_getElem? (i := 978) (by decide +kernel), List.mem_of_getElem? (i := 979) (by decide +kernel)⟩
theorem lw_p37 : lw_okq (⟨"ShutterTownModel", "reads", "(III)Z"⟩, 31) := ⟨⟨by decide +kernel, by decide +kernel⟩, List.mem_of_getElem? (i := 660) (by decide +kernel), List.mem_of_getElem? (i := 982) (by decide +kernel), List.mem_of_getElem? (i := 983) (by decide +kernel)⟩
def lw_privs_3 : List (MethodName × Nat) := [(⟨"ShutterTownModel", "greatestPart", "(I)I"⟩, 31), (⟨"ShutterTownModel", "layHours", "(III)V"⟩, 31), (⟨"ShutterTownModel", "isRest", "(II)Z"⟩, 31), (⟨"ShutterTownModel", "lets", "(II)I"⟩, 31), (⟨"ShutterTownModel", "loose", "()I"⟩, 31), (⟨"ShutterTownModel", "reads", "(III)Z"⟩, 31)]
theorem lw_r3 : ∀ q ∈ lw_privs_3, lw_okq q := List.forall_mem_cons.mpr ⟨lw_p32, List.forall_mem_cons.mpr ⟨lw_p33, List.forall_mem_cons.mpr ⟨lw_p34, List.forall_mem_cons.mpr ⟨lw_p35, List.forall_mem_cons.mpr ⟨lw_p36, List.forall_mem_cons.mpr ⟨lw_p37, fun _ h => absurd h List.not_mem_nil⟩⟩⟩⟩⟩⟩
def lw_privs : List (MethodName × Nat) := lw_privs_1 ++ (lw_privs_2 ++ (lw_privs_3))
def lw_tbl : List Cond := k2_sels lw_privs ++ tables_1
theorem lw_privs_ok : ∀ q ∈ lw_privs, lw_okq q := by
  show ∀ q ∈ lw_privs_1 ++ (lw_privs_2 ++ (lw_privs_3)), lw_okq q
  exact List.forall_mem_append.mpr ⟨lw_r1, List.forall_mem_append.mpr ⟨lw_r2, lw_r3⟩⟩
def RX0 : String := "ShutterTown$Acts"
def TX0 : u_T := fun k => match k with
  | 0 => ("ShutterTown$Acts", "rows", "[I", true)
  | _ => ("ShutterTown$Acts", "size", "I", false)
def tyX0 : Nat → FieldType := fun k => match k with
  | 0 => .array .int
  | _ => .int
theorem nmX0 : ∀ a, a < 2 → ∀ b, b < 2 → a ≠ b → (TX0 a).2.1 ≠ (TX0 b).2.1 := by decide +kernel
theorem tyX0_ok : ∀ k, k < 2 → parseFieldDescriptor (TX0 k).2.2.1 = some (tyX0 k) := by decide +kernel
abbrev cX0_init : ByteArray := prog_2_method_1_code
def yX0_init : MethodName := ⟨RX0, "<init>", "()V"⟩
abbrev cX0_size : ByteArray := prog_2_method_2_code
def yX0_size : MethodName := ⟨RX0, "size", "()I"⟩
abbrev cX0_clear : ByteArray := prog_2_method_3_code
def yX0_clear : MethodName := ⟨RX0, "clear", "()V"⟩
abbrev cX0_remember : ByteArray := prog_2_method_4_code
def yX0_remember : MethodName := ⟨RX0, "remember", "(LShutterTown$Shutters;)V"⟩
abbrev cX0_giveBack : ByteArray := prog_2_method_5_code
def yX0_giveBack : MethodName := ⟨RX0, "giveBack", "(LShutterTown$Shutters;)V"⟩
abbrev cX0_forgetFirst : ByteArray := prog_2_method_6_code
def yX0_forgetFirst : MethodName := ⟨RX0, "forgetFirst", "()V"⟩
def RX1 : String := "ShutterTown$Followed"
def TX1 : u_T := fun k => match k with
  | 0 => ("ShutterTown$Followed", "wordsLeft", "[I", true)
  | _ => ("ShutterTown$Followed", "size", "I", false)
def tyX1 : Nat → FieldType := fun k => match k with
  | 0 => .array .int
  | _ => .int
theorem nmX1 : ∀ a, a < 2 → ∀ b, b < 2 → a ≠ b → (TX1 a).2.1 ≠ (TX1 b).2.1 := by decide +kernel
theorem tyX1_ok : ∀ k, k < 2 → parseFieldDescriptor (TX1 k).2.2.1 = some (tyX1 k) := by decide +kernel
abbrev cX1_init : ByteArray := prog_3_method_1_code
def yX1_init : MethodName := ⟨RX1, "<init>", "()V"⟩
abbrev cX1_size : ByteArray := prog_3_method_2_code
def yX1_size : MethodName := ⟨RX1, "size", "()I"⟩
abbrev cX1_clear : ByteArray := prog_3_method_3_code
def yX1_clear : MethodName := ⟨RX1, "clear", "()V"⟩
abbrev cX1_add : ByteArray := prog_3_method_4_code
def yX1_add : MethodName := ⟨RX1, "add", "(IIZ)Z"⟩
abbrev cX1_codesLeft : ByteArray := prog_3_method_5_code
def yX1_codesLeft : MethodName := ⟨RX1, "codesLeft", "()I"⟩
abbrev cX1_firstCode : ByteArray := prog_3_method_6_code
def yX1_firstCode : MethodName := ⟨RX1, "firstCode", "()I"⟩
abbrev cX1_bestState : ByteArray := prog_3_method_7_code
def yX1_bestState : MethodName := ⟨RX1, "bestState", "()I"⟩
def RX2 : String := "ShutterTown$Houses"
def TX2 : u_T := fun k => match k with
  | 0 => ("ShutterTown$Houses", "words", "[I", true)
  | 1 => ("ShutterTown$Houses", "places", "[I", true)
  | 2 => ("ShutterTown$Houses", "sides", "[I", true)
  | 3 => ("ShutterTown$Houses", "floors", "[I", true)
  | 4 => ("ShutterTown$Houses", "kinds", "[I", true)
  | 5 => ("ShutterTown$Houses", "seen", "[I", true)
  | 6 => ("ShutterTown$Houses", "sight", "I", false)
  | _ => ("ShutterTown$Houses", "count", "I", false)
def tyX2 : Nat → FieldType := fun k => match k with
  | 0 => .array .int
  | 1 => .array .int
  | 2 => .array .int
  | 3 => .array .int
  | 4 => .array .int
  | 5 => .array .int
  | 6 => .int
  | _ => .int
theorem nmX2 : ∀ a, a < 8 → ∀ b, b < 8 → a ≠ b → (TX2 a).2.1 ≠ (TX2 b).2.1 := by decide +kernel
theorem tyX2_ok : ∀ k, k < 8 → parseFieldDescriptor (TX2 k).2.2.1 = some (tyX2 k) := by decide +kernel
abbrev cX2_init : ByteArray := prog_4_method_1_code
def yX2_init : MethodName := ⟨RX2, "<init>", "()V"⟩
abbrev cX2_build : ByteArray := prog_4_method_2_code
def yX2_build : MethodName := ⟨RX2, "build", "(LShutterTown$Letters;)V"⟩
abbrev cX2_has : ByteArray := prog_4_method_3_code
def yX2_has : MethodName := ⟨RX2, "has", "(I)Z"⟩
abbrev cX2_windows : ByteArray := prog_4_method_4_code
def yX2_windows : MethodName := ⟨RX2, "windows", "()I"⟩
abbrev cX2_sets : ByteArray := prog_4_method_5_code
def yX2_sets : MethodName := ⟨RX2, "sets", "()I"⟩
abbrev cX2_sight : ByteArray := prog_4_method_6_code
def yX2_sight : MethodName := ⟨RX2, "sight", "()I"⟩
abbrev cX2_place : ByteArray := prog_4_method_7_code
def yX2_place : MethodName := ⟨RX2, "place", "(I)I"⟩
abbrev cX2_side : ByteArray := prog_4_method_8_code
def yX2_side : MethodName := ⟨RX2, "side", "(I)I"⟩
abbrev cX2_floor : ByteArray := prog_4_method_9_code
def yX2_floor : MethodName := ⟨RX2, "floor", "(I)I"⟩
abbrev cX2_kind : ByteArray := prog_4_method_10_code
def yX2_kind : MethodName := ⟨RX2, "kind", "(I)I"⟩
abbrev cX2_sees : ByteArray := prog_4_method_11_code
def yX2_sees : MethodName := ⟨RX2, "sees", "(I)I"⟩
abbrev cX2_areFacing : ByteArray := prog_4_method_12_code
def yX2_areFacing : MethodName := ⟨RX2, "areFacing", "(II)Z"⟩
abbrev cX2_ofKind : ByteArray := prog_4_method_13_code
def yX2_ofKind : MethodName := ⟨RX2, "ofKind", "(I)I"⟩
abbrev cX2_wordOf : ByteArray := prog_4_method_14_code
def yX2_wordOf : MethodName := ⟨RX2, "wordOf", "(I)I"⟩
abbrev cX2_leastStateFor : ByteArray := prog_4_method_15_code
def yX2_leastStateFor : MethodName := ⟨RX2, "leastStateFor", "(I)I"⟩
abbrev cX2_wordsAsFigures : ByteArray := prog_4_method_16_code
def yX2_wordsAsFigures : MethodName := ⟨RX2, "wordsAsFigures", "()I"⟩
abbrev cX2_reachedBy : ByteArray := prog_4_method_17_code
def yX2_reachedBy : MethodName := ⟨RX2, "reachedBy", "(I)I"⟩
abbrev cX2_isBestAgainst : ByteArray := prog_4_method_18_code
def yX2_isBestAgainst : MethodName := ⟨RX2, "isBestAgainst", "(II)Z"⟩
abbrev cX2_gain : ByteArray := prog_4_method_19_code
def yX2_gain : MethodName := ⟨RX2, "gain", "(II)I"⟩
abbrev cX2_facing : ByteArray := prog_4_method_20_code
def yX2_facing : MethodName := ⟨RX2, "facing", "(I)I"⟩
def RX3 : String := "ShutterTown$Letters"
def TX3 : u_T := fun k => match k with
  | 0 => ("ShutterTown$Letters", "row", "[I", true)
  | _ => ("ShutterTown$Letters", "length", "I", false)
def tyX3 : Nat → FieldType := fun k => match k with
  | 0 => .array .int
  | _ => .int
theorem nmX3 : ∀ a, a < 2 → ∀ b, b < 2 → a ≠ b → (TX3 a).2.1 ≠ (TX3 b).2.1 := by decide +kernel
theorem tyX3_ok : ∀ k, k < 2 → parseFieldDescriptor (TX3 k).2.2.1 = some (tyX3 k) := by decide +kernel
abbrev cX3_init : ByteArray := prog_5_method_1_code
def yX3_init : MethodName := ⟨RX3, "<init>", "()V"⟩
abbrev cX3_size : ByteArray := prog_5_method_2_code
def yX3_size : MethodName := ⟨RX3, "size", "()I"⟩
abbrev cX3_add : ByteArray := prog_5_method_3_code
def yX3_add : MethodName := ⟨RX3, "add", "(I)Z"⟩
abbrev cX3_clear : ByteArray := prog_5_method_4_code
def yX3_clear : MethodName := ⟨RX3, "clear", "()V"⟩
abbrev cX3_firstFault : ByteArray := prog_5_method_5_code
def yX3_firstFault : MethodName := ⟨RX3, "firstFault", "()I"⟩
abbrev cX3_figure : ByteArray := prog_5_method_6_code
def yX3_figure : MethodName := ⟨RX3, "figure", "(I)I"⟩
abbrev cX3_isLetter : ByteArray := prog_5_method_7_code
def yX3_isLetter : MethodName := ⟨RX3, "isLetter", "(IC)Z"⟩
abbrev cX3_isFigure : ByteArray := prog_5_method_8_code
def yX3_isFigure : MethodName := ⟨RX3, "isFigure", "(III)Z"⟩
abbrev cX3_fitsHead : ByteArray := prog_5_method_9_code
def yX3_fitsHead : MethodName := ⟨RX3, "fitsHead", "(I)Z"⟩
abbrev cX3_fitsWindow : ByteArray := prog_5_method_10_code
def yX3_fitsWindow : MethodName := ⟨RX3, "fitsWindow", "(I)Z"⟩
abbrev cX3_isTaken : ByteArray := prog_5_method_11_code
def yX3_isTaken : MethodName := ⟨RX3, "isTaken", "(II)Z"⟩
def RX4 : String := "ShutterTown$Shutters"
def TX4 : u_T := fun k => match k with
  | 0 => ("ShutterTown$Shutters", "houses", "LShutterTown$Houses;", true)
  | 1 => ("ShutterTown$Shutters", "states", "[I", true)
  | 2 => ("ShutterTown$Shutters", "dues", "[I", true)
  | _ => ("ShutterTown$Shutters", "hour", "I", false)
def tyX4 : Nat → FieldType := fun k => match k with
  | 0 => .object "ShutterTown$Houses"
  | 1 => .array .int
  | 2 => .array .int
  | _ => .int
theorem nmX4 : ∀ a, a < 4 → ∀ b, b < 4 → a ≠ b → (TX4 a).2.1 ≠ (TX4 b).2.1 := by decide +kernel
theorem tyX4_ok : ∀ k, k < 4 → parseFieldDescriptor (TX4 k).2.2.1 = some (tyX4 k) := by decide +kernel
abbrev cX4_init : ByteArray := prog_6_method_1_code
def yX4_init : MethodName := ⟨RX4, "<init>", "(LShutterTown$Houses;)V"⟩
abbrev cX4_begin : ByteArray := prog_6_method_2_code
def yX4_begin : MethodName := ⟨RX4, "begin", "(LShutterTown$Letters;)V"⟩
abbrev cX4_state : ByteArray := prog_6_method_3_code
def yX4_state : MethodName := ⟨RX4, "state", "(I)I"⟩
abbrev cX4_word : ByteArray := prog_6_method_4_code
def yX4_word : MethodName := ⟨RX4, "word", "(I)I"⟩
abbrev cX4_due : ByteArray := prog_6_method_5_code
def yX4_due : MethodName := ⟨RX4, "due", "(I)I"⟩
abbrev cX4_theHour : ByteArray := prog_6_method_6_code
def yX4_theHour : MethodName := ⟨RX4, "theHour", "()I"⟩
abbrev cX4_dueCount : ByteArray := prog_6_method_7_code
def yX4_dueCount : MethodName := ⟨RX4, "dueCount", "()I"⟩
abbrev cX4_canShift : ByteArray := prog_6_method_8_code
def yX4_canShift : MethodName := ⟨RX4, "canShift", "(II)Z"⟩
abbrev cX4_shift : ByteArray := prog_6_method_9_code
def yX4_shift : MethodName := ⟨RX4, "shift", "(II)V"⟩
abbrev cX4_blow : ByteArray := prog_6_method_10_code
def yX4_blow : MethodName := ⟨RX4, "blow", "()I"⟩
abbrev cX4_takeUp : ByteArray := prog_6_method_11_code
def yX4_takeUp : MethodName := ⟨RX4, "takeUp", "(II)V"⟩
abbrev cX4_strike : ByteArray := prog_6_method_12_code
def yX4_strike : MethodName := ⟨RX4, "strike", "()I"⟩
abbrev cX4_pairsAlike : ByteArray := prog_6_method_13_code
def yX4_pairsAlike : MethodName := ⟨RX4, "pairsAlike", "()I"⟩
abbrev cX4_isRead : ByteArray := prog_6_method_14_code
def yX4_isRead : MethodName := ⟨RX4, "isRead", "(III)Z"⟩
abbrev cX4_copy : ByteArray := prog_6_method_15_code
def yX4_copy : MethodName := ⟨RX4, "copy", "(LShutterTown$Shutters;)V"⟩
abbrev cX4_store : ByteArray := prog_6_method_16_code
def yX4_store : MethodName := ⟨RX4, "store", "([II)V"⟩
abbrev cX4_restore : ByteArray := prog_6_method_17_code
def yX4_restore : MethodName := ⟨RX4, "restore", "([II)V"⟩
def RX5 : String := "ShutterTown$Slots"
def TX5 : u_T := fun k => match k with
  | 0 => ("ShutterTown$Slots", "rows", "[I", true)
  | _ => ("ShutterTown$Slots", "kept", "I", false)
def tyX5 : Nat → FieldType := fun k => match k with
  | 0 => .array .int
  | _ => .int
theorem nmX5 : ∀ a, a < 2 → ∀ b, b < 2 → a ≠ b → (TX5 a).2.1 ≠ (TX5 b).2.1 := by decide +kernel
theorem tyX5_ok : ∀ k, k < 2 → parseFieldDescriptor (TX5 k).2.2.1 = some (tyX5 k) := by decide +kernel
abbrev cX5_init : ByteArray := prog_7_method_1_code
def yX5_init : MethodName := ⟨RX5, "<init>", "()V"⟩
abbrev cX5_has : ByteArray := prog_7_method_2_code
def yX5_has : MethodName := ⟨RX5, "has", "(I)Z"⟩
abbrev cX5_isKept : ByteArray := prog_7_method_3_code
def yX5_isKept : MethodName := ⟨RX5, "isKept", "(I)Z"⟩
abbrev cX5_clear : ByteArray := prog_7_method_4_code
def yX5_clear : MethodName := ⟨RX5, "clear", "()V"⟩
abbrev cX5_put : ByteArray := prog_7_method_5_code
def yX5_put : MethodName := ⟨RX5, "put", "(ILShutterTown$Shutters;)V"⟩
abbrev cX5_giveBack : ByteArray := prog_7_method_6_code
def yX5_giveBack : MethodName := ⟨RX5, "giveBack", "(ILShutterTown$Shutters;)V"⟩
def RX6 : String := "ShutterTown$Ways"
def TX6 : u_T := fun k => match k with
  | 0 => ("ShutterTown$Ways", "houses", "LShutterTown$Houses;", true)
  | _ => ("ShutterTown$Ways", "ranks", "[J", true)
def tyX6 : Nat → FieldType := fun k => match k with
  | 0 => .object "ShutterTown$Houses"
  | _ => .array .long
theorem nmX6 : ∀ a, a < 2 → ∀ b, b < 2 → a ≠ b → (TX6 a).2.1 ≠ (TX6 b).2.1 := by decide +kernel
theorem tyX6_ok : ∀ k, k < 2 → parseFieldDescriptor (TX6 k).2.2.1 = some (tyX6 k) := by decide +kernel
abbrev cX6_init : ByteArray := prog_8_method_1_code
def yX6_init : MethodName := ⟨RX6, "<init>", "(LShutterTown$Houses;)V"⟩
abbrev cX6_measure : ByteArray := prog_8_method_2_code
def yX6_measure : MethodName := ⟨RX6, "measure", "(II)V"⟩
abbrev cX6_comesTo : ByteArray := prog_8_method_3_code
def yX6_comesTo : MethodName := ⟨RX6, "comesTo", "(I)Z"⟩
abbrev cX6_hoursTo : ByteArray := prog_8_method_4_code
def yX6_hoursTo : MethodName := ⟨RX6, "hoursTo", "(I)I"⟩
abbrev cX6_wayTo : ByteArray := prog_8_method_5_code
def yX6_wayTo : MethodName := ⟨RX6, "wayTo", "(I)I"⟩
abbrev cX6_hoursBetween : ByteArray := prog_8_method_6_code
def yX6_hoursBetween : MethodName := ⟨RX6, "hoursBetween", "(II[I)V"⟩
abbrev cX6_hoursAt : ByteArray := prog_8_method_7_code
def yX6_hoursAt : MethodName := ⟨RX6, "hoursAt", "(I)I"⟩
abbrev cX6_goOn : ByteArray := prog_8_method_8_code
def yX6_goOn : MethodName := ⟨RX6, "goOn", "(II)V"⟩
def RX7 : String := "ShutterTown"
def TX7 : u_T := fun k => match k with
  | 0 => ("ShutterTown", "text", "LShutterTown$Letters;", true)
  | 1 => ("ShutterTown", "houses", "LShutterTown$Houses;", true)
  | 2 => ("ShutterTown", "now", "LShutterTown$Shutters;", true)
  | 3 => ("ShutterTown", "tried", "LShutterTown$Shutters;", true)
  | 4 => ("ShutterTown", "acts", "LShutterTown$Acts;", true)
  | 5 => ("ShutterTown", "slots", "LShutterTown$Slots;", true)
  | 6 => ("ShutterTown", "ways", "LShutterTown$Ways;", true)
  | 7 => ("ShutterTown", "followed", "LShutterTown$Followed;", true)
  | 8 => ("ShutterTown", "hoursThere", "[I", true)
  | 9 => ("ShutterTown", "hoursBack", "[I", true)
  | _ => ("ShutterTown", "theSeed", "J", false)
def tyX7 : Nat → FieldType := fun k => match k with
  | 0 => .object "ShutterTown$Letters"
  | 1 => .object "ShutterTown$Houses"
  | 2 => .object "ShutterTown$Shutters"
  | 3 => .object "ShutterTown$Shutters"
  | 4 => .object "ShutterTown$Acts"
  | 5 => .object "ShutterTown$Slots"
  | 6 => .object "ShutterTown$Ways"
  | 7 => .object "ShutterTown$Followed"
  | 8 => .array .int
  | 9 => .array .int
  | _ => .long
theorem nmX7 : ∀ a, a < 11 → ∀ b, b < 11 → a ≠ b → (TX7 a).2.1 ≠ (TX7 b).2.1 := by decide +kernel
theorem tyX7_ok : ∀ k, k < 11 → parseFieldDescriptor (TX7 k).2.2.1 = some (tyX7 k) := by decide +kernel
abbrev cX7_init : ByteArray := prog_1_method_1_code
def yX7_init : MethodName := ⟨RX7, "<init>", "()V"⟩
abbrev cX7_write : ByteArray := prog_1_method_2_code
def yX7_write : MethodName := ⟨RX7, "write", "(I)I"⟩
abbrev cX7_wipe : ByteArray := prog_1_method_3_code
def yX7_wipe : MethodName := ⟨RX7, "wipe", "()I"⟩
abbrev cX7_fault : ByteArray := prog_1_method_4_code
def yX7_fault : MethodName := ⟨RX7, "fault", "()I"⟩
abbrev cX7_town : ByteArray := prog_1_method_5_code
def yX7_town : MethodName := ⟨RX7, "town", "()I"⟩
abbrev cX7_window : ByteArray := prog_1_method_6_code
def yX7_window : MethodName := ⟨RX7, "window", "(II)I"⟩
abbrev cX7_move : ByteArray := prog_1_method_7_code
def yX7_move : MethodName := ⟨RX7, "move", "(II)I"⟩
abbrev cX7_wind : ByteArray := prog_1_method_8_code
def yX7_wind : MethodName := ⟨RX7, "wind", "()I"⟩
abbrev cX7_pass : ByteArray := prog_1_method_9_code
def yX7_pass : MethodName := ⟨RX7, "pass", "(II)I"⟩
abbrev cX7_hour : ByteArray := prog_1_method_10_code
def yX7_hour : MethodName := ⟨RX7, "hour", "()I"⟩
abbrev cX7_undo : ByteArray := prog_1_method_11_code
def yX7_undo : MethodName := ⟨RX7, "undo", "()I"⟩
abbrev cX7_soonest : ByteArray := prog_1_method_12_code
def yX7_soonest : MethodName := ⟨RX7, "soonest", "(IIZ)I"⟩
abbrev cX7_knows : ByteArray := prog_1_method_13_code
def yX7_knows : MethodName := ⟨RX7, "knows", "(II)I"⟩
abbrev cX7_toTell : ByteArray := prog_1_method_14_code
def yX7_toTell : MethodName := ⟨RX7, "toTell", "(I)I"⟩
abbrev cX7_cut : ByteArray := prog_1_method_15_code
def yX7_cut : MethodName := ⟨RX7, "cut", "(II)I"⟩
abbrev cX7_judge : ByteArray := prog_1_method_16_code
def yX7_judge : MethodName := ⟨RX7, "judge", "(IJ)I"⟩
abbrev cX7_follow : ByteArray := prog_1_method_17_code
def yX7_follow : MethodName := ⟨RX7, "follow", "(IIZ)I"⟩
abbrev cX7_unfollow : ByteArray := prog_1_method_18_code
def yX7_unfollow : MethodName := ⟨RX7, "unfollow", "()I"⟩
abbrev cX7_codes : ByteArray := prog_1_method_19_code
def yX7_codes : MethodName := ⟨RX7, "codes", "(Z)I"⟩
abbrev cX7_look : ByteArray := prog_1_method_20_code
def yX7_look : MethodName := ⟨RX7, "look", "()I"⟩
abbrev cX7_will : ByteArray := prog_1_method_21_code
def yX7_will : MethodName := ⟨RX7, "will", "(III)I"⟩
abbrev cX7_cross : ByteArray := prog_1_method_22_code
def yX7_cross : MethodName := ⟨RX7, "cross", "(II)I"⟩
abbrev cX7_rests : ByteArray := prog_1_method_23_code
def yX7_rests : MethodName := ⟨RX7, "rests", "(I)I"⟩
abbrev cX7_slams : ByteArray := prog_1_method_24_code
def yX7_slams : MethodName := ⟨RX7, "slams", "(IIIZ)I"⟩
abbrev cX7_seed : ByteArray := prog_1_method_25_code
def yX7_seed : MethodName := ⟨RX7, "seed", "(J)J"⟩
abbrev cX7_afternoons : ByteArray := prog_1_method_26_code
def yX7_afternoons : MethodName := ⟨RX7, "afternoons", "(I)I"⟩
abbrev cX7_keep : ByteArray := prog_1_method_27_code
def yX7_keep : MethodName := ⟨RX7, "keep", "(I)I"⟩
abbrev cX7_again : ByteArray := prog_1_method_28_code
def yX7_again : MethodName := ⟨RX7, "again", "(I)I"⟩
abbrev cX7_count : ByteArray := prog_1_method_29_code
def yX7_count : MethodName := ⟨RX7, "count", "(I)I"⟩
abbrev cX7_isState : ByteArray := prog_1_method_30_code
def yX7_isState : MethodName := ⟨RX7, "isState", "(I)Z"⟩
abbrev cX7_isWord : ByteArray := prog_1_method_31_code
def yX7_isWord : MethodName := ⟨RX7, "isWord", "(I)Z"⟩
abbrev cX7_isFewer : ByteArray := prog_1_method_32_code
def yX7_isFewer : MethodName := ⟨RX7, "isFewer", "(II)Z"⟩
abbrev cX7_refusalOfTwo : ByteArray := prog_1_method_33_code
def yX7_refusalOfTwo : MethodName := ⟨RX7, "refusalOfTwo", "(II)I"⟩
abbrev cX7_happens : ByteArray := prog_1_method_34_code
def yX7_happens : MethodName := ⟨RX7, "happens", "(II)Z"⟩
abbrev cX7_weightOf : ByteArray := prog_1_method_35_code
def yX7_weightOf : MethodName := ⟨RX7, "weightOf", "(III)I"⟩
abbrev cX7_commonDivisor : ByteArray := prog_1_method_36_code
def yX7_commonDivisor : MethodName := ⟨RX7, "commonDivisor", "(II)I"⟩
def RX8 : String := "ShutterTownModel"
def TX8 : u_T := fun k => match k with
  | 0 => ("ShutterTownModel", "windows", "I", false)
  | 1 => ("ShutterTownModel", "sight", "I", false)
  | 2 => ("ShutterTownModel", "code", "[I", true)
  | 3 => ("ShutterTownModel", "place", "[I", true)
  | 4 => ("ShutterTownModel", "side", "[I", true)
  | 5 => ("ShutterTownModel", "floor", "[I", true)
  | 6 => ("ShutterTownModel", "kind", "[I", true)
  | 7 => ("ShutterTownModel", "now", "[I", true)
  | 8 => ("ShutterTownModel", "readCode", "[I", true)
  | 9 => ("ShutterTownModel", "readOf", "[I", true)
  | 10 => ("ShutterTownModel", "readSight", "I", false)
  | 11 => ("ShutterTownModel", "readMany", "I", false)
  | 12 => ("ShutterTownModel", "readTaken", "I", false)
  | 13 => ("ShutterTownModel", "text", "[I", true)
  | 14 => ("ShutterTownModel", "length", "I", false)
  | 15 => ("ShutterTownModel", "at", "I", false)
  | 16 => ("ShutterTownModel", "faultAt", "I", false)
  | 17 => ("ShutterTownModel", "acts", "I", false)
  | 18 => ("ShutterTownModel", "next", "I", false)
  | 19 => ("ShutterTownModel", "row", "[I", true)
  | 20 => ("ShutterTownModel", "bestHours", "I", false)
  | 21 => ("ShutterTownModel", "bestWay", "I", false)
  | 22 => ("ShutterTownModel", "bestMany", "I", false)
  | 23 => ("ShutterTownModel", "followed", "I", false)
  | 24 => ("ShutterTownModel", "behind", "[I", true)
  | 25 => ("ShutterTownModel", "said", "[I", true)
  | 26 => ("ShutterTownModel", "isSure", "[Z", true)
  | 27 => ("ShutterTownModel", "saysAt", "[I", true)
  | 28 => ("ShutterTownModel", "seed", "J", false)
  | 29 => ("ShutterTownModel", "isKept", "[Z", true)
  | _ => ("ShutterTownModel", "kept", "[I", true)
def tyX8 : Nat → FieldType := fun k => match k with
  | 0 => .int
  | 1 => .int
  | 2 => .array .int
  | 3 => .array .int
  | 4 => .array .int
  | 5 => .array .int
  | 6 => .array .int
  | 7 => .array .int
  | 8 => .array .int
  | 9 => .array .int
  | 10 => .int
  | 11 => .int
  | 12 => .int
  | 13 => .array .int
  | 14 => .int
  | 15 => .int
  | 16 => .int
  | 17 => .int
  | 18 => .int
  | 19 => .array .int
  | 20 => .int
  | 21 => .int
  | 22 => .int
  | 23 => .int
  | 24 => .array .int
  | 25 => .array .int
  | 26 => .array .boolean
  | 27 => .array .int
  | 28 => .long
  | 29 => .array .boolean
  | _ => .array .int
theorem nmX8 : ∀ a, a < 31 → ∀ b, b < 31 → a ≠ b → (TX8 a).2.1 ≠ (TX8 b).2.1 := by decide +kernel
theorem tyX8_ok : ∀ k, k < 31 → parseFieldDescriptor (TX8 k).2.2.1 = some (tyX8 k) := by decide +kernel
abbrev cX8_init : ByteArray := prog_10_method_1_code
def yX8_init : MethodName := ⟨RX8, "<init>", "()V"⟩
abbrev cX8_in : ByteArray := prog_10_method_3_code
def yX8_in : MethodName := ⟨RX8, "in", "(JJJ)Z"⟩
abbrev cX8_has : ByteArray := prog_10_method_4_code
def yX8_has : MethodName := ⟨RX8, "has", "(II)Z"⟩
abbrev cX8_ones : ByteArray := prog_10_method_5_code
def yX8_ones : MethodName := ⟨RX8, "ones", "(I)I"⟩
abbrev cX8_write : ByteArray := prog_10_method_6_code
def yX8_write : MethodName := ⟨RX8, "write", "(I)I"⟩
abbrev cX8_wipe : ByteArray := prog_10_method_7_code
def yX8_wipe : MethodName := ⟨RX8, "wipe", "()I"⟩
abbrev cX8_figure : ByteArray := prog_10_method_8_code
def yX8_figure : MethodName := ⟨RX8, "figure", "(II)I"⟩
abbrev cX8_figureOf : ByteArray := prog_10_method_9_code
def yX8_figureOf : MethodName := ⟨RX8, "figureOf", "(I)I"⟩
abbrev cX8_readText : ByteArray := prog_10_method_10_code
def yX8_readText : MethodName := ⟨RX8, "readText", "()I"⟩
abbrev cX8_placesLeft : ByteArray := prog_10_method_11_code
def yX8_placesLeft : MethodName := ⟨RX8, "placesLeft", "()I"⟩
abbrev cX8_readWindow : ByteArray := prog_10_method_12_code
def yX8_readWindow : MethodName := ⟨RX8, "readWindow", "()V"⟩
abbrev cX8_fault : ByteArray := prog_10_method_13_code
def yX8_fault : MethodName := ⟨RX8, "fault", "()I"⟩
abbrev cX8_town : ByteArray := prog_10_method_14_code
def yX8_town : MethodName := ⟨RX8, "town", "()I"⟩
abbrev cX8_isWindow : ByteArray := prog_10_method_15_code
def yX8_isWindow : MethodName := ⟨RX8, "isWindow", "(I)Z"⟩
abbrev cX8_sees : ByteArray := prog_10_method_16_code
def yX8_sees : MethodName := ⟨RX8, "sees", "(II)Z"⟩
abbrev cX8_seen : ByteArray := prog_10_method_17_code
def yX8_seen : MethodName := ⟨RX8, "seen", "(I)I"⟩
abbrev cX8_wordOf : ByteArray := prog_10_method_18_code
def yX8_wordOf : MethodName := ⟨RX8, "wordOf", "(II)I"⟩
abbrev cX8_leastState : ByteArray := prog_10_method_19_code
def yX8_leastState : MethodName := ⟨RX8, "leastState", "(I)I"⟩
abbrev cX8_alike : ByteArray := prog_10_method_20_code
def yX8_alike : MethodName := ⟨RX8, "alike", "(I)I"⟩
abbrev cX8_window : ByteArray := prog_10_method_21_code
def yX8_window : MethodName := ⟨RX8, "window", "(II)I"⟩
abbrev cX8_keepAct : ByteArray := prog_10_method_22_code
def yX8_keepAct : MethodName := ⟨RX8, "keepAct", "()V"⟩
abbrev cX8_move : ByteArray := prog_10_method_23_code
def yX8_move : MethodName := ⟨RX8, "move", "(II)I"⟩
abbrev cX8_windOn : ByteArray := prog_10_method_24_code
def yX8_windOn : MethodName := ⟨RX8, "windOn", "(I)I"⟩
abbrev cX8_wind : ByteArray := prog_10_method_25_code
def yX8_wind : MethodName := ⟨RX8, "wind", "()I"⟩
abbrev cX8_pass : ByteArray := prog_10_method_26_code
def yX8_pass : MethodName := ⟨RX8, "pass", "(II)I"⟩
abbrev cX8_hourOn : ByteArray := prog_10_method_27_code
def yX8_hourOn : MethodName := ⟨RX8, "hourOn", "(I)I"⟩
abbrev cX8_hour : ByteArray := prog_10_method_28_code
def yX8_hour : MethodName := ⟨RX8, "hour", "()I"⟩
abbrev cX8_undo : ByteArray := prog_10_method_29_code
def yX8_undo : MethodName := ⟨RX8, "undo", "()I"⟩
abbrev cX8_sixes : ByteArray := prog_10_method_30_code
def yX8_sixes : MethodName := ⟨RX8, "sixes", "(I)I"⟩
abbrev cX8_between : ByteArray := prog_10_method_31_code
def yX8_between : MethodName := ⟨RX8, "between", "(III)I"⟩
abbrev cX8_hoursBy : ByteArray := prog_10_method_32_code
def yX8_hoursBy : MethodName := ⟨RX8, "hoursBy", "(IIIII)I"⟩
abbrev cX8_layWays : ByteArray := prog_10_method_33_code
def yX8_layWays : MethodName := ⟨RX8, "layWays", "(III)V"⟩
abbrev cX8_soonest : ByteArray := prog_10_method_34_code
def yX8_soonest : MethodName := ⟨RX8, "soonest", "(IIZ)I"⟩
abbrev cX8_knows : ByteArray := prog_10_method_35_code
def yX8_knows : MethodName := ⟨RX8, "knows", "(II)I"⟩
abbrev cX8_isTold : ByteArray := prog_10_method_36_code
def yX8_isTold : MethodName := ⟨RX8, "isTold", "(II)Z"⟩
abbrev cX8_toTell : ByteArray := prog_10_method_37_code
def yX8_toTell : MethodName := ⟨RX8, "toTell", "(I)I"⟩
abbrev cX8_cut : ByteArray := prog_10_method_38_code
def yX8_cut : MethodName := ⟨RX8, "cut", "(II)I"⟩
abbrev cX8_tenTo : ByteArray := prog_10_method_39_code
def yX8_tenTo : MethodName := ⟨RX8, "tenTo", "(I)J"⟩
abbrev cX8_layTrial : ByteArray := prog_10_method_40_code
def yX8_layTrial : MethodName := ⟨RX8, "layTrial", "()V"⟩
abbrev cX8_tryMove : ByteArray := prog_10_method_41_code
def yX8_tryMove : MethodName := ⟨RX8, "tryMove", "(II)Z"⟩
abbrev cX8_judge : ByteArray := prog_10_method_42_code
def yX8_judge : MethodName := ⟨RX8, "judge", "(IJ)I"⟩
abbrev cX8_follow : ByteArray := prog_10_method_43_code
def yX8_follow : MethodName := ⟨RX8, "follow", "(IIZ)I"⟩
abbrev cX8_unfollow : ByteArray := prog_10_method_44_code
def yX8_unfollow : MethodName := ⟨RX8, "unfollow", "()I"⟩
abbrev cX8_wordBy : ByteArray := prog_10_method_45_code
def yX8_wordBy : MethodName := ⟨RX8, "wordBy", "(II)I"⟩
abbrev cX8_isCode : ByteArray := prog_10_method_46_code
def yX8_isCode : MethodName := ⟨RX8, "isCode", "(I)Z"⟩
abbrev cX8_codes : ByteArray := prog_10_method_47_code
def yX8_codes : MethodName := ⟨RX8, "codes", "(Z)I"⟩
abbrev cX8_greatestPart : ByteArray := prog_10_method_48_code
def yX8_greatestPart : MethodName := ⟨RX8, "greatestPart", "(I)I"⟩
abbrev cX8_look : ByteArray := prog_10_method_49_code
def yX8_look : MethodName := ⟨RX8, "look", "()I"⟩
abbrev cX8_will : ByteArray := prog_10_method_50_code
def yX8_will : MethodName := ⟨RX8, "will", "(III)I"⟩
abbrev cX8_layHours : ByteArray := prog_10_method_51_code
def yX8_layHours : MethodName := ⟨RX8, "layHours", "(III)V"⟩
abbrev cX8_cross : ByteArray := prog_10_method_52_code
def yX8_cross : MethodName := ⟨RX8, "cross", "(II)I"⟩
abbrev cX8_lets : ByteArray := prog_10_method_53_code
def yX8_lets : MethodName := ⟨RX8, "lets", "(II)I"⟩
abbrev cX8_isRest : ByteArray := prog_10_method_54_code
def yX8_isRest : MethodName := ⟨RX8, "isRest", "(II)Z"⟩
abbrev cX8_rests : ByteArray := prog_10_method_55_code
def yX8_rests : MethodName := ⟨RX8, "rests", "(I)I"⟩
abbrev cX8_common : ByteArray := prog_10_method_56_code
def yX8_common : MethodName := ⟨RX8, "common", "(II)I"⟩
abbrev cX8_reads : ByteArray := prog_10_method_57_code
def yX8_reads : MethodName := ⟨RX8, "reads", "(III)Z"⟩
abbrev cX8_loose : ByteArray := prog_10_method_58_code
def yX8_loose : MethodName := ⟨RX8, "loose", "()I"⟩
abbrev cX8_slams : ByteArray := prog_10_method_59_code
def yX8_slams : MethodName := ⟨RX8, "slams", "(IIIZ)I"⟩
abbrev cX8_seed : ByteArray := prog_10_method_60_code
def yX8_seed : MethodName := ⟨RX8, "seed", "(J)J"⟩
abbrev cX8_afternoons : ByteArray := prog_10_method_61_code
def yX8_afternoons : MethodName := ⟨RX8, "afternoons", "(I)I"⟩
abbrev cX8_keep : ByteArray := prog_10_method_62_code
def yX8_keep : MethodName := ⟨RX8, "keep", "(I)I"⟩
abbrev cX8_again : ByteArray := prog_10_method_63_code
def yX8_again : MethodName := ⟨RX8, "again", "(I)I"⟩
abbrev cX8_count : ByteArray := prog_10_method_64_code
def yX8_count : MethodName := ⟨RX8, "count", "(I)I"⟩
def RJ6 : String := "java/lang/Integer"
abbrev cJ6_numberOfTrailingZeros_0f7a4 : ByteArray := prog_11_method_48_code
def yJ6_numberOfTrailingZeros_0f7a4 : MethodName := ⟨RJ6, "numberOfTrailingZeros", "(I)I"⟩
abbrev cJ6_bitCount_0f7a4 : ByteArray := prog_11_method_49_code
def yJ6_bitCount_0f7a4 : MethodName := ⟨RJ6, "bitCount", "(I)I"⟩
def RJ9 : String := "java/lang/Math"
abbrev cJ9_abs_0f7a4 : ByteArray := prog_12_method_59_code
def yJ9_abs_0f7a4 : MethodName := ⟨RJ9, "abs", "(I)I"⟩
abbrev cJ9_max_7cf53 : ByteArray := prog_12_method_65_code
def yJ9_max_7cf53 : MethodName := ⟨RJ9, "max", "(II)I"⟩
abbrev cJ9_min_7cf53 : ByteArray := prog_12_method_69_code
def yJ9_min_7cf53 : MethodName := ⟨RJ9, "min", "(II)I"⟩
abbrev cJ9_min_f86c9 : ByteArray := prog_12_method_70_code
def yJ9_min_f86c9 : MethodName := ⟨RJ9, "min", "(JJ)J"⟩
def RJ10 : String := "java/lang/System"
def RJ7 : String := "java/util/Arrays"
abbrev cJ7_fill_d0a16 : ByteArray := prog_14_method_101_code
def yJ7_fill_d0a16 : MethodName := ⟨RJ7, "fill", "([JJ)V"⟩
abbrev cJ7_fill_53178 : ByteArray := prog_14_method_103_code
def yJ7_fill_53178 : MethodName := ⟨RJ7, "fill", "([II)V"⟩
def RL : String := "ShutterTownLaw"
abbrev cL_law : ByteArray := code
def yL_law : MethodName := ⟨RL, "law", "([I)Z"⟩
abbrev vwCl : List vw_C := [(RX0, TX0, 2), (RX1, TX1, 2), (RX2, TX2, 8), (RX3, TX3, 2), (RX4, TX4, 4), (RX5, TX5, 2), (RX6, TX6, 2), (RX7, TX7, 11), (RX8, TX8, 31)]
end
section
/-! THE ABSTRACT STEP: a state of cells by number, locals, stack; a run of straight instructions as a function; its soundness over the machine -/
/-- a field: .inl 0 an int, .inl _ a long, .inr none null, .inr (some r) the cell r -/
abbrev am_Kd : Type := Nat ⊕ Option Nat
/-- a cell: .inl (t, n) an array of n (t: 0 int, 1 boolean, 2 long); .inr (ci, ks) an object -/
abbrev am_Sh : Type := (Nat × Nat) ⊕ (Nat × List am_Kd)
abbrev am_Y : Type := List am_Sh
abbrev am_G : Type := Nat → Nat → Int32
abbrev am_J : Type := Nat → Nat → Int64
abbrev am_AI : Type := Instr × Nat × Nat × Value
abbrev am_S : Type := List (Option Value) × List Value × am_G × am_J
/-- an index within -/
abbrev am_in (i : Int32) (n : Nat) : Prop := ¬ (i < 0 ∨ n ≤ i.toNatClampNeg)
def am_u (g : am_G) (i j : Nat) (v : Int32) : am_G := fun a => if a = i then upd (g i) j v else g a
def am_ul (w : am_J) (i j : Nat) (v : Int64) : am_J := fun a => if a = i then vp_updL (w i) j v else w a
def am_ad (base tt b i : Nat) : Nat := if i = 99 then tt else if i = 98 then b else base + i
def am_v (ad : Nat → Nat) (v : Value) : Value := match v with
  | .ref i => .ref (ad i)
  | v => v
def am_fv (g : am_G) (w : am_J) (i k : Nat) (d : am_Kd) : Value := match d with
  | .inl 0 => .int (g i k)
  | .inl _ => .long (w i k)
  | .inr none => .null
  | .inr (some r) => .ref r
def am_fs (ad : Nat → Nat) (g : am_G) (w : am_J) (i : Nat) (ks : List am_Kd) : List Value := ks.zipIdx.map (fun q => am_v ad (am_fv g w i q.2 q.1))
def am_e (c3 : ClassId × ClassId × ClassId) (ad : Nat → Nat) (g : am_G) (w : am_J) (i : Nat) (sh : am_Sh) : va_E := match sh with
  | .inl (0, n) => .inl (c3.1, n, .inl (g i))
  | .inl (1, n) => .inl (c3.2.1, n, .inl (g i))
  | .inl (_, n) => .inl (c3.2.2, n, .inr (.inl (w i)))
  | .inr (ci, ks) => .inr (ci, am_fs ad g w i ks)
def am_w (c3 : ClassId × ClassId × ClassId) (ad : Nat → Nat) (base : Nat) (y : am_Y) (g : am_G) (w : am_J) : va_W := y.zipIdx.map (fun q => (base + q.2, am_e c3 ad g w q.2 q.1))
def am_ty (c3 : ClassId × ClassId × ClassId) : List (ClassId × FieldType) := [(c3.1, .int), (c3.2.1, .boolean), (c3.2.2, .long)]
theorem am_w_at {c3 : ClassId × ClassId × ClassId} {ad : Nat → Nat} {base : Nat} {y : am_Y} {g : am_G} {w : am_J} {i : Nat} {sh : am_Sh} (h : y[i]? = some sh) : (am_w c3 ad base y g w)[i]? = some (base + i, am_e c3 ad g w i sh) := by
  simp [am_w, List.getElem?_map, List.getElem?_zipIdx, h]
theorem am_w_len {c3 : ClassId × ClassId × ClassId} {ad : Nat → Nat} {base : Nat} {y : am_Y} {g : am_G} {w : am_J} : (am_w c3 ad base y g w).length = y.length := by simp [am_w]
theorem am_w_inv {c3 : ClassId × ClassId × ClassId} {ad : Nat → Nat} {base : Nat} {y : am_Y} {g : am_G} {w : am_J} {i : Nat} {q : Nat × va_E} (h : (am_w c3 ad base y g w)[i]? = some q) : ∃ sh, y[i]? = some sh ∧ q = (base + i, am_e c3 ad g w i sh) := by
  simp only [am_w, List.getElem?_map, List.getElem?_zipIdx] at h
  cases hy : y[i]? with
  | none => rw [hy] at h; cases h
  | some sh =>
    rw [hy] at h
    refine ⟨sh, rfl, ?_⟩
    simpa using h.symm
theorem am_D {c3 : ClassId × ClassId × ClassId} {ad : Nat → Nat} {base : Nat} {y : am_Y} {g : am_G} {w : am_J} : va_D (fun q => base ≤ q) (am_w c3 ad base y g w) := by
  refine ⟨fun i j p q hp hq h => ?_, fun k q hq => ?_⟩
  · obtain ⟨_, -, rfl⟩ := am_w_inv hp
    obtain ⟨_, -, rfl⟩ := am_w_inv hq
    simp only at h
    omega
  · obtain ⟨_, -, rfl⟩ := am_w_inv hq
    show base ≤ base + k
    omega
theorem am_fs_at {ad : Nat → Nat} {g : am_G} {w : am_J} {i k : Nat} {ks : List am_Kd} {d : am_Kd} (h : ks[k]? = some d) : (am_fs ad g w i ks)[k]? = some (am_v ad (am_fv g w i k d)) := by
  simp [am_fs, List.getElem?_map, List.getElem?_zipIdx, h]
/-- one cell changed: the world of the new contents -/
theorem am_w_set {c3 : ClassId × ClassId × ClassId} {ad : Nat → Nat} {base : Nat} {y : am_Y} {g g' : am_G} {w w' : am_J} {i : Nat} {sh : am_Sh} {e : va_E} (h : y[i]? = some sh) (hg : ∀ a, a ≠ i → g' a = g a) (hw : ∀ a, a ≠ i → w' a = w a) (he : e = am_e c3 ad g' w' i sh) :
    (am_w c3 ad base y g w).set i (base + i, e) = am_w c3 ad base y g' w' := by
  subst he
  apply List.ext_getElem?
  intro k
  by_cases hk : k = i
  · subst hk
    have hl : k < (am_w c3 ad base y g w).length := by rw [am_w_len]; exact (List.getElem?_eq_some_iff.mp h).1
    rw [List.getElem?_set_self hl, am_w_at h]
  · rw [List.getElem?_set_ne (Ne.symm hk)]
    cases hy : y[k]? with
    | none =>
      have h1 : y.length ≤ k := by simpa using hy
      rw [List.getElem?_eq_none (by rw [am_w_len]; exact h1), List.getElem?_eq_none (by rw [am_w_len]; exact h1)]
    | some s2 =>
      rw [am_w_at hy, am_w_at hy]
      have e1 := hg k hk
      have e2 := hw k hk
      have : am_e c3 ad g w k s2 = am_e c3 ad g' w' k s2 := by
        cases s2 with
        | inl t =>
          obtain ⟨t, n⟩ := t
          match t with
          | 0 => simp [am_e, e1]
          | 1 => simp [am_e, e1]
          | (t + 2) => simp [am_e, e2]
        | inr o =>
          simp only [am_e, am_fs]
          congr 2
          apply List.map_congr_left
          intro q _
          obtain ⟨d, kk⟩ := q
          match d with
          | .inl 0 => simp [am_fv, e1]
          | .inl (z + 1) => simp [am_fv, e2]
          | .inr none => rfl
          | .inr (some r) => rfl
      rw [this]
theorem am_u_ne {g : am_G} {i j : Nat} {v : Int32} : ∀ a, a ≠ i → am_u g i j v a = g a := fun a h => by simp [am_u, h]
theorem am_ul_ne {w : am_J} {i j : Nat} {v : Int64} : ∀ a, a ≠ i → am_ul w i j v a = w a := fun a h => by simp [am_ul, h]
theorem am_u_at (g : am_G) (i j : Nat) (v : Int32) (a b : Nat) : am_u g i j v a b = if a = i ∧ b = j then v else g a b := by
  unfold am_u
  by_cases h : a = i
  · subst h
    by_cases h2 : b = j
    · simp [upd, h2]
    · simp [upd, h2]
  · simp [h]
theorem am_ul_at (w : am_J) (i j : Nat) (v : Int64) (a b : Nat) : am_ul w i j v a b = if a = i ∧ b = j then v else w a b := by
  unfold am_ul
  by_cases h : a = i
  · subst h
    by_cases h2 : b = j
    · simp [vp_updL, h2]
    · simp [vp_updL, h2]
  · simp [h]
/-- the locals: those that are listed are held -/
def am_l (ad : Nat → Nat) (ls : Array Slot) (nL : Nat) (L : List (Option Value)) : Prop := ls.size = nL ∧ lv_wf ls ∧ L.length ≤ nL ∧ ∀ (i : Nat) (v : Value), L[i]? = some (some v) → ls[i]? = some (.val (am_v ad v))
def am_as (ad : Nat → Nat) (L : List (Option Value)) : List (Nat × Value) := L.zipIdx.filterMap (fun q => q.1.map (fun v => (q.2, am_v ad v)))
theorem am_as_mem {ad : Nat → Nat} {L : List (Option Value)} {q : Nat × Value} : q ∈ am_as ad L ↔ ∃ v, L[q.1]? = some (some v) ∧ q.2 = am_v ad v := by
  constructor
  · intro h
    obtain ⟨⟨o, i⟩, h1, h2⟩ := List.mem_filterMap.mp h
    have h3 : L[i]? = some o := List.mem_zipIdx_iff_getElem?.mp h1
    cases o with
    | none => cases h2
    | some v =>
      simp only [Option.map_some, Option.some.injEq] at h2
      subst h2
      exact ⟨v, h3, rfl⟩
  · rintro ⟨v, h1, h2⟩
    refine List.mem_filterMap.mpr ⟨(some v, q.1), List.mem_zipIdx_iff_getElem?.mpr h1, ?_⟩
    simp [← h2]
theorem am_l.has {ad : Nat → Nat} {ls : Array Slot} {nL : Nat} {L : List (Option Value)} (h : am_l ad ls nL L) : lv_has ls nL (am_as ad L) :=
  ⟨h.1, h.2.1, fun q hq => by obtain ⟨v, h1, h2⟩ := am_as_mem.mp hq; rw [h2]; exact h.2.2.2 _ _ h1⟩
/-- a long before the place is no more held -/
def am_kill (L : List (Option Value)) (i : Nat) : List (Option Value) := match i with
  | 0 => L
  | j + 1 => match L[j]? with
    | some (some v) => if v.category = 2 then L.set j none else L
    | _ => L
def am_s1 (L : List (Option Value)) (i : Nat) (v : Value) : Option (List (Option Value)) := if i < L.length then some ((am_kill L i).set i (some v)) else none
def am_s2 (L : List (Option Value)) (i : Nat) (v : Value) : Option (List (Option Value)) := if i + 1 < L.length then some (((am_kill L i).set i (some v)).set (i + 1) none) else none
theorem am_kill_len (L : List (Option Value)) (i : Nat) : (am_kill L i).length = L.length := by
  unfold am_kill
  split
  · rfl
  · split
    · split <;> simp
    · rfl
theorem am_v_cat (ad : Nat → Nat) (v : Value) : (am_v ad v).category = v.category := by cases v <;> rfl
theorem am_kill_at {L : List (Option Value)} {i j : Nat} {v : Value} (h : (am_kill L i)[j]? = some (some v)) : L[j]? = some (some v) ∧ (j + 1 = i → v.category ≠ 2) := by
  unfold am_kill at h
  split at h
  · exact ⟨h, fun q => by omega⟩
  · rename_i i'
    split at h
    · rename_i v' hz
      split at h
      · rename_i hc
        by_cases hj : j = i'
        · subst hj
          have hl := (List.getElem?_eq_some_iff.mp hz).1
          rw [List.getElem?_set_self hl] at h
          cases h
        · rw [List.getElem?_set_ne (Ne.symm hj)] at h
          exact ⟨h, fun q => by omega⟩
      · rename_i hc
        refine ⟨h, fun q => ?_⟩
        have : j = i' := by omega
        subst this
        rw [hz] at h
        cases h
        exact hc
    · rename_i hz
      refine ⟨h, fun q => ?_⟩
      have : j = i' := by omega
      subst this
      exact absurd h (hz v)
theorem am_l.s1 {ad : Nat → Nat} {ls : Array Slot} {nL i : Nat} {L L' : List (Option Value)} {v : Value} (hlen : L.length ≤ nL) (hs : am_s1 L i v = some L') (h : lv_has ls nL ((i, am_v ad v) :: (am_as ad L).filter (fun q => !(q.1 == i) && !(q.1 + 1 == i && q.2.category == 2)))) : am_l ad ls nL L' := by
  unfold am_s1 at hs
  split at hs
  · rename_i hi
    cases hs
    refine ⟨h.1, h.2.1, by rw [List.length_set, am_kill_len]; exact hlen, fun j z hz => ?_⟩
    by_cases hj : j = i
    · subst hj
      rw [List.getElem?_set_self (by rw [am_kill_len]; exact hi)] at hz
      cases hz
      exact h.2.2 _ List.mem_cons_self
    · rw [List.getElem?_set_ne (Ne.symm hj)] at hz
      obtain ⟨h1, h2⟩ := am_kill_at hz
      refine h.2.2 (j, am_v ad z) (List.mem_cons_of_mem _ (List.mem_filter.mpr ⟨am_as_mem.mpr ⟨z, h1, rfl⟩, ?_⟩))
      simp only [Bool.and_eq_true, Bool.not_eq_true', beq_eq_false_iff_ne, ne_eq, Bool.and_eq_false_iff, am_v_cat]
      refine ⟨hj, ?_⟩
      by_cases hji : j + 1 = i
      · exact Or.inr (h2 hji)
      · exact Or.inl hji
  · cases hs
theorem am_l.s2 {ad : Nat → Nat} {ls : Array Slot} {nL i : Nat} {L L' : List (Option Value)} {v : Value} (hlen : L.length ≤ nL) (hs : am_s2 L i v = some L') (h : lv_has ls nL ((i, am_v ad v) :: (am_as ad L).filter (fun q => !(q.1 == i) && (!(q.1 == i + 1) && !(q.1 + 1 == i && q.2.category == 2))))) : am_l ad ls nL L' := by
  unfold am_s2 at hs
  split at hs
  · rename_i hi
    cases hs
    refine ⟨h.1, h.2.1, by rw [List.length_set, List.length_set, am_kill_len]; exact hlen, fun j z hz => ?_⟩
    by_cases hj1 : j = i + 1
    · subst hj1
      rw [List.getElem?_set_self (by rw [List.length_set, am_kill_len]; exact hi)] at hz
      cases hz
    · rw [List.getElem?_set_ne (Ne.symm hj1)] at hz
      by_cases hj : j = i
      · subst hj
        rw [List.getElem?_set_self (by rw [am_kill_len]; omega)] at hz
        cases hz
        exact h.2.2 _ List.mem_cons_self
      · rw [List.getElem?_set_ne (Ne.symm hj)] at hz
        obtain ⟨h1, h2⟩ := am_kill_at hz
        refine h.2.2 (j, am_v ad z) (List.mem_cons_of_mem _ (List.mem_filter.mpr ⟨am_as_mem.mpr ⟨z, h1, rfl⟩, ?_⟩))
        simp only [Bool.and_eq_true, Bool.not_eq_true', beq_eq_false_iff_ne, ne_eq, Bool.and_eq_false_iff, am_v_cat]
        refine ⟨hj, hj1, ?_⟩
        by_cases hji : j + 1 = i
        · exact Or.inr (h2 hji)
        · exact Or.inl hji
  · cases hs
/-! the machine's fixed things of one method's run -/
abbrev am_X : Type := Program × Launch × Env × Room × State × MethodId × Array Value × List Frame × Method × Code × va_G × (ClassId × ClassId × ClassId) × Nat × Nat × Nat
abbrev am_p (x : am_X) : Program := x.1
abbrev am_la (x : am_X) : Launch := x.2.1
abbrev am_en (x : am_X) : Env := x.2.2.1
abbrev am_R (x : am_X) : Room := x.2.2.2.1
abbrev am_s (x : am_X) : State := x.2.2.2.2.1
abbrev am_m (x : am_X) : MethodId := x.2.2.2.2.2.1
abbrev am_a (x : am_X) : Array Value := x.2.2.2.2.2.2.1
abbrev am_bw (x : am_X) : List Frame := x.2.2.2.2.2.2.2.1
abbrev am_me (x : am_X) : Method := x.2.2.2.2.2.2.2.2.1
abbrev am_c (x : am_X) : Code := x.2.2.2.2.2.2.2.2.2.1
abbrev am_Dg (x : am_X) : va_G := x.2.2.2.2.2.2.2.2.2.2.1
abbrev am_c3 (x : am_X) : ClassId × ClassId × ClassId := x.2.2.2.2.2.2.2.2.2.2.2.1
abbrev am_ba (x : am_X) : Nat := x.2.2.2.2.2.2.2.2.2.2.2.2.1
abbrev am_tt (x : am_X) : Nat := x.2.2.2.2.2.2.2.2.2.2.2.2.2.1
abbrev am_sc (x : am_X) : Nat := x.2.2.2.2.2.2.2.2.2.2.2.2.2.2
abbrev am_xa (x : am_X) : Nat → Nat := am_ad (am_ba x) (am_tt x) (am_sc x)
/-- the heap holds the cells of y, with the contents g, w; there are no cells behind them -/
def am_P (D : va_G) (c3 : ClassId × ClassId × ClassId) (base tt b : Nat) (y : am_Y) (g : am_G) (w : am_J) (H : Heap) : Prop := H.size = base + y.length ∧ va_P D vwCl (am_w c3 (am_ad base tt b) base y g w) H
/-- the static row of longs -/
def am_bt (j : Nat) : Int64 := match j with
  | 0 => 1
  | 1 => 100
  | 2 => 10000
  | 3 => 1000000
  | 4 => 100000000
  | 5 => 10000000000
  | _ => 0
def am_T (base tt : Nat) (U : State) : Prop := va_Z RX7 "BEYOND_THINGS" "[J" (.ref tt) (fun q => base ≤ q) U U.heap ∧ va_T .long tt 6 (fun j => .long (am_bt j)) (fun q => base ≤ q) U U.heap
theorem am_T.go {base tt : Nat} {s U : State} {H : Heap} {locs : List Loc} (h : am_T base tt s) (hS : va_S (fun q => base ≤ q) s.heap H locs) (hU : U.heap = H) (hvm : s.vm.Alike U.vm) : am_T base tt U := by
  unfold am_T
  rw [hU]
  exact ⟨(h.1.kept (H1 := H) (fun a h1 h2 => hS.2.1 a h1 h2)).moved hvm, (h.2.kept (H1 := H) (fun a h1 h2 => hS.2.1 a h1 h2)).moved hvm⟩
/-- the classes by number -/
def am_cn (n : Nat) : String := match n with
  | 0 => RX0
  | 1 => RX1
  | 2 => RX2
  | 3 => RX3
  | 4 => RX4
  | 5 => RX5
  | 6 => RX6
  | 7 => RX7
  | 8 => RX8
  | 9 => RJ6
  | 10 => RJ9
  | 11 => RJ10
  | 12 => RJ7
  | _ => RL
/-- the words that every method has -/
def am_tbl : List Cond := lw_tbl.filter goodWord
theorem am_tbl_in {w : Cond} (h : w ∈ lw_tbl) (hg : goodWord w = true) : w ∈ am_tbl := List.mem_filter.mpr ⟨h, hg⟩
theorem am_goodIn : GoodIn am_tbl am_tbl := fun w hw => ⟨hw, good_of_word (List.mem_filter.mp hw).2⟩
end
section
/-! tables, by program: classes by number, links of fields, constants, each with its place among the words -/
def am_Rc (n : Nat) : String := match n with
  | 0 => RX0
  | 1 => RX1
  | 2 => RX2
  | 3 => RX3
  | 4 => RX4
  | 5 => RX5
  | 6 => RX6
  | 7 => RX7
  | _ => RX8
def am_Tc (n : Nat) : u_T := match n with
  | 0 => TX0
  | 1 => TX1
  | 2 => TX2
  | 3 => TX3
  | 4 => TX4
  | 5 => TX5
  | 6 => TX6
  | 7 => TX7
  | _ => TX8
def am_yc (n : Nat) : Nat → FieldType := match n with
  | 0 => tyX0
  | 1 => tyX1
  | 2 => tyX2
  | 3 => tyX3
  | 4 => tyX4
  | 5 => tyX5
  | 6 => tyX6
  | 7 => tyX7
  | _ => tyX8
def am_Nc (n : Nat) : Nat := match n with
  | 0 => 2
  | 1 => 2
  | 2 => 8
  | 3 => 2
  | 4 => 4
  | 5 => 2
  | 6 => 2
  | 7 => 11
  | _ => 31
theorem am_nine {P : Nat → Prop} (h0 : P 0) (h1 : P 1) (h2 : P 2) (h3 : P 3) (h4 : P 4) (h5 : P 5) (h6 : P 6) (h7 : P 7) (h8 : P 8) : ∀ ci, ci < 9 → P ci := by
  intro ci h
  match ci, h with
  | 0, _ => exact h0
  | 1, _ => exact h1
  | 2, _ => exact h2
  | 3, _ => exact h3
  | 4, _ => exact h4
  | 5, _ => exact h5
  | 6, _ => exact h6
  | 7, _ => exact h7
  | 8, _ => exact h8
theorem am_clc : ∀ ci, ci < 9 → vwCl[ci]? = some (am_Rc ci, am_Tc ci, am_Nc ci) := am_nine rfl rfl rfl rfl rfl rfl rfl rfl rfl
theorem am_nmc : ∀ ci, ci < 9 → ∀ a, a < am_Nc ci → ∀ b, b < am_Nc ci → a ≠ b → (am_Tc ci a).2.1 ≠ (am_Tc ci b).2.1 := am_nine nmX0 nmX1 nmX2 nmX3 nmX4 nmX5 nmX6 nmX7 nmX8
theorem am_tyc : ∀ ci, ci < 9 → ∀ k, k < am_Nc ci → parseFieldDescriptor (am_Tc ci k).2.2.1 = some (am_yc ci k) := am_nine tyX0_ok tyX1_ok tyX2_ok tyX3_ok tyX4_ok tyX5_ok tyX6_ok tyX7_ok tyX8_ok
set_option maxRecDepth 100000 in
theorem am_wi0 : ∀ w ∈ u_ws RX0 TX0 2, w ∈ am_tbl := by
  have h : (u_ws RX0 TX0 2) = ([132, 134] : List Nat).filterMap (fun i => lw_tbl[i]?) := by decide +kernel
  intro w hw
  have hw0 := hw
  rw [h] at hw
  obtain ⟨i, -, hi⟩ := List.mem_filterMap.mp hw
  exact am_tbl_in (List.mem_of_getElem? hi) (List.all_eq_true.mp (show ((u_ws RX0 TX0 2).all goodWord) = true by decide +kernel) w hw0)
set_option maxRecDepth 100000 in
theorem am_wi1 : ∀ w ∈ u_ws RX1 TX1 2, w ∈ am_tbl := by
  have h : (u_ws RX1 TX1 2) = ([172, 174] : List Nat).filterMap (fun i => lw_tbl[i]?) := by decide +kernel
  intro w hw
  have hw0 := hw
  rw [h] at hw
  obtain ⟨i, -, hi⟩ := List.mem_filterMap.mp hw
  exact am_tbl_in (List.mem_of_getElem? hi) (List.all_eq_true.mp (show ((u_ws RX1 TX1 2).all goodWord) = true by decide +kernel) w hw0)
set_option maxRecDepth 100000 in
theorem am_wi2 : ∀ w ∈ u_ws RX2 TX2 8, w ∈ am_tbl := by
  have h : (u_ws RX2 TX2 8) = ([88, 90, 92, 94, 96, 98, 100, 102] : List Nat).filterMap (fun i => lw_tbl[i]?) := by decide +kernel
  intro w hw
  have hw0 := hw
  rw [h] at hw
  obtain ⟨i, -, hi⟩ := List.mem_filterMap.mp hw
  exact am_tbl_in (List.mem_of_getElem? hi) (List.all_eq_true.mp (show ((u_ws RX2 TX2 8).all goodWord) = true by decide +kernel) w hw0)
set_option maxRecDepth 100000 in
theorem am_wi3 : ∀ w ∈ u_ws RX3 TX3 2, w ∈ am_tbl := by
  have h : (u_ws RX3 TX3 2) = ([68, 70] : List Nat).filterMap (fun i => lw_tbl[i]?) := by decide +kernel
  intro w hw
  have hw0 := hw
  rw [h] at hw
  obtain ⟨i, -, hi⟩ := List.mem_filterMap.mp hw
  exact am_tbl_in (List.mem_of_getElem? hi) (List.all_eq_true.mp (show ((u_ws RX3 TX3 2).all goodWord) = true by decide +kernel) w hw0)
set_option maxRecDepth 100000 in
theorem am_wi4 : ∀ w ∈ u_ws RX4 TX4 4, w ∈ am_tbl := by
  have h : (u_ws RX4 TX4 4) = ([115, 117, 119, 121] : List Nat).filterMap (fun i => lw_tbl[i]?) := by decide +kernel
  intro w hw
  have hw0 := hw
  rw [h] at hw
  obtain ⟨i, -, hi⟩ := List.mem_filterMap.mp hw
  exact am_tbl_in (List.mem_of_getElem? hi) (List.all_eq_true.mp (show ((u_ws RX4 TX4 4).all goodWord) = true by decide +kernel) w hw0)
set_option maxRecDepth 100000 in
theorem am_wi5 : ∀ w ∈ u_ws RX5 TX5 2, w ∈ am_tbl := by
  have h : (u_ws RX5 TX5 2) = ([145, 147] : List Nat).filterMap (fun i => lw_tbl[i]?) := by decide +kernel
  intro w hw
  have hw0 := hw
  rw [h] at hw
  obtain ⟨i, -, hi⟩ := List.mem_filterMap.mp hw
  exact am_tbl_in (List.mem_of_getElem? hi) (List.all_eq_true.mp (show ((u_ws RX5 TX5 2).all goodWord) = true by decide +kernel) w hw0)
set_option maxRecDepth 100000 in
theorem am_wi6 : ∀ w ∈ u_ws RX6 TX6 2, w ∈ am_tbl := by
  have h : (u_ws RX6 TX6 2) = ([158, 160] : List Nat).filterMap (fun i => lw_tbl[i]?) := by decide +kernel
  intro w hw
  have hw0 := hw
  rw [h] at hw
  obtain ⟨i, -, hi⟩ := List.mem_filterMap.mp hw
  exact am_tbl_in (List.mem_of_getElem? hi) (List.all_eq_true.mp (show ((u_ws RX6 TX6 2).all goodWord) = true by decide +kernel) w hw0)
set_option maxRecDepth 100000 in
theorem am_wi7 : ∀ w ∈ u_ws RX7 TX7 11, w ∈ am_tbl := by
  have h : (u_ws RX7 TX7 11) = ([188, 190, 192, 194, 196, 198, 200, 202, 204, 206, 208] : List Nat).filterMap (fun i => lw_tbl[i]?) := by decide +kernel
  intro w hw
  have hw0 := hw
  rw [h] at hw
  obtain ⟨i, -, hi⟩ := List.mem_filterMap.mp hw
  exact am_tbl_in (List.mem_of_getElem? hi) (List.all_eq_true.mp (show ((u_ws RX7 TX7 11).all goodWord) = true by decide +kernel) w hw0)
set_option maxRecDepth 100000 in
theorem am_wi8 : ∀ w ∈ u_ws RX8 TX8 31, w ∈ am_tbl := by
  have h : (u_ws RX8 TX8 31) = ([734, 736, 738, 740, 742, 744, 746, 748, 750, 752, 754, 756, 758, 760, 762, 764, 766, 768, 770, 772, 774, 776, 778, 780, 782, 784, 786, 788, 790, 792, 794] : List Nat).filterMap (fun i => lw_tbl[i]?) := by decide +kernel
  intro w hw
  have hw0 := hw
  rw [h] at hw
  obtain ⟨i, -, hi⟩ := List.mem_filterMap.mp hw
  exact am_tbl_in (List.mem_of_getElem? hi) (List.all_eq_true.mp (show ((u_ws RX8 TX8 31).all goodWord) = true by decide +kernel) w hw0)
theorem am_wic : ∀ ci, ci < 9 → ∀ w ∈ u_ws (am_Rc ci) (am_Tc ci) (am_Nc ci), w ∈ am_tbl := am_nine am_wi0 am_wi1 am_wi2 am_wi3 am_wi4 am_wi5 am_wi6 am_wi7 am_wi8
def am_fl : List (Nat × Nat × Nat × Nat × Nat) := [(3, 9, 3, 0, 66), (3, 15, 3, 1, 67), (2, 9, 2, 0, 80), (2, 15, 2, 1, 81), (2, 18, 2, 2, 82), (2, 21, 2, 3, 83), (2, 24, 2, 4, 84), (2, 27, 2, 5, 85), (2, 30, 2, 6, 86), (2, 53, 2, 7, 87), (4, 18, 4, 0, 111), (4, 9, 4, 1, 112), (4, 15, 4, 2, 113), (4, 40, 4, 3, 114), (0, 9, 0, 0, 130), (0, 15, 0, 1, 131), (5, 9, 5, 0, 143), (5, 19, 5, 1, 144), (6, 15, 6, 0, 156), (6, 11, 6, 1, 157), (1, 11, 1, 0, 170), (1, 15, 1, 1, 171), (7, 12, 7, 0, 177), (7, 19, 7, 1, 178), (7, 28, 7, 2, 179), (7, 32, 7, 3, 180), (7, 38, 7, 4, 181), (7, 45, 7, 5, 182), (7, 52, 7, 6, 183), (7, 59, 7, 7, 184), (7, 63, 7, 8, 185), (7, 67, 7, 9, 186), (7, 233, 7, 10, 187), (8, 111, 8, 0, 703), (8, 59, 8, 1, 704), (8, 7, 8, 2, 705), (8, 13, 8, 3, 706), (8, 16, 8, 4, 707), (8, 19, 8, 5, 708), (8, 22, 8, 6, 709), (8, 25, 8, 7, 710), (8, 28, 8, 8, 711), (8, 31, 8, 9, 712), (8, 94, 8, 10, 713), (8, 84, 8, 11, 714), (8, 87, 8, 12, 715), (8, 34, 8, 13, 716), (8, 69, 8, 14, 717), (8, 75, 8, 15, 718), (8, 72, 8, 16, 719), (8, 114, 8, 17, 720), (8, 132, 8, 18, 721), (8, 37, 8, 19, 722), (8, 156, 8, 20, 723), (8, 163, 8, 21, 724), (8, 166, 8, 22, 725), (8, 198, 8, 23, 726), (8, 40, 8, 24, 727), (8, 43, 8, 25, 728), (8, 46, 8, 26, 729), (8, 50, 8, 27, 730), (8, 233, 8, 28, 731), (8, 53, 8, 29, 732), (8, 56, 8, 30, 733)]
set_option maxRecDepth 100000 in
theorem am_fl_all : (am_fl.all fun q => decide (q.2.2.1 < 9) && (decide (q.2.2.2.1 < am_Nc q.2.2.1) && decide (lw_tbl[q.2.2.2.2]? = some (Cond.fieldLink (am_cn q.1) q.2.1 (am_Tc q.2.2.1 q.2.2.2.1).1 (am_Tc q.2.2.1 q.2.2.2.1).2.1 (am_Tc q.2.2.1 q.2.2.2.1).2.2.1)))) = true := by decide +kernel
def am_flb (own idx ci k : Nat) : Bool := am_fl.any fun q => q.1 == own && (q.2.1 == idx && (q.2.2.1 == ci && q.2.2.2.1 == k))
theorem am_flb_ok {own idx ci k : Nat} (h : am_flb own idx ci k = true) : ci < 9 ∧ k < am_Nc ci ∧ Cond.fieldLink (am_cn own) idx (am_Tc ci k).1 (am_Tc ci k).2.1 (am_Tc ci k).2.2.1 ∈ am_tbl := by
  obtain ⟨q, hq, h2⟩ := List.any_eq_true.mp h
  simp only [Bool.and_eq_true, beq_iff_eq] at h2
  obtain ⟨rfl, rfl, rfl, rfl⟩ := h2
  have h3 := List.all_eq_true.mp am_fl_all q hq
  simp only [Bool.and_eq_true, decide_eq_true_eq] at h3
  exact ⟨h3.1, h3.2.1, am_tbl_in (List.mem_of_getElem? h3.2.2) rfl⟩
def am_kc : List (Nat × Nat × Int32 × Nat) := [(9, 265, 1431655765, 515), (9, 266, 858993459, 516), (9, 267, 252645135, 517), (9, 264, 65536, 584)]
def am_kl : List (Nat × Nat × Int64 × Nat) := [(6, 19, 1000000000, 459), (6, 51, 10000000, 473), (6, 69, 10, 475), (7, 187, 100, 532), (7, 237, 6364136223846793005, 646), (7, 239, 1442695040888963407, 647), (7, 241, 32, 648), (8, 63, 255, 802), (8, 78, 9, 834), (8, 117, (-1), 862), (8, 135, 3, 867), (8, 181, 5, 941), (8, 179, 10, 945), (8, 190, 100, 950), (8, 237, 30, 1034), (8, 239, 6364136223846793005, 1035), (8, 241, 1442695040888963407, 1036), (8, 243, 32, 1037), (13, 73, 4294967295, 1050)]
set_option maxRecDepth 100000 in
theorem am_kc_all : (am_kc.all fun q => decide (lw_tbl[q.2.2.2]? = some (Cond.constant (am_cn q.1) q.2.1 q.2.2.1))) = true := by decide +kernel
set_option maxRecDepth 100000 in
theorem am_kl_all : (am_kl.all fun q => decide (lw_tbl[q.2.2.2]? = some (Cond.constantLong (am_cn q.1) q.2.1 q.2.2.1))) = true := by decide +kernel
def am_kcb (own idx : Nat) (v : Value) : Bool := match v with
  | .int z => am_kc.any fun q => q.1 == own && (q.2.1 == idx && decide (q.2.2.1 = z))
  | _ => false
def am_klb (own idx : Nat) (v : Value) : Bool := match v with
  | .long z => am_kl.any fun q => q.1 == own && (q.2.1 == idx && decide (q.2.2.1 = z))
  | _ => false
theorem am_kcb_ok {own idx : Nat} {v : Value} (h : am_kcb own idx v = true) : ∃ z, v = .int z ∧ Cond.constant (am_cn own) idx z ∈ am_tbl := by
  unfold am_kcb at h
  split at h
  · obtain ⟨q, hq, h2⟩ := List.any_eq_true.mp h
    simp only [Bool.and_eq_true, beq_iff_eq, decide_eq_true_eq] at h2
    obtain ⟨rfl, rfl, rfl⟩ := h2
    have h3 := List.all_eq_true.mp am_kc_all q hq
    simp only [decide_eq_true_eq] at h3
    exact ⟨_, rfl, am_tbl_in (List.mem_of_getElem? h3) rfl⟩
  · cases h
theorem am_klb_ok {own idx : Nat} {v : Value} (h : am_klb own idx v = true) : ∃ z, v = .long z ∧ Cond.constantLong (am_cn own) idx z ∈ am_tbl := by
  unfold am_klb at h
  split at h
  · obtain ⟨q, hq, h2⟩ := List.any_eq_true.mp h
    simp only [Bool.and_eq_true, beq_iff_eq, decide_eq_true_eq] at h2
    obtain ⟨rfl, rfl, rfl⟩ := h2
    have h3 := List.all_eq_true.mp am_kl_all q hq
    simp only [decide_eq_true_eq] at h3
    exact ⟨_, rfl, am_tbl_in (List.mem_of_getElem? h3) rfl⟩
  · cases h
/-- links to private members of nest mates -/
def am_nst : List (Nat × Nat × MethodName × Nat) := [(7, 11, yX3_init, 62), (7, 18, yX2_init, 76), (7, 37, yX0_init, 126), (7, 44, yX5_init, 139), (7, 58, yX1_init, 166), (2, 69, yX7_isState, 349), (4, 54, yX7_isState, 369), (1, 25, yX7_isState, 553), (1, 29, yX7_isWord, 554)]
set_option maxRecDepth 100000 in
theorem am_nst_all : (am_nst.all fun q => decide (lw_tbl[q.2.2.2]? = some (Cond.methodLinkNest (am_cn q.1) q.2.1 q.2.2.1 RX7))) = true := by decide +kernel
def am_N (U : State) : Prop := ∀ q ∈ am_nst, va_Nw (.methodLinkNest (am_cn q.1) q.2.1 q.2.2.1 RX7) U
theorem am_N.warm {s U : State} (hW : s.WarmedH U.vm) (h : am_N s) : am_N U := fun q hq => va_Nw.warmM hW (h q hq)
theorem am_N.of {A : Array Value} {U : State} (h : ∀ w ∈ lw_tbl, w.before A U = true) : am_N U := fun q hq => va_Nw.of rfl (h _ (List.mem_of_getElem? (of_decide_eq_true (List.all_eq_true.mp am_nst_all q hq))))
end
section
def am_Cx (x : am_X) (own : Nat) (cc : ByteArray) (nL : Nat) : Prop :=
  (am_p x).tables.exec = Jvm.exec ∧ (am_c x).code = cc ∧ (am_c x).maxLocals = nL ∧ (am_s x).vm.findClass (am_cn own) = some (am_m x).cls ∧ (∀ w ∈ am_tbl, w.before (am_a x) (am_s x) = true) ∧ (am_me x).locks = false ∧ va_K (am_Dg x) vwCl (am_ty (am_c3 x)) (am_s x) ∧ am_T (am_ba x) (am_tt x) (am_s x) ∧ am_N (am_s x)
def am_Ev (x : am_X) (nL : Nat) (cs : Nat × Nat) (Q : State → Prop) (pc : Nat) (L : List (Option Value)) (st : List Value) (y : am_Y) (g : am_G) (w : am_J) : Prop :=
  ∀ (H : Heap) (locs : List Loc) (ls : Array Slot), am_P (am_Dg x) (am_c3 x) (am_ba x) (am_tt x) (am_sc x) y g w H → va_S (fun q => am_ba x ≤ q) (am_s x).heap H locs → am_l (am_xa x) ls nL L →
    W (am_p x) (am_la x) (am_en x) (am_R x) (am_s x) (am_m x) (am_a x) (am_bw x) (am_me x) (am_c x) H locs cs.1 cs.2 Q (F0 (am_m x) pc ls (st.map (am_v (am_xa x))))
/-! THE STEP -/
def am_b (f : Int32 → Int32 → Int32) (st : List Value) : Option (List Value) := match st with
  | .int y :: .int x :: r => some (.int (f x y) :: r)
  | _ => none
def am_bl (f : Int64 → Int64 → Int64) (st : List Value) : Option (List Value) := match st with
  | .long y :: .long x :: r => some (.long (f x y) :: r)
  | _ => none
def am_bs (f : Int64 → Int32 → Int64) (st : List Value) : Option (List Value) := match st with
  | .int y :: .long x :: r => some (.long (f x y) :: r)
  | _ => none
theorem am_b_inv {f : Int32 → Int32 → Int32} {st st' : List Value} (h : am_b f st = some st') : ∃ x y r, st = .int y :: .int x :: r ∧ st' = .int (f x y) :: r := by
  unfold am_b at h
  split at h
  · cases h; exact ⟨_, _, _, rfl, rfl⟩
  · cases h
theorem am_bl_inv {f : Int64 → Int64 → Int64} {st st' : List Value} (h : am_bl f st = some st') : ∃ x y r, st = .long y :: .long x :: r ∧ st' = .long (f x y) :: r := by
  unfold am_bl at h
  split at h
  · cases h; exact ⟨_, _, _, rfl, rfl⟩
  · cases h
theorem am_bs_inv {f : Int64 → Int32 → Int64} {st st' : List Value} (h : am_bs f st = some st') : ∃ x y r, st = .int y :: .long x :: r ∧ st' = .long (f x y) :: r := by
  unfold am_bs at h
  split at h
  · cases h; exact ⟨_, _, _, rfl, rfl⟩
  · cases h
def am_ushr (x y : Int32) : Int32 := (x.toUInt32 >>> (y.toUInt32 &&& Int32.toUInt32 31)).toInt32
def am_lushr (x : Int64) (y : Int32) : Int64 := (x.toUInt64 >>> (y.toInt64.toUInt64 &&& Int64.toUInt64 63)).toInt64
def am_lshl (x : Int64) (y : Int32) : Int64 := x <<< (y.toInt64 &&& 63)
abbrev am_O : Type := Option (am_S × Option Prop)
def am_mk (L : List (Option Value)) (g : am_G) (w : am_J) (o : Option (List Value)) : am_O := match o with
  | some st => some ((L, st, g, w), none)
  | none => none
def am_ldi (L : List (Option Value)) (st : List Value) (g : am_G) (w : am_J) (i : Nat) : am_O := match L[i]? with
  | some (some (.int z)) => some ((L, .int z :: st, g, w), none)
  | _ => none
def am_ldl (L : List (Option Value)) (st : List Value) (g : am_G) (w : am_J) (i : Nat) : am_O := match L[i]? with
  | some (some (.long z)) => some ((L, .long z :: st, g, w), none)
  | _ => none
def am_lda (L : List (Option Value)) (st : List Value) (g : am_G) (w : am_J) (i : Nat) : am_O := match L[i]? with
  | some (some (.ref z)) => some ((L, .ref z :: st, g, w), none)
  | _ => none
def am_sti (L : List (Option Value)) (st : List Value) (g : am_G) (w : am_J) (i : Nat) : am_O := match st with
  | .int z :: r => match am_s1 L i (.int z) with
    | some L' => some ((L', r, g, w), none)
    | none => none
  | _ => none
def am_sta (L : List (Option Value)) (st : List Value) (g : am_G) (w : am_J) (i : Nat) : am_O := match st with
  | .ref z :: r => match am_s1 L i (.ref z) with
    | some L' => some ((L', r, g, w), none)
    | none => none
  | _ => none
def am_stl (L : List (Option Value)) (st : List Value) (g : am_G) (w : am_J) (i : Nat) : am_O := match st with
  | .long z :: r => match am_s2 L i (.long z) with
    | some L' => some ((L', r, g, w), none)
    | none => none
  | _ => none
def am_inc (L : List (Option Value)) (st : List Value) (g : am_G) (w : am_J) (i : Nat) (v : Value) : am_O := match L[i]? with
  | some (some (.int z)) => match v with
    | .int c => match am_s1 L i (.int (z + c)) with
      | some L' => some ((L', st, g, w), none)
      | none => none
    | _ => none
  | _ => none
/-- an element of an array of type t -/
def am_ald (y : am_Y) (t : Nat) (L : List (Option Value)) (st : List Value) (g : am_G) (w : am_J) : am_O := match st with
  | .int j :: .ref i :: r => match y[i]? with
    | some (.inl (t', n)) => if t' = t then some ((L, (if t = 2 then Value.long (w i j.toNatClampNeg) else Value.int (g i j.toNatClampNeg)) :: r, g, w), some (am_in j n)) else none
    | _ => none
  | _ => none
def am_ast (y : am_Y) (t : Nat) (L : List (Option Value)) (st : List Value) (g : am_G) (w : am_J) : am_O := match st with
  | .int v :: .int j :: .ref i :: r => match y[i]? with
    | some (.inl (t', n)) => if t' = t then some ((L, r, am_u g i j.toNatClampNeg (if t = 1 then vp_nar .boolean v else v), w), some (am_in j n)) else none
    | _ => none
  | _ => none
def am_lst (y : am_Y) (L : List (Option Value)) (st : List Value) (g : am_G) (w : am_J) : am_O := match st with
  | .long v :: .int j :: .ref i :: r => match y[i]? with
    | some (.inl (2, n)) => some ((L, r, g, am_ul w i j.toNatClampNeg v), some (am_in j n))
    | _ => none
  | _ => none
def am_len (y : am_Y) (L : List (Option Value)) (st : List Value) (g : am_G) (w : am_J) : am_O := match st with
  | .ref i :: r => match y[i]? with
    | some (.inl (_, n)) => some ((L, .int (Int32.ofNat n) :: r, g, w), none)
    | _ => none
  | _ => none
def am_gf (y : am_Y) (ci k : Nat) (L : List (Option Value)) (st : List Value) (g : am_G) (w : am_J) : am_O := match st with
  | .ref i :: r => match y[i]? with
    | some (.inr (c, ks)) => if c = ci then (match ks[k]? with
      | some d => some ((L, am_fv g w i k d :: r, g, w), none)
      | none => none) else none
    | _ => none
  | _ => none
def am_pfi (y : am_Y) (ci k : Nat) (L : List (Option Value)) (r : List Value) (i : Nat) (z : Int32) (g : am_G) (w : am_J) : am_O := match y[i]? with
  | some (.inr (c, ks)) => if c = ci then (match ks[k]? with
    | some (.inl 0) => some ((L, r, am_u g i k z, w), none)
    | _ => none) else none
  | _ => none
def am_pfl (y : am_Y) (ci k : Nat) (L : List (Option Value)) (r : List Value) (i : Nat) (z : Int64) (g : am_G) (w : am_J) : am_O := match y[i]? with
  | some (.inr (c, ks)) => if c = ci then (match ks[k]? with
    | some (.inl 1) => some ((L, r, g, am_ul w i k z), none)
    | _ => none) else none
  | _ => none
def am_pf (y : am_Y) (ci k : Nat) (L : List (Option Value)) (st : List Value) (g : am_G) (w : am_J) : am_O := match st with
  | .int z :: .ref i :: r => am_pfi y ci k L r i z g w
  | .long z :: .ref i :: r => am_pfl y ci k L r i z g w
  | _ => none
def am_c1 (v : Value) : Bool := match v with
  | .int _ => true
  | .ref _ => true
  | _ => false
def am_dup (st : List Value) : Option (List Value) := match st with
  | v :: r => if am_c1 v then some (v :: v :: r) else none
  | _ => none
def am_dup2 (st : List Value) : Option (List Value) := match st with
  | v :: u :: r => if am_c1 v && am_c1 u then some (v :: u :: v :: u :: r) else none
  | _ => none
def am_pop (st : List Value) : Option (List Value) := match st with
  | v :: r => if am_c1 v then some r else none
  | _ => none
def am_i1 (f : Int32 → Value) (st : List Value) : Option (List Value) := match st with
  | .int x :: r => some (f x :: r)
  | _ => none
def am_l1 (f : Int64 → Value) (st : List Value) : Option (List Value) := match st with
  | .long x :: r => some (f x :: r)
  | _ => none
def am_lc (st : List Value) : Option (List Value) := match st with
  | .long y :: .long x :: r => some (.int (lg_cmp x y) :: r)
  | _ => none
def am_dv (f : Int32 → Int32 → Int32) (L : List (Option Value)) (st : List Value) (g : am_G) (w : am_J) : am_O := match st with
  | .int y :: .int x :: r => some ((L, .int (f x y) :: r, g, w), some (¬ y = 0))
  | _ => none
def am_dvl (f : Int64 → Int64 → Int64) (L : List (Option Value)) (st : List Value) (g : am_G) (w : am_J) : am_O := match st with
  | .long y :: .long x :: r => some ((L, .long (f x y) :: r, g, w), some (¬ y = 0))
  | _ => none
def am_st (y : am_Y) (a : am_AI) (L : List (Option Value)) (st : List Value) (g : am_G) (w : am_J) : am_O := match a.1 with
  | .iconst _ => some ((L, a.2.2.2 :: st, g, w), none)
  | .bipush _ => some ((L, a.2.2.2 :: st, g, w), none)
  | .sipush _ => some ((L, a.2.2.2 :: st, g, w), none)
  | .lconst _ => some ((L, a.2.2.2 :: st, g, w), none)
  | .ldc_w _ => some ((L, a.2.2.2 :: st, g, w), none)
  | .ldc2_w _ => some ((L, a.2.2.2 :: st, g, w), none)
  | .iload_n k => am_ldi L st g w k.val
  | .iload i => am_ldi L st g w i
  | .lload_n k => am_ldl L st g w k.val
  | .lload i => am_ldl L st g w i
  | .aload_n k => am_lda L st g w k.val
  | .aload i => am_lda L st g w i
  | .istore_n k => am_sti L st g w k.val
  | .istore i => am_sti L st g w i
  | .lstore_n k => am_stl L st g w k.val
  | .lstore i => am_stl L st g w i
  | .astore_n k => am_sta L st g w k.val
  | .astore i => am_sta L st g w i
  | .iinc i _ => am_inc L st g w i a.2.2.2
  | .iadd => am_mk L g w (am_b (fun x y => x + y) st)
  | .isub => am_mk L g w (am_b (fun x y => x - y) st)
  | .imul => am_mk L g w (am_b (fun x y => x * y) st)
  | .iand => am_mk L g w (am_b (fun x y => x &&& y) st)
  | .ior => am_mk L g w (am_b (fun x y => x ||| y) st)
  | .ixor => am_mk L g w (am_b (fun x y => x ^^^ y) st)
  | .ishl => am_mk L g w (am_b (fun x y => x <<< (y &&& 31)) st)
  | .ishr => am_mk L g w (am_b (fun x y => x >>> (y &&& 31)) st)
  | .iushr => am_mk L g w (am_b am_ushr st)
  | .idiv => am_dv (fun x y => x / y) L st g w
  | .irem => am_dv (fun x y => x - x / y * y) L st g w
  | .ineg => am_mk L g w (am_i1 (fun x => .int (-x)) st)
  | .ladd => am_mk L g w (am_bl (fun x y => x + y) st)
  | .lsub => am_mk L g w (am_bl (fun x y => x - y) st)
  | .lmul => am_mk L g w (am_bl (fun x y => x * y) st)
  | .land => am_mk L g w (am_bl (fun x y => x &&& y) st)
  | .lor => am_mk L g w (am_bl (fun x y => x ||| y) st)
  | .ldiv => am_dvl (fun x y => x / y) L st g w
  | .lrem => am_dvl (fun x y => x - x / y * y) L st g w
  | .lshl => am_mk L g w (am_bs am_lshl st)
  | .lushr => am_mk L g w (am_bs am_lushr st)
  | .lcmp => am_mk L g w (am_lc st)
  | .i2l => am_mk L g w (am_i1 (fun x => .long x.toInt64) st)
  | .l2i => am_mk L g w (am_l1 (fun x => .int x.toInt32) st)
  | .dup => am_mk L g w (am_dup st)
  | .dup2 => am_mk L g w (am_dup2 st)
  | .pop => am_mk L g w (am_pop st)
  | .iaload => am_ald y 0 L st g w
  | .baload => am_ald y 1 L st g w
  | .laload => am_ald y 2 L st g w
  | .iastore => am_ast y 0 L st g w
  | .bastore => am_ast y 1 L st g w
  | .lastore => am_lst y L st g w
  | .arraylength => am_len y L st g w
  | .getfield _ => am_gf y a.2.1 a.2.2.1 L st g w
  | .putfield _ => am_pf y a.2.1 a.2.2.1 L st g w
  | _ => none
def am_ln (i : Instr) : Nat := match i with
  | .bipush _ => 2
  | .sipush _ => 3
  | .ldc_w _ => 3
  | .ldc2_w _ => 3
  | .iload _ => 2
  | .lload _ => 2
  | .aload _ => 2
  | .istore _ => 2
  | .lstore _ => 2
  | .astore _ => 2
  | .iinc _ _ => 3
  | .getfield _ => 3
  | .putfield _ => 3
  | _ => 1
/-- the fields that may be written outside a constructor -/
def am_wr (ci k : Nat) : Bool := !(am_Tc ci k).2.2.2 && (decide (am_yc ci k = .int) || decide (am_yc ci k = .long))
def am_ok (own : Nat) (a : am_AI) : Bool := match a.1 with
  | .iconst n => decide (a.2.2.2 = .int (Int32.ofInt n))
  | .bipush n => decide (a.2.2.2 = .int (Int8.ofInt n).toInt32)
  | .sipush n => decide (a.2.2.2 = .int (Int16.ofInt n).toInt32)
  | .lconst n => decide (a.2.2.2 = .long (Int64.ofNat n.val))
  | .iinc _ n => decide (a.2.2.2 = .int (Int32.ofInt n))
  | .ldc_w idx => am_kcb own idx a.2.2.2
  | .ldc2_w idx => am_klb own idx a.2.2.2
  | .getfield idx => am_flb own idx a.2.1 a.2.2.1
  | .putfield idx => am_flb own idx a.2.1 a.2.2.1 && am_wr a.2.1 a.2.2.1
  | _ => true
end
section
/-! SOUNDNESS of the abstract step -/
theorem am_Cx.hx {x : am_X} {own : Nat} {cc : ByteArray} {nL : Nat} (h : am_Cx x own cc nL) : (am_p x).tables.exec = Jvm.exec := h.1
theorem am_Cx.hb {x : am_X} {own : Nat} {cc : ByteArray} {nL : Nat} (h : am_Cx x own cc nL) : (am_c x).code = cc := h.2.1
theorem am_Cx.hml {x : am_X} {own : Nat} {cc : ByteArray} {nL : Nat} (h : am_Cx x own cc nL) : (am_c x).maxLocals = nL := h.2.2.1
theorem am_Cx.hown {x : am_X} {own : Nat} {cc : ByteArray} {nL : Nat} (h : am_Cx x own cc nL) : (am_s x).vm.findClass (am_cn own) = some (am_m x).cls := h.2.2.2.1
theorem am_Cx.hts {x : am_X} {own : Nat} {cc : ByteArray} {nL : Nat} (h : am_Cx x own cc nL) : ∀ w ∈ am_tbl, w.before (am_a x) (am_s x) = true := h.2.2.2.2.1
theorem am_Cx.hlk {x : am_X} {own : Nat} {cc : ByteArray} {nL : Nat} (h : am_Cx x own cc nL) : (am_me x).locks = false := h.2.2.2.2.2.1
theorem am_Cx.hK {x : am_X} {own : Nat} {cc : ByteArray} {nL : Nat} (h : am_Cx x own cc nL) : va_K (am_Dg x) vwCl (am_ty (am_c3 x)) (am_s x) := h.2.2.2.2.2.2.1
theorem am_Cx.hT {x : am_X} {own : Nat} {cc : ByteArray} {nL : Nat} (h : am_Cx x own cc nL) : am_T (am_ba x) (am_tt x) (am_s x) := h.2.2.2.2.2.2.2.1
theorem am_Cx.hN {x : am_X} {own : Nat} {cc : ByteArray} {nL : Nat} (h : am_Cx x own cc nL) : am_N (am_s x) := h.2.2.2.2.2.2.2.2
theorem am_mk_inv {L : List (Option Value)} {g : am_G} {w : am_J} {o : Option (List Value)} {r : am_S × Option Prop} (h : am_mk L g w o = some r) : ∃ st', o = some st' ∧ r = ((L, st', g, w), none) := by
  unfold am_mk at h
  split at h
  · cases h; exact ⟨_, rfl, rfl⟩
  · cases h
/-- the address of a cell -/
theorem am_ad_lt {base tt b i n : Nat} (hi : i < n) (hn : n ≤ 98) : am_ad base tt b i = base + i := by
  unfold am_ad
  rw [if_neg (by omega), if_neg (by omega)]
section AMS
variable {x : am_X} {own : Nat} {cc : ByteArray} {nL : Nat} {cs : Nat × Nat} {Q : State → Prop} {pc : Nat} {L L' : List (Option Value)} {st st' : List Value} {y : am_Y} {g g' : am_G} {w w' : am_J}
theorem am_ev_ldi {i : Nat} {r : am_S × Option Prop} (hs : am_ldi L st g w i = some r)
    (kk : ∀ z, L[i]? = some (some (.int z)) → r = ((L, .int z :: st, g, w), none) → am_Ev x nL cs Q pc L st y g w) : am_Ev x nL cs Q pc L st y g w := by
  unfold am_ldi at hs
  split at hs
  · rename_i z hz
    cases hs
    exact kk z hz rfl
  · cases hs
theorem am_in_vp {i : Int32} {n : Nat} (h : am_in i n) : vp_in i n := h
/-- loads -/
theorem am_ldi_ok (C0 : am_Cx x own cc nL) {i n : Nat} {ins : Instr} (hins : (∃ k : Fin 4, ins = .iload_n k ∧ k.val = i ∧ n = 1) ∨ (ins = .iload i ∧ n = 2)) (hdec : decode cc pc = .ok (ins, n)) {r : am_S × Option Prop} (hs : am_ldi L st g w i = some r)
    (kk : am_Ev x nL cs Q (pc + n) r.1.1 r.1.2.1 y r.1.2.2.1 r.1.2.2.2) : am_Ev x nL cs Q pc L st y g w := by
  unfold am_ldi at hs
  split at hs
  · rename_i z hz
    cases hs
    intro H locs ls hP hS hl
    have h1 := hl.2.2.2 i _ hz
    rcases hins with ⟨k, rfl, hk, rfl⟩ | ⟨rfl, rfl⟩
    · exact lv_iload_n C0.hx C0.hb hdec hk h1 (kk H locs ls hP hS hl)
    · exact lv_iload C0.hx C0.hb hdec h1 (kk H locs ls hP hS hl)
  · cases hs
theorem am_ldl_ok (C0 : am_Cx x own cc nL) {i n : Nat} {ins : Instr} (hins : (∃ k : Fin 4, ins = .lload_n k ∧ k.val = i ∧ n = 1) ∨ (ins = .lload i ∧ n = 2)) (hdec : decode cc pc = .ok (ins, n)) {r : am_S × Option Prop} (hs : am_ldl L st g w i = some r)
    (kk : am_Ev x nL cs Q (pc + n) r.1.1 r.1.2.1 y r.1.2.2.1 r.1.2.2.2) : am_Ev x nL cs Q pc L st y g w := by
  unfold am_ldl at hs
  split at hs
  · rename_i z hz
    cases hs
    intro H locs ls hP hS hl
    have h1 := hl.2.2.2 i _ hz
    rcases hins with ⟨k, rfl, hk, rfl⟩ | ⟨rfl, rfl⟩
    · exact lv_lload_n C0.hx C0.hb hdec hk h1 (kk H locs ls hP hS hl)
    · exact lv_lload C0.hx C0.hb hdec h1 (kk H locs ls hP hS hl)
  · cases hs
theorem am_lda_ok (C0 : am_Cx x own cc nL) {i n : Nat} {ins : Instr} (hins : (∃ k : Fin 4, ins = .aload_n k ∧ k.val = i ∧ n = 1) ∨ (ins = .aload i ∧ n = 2)) (hdec : decode cc pc = .ok (ins, n)) {r : am_S × Option Prop} (hs : am_lda L st g w i = some r)
    (kk : am_Ev x nL cs Q (pc + n) r.1.1 r.1.2.1 y r.1.2.2.1 r.1.2.2.2) : am_Ev x nL cs Q pc L st y g w := by
  unfold am_lda at hs
  split at hs
  · rename_i z hz
    cases hs
    intro H locs ls hP hS hl
    have h1 := hl.2.2.2 i _ hz
    rcases hins with ⟨k, rfl, hk, rfl⟩ | ⟨rfl, rfl⟩
    · exact lv_aload_n C0.hx C0.hb hdec hk h1 (kk H locs ls hP hS hl)
    · exact lv_aload C0.hx C0.hb hdec h1 (kk H locs ls hP hS hl)
  · cases hs
theorem am_s1_lt {i : Nat} {v : Value} (h : am_s1 L i v = some L') : i < L.length := by
  unfold am_s1 at h
  split at h
  · assumption
  · cases h
theorem am_s2_lt {i : Nat} {v : Value} (h : am_s2 L i v = some L') : i + 1 < L.length := by
  unfold am_s2 at h
  split at h
  · assumption
  · cases h
theorem am_sti_ok (C0 : am_Cx x own cc nL) {i n : Nat} {ins : Instr} (hins : (∃ k : Fin 4, ins = .istore_n k ∧ k.val = i ∧ n = 1) ∨ (ins = .istore i ∧ n = 2)) (hdec : decode cc pc = .ok (ins, n)) {r : am_S × Option Prop} (hs : am_sti L st g w i = some r)
    (kk : am_Ev x nL cs Q (pc + n) r.1.1 r.1.2.1 y r.1.2.2.1 r.1.2.2.2) : am_Ev x nL cs Q pc L st y g w := by
  unfold am_sti at hs
  split at hs
  · rename_i z r0
    split at hs
    · rename_i L1 hL1
      cases hs
      intro H locs ls hP hS hl
      have hlt : i < nL := Nat.lt_of_lt_of_le (am_s1_lt hL1) hl.2.2.1
      rcases hins with ⟨k, rfl, hk, rfl⟩ | ⟨rfl, rfl⟩
      · exact lv_istore_n C0.hx C0.hb hdec hk hl.has hlt rfl (fun ls2 hl2 => kk H locs ls2 hP hS (am_l.s1 hl.2.2.1 hL1 hl2))
      · exact lv_istore C0.hx C0.hb hdec hl.has hlt rfl (fun ls2 hl2 => kk H locs ls2 hP hS (am_l.s1 hl.2.2.1 hL1 hl2))
    · cases hs
  · cases hs
theorem am_sta_ok (C0 : am_Cx x own cc nL) {i n : Nat} {ins : Instr} (hins : (∃ k : Fin 4, ins = .astore_n k ∧ k.val = i ∧ n = 1) ∨ (ins = .astore i ∧ n = 2)) (hdec : decode cc pc = .ok (ins, n)) {r : am_S × Option Prop} (hs : am_sta L st g w i = some r)
    (kk : am_Ev x nL cs Q (pc + n) r.1.1 r.1.2.1 y r.1.2.2.1 r.1.2.2.2) : am_Ev x nL cs Q pc L st y g w := by
  unfold am_sta at hs
  split at hs
  · rename_i z r0
    split at hs
    · rename_i L1 hL1
      cases hs
      intro H locs ls hP hS hl
      have hlt : i < nL := Nat.lt_of_lt_of_le (am_s1_lt hL1) hl.2.2.1
      rcases hins with ⟨k, rfl, hk, rfl⟩ | ⟨rfl, rfl⟩
      · exact lv_astore_n C0.hx C0.hb hdec hk hl.has hlt rfl (fun ls2 hl2 => kk H locs ls2 hP hS (am_l.s1 hl.2.2.1 hL1 hl2))
      · exact lv_astore C0.hx C0.hb hdec hl.has hlt rfl (fun ls2 hl2 => kk H locs ls2 hP hS (am_l.s1 hl.2.2.1 hL1 hl2))
    · cases hs
  · cases hs
theorem am_stl_ok (C0 : am_Cx x own cc nL) {i n : Nat} {ins : Instr} (hins : (∃ k : Fin 4, ins = .lstore_n k ∧ k.val = i ∧ n = 1) ∨ (ins = .lstore i ∧ n = 2)) (hdec : decode cc pc = .ok (ins, n)) {r : am_S × Option Prop} (hs : am_stl L st g w i = some r)
    (kk : am_Ev x nL cs Q (pc + n) r.1.1 r.1.2.1 y r.1.2.2.1 r.1.2.2.2) : am_Ev x nL cs Q pc L st y g w := by
  unfold am_stl at hs
  split at hs
  · rename_i z r0
    split at hs
    · rename_i L1 hL1
      cases hs
      intro H locs ls hP hS hl
      have hlt : i + 1 < nL := Nat.lt_of_lt_of_le (am_s2_lt hL1) hl.2.2.1
      rcases hins with ⟨k, rfl, hk, rfl⟩ | ⟨rfl, rfl⟩
      · exact lv_lstore_n C0.hx C0.hb hdec hk hl.has hlt rfl (fun ls2 hl2 => kk H locs ls2 hP hS (am_l.s2 hl.2.2.1 hL1 hl2))
      · exact lv_lstore C0.hx C0.hb hdec hl.has hlt rfl (fun ls2 hl2 => kk H locs ls2 hP hS (am_l.s2 hl.2.2.1 hL1 hl2))
    · cases hs
  · cases hs
theorem am_inc_ok (C0 : am_Cx x own cc nL) {i : Nat} {n : Int} {v : Value} (hv : v = .int (Int32.ofInt n)) (hdec : decode cc pc = .ok (.iinc i n, 3)) {r : am_S × Option Prop} (hs : am_inc L st g w i v = some r)
    (kk : am_Ev x nL cs Q (pc + 3) r.1.1 r.1.2.1 y r.1.2.2.1 r.1.2.2.2) : am_Ev x nL cs Q pc L st y g w := by
  subst hv
  unfold am_inc at hs
  split at hs
  · rename_i z hz
    simp only at hs
    split at hs
    · rename_i L1 hL1
      cases hs
      intro H locs ls hP hS hl
      have hlt : i < nL := Nat.lt_of_lt_of_le (am_s1_lt hL1) hl.2.2.1
      obtain ⟨k, hk⟩ := List.getElem?_of_mem (am_as_mem (ad := am_xa x) (L := L) (q := (i, .int z)).mpr ⟨_, hz, rfl⟩)
      exact lv_iinc (v := z + Int32.ofInt n) C0.hx C0.hb hdec hl.has hk rfl hlt rfl (fun ls2 hl2 => kk H locs ls2 hP hS (am_l.s1 hl.2.2.1 hL1 hl2))
    · cases hs
  · cases hs
/-- arrays -/
theorem am_ald_ok (C0 : am_Cx x own cc nL) (hy : y.length ≤ 98) {t : Nat} {ins : Instr} (hins : (t = 0 ∧ ins = .iaload) ∨ (t = 1 ∧ ins = .baload) ∨ (t = 2 ∧ ins = .laload)) (hdec : decode cc pc = .ok (ins, 1)) {r : am_S × Option Prop} (hs : am_ald y t L st g w = some r) (hc : ∀ c, r.2 = some c → c)
    (kk : am_Ev x nL cs Q (pc + 1) r.1.1 r.1.2.1 y r.1.2.2.1 r.1.2.2.2) : am_Ev x nL cs Q pc L st y g w := by
  unfold am_ald at hs
  split at hs
  · rename_i j i r0
    split at hs
    · rename_i t' n hyi
      split at hs
      · rename_i ht
        subst ht
        cases hs
        have hin := hc _ rfl
        have hlt := (List.getElem?_eq_some_iff.mp hyi).1
        intro H locs ls hP hS hl
        have ha := am_ad_lt (base := am_ba x) (tt := am_tt x) (b := am_sc x) hlt hy
        have hw := am_w_at (c3 := am_c3 x) (ad := am_xa x) (base := am_ba x) (g := g) (w := w) hyi
        have k2 := kk H locs ls hP hS hl
        show W _ _ _ _ _ _ _ _ _ _ _ _ _ _ _ (F0 _ _ _ (.int j :: .ref (am_xa x i) :: _))
        rw [show am_xa x i = am_ba x + i from ha]
        rcases hins with ⟨rfl, rfl⟩ | ⟨rfl, rfl⟩ | ⟨rfl, rfl⟩
        · exact va_iald C0.hx C0.hb C0.hK hP.2 i 0 hw rfl hin hdec k2
        · exact va_zald C0.hx C0.hb C0.hK hP.2 i 1 hw rfl hin hdec k2
        · exact va_lald C0.hx C0.hb C0.hK hP.2 i 2 hw rfl hin hdec k2
      · cases hs
    · cases hs
  · cases hs
theorem am_len_ok (C0 : am_Cx x own cc nL) (hy : y.length ≤ 98) (hdec : decode cc pc = .ok (.arraylength, 1)) {r : am_S × Option Prop} (hs : am_len y L st g w = some r)
    (kk : am_Ev x nL cs Q (pc + 1) r.1.1 r.1.2.1 y r.1.2.2.1 r.1.2.2.2) : am_Ev x nL cs Q pc L st y g w := by
  unfold am_len at hs
  split at hs
  · rename_i i r0
    split at hs
    · rename_i t n hyi
      cases hs
      have hlt := (List.getElem?_eq_some_iff.mp hyi).1
      intro H locs ls hP hS hl
      have ha := am_ad_lt (base := am_ba x) (tt := am_tt x) (b := am_sc x) hlt hy
      have hw := am_w_at (c3 := am_c3 x) (ad := am_xa x) (base := am_ba x) (g := g) (w := w) hyi
      have k2 := kk H locs ls hP hS hl
      show W _ _ _ _ _ _ _ _ _ _ _ _ _ _ _ (F0 _ _ _ (.ref (am_xa x i) :: _))
      rw [show am_xa x i = am_ba x + i from ha]
      match t with
      | 0 => exact va_alen C0.hx C0.hb C0.hK hP.2 i 0 hw (ty := .int) rfl rfl hdec k2
      | 1 => exact va_alen C0.hx C0.hb C0.hK hP.2 i 1 hw (ty := .boolean) rfl rfl hdec k2
      | (t + 2) => exact va_alen C0.hx C0.hb C0.hK hP.2 i 2 hw (ty := .long) rfl rfl hdec k2
    · cases hs
  · cases hs
theorem am_P.put {D : va_G} {c3 : ClassId × ClassId × ClassId} {base tt b i : Nat} {sh : am_Sh} {e : va_E} {H H1 : Heap} (h0 : am_P D c3 base tt b y g w H) (hz : H1.size = H.size) (hP : va_P D vwCl ((am_w c3 (am_ad base tt b) base y g w).set i (base + i, e)) H1) (hi : y[i]? = some sh) (hg : ∀ a, a ≠ i → g' a = g a) (hw : ∀ a, a ≠ i → w' a = w a) (he : e = am_e c3 (am_ad base tt b) g' w' i sh) : am_P D c3 base tt b y g' w' H1 := by
  refine ⟨hz.trans h0.1, ?_⟩
  rw [am_w_set hi hg hw he] at hP
  exact hP
end AMS
end
section
/-! STORES: the kit's rows for stores once more, with the heap's size in the end -/
section AMT
variable {p : Program} {l : Launch} {e : Env} {R : Room} {s : State} {m : MethodId} {args : Array Value} {below : List Frame} {meth : Method} {c : Code} {H : Heap} {locs : List Loc} {cells slots : Nat} {Q : State → Prop}
variable {cc : ByteArray} {pc : Nat} {ls : Array Slot} {rest : List Value} {D : va_G} {cl : List vw_C} {A : Nat → Prop} {a : Nat} {tys : List (ClassId × FieldType)} {ws : va_W} {H0 : Heap}
theorem am_iastW (hexec : p.tables.exec = Jvm.exec) (hb : c.code = cc) (hK : va_K D cl tys s) (hP : va_P D cl ws H) (hD : va_D A ws) (hS : va_S A H0 H locs) (q0 t0 : Nat) {cA : ClassId} {n : Nat} {f : Nat → Int32} (ha : ws[q0]? = some (a, .inl (cA, n, .inl f))) (ht : tys[t0]? = some (cA, .int)) {i : Int32} {x : Int32} (hin : vp_in i n) (hdg : decode cc pc = .ok (.iastore, 1))
    (kk : ∀ (H1 : Heap) (locs1 : List Loc), H1.size = H.size → va_P D cl (ws.set q0 (a, .inl (cA, n, .inl (upd f i.toNatClampNeg x)))) H1 → va_S A H0 H1 locs1 → W p l e R s m args below meth c H1 locs1 cells slots Q (F0 m (pc + 1) ls rest)) : W p l e R s m args below meth c H locs cells slots Q (F0 m pc ls (.int x :: .int i :: .ref a :: rest)) := by
  refine W.iast hexec hb (hP q0 _ ha) ((hK.2 t0 _ ht).1 n (fun j => .int (f j))) (fun q => by cases q) (by show ¬ (i < 0 ∨ (arrV _ _ _).slots.size ≤ _); rw [arrV_size]; exact hin) rfl rfl hdg fun H1 e z oq => ?_
  refine kk H1 _ z (hP.set hD ha ?_ oq) (hS.put z oq (hD.2 q0 _ ha))
  show H1[a]? = some (vp_cell _ _)
  rw [e]
  rw [vp_cell_i, vp_cell_i, arrV_store]
  congr 2
  funext q
  by_cases hq : q = i.toNatClampNeg
  · subst hq
    simp [updV, upd]
  · simp [updV, upd, hq]
theorem am_zastW (hexec : p.tables.exec = Jvm.exec) (hb : c.code = cc) (hK : va_K D cl tys s) (hP : va_P D cl ws H) (hD : va_D A ws) (hS : va_S A H0 H locs) (q0 t0 : Nat) {cA : ClassId} {n : Nat} {f : Nat → Int32} (ha : ws[q0]? = some (a, .inl (cA, n, .inl f))) (ht : tys[t0]? = some (cA, .boolean)) {i : Int32} {x : Int32} (hin : vp_in i n) (hdg : decode cc pc = .ok (.bastore, 1))
    (kk : ∀ (H1 : Heap) (locs1 : List Loc), H1.size = H.size → va_P D cl (ws.set q0 (a, .inl (cA, n, .inl (upd f i.toNatClampNeg (vp_nar .boolean x))))) H1 → va_S A H0 H1 locs1 → W p l e R s m args below meth c H1 locs1 cells slots Q (F0 m (pc + 1) ls rest)) : W p l e R s m args below meth c H locs cells slots Q (F0 m pc ls (.int x :: .int i :: .ref a :: rest)) := by
  refine W.zast hexec hb (hP q0 _ ha) ((hK.2 t0 _ ht).1 n (fun j => .int (f j))) (fun q => by cases q) (by show ¬ (i < 0 ∨ (arrV _ _ _).slots.size ≤ _); rw [arrV_size]; exact hin) rfl rfl hdg fun H1 e z oq => ?_
  refine kk H1 _ z (hP.set hD ha ?_ oq) (hS.put z oq (hD.2 q0 _ ha))
  show H1[a]? = some (vp_cell _ _)
  rw [e]
  rw [vp_cell_i, vp_cell_i, arrV_store]
  congr 2
  funext q
  by_cases hq : q = i.toNatClampNeg
  · subst hq
    simp [updV, upd, vp_nar]
    try rfl
  · simp [updV, upd, hq]
theorem am_lastW (hexec : p.tables.exec = Jvm.exec) (hb : c.code = cc) (hK : va_K D cl tys s) (hP : va_P D cl ws H) (hD : va_D A ws) (hS : va_S A H0 H locs) (q0 t0 : Nat) {cA : ClassId} {n : Nat} {f : Nat → Int64} (ha : ws[q0]? = some (a, .inl (cA, n, .inr (.inl f)))) (ht : tys[t0]? = some (cA, .long)) {i : Int32} {x : Int64} (hin : vp_in i n) (hdg : decode cc pc = .ok (.lastore, 1))
    (kk : ∀ (H1 : Heap) (locs1 : List Loc), H1.size = H.size → va_P D cl (ws.set q0 (a, .inl (cA, n, .inr (.inl (vp_updL f i.toNatClampNeg x))))) H1 → va_S A H0 H1 locs1 → W p l e R s m args below meth c H1 locs1 cells slots Q (F0 m (pc + 1) ls rest)) : W p l e R s m args below meth c H locs cells slots Q (F0 m pc ls (.long x :: .int i :: .ref a :: rest)) := by
  refine W.last hexec hb (hP q0 _ ha) ((hK.2 t0 _ ht).1 n (fun j => .long (f j))) (fun q => by cases q) (by show ¬ (i < 0 ∨ (arrV _ _ _).slots.size ≤ _); rw [arrV_size]; exact hin) rfl rfl hdg fun H1 e z oq => ?_
  refine kk H1 _ z (hP.set hD ha ?_ oq) (hS.put z oq (hD.2 q0 _ ha))
  show H1[a]? = some (vp_cell _ _)
  rw [e]
  rw [vp_cell_l, vp_cell_l, arrV_store]
  congr 2
  funext q
  by_cases hq : q = i.toNatClampNeg
  · subst hq
    simp [updV, vp_updL]
  · simp [updV, vp_updL, hq]
theorem am_putW (hexec : p.tables.exec = Jvm.exec) (hb : c.code = cc) {own ref C : String} {T : u_T} {N ci index : Nat} {Ts : List Cond} (hts : ∀ w ∈ Ts, w.before args s = true) (hin : ∀ w ∈ u_ws C T N, w ∈ Ts) (ty0 : Nat → FieldType) (hty : ∀ k, k < N → parseFieldDescriptor (T k).2.2.1 = some (ty0 k)) (hnm : ∀ a, a < N → ∀ b, b < N → a ≠ b → (T a).2.1 ≠ (T b).2.1) (hown : s.vm.findClass own = some m.cls) (hK : va_K D cl tys s) (hP : va_P D cl ws H) (hD : va_D A ws) (hS0 : va_S A H0 H locs) (q0 : Nat) {fs : List Value} (he : ws[q0]? = some (a, .inr (ci, fs))) (hc : cl[ci]? = some (C, T, N)) (k : Nat) (hk : k < N) (hlink : (Cond.fieldLink own index ref (T k).2.1 (T k).2.2.1).before args s = true) (hsame : ∀ x, s.fieldFound? (T k).1 (T k).2.1 (T k).2.2.1 = some x → s.fieldFound? ref (T k).2.1 (T k).2.2.1 = some x) (hfin : (T k).2.2.2 = false) {ty : FieldType} {v : Value} (hd : parseFieldDescriptor (T k).2.2.1 = some ty) (hn : narrow ty v = v) (hfit : fits ty v = true) (hl : k < fs.length)
    (hdg : decode cc pc = .ok (.putfield index, 3)) (kk : ∀ (H1 : Heap) (locs1 : List Loc), H1.size = H.size → va_P D cl (ws.set q0 (a, .inr (ci, fs.set k v))) H1 → va_S A H0 H1 locs1 → W p l e R s m args below meth c H1 locs1 cells slots Q (F0 m (pc + 3) ls rest)) : W p l e R s m args below meth c H locs cells slots Q (F0 m pc ls (v :: .ref a :: rest)) := by
  have hap := va_apart (own := own) hts hin ty0 hty hnm hK hc
  obtain ⟨r, h1, cell, q1, q2, q3, q4⟩ := hP q0 _ he
  have hr : r = (C, T, N) := Option.some.inj (h1.symm.trans hc)
  subst hr
  obtain ⟨hS, hfc, kC, hkC, hkind⟩ := hK.1 ci _ hc
  obtain ⟨cf, kf, fi, f, hi, hsl⟩ := hS k hk
  have hlay := hts _ (hin _ (u_in_lay hk))
  unfold u_lay at hlay
  rw [if_neg (by rw [hfin]; decide)] at hlay
  have hst := (u_facts hfc hkC (u_lays hts hin hk) hi).1
  have h6 := u_store hfc hkC hkind hlay hi hd hn hfit
  refine W.putK hexec hb (f := f) ⟨hown, hlink, ⟨_, _, _, hsame _ hi⟩, hst⟩ (by rw [q2]; exact h6) q1 q3 (by rw [hsl]; exact k2_hasslot (q4 k hk)) rfl rfl hdg fun H' e1 e2 e3 => ?_
  rw [hsl] at e1 ⊢
  exact kk H' _ e2 (hP.set hD he ⟨_, hc, t_OB.to (V := updV (vp_V fs) k v) ⟨_, e1, q2, q3, t_set q4 hap hk v⟩ (fun j _ => vp_updV_set hl v j)⟩ e3) (hS0.put e2 e3 (hD.2 q0 _ he))
theorem am_putFW (hexec : p.tables.exec = Jvm.exec) (hb : c.code = cc) {own ref C : String} {T : u_T} {N ci index : Nat} {Ts : List Cond} (hts : ∀ w ∈ Ts, w.before args s = true) (hin : ∀ w ∈ u_ws C T N, w ∈ Ts) (ty0 : Nat → FieldType) (hty : ∀ k, k < N → parseFieldDescriptor (T k).2.2.1 = some (ty0 k)) (hnm : ∀ a, a < N → ∀ b, b < N → a ≠ b → (T a).2.1 ≠ (T b).2.1) (hown : s.vm.findClass own = some m.cls) (hK : va_K D cl tys s) (hP : va_P D cl ws H) (hD : va_D A ws) (hS0 : va_S A H0 H locs) (q0 : Nat) {fs : List Value} (he : ws[q0]? = some (a, .inr (ci, fs))) (hc : cl[ci]? = some (C, T, N)) (k : Nat) (hk : k < N) (hlink : (Cond.fieldLink own index ref (T k).2.1 (T k).2.2.1).before args s = true) (hsame : ∀ x, s.fieldFound? (T k).1 (T k).2.1 (T k).2.2.1 = some x → s.fieldFound? ref (T k).2.1 (T k).2.2.1 = some x) (hfin : (T k).2.2.2 = true) (hin2 : meth.name = "<init>") (hdecl : (T k).1 = own) {ty : FieldType} {v : Value} (hd : parseFieldDescriptor (T k).2.2.1 = some ty) (hn : narrow ty v = v) (hfit : fits ty v = true) (hl : k < fs.length)
    (hdg : decode cc pc = .ok (.putfield index, 3)) (kk : ∀ (H1 : Heap) (locs1 : List Loc), H1.size = H.size → va_P D cl (ws.set q0 (a, .inr (ci, fs.set k v))) H1 → va_S A H0 H1 locs1 → W p l e R s m args below meth c H1 locs1 cells slots Q (F0 m (pc + 3) ls rest)) : W p l e R s m args below meth c H locs cells slots Q (F0 m pc ls (v :: .ref a :: rest)) := by
  have hap := va_apart (own := own) hts hin ty0 hty hnm hK hc
  obtain ⟨r, h1, cell, q1, q2, q3, q4⟩ := hP q0 _ he
  have hr : r = (C, T, N) := Option.some.inj (h1.symm.trans hc)
  subst hr
  obtain ⟨hS, hfc, kC, hkC, hkind⟩ := hK.1 ci _ hc
  obtain ⟨cf, kf, fi, f, hi, hsl⟩ := hS k hk
  have hlay := hts _ (hin _ (u_in_lay hk))
  unfold u_lay at hlay
  rw [if_pos hfin] at hlay
  have hst := (u_facts hfc hkC (u_lays hts hin hk) hi).1
  have hcf : m.cls = cf := by
    obtain ⟨_, _, c', _, _, _, -, -, hf', -, -, -, hown2, -⟩ := Cond.laysFinal_spec hlay
    have e1 : c' = cf := by have := hi.symm.trans hf'; simp at this; exact this.1.symm
    rw [hdecl] at hown2
    rw [← e1]; exact Option.some.inj (hown.symm.trans hown2)
  have h6 := u_fits hfc hkC hkind (Or.inr hlay) hi hd hn hfit
  refine W.putFinK hexec hb hown hlink (hsame _ hi) hst hcf hin2 (by rw [q2]; exact h6) q1 q3 (by rw [hsl]; exact k2_hasslot (q4 k hk)) rfl rfl hdg fun H' e1 e2 e3 => ?_
  rw [hsl] at e1 ⊢
  exact kk H' _ e2 (hP.set hD he ⟨_, hc, t_OB.to (V := updV (vp_V fs) k v) ⟨_, e1, q2, q3, t_set q4 hap hk v⟩ (fun j _ => vp_updV_set hl v j)⟩ e3) (hS0.put e2 e3 (hD.2 q0 _ he))
end AMT
section AMU
variable {x : am_X} {own : Nat} {cc : ByteArray} {nL : Nat} {cs : Nat × Nat} {Q : State → Prop} {pc : Nat} {L L' : List (Option Value)} {st st' : List Value} {y : am_Y} {g g' : am_G} {w w' : am_J}
theorem am_u_self (g : am_G) (i j : Nat) (v : Int32) : am_u g i j v i = upd (g i) j v := by simp [am_u]
theorem am_ul_self (w : am_J) (i j : Nat) (v : Int64) : am_ul w i j v i = vp_updL (w i) j v := by simp [am_ul]
theorem am_ast_ok (C0 : am_Cx x own cc nL) (hy : y.length ≤ 98) {t : Nat} {ins : Instr} (hins : (t = 0 ∧ ins = .iastore) ∨ (t = 1 ∧ ins = .bastore)) (hdec : decode cc pc = .ok (ins, 1)) {r : am_S × Option Prop} (hs : am_ast y t L st g w = some r) (hc : ∀ c, r.2 = some c → c)
    (kk : am_Ev x nL cs Q (pc + 1) r.1.1 r.1.2.1 y r.1.2.2.1 r.1.2.2.2) : am_Ev x nL cs Q pc L st y g w := by
  unfold am_ast at hs
  split at hs
  · rename_i v j i r0
    split at hs
    · rename_i t' n hyi
      split at hs
      · rename_i ht
        subst ht
        cases hs
        have hin := hc _ rfl
        have hlt := (List.getElem?_eq_some_iff.mp hyi).1
        intro H locs ls hP hS hl
        have ha := am_ad_lt (base := am_ba x) (tt := am_tt x) (b := am_sc x) hlt hy
        have hw := am_w_at (c3 := am_c3 x) (ad := am_xa x) (base := am_ba x) (g := g) (w := w) hyi
        show W _ _ _ _ _ _ _ _ _ _ _ _ _ _ _ (F0 _ _ _ (.int v :: .int j :: .ref (am_xa x i) :: _))
        rw [show am_xa x i = am_ba x + i from ha]
        rcases hins with ⟨rfl, rfl⟩ | ⟨rfl, rfl⟩
        · refine am_iastW C0.hx C0.hb C0.hK hP.2 am_D hS i 0 hw rfl hin hdec (fun H1 locs1 z hP1 hS1 => kk H1 locs1 ls (hP.put z hP1 hyi am_u_ne (fun _ _ => rfl) ?_) hS1 hl)
          simp [am_e, am_u_self]
        · refine am_zastW C0.hx C0.hb C0.hK hP.2 am_D hS i 1 hw rfl hin hdec (fun H1 locs1 z hP1 hS1 => kk H1 locs1 ls (hP.put z hP1 hyi am_u_ne (fun _ _ => rfl) ?_) hS1 hl)
          simp [am_e, am_u_self]
      · cases hs
    · cases hs
  · cases hs
theorem am_lst_ok (C0 : am_Cx x own cc nL) (hy : y.length ≤ 98) (hdec : decode cc pc = .ok (.lastore, 1)) {r : am_S × Option Prop} (hs : am_lst y L st g w = some r) (hc : ∀ c, r.2 = some c → c)
    (kk : am_Ev x nL cs Q (pc + 1) r.1.1 r.1.2.1 y r.1.2.2.1 r.1.2.2.2) : am_Ev x nL cs Q pc L st y g w := by
  unfold am_lst at hs
  split at hs
  · rename_i v j i r0
    split at hs
    · rename_i n hyi
      cases hs
      have hin := hc _ rfl
      have hlt := (List.getElem?_eq_some_iff.mp hyi).1
      intro H locs ls hP hS hl
      have ha := am_ad_lt (base := am_ba x) (tt := am_tt x) (b := am_sc x) hlt hy
      have hw := am_w_at (c3 := am_c3 x) (ad := am_xa x) (base := am_ba x) (g := g) (w := w) hyi
      show W _ _ _ _ _ _ _ _ _ _ _ _ _ _ _ (F0 _ _ _ (.long v :: .int j :: .ref (am_xa x i) :: _))
      rw [show am_xa x i = am_ba x + i from ha]
      refine am_lastW C0.hx C0.hb C0.hK hP.2 am_D hS i 2 hw rfl hin hdec (fun H1 locs1 z hP1 hS1 => kk H1 locs1 ls (hP.put z hP1 hyi (fun _ _ => rfl) am_ul_ne ?_) hS1 hl)
      simp [am_e, am_ul_self]
    · cases hs
  · cases hs
theorem am_gf_ok (C0 : am_Cx x own cc nL) (hy : y.length ≤ 98) {ci k idx : Nat} (hf : am_flb own idx ci k = true) (hdec : decode cc pc = .ok (.getfield idx, 3)) {r : am_S × Option Prop} (hs : am_gf y ci k L st g w = some r)
    (kk : am_Ev x nL cs Q (pc + 3) r.1.1 r.1.2.1 y r.1.2.2.1 r.1.2.2.2) : am_Ev x nL cs Q pc L st y g w := by
  unfold am_gf at hs
  split at hs
  · rename_i i r0
    split at hs
    · rename_i c ks hyi
      split at hs
      · rename_i hc
        subst hc
        split at hs
        · rename_i d hd
          cases hs
          obtain ⟨h1, h2, h3⟩ := am_flb_ok hf
          have hlt := (List.getElem?_eq_some_iff.mp hyi).1
          intro H locs ls hP hS hl
          have ha := am_ad_lt (base := am_ba x) (tt := am_tt x) (b := am_sc x) hlt hy
          have hw := am_w_at (c3 := am_c3 x) (ad := am_xa x) (base := am_ba x) (g := g) (w := w) hyi
          show W _ _ _ _ _ _ _ _ _ _ _ _ _ _ _ (F0 _ _ _ (.ref (am_xa x i) :: _))
          rw [show am_xa x i = am_ba x + i from ha]
          exact va_get C0.hx C0.hb C0.hts (am_wic c h1) C0.hown C0.hK hP.2 i hw (am_clc c h1) k h2 (C0.hts _ h3) (fun _ h9 => h9) (am_fs_at hd) hdec (kk H locs ls hP hS hl)
        · cases hs
      · cases hs
    · cases hs
  · cases hs
theorem am_fs_len {ad : Nat → Nat} {i : Nat} {ks : List am_Kd} : (am_fs ad g w i ks).length = ks.length := by simp [am_fs]
theorem am_fs_set {ad : Nat → Nat} {i k : Nat} {ks : List am_Kd} {d : am_Kd} {v : Value} (hd : ks[k]? = some d) (hv : v = am_v ad (am_fv g' w' i k d)) (hg : ∀ j, j ≠ k → g' i j = g i j) (hw : ∀ j, j ≠ k → w' i j = w i j) : (am_fs ad g w i ks).set k v = am_fs ad g' w' i ks := by
  have hl := (List.getElem?_eq_some_iff.mp hd).1
  apply List.ext_getElem?
  intro j
  by_cases hj : j = k
  · subst hj
    rw [List.getElem?_set_self (by rw [am_fs_len]; exact hl), am_fs_at hd, hv]
  · rw [List.getElem?_set_ne (Ne.symm hj)]
    cases h : ks[j]? with
    | none =>
      have h1 : ks.length ≤ j := by simpa using h
      rw [List.getElem?_eq_none (by rw [am_fs_len]; exact h1), List.getElem?_eq_none (by rw [am_fs_len]; exact h1)]
    | some d2 =>
      rw [am_fs_at h, am_fs_at h]
      match d2 with
      | .inl 0 => simp [am_fv, hg j hj]
      | .inl (z + 1) => simp [am_fv, hw j hj]
      | .inr none => rfl
      | .inr (some r) => rfl
theorem am_pf_ok (C0 : am_Cx x own cc nL) (hy : y.length ≤ 98) {ci k idx : Nat} (hf : am_flb own idx ci k = true) (hwr : am_wr ci k = true) (hdec : decode cc pc = .ok (.putfield idx, 3)) {r : am_S × Option Prop} (hs : am_pf y ci k L st g w = some r)
    (kk : am_Ev x nL cs Q (pc + 3) r.1.1 r.1.2.1 y r.1.2.2.1 r.1.2.2.2) (hty : ∀ (i : Nat) (ks : List am_Kd), y[i]? = some (Sum.inr (ci, ks)) → (ks[k]? = some (Sum.inl 0) → am_yc ci k = .int) ∧ (ks[k]? = some (Sum.inl 1) → am_yc ci k = .long)) : am_Ev x nL cs Q pc L st y g w := by
  obtain ⟨h1, h2, h3⟩ := am_flb_ok hf
  simp only [am_wr, Bool.and_eq_true, Bool.not_eq_true'] at hwr
  unfold am_pf at hs
  split at hs
  · rename_i z i r0
    unfold am_pfi at hs
    split at hs
    · rename_i c ks hyi
      split at hs
      · rename_i hc
        subst hc
        split at hs
        · rename_i hd
          cases hs
          have hlt := (List.getElem?_eq_some_iff.mp hyi).1
          have hyc := (hty i ks hyi).1 hd
          intro H locs ls hP hS hl
          have ha := am_ad_lt (base := am_ba x) (tt := am_tt x) (b := am_sc x) hlt hy
          have hw := am_w_at (c3 := am_c3 x) (ad := am_xa x) (base := am_ba x) (g := g) (w := w) hyi
          show W _ _ _ _ _ _ _ _ _ _ _ _ _ _ _ (F0 _ _ _ (.int z :: .ref (am_xa x i) :: _))
          rw [show am_xa x i = am_ba x + i from ha]
          refine am_putW C0.hx C0.hb C0.hts (am_wic c h1) (am_yc c) (am_tyc c h1) (am_nmc c h1) C0.hown C0.hK hP.2 am_D hS i hw (am_clc c h1) k h2 (C0.hts _ h3) (fun _ h9 => h9) hwr.1 (am_tyc c h1 k h2) (by rw [hyc]; rfl) (by rw [hyc]; rfl) (by rw [am_fs_len]; exact (List.getElem?_eq_some_iff.mp hd).1) hdec (fun H1 locs1 hz hP1 hS1 => kk H1 locs1 ls (hP.put hz hP1 hyi am_u_ne (fun _ _ => rfl) ?_) hS1 hl)
          show (Sum.inr (c, _) : va_E) = Sum.inr (c, _)
          rw [am_fs_set (g' := am_u g i k z) (w' := w) hd (by simp [am_fv, am_v, am_u_at]) (fun j hj => by simp [am_u_at, hj]) (fun _ _ => rfl)]
        · cases hs
      · cases hs
    · cases hs
  · rename_i z i r0
    unfold am_pfl at hs
    split at hs
    · rename_i c ks hyi
      split at hs
      · rename_i hc
        subst hc
        split at hs
        · rename_i hd
          cases hs
          have hlt := (List.getElem?_eq_some_iff.mp hyi).1
          have hyc := (hty i ks hyi).2 hd
          intro H locs ls hP hS hl
          have ha := am_ad_lt (base := am_ba x) (tt := am_tt x) (b := am_sc x) hlt hy
          have hw := am_w_at (c3 := am_c3 x) (ad := am_xa x) (base := am_ba x) (g := g) (w := w) hyi
          show W _ _ _ _ _ _ _ _ _ _ _ _ _ _ _ (F0 _ _ _ (.long z :: .ref (am_xa x i) :: _))
          rw [show am_xa x i = am_ba x + i from ha]
          refine am_putW C0.hx C0.hb C0.hts (am_wic c h1) (am_yc c) (am_tyc c h1) (am_nmc c h1) C0.hown C0.hK hP.2 am_D hS i hw (am_clc c h1) k h2 (C0.hts _ h3) (fun _ h9 => h9) hwr.1 (am_tyc c h1 k h2) (by rw [hyc]; rfl) (by rw [hyc]; rfl) (by rw [am_fs_len]; exact (List.getElem?_eq_some_iff.mp hd).1) hdec (fun H1 locs1 hz hP1 hS1 => kk H1 locs1 ls (hP.put hz hP1 hyi (fun _ _ => rfl) am_ul_ne ?_) hS1 hl)
          show (Sum.inr (c, _) : va_E) = Sum.inr (c, _)
          rw [am_fs_set (g' := g) (w' := am_ul w i k z) hd (by simp [am_fv, am_v, am_ul_at]) (fun _ _ => rfl) (fun j hj => by simp [am_ul_at, hj])]
        · cases hs
      · cases hs
    · cases hs
  · cases hs
end AMU
end
section
/-! STRAIGHT RUNS -/
def am_yk (y : am_Y) : Bool := decide (y.length ≤ 98) && y.all (fun sh => match sh with
  | .inr (ci, ks) => ks.zipIdx.all (fun q => match q.1 with
    | .inl 0 => decide (am_yc ci q.2 = .int)
    | .inl 1 => decide (am_yc ci q.2 = .long)
    | _ => true)
  | _ => true)
theorem am_yk_len {y : am_Y} (h : am_yk y = true) : y.length ≤ 98 := by
  simp only [am_yk, Bool.and_eq_true, decide_eq_true_eq] at h
  exact h.1
theorem am_yk_ty {y : am_Y} (h : am_yk y = true) {ci k : Nat} : ∀ (i : Nat) (ks : List am_Kd), y[i]? = some (Sum.inr (ci, ks)) → (ks[k]? = some (Sum.inl 0) → am_yc ci k = .int) ∧ (ks[k]? = some (Sum.inl 1) → am_yc ci k = .long) := by
  simp only [am_yk, Bool.and_eq_true, decide_eq_true_eq] at h
  intro i ks hi
  have h1 := List.all_eq_true.mp h.2 _ (List.mem_of_getElem? hi)
  simp only at h1
  refine ⟨fun hk => ?_, fun hk => ?_⟩
  · have h2 := List.all_eq_true.mp h1 (Sum.inl 0, k) (List.mem_zipIdx_iff_getElem?.mpr hk)
    simpa using h2
  · have h2 := List.all_eq_true.mp h1 (Sum.inl 1, k) (List.mem_zipIdx_iff_getElem?.mpr hk)
    simpa using h2
section AMB
variable {x : am_X} {own : Nat} {cc : ByteArray} {nL : Nat} {cs : Nat × Nat} {Q : State → Prop} {pc : Nat} {L L' : List (Option Value)} {st st' : List Value} {y : am_Y} {g g' : am_G} {w w' : am_J}
theorem am_c1_cat {v : Value} (h : am_c1 v = true) : v.category = 1 := by
  cases v <;> first | rfl | (simp [am_c1] at h)
set_option maxHeartbeats 4000000 in
theorem am_one (C0 : am_Cx x own cc nL) (hy : am_yk y = true) (a : am_AI) (hdec : decode cc pc = .ok (a.1, am_ln a.1)) (hok : am_ok own a = true) {r : am_S × Option Prop} (hs : am_st y a L st g w = some r) (hc : ∀ c, r.2 = some c → c)
    (kk : am_Ev x nL cs Q (pc + am_ln a.1) r.1.1 r.1.2.1 y r.1.2.2.1 r.1.2.2.2) : am_Ev x nL cs Q pc L st y g w := by
  have hyl := am_yk_len hy
  obtain ⟨ins, ci, k, v⟩ := a
  have hx := C0.hx
  have hb := C0.hb
  cases ins <;> first | (cases hs; done) | skip
  case iconst n =>
    cases hs
    have hv : v = .int (Int32.ofInt n) := of_decide_eq_true hok
    subst hv
    exact fun H locs ls hP hS hl => lv_iconst hx hb hdec rfl (kk H locs ls hP hS hl)
  case bipush n =>
    cases hs
    have hv : v = .int (Int8.ofInt n).toInt32 := of_decide_eq_true hok
    subst hv
    exact fun H locs ls hP hS hl => lv_bipush hx hb hdec rfl (kk H locs ls hP hS hl)
  case sipush n =>
    cases hs
    have hv : v = .int (Int16.ofInt n).toInt32 := of_decide_eq_true hok
    subst hv
    exact fun H locs ls hP hS hl => lv_sipush hx hb hdec rfl (kk H locs ls hP hS hl)
  case lconst n =>
    cases hs
    have hv : v = .long (Int64.ofNat n.val) := of_decide_eq_true hok
    subst hv
    exact fun H locs ls hP hS hl => lv_lconst hx hb hdec rfl (kk H locs ls hP hS hl)
  case ldc_w idx =>
    cases hs
    obtain ⟨z, hz, hm⟩ := am_kcb_ok hok
    have hz : v = .int z := hz
    subst hz
    exact fun H locs ls hP hS hl => lv_ldcw hx hb C0.hown (C0.hts _ hm) hdec (kk H locs ls hP hS hl)
  case ldc2_w idx =>
    cases hs
    obtain ⟨z, hz, hm⟩ := am_klb_ok hok
    have hz : v = .long z := hz
    subst hz
    exact fun H locs ls hP hS hl => lv_ldc2 hx hb C0.hown (C0.hts _ hm) hdec (kk H locs ls hP hS hl)
  case iload_n i => exact am_ldi_ok C0 (Or.inl ⟨i, rfl, rfl, rfl⟩) hdec hs kk
  case iload i => exact am_ldi_ok C0 (Or.inr ⟨rfl, rfl⟩) hdec hs kk
  case lload_n i => exact am_ldl_ok C0 (Or.inl ⟨i, rfl, rfl, rfl⟩) hdec hs kk
  case lload i => exact am_ldl_ok C0 (Or.inr ⟨rfl, rfl⟩) hdec hs kk
  case aload_n i => exact am_lda_ok C0 (Or.inl ⟨i, rfl, rfl, rfl⟩) hdec hs kk
  case aload i => exact am_lda_ok C0 (Or.inr ⟨rfl, rfl⟩) hdec hs kk
  case istore_n i => exact am_sti_ok C0 (Or.inl ⟨i, rfl, rfl, rfl⟩) hdec hs kk
  case istore i => exact am_sti_ok C0 (Or.inr ⟨rfl, rfl⟩) hdec hs kk
  case lstore_n i => exact am_stl_ok C0 (Or.inl ⟨i, rfl, rfl, rfl⟩) hdec hs kk
  case lstore i => exact am_stl_ok C0 (Or.inr ⟨rfl, rfl⟩) hdec hs kk
  case astore_n i => exact am_sta_ok C0 (Or.inl ⟨i, rfl, rfl, rfl⟩) hdec hs kk
  case astore i => exact am_sta_ok C0 (Or.inr ⟨rfl, rfl⟩) hdec hs kk
  case iinc i n => exact am_inc_ok C0 (of_decide_eq_true hok) hdec hs kk
  case iadd => obtain ⟨s1, h1, rfl⟩ := am_mk_inv hs; obtain ⟨a, b, r, rfl, rfl⟩ := am_b_inv h1; exact fun H locs ls hP hS hl => lv_iadd hx hb hdec (kk H locs ls hP hS hl)
  case isub => obtain ⟨s1, h1, rfl⟩ := am_mk_inv hs; obtain ⟨a, b, r, rfl, rfl⟩ := am_b_inv h1; exact fun H locs ls hP hS hl => lv_isub hx hb hdec (kk H locs ls hP hS hl)
  case imul => obtain ⟨s1, h1, rfl⟩ := am_mk_inv hs; obtain ⟨a, b, r, rfl, rfl⟩ := am_b_inv h1; exact fun H locs ls hP hS hl => lv_imul hx hb hdec (kk H locs ls hP hS hl)
  case iand => obtain ⟨s1, h1, rfl⟩ := am_mk_inv hs; obtain ⟨a, b, r, rfl, rfl⟩ := am_b_inv h1; exact fun H locs ls hP hS hl => lv_iand hx hb hdec (kk H locs ls hP hS hl)
  case ior => obtain ⟨s1, h1, rfl⟩ := am_mk_inv hs; obtain ⟨a, b, r, rfl, rfl⟩ := am_b_inv h1; exact fun H locs ls hP hS hl => lv_ior hx hb hdec (kk H locs ls hP hS hl)
  case ixor => obtain ⟨s1, h1, rfl⟩ := am_mk_inv hs; obtain ⟨a, b, r, rfl, rfl⟩ := am_b_inv h1; exact fun H locs ls hP hS hl => lv_ixor hx hb hdec (kk H locs ls hP hS hl)
  case ishl => obtain ⟨s1, h1, rfl⟩ := am_mk_inv hs; obtain ⟨a, b, r, rfl, rfl⟩ := am_b_inv h1; exact fun H locs ls hP hS hl => lv_ishl hx hb hdec (kk H locs ls hP hS hl)
  case ishr => obtain ⟨s1, h1, rfl⟩ := am_mk_inv hs; obtain ⟨a, b, r, rfl, rfl⟩ := am_b_inv h1; exact fun H locs ls hP hS hl => lv_ishr hx hb hdec (kk H locs ls hP hS hl)
  case iushr => obtain ⟨s1, h1, rfl⟩ := am_mk_inv hs; obtain ⟨a, b, r, rfl, rfl⟩ := am_b_inv h1; exact fun H locs ls hP hS hl => lv_iushr hx hb hdec rfl (kk H locs ls hP hS hl)
  case ladd => obtain ⟨s1, h1, rfl⟩ := am_mk_inv hs; obtain ⟨a, b, r, rfl, rfl⟩ := am_bl_inv h1; exact fun H locs ls hP hS hl => lv_ladd hx hb hdec (kk H locs ls hP hS hl)
  case lsub => obtain ⟨s1, h1, rfl⟩ := am_mk_inv hs; obtain ⟨a, b, r, rfl, rfl⟩ := am_bl_inv h1; exact fun H locs ls hP hS hl => lv_lsub hx hb hdec (kk H locs ls hP hS hl)
  case lmul => obtain ⟨s1, h1, rfl⟩ := am_mk_inv hs; obtain ⟨a, b, r, rfl, rfl⟩ := am_bl_inv h1; exact fun H locs ls hP hS hl => lv_lmul hx hb hdec (kk H locs ls hP hS hl)
  case land => obtain ⟨s1, h1, rfl⟩ := am_mk_inv hs; obtain ⟨a, b, r, rfl, rfl⟩ := am_bl_inv h1; exact fun H locs ls hP hS hl => lv_land hx hb hdec (kk H locs ls hP hS hl)
  case lor => obtain ⟨s1, h1, rfl⟩ := am_mk_inv hs; obtain ⟨a, b, r, rfl, rfl⟩ := am_bl_inv h1; exact fun H locs ls hP hS hl => lv_lor hx hb hdec (kk H locs ls hP hS hl)
  case lshl => obtain ⟨s1, h1, rfl⟩ := am_mk_inv hs; obtain ⟨a, b, r, rfl, rfl⟩ := am_bs_inv h1; exact fun H locs ls hP hS hl => lv_lshl hx hb hdec rfl (kk H locs ls hP hS hl)
  case lushr => obtain ⟨s1, h1, rfl⟩ := am_mk_inv hs; obtain ⟨a, b, r, rfl, rfl⟩ := am_bs_inv h1; exact fun H locs ls hP hS hl => lv_lushr hx hb hdec rfl (kk H locs ls hP hS hl)
  case idiv =>
    replace hs : am_dv _ L st g w = some r := hs
    unfold am_dv at hs
    split at hs
    · cases hs
      exact fun H locs ls hP hS hl => lv_idiv hx hb hdec (hc _ rfl) (kk H locs ls hP hS hl)
    · cases hs
  case irem =>
    replace hs : am_dv _ L st g w = some r := hs
    unfold am_dv at hs
    split at hs
    · cases hs
      exact fun H locs ls hP hS hl => lv_irem hx hb hdec (hc _ rfl) (kk H locs ls hP hS hl)
    · cases hs
  case ldiv =>
    replace hs : am_dvl _ L st g w = some r := hs
    unfold am_dvl at hs
    split at hs
    · cases hs
      exact fun H locs ls hP hS hl => lv_ldiv hx hb hdec (hc _ rfl) (kk H locs ls hP hS hl)
    · cases hs
  case lrem =>
    replace hs : am_dvl _ L st g w = some r := hs
    unfold am_dvl at hs
    split at hs
    · cases hs
      exact fun H locs ls hP hS hl => lv_lrem hx hb hdec (hc _ rfl) (kk H locs ls hP hS hl)
    · cases hs
  case ineg =>
    obtain ⟨s1, h1, rfl⟩ := am_mk_inv hs
    unfold am_i1 at h1
    split at h1
    · cases h1
      exact fun H locs ls hP hS hl => lv_ineg hx hb hdec (kk H locs ls hP hS hl)
    · cases h1
  case i2l =>
    obtain ⟨s1, h1, rfl⟩ := am_mk_inv hs
    unfold am_i1 at h1
    split at h1
    · cases h1
      exact fun H locs ls hP hS hl => lv_i2l hx hb hdec rfl (kk H locs ls hP hS hl)
    · cases h1
  case l2i =>
    obtain ⟨s1, h1, rfl⟩ := am_mk_inv hs
    unfold am_l1 at h1
    split at h1
    · cases h1
      exact fun H locs ls hP hS hl => lv_l2i hx hb hdec rfl (kk H locs ls hP hS hl)
    · cases h1
  case lcmp =>
    obtain ⟨s1, h1, rfl⟩ := am_mk_inv hs
    unfold am_lc at h1
    split at h1
    · cases h1
      exact fun H locs ls hP hS hl => W.lcmp hx hb hdec (kk H locs ls hP hS hl)
    · cases h1
  case dup =>
    obtain ⟨s1, h1, rfl⟩ := am_mk_inv hs
    unfold am_dup at h1
    split at h1
    · rename_i v0 r0
      split at h1
      · rename_i h2
        cases h1
        exact fun H locs ls hP hS hl => lv_dup hx hb hdec (by rw [am_v_cat]; exact am_c1_cat h2) (kk H locs ls hP hS hl)
      · cases h1
    · cases h1
  case pop =>
    obtain ⟨s1, h1, rfl⟩ := am_mk_inv hs
    unfold am_pop at h1
    split at h1
    · rename_i v0 r0
      split at h1
      · rename_i h2
        cases h1
        exact fun H locs ls hP hS hl => lv_pop hx hb hdec (by rw [am_v_cat]; exact am_c1_cat h2) (kk H locs ls hP hS hl)
      · cases h1
    · cases h1
  case dup2 =>
    obtain ⟨s1, h1, rfl⟩ := am_mk_inv hs
    unfold am_dup2 at h1
    split at h1
    · rename_i v0 u0 r0
      split at h1
      · rename_i h2
        simp only [Bool.and_eq_true] at h2
        cases h1
        exact fun H locs ls hP hS hl => lv_dup2_11 hx hb hdec (by rw [am_v_cat]; exact am_c1_cat h2.1) (by rw [am_v_cat]; exact am_c1_cat h2.2) (kk H locs ls hP hS hl)
      · cases h1
    · cases h1
  case iaload => exact am_ald_ok C0 hyl (Or.inl ⟨rfl, rfl⟩) hdec hs hc kk
  case baload => exact am_ald_ok C0 hyl (Or.inr (Or.inl ⟨rfl, rfl⟩)) hdec hs hc kk
  case laload => exact am_ald_ok C0 hyl (Or.inr (Or.inr ⟨rfl, rfl⟩)) hdec hs hc kk
  case iastore => exact am_ast_ok C0 hyl (Or.inl ⟨rfl, rfl⟩) hdec hs hc kk
  case bastore => exact am_ast_ok C0 hyl (Or.inr ⟨rfl, rfl⟩) hdec hs hc kk
  case lastore => exact am_lst_ok C0 hyl hdec hs hc kk
  case arraylength => exact am_len_ok C0 hyl hdec hs kk
  case getfield idx => exact am_gf_ok C0 hyl hok hdec hs kk
  case putfield idx =>
    have hok2 : (am_flb own idx ci k && am_wr ci k) = true := hok
    simp only [Bool.and_eq_true] at hok2
    exact am_pf_ok C0 hyl hok2.1 hok2.2 hdec hs kk (am_yk_ty hy)
end AMB
end
section
/-! RUNS OF INSTRUCTIONS, JUMPS, RETURNS, CALLS -/
def am_run (y : am_Y) : List am_AI → List (Option Value) → List Value → am_G → am_J → Option (am_S × List Prop)
  | [], L, st, g, w => some ((L, st, g, w), [])
  | a :: is, L, st, g, w => match am_st y a L st g w with
    | none => none
    | some (s, none) => am_run y is s.1 s.2.1 s.2.2.1 s.2.2.2
    | some (s, some c) => match am_run y is s.1 s.2.1 s.2.2.1 s.2.2.2 with
      | none => none
      | some (s2, cl) => some (s2, c :: cl)
def am_all : List Prop → Prop
  | [] => True
  | c :: cl => c ∧ am_all cl
def am_dec (cc : ByteArray) (pc : Nat) (ins : Instr) (n : Nat) : Bool := match decode cc pc with
  | .ok (i, k) => decide (i = ins) && k == n
  | .error _ => false
theorem am_dec_ok {cc : ByteArray} {pc : Nat} {ins : Instr} {n : Nat} (h : am_dec cc pc ins n = true) : decode cc pc = .ok (ins, n) := by
  unfold am_dec at h
  split at h
  · rename_i i k hi
    simp only [Bool.and_eq_true, decide_eq_true_eq, beq_iff_eq] at h
    rw [hi, h.1, h.2]
  · cases h
def am_ck (own : Nat) (cc : ByteArray) : Nat → List am_AI → Nat → Bool
  | pc, [], e => pc == e
  | pc, a :: is, e => am_dec cc pc a.1 (am_ln a.1) && (am_ok own a && am_ck own cc (pc + am_ln a.1) is e)
abbrev am_Cm (x : am_X) (own : Nat) (cc : ByteArray) (nL : Nat) (ret : Option FieldType) : Prop := am_Cx x own cc nL ∧ (am_me x).sig.returnType = ret
def am_Qc (D : va_G) (c3 : ClassId × ClassId × ClassId) (base tt b : Nat) (ro : Option Value) (y : am_Y) (g : am_G) (w : am_J) : Array Value → State → Outcome → State → Prop := fun _ st oc t => oc = .returned (ro.map (am_v (am_ad base tt b))) ∧ am_P D c3 base tt b y g w t.heap ∧ va_F (fun q => base ≤ q) st t
def am_Q (x : am_X) (cs : Nat × Nat) (ro : Option Value) (y : am_Y) (g : am_G) (w : am_J) : State → Prop := MQ (am_bw x) (am_Qc (am_Dg x) (am_c3 x) (am_ba x) (am_tt x) (am_sc x) ro y g w) (am_a x) (am_s x) cs.1 cs.2 (fun q => am_ba x ≤ q)
def am_Pc (D : va_G) (c3 : ClassId × ClassId × ClassId) (base tt b : Nat) (av : List Value) (y : am_Y) (g : am_G) (w : am_J) : Array Value → State → Prop :=
  va_Pc (av.map (am_v (am_ad base tt b))) (fun U => am_P D c3 base tt b y g w U.heap ∧ va_K D vwCl (am_ty c3) U ∧ am_T base tt U ∧ am_N U)
/-- a method: its name, code, locals, answer -/
abbrev am_MI : Type := MethodName × ByteArray × Nat × Option FieldType
abbrev am_cw (mi : am_MI) : Cond := .code mi.1 mi.2.1 mi.2.2.1 mi.2.2.2
def am_Met (l : Launch) (mi : am_MI) (rm : Room) (av : List Value) (y : am_Y) (g : am_G) (w : am_J) (ro : Option Value) (y' : am_Y) (g' : am_G) (w' : am_J) : Prop :=
  ∀ (D : va_G) (c3 : ClassId × ClassId × ClassId) (base tt b : Nat), Met l mi.1 (am_cw mi :: am_tbl) rm (am_Pc D c3 base tt b av y g w) (am_Qc D c3 base tt b ro y' g' w') rm.cells rm.slots (fun q => base ≤ q)
section AMF
variable {x : am_X} {own : Nat} {cc : ByteArray} {nL : Nat} {cs : Nat × Nat} {Q : State → Prop} {pc : Nat} {L L' : List (Option Value)} {st st' : List Value} {y y' : am_Y} {g g' : am_G} {w w' : am_J} {ret : Option FieldType}
theorem am_blk (C0 : am_Cx x own cc nL) (hy : am_yk y = true) (is : List am_AI) : ∀ (pc pc2 : Nat) (L : List (Option Value)) (st : List Value) (g : am_G) (w : am_J) (L' : List (Option Value)) (st' : List Value) (g' : am_G) (w' : am_J) (cl : List Prop), am_ck own cc pc is pc2 = true → am_run y is L st g w = some ((L', st', g', w'), cl) → am_all cl → am_Ev x nL cs Q pc2 L' st' y g' w' → am_Ev x nL cs Q pc L st y g w := by
  induction is with
  | nil =>
    intro pc pc2 L st g w L' st' g' w' cl hck hr hc kk
    have h1 : pc = pc2 := by simpa [am_ck] using hck
    cases hr
    rw [h1]
    exact kk
  | cons a is ih =>
    intro pc pc2 L st g w L' st' g' w' cl hck hr hc kk
    simp only [am_ck, Bool.and_eq_true] at hck
    obtain ⟨h1, h2, h3⟩ := hck
    unfold am_run at hr
    split at hr
    · cases hr
    · rename_i s hs
      exact am_one C0 hy a (am_dec_ok h1) h2 hs (fun c hc => by cases hc) (ih _ _ _ _ _ _ _ _ _ _ _ h3 hr hc kk)
    · rename_i s c hs
      split at hr
      · cases hr
      · rename_i s2 cl2 hr2
        simp only [Option.some.injEq, Prod.mk.injEq] at hr
        obtain ⟨rfl, rfl⟩ := hr
        exact am_one C0 hy a (am_dec_ok h1) h2 hs (fun c' hc' => by cases hc'; exact hc.1) (ih _ _ _ _ _ _ _ _ _ _ _ h3 hr2 hc.2 kk)
/-- a run of straight instructions -/
theorem am_b1 (C0 : am_Cm x own cc nL ret) (hy : am_yk y = true) {pc pc2 : Nat} (is : List am_AI) {cl : List Prop} (hck : am_ck own cc pc is pc2 = true) (hr : am_run y is L st g w = some ((L', st', g', w'), cl)) (hc : am_all cl) (kk : am_Ev x nL cs Q pc2 L' st' y g' w') : am_Ev x nL cs Q pc L st y g w :=
  am_blk C0.1 hy is pc pc2 L st g w L' st' g' w' cl hck hr hc kk
/-- fewer locals -/
def am_le : List (Option Value) → List (Option Value) → Prop
  | [], _ => True
  | none :: l, _ :: m => am_le l m
  | none :: l, [] => am_le l []
  | some v :: l, some u :: m => v = u ∧ am_le l m
  | some _ :: _, _ => False
theorem am_le_at : ∀ (M L : List (Option Value)), am_le M L → ∀ (i : Nat) (v : Value), M[i]? = some (some v) → L[i]? = some (some v)
  | [], _, _, i, v, hv => by simp at hv
  | none :: l, [], h, i, v, hv => by
    cases i with
    | zero => simp at hv
    | succ i => have := am_le_at l [] h i v (by simpa using hv); simp at this
  | none :: l, _ :: m, h, i, v, hv => by
    cases i with
    | zero => simp at hv
    | succ i => simpa using am_le_at l m h i v (by simpa using hv)
  | some a :: l, some b :: m, h, i, v, hv => by
    obtain ⟨rfl, h⟩ := h
    cases i with
    | zero => simpa using hv
    | succ i => simpa using am_le_at l m h i v (by simpa using hv)
  | some a :: l, none :: m, h, i, v, hv => by cases h
  | some a :: l, [], h, i, v, hv => by cases h
theorem am_wk (M : List (Option Value)) (hm : am_le M L) (hlen : M.length = L.length) (kk : am_Ev x nL cs Q pc M st y g w) : am_Ev x nL cs Q pc L st y g w :=
  fun H locs ls hP hS hl => kk H locs ls hP hS ⟨hl.1, hl.2.1, by rw [hlen]; exact hl.2.2.1, fun i v hv => hl.2.2.2 i v (am_le_at M L hm i v hv)⟩
def am_j2 (cc : ByteArray) (pc : Nat) (ins : Int → Instr) (off : Int) (tgt : Nat) : Bool := am_dec cc pc (ins off) 3 && decide ((pc : Int) + off = (tgt : Int))
theorem am_j2_ok {ins : Int → Instr} {off : Int} {tgt : Nat} (h : am_j2 cc pc ins off tgt = true) : decode cc pc = .ok (ins off, 3) ∧ (pc : Int) + off = (tgt : Int) := by
  simp only [am_j2, Bool.and_eq_true, decide_eq_true_eq] at h
  exact ⟨am_dec_ok h.1, h.2⟩
variable {off : Int} {tgt : Nat} {a b : Int32}
theorem am_goto (C0 : am_Cm x own cc nL ret) (hj : am_j2 cc pc .goto off tgt = true) (kk : am_Ev x nL cs Q tgt L st y g w) : am_Ev x nL cs Q pc L st y g w :=
  fun H locs ls hP hS hl => lv_goto C0.1.hx C0.1.hb (am_j2_ok hj).1 (am_j2_ok hj).2 (kk H locs ls hP hS hl)
theorem am_if_eq (C0 : am_Cm x own cc nL ret) (hj : am_j2 cc pc (.ifCond .eq) off tgt = true) (kt : a = 0 → am_Ev x nL cs Q tgt L st y g w) (kf : ¬ a = 0 → am_Ev x nL cs Q (pc + 3) L st y g w) : am_Ev x nL cs Q pc L (.int a :: st) y g w :=
  fun H locs ls hP hS hl => lv_if_eq C0.1.hx C0.1.hb (am_j2_ok hj).1 (am_j2_ok hj).2 (fun h => kt h H locs ls hP hS hl) (fun h => kf h H locs ls hP hS hl)
theorem am_if_ne (C0 : am_Cm x own cc nL ret) (hj : am_j2 cc pc (.ifCond .ne) off tgt = true) (kt : ¬ a = 0 → am_Ev x nL cs Q tgt L st y g w) (kf : a = 0 → am_Ev x nL cs Q (pc + 3) L st y g w) : am_Ev x nL cs Q pc L (.int a :: st) y g w :=
  fun H locs ls hP hS hl => lv_if_ne C0.1.hx C0.1.hb (am_j2_ok hj).1 (am_j2_ok hj).2 (fun h => kt h H locs ls hP hS hl) (fun h => kf h H locs ls hP hS hl)
theorem am_if_lt (C0 : am_Cm x own cc nL ret) (hj : am_j2 cc pc (.ifCond .lt) off tgt = true) (kt : a < 0 → am_Ev x nL cs Q tgt L st y g w) (kf : ¬ a < 0 → am_Ev x nL cs Q (pc + 3) L st y g w) : am_Ev x nL cs Q pc L (.int a :: st) y g w :=
  fun H locs ls hP hS hl => lv_if_lt C0.1.hx C0.1.hb (am_j2_ok hj).1 (am_j2_ok hj).2 (fun h => kt h H locs ls hP hS hl) (fun h => kf h H locs ls hP hS hl)
theorem am_if_ge (C0 : am_Cm x own cc nL ret) (hj : am_j2 cc pc (.ifCond .ge) off tgt = true) (kt : 0 ≤ a → am_Ev x nL cs Q tgt L st y g w) (kf : ¬ 0 ≤ a → am_Ev x nL cs Q (pc + 3) L st y g w) : am_Ev x nL cs Q pc L (.int a :: st) y g w :=
  fun H locs ls hP hS hl => lv_if_ge C0.1.hx C0.1.hb (am_j2_ok hj).1 (am_j2_ok hj).2 (fun h => kt h H locs ls hP hS hl) (fun h => kf h H locs ls hP hS hl)
theorem am_if_gt (C0 : am_Cm x own cc nL ret) (hj : am_j2 cc pc (.ifCond .gt) off tgt = true) (kt : 0 < a → am_Ev x nL cs Q tgt L st y g w) (kf : ¬ 0 < a → am_Ev x nL cs Q (pc + 3) L st y g w) : am_Ev x nL cs Q pc L (.int a :: st) y g w :=
  fun H locs ls hP hS hl => lv_if_gt C0.1.hx C0.1.hb (am_j2_ok hj).1 (am_j2_ok hj).2 (fun h => kt h H locs ls hP hS hl) (fun h => kf h H locs ls hP hS hl)
theorem am_if_le (C0 : am_Cm x own cc nL ret) (hj : am_j2 cc pc (.ifCond .le) off tgt = true) (kt : a ≤ 0 → am_Ev x nL cs Q tgt L st y g w) (kf : ¬ a ≤ 0 → am_Ev x nL cs Q (pc + 3) L st y g w) : am_Ev x nL cs Q pc L (.int a :: st) y g w :=
  fun H locs ls hP hS hl => lv_if_le C0.1.hx C0.1.hb (am_j2_ok hj).1 (am_j2_ok hj).2 (fun h => kt h H locs ls hP hS hl) (fun h => kf h H locs ls hP hS hl)
theorem am_icmp_eq (C0 : am_Cm x own cc nL ret) (hj : am_j2 cc pc (.if_icmp .eq) off tgt = true) (kt : a = b → am_Ev x nL cs Q tgt L st y g w) (kf : ¬ a = b → am_Ev x nL cs Q (pc + 3) L st y g w) : am_Ev x nL cs Q pc L (.int b :: .int a :: st) y g w :=
  fun H locs ls hP hS hl => lv_icmp_eq C0.1.hx C0.1.hb (am_j2_ok hj).1 (am_j2_ok hj).2 (fun h => kt h H locs ls hP hS hl) (fun h => kf h H locs ls hP hS hl)
theorem am_icmp_ne (C0 : am_Cm x own cc nL ret) (hj : am_j2 cc pc (.if_icmp .ne) off tgt = true) (kt : ¬ a = b → am_Ev x nL cs Q tgt L st y g w) (kf : a = b → am_Ev x nL cs Q (pc + 3) L st y g w) : am_Ev x nL cs Q pc L (.int b :: .int a :: st) y g w :=
  fun H locs ls hP hS hl => lv_icmp_ne C0.1.hx C0.1.hb (am_j2_ok hj).1 (am_j2_ok hj).2 (fun h => kt h H locs ls hP hS hl) (fun h => kf h H locs ls hP hS hl)
theorem am_icmp_lt (C0 : am_Cm x own cc nL ret) (hj : am_j2 cc pc (.if_icmp .lt) off tgt = true) (kt : a < b → am_Ev x nL cs Q tgt L st y g w) (kf : ¬ a < b → am_Ev x nL cs Q (pc + 3) L st y g w) : am_Ev x nL cs Q pc L (.int b :: .int a :: st) y g w :=
  fun H locs ls hP hS hl => lv_icmp_lt C0.1.hx C0.1.hb (am_j2_ok hj).1 (am_j2_ok hj).2 (fun h => kt h H locs ls hP hS hl) (fun h => kf h H locs ls hP hS hl)
theorem am_icmp_ge (C0 : am_Cm x own cc nL ret) (hj : am_j2 cc pc (.if_icmp .ge) off tgt = true) (kt : b ≤ a → am_Ev x nL cs Q tgt L st y g w) (kf : ¬ b ≤ a → am_Ev x nL cs Q (pc + 3) L st y g w) : am_Ev x nL cs Q pc L (.int b :: .int a :: st) y g w :=
  fun H locs ls hP hS hl => lv_icmp_ge C0.1.hx C0.1.hb (am_j2_ok hj).1 (am_j2_ok hj).2 (fun h => kt h H locs ls hP hS hl) (fun h => kf h H locs ls hP hS hl)
theorem am_icmp_gt (C0 : am_Cm x own cc nL ret) (hj : am_j2 cc pc (.if_icmp .gt) off tgt = true) (kt : b < a → am_Ev x nL cs Q tgt L st y g w) (kf : ¬ b < a → am_Ev x nL cs Q (pc + 3) L st y g w) : am_Ev x nL cs Q pc L (.int b :: .int a :: st) y g w :=
  fun H locs ls hP hS hl => lv_icmp_gt C0.1.hx C0.1.hb (am_j2_ok hj).1 (am_j2_ok hj).2 (fun h => kt h H locs ls hP hS hl) (fun h => kf h H locs ls hP hS hl)
theorem am_icmp_le (C0 : am_Cm x own cc nL ret) (hj : am_j2 cc pc (.if_icmp .le) off tgt = true) (kt : a ≤ b → am_Ev x nL cs Q tgt L st y g w) (kf : ¬ a ≤ b → am_Ev x nL cs Q (pc + 3) L st y g w) : am_Ev x nL cs Q pc L (.int b :: .int a :: st) y g w :=
  fun H locs ls hP hS hl => lv_icmp_le C0.1.hx C0.1.hb (am_j2_ok hj).1 (am_j2_ok hj).2 (fun h => kt h H locs ls hP hS hl) (fun h => kf h H locs ls hP hS hl)
/-- a switch: the place that a value goes to -/
def am_sw (cc : ByteArray) (pc n : Nat) (dflt lo hi : Int) (offs : Array Int) : Bool := am_dec cc pc (.tableswitch dflt lo hi offs) n
theorem am_swOut (C0 : am_Cm x own cc nL ret) {n : Nat} {dflt lo hi : Int} {offs : Array Int} (hj : am_sw cc pc n dflt lo hi offs = true) (h : a.toInt < lo ∨ hi < a.toInt) (ht : (pc : Int) + dflt = (tgt : Int)) (kk : am_Ev x nL cs Q tgt L st y g w) : am_Ev x nL cs Q pc L (.int a :: st) y g w :=
  fun H locs ls hP hS hl => lv_tableOut C0.1.hx C0.1.hb (am_dec_ok hj) h ht (kk H locs ls hP hS hl)
theorem am_swIn (C0 : am_Cm x own cc nL ret) {n : Nat} {dflt lo hi : Int} {offs : Array Int} (hj : am_sw cc pc n dflt lo hi offs = true) (h1 : ¬ a.toInt < lo) (h2 : ¬ hi < a.toInt) (ho : offs[(a.toInt - lo).toNat]? = some off) (ht : (pc : Int) + off = (tgt : Int)) (kk : am_Ev x nL cs Q tgt L st y g w) : am_Ev x nL cs Q pc L (.int a :: st) y g w :=
  fun H locs ls hP hS hl => lv_tableIn C0.1.hx C0.1.hb (am_dec_ok hj) h1 h2 ho ht (kk H locs ls hP hS hl)
/-- returns -/
theorem am_iret (C0 : am_Cm x own cc nL (some .int)) (hd : am_dec cc pc .ireturn 1 = true) : am_Ev x nL cs (am_Q x cs (some (.int a)) y g w) pc L [.int a] y g w :=
  fun H locs ls hP hS hl => W.iret C0.1.hx C0.1.hb C0.2 (fun t ht hW => ⟨rfl, by rw [ht]; exact hP, hS.F ht⟩) hS.2.2 (am_dec_ok hd) C0.1.hlk
theorem am_zret (C0 : am_Cm x own cc nL (some .boolean)) (hd : am_dec cc pc .ireturn 1 = true) (hz : a = 0 ∨ a = 1) : am_Ev x nL cs (am_Q x cs (some (.int a)) y g w) pc L [.int a] y g w :=
  fun H locs ls hP hS hl => W.zret C0.1.hx C0.1.hb C0.2 (by rcases hz with rfl | rfl <;> rfl) (fun t ht hW => ⟨rfl, by rw [ht]; exact hP, hS.F ht⟩) hS.2.2 (am_dec_ok hd) C0.1.hlk
theorem am_lret (C0 : am_Cm x own cc nL (some .long)) {a : Int64} (hd : am_dec cc pc .lreturn 1 = true) : am_Ev x nL cs (am_Q x cs (some (.long a)) y g w) pc L [.long a] y g w :=
  fun H locs ls hP hS hl => W.lret C0.1.hx C0.1.hb C0.2 (fun t ht hW => ⟨rfl, by rw [ht]; exact hP, hS.F ht⟩) hS.2.2 (am_dec_ok hd) C0.1.hlk
theorem am_vret (C0 : am_Cm x own cc nL none) (hd : am_dec cc pc .return_ 1 = true) : am_Ev x nL cs (am_Q x cs none y g w) pc L [] y g w :=
  fun H locs ls hP hS hl => W.vret C0.1.hx C0.1.hb C0.2 (fun t ht hW => ⟨rfl, by rw [ht]; exact hP, hS.F ht⟩) hS.2.2 (am_dec_ok hd) C0.1.hlk
theorem am_widen {k n : Nat} (h1 : cs.1 ≤ k) (h2 : cs.2 ≤ n) (kk : am_Ev x nL (k, n) Q pc L st y g w) : am_Ev x nL cs Q pc L st y g w :=
  fun H locs ls hP hS hl => W.widen h1 h2 (kk H locs ls hP hS hl)
end AMF
/-- the locals at a method's entry -/
def am_L0 : List Value → List (Option Value)
  | [] => []
  | v :: vs => if v.category = 2 then some v :: none :: am_L0 vs else some v :: am_L0 vs
theorem am_L0_at (ad : Nat → Nat) : ∀ (vs : List Value) (n i : Nat) (v : Value), (am_L0 vs)[i]? = some (some v) → (n + i, am_v ad v) ∈ lv_args n (vs.map (am_v ad))
  | [], n, i, v, h => by simp [am_L0] at h
  | a :: vs, n, i, v, h => by
    simp only [List.map_cons, lv_args, am_v_cat]
    unfold am_L0 at h
    by_cases hc : a.category = 2
    · rw [if_pos hc] at h
      match i with
      | 0 => simp only [List.getElem?_cons_zero, Option.some.injEq] at h; subst h; exact List.mem_cons_self
      | 1 => simp at h
      | i + 2 =>
        rw [if_pos hc]
        have := am_L0_at ad vs (n + 2) i v (by simpa using h)
        rw [show n + (i + 2) = n + 2 + i by omega]
        exact List.mem_cons_of_mem _ this
    · rw [if_neg hc] at h
      match i with
      | 0 => simp only [List.getElem?_cons_zero, Option.some.injEq] at h; subst h; exact List.mem_cons_self
      | i + 1 =>
        rw [if_neg hc]
        have := am_L0_at ad vs (n + 1) i v (by simpa using h)
        rw [show n + (i + 1) = n + 1 + i by omega]
        exact List.mem_cons_of_mem _ this
theorem am_L0_len (ad : Nat → Nat) : ∀ (vs : List Value), (lg_sl (vs.map (am_v ad))).length = (am_L0 vs).length
  | [] => rfl
  | a :: vs => by
    have ih := am_L0_len ad vs
    simp only [lg_sl, List.map_cons, List.flatMap_cons, List.length_append, am_v_cat] at ih ⊢
    unfold am_L0
    by_cases hc : a.category = 2
    · rw [if_pos hc, if_pos hc]
      simp only [List.length_cons, List.length_nil]
      omega
    · rw [if_neg hc, if_neg hc]
      simp only [List.length_cons, List.length_nil]
      omega
theorem am_met {l : Launch} {own : Nat} {mi : am_MI} {rm : Room} {av : List Value} {y y' : am_Y} {g g' : am_G} {w w' : am_J} {ro : Option Value} (L : List (Option Value)) (hpl : plainName mi.1.cls = true) (hcn : mi.1.cls = am_cn own) (hL : L = am_L0 av ++ List.replicate (mi.2.2.1 - (am_L0 av).length) none) (hn : (am_L0 av).length ≤ mi.2.2.1)
    (body : ∀ x : am_X, am_Cm x own mi.2.1 mi.2.2.1 mi.2.2.2 → am_R x = rm → am_la x = l → (am_me x).name = mi.1.name → am_Ev x mi.2.2.1 (0, 0) (am_Q x (rm.cells, rm.slots) ro y' g' w') 0 L [] y g w) : am_Met l mi rm av y g w ro y' g' w' := by
  intro D c3 base tt b
  refine Met.ofW (cc := mi.2.1) (maxL := mi.2.2.1) (ret := mi.2.2.2) hpl rfl ?_
  intro p e s m args below meth c s₁ B hml hv
  obtain ⟨rfl, hP, hK, hT, hN⟩ := hv
  have hts := atoms_spec (ws := am_cw mi :: am_tbl) B.pre
  have hown : s.vm.findClass (am_cn own) = some m.cls := by rw [← hcn]; exact findClass_of_methodNamed B.named
  have hbo := body (p, l, e, rm, s, m, (av.map (am_v (am_ad base tt b))).toArray, below, meth, c, D, c3, base, tt, b) ⟨⟨B.exec, B.bytes, hml, hown, fun w h => hts w (List.mem_cons_of_mem _ h), B.notSynchronized, hK, hT, hN⟩, B.returns⟩ rfl rfl (name_of_methodNamed B.named B.method).1
  have hl := lv_entry (av.map (am_v (am_ad base tt b))) (n := mi.2.2.1) (by rw [am_L0_len]; exact hn)
  rw [lg_entry_eq]
  refine hbo s.heap [] _ hP va_S.rf ⟨hl.1, hl.2.1, ?_, fun i v hi => ?_⟩
  · rw [hL]
    simp only [List.length_append, List.length_replicate]
    omega
  · rw [hL] at hi
    by_cases hlt : i < (am_L0 av).length
    · rw [List.getElem?_append_left hlt] at hi
      have := am_L0_at (am_ad base tt b) av 0 i v hi
      rw [Nat.zero_add] at this
      exact hl.2.2 _ this
    · rw [List.getElem?_append_right (by omega)] at hi
      have := List.eq_of_mem_replicate (List.mem_of_getElem? hi)
      cases this
end
section
/-! CALLS -/
/-- the words of a call of an object's own method -/
def am_wV (own idx : Nat) (mi : am_MI) (n : Nat) : Prop := (Cond.methodLink (am_cn own) idx mi.1 ∈ am_tbl ∧ Cond.instanceMethod mi.1 ∈ am_tbl ∧ Cond.selects mi.1.cls mi.1 mi.1 ∈ am_tbl ∧ Cond.initialized mi.1.cls ∈ am_tbl ∧ am_cw mi ∈ am_tbl) ∧ mi.1.cls ≠ "java/lang/invoke/MethodHandle" ∧ mi.1.cls ≠ "java/lang/invoke/VarHandle" ∧ (parseMethodDescriptor mi.1.desc).map (fun d => d.parameters.length) = some n
def am_wS (own idx : Nat) (mi : am_MI) (n : Nat) : Prop := (Cond.methodLink (am_cn own) idx mi.1 ∈ am_tbl ∧ Cond.static mi.1 ∈ am_tbl ∧ Cond.initialized mi.1.cls ∈ am_tbl ∧ am_cw mi ∈ am_tbl) ∧ mi.1.cls ≠ "java/lang/invoke/MethodHandle" ∧ mi.1.cls ≠ "java/lang/invoke/VarHandle" ∧ (parseMethodDescriptor mi.1.desc).map (fun d => d.parameters.length) = some n
def am_wI (own idx : Nat) (mi : am_MI) (n : Nat) : Prop := (Cond.methodLink (am_cn own) idx mi.1 ∈ am_tbl ∧ Cond.instanceMethod mi.1 ∈ am_tbl ∧ Cond.initialized mi.1.cls ∈ am_tbl ∧ am_cw mi ∈ am_tbl) ∧ mi.1.name = "<init>" ∧ mi.2.2.2 = none ∧ mi.1.cls ≠ "java/lang/invoke/MethodHandle" ∧ mi.1.cls ≠ "java/lang/invoke/VarHandle" ∧ (parseMethodDescriptor mi.1.desc).map (fun d => d.parameters.length) = some n
/-- a private static method of a nest mate; a private constructor of one -/
def am_wSN (own idx : Nat) (mi : am_MI) (n : Nat) : Prop := ((∃ p, (own, idx, mi.1, p) ∈ am_nst) ∧ Cond.static mi.1 ∈ am_tbl ∧ Cond.initialized mi.1.cls ∈ am_tbl ∧ am_cw mi ∈ am_tbl) ∧ mi.1.cls ≠ "java/lang/invoke/MethodHandle" ∧ mi.1.cls ≠ "java/lang/invoke/VarHandle" ∧ (parseMethodDescriptor mi.1.desc).map (fun d => d.parameters.length) = some n
def am_wIN (own idx : Nat) (mi : am_MI) (n : Nat) : Prop := ((∃ p, (own, idx, mi.1, p) ∈ am_nst) ∧ Cond.instanceMethod mi.1 ∈ am_tbl ∧ Cond.initialized mi.1.cls ∈ am_tbl ∧ am_cw mi ∈ am_tbl) ∧ mi.1.name = "<init>" ∧ mi.2.2.2 = none ∧ mi.1.cls ≠ "java/lang/invoke/MethodHandle" ∧ mi.1.cls ≠ "java/lang/invoke/VarHandle" ∧ (parseMethodDescriptor mi.1.desc).map (fun d => d.parameters.length) = some n
theorem am_at {w : Cond} (i : Nat) (h : lw_tbl[i]? = some w) (hg : goodWord w = true) : w ∈ am_tbl := am_tbl_in (List.mem_of_getElem? h) hg
/-- the words at their places -/
def am_pl : List (Nat × Cond) → Bool
  | [] => true
  | q :: r => decide (lw_tbl[q.1]? = some q.2) && (goodWord q.2 && am_pl r)
theorem am_pl_ok : ∀ {l : List (Nat × Cond)}, am_pl l = true → ∀ q ∈ l, q.2 ∈ am_tbl
  | [], _, q, hq => by cases hq
  | a :: r, h, q, hq => by
    simp only [am_pl, Bool.and_eq_true, decide_eq_true_eq] at h
    rcases List.mem_cons.mp hq with rfl | hq
    · exact am_at _ h.1 h.2.1
    · exact am_pl_ok h.2.2 q hq
def am_nd (mi : am_MI) (n : Nat) : Bool := decide (mi.1.cls ≠ "java/lang/invoke/MethodHandle") && (decide (mi.1.cls ≠ "java/lang/invoke/VarHandle") && decide ((parseMethodDescriptor mi.1.desc).map (fun d => d.parameters.length) = some n))
theorem am_wV.mk {own idx : Nat} {mi : am_MI} {n : Nat} (a b c d e : Nat) (h : am_pl [(a, .methodLink (am_cn own) idx mi.1), (b, .instanceMethod mi.1), (c, .selects mi.1.cls mi.1 mi.1), (d, .initialized mi.1.cls), (e, am_cw mi)] = true) (hd : am_nd mi n = true) : am_wV own idx mi n := by
  have h1 := am_pl_ok h
  simp only [am_nd, Bool.and_eq_true, decide_eq_true_eq] at hd
  exact ⟨⟨h1 (a, _) (by simp), h1 (b, _) (by simp), h1 (c, _) (by simp), h1 (d, _) (by simp), h1 (e, _) (by simp)⟩, hd⟩
theorem am_wS.mk {own idx : Nat} {mi : am_MI} {n : Nat} (a b d e : Nat) (h : am_pl [(a, .methodLink (am_cn own) idx mi.1), (b, .static mi.1), (d, .initialized mi.1.cls), (e, am_cw mi)] = true) (hd : am_nd mi n = true) : am_wS own idx mi n := by
  have h1 := am_pl_ok h
  simp only [am_nd, Bool.and_eq_true, decide_eq_true_eq] at hd
  exact ⟨⟨h1 (a, _) (by simp), h1 (b, _) (by simp), h1 (d, _) (by simp), h1 (e, _) (by simp)⟩, hd⟩
theorem am_wI.mk {own idx : Nat} {mi : am_MI} {n : Nat} (a b d e : Nat) (h : am_pl [(a, .methodLink (am_cn own) idx mi.1), (b, .instanceMethod mi.1), (d, .initialized mi.1.cls), (e, am_cw mi)] = true) (hi : mi.1.name = "<init>") (hr : mi.2.2.2 = none) (hd : am_nd mi n = true) : am_wI own idx mi n := by
  have h1 := am_pl_ok h
  simp only [am_nd, Bool.and_eq_true, decide_eq_true_eq] at hd
  exact ⟨⟨h1 (a, _) (by simp), h1 (b, _) (by simp), h1 (d, _) (by simp), h1 (e, _) (by simp)⟩, hi, hr, hd⟩
theorem am_wSN.mk {own idx : Nat} {mi : am_MI} {n : Nat} (p k b d e : Nat) (hp : am_nst[k]? = some (own, idx, mi.1, p)) (h : am_pl [(b, .static mi.1), (d, .initialized mi.1.cls), (e, am_cw mi)] = true) (hd : am_nd mi n = true) : am_wSN own idx mi n := by
  have h1 := am_pl_ok h
  simp only [am_nd, Bool.and_eq_true, decide_eq_true_eq] at hd
  exact ⟨⟨⟨p, List.mem_of_getElem? hp⟩, h1 (b, _) (by simp), h1 (d, _) (by simp), h1 (e, _) (by simp)⟩, hd⟩
theorem am_wIN.mk {own idx : Nat} {mi : am_MI} {n : Nat} (p k b d e : Nat) (hp : am_nst[k]? = some (own, idx, mi.1, p)) (h : am_pl [(b, .instanceMethod mi.1), (d, .initialized mi.1.cls), (e, am_cw mi)] = true) (hi : mi.1.name = "<init>") (hr : mi.2.2.2 = none) (hd : am_nd mi n = true) : am_wIN own idx mi n := by
  have h1 := am_pl_ok h
  simp only [am_nd, Bool.and_eq_true, decide_eq_true_eq] at hd
  exact ⟨⟨⟨p, List.mem_of_getElem? hp⟩, h1 (b, _) (by simp), h1 (d, _) (by simp), h1 (e, _) (by simp)⟩, hi, hr, hd⟩
end
section
def am_rm (R : Room) (mi : am_MI) (rm : Room) (cs : Nat × Nat) : Bool := decide (rm.frames + 1 ≤ R.frames) && (decide (8 + (mi.2.2.1 + 11) + rm.locals ≤ R.locals) && (decide (cs.1 + rm.cells ≤ R.cells) && decide (cs.2 + rm.slots ≤ R.slots)))
section AMC
variable {x : am_X} {own : Nat} {cc : ByteArray} {nL : Nat} {cs : Nat × Nat} {Q : State → Prop} {pc : Nat} {L L' : List (Option Value)} {st st' : List Value} {y y' : am_Y} {g g' : am_G} {w w' : am_J} {ret : Option FieldType}
variable {mi : am_MI} {rm : Room} {idx n : Nat} {ro : Option Value}
theorem am_blind {D : va_G} {c3 : ClassId × ClassId × ClassId} {base tt b : Nat} {av : List Value} : FrameBlind (am_Pc D c3 base tt b av y g w) := by
  intro a U fr mk q
  obtain ⟨q0, q1, q2, q3, q4⟩ := q
  exact ⟨q0, q1, va_K.moved (u := U) (U := U.calling fr mk a) (Vm.Alike.refl U.vm) q2, ⟨va_Z.moved (u := U) (U := U.calling fr mk a) (Vm.Alike.refl U.vm) q3.1, va_T.moved (u := U) (U := U.calling fr mk a) (Vm.Alike.refl U.vm) q3.2⟩, fun z hz => va_Nw.same (u := U) (U := U.calling fr mk a) rfl rfl (q4 z hz)⟩
theorem am_pre (C0 : am_Cx x own cc nL) {H : Heap} {locs : List Loc} (hP : am_P (am_Dg x) (am_c3 x) (am_ba x) (am_tt x) (am_sc x) y g w H) (hS : va_S (fun q => am_ba x ≤ q) (am_s x).heap H locs) (av : List Value) :
    ∀ U : State, U.heap = H → (am_s x).WarmedH U.vm → am_Pc (am_Dg x) (am_c3 x) (am_ba x) (am_tt x) (am_sc x) av y g w (av.map (am_v (am_xa x))).toArray U :=
  fun U hU hW => ⟨rfl, by rw [hU]; exact hP, va_K.moved hW.alike C0.hK, C0.hT.go hS hU hW.alike, C0.hN.warm hW⟩
theorem am_fin {H : Heap} {locs : List Loc} {ls : Array Slot} {st0 rest : List Value} {a : Array Value} (hS : va_S (fun q => am_ba x ≤ q) (am_s x).heap H locs) (hl : am_l (am_xa x) ls nL L)
    (hr : va_Run (am_p x) (am_la x) (am_en x) (am_R x) (am_s x) (am_m x) (am_a x) (am_bw x) (am_me x) (am_c x) H locs cs.1 cs.2 rm.cells rm.slots (F0 (am_m x) pc ls st0) (rest.map (am_v (am_xa x))) (am_Qc (am_Dg x) (am_c3 x) (am_ba x) (am_tt x) (am_sc x) ro y' g' w' a) (fun q => am_ba x ≤ q))
    (kk : am_Ev x nL (cs.1 + rm.cells, cs.2 + rm.slots) Q (pc + 3) L (ro.toList ++ rest) y' g' w') : W (am_p x) (am_la x) (am_en x) (am_R x) (am_s x) (am_m x) (am_a x) (am_bw x) (am_me x) (am_c x) H locs cs.1 cs.2 Q (F0 (am_m x) pc ls st0) := by
  intro T hT X
  obtain ⟨v, st₀, t, T', L1, h0, X', hL, e1, e2, ⟨hv, hP', hz, hk⟩, stp⟩ := hr T hT X
  rw [h0] at hz hk
  have hv2 : v = ro.map (am_v (am_xa x)) := by cases hv; rfl
  subst hv2
  have hS' : va_S (fun q => am_ba x ≤ q) (am_s x).heap T'.heap (locs ++ L1) := ⟨Nat.le_trans hS.1 (by rw [e1]; exact hz), fun q h1 h2 => by rw [e1, hk q (Nat.lt_of_lt_of_le h1 hS.1) h2]; exact hS.2.1 q h1 h2, fun q hq => by
    rcases List.mem_append.mp hq with h | h
    · exact hS.2.2 q h
    · exact hL q h⟩
  have hst : (ro.map (am_v (am_xa x))).toList ++ rest.map (am_v (am_xa x)) = (ro.toList ++ rest).map (am_v (am_xa x)) := by cases ro <;> simp
  have k2 := kk T'.heap (locs ++ L1) ls (by rw [e1]; exact hP') hS' hl T' rfl X'
  rw [← hst] at k2
  obtain ⟨t2, a1, b1⟩ := k2
  exact ⟨t2, stp t2 a1, b1⟩
theorem am_goodC (hc : am_cw mi ∈ am_tbl) : GoodIn am_tbl (am_cw mi :: am_tbl) := fun w hw => by
  rcases List.mem_cons.mp hw with rfl | h
  · exact am_goodIn _ hc
  · exact am_goodIn _ h
theorem am_rm_ok {R : Room} (h : am_rm R mi rm cs = true) : (rm.frames + 1 ≤ R.frames ∧ 8 + (mi.2.2.1 + 11) + rm.locals ≤ R.locals) ∧ cs.1 + rm.cells ≤ R.cells ∧ cs.2 + rm.slots ≤ R.slots := by
  simp only [am_rm, Bool.and_eq_true, decide_eq_true_eq] at h
  exact ⟨⟨h.1, h.2.1⟩, h.2.2.1, h.2.2.2⟩
theorem am_sum (rest : List Value) : ((rest.map (am_v (am_xa x))).map fun v => v.category).sum = (rest.map fun v => v.category).sum := by
  rw [List.map_map]
  congr 1
  apply List.map_congr_left
  intro v _
  exact am_v_cat _ v
end AMC
end
section
section AMC2
variable {x : am_X} {own : Nat} {cc : ByteArray} {nL : Nat} {cs : Nat × Nat} {Q : State → Prop} {pc : Nat} {L L' : List (Option Value)} {st st' : List Value} {y y' : am_Y} {g g' : am_G} {w w' : am_J} {ret : Option FieldType}
variable {mi : am_MI} {rm : Room} {idx n : Nat} {ro : Option Value}
theorem am_callV {ci i : Nat} {ks : List am_Kd} {rest : List Value} (As : List Value) (C0 : am_Cx x own cc nL) (hy : y.length ≤ 98) (hw : am_wV own idx mi n) (hM : am_Met (am_la x) mi rm (.ref i :: As) y g w ro y' g' w') (hi : y[i]? = some (.inr (ci, ks))) (hci : ci < 9) (hcl : am_Rc ci = mi.1.cls) (hR : am_rm (am_R x) mi rm cs = true) (hn : As.length = n) (hst : st = As.reverse ++ .ref i :: rest) (hsum : (rest.map fun v => v.category).sum ≤ 8) (hd : am_dec cc pc (.invokevirtual idx) 3 = true)
    (kk : am_Ev x nL (cs.1 + rm.cells, cs.2 + rm.slots) Q (pc + 3) L (ro.toList ++ rest) y' g' w') : am_Ev x nL cs Q pc L st y g w := by
  intro H locs ls hP hS hl
  obtain ⟨⟨w1, w2, w3, w4, w5⟩, d1, d2, d3⟩ := hw
  obtain ⟨r1, r2⟩ := am_rm_ok hR
  subst hst
  have ha : am_xa x i = am_ba x + i := am_ad_lt (List.getElem?_eq_some_iff.mp hi).1 hy
  have hT : GoodIn am_tbl (wsV (am_cn own) idx mi.1.cls mi.1 (am_cw mi :: am_tbl)) := fun z hz => by
    rcases List.mem_append.mp hz with h | h
    · simp only [List.mem_cons, List.not_mem_nil, or_false] at h
      rcases h with rfl | rfl | rfl | rfl
      · exact am_goodIn _ w1
      · exact am_goodIn _ w2
      · exact am_goodIn _ w3
      · exact am_goodIn _ w4
    · exact am_goodC w5 z h
  have hrec := va_recv C0.hK hP.2 (am_clc ci hci) (am_w_at (c3 := am_c3 x) (ad := am_xa x) (base := am_ba x) (g := g) (w := w) hi)
  refine am_fin hS hl (va_runV (nL := nL) (Ts := am_tbl) (As := As.map (am_v (am_xa x))) (b := am_ba x + i) (C := mi.1.cls) ⟨C0.hx, C0.hb, C0.hml, C0.hown, C0.hts⟩ (hM (am_Dg x) (am_c3 x) (am_ba x) (am_tt x) (am_sc x)) (cwV n C0.hts hT rfl rfl rfl ⟨rfl, d1, d2, d3⟩ r1) ⟨am_blind, by rw [← hcl]; exact hrec, fun U hU hW => ?_⟩ rfl (by rw [List.length_map]; exact hn) hl.1 (by simp [am_v, ha]) (lv_room (by rw [am_sum]; exact hsum)) (am_dec_ok hd) r2) kk
  have := am_pre C0 hP hS (.ref i :: As) U hU hW
  simpa [am_v, ha] using this
end AMC2
end
section
section AMC3
variable {x : am_X} {own : Nat} {cc : ByteArray} {nL : Nat} {cs : Nat × Nat} {Q : State → Prop} {pc : Nat} {L L' : List (Option Value)} {st st' : List Value} {y y' : am_Y} {g g' : am_G} {w w' : am_J} {ret : Option FieldType}
variable {mi : am_MI} {rm : Room} {idx n : Nat} {ro : Option Value}
theorem am_callS {rest : List Value} (As : List Value) (C0 : am_Cx x own cc nL) (hw : am_wS own idx mi n) (hM : am_Met (am_la x) mi rm As y g w ro y' g' w') (hR : am_rm (am_R x) mi rm cs = true) (hn : As.length = n) (hst : st = As.reverse ++ rest) (hsum : (rest.map fun v => v.category).sum ≤ 8) (hd : am_dec cc pc (.invokestatic idx) 3 = true)
    (kk : am_Ev x nL (cs.1 + rm.cells, cs.2 + rm.slots) Q (pc + 3) L (ro.toList ++ rest) y' g' w') : am_Ev x nL cs Q pc L st y g w := by
  intro H locs ls hP hS hl
  obtain ⟨⟨w1, w2, w3, w5⟩, d1, d2, d3⟩ := hw
  obtain ⟨r1, r2⟩ := am_rm_ok hR
  subst hst
  have hT : GoodIn am_tbl (va_wsS (am_cn own) idx mi.1 (am_cw mi :: am_tbl)) := fun z hz => by
    rcases List.mem_append.mp hz with h | h
    · simp only [List.mem_cons, List.not_mem_nil, or_false] at h
      rcases h with rfl | rfl | rfl
      · exact am_goodIn _ w1
      · exact am_goodIn _ w2
      · exact am_goodIn _ w3
    · exact am_goodC w5 z h
  exact am_fin hS hl (va_runS (nL := nL) (Ts := am_tbl) (As := As.map (am_v (am_xa x))) ⟨C0.hx, C0.hb, C0.hml, C0.hown, C0.hts⟩ (hM (am_Dg x) (am_c3 x) (am_ba x) (am_tt x) (am_sc x)) (va_cwS n C0.hts hT rfl rfl rfl ⟨d1, d2, d3⟩ r1) ⟨am_blind, am_pre C0 hP hS As⟩ rfl (by rw [List.length_map]; exact hn) hl.1 (by simp) (lv_room (by rw [am_sum]; exact hsum)) (am_dec_ok hd) r2) kk
theorem am_callSN {rest : List Value} (As : List Value) (C0 : am_Cx x own cc nL) (hw : am_wSN own idx mi n) (hM : am_Met (am_la x) mi rm As y g w ro y' g' w') (hR : am_rm (am_R x) mi rm cs = true) (hn : As.length = n) (hst : st = As.reverse ++ rest) (hsum : (rest.map fun v => v.category).sum ≤ 8) (hd : am_dec cc pc (.invokestatic idx) 3 = true)
    (kk : am_Ev x nL (cs.1 + rm.cells, cs.2 + rm.slots) Q (pc + 3) L (ro.toList ++ rest) y' g' w') : am_Ev x nL cs Q pc L st y g w := by
  intro H locs ls hP hS hl
  obtain ⟨⟨⟨pp, w1⟩, w2, w3, w5⟩, d1, d2, d3⟩ := hw
  obtain ⟨r1, r2⟩ := am_rm_ok hR
  subst hst
  exact am_fin hS hl (va_runSN (nL := nL) (Ts := am_tbl) (As := As.map (am_v (am_xa x))) ⟨C0.hx, C0.hb, C0.hml, C0.hown, C0.hts⟩ (hM (am_Dg x) (am_c3 x) (am_ba x) (am_tt x) (am_sc x)) ⟨va_cnB n C0.hts (am_goodC w5) rfl rfl rfl (C0.hN _ w1) (C0.hts _ w3) ⟨d1, d2, d3⟩ r1, C0.hts _ w2, trivial⟩ ⟨am_blind, am_pre C0 hP hS As⟩ rfl (by rw [List.length_map]; exact hn) hl.1 (by simp) (lv_room (by rw [am_sum]; exact hsum)) (am_dec_ok hd) r2) kk
theorem am_callI {i : Nat} {rest : List Value} (As : List Value) (C0 : am_Cx x own cc nL) (hilt : i < y.length) (hy : y.length ≤ 98) (hw : am_wI own idx mi n) (hM : am_Met (am_la x) mi rm (.ref i :: As) y g w none y' g' w') (hR : am_rm (am_R x) mi rm cs = true) (hn : As.length = n) (hst : st = As.reverse ++ .ref i :: rest) (hsum : (rest.map fun v => v.category).sum ≤ 8) (hd : am_dec cc pc (.invokespecial idx) 3 = true)
    (kk : am_Ev x nL (cs.1 + rm.cells, cs.2 + rm.slots) Q (pc + 3) L rest y' g' w') : am_Ev x nL cs Q pc L st y g w := by
  intro H locs ls hP hS hl
  obtain ⟨⟨w1, w2, w3, w5⟩, i1, i2, d1, d2, d3⟩ := hw
  obtain ⟨r1, r2⟩ := am_rm_ok hR
  obtain ⟨nm, bc, mL, rt⟩ := mi
  have i2 : rt = none := i2
  subst i2
  have hG : GoodIn am_tbl (Cond.code nm bc mL none :: am_tbl) := am_goodC (mi := (nm, bc, mL, none)) w5
  subst hst
  have ha : am_xa x i = am_ba x + i := am_ad_lt hilt hy
  refine am_fin (ro := none) hS hl (va_runI (y := nm) (bytes := bc) (maxL := mL) (ws := Cond.code nm bc mL none :: am_tbl) (nL := nL) (Ts := am_tbl) (As := As.map (am_v (am_xa x))) (b := am_ba x + i) ⟨C0.hx, C0.hb, C0.hml, C0.hown, C0.hts⟩ (hM (am_Dg x) (am_c3 x) (am_ba x) (am_tt x) (am_sc x)) (cwI n C0.hts hG rfl rfl rfl (C0.hts _ w3) (C0.hts _ w1) (C0.hts _ w2) i1 ⟨d1, d2, d3⟩ r1) ⟨am_blind, fun U hU hW => ?_⟩ rfl (by rw [List.length_map]; exact hn) hl.1 (by simp [am_v, ha]) (lv_room (by rw [am_sum]; exact hsum)) (am_dec_ok hd) r2) kk
  have := am_pre C0 hP hS (.ref i :: As) U hU hW
  simpa [am_v, ha] using this
theorem am_callIN {i : Nat} {rest : List Value} (As : List Value) (C0 : am_Cx x own cc nL) (hilt : i < y.length) (hy : y.length ≤ 98) (hw : am_wIN own idx mi n) (hM : am_Met (am_la x) mi rm (.ref i :: As) y g w none y' g' w') (hR : am_rm (am_R x) mi rm cs = true) (hn : As.length = n) (hst : st = As.reverse ++ .ref i :: rest) (hsum : (rest.map fun v => v.category).sum ≤ 8) (hd : am_dec cc pc (.invokespecial idx) 3 = true)
    (kk : am_Ev x nL (cs.1 + rm.cells, cs.2 + rm.slots) Q (pc + 3) L rest y' g' w') : am_Ev x nL cs Q pc L st y g w := by
  intro H locs ls hP hS hl
  obtain ⟨⟨⟨pp, w1⟩, w2, w3, w5⟩, i1, i2, d1, d2, d3⟩ := hw
  obtain ⟨r1, r2⟩ := am_rm_ok hR
  obtain ⟨nm, bc, mL, rt⟩ := mi
  have i2 : rt = none := i2
  subst i2
  have hG : GoodIn am_tbl (Cond.code nm bc mL none :: am_tbl) := am_goodC (mi := (nm, bc, mL, none)) w5
  subst hst
  have ha : am_xa x i = am_ba x + i := am_ad_lt hilt hy
  refine am_fin (ro := none) hS hl (va_runIN (y := nm) (bytes := bc) (maxL := mL) (ws := Cond.code nm bc mL none :: am_tbl) (nL := nL) (Ts := am_tbl) (As := As.map (am_v (am_xa x))) (b := am_ba x + i) ⟨C0.hx, C0.hb, C0.hml, C0.hown, C0.hts⟩ (hM (am_Dg x) (am_c3 x) (am_ba x) (am_tt x) (am_sc x)) ⟨va_cnB n C0.hts hG rfl rfl rfl (C0.hN _ w1) (C0.hts _ w3) ⟨d1, d2, d3⟩ r1, i1, C0.hts _ w2⟩ ⟨am_blind, fun U hU hW => ?_⟩ rfl (by rw [List.length_map]; exact hn) hl.1 (by simp [am_v, ha]) (lv_room (by rw [am_sum]; exact hsum)) (am_dec_ok hd) r2) kk
  have := am_pre C0 hP hS (.ref i :: As) U hU hW
  simpa [am_v, ha] using this
end AMC3
end
section
/-! the static row, arraycopy, what constructors do -/
section AMW
variable {p : Program} {l : Launch} {e : Env} {R : Room} {s : State} {m : MethodId} {args : Array Value} {below : List Frame} {meth : Method} {c : Code} {H : Heap} {locs : List Loc} {cells slots : Nat} {Q : State → Prop}
variable {cc : ByteArray} {pc : Nat} {ls : Array Slot} {rest : List Value} {D : va_G} {cl : List vw_C} {A : Nat → Prop} {a : Nat} {tys : List (ClassId × FieldType)} {ws : va_W} {H0 : Heap}
theorem am_copyW {cc : ByteArray} (hexec : p.tables.exec = Jvm.exec) (hb : c.code = cc) (hml : c.maxLocals = ls.size) {own : String} {index : Nat} (hown : s.vm.findClass own = some m.cls) (hlink : (Cond.methodLink own index arraycopyName).before args s = true) (hnat : (Cond.native arraycopyName).before args s = true) (hstat : (Cond.static arraycopyName).before args s = true) (hini : (Cond.initialized "java/lang/System").before args s = true)
    (hK : va_K D cl tys s) (hP : va_P D cl ws H) (hD : va_D A ws) (hS : va_S A H0 H locs) (q0 q1 t0 t1 : Nat) {a0 : Nat} {c0 c1 : ClassId} {n0 n1 : Nat} {f g : Nat → Int32} {ty : FieldType} (ha0 : ws[q0]? = some (a0, .inl (c0, n0, .inl f))) (ha1 : ws[q1]? = some (a, .inl (c1, n1, .inl g))) (ht0 : tys[t0]? = some (c0, ty)) (ht1 : tys[t1]? = some (c1, ty)) (hprim : refKind ty = false)
    {sp dp n : Int32} (h1 : ¬ sp < 0) (h2 : ¬ dp < 0) (h3 : ¬ n < 0) (h4 : sp.toNatClampNeg + n.toNatClampNeg ≤ n0) (h5 : dp.toNatClampNeg + n.toNatClampNeg ≤ n1) (hfit : ∀ i, i < n.toNatClampNeg → fits ty (.int (f (sp.toNatClampNeg + i))) = true)
    (hframes : 1 ≤ R.frames) (hlocals : (rest.map fun v => v.category).sum + (nativeFrameWords "java/lang/System" "arraycopy" 5 + 11) ≤ R.locals) (hdg : decode cc pc = .ok (.invokestatic index, 3))
    (kk : ∀ (H1 : Heap) (locs1 : List Loc), H1.size = H.size → va_P D cl (ws.set q1 (a, .inl (c1, n1, .inl (va_cpy f g sp.toNatClampNeg dp.toNatClampNeg n.toNatClampNeg)))) H1 → va_S A H0 H1 locs1 → W p l e R s m args below meth c H1 locs1 cells slots Q (F0 m (pc + 3) ls rest)) : W p l e R s m args below meth c H locs cells slots Q (F0 m pc ls (.int n :: .int dp :: .ref a :: .int sp :: .ref a0 :: rest)) := by
  have nn : ∀ z : Int32, ¬ z < 0 → z.toInt = (z.toNatClampNeg : Int) := by
    intro z hz
    have hz0 : (0 : Int) ≤ z.toInt := by
      have := Int32.not_lt.mp hz
      simpa using Int32.le_iff_toInt_le.mp this
    show z.toInt = ((z.toInt.toNat : Nat) : Int)
    omega
  intro T hT X
  have hc0 : H[a0]? = some (vp_cell c0 (n0, .inl f)) := hP q0 _ ha0
  have hc1 : H[a]? = some (vp_cell c1 (n1, .inl g)) := hP q1 _ ha1
  obtain ⟨-, k0, hk0, cm0, hkk0⟩ := (hK.2 t0 _ ht0).1 n0 (fun j => .int (f j))
  obtain ⟨-, k1, hk1, cm1, hkk1⟩ := (hK.2 t1 _ ht1).1 n1 (fun j => .int (g j))
  obtain ⟨vm', X', step⟩ := X.arraycopy hexec hown hlink hnat hstat hini (src := a0) (dst := a) (cs := vp_cell c0 (n0, .inl f)) (cd := vp_cell c1 (n1, .inl g)) (srcPos := sp) (destPos := dp) (n := n) (by rw [hT]; exact hc0) (by rw [hT]; exact hc1)
    (fun _ h => by cases h) (fun _ h => by cases h) (fun h => by cases h) (fun h => by cases h) hk0 hk1 hkk0 hkk1 (by simp [hprim]) h1 h2 h3
    (by rw [nn sp h1, nn n h3]; show ¬ _ > ((arrV c0 n0 (fun j => .int (f j))).slots.size : Int); rw [arrV_size]; omega)
    (by rw [nn dp h2, nn n h3]; show ¬ _ > ((arrV c1 n1 (fun j => .int (g j))).slots.size : Int); rw [arrV_size]; omega)
    (fun vm₁ _ i hi => by
      have e : (vp_cell c0 (n0, .inl f)).slots.getD (sp.toNatClampNeg + i) .null = .int (f (sp.toNatClampNeg + i)) := by
        show (arrV c0 n0 (fun j => .int (f j))).slots.getD _ _ = _
        rw [Array.getD_eq_getD_getElem?, arrV_read _ _ (by omega)]
        rfl
      refine ⟨?_, ?_⟩
      · rw [e]
        exact hfit i hi
      · rw [e]
        exact trivial)
    (g := F0 m pc ls (.int n :: .int dp :: .ref a :: .int sp :: .ref a0 :: rest)) rfl (by rw [hml]) (rest := rest) rfl (by rw [hb]; exact hdg) hframes (by show 2 * 0 + _ + _ ≤ _; omega)
  have e1 : copied (vp_cell c0 (n0, .inl f)) (vp_cell c1 (n1, .inl g)) sp dp n = vp_cell c1 (n1, .inl (va_cpy f g sp.toNatClampNeg dp.toNatClampNeg n.toNatClampNeg)) := va_copied (fun z => .int z) c0 c1 f g h4
  rw [e1] at X' step
  have hl : a < H.size := (Array.getElem?_eq_some_iff.mp hc1).1
  have hheap : ((T.setVm vm').setCell a (vp_cell c1 (n1, .inl (va_cpy f g sp.toNatClampNeg dp.toNatClampNeg n.toNatClampNeg)))).heap = H.setIfInBounds a (vp_cell c1 (n1, .inl (va_cpy f g sp.toNatClampNeg dp.toNatClampNeg n.toNatClampNeg))) := by rw [← hT]; rfl
  have oq : ∀ q : Nat, q ≠ a → (H.setIfInBounds a (vp_cell c1 (n1, .inl (va_cpy f g sp.toNatClampNeg dp.toNatClampNeg n.toNatClampNeg))))[q]? = H[q]? := fun q hq => by simp [Array.getElem?_setIfInBounds, Ne.symm hq]
  obtain ⟨t, a1, b1⟩ := kk _ _ (by simp) (hP.set hD ha1 (show (H.setIfInBounds a _)[a]? = some _ by simp [Array.getElem?_setIfInBounds, hl]) oq) ⟨by simp; exact hS.1, fun q g1 g2 => by
      rw [oq q (fun e => g2 (by rw [e]; exact hD.2 q1 _ ha1))]
      exact hS.2.1 q g1 g2, fun q hq => by
      rcases List.mem_append.mp hq with h | h
      · exact hS.2.2 q h
      · obtain ⟨z, -, hz⟩ := List.mem_map.mp h
        rw [← hz]
        exact hD.2 q1 _ ha1⟩ _ hheap X'
  exact ⟨t, step t a1, b1⟩
end AMW
def am_cp (g : am_G) (s0 d sp dp n : Nat) : am_G := fun a => if a = d then va_cpy (g s0) (g d) sp dp n else g a
theorem am_cp_at (g : am_G) (s0 d sp dp n a k : Nat) : am_cp g s0 d sp dp n a k = if a = d ∧ dp ≤ k ∧ k < dp + n then g s0 (sp + (k - dp)) else g a k := by
  unfold am_cp
  by_cases h : a = d
  · subst h
    simp [va_cpy]
  · simp [h]
section AMM
variable {x : am_X} {own : Nat} {cc : ByteArray} {nL : Nat} {cs : Nat × Nat} {Q : State → Prop} {pc : Nat} {L L' : List (Option Value)} {st st' : List Value} {y y' : am_Y} {g g' : am_G} {w w' : am_J} {ret : Option FieldType}
theorem am_gets (C0 : am_Cx x 7 cc nL) (hw : Cond.fieldLink RX7 180 RX7 "BEYOND_THINGS" "[J" ∈ am_tbl) (hd : am_dec cc pc (.getstatic 180) 3 = true) (kk : am_Ev x nL cs Q (pc + 3) L (.ref 99 :: st) y g w) : am_Ev x nL cs Q pc L st y g w := by
  intro H locs ls hP hS hl
  have k2 := kk H locs ls hP hS hl
  have e : (List.map (am_v (am_xa x)) (.ref 99 :: st)) = .ref (am_tt x) :: st.map (am_v (am_xa x)) := by simp [am_v, am_ad]
  rw [e] at k2
  exact va_gets C0.hx C0.hb C0.hT.1 hS C0.hown (C0.hts _ hw) (fun _ h => h) (am_dec_ok hd) k2
theorem am_tl (C0 : am_Cx x own cc nL) {j : Int32} (hin : am_in j 6) (hd : am_dec cc pc .laload 1 = true) (kk : am_Ev x nL cs Q (pc + 1) L (.long (am_bt j.toNatClampNeg) :: st) y g w) : am_Ev x nL cs Q pc L (.int j :: .ref 99 :: st) y g w := by
  intro H locs ls hP hS hl
  have k2 := kk H locs ls hP hS hl
  have e : (List.map (am_v (am_xa x)) (.int j :: .ref 99 :: st)) = .int j :: .ref (am_tt x) :: st.map (am_v (am_xa x)) := by simp [am_v, am_ad]
  rw [e]
  exact va_tl C0.hx C0.hb C0.hT.2 hS hin rfl (am_dec_ok hd) k2
theorem am_copy (C0 : am_Cx x own cc nL) (hy : y.length ≤ 98) {idx s0 d n0 n1 : Nat} {sp dp n : Int32} {rest : List Value} (hs0 : y[s0]? = some (.inl (0, n0))) (hd1 : y[d]? = some (.inl (0, n1))) (hw : Cond.methodLink (am_cn own) idx arraycopyName ∈ am_tbl ∧ Cond.native arraycopyName ∈ am_tbl ∧ Cond.static arraycopyName ∈ am_tbl ∧ Cond.initialized "java/lang/System" ∈ am_tbl)
    (hc : (¬ sp < 0 ∧ ¬ dp < 0) ∧ ¬ n < 0 ∧ sp.toNatClampNeg + n.toNatClampNeg ≤ n0 ∧ dp.toNatClampNeg + n.toNatClampNeg ≤ n1) (hR : 1 ≤ (am_R x).frames ∧ 8 + (nativeFrameWords "java/lang/System" "arraycopy" 5 + 11) ≤ (am_R x).locals) (hsum : (rest.map fun v => v.category).sum ≤ 8) (hd : am_dec cc pc (.invokestatic idx) 3 = true)
    (kk : am_Ev x nL cs Q (pc + 3) L rest y (am_cp g s0 d sp.toNatClampNeg dp.toNatClampNeg n.toNatClampNeg) w) : am_Ev x nL cs Q pc L (.int n :: .int dp :: .ref d :: .int sp :: .ref s0 :: rest) y g w := by
  intro H locs ls hP hS hl
  have ha0 : am_xa x s0 = am_ba x + s0 := am_ad_lt (List.getElem?_eq_some_iff.mp hs0).1 hy
  have ha1 : am_xa x d = am_ba x + d := am_ad_lt (List.getElem?_eq_some_iff.mp hd1).1 hy
  have hw0 := am_w_at (c3 := am_c3 x) (ad := am_xa x) (base := am_ba x) (g := g) (w := w) hs0
  have hw1 := am_w_at (c3 := am_c3 x) (ad := am_xa x) (base := am_ba x) (g := g) (w := w) hd1
  have e : (List.map (am_v (am_xa x)) (.int n :: .int dp :: .ref d :: .int sp :: .ref s0 :: rest)) = .int n :: .int dp :: .ref (am_ba x + d) :: .int sp :: .ref (am_ba x + s0) :: rest.map (am_v (am_xa x)) := by simp [am_v, ha0, ha1]
  rw [e]
  refine am_copyW C0.hx C0.hb (by rw [C0.hml, hl.1]) C0.hown (C0.hts _ hw.1) (C0.hts _ hw.2.1) (C0.hts _ hw.2.2.1) (C0.hts _ hw.2.2.2) C0.hK hP.2 am_D hS s0 d 0 0 hw0 hw1 rfl rfl rfl hc.1.1 hc.1.2 hc.2.1 hc.2.2.1 hc.2.2.2 (fun _ _ => rfl) hR.1 (by rw [am_sum]; omega) (am_dec_ok hd) (fun H1 locs1 z hP1 hS1 => kk H1 locs1 ls (hP.put z hP1 hd1 (fun a h => by simp [am_cp, h]) (fun _ _ => rfl) ?_) hS1 hl)
  simp [am_e, am_cp]
theorem am_obj (C0 : am_Cx x own cc nL) (hy : y.length ≤ 98) {idx i : Nat} {rest : List Value} (hi : i < y.length) (hw : Cond.methodLink (am_cn own) idx objectInit ∈ am_tbl ∧ Cond.instanceMethod objectInit ∈ am_tbl ∧ Cond.code objectInit ⟨#[0xb1]⟩ 1 none ∈ am_tbl) (hR : 1 ≤ (am_R x).frames ∧ 20 ≤ (am_R x).locals) (hsum : (rest.map fun v => v.category).sum ≤ 8) (hd : am_dec cc pc (.invokespecial idx) 3 = true)
    (kk : am_Ev x nL cs Q (pc + 3) L rest y g w) : am_Ev x nL cs Q pc L (.ref i :: rest) y g w := by
  intro H locs ls hP hS hl
  have ha0 : am_xa x i = am_ba x + i := am_ad_lt hi hy
  have e : (List.map (am_v (am_xa x)) (.ref i :: rest)) = .ref (am_ba x + i) :: rest.map (am_v (am_xa x)) := by simp [am_v, ha0]
  rw [e]
  have hr := lv_room (m := am_m x) (pc := pc) (ls := ls) (rest := .ref (am_ba x + i) :: rest.map (am_v (am_xa x))) (st := rest.map (am_v (am_xa x))) (by rw [am_sum]; exact hsum)
  exact W.objInit C0.hx C0.hb C0.hown (C0.hts _ hw.1) (C0.hts _ hw.2.1) (C0.hts _ hw.2.2) rfl (by rw [C0.hml]; exact hl.1) rfl (am_dec_ok hd) hR.1 (by omega) (kk H locs ls hP hS hl)
/-- one more cell -/
theorem am_w_app {c3 : ClassId × ClassId × ClassId} {ad : Nat → Nat} {base : Nat} {sh : am_Sh} : am_w c3 ad base (y ++ [sh]) g w = am_w c3 ad base y g w ++ [(base + y.length, am_e c3 ad g w y.length sh)] := by
  simp [am_w, List.zipIdx_append]
def am_k0 (ty : FieldType) : am_Kd := match ty with
  | .int => .inl 0
  | .long => .inl 1
  | _ => .inr none
def am_o0 (ci : Nat) : am_Sh := .inr (ci, (List.range (am_Nc ci)).map (fun k => am_k0 (am_yc ci k)))
def am_tys (ci : Nat) : Bool := (List.range (am_Nc ci)).all (fun k => match am_yc ci k with
  | .int => true
  | .long => true
  | .object _ => true
  | .array _ => true
  | _ => false)
theorem am_new (C0 : am_Cx x own cc nL) {idx ci : Nat} (hci : ci < 9) (hty : am_tys ci = true) (hz : ∀ k, g y.length k = 0 ∧ w y.length k = 0) (hy : y.length < 98) (hw : Cond.classLink (am_cn own) idx (am_Rc ci) ∈ am_tbl ∧ Cond.instantiable (am_Rc ci) (am_Nc ci) ∈ am_tbl ∧ Cond.initialized (am_Rc ci) ∈ am_tbl) (hR : cs.1 + 1 ≤ (am_R x).cells ∧ cs.2 + am_Nc ci ≤ (am_R x).slots) (hd : am_dec cc pc (.new idx) 3 = true)
    (hb : am_ba x ≤ (am_s x).heap.size) (kk : am_Ev x nL (cs.1 + 1, cs.2 + am_Nc ci) Q (pc + 3) L (.ref y.length :: st) (y ++ [am_o0 ci]) g w) : am_Ev x nL cs Q pc L st y g w := by
  intro H locs ls hP hS hl
  have hKn := C0.hK.1 ci _ (am_clc ci hci)
  have ha : am_xa x y.length = am_ba x + y.length := am_ad_lt (n := y.length + 1) (by omega) (by omega)
  refine W.newcK C0.hx C0.hb C0.hown (C0.hts _ hw.1) (C0.hts _ hw.2.1) (C0.hts _ hw.2.2) rfl (am_dec_ok hd) hR.1 hR.2 hKn.2.1 hP.1 fun H1 kC hkC e1 z1 o1 => ?_
  have hk : ∀ (k : Nat) (q : Nat × va_E), (am_w (am_c3 x) (am_xa x) (am_ba x) y g w)[k]? = some q → H1[q.1]? = H[q.1]? := fun k q hq => o1 q.1 (by rw [← hP.1]; exact (hP.2 k q hq).lt)
  have k2 := kk H1 locs ls ⟨by rw [z1, List.length_append]; simp; omega, by
    rw [am_w_app]
    refine (hP.2.kept hk).app (fun k q hq => ?_)
    have hz0 : k < 1 := (List.getElem?_eq_some_iff.mp hq).1
    rw [show k = 0 by omega] at hq
    cases hq
    refine ⟨_, am_clc ci hci, (u_born (am_yc ci) C0.hts (am_wic ci hci) hKn hkC e1 (am_tyc ci hci)).to (fun j hj => ?_)⟩
    show defaultValue (am_yc ci j) = vp_V (am_fs (am_xa x) g w y.length _) j
    have hget : (((List.range (am_Nc ci)).map (fun k => am_k0 (am_yc ci k))))[j]? = some (am_k0 (am_yc ci j)) := by
      have hj' : j < am_Nc ci := hj
      rw [List.getElem?_map, List.getElem?_range hj']
      rfl
    have hty2 := List.all_eq_true.mp hty j (List.mem_range.mpr hj)
    simp only [vp_V, List.getD_eq_getElem?_getD, am_fs_at hget, Option.getD_some]
    cases hyc : am_yc ci j <;> simp [am_k0, am_fv, am_v, hz, defaultValue, hyc] at hty2 ⊢⟩ ⟨Nat.le_trans hS.1 (by rw [z1, hP.1]; omega), fun q h1 h2 => (o1 q (by have h3 : q < (am_s x).heap.size := h1; have := hS.1; rw [hP.1] at this; omega)).trans (hS.2.1 q h1 h2), hS.2.2⟩ hl
  have e : (List.map (am_v (am_xa x)) (.ref y.length :: st)) = .ref (am_ba x + y.length) :: st.map (am_v (am_xa x)) := by simp [am_v, ha]
  rw [e] at k2
  exact k2
end AMM
end
section
/-! constructors: new arrays, final fields -/
section AMI
variable {x : am_X} {own : Nat} {cc : ByteArray} {nL : Nat} {cs : Nat × Nat} {Q : State → Prop} {pc : Nat} {L L' : List (Option Value)} {st st' : List Value} {y y' : am_Y} {g g' : am_G} {w w' : am_J} {ret : Option FieldType}
def am_at0 (t : Nat) : ArrayType := match t with
  | 0 => .int
  | 1 => .boolean
  | _ => .long
def am_ft (t : Nat) : FieldType := match t with
  | 0 => .int
  | 1 => .boolean
  | _ => .long
theorem am_newa (C0 : am_Cx x own cc nL) {t N : Nat} {n : Int32} (ht : t < 3) (hn : ¬ n < 0) (hN : n.toNatClampNeg = N) (hz : ∀ k, g y.length k = 0 ∧ w y.length k = 0) (hy : y.length < 98) (hw : Cond.arrayClass (am_ft t) ∈ am_tbl) (hsm : N ≤ 1000) (hR : cs.1 + 1 ≤ (am_R x).cells ∧ cs.2 + N ≤ (am_R x).slots) (hd : am_dec cc pc (.newarray (am_at0 t)) 2 = true)
    (kk : am_Ev x nL (cs.1 + 1, cs.2 + N) Q (pc + 2) L (.ref y.length :: st) (y ++ [.inl (t, N)]) g w) : am_Ev x nL cs Q pc L (.int n :: st) y g w := by
  intro H locs ls hP hS hl
  have ha : am_xa x y.length = am_ba x + y.length := am_ad_lt (n := y.length + 1) (by omega) (by omega)
  have hft : newarray.typeOf (am_at0 t) = am_ft t := by
    match t, ht with
    | 0, _ => rfl
    | 1, _ => rfl
    | 2, _ => rfl
  have hwb : (Cond.arrayClass (newarray.typeOf (am_at0 t))).before (am_a x) (am_s x) = true := by rw [hft]; exact C0.hts _ hw
  refine va_newaK C0.hx C0.hb hwb rfl (am_dec_ok hd) rfl hn hN (by rw [hft]; match t, ht with
    | 0, _ => simp only [am_ft, componentBytes]; omega
    | 1, _ => simp only [am_ft, componentBytes]; omega
    | 2, _ => simp only [am_ft, componentBytes]; omega) hR.1 hR.2 hP.1 fun H1 cA e1 z1 o1 hAr hNm => ?_
  rw [hft] at e1 hNm
  have hk : ∀ (k : Nat) (q : Nat × va_E), (am_w (am_c3 x) (am_xa x) (am_ba x) y g w)[k]? = some q → H1[q.1]? = H[q.1]? := fun k q hq => o1 q.1 (by rw [← hP.1]; exact (hP.2 k q hq).lt)
  have k2 := kk H1 locs ls ⟨by rw [z1, List.length_append]; simp; omega, by
    rw [am_w_app]
    refine (hP.2.kept hk).app (fun k q hq => ?_)
    have hz0 : k < 1 := (List.getElem?_eq_some_iff.mp hq).1
    rw [show k = 0 by omega] at hq
    cases hq
    have hg0 : g y.length = fun _ => 0 := funext fun k => (hz k).1
    have hw0 : w y.length = fun _ => 0 := funext fun k => (hz k).2
    match t, ht with
    | 0, _ =>
      have hc : cA = (am_c3 x).1 := Option.some.inj (hNm.symm.trans (C0.hK.2 0 _ rfl).2)
      show H1[_]? = some (vp_cell _ _)
      rw [← hc, vp_cell_i, hg0]
      exact e1
    | 1, _ =>
      have hc : cA = (am_c3 x).2.1 := Option.some.inj (hNm.symm.trans (C0.hK.2 1 _ rfl).2)
      show H1[_]? = some (vp_cell _ _)
      rw [← hc, vp_cell_i, hg0]
      exact e1
    | 2, _ =>
      have hc : cA = (am_c3 x).2.2 := Option.some.inj (hNm.symm.trans (C0.hK.2 2 _ rfl).2)
      show H1[_]? = some (vp_cell _ _)
      rw [← hc, vp_cell_l, hw0]
      exact e1⟩ ⟨Nat.le_trans hS.1 (by rw [z1, hP.1]; omega), fun q h1 h2 => (o1 q (by have h3 : q < (am_s x).heap.size := h1; have := hS.1; rw [hP.1] at this; omega)).trans (hS.2.1 q h1 h2), hS.2.2⟩ hl
  have e : (List.map (am_v (am_xa x)) (.ref y.length :: st)) = .ref (am_ba x + y.length) :: st.map (am_v (am_xa x)) := by simp [am_v, ha]
  rw [e] at k2
  exact k2
theorem am_w_setY {c3 : ClassId × ClassId × ClassId} {ad : Nat → Nat} {base i : Nat} {sh : am_Sh} : (am_w c3 ad base y g w).set i (base + i, am_e c3 ad g w i sh) = am_w c3 ad base (y.set i sh) g w := by
  apply List.ext_getElem?
  intro k
  by_cases hk : k = i
  · subst hk
    by_cases hl : k < y.length
    · rw [List.getElem?_set_self (by rw [am_w_len]; exact hl), am_w_at (List.getElem?_set_self hl)]
    · rw [List.getElem?_eq_none (by rw [List.length_set, am_w_len]; omega), List.getElem?_eq_none (by rw [am_w_len, List.length_set]; omega)]
  · rw [List.getElem?_set_ne (Ne.symm hk)]
    cases h : y[k]? with
    | none =>
      have h1 : y.length ≤ k := by simpa using h
      rw [List.getElem?_eq_none (by rw [am_w_len]; exact h1), List.getElem?_eq_none (by rw [am_w_len, List.length_set]; exact h1)]
    | some s2 => rw [am_w_at h, am_w_at (show (y.set i sh)[k]? = some s2 by rw [List.getElem?_set_ne (Ne.symm hk)]; exact h)]
theorem am_fs_setK {ad : Nat → Nat} {i k r : Nat} {ks : List am_Kd} (hk : k < ks.length) : (am_fs ad g w i ks).set k (.ref (ad r)) = am_fs ad g w i (ks.set k (.inr (some r))) := by
  apply List.ext_getElem?
  intro j
  by_cases hj : j = k
  · subst hj
    rw [List.getElem?_set_self (by rw [am_fs_len]; exact hk), am_fs_at (List.getElem?_set_self hk)]
    rfl
  · rw [List.getElem?_set_ne (Ne.symm hj)]
    cases h : ks[j]? with
    | none =>
      have h1 : ks.length ≤ j := by simpa using h
      rw [List.getElem?_eq_none (by rw [am_fs_len]; exact h1), List.getElem?_eq_none (by rw [am_fs_len, List.length_set]; exact h1)]
    | some d2 => rw [am_fs_at h, am_fs_at (show (ks.set k (.inr (some r)))[j]? = some d2 by rw [List.getElem?_set_ne (Ne.symm hj)]; exact h)]
def am_isr (ty : FieldType) : Bool := match ty with
  | .object _ => true
  | .array _ => true
  | _ => false
theorem am_pfF (C0 : am_Cx x own cc nL) (hy : y.length ≤ 98) (hnm : (am_me x).name = "<init>") {ci k idx i r : Nat} {ks : List am_Kd} {rest : List Value} (hf : am_flb own idx ci k = true) (hfin : (am_Tc ci k).2.2.2 = true) (hown : (am_Tc ci k).1 = am_cn own) (hr : am_isr (am_yc ci k) = true) (hi : y[i]? = some (.inr (ci, ks))) (hk : k < ks.length) (hd : am_dec cc pc (.putfield idx) 3 = true)
    (kk : am_Ev x nL cs Q (pc + 3) L rest (y.set i (.inr (ci, ks.set k (.inr (some r))))) g w) : am_Ev x nL cs Q pc L (.ref r :: .ref i :: rest) y g w := by
  obtain ⟨h1, h2, h3⟩ := am_flb_ok hf
  intro H locs ls hP hS hl
  have ha : am_xa x i = am_ba x + i := am_ad_lt (List.getElem?_eq_some_iff.mp hi).1 hy
  have hw := am_w_at (c3 := am_c3 x) (ad := am_xa x) (base := am_ba x) (g := g) (w := w) hi
  have e : (List.map (am_v (am_xa x)) (.ref r :: .ref i :: rest)) = .ref (am_xa x r) :: .ref (am_ba x + i) :: rest.map (am_v (am_xa x)) := by simp [am_v, ha]
  rw [e]
  refine am_putFW C0.hx C0.hb C0.hts (am_wic ci h1) (am_yc ci) (am_tyc ci h1) (am_nmc ci h1) C0.hown C0.hK hP.2 am_D hS i hw (am_clc ci h1) k h2 (C0.hts _ h3) (fun _ h9 => h9) hfin hnm hown (am_tyc ci h1 k h2) ?_ ?_ (by rw [am_fs_len]; exact hk) (am_dec_ok hd) (fun H1 locs1 hz hP1 hS1 => kk H1 locs1 ls ⟨by rw [hz, List.length_set]; exact hP.1, ?_⟩ hS1 hl)
  · cases hyc : am_yc ci k <;> first | rfl | (rw [hyc] at hr; cases hr)
  · cases hyc : am_yc ci k <;> first | rfl | (rw [hyc] at hr; cases hr)
  · rw [am_fs_setK hk] at hP1
    have := am_w_setY (c3 := am_c3 x) (ad := am_xa x) (base := am_ba x) (y := y) (g := g) (w := w) (i := i) (sh := .inr (ci, ks.set k (.inr (some r))))
    rw [← this]
    exact hP1
end AMI
end
