-- ===== PART A: goes FIRST, ahead of the names: the tables' words, and 'selects' of the private methods out of them =====
/-- a private method of a class that the tables say can be made, by its rows of tables_1 -/
def lw_okq (q : MethodName × Nat) : Prop := (q.1.cls ≠ "java/lang/invoke/MethodHandle" ∧ q.1.cls ≠ "java/lang/invoke/VarHandle") ∧ Cond.instantiable q.1.cls q.2 ∈ tables_1 ∧ Cond.privateMethod q.1 ∈ tables_1 ∧ Cond.instanceMethod q.1 ∈ tables_1
theorem lw_p0 : lw_okq (⟨"ShutterTown$Letters", "fitsHead", "(I)Z"⟩, 2) := ⟨⟨by decide +kernel, by decide +kernel⟩, List.mem_of_getElem? (i := 23) (by decide +kernel), List.mem_of_getElem? (i := 202) (by decide +kernel), List.mem_of_getElem? (i := 203) (by decide +kernel)⟩
theorem lw_p1 : lw_okq (⟨"ShutterTown$Letters", "isLetter", "(IC)Z"⟩, 2) := ⟨⟨by decide +kernel, by decide +kernel⟩, List.mem_of_getElem? (i := 23) (by decide +kernel), List.mem_of_getElem? (i := 206) (by decide +kernel), List.mem_of_getElem? (i := 207) (by decide +kernel)⟩
theorem lw_p2 : lw_okq (⟨"ShutterTown$Letters", "isFigure", "(III)Z"⟩, 2) := ⟨⟨by decide +kernel, by decide +kernel⟩, List.mem_of_getElem? (i := 23) (by decide +kernel), List.mem_of_getElem? (i := 210) (by decide +kernel), List.mem_of_getElem? (i := 211) (by decide +kernel)⟩
theorem lw_p3 : lw_okq (⟨"ShutterTown$Letters", "fitsWindow", "(I)Z"⟩, 2) := ⟨⟨by decide +kernel, by decide +kernel⟩, List.mem_of_getElem? (i := 23) (by decide +kernel), List.mem_of_getElem? (i := 218) (by decide +kernel), List.mem_of_getElem? (i := 219) (by decide +kernel)⟩
theorem lw_p4 : lw_okq (⟨"ShutterTown$Letters", "isTaken", "(II)Z"⟩, 2) := ⟨⟨by decide +kernel, by decide +kernel⟩, List.mem_of_getElem? (i := 23) (by decide +kernel), List.mem_of_getElem? (i := 222) (by decide +kernel), List.mem_of_getElem? (i := 223) (by decide +kernel)⟩
theorem lw_p5 : lw_okq (⟨"ShutterTown$Houses", "facing", "(I)I"⟩, 8) := ⟨⟨by decide +kernel, by decide +kernel⟩, List.mem_of_getElem? (i := 37) (by decide +kernel), List.mem_of_getElem? (i := 242) (by decide +kernel), List.mem_of_getElem? (i := 243) (by decide +kernel)⟩
theorem lw_p6 : lw_okq (⟨"ShutterTown$Acts", "forgetFirst", "()V"⟩, 2) := ⟨⟨by decide +kernel, by decide +kernel⟩, List.mem_of_getElem? (i := 87) (by decide +kernel), List.mem_of_getElem? (i := 338) (by decide +kernel), List.mem_of_getElem? (i := 339) (by decide +kernel)⟩
theorem lw_p7 : lw_okq (⟨"ShutterTown", "refusalOfTwo", "(II)I"⟩, 11) := ⟨⟨by decide +kernel, by decide +kernel⟩, List.mem_of_getElem? (i := 15) (by decide +kernel), List.mem_of_getElem? (i := 414) (by decide +kernel), List.mem_of_getElem? (i := 415) (by decide +kernel)⟩
theorem lw_p8 : lw_okq (⟨"ShutterTown$Ways", "goOn", "(II)V"⟩, 2) := ⟨⟨by decide +kernel, by decide +kernel⟩, List.mem_of_getElem? (i := 113) (by decide +kernel), List.mem_of_getElem? (i := 428) (by decide +kernel), List.mem_of_getElem? (i := 429) (by decide +kernel)⟩
theorem lw_p9 : lw_okq (⟨"ShutterTown$Ways", "hoursAt", "(I)I"⟩, 2) := ⟨⟨by decide +kernel, by decide +kernel⟩, List.mem_of_getElem? (i := 113) (by decide +kernel), List.mem_of_getElem? (i := 443) (by decide +kernel), List.mem_of_getElem? (i := 444) (by decide +kernel)⟩
theorem lw_p10 : lw_okq (⟨"ShutterTown", "happens", "(II)Z"⟩, 11) := ⟨⟨by decide +kernel, by decide +kernel⟩, List.mem_of_getElem? (i := 15) (by decide +kernel), List.mem_of_getElem? (i := 497) (by decide +kernel), List.mem_of_getElem? (i := 498) (by decide +kernel)⟩
theorem lw_p11 : lw_okq (⟨"ShutterTown$Houses", "gain", "(II)I"⟩, 8) := ⟨⟨by decide +kernel, by decide +kernel⟩, List.mem_of_getElem? (i := 37) (by decide +kernel), List.mem_of_getElem? (i := 582) (by decide +kernel), List.mem_of_getElem? (i := 583) (by decide +kernel)⟩
theorem lw_p12 : lw_okq (⟨"ShutterTownModel", "readText", "()I"⟩, 31) := ⟨⟨by decide +kernel, by decide +kernel⟩, List.mem_of_getElem? (i := 661) (by decide +kernel), List.mem_of_getElem? (i := 778) (by decide +kernel), List.mem_of_getElem? (i := 779) (by decide +kernel)⟩
theorem lw_p13 : lw_okq (⟨"ShutterTownModel", "figure", "(II)I"⟩, 31) := ⟨⟨by decide +kernel, by decide +kernel⟩, List.mem_of_getElem? (i := 661) (by decide +kernel), List.mem_of_getElem? (i := 782) (by decide +kernel), List.mem_of_getElem? (i := 783) (by decide +kernel)⟩
theorem lw_p14 : lw_okq (⟨"ShutterTownModel", "readWindow", "()V"⟩, 31) := ⟨⟨by decide +kernel, by decide +kernel⟩, List.mem_of_getElem? (i := 661) (by decide +kernel), List.mem_of_getElem? (i := 786) (by decide +kernel), List.mem_of_getElem? (i := 787) (by decide +kernel)⟩
theorem lw_p15 : lw_okq (⟨"ShutterTownModel", "placesLeft", "()I"⟩, 31) := ⟨⟨by decide +kernel, by decide +kernel⟩, List.mem_of_getElem? (i := 661) (by decide +kernel), List.mem_of_getElem? (i := 790) (by decide +kernel), List.mem_of_getElem? (i := 791) (by decide +kernel)⟩
def lw_privs_1 : List (MethodName × Nat) := [(⟨"ShutterTown$Letters", "fitsHead", "(I)Z"⟩, 2), (⟨"ShutterTown$Letters", "isLetter", "(IC)Z"⟩, 2), (⟨"ShutterTown$Letters", "isFigure", "(III)Z"⟩, 2), (⟨"ShutterTown$Letters", "fitsWindow", "(I)Z"⟩, 2), (⟨"ShutterTown$Letters", "isTaken", "(II)Z"⟩, 2), (⟨"ShutterTown$Houses", "facing", "(I)I"⟩, 8), (⟨"ShutterTown$Acts", "forgetFirst", "()V"⟩, 2), (⟨"ShutterTown", "refusalOfTwo", "(II)I"⟩, 11), (⟨"ShutterTown$Ways", "goOn", "(II)V"⟩, 2), (⟨"ShutterTown$Ways", "hoursAt", "(I)I"⟩, 2), (⟨"ShutterTown", "happens", "(II)Z"⟩, 11), (⟨"ShutterTown$Houses", "gain", "(II)I"⟩, 8), (⟨"ShutterTownModel", "readText", "()I"⟩, 31), (⟨"ShutterTownModel", "figure", "(II)I"⟩, 31), (⟨"ShutterTownModel", "readWindow", "()V"⟩, 31), (⟨"ShutterTownModel", "placesLeft", "()I"⟩, 31)]
theorem lw_r1 : ∀ q ∈ lw_privs_1, lw_okq q := List.forall_mem_cons.mpr ⟨lw_p0, List.forall_mem_cons.mpr ⟨lw_p1, List.forall_mem_cons.mpr ⟨lw_p2, List.forall_mem_cons.mpr ⟨lw_p3, List.forall_mem_cons.mpr ⟨lw_p4, List.forall_mem_cons.mpr ⟨lw_p5, List.forall_mem_cons.mpr ⟨lw_p6, List.forall_mem_cons.mpr ⟨lw_p7, List.forall_mem_cons.mpr ⟨lw_p8, List.forall_mem_cons.mpr ⟨lw_p9, List.forall_mem_cons.mpr ⟨lw_p10, List.forall_mem_cons.mpr ⟨lw_p11, List.forall_mem_cons.mpr ⟨lw_p12, List.forall_mem_cons.mpr ⟨lw_p13, List.forall_mem_cons.mpr ⟨lw_p14, List.forall_mem_cons.mpr ⟨lw_p15, fun _ h => absurd h List.not_mem_nil⟩⟩⟩⟩⟩⟩⟩⟩⟩⟩⟩⟩⟩⟩⟩⟩
theorem lw_p16 : lw_okq (⟨"ShutterTownModel", "figureOf", "(I)I"⟩, 31) := ⟨⟨by decide +kernel, by decide +kernel⟩, List.mem_of_getElem? (i := 661) (by decide +kernel), List.mem_of_getElem? (i := 794) (by decide +kernel), List.mem_of_getElem? (i := 795) (by decide +kernel)⟩
theorem lw_p17 : lw_okq (⟨"ShutterTownModel", "isWindow", "(I)Z"⟩, 31) := ⟨⟨by decide +kernel, by decide +kernel⟩, List.mem_of_getElem? (i := 661) (by decide +kernel), List.mem_of_getElem? (i := 810) (by decide +kernel), List.mem_of_getElem? (i := 811) (by decide +kernel)⟩
theorem lw_p18 : lw_okq (⟨"ShutterTownModel", "wordOf", "(II)I"⟩, 31) := ⟨⟨by decide +kernel, by decide +kernel⟩, List.mem_of_getElem? (i := 661) (by decide +kernel), List.mem_of_getElem? (i := 814) (by decide +kernel), List.mem_of_getElem? (i := 815) (by decide +kernel)⟩
theorem lw_p19 : lw_okq (⟨"ShutterTownModel", "seen", "(I)I"⟩, 31) := ⟨⟨by decide +kernel, by decide +kernel⟩, List.mem_of_getElem? (i := 661) (by decide +kernel), List.mem_of_getElem? (i := 818) (by decide +kernel), List.mem_of_getElem? (i := 819) (by decide +kernel)⟩
theorem lw_p20 : lw_okq (⟨"ShutterTownModel", "sees", "(II)Z"⟩, 31) := ⟨⟨by decide +kernel, by decide +kernel⟩, List.mem_of_getElem? (i := 661) (by decide +kernel), List.mem_of_getElem? (i := 822) (by decide +kernel), List.mem_of_getElem? (i := 823) (by decide +kernel)⟩
theorem lw_p21 : lw_okq (⟨"ShutterTownModel", "keepAct", "()V"⟩, 31) := ⟨⟨by decide +kernel, by decide +kernel⟩, List.mem_of_getElem? (i := 661) (by decide +kernel), List.mem_of_getElem? (i := 832) (by decide +kernel), List.mem_of_getElem? (i := 833) (by decide +kernel)⟩
theorem lw_p22 : lw_okq (⟨"ShutterTownModel", "windOn", "(I)I"⟩, 31) := ⟨⟨by decide +kernel, by decide +kernel⟩, List.mem_of_getElem? (i := 661) (by decide +kernel), List.mem_of_getElem? (i := 840) (by decide +kernel), List.mem_of_getElem? (i := 841) (by decide +kernel)⟩
theorem lw_p23 : lw_okq (⟨"ShutterTownModel", "leastState", "(I)I"⟩, 31) := ⟨⟨by decide +kernel, by decide +kernel⟩, List.mem_of_getElem? (i := 661) (by decide +kernel), List.mem_of_getElem? (i := 848) (by decide +kernel), List.mem_of_getElem? (i := 849) (by decide +kernel)⟩
theorem lw_p24 : lw_okq (⟨"ShutterTownModel", "hourOn", "(I)I"⟩, 31) := ⟨⟨by decide +kernel, by decide +kernel⟩, List.mem_of_getElem? (i := 661) (by decide +kernel), List.mem_of_getElem? (i := 856) (by decide +kernel), List.mem_of_getElem? (i := 857) (by decide +kernel)⟩
theorem lw_p25 : lw_okq (⟨"ShutterTownModel", "layWays", "(III)V"⟩, 31) := ⟨⟨by decide +kernel, by decide +kernel⟩, List.mem_of_getElem? (i := 661) (by decide +kernel), List.mem_of_getElem? (i := 868) (by decide +kernel), List.mem_of_getElem? (i := 869) (by decide +kernel)⟩
theorem lw_p26 : lw_okq (⟨"ShutterTownModel", "hoursBy", "(IIIII)I"⟩, 31) := ⟨⟨by decide +kernel, by decide +kernel⟩, List.mem_of_getElem? (i := 661) (by decide +kernel), List.mem_of_getElem? (i := 875) (by decide +kernel), List.mem_of_getElem? (i := 876) (by decide +kernel)⟩
theorem lw_p27 : lw_okq (⟨"ShutterTownModel", "isTold", "(II)Z"⟩, 31) := ⟨⟨by decide +kernel, by decide +kernel⟩, List.mem_of_getElem? (i := 661) (by decide +kernel), List.mem_of_getElem? (i := 893) (by decide +kernel), List.mem_of_getElem? (i := 894) (by decide +kernel)⟩
theorem lw_p28 : lw_okq (⟨"ShutterTownModel", "layTrial", "()V"⟩, 31) := ⟨⟨by decide +kernel, by decide +kernel⟩, List.mem_of_getElem? (i := 661) (by decide +kernel), List.mem_of_getElem? (i := 910) (by decide +kernel), List.mem_of_getElem? (i := 911) (by decide +kernel)⟩
theorem lw_p29 : lw_okq (⟨"ShutterTownModel", "tryMove", "(II)Z"⟩, 31) := ⟨⟨by decide +kernel, by decide +kernel⟩, List.mem_of_getElem? (i := 661) (by decide +kernel), List.mem_of_getElem? (i := 915) (by decide +kernel), List.mem_of_getElem? (i := 916) (by decide +kernel)⟩
theorem lw_p30 : lw_okq (⟨"ShutterTownModel", "alike", "(I)I"⟩, 31) := ⟨⟨by decide +kernel, by decide +kernel⟩, List.mem_of_getElem? (i := 661) (by decide +kernel), List.mem_of_getElem? (i := 919) (by decide +kernel), List.mem_of_getElem? (i := 920) (by decide +kernel)⟩
theorem lw_p31 : lw_okq (⟨"ShutterTownModel", "isCode", "(I)Z"⟩, 31) := ⟨⟨by decide +kernel, by decide +kernel⟩, List.mem_of_getElem? (i := 661) (by decide +kernel), List.mem_of_getElem? (i := 935) (by decide +kernel), List.mem_of_getElem? (i := 936) (by decide +kernel)⟩
def lw_privs_2 : List (MethodName × Nat) := [(⟨"ShutterTownModel", "figureOf", "(I)I"⟩, 31), (⟨"ShutterTownModel", "isWindow", "(I)Z"⟩, 31), (⟨"ShutterTownModel", "wordOf", "(II)I"⟩, 31), (⟨"ShutterTownModel", "seen", "(I)I"⟩, 31), (⟨"ShutterTownModel", "sees", "(II)Z"⟩, 31), (⟨"ShutterTownModel", "keepAct", "()V"⟩, 31), (⟨"ShutterTownModel", "windOn", "(I)I"⟩, 31), (⟨"ShutterTownModel", "leastState", "(I)I"⟩, 31), (⟨"ShutterTownModel", "hourOn", "(I)I"⟩, 31), (⟨"ShutterTownModel", "layWays", "(III)V"⟩, 31), (⟨"ShutterTownModel", "hoursBy", "(IIIII)I"⟩, 31), (⟨"ShutterTownModel", "isTold", "(II)Z"⟩, 31), (⟨"ShutterTownModel", "layTrial", "()V"⟩, 31), (⟨"ShutterTownModel", "tryMove", "(II)Z"⟩, 31), (⟨"ShutterTownModel", "alike", "(I)I"⟩, 31), (⟨"ShutterTownModel", "isCode", "(I)Z"⟩, 31)]
theorem lw_r2 : ∀ q ∈ lw_privs_2, lw_okq q := List.forall_mem_cons.mpr ⟨lw_p16, List.forall_mem_cons.mpr ⟨lw_p17, List.forall_mem_cons.mpr ⟨lw_p18, List.forall_mem_cons.mpr ⟨lw_p19, List.forall_mem_cons.mpr ⟨lw_p20, List.forall_mem_cons.mpr ⟨lw_p21, List.forall_mem_cons.mpr ⟨lw_p22, List.forall_mem_cons.mpr ⟨lw_p23, List.forall_mem_cons.mpr ⟨lw_p24, List.forall_mem_cons.mpr ⟨lw_p25, List.forall_mem_cons.mpr ⟨lw_p26, List.forall_mem_cons.mpr ⟨lw_p27, List.forall_mem_cons.mpr ⟨lw_p28, List.forall_mem_cons.mpr ⟨lw_p29, List.forall_mem_cons.mpr ⟨lw_p30, List.forall_mem_cons.mpr ⟨lw_p31, fun _ h => absurd h List.not_mem_nil⟩⟩⟩⟩⟩⟩⟩⟩⟩⟩⟩⟩⟩⟩⟩⟩
theorem lw_p32 : lw_okq (⟨"ShutterTownModel", "greatestPart", "(I)I"⟩, 31) := ⟨⟨by decide +kernel, by decide +kernel⟩, List.mem_of_getElem? (i := 661) (by decide +kernel), List.mem_of_getElem? (i := 946) (by decide +kernel), List.mem_of_getElem? (i := 947) (by decide +kernel)⟩
theorem lw_p33 : lw_okq (⟨"ShutterTownModel", "layHours", "(III)V"⟩, 31) := ⟨⟨by decide +kernel, by decide +kernel⟩, List.mem_of_getElem? (i := 661) (by decide +kernel), List.mem_of_getElem? (i := 959) (by decide +kernel), List.mem_of_getElem? (i := 960) (by decide +kernel)⟩
theorem lw_p34 : lw_okq (⟨"ShutterTownModel", "isRest", "(II)Z"⟩, 31) := ⟨⟨by decide +kernel, by decide +kernel⟩, List.mem_of_getElem? (i := 661) (by decide +kernel), List.mem_of_getElem? (i := 967) (by decide +kernel), List.mem_of_getElem? (i := 968) (by decide +kernel)⟩
theorem lw_p35 : lw_okq (⟨"ShutterTownModel", "lets", "(II)I"⟩, 31) := ⟨⟨by decide +kernel, by decide +kernel⟩, List.mem_of_getElem? (i := 661) (by decide +kernel), List.mem_of_getElem? (i := 971) (by decide +kernel), List.mem_of_getElem? (i := 972) (by decide +kernel)⟩
theorem lw_p36 : lw_okq (⟨"ShutterTownModel", "loose", "()I"⟩, 31) := ⟨⟨by decide +kernel, by decide +kernel⟩, List.mem_of_getElem? (i := 661) (by decide +kernel), List.mem_of_getElem? (i := 979) (by decide +kernel), List.mem_of_getElem? (i := 980) (by decide +kernel)⟩
theorem lw_p37 : lw_okq (⟨"ShutterTownModel", "reads", "(III)Z"⟩, 31) := ⟨⟨by decide +kernel, by decide +kernel⟩, List.mem_of_getElem? (i := 661) (by decide +kernel), List.mem_of_getElem? (i := 983) (by decide +kernel), List.mem_of_getElem? (i := 984) (by decide +kernel)⟩
def lw_privs_3 : List (MethodName × Nat) := [(⟨"ShutterTownModel", "greatestPart", "(I)I"⟩, 31), (⟨"ShutterTownModel", "layHours", "(III)V"⟩, 31), (⟨"ShutterTownModel", "isRest", "(II)Z"⟩, 31), (⟨"ShutterTownModel", "lets", "(II)I"⟩, 31), (⟨"ShutterTownModel", "loose", "()I"⟩, 31), (⟨"ShutterTownModel", "reads", "(III)Z"⟩, 31)]
theorem lw_r3 : ∀ q ∈ lw_privs_3, lw_okq q := List.forall_mem_cons.mpr ⟨lw_p32, List.forall_mem_cons.mpr ⟨lw_p33, List.forall_mem_cons.mpr ⟨lw_p34, List.forall_mem_cons.mpr ⟨lw_p35, List.forall_mem_cons.mpr ⟨lw_p36, List.forall_mem_cons.mpr ⟨lw_p37, fun _ h => absurd h List.not_mem_nil⟩⟩⟩⟩⟩⟩
def lw_privs : List (MethodName × Nat) := lw_privs_1 ++ (lw_privs_2 ++ (lw_privs_3))
def lw_tbl : List Cond := k2_sels lw_privs ++ tables_1
theorem lw_privs_ok : ∀ q ∈ lw_privs, lw_okq q := by
  show ∀ q ∈ lw_privs_1 ++ (lw_privs_2 ++ (lw_privs_3)), lw_okq q
  exact List.forall_mem_append.mpr ⟨lw_r1, List.forall_mem_append.mpr ⟨lw_r2, lw_r3⟩⟩
def RX0 : String := "ShutterTown$Acts"
def TX0 : u_T := fun k => match k with
  | 0 => ("ShutterTown$Acts", "rows", "[I", true)
  | _ => ("ShutterTown$Acts", "size", "I", false)
def tyX0 : Nat → FieldType := fun k => match k with
  | 0 => .array .int
  | _ => .int
theorem nmX0 : ∀ a, a < 2 → ∀ b, b < 2 → a ≠ b → (TX0 a).2.1 ≠ (TX0 b).2.1 := by decide +kernel
theorem tyX0_ok : ∀ k, k < 2 → parseFieldDescriptor (TX0 k).2.2.1 = some (tyX0 k) := by decide +kernel
abbrev cX0_init : ByteArray := prog_2_method_1_code
def yX0_init : MethodName := ⟨RX0, "<init>", "()V"⟩
abbrev cX0_size : ByteArray := prog_2_method_2_code
def yX0_size : MethodName := ⟨RX0, "size", "()I"⟩
abbrev cX0_clear : ByteArray := prog_2_method_3_code
def yX0_clear : MethodName := ⟨RX0, "clear", "()V"⟩
abbrev cX0_remember : ByteArray := prog_2_method_4_code
def yX0_remember : MethodName := ⟨RX0, "remember", "(LShutterTown$Shutters;)V"⟩
abbrev cX0_giveBack : ByteArray := prog_2_method_5_code
def yX0_giveBack : MethodName := ⟨RX0, "giveBack", "(LShutterTown$Shutters;)V"⟩
abbrev cX0_forgetFirst : ByteArray := prog_2_method_6_code
def yX0_forgetFirst : MethodName := ⟨RX0, "forgetFirst", "()V"⟩
def RX1 : String := "ShutterTown$Followed"
def TX1 : u_T := fun k => match k with
  | 0 => ("ShutterTown$Followed", "wordsLeft", "[I", true)
  | _ => ("ShutterTown$Followed", "size", "I", false)
def tyX1 : Nat → FieldType := fun k => match k with
  | 0 => .array .int
  | _ => .int
theorem nmX1 : ∀ a, a < 2 → ∀ b, b < 2 → a ≠ b → (TX1 a).2.1 ≠ (TX1 b).2.1 := by decide +kernel
theorem tyX1_ok : ∀ k, k < 2 → parseFieldDescriptor (TX1 k).2.2.1 = some (tyX1 k) := by decide +kernel
abbrev cX1_init : ByteArray := prog_3_method_1_code
def yX1_init : MethodName := ⟨RX1, "<init>", "()V"⟩
abbrev cX1_size : ByteArray := prog_3_method_2_code
def yX1_size : MethodName := ⟨RX1, "size", "()I"⟩
abbrev cX1_clear : ByteArray := prog_3_method_3_code
def yX1_clear : MethodName := ⟨RX1, "clear", "()V"⟩
abbrev cX1_add : ByteArray := prog_3_method_4_code
def yX1_add : MethodName := ⟨RX1, "add", "(IIZ)Z"⟩
abbrev cX1_codesLeft : ByteArray := prog_3_method_5_code
def yX1_codesLeft : MethodName := ⟨RX1, "codesLeft", "()I"⟩
abbrev cX1_firstCode : ByteArray := prog_3_method_6_code
def yX1_firstCode : MethodName := ⟨RX1, "firstCode", "()I"⟩
abbrev cX1_bestState : ByteArray := prog_3_method_7_code
def yX1_bestState : MethodName := ⟨RX1, "bestState", "()I"⟩
def RX2 : String := "ShutterTown$Houses"
def TX2 : u_T := fun k => match k with
  | 0 => ("ShutterTown$Houses", "words", "[I", true)
  | 1 => ("ShutterTown$Houses", "places", "[I", true)
  | 2 => ("ShutterTown$Houses", "sides", "[I", true)
  | 3 => ("ShutterTown$Houses", "floors", "[I", true)
  | 4 => ("ShutterTown$Houses", "kinds", "[I", true)
  | 5 => ("ShutterTown$Houses", "seen", "[I", true)
  | 6 => ("ShutterTown$Houses", "sight", "I", false)
  | _ => ("ShutterTown$Houses", "count", "I", false)
def tyX2 : Nat → FieldType := fun k => match k with
  | 0 => .array .int
  | 1 => .array .int
  | 2 => .array .int
  | 3 => .array .int
  | 4 => .array .int
  | 5 => .array .int
  | 6 => .int
  | _ => .int
theorem nmX2 : ∀ a, a < 8 → ∀ b, b < 8 → a ≠ b → (TX2 a).2.1 ≠ (TX2 b).2.1 := by decide +kernel
theorem tyX2_ok : ∀ k, k < 8 → parseFieldDescriptor (TX2 k).2.2.1 = some (tyX2 k) := by decide +kernel
abbrev cX2_init : ByteArray := prog_4_method_1_code
def yX2_init : MethodName := ⟨RX2, "<init>", "()V"⟩
abbrev cX2_build : ByteArray := prog_4_method_2_code
def yX2_build : MethodName := ⟨RX2, "build", "(LShutterTown$Letters;)V"⟩
abbrev cX2_has : ByteArray := prog_4_method_3_code
def yX2_has : MethodName := ⟨RX2, "has", "(I)Z"⟩
abbrev cX2_windows : ByteArray := prog_4_method_4_code
def yX2_windows : MethodName := ⟨RX2, "windows", "()I"⟩
abbrev cX2_sets : ByteArray := prog_4_method_5_code
def yX2_sets : MethodName := ⟨RX2, "sets", "()I"⟩
abbrev cX2_sight : ByteArray := prog_4_method_6_code
def yX2_sight : MethodName := ⟨RX2, "sight", "()I"⟩
abbrev cX2_place : ByteArray := prog_4_method_7_code
def yX2_place : MethodName := ⟨RX2, "place", "(I)I"⟩
abbrev cX2_side : ByteArray := prog_4_method_8_code
def yX2_side : MethodName := ⟨RX2, "side", "(I)I"⟩
abbrev cX2_floor : ByteArray := prog_4_method_9_code
def yX2_floor : MethodName := ⟨RX2, "floor", "(I)I"⟩
abbrev cX2_kind : ByteArray := prog_4_method_10_code
def yX2_kind : MethodName := ⟨RX2, "kind", "(I)I"⟩
abbrev cX2_sees : ByteArray := prog_4_method_11_code
def yX2_sees : MethodName := ⟨RX2, "sees", "(I)I"⟩
abbrev cX2_areFacing : ByteArray := prog_4_method_12_code
def yX2_areFacing : MethodName := ⟨RX2, "areFacing", "(II)Z"⟩
abbrev cX2_ofKind : ByteArray := prog_4_method_13_code
def yX2_ofKind : MethodName := ⟨RX2, "ofKind", "(I)I"⟩
abbrev cX2_wordOf : ByteArray := prog_4_method_14_code
def yX2_wordOf : MethodName := ⟨RX2, "wordOf", "(I)I"⟩
abbrev cX2_leastStateFor : ByteArray := prog_4_method_15_code
def yX2_leastStateFor : MethodName := ⟨RX2, "leastStateFor", "(I)I"⟩
abbrev cX2_wordsAsFigures : ByteArray := prog_4_method_16_code
def yX2_wordsAsFigures : MethodName := ⟨RX2, "wordsAsFigures", "()I"⟩
abbrev cX2_reachedBy : ByteArray := prog_4_method_17_code
def yX2_reachedBy : MethodName := ⟨RX2, "reachedBy", "(I)I"⟩
abbrev cX2_isBestAgainst : ByteArray := prog_4_method_18_code
def yX2_isBestAgainst : MethodName := ⟨RX2, "isBestAgainst", "(II)Z"⟩
abbrev cX2_gain : ByteArray := prog_4_method_19_code
def yX2_gain : MethodName := ⟨RX2, "gain", "(II)I"⟩
abbrev cX2_facing : ByteArray := prog_4_method_20_code
def yX2_facing : MethodName := ⟨RX2, "facing", "(I)I"⟩
def RX3 : String := "ShutterTown$Letters"
def TX3 : u_T := fun k => match k with
  | 0 => ("ShutterTown$Letters", "row", "[I", true)
  | _ => ("ShutterTown$Letters", "length", "I", false)
def tyX3 : Nat → FieldType := fun k => match k with
  | 0 => .array .int
  | _ => .int
theorem nmX3 : ∀ a, a < 2 → ∀ b, b < 2 → a ≠ b → (TX3 a).2.1 ≠ (TX3 b).2.1 := by decide +kernel
theorem tyX3_ok : ∀ k, k < 2 → parseFieldDescriptor (TX3 k).2.2.1 = some (tyX3 k) := by decide +kernel
abbrev cX3_init : ByteArray := prog_5_method_1_code
def yX3_init : MethodName := ⟨RX3, "<init>", "()V"⟩
abbrev cX3_size : ByteArray := prog_5_method_2_code
def yX3_size : MethodName := ⟨RX3, "size", "()I"⟩
abbrev cX3_add : ByteArray := prog_5_method_3_code
def yX3_add : MethodName := ⟨RX3, "add", "(I)Z"⟩
abbrev cX3_clear : ByteArray := prog_5_method_4_code
def yX3_clear : MethodName := ⟨RX3, "clear", "()V"⟩
abbrev cX3_firstFault : ByteArray := prog_5_method_5_code
def yX3_firstFault : MethodName := ⟨RX3, "firstFault", "()I"⟩
abbrev cX3_figure : ByteArray := prog_5_method_6_code
def yX3_figure : MethodName := ⟨RX3, "figure", "(I)I"⟩
abbrev cX3_isLetter : ByteArray := prog_5_method_7_code
def yX3_isLetter : MethodName := ⟨RX3, "isLetter", "(IC)Z"⟩
abbrev cX3_isFigure : ByteArray := prog_5_method_8_code
def yX3_isFigure : MethodName := ⟨RX3, "isFigure", "(III)Z"⟩
abbrev cX3_fitsHead : ByteArray := prog_5_method_9_code
def yX3_fitsHead : MethodName := ⟨RX3, "fitsHead", "(I)Z"⟩
abbrev cX3_fitsWindow : ByteArray := prog_5_method_10_code
def yX3_fitsWindow : MethodName := ⟨RX3, "fitsWindow", "(I)Z"⟩
abbrev cX3_isTaken : ByteArray := prog_5_method_11_code
def yX3_isTaken : MethodName := ⟨RX3, "isTaken", "(II)Z"⟩
def RX4 : String := "ShutterTown$Shutters"
def TX4 : u_T := fun k => match k with
  | 0 => ("ShutterTown$Shutters", "houses", "LShutterTown$Houses;", true)
  | 1 => ("ShutterTown$Shutters", "states", "[I", true)
  | 2 => ("ShutterTown$Shutters", "dues", "[I", true)
  | _ => ("ShutterTown$Shutters", "hour", "I", false)
def tyX4 : Nat → FieldType := fun k => match k with
  | 0 => .object "ShutterTown$Houses"
  | 1 => .array .int
  | 2 => .array .int
  | _ => .int
theorem nmX4 : ∀ a, a < 4 → ∀ b, b < 4 → a ≠ b → (TX4 a).2.1 ≠ (TX4 b).2.1 := by decide +kernel
theorem tyX4_ok : ∀ k, k < 4 → parseFieldDescriptor (TX4 k).2.2.1 = some (tyX4 k) := by decide +kernel
abbrev cX4_init : ByteArray := prog_6_method_1_code
def yX4_init : MethodName := ⟨RX4, "<init>", "(LShutterTown$Houses;)V"⟩
abbrev cX4_begin : ByteArray := prog_6_method_2_code
def yX4_begin : MethodName := ⟨RX4, "begin", "(LShutterTown$Letters;)V"⟩
abbrev cX4_state : ByteArray := prog_6_method_3_code
def yX4_state : MethodName := ⟨RX4, "state", "(I)I"⟩
abbrev cX4_word : ByteArray := prog_6_method_4_code
def yX4_word : MethodName := ⟨RX4, "word", "(I)I"⟩
abbrev cX4_due : ByteArray := prog_6_method_5_code
def yX4_due : MethodName := ⟨RX4, "due", "(I)I"⟩
abbrev cX4_theHour : ByteArray := prog_6_method_6_code
def yX4_theHour : MethodName := ⟨RX4, "theHour", "()I"⟩
abbrev cX4_dueCount : ByteArray := prog_6_method_7_code
def yX4_dueCount : MethodName := ⟨RX4, "dueCount", "()I"⟩
abbrev cX4_canShift : ByteArray := prog_6_method_8_code
def yX4_canShift : MethodName := ⟨RX4, "canShift", "(II)Z"⟩
abbrev cX4_shift : ByteArray := prog_6_method_9_code
def yX4_shift : MethodName := ⟨RX4, "shift", "(II)V"⟩
abbrev cX4_blow : ByteArray := prog_6_method_10_code
def yX4_blow : MethodName := ⟨RX4, "blow", "()I"⟩
abbrev cX4_takeUp : ByteArray := prog_6_method_11_code
def yX4_takeUp : MethodName := ⟨RX4, "takeUp", "(II)V"⟩
abbrev cX4_strike : ByteArray := prog_6_method_12_code
def yX4_strike : MethodName := ⟨RX4, "strike", "()I"⟩
abbrev cX4_pairsAlike : ByteArray := prog_6_method_13_code
def yX4_pairsAlike : MethodName := ⟨RX4, "pairsAlike", "()I"⟩
abbrev cX4_isRead : ByteArray := prog_6_method_14_code
def yX4_isRead : MethodName := ⟨RX4, "isRead", "(III)Z"⟩
abbrev cX4_copy : ByteArray := prog_6_method_15_code
def yX4_copy : MethodName := ⟨RX4, "copy", "(LShutterTown$Shutters;)V"⟩
abbrev cX4_store : ByteArray := prog_6_method_16_code
def yX4_store : MethodName := ⟨RX4, "store", "([II)V"⟩
abbrev cX4_restore : ByteArray := prog_6_method_17_code
def yX4_restore : MethodName := ⟨RX4, "restore", "([II)V"⟩
def RX5 : String := "ShutterTown$Slots"
def TX5 : u_T := fun k => match k with
  | 0 => ("ShutterTown$Slots", "rows", "[I", true)
  | _ => ("ShutterTown$Slots", "kept", "I", false)
def tyX5 : Nat → FieldType := fun k => match k with
  | 0 => .array .int
  | _ => .int
theorem nmX5 : ∀ a, a < 2 → ∀ b, b < 2 → a ≠ b → (TX5 a).2.1 ≠ (TX5 b).2.1 := by decide +kernel
theorem tyX5_ok : ∀ k, k < 2 → parseFieldDescriptor (TX5 k).2.2.1 = some (tyX5 k) := by decide +kernel
abbrev cX5_init : ByteArray := prog_7_method_1_code
def yX5_init : MethodName := ⟨RX5, "<init>", "()V"⟩
abbrev cX5_has : ByteArray := prog_7_method_2_code
def yX5_has : MethodName := ⟨RX5, "has", "(I)Z"⟩
abbrev cX5_isKept : ByteArray := prog_7_method_3_code
def yX5_isKept : MethodName := ⟨RX5, "isKept", "(I)Z"⟩
abbrev cX5_clear : ByteArray := prog_7_method_4_code
def yX5_clear : MethodName := ⟨RX5, "clear", "()V"⟩
abbrev cX5_put : ByteArray := prog_7_method_5_code
def yX5_put : MethodName := ⟨RX5, "put", "(ILShutterTown$Shutters;)V"⟩
abbrev cX5_giveBack : ByteArray := prog_7_method_6_code
def yX5_giveBack : MethodName := ⟨RX5, "giveBack", "(ILShutterTown$Shutters;)V"⟩
def RX6 : String := "ShutterTown$Ways"
def TX6 : u_T := fun k => match k with
  | 0 => ("ShutterTown$Ways", "houses", "LShutterTown$Houses;", true)
  | _ => ("ShutterTown$Ways", "ranks", "[J", true)
def tyX6 : Nat → FieldType := fun k => match k with
  | 0 => .object "ShutterTown$Houses"
  | _ => .array .long
theorem nmX6 : ∀ a, a < 2 → ∀ b, b < 2 → a ≠ b → (TX6 a).2.1 ≠ (TX6 b).2.1 := by decide +kernel
theorem tyX6_ok : ∀ k, k < 2 → parseFieldDescriptor (TX6 k).2.2.1 = some (tyX6 k) := by decide +kernel
abbrev cX6_init : ByteArray := prog_8_method_1_code
def yX6_init : MethodName := ⟨RX6, "<init>", "(LShutterTown$Houses;)V"⟩
abbrev cX6_measure : ByteArray := prog_8_method_2_code
def yX6_measure : MethodName := ⟨RX6, "measure", "(II)V"⟩
abbrev cX6_comesTo : ByteArray := prog_8_method_3_code
def yX6_comesTo : MethodName := ⟨RX6, "comesTo", "(I)Z"⟩
abbrev cX6_hoursTo : ByteArray := prog_8_method_4_code
def yX6_hoursTo : MethodName := ⟨RX6, "hoursTo", "(I)I"⟩
abbrev cX6_wayTo : ByteArray := prog_8_method_5_code
def yX6_wayTo : MethodName := ⟨RX6, "wayTo", "(I)I"⟩
abbrev cX6_hoursBetween : ByteArray := prog_8_method_6_code
def yX6_hoursBetween : MethodName := ⟨RX6, "hoursBetween", "(II[I)V"⟩
abbrev cX6_hoursAt : ByteArray := prog_8_method_7_code
def yX6_hoursAt : MethodName := ⟨RX6, "hoursAt", "(I)I"⟩
abbrev cX6_goOn : ByteArray := prog_8_method_8_code
def yX6_goOn : MethodName := ⟨RX6, "goOn", "(II)V"⟩
def RX7 : String := "ShutterTown"
def TX7 : u_T := fun k => match k with
  | 0 => ("ShutterTown", "text", "LShutterTown$Letters;", true)
  | 1 => ("ShutterTown", "houses", "LShutterTown$Houses;", true)
  | 2 => ("ShutterTown", "now", "LShutterTown$Shutters;", true)
  | 3 => ("ShutterTown", "tried", "LShutterTown$Shutters;", true)
  | 4 => ("ShutterTown", "acts", "LShutterTown$Acts;", true)
  | 5 => ("ShutterTown", "slots", "LShutterTown$Slots;", true)
  | 6 => ("ShutterTown", "ways", "LShutterTown$Ways;", true)
  | 7 => ("ShutterTown", "followed", "LShutterTown$Followed;", true)
  | 8 => ("ShutterTown", "hoursThere", "[I", true)
  | 9 => ("ShutterTown", "hoursBack", "[I", true)
  | _ => ("ShutterTown", "theSeed", "J", false)
def tyX7 : Nat → FieldType := fun k => match k with
  | 0 => .object "ShutterTown$Letters"
  | 1 => .object "ShutterTown$Houses"
  | 2 => .object "ShutterTown$Shutters"
  | 3 => .object "ShutterTown$Shutters"
  | 4 => .object "ShutterTown$Acts"
  | 5 => .object "ShutterTown$Slots"
  | 6 => .object "ShutterTown$Ways"
  | 7 => .object "ShutterTown$Followed"
  | 8 => .array .int
  | 9 => .array .int
  | _ => .long
theorem nmX7 : ∀ a, a < 11 → ∀ b, b < 11 → a ≠ b → (TX7 a).2.1 ≠ (TX7 b).2.1 := by decide +kernel
theorem tyX7_ok : ∀ k, k < 11 → parseFieldDescriptor (TX7 k).2.2.1 = some (tyX7 k) := by decide +kernel
abbrev cX7_init : ByteArray := prog_1_method_1_code
def yX7_init : MethodName := ⟨RX7, "<init>", "()V"⟩
abbrev cX7_write : ByteArray := prog_1_method_2_code
def yX7_write : MethodName := ⟨RX7, "write", "(I)I"⟩
abbrev cX7_wipe : ByteArray := prog_1_method_3_code
def yX7_wipe : MethodName := ⟨RX7, "wipe", "()I"⟩
abbrev cX7_fault : ByteArray := prog_1_method_4_code
def yX7_fault : MethodName := ⟨RX7, "fault", "()I"⟩
abbrev cX7_town : ByteArray := prog_1_method_5_code
def yX7_town : MethodName := ⟨RX7, "town", "()I"⟩
abbrev cX7_window : ByteArray := prog_1_method_6_code
def yX7_window : MethodName := ⟨RX7, "window", "(II)I"⟩
abbrev cX7_move : ByteArray := prog_1_method_7_code
def yX7_move : MethodName := ⟨RX7, "move", "(II)I"⟩
abbrev cX7_wind : ByteArray := prog_1_method_8_code
def yX7_wind : MethodName := ⟨RX7, "wind", "()I"⟩
abbrev cX7_pass : ByteArray := prog_1_method_9_code
def yX7_pass : MethodName := ⟨RX7, "pass", "(II)I"⟩
abbrev cX7_hour : ByteArray := prog_1_method_10_code
def yX7_hour : MethodName := ⟨RX7, "hour", "()I"⟩
abbrev cX7_undo : ByteArray := prog_1_method_11_code
def yX7_undo : MethodName := ⟨RX7, "undo", "()I"⟩
abbrev cX7_soonest : ByteArray := prog_1_method_12_code
def yX7_soonest : MethodName := ⟨RX7, "soonest", "(IIZ)I"⟩
abbrev cX7_knows : ByteArray := prog_1_method_13_code
def yX7_knows : MethodName := ⟨RX7, "knows", "(II)I"⟩
abbrev cX7_toTell : ByteArray := prog_1_method_14_code
def yX7_toTell : MethodName := ⟨RX7, "toTell", "(I)I"⟩
abbrev cX7_cut : ByteArray := prog_1_method_15_code
def yX7_cut : MethodName := ⟨RX7, "cut", "(II)I"⟩
abbrev cX7_judge : ByteArray := prog_1_method_16_code
def yX7_judge : MethodName := ⟨RX7, "judge", "(IJ)I"⟩
abbrev cX7_follow : ByteArray := prog_1_method_17_code
def yX7_follow : MethodName := ⟨RX7, "follow", "(IIZ)I"⟩
abbrev cX7_unfollow : ByteArray := prog_1_method_18_code
def yX7_unfollow : MethodName := ⟨RX7, "unfollow", "()I"⟩
abbrev cX7_codes : ByteArray := prog_1_method_19_code
def yX7_codes : MethodName := ⟨RX7, "codes", "(Z)I"⟩
abbrev cX7_look : ByteArray := prog_1_method_20_code
def yX7_look : MethodName := ⟨RX7, "look", "()I"⟩
abbrev cX7_will : ByteArray := prog_1_method_21_code
def yX7_will : MethodName := ⟨RX7, "will", "(III)I"⟩
abbrev cX7_cross : ByteArray := prog_1_method_22_code
def yX7_cross : MethodName := ⟨RX7, "cross", "(II)I"⟩
abbrev cX7_rests : ByteArray := prog_1_method_23_code
def yX7_rests : MethodName := ⟨RX7, "rests", "(I)I"⟩
abbrev cX7_slams : ByteArray := prog_1_method_24_code
def yX7_slams : MethodName := ⟨RX7, "slams", "(IIIZ)I"⟩
abbrev cX7_seed : ByteArray := prog_1_method_25_code
def yX7_seed : MethodName := ⟨RX7, "seed", "(J)J"⟩
abbrev cX7_afternoons : ByteArray := prog_1_method_26_code
def yX7_afternoons : MethodName := ⟨RX7, "afternoons", "(I)I"⟩
abbrev cX7_keep : ByteArray := prog_1_method_27_code
def yX7_keep : MethodName := ⟨RX7, "keep", "(I)I"⟩
abbrev cX7_again : ByteArray := prog_1_method_28_code
def yX7_again : MethodName := ⟨RX7, "again", "(I)I"⟩
abbrev cX7_count : ByteArray := prog_1_method_29_code
def yX7_count : MethodName := ⟨RX7, "count", "(I)I"⟩
abbrev cX7_isState : ByteArray := prog_1_method_30_code
def yX7_isState : MethodName := ⟨RX7, "isState", "(I)Z"⟩
abbrev cX7_isWord : ByteArray := prog_1_method_31_code
def yX7_isWord : MethodName := ⟨RX7, "isWord", "(I)Z"⟩
abbrev cX7_isFewer : ByteArray := prog_1_method_32_code
def yX7_isFewer : MethodName := ⟨RX7, "isFewer", "(II)Z"⟩
abbrev cX7_refusalOfTwo : ByteArray := prog_1_method_33_code
def yX7_refusalOfTwo : MethodName := ⟨RX7, "refusalOfTwo", "(II)I"⟩
abbrev cX7_withoutLast : ByteArray := prog_1_method_34_code
def yX7_withoutLast : MethodName := ⟨RX7, "withoutLast", "(JI)J"⟩
abbrev cX7_happens : ByteArray := prog_1_method_35_code
def yX7_happens : MethodName := ⟨RX7, "happens", "(II)Z"⟩
abbrev cX7_weightOf : ByteArray := prog_1_method_36_code
def yX7_weightOf : MethodName := ⟨RX7, "weightOf", "(III)I"⟩
abbrev cX7_commonDivisor : ByteArray := prog_1_method_37_code
def yX7_commonDivisor : MethodName := ⟨RX7, "commonDivisor", "(II)I"⟩
def RX8 : String := "ShutterTownModel"
def TX8 : u_T := fun k => match k with
  | 0 => ("ShutterTownModel", "windows", "I", false)
  | 1 => ("ShutterTownModel", "sight", "I", false)
  | 2 => ("ShutterTownModel", "code", "[I", true)
  | 3 => ("ShutterTownModel", "place", "[I", true)
  | 4 => ("ShutterTownModel", "side", "[I", true)
  | 5 => ("ShutterTownModel", "floor", "[I", true)
  | 6 => ("ShutterTownModel", "kind", "[I", true)
  | 7 => ("ShutterTownModel", "now", "[I", true)
  | 8 => ("ShutterTownModel", "readCode", "[I", true)
  | 9 => ("ShutterTownModel", "readOf", "[I", true)
  | 10 => ("ShutterTownModel", "readSight", "I", false)
  | 11 => ("ShutterTownModel", "readMany", "I", false)
  | 12 => ("ShutterTownModel", "readTaken", "I", false)
  | 13 => ("ShutterTownModel", "text", "[I", true)
  | 14 => ("ShutterTownModel", "length", "I", false)
  | 15 => ("ShutterTownModel", "at", "I", false)
  | 16 => ("ShutterTownModel", "faultAt", "I", false)
  | 17 => ("ShutterTownModel", "acts", "I", false)
  | 18 => ("ShutterTownModel", "next", "I", false)
  | 19 => ("ShutterTownModel", "row", "[I", true)
  | 20 => ("ShutterTownModel", "bestHours", "I", false)
  | 21 => ("ShutterTownModel", "bestWay", "I", false)
  | 22 => ("ShutterTownModel", "bestMany", "I", false)
  | 23 => ("ShutterTownModel", "followed", "I", false)
  | 24 => ("ShutterTownModel", "behind", "[I", true)
  | 25 => ("ShutterTownModel", "said", "[I", true)
  | 26 => ("ShutterTownModel", "isSure", "[Z", true)
  | 27 => ("ShutterTownModel", "saysAt", "[I", true)
  | 28 => ("ShutterTownModel", "seed", "J", false)
  | 29 => ("ShutterTownModel", "isKept", "[Z", true)
  | _ => ("ShutterTownModel", "kept", "[I", true)
def tyX8 : Nat → FieldType := fun k => match k with
  | 0 => .int
  | 1 => .int
  | 2 => .array .int
  | 3 => .array .int
  | 4 => .array .int
  | 5 => .array .int
  | 6 => .array .int
  | 7 => .array .int
  | 8 => .array .int
  | 9 => .array .int
  | 10 => .int
  | 11 => .int
  | 12 => .int
  | 13 => .array .int
  | 14 => .int
  | 15 => .int
  | 16 => .int
  | 17 => .int
  | 18 => .int
  | 19 => .array .int
  | 20 => .int
  | 21 => .int
  | 22 => .int
  | 23 => .int
  | 24 => .array .int
  | 25 => .array .int
  | 26 => .array .boolean
  | 27 => .array .int
  | 28 => .long
  | 29 => .array .boolean
  | _ => .array .int
theorem nmX8 : ∀ a, a < 31 → ∀ b, b < 31 → a ≠ b → (TX8 a).2.1 ≠ (TX8 b).2.1 := by decide +kernel
theorem tyX8_ok : ∀ k, k < 31 → parseFieldDescriptor (TX8 k).2.2.1 = some (tyX8 k) := by decide +kernel
abbrev cX8_init : ByteArray := prog_10_method_1_code
def yX8_init : MethodName := ⟨RX8, "<init>", "()V"⟩
abbrev cX8_in : ByteArray := prog_10_method_3_code
def yX8_in : MethodName := ⟨RX8, "in", "(JJJ)Z"⟩
abbrev cX8_has : ByteArray := prog_10_method_4_code
def yX8_has : MethodName := ⟨RX8, "has", "(II)Z"⟩
abbrev cX8_ones : ByteArray := prog_10_method_5_code
def yX8_ones : MethodName := ⟨RX8, "ones", "(I)I"⟩
abbrev cX8_write : ByteArray := prog_10_method_6_code
def yX8_write : MethodName := ⟨RX8, "write", "(I)I"⟩
abbrev cX8_wipe : ByteArray := prog_10_method_7_code
def yX8_wipe : MethodName := ⟨RX8, "wipe", "()I"⟩
abbrev cX8_figure : ByteArray := prog_10_method_8_code
def yX8_figure : MethodName := ⟨RX8, "figure", "(II)I"⟩
abbrev cX8_figureOf : ByteArray := prog_10_method_9_code
def yX8_figureOf : MethodName := ⟨RX8, "figureOf", "(I)I"⟩
abbrev cX8_readText : ByteArray := prog_10_method_10_code
def yX8_readText : MethodName := ⟨RX8, "readText", "()I"⟩
abbrev cX8_placesLeft : ByteArray := prog_10_method_11_code
def yX8_placesLeft : MethodName := ⟨RX8, "placesLeft", "()I"⟩
abbrev cX8_readWindow : ByteArray := prog_10_method_12_code
def yX8_readWindow : MethodName := ⟨RX8, "readWindow", "()V"⟩
abbrev cX8_fault : ByteArray := prog_10_method_13_code
def yX8_fault : MethodName := ⟨RX8, "fault", "()I"⟩
abbrev cX8_town : ByteArray := prog_10_method_14_code
def yX8_town : MethodName := ⟨RX8, "town", "()I"⟩
abbrev cX8_isWindow : ByteArray := prog_10_method_15_code
def yX8_isWindow : MethodName := ⟨RX8, "isWindow", "(I)Z"⟩
abbrev cX8_sees : ByteArray := prog_10_method_16_code
def yX8_sees : MethodName := ⟨RX8, "sees", "(II)Z"⟩
abbrev cX8_seen : ByteArray := prog_10_method_17_code
def yX8_seen : MethodName := ⟨RX8, "seen", "(I)I"⟩
abbrev cX8_wordOf : ByteArray := prog_10_method_18_code
def yX8_wordOf : MethodName := ⟨RX8, "wordOf", "(II)I"⟩
abbrev cX8_leastState : ByteArray := prog_10_method_19_code
def yX8_leastState : MethodName := ⟨RX8, "leastState", "(I)I"⟩
abbrev cX8_alike : ByteArray := prog_10_method_20_code
def yX8_alike : MethodName := ⟨RX8, "alike", "(I)I"⟩
abbrev cX8_window : ByteArray := prog_10_method_21_code
def yX8_window : MethodName := ⟨RX8, "window", "(II)I"⟩
abbrev cX8_keepAct : ByteArray := prog_10_method_22_code
def yX8_keepAct : MethodName := ⟨RX8, "keepAct", "()V"⟩
abbrev cX8_move : ByteArray := prog_10_method_23_code
def yX8_move : MethodName := ⟨RX8, "move", "(II)I"⟩
abbrev cX8_windOn : ByteArray := prog_10_method_24_code
def yX8_windOn : MethodName := ⟨RX8, "windOn", "(I)I"⟩
abbrev cX8_wind : ByteArray := prog_10_method_25_code
def yX8_wind : MethodName := ⟨RX8, "wind", "()I"⟩
abbrev cX8_pass : ByteArray := prog_10_method_26_code
def yX8_pass : MethodName := ⟨RX8, "pass", "(II)I"⟩
abbrev cX8_hourOn : ByteArray := prog_10_method_27_code
def yX8_hourOn : MethodName := ⟨RX8, "hourOn", "(I)I"⟩
abbrev cX8_hour : ByteArray := prog_10_method_28_code
def yX8_hour : MethodName := ⟨RX8, "hour", "()I"⟩
abbrev cX8_undo : ByteArray := prog_10_method_29_code
def yX8_undo : MethodName := ⟨RX8, "undo", "()I"⟩
abbrev cX8_sixes : ByteArray := prog_10_method_30_code
def yX8_sixes : MethodName := ⟨RX8, "sixes", "(I)I"⟩
abbrev cX8_between : ByteArray := prog_10_method_31_code
def yX8_between : MethodName := ⟨RX8, "between", "(III)I"⟩
abbrev cX8_hoursBy : ByteArray := prog_10_method_32_code
def yX8_hoursBy : MethodName := ⟨RX8, "hoursBy", "(IIIII)I"⟩
abbrev cX8_layWays : ByteArray := prog_10_method_33_code
def yX8_layWays : MethodName := ⟨RX8, "layWays", "(III)V"⟩
abbrev cX8_soonest : ByteArray := prog_10_method_34_code
def yX8_soonest : MethodName := ⟨RX8, "soonest", "(IIZ)I"⟩
abbrev cX8_knows : ByteArray := prog_10_method_35_code
def yX8_knows : MethodName := ⟨RX8, "knows", "(II)I"⟩
abbrev cX8_isTold : ByteArray := prog_10_method_36_code
def yX8_isTold : MethodName := ⟨RX8, "isTold", "(II)Z"⟩
abbrev cX8_toTell : ByteArray := prog_10_method_37_code
def yX8_toTell : MethodName := ⟨RX8, "toTell", "(I)I"⟩
abbrev cX8_cut : ByteArray := prog_10_method_38_code
def yX8_cut : MethodName := ⟨RX8, "cut", "(II)I"⟩
abbrev cX8_tenTo : ByteArray := prog_10_method_39_code
def yX8_tenTo : MethodName := ⟨RX8, "tenTo", "(I)J"⟩
abbrev cX8_layTrial : ByteArray := prog_10_method_40_code
def yX8_layTrial : MethodName := ⟨RX8, "layTrial", "()V"⟩
abbrev cX8_tryMove : ByteArray := prog_10_method_41_code
def yX8_tryMove : MethodName := ⟨RX8, "tryMove", "(II)Z"⟩
abbrev cX8_judge : ByteArray := prog_10_method_42_code
def yX8_judge : MethodName := ⟨RX8, "judge", "(IJ)I"⟩
abbrev cX8_follow : ByteArray := prog_10_method_43_code
def yX8_follow : MethodName := ⟨RX8, "follow", "(IIZ)I"⟩
abbrev cX8_unfollow : ByteArray := prog_10_method_44_code
def yX8_unfollow : MethodName := ⟨RX8, "unfollow", "()I"⟩
abbrev cX8_wordBy : ByteArray := prog_10_method_45_code
def yX8_wordBy : MethodName := ⟨RX8, "wordBy", "(II)I"⟩
abbrev cX8_isCode : ByteArray := prog_10_method_46_code
def yX8_isCode : MethodName := ⟨RX8, "isCode", "(I)Z"⟩
abbrev cX8_codes : ByteArray := prog_10_method_47_code
def yX8_codes : MethodName := ⟨RX8, "codes", "(Z)I"⟩
abbrev cX8_greatestPart : ByteArray := prog_10_method_48_code
def yX8_greatestPart : MethodName := ⟨RX8, "greatestPart", "(I)I"⟩
abbrev cX8_look : ByteArray := prog_10_method_49_code
def yX8_look : MethodName := ⟨RX8, "look", "()I"⟩
abbrev cX8_will : ByteArray := prog_10_method_50_code
def yX8_will : MethodName := ⟨RX8, "will", "(III)I"⟩
abbrev cX8_layHours : ByteArray := prog_10_method_51_code
def yX8_layHours : MethodName := ⟨RX8, "layHours", "(III)V"⟩
abbrev cX8_cross : ByteArray := prog_10_method_52_code
def yX8_cross : MethodName := ⟨RX8, "cross", "(II)I"⟩
abbrev cX8_lets : ByteArray := prog_10_method_53_code
def yX8_lets : MethodName := ⟨RX8, "lets", "(II)I"⟩
abbrev cX8_isRest : ByteArray := prog_10_method_54_code
def yX8_isRest : MethodName := ⟨RX8, "isRest", "(II)Z"⟩
abbrev cX8_rests : ByteArray := prog_10_method_55_code
def yX8_rests : MethodName := ⟨RX8, "rests", "(I)I"⟩
abbrev cX8_common : ByteArray := prog_10_method_56_code
def yX8_common : MethodName := ⟨RX8, "common", "(II)I"⟩
abbrev cX8_reads : ByteArray := prog_10_method_57_code
def yX8_reads : MethodName := ⟨RX8, "reads", "(III)Z"⟩
abbrev cX8_loose : ByteArray := prog_10_method_58_code
def yX8_loose : MethodName := ⟨RX8, "loose", "()I"⟩
abbrev cX8_slams : ByteArray := prog_10_method_59_code
def yX8_slams : MethodName := ⟨RX8, "slams", "(IIIZ)I"⟩
abbrev cX8_seed : ByteArray := prog_10_method_60_code
def yX8_seed : MethodName := ⟨RX8, "seed", "(J)J"⟩
abbrev cX8_afternoons : ByteArray := prog_10_method_61_code
def yX8_afternoons : MethodName := ⟨RX8, "afternoons", "(I)I"⟩
abbrev cX8_keep : ByteArray := prog_10_method_62_code
def yX8_keep : MethodName := ⟨RX8, "keep", "(I)I"⟩
abbrev cX8_again : ByteArray := prog_10_method_63_code
def yX8_again : MethodName := ⟨RX8, "again", "(I)I"⟩
abbrev cX8_count : ByteArray := prog_10_method_64_code
def yX8_count : MethodName := ⟨RX8, "count", "(I)I"⟩
def RJ6 : String := "java/lang/Integer"
abbrev cJ6_numberOfTrailingZeros_0f7a4 : ByteArray := prog_11_method_48_code
def yJ6_numberOfTrailingZeros_0f7a4 : MethodName := ⟨RJ6, "numberOfTrailingZeros", "(I)I"⟩
abbrev cJ6_bitCount_0f7a4 : ByteArray := prog_11_method_49_code
def yJ6_bitCount_0f7a4 : MethodName := ⟨RJ6, "bitCount", "(I)I"⟩
def RJ9 : String := "java/lang/Math"
abbrev cJ9_abs_0f7a4 : ByteArray := prog_12_method_59_code
def yJ9_abs_0f7a4 : MethodName := ⟨RJ9, "abs", "(I)I"⟩
abbrev cJ9_max_7cf53 : ByteArray := prog_12_method_65_code
def yJ9_max_7cf53 : MethodName := ⟨RJ9, "max", "(II)I"⟩
abbrev cJ9_min_7cf53 : ByteArray := prog_12_method_69_code
def yJ9_min_7cf53 : MethodName := ⟨RJ9, "min", "(II)I"⟩
abbrev cJ9_min_f86c9 : ByteArray := prog_12_method_70_code
def yJ9_min_f86c9 : MethodName := ⟨RJ9, "min", "(JJ)J"⟩
def RJ10 : String := "java/lang/System"
def RJ7 : String := "java/util/Arrays"
abbrev cJ7_fill_d0a16 : ByteArray := prog_14_method_101_code
def yJ7_fill_d0a16 : MethodName := ⟨RJ7, "fill", "([JJ)V"⟩
abbrev cJ7_fill_53178 : ByteArray := prog_14_method_103_code
def yJ7_fill_53178 : MethodName := ⟨RJ7, "fill", "([II)V"⟩
def RL : String := "ShutterTownLaw"
abbrev cL_law : ByteArray := code
def yL_law : MethodName := ⟨RL, "law", "([I)Z"⟩
abbrev vwCl : List vw_C := [(RX0, TX0, 2), (RX1, TX1, 2), (RX2, TX2, 8), (RX3, TX3, 2), (RX4, TX4, 4), (RX5, TX5, 2), (RX6, TX6, 2), (RX7, TX7, 11), (RX8, TX8, 31)]
