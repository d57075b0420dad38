section
-- ===== PART A: goes FIRST, ahead of the names: the tables' words, and 'selects' of the private methods out of them =====
/-- a private method of a class that the tables say can be made, by its rows of tables_1 -/
def lw_okq (q : MethodName × Nat) : Prop := (q.1.cls ≠ "java/lang/invoke/MethodHandle" ∧ q.1.cls ≠ "java/lang/invoke/VarHandle") ∧ Cond.instantiable q.1.cls q.2 ∈ tables_1 ∧ Cond.privateMethod q.1 ∈ tables_1 ∧ Cond.instanceMethod q.1 ∈ tables_1
theorem lw_p0 : lw_okq (⟨"FirstUmbrella$Script", "isFitting", "(II)Z"⟩, 2) := ⟨⟨by decide +kernel, by decide +kernel⟩, List.mem_of_getElem? (i := 22) (by decide +kernel), List.mem_of_getElem? (i := 208) (by decide +kernel), List.mem_of_getElem? (i := 209) (by decide +kernel)⟩
theorem lw_p1 : lw_okq (⟨"FirstUmbrella$Scene", "lastAtLeast", "(II)V"⟩, 7) := ⟨⟨by decide +kernel, by decide +kernel⟩, List.mem_of_getElem? (i := 64) (by decide +kernel), List.mem_of_getElem? (i := 383) (by decide +kernel), List.mem_of_getElem? (i := 384) (by decide +kernel)⟩
theorem lw_p2 : lw_okq (⟨"FirstUmbrella$Scene", "fateInHour", "(IZ)I"⟩, 7) := ⟨⟨by decide +kernel, by decide +kernel⟩, List.mem_of_getElem? (i := 64) (by decide +kernel), List.mem_of_getElem? (i := 428) (by decide +kernel), List.mem_of_getElem? (i := 429) (by decide +kernel)⟩
theorem lw_p3 : lw_okq (⟨"FirstUmbrella", "keptIfOpened", "(I)I"⟩, 8) := ⟨⟨by decide +kernel, by decide +kernel⟩, List.mem_of_getElem? (i := 14) (by decide +kernel), List.mem_of_getElem? (i := 469) (by decide +kernel), List.mem_of_getElem? (i := 470) (by decide +kernel)⟩
theorem lw_p4 : lw_okq (⟨"FirstUmbrella", "keptIfSent", "(II)I"⟩, 8) := ⟨⟨by decide +kernel, by decide +kernel⟩, List.mem_of_getElem? (i := 14) (by decide +kernel), List.mem_of_getElem? (i := 502) (by decide +kernel), List.mem_of_getElem? (i := 503) (by decide +kernel)⟩
theorem lw_p5 : lw_okq (⟨"FirstUmbrella", "comesTrue", "(III)Z"⟩, 8) := ⟨⟨by decide +kernel, by decide +kernel⟩, List.mem_of_getElem? (i := 14) (by decide +kernel), List.mem_of_getElem? (i := 515) (by decide +kernel), List.mem_of_getElem? (i := 516) (by decide +kernel)⟩
theorem lw_p6 : lw_okq (⟨"FirstUmbrella", "keptIfCome", "(I)I"⟩, 8) := ⟨⟨by decide +kernel, by decide +kernel⟩, List.mem_of_getElem? (i := 14) (by decide +kernel), List.mem_of_getElem? (i := 523) (by decide +kernel), List.mem_of_getElem? (i := 524) (by decide +kernel)⟩
theorem lw_p7 : lw_okq (⟨"FirstUmbrella", "isContent", "(IZIZ)Z"⟩, 8) := ⟨⟨by decide +kernel, by decide +kernel⟩, List.mem_of_getElem? (i := 14) (by decide +kernel), List.mem_of_getElem? (i := 579) (by decide +kernel), List.mem_of_getElem? (i := 580) (by decide +kernel)⟩
theorem lw_p8 : lw_okq (⟨"FirstUmbrella", "gain", "(IZIZ)I"⟩, 8) := ⟨⟨by decide +kernel, by decide +kernel⟩, List.mem_of_getElem? (i := 14) (by decide +kernel), List.mem_of_getElem? (i := 583) (by decide +kernel), List.mem_of_getElem? (i := 584) (by decide +kernel)⟩
theorem lw_p9 : lw_okq (⟨"FirstUmbrella", "doByChance", "(I)V"⟩, 8) := ⟨⟨by decide +kernel, by decide +kernel⟩, List.mem_of_getElem? (i := 14) (by decide +kernel), List.mem_of_getElem? (i := 605) (by decide +kernel), List.mem_of_getElem? (i := 606) (by decide +kernel)⟩
theorem lw_p10 : lw_okq (⟨"FirstUmbrellaModel", "readTown", "()I"⟩, 31) := ⟨⟨by decide +kernel, by decide +kernel⟩, List.mem_of_getElem? (i := 631) (by decide +kernel), List.mem_of_getElem? (i := 748) (by decide +kernel), List.mem_of_getElem? (i := 749) (by decide +kernel)⟩
theorem lw_p11 : lw_okq (⟨"FirstUmbrellaModel", "readThing", "()Z"⟩, 31) := ⟨⟨by decide +kernel, by decide +kernel⟩, List.mem_of_getElem? (i := 631) (by decide +kernel), List.mem_of_getElem? (i := 752) (by decide +kernel), List.mem_of_getElem? (i := 753) (by decide +kernel)⟩
theorem lw_p12 : lw_okq (⟨"FirstUmbrellaModel", "readOneWalker", "()Z"⟩, 31) := ⟨⟨by decide +kernel, by decide +kernel⟩, List.mem_of_getElem? (i := 631) (by decide +kernel), List.mem_of_getElem? (i := 756) (by decide +kernel), List.mem_of_getElem? (i := 757) (by decide +kernel)⟩
theorem lw_p13 : lw_okq (⟨"FirstUmbrellaModel", "figure", "(II)I"⟩, 31) := ⟨⟨by decide +kernel, by decide +kernel⟩, List.mem_of_getElem? (i := 631) (by decide +kernel), List.mem_of_getElem? (i := 760) (by decide +kernel), List.mem_of_getElem? (i := 761) (by decide +kernel)⟩
theorem lw_p14 : lw_okq (⟨"FirstUmbrellaModel", "readOneNeed", "()Z"⟩, 31) := ⟨⟨by decide +kernel, by decide +kernel⟩, List.mem_of_getElem? (i := 631) (by decide +kernel), List.mem_of_getElem? (i := 764) (by decide +kernel), List.mem_of_getElem? (i := 765) (by decide +kernel)⟩
theorem lw_p15 : lw_okq (⟨"FirstUmbrellaModel", "rainOf", "([I)I"⟩, 31) := ⟨⟨by decide +kernel, by decide +kernel⟩, List.mem_of_getElem? (i := 631) (by decide +kernel), List.mem_of_getElem? (i := 776) (by decide +kernel), List.mem_of_getElem? (i := 777) (by decide +kernel)⟩
def lw_privs_1 : List (MethodName × Nat) := [(⟨"FirstUmbrella$Script", "isFitting", "(II)Z"⟩, 2), (⟨"FirstUmbrella$Scene", "lastAtLeast", "(II)V"⟩, 7), (⟨"FirstUmbrella$Scene", "fateInHour", "(IZ)I"⟩, 7), (⟨"FirstUmbrella", "keptIfOpened", "(I)I"⟩, 8), (⟨"FirstUmbrella", "keptIfSent", "(II)I"⟩, 8), (⟨"FirstUmbrella", "comesTrue", "(III)Z"⟩, 8), (⟨"FirstUmbrella", "keptIfCome", "(I)I"⟩, 8), (⟨"FirstUmbrella", "isContent", "(IZIZ)Z"⟩, 8), (⟨"FirstUmbrella", "gain", "(IZIZ)I"⟩, 8), (⟨"FirstUmbrella", "doByChance", "(I)V"⟩, 8), (⟨"FirstUmbrellaModel", "readTown", "()I"⟩, 31), (⟨"FirstUmbrellaModel", "readThing", "()Z"⟩, 31), (⟨"FirstUmbrellaModel", "readOneWalker", "()Z"⟩, 31), (⟨"FirstUmbrellaModel", "figure", "(II)I"⟩, 31), (⟨"FirstUmbrellaModel", "readOneNeed", "()Z"⟩, 31), (⟨"FirstUmbrellaModel", "rainOf", "([I)I"⟩, 31)]
theorem lw_r1 : ∀ q ∈ lw_privs_1, lw_okq q := List.forall_mem_cons.mpr ⟨lw_p0, List.forall_mem_cons.mpr ⟨lw_p1, List.forall_mem_cons.mpr ⟨lw_p2, List.forall_mem_cons.mpr ⟨lw_p3, List.forall_mem_cons.mpr ⟨lw_p4, List.forall_mem_cons.mpr ⟨lw_p5, List.forall_mem_cons.mpr ⟨lw_p6, List.forall_mem_cons.mpr ⟨lw_p7, List.forall_mem_cons.mpr ⟨lw_p8, List.forall_mem_cons.mpr ⟨lw_p9, List.forall_mem_cons.mpr ⟨lw_p10, List.forall_mem_cons.mpr ⟨lw_p11, List.forall_mem_cons.mpr ⟨lw_p12, List.forall_mem_cons.mpr ⟨lw_p13, List.forall_mem_cons.mpr ⟨lw_p14, List.forall_mem_cons.mpr ⟨lw_p15, fun _ h => absurd h List.not_mem_nil⟩⟩⟩⟩⟩⟩⟩⟩⟩⟩⟩⟩⟩⟩⟩⟩
theorem lw_p16 : lw_okq (⟨"FirstUmbrellaModel", "hailOf", "([I)I"⟩, 31) := ⟨⟨by decide +kernel, by decide +kernel⟩, List.mem_of_getElem? (i := 631) (by decide +kernel), List.mem_of_getElem? (i := 783) (by decide +kernel), List.mem_of_getElem? (i := 784) (by decide +kernel)⟩
theorem lw_p17 : lw_okq (⟨"FirstUmbrellaModel", "openIn", "([II)I"⟩, 31) := ⟨⟨by decide +kernel, by decide +kernel⟩, List.mem_of_getElem? (i := 631) (by decide +kernel), List.mem_of_getElem? (i := 787) (by decide +kernel), List.mem_of_getElem? (i := 788) (by decide +kernel)⟩
theorem lw_p18 : lw_okq (⟨"FirstUmbrellaModel", "needsThat", "([II)I"⟩, 31) := ⟨⟨by decide +kernel, by decide +kernel⟩, List.mem_of_getElem? (i := 631) (by decide +kernel), List.mem_of_getElem? (i := 791) (by decide +kernel), List.mem_of_getElem? (i := 792) (by decide +kernel)⟩
theorem lw_p19 : lw_okq (⟨"FirstUmbrellaModel", "noWalker", "(I)Z"⟩, 31) := ⟨⟨by decide +kernel, by decide +kernel⟩, List.mem_of_getElem? (i := 631) (by decide +kernel), List.mem_of_getElem? (i := 799) (by decide +kernel), List.mem_of_getElem? (i := 800) (by decide +kernel)⟩
theorem lw_p20 : lw_okq (⟨"FirstUmbrellaModel", "note", "()V"⟩, 31) := ⟨⟨by decide +kernel, by decide +kernel⟩, List.mem_of_getElem? (i := 631) (by decide +kernel), List.mem_of_getElem? (i := 820) (by decide +kernel), List.mem_of_getElem? (i := 821) (by decide +kernel)⟩
theorem lw_p21 : lw_okq (⟨"FirstUmbrellaModel", "goOpen", "([II)V"⟩, 31) := ⟨⟨by decide +kernel, by decide +kernel⟩, List.mem_of_getElem? (i := 631) (by decide +kernel), List.mem_of_getElem? (i := 824) (by decide +kernel), List.mem_of_getElem? (i := 825) (by decide +kernel)⟩
theorem lw_p22 : lw_okq (⟨"FirstUmbrellaModel", "goShut", "([II)V"⟩, 31) := ⟨⟨by decide +kernel, by decide +kernel⟩, List.mem_of_getElem? (i := 631) (by decide +kernel), List.mem_of_getElem? (i := 835) (by decide +kernel), List.mem_of_getElem? (i := 836) (by decide +kernel)⟩
theorem lw_p23 : lw_okq (⟨"FirstUmbrellaModel", "goHour", "([I)I"⟩, 31) := ⟨⟨by decide +kernel, by decide +kernel⟩, List.mem_of_getElem? (i := 631) (by decide +kernel), List.mem_of_getElem? (i := 850) (by decide +kernel), List.mem_of_getElem? (i := 851) (by decide +kernel)⟩
theorem lw_p24 : lw_okq (⟨"FirstUmbrellaModel", "stateThen", "([III)I"⟩, 31) := ⟨⟨by decide +kernel, by decide +kernel⟩, List.mem_of_getElem? (i := 631) (by decide +kernel), List.mem_of_getElem? (i := 854) (by decide +kernel), List.mem_of_getElem? (i := 855) (by decide +kernel)⟩
theorem lw_p25 : lw_okq (⟨"FirstUmbrellaModel", "begin", "()V"⟩, 31) := ⟨⟨by decide +kernel, by decide +kernel⟩, List.mem_of_getElem? (i := 631) (by decide +kernel), List.mem_of_getElem? (i := 867) (by decide +kernel), List.mem_of_getElem? (i := 868) (by decide +kernel)⟩
theorem lw_p26 : lw_okq (⟨"FirstUmbrellaModel", "goHours", "(I)V"⟩, 31) := ⟨⟨by decide +kernel, by decide +kernel⟩, List.mem_of_getElem? (i := 631) (by decide +kernel), List.mem_of_getElem? (i := 871) (by decide +kernel), List.mem_of_getElem? (i := 872) (by decide +kernel)⟩
theorem lw_p27 : lw_okq (⟨"FirstUmbrellaModel", "openAll", "(I)V"⟩, 31) := ⟨⟨by decide +kernel, by decide +kernel⟩, List.mem_of_getElem? (i := 631) (by decide +kernel), List.mem_of_getElem? (i := 887) (by decide +kernel), List.mem_of_getElem? (i := 888) (by decide +kernel)⟩
theorem lw_p28 : lw_okq (⟨"FirstUmbrellaModel", "keptThen", "()I"⟩, 31) := ⟨⟨by decide +kernel, by decide +kernel⟩, List.mem_of_getElem? (i := 631) (by decide +kernel), List.mem_of_getElem? (i := 891) (by decide +kernel), List.mem_of_getElem? (i := 892) (by decide +kernel)⟩
theorem lw_p29 : lw_okq (⟨"FirstUmbrellaModel", "does", "(I)Z"⟩, 31) := ⟨⟨by decide +kernel, by decide +kernel⟩, List.mem_of_getElem? (i := 631) (by decide +kernel), List.mem_of_getElem? (i := 911) (by decide +kernel), List.mem_of_getElem? (i := 912) (by decide +kernel)⟩
theorem lw_p30 : lw_okq (⟨"FirstUmbrellaModel", "findMay", "()V"⟩, 31) := ⟨⟨by decide +kernel, by decide +kernel⟩, List.mem_of_getElem? (i := 631) (by decide +kernel), List.mem_of_getElem? (i := 941) (by decide +kernel), List.mem_of_getElem? (i := 942) (by decide +kernel)⟩
theorem lw_p31 : lw_okq (⟨"FirstUmbrellaModel", "gainOf", "(IZ)I"⟩, 31) := ⟨⟨by decide +kernel, by decide +kernel⟩, List.mem_of_getElem? (i := 631) (by decide +kernel), List.mem_of_getElem? (i := 953) (by decide +kernel), List.mem_of_getElem? (i := 954) (by decide +kernel)⟩
def lw_privs_2 : List (MethodName × Nat) := [(⟨"FirstUmbrellaModel", "hailOf", "([I)I"⟩, 31), (⟨"FirstUmbrellaModel", "openIn", "([II)I"⟩, 31), (⟨"FirstUmbrellaModel", "needsThat", "([II)I"⟩, 31), (⟨"FirstUmbrellaModel", "noWalker", "(I)Z"⟩, 31), (⟨"FirstUmbrellaModel", "note", "()V"⟩, 31), (⟨"FirstUmbrellaModel", "goOpen", "([II)V"⟩, 31), (⟨"FirstUmbrellaModel", "goShut", "([II)V"⟩, 31), (⟨"FirstUmbrellaModel", "goHour", "([I)I"⟩, 31), (⟨"FirstUmbrellaModel", "stateThen", "([III)I"⟩, 31), (⟨"FirstUmbrellaModel", "begin", "()V"⟩, 31), (⟨"FirstUmbrellaModel", "goHours", "(I)V"⟩, 31), (⟨"FirstUmbrellaModel", "openAll", "(I)V"⟩, 31), (⟨"FirstUmbrellaModel", "keptThen", "()I"⟩, 31), (⟨"FirstUmbrellaModel", "does", "(I)Z"⟩, 31), (⟨"FirstUmbrellaModel", "findMay", "()V"⟩, 31), (⟨"FirstUmbrellaModel", "gainOf", "(IZ)I"⟩, 31)]
theorem lw_r2 : ∀ q ∈ lw_privs_2, lw_okq q := List.forall_mem_cons.mpr ⟨lw_p16, List.forall_mem_cons.mpr ⟨lw_p17, List.forall_mem_cons.mpr ⟨lw_p18, List.forall_mem_cons.mpr ⟨lw_p19, List.forall_mem_cons.mpr ⟨lw_p20, List.forall_mem_cons.mpr ⟨lw_p21, List.forall_mem_cons.mpr ⟨lw_p22, List.forall_mem_cons.mpr ⟨lw_p23, List.forall_mem_cons.mpr ⟨lw_p24, List.forall_mem_cons.mpr ⟨lw_p25, List.forall_mem_cons.mpr ⟨lw_p26, List.forall_mem_cons.mpr ⟨lw_p27, List.forall_mem_cons.mpr ⟨lw_p28, List.forall_mem_cons.mpr ⟨lw_p29, List.forall_mem_cons.mpr ⟨lw_p30, List.forall_mem_cons.mpr ⟨lw_p31, fun _ h => absurd h List.not_mem_nil⟩⟩⟩⟩⟩⟩⟩⟩⟩⟩⟩⟩⟩⟩⟩⟩
def lw_privs : List (MethodName × Nat) := lw_privs_1 ++ (lw_privs_2)
def lw_tbl : List Cond := k2_sels lw_privs ++ tables_1
theorem lw_privs_ok : ∀ q ∈ lw_privs, lw_okq q := by
  show ∀ q ∈ lw_privs_1 ++ (lw_privs_2), lw_okq q
  exact List.forall_mem_append.mpr ⟨lw_r1, lw_r2⟩
end
section
def RX0 : String := "FirstUmbrella$Felt"
def TX0 : u_T := fun k => match k with
  | 0 => ("FirstUmbrella$Felt", "streets", "[I", true)
  | 1 => ("FirstUmbrella$Felt", "hours", "[I", true)
  | 2 => ("FirstUmbrella$Felt", "rains", "I", false)
  | _ => ("FirstUmbrella$Felt", "count", "I", false)
def tyX0 : Nat → FieldType := fun k => match k with
  | 0 => .array .int
  | 1 => .array .int
  | 2 => .int
  | _ => .int
abbrev wsX00 : List Cond := u_ws RX0 TX0 4
theorem nmX0 : ∀ a, a < 4 → ∀ b, b < 4 → a ≠ b → (TX0 a).2.1 ≠ (TX0 b).2.1 := by decide +kernel
theorem tyX0_ok : ∀ k, k < 4 → parseFieldDescriptor (TX0 k).2.2.1 = some (tyX0 k) := by decide +kernel
abbrev cX0_init : ByteArray := prog_2_method_1_code
def yX0_init : MethodName := ⟨RX0, "<init>", "()V"⟩
abbrev cX0_size : ByteArray := prog_2_method_2_code
def yX0_size : MethodName := ⟨RX0, "size", "()I"⟩
abbrev cX0_clear : ByteArray := prog_2_method_3_code
def yX0_clear : MethodName := ⟨RX0, "clear", "()V"⟩
abbrev cX0_add : ByteArray := prog_2_method_4_code
def yX0_add : MethodName := ⟨RX0, "add", "(IIZ)Z"⟩
abbrev cX0_isSo : ByteArray := prog_2_method_5_code
def yX0_isSo : MethodName := ⟨RX0, "isSo", "(III)Z"⟩
abbrev cX0_isWetAt : ByteArray := prog_2_method_6_code
def yX0_isWetAt : MethodName := ⟨RX0, "isWetAt", "(IIIII)Z"⟩
def RX1 : String := "FirstUmbrella$Past"
def TX1 : u_T := fun k => match k with
  | 0 => ("FirstUmbrella$Past", "found", "[LFirstUmbrella$Scene;", true)
  | 1 => ("FirstUmbrella$Past", "first", "I", false)
  | _ => ("FirstUmbrella$Past", "count", "I", false)
def tyX1 : Nat → FieldType := fun k => match k with
  | 0 => .array (.object "FirstUmbrella$Scene")
  | 1 => .int
  | _ => .int
abbrev wsX10 : List Cond := u_ws RX1 TX1 3
theorem nmX1 : ∀ a, a < 3 → ∀ b, b < 3 → a ≠ b → (TX1 a).2.1 ≠ (TX1 b).2.1 := by decide +kernel
theorem tyX1_ok : ∀ k, k < 3 → parseFieldDescriptor (TX1 k).2.2.1 = some (tyX1 k) := by decide +kernel
abbrev cX1_init : ByteArray := prog_3_method_1_code
def yX1_init : MethodName := ⟨RX1, "<init>", "(LFirstUmbrella$Plan;)V"⟩
abbrev cX1_size : ByteArray := prog_3_method_2_code
def yX1_size : MethodName := ⟨RX1, "size", "()I"⟩
abbrev cX1_clear : ByteArray := prog_3_method_3_code
def yX1_clear : MethodName := ⟨RX1, "clear", "()V"⟩
abbrev cX1_add : ByteArray := prog_3_method_4_code
def yX1_add : MethodName := ⟨RX1, "add", "(LFirstUmbrella$Scene;)V"⟩
abbrev cX1_takeLast : ByteArray := prog_3_method_5_code
def yX1_takeLast : MethodName := ⟨RX1, "takeLast", "(LFirstUmbrella$Scene;)V"⟩
def RX2 : String := "FirstUmbrella$Plan"
def TX2 : u_T := fun k => match k with
  | 0 => ("FirstUmbrella$Plan", "walkers", "I", false)
  | 1 => ("FirstUmbrella$Plan", "needs", "I", false)
  | 2 => ("FirstUmbrella$Plan", "homes", "[I", true)
  | 3 => ("FirstUmbrella$Plan", "stuffs", "[I", true)
  | 4 => ("FirstUmbrella$Plan", "needStreets", "[I", true)
  | 5 => ("FirstUmbrella$Plan", "needSorts", "[I", true)
  | _ => ("FirstUmbrella$Plan", "needFigures", "[I", true)
def tyX2 : Nat → FieldType := fun k => match k with
  | 0 => .int
  | 1 => .int
  | 2 => .array .int
  | 3 => .array .int
  | 4 => .array .int
  | 5 => .array .int
  | _ => .array .int
abbrev wsX20 : List Cond := u_ws RX2 TX2 7
theorem nmX2 : ∀ a, a < 7 → ∀ b, b < 7 → a ≠ b → (TX2 a).2.1 ≠ (TX2 b).2.1 := by decide +kernel
theorem tyX2_ok : ∀ k, k < 7 → parseFieldDescriptor (TX2 k).2.2.1 = some (tyX2 k) := by decide +kernel
abbrev cX2_init : ByteArray := prog_4_method_1_code
def yX2_init : MethodName := ⟨RX2, "<init>", "()V"⟩
abbrev cX2_readFrom : ByteArray := prog_4_method_2_code
def yX2_readFrom : MethodName := ⟨RX2, "readFrom", "(LFirstUmbrella$Script;)V"⟩
abbrev cX2_walkerCount : ByteArray := prog_4_method_3_code
def yX2_walkerCount : MethodName := ⟨RX2, "walkerCount", "()I"⟩
abbrev cX2_needCount : ByteArray := prog_4_method_4_code
def yX2_needCount : MethodName := ⟨RX2, "needCount", "()I"⟩
abbrev cX2_hasWalker : ByteArray := prog_4_method_5_code
def yX2_hasWalker : MethodName := ⟨RX2, "hasWalker", "(I)Z"⟩
abbrev cX2_hasNeed : ByteArray := prog_4_method_6_code
def yX2_hasNeed : MethodName := ⟨RX2, "hasNeed", "(I)Z"⟩
abbrev cX2_homeOf : ByteArray := prog_4_method_7_code
def yX2_homeOf : MethodName := ⟨RX2, "homeOf", "(I)I"⟩
abbrev cX2_stuffOf : ByteArray := prog_4_method_8_code
def yX2_stuffOf : MethodName := ⟨RX2, "stuffOf", "(I)I"⟩
abbrev cX2_streetOfNeed : ByteArray := prog_4_method_9_code
def yX2_streetOfNeed : MethodName := ⟨RX2, "streetOfNeed", "(I)I"⟩
abbrev cX2_sortOfNeed : ByteArray := prog_4_method_10_code
def yX2_sortOfNeed : MethodName := ⟨RX2, "sortOfNeed", "(I)I"⟩
abbrev cX2_figureOfNeed : ByteArray := prog_4_method_11_code
def yX2_figureOfNeed : MethodName := ⟨RX2, "figureOfNeed", "(I)I"⟩
def RX3 : String := "FirstUmbrella$Scene"
def TX3 : u_T := fun k => match k with
  | 0 => ("FirstUmbrella$Scene", "plan", "LFirstUmbrella$Plan;", true)
  | 1 => ("FirstUmbrella$Scene", "places", "[I", true)
  | 2 => ("FirstUmbrella$Scene", "lasts", "[I", true)
  | 3 => ("FirstUmbrella$Scene", "wetness", "[I", true)
  | 4 => ("FirstUmbrella$Scene", "fates", "[I", true)
  | 5 => ("FirstUmbrella$Scene", "opened", "I", false)
  | _ => ("FirstUmbrella$Scene", "time", "I", false)
def tyX3 : Nat → FieldType := fun k => match k with
  | 0 => .object "FirstUmbrella$Plan"
  | 1 => .array .int
  | 2 => .array .int
  | 3 => .array .int
  | 4 => .array .int
  | 5 => .int
  | _ => .int
abbrev wsX30 : List Cond := u_ws RX3 TX3 7
theorem nmX3 : ∀ a, a < 7 → ∀ b, b < 7 → a ≠ b → (TX3 a).2.1 ≠ (TX3 b).2.1 := by decide +kernel
theorem tyX3_ok : ∀ k, k < 7 → parseFieldDescriptor (TX3 k).2.2.1 = some (tyX3 k) := by decide +kernel
abbrev cX3_init : ByteArray := prog_5_method_1_code
def yX3_init : MethodName := ⟨RX3, "<init>", "(LFirstUmbrella$Plan;)V"⟩
abbrev cX3_begin : ByteArray := prog_5_method_2_code
def yX3_begin : MethodName := ⟨RX3, "begin", "()V"⟩
abbrev cX3_copy : ByteArray := prog_5_method_3_code
def yX3_copy : MethodName := ⟨RX3, "copy", "(LFirstUmbrella$Scene;)V"⟩
abbrev cX3_time : ByteArray := prog_5_method_4_code
def yX3_time : MethodName := ⟨RX3, "time", "()I"⟩
abbrev cX3_placeOf : ByteArray := prog_5_method_5_code
def yX3_placeOf : MethodName := ⟨RX3, "placeOf", "(I)I"⟩
abbrev cX3_lastsIn : ByteArray := prog_5_method_6_code
def yX3_lastsIn : MethodName := ⟨RX3, "lastsIn", "(I)I"⟩
abbrev cX3_wetnessOf : ByteArray := prog_5_method_7_code
def yX3_wetnessOf : MethodName := ⟨RX3, "wetnessOf", "(I)I"⟩
abbrev cX3_fateOf : ByteArray := prog_5_method_8_code
def yX3_fateOf : MethodName := ⟨RX3, "fateOf", "(I)I"⟩
abbrev cX3_openBits : ByteArray := prog_5_method_9_code
def yX3_openBits : MethodName := ⟨RX3, "openBits", "()I"⟩
abbrev cX3_shutBits : ByteArray := prog_5_method_10_code
def yX3_shutBits : MethodName := ⟨RX3, "shutBits", "()I"⟩
abbrev cX3_isOpen : ByteArray := prog_5_method_11_code
def yX3_isOpen : MethodName := ⟨RX3, "isOpen", "(I)Z"⟩
abbrev cX3_openIn : ByteArray := prog_5_method_12_code
def yX3_openIn : MethodName := ⟨RX3, "openIn", "(I)I"⟩
abbrev cX3_rainBits : ByteArray := prog_5_method_13_code
def yX3_rainBits : MethodName := ⟨RX3, "rainBits", "()I"⟩
abbrev cX3_hailBits : ByteArray := prog_5_method_14_code
def yX3_hailBits : MethodName := ⟨RX3, "hailBits", "()I"⟩
abbrev cX3_needBits : ByteArray := prog_5_method_15_code
def yX3_needBits : MethodName := ⟨RX3, "needBits", "(I)I"⟩
abbrev cX3_keptCount : ByteArray := prog_5_method_16_code
def yX3_keptCount : MethodName := ⟨RX3, "keptCount", "()I"⟩
abbrev cX3_raise : ByteArray := prog_5_method_17_code
def yX3_raise : MethodName := ⟨RX3, "raise", "(I)Z"⟩
abbrev cX3_raiseAll : ByteArray := prog_5_method_18_code
def yX3_raiseAll : MethodName := ⟨RX3, "raiseAll", "(I)V"⟩
abbrev cX3_lower : ByteArray := prog_5_method_19_code
def yX3_lower : MethodName := ⟨RX3, "lower", "(I)Z"⟩
abbrev cX3_forget : ByteArray := prog_5_method_20_code
def yX3_forget : MethodName := ⟨RX3, "forget", "(I)V"⟩
abbrev cX3_lastAtLeast : ByteArray := prog_5_method_21_code
def yX3_lastAtLeast : MethodName := ⟨RX3, "lastAtLeast", "(II)V"⟩
abbrev cX3_place : ByteArray := prog_5_method_22_code
def yX3_place : MethodName := ⟨RX3, "place", "(II)V"⟩
abbrev cX3_canMove : ByteArray := prog_5_method_23_code
def yX3_canMove : MethodName := ⟨RX3, "canMove", "(IZ)Z"⟩
abbrev cX3_move : ByteArray := prog_5_method_24_code
def yX3_move : MethodName := ⟨RX3, "move", "(IZ)Z"⟩
abbrev cX3_passHours : ByteArray := prog_5_method_25_code
def yX3_passHours : MethodName := ⟨RX3, "passHours", "(I)V"⟩
abbrev cX3_passHour : ByteArray := prog_5_method_26_code
def yX3_passHour : MethodName := ⟨RX3, "passHour", "()I"⟩
abbrev cX3_fateInHour : ByteArray := prog_5_method_27_code
def yX3_fateInHour : MethodName := ⟨RX3, "fateInHour", "(IZ)I"⟩
def RX4 : String := "FirstUmbrella$Script"
def TX4 : u_T := fun k => match k with
  | 0 => ("FirstUmbrella$Script", "bytes", "[I", true)
  | _ => ("FirstUmbrella$Script", "length", "I", false)
def tyX4 : Nat → FieldType := fun k => match k with
  | 0 => .array .int
  | _ => .int
abbrev wsX40 : List Cond := u_ws RX4 TX4 2
theorem nmX4 : ∀ a, a < 2 → ∀ b, b < 2 → a ≠ b → (TX4 a).2.1 ≠ (TX4 b).2.1 := by decide +kernel
theorem tyX4_ok : ∀ k, k < 2 → parseFieldDescriptor (TX4 k).2.2.1 = some (tyX4 k) := by decide +kernel
abbrev cX4_init : ByteArray := prog_6_method_1_code
def yX4_init : MethodName := ⟨RX4, "<init>", "()V"⟩
abbrev cX4_length : ByteArray := prog_6_method_2_code
def yX4_length : MethodName := ⟨RX4, "length", "()I"⟩
abbrev cX4_clear : ByteArray := prog_6_method_3_code
def yX4_clear : MethodName := ⟨RX4, "clear", "()V"⟩
abbrev cX4_append : ByteArray := prog_6_method_4_code
def yX4_append : MethodName := ⟨RX4, "append", "(I)Z"⟩
abbrev cX4_byteAt : ByteArray := prog_6_method_5_code
def yX4_byteAt : MethodName := ⟨RX4, "byteAt", "(I)I"⟩
abbrev cX4_figureAt : ByteArray := prog_6_method_6_code
def yX4_figureAt : MethodName := ⟨RX4, "figureAt", "(I)I"⟩
abbrev cX4_firstFault : ByteArray := prog_6_method_7_code
def yX4_firstFault : MethodName := ⟨RX4, "firstFault", "()I"⟩
abbrev cX4_isFitting : ByteArray := prog_6_method_8_code
def yX4_isFitting : MethodName := ⟨RX4, "isFitting", "(II)Z"⟩
def RX5 : String := "FirstUmbrella$Slots"
def TX5 : u_T := fun k => match k with
  | 0 => ("FirstUmbrella$Slots", "stored", "[LFirstUmbrella$Scene;", true)
  | _ => ("FirstUmbrella$Slots", "used", "I", false)
def tyX5 : Nat → FieldType := fun k => match k with
  | 0 => .array (.object "FirstUmbrella$Scene")
  | _ => .int
abbrev wsX50 : List Cond := u_ws RX5 TX5 2
theorem nmX5 : ∀ a, a < 2 → ∀ b, b < 2 → a ≠ b → (TX5 a).2.1 ≠ (TX5 b).2.1 := by decide +kernel
theorem tyX5_ok : ∀ k, k < 2 → parseFieldDescriptor (TX5 k).2.2.1 = some (tyX5 k) := by decide +kernel
abbrev cX5_init : ByteArray := prog_7_method_1_code
def yX5_init : MethodName := ⟨RX5, "<init>", "(LFirstUmbrella$Plan;)V"⟩
abbrev cX5_clear : ByteArray := prog_7_method_2_code
def yX5_clear : MethodName := ⟨RX5, "clear", "()V"⟩
abbrev cX5_store : ByteArray := prog_7_method_3_code
def yX5_store : MethodName := ⟨RX5, "store", "(ILFirstUmbrella$Scene;)V"⟩
abbrev cX5_fetch : ByteArray := prog_7_method_4_code
def yX5_fetch : MethodName := ⟨RX5, "fetch", "(ILFirstUmbrella$Scene;)Z"⟩
def RX6 : String := "FirstUmbrella"
def TX6 : u_T := fun k => match k with
  | 0 => ("FirstUmbrella", "script", "LFirstUmbrella$Script;", true)
  | 1 => ("FirstUmbrella", "plan", "LFirstUmbrella$Plan;", true)
  | 2 => ("FirstUmbrella", "now", "LFirstUmbrella$Scene;", true)
  | 3 => ("FirstUmbrella", "trial", "LFirstUmbrella$Scene;", true)
  | 4 => ("FirstUmbrella", "past", "LFirstUmbrella$Past;", true)
  | 5 => ("FirstUmbrella", "slots", "LFirstUmbrella$Slots;", true)
  | 6 => ("FirstUmbrella", "felt", "LFirstUmbrella$Felt;", true)
  | _ => ("FirstUmbrella", "seedNow", "J", false)
def tyX6 : Nat → FieldType := fun k => match k with
  | 0 => .object "FirstUmbrella$Script"
  | 1 => .object "FirstUmbrella$Plan"
  | 2 => .object "FirstUmbrella$Scene"
  | 3 => .object "FirstUmbrella$Scene"
  | 4 => .object "FirstUmbrella$Past"
  | 5 => .object "FirstUmbrella$Slots"
  | 6 => .object "FirstUmbrella$Felt"
  | _ => .long
abbrev wsX60 : List Cond := u_ws RX6 TX6 8
theorem nmX6 : ∀ a, a < 8 → ∀ b, b < 8 → a ≠ b → (TX6 a).2.1 ≠ (TX6 b).2.1 := by decide +kernel
theorem tyX6_ok : ∀ k, k < 8 → parseFieldDescriptor (TX6 k).2.2.1 = some (tyX6 k) := by decide +kernel
abbrev cX6_init : ByteArray := prog_1_method_1_code
def yX6_init : MethodName := ⟨RX6, "<init>", "()V"⟩
abbrev cX6_write : ByteArray := prog_1_method_2_code
def yX6_write : MethodName := ⟨RX6, "write", "(I)I"⟩
abbrev cX6_wipe : ByteArray := prog_1_method_3_code
def yX6_wipe : MethodName := ⟨RX6, "wipe", "()I"⟩
abbrev cX6_fault : ByteArray := prog_1_method_4_code
def yX6_fault : MethodName := ⟨RX6, "fault", "()I"⟩
abbrev cX6_town : ByteArray := prog_1_method_5_code
def yX6_town : MethodName := ⟨RX6, "town", "()I"⟩
abbrev cX6_about : ByteArray := prog_1_method_6_code
def yX6_about : MethodName := ⟨RX6, "about", "(I)I"⟩
abbrev cX6_walker : ByteArray := prog_1_method_7_code
def yX6_walker : MethodName := ⟨RX6, "walker", "(II)I"⟩
abbrev cX6_need : ByteArray := prog_1_method_8_code
def yX6_need : MethodName := ⟨RX6, "need", "(II)I"⟩
abbrev cX6_street : ByteArray := prog_1_method_9_code
def yX6_street : MethodName := ⟨RX6, "street", "(II)I"⟩
abbrev cX6_open : ByteArray := prog_1_method_10_code
def yX6_open : MethodName := ⟨RX6, "open", "(I)I"⟩
abbrev cX6_shut : ByteArray := prog_1_method_11_code
def yX6_shut : MethodName := ⟨RX6, "shut", "(I)I"⟩
abbrev cX6_walk : ByteArray := prog_1_method_12_code
def yX6_walk : MethodName := ⟨RX6, "walk", "(IZ)I"⟩
abbrev cX6_hour : ByteArray := prog_1_method_13_code
def yX6_hour : MethodName := ⟨RX6, "hour", "()I"⟩
abbrev cX6_undo : ByteArray := prog_1_method_14_code
def yX6_undo : MethodName := ⟨RX6, "undo", "()I"⟩
abbrev cX6_wet : ByteArray := prog_1_method_15_code
def yX6_wet : MethodName := ⟨RX6, "wet", "(II)I"⟩
abbrev cX6_needs : ByteArray := prog_1_method_16_code
def yX6_needs : MethodName := ⟨RX6, "needs", "(II)I"⟩
abbrev cX6_dry : ByteArray := prog_1_method_17_code
def yX6_dry : MethodName := ⟨RX6, "dry", "(I)I"⟩
abbrev cX6_asked : ByteArray := prog_1_method_18_code
def yX6_asked : MethodName := ⟨RX6, "asked", "(I)I"⟩
abbrev cX6_sent : ByteArray := prog_1_method_19_code
def yX6_sent : MethodName := ⟨RX6, "sent", "(II)I"⟩
abbrev cX6_judge : ByteArray := prog_1_method_20_code
def yX6_judge : MethodName := ⟨RX6, "judge", "(IJ)I"⟩
abbrev cX6_share : ByteArray := prog_1_method_21_code
def yX6_share : MethodName := ⟨RX6, "share", "(IZ)I"⟩
abbrev cX6_feel : ByteArray := prog_1_method_22_code
def yX6_feel : MethodName := ⟨RX6, "feel", "(III)I"⟩
abbrev cX6_unfeel : ByteArray := prog_1_method_23_code
def yX6_unfeel : MethodName := ⟨RX6, "unfeel", "()I"⟩
abbrev cX6_may : ByteArray := prog_1_method_24_code
def yX6_may : MethodName := ⟨RX6, "may", "(I)I"⟩
abbrev cX6_rests : ByteArray := prog_1_method_25_code
def yX6_rests : MethodName := ⟨RX6, "rests", "(III)I"⟩
abbrev cX6_sudden : ByteArray := prog_1_method_26_code
def yX6_sudden : MethodName := ⟨RX6, "sudden", "(IIIZ)I"⟩
abbrev cX6_seed : ByteArray := prog_1_method_27_code
def yX6_seed : MethodName := ⟨RX6, "seed", "(J)J"⟩
abbrev cX6_weeks : ByteArray := prog_1_method_28_code
def yX6_weeks : MethodName := ⟨RX6, "weeks", "(I)I"⟩
abbrev cX6_keep : ByteArray := prog_1_method_29_code
def yX6_keep : MethodName := ⟨RX6, "keep", "(I)I"⟩
abbrev cX6_again : ByteArray := prog_1_method_30_code
def yX6_again : MethodName := ⟨RX6, "again", "(I)I"⟩
abbrev cX6_keptIfOpened : ByteArray := prog_1_method_31_code
def yX6_keptIfOpened : MethodName := ⟨RX6, "keptIfOpened", "(I)I"⟩
abbrev cX6_keptIfSent : ByteArray := prog_1_method_32_code
def yX6_keptIfSent : MethodName := ⟨RX6, "keptIfSent", "(II)I"⟩
abbrev cX6_keptIfCome : ByteArray := prog_1_method_33_code
def yX6_keptIfCome : MethodName := ⟨RX6, "keptIfCome", "(I)I"⟩
abbrev cX6_comesTrue : ByteArray := prog_1_method_34_code
def yX6_comesTrue : MethodName := ⟨RX6, "comesTrue", "(III)Z"⟩
abbrev cX6_doByChance : ByteArray := prog_1_method_35_code
def yX6_doByChance : MethodName := ⟨RX6, "doByChance", "(I)V"⟩
abbrev cX6_isContent : ByteArray := prog_1_method_36_code
def yX6_isContent : MethodName := ⟨RX6, "isContent", "(IZIZ)Z"⟩
abbrev cX6_gain : ByteArray := prog_1_method_37_code
def yX6_gain : MethodName := ⟨RX6, "gain", "(IZIZ)I"⟩
abbrev cX6_isStreet : ByteArray := prog_1_method_38_code
def yX6_isStreet : MethodName := ⟨RX6, "isStreet", "(I)Z"⟩
abbrev cX6_isSlot : ByteArray := prog_1_method_39_code
def yX6_isSlot : MethodName := ⟨RX6, "isSlot", "(I)Z"⟩
abbrev cX6_isChoice : ByteArray := prog_1_method_40_code
def yX6_isChoice : MethodName := ⟨RX6, "isChoice", "(I)Z"⟩
abbrev cX6_has : ByteArray := prog_1_method_41_code
def yX6_has : MethodName := ⟨RX6, "has", "(II)Z"⟩
abbrev cX6_isWithin : ByteArray := prog_1_method_42_code
def yX6_isWithin : MethodName := ⟨RX6, "isWithin", "(II)Z"⟩
abbrev cX6_at : ByteArray := prog_1_method_43_code
def yX6_at : MethodName := ⟨RX6, "at", "([II)I"⟩
abbrev cX6_put : ByteArray := prog_1_method_44_code
def yX6_put : MethodName := ⟨RX6, "put", "([III)V"⟩
abbrev cX6_withoutLast : ByteArray := prog_1_method_45_code
def yX6_withoutLast : MethodName := ⟨RX6, "withoutLast", "(JI)J"⟩
abbrev cX6_ordersOf : ByteArray := prog_1_method_46_code
def yX6_ordersOf : MethodName := ⟨RX6, "ordersOf", "(I)I"⟩
abbrev cX6_power : ByteArray := prog_1_method_47_code
def yX6_power : MethodName := ⟨RX6, "power", "(II)I"⟩
abbrev cX6_partOf : ByteArray := prog_1_method_48_code
def yX6_partOf : MethodName := ⟨RX6, "partOf", "(IIZ)I"⟩
abbrev cX6_commonDivisor : ByteArray := prog_1_method_49_code
def yX6_commonDivisor : MethodName := ⟨RX6, "commonDivisor", "(II)I"⟩
abbrev cX6_scenes : ByteArray := prog_1_method_50_code
def yX6_scenes : MethodName := ⟨RX6, "scenes", "(LFirstUmbrella$Plan;I)[LFirstUmbrella$Scene;"⟩
abbrev cX6_sceneAt : ByteArray := prog_1_method_51_code
def yX6_sceneAt : MethodName := ⟨RX6, "sceneAt", "([LFirstUmbrella$Scene;I)LFirstUmbrella$Scene;"⟩
def RX7 : String := "FirstUmbrellaModel"
def TX7 : u_T := fun k => match k with
  | 0 => ("FirstUmbrellaModel", "thrown", "I", false)
  | 1 => ("FirstUmbrellaModel", "text", "[I", true)
  | 2 => ("FirstUmbrellaModel", "textSize", "I", false)
  | 3 => ("FirstUmbrellaModel", "place", "I", false)
  | 4 => ("FirstUmbrellaModel", "walkers", "I", false)
  | 5 => ("FirstUmbrellaModel", "stuff", "[I", true)
  | 6 => ("FirstUmbrellaModel", "needs", "I", false)
  | 7 => ("FirstUmbrellaModel", "need", "[I", true)
  | 8 => ("FirstUmbrellaModel", "readWalkers", "I", false)
  | 9 => ("FirstUmbrellaModel", "readWalker", "[I", true)
  | 10 => ("FirstUmbrellaModel", "readNeeds", "I", false)
  | 11 => ("FirstUmbrellaModel", "readNeed", "[I", true)
  | 12 => ("FirstUmbrellaModel", "page", "[I", true)
  | 13 => ("FirstUmbrellaModel", "trial", "[I", true)
  | 14 => ("FirstUmbrellaModel", "book", "[I", true)
  | 15 => ("FirstUmbrellaModel", "acts", "I", false)
  | 16 => ("FirstUmbrellaModel", "kept", "[I", true)
  | 17 => ("FirstUmbrellaModel", "isKept", "[Z", true)
  | 18 => ("FirstUmbrellaModel", "felt", "I", false)
  | 19 => ("FirstUmbrellaModel", "feltStreet", "[I", true)
  | 20 => ("FirstUmbrellaModel", "feltHour", "[I", true)
  | 21 => ("FirstUmbrellaModel", "feltRain", "[I", true)
  | 22 => ("FirstUmbrellaModel", "seed", "J", false)
  | 23 => ("FirstUmbrellaModel", "bestWhich", "I", false)
  | 24 => ("FirstUmbrellaModel", "bestMany", "I", false)
  | 25 => ("FirstUmbrellaModel", "mayMany", "I", false)
  | 26 => ("FirstUmbrellaModel", "mayFirst", "I", false)
  | 27 => ("FirstUmbrellaModel", "restMany", "I", false)
  | 28 => ("FirstUmbrellaModel", "restFirst", "I", false)
  | 29 => ("FirstUmbrellaModel", "gains", "[I", true)
  | _ => ("FirstUmbrellaModel", "value", "[I", true)
def tyX7 : Nat → FieldType := fun k => match k with
  | 0 => .int
  | 1 => .array .int
  | 2 => .int
  | 3 => .int
  | 4 => .int
  | 5 => .array .int
  | 6 => .int
  | 7 => .array .int
  | 8 => .int
  | 9 => .array .int
  | 10 => .int
  | 11 => .array .int
  | 12 => .array .int
  | 13 => .array .int
  | 14 => .array .int
  | 15 => .int
  | 16 => .array .int
  | 17 => .array .boolean
  | 18 => .int
  | 19 => .array .int
  | 20 => .array .int
  | 21 => .array .int
  | 22 => .long
  | 23 => .int
  | 24 => .int
  | 25 => .int
  | 26 => .int
  | 27 => .int
  | 28 => .int
  | 29 => .array .int
  | _ => .array .int
abbrev wsX70 : List Cond := u_ws RX7 TX7 31
theorem nmX7 : ∀ a, a < 31 → ∀ b, b < 31 → a ≠ b → (TX7 a).2.1 ≠ (TX7 b).2.1 := by decide +kernel
theorem tyX7_ok : ∀ k, k < 31 → parseFieldDescriptor (TX7 k).2.2.1 = some (tyX7 k) := by decide +kernel
abbrev cX7_init : ByteArray := prog_9_method_1_code
def yX7_init : MethodName := ⟨RX7, "<init>", "()V"⟩
abbrev cX7_in : ByteArray := prog_9_method_3_code
def yX7_in : MethodName := ⟨RX7, "in", "(JJJ)Z"⟩
abbrev cX7_has : ByteArray := prog_9_method_4_code
def yX7_has : MethodName := ⟨RX7, "has", "(II)Z"⟩
abbrev cX7_many : ByteArray := prog_9_method_5_code
def yX7_many : MethodName := ⟨RX7, "many", "(I)I"⟩
abbrev cX7_power : ByteArray := prog_9_method_6_code
def yX7_power : MethodName := ⟨RX7, "power", "(II)I"⟩
abbrev cX7_noWalker : ByteArray := prog_9_method_7_code
def yX7_noWalker : MethodName := ⟨RX7, "noWalker", "(I)Z"⟩
abbrev cX7_noStreet : ByteArray := prog_9_method_8_code
def yX7_noStreet : MethodName := ⟨RX7, "noStreet", "(I)Z"⟩
abbrev cX7_write : ByteArray := prog_9_method_9_code
def yX7_write : MethodName := ⟨RX7, "write", "(I)I"⟩
abbrev cX7_wipe : ByteArray := prog_9_method_10_code
def yX7_wipe : MethodName := ⟨RX7, "wipe", "()I"⟩
abbrev cX7_figure : ByteArray := prog_9_method_11_code
def yX7_figure : MethodName := ⟨RX7, "figure", "(II)I"⟩
abbrev cX7_readOneWalker : ByteArray := prog_9_method_12_code
def yX7_readOneWalker : MethodName := ⟨RX7, "readOneWalker", "()Z"⟩
abbrev cX7_readOneNeed : ByteArray := prog_9_method_13_code
def yX7_readOneNeed : MethodName := ⟨RX7, "readOneNeed", "()Z"⟩
abbrev cX7_readThing : ByteArray := prog_9_method_14_code
def yX7_readThing : MethodName := ⟨RX7, "readThing", "()Z"⟩
abbrev cX7_readTown : ByteArray := prog_9_method_15_code
def yX7_readTown : MethodName := ⟨RX7, "readTown", "()I"⟩
abbrev cX7_fault : ByteArray := prog_9_method_16_code
def yX7_fault : MethodName := ⟨RX7, "fault", "()I"⟩
abbrev cX7_town : ByteArray := prog_9_method_17_code
def yX7_town : MethodName := ⟨RX7, "town", "()I"⟩
abbrev cX7_openIn : ByteArray := prog_9_method_18_code
def yX7_openIn : MethodName := ⟨RX7, "openIn", "([II)I"⟩
abbrev cX7_rainOf : ByteArray := prog_9_method_19_code
def yX7_rainOf : MethodName := ⟨RX7, "rainOf", "([I)I"⟩
abbrev cX7_hailOf : ByteArray := prog_9_method_20_code
def yX7_hailOf : MethodName := ⟨RX7, "hailOf", "([I)I"⟩
abbrev cX7_greater : ByteArray := prog_9_method_21_code
def yX7_greater : MethodName := ⟨RX7, "greater", "(II)I"⟩
abbrev cX7_goOpen : ByteArray := prog_9_method_22_code
def yX7_goOpen : MethodName := ⟨RX7, "goOpen", "([II)V"⟩
abbrev cX7_goShut : ByteArray := prog_9_method_23_code
def yX7_goShut : MethodName := ⟨RX7, "goShut", "([II)V"⟩
abbrev cX7_stateThen : ByteArray := prog_9_method_24_code
def yX7_stateThen : MethodName := ⟨RX7, "stateThen", "([III)I"⟩
abbrev cX7_goHour : ByteArray := prog_9_method_25_code
def yX7_goHour : MethodName := ⟨RX7, "goHour", "([I)I"⟩
abbrev cX7_goHours : ByteArray := prog_9_method_26_code
def yX7_goHours : MethodName := ⟨RX7, "goHours", "(I)V"⟩
abbrev cX7_needsThat : ByteArray := prog_9_method_27_code
def yX7_needsThat : MethodName := ⟨RX7, "needsThat", "([II)I"⟩
abbrev cX7_about : ByteArray := prog_9_method_28_code
def yX7_about : MethodName := ⟨RX7, "about", "(I)I"⟩
abbrev cX7_walker : ByteArray := prog_9_method_29_code
def yX7_walker : MethodName := ⟨RX7, "walker", "(II)I"⟩
abbrev cX7_need : ByteArray := prog_9_method_30_code
def yX7_need : MethodName := ⟨RX7, "need", "(II)I"⟩
abbrev cX7_street : ByteArray := prog_9_method_31_code
def yX7_street : MethodName := ⟨RX7, "street", "(II)I"⟩
abbrev cX7_note : ByteArray := prog_9_method_32_code
def yX7_note : MethodName := ⟨RX7, "note", "()V"⟩
abbrev cX7_open : ByteArray := prog_9_method_33_code
def yX7_open : MethodName := ⟨RX7, "open", "(I)I"⟩
abbrev cX7_shut : ByteArray := prog_9_method_34_code
def yX7_shut : MethodName := ⟨RX7, "shut", "(I)I"⟩
abbrev cX7_canWalk : ByteArray := prog_9_method_35_code
def yX7_canWalk : MethodName := ⟨RX7, "canWalk", "([III)Z"⟩
abbrev cX7_walk : ByteArray := prog_9_method_36_code
def yX7_walk : MethodName := ⟨RX7, "walk", "(IZ)I"⟩
abbrev cX7_hour : ByteArray := prog_9_method_37_code
def yX7_hour : MethodName := ⟨RX7, "hour", "()I"⟩
abbrev cX7_undo : ByteArray := prog_9_method_38_code
def yX7_undo : MethodName := ⟨RX7, "undo", "()I"⟩
abbrev cX7_begin : ByteArray := prog_9_method_39_code
def yX7_begin : MethodName := ⟨RX7, "begin", "()V"⟩
abbrev cX7_wet : ByteArray := prog_9_method_40_code
def yX7_wet : MethodName := ⟨RX7, "wet", "(II)I"⟩
abbrev cX7_needs : ByteArray := prog_9_method_41_code
def yX7_needs : MethodName := ⟨RX7, "needs", "(II)I"⟩
abbrev cX7_dry : ByteArray := prog_9_method_42_code
def yX7_dry : MethodName := ⟨RX7, "dry", "(I)I"⟩
abbrev cX7_keptThen : ByteArray := prog_9_method_43_code
def yX7_keptThen : MethodName := ⟨RX7, "keptThen", "()I"⟩
abbrev cX7_openAll : ByteArray := prog_9_method_44_code
def yX7_openAll : MethodName := ⟨RX7, "openAll", "(I)V"⟩
abbrev cX7_asked : ByteArray := prog_9_method_45_code
def yX7_asked : MethodName := ⟨RX7, "asked", "(I)I"⟩
abbrev cX7_sent : ByteArray := prog_9_method_46_code
def yX7_sent : MethodName := ⟨RX7, "sent", "(II)I"⟩
abbrev cX7_longPower : ByteArray := prog_9_method_47_code
def yX7_longPower : MethodName := ⟨RX7, "longPower", "(JI)J"⟩
abbrev cX7_does : ByteArray := prog_9_method_48_code
def yX7_does : MethodName := ⟨RX7, "does", "(I)Z"⟩
abbrev cX7_judge : ByteArray := prog_9_method_49_code
def yX7_judge : MethodName := ⟨RX7, "judge", "(IJ)I"⟩
abbrev cX7_ways : ByteArray := prog_9_method_50_code
def yX7_ways : MethodName := ⟨RX7, "ways", "(I)I"⟩
abbrev cX7_divisor : ByteArray := prog_9_method_51_code
def yX7_divisor : MethodName := ⟨RX7, "divisor", "(II)I"⟩
abbrev cX7_fraction : ByteArray := prog_9_method_52_code
def yX7_fraction : MethodName := ⟨RX7, "fraction", "(IIZ)I"⟩
abbrev cX7_share : ByteArray := prog_9_method_53_code
def yX7_share : MethodName := ⟨RX7, "share", "(IZ)I"⟩
abbrev cX7_feel : ByteArray := prog_9_method_54_code
def yX7_feel : MethodName := ⟨RX7, "feel", "(III)I"⟩
abbrev cX7_unfeel : ByteArray := prog_9_method_55_code
def yX7_unfeel : MethodName := ⟨RX7, "unfeel", "()I"⟩
abbrev cX7_rainsBy : ByteArray := prog_9_method_56_code
def yX7_rainsBy : MethodName := ⟨RX7, "rainsBy", "(IIIII)Z"⟩
abbrev cX7_findMay : ByteArray := prog_9_method_57_code
def yX7_findMay : MethodName := ⟨RX7, "findMay", "()V"⟩
abbrev cX7_may : ByteArray := prog_9_method_58_code
def yX7_may : MethodName := ⟨RX7, "may", "(I)I"⟩
abbrev cX7_gainOf : ByteArray := prog_9_method_59_code
def yX7_gainOf : MethodName := ⟨RX7, "gainOf", "(IZ)I"⟩
abbrev cX7_rests : ByteArray := prog_9_method_60_code
def yX7_rests : MethodName := ⟨RX7, "rests", "(III)I"⟩
abbrev cX7_sudden : ByteArray := prog_9_method_61_code
def yX7_sudden : MethodName := ⟨RX7, "sudden", "(IIIZ)I"⟩
abbrev cX7_seed : ByteArray := prog_9_method_62_code
def yX7_seed : MethodName := ⟨RX7, "seed", "(J)J"⟩
abbrev cX7_weeks : ByteArray := prog_9_method_63_code
def yX7_weeks : MethodName := ⟨RX7, "weeks", "(I)I"⟩
abbrev cX7_keep : ByteArray := prog_9_method_64_code
def yX7_keep : MethodName := ⟨RX7, "keep", "(I)I"⟩
abbrev cX7_again : ByteArray := prog_9_method_65_code
def yX7_again : MethodName := ⟨RX7, "again", "(I)I"⟩
def RJ6 : String := "java/lang/Integer"
def TJ6 : u_T := fun k => match k with
  | _ => ("", "", "", false)
def tyJ6 : Nat → FieldType := fun k => match k with
  | _ => .int
abbrev wsJ60 : List Cond := u_ws RJ6 TJ6 0
theorem nmJ6 : ∀ a, a < 0 → ∀ b, b < 0 → a ≠ b → (TJ6 a).2.1 ≠ (TJ6 b).2.1 := by decide +kernel
theorem tyJ6_ok : ∀ k, k < 0 → parseFieldDescriptor (TJ6 k).2.2.1 = some (tyJ6 k) := by decide +kernel
abbrev cJ6_bitCount_0f7a4 : ByteArray := prog_10_method_49_code
def yJ6_bitCount_0f7a4 : MethodName := ⟨RJ6, "bitCount", "(I)I"⟩
def RJ9 : String := "java/lang/Math"
def TJ9 : u_T := fun k => match k with
  | _ => ("", "", "", false)
def tyJ9 : Nat → FieldType := fun k => match k with
  | _ => .int
abbrev wsJ90 : List Cond := u_ws RJ9 TJ9 0
theorem nmJ9 : ∀ a, a < 0 → ∀ b, b < 0 → a ≠ b → (TJ9 a).2.1 ≠ (TJ9 b).2.1 := by decide +kernel
theorem tyJ9_ok : ∀ k, k < 0 → parseFieldDescriptor (TJ9 k).2.2.1 = some (tyJ9 k) := by decide +kernel
abbrev cJ9_abs_0f7a4 : ByteArray := prog_11_method_59_code
def yJ9_abs_0f7a4 : MethodName := ⟨RJ9, "abs", "(I)I"⟩
abbrev cJ9_max_7cf53 : ByteArray := prog_11_method_65_code
def yJ9_max_7cf53 : MethodName := ⟨RJ9, "max", "(II)I"⟩
def RJ10 : String := "java/lang/System"
def TJ10 : u_T := fun k => match k with
  | _ => ("", "", "", false)
def tyJ10 : Nat → FieldType := fun k => match k with
  | _ => .int
theorem nmJ10 : ∀ a, a < 0 → ∀ b, b < 0 → a ≠ b → (TJ10 a).2.1 ≠ (TJ10 b).2.1 := by decide +kernel
theorem tyJ10_ok : ∀ k, k < 0 → parseFieldDescriptor (TJ10 k).2.2.1 = some (tyJ10 k) := by decide +kernel
def RJ7 : String := "java/util/Arrays"
def TJ7 : u_T := fun k => match k with
  | _ => ("", "", "", false)
def tyJ7 : Nat → FieldType := fun k => match k with
  | _ => .int
abbrev wsJ70 : List Cond := u_ws RJ7 TJ7 0
theorem nmJ7 : ∀ a, a < 0 → ∀ b, b < 0 → a ≠ b → (TJ7 a).2.1 ≠ (TJ7 b).2.1 := by decide +kernel
theorem tyJ7_ok : ∀ k, k < 0 → parseFieldDescriptor (TJ7 k).2.2.1 = some (tyJ7 k) := by decide +kernel
abbrev cJ7_fill_53178 : ByteArray := prog_13_method_103_code
def yJ7_fill_53178 : MethodName := ⟨RJ7, "fill", "([II)V"⟩
def RL : String := "FirstUmbrellaLaw"
abbrev cL_law : ByteArray := code
def yL_law : MethodName := ⟨RL, "law", "([I)Z"⟩
end
section
def Wl : List Cond := lw_tbl.filter goodWord
theorem wl_of {w : Cond} (i : Nat) (h : lw_tbl[i]? = some w) (hg : goodWord w = true) : w ∈ Wl := List.mem_filter.mpr ⟨List.mem_of_getElem? h, hg⟩
theorem wl_good : GoodIn Wl Wl := fun w h => ⟨h, good_of_word (List.mem_filter.mp h).2⟩
theorem wl_0 : Cond.selects RX4 yX4_isFitting yX4_isFitting ∈ Wl := wl_of 0 (by decide +kernel) rfl
theorem wl_1 : Cond.selects RX3 yX3_lastAtLeast yX3_lastAtLeast ∈ Wl := wl_of 1 (by decide +kernel) rfl
theorem wl_2 : Cond.selects RX3 yX3_fateInHour yX3_fateInHour ∈ Wl := wl_of 2 (by decide +kernel) rfl
theorem wl_3 : Cond.selects RX6 yX6_keptIfOpened yX6_keptIfOpened ∈ Wl := wl_of 3 (by decide +kernel) rfl
theorem wl_4 : Cond.selects RX6 yX6_keptIfSent yX6_keptIfSent ∈ Wl := wl_of 4 (by decide +kernel) rfl
theorem wl_5 : Cond.selects RX6 yX6_comesTrue yX6_comesTrue ∈ Wl := wl_of 5 (by decide +kernel) rfl
theorem wl_6 : Cond.selects RX6 yX6_keptIfCome yX6_keptIfCome ∈ Wl := wl_of 6 (by decide +kernel) rfl
theorem wl_7 : Cond.selects RX6 yX6_isContent yX6_isContent ∈ Wl := wl_of 7 (by decide +kernel) rfl
theorem wl_8 : Cond.selects RX6 yX6_gain yX6_gain ∈ Wl := wl_of 8 (by decide +kernel) rfl
theorem wl_9 : Cond.selects RX6 yX6_doByChance yX6_doByChance ∈ Wl := wl_of 9 (by decide +kernel) rfl
theorem wl_10 : Cond.selects RX7 yX7_readTown yX7_readTown ∈ Wl := wl_of 10 (by decide +kernel) rfl
theorem wl_11 : Cond.selects RX7 yX7_readThing yX7_readThing ∈ Wl := wl_of 11 (by decide +kernel) rfl
theorem wl_12 : Cond.selects RX7 yX7_readOneWalker yX7_readOneWalker ∈ Wl := wl_of 12 (by decide +kernel) rfl
theorem wl_13 : Cond.selects RX7 yX7_figure yX7_figure ∈ Wl := wl_of 13 (by decide +kernel) rfl
theorem wl_14 : Cond.selects RX7 yX7_readOneNeed yX7_readOneNeed ∈ Wl := wl_of 14 (by decide +kernel) rfl
theorem wl_15 : Cond.selects RX7 yX7_rainOf yX7_rainOf ∈ Wl := wl_of 15 (by decide +kernel) rfl
theorem wl_16 : Cond.selects RX7 yX7_hailOf yX7_hailOf ∈ Wl := wl_of 16 (by decide +kernel) rfl
theorem wl_17 : Cond.selects RX7 yX7_openIn yX7_openIn ∈ Wl := wl_of 17 (by decide +kernel) rfl
theorem wl_18 : Cond.selects RX7 yX7_needsThat yX7_needsThat ∈ Wl := wl_of 18 (by decide +kernel) rfl
theorem wl_19 : Cond.selects RX7 yX7_noWalker yX7_noWalker ∈ Wl := wl_of 19 (by decide +kernel) rfl
theorem wl_20 : Cond.selects RX7 yX7_note yX7_note ∈ Wl := wl_of 20 (by decide +kernel) rfl
theorem wl_21 : Cond.selects RX7 yX7_goOpen yX7_goOpen ∈ Wl := wl_of 21 (by decide +kernel) rfl
theorem wl_22 : Cond.selects RX7 yX7_goShut yX7_goShut ∈ Wl := wl_of 22 (by decide +kernel) rfl
theorem wl_23 : Cond.selects RX7 yX7_goHour yX7_goHour ∈ Wl := wl_of 23 (by decide +kernel) rfl
theorem wl_24 : Cond.selects RX7 yX7_stateThen yX7_stateThen ∈ Wl := wl_of 24 (by decide +kernel) rfl
theorem wl_25 : Cond.selects RX7 yX7_begin yX7_begin ∈ Wl := wl_of 25 (by decide +kernel) rfl
theorem wl_26 : Cond.selects RX7 yX7_goHours yX7_goHours ∈ Wl := wl_of 26 (by decide +kernel) rfl
theorem wl_27 : Cond.selects RX7 yX7_openAll yX7_openAll ∈ Wl := wl_of 27 (by decide +kernel) rfl
theorem wl_28 : Cond.selects RX7 yX7_keptThen yX7_keptThen ∈ Wl := wl_of 28 (by decide +kernel) rfl
theorem wl_29 : Cond.selects RX7 yX7_does yX7_does ∈ Wl := wl_of 29 (by decide +kernel) rfl
theorem wl_30 : Cond.selects RX7 yX7_findMay yX7_findMay ∈ Wl := wl_of 30 (by decide +kernel) rfl
theorem wl_31 : Cond.selects RX7 yX7_gainOf yX7_gainOf ∈ Wl := wl_of 31 (by decide +kernel) rfl
theorem wl_32 : Cond.initialized RL ∈ Wl := wl_of 32 (by decide +kernel) rfl
theorem wl_33 : Cond.initialized RX6 ∈ Wl := wl_of 33 (by decide +kernel) rfl
theorem wl_34 : Cond.initialized RX4 ∈ Wl := wl_of 34 (by decide +kernel) rfl
theorem wl_35 : Cond.initialized RX2 ∈ Wl := wl_of 35 (by decide +kernel) rfl
theorem wl_36 : Cond.initialized RX3 ∈ Wl := wl_of 36 (by decide +kernel) rfl
theorem wl_37 : Cond.initialized RX1 ∈ Wl := wl_of 37 (by decide +kernel) rfl
theorem wl_38 : Cond.initialized RX5 ∈ Wl := wl_of 38 (by decide +kernel) rfl
theorem wl_39 : Cond.initialized RX0 ∈ Wl := wl_of 39 (by decide +kernel) rfl
theorem wl_40 : Cond.initialized RX7 ∈ Wl := wl_of 40 (by decide +kernel) rfl
theorem wl_41 : Cond.initialized RJ7 ∈ Wl := wl_of 41 (by decide +kernel) rfl
theorem wl_42 : Cond.initialized "java/lang/System" ∈ Wl := wl_of 42 (by decide +kernel) rfl
theorem wl_43 : Cond.initialized "java/lang/Math" ∈ Wl := wl_of 43 (by decide +kernel) rfl
theorem wl_44 : Cond.initialized RJ6 ∈ Wl := wl_of 44 (by decide +kernel) rfl
theorem wl_45 : Cond.classLink RL 7 RX6 ∈ Wl := wl_of 45 (by decide +kernel) rfl
theorem wl_46 : Cond.instantiable RX6 8 ∈ Wl := wl_of 46 (by decide +kernel) rfl
theorem wl_47 : Cond.methodLink RL 9 yX6_init ∈ Wl := wl_of 47 (by decide +kernel) rfl
theorem wl_48 : Cond.instanceMethod yX6_init ∈ Wl := wl_of 48 (by decide +kernel) rfl
theorem wl_49 : Cond.code yX6_init cX6_init 1 none ∈ Wl := wl_of 49 (by decide +kernel) rfl
theorem wl_50 : Cond.methodLink RX6 3 objectInit ∈ Wl := wl_of 50 (by decide +kernel) rfl
theorem wl_51 : Cond.instanceMethod objectInit ∈ Wl := wl_of 51 (by decide +kernel) rfl
theorem wl_52 : Cond.code objectInit ⟨#[0xb1]⟩ 1 none ∈ Wl := wl_of 52 (by decide +kernel) rfl
theorem wl_53 : Cond.classLink RX6 9 RX4 ∈ Wl := wl_of 53 (by decide +kernel) rfl
theorem wl_54 : Cond.instantiable RX4 2 ∈ Wl := wl_of 54 (by decide +kernel) rfl
theorem wl_56 : Cond.instanceMethod yX4_init ∈ Wl := wl_of 56 (by decide +kernel) rfl
theorem wl_57 : Cond.code yX4_init cX4_init 1 none ∈ Wl := wl_of 57 (by decide +kernel) rfl
theorem wl_58 : Cond.methodLink RX4 3 objectInit ∈ Wl := wl_of 58 (by decide +kernel) rfl
theorem wl_59 : Cond.fieldLink RX4 9 RX4 "bytes" "[I" ∈ Wl := wl_of 59 (by decide +kernel) rfl
theorem wl_60 : Cond.fieldLink RX4 15 RX4 "length" "I" ∈ Wl := wl_of 60 (by decide +kernel) rfl
theorem wl_66 : Cond.arrayClass .int ∈ Wl := wl_of 66 (by decide +kernel) rfl
theorem wl_67 : Cond.classLink RX6 16 RX2 ∈ Wl := wl_of 67 (by decide +kernel) rfl
theorem wl_68 : Cond.instantiable RX2 7 ∈ Wl := wl_of 68 (by decide +kernel) rfl
theorem wl_70 : Cond.instanceMethod yX2_init ∈ Wl := wl_of 70 (by decide +kernel) rfl
theorem wl_71 : Cond.code yX2_init cX2_init 1 none ∈ Wl := wl_of 71 (by decide +kernel) rfl
theorem wl_72 : Cond.methodLink RX2 3 objectInit ∈ Wl := wl_of 72 (by decide +kernel) rfl
theorem wl_73 : Cond.fieldLink RX2 27 RX2 "walkers" "I" ∈ Wl := wl_of 73 (by decide +kernel) rfl
theorem wl_74 : Cond.fieldLink RX2 31 RX2 "needs" "I" ∈ Wl := wl_of 74 (by decide +kernel) rfl
theorem wl_75 : Cond.fieldLink RX2 9 RX2 "homes" "[I" ∈ Wl := wl_of 75 (by decide +kernel) rfl
theorem wl_76 : Cond.fieldLink RX2 15 RX2 "stuffs" "[I" ∈ Wl := wl_of 76 (by decide +kernel) rfl
theorem wl_77 : Cond.fieldLink RX2 18 RX2 "needStreets" "[I" ∈ Wl := wl_of 77 (by decide +kernel) rfl
theorem wl_78 : Cond.fieldLink RX2 21 RX2 "needSorts" "[I" ∈ Wl := wl_of 78 (by decide +kernel) rfl
theorem wl_79 : Cond.fieldLink RX2 24 RX2 "needFigures" "[I" ∈ Wl := wl_of 79 (by decide +kernel) rfl
theorem wl_95 : Cond.classLink RX6 23 RX3 ∈ Wl := wl_of 95 (by decide +kernel) rfl
theorem wl_96 : Cond.instantiable RX3 7 ∈ Wl := wl_of 96 (by decide +kernel) rfl
theorem wl_97 : Cond.methodLink RX6 25 yX3_init ∈ Wl := wl_of 97 (by decide +kernel) rfl
theorem wl_98 : Cond.instanceMethod yX3_init ∈ Wl := wl_of 98 (by decide +kernel) rfl
theorem wl_99 : Cond.code yX3_init cX3_init 2 none ∈ Wl := wl_of 99 (by decide +kernel) rfl
theorem wl_100 : Cond.methodLink RX3 3 objectInit ∈ Wl := wl_of 100 (by decide +kernel) rfl
theorem wl_101 : Cond.fieldLink RX3 24 RX3 "plan" "LFirstUmbrella$Plan;" ∈ Wl := wl_of 101 (by decide +kernel) rfl
theorem wl_102 : Cond.fieldLink RX3 9 RX3 "places" "[I" ∈ Wl := wl_of 102 (by decide +kernel) rfl
theorem wl_103 : Cond.fieldLink RX3 15 RX3 "lasts" "[I" ∈ Wl := wl_of 103 (by decide +kernel) rfl
theorem wl_104 : Cond.fieldLink RX3 18 RX3 "wetness" "[I" ∈ Wl := wl_of 104 (by decide +kernel) rfl
theorem wl_105 : Cond.fieldLink RX3 21 RX3 "fates" "[I" ∈ Wl := wl_of 105 (by decide +kernel) rfl
theorem wl_106 : Cond.fieldLink RX3 40 RX3 "opened" "I" ∈ Wl := wl_of 106 (by decide +kernel) rfl
theorem wl_107 : Cond.fieldLink RX3 44 RX3 "time" "I" ∈ Wl := wl_of 107 (by decide +kernel) rfl
theorem wl_123 : Cond.classLink RX6 35 RX1 ∈ Wl := wl_of 123 (by decide +kernel) rfl
theorem wl_124 : Cond.instantiable RX1 3 ∈ Wl := wl_of 124 (by decide +kernel) rfl
theorem wl_125 : Cond.methodLink RX6 37 yX1_init ∈ Wl := wl_of 125 (by decide +kernel) rfl
theorem wl_126 : Cond.instanceMethod yX1_init ∈ Wl := wl_of 126 (by decide +kernel) rfl
theorem wl_127 : Cond.code yX1_init cX1_init 2 none ∈ Wl := wl_of 127 (by decide +kernel) rfl
theorem wl_128 : Cond.methodLink RX1 3 objectInit ∈ Wl := wl_of 128 (by decide +kernel) rfl
theorem wl_130 : Cond.static yX6_scenes ∈ Wl := wl_of 130 (by decide +kernel) rfl
theorem wl_131 : Cond.code yX6_scenes cX6_scenes 4 (some (.array (.object "FirstUmbrella$Scene"))) ∈ Wl := wl_of 131 (by decide +kernel) rfl
theorem wl_133 : Cond.fieldLink RX1 13 RX1 "found" "[LFirstUmbrella$Scene;" ∈ Wl := wl_of 133 (by decide +kernel) rfl
theorem wl_134 : Cond.fieldLink RX1 23 RX1 "first" "I" ∈ Wl := wl_of 134 (by decide +kernel) rfl
theorem wl_135 : Cond.fieldLink RX1 19 RX1 "count" "I" ∈ Wl := wl_of 135 (by decide +kernel) rfl
theorem wl_143 : Cond.classLink RX6 42 RX5 ∈ Wl := wl_of 143 (by decide +kernel) rfl
theorem wl_144 : Cond.instantiable RX5 2 ∈ Wl := wl_of 144 (by decide +kernel) rfl
theorem wl_145 : Cond.methodLink RX6 44 yX5_init ∈ Wl := wl_of 145 (by decide +kernel) rfl
theorem wl_146 : Cond.instanceMethod yX5_init ∈ Wl := wl_of 146 (by decide +kernel) rfl
theorem wl_147 : Cond.code yX5_init cX5_init 2 none ∈ Wl := wl_of 147 (by decide +kernel) rfl
theorem wl_148 : Cond.methodLink RX5 3 objectInit ∈ Wl := wl_of 148 (by decide +kernel) rfl
theorem wl_150 : Cond.fieldLink RX5 13 RX5 "stored" "[LFirstUmbrella$Scene;" ∈ Wl := wl_of 150 (by decide +kernel) rfl
theorem wl_151 : Cond.fieldLink RX5 19 RX5 "used" "I" ∈ Wl := wl_of 151 (by decide +kernel) rfl
theorem wl_157 : Cond.classLink RX6 49 RX0 ∈ Wl := wl_of 157 (by decide +kernel) rfl
theorem wl_158 : Cond.instantiable RX0 4 ∈ Wl := wl_of 158 (by decide +kernel) rfl
theorem wl_160 : Cond.instanceMethod yX0_init ∈ Wl := wl_of 160 (by decide +kernel) rfl
theorem wl_161 : Cond.code yX0_init cX0_init 1 none ∈ Wl := wl_of 161 (by decide +kernel) rfl
theorem wl_162 : Cond.methodLink RX0 3 objectInit ∈ Wl := wl_of 162 (by decide +kernel) rfl
theorem wl_163 : Cond.fieldLink RX0 9 RX0 "streets" "[I" ∈ Wl := wl_of 163 (by decide +kernel) rfl
theorem wl_164 : Cond.fieldLink RX0 15 RX0 "hours" "[I" ∈ Wl := wl_of 164 (by decide +kernel) rfl
theorem wl_165 : Cond.fieldLink RX0 22 RX0 "rains" "I" ∈ Wl := wl_of 165 (by decide +kernel) rfl
theorem wl_166 : Cond.fieldLink RX0 18 RX0 "count" "I" ∈ Wl := wl_of 166 (by decide +kernel) rfl
theorem wl_176 : Cond.fieldLink RX6 12 RX6 "script" "LFirstUmbrella$Script;" ∈ Wl := wl_of 176 (by decide +kernel) rfl
theorem wl_177 : Cond.fieldLink RX6 19 RX6 "plan" "LFirstUmbrella$Plan;" ∈ Wl := wl_of 177 (by decide +kernel) rfl
theorem wl_178 : Cond.fieldLink RX6 28 RX6 "now" "LFirstUmbrella$Scene;" ∈ Wl := wl_of 178 (by decide +kernel) rfl
theorem wl_179 : Cond.fieldLink RX6 32 RX6 "trial" "LFirstUmbrella$Scene;" ∈ Wl := wl_of 179 (by decide +kernel) rfl
theorem wl_180 : Cond.fieldLink RX6 38 RX6 "past" "LFirstUmbrella$Past;" ∈ Wl := wl_of 180 (by decide +kernel) rfl
theorem wl_181 : Cond.fieldLink RX6 45 RX6 "slots" "LFirstUmbrella$Slots;" ∈ Wl := wl_of 181 (by decide +kernel) rfl
theorem wl_182 : Cond.fieldLink RX6 52 RX6 "felt" "LFirstUmbrella$Felt;" ∈ Wl := wl_of 182 (by decide +kernel) rfl
theorem wl_183 : Cond.fieldLink RX6 236 RX6 "seedNow" "J" ∈ Wl := wl_of 183 (by decide +kernel) rfl
theorem wl_201 : Cond.methodLink RL 13 yX6_write ∈ Wl := wl_of 201 (by decide +kernel) rfl
theorem wl_202 : Cond.instanceMethod yX6_write ∈ Wl := wl_of 202 (by decide +kernel) rfl
theorem wl_203 : Cond.selects RX6 yX6_write yX6_write ∈ Wl := wl_of 203 (by decide +kernel) rfl
theorem wl_204 : Cond.code yX6_write cX6_write 2 (some .int) ∈ Wl := wl_of 204 (by decide +kernel) rfl
theorem wl_205 : Cond.methodLink RX6 56 yX4_append ∈ Wl := wl_of 205 (by decide +kernel) rfl
theorem wl_206 : Cond.instanceMethod yX4_append ∈ Wl := wl_of 206 (by decide +kernel) rfl
theorem wl_207 : Cond.selects RX4 yX4_append yX4_append ∈ Wl := wl_of 207 (by decide +kernel) rfl
theorem wl_208 : Cond.code yX4_append cX4_append 2 (some .boolean) ∈ Wl := wl_of 208 (by decide +kernel) rfl
theorem wl_210 : Cond.static yX6_put ∈ Wl := wl_of 210 (by decide +kernel) rfl
theorem wl_211 : Cond.code yX6_put cX6_put 3 none ∈ Wl := wl_of 211 (by decide +kernel) rfl
theorem wl_212 : Cond.methodLink RX6 60 yX4_length ∈ Wl := wl_of 212 (by decide +kernel) rfl
theorem wl_213 : Cond.instanceMethod yX4_length ∈ Wl := wl_of 213 (by decide +kernel) rfl
theorem wl_214 : Cond.selects RX4 yX4_length yX4_length ∈ Wl := wl_of 214 (by decide +kernel) rfl
theorem wl_215 : Cond.code yX4_length cX4_length 1 (some .int) ∈ Wl := wl_of 215 (by decide +kernel) rfl
theorem wl_216 : Cond.methodLink RL 18 yX6_wipe ∈ Wl := wl_of 216 (by decide +kernel) rfl
theorem wl_217 : Cond.instanceMethod yX6_wipe ∈ Wl := wl_of 217 (by decide +kernel) rfl
theorem wl_218 : Cond.selects RX6 yX6_wipe yX6_wipe ∈ Wl := wl_of 218 (by decide +kernel) rfl
theorem wl_219 : Cond.code yX6_wipe cX6_wipe 2 (some .int) ∈ Wl := wl_of 219 (by decide +kernel) rfl
theorem wl_220 : Cond.methodLink RX6 64 yX4_clear ∈ Wl := wl_of 220 (by decide +kernel) rfl
theorem wl_221 : Cond.instanceMethod yX4_clear ∈ Wl := wl_of 221 (by decide +kernel) rfl
theorem wl_222 : Cond.selects RX4 yX4_clear yX4_clear ∈ Wl := wl_of 222 (by decide +kernel) rfl
theorem wl_223 : Cond.code yX4_clear cX4_clear 1 none ∈ Wl := wl_of 223 (by decide +kernel) rfl
theorem wl_224 : Cond.methodLink RL 23 yX6_fault ∈ Wl := wl_of 224 (by decide +kernel) rfl
theorem wl_225 : Cond.instanceMethod yX6_fault ∈ Wl := wl_of 225 (by decide +kernel) rfl
theorem wl_226 : Cond.selects RX6 yX6_fault yX6_fault ∈ Wl := wl_of 226 (by decide +kernel) rfl
theorem wl_227 : Cond.code yX6_fault cX6_fault 1 (some .int) ∈ Wl := wl_of 227 (by decide +kernel) rfl
theorem wl_228 : Cond.methodLink RX6 67 yX4_firstFault ∈ Wl := wl_of 228 (by decide +kernel) rfl
theorem wl_229 : Cond.instanceMethod yX4_firstFault ∈ Wl := wl_of 229 (by decide +kernel) rfl
theorem wl_230 : Cond.selects RX4 yX4_firstFault yX4_firstFault ∈ Wl := wl_of 230 (by decide +kernel) rfl
theorem wl_231 : Cond.code yX4_firstFault cX4_firstFault 8 (some .int) ∈ Wl := wl_of 231 (by decide +kernel) rfl
theorem wl_232 : Cond.methodLink RX4 27 yX4_byteAt ∈ Wl := wl_of 232 (by decide +kernel) rfl
theorem wl_233 : Cond.instanceMethod yX4_byteAt ∈ Wl := wl_of 233 (by decide +kernel) rfl
theorem wl_234 : Cond.selects RX4 yX4_byteAt yX4_byteAt ∈ Wl := wl_of 234 (by decide +kernel) rfl
theorem wl_235 : Cond.code yX4_byteAt cX4_byteAt 2 (some .int) ∈ Wl := wl_of 235 (by decide +kernel) rfl
theorem wl_237 : Cond.static yX6_at ∈ Wl := wl_of 237 (by decide +kernel) rfl
theorem wl_238 : Cond.code yX6_at cX6_at 2 (some .int) ∈ Wl := wl_of 238 (by decide +kernel) rfl
theorem wl_239 : Cond.methodLink RX4 31 yX4_isFitting ∈ Wl := wl_of 239 (by decide +kernel) rfl
theorem wl_241 : Cond.instanceMethod yX4_isFitting ∈ Wl := wl_of 241 (by decide +kernel) rfl
theorem wl_242 : Cond.code yX4_isFitting cX4_isFitting 6 (some .boolean) ∈ Wl := wl_of 242 (by decide +kernel) rfl
theorem wl_243 : Cond.methodLink RX4 35 yX4_figureAt ∈ Wl := wl_of 243 (by decide +kernel) rfl
theorem wl_244 : Cond.instanceMethod yX4_figureAt ∈ Wl := wl_of 244 (by decide +kernel) rfl
theorem wl_245 : Cond.selects RX4 yX4_figureAt yX4_figureAt ∈ Wl := wl_of 245 (by decide +kernel) rfl
theorem wl_246 : Cond.code yX4_figureAt cX4_figureAt 2 (some .int) ∈ Wl := wl_of 246 (by decide +kernel) rfl
theorem wl_247 : Cond.methodLink RL 27 yX6_town ∈ Wl := wl_of 247 (by decide +kernel) rfl
theorem wl_248 : Cond.instanceMethod yX6_town ∈ Wl := wl_of 248 (by decide +kernel) rfl
theorem wl_249 : Cond.selects RX6 yX6_town yX6_town ∈ Wl := wl_of 249 (by decide +kernel) rfl
theorem wl_250 : Cond.code yX6_town cX6_town 1 (some .int) ∈ Wl := wl_of 250 (by decide +kernel) rfl
theorem wl_251 : Cond.methodLink RX6 70 yX2_readFrom ∈ Wl := wl_of 251 (by decide +kernel) rfl
theorem wl_252 : Cond.instanceMethod yX2_readFrom ∈ Wl := wl_of 252 (by decide +kernel) rfl
theorem wl_253 : Cond.selects RX2 yX2_readFrom yX2_readFrom ∈ Wl := wl_of 253 (by decide +kernel) rfl
theorem wl_254 : Cond.code yX2_readFrom cX2_readFrom 3 none ∈ Wl := wl_of 254 (by decide +kernel) rfl
theorem wl_255 : Cond.methodLink RX2 34 yX4_length ∈ Wl := wl_of 255 (by decide +kernel) rfl
theorem wl_256 : Cond.methodLink RX2 40 yX4_byteAt ∈ Wl := wl_of 256 (by decide +kernel) rfl
theorem wl_257 : Cond.methodLink RX2 44 yX4_figureAt ∈ Wl := wl_of 257 (by decide +kernel) rfl
theorem wl_259 : Cond.methodLink RX6 74 yX3_begin ∈ Wl := wl_of 259 (by decide +kernel) rfl
theorem wl_260 : Cond.instanceMethod yX3_begin ∈ Wl := wl_of 260 (by decide +kernel) rfl
theorem wl_261 : Cond.selects RX3 yX3_begin yX3_begin ∈ Wl := wl_of 261 (by decide +kernel) rfl
theorem wl_262 : Cond.code yX3_begin cX3_begin 2 none ∈ Wl := wl_of 262 (by decide +kernel) rfl
theorem wl_263 : Cond.methodLink RX3 28 yX2_homeOf ∈ Wl := wl_of 263 (by decide +kernel) rfl
theorem wl_264 : Cond.instanceMethod yX2_homeOf ∈ Wl := wl_of 264 (by decide +kernel) rfl
theorem wl_265 : Cond.selects RX2 yX2_homeOf yX2_homeOf ∈ Wl := wl_of 265 (by decide +kernel) rfl
theorem wl_266 : Cond.code yX2_homeOf cX2_homeOf 2 (some .int) ∈ Wl := wl_of 266 (by decide +kernel) rfl
theorem wl_268 : Cond.methodLink RX3 34 yJ7_fill_53178 ∈ Wl := wl_of 268 (by decide +kernel) rfl
theorem wl_269 : Cond.static yJ7_fill_53178 ∈ Wl := wl_of 269 (by decide +kernel) rfl
theorem wl_270 : Cond.code yJ7_fill_53178 cJ7_fill_53178 4 none ∈ Wl := wl_of 270 (by decide +kernel) rfl
theorem wl_271 : Cond.methodLink RX6 77 yX1_clear ∈ Wl := wl_of 271 (by decide +kernel) rfl
theorem wl_272 : Cond.instanceMethod yX1_clear ∈ Wl := wl_of 272 (by decide +kernel) rfl
theorem wl_273 : Cond.selects RX1 yX1_clear yX1_clear ∈ Wl := wl_of 273 (by decide +kernel) rfl
theorem wl_274 : Cond.code yX1_clear cX1_clear 1 none ∈ Wl := wl_of 274 (by decide +kernel) rfl
theorem wl_275 : Cond.methodLink RX6 78 yX5_clear ∈ Wl := wl_of 275 (by decide +kernel) rfl
theorem wl_276 : Cond.instanceMethod yX5_clear ∈ Wl := wl_of 276 (by decide +kernel) rfl
theorem wl_277 : Cond.selects RX5 yX5_clear yX5_clear ∈ Wl := wl_of 277 (by decide +kernel) rfl
theorem wl_278 : Cond.code yX5_clear cX5_clear 1 none ∈ Wl := wl_of 278 (by decide +kernel) rfl
theorem wl_279 : Cond.methodLink RX6 79 yX2_walkerCount ∈ Wl := wl_of 279 (by decide +kernel) rfl
theorem wl_280 : Cond.instanceMethod yX2_walkerCount ∈ Wl := wl_of 280 (by decide +kernel) rfl
theorem wl_281 : Cond.selects RX2 yX2_walkerCount yX2_walkerCount ∈ Wl := wl_of 281 (by decide +kernel) rfl
theorem wl_282 : Cond.code yX2_walkerCount cX2_walkerCount 1 (some .int) ∈ Wl := wl_of 282 (by decide +kernel) rfl
theorem wl_283 : Cond.methodLink RX6 82 yX2_needCount ∈ Wl := wl_of 283 (by decide +kernel) rfl
theorem wl_284 : Cond.instanceMethod yX2_needCount ∈ Wl := wl_of 284 (by decide +kernel) rfl
theorem wl_285 : Cond.selects RX2 yX2_needCount yX2_needCount ∈ Wl := wl_of 285 (by decide +kernel) rfl
theorem wl_286 : Cond.code yX2_needCount cX2_needCount 1 (some .int) ∈ Wl := wl_of 286 (by decide +kernel) rfl
theorem wl_287 : Cond.methodLink RL 31 yX6_about ∈ Wl := wl_of 287 (by decide +kernel) rfl
theorem wl_288 : Cond.instanceMethod yX6_about ∈ Wl := wl_of 288 (by decide +kernel) rfl
theorem wl_289 : Cond.selects RX6 yX6_about yX6_about ∈ Wl := wl_of 289 (by decide +kernel) rfl
theorem wl_290 : Cond.code yX6_about cX6_about 2 (some .int) ∈ Wl := wl_of 290 (by decide +kernel) rfl
theorem wl_291 : Cond.methodLink RX6 85 yX3_time ∈ Wl := wl_of 291 (by decide +kernel) rfl
theorem wl_292 : Cond.instanceMethod yX3_time ∈ Wl := wl_of 292 (by decide +kernel) rfl
theorem wl_293 : Cond.selects RX3 yX3_time yX3_time ∈ Wl := wl_of 293 (by decide +kernel) rfl
theorem wl_294 : Cond.code yX3_time cX3_time 1 (some .int) ∈ Wl := wl_of 294 (by decide +kernel) rfl
theorem wl_295 : Cond.methodLink RX6 88 yX3_openBits ∈ Wl := wl_of 295 (by decide +kernel) rfl
theorem wl_296 : Cond.instanceMethod yX3_openBits ∈ Wl := wl_of 296 (by decide +kernel) rfl
theorem wl_297 : Cond.selects RX3 yX3_openBits yX3_openBits ∈ Wl := wl_of 297 (by decide +kernel) rfl
theorem wl_298 : Cond.code yX3_openBits cX3_openBits 1 (some .int) ∈ Wl := wl_of 298 (by decide +kernel) rfl
theorem wl_299 : Cond.methodLink RX6 91 yX3_rainBits ∈ Wl := wl_of 299 (by decide +kernel) rfl
theorem wl_300 : Cond.instanceMethod yX3_rainBits ∈ Wl := wl_of 300 (by decide +kernel) rfl
theorem wl_301 : Cond.selects RX3 yX3_rainBits yX3_rainBits ∈ Wl := wl_of 301 (by decide +kernel) rfl
theorem wl_302 : Cond.code yX3_rainBits cX3_rainBits 4 (some .int) ∈ Wl := wl_of 302 (by decide +kernel) rfl
theorem wl_304 : Cond.static yX6_has ∈ Wl := wl_of 304 (by decide +kernel) rfl
theorem wl_305 : Cond.code yX6_has cX6_has 2 (some .boolean) ∈ Wl := wl_of 305 (by decide +kernel) rfl
theorem wl_306 : Cond.methodLink RX3 65 yX2_stuffOf ∈ Wl := wl_of 306 (by decide +kernel) rfl
theorem wl_307 : Cond.instanceMethod yX2_stuffOf ∈ Wl := wl_of 307 (by decide +kernel) rfl
theorem wl_308 : Cond.selects RX2 yX2_stuffOf yX2_stuffOf ∈ Wl := wl_of 308 (by decide +kernel) rfl
theorem wl_309 : Cond.code yX2_stuffOf cX2_stuffOf 2 (some .int) ∈ Wl := wl_of 309 (by decide +kernel) rfl
theorem wl_310 : Cond.methodLink RX6 94 yX3_hailBits ∈ Wl := wl_of 310 (by decide +kernel) rfl
theorem wl_311 : Cond.instanceMethod yX3_hailBits ∈ Wl := wl_of 311 (by decide +kernel) rfl
theorem wl_312 : Cond.selects RX3 yX3_hailBits yX3_hailBits ∈ Wl := wl_of 312 (by decide +kernel) rfl
theorem wl_313 : Cond.code yX3_hailBits cX3_hailBits 5 (some .int) ∈ Wl := wl_of 313 (by decide +kernel) rfl
theorem wl_314 : Cond.methodLink RX6 97 yX3_needBits ∈ Wl := wl_of 314 (by decide +kernel) rfl
theorem wl_315 : Cond.instanceMethod yX3_needBits ∈ Wl := wl_of 315 (by decide +kernel) rfl
theorem wl_316 : Cond.selects RX3 yX3_needBits yX3_needBits ∈ Wl := wl_of 316 (by decide +kernel) rfl
theorem wl_317 : Cond.code yX3_needBits cX3_needBits 4 (some .int) ∈ Wl := wl_of 317 (by decide +kernel) rfl
theorem wl_318 : Cond.methodLink RX3 68 yX2_needCount ∈ Wl := wl_of 318 (by decide +kernel) rfl
theorem wl_319 : Cond.methodLink RX3 71 yX3_fateOf ∈ Wl := wl_of 319 (by decide +kernel) rfl
theorem wl_320 : Cond.instanceMethod yX3_fateOf ∈ Wl := wl_of 320 (by decide +kernel) rfl
theorem wl_321 : Cond.selects RX3 yX3_fateOf yX3_fateOf ∈ Wl := wl_of 321 (by decide +kernel) rfl
theorem wl_322 : Cond.code yX3_fateOf cX3_fateOf 2 (some .int) ∈ Wl := wl_of 322 (by decide +kernel) rfl
theorem wl_324 : Cond.methodLink RX6 101 yX1_size ∈ Wl := wl_of 324 (by decide +kernel) rfl
theorem wl_325 : Cond.instanceMethod yX1_size ∈ Wl := wl_of 325 (by decide +kernel) rfl
theorem wl_326 : Cond.selects RX1 yX1_size yX1_size ∈ Wl := wl_of 326 (by decide +kernel) rfl
theorem wl_327 : Cond.code yX1_size cX1_size 1 (some .int) ∈ Wl := wl_of 327 (by decide +kernel) rfl
theorem wl_328 : Cond.methodLink RX6 104 yX0_size ∈ Wl := wl_of 328 (by decide +kernel) rfl
theorem wl_329 : Cond.instanceMethod yX0_size ∈ Wl := wl_of 329 (by decide +kernel) rfl
theorem wl_330 : Cond.selects RX0 yX0_size yX0_size ∈ Wl := wl_of 330 (by decide +kernel) rfl
theorem wl_331 : Cond.code yX0_size cX0_size 1 (some .int) ∈ Wl := wl_of 331 (by decide +kernel) rfl
theorem wl_332 : Cond.methodLink RL 35 yX6_walker ∈ Wl := wl_of 332 (by decide +kernel) rfl
theorem wl_333 : Cond.instanceMethod yX6_walker ∈ Wl := wl_of 333 (by decide +kernel) rfl
theorem wl_334 : Cond.selects RX6 yX6_walker yX6_walker ∈ Wl := wl_of 334 (by decide +kernel) rfl
theorem wl_335 : Cond.code yX6_walker cX6_walker 3 (some .int) ∈ Wl := wl_of 335 (by decide +kernel) rfl
theorem wl_336 : Cond.methodLink RX6 105 yX2_hasWalker ∈ Wl := wl_of 336 (by decide +kernel) rfl
theorem wl_337 : Cond.instanceMethod yX2_hasWalker ∈ Wl := wl_of 337 (by decide +kernel) rfl
theorem wl_338 : Cond.selects RX2 yX2_hasWalker yX2_hasWalker ∈ Wl := wl_of 338 (by decide +kernel) rfl
theorem wl_339 : Cond.code yX2_hasWalker cX2_hasWalker 2 (some .boolean) ∈ Wl := wl_of 339 (by decide +kernel) rfl
theorem wl_340 : Cond.methodLink RX6 108 yX3_placeOf ∈ Wl := wl_of 340 (by decide +kernel) rfl
theorem wl_341 : Cond.instanceMethod yX3_placeOf ∈ Wl := wl_of 341 (by decide +kernel) rfl
theorem wl_342 : Cond.selects RX3 yX3_placeOf yX3_placeOf ∈ Wl := wl_of 342 (by decide +kernel) rfl
theorem wl_343 : Cond.code yX3_placeOf cX3_placeOf 2 (some .int) ∈ Wl := wl_of 343 (by decide +kernel) rfl
theorem wl_344 : Cond.methodLink RX6 111 yX2_stuffOf ∈ Wl := wl_of 344 (by decide +kernel) rfl
theorem wl_345 : Cond.methodLink RX6 114 yX3_isOpen ∈ Wl := wl_of 345 (by decide +kernel) rfl
theorem wl_346 : Cond.instanceMethod yX3_isOpen ∈ Wl := wl_of 346 (by decide +kernel) rfl
theorem wl_347 : Cond.selects RX3 yX3_isOpen yX3_isOpen ∈ Wl := wl_of 347 (by decide +kernel) rfl
theorem wl_348 : Cond.code yX3_isOpen cX3_isOpen 2 (some .boolean) ∈ Wl := wl_of 348 (by decide +kernel) rfl
theorem wl_349 : Cond.methodLink RL 40 yX6_need ∈ Wl := wl_of 349 (by decide +kernel) rfl
theorem wl_350 : Cond.instanceMethod yX6_need ∈ Wl := wl_of 350 (by decide +kernel) rfl
theorem wl_351 : Cond.selects RX6 yX6_need yX6_need ∈ Wl := wl_of 351 (by decide +kernel) rfl
theorem wl_352 : Cond.code yX6_need cX6_need 3 (some .int) ∈ Wl := wl_of 352 (by decide +kernel) rfl
theorem wl_353 : Cond.methodLink RX6 117 yX2_hasNeed ∈ Wl := wl_of 353 (by decide +kernel) rfl
theorem wl_354 : Cond.instanceMethod yX2_hasNeed ∈ Wl := wl_of 354 (by decide +kernel) rfl
theorem wl_355 : Cond.selects RX2 yX2_hasNeed yX2_hasNeed ∈ Wl := wl_of 355 (by decide +kernel) rfl
theorem wl_356 : Cond.code yX2_hasNeed cX2_hasNeed 2 (some .boolean) ∈ Wl := wl_of 356 (by decide +kernel) rfl
theorem wl_357 : Cond.methodLink RX6 120 yX2_streetOfNeed ∈ Wl := wl_of 357 (by decide +kernel) rfl
theorem wl_358 : Cond.instanceMethod yX2_streetOfNeed ∈ Wl := wl_of 358 (by decide +kernel) rfl
theorem wl_359 : Cond.selects RX2 yX2_streetOfNeed yX2_streetOfNeed ∈ Wl := wl_of 359 (by decide +kernel) rfl
theorem wl_360 : Cond.code yX2_streetOfNeed cX2_streetOfNeed 2 (some .int) ∈ Wl := wl_of 360 (by decide +kernel) rfl
theorem wl_361 : Cond.methodLink RX6 123 yX2_sortOfNeed ∈ Wl := wl_of 361 (by decide +kernel) rfl
theorem wl_362 : Cond.instanceMethod yX2_sortOfNeed ∈ Wl := wl_of 362 (by decide +kernel) rfl
theorem wl_363 : Cond.selects RX2 yX2_sortOfNeed yX2_sortOfNeed ∈ Wl := wl_of 363 (by decide +kernel) rfl
theorem wl_364 : Cond.code yX2_sortOfNeed cX2_sortOfNeed 2 (some .int) ∈ Wl := wl_of 364 (by decide +kernel) rfl
theorem wl_365 : Cond.methodLink RX6 126 yX2_figureOfNeed ∈ Wl := wl_of 365 (by decide +kernel) rfl
theorem wl_366 : Cond.instanceMethod yX2_figureOfNeed ∈ Wl := wl_of 366 (by decide +kernel) rfl
theorem wl_367 : Cond.selects RX2 yX2_figureOfNeed yX2_figureOfNeed ∈ Wl := wl_of 367 (by decide +kernel) rfl
theorem wl_368 : Cond.code yX2_figureOfNeed cX2_figureOfNeed 2 (some .int) ∈ Wl := wl_of 368 (by decide +kernel) rfl
theorem wl_369 : Cond.methodLink RX6 129 yX3_fateOf ∈ Wl := wl_of 369 (by decide +kernel) rfl
theorem wl_370 : Cond.methodLink RL 44 yX6_street ∈ Wl := wl_of 370 (by decide +kernel) rfl
theorem wl_371 : Cond.instanceMethod yX6_street ∈ Wl := wl_of 371 (by decide +kernel) rfl
theorem wl_372 : Cond.selects RX6 yX6_street yX6_street ∈ Wl := wl_of 372 (by decide +kernel) rfl
theorem wl_373 : Cond.code yX6_street cX6_street 3 (some .int) ∈ Wl := wl_of 373 (by decide +kernel) rfl
theorem wl_374 : Cond.methodLink RX6 132 yX6_isStreet ∈ Wl := wl_of 374 (by decide +kernel) rfl
theorem wl_375 : Cond.static yX6_isStreet ∈ Wl := wl_of 375 (by decide +kernel) rfl
theorem wl_376 : Cond.code yX6_isStreet cX6_isStreet 1 (some .boolean) ∈ Wl := wl_of 376 (by decide +kernel) rfl
theorem wl_377 : Cond.methodLink RX6 135 yX3_wetnessOf ∈ Wl := wl_of 377 (by decide +kernel) rfl
theorem wl_378 : Cond.instanceMethod yX3_wetnessOf ∈ Wl := wl_of 378 (by decide +kernel) rfl
theorem wl_379 : Cond.selects RX3 yX3_wetnessOf yX3_wetnessOf ∈ Wl := wl_of 379 (by decide +kernel) rfl
theorem wl_380 : Cond.code yX3_wetnessOf cX3_wetnessOf 2 (some .int) ∈ Wl := wl_of 380 (by decide +kernel) rfl
theorem wl_381 : Cond.methodLink RX6 138 yX3_lastsIn ∈ Wl := wl_of 381 (by decide +kernel) rfl
theorem wl_382 : Cond.instanceMethod yX3_lastsIn ∈ Wl := wl_of 382 (by decide +kernel) rfl
theorem wl_383 : Cond.selects RX3 yX3_lastsIn yX3_lastsIn ∈ Wl := wl_of 383 (by decide +kernel) rfl
theorem wl_384 : Cond.code yX3_lastsIn cX3_lastsIn 2 (some .int) ∈ Wl := wl_of 384 (by decide +kernel) rfl
theorem wl_385 : Cond.methodLink RX6 141 yX3_openIn ∈ Wl := wl_of 385 (by decide +kernel) rfl
theorem wl_386 : Cond.instanceMethod yX3_openIn ∈ Wl := wl_of 386 (by decide +kernel) rfl
theorem wl_387 : Cond.selects RX3 yX3_openIn yX3_openIn ∈ Wl := wl_of 387 (by decide +kernel) rfl
theorem wl_388 : Cond.code yX3_openIn cX3_openIn 4 (some .int) ∈ Wl := wl_of 388 (by decide +kernel) rfl
theorem wl_389 : Cond.methodLink RL 48 yX6_open ∈ Wl := wl_of 389 (by decide +kernel) rfl
theorem wl_390 : Cond.instanceMethod yX6_open ∈ Wl := wl_of 390 (by decide +kernel) rfl
theorem wl_391 : Cond.selects RX6 yX6_open yX6_open ∈ Wl := wl_of 391 (by decide +kernel) rfl
theorem wl_392 : Cond.code yX6_open cX6_open 2 (some .int) ∈ Wl := wl_of 392 (by decide +kernel) rfl
theorem wl_393 : Cond.methodLink RX6 144 yX1_add ∈ Wl := wl_of 393 (by decide +kernel) rfl
theorem wl_394 : Cond.instanceMethod yX1_add ∈ Wl := wl_of 394 (by decide +kernel) rfl
theorem wl_395 : Cond.selects RX1 yX1_add yX1_add ∈ Wl := wl_of 395 (by decide +kernel) rfl
theorem wl_396 : Cond.code yX1_add cX1_add 3 none ∈ Wl := wl_of 396 (by decide +kernel) rfl
theorem wl_398 : Cond.static yX6_sceneAt ∈ Wl := wl_of 398 (by decide +kernel) rfl
theorem wl_399 : Cond.code yX6_sceneAt cX6_sceneAt 2 (some (.object "FirstUmbrella$Scene")) ∈ Wl := wl_of 399 (by decide +kernel) rfl
theorem wl_400 : Cond.methodLink RX1 30 yX3_copy ∈ Wl := wl_of 400 (by decide +kernel) rfl
theorem wl_401 : Cond.instanceMethod yX3_copy ∈ Wl := wl_of 401 (by decide +kernel) rfl
theorem wl_402 : Cond.selects RX3 yX3_copy yX3_copy ∈ Wl := wl_of 402 (by decide +kernel) rfl
theorem wl_403 : Cond.code yX3_copy cX3_copy 2 none ∈ Wl := wl_of 403 (by decide +kernel) rfl
theorem wl_404 : Cond.methodLink RX3 47 arraycopyName ∈ Wl := wl_of 404 (by decide +kernel) rfl
theorem wl_405 : Cond.static arraycopyName ∈ Wl := wl_of 405 (by decide +kernel) rfl
theorem wl_406 : Cond.native arraycopyName ∈ Wl := wl_of 406 (by decide +kernel) rfl
theorem wl_407 : Cond.methodLink RX6 148 yX3_raise ∈ Wl := wl_of 407 (by decide +kernel) rfl
theorem wl_408 : Cond.instanceMethod yX3_raise ∈ Wl := wl_of 408 (by decide +kernel) rfl
theorem wl_409 : Cond.selects RX3 yX3_raise yX3_raise ∈ Wl := wl_of 409 (by decide +kernel) rfl
theorem wl_410 : Cond.code yX3_raise cX3_raise 2 (some .boolean) ∈ Wl := wl_of 410 (by decide +kernel) rfl
theorem wl_411 : Cond.methodLink RX3 82 yX2_hasWalker ∈ Wl := wl_of 411 (by decide +kernel) rfl
theorem wl_412 : Cond.methodLink RX3 86 yX3_isOpen ∈ Wl := wl_of 412 (by decide +kernel) rfl
theorem wl_413 : Cond.methodLink RX3 89 yX3_placeOf ∈ Wl := wl_of 413 (by decide +kernel) rfl
theorem wl_414 : Cond.methodLink RX3 92 yX3_lastAtLeast ∈ Wl := wl_of 414 (by decide +kernel) rfl
theorem wl_416 : Cond.instanceMethod yX3_lastAtLeast ∈ Wl := wl_of 416 (by decide +kernel) rfl
theorem wl_417 : Cond.code yX3_lastAtLeast cX3_lastAtLeast 3 none ∈ Wl := wl_of 417 (by decide +kernel) rfl
theorem wl_418 : Cond.methodLink RX3 99 Lib.Math.max.name ∈ Wl := wl_of 418 (by decide +kernel) rfl
theorem wl_419 : Cond.static Lib.Math.max.name ∈ Wl := wl_of 419 (by decide +kernel) rfl
theorem wl_420 : Cond.code Lib.Math.max.name Lib.Math.max.code 2 (some .int) ∈ Wl := wl_of 420 (by decide +kernel) rfl
theorem wl_422 : Cond.methodLink RL 52 yX6_shut ∈ Wl := wl_of 422 (by decide +kernel) rfl
theorem wl_423 : Cond.instanceMethod yX6_shut ∈ Wl := wl_of 423 (by decide +kernel) rfl
theorem wl_424 : Cond.selects RX6 yX6_shut yX6_shut ∈ Wl := wl_of 424 (by decide +kernel) rfl
theorem wl_425 : Cond.code yX6_shut cX6_shut 2 (some .int) ∈ Wl := wl_of 425 (by decide +kernel) rfl
theorem wl_426 : Cond.methodLink RX6 151 yX3_lower ∈ Wl := wl_of 426 (by decide +kernel) rfl
theorem wl_427 : Cond.instanceMethod yX3_lower ∈ Wl := wl_of 427 (by decide +kernel) rfl
theorem wl_428 : Cond.selects RX3 yX3_lower yX3_lower ∈ Wl := wl_of 428 (by decide +kernel) rfl
theorem wl_429 : Cond.code yX3_lower cX3_lower 2 (some .boolean) ∈ Wl := wl_of 429 (by decide +kernel) rfl
theorem wl_430 : Cond.methodLink RL 56 yX6_walk ∈ Wl := wl_of 430 (by decide +kernel) rfl
theorem wl_431 : Cond.instanceMethod yX6_walk ∈ Wl := wl_of 431 (by decide +kernel) rfl
theorem wl_432 : Cond.selects RX6 yX6_walk yX6_walk ∈ Wl := wl_of 432 (by decide +kernel) rfl
theorem wl_433 : Cond.code yX6_walk cX6_walk 3 (some .int) ∈ Wl := wl_of 433 (by decide +kernel) rfl
theorem wl_434 : Cond.methodLink RX6 154 yX3_canMove ∈ Wl := wl_of 434 (by decide +kernel) rfl
theorem wl_435 : Cond.instanceMethod yX3_canMove ∈ Wl := wl_of 435 (by decide +kernel) rfl
theorem wl_436 : Cond.selects RX3 yX3_canMove yX3_canMove ∈ Wl := wl_of 436 (by decide +kernel) rfl
theorem wl_437 : Cond.code yX3_canMove cX3_canMove 3 (some .boolean) ∈ Wl := wl_of 437 (by decide +kernel) rfl
theorem wl_439 : Cond.methodLink RX6 158 yX3_move ∈ Wl := wl_of 439 (by decide +kernel) rfl
theorem wl_440 : Cond.instanceMethod yX3_move ∈ Wl := wl_of 440 (by decide +kernel) rfl
theorem wl_441 : Cond.selects RX3 yX3_move yX3_move ∈ Wl := wl_of 441 (by decide +kernel) rfl
theorem wl_442 : Cond.code yX3_move cX3_move 3 (some .boolean) ∈ Wl := wl_of 442 (by decide +kernel) rfl
theorem wl_443 : Cond.methodLink RX3 112 yX3_canMove ∈ Wl := wl_of 443 (by decide +kernel) rfl
theorem wl_444 : Cond.methodLink RX3 116 yX3_place ∈ Wl := wl_of 444 (by decide +kernel) rfl
theorem wl_445 : Cond.instanceMethod yX3_place ∈ Wl := wl_of 445 (by decide +kernel) rfl
theorem wl_446 : Cond.selects RX3 yX3_place yX3_place ∈ Wl := wl_of 446 (by decide +kernel) rfl
theorem wl_447 : Cond.code yX3_place cX3_place 3 none ∈ Wl := wl_of 447 (by decide +kernel) rfl
theorem wl_448 : Cond.methodLink RL 61 yX6_hour ∈ Wl := wl_of 448 (by decide +kernel) rfl
theorem wl_449 : Cond.instanceMethod yX6_hour ∈ Wl := wl_of 449 (by decide +kernel) rfl
theorem wl_450 : Cond.selects RX6 yX6_hour yX6_hour ∈ Wl := wl_of 450 (by decide +kernel) rfl
theorem wl_451 : Cond.code yX6_hour cX6_hour 1 (some .int) ∈ Wl := wl_of 451 (by decide +kernel) rfl
theorem wl_452 : Cond.methodLink RX6 161 yX3_passHour ∈ Wl := wl_of 452 (by decide +kernel) rfl
theorem wl_453 : Cond.instanceMethod yX3_passHour ∈ Wl := wl_of 453 (by decide +kernel) rfl
theorem wl_454 : Cond.selects RX3 yX3_passHour yX3_passHour ∈ Wl := wl_of 454 (by decide +kernel) rfl
theorem wl_455 : Cond.code yX3_passHour cX3_passHour 4 (some .int) ∈ Wl := wl_of 455 (by decide +kernel) rfl
theorem wl_456 : Cond.methodLink RX3 122 yX3_rainBits ∈ Wl := wl_of 456 (by decide +kernel) rfl
theorem wl_457 : Cond.methodLink RX3 125 yX3_hailBits ∈ Wl := wl_of 457 (by decide +kernel) rfl
theorem wl_458 : Cond.methodLink RX3 128 yX2_streetOfNeed ∈ Wl := wl_of 458 (by decide +kernel) rfl
theorem wl_459 : Cond.methodLink RX3 131 yX3_fateInHour ∈ Wl := wl_of 459 (by decide +kernel) rfl
theorem wl_461 : Cond.instanceMethod yX3_fateInHour ∈ Wl := wl_of 461 (by decide +kernel) rfl
theorem wl_462 : Cond.code yX3_fateInHour cX3_fateInHour 5 (some .int) ∈ Wl := wl_of 462 (by decide +kernel) rfl
theorem wl_463 : Cond.methodLink RX3 135 yX2_figureOfNeed ∈ Wl := wl_of 463 (by decide +kernel) rfl
theorem wl_464 : Cond.methodLink RX3 138 yX2_sortOfNeed ∈ Wl := wl_of 464 (by decide +kernel) rfl
theorem wl_465 : Cond.methodLink RX3 141 yX3_wetnessOf ∈ Wl := wl_of 465 (by decide +kernel) rfl
theorem wl_466 : Cond.methodLink RL 65 yX6_undo ∈ Wl := wl_of 466 (by decide +kernel) rfl
theorem wl_467 : Cond.instanceMethod yX6_undo ∈ Wl := wl_of 467 (by decide +kernel) rfl
theorem wl_468 : Cond.selects RX6 yX6_undo yX6_undo ∈ Wl := wl_of 468 (by decide +kernel) rfl
theorem wl_469 : Cond.code yX6_undo cX6_undo 1 (some .int) ∈ Wl := wl_of 469 (by decide +kernel) rfl
theorem wl_470 : Cond.methodLink RX6 164 yX1_takeLast ∈ Wl := wl_of 470 (by decide +kernel) rfl
theorem wl_471 : Cond.instanceMethod yX1_takeLast ∈ Wl := wl_of 471 (by decide +kernel) rfl
theorem wl_472 : Cond.selects RX1 yX1_takeLast yX1_takeLast ∈ Wl := wl_of 472 (by decide +kernel) rfl
theorem wl_473 : Cond.code yX1_takeLast cX1_takeLast 3 none ∈ Wl := wl_of 473 (by decide +kernel) rfl
theorem wl_474 : Cond.methodLink RL 69 yX6_wet ∈ Wl := wl_of 474 (by decide +kernel) rfl
theorem wl_475 : Cond.instanceMethod yX6_wet ∈ Wl := wl_of 475 (by decide +kernel) rfl
theorem wl_476 : Cond.selects RX6 yX6_wet yX6_wet ∈ Wl := wl_of 476 (by decide +kernel) rfl
theorem wl_477 : Cond.code yX6_wet cX6_wet 3 (some .int) ∈ Wl := wl_of 477 (by decide +kernel) rfl
theorem wl_478 : Cond.methodLink RX6 167 yX3_copy ∈ Wl := wl_of 478 (by decide +kernel) rfl
theorem wl_479 : Cond.methodLink RX6 170 yX3_passHours ∈ Wl := wl_of 479 (by decide +kernel) rfl
theorem wl_480 : Cond.instanceMethod yX3_passHours ∈ Wl := wl_of 480 (by decide +kernel) rfl
theorem wl_481 : Cond.selects RX3 yX3_passHours yX3_passHours ∈ Wl := wl_of 481 (by decide +kernel) rfl
theorem wl_482 : Cond.code yX3_passHours cX3_passHours 3 none ∈ Wl := wl_of 482 (by decide +kernel) rfl
theorem wl_483 : Cond.methodLink RX3 119 yX3_passHour ∈ Wl := wl_of 483 (by decide +kernel) rfl
theorem wl_484 : Cond.methodLink RL 73 yX6_needs ∈ Wl := wl_of 484 (by decide +kernel) rfl
theorem wl_485 : Cond.instanceMethod yX6_needs ∈ Wl := wl_of 485 (by decide +kernel) rfl
theorem wl_486 : Cond.selects RX6 yX6_needs yX6_needs ∈ Wl := wl_of 486 (by decide +kernel) rfl
theorem wl_487 : Cond.code yX6_needs cX6_needs 3 (some .int) ∈ Wl := wl_of 487 (by decide +kernel) rfl
theorem wl_488 : Cond.methodLink RX6 174 yX6_isChoice ∈ Wl := wl_of 488 (by decide +kernel) rfl
theorem wl_489 : Cond.static yX6_isChoice ∈ Wl := wl_of 489 (by decide +kernel) rfl
theorem wl_490 : Cond.code yX6_isChoice cX6_isChoice 1 (some .boolean) ∈ Wl := wl_of 490 (by decide +kernel) rfl
theorem wl_491 : Cond.methodLink RL 77 yX6_dry ∈ Wl := wl_of 491 (by decide +kernel) rfl
theorem wl_492 : Cond.instanceMethod yX6_dry ∈ Wl := wl_of 492 (by decide +kernel) rfl
theorem wl_493 : Cond.selects RX6 yX6_dry yX6_dry ∈ Wl := wl_of 493 (by decide +kernel) rfl
theorem wl_494 : Cond.code yX6_dry cX6_dry 3 (some .int) ∈ Wl := wl_of 494 (by decide +kernel) rfl
theorem wl_495 : Cond.methodLink RX6 177 yX6_has ∈ Wl := wl_of 495 (by decide +kernel) rfl
theorem wl_496 : Cond.methodLink RL 81 yX6_asked ∈ Wl := wl_of 496 (by decide +kernel) rfl
theorem wl_497 : Cond.instanceMethod yX6_asked ∈ Wl := wl_of 497 (by decide +kernel) rfl
theorem wl_498 : Cond.selects RX6 yX6_asked yX6_asked ∈ Wl := wl_of 498 (by decide +kernel) rfl
theorem wl_499 : Cond.code yX6_asked cX6_asked 7 (some .int) ∈ Wl := wl_of 499 (by decide +kernel) rfl
theorem wl_500 : Cond.methodLink RX6 181 yX6_keptIfOpened ∈ Wl := wl_of 500 (by decide +kernel) rfl
theorem wl_502 : Cond.instanceMethod yX6_keptIfOpened ∈ Wl := wl_of 502 (by decide +kernel) rfl
theorem wl_503 : Cond.code yX6_keptIfOpened cX6_keptIfOpened 2 (some .int) ∈ Wl := wl_of 503 (by decide +kernel) rfl
theorem wl_504 : Cond.methodLink RX6 230 yX3_raiseAll ∈ Wl := wl_of 504 (by decide +kernel) rfl
theorem wl_505 : Cond.instanceMethod yX3_raiseAll ∈ Wl := wl_of 505 (by decide +kernel) rfl
theorem wl_506 : Cond.selects RX3 yX3_raiseAll yX3_raiseAll ∈ Wl := wl_of 506 (by decide +kernel) rfl
theorem wl_507 : Cond.code yX3_raiseAll cX3_raiseAll 3 none ∈ Wl := wl_of 507 (by decide +kernel) rfl
theorem wl_508 : Cond.methodLink RX3 96 yX3_raise ∈ Wl := wl_of 508 (by decide +kernel) rfl
theorem wl_509 : Cond.methodLink RX6 260 yX3_keptCount ∈ Wl := wl_of 509 (by decide +kernel) rfl
theorem wl_510 : Cond.instanceMethod yX3_keptCount ∈ Wl := wl_of 510 (by decide +kernel) rfl
theorem wl_511 : Cond.selects RX3 yX3_keptCount yX3_keptCount ∈ Wl := wl_of 511 (by decide +kernel) rfl
theorem wl_512 : Cond.code yX3_keptCount cX3_keptCount 1 (some .int) ∈ Wl := wl_of 512 (by decide +kernel) rfl
theorem wl_513 : Cond.methodLink RX3 74 yX3_needBits ∈ Wl := wl_of 513 (by decide +kernel) rfl
theorem wl_514 : Cond.methodLink RX3 77 yJ6_bitCount_0f7a4 ∈ Wl := wl_of 514 (by decide +kernel) rfl
theorem wl_515 : Cond.static yJ6_bitCount_0f7a4 ∈ Wl := wl_of 515 (by decide +kernel) rfl
theorem wl_516 : Cond.code yJ6_bitCount_0f7a4 cJ6_bitCount_0f7a4 1 (some .int) ∈ Wl := wl_of 516 (by decide +kernel) rfl
theorem wl_517 : Cond.constant RJ6 265 (1431655765) ∈ Wl := wl_of 517 (by decide +kernel) rfl
theorem wl_518 : Cond.constant RJ6 266 (858993459) ∈ Wl := wl_of 518 (by decide +kernel) rfl
theorem wl_519 : Cond.constant RJ6 267 (252645135) ∈ Wl := wl_of 519 (by decide +kernel) rfl
theorem wl_520 : Cond.methodLink RX6 184 yX3_shutBits ∈ Wl := wl_of 520 (by decide +kernel) rfl
theorem wl_521 : Cond.instanceMethod yX3_shutBits ∈ Wl := wl_of 521 (by decide +kernel) rfl
theorem wl_522 : Cond.selects RX3 yX3_shutBits yX3_shutBits ∈ Wl := wl_of 522 (by decide +kernel) rfl
theorem wl_523 : Cond.code yX3_shutBits cX3_shutBits 1 (some .int) ∈ Wl := wl_of 523 (by decide +kernel) rfl
theorem wl_524 : Cond.methodLink RX3 57 yX2_walkerCount ∈ Wl := wl_of 524 (by decide +kernel) rfl
theorem wl_525 : Cond.methodLink RX6 187 yX6_isWithin ∈ Wl := wl_of 525 (by decide +kernel) rfl
theorem wl_526 : Cond.static yX6_isWithin ∈ Wl := wl_of 526 (by decide +kernel) rfl
theorem wl_527 : Cond.code yX6_isWithin cX6_isWithin 2 (some .boolean) ∈ Wl := wl_of 527 (by decide +kernel) rfl
theorem wl_528 : Cond.methodLink RX6 190 yJ6_bitCount_0f7a4 ∈ Wl := wl_of 528 (by decide +kernel) rfl
theorem wl_529 : Cond.methodLink RL 85 yX6_sent ∈ Wl := wl_of 529 (by decide +kernel) rfl
theorem wl_530 : Cond.instanceMethod yX6_sent ∈ Wl := wl_of 530 (by decide +kernel) rfl
theorem wl_531 : Cond.selects RX6 yX6_sent yX6_sent ∈ Wl := wl_of 531 (by decide +kernel) rfl
theorem wl_532 : Cond.code yX6_sent cX6_sent 7 (some .int) ∈ Wl := wl_of 532 (by decide +kernel) rfl
theorem wl_533 : Cond.methodLink RX6 195 yX6_keptIfSent ∈ Wl := wl_of 533 (by decide +kernel) rfl
theorem wl_535 : Cond.instanceMethod yX6_keptIfSent ∈ Wl := wl_of 535 (by decide +kernel) rfl
theorem wl_536 : Cond.code yX6_keptIfSent cX6_keptIfSent 3 (some .int) ∈ Wl := wl_of 536 (by decide +kernel) rfl
theorem wl_537 : Cond.methodLink RX6 263 yX3_place ∈ Wl := wl_of 537 (by decide +kernel) rfl
theorem wl_538 : Cond.methodLink RL 91 yX6_judge ∈ Wl := wl_of 538 (by decide +kernel) rfl
theorem wl_539 : Cond.instanceMethod yX6_judge ∈ Wl := wl_of 539 (by decide +kernel) rfl
theorem wl_540 : Cond.selects RX6 yX6_judge yX6_judge ∈ Wl := wl_of 540 (by decide +kernel) rfl
theorem wl_541 : Cond.code yX6_judge cX6_judge 6 (some .int) ∈ Wl := wl_of 541 (by decide +kernel) rfl
theorem wl_542 : Cond.methodLink RX6 199 yX6_withoutLast ∈ Wl := wl_of 542 (by decide +kernel) rfl
theorem wl_543 : Cond.static yX6_withoutLast ∈ Wl := wl_of 543 (by decide +kernel) rfl
theorem wl_544 : Cond.code yX6_withoutLast cX6_withoutLast 6 (some .long) ∈ Wl := wl_of 544 (by decide +kernel) rfl
theorem wl_545 : Cond.constantLong RX6 203 (1000) ∈ Wl := wl_of 545 (by decide +kernel) rfl
theorem wl_546 : Cond.methodLink RX6 205 yX6_comesTrue ∈ Wl := wl_of 546 (by decide +kernel) rfl
theorem wl_548 : Cond.instanceMethod yX6_comesTrue ∈ Wl := wl_of 548 (by decide +kernel) rfl
theorem wl_549 : Cond.code yX6_comesTrue cX6_comesTrue 4 (some .boolean) ∈ Wl := wl_of 549 (by decide +kernel) rfl
theorem wl_550 : Cond.methodLink RL 96 yX6_share ∈ Wl := wl_of 550 (by decide +kernel) rfl
theorem wl_551 : Cond.instanceMethod yX6_share ∈ Wl := wl_of 551 (by decide +kernel) rfl
theorem wl_552 : Cond.selects RX6 yX6_share yX6_share ∈ Wl := wl_of 552 (by decide +kernel) rfl
theorem wl_553 : Cond.code yX6_share cX6_share 8 (some .int) ∈ Wl := wl_of 553 (by decide +kernel) rfl
theorem wl_554 : Cond.methodLink RX6 209 yX6_keptIfCome ∈ Wl := wl_of 554 (by decide +kernel) rfl
theorem wl_556 : Cond.instanceMethod yX6_keptIfCome ∈ Wl := wl_of 556 (by decide +kernel) rfl
theorem wl_557 : Cond.code yX6_keptIfCome cX6_keptIfCome 2 (some .int) ∈ Wl := wl_of 557 (by decide +kernel) rfl
theorem wl_558 : Cond.methodLink RX6 267 yX3_forget ∈ Wl := wl_of 558 (by decide +kernel) rfl
theorem wl_559 : Cond.instanceMethod yX3_forget ∈ Wl := wl_of 559 (by decide +kernel) rfl
theorem wl_560 : Cond.selects RX3 yX3_forget yX3_forget ∈ Wl := wl_of 560 (by decide +kernel) rfl
theorem wl_561 : Cond.code yX3_forget cX3_forget 2 none ∈ Wl := wl_of 561 (by decide +kernel) rfl
theorem wl_562 : Cond.methodLink RX6 212 yX6_ordersOf ∈ Wl := wl_of 562 (by decide +kernel) rfl
theorem wl_563 : Cond.static yX6_ordersOf ∈ Wl := wl_of 563 (by decide +kernel) rfl
theorem wl_564 : Cond.code yX6_ordersOf cX6_ordersOf 3 (some .int) ∈ Wl := wl_of 564 (by decide +kernel) rfl
theorem wl_565 : Cond.methodLink RX6 215 yX6_partOf ∈ Wl := wl_of 565 (by decide +kernel) rfl
theorem wl_566 : Cond.static yX6_partOf ∈ Wl := wl_of 566 (by decide +kernel) rfl
theorem wl_567 : Cond.code yX6_partOf cX6_partOf 4 (some .int) ∈ Wl := wl_of 567 (by decide +kernel) rfl
theorem wl_568 : Cond.methodLink RX6 274 Lib.Math.abs.name ∈ Wl := wl_of 568 (by decide +kernel) rfl
theorem wl_569 : Cond.static Lib.Math.abs.name ∈ Wl := wl_of 569 (by decide +kernel) rfl
theorem wl_570 : Cond.code Lib.Math.abs.name Lib.Math.abs.code 1 (some .int) ∈ Wl := wl_of 570 (by decide +kernel) rfl
theorem wl_571 : Cond.methodLink RX6 279 yX6_commonDivisor ∈ Wl := wl_of 571 (by decide +kernel) rfl
theorem wl_572 : Cond.static yX6_commonDivisor ∈ Wl := wl_of 572 (by decide +kernel) rfl
theorem wl_573 : Cond.code yX6_commonDivisor cX6_commonDivisor 6 (some .int) ∈ Wl := wl_of 573 (by decide +kernel) rfl
theorem wl_574 : Cond.methodLink RL 100 yX6_feel ∈ Wl := wl_of 574 (by decide +kernel) rfl
theorem wl_575 : Cond.instanceMethod yX6_feel ∈ Wl := wl_of 575 (by decide +kernel) rfl
theorem wl_576 : Cond.selects RX6 yX6_feel yX6_feel ∈ Wl := wl_of 576 (by decide +kernel) rfl
theorem wl_577 : Cond.code yX6_feel cX6_feel 4 (some .int) ∈ Wl := wl_of 577 (by decide +kernel) rfl
theorem wl_578 : Cond.methodLink RX6 219 yX0_add ∈ Wl := wl_of 578 (by decide +kernel) rfl
theorem wl_579 : Cond.instanceMethod yX0_add ∈ Wl := wl_of 579 (by decide +kernel) rfl
theorem wl_580 : Cond.selects RX0 yX0_add yX0_add ∈ Wl := wl_of 580 (by decide +kernel) rfl
theorem wl_581 : Cond.code yX0_add cX0_add 4 (some .boolean) ∈ Wl := wl_of 581 (by decide +kernel) rfl
theorem wl_583 : Cond.methodLink RL 105 yX6_unfeel ∈ Wl := wl_of 583 (by decide +kernel) rfl
theorem wl_584 : Cond.instanceMethod yX6_unfeel ∈ Wl := wl_of 584 (by decide +kernel) rfl
theorem wl_585 : Cond.selects RX6 yX6_unfeel yX6_unfeel ∈ Wl := wl_of 585 (by decide +kernel) rfl
theorem wl_586 : Cond.code yX6_unfeel cX6_unfeel 2 (some .int) ∈ Wl := wl_of 586 (by decide +kernel) rfl
theorem wl_587 : Cond.methodLink RX6 222 yX0_clear ∈ Wl := wl_of 587 (by decide +kernel) rfl
theorem wl_588 : Cond.instanceMethod yX0_clear ∈ Wl := wl_of 588 (by decide +kernel) rfl
theorem wl_589 : Cond.selects RX0 yX0_clear yX0_clear ∈ Wl := wl_of 589 (by decide +kernel) rfl
theorem wl_590 : Cond.code yX0_clear cX0_clear 1 none ∈ Wl := wl_of 590 (by decide +kernel) rfl
theorem wl_591 : Cond.methodLink RL 109 yX6_may ∈ Wl := wl_of 591 (by decide +kernel) rfl
theorem wl_592 : Cond.instanceMethod yX6_may ∈ Wl := wl_of 592 (by decide +kernel) rfl
theorem wl_593 : Cond.selects RX6 yX6_may yX6_may ∈ Wl := wl_of 593 (by decide +kernel) rfl
theorem wl_594 : Cond.code yX6_may cX6_may 7 (some .int) ∈ Wl := wl_of 594 (by decide +kernel) rfl
theorem wl_595 : Cond.methodLink RX6 223 yX0_isSo ∈ Wl := wl_of 595 (by decide +kernel) rfl
theorem wl_596 : Cond.instanceMethod yX0_isSo ∈ Wl := wl_of 596 (by decide +kernel) rfl
theorem wl_597 : Cond.selects RX0 yX0_isSo yX0_isSo ∈ Wl := wl_of 597 (by decide +kernel) rfl
theorem wl_598 : Cond.code yX0_isSo cX0_isSo 5 (some .boolean) ∈ Wl := wl_of 598 (by decide +kernel) rfl
theorem wl_600 : Cond.methodLink RX0 33 yX0_isWetAt ∈ Wl := wl_of 600 (by decide +kernel) rfl
theorem wl_601 : Cond.static yX0_isWetAt ∈ Wl := wl_of 601 (by decide +kernel) rfl
theorem wl_602 : Cond.code yX0_isWetAt cX0_isWetAt 7 (some .boolean) ∈ Wl := wl_of 602 (by decide +kernel) rfl
theorem wl_603 : Cond.methodLink RX0 41 Lib.Math.max.name ∈ Wl := wl_of 603 (by decide +kernel) rfl
theorem wl_604 : Cond.methodLink RX0 47 Lib.Math.abs.name ∈ Wl := wl_of 604 (by decide +kernel) rfl
theorem wl_606 : Cond.methodLink RL 113 yX6_rests ∈ Wl := wl_of 606 (by decide +kernel) rfl
theorem wl_607 : Cond.instanceMethod yX6_rests ∈ Wl := wl_of 607 (by decide +kernel) rfl
theorem wl_608 : Cond.selects RX6 yX6_rests yX6_rests ∈ Wl := wl_of 608 (by decide +kernel) rfl
theorem wl_609 : Cond.code yX6_rests cX6_rests 9 (some .int) ∈ Wl := wl_of 609 (by decide +kernel) rfl
theorem wl_610 : Cond.methodLink RX6 226 yX6_isContent ∈ Wl := wl_of 610 (by decide +kernel) rfl
theorem wl_612 : Cond.instanceMethod yX6_isContent ∈ Wl := wl_of 612 (by decide +kernel) rfl
theorem wl_613 : Cond.code yX6_isContent cX6_isContent 5 (some .boolean) ∈ Wl := wl_of 613 (by decide +kernel) rfl
theorem wl_614 : Cond.methodLink RX6 270 yX6_gain ∈ Wl := wl_of 614 (by decide +kernel) rfl
theorem wl_616 : Cond.instanceMethod yX6_gain ∈ Wl := wl_of 616 (by decide +kernel) rfl
theorem wl_617 : Cond.code yX6_gain cX6_gain 8 (some .int) ∈ Wl := wl_of 617 (by decide +kernel) rfl
theorem wl_618 : Cond.methodLink RL 117 yX6_sudden ∈ Wl := wl_of 618 (by decide +kernel) rfl
theorem wl_619 : Cond.instanceMethod yX6_sudden ∈ Wl := wl_of 619 (by decide +kernel) rfl
theorem wl_620 : Cond.selects RX6 yX6_sudden yX6_sudden ∈ Wl := wl_of 620 (by decide +kernel) rfl
theorem wl_621 : Cond.code yX6_sudden cX6_sudden 10 (some .int) ∈ Wl := wl_of 621 (by decide +kernel) rfl
theorem wl_622 : Cond.methodLink RX6 233 yX6_power ∈ Wl := wl_of 622 (by decide +kernel) rfl
theorem wl_623 : Cond.static yX6_power ∈ Wl := wl_of 623 (by decide +kernel) rfl
theorem wl_624 : Cond.code yX6_power cX6_power 4 (some .int) ∈ Wl := wl_of 624 (by decide +kernel) rfl
theorem wl_625 : Cond.methodLink RL 122 yX6_seed ∈ Wl := wl_of 625 (by decide +kernel) rfl
theorem wl_626 : Cond.instanceMethod yX6_seed ∈ Wl := wl_of 626 (by decide +kernel) rfl
theorem wl_627 : Cond.selects RX6 yX6_seed yX6_seed ∈ Wl := wl_of 627 (by decide +kernel) rfl
theorem wl_628 : Cond.code yX6_seed cX6_seed 5 (some .long) ∈ Wl := wl_of 628 (by decide +kernel) rfl
theorem wl_629 : Cond.methodLink RL 127 yX6_weeks ∈ Wl := wl_of 629 (by decide +kernel) rfl
theorem wl_630 : Cond.instanceMethod yX6_weeks ∈ Wl := wl_of 630 (by decide +kernel) rfl
theorem wl_631 : Cond.selects RX6 yX6_weeks yX6_weeks ∈ Wl := wl_of 631 (by decide +kernel) rfl
theorem wl_632 : Cond.code yX6_weeks cX6_weeks 4 (some .int) ∈ Wl := wl_of 632 (by decide +kernel) rfl
theorem wl_633 : Cond.constantLong RX6 240 (6364136223846793005) ∈ Wl := wl_of 633 (by decide +kernel) rfl
theorem wl_634 : Cond.constantLong RX6 242 (1442695040888963407) ∈ Wl := wl_of 634 (by decide +kernel) rfl
theorem wl_635 : Cond.constantLong RX6 244 (24) ∈ Wl := wl_of 635 (by decide +kernel) rfl
theorem wl_636 : Cond.methodLink RX6 246 yX6_doByChance ∈ Wl := wl_of 636 (by decide +kernel) rfl
theorem wl_638 : Cond.instanceMethod yX6_doByChance ∈ Wl := wl_of 638 (by decide +kernel) rfl
theorem wl_639 : Cond.code yX6_doByChance cX6_doByChance 2 none ∈ Wl := wl_of 639 (by decide +kernel) rfl
theorem wl_640 : Cond.methodLink RL 131 yX6_keep ∈ Wl := wl_of 640 (by decide +kernel) rfl
theorem wl_641 : Cond.instanceMethod yX6_keep ∈ Wl := wl_of 641 (by decide +kernel) rfl
theorem wl_642 : Cond.selects RX6 yX6_keep yX6_keep ∈ Wl := wl_of 642 (by decide +kernel) rfl
theorem wl_643 : Cond.code yX6_keep cX6_keep 2 (some .int) ∈ Wl := wl_of 643 (by decide +kernel) rfl
theorem wl_644 : Cond.methodLink RX6 249 yX6_isSlot ∈ Wl := wl_of 644 (by decide +kernel) rfl
theorem wl_645 : Cond.static yX6_isSlot ∈ Wl := wl_of 645 (by decide +kernel) rfl
theorem wl_646 : Cond.code yX6_isSlot cX6_isSlot 1 (some .boolean) ∈ Wl := wl_of 646 (by decide +kernel) rfl
theorem wl_647 : Cond.methodLink RX6 252 yX5_store ∈ Wl := wl_of 647 (by decide +kernel) rfl
theorem wl_648 : Cond.instanceMethod yX5_store ∈ Wl := wl_of 648 (by decide +kernel) rfl
theorem wl_649 : Cond.selects RX5 yX5_store yX5_store ∈ Wl := wl_of 649 (by decide +kernel) rfl
theorem wl_650 : Cond.code yX5_store cX5_store 4 none ∈ Wl := wl_of 650 (by decide +kernel) rfl
theorem wl_652 : Cond.methodLink RX5 27 yX3_copy ∈ Wl := wl_of 652 (by decide +kernel) rfl
theorem wl_653 : Cond.methodLink RL 135 yX6_again ∈ Wl := wl_of 653 (by decide +kernel) rfl
theorem wl_654 : Cond.instanceMethod yX6_again ∈ Wl := wl_of 654 (by decide +kernel) rfl
theorem wl_655 : Cond.selects RX6 yX6_again yX6_again ∈ Wl := wl_of 655 (by decide +kernel) rfl
theorem wl_656 : Cond.code yX6_again cX6_again 2 (some .int) ∈ Wl := wl_of 656 (by decide +kernel) rfl
theorem wl_657 : Cond.methodLink RX6 256 yX5_fetch ∈ Wl := wl_of 657 (by decide +kernel) rfl
theorem wl_658 : Cond.instanceMethod yX5_fetch ∈ Wl := wl_of 658 (by decide +kernel) rfl
theorem wl_659 : Cond.selects RX5 yX5_fetch yX5_fetch ∈ Wl := wl_of 659 (by decide +kernel) rfl
theorem wl_660 : Cond.code yX5_fetch cX5_fetch 4 (some .boolean) ∈ Wl := wl_of 660 (by decide +kernel) rfl
theorem wl_662 : Cond.classLink RL 10 RX7 ∈ Wl := wl_of 662 (by decide +kernel) rfl
theorem wl_663 : Cond.instantiable RX7 31 ∈ Wl := wl_of 663 (by decide +kernel) rfl
theorem wl_664 : Cond.methodLink RL 12 yX7_init ∈ Wl := wl_of 664 (by decide +kernel) rfl
theorem wl_665 : Cond.instanceMethod yX7_init ∈ Wl := wl_of 665 (by decide +kernel) rfl
theorem wl_666 : Cond.code yX7_init cX7_init 1 none ∈ Wl := wl_of 666 (by decide +kernel) rfl
theorem wl_667 : Cond.methodLink RX7 1 objectInit ∈ Wl := wl_of 667 (by decide +kernel) rfl
theorem wl_668 : Cond.fieldLink RX7 56 RX7 "thrown" "I" ∈ Wl := wl_of 668 (by decide +kernel) rfl
theorem wl_669 : Cond.fieldLink RX7 7 RX7 "text" "[I" ∈ Wl := wl_of 669 (by decide +kernel) rfl
theorem wl_670 : Cond.fieldLink RX7 71 RX7 "textSize" "I" ∈ Wl := wl_of 670 (by decide +kernel) rfl
theorem wl_671 : Cond.fieldLink RX7 74 RX7 "place" "I" ∈ Wl := wl_of 671 (by decide +kernel) rfl
theorem wl_672 : Cond.fieldLink RX7 60 RX7 "walkers" "I" ∈ Wl := wl_of 672 (by decide +kernel) rfl
theorem wl_673 : Cond.fieldLink RX7 13 RX7 "stuff" "[I" ∈ Wl := wl_of 673 (by decide +kernel) rfl
theorem wl_674 : Cond.fieldLink RX7 101 RX7 "needs" "I" ∈ Wl := wl_of 674 (by decide +kernel) rfl
theorem wl_675 : Cond.fieldLink RX7 16 RX7 "need" "[I" ∈ Wl := wl_of 675 (by decide +kernel) rfl
theorem wl_676 : Cond.fieldLink RX7 81 RX7 "readWalkers" "I" ∈ Wl := wl_of 676 (by decide +kernel) rfl
theorem wl_677 : Cond.fieldLink RX7 19 RX7 "readWalker" "[I" ∈ Wl := wl_of 677 (by decide +kernel) rfl
theorem wl_678 : Cond.fieldLink RX7 84 RX7 "readNeeds" "I" ∈ Wl := wl_of 678 (by decide +kernel) rfl
theorem wl_679 : Cond.fieldLink RX7 22 RX7 "readNeed" "[I" ∈ Wl := wl_of 679 (by decide +kernel) rfl
theorem wl_680 : Cond.fieldLink RX7 25 RX7 "page" "[I" ∈ Wl := wl_of 680 (by decide +kernel) rfl
theorem wl_681 : Cond.fieldLink RX7 28 RX7 "trial" "[I" ∈ Wl := wl_of 681 (by decide +kernel) rfl
theorem wl_682 : Cond.fieldLink RX7 31 RX7 "book" "[I" ∈ Wl := wl_of 682 (by decide +kernel) rfl
theorem wl_683 : Cond.fieldLink RX7 104 RX7 "acts" "I" ∈ Wl := wl_of 683 (by decide +kernel) rfl
theorem wl_684 : Cond.fieldLink RX7 34 RX7 "kept" "[I" ∈ Wl := wl_of 684 (by decide +kernel) rfl
theorem wl_685 : Cond.fieldLink RX7 37 RX7 "isKept" "[Z" ∈ Wl := wl_of 685 (by decide +kernel) rfl
theorem wl_686 : Cond.fieldLink RX7 135 RX7 "felt" "I" ∈ Wl := wl_of 686 (by decide +kernel) rfl
theorem wl_687 : Cond.fieldLink RX7 41 RX7 "feltStreet" "[I" ∈ Wl := wl_of 687 (by decide +kernel) rfl
theorem wl_688 : Cond.fieldLink RX7 44 RX7 "feltHour" "[I" ∈ Wl := wl_of 688 (by decide +kernel) rfl
theorem wl_689 : Cond.fieldLink RX7 47 RX7 "feltRain" "[I" ∈ Wl := wl_of 689 (by decide +kernel) rfl
theorem wl_690 : Cond.fieldLink RX7 239 RX7 "seed" "J" ∈ Wl := wl_of 690 (by decide +kernel) rfl
theorem wl_691 : Cond.fieldLink RX7 174 RX7 "bestWhich" "I" ∈ Wl := wl_of 691 (by decide +kernel) rfl
theorem wl_692 : Cond.fieldLink RX7 177 RX7 "bestMany" "I" ∈ Wl := wl_of 692 (by decide +kernel) rfl
theorem wl_693 : Cond.fieldLink RX7 211 RX7 "mayMany" "I" ∈ Wl := wl_of 693 (by decide +kernel) rfl
theorem wl_694 : Cond.fieldLink RX7 214 RX7 "mayFirst" "I" ∈ Wl := wl_of 694 (by decide +kernel) rfl
theorem wl_695 : Cond.fieldLink RX7 228 RX7 "restMany" "I" ∈ Wl := wl_of 695 (by decide +kernel) rfl
theorem wl_696 : Cond.fieldLink RX7 231 RX7 "restFirst" "I" ∈ Wl := wl_of 696 (by decide +kernel) rfl
theorem wl_697 : Cond.fieldLink RX7 50 RX7 "gains" "[I" ∈ Wl := wl_of 697 (by decide +kernel) rfl
theorem wl_698 : Cond.fieldLink RX7 53 RX7 "value" "[I" ∈ Wl := wl_of 698 (by decide +kernel) rfl
theorem wl_762 : Cond.arrayClass .boolean ∈ Wl := wl_of 762 (by decide +kernel) rfl
theorem wl_763 : Cond.methodLink RL 17 yX7_write ∈ Wl := wl_of 763 (by decide +kernel) rfl
theorem wl_764 : Cond.instanceMethod yX7_write ∈ Wl := wl_of 764 (by decide +kernel) rfl
theorem wl_765 : Cond.selects RX7 yX7_write yX7_write ∈ Wl := wl_of 765 (by decide +kernel) rfl
theorem wl_766 : Cond.code yX7_write cX7_write 2 (some .int) ∈ Wl := wl_of 766 (by decide +kernel) rfl
theorem wl_767 : Cond.constantLong RX7 69 (255) ∈ Wl := wl_of 767 (by decide +kernel) rfl
theorem wl_768 : Cond.methodLink RX7 63 yX7_in ∈ Wl := wl_of 768 (by decide +kernel) rfl
theorem wl_769 : Cond.static yX7_in ∈ Wl := wl_of 769 (by decide +kernel) rfl
theorem wl_770 : Cond.code yX7_in cX7_in 6 (some .boolean) ∈ Wl := wl_of 770 (by decide +kernel) rfl
theorem wl_771 : Cond.methodLink RL 22 yX7_wipe ∈ Wl := wl_of 771 (by decide +kernel) rfl
theorem wl_772 : Cond.instanceMethod yX7_wipe ∈ Wl := wl_of 772 (by decide +kernel) rfl
theorem wl_773 : Cond.selects RX7 yX7_wipe yX7_wipe ∈ Wl := wl_of 773 (by decide +kernel) rfl
theorem wl_774 : Cond.code yX7_wipe cX7_wipe 2 (some .int) ∈ Wl := wl_of 774 (by decide +kernel) rfl
theorem wl_775 : Cond.methodLink RL 26 yX7_fault ∈ Wl := wl_of 775 (by decide +kernel) rfl
theorem wl_776 : Cond.instanceMethod yX7_fault ∈ Wl := wl_of 776 (by decide +kernel) rfl
theorem wl_777 : Cond.selects RX7 yX7_fault yX7_fault ∈ Wl := wl_of 777 (by decide +kernel) rfl
theorem wl_778 : Cond.code yX7_fault cX7_fault 1 (some .int) ∈ Wl := wl_of 778 (by decide +kernel) rfl
theorem wl_779 : Cond.methodLink RX7 97 yX7_readTown ∈ Wl := wl_of 779 (by decide +kernel) rfl
theorem wl_781 : Cond.instanceMethod yX7_readTown ∈ Wl := wl_of 781 (by decide +kernel) rfl
theorem wl_782 : Cond.code yX7_readTown cX7_readTown 1 (some .int) ∈ Wl := wl_of 782 (by decide +kernel) rfl
theorem wl_783 : Cond.methodLink RX7 94 yX7_readThing ∈ Wl := wl_of 783 (by decide +kernel) rfl
theorem wl_785 : Cond.instanceMethod yX7_readThing ∈ Wl := wl_of 785 (by decide +kernel) rfl
theorem wl_786 : Cond.code yX7_readThing cX7_readThing 2 (some .boolean) ∈ Wl := wl_of 786 (by decide +kernel) rfl
theorem wl_787 : Cond.methodLink RX7 87 yX7_readOneWalker ∈ Wl := wl_of 787 (by decide +kernel) rfl
theorem wl_789 : Cond.instanceMethod yX7_readOneWalker ∈ Wl := wl_of 789 (by decide +kernel) rfl
theorem wl_790 : Cond.code yX7_readOneWalker cX7_readOneWalker 3 (some .boolean) ∈ Wl := wl_of 790 (by decide +kernel) rfl
theorem wl_791 : Cond.methodLink RX7 77 yX7_figure ∈ Wl := wl_of 791 (by decide +kernel) rfl
theorem wl_793 : Cond.instanceMethod yX7_figure ∈ Wl := wl_of 793 (by decide +kernel) rfl
theorem wl_794 : Cond.code yX7_figure cX7_figure 3 (some .int) ∈ Wl := wl_of 794 (by decide +kernel) rfl
theorem wl_795 : Cond.methodLink RX7 91 yX7_readOneNeed ∈ Wl := wl_of 795 (by decide +kernel) rfl
theorem wl_797 : Cond.instanceMethod yX7_readOneNeed ∈ Wl := wl_of 797 (by decide +kernel) rfl
theorem wl_798 : Cond.code yX7_readOneNeed cX7_readOneNeed 4 (some .boolean) ∈ Wl := wl_of 798 (by decide +kernel) rfl
theorem wl_799 : Cond.methodLink RL 30 yX7_town ∈ Wl := wl_of 799 (by decide +kernel) rfl
theorem wl_800 : Cond.instanceMethod yX7_town ∈ Wl := wl_of 800 (by decide +kernel) rfl
theorem wl_801 : Cond.selects RX7 yX7_town yX7_town ∈ Wl := wl_of 801 (by decide +kernel) rfl
theorem wl_802 : Cond.code yX7_town cX7_town 2 (some .int) ∈ Wl := wl_of 802 (by decide +kernel) rfl
theorem wl_803 : Cond.methodLink RL 34 yX7_about ∈ Wl := wl_of 803 (by decide +kernel) rfl
theorem wl_804 : Cond.instanceMethod yX7_about ∈ Wl := wl_of 804 (by decide +kernel) rfl
theorem wl_805 : Cond.selects RX7 yX7_about yX7_about ∈ Wl := wl_of 805 (by decide +kernel) rfl
theorem wl_806 : Cond.code yX7_about cX7_about 2 (some .int) ∈ Wl := wl_of 806 (by decide +kernel) rfl
theorem wl_807 : Cond.methodLink RX7 118 yX7_rainOf ∈ Wl := wl_of 807 (by decide +kernel) rfl
theorem wl_809 : Cond.instanceMethod yX7_rainOf ∈ Wl := wl_of 809 (by decide +kernel) rfl
theorem wl_810 : Cond.code yX7_rainOf cX7_rainOf 5 (some .int) ∈ Wl := wl_of 810 (by decide +kernel) rfl
theorem wl_811 : Cond.methodLink RX7 107 yX7_has ∈ Wl := wl_of 811 (by decide +kernel) rfl
theorem wl_812 : Cond.static yX7_has ∈ Wl := wl_of 812 (by decide +kernel) rfl
theorem wl_813 : Cond.code yX7_has cX7_has 2 (some .boolean) ∈ Wl := wl_of 813 (by decide +kernel) rfl
theorem wl_814 : Cond.methodLink RX7 122 yX7_hailOf ∈ Wl := wl_of 814 (by decide +kernel) rfl
theorem wl_816 : Cond.instanceMethod yX7_hailOf ∈ Wl := wl_of 816 (by decide +kernel) rfl
theorem wl_817 : Cond.code yX7_hailOf cX7_hailOf 4 (some .int) ∈ Wl := wl_of 817 (by decide +kernel) rfl
theorem wl_818 : Cond.methodLink RX7 111 yX7_openIn ∈ Wl := wl_of 818 (by decide +kernel) rfl
theorem wl_820 : Cond.instanceMethod yX7_openIn ∈ Wl := wl_of 820 (by decide +kernel) rfl
theorem wl_821 : Cond.code yX7_openIn cX7_openIn 5 (some .int) ∈ Wl := wl_of 821 (by decide +kernel) rfl
theorem wl_822 : Cond.methodLink RX7 132 yX7_needsThat ∈ Wl := wl_of 822 (by decide +kernel) rfl
theorem wl_824 : Cond.instanceMethod yX7_needsThat ∈ Wl := wl_of 824 (by decide +kernel) rfl
theorem wl_825 : Cond.code yX7_needsThat cX7_needsThat 5 (some .int) ∈ Wl := wl_of 825 (by decide +kernel) rfl
theorem wl_826 : Cond.methodLink RL 39 yX7_walker ∈ Wl := wl_of 826 (by decide +kernel) rfl
theorem wl_827 : Cond.instanceMethod yX7_walker ∈ Wl := wl_of 827 (by decide +kernel) rfl
theorem wl_828 : Cond.selects RX7 yX7_walker yX7_walker ∈ Wl := wl_of 828 (by decide +kernel) rfl
theorem wl_829 : Cond.code yX7_walker cX7_walker 3 (some .int) ∈ Wl := wl_of 829 (by decide +kernel) rfl
theorem wl_830 : Cond.methodLink RX7 138 yX7_noWalker ∈ Wl := wl_of 830 (by decide +kernel) rfl
theorem wl_832 : Cond.instanceMethod yX7_noWalker ∈ Wl := wl_of 832 (by decide +kernel) rfl
theorem wl_833 : Cond.code yX7_noWalker cX7_noWalker 2 (some .boolean) ∈ Wl := wl_of 833 (by decide +kernel) rfl
theorem wl_834 : Cond.methodLink RL 43 yX7_need ∈ Wl := wl_of 834 (by decide +kernel) rfl
theorem wl_835 : Cond.instanceMethod yX7_need ∈ Wl := wl_of 835 (by decide +kernel) rfl
theorem wl_836 : Cond.selects RX7 yX7_need yX7_need ∈ Wl := wl_of 836 (by decide +kernel) rfl
theorem wl_837 : Cond.code yX7_need cX7_need 3 (some .int) ∈ Wl := wl_of 837 (by decide +kernel) rfl
theorem wl_838 : Cond.constantLong RX7 142 (2) ∈ Wl := wl_of 838 (by decide +kernel) rfl
theorem wl_839 : Cond.methodLink RL 47 yX7_street ∈ Wl := wl_of 839 (by decide +kernel) rfl
theorem wl_840 : Cond.instanceMethod yX7_street ∈ Wl := wl_of 840 (by decide +kernel) rfl
theorem wl_841 : Cond.selects RX7 yX7_street yX7_street ∈ Wl := wl_of 841 (by decide +kernel) rfl
theorem wl_842 : Cond.code yX7_street cX7_street 3 (some .int) ∈ Wl := wl_of 842 (by decide +kernel) rfl
theorem wl_843 : Cond.methodLink RX7 144 yX7_noStreet ∈ Wl := wl_of 843 (by decide +kernel) rfl
theorem wl_844 : Cond.static yX7_noStreet ∈ Wl := wl_of 844 (by decide +kernel) rfl
theorem wl_845 : Cond.code yX7_noStreet cX7_noStreet 1 (some .boolean) ∈ Wl := wl_of 845 (by decide +kernel) rfl
theorem wl_846 : Cond.constantLong RX7 67 (5) ∈ Wl := wl_of 846 (by decide +kernel) rfl
theorem wl_847 : Cond.methodLink RL 51 yX7_open ∈ Wl := wl_of 847 (by decide +kernel) rfl
theorem wl_848 : Cond.instanceMethod yX7_open ∈ Wl := wl_of 848 (by decide +kernel) rfl
theorem wl_849 : Cond.selects RX7 yX7_open yX7_open ∈ Wl := wl_of 849 (by decide +kernel) rfl
theorem wl_850 : Cond.code yX7_open cX7_open 2 (some .int) ∈ Wl := wl_of 850 (by decide +kernel) rfl
theorem wl_851 : Cond.methodLink RX7 147 yX7_note ∈ Wl := wl_of 851 (by decide +kernel) rfl
theorem wl_853 : Cond.instanceMethod yX7_note ∈ Wl := wl_of 853 (by decide +kernel) rfl
theorem wl_854 : Cond.code yX7_note cX7_note 2 none ∈ Wl := wl_of 854 (by decide +kernel) rfl
theorem wl_855 : Cond.methodLink RX7 150 yX7_goOpen ∈ Wl := wl_of 855 (by decide +kernel) rfl
theorem wl_857 : Cond.instanceMethod yX7_goOpen ∈ Wl := wl_of 857 (by decide +kernel) rfl
theorem wl_858 : Cond.code yX7_goOpen cX7_goOpen 4 none ∈ Wl := wl_of 858 (by decide +kernel) rfl
theorem wl_859 : Cond.methodLink RX7 115 yX7_greater ∈ Wl := wl_of 859 (by decide +kernel) rfl
theorem wl_860 : Cond.static yX7_greater ∈ Wl := wl_of 860 (by decide +kernel) rfl
theorem wl_861 : Cond.code yX7_greater cX7_greater 2 (some .int) ∈ Wl := wl_of 861 (by decide +kernel) rfl
theorem wl_862 : Cond.methodLink RL 55 yX7_shut ∈ Wl := wl_of 862 (by decide +kernel) rfl
theorem wl_863 : Cond.instanceMethod yX7_shut ∈ Wl := wl_of 863 (by decide +kernel) rfl
theorem wl_864 : Cond.selects RX7 yX7_shut yX7_shut ∈ Wl := wl_of 864 (by decide +kernel) rfl
theorem wl_865 : Cond.code yX7_shut cX7_shut 2 (some .int) ∈ Wl := wl_of 865 (by decide +kernel) rfl
theorem wl_866 : Cond.methodLink RX7 154 yX7_goShut ∈ Wl := wl_of 866 (by decide +kernel) rfl
theorem wl_868 : Cond.instanceMethod yX7_goShut ∈ Wl := wl_of 868 (by decide +kernel) rfl
theorem wl_869 : Cond.code yX7_goShut cX7_goShut 4 none ∈ Wl := wl_of 869 (by decide +kernel) rfl
theorem wl_870 : Cond.methodLink RL 60 yX7_walk ∈ Wl := wl_of 870 (by decide +kernel) rfl
theorem wl_871 : Cond.instanceMethod yX7_walk ∈ Wl := wl_of 871 (by decide +kernel) rfl
theorem wl_872 : Cond.selects RX7 yX7_walk yX7_walk ∈ Wl := wl_of 872 (by decide +kernel) rfl
theorem wl_873 : Cond.code yX7_walk cX7_walk 4 (some .int) ∈ Wl := wl_of 873 (by decide +kernel) rfl
theorem wl_874 : Cond.methodLink RX7 157 yX7_canWalk ∈ Wl := wl_of 874 (by decide +kernel) rfl
theorem wl_875 : Cond.static yX7_canWalk ∈ Wl := wl_of 875 (by decide +kernel) rfl
theorem wl_876 : Cond.code yX7_canWalk cX7_canWalk 3 (some .boolean) ∈ Wl := wl_of 876 (by decide +kernel) rfl
theorem wl_877 : Cond.methodLink RL 64 yX7_hour ∈ Wl := wl_of 877 (by decide +kernel) rfl
theorem wl_878 : Cond.instanceMethod yX7_hour ∈ Wl := wl_of 878 (by decide +kernel) rfl
theorem wl_879 : Cond.selects RX7 yX7_hour yX7_hour ∈ Wl := wl_of 879 (by decide +kernel) rfl
theorem wl_880 : Cond.code yX7_hour cX7_hour 1 (some .int) ∈ Wl := wl_of 880 (by decide +kernel) rfl
theorem wl_881 : Cond.methodLink RX7 129 yX7_goHour ∈ Wl := wl_of 881 (by decide +kernel) rfl
theorem wl_883 : Cond.instanceMethod yX7_goHour ∈ Wl := wl_of 883 (by decide +kernel) rfl
theorem wl_884 : Cond.code yX7_goHour cX7_goHour 5 (some .int) ∈ Wl := wl_of 884 (by decide +kernel) rfl
theorem wl_885 : Cond.methodLink RX7 125 yX7_stateThen ∈ Wl := wl_of 885 (by decide +kernel) rfl
theorem wl_887 : Cond.instanceMethod yX7_stateThen ∈ Wl := wl_of 887 (by decide +kernel) rfl
theorem wl_888 : Cond.code yX7_stateThen cX7_stateThen 7 (some .int) ∈ Wl := wl_of 888 (by decide +kernel) rfl
theorem wl_889 : Cond.methodLink RL 68 yX7_undo ∈ Wl := wl_of 889 (by decide +kernel) rfl
theorem wl_890 : Cond.instanceMethod yX7_undo ∈ Wl := wl_of 890 (by decide +kernel) rfl
theorem wl_891 : Cond.selects RX7 yX7_undo yX7_undo ∈ Wl := wl_of 891 (by decide +kernel) rfl
theorem wl_892 : Cond.code yX7_undo cX7_undo 2 (some .int) ∈ Wl := wl_of 892 (by decide +kernel) rfl
theorem wl_893 : Cond.methodLink RL 72 yX7_wet ∈ Wl := wl_of 893 (by decide +kernel) rfl
theorem wl_894 : Cond.instanceMethod yX7_wet ∈ Wl := wl_of 894 (by decide +kernel) rfl
theorem wl_895 : Cond.selects RX7 yX7_wet yX7_wet ∈ Wl := wl_of 895 (by decide +kernel) rfl
theorem wl_896 : Cond.code yX7_wet cX7_wet 3 (some .int) ∈ Wl := wl_of 896 (by decide +kernel) rfl
theorem wl_897 : Cond.constantLong RX7 161 (20) ∈ Wl := wl_of 897 (by decide +kernel) rfl
theorem wl_898 : Cond.methodLink RX7 163 yX7_begin ∈ Wl := wl_of 898 (by decide +kernel) rfl
theorem wl_900 : Cond.instanceMethod yX7_begin ∈ Wl := wl_of 900 (by decide +kernel) rfl
theorem wl_901 : Cond.code yX7_begin cX7_begin 2 none ∈ Wl := wl_of 901 (by decide +kernel) rfl
theorem wl_902 : Cond.methodLink RX7 166 yX7_goHours ∈ Wl := wl_of 902 (by decide +kernel) rfl
theorem wl_904 : Cond.instanceMethod yX7_goHours ∈ Wl := wl_of 904 (by decide +kernel) rfl
theorem wl_905 : Cond.code yX7_goHours cX7_goHours 3 none ∈ Wl := wl_of 905 (by decide +kernel) rfl
theorem wl_906 : Cond.methodLink RL 76 yX7_needs ∈ Wl := wl_of 906 (by decide +kernel) rfl
theorem wl_907 : Cond.instanceMethod yX7_needs ∈ Wl := wl_of 907 (by decide +kernel) rfl
theorem wl_908 : Cond.selects RX7 yX7_needs yX7_needs ∈ Wl := wl_of 908 (by decide +kernel) rfl
theorem wl_909 : Cond.code yX7_needs cX7_needs 3 (some .int) ∈ Wl := wl_of 909 (by decide +kernel) rfl
theorem wl_910 : Cond.methodLink RL 80 yX7_dry ∈ Wl := wl_of 910 (by decide +kernel) rfl
theorem wl_911 : Cond.instanceMethod yX7_dry ∈ Wl := wl_of 911 (by decide +kernel) rfl
theorem wl_912 : Cond.selects RX7 yX7_dry yX7_dry ∈ Wl := wl_of 912 (by decide +kernel) rfl
theorem wl_913 : Cond.code yX7_dry cX7_dry 3 (some .int) ∈ Wl := wl_of 913 (by decide +kernel) rfl
theorem wl_914 : Cond.methodLink RL 84 yX7_asked ∈ Wl := wl_of 914 (by decide +kernel) rfl
theorem wl_915 : Cond.instanceMethod yX7_asked ∈ Wl := wl_of 915 (by decide +kernel) rfl
theorem wl_916 : Cond.selects RX7 yX7_asked yX7_asked ∈ Wl := wl_of 916 (by decide +kernel) rfl
theorem wl_917 : Cond.code yX7_asked cX7_asked 4 (some .int) ∈ Wl := wl_of 917 (by decide +kernel) rfl
theorem wl_918 : Cond.methodLink RX7 180 yX7_openAll ∈ Wl := wl_of 918 (by decide +kernel) rfl
theorem wl_920 : Cond.instanceMethod yX7_openAll ∈ Wl := wl_of 920 (by decide +kernel) rfl
theorem wl_921 : Cond.code yX7_openAll cX7_openAll 3 none ∈ Wl := wl_of 921 (by decide +kernel) rfl
theorem wl_922 : Cond.methodLink RX7 183 yX7_keptThen ∈ Wl := wl_of 922 (by decide +kernel) rfl
theorem wl_924 : Cond.instanceMethod yX7_keptThen ∈ Wl := wl_of 924 (by decide +kernel) rfl
theorem wl_925 : Cond.code yX7_keptThen cX7_keptThen 1 (some .int) ∈ Wl := wl_of 925 (by decide +kernel) rfl
theorem wl_926 : Cond.methodLink RX7 170 yX7_many ∈ Wl := wl_of 926 (by decide +kernel) rfl
theorem wl_927 : Cond.static yX7_many ∈ Wl := wl_of 927 (by decide +kernel) rfl
theorem wl_928 : Cond.code yX7_many cX7_many 3 (some .int) ∈ Wl := wl_of 928 (by decide +kernel) rfl
theorem wl_929 : Cond.methodLink RL 88 yX7_sent ∈ Wl := wl_of 929 (by decide +kernel) rfl
theorem wl_930 : Cond.instanceMethod yX7_sent ∈ Wl := wl_of 930 (by decide +kernel) rfl
theorem wl_931 : Cond.selects RX7 yX7_sent yX7_sent ∈ Wl := wl_of 931 (by decide +kernel) rfl
theorem wl_932 : Cond.code yX7_sent cX7_sent 5 (some .int) ∈ Wl := wl_of 932 (by decide +kernel) rfl
theorem wl_933 : Cond.methodLink RL 95 yX7_judge ∈ Wl := wl_of 933 (by decide +kernel) rfl
theorem wl_934 : Cond.instanceMethod yX7_judge ∈ Wl := wl_of 934 (by decide +kernel) rfl
theorem wl_935 : Cond.selects RX7 yX7_judge yX7_judge ∈ Wl := wl_of 935 (by decide +kernel) rfl
theorem wl_936 : Cond.code yX7_judge cX7_judge 5 (some .int) ∈ Wl := wl_of 936 (by decide +kernel) rfl
theorem wl_937 : Cond.constantLong RX7 186 (4) ∈ Wl := wl_of 937 (by decide +kernel) rfl
theorem wl_938 : Cond.constantLong RX7 188 (1000) ∈ Wl := wl_of 938 (by decide +kernel) rfl
theorem wl_939 : Cond.methodLink RX7 190 yX7_longPower ∈ Wl := wl_of 939 (by decide +kernel) rfl
theorem wl_940 : Cond.static yX7_longPower ∈ Wl := wl_of 940 (by decide +kernel) rfl
theorem wl_941 : Cond.code yX7_longPower cX7_longPower 6 (some .long) ∈ Wl := wl_of 941 (by decide +kernel) rfl
theorem wl_942 : Cond.methodLink RX7 194 yX7_does ∈ Wl := wl_of 942 (by decide +kernel) rfl
theorem wl_944 : Cond.instanceMethod yX7_does ∈ Wl := wl_of 944 (by decide +kernel) rfl
theorem wl_945 : Cond.code yX7_does cX7_does 5 (some .boolean) ∈ Wl := wl_of 945 (by decide +kernel) rfl
theorem wl_946 : Cond.methodLink RL 99 yX7_share ∈ Wl := wl_of 946 (by decide +kernel) rfl
theorem wl_947 : Cond.instanceMethod yX7_share ∈ Wl := wl_of 947 (by decide +kernel) rfl
theorem wl_948 : Cond.selects RX7 yX7_share yX7_share ∈ Wl := wl_of 948 (by decide +kernel) rfl
theorem wl_949 : Cond.code yX7_share cX7_share 6 (some .int) ∈ Wl := wl_of 949 (by decide +kernel) rfl
theorem wl_950 : Cond.methodLink RX7 200 yX7_ways ∈ Wl := wl_of 950 (by decide +kernel) rfl
theorem wl_951 : Cond.static yX7_ways ∈ Wl := wl_of 951 (by decide +kernel) rfl
theorem wl_952 : Cond.code yX7_ways cX7_ways 3 (some .int) ∈ Wl := wl_of 952 (by decide +kernel) rfl
theorem wl_953 : Cond.methodLink RX7 203 yX7_fraction ∈ Wl := wl_of 953 (by decide +kernel) rfl
theorem wl_954 : Cond.static yX7_fraction ∈ Wl := wl_of 954 (by decide +kernel) rfl
theorem wl_955 : Cond.code yX7_fraction cX7_fraction 4 (some .int) ∈ Wl := wl_of 955 (by decide +kernel) rfl
theorem wl_956 : Cond.methodLink RX7 197 yX7_divisor ∈ Wl := wl_of 956 (by decide +kernel) rfl
theorem wl_957 : Cond.static yX7_divisor ∈ Wl := wl_of 957 (by decide +kernel) rfl
theorem wl_958 : Cond.code yX7_divisor cX7_divisor 5 (some .int) ∈ Wl := wl_of 958 (by decide +kernel) rfl
theorem wl_959 : Cond.methodLink RL 104 yX7_feel ∈ Wl := wl_of 959 (by decide +kernel) rfl
theorem wl_960 : Cond.instanceMethod yX7_feel ∈ Wl := wl_of 960 (by decide +kernel) rfl
theorem wl_961 : Cond.selects RX7 yX7_feel yX7_feel ∈ Wl := wl_of 961 (by decide +kernel) rfl
theorem wl_962 : Cond.code yX7_feel cX7_feel 4 (some .int) ∈ Wl := wl_of 962 (by decide +kernel) rfl
theorem wl_963 : Cond.constantLong RX7 207 (9) ∈ Wl := wl_of 963 (by decide +kernel) rfl
theorem wl_964 : Cond.methodLink RL 108 yX7_unfeel ∈ Wl := wl_of 964 (by decide +kernel) rfl
theorem wl_965 : Cond.instanceMethod yX7_unfeel ∈ Wl := wl_of 965 (by decide +kernel) rfl
theorem wl_966 : Cond.selects RX7 yX7_unfeel yX7_unfeel ∈ Wl := wl_of 966 (by decide +kernel) rfl
theorem wl_967 : Cond.code yX7_unfeel cX7_unfeel 2 (some .int) ∈ Wl := wl_of 967 (by decide +kernel) rfl
theorem wl_968 : Cond.methodLink RL 112 yX7_may ∈ Wl := wl_of 968 (by decide +kernel) rfl
theorem wl_969 : Cond.instanceMethod yX7_may ∈ Wl := wl_of 969 (by decide +kernel) rfl
theorem wl_970 : Cond.selects RX7 yX7_may yX7_may ∈ Wl := wl_of 970 (by decide +kernel) rfl
theorem wl_971 : Cond.code yX7_may cX7_may 2 (some .int) ∈ Wl := wl_of 971 (by decide +kernel) rfl
theorem wl_972 : Cond.methodLink RX7 221 yX7_findMay ∈ Wl := wl_of 972 (by decide +kernel) rfl
theorem wl_974 : Cond.instanceMethod yX7_findMay ∈ Wl := wl_of 974 (by decide +kernel) rfl
theorem wl_975 : Cond.code yX7_findMay cX7_findMay 7 none ∈ Wl := wl_of 975 (by decide +kernel) rfl
theorem wl_976 : Cond.methodLink RX7 217 yX7_rainsBy ∈ Wl := wl_of 976 (by decide +kernel) rfl
theorem wl_977 : Cond.static yX7_rainsBy ∈ Wl := wl_of 977 (by decide +kernel) rfl
theorem wl_978 : Cond.code yX7_rainsBy cX7_rainsBy 6 (some .boolean) ∈ Wl := wl_of 978 (by decide +kernel) rfl
theorem wl_979 : Cond.constantLong RX7 209 (-1) ∈ Wl := wl_of 979 (by decide +kernel) rfl
theorem wl_980 : Cond.methodLink RL 116 yX7_rests ∈ Wl := wl_of 980 (by decide +kernel) rfl
theorem wl_981 : Cond.instanceMethod yX7_rests ∈ Wl := wl_of 981 (by decide +kernel) rfl
theorem wl_982 : Cond.selects RX7 yX7_rests yX7_rests ∈ Wl := wl_of 982 (by decide +kernel) rfl
theorem wl_983 : Cond.code yX7_rests cX7_rests 6 (some .int) ∈ Wl := wl_of 983 (by decide +kernel) rfl
theorem wl_984 : Cond.methodLink RX7 224 yX7_gainOf ∈ Wl := wl_of 984 (by decide +kernel) rfl
theorem wl_986 : Cond.instanceMethod yX7_gainOf ∈ Wl := wl_of 986 (by decide +kernel) rfl
theorem wl_987 : Cond.code yX7_gainOf cX7_gainOf 4 (some .int) ∈ Wl := wl_of 987 (by decide +kernel) rfl
theorem wl_988 : Cond.methodLink RL 121 yX7_sudden ∈ Wl := wl_of 988 (by decide +kernel) rfl
theorem wl_989 : Cond.instanceMethod yX7_sudden ∈ Wl := wl_of 989 (by decide +kernel) rfl
theorem wl_990 : Cond.selects RX7 yX7_sudden yX7_sudden ∈ Wl := wl_of 990 (by decide +kernel) rfl
theorem wl_991 : Cond.code yX7_sudden cX7_sudden 9 (some .int) ∈ Wl := wl_of 991 (by decide +kernel) rfl
theorem wl_992 : Cond.constantLong RX7 234 (10) ∈ Wl := wl_of 992 (by decide +kernel) rfl
theorem wl_993 : Cond.methodLink RX7 236 yX7_power ∈ Wl := wl_of 993 (by decide +kernel) rfl
theorem wl_994 : Cond.static yX7_power ∈ Wl := wl_of 994 (by decide +kernel) rfl
theorem wl_995 : Cond.code yX7_power cX7_power 4 (some .int) ∈ Wl := wl_of 995 (by decide +kernel) rfl
theorem wl_996 : Cond.methodLink RL 126 yX7_seed ∈ Wl := wl_of 996 (by decide +kernel) rfl
theorem wl_997 : Cond.instanceMethod yX7_seed ∈ Wl := wl_of 997 (by decide +kernel) rfl
theorem wl_998 : Cond.selects RX7 yX7_seed yX7_seed ∈ Wl := wl_of 998 (by decide +kernel) rfl
theorem wl_999 : Cond.code yX7_seed cX7_seed 5 (some .long) ∈ Wl := wl_of 999 (by decide +kernel) rfl
theorem wl_1000 : Cond.methodLink RL 130 yX7_weeks ∈ Wl := wl_of 1000 (by decide +kernel) rfl
theorem wl_1001 : Cond.instanceMethod yX7_weeks ∈ Wl := wl_of 1001 (by decide +kernel) rfl
theorem wl_1002 : Cond.selects RX7 yX7_weeks yX7_weeks ∈ Wl := wl_of 1002 (by decide +kernel) rfl
theorem wl_1003 : Cond.code yX7_weeks cX7_weeks 5 (some .int) ∈ Wl := wl_of 1003 (by decide +kernel) rfl
theorem wl_1004 : Cond.constantLong RX7 243 (30) ∈ Wl := wl_of 1004 (by decide +kernel) rfl
theorem wl_1005 : Cond.constantLong RX7 245 (6364136223846793005) ∈ Wl := wl_of 1005 (by decide +kernel) rfl
theorem wl_1006 : Cond.constantLong RX7 247 (1442695040888963407) ∈ Wl := wl_of 1006 (by decide +kernel) rfl
theorem wl_1007 : Cond.constantLong RX7 249 (24) ∈ Wl := wl_of 1007 (by decide +kernel) rfl
theorem wl_1008 : Cond.methodLink RL 134 yX7_keep ∈ Wl := wl_of 1008 (by decide +kernel) rfl
theorem wl_1009 : Cond.instanceMethod yX7_keep ∈ Wl := wl_of 1009 (by decide +kernel) rfl
theorem wl_1010 : Cond.selects RX7 yX7_keep yX7_keep ∈ Wl := wl_of 1010 (by decide +kernel) rfl
theorem wl_1011 : Cond.code yX7_keep cX7_keep 3 (some .int) ∈ Wl := wl_of 1011 (by decide +kernel) rfl
theorem wl_1012 : Cond.methodLink RL 138 yX7_again ∈ Wl := wl_of 1012 (by decide +kernel) rfl
theorem wl_1013 : Cond.instanceMethod yX7_again ∈ Wl := wl_of 1013 (by decide +kernel) rfl
theorem wl_1014 : Cond.selects RX7 yX7_again yX7_again ∈ Wl := wl_of 1014 (by decide +kernel) rfl
theorem wl_1015 : Cond.code yX7_again cX7_again 3 (some .int) ∈ Wl := wl_of 1015 (by decide +kernel) rfl
theorem wl_1016 : Cond.constantLong RL 89 (4294967295) ∈ Wl := wl_of 1016 (by decide +kernel) rfl
theorem wu_X0 : ∀ w ∈ wsX00, w ∈ Wl := fun w h => List.mem_filter.mpr ((show ∀ w ∈ wsX00, w ∈ lw_tbl ∧ goodWord w = true by decide +kernel) w h)
theorem wu_X1 : ∀ w ∈ wsX10, w ∈ Wl := fun w h => List.mem_filter.mpr ((show ∀ w ∈ wsX10, w ∈ lw_tbl ∧ goodWord w = true by decide +kernel) w h)
theorem wu_X2 : ∀ w ∈ wsX20, w ∈ Wl := fun w h => List.mem_filter.mpr ((show ∀ w ∈ wsX20, w ∈ lw_tbl ∧ goodWord w = true by decide +kernel) w h)
theorem wu_X3 : ∀ w ∈ wsX30, w ∈ Wl := fun w h => List.mem_filter.mpr ((show ∀ w ∈ wsX30, w ∈ lw_tbl ∧ goodWord w = true by decide +kernel) w h)
theorem wu_X4 : ∀ w ∈ wsX40, w ∈ Wl := fun w h => List.mem_filter.mpr ((show ∀ w ∈ wsX40, w ∈ lw_tbl ∧ goodWord w = true by decide +kernel) w h)
theorem wu_X5 : ∀ w ∈ wsX50, w ∈ Wl := fun w h => List.mem_filter.mpr ((show ∀ w ∈ wsX50, w ∈ lw_tbl ∧ goodWord w = true by decide +kernel) w h)
theorem wu_X6 : ∀ w ∈ wsX60, w ∈ Wl := fun w h => List.mem_filter.mpr ((show ∀ w ∈ wsX60, w ∈ lw_tbl ∧ goodWord w = true by decide +kernel) w h)
theorem wu_X7 : ∀ w ∈ wsX70, w ∈ Wl := fun w h => List.mem_filter.mpr ((show ∀ w ∈ wsX70, w ∈ lw_tbl ∧ goodWord w = true by decide +kernel) w h)
end
section
-- worlds as functions of an index; the judgement gG: the machine, its heap and its frame's locals bound inside
def wF (n : Nat) (a : Nat → Nat) (g : Nat → va_E) : va_W := (List.range n).map (fun k => (a k, g k))
theorem wF_get {n : Nat} {a : Nat → Nat} {g : Nat → va_E} {k : Nat} (h : k < n) : (wF n a g)[k]? = some (a k, g k) := by simp [wF, h]
theorem wF_inv {n : Nat} {a : Nat → Nat} {g : Nat → va_E} {k : Nat} {q : Nat × va_E} (h : (wF n a g)[k]? = some q) : k < n ∧ q = (a k, g k) := by
  by_cases hk : k < n
  · rw [wF_get hk] at h; cases h; exact ⟨hk, rfl⟩
  · have : (wF n a g)[k]? = none := by simp [wF]; omega
    rw [this] at h; cases h
def ve (x y : va_E) : Prop := ∀ (D : va_G) (cl : List vw_C) (q : Nat) (H : Heap), va_at D cl (q, x) H → va_at D cl (q, y) H
theorem ve_rf (x : va_E) : ve x x := fun _ _ _ _ h => h
theorem ve_eq {x y : va_E} (h : x = y) : ve x y := fun _ _ _ _ q => h ▸ q
theorem arrV_congr {cA : ClassId} {n : Nat} {f g : Nat → Value} (h : ∀ j, j < n → f j = g j) : arrV cA n f = arrV cA n g := by
  unfold arrV
  congr 1
  congr 1
  funext j
  exact h j.val j.isLt
theorem ve_arr {cA : ClassId} {n : Nat} {f g : Nat → Int32} (h : ∀ j, j < n → f j = g j) : ve (.inl (cA, n, .inl f)) (.inl (cA, n, .inl g)) := by
  intro D cl q H hq
  have hq : H[q]? = some (vp_cell cA (n, .inl f)) := hq
  show H[q]? = some (vp_cell cA (n, .inl g))
  rw [hq, vp_cell_i, vp_cell_i, arrV_congr (g := fun j => .int (g j)) (fun j hj => by rw [h j hj])]
theorem wF_set {D : va_G} {cl : List vw_C} {n : Nat} {a : Nat → Nat} {g g' : Nat → va_E} {k : Nat} {e : va_E} {H : Heap} (hP : va_P D cl ((wF n a g).set k (a k, e)) H) (h : ∀ i, i < n → ve (if i = k then e else g i) (g' i)) : va_P D cl (wF n a g') H := by
  intro i q hq
  obtain ⟨hi, rfl⟩ := wF_inv hq
  refine h i hi D cl (a i) H ?_
  by_cases hik : i = k
  · subst hik
    rw [if_pos rfl]
    refine hP i _ ?_
    rw [List.getElem?_set_self (by simp [wF]; exact hi)]
  · rw [if_neg hik]
    refine hP i _ ?_
    rw [List.getElem?_set_ne (Ne.symm hik), wF_get hi]
theorem wF_D {A : Nat → Prop} {n : Nat} {a : Nat → Nat} {g g' : Nat → va_E} (hD : va_D A (wF n a g)) : va_D A (wF n a g') := by
  refine ⟨fun i j x y hx hy hxy => ?_, fun k q hq => ?_⟩
  · obtain ⟨hi, rfl⟩ := wF_inv hx
    obtain ⟨hj, rfl⟩ := wF_inv hy
    exact hD.1 i j _ _ (wF_get hi) (wF_get hj) hxy
  · obtain ⟨hk, rfl⟩ := wF_inv hq
    exact hD.2 k (a k, g k) (wF_get hk)
theorem wF_A {n : Nat} {a : Nat → Nat} {g g' : Nat → va_E} {sz q : Nat} (h : va_A (wF n a g) sz q) : va_A (wF n a g') sz q := by
  rcases h with ⟨k, e, h⟩ | h
  · obtain ⟨hk, e1⟩ := wF_inv h
    exact Or.inl ⟨k, g' k, by rw [wF_get hk]; cases e1; rfl⟩
  · exact Or.inr h
-- the nest words
def isNest : Cond → Bool
  | .methodLinkNest _ _ _ _ => true
  | _ => false
def Nl : List Cond := lw_tbl.filter isNest
theorem nl_of {w : Cond} (i : Nat) (h : lw_tbl[i]? = some w) (hg : isNest w = true) : w ∈ Nl := List.mem_filter.mpr ⟨List.mem_of_getElem? h, hg⟩
def gK (D : va_G) (cl : List vw_C) (tys : List (ClassId × FieldType)) (U : State) : Prop := va_K D cl tys U ∧ ∀ w ∈ Nl, va_Nw w U
theorem gK.warm {D : va_G} {cl : List vw_C} {tys : List (ClassId × FieldType)} {s U : State} (hW : s.WarmedH U.vm) (h : gK D cl tys s) : gK D cl tys U := by
  refine ⟨va_K.moved hW.alike h.1, fun w hw => ?_⟩
  have h1 := h.2 w hw
  have h2 := (List.mem_filter.mp hw).2
  cases w <;> first | exact va_Nw.warmM hW h1 | cases h2
theorem gK.blind {D : va_G} {cl : List vw_C} {tys : List (ClassId × FieldType)} {U : State} {g : JFrame} {mk : MethodId} {a : Array Value} (h : gK D cl tys U) : gK D cl tys (U.calling g mk a) := by
  refine ⟨va_K.moved (u := U) (U := U.calling g mk a) (Vm.Alike.refl U.vm) h.1, fun w hw => ?_⟩
  have h1 := h.2 w hw
  have h2 := (List.mem_filter.mp hw).2
  cases w <;> first | exact va_Nw.same (u := U) (U := U.calling g mk a) rfl rfl h1 | cases h2
def gC (p : Program) (s : State) (m : MethodId) (args : Array Value) (meth : Method) (c : Code) (cc : ByteArray) (nL : Nat) (ret : Option FieldType) (own : String) (D : va_G) (cl : List vw_C) (tys : List (ClassId × FieldType)) (A0 : Nat → Prop) (H0 : Heap) : Prop :=
  p.tables.exec = Jvm.exec ∧ c.code = cc ∧ meth.sig.returnType = ret ∧ (∀ w ∈ Wl, w.before args s = true) ∧ s.vm.findClass own = some m.cls ∧ meth.locks = false ∧ c.maxLocals = nL ∧ gK D cl tys s ∧ (∀ q : Nat, H0.size ≤ q → A0 q)
def gG (p : Program) (l : Launch) (e : Env) (R : Room) (s : State) (m : MethodId) (args : Array Value) (below : List Frame) (meth : Method) (c : Code) (nL : Nat) (D : va_G) (cl : List vw_C) (A0 : Nat → Prop) (H0 : Heap) (cells slots : Nat) (Q : State → Prop) (w : va_W) (pc : Nat) (lv : List (Nat × Value)) (st : List Value) : Prop :=
  ∀ (H : Heap) (locs : List Loc) (ls : Array Slot), va_P D cl w H → va_D A0 w → va_S A0 H0 H locs → lv_has ls nL lv → W p l e R s m args below meth c H locs cells slots Q (F0 m pc ls st)
section
variable {p : Program} {l : Launch} {e : Env} {R : Room} {s : State} {m : MethodId} {args : Array Value} {below : List Frame} {meth : Method} {c : Code} {cells slots : Nat} {Q : State → Prop} {D : va_G} {cl : List vw_C} {tys : List (ClassId × FieldType)} {A0 : Nat → Prop} {H0 : Heap} {cc : ByteArray} {nL : Nat} {ret : Option FieldType} {own : String} {w : va_W} {pc : Nat} {lv : List (Nat × Value)} {st : List Value}
theorem g_iconst (C : gC p s m args meth c cc nL ret own D cl tys A0 H0) {n : Int} {v : Int32} (hd : decode cc pc = .ok (.iconst n, 1)) (hv : Int32.ofInt n = v) (k : gG p l e R s m args below meth c nL D cl A0 H0 cells slots Q w (pc + 1) lv (.int v :: st)) : gG p l e R s m args below meth c nL D cl A0 H0 cells slots Q w pc lv st :=
  fun H locs ls hP hD hS hl => lv_iconst C.1 C.2.1 hd hv (k H locs ls hP hD hS hl)
theorem g_bipush (C : gC p s m args meth c cc nL ret own D cl tys A0 H0) {n : Int} {v : Int32} (hd : decode cc pc = .ok (.bipush n, 2)) (hv : (Int8.ofInt n).toInt32 = v) (k : gG p l e R s m args below meth c nL D cl A0 H0 cells slots Q w (pc + 2) lv (.int v :: st)) : gG p l e R s m args below meth c nL D cl A0 H0 cells slots Q w pc lv (st) :=
  fun H locs ls hP hD hS hl => lv_bipush C.1 C.2.1 hd hv (k H locs ls hP hD hS hl)
theorem g_sipush (C : gC p s m args meth c cc nL ret own D cl tys A0 H0) {n : Int} {v : Int32} (hd : decode cc pc = .ok (.sipush n, 3)) (hv : (Int16.ofInt n).toInt32 = v) (k : gG p l e R s m args below meth c nL D cl A0 H0 cells slots Q w (pc + 3) lv (.int v :: st)) : gG p l e R s m args below meth c nL D cl A0 H0 cells slots Q w pc lv (st) :=
  fun H locs ls hP hD hS hl => lv_sipush C.1 C.2.1 hd hv (k H locs ls hP hD hS hl)
theorem g_lconst (C : gC p s m args meth c cc nL ret own D cl tys A0 H0) {n : Fin 2} {v : Int64} (hd : decode cc pc = .ok (.lconst n, 1)) (hv : Int64.ofNat (n : Nat) = v) (k : gG p l e R s m args below meth c nL D cl A0 H0 cells slots Q w (pc + 1) lv (.long v :: st)) : gG p l e R s m args below meth c nL D cl A0 H0 cells slots Q w pc lv (st) :=
  fun H locs ls hP hD hS hl => lv_lconst C.1 C.2.1 hd hv (k H locs ls hP hD hS hl)
theorem g_iload_n (C : gC p s m args meth c cc nL ret own D cl tys A0 H0) {k4 : Fin 4} {i : Nat} {x : Int32} (hd : decode cc pc = .ok (.iload_n k4, 1)) (j : Nat) (hi : (k4 : Nat) = i) (hj : lv[j]? = some (i, .int x)) (k : gG p l e R s m args below meth c nL D cl A0 H0 cells slots Q w (pc + 1) lv (.int x :: st)) : gG p l e R s m args below meth c nL D cl A0 H0 cells slots Q w pc lv (st) :=
  fun H locs ls hP hD hS hl => lv_iload_n C.1 C.2.1 hd hi (lv_at hl j hj) (k H locs ls hP hD hS hl)
theorem g_iload (C : gC p s m args meth c cc nL ret own D cl tys A0 H0) {i : Nat} {x : Int32} (hd : decode cc pc = .ok (.iload i, 2)) (j : Nat) (hj : lv[j]? = some (i, .int x)) (k : gG p l e R s m args below meth c nL D cl A0 H0 cells slots Q w (pc + 2) lv (.int x :: st)) : gG p l e R s m args below meth c nL D cl A0 H0 cells slots Q w pc lv (st) :=
  fun H locs ls hP hD hS hl => lv_iload C.1 C.2.1 hd (lv_at hl j hj) (k H locs ls hP hD hS hl)
theorem g_lload_n (C : gC p s m args meth c cc nL ret own D cl tys A0 H0) {k4 : Fin 4} {i : Nat} {x : Int64} (hd : decode cc pc = .ok (.lload_n k4, 1)) (j : Nat) (hi : (k4 : Nat) = i) (hj : lv[j]? = some (i, .long x)) (k : gG p l e R s m args below meth c nL D cl A0 H0 cells slots Q w (pc + 1) lv (.long x :: st)) : gG p l e R s m args below meth c nL D cl A0 H0 cells slots Q w pc lv (st) :=
  fun H locs ls hP hD hS hl => lv_lload_n C.1 C.2.1 hd hi (lv_at hl j hj) (k H locs ls hP hD hS hl)
theorem g_lload (C : gC p s m args meth c cc nL ret own D cl tys A0 H0) {i : Nat} {x : Int64} (hd : decode cc pc = .ok (.lload i, 2)) (j : Nat) (hj : lv[j]? = some (i, .long x)) (k : gG p l e R s m args below meth c nL D cl A0 H0 cells slots Q w (pc + 2) lv (.long x :: st)) : gG p l e R s m args below meth c nL D cl A0 H0 cells slots Q w pc lv (st) :=
  fun H locs ls hP hD hS hl => lv_lload C.1 C.2.1 hd (lv_at hl j hj) (k H locs ls hP hD hS hl)
theorem g_aload_n (C : gC p s m args meth c cc nL ret own D cl tys A0 H0) {k4 : Fin 4} {i : Nat} {x : Nat} (hd : decode cc pc = .ok (.aload_n k4, 1)) (j : Nat) (hi : (k4 : Nat) = i) (hj : lv[j]? = some (i, .ref x)) (k : gG p l e R s m args below meth c nL D cl A0 H0 cells slots Q w (pc + 1) lv (.ref x :: st)) : gG p l e R s m args below meth c nL D cl A0 H0 cells slots Q w pc lv (st) :=
  fun H locs ls hP hD hS hl => lv_aload_n C.1 C.2.1 hd hi (lv_at hl j hj) (k H locs ls hP hD hS hl)
theorem g_aload (C : gC p s m args meth c cc nL ret own D cl tys A0 H0) {i : Nat} {x : Nat} (hd : decode cc pc = .ok (.aload i, 2)) (j : Nat) (hj : lv[j]? = some (i, .ref x)) (k : gG p l e R s m args below meth c nL D cl A0 H0 cells slots Q w (pc + 2) lv (.ref x :: st)) : gG p l e R s m args below meth c nL D cl A0 H0 cells slots Q w pc lv (st) :=
  fun H locs ls hP hD hS hl => lv_aload C.1 C.2.1 hd (lv_at hl j hj) (k H locs ls hP hD hS hl)
theorem g_istore_n (C : gC p s m args meth c cc nL ret own D cl tys A0 H0) {k4 : Fin 4} {i : Nat} {x : Int32} {lv2 : List (Nat × Value)} (hd : decode cc pc = .ok (.istore_n k4, 1)) (hi : (k4 : Nat) = i) (hn : i < nL) (he : (i, Value.int x) :: lv.filter (fun q => !(q.1 == i) && !(q.1 + 1 == i && q.2.category == 2)) = lv2) (k : gG p l e R s m args below meth c nL D cl A0 H0 cells slots Q w (pc + 1) lv2 st) : gG p l e R s m args below meth c nL D cl A0 H0 cells slots Q w pc lv (Value.int x :: st) :=
  fun H locs ls hP hD hS hl => lv_istore_n C.1 C.2.1 hd hi hl hn he (fun ls2 hl2 => k H locs ls2 hP hD hS hl2)
theorem g_istore (C : gC p s m args meth c cc nL ret own D cl tys A0 H0) {i : Nat} {x : Int32} {lv2 : List (Nat × Value)} (hd : decode cc pc = .ok (.istore i, 2))  (hn : i < nL) (he : (i, Value.int x) :: lv.filter (fun q => !(q.1 == i) && !(q.1 + 1 == i && q.2.category == 2)) = lv2) (k : gG p l e R s m args below meth c nL D cl A0 H0 cells slots Q w (pc + 2) lv2 st) : gG p l e R s m args below meth c nL D cl A0 H0 cells slots Q w pc lv (Value.int x :: st) :=
  fun H locs ls hP hD hS hl => lv_istore C.1 C.2.1 hd  hl hn he (fun ls2 hl2 => k H locs ls2 hP hD hS hl2)
theorem g_lstore_n (C : gC p s m args meth c cc nL ret own D cl tys A0 H0) {k4 : Fin 4} {i : Nat} {x : Int64} {lv2 : List (Nat × Value)} (hd : decode cc pc = .ok (.lstore_n k4, 1)) (hi : (k4 : Nat) = i) (hn : i + 1 < nL) (he : (i, Value.long x) :: lv.filter (fun q => !(q.1 == i) && (!(q.1 == i + 1) && !(q.1 + 1 == i && q.2.category == 2))) = lv2) (k : gG p l e R s m args below meth c nL D cl A0 H0 cells slots Q w (pc + 1) lv2 st) : gG p l e R s m args below meth c nL D cl A0 H0 cells slots Q w pc lv (Value.long x :: st) :=
  fun H locs ls hP hD hS hl => lv_lstore_n C.1 C.2.1 hd hi hl hn he (fun ls2 hl2 => k H locs ls2 hP hD hS hl2)
theorem g_lstore (C : gC p s m args meth c cc nL ret own D cl tys A0 H0) {i : Nat} {x : Int64} {lv2 : List (Nat × Value)} (hd : decode cc pc = .ok (.lstore i, 2))  (hn : i + 1 < nL) (he : (i, Value.long x) :: lv.filter (fun q => !(q.1 == i) && (!(q.1 == i + 1) && !(q.1 + 1 == i && q.2.category == 2))) = lv2) (k : gG p l e R s m args below meth c nL D cl A0 H0 cells slots Q w (pc + 2) lv2 st) : gG p l e R s m args below meth c nL D cl A0 H0 cells slots Q w pc lv (Value.long x :: st) :=
  fun H locs ls hP hD hS hl => lv_lstore C.1 C.2.1 hd  hl hn he (fun ls2 hl2 => k H locs ls2 hP hD hS hl2)
theorem g_astore_n (C : gC p s m args meth c cc nL ret own D cl tys A0 H0) {k4 : Fin 4} {i : Nat} {x : Nat} {lv2 : List (Nat × Value)} (hd : decode cc pc = .ok (.astore_n k4, 1)) (hi : (k4 : Nat) = i) (hn : i < nL) (he : (i, Value.ref x) :: lv.filter (fun q => !(q.1 == i) && !(q.1 + 1 == i && q.2.category == 2)) = lv2) (k : gG p l e R s m args below meth c nL D cl A0 H0 cells slots Q w (pc + 1) lv2 st) : gG p l e R s m args below meth c nL D cl A0 H0 cells slots Q w pc lv (Value.ref x :: st) :=
  fun H locs ls hP hD hS hl => lv_astore_n C.1 C.2.1 hd hi hl hn he (fun ls2 hl2 => k H locs ls2 hP hD hS hl2)
theorem g_astore (C : gC p s m args meth c cc nL ret own D cl tys A0 H0) {i : Nat} {x : Nat} {lv2 : List (Nat × Value)} (hd : decode cc pc = .ok (.astore i, 2))  (hn : i < nL) (he : (i, Value.ref x) :: lv.filter (fun q => !(q.1 == i) && !(q.1 + 1 == i && q.2.category == 2)) = lv2) (k : gG p l e R s m args below meth c nL D cl A0 H0 cells slots Q w (pc + 2) lv2 st) : gG p l e R s m args below meth c nL D cl A0 H0 cells slots Q w pc lv (Value.ref x :: st) :=
  fun H locs ls hP hD hS hl => lv_astore C.1 C.2.1 hd  hl hn he (fun ls2 hl2 => k H locs ls2 hP hD hS hl2)
theorem g_iinc (C : gC p s m args meth c cc nL ret own D cl tys A0 H0) {i : Nat} {n : Int} {x v : Int32} {lv2 : List (Nat × Value)} (hd : decode cc pc = .ok (.iinc i n, 3)) (j : Nat) (hj : lv[j]? = some (i, .int x)) (hv : x + Int32.ofInt n = v) (hn : i < nL) (he : (i, Value.int v) :: lv.filter (fun q => !(q.1 == i) && !(q.1 + 1 == i && q.2.category == 2)) = lv2) (k : gG p l e R s m args below meth c nL D cl A0 H0 cells slots Q w (pc + 3) lv2 st) : gG p l e R s m args below meth c nL D cl A0 H0 cells slots Q w pc lv st :=
  fun H locs ls hP hD hS hl => lv_iinc C.1 C.2.1 hd hl hj hv hn he (fun ls2 hl2 => k H locs ls2 hP hD hS hl2)
theorem g_iadd (C : gC p s m args meth c cc nL ret own D cl tys A0 H0) {x y : Int32} (hd : decode cc pc = .ok (.iadd, 1))  (k : gG p l e R s m args below meth c nL D cl A0 H0 cells slots Q w (pc + 1) lv (.int (x + y) :: st)) : gG p l e R s m args below meth c nL D cl A0 H0 cells slots Q w pc lv (.int y :: .int x :: st) :=
  fun H locs ls hP hD hS hl => lv_iadd C.1 C.2.1 hd (k H locs ls hP hD hS hl)
theorem g_isub (C : gC p s m args meth c cc nL ret own D cl tys A0 H0) {x y : Int32} (hd : decode cc pc = .ok (.isub, 1))  (k : gG p l e R s m args below meth c nL D cl A0 H0 cells slots Q w (pc + 1) lv (.int (x - y) :: st)) : gG p l e R s m args below meth c nL D cl A0 H0 cells slots Q w pc lv (.int y :: .int x :: st) :=
  fun H locs ls hP hD hS hl => lv_isub C.1 C.2.1 hd (k H locs ls hP hD hS hl)
theorem g_imul (C : gC p s m args meth c cc nL ret own D cl tys A0 H0) {x y : Int32} (hd : decode cc pc = .ok (.imul, 1))  (k : gG p l e R s m args below meth c nL D cl A0 H0 cells slots Q w (pc + 1) lv (.int (x * y) :: st)) : gG p l e R s m args below meth c nL D cl A0 H0 cells slots Q w pc lv (.int y :: .int x :: st) :=
  fun H locs ls hP hD hS hl => lv_imul C.1 C.2.1 hd (k H locs ls hP hD hS hl)
theorem g_iand (C : gC p s m args meth c cc nL ret own D cl tys A0 H0) {x y : Int32} (hd : decode cc pc = .ok (.iand, 1))  (k : gG p l e R s m args below meth c nL D cl A0 H0 cells slots Q w (pc + 1) lv (.int (x &&& y) :: st)) : gG p l e R s m args below meth c nL D cl A0 H0 cells slots Q w pc lv (.int y :: .int x :: st) :=
  fun H locs ls hP hD hS hl => lv_iand C.1 C.2.1 hd (k H locs ls hP hD hS hl)
theorem g_ior (C : gC p s m args meth c cc nL ret own D cl tys A0 H0) {x y : Int32} (hd : decode cc pc = .ok (.ior, 1))  (k : gG p l e R s m args below meth c nL D cl A0 H0 cells slots Q w (pc + 1) lv (.int (x ||| y) :: st)) : gG p l e R s m args below meth c nL D cl A0 H0 cells slots Q w pc lv (.int y :: .int x :: st) :=
  fun H locs ls hP hD hS hl => lv_ior C.1 C.2.1 hd (k H locs ls hP hD hS hl)
theorem g_ixor (C : gC p s m args meth c cc nL ret own D cl tys A0 H0) {x y : Int32} (hd : decode cc pc = .ok (.ixor, 1))  (k : gG p l e R s m args below meth c nL D cl A0 H0 cells slots Q w (pc + 1) lv (.int (x ^^^ y) :: st)) : gG p l e R s m args below meth c nL D cl A0 H0 cells slots Q w pc lv (.int y :: .int x :: st) :=
  fun H locs ls hP hD hS hl => lv_ixor C.1 C.2.1 hd (k H locs ls hP hD hS hl)
theorem g_ladd (C : gC p s m args meth c cc nL ret own D cl tys A0 H0) {x y : Int64} (hd : decode cc pc = .ok (.ladd, 1))  (k : gG p l e R s m args below meth c nL D cl A0 H0 cells slots Q w (pc + 1) lv (.long (x + y) :: st)) : gG p l e R s m args below meth c nL D cl A0 H0 cells slots Q w pc lv (.long y :: .long x :: st) :=
  fun H locs ls hP hD hS hl => lv_ladd C.1 C.2.1 hd (k H locs ls hP hD hS hl)
theorem g_lsub (C : gC p s m args meth c cc nL ret own D cl tys A0 H0) {x y : Int64} (hd : decode cc pc = .ok (.lsub, 1))  (k : gG p l e R s m args below meth c nL D cl A0 H0 cells slots Q w (pc + 1) lv (.long (x - y) :: st)) : gG p l e R s m args below meth c nL D cl A0 H0 cells slots Q w pc lv (.long y :: .long x :: st) :=
  fun H locs ls hP hD hS hl => lv_lsub C.1 C.2.1 hd (k H locs ls hP hD hS hl)
theorem g_lmul (C : gC p s m args meth c cc nL ret own D cl tys A0 H0) {x y : Int64} (hd : decode cc pc = .ok (.lmul, 1))  (k : gG p l e R s m args below meth c nL D cl A0 H0 cells slots Q w (pc + 1) lv (.long (x * y) :: st)) : gG p l e R s m args below meth c nL D cl A0 H0 cells slots Q w pc lv (.long y :: .long x :: st) :=
  fun H locs ls hP hD hS hl => lv_lmul C.1 C.2.1 hd (k H locs ls hP hD hS hl)
theorem g_land (C : gC p s m args meth c cc nL ret own D cl tys A0 H0) {x y : Int64} (hd : decode cc pc = .ok (.land, 1))  (k : gG p l e R s m args below meth c nL D cl A0 H0 cells slots Q w (pc + 1) lv (.long (x &&& y) :: st)) : gG p l e R s m args below meth c nL D cl A0 H0 cells slots Q w pc lv (.long y :: .long x :: st) :=
  fun H locs ls hP hD hS hl => lv_land C.1 C.2.1 hd (k H locs ls hP hD hS hl)
theorem g_lor (C : gC p s m args meth c cc nL ret own D cl tys A0 H0) {x y : Int64} (hd : decode cc pc = .ok (.lor, 1))  (k : gG p l e R s m args below meth c nL D cl A0 H0 cells slots Q w (pc + 1) lv (.long (x ||| y) :: st)) : gG p l e R s m args below meth c nL D cl A0 H0 cells slots Q w pc lv (.long y :: .long x :: st) :=
  fun H locs ls hP hD hS hl => lv_lor C.1 C.2.1 hd (k H locs ls hP hD hS hl)
theorem g_idiv (C : gC p s m args meth c cc nL ret own D cl tys A0 H0) {x y : Int32} (hd : decode cc pc = .ok (.idiv, 1)) (hne : ¬ y = 0) (k : gG p l e R s m args below meth c nL D cl A0 H0 cells slots Q w (pc + 1) lv (.int (x / y) :: st)) : gG p l e R s m args below meth c nL D cl A0 H0 cells slots Q w pc lv (.int y :: .int x :: st) :=
  fun H locs ls hP hD hS hl => lv_idiv C.1 C.2.1 hd hne (k H locs ls hP hD hS hl)
theorem g_irem (C : gC p s m args meth c cc nL ret own D cl tys A0 H0) {x y : Int32} (hd : decode cc pc = .ok (.irem, 1)) (hne : ¬ y = 0) (k : gG p l e R s m args below meth c nL D cl A0 H0 cells slots Q w (pc + 1) lv (.int (x - x / y * y) :: st)) : gG p l e R s m args below meth c nL D cl A0 H0 cells slots Q w pc lv (.int y :: .int x :: st) :=
  fun H locs ls hP hD hS hl => lv_irem C.1 C.2.1 hd hne (k H locs ls hP hD hS hl)
theorem g_ldiv (C : gC p s m args meth c cc nL ret own D cl tys A0 H0) {x y : Int64} (hd : decode cc pc = .ok (.ldiv, 1)) (hne : ¬ y = 0) (k : gG p l e R s m args below meth c nL D cl A0 H0 cells slots Q w (pc + 1) lv (.long (x / y) :: st)) : gG p l e R s m args below meth c nL D cl A0 H0 cells slots Q w pc lv (.long y :: .long x :: st) :=
  fun H locs ls hP hD hS hl => lv_ldiv C.1 C.2.1 hd hne (k H locs ls hP hD hS hl)
theorem g_lrem (C : gC p s m args meth c cc nL ret own D cl tys A0 H0) {x y : Int64} (hd : decode cc pc = .ok (.lrem, 1)) (hne : ¬ y = 0) (k : gG p l e R s m args below meth c nL D cl A0 H0 cells slots Q w (pc + 1) lv (.long (x - x / y * y) :: st)) : gG p l e R s m args below meth c nL D cl A0 H0 cells slots Q w pc lv (.long y :: .long x :: st) :=
  fun H locs ls hP hD hS hl => lv_lrem C.1 C.2.1 hd hne (k H locs ls hP hD hS hl)
theorem g_ineg (C : gC p s m args meth c cc nL ret own D cl tys A0 H0) {x : Int32} (hd : decode cc pc = .ok (.ineg, 1))  (k : gG p l e R s m args below meth c nL D cl A0 H0 cells slots Q w (pc + 1) lv (.int (-x) :: st)) : gG p l e R s m args below meth c nL D cl A0 H0 cells slots Q w pc lv (.int x :: st) :=
  fun H locs ls hP hD hS hl => lv_ineg C.1 C.2.1 hd (k H locs ls hP hD hS hl)
theorem g_ishl (C : gC p s m args meth c cc nL ret own D cl tys A0 H0) {x y : Int32} (hd : decode cc pc = .ok (.ishl, 1))  (k : gG p l e R s m args below meth c nL D cl A0 H0 cells slots Q w (pc + 1) lv (.int (x <<< (y &&& 31)) :: st)) : gG p l e R s m args below meth c nL D cl A0 H0 cells slots Q w pc lv (.int y :: .int x :: st) :=
  fun H locs ls hP hD hS hl => lv_ishl C.1 C.2.1 hd (k H locs ls hP hD hS hl)
theorem g_ishr (C : gC p s m args meth c cc nL ret own D cl tys A0 H0) {x y : Int32} (hd : decode cc pc = .ok (.ishr, 1))  (k : gG p l e R s m args below meth c nL D cl A0 H0 cells slots Q w (pc + 1) lv (.int (x >>> (y &&& 31)) :: st)) : gG p l e R s m args below meth c nL D cl A0 H0 cells slots Q w pc lv (.int y :: .int x :: st) :=
  fun H locs ls hP hD hS hl => lv_ishr C.1 C.2.1 hd (k H locs ls hP hD hS hl)
theorem g_iushr (C : gC p s m args meth c cc nL ret own D cl tys A0 H0) {x y v : Int32} (hd : decode cc pc = .ok (.iushr, 1)) (hv : (x.toUInt32 >>> (y.toUInt32 &&& Int32.toUInt32 31)).toInt32 = v) (k : gG p l e R s m args below meth c nL D cl A0 H0 cells slots Q w (pc + 1) lv (.int v :: st)) : gG p l e R s m args below meth c nL D cl A0 H0 cells slots Q w pc lv (.int y :: .int x :: st) :=
  fun H locs ls hP hD hS hl => lv_iushr C.1 C.2.1 hd hv (k H locs ls hP hD hS hl)
theorem g_lushr (C : gC p s m args meth c cc nL ret own D cl tys A0 H0) {x v : Int64} {y : Int32} (hd : decode cc pc = .ok (.lushr, 1)) (hv : (x.toUInt64 >>> (y.toInt64.toUInt64 &&& Int64.toUInt64 63)).toInt64 = v) (k : gG p l e R s m args below meth c nL D cl A0 H0 cells slots Q w (pc + 1) lv (.long v :: st)) : gG p l e R s m args below meth c nL D cl A0 H0 cells slots Q w pc lv (.int y :: .long x :: st) :=
  fun H locs ls hP hD hS hl => lv_lushr C.1 C.2.1 hd hv (k H locs ls hP hD hS hl)
theorem g_lshl (C : gC p s m args meth c cc nL ret own D cl tys A0 H0) {x v : Int64} {y : Int32} (hd : decode cc pc = .ok (.lshl, 1)) (hv : x <<< (y.toInt64 &&& 63) = v) (k : gG p l e R s m args below meth c nL D cl A0 H0 cells slots Q w (pc + 1) lv (.long v :: st)) : gG p l e R s m args below meth c nL D cl A0 H0 cells slots Q w pc lv (.int y :: .long x :: st) :=
  fun H locs ls hP hD hS hl => lv_lshl C.1 C.2.1 hd hv (k H locs ls hP hD hS hl)
theorem g_i2l (C : gC p s m args meth c cc nL ret own D cl tys A0 H0) {x : Int32} {v : Int64} (hd : decode cc pc = .ok (.i2l, 1)) (hv : x.toInt64 = v) (k : gG p l e R s m args below meth c nL D cl A0 H0 cells slots Q w (pc + 1) lv (.long v :: st)) : gG p l e R s m args below meth c nL D cl A0 H0 cells slots Q w pc lv (.int x :: st) :=
  fun H locs ls hP hD hS hl => lv_i2l C.1 C.2.1 hd hv (k H locs ls hP hD hS hl)
theorem g_l2i (C : gC p s m args meth c cc nL ret own D cl tys A0 H0) {x : Int64} {v : Int32} (hd : decode cc pc = .ok (.l2i, 1)) (hv : x.toInt32 = v) (k : gG p l e R s m args below meth c nL D cl A0 H0 cells slots Q w (pc + 1) lv (.int v :: st)) : gG p l e R s m args below meth c nL D cl A0 H0 cells slots Q w pc lv (.long x :: st) :=
  fun H locs ls hP hD hS hl => lv_l2i C.1 C.2.1 hd hv (k H locs ls hP hD hS hl)
theorem g_lcmp (C : gC p s m args meth c cc nL ret own D cl tys A0 H0) {x y : Int64} (hd : decode cc pc = .ok (.lcmp, 1)) (k : gG p l e R s m args below meth c nL D cl A0 H0 cells slots Q w (pc + 1) lv (.int (lg_cmp x y) :: st)) : gG p l e R s m args below meth c nL D cl A0 H0 cells slots Q w pc lv (.long y :: .long x :: st) :=
  fun H locs ls hP hD hS hl => W.lcmp C.1 C.2.1 hd (k H locs ls hP hD hS hl)
theorem g_dup (C : gC p s m args meth c cc nL ret own D cl tys A0 H0) {va : Value} (hd : decode cc pc = .ok (.dup, 1)) (ha : va.category = 1) (k : gG p l e R s m args below meth c nL D cl A0 H0 cells slots Q w (pc + 1) lv (va :: va :: st)) : gG p l e R s m args below meth c nL D cl A0 H0 cells slots Q w pc lv (va :: st) :=
  fun H locs ls hP hD hS hl => lv_dup C.1 C.2.1 hd ha (k H locs ls hP hD hS hl)
theorem g_pop (C : gC p s m args meth c cc nL ret own D cl tys A0 H0) {va : Value} (hd : decode cc pc = .ok (.pop, 1)) (ha : va.category = 1) (k : gG p l e R s m args below meth c nL D cl A0 H0 cells slots Q w (pc + 1) lv (st)) : gG p l e R s m args below meth c nL D cl A0 H0 cells slots Q w pc lv (va :: st) :=
  fun H locs ls hP hD hS hl => lv_pop C.1 C.2.1 hd ha (k H locs ls hP hD hS hl)
theorem g_dup_x1 (C : gC p s m args meth c cc nL ret own D cl tys A0 H0) {va vb : Value} (hd : decode cc pc = .ok (.dup_x1, 1)) (ha : va.category = 1) (hb : vb.category = 1) (k : gG p l e R s m args below meth c nL D cl A0 H0 cells slots Q w (pc + 1) lv (va :: vb :: va :: st)) : gG p l e R s m args below meth c nL D cl A0 H0 cells slots Q w pc lv (va :: vb :: st) :=
  fun H locs ls hP hD hS hl => lv_dup_x1 C.1 C.2.1 hd ha hb (k H locs ls hP hD hS hl)
theorem g_dup_x2 (C : gC p s m args meth c cc nL ret own D cl tys A0 H0) {va vb vd : Value} (hd : decode cc pc = .ok (.dup_x2, 1)) (ha : va.category = 1) (hb : vb.category = 1) (hc : vd.category = 1) (k : gG p l e R s m args below meth c nL D cl A0 H0 cells slots Q w (pc + 1) lv (va :: vb :: vd :: va :: st)) : gG p l e R s m args below meth c nL D cl A0 H0 cells slots Q w pc lv (va :: vb :: vd :: st) :=
  fun H locs ls hP hD hS hl => lv_dup_x2 C.1 C.2.1 hd ha hb hc (k H locs ls hP hD hS hl)
theorem g_dup2_11 (C : gC p s m args meth c cc nL ret own D cl tys A0 H0) {va vb : Value} (hd : decode cc pc = .ok (.dup2, 1)) (ha : va.category = 1) (hb : vb.category = 1) (k : gG p l e R s m args below meth c nL D cl A0 H0 cells slots Q w (pc + 1) lv (va :: vb :: va :: vb :: st)) : gG p l e R s m args below meth c nL D cl A0 H0 cells slots Q w pc lv (va :: vb :: st) :=
  fun H locs ls hP hD hS hl => lv_dup2_11 C.1 C.2.1 hd ha hb (k H locs ls hP hD hS hl)
theorem g_goto (C : gC p s m args meth c cc nL ret own D cl tys A0 H0) {off : Int} {tgt : Nat} (hd : decode cc pc = .ok (.goto off, 3)) (ht : (pc : Int) + off = (tgt : Int)) (k : gG p l e R s m args below meth c nL D cl A0 H0 cells slots Q w tgt lv st) : gG p l e R s m args below meth c nL D cl A0 H0 cells slots Q w pc lv st :=
  fun H locs ls hP hD hS hl => lv_goto C.1 C.2.1 hd ht (k H locs ls hP hD hS hl)
theorem g_if_eq (C : gC p s m args meth c cc nL ret own D cl tys A0 H0) {x : Int32} {off : Int} {tgt : Nat} (hd : decode cc pc = .ok (.ifCond .eq off, 3)) (ht : (pc : Int) + off = (tgt : Int)) (kt : x = 0 → gG p l e R s m args below meth c nL D cl A0 H0 cells slots Q w tgt lv st) (kf : ¬ (x = 0) → gG p l e R s m args below meth c nL D cl A0 H0 cells slots Q w (pc + 3) lv st) : gG p l e R s m args below meth c nL D cl A0 H0 cells slots Q w pc lv (.int x :: st) :=
  fun H locs ls hP hD hS hl => lv_if_eq C.1 C.2.1 hd ht (fun h => kt h H locs ls hP hD hS hl) (fun h => kf h H locs ls hP hD hS hl)
theorem g_icmp_eq (C : gC p s m args meth c cc nL ret own D cl tys A0 H0) {x y : Int32} {off : Int} {tgt : Nat} (hd : decode cc pc = .ok (.if_icmp .eq off, 3)) (ht : (pc : Int) + off = (tgt : Int)) (kt : x = y → gG p l e R s m args below meth c nL D cl A0 H0 cells slots Q w tgt lv st) (kf : ¬ (x = y) → gG p l e R s m args below meth c nL D cl A0 H0 cells slots Q w (pc + 3) lv st) : gG p l e R s m args below meth c nL D cl A0 H0 cells slots Q w pc lv (.int y :: .int x :: st) :=
  fun H locs ls hP hD hS hl => lv_icmp_eq C.1 C.2.1 hd ht (fun h => kt h H locs ls hP hD hS hl) (fun h => kf h H locs ls hP hD hS hl)
theorem g_if_ne (C : gC p s m args meth c cc nL ret own D cl tys A0 H0) {x : Int32} {off : Int} {tgt : Nat} (hd : decode cc pc = .ok (.ifCond .ne off, 3)) (ht : (pc : Int) + off = (tgt : Int)) (kt : ¬ x = 0 → gG p l e R s m args below meth c nL D cl A0 H0 cells slots Q w tgt lv st) (kf : x = 0 → gG p l e R s m args below meth c nL D cl A0 H0 cells slots Q w (pc + 3) lv st) : gG p l e R s m args below meth c nL D cl A0 H0 cells slots Q w pc lv (.int x :: st) :=
  fun H locs ls hP hD hS hl => lv_if_ne C.1 C.2.1 hd ht (fun h => kt h H locs ls hP hD hS hl) (fun h => kf h H locs ls hP hD hS hl)
theorem g_icmp_ne (C : gC p s m args meth c cc nL ret own D cl tys A0 H0) {x y : Int32} {off : Int} {tgt : Nat} (hd : decode cc pc = .ok (.if_icmp .ne off, 3)) (ht : (pc : Int) + off = (tgt : Int)) (kt : ¬ x = y → gG p l e R s m args below meth c nL D cl A0 H0 cells slots Q w tgt lv st) (kf : x = y → gG p l e R s m args below meth c nL D cl A0 H0 cells slots Q w (pc + 3) lv st) : gG p l e R s m args below meth c nL D cl A0 H0 cells slots Q w pc lv (.int y :: .int x :: st) :=
  fun H locs ls hP hD hS hl => lv_icmp_ne C.1 C.2.1 hd ht (fun h => kt h H locs ls hP hD hS hl) (fun h => kf h H locs ls hP hD hS hl)
theorem g_if_lt (C : gC p s m args meth c cc nL ret own D cl tys A0 H0) {x : Int32} {off : Int} {tgt : Nat} (hd : decode cc pc = .ok (.ifCond .lt off, 3)) (ht : (pc : Int) + off = (tgt : Int)) (kt : x < 0 → gG p l e R s m args below meth c nL D cl A0 H0 cells slots Q w tgt lv st) (kf : ¬ (x < 0) → gG p l e R s m args below meth c nL D cl A0 H0 cells slots Q w (pc + 3) lv st) : gG p l e R s m args below meth c nL D cl A0 H0 cells slots Q w pc lv (.int x :: st) :=
  fun H locs ls hP hD hS hl => lv_if_lt C.1 C.2.1 hd ht (fun h => kt h H locs ls hP hD hS hl) (fun h => kf h H locs ls hP hD hS hl)
theorem g_icmp_lt (C : gC p s m args meth c cc nL ret own D cl tys A0 H0) {x y : Int32} {off : Int} {tgt : Nat} (hd : decode cc pc = .ok (.if_icmp .lt off, 3)) (ht : (pc : Int) + off = (tgt : Int)) (kt : x < y → gG p l e R s m args below meth c nL D cl A0 H0 cells slots Q w tgt lv st) (kf : ¬ (x < y) → gG p l e R s m args below meth c nL D cl A0 H0 cells slots Q w (pc + 3) lv st) : gG p l e R s m args below meth c nL D cl A0 H0 cells slots Q w pc lv (.int y :: .int x :: st) :=
  fun H locs ls hP hD hS hl => lv_icmp_lt C.1 C.2.1 hd ht (fun h => kt h H locs ls hP hD hS hl) (fun h => kf h H locs ls hP hD hS hl)
theorem g_if_ge (C : gC p s m args meth c cc nL ret own D cl tys A0 H0) {x : Int32} {off : Int} {tgt : Nat} (hd : decode cc pc = .ok (.ifCond .ge off, 3)) (ht : (pc : Int) + off = (tgt : Int)) (kt : 0 ≤ x → gG p l e R s m args below meth c nL D cl A0 H0 cells slots Q w tgt lv st) (kf : ¬ (0 ≤ x) → gG p l e R s m args below meth c nL D cl A0 H0 cells slots Q w (pc + 3) lv st) : gG p l e R s m args below meth c nL D cl A0 H0 cells slots Q w pc lv (.int x :: st) :=
  fun H locs ls hP hD hS hl => lv_if_ge C.1 C.2.1 hd ht (fun h => kt h H locs ls hP hD hS hl) (fun h => kf h H locs ls hP hD hS hl)
theorem g_icmp_ge (C : gC p s m args meth c cc nL ret own D cl tys A0 H0) {x y : Int32} {off : Int} {tgt : Nat} (hd : decode cc pc = .ok (.if_icmp .ge off, 3)) (ht : (pc : Int) + off = (tgt : Int)) (kt : y ≤ x → gG p l e R s m args below meth c nL D cl A0 H0 cells slots Q w tgt lv st) (kf : ¬ (y ≤ x) → gG p l e R s m args below meth c nL D cl A0 H0 cells slots Q w (pc + 3) lv st) : gG p l e R s m args below meth c nL D cl A0 H0 cells slots Q w pc lv (.int y :: .int x :: st) :=
  fun H locs ls hP hD hS hl => lv_icmp_ge C.1 C.2.1 hd ht (fun h => kt h H locs ls hP hD hS hl) (fun h => kf h H locs ls hP hD hS hl)
theorem g_if_gt (C : gC p s m args meth c cc nL ret own D cl tys A0 H0) {x : Int32} {off : Int} {tgt : Nat} (hd : decode cc pc = .ok (.ifCond .gt off, 3)) (ht : (pc : Int) + off = (tgt : Int)) (kt : 0 < x → gG p l e R s m args below meth c nL D cl A0 H0 cells slots Q w tgt lv st) (kf : ¬ (0 < x) → gG p l e R s m args below meth c nL D cl A0 H0 cells slots Q w (pc + 3) lv st) : gG p l e R s m args below meth c nL D cl A0 H0 cells slots Q w pc lv (.int x :: st) :=
  fun H locs ls hP hD hS hl => lv_if_gt C.1 C.2.1 hd ht (fun h => kt h H locs ls hP hD hS hl) (fun h => kf h H locs ls hP hD hS hl)
theorem g_icmp_gt (C : gC p s m args meth c cc nL ret own D cl tys A0 H0) {x y : Int32} {off : Int} {tgt : Nat} (hd : decode cc pc = .ok (.if_icmp .gt off, 3)) (ht : (pc : Int) + off = (tgt : Int)) (kt : y < x → gG p l e R s m args below meth c nL D cl A0 H0 cells slots Q w tgt lv st) (kf : ¬ (y < x) → gG p l e R s m args below meth c nL D cl A0 H0 cells slots Q w (pc + 3) lv st) : gG p l e R s m args below meth c nL D cl A0 H0 cells slots Q w pc lv (.int y :: .int x :: st) :=
  fun H locs ls hP hD hS hl => lv_icmp_gt C.1 C.2.1 hd ht (fun h => kt h H locs ls hP hD hS hl) (fun h => kf h H locs ls hP hD hS hl)
theorem g_if_le (C : gC p s m args meth c cc nL ret own D cl tys A0 H0) {x : Int32} {off : Int} {tgt : Nat} (hd : decode cc pc = .ok (.ifCond .le off, 3)) (ht : (pc : Int) + off = (tgt : Int)) (kt : x ≤ 0 → gG p l e R s m args below meth c nL D cl A0 H0 cells slots Q w tgt lv st) (kf : ¬ (x ≤ 0) → gG p l e R s m args below meth c nL D cl A0 H0 cells slots Q w (pc + 3) lv st) : gG p l e R s m args below meth c nL D cl A0 H0 cells slots Q w pc lv (.int x :: st) :=
  fun H locs ls hP hD hS hl => lv_if_le C.1 C.2.1 hd ht (fun h => kt h H locs ls hP hD hS hl) (fun h => kf h H locs ls hP hD hS hl)
theorem g_icmp_le (C : gC p s m args meth c cc nL ret own D cl tys A0 H0) {x y : Int32} {off : Int} {tgt : Nat} (hd : decode cc pc = .ok (.if_icmp .le off, 3)) (ht : (pc : Int) + off = (tgt : Int)) (kt : x ≤ y → gG p l e R s m args below meth c nL D cl A0 H0 cells slots Q w tgt lv st) (kf : ¬ (x ≤ y) → gG p l e R s m args below meth c nL D cl A0 H0 cells slots Q w (pc + 3) lv st) : gG p l e R s m args below meth c nL D cl A0 H0 cells slots Q w pc lv (.int y :: .int x :: st) :=
  fun H locs ls hP hD hS hl => lv_icmp_le C.1 C.2.1 hd ht (fun h => kt h H locs ls hP hD hS hl) (fun h => kf h H locs ls hP hD hS hl)
theorem g_ldc2 (C : gC p s m args meth c cc nL ret own D cl tys A0 H0) {index : Nat} {v : Int64} (hc : Cond.constantLong own index v ∈ Wl) (hd : decode cc pc = .ok (.ldc2_w index, 3)) (k : gG p l e R s m args below meth c nL D cl A0 H0 cells slots Q w (pc + 3) lv (.long v :: st)) : gG p l e R s m args below meth c nL D cl A0 H0 cells slots Q w pc lv st :=
  fun H locs ls hP hD hS hl => lv_ldc2 C.1 C.2.1 C.2.2.2.2.1 (C.2.2.2.1 _ hc) hd (k H locs ls hP hD hS hl)
theorem g_ldcw (C : gC p s m args meth c cc nL ret own D cl tys A0 H0) {index : Nat} {v : Int32} (hc : Cond.constant own index v ∈ Wl) (hd : decode cc pc = .ok (.ldc_w index, 3)) (k : gG p l e R s m args below meth c nL D cl A0 H0 cells slots Q w (pc + 3) lv (.int v :: st)) : gG p l e R s m args below meth c nL D cl A0 H0 cells slots Q w pc lv st :=
  fun H locs ls hP hD hS hl => lv_ldcw C.1 C.2.1 C.2.2.2.2.1 (C.2.2.2.1 _ hc) hd (k H locs ls hP hD hS hl)
theorem g_sub {lv2 : List (Nat × Value)} (ks : List Nat) (h : lv_pick lv ks = lv2) (k : gG p l e R s m args below meth c nL D cl A0 H0 cells slots Q w pc lv2 st) : gG p l e R s m args below meth c nL D cl A0 H0 cells slots Q w pc lv st := fun H locs ls hP hD hS hl => k H locs ls hP hD hS (lv_sub hl ks h)
theorem g_eq {w2 : va_W} {st2 : List Value} (hw : w = w2) (hs : st = st2) (k : gG p l e R s m args below meth c nL D cl A0 H0 cells slots Q w2 pc lv st2) : gG p l e R s m args below meth c nL D cl A0 H0 cells slots Q w pc lv st := by subst hw; subst hs; exact k
theorem g_mmax (C : gC p s m args meth c cc nL ret own D cl tys A0 H0) {index : Nat} {x y : Int32} (hlk : Cond.methodLink own index Lib.Math.max.name ∈ Wl) (hst : Cond.static Lib.Math.max.name ∈ Wl) (hin : Cond.initialized "java/lang/Math" ∈ Wl) (hco : Cond.code Lib.Math.max.name Lib.Math.max.code 2 (some .int) ∈ Wl) (hR : 1 ≤ R.frames ∧ (st.map fun v => v.category).sum + 13 ≤ R.locals ∧ cells ≤ R.cells ∧ slots ≤ R.slots) (hd : decode cc pc = .ok (.invokestatic index, 3)) (k : gG p l e R s m args below meth c nL D cl A0 H0 cells slots Q w (pc + 3) lv (.int (if x < y then y else x) :: st)) : gG p l e R s m args below meth c nL D cl A0 H0 cells slots Q w pc lv (.int y :: .int x :: st) :=
  fun H locs ls hP hD hS hl => va_mmax C.1 C.2.1 (C.2.2.2.2.2.2.1.trans hl.1.symm) C.2.2.2.2.1 (C.2.2.2.1 _ hlk) (C.2.2.2.1 _ hst) (C.2.2.2.1 _ hin) (C.2.2.2.1 _ hco) hR.1 hR.2.1 hR.2.2.1 hR.2.2.2 hd (k H locs ls hP hD hS hl)
theorem g_mabs (C : gC p s m args meth c cc nL ret own D cl tys A0 H0) {index : Nat} {x : Int32} (hlk : Cond.methodLink own index Lib.Math.abs.name ∈ Wl) (hst : Cond.static Lib.Math.abs.name ∈ Wl) (hin : Cond.initialized "java/lang/Math" ∈ Wl) (hco : Cond.code Lib.Math.abs.name Lib.Math.abs.code 1 (some .int) ∈ Wl) (hR : 1 ≤ R.frames ∧ (st.map fun v => v.category).sum + 13 ≤ R.locals ∧ cells ≤ R.cells ∧ slots ≤ R.slots) (hd : decode cc pc = .ok (.invokestatic index, 3)) (k : gG p l e R s m args below meth c nL D cl A0 H0 cells slots Q w (pc + 3) lv (.int (if 0 ≤ x then x else 0 - x) :: st)) : gG p l e R s m args below meth c nL D cl A0 H0 cells slots Q w pc lv (.int x :: st) :=
  fun H locs ls hP hD hS hl => va_mabs C.1 C.2.1 (C.2.2.2.2.2.2.1.trans hl.1.symm) C.2.2.2.2.1 (C.2.2.2.1 _ hlk) (C.2.2.2.1 _ hst) (C.2.2.2.1 _ hin) (C.2.2.2.1 _ hco) hR.1 hR.2.1 hR.2.2.1 hR.2.2.2 hd (k H locs ls hP hD hS hl)
end
end
section
-- memories: rows of numbers, and a long; the two worlds over them
abbrev MM : Type := (Nat → Nat → Int32) × Int64
def mU (M : MM) (r c : Nat) (v : Int32) : MM := (fun r2 c2 => if r2 = r ∧ c2 = c then v else M.1 r2 c2, M.2)
def mL (M : MM) (v : Int64) : MM := (M.1, v)
def mR (M : MM) (r : Nat) (f : Nat → Int32) : MM := (fun r2 => if r2 = r then f else M.1 r2, M.2)
def aR (k : Nat) : Nat := if k = 2 then 1 else if k < 9 then k - 2 else if k < 16 then k - 7 else 9 + (k - 16) / 5
def aO (k : Nat) : Nat := if k < 16 then 0 else if (k - 16) % 5 = 1 then 0 else if (k - 16) % 5 = 2 then 6 else if (k - 16) % 5 = 3 then 12 else 18
def aN (k : Nat) : Nat := if k = 2 then 48 else if k < 9 then 5 else if k < 16 then 6 else if (k - 16) % 5 = 1 then 5 else if (k - 16) % 5 = 2 then 6 else if (k - 16) % 5 = 3 then 6 else 5
def aI (k : Nat) : Prop := k = 2 ∨ (4 ≤ k ∧ k < 9) ∨ k = 14 ∨ k = 15 ∨ (16 < k ∧ k < 106 ∧ (k - 16) % 5 ≠ 0)
-- object k of the class is an array of numbers: row, first column, length
def arr (k r o n : Nat) : Prop := aI k ∧ aR k = r ∧ aO k = o ∧ aN k = n
theorem arr_pl {i : Nat} (h : i < 18) : arr (16 + 5 * i + 1) (9 + i) 0 5 := by
  unfold arr aI aR aO aN
  rw [show 16 + 5 * i + 1 - 16 = 5 * i + 1 by omega, show (5 * i + 1) % 5 = 1 by omega, show (5 * i + 1) / 5 = i by omega]
  exact ⟨by omega, (if_neg (by omega)).trans ((if_neg (by omega)).trans (if_neg (by omega))), (if_neg (by omega)).trans (by decide), (if_neg (by omega)).trans ((if_neg (by omega)).trans ((if_neg (by omega)).trans (by decide)))⟩
theorem arr_la {i : Nat} (h : i < 18) : arr (16 + 5 * i + 2) (9 + i) 6 6 := by
  unfold arr aI aR aO aN
  rw [show 16 + 5 * i + 2 - 16 = 5 * i + 2 by omega, show (5 * i + 2) % 5 = 2 by omega, show (5 * i + 2) / 5 = i by omega]
  exact ⟨by omega, (if_neg (by omega)).trans ((if_neg (by omega)).trans (if_neg (by omega))), (if_neg (by omega)).trans (by decide), (if_neg (by omega)).trans ((if_neg (by omega)).trans ((if_neg (by omega)).trans (by decide)))⟩
theorem arr_we {i : Nat} (h : i < 18) : arr (16 + 5 * i + 3) (9 + i) 12 6 := by
  unfold arr aI aR aO aN
  rw [show 16 + 5 * i + 3 - 16 = 5 * i + 3 by omega, show (5 * i + 3) % 5 = 3 by omega, show (5 * i + 3) / 5 = i by omega]
  exact ⟨by omega, (if_neg (by omega)).trans ((if_neg (by omega)).trans (if_neg (by omega))), (if_neg (by omega)).trans (by decide), (if_neg (by omega)).trans ((if_neg (by omega)).trans ((if_neg (by omega)).trans (by decide)))⟩
theorem arr_fa {i : Nat} (h : i < 18) : arr (16 + 5 * i + 4) (9 + i) 18 5 := by
  unfold arr aI aR aO aN
  rw [show 16 + 5 * i + 4 - 16 = 5 * i + 4 by omega, show (5 * i + 4) % 5 = 4 by omega, show (5 * i + 4) / 5 = i by omega]
  exact ⟨by omega, (if_neg (by omega)).trans ((if_neg (by omega)).trans (if_neg (by omega))), (if_neg (by omega)).trans (by decide), (if_neg (by omega)).trans ((if_neg (by omega)).trans ((if_neg (by omega)).trans (by decide)))⟩
def cC (a : Nat → Nat) (cI cS : ClassId) (M : MM) (k : Nat) : va_E :=
  if k = 0 then .inr (6, [.ref (a 1), .ref (a 3), .ref (a 16), .ref (a 21), .ref (a 9), .ref (a 11), .ref (a 13), .long M.2])
  else if k = 1 then .inr (4, [.ref (a 2), .int (M.1 0 0)])
  else if k = 3 then .inr (2, [.int (M.1 0 1), .int (M.1 0 2), .ref (a 4), .ref (a 5), .ref (a 6), .ref (a 7), .ref (a 8)])
  else if k = 9 then .inr (1, [.ref (a 10), .int (M.1 0 3), .int (M.1 0 4)])
  else if k = 10 then .inl (cS, 14, .inr (.inr (.inr (.inr (fun j => some (a (16 + 5 * (2 + j))))))))
  else if k = 11 then .inr (5, [.ref (a 12), .int (M.1 0 5)])
  else if k = 12 then .inl (cS, 2, .inr (.inr (.inr (.inr (fun j => some (a (16 + 5 * (16 + j))))))))
  else if k = 13 then .inr (0, [.ref (a 14), .ref (a 15), .int (M.1 0 6), .int (M.1 0 7)])
  else if 16 ≤ k ∧ (k - 16) % 5 = 0 then .inr (3, [.ref (a 3), .ref (a (k + 1)), .ref (a (k + 2)), .ref (a (k + 3)), .ref (a (k + 4)), .int (M.1 (9 + (k - 16) / 5) 5), .int (M.1 (9 + (k - 16) / 5) 23)])
  else .inl (cI, aN k, .inl (fun j => M.1 (aR k) (aO k + j)))
theorem cC_arr {a : Nat → Nat} {cI cS : ClassId} {M : MM} {k r o n : Nat} (h : arr k r o n) : cC a cI cS M k = .inl (cI, n, .inl (fun j => M.1 r (o + j))) := by
  obtain ⟨h, rfl, rfl, rfl⟩ := h
  unfold aI at h
  unfold cC
  rw [if_neg (by omega), if_neg (by omega), if_neg (by omega), if_neg (by omega), if_neg (by omega), if_neg (by omega), if_neg (by omega), if_neg (by omega), if_neg (by omega)]
theorem cC_sc {a : Nat → Nat} {cI cS : ClassId} {M : MM} (i : Nat) : cC a cI cS M (16 + 5 * i) = .inr (3, [.ref (a 3), .ref (a (16 + 5 * i + 1)), .ref (a (16 + 5 * i + 2)), .ref (a (16 + 5 * i + 3)), .ref (a (16 + 5 * i + 4)), .int (M.1 (9 + i) 5), .int (M.1 (9 + i) 23)]) := by
  unfold cC
  rw [if_neg (by omega), if_neg (by omega), if_neg (by omega), if_neg (by omega), if_neg (by omega), if_neg (by omega), if_neg (by omega), if_neg (by omega), if_pos (by omega), show (16 + 5 * i - 16) / 5 = i by omega]
theorem cC_aN {k r o n : Nat} (h : arr k r o n) : k < 106 := by
  obtain ⟨h, -⟩ := h
  unfold aI at h
  omega
theorem ap_num {k k2 : Nat} (h : aI k) (h2 : aI k2) (hne : k2 ≠ k) (j j2 : Nat) (hj : j < aN k) (hj2 : j2 < aN k2) : ¬ (aR k2 = aR k ∧ aO k2 + j2 = aO k + j) := by
  unfold aI at h h2
  unfold aN at hj hj2
  unfold aR aO
  intro q
  obtain ⟨q1, q2⟩ := q
  by_cases g1 : k < 16 <;> by_cases g2 : k2 < 16
  · simp only [g1, g2, if_true] at q2
    repeat' split at q1
    all_goals first | omega | (simp only [g1, g2] at *; omega)
  · repeat' split at q1
    all_goals omega
  · repeat' split at q1
    all_goals omega
  · have e1 : (k - 16) / 5 = (k2 - 16) / 5 := by
      repeat' split at q1
      all_goals omega
    simp only [if_neg g1, if_neg g2] at q2
    have r1 : ¬ k = 2 := by omega
    have r2 : ¬ k < 9 := by omega
    have r3 : ¬ k2 = 2 := by omega
    have r4 : ¬ k2 < 9 := by omega
    simp only [if_neg g1, if_neg g2, if_neg r1, if_neg r2, if_neg r3, if_neg r4] at hj hj2
    have e2 : (k - 16) % 5 ≠ (k2 - 16) % 5 := by omega
    have b1 : (k - 16) % 5 < 5 := Nat.mod_lt _ (by omega)
    have b2 : (k2 - 16) % 5 < 5 := Nat.mod_lt _ (by omega)
    generalize (k - 16) % 5 = u at *
    generalize (k2 - 16) % 5 = v at *
    rcases (show u = 1 ∨ u = 2 ∨ u = 3 ∨ u = 4 by omega) with rfl | rfl | rfl | rfl <;> rcases (show v = 1 ∨ v = 2 ∨ v = 3 ∨ v = 4 by omega) with rfl | rfl | rfl | rfl <;> simp at * <;> omega
end
section
def own (i r c : Nat) : Prop := (i = 1 ∧ r = 0 ∧ c = 0) ∨ (i = 3 ∧ r = 0 ∧ (c = 1 ∨ c = 2)) ∨ (i = 9 ∧ r = 0 ∧ (c = 3 ∨ c = 4)) ∨ (i = 11 ∧ r = 0 ∧ c = 5) ∨ (i = 13 ∧ r = 0 ∧ (c = 6 ∨ c = 7)) ∨ (16 ≤ i ∧ (i - 16) % 5 = 0 ∧ r = 9 + (i - 16) / 5 ∧ (c = 5 ∨ c = 23)) ∨ (aI i ∧ r = aR i ∧ aO i ≤ c ∧ c < aO i + aN i)
theorem aR_pos {k : Nat} (h : aI k) : 1 ≤ aR k := by
  unfold aI at h
  unfold aR
  repeat' split
  all_goals omega
theorem own_as {i i2 r c : Nat} (h : aI i) (hr : r = aR i) (h1 : aO i ≤ c) (h2 : c < aO i + aN i) (g1 : 16 ≤ i2) (g2 : (i2 - 16) % 5 = 0) (g3 : r = 9 + (i2 - 16) / 5) (g4 : c = 5 ∨ c = 23) : False := by
  unfold aI at h
  have e : 16 ≤ i := by
    unfold aR at hr
    by_cases g : 16 ≤ i
    · exact g
    · repeat' split at hr
      all_goals omega
  unfold aO at h1 h2
  unfold aN at h2
  have r1 : ¬ i < 16 := by omega
  have r2 : ¬ i = 2 := by omega
  have r3 : ¬ i < 9 := by omega
  simp only [if_neg r1, if_neg r2, if_neg r3] at h1 h2
  have b1 : (i - 16) % 5 < 5 := Nat.mod_lt _ (by omega)
  have b2 : (i - 16) % 5 ≠ 0 := by omega
  generalize (i - 16) % 5 = u at *
  rcases (show u = 1 ∨ u = 2 ∨ u = 3 ∨ u = 4 by omega) with rfl | rfl | rfl | rfl <;> simp at * <;> omega
theorem own_one {i i2 r c : Nat} (h : own i r c) (h2 : own i2 r c) : i = i2 := by
  unfold own at h h2
  rcases h with h | h | h | h | h | h | ⟨h, hr, ha, hb⟩ <;> rcases h2 with g | g | g | g | g | g | ⟨g, gr, ga, gb⟩
  all_goals first
    | omega
    | (exfalso; have := aR_pos h; omega)
    | (exfalso; have := aR_pos g; omega)
    | (exact (own_as h hr ha hb g.1 g.2.1 g.2.2.1 g.2.2.2).elim)
    | (exact (own_as g gr ga gb h.1 h.2.1 h.2.2.1 h.2.2.2).elim)
    | skip
  by_cases e : i = i2
  · exact e
  · exact (ap_num h g (Ne.symm e) (c - aO i) (c - aO i2) (by omega) (by omega) ⟨by omega, by omega⟩).elim
theorem cC_arr0 {a : Nat → Nat} {cI cS : ClassId} {M : MM} {k : Nat} (h : aI k) : cC a cI cS M k = .inl (cI, aN k, .inl (fun j => M.1 (aR k) (aO k + j))) := cC_arr ⟨h, rfl, rfl, rfl⟩
theorem cC_ve {a : Nat → Nat} {cI cS : ClassId} {M M2 : MM} {i : Nat} (hi : i < 106) (hs : M2.2 = M.2 ∨ i ≠ 0) (h : ∀ r c, own i r c → M2.1 r c = M.1 r c) : ve (cC a cI cS M i) (cC a cI cS M2 i) := by
  by_cases ha : aI i
  · rw [cC_arr0 ha, cC_arr0 ha]
    exact ve_arr (fun j hj => (h _ _ (Or.inr (Or.inr (Or.inr (Or.inr (Or.inr (Or.inr ⟨ha, rfl, by omega, by omega⟩))))))).symm)
  · apply ve_eq
    unfold cC
    by_cases e0 : i = 0
    · rw [if_pos e0, if_pos e0]
      rcases hs with hs | hs
      · rw [hs]
      · exact absurd e0 hs
    rw [if_neg e0, if_neg e0]
    by_cases e1 : i = 1
    · rw [if_pos e1, if_pos e1, h 0 0 (by unfold own; omega)]
    rw [if_neg e1, if_neg e1]
    by_cases e3 : i = 3
    · rw [if_pos e3, if_pos e3, h 0 1 (by unfold own; omega), h 0 2 (by unfold own; omega)]
    rw [if_neg e3, if_neg e3]
    by_cases e9 : i = 9
    · rw [if_pos e9, if_pos e9, h 0 3 (by unfold own; omega), h 0 4 (by unfold own; omega)]
    rw [if_neg e9, if_neg e9]
    by_cases e10 : i = 10
    · rw [if_pos e10, if_pos e10]
    rw [if_neg e10, if_neg e10]
    by_cases e11 : i = 11
    · rw [if_pos e11, if_pos e11, h 0 5 (by unfold own; omega)]
    rw [if_neg e11, if_neg e11]
    by_cases e12 : i = 12
    · rw [if_pos e12, if_pos e12]
    rw [if_neg e12, if_neg e12]
    by_cases e13 : i = 13
    · rw [if_pos e13, if_pos e13, h 0 6 (by unfold own; omega), h 0 7 (by unfold own; omega)]
    rw [if_neg e13, if_neg e13]
    have es : 16 ≤ i ∧ (i - 16) % 5 = 0 := by unfold aI at ha; omega
    rw [if_pos es, if_pos es, h (9 + (i - 16) / 5) 5 (by unfold own; omega), h (9 + (i - 16) / 5) 23 (by unfold own; omega)]
theorem mU_at {M : MM} {r c : Nat} {v : Int32} : (mU M r c v).1 r c = v := if_pos ⟨rfl, rfl⟩
theorem mU_ne {M : MM} {r c r2 c2 : Nat} {v : Int32} (h : ¬ (r2 = r ∧ c2 = c)) : (mU M r c v).1 r2 c2 = M.1 r2 c2 := if_neg h
-- a put of a number into location (r, c) of object k
theorem cC_put {a : Nat → Nat} {cI cS : ClassId} {M : MM} {k r c : Nat} {v : Int32} {e : va_E} (ho : own k r c) (he : ve e (cC a cI cS (mU M r c v) k)) : ∀ i, i < 106 → ve (if i = k then e else cC a cI cS M i) (cC a cI cS (mU M r c v) i) := by
  intro i hi
  by_cases hik : i = k
  · subst hik; rw [if_pos rfl]; exact he
  · rw [if_neg hik]
    exact cC_ve hi (Or.inl rfl) (fun r2 c2 h2 => mU_ne (fun q => hik (own_one h2 (by rw [q.1, q.2]; exact ho))))
theorem cC_putL {a : Nat → Nat} {cI cS : ClassId} {M : MM} {v : Int64} {e : va_E} (he : ve e (cC a cI cS (mL M v) 0)) : ∀ i, i < 106 → ve (if i = 0 then e else cC a cI cS M i) (cC a cI cS (mL M v) i) := by
  intro i hi
  by_cases hik : i = 0
  · subst hik; rw [if_pos rfl]; exact he
  · rw [if_neg hik]
    exact cC_ve hi (Or.inr hik) (fun r2 c2 h2 => rfl)
-- the reference's world
def lnM (k : Nat) : Nat := if k = 1 then 48 else if k = 2 then 5 else if k = 3 then 15 else if k = 4 then 10 else if k = 5 then 15 else if k < 8 then 24 else if k = 8 then 336 else if k = 9 then 48 else if k = 10 then 2 else if k < 14 then 6 else if k = 14 then 8 else 32
def cD (a : Nat → Nat) (cI cZ : ClassId) (M : MM) (k : Nat) : va_E :=
  if k = 0 then .inr (7, [.int (M.1 0 0), .ref (a 1), .int (M.1 0 1), .int (M.1 0 2), .int (M.1 0 3), .ref (a 2), .int (M.1 0 4), .ref (a 3), .int (M.1 0 5), .ref (a 4), .int (M.1 0 6), .ref (a 5), .ref (a 6), .ref (a 7), .ref (a 8), .int (M.1 0 7), .ref (a 9), .ref (a 10), .int (M.1 0 8), .ref (a 11), .ref (a 12), .ref (a 13), .long M.2, .int (M.1 0 9), .int (M.1 0 10), .int (M.1 0 11), .int (M.1 0 12), .int (M.1 0 13), .int (M.1 0 14), .ref (a 14), .ref (a 15)])
  else .inl (if k = 10 then cZ else cI, lnM k, .inl (fun j => M.1 k j))
theorem cD_0 {a : Nat → Nat} {cI cZ : ClassId} {M : MM} : cD a cI cZ M 0 = .inr (7, [.int (M.1 0 0), .ref (a 1), .int (M.1 0 1), .int (M.1 0 2), .int (M.1 0 3), .ref (a 2), .int (M.1 0 4), .ref (a 3), .int (M.1 0 5), .ref (a 4), .int (M.1 0 6), .ref (a 5), .ref (a 6), .ref (a 7), .ref (a 8), .int (M.1 0 7), .ref (a 9), .ref (a 10), .int (M.1 0 8), .ref (a 11), .ref (a 12), .ref (a 13), .long M.2, .int (M.1 0 9), .int (M.1 0 10), .int (M.1 0 11), .int (M.1 0 12), .int (M.1 0 13), .int (M.1 0 14), .ref (a 14), .ref (a 15)]) := rfl
theorem cD_arr {a : Nat → Nat} {cI cZ : ClassId} {M : MM} {k : Nat} (h : 0 < k) (h2 : k ≠ 10) : cD a cI cZ M k = .inl (cI, lnM k, .inl (fun j => M.1 k j)) := by unfold cD; rw [if_neg (by omega), if_neg h2]
theorem cD_arrZ {a : Nat → Nat} {cI cZ : ClassId} {M : MM} : cD a cI cZ M 10 = .inl (cZ, 2, .inl (fun j => M.1 10 j)) := rfl
theorem cD_ve {a : Nat → Nat} {cI cZ : ClassId} {M M2 : MM} {i : Nat} (h0 : i = 0 → M2.2 = M.2 ∧ ∀ c, c < 15 → M2.1 0 c = M.1 0 c) (h : i ≠ 0 → ∀ c, c < lnM i → M2.1 i c = M.1 i c) : ve (cD a cI cZ M i) (cD a cI cZ M2 i) := by
  by_cases e : i = 0
  · subst e
    obtain ⟨h1, h2⟩ := h0 rfl
    apply ve_eq
    rw [cD_0, cD_0, h1, h2 0 (by omega), h2 1 (by omega), h2 2 (by omega), h2 3 (by omega), h2 4 (by omega), h2 5 (by omega), h2 6 (by omega), h2 7 (by omega), h2 8 (by omega), h2 9 (by omega), h2 10 (by omega), h2 11 (by omega), h2 12 (by omega), h2 13 (by omega), h2 14 (by omega)]
  · unfold cD
    rw [if_neg e, if_neg e]
    exact ve_arr (fun j hj => (h e j hj).symm)
theorem cD_put {a : Nat → Nat} {cI cZ : ClassId} {M : MM} {k c : Nat} {v : Int32} {e : va_E} (he : ve e (cD a cI cZ (mU M k c v) k)) : ∀ i, i < 16 → ve (if i = k then e else cD a cI cZ M i) (cD a cI cZ (mU M k c v) i) := by
  intro i hi
  by_cases hik : i = k
  · subst hik; rw [if_pos rfl]; exact he
  · rw [if_neg hik]
    exact cD_ve (fun e0 => ⟨rfl, fun c2 _ => mU_ne (fun q => hik (e0.trans q.1))⟩) (fun _ c2 _ => mU_ne (fun q => hik q.1))
theorem cD_putL {a : Nat → Nat} {cI cZ : ClassId} {M : MM} {v : Int64} {e : va_E} (he : ve e (cD a cI cZ (mL M v) 0)) : ∀ i, i < 16 → ve (if i = 0 then e else cD a cI cZ M i) (cD a cI cZ (mL M v) i) := by
  intro i hi
  by_cases hik : i = 0
  · subst hik; rw [if_pos rfl]; exact he
  · rw [if_neg hik]
    exact cD_ve (fun e0 => absurd e0 hik) (fun _ c2 _ => rfl)
end
section
-- rows over a world of functions; contracts; calls
section
variable {p : Program} {l : Launch} {e : Env} {R : Room} {s : State} {m : MethodId} {args : Array Value} {below : List Frame} {meth : Method} {c : Code} {cells slots : Nat} {Q : State → Prop} {D : va_G} {cl : List vw_C} {tys : List (ClassId × FieldType)} {A0 : Nat → Prop} {H0 : Heap} {cc : ByteArray} {nL : Nat} {ret : Option FieldType} {own : String} {w : va_W} {pc : Nat} {lv : List (Nat × Value)} {st : List Value} {n : Nat} {a : Nat → Nat} {g g2 : Nat → va_E}
theorem g_getf (C : gC p s m args meth c cc nL ret own D cl tys A0 H0) {k ci : Nat} {fs : List Value} (hk : k < n) (hg : g k = .inr (ci, fs)) {Cn : String} {T : u_T} {N : Nat} (hc : cl[ci]? = some (Cn, T, N)) (j : Nat) (hj : j < N) (hin : ∀ w ∈ u_ws Cn T N, w ∈ Wl) {index : Nat} (hlk : Cond.fieldLink own index (T j).1 (T j).2.1 (T j).2.2.1 ∈ Wl) {v : Value} (hv : fs[j]? = some v) (hd : decode cc pc = .ok (.getfield index, 3)) (kk : gG p l e R s m args below meth c nL D cl A0 H0 cells slots Q (wF n a g) (pc + 3) lv (v :: st)) : gG p l e R s m args below meth c nL D cl A0 H0 cells slots Q (wF n a g) pc lv (.ref (a k) :: st) :=
  fun H locs ls hP hD hS hl => va_get C.1 C.2.1 C.2.2.2.1 hin C.2.2.2.2.1 C.2.2.2.2.2.2.2.1.1 hP k (by rw [wF_get hk, hg]) hc j hj (C.2.2.2.1 _ hlk) (fun x hx => hx) hv hd (kk H locs ls hP hD hS hl)
theorem g_putf (C : gC p s m args meth c cc nL ret own D cl tys A0 H0) {k ci : Nat} {fs : List Value} (hk : k < n) (hg : g k = .inr (ci, fs)) {Cn : String} {T : u_T} {N : Nat} (hc : cl[ci]? = some (Cn, T, N)) (ty0 : Nat → FieldType) (hty : ∀ k, k < N → parseFieldDescriptor (T k).2.2.1 = some (ty0 k)) (hnm : ∀ a, a < N → ∀ b, b < N → a ≠ b → (T a).2.1 ≠ (T b).2.1) (j : Nat) (hj : j < N) (hin : ∀ w ∈ u_ws Cn T N, w ∈ Wl) {index : Nat} (hlk : Cond.fieldLink own index (T j).1 (T j).2.1 (T j).2.2.1 ∈ Wl) (hfin : (T j).2.2.2 = false) {ty : FieldType} {v : Value} (hpd : parseFieldDescriptor (T j).2.2.1 = some ty) (hn : narrow ty v = v) (hfit : fits ty v = true) (hlen : j < fs.length) (hu : ∀ i, i < n → ve (if i = k then .inr (ci, fs.set j v) else g i) (g2 i)) (hd : decode cc pc = .ok (.putfield index, 3)) (kk : gG p l e R s m args below meth c nL D cl A0 H0 cells slots Q (wF n a g2) (pc + 3) lv st) : gG p l e R s m args below meth c nL D cl A0 H0 cells slots Q (wF n a g) pc lv (v :: .ref (a k) :: st) :=
  fun H locs ls hP hD hS hl => va_put C.1 C.2.1 C.2.2.2.1 hin ty0 hty hnm C.2.2.2.2.1 C.2.2.2.2.2.2.2.1.1 hP hD hS k (by rw [wF_get hk, hg]) hc j hj (C.2.2.2.1 _ hlk) (fun x hx => hx) hfin hpd hn hfit hlen hd (fun H1 locs1 hP1 _ hS1 => kk H1 locs1 ls (wF_set hP1 hu) (wF_D hD) hS1 hl)
theorem g_iald (C : gC p s m args meth c cc nL ret own D cl tys A0 H0) {k : Nat} {cA : ClassId} {N t0 : Nat} {f : Nat → Int32} (hk : k < n) (hg : g k = .inl (cA, N, .inl f)) (ht : tys[t0]? = some (cA, .int)) {i : Int32} (hi : vp_in i N) (hd : decode cc pc = .ok (.iaload, 1)) (kk : gG p l e R s m args below meth c nL D cl A0 H0 cells slots Q (wF n a g) (pc + 1) lv (.int (f i.toNatClampNeg) :: st)) : gG p l e R s m args below meth c nL D cl A0 H0 cells slots Q (wF n a g) pc lv (.int i :: .ref (a k) :: st) :=
  fun H locs ls hP hD hS hl => va_iald C.1 C.2.1 C.2.2.2.2.2.2.2.1.1 hP k t0 (by rw [wF_get hk, hg]) ht hi hd (kk H locs ls hP hD hS hl)
theorem g_zald (C : gC p s m args meth c cc nL ret own D cl tys A0 H0) {k : Nat} {cA : ClassId} {N t0 : Nat} {f : Nat → Int32} (hk : k < n) (hg : g k = .inl (cA, N, .inl f)) (ht : tys[t0]? = some (cA, .boolean)) {i : Int32} (hi : vp_in i N) (hd : decode cc pc = .ok (.baload, 1)) (kk : gG p l e R s m args below meth c nL D cl A0 H0 cells slots Q (wF n a g) (pc + 1) lv (.int (f i.toNatClampNeg) :: st)) : gG p l e R s m args below meth c nL D cl A0 H0 cells slots Q (wF n a g) pc lv (.int i :: .ref (a k) :: st) :=
  fun H locs ls hP hD hS hl => va_zald C.1 C.2.1 C.2.2.2.2.2.2.2.1.1 hP k t0 (by rw [wF_get hk, hg]) ht hi hd (kk H locs ls hP hD hS hl)
theorem g_iast (C : gC p s m args meth c cc nL ret own D cl tys A0 H0) {k : Nat} {cA : ClassId} {N t0 : Nat} {f : Nat → Int32} (hk : k < n) (hg : g k = .inl (cA, N, .inl f)) (ht : tys[t0]? = some (cA, .int)) {i x : Int32} (hi : vp_in i N) (hu : ∀ j, j < n → ve (if j = k then .inl (cA, N, .inl (upd f i.toNatClampNeg x)) else g j) (g2 j)) (hd : decode cc pc = .ok (.iastore, 1)) (kk : gG p l e R s m args below meth c nL D cl A0 H0 cells slots Q (wF n a g2) (pc + 1) lv st) : gG p l e R s m args below meth c nL D cl A0 H0 cells slots Q (wF n a g) pc lv (.int x :: .int i :: .ref (a k) :: st) :=
  fun H locs ls hP hD hS hl => va_iast C.1 C.2.1 C.2.2.2.2.2.2.2.1.1 hP hD hS k t0 (by rw [wF_get hk, hg]) ht hi hd (fun H1 locs1 hP1 _ hS1 => kk H1 locs1 ls (wF_set hP1 hu) (wF_D hD) hS1 hl)
theorem g_zast (C : gC p s m args meth c cc nL ret own D cl tys A0 H0) {k : Nat} {cA : ClassId} {N t0 : Nat} {f : Nat → Int32} (hk : k < n) (hg : g k = .inl (cA, N, .inl f)) (ht : tys[t0]? = some (cA, .boolean)) {i x : Int32} (hi : vp_in i N) (hu : ∀ j, j < n → ve (if j = k then .inl (cA, N, .inl (upd f i.toNatClampNeg (vp_nar .boolean x))) else g j) (g2 j)) (hd : decode cc pc = .ok (.bastore, 1)) (kk : gG p l e R s m args below meth c nL D cl A0 H0 cells slots Q (wF n a g2) (pc + 1) lv st) : gG p l e R s m args below meth c nL D cl A0 H0 cells slots Q (wF n a g) pc lv (.int x :: .int i :: .ref (a k) :: st) :=
  fun H locs ls hP hD hS hl => va_zast C.1 C.2.1 C.2.2.2.2.2.2.2.1.1 hP hD hS k t0 (by rw [wF_get hk, hg]) ht hi hd (fun H1 locs1 hP1 _ hS1 => kk H1 locs1 ls (wF_set hP1 hu) (wF_D hD) hS1 hl)
theorem g_alen (C : gC p s m args meth c cc nL ret own D cl tys A0 H0) {k : Nat} {cA : ClassId} {x : vp_A} {t0 : Nat} {ty : FieldType} (hk : k < n) (hg : g k = .inl (cA, x)) (ht : tys[t0]? = some (cA, ty)) (hd : decode cc pc = .ok (.arraylength, 1)) (kk : gG p l e R s m args below meth c nL D cl A0 H0 cells slots Q (wF n a g) (pc + 1) lv (.int (nI x.1) :: st)) : gG p l e R s m args below meth c nL D cl A0 H0 cells slots Q (wF n a g) pc lv (.ref (a k) :: st) :=
  fun H locs ls hP hD hS hl => va_alen C.1 C.2.1 C.2.2.2.2.2.2.2.1.1 hP k t0 (by rw [wF_get hk, hg]) ht rfl hd (kk H locs ls hP hD hS hl)
theorem g_aldq (C : gC p s m args meth c cc nL ret own D cl tys A0 H0) {k : Nat} {cA : ClassId} {Cn : String} {N t0 : Nat} {f : Nat → Option Nat} (hk : k < n) (hg : g k = .inl (cA, N, .inr (.inr (.inr (.inr f))))) (ht : tys[t0]? = some (cA, .object Cn)) {i : Int32} (hi : vp_in i N) (hd : decode cc pc = .ok (.aaload, 1)) (kk : gG p l e R s m args below meth c nL D cl A0 H0 cells slots Q (wF n a g) (pc + 1) lv (va_rf (f i.toNatClampNeg) :: st)) : gG p l e R s m args below meth c nL D cl A0 H0 cells slots Q (wF n a g) pc lv (.int i :: .ref (a k) :: st) :=
  fun H locs ls hP hD hS hl => va_aldq C.1 C.2.1 C.2.2.2.2.2.2.2.1.1 hP k t0 (by rw [wF_get hk, hg]) ht hi hd (kk H locs ls hP hD hS hl)
theorem g_copyi (C : gC p s m args meth c cc nL ret own D cl tys A0 H0) {k0 k1 : Nat} {c0 c1 : ClassId} {n0 n1 t0 t1 : Nat} {f f1 : Nat → Int32} {index : Nat} (hlk : Cond.methodLink own index arraycopyName ∈ Wl) (hna : Cond.native arraycopyName ∈ Wl) (hst : Cond.static arraycopyName ∈ Wl) (hini : Cond.initialized "java/lang/System" ∈ Wl) (hk0 : k0 < n) (hk1 : k1 < n) (hg0 : g k0 = .inl (c0, n0, .inl f)) (hg1 : g k1 = .inl (c1, n1, .inl f1)) (ht0 : tys[t0]? = some (c0, .int)) (ht1 : tys[t1]? = some (c1, .int)) {sp dp nn : Int32} (h1 : ¬ sp < 0) (h2 : ¬ dp < 0) (h3 : ¬ nn < 0) (h4 : sp.toNatClampNeg + nn.toNatClampNeg ≤ n0) (h5 : dp.toNatClampNeg + nn.toNatClampNeg ≤ n1) (hR : 1 ≤ R.frames ∧ (st.map fun v => v.category).sum + (nativeFrameWords "java/lang/System" "arraycopy" 5 + 11) ≤ R.locals) (hu : ∀ j, j < n → ve (if j = k1 then .inl (c1, n1, .inl (va_cpy f f1 sp.toNatClampNeg dp.toNatClampNeg nn.toNatClampNeg)) else g j) (g2 j)) (hd : decode cc pc = .ok (.invokestatic index, 3)) (kk : gG p l e R s m args below meth c nL D cl A0 H0 cells slots Q (wF n a g2) (pc + 3) lv st) : gG p l e R s m args below meth c nL D cl A0 H0 cells slots Q (wF n a g) pc lv (.int nn :: .int dp :: .ref (a k1) :: .int sp :: .ref (a k0) :: st) :=
  fun H locs ls hP hD hS hl => va_copyi C.1 C.2.1 (C.2.2.2.2.2.2.1.trans hl.1.symm) C.2.2.2.2.1 (C.2.2.2.1 _ hlk) (C.2.2.2.1 _ hna) (C.2.2.2.1 _ hst) (C.2.2.2.1 _ hini) C.2.2.2.2.2.2.2.1.1 hP hD hS k0 k1 t0 t1 (by rw [wF_get hk0, hg0]) (by rw [wF_get hk1, hg1]) ht0 ht1 rfl h1 h2 h3 h4 h5 (fun _ _ => rfl) hR.1 hR.2 hd (fun H1 locs1 hP1 _ hS1 => kk H1 locs1 ls (wF_set hP1 hu) (wF_D hD) hS1 hl)
theorem g_tsIn (C : gC p s m args meth c cc nL ret own D cl tys A0 H0) {dflt lo hi : Int} {offs : Array Int} {len : Nat} {x : Int32} {off : Int} {tgt : Nat} (v : Int32) (hx : x = v) (hd : decode cc pc = .ok (.tableswitch dflt lo hi offs, len)) (h1 : ¬ v.toInt < lo) (h2 : ¬ hi < v.toInt) (ho : offs[(v.toInt - lo).toNat]? = some off) (ht : (pc : Int) + off = (tgt : Int)) (kk : gG p l e R s m args below meth c nL D cl A0 H0 cells slots Q w tgt lv st) : gG p l e R s m args below meth c nL D cl A0 H0 cells slots Q w pc lv (.int x :: st) :=
  fun H locs ls hP hD hS hl => by subst hx; exact lv_tableIn C.1 C.2.1 hd h1 h2 ho ht (kk H locs ls hP hD hS hl)
theorem g_tsOut (C : gC p s m args meth c cc nL ret own D cl tys A0 H0) {dflt lo hi : Int} {offs : Array Int} {len : Nat} {x : Int32} {tgt : Nat} (hd : decode cc pc = .ok (.tableswitch dflt lo hi offs, len)) (h : x.toInt < lo ∨ hi < x.toInt) (ht : (pc : Int) + dflt = (tgt : Int)) (kk : gG p l e R s m args below meth c nL D cl A0 H0 cells slots Q w tgt lv st) : gG p l e R s m args below meth c nL D cl A0 H0 cells slots Q w pc lv (.int x :: st) :=
  fun H locs ls hP hD hS hl => lv_tableOut C.1 C.2.1 hd h ht (kk H locs ls hP hD hS hl)
theorem g_ifnull (C : gC p s m args meth c cc nL ret own D cl tys A0 H0) {r : Option Nat} {off : Int} {tgt : Nat} (hd : decode cc pc = .ok (.ifnull off, 3)) (ht : (pc : Int) + off = (tgt : Int)) (kt : r = none → gG p l e R s m args below meth c nL D cl A0 H0 cells slots Q w tgt lv st) (kf : ∀ b, r = some b → gG p l e R s m args below meth c nL D cl A0 H0 cells slots Q w (pc + 3) lv st) : gG p l e R s m args below meth c nL D cl A0 H0 cells slots Q w pc lv (va_rf r :: st) :=
  fun H locs ls hP hD hS hl => by
    cases r with
    | none => exact lv_ifnullN C.1 C.2.1 hd ht (kt rfl H locs ls hP hD hS hl)
    | some b => exact lv_ifnull C.1 C.2.1 hd (kf b rfl H locs ls hP hD hS hl)
theorem g_ifnonnull (C : gC p s m args meth c cc nL ret own D cl tys A0 H0) {r : Option Nat} {off : Int} {tgt : Nat} (hd : decode cc pc = .ok (.ifnonnull off, 3)) (ht : (pc : Int) + off = (tgt : Int)) (kt : ∀ b, r = some b → gG p l e R s m args below meth c nL D cl A0 H0 cells slots Q w tgt lv st) (kf : r = none → gG p l e R s m args below meth c nL D cl A0 H0 cells slots Q w (pc + 3) lv st) : gG p l e R s m args below meth c nL D cl A0 H0 cells slots Q w pc lv (va_rf r :: st) :=
  fun H locs ls hP hD hS hl => by
    cases r with
    | none => exact lv_ifnonnullN C.1 C.2.1 hd (kf rfl H locs ls hP hD hS hl)
    | some b => exact lv_ifnonnull C.1 C.2.1 hd ht (kt b rfl H locs ls hP hD hS hl)
theorem g_null (C : gC p s m args meth c cc nL ret own D cl tys A0 H0) (hd : decode cc pc = .ok (.aconst_null, 1)) (kk : gG p l e R s m args below meth c nL D cl A0 H0 cells slots Q w (pc + 1) lv (.null :: st)) : gG p l e R s m args below meth c nL D cl A0 H0 cells slots Q w pc lv st :=
  fun H locs ls hP hD hS hl => lv_null C.1 C.2.1 hd (kk H locs ls hP hD hS hl)
def gPre (D : va_G) (cl : List vw_C) (tys : List (ClassId × FieldType)) (w : va_W) (sz : Nat) (U : State) : Prop := U.heap.size = sz ∧ va_P D cl w U.heap ∧ gK D cl tys U ∧ va_D (fun _ => True) w
def KQ (l : Launch) (D : va_G) (cl : List vw_C) (tys : List (ClassId × FieldType)) (y : MethodName) (cc : ByteArray) (nL : Nat) (ret : Option FieldType) (fr lo : Nat) (av : List Value) (w : va_W) (Qc : (Nat → Prop) → Array Value → State → Outcome → State → Prop) : Prop :=
  ∀ sz : Nat, Met l y (Cond.code y cc nL ret :: Wl) ({ frames := fr, cells := 0, slots := 0, locals := lo }) (va_Pc av (gPre D cl tys w sz)) (Qc (va_A w sz)) 0 0 (va_A w sz)
def qI (D : va_G) (cl : List vw_C) (w2 : va_W) (r : Int32) (A : Nat → Prop) : Array Value → State → Outcome → State → Prop := va_Qi (fun (x : Int32) (_ : Unit) => x = r) (fun _ t => va_P D cl w2 t.heap) A
def qL (D : va_G) (cl : List vw_C) (w2 : va_W) (r : Int64) (A : Nat → Prop) : Array Value → State → Outcome → State → Prop := va_Ql (fun (x : Int64) (_ : Unit) => x = r) (fun _ t => va_P D cl w2 t.heap) A
def qV (D : va_G) (cl : List vw_C) (w2 : va_W) (A : Nat → Prop) : Array Value → State → Outcome → State → Prop := va_Qv (fun (_ : Unit) => True) (fun _ t => va_P D cl w2 t.heap) A
def qR (D : va_G) (cl : List vw_C) (w2 : va_W) (r : Option Nat) (A : Nat → Prop) : Array Value → State → Outcome → State → Prop := va_Qq (fun (x : Option Nat) (_ : Unit) => x = r) (fun _ t => va_P D cl w2 t.heap) A
theorem KQ.of {y : MethodName} {rt : Option FieldType} {fr lo : Nat} {av : List Value} {Qc : (Nat → Prop) → Array Value → State → Outcome → State → Prop} {lv0 : List (Nat × Value)} (hy : plainName y.cls = true) (hlen : (lg_sl av).length ≤ nL) (hlv : lv_args 0 av = lv0)
    (body : ∀ (p : Program) (e : Env) (s : State) (m : MethodId) (args : Array Value) (below : List Frame) (meth : Method) (c : Code) (A0 : Nat → Prop), gC p s m args meth c cc nL rt y.cls D cl tys A0 s.heap → gG p l e ({ frames := fr, cells := 0, slots := 0, locals := lo }) s m args below meth c nL D cl A0 s.heap 0 0 (MQ below (Qc A0) args s 0 0 A0) w 0 lv0 []) : KQ l D cl tys y cc nL rt fr lo av w Qc := by
  intro sz
  refine Met.ofW (cc := cc) (maxL := nL) (ret := rt) hy rfl ?_
  intro p e s m args below meth c s₁ B hml hv
  obtain ⟨rfl, hsz, hP, hK, hD0⟩ := hv
  have hts := atoms_spec (ws := Cond.code y cc nL rt :: Wl) B.pre
  subst hsz
  have hD := hD0.self (sz := s.heap.size)
  have hC : gC p s m av.toArray meth c cc nL rt y.cls D cl tys (va_A w s.heap.size) s.heap := ⟨B.exec, B.bytes, B.returns, fun w hw => hts w (List.mem_cons_of_mem _ hw), findClass_of_methodNamed B.named, B.notSynchronized, hml, hK, fun q h => Or.inr h⟩
  have hb := body p e s m av.toArray below meth c (va_A w s.heap.size) hC
  have hl := lv_entry av (n := nL) hlen
  rw [lg_entry_eq]
  rw [hlv] at hl
  exact hb s.heap [] _ hP hD va_S.rf hl
theorem g_iret (C : gC p s m args meth c cc nL (some .int) own D cl tys A0 s.heap) {v r : Int32} (hd : decode cc pc = .ok (.ireturn, 1)) (hr : v = r) {w2 : va_W} (hw : w = w2) : gG p l e R s m args below meth c nL D cl A0 s.heap 0 0 (MQ below (qI D cl w2 r A0) args s 0 0 A0) w pc lv [.int v] :=
  fun H locs ls hP hD hS hl => W.iret C.1 C.2.1 C.2.2.1 (fun t ht hW => ⟨⟨v, (), rfl, hr, by show va_P D cl w2 t.heap; rw [ht, ← hw]; exact hP⟩, hS.F ht⟩) hS.2.2 hd C.2.2.2.2.2.1
theorem g_zret (C : gC p s m args meth c cc nL (some .boolean) own D cl tys A0 s.heap) {v r : Int32} (hd : decode cc pc = .ok (.ireturn, 1)) (hz : v = 0 ∨ v = 1) (hr : v = r) {w2 : va_W} (hw : w = w2) : gG p l e R s m args below meth c nL D cl A0 s.heap 0 0 (MQ below (qI D cl w2 r A0) args s 0 0 A0) w pc lv [.int v] :=
  fun H locs ls hP hD hS hl => W.zret C.1 C.2.1 C.2.2.1 (by rcases hz with rfl | rfl <;> rfl) (fun t ht hW => ⟨⟨v, (), rfl, hr, by show va_P D cl w2 t.heap; rw [ht, ← hw]; exact hP⟩, hS.F ht⟩) hS.2.2 hd C.2.2.2.2.2.1
theorem g_lret (C : gC p s m args meth c cc nL (some .long) own D cl tys A0 s.heap) {v r : Int64} (hd : decode cc pc = .ok (.lreturn, 1)) (hr : v = r) {w2 : va_W} (hw : w = w2) : gG p l e R s m args below meth c nL D cl A0 s.heap 0 0 (MQ below (qL D cl w2 r A0) args s 0 0 A0) w pc lv [.long v] :=
  fun H locs ls hP hD hS hl => W.lret C.1 C.2.1 C.2.2.1 (fun t ht hW => ⟨⟨v, (), rfl, hr, by show va_P D cl w2 t.heap; rw [ht, ← hw]; exact hP⟩, hS.F ht⟩) hS.2.2 hd C.2.2.2.2.2.1
theorem g_vret (C : gC p s m args meth c cc nL none own D cl tys A0 s.heap)  (hd : decode cc pc = .ok (.return_, 1))  {w2 : va_W} (hw : w = w2) : gG p l e R s m args below meth c nL D cl A0 s.heap 0 0 (MQ below (qV D cl w2 A0) args s 0 0 A0) w pc lv [] :=
  fun H locs ls hP hD hS hl => W.vret C.1 C.2.1 C.2.2.1 (fun t ht hW => ⟨⟨(), rfl, trivial, by show va_P D cl w2 t.heap; rw [ht, ← hw]; exact hP⟩, hS.F ht⟩) hS.2.2 hd C.2.2.2.2.2.1
theorem g_aret {Cn : String} (C : gC p s m args meth c cc nL (some (.object Cn)) own D cl tys A0 s.heap) {v r : Option Nat} (hd : decode cc pc = .ok (.areturn, 1)) (hr : v = r) {w2 : va_W} (hw : w = w2) : gG p l e R s m args below meth c nL D cl A0 s.heap 0 0 (MQ below (qR D cl w2 r A0) args s 0 0 A0) w pc lv [va_rf v] :=
  fun H locs ls hP hD hS hl => W.aret C.1 C.2.1 C.2.2.1 (Or.inl ⟨_, rfl⟩) (by cases v <;> first | exact Or.inl rfl | exact Or.inr ⟨_, rfl⟩) (fun t ht hW => ⟨⟨v, (), rfl, hr, by show va_P D cl w2 t.heap; rw [ht, ← hw]; exact hP⟩, hS.F ht⟩) hS.2.2 hd C.2.2.2.2.2.1
theorem g_free {H : Heap} {locs : List Loc} (C : gC p s m args meth c cc nL ret own D cl tys A0 H0) (hD : va_D A0 w) (hS : va_S A0 H0 H locs) : ∀ q, va_A w H.size q → A0 q := by
  intro q h
  rcases h with ⟨k, e, h⟩ | h
  · exact hD.2 k (q, e) h
  · exact C.2.2.2.2.2.2.2.2 q (Nat.le_trans hS.1 h)
theorem gPre_blind {av : List Value} {sz : Nat} : FrameBlind (va_Pc av (gPre D cl tys w sz)) := fun a U g mk q => ⟨q.1, q.2.1, q.2.2.1, q.2.2.2.1.blind, q.2.2.2.2⟩
theorem gPre_of {H : Heap} {av : List Value} (C : gC p s m args meth c cc nL ret own D cl tys A0 H0) (hP : va_P D cl w H) (hD : va_D A0 w) : ∀ U : State, U.heap = H → s.WarmedH U.vm → va_Pc av (gPre D cl tys w H.size) av.toArray U := fun U hU hW => ⟨rfl, by rw [hU], by rw [hU]; exact hP, C.2.2.2.2.2.2.2.1.warm hW, ⟨hD.1, fun _ _ _ => trivial⟩⟩
theorem gW_good {y : MethodName} {bytes : ByteArray} {maxL : Nat} {rt : Option FieldType} (hco : Cond.code y bytes maxL rt ∈ Wl) : GoodIn Wl (Cond.code y bytes maxL rt :: Wl) := fun w h => wl_good w ((List.mem_cons.mp h).elim (fun e => e ▸ hco) id)
theorem gV_good {own : String} {index : Nat} {y : MethodName} {bytes : ByteArray} {maxL : Nat} {rt : Option FieldType} (hlk : Cond.methodLink own index y ∈ Wl) (hin : Cond.instanceMethod y ∈ Wl) (hse : Cond.selects y.cls y y ∈ Wl) (hini : Cond.initialized y.cls ∈ Wl) (hco : Cond.code y bytes maxL rt ∈ Wl) : GoodIn Wl (wsV own index y.cls y (Cond.code y bytes maxL rt :: Wl)) := by
  intro w h
  unfold wsV at h
  rcases List.mem_append.mp h with h | h
  · refine wl_good w ?_
    simp only [List.mem_cons, List.not_mem_nil, or_false] at h
    rcases h with rfl | rfl | rfl | rfl
    · exact hlk
    · exact hin
    · exact hse
    · exact hini
  · exact gW_good hco w h
theorem gS_good {own : String} {index : Nat} {y : MethodName} {bytes : ByteArray} {maxL : Nat} {rt : Option FieldType} (hlk : Cond.methodLink own index y ∈ Wl) (hsa : Cond.static y ∈ Wl) (hini : Cond.initialized y.cls ∈ Wl) (hco : Cond.code y bytes maxL rt ∈ Wl) : GoodIn Wl (va_wsS own index y (Cond.code y bytes maxL rt :: Wl)) := by
  intro w h
  unfold va_wsS at h
  rcases List.mem_append.mp h with h | h
  · refine wl_good w ?_
    simp only [List.mem_cons, List.not_mem_nil, or_false] at h
    rcases h with rfl | rfl | rfl
    · exact hlk
    · exact hsa
    · exact hini
  · exact gW_good hco w h
theorem g_callV_i (C : gC p s m args meth c cc nL ret own D cl tys A0 H0) {y : MethodName} {bytes : ByteArray} {maxL index fr lo : Nat} {rt : Option FieldType} {rest st0 : List Value} {As : List Value} {b : Nat} {Cn : String} {q0 ci : Nat} {fs : List Value} {rc : vw_C} {r : Int32} (hM : KQ l D cl tys y bytes maxL rt fr lo (.ref b :: As) (wF n a g) (qI D cl (wF n a g2) r)) (hlk : Cond.methodLink own index y ∈ Wl) (hin : Cond.instanceMethod y ∈ Wl) (hse : Cond.selects y.cls y y ∈ Wl) (hini : Cond.initialized y.cls ∈ Wl) (hco : Cond.code y bytes maxL rt ∈ Wl) (hdd : y.cls = y.cls ∧ y.cls ≠ "java/lang/invoke/MethodHandle" ∧ y.cls ≠ "java/lang/invoke/VarHandle" ∧ (parseMethodDescriptor y.desc).map (fun d => d.parameters.length) = some As.length) (hk0 : q0 < n) (hb0 : b = a q0) (hg0 : g q0 = .inr (ci, fs)) (hc0 : cl[ci]? = some rc) (hc1 : rc.1 = y.cls) (hR : fr + 1 ≤ R.frames ∧ 8 + (maxL + 11) + lo ≤ R.locals) (hf : cells + 0 ≤ R.cells ∧ slots + 0 ≤ R.slots) (hst : st0 = As.reverse ++ .ref b :: rest) (hro : (rest.map fun v => v.category).sum ≤ 8) (hd : decode cc pc = .ok (.invokevirtual index, 3)) (kk : gG p l e R s m args below meth c nL D cl A0 H0 cells slots Q (wF n a g2) (pc + 3) lv (.int r :: rest)) : gG p l e R s m args below meth c nL D cl A0 H0 cells slots Q (wF n a g) pc lv st0 :=
  fun H locs ls hP hD hS hl => va_calli (va_runV (As := As) (rest := rest) ⟨C.1, C.2.1, C.2.2.2.2.2.2.1, C.2.2.2.2.1, C.2.2.2.1⟩ (hM H.size) (cwV As.length C.2.2.2.1 (gV_good hlk hin hse hini hco) rfl rfl rfl hdd hR) ⟨gPre_blind, by subst hb0; rw [← hc1]; exact va_recv C.2.2.2.2.2.2.2.1.1 hP hc0 (by rw [wF_get hk0, hg0]), gPre_of C hP hD⟩ rfl rfl hl.1 hst (lv_room hro) hd hf) hS (fun q _ h => g_free C hD hS q h) (g_free C hD hS) (fun r2 u t H1 locs1 ht hvm hw hB hz1 hk1 hS1 => by cases hw; exact kk H1 locs1 ls (by rw [← ht]; exact hB) (wF_D hD) hS1 hl)
theorem g_callV_l (C : gC p s m args meth c cc nL ret own D cl tys A0 H0) {y : MethodName} {bytes : ByteArray} {maxL index fr lo : Nat} {rt : Option FieldType} {rest st0 : List Value} {As : List Value} {b : Nat} {Cn : String} {q0 ci : Nat} {fs : List Value} {rc : vw_C} {r : Int64} (hM : KQ l D cl tys y bytes maxL rt fr lo (.ref b :: As) (wF n a g) (qL D cl (wF n a g2) r)) (hlk : Cond.methodLink own index y ∈ Wl) (hin : Cond.instanceMethod y ∈ Wl) (hse : Cond.selects y.cls y y ∈ Wl) (hini : Cond.initialized y.cls ∈ Wl) (hco : Cond.code y bytes maxL rt ∈ Wl) (hdd : y.cls = y.cls ∧ y.cls ≠ "java/lang/invoke/MethodHandle" ∧ y.cls ≠ "java/lang/invoke/VarHandle" ∧ (parseMethodDescriptor y.desc).map (fun d => d.parameters.length) = some As.length) (hk0 : q0 < n) (hb0 : b = a q0) (hg0 : g q0 = .inr (ci, fs)) (hc0 : cl[ci]? = some rc) (hc1 : rc.1 = y.cls) (hR : fr + 1 ≤ R.frames ∧ 8 + (maxL + 11) + lo ≤ R.locals) (hf : cells + 0 ≤ R.cells ∧ slots + 0 ≤ R.slots) (hst : st0 = As.reverse ++ .ref b :: rest) (hro : (rest.map fun v => v.category).sum ≤ 8) (hd : decode cc pc = .ok (.invokevirtual index, 3)) (kk : gG p l e R s m args below meth c nL D cl A0 H0 cells slots Q (wF n a g2) (pc + 3) lv (.long r :: rest)) : gG p l e R s m args below meth c nL D cl A0 H0 cells slots Q (wF n a g) pc lv st0 :=
  fun H locs ls hP hD hS hl => va_calll (va_runV (As := As) (rest := rest) ⟨C.1, C.2.1, C.2.2.2.2.2.2.1, C.2.2.2.2.1, C.2.2.2.1⟩ (hM H.size) (cwV As.length C.2.2.2.1 (gV_good hlk hin hse hini hco) rfl rfl rfl hdd hR) ⟨gPre_blind, by subst hb0; rw [← hc1]; exact va_recv C.2.2.2.2.2.2.2.1.1 hP hc0 (by rw [wF_get hk0, hg0]), gPre_of C hP hD⟩ rfl rfl hl.1 hst (lv_room hro) hd hf) hS (fun q _ h => g_free C hD hS q h) (g_free C hD hS) (fun r2 u t H1 locs1 ht hvm hw hB hz1 hk1 hS1 => by cases hw; exact kk H1 locs1 ls (by rw [← ht]; exact hB) (wF_D hD) hS1 hl)
theorem g_callV_v (C : gC p s m args meth c cc nL ret own D cl tys A0 H0) {y : MethodName} {bytes : ByteArray} {maxL index fr lo : Nat} {rt : Option FieldType} {rest st0 : List Value} {As : List Value} {b : Nat} {Cn : String} {q0 ci : Nat} {fs : List Value} {rc : vw_C}  (hM : KQ l D cl tys y bytes maxL rt fr lo (.ref b :: As) (wF n a g) (qV D cl (wF n a g2))) (hlk : Cond.methodLink own index y ∈ Wl) (hin : Cond.instanceMethod y ∈ Wl) (hse : Cond.selects y.cls y y ∈ Wl) (hini : Cond.initialized y.cls ∈ Wl) (hco : Cond.code y bytes maxL rt ∈ Wl) (hdd : y.cls = y.cls ∧ y.cls ≠ "java/lang/invoke/MethodHandle" ∧ y.cls ≠ "java/lang/invoke/VarHandle" ∧ (parseMethodDescriptor y.desc).map (fun d => d.parameters.length) = some As.length) (hk0 : q0 < n) (hb0 : b = a q0) (hg0 : g q0 = .inr (ci, fs)) (hc0 : cl[ci]? = some rc) (hc1 : rc.1 = y.cls) (hR : fr + 1 ≤ R.frames ∧ 8 + (maxL + 11) + lo ≤ R.locals) (hf : cells + 0 ≤ R.cells ∧ slots + 0 ≤ R.slots) (hst : st0 = As.reverse ++ .ref b :: rest) (hro : (rest.map fun v => v.category).sum ≤ 8) (hd : decode cc pc = .ok (.invokevirtual index, 3)) (kk : gG p l e R s m args below meth c nL D cl A0 H0 cells slots Q (wF n a g2) (pc + 3) lv rest) : gG p l e R s m args below meth c nL D cl A0 H0 cells slots Q (wF n a g) pc lv st0 :=
  fun H locs ls hP hD hS hl => va_callv (va_runV (As := As) (rest := rest) ⟨C.1, C.2.1, C.2.2.2.2.2.2.1, C.2.2.2.2.1, C.2.2.2.1⟩ (hM H.size) (cwV As.length C.2.2.2.1 (gV_good hlk hin hse hini hco) rfl rfl rfl hdd hR) ⟨gPre_blind, by subst hb0; rw [← hc1]; exact va_recv C.2.2.2.2.2.2.2.1.1 hP hc0 (by rw [wF_get hk0, hg0]), gPre_of C hP hD⟩ rfl rfl hl.1 hst (lv_room hro) hd hf) hS (fun q _ h => g_free C hD hS q h) (g_free C hD hS) (fun u t H1 locs1 ht hvm hw hB hz1 hk1 hS1 => kk H1 locs1 ls (by rw [← ht]; exact hB) (wF_D hD) hS1 hl)
theorem g_callS_i (C : gC p s m args meth c cc nL ret own D cl tys A0 H0) {y : MethodName} {bytes : ByteArray} {maxL index fr lo : Nat} {rt : Option FieldType} {rest st0 : List Value} {As : List Value} {r : Int32} (hM : KQ l D cl tys y bytes maxL rt fr lo As (wF n a g) (qI D cl (wF n a g2) r)) (hlk : Cond.methodLink own index y ∈ Wl) (hsa : Cond.static y ∈ Wl) (hini : Cond.initialized y.cls ∈ Wl) (hco : Cond.code y bytes maxL rt ∈ Wl) (hdd : y.cls ≠ "java/lang/invoke/MethodHandle" ∧ y.cls ≠ "java/lang/invoke/VarHandle" ∧ (parseMethodDescriptor y.desc).map (fun d => d.parameters.length) = some As.length) (hR : fr + 1 ≤ R.frames ∧ 8 + (maxL + 11) + lo ≤ R.locals) (hf : cells + 0 ≤ R.cells ∧ slots + 0 ≤ R.slots) (hst : st0 = As.reverse ++ rest) (hro : (rest.map fun v => v.category).sum ≤ 8) (hd : decode cc pc = .ok (.invokestatic index, 3)) (kk : gG p l e R s m args below meth c nL D cl A0 H0 cells slots Q (wF n a g2) (pc + 3) lv (.int r :: rest)) : gG p l e R s m args below meth c nL D cl A0 H0 cells slots Q (wF n a g) pc lv st0 :=
  fun H locs ls hP hD hS hl => va_calli (va_runS (As := As) (rest := rest) ⟨C.1, C.2.1, C.2.2.2.2.2.2.1, C.2.2.2.2.1, C.2.2.2.1⟩ (hM H.size) (va_cwS As.length C.2.2.2.1 (gS_good hlk hsa hini hco) rfl rfl rfl hdd hR) ⟨gPre_blind, gPre_of C hP hD⟩ rfl rfl hl.1 hst (lv_room hro) hd hf) hS (fun q _ h => g_free C hD hS q h) (g_free C hD hS) (fun r2 u t H1 locs1 ht hvm hw hB hz1 hk1 hS1 => by cases hw; exact kk H1 locs1 ls (by rw [← ht]; exact hB) (wF_D hD) hS1 hl)
theorem g_callS_l (C : gC p s m args meth c cc nL ret own D cl tys A0 H0) {y : MethodName} {bytes : ByteArray} {maxL index fr lo : Nat} {rt : Option FieldType} {rest st0 : List Value} {As : List Value} {r : Int64} (hM : KQ l D cl tys y bytes maxL rt fr lo As (wF n a g) (qL D cl (wF n a g2) r)) (hlk : Cond.methodLink own index y ∈ Wl) (hsa : Cond.static y ∈ Wl) (hini : Cond.initialized y.cls ∈ Wl) (hco : Cond.code y bytes maxL rt ∈ Wl) (hdd : y.cls ≠ "java/lang/invoke/MethodHandle" ∧ y.cls ≠ "java/lang/invoke/VarHandle" ∧ (parseMethodDescriptor y.desc).map (fun d => d.parameters.length) = some As.length) (hR : fr + 1 ≤ R.frames ∧ 8 + (maxL + 11) + lo ≤ R.locals) (hf : cells + 0 ≤ R.cells ∧ slots + 0 ≤ R.slots) (hst : st0 = As.reverse ++ rest) (hro : (rest.map fun v => v.category).sum ≤ 8) (hd : decode cc pc = .ok (.invokestatic index, 3)) (kk : gG p l e R s m args below meth c nL D cl A0 H0 cells slots Q (wF n a g2) (pc + 3) lv (.long r :: rest)) : gG p l e R s m args below meth c nL D cl A0 H0 cells slots Q (wF n a g) pc lv st0 :=
  fun H locs ls hP hD hS hl => va_calll (va_runS (As := As) (rest := rest) ⟨C.1, C.2.1, C.2.2.2.2.2.2.1, C.2.2.2.2.1, C.2.2.2.1⟩ (hM H.size) (va_cwS As.length C.2.2.2.1 (gS_good hlk hsa hini hco) rfl rfl rfl hdd hR) ⟨gPre_blind, gPre_of C hP hD⟩ rfl rfl hl.1 hst (lv_room hro) hd hf) hS (fun q _ h => g_free C hD hS q h) (g_free C hD hS) (fun r2 u t H1 locs1 ht hvm hw hB hz1 hk1 hS1 => by cases hw; exact kk H1 locs1 ls (by rw [← ht]; exact hB) (wF_D hD) hS1 hl)
theorem g_callS_v (C : gC p s m args meth c cc nL ret own D cl tys A0 H0) {y : MethodName} {bytes : ByteArray} {maxL index fr lo : Nat} {rt : Option FieldType} {rest st0 : List Value} {As : List Value}  (hM : KQ l D cl tys y bytes maxL rt fr lo As (wF n a g) (qV D cl (wF n a g2))) (hlk : Cond.methodLink own index y ∈ Wl) (hsa : Cond.static y ∈ Wl) (hini : Cond.initialized y.cls ∈ Wl) (hco : Cond.code y bytes maxL rt ∈ Wl) (hdd : y.cls ≠ "java/lang/invoke/MethodHandle" ∧ y.cls ≠ "java/lang/invoke/VarHandle" ∧ (parseMethodDescriptor y.desc).map (fun d => d.parameters.length) = some As.length) (hR : fr + 1 ≤ R.frames ∧ 8 + (maxL + 11) + lo ≤ R.locals) (hf : cells + 0 ≤ R.cells ∧ slots + 0 ≤ R.slots) (hst : st0 = As.reverse ++ rest) (hro : (rest.map fun v => v.category).sum ≤ 8) (hd : decode cc pc = .ok (.invokestatic index, 3)) (kk : gG p l e R s m args below meth c nL D cl A0 H0 cells slots Q (wF n a g2) (pc + 3) lv rest) : gG p l e R s m args below meth c nL D cl A0 H0 cells slots Q (wF n a g) pc lv st0 :=
  fun H locs ls hP hD hS hl => va_callv (va_runS (As := As) (rest := rest) ⟨C.1, C.2.1, C.2.2.2.2.2.2.1, C.2.2.2.2.1, C.2.2.2.1⟩ (hM H.size) (va_cwS As.length C.2.2.2.1 (gS_good hlk hsa hini hco) rfl rfl rfl hdd hR) ⟨gPre_blind, gPre_of C hP hD⟩ rfl rfl hl.1 hst (lv_room hro) hd hf) hS (fun q _ h => g_free C hD hS q h) (g_free C hD hS) (fun u t H1 locs1 ht hvm hw hB hz1 hk1 hS1 => kk H1 locs1 ls (by rw [← ht]; exact hB) (wF_D hD) hS1 hl)
theorem g_callS_q (C : gC p s m args meth c cc nL ret own D cl tys A0 H0) {y : MethodName} {bytes : ByteArray} {maxL index fr lo : Nat} {rt : Option FieldType} {rest st0 : List Value} {As : List Value} {r : Option Nat} (hM : KQ l D cl tys y bytes maxL rt fr lo As (wF n a g) (qR D cl (wF n a g2) r)) (hlk : Cond.methodLink own index y ∈ Wl) (hsa : Cond.static y ∈ Wl) (hini : Cond.initialized y.cls ∈ Wl) (hco : Cond.code y bytes maxL rt ∈ Wl) (hdd : y.cls ≠ "java/lang/invoke/MethodHandle" ∧ y.cls ≠ "java/lang/invoke/VarHandle" ∧ (parseMethodDescriptor y.desc).map (fun d => d.parameters.length) = some As.length) (hR : fr + 1 ≤ R.frames ∧ 8 + (maxL + 11) + lo ≤ R.locals) (hf : cells + 0 ≤ R.cells ∧ slots + 0 ≤ R.slots) (hst : st0 = As.reverse ++ rest) (hro : (rest.map fun v => v.category).sum ≤ 8) (hd : decode cc pc = .ok (.invokestatic index, 3)) (kk : gG p l e R s m args below meth c nL D cl A0 H0 cells slots Q (wF n a g2) (pc + 3) lv (va_rf r :: rest)) : gG p l e R s m args below meth c nL D cl A0 H0 cells slots Q (wF n a g) pc lv st0 :=
  fun H locs ls hP hD hS hl => va_callq (va_runS (As := As) (rest := rest) ⟨C.1, C.2.1, C.2.2.2.2.2.2.1, C.2.2.2.2.1, C.2.2.2.1⟩ (hM H.size) (va_cwS As.length C.2.2.2.1 (gS_good hlk hsa hini hco) rfl rfl rfl hdd hR) ⟨gPre_blind, gPre_of C hP hD⟩ rfl rfl hl.1 hst (lv_room hro) hd hf) hS (fun q _ h => g_free C hD hS q h) (g_free C hD hS) (fun r2 u t H1 locs1 ht hvm hw hB hz1 hk1 hS1 => by cases hw; exact kk H1 locs1 ls (by rw [← ht]; exact hB) (wF_D hD) hS1 hl)
theorem g_callN_i (C : gC p s m args meth c cc nL ret own D cl tys A0 H0) {y : MethodName} {bytes : ByteArray} {maxL index fr lo : Nat} {rt : Option FieldType} {rest st0 : List Value} {As : List Value} {host : String} {r : Int32} (hM : KQ l D cl tys y bytes maxL rt fr lo As (wF n a g) (qI D cl (wF n a g2) r)) (hnl : Cond.methodLinkNest own index y host ∈ Nl) (hsa : Cond.static y ∈ Wl) (hini : Cond.initialized y.cls ∈ Wl) (hco : Cond.code y bytes maxL rt ∈ Wl) (hdd : y.cls ≠ "java/lang/invoke/MethodHandle" ∧ y.cls ≠ "java/lang/invoke/VarHandle" ∧ (parseMethodDescriptor y.desc).map (fun d => d.parameters.length) = some As.length) (hR : fr + 1 ≤ R.frames ∧ 8 + (maxL + 11) + lo ≤ R.locals) (hf : cells + 0 ≤ R.cells ∧ slots + 0 ≤ R.slots) (hst : st0 = As.reverse ++ rest) (hro : (rest.map fun v => v.category).sum ≤ 8) (hd : decode cc pc = .ok (.invokestatic index, 3)) (kk : gG p l e R s m args below meth c nL D cl A0 H0 cells slots Q (wF n a g2) (pc + 3) lv (.int r :: rest)) : gG p l e R s m args below meth c nL D cl A0 H0 cells slots Q (wF n a g) pc lv st0 :=
  fun H locs ls hP hD hS hl => va_calli (va_runSN (As := As) (rest := rest) ⟨C.1, C.2.1, C.2.2.2.2.2.2.1, C.2.2.2.2.1, C.2.2.2.1⟩ (hM H.size) ⟨va_cnB As.length C.2.2.2.1 (gW_good hco) rfl rfl rfl (C.2.2.2.2.2.2.2.1.2 _ hnl) (C.2.2.2.1 _ hini) hdd hR, C.2.2.2.1 _ hsa, trivial⟩ ⟨gPre_blind, gPre_of C hP hD⟩ rfl rfl hl.1 hst (lv_room hro) hd hf) hS (fun q _ h => g_free C hD hS q h) (g_free C hD hS) (fun r2 u t H1 locs1 ht hvm hw hB hz1 hk1 hS1 => by cases hw; exact kk H1 locs1 ls (by rw [← ht]; exact hB) (wF_D hD) hS1 hl)
theorem g_callN_l (C : gC p s m args meth c cc nL ret own D cl tys A0 H0) {y : MethodName} {bytes : ByteArray} {maxL index fr lo : Nat} {rt : Option FieldType} {rest st0 : List Value} {As : List Value} {host : String} {r : Int64} (hM : KQ l D cl tys y bytes maxL rt fr lo As (wF n a g) (qL D cl (wF n a g2) r)) (hnl : Cond.methodLinkNest own index y host ∈ Nl) (hsa : Cond.static y ∈ Wl) (hini : Cond.initialized y.cls ∈ Wl) (hco : Cond.code y bytes maxL rt ∈ Wl) (hdd : y.cls ≠ "java/lang/invoke/MethodHandle" ∧ y.cls ≠ "java/lang/invoke/VarHandle" ∧ (parseMethodDescriptor y.desc).map (fun d => d.parameters.length) = some As.length) (hR : fr + 1 ≤ R.frames ∧ 8 + (maxL + 11) + lo ≤ R.locals) (hf : cells + 0 ≤ R.cells ∧ slots + 0 ≤ R.slots) (hst : st0 = As.reverse ++ rest) (hro : (rest.map fun v => v.category).sum ≤ 8) (hd : decode cc pc = .ok (.invokestatic index, 3)) (kk : gG p l e R s m args below meth c nL D cl A0 H0 cells slots Q (wF n a g2) (pc + 3) lv (.long r :: rest)) : gG p l e R s m args below meth c nL D cl A0 H0 cells slots Q (wF n a g) pc lv st0 :=
  fun H locs ls hP hD hS hl => va_calll (va_runSN (As := As) (rest := rest) ⟨C.1, C.2.1, C.2.2.2.2.2.2.1, C.2.2.2.2.1, C.2.2.2.1⟩ (hM H.size) ⟨va_cnB As.length C.2.2.2.1 (gW_good hco) rfl rfl rfl (C.2.2.2.2.2.2.2.1.2 _ hnl) (C.2.2.2.1 _ hini) hdd hR, C.2.2.2.1 _ hsa, trivial⟩ ⟨gPre_blind, gPre_of C hP hD⟩ rfl rfl hl.1 hst (lv_room hro) hd hf) hS (fun q _ h => g_free C hD hS q h) (g_free C hD hS) (fun r2 u t H1 locs1 ht hvm hw hB hz1 hk1 hS1 => by cases hw; exact kk H1 locs1 ls (by rw [← ht]; exact hB) (wF_D hD) hS1 hl)
theorem g_callN_v (C : gC p s m args meth c cc nL ret own D cl tys A0 H0) {y : MethodName} {bytes : ByteArray} {maxL index fr lo : Nat} {rt : Option FieldType} {rest st0 : List Value} {As : List Value} {host : String}  (hM : KQ l D cl tys y bytes maxL rt fr lo As (wF n a g) (qV D cl (wF n a g2))) (hnl : Cond.methodLinkNest own index y host ∈ Nl) (hsa : Cond.static y ∈ Wl) (hini : Cond.initialized y.cls ∈ Wl) (hco : Cond.code y bytes maxL rt ∈ Wl) (hdd : y.cls ≠ "java/lang/invoke/MethodHandle" ∧ y.cls ≠ "java/lang/invoke/VarHandle" ∧ (parseMethodDescriptor y.desc).map (fun d => d.parameters.length) = some As.length) (hR : fr + 1 ≤ R.frames ∧ 8 + (maxL + 11) + lo ≤ R.locals) (hf : cells + 0 ≤ R.cells ∧ slots + 0 ≤ R.slots) (hst : st0 = As.reverse ++ rest) (hro : (rest.map fun v => v.category).sum ≤ 8) (hd : decode cc pc = .ok (.invokestatic index, 3)) (kk : gG p l e R s m args below meth c nL D cl A0 H0 cells slots Q (wF n a g2) (pc + 3) lv rest) : gG p l e R s m args below meth c nL D cl A0 H0 cells slots Q (wF n a g) pc lv st0 :=
  fun H locs ls hP hD hS hl => va_callv (va_runSN (As := As) (rest := rest) ⟨C.1, C.2.1, C.2.2.2.2.2.2.1, C.2.2.2.2.1, C.2.2.2.1⟩ (hM H.size) ⟨va_cnB As.length C.2.2.2.1 (gW_good hco) rfl rfl rfl (C.2.2.2.2.2.2.2.1.2 _ hnl) (C.2.2.2.1 _ hini) hdd hR, C.2.2.2.1 _ hsa, trivial⟩ ⟨gPre_blind, gPre_of C hP hD⟩ rfl rfl hl.1 hst (lv_room hro) hd hf) hS (fun q _ h => g_free C hD hS q h) (g_free C hD hS) (fun u t H1 locs1 ht hvm hw hB hz1 hk1 hS1 => kk H1 locs1 ls (by rw [← ht]; exact hB) (wF_D hD) hS1 hl)
theorem g_callN_q (C : gC p s m args meth c cc nL ret own D cl tys A0 H0) {y : MethodName} {bytes : ByteArray} {maxL index fr lo : Nat} {rt : Option FieldType} {rest st0 : List Value} {As : List Value} {host : String} {r : Option Nat} (hM : KQ l D cl tys y bytes maxL rt fr lo As (wF n a g) (qR D cl (wF n a g2) r)) (hnl : Cond.methodLinkNest own index y host ∈ Nl) (hsa : Cond.static y ∈ Wl) (hini : Cond.initialized y.cls ∈ Wl) (hco : Cond.code y bytes maxL rt ∈ Wl) (hdd : y.cls ≠ "java/lang/invoke/MethodHandle" ∧ y.cls ≠ "java/lang/invoke/VarHandle" ∧ (parseMethodDescriptor y.desc).map (fun d => d.parameters.length) = some As.length) (hR : fr + 1 ≤ R.frames ∧ 8 + (maxL + 11) + lo ≤ R.locals) (hf : cells + 0 ≤ R.cells ∧ slots + 0 ≤ R.slots) (hst : st0 = As.reverse ++ rest) (hro : (rest.map fun v => v.category).sum ≤ 8) (hd : decode cc pc = .ok (.invokestatic index, 3)) (kk : gG p l e R s m args below meth c nL D cl A0 H0 cells slots Q (wF n a g2) (pc + 3) lv (va_rf r :: rest)) : gG p l e R s m args below meth c nL D cl A0 H0 cells slots Q (wF n a g) pc lv st0 :=
  fun H locs ls hP hD hS hl => va_callq (va_runSN (As := As) (rest := rest) ⟨C.1, C.2.1, C.2.2.2.2.2.2.1, C.2.2.2.2.1, C.2.2.2.1⟩ (hM H.size) ⟨va_cnB As.length C.2.2.2.1 (gW_good hco) rfl rfl rfl (C.2.2.2.2.2.2.2.1.2 _ hnl) (C.2.2.2.1 _ hini) hdd hR, C.2.2.2.1 _ hsa, trivial⟩ ⟨gPre_blind, gPre_of C hP hD⟩ rfl rfl hl.1 hst (lv_room hro) hd hf) hS (fun q _ h => g_free C hD hS q h) (g_free C hD hS) (fun r2 u t H1 locs1 ht hvm hw hB hz1 hk1 hS1 => by cases hw; exact kk H1 locs1 ls (by rw [← ht]; exact hB) (wF_D hD) hS1 hl)
end
end
section
abbrev vwCl : List vw_C := [(RX0, TX0, 4), (RX1, TX1, 3), (RX2, TX2, 7), (RX3, TX3, 7), (RX4, TX4, 2), (RX5, TX5, 2), (RX6, TX6, 8), (RX7, TX7, 31)]
abbrev tyW (cI cZ cS : ClassId) : List (ClassId × FieldType) := [(cI, .int), (cZ, .boolean), (cS, .object "FirstUmbrella$Scene")]
abbrev wC (a : Nat → Nat) (cI cS : ClassId) (M : MM) : va_W := wF 106 a (cC a cI cS M)
abbrev wD (a : Nat → Nat) (cI cZ : ClassId) (M : MM) : va_W := wF 16 a (cD a cI cZ M)
section
variable {p : Program} {l : Launch} {e : Env} {R : Room} {s : State} {m : MethodId} {args : Array Value} {below : List Frame} {meth : Method} {c : Code} {cells slots : Nat} {Q : State → Prop} {dC : Nat → ClassId} {dI : Nat → Nat → Nat} {A0 : Nat → Prop} {H0 : Heap} {cc : ByteArray} {nL : Nat} {ret : Option FieldType} {own : String} {pc : Nat} {lv : List (Nat × Value)} {st : List Value} {a : Nat → Nat} {cI cZ cS : ClassId} {M : MM}
theorem rg_X0_streets (C : gC p s m args meth c cc nL ret RX0 (dC, dI) vwCl (tyW cI cZ cS) A0 H0) (hd : decode cc pc = .ok (.getfield 9, 3)) (kk : gG p l e R s m args below meth c nL (dC, dI) vwCl A0 H0 cells slots Q (wC a cI cS M) (pc + 3) lv (.ref (a 14) :: st)) : gG p l e R s m args below meth c nL (dC, dI) vwCl A0 H0 cells slots Q (wC a cI cS M) pc lv (.ref (a 13) :: st) :=
  g_getf C (k := 13) (by decide) (rfl) rfl 0 (by decide) wu_X0 wl_163 rfl hd kk
theorem rg_X0_hours (C : gC p s m args meth c cc nL ret RX0 (dC, dI) vwCl (tyW cI cZ cS) A0 H0) (hd : decode cc pc = .ok (.getfield 15, 3)) (kk : gG p l e R s m args below meth c nL (dC, dI) vwCl A0 H0 cells slots Q (wC a cI cS M) (pc + 3) lv (.ref (a 15) :: st)) : gG p l e R s m args below meth c nL (dC, dI) vwCl A0 H0 cells slots Q (wC a cI cS M) pc lv (.ref (a 13) :: st) :=
  g_getf C (k := 13) (by decide) (rfl) rfl 1 (by decide) wu_X0 wl_164 rfl hd kk
theorem rg_X0_rains (C : gC p s m args meth c cc nL ret RX0 (dC, dI) vwCl (tyW cI cZ cS) A0 H0) (hd : decode cc pc = .ok (.getfield 22, 3)) (kk : gG p l e R s m args below meth c nL (dC, dI) vwCl A0 H0 cells slots Q (wC a cI cS M) (pc + 3) lv (.int (M.1 0 6) :: st)) : gG p l e R s m args below meth c nL (dC, dI) vwCl A0 H0 cells slots Q (wC a cI cS M) pc lv (.ref (a 13) :: st) :=
  g_getf C (k := 13) (by decide) (rfl) rfl 2 (by decide) wu_X0 wl_165 rfl hd kk
theorem rp_X0_rains (C : gC p s m args meth c cc nL ret RX0 (dC, dI) vwCl (tyW cI cZ cS) A0 H0) {v : Int32} (hd : decode cc pc = .ok (.putfield 22, 3)) (kk : gG p l e R s m args below meth c nL (dC, dI) vwCl A0 H0 cells slots Q (wC a cI cS (mU M 0 6 v)) (pc + 3) lv st) : gG p l e R s m args below meth c nL (dC, dI) vwCl A0 H0 cells slots Q (wC a cI cS M) pc lv (.int v :: .ref (a 13) :: st) :=
  g_putf C (k := 13) (by decide) (rfl) rfl tyX0 tyX0_ok nmX0 2 (by decide) wu_X0 wl_165 rfl (ty := .int) rfl rfl rfl (Nat.le_of_ble_eq_true rfl) (cC_put (by unfold own; omega) (by exact ve_rf _)) hd kk
theorem rg_X0_count (C : gC p s m args meth c cc nL ret RX0 (dC, dI) vwCl (tyW cI cZ cS) A0 H0) (hd : decode cc pc = .ok (.getfield 18, 3)) (kk : gG p l e R s m args below meth c nL (dC, dI) vwCl A0 H0 cells slots Q (wC a cI cS M) (pc + 3) lv (.int (M.1 0 7) :: st)) : gG p l e R s m args below meth c nL (dC, dI) vwCl A0 H0 cells slots Q (wC a cI cS M) pc lv (.ref (a 13) :: st) :=
  g_getf C (k := 13) (by decide) (rfl) rfl 3 (by decide) wu_X0 wl_166 rfl hd kk
theorem rp_X0_count (C : gC p s m args meth c cc nL ret RX0 (dC, dI) vwCl (tyW cI cZ cS) A0 H0) {v : Int32} (hd : decode cc pc = .ok (.putfield 18, 3)) (kk : gG p l e R s m args below meth c nL (dC, dI) vwCl A0 H0 cells slots Q (wC a cI cS (mU M 0 7 v)) (pc + 3) lv st) : gG p l e R s m args below meth c nL (dC, dI) vwCl A0 H0 cells slots Q (wC a cI cS M) pc lv (.int v :: .ref (a 13) :: st) :=
  g_putf C (k := 13) (by decide) (rfl) rfl tyX0 tyX0_ok nmX0 3 (by decide) wu_X0 wl_166 rfl (ty := .int) rfl rfl rfl (Nat.le_of_ble_eq_true rfl) (cC_put (by unfold own; omega) (by exact ve_rf _)) hd kk
theorem rg_X1_found (C : gC p s m args meth c cc nL ret RX1 (dC, dI) vwCl (tyW cI cZ cS) A0 H0) (hd : decode cc pc = .ok (.getfield 13, 3)) (kk : gG p l e R s m args below meth c nL (dC, dI) vwCl A0 H0 cells slots Q (wC a cI cS M) (pc + 3) lv (.ref (a 10) :: st)) : gG p l e R s m args below meth c nL (dC, dI) vwCl A0 H0 cells slots Q (wC a cI cS M) pc lv (.ref (a 9) :: st) :=
  g_getf C (k := 9) (by decide) (rfl) rfl 0 (by decide) wu_X1 wl_133 rfl hd kk
theorem rg_X1_first (C : gC p s m args meth c cc nL ret RX1 (dC, dI) vwCl (tyW cI cZ cS) A0 H0) (hd : decode cc pc = .ok (.getfield 23, 3)) (kk : gG p l e R s m args below meth c nL (dC, dI) vwCl A0 H0 cells slots Q (wC a cI cS M) (pc + 3) lv (.int (M.1 0 3) :: st)) : gG p l e R s m args below meth c nL (dC, dI) vwCl A0 H0 cells slots Q (wC a cI cS M) pc lv (.ref (a 9) :: st) :=
  g_getf C (k := 9) (by decide) (rfl) rfl 1 (by decide) wu_X1 wl_134 rfl hd kk
theorem rp_X1_first (C : gC p s m args meth c cc nL ret RX1 (dC, dI) vwCl (tyW cI cZ cS) A0 H0) {v : Int32} (hd : decode cc pc = .ok (.putfield 23, 3)) (kk : gG p l e R s m args below meth c nL (dC, dI) vwCl A0 H0 cells slots Q (wC a cI cS (mU M 0 3 v)) (pc + 3) lv st) : gG p l e R s m args below meth c nL (dC, dI) vwCl A0 H0 cells slots Q (wC a cI cS M) pc lv (.int v :: .ref (a 9) :: st) :=
  g_putf C (k := 9) (by decide) (rfl) rfl tyX1 tyX1_ok nmX1 1 (by decide) wu_X1 wl_134 rfl (ty := .int) rfl rfl rfl (Nat.le_of_ble_eq_true rfl) (cC_put (by unfold own; omega) (by exact ve_rf _)) hd kk
theorem rg_X1_count (C : gC p s m args meth c cc nL ret RX1 (dC, dI) vwCl (tyW cI cZ cS) A0 H0) (hd : decode cc pc = .ok (.getfield 19, 3)) (kk : gG p l e R s m args below meth c nL (dC, dI) vwCl A0 H0 cells slots Q (wC a cI cS M) (pc + 3) lv (.int (M.1 0 4) :: st)) : gG p l e R s m args below meth c nL (dC, dI) vwCl A0 H0 cells slots Q (wC a cI cS M) pc lv (.ref (a 9) :: st) :=
  g_getf C (k := 9) (by decide) (rfl) rfl 2 (by decide) wu_X1 wl_135 rfl hd kk
theorem rp_X1_count (C : gC p s m args meth c cc nL ret RX1 (dC, dI) vwCl (tyW cI cZ cS) A0 H0) {v : Int32} (hd : decode cc pc = .ok (.putfield 19, 3)) (kk : gG p l e R s m args below meth c nL (dC, dI) vwCl A0 H0 cells slots Q (wC a cI cS (mU M 0 4 v)) (pc + 3) lv st) : gG p l e R s m args below meth c nL (dC, dI) vwCl A0 H0 cells slots Q (wC a cI cS M) pc lv (.int v :: .ref (a 9) :: st) :=
  g_putf C (k := 9) (by decide) (rfl) rfl tyX1 tyX1_ok nmX1 2 (by decide) wu_X1 wl_135 rfl (ty := .int) rfl rfl rfl (Nat.le_of_ble_eq_true rfl) (cC_put (by unfold own; omega) (by exact ve_rf _)) hd kk
theorem rg_X2_walkers (C : gC p s m args meth c cc nL ret RX2 (dC, dI) vwCl (tyW cI cZ cS) A0 H0) (hd : decode cc pc = .ok (.getfield 27, 3)) (kk : gG p l e R s m args below meth c nL (dC, dI) vwCl A0 H0 cells slots Q (wC a cI cS M) (pc + 3) lv (.int (M.1 0 1) :: st)) : gG p l e R s m args below meth c nL (dC, dI) vwCl A0 H0 cells slots Q (wC a cI cS M) pc lv (.ref (a 3) :: st) :=
  g_getf C (k := 3) (by decide) (rfl) rfl 0 (by decide) wu_X2 wl_73 rfl hd kk
theorem rp_X2_walkers (C : gC p s m args meth c cc nL ret RX2 (dC, dI) vwCl (tyW cI cZ cS) A0 H0) {v : Int32} (hd : decode cc pc = .ok (.putfield 27, 3)) (kk : gG p l e R s m args below meth c nL (dC, dI) vwCl A0 H0 cells slots Q (wC a cI cS (mU M 0 1 v)) (pc + 3) lv st) : gG p l e R s m args below meth c nL (dC, dI) vwCl A0 H0 cells slots Q (wC a cI cS M) pc lv (.int v :: .ref (a 3) :: st) :=
  g_putf C (k := 3) (by decide) (rfl) rfl tyX2 tyX2_ok nmX2 0 (by decide) wu_X2 wl_73 rfl (ty := .int) rfl rfl rfl (Nat.le_of_ble_eq_true rfl) (cC_put (by unfold own; omega) (by exact ve_rf _)) hd kk
theorem rg_X2_needs (C : gC p s m args meth c cc nL ret RX2 (dC, dI) vwCl (tyW cI cZ cS) A0 H0) (hd : decode cc pc = .ok (.getfield 31, 3)) (kk : gG p l e R s m args below meth c nL (dC, dI) vwCl A0 H0 cells slots Q (wC a cI cS M) (pc + 3) lv (.int (M.1 0 2) :: st)) : gG p l e R s m args below meth c nL (dC, dI) vwCl A0 H0 cells slots Q (wC a cI cS M) pc lv (.ref (a 3) :: st) :=
  g_getf C (k := 3) (by decide) (rfl) rfl 1 (by decide) wu_X2 wl_74 rfl hd kk
theorem rp_X2_needs (C : gC p s m args meth c cc nL ret RX2 (dC, dI) vwCl (tyW cI cZ cS) A0 H0) {v : Int32} (hd : decode cc pc = .ok (.putfield 31, 3)) (kk : gG p l e R s m args below meth c nL (dC, dI) vwCl A0 H0 cells slots Q (wC a cI cS (mU M 0 2 v)) (pc + 3) lv st) : gG p l e R s m args below meth c nL (dC, dI) vwCl A0 H0 cells slots Q (wC a cI cS M) pc lv (.int v :: .ref (a 3) :: st) :=
  g_putf C (k := 3) (by decide) (rfl) rfl tyX2 tyX2_ok nmX2 1 (by decide) wu_X2 wl_74 rfl (ty := .int) rfl rfl rfl (Nat.le_of_ble_eq_true rfl) (cC_put (by unfold own; omega) (by exact ve_rf _)) hd kk
theorem rg_X2_homes (C : gC p s m args meth c cc nL ret RX2 (dC, dI) vwCl (tyW cI cZ cS) A0 H0) (hd : decode cc pc = .ok (.getfield 9, 3)) (kk : gG p l e R s m args below meth c nL (dC, dI) vwCl A0 H0 cells slots Q (wC a cI cS M) (pc + 3) lv (.ref (a 4) :: st)) : gG p l e R s m args below meth c nL (dC, dI) vwCl A0 H0 cells slots Q (wC a cI cS M) pc lv (.ref (a 3) :: st) :=
  g_getf C (k := 3) (by decide) (rfl) rfl 2 (by decide) wu_X2 wl_75 rfl hd kk
theorem rg_X2_stuffs (C : gC p s m args meth c cc nL ret RX2 (dC, dI) vwCl (tyW cI cZ cS) A0 H0) (hd : decode cc pc = .ok (.getfield 15, 3)) (kk : gG p l e R s m args below meth c nL (dC, dI) vwCl A0 H0 cells slots Q (wC a cI cS M) (pc + 3) lv (.ref (a 5) :: st)) : gG p l e R s m args below meth c nL (dC, dI) vwCl A0 H0 cells slots Q (wC a cI cS M) pc lv (.ref (a 3) :: st) :=
  g_getf C (k := 3) (by decide) (rfl) rfl 3 (by decide) wu_X2 wl_76 rfl hd kk
theorem rg_X2_needStreets (C : gC p s m args meth c cc nL ret RX2 (dC, dI) vwCl (tyW cI cZ cS) A0 H0) (hd : decode cc pc = .ok (.getfield 18, 3)) (kk : gG p l e R s m args below meth c nL (dC, dI) vwCl A0 H0 cells slots Q (wC a cI cS M) (pc + 3) lv (.ref (a 6) :: st)) : gG p l e R s m args below meth c nL (dC, dI) vwCl A0 H0 cells slots Q (wC a cI cS M) pc lv (.ref (a 3) :: st) :=
  g_getf C (k := 3) (by decide) (rfl) rfl 4 (by decide) wu_X2 wl_77 rfl hd kk
theorem rg_X2_needSorts (C : gC p s m args meth c cc nL ret RX2 (dC, dI) vwCl (tyW cI cZ cS) A0 H0) (hd : decode cc pc = .ok (.getfield 21, 3)) (kk : gG p l e R s m args below meth c nL (dC, dI) vwCl A0 H0 cells slots Q (wC a cI cS M) (pc + 3) lv (.ref (a 7) :: st)) : gG p l e R s m args below meth c nL (dC, dI) vwCl A0 H0 cells slots Q (wC a cI cS M) pc lv (.ref (a 3) :: st) :=
  g_getf C (k := 3) (by decide) (rfl) rfl 5 (by decide) wu_X2 wl_78 rfl hd kk
theorem rg_X2_needFigures (C : gC p s m args meth c cc nL ret RX2 (dC, dI) vwCl (tyW cI cZ cS) A0 H0) (hd : decode cc pc = .ok (.getfield 24, 3)) (kk : gG p l e R s m args below meth c nL (dC, dI) vwCl A0 H0 cells slots Q (wC a cI cS M) (pc + 3) lv (.ref (a 8) :: st)) : gG p l e R s m args below meth c nL (dC, dI) vwCl A0 H0 cells slots Q (wC a cI cS M) pc lv (.ref (a 3) :: st) :=
  g_getf C (k := 3) (by decide) (rfl) rfl 6 (by decide) wu_X2 wl_79 rfl hd kk
theorem rg_X3_plan (C : gC p s m args meth c cc nL ret RX3 (dC, dI) vwCl (tyW cI cZ cS) A0 H0) (i : Nat) (hi : i < 18) (hd : decode cc pc = .ok (.getfield 24, 3)) (kk : gG p l e R s m args below meth c nL (dC, dI) vwCl A0 H0 cells slots Q (wC a cI cS M) (pc + 3) lv (.ref (a 3) :: st)) : gG p l e R s m args below meth c nL (dC, dI) vwCl A0 H0 cells slots Q (wC a cI cS M) pc lv (.ref (a (16 + 5 * i)) :: st) :=
  g_getf C (k := (16 + 5 * i)) (by omega) (cC_sc i) rfl 0 (by decide) wu_X3 wl_101 rfl hd kk
theorem rg_X3_places (C : gC p s m args meth c cc nL ret RX3 (dC, dI) vwCl (tyW cI cZ cS) A0 H0) (i : Nat) (hi : i < 18) (hd : decode cc pc = .ok (.getfield 9, 3)) (kk : gG p l e R s m args below meth c nL (dC, dI) vwCl A0 H0 cells slots Q (wC a cI cS M) (pc + 3) lv (.ref (a (16 + 5 * i + 1)) :: st)) : gG p l e R s m args below meth c nL (dC, dI) vwCl A0 H0 cells slots Q (wC a cI cS M) pc lv (.ref (a (16 + 5 * i)) :: st) :=
  g_getf C (k := (16 + 5 * i)) (by omega) (cC_sc i) rfl 1 (by decide) wu_X3 wl_102 rfl hd kk
theorem rg_X3_lasts (C : gC p s m args meth c cc nL ret RX3 (dC, dI) vwCl (tyW cI cZ cS) A0 H0) (i : Nat) (hi : i < 18) (hd : decode cc pc = .ok (.getfield 15, 3)) (kk : gG p l e R s m args below meth c nL (dC, dI) vwCl A0 H0 cells slots Q (wC a cI cS M) (pc + 3) lv (.ref (a (16 + 5 * i + 2)) :: st)) : gG p l e R s m args below meth c nL (dC, dI) vwCl A0 H0 cells slots Q (wC a cI cS M) pc lv (.ref (a (16 + 5 * i)) :: st) :=
  g_getf C (k := (16 + 5 * i)) (by omega) (cC_sc i) rfl 2 (by decide) wu_X3 wl_103 rfl hd kk
theorem rg_X3_wetness (C : gC p s m args meth c cc nL ret RX3 (dC, dI) vwCl (tyW cI cZ cS) A0 H0) (i : Nat) (hi : i < 18) (hd : decode cc pc = .ok (.getfield 18, 3)) (kk : gG p l e R s m args below meth c nL (dC, dI) vwCl A0 H0 cells slots Q (wC a cI cS M) (pc + 3) lv (.ref (a (16 + 5 * i + 3)) :: st)) : gG p l e R s m args below meth c nL (dC, dI) vwCl A0 H0 cells slots Q (wC a cI cS M) pc lv (.ref (a (16 + 5 * i)) :: st) :=
  g_getf C (k := (16 + 5 * i)) (by omega) (cC_sc i) rfl 3 (by decide) wu_X3 wl_104 rfl hd kk
theorem rg_X3_fates (C : gC p s m args meth c cc nL ret RX3 (dC, dI) vwCl (tyW cI cZ cS) A0 H0) (i : Nat) (hi : i < 18) (hd : decode cc pc = .ok (.getfield 21, 3)) (kk : gG p l e R s m args below meth c nL (dC, dI) vwCl A0 H0 cells slots Q (wC a cI cS M) (pc + 3) lv (.ref (a (16 + 5 * i + 4)) :: st)) : gG p l e R s m args below meth c nL (dC, dI) vwCl A0 H0 cells slots Q (wC a cI cS M) pc lv (.ref (a (16 + 5 * i)) :: st) :=
  g_getf C (k := (16 + 5 * i)) (by omega) (cC_sc i) rfl 4 (by decide) wu_X3 wl_105 rfl hd kk
theorem rg_X3_opened (C : gC p s m args meth c cc nL ret RX3 (dC, dI) vwCl (tyW cI cZ cS) A0 H0) (i : Nat) (hi : i < 18) (hd : decode cc pc = .ok (.getfield 40, 3)) (kk : gG p l e R s m args below meth c nL (dC, dI) vwCl A0 H0 cells slots Q (wC a cI cS M) (pc + 3) lv (.int (M.1 (9 + i) 5) :: st)) : gG p l e R s m args below meth c nL (dC, dI) vwCl A0 H0 cells slots Q (wC a cI cS M) pc lv (.ref (a (16 + 5 * i)) :: st) :=
  g_getf C (k := (16 + 5 * i)) (by omega) (cC_sc i) rfl 5 (by decide) wu_X3 wl_106 rfl hd kk
theorem rp_X3_opened (C : gC p s m args meth c cc nL ret RX3 (dC, dI) vwCl (tyW cI cZ cS) A0 H0) (i : Nat) (hi : i < 18) {v : Int32} (hd : decode cc pc = .ok (.putfield 40, 3)) (kk : gG p l e R s m args below meth c nL (dC, dI) vwCl A0 H0 cells slots Q (wC a cI cS (mU M (9 + i) 5 v)) (pc + 3) lv st) : gG p l e R s m args below meth c nL (dC, dI) vwCl A0 H0 cells slots Q (wC a cI cS M) pc lv (.int v :: .ref (a (16 + 5 * i)) :: st) :=
  g_putf C (k := (16 + 5 * i)) (by omega) (cC_sc i) rfl tyX3 tyX3_ok nmX3 5 (by decide) wu_X3 wl_106 rfl (ty := .int) rfl rfl rfl (Nat.le_of_ble_eq_true rfl) (cC_put (by unfold own; omega) (by rw [cC_sc, mU_at, mU_ne (by omega)]; exact ve_rf _)) hd kk
theorem rg_X3_time (C : gC p s m args meth c cc nL ret RX3 (dC, dI) vwCl (tyW cI cZ cS) A0 H0) (i : Nat) (hi : i < 18) (hd : decode cc pc = .ok (.getfield 44, 3)) (kk : gG p l e R s m args below meth c nL (dC, dI) vwCl A0 H0 cells slots Q (wC a cI cS M) (pc + 3) lv (.int (M.1 (9 + i) 23) :: st)) : gG p l e R s m args below meth c nL (dC, dI) vwCl A0 H0 cells slots Q (wC a cI cS M) pc lv (.ref (a (16 + 5 * i)) :: st) :=
  g_getf C (k := (16 + 5 * i)) (by omega) (cC_sc i) rfl 6 (by decide) wu_X3 wl_107 rfl hd kk
theorem rp_X3_time (C : gC p s m args meth c cc nL ret RX3 (dC, dI) vwCl (tyW cI cZ cS) A0 H0) (i : Nat) (hi : i < 18) {v : Int32} (hd : decode cc pc = .ok (.putfield 44, 3)) (kk : gG p l e R s m args below meth c nL (dC, dI) vwCl A0 H0 cells slots Q (wC a cI cS (mU M (9 + i) 23 v)) (pc + 3) lv st) : gG p l e R s m args below meth c nL (dC, dI) vwCl A0 H0 cells slots Q (wC a cI cS M) pc lv (.int v :: .ref (a (16 + 5 * i)) :: st) :=
  g_putf C (k := (16 + 5 * i)) (by omega) (cC_sc i) rfl tyX3 tyX3_ok nmX3 6 (by decide) wu_X3 wl_107 rfl (ty := .int) rfl rfl rfl (Nat.le_of_ble_eq_true rfl) (cC_put (by unfold own; omega) (by rw [cC_sc, mU_at, mU_ne (by omega)]; exact ve_rf _)) hd kk
theorem rg_X4_bytes (C : gC p s m args meth c cc nL ret RX4 (dC, dI) vwCl (tyW cI cZ cS) A0 H0) (hd : decode cc pc = .ok (.getfield 9, 3)) (kk : gG p l e R s m args below meth c nL (dC, dI) vwCl A0 H0 cells slots Q (wC a cI cS M) (pc + 3) lv (.ref (a 2) :: st)) : gG p l e R s m args below meth c nL (dC, dI) vwCl A0 H0 cells slots Q (wC a cI cS M) pc lv (.ref (a 1) :: st) :=
  g_getf C (k := 1) (by decide) (rfl) rfl 0 (by decide) wu_X4 wl_59 rfl hd kk
theorem rg_X4_length (C : gC p s m args meth c cc nL ret RX4 (dC, dI) vwCl (tyW cI cZ cS) A0 H0) (hd : decode cc pc = .ok (.getfield 15, 3)) (kk : gG p l e R s m args below meth c nL (dC, dI) vwCl A0 H0 cells slots Q (wC a cI cS M) (pc + 3) lv (.int (M.1 0 0) :: st)) : gG p l e R s m args below meth c nL (dC, dI) vwCl A0 H0 cells slots Q (wC a cI cS M) pc lv (.ref (a 1) :: st) :=
  g_getf C (k := 1) (by decide) (rfl) rfl 1 (by decide) wu_X4 wl_60 rfl hd kk
theorem rp_X4_length (C : gC p s m args meth c cc nL ret RX4 (dC, dI) vwCl (tyW cI cZ cS) A0 H0) {v : Int32} (hd : decode cc pc = .ok (.putfield 15, 3)) (kk : gG p l e R s m args below meth c nL (dC, dI) vwCl A0 H0 cells slots Q (wC a cI cS (mU M 0 0 v)) (pc + 3) lv st) : gG p l e R s m args below meth c nL (dC, dI) vwCl A0 H0 cells slots Q (wC a cI cS M) pc lv (.int v :: .ref (a 1) :: st) :=
  g_putf C (k := 1) (by decide) (rfl) rfl tyX4 tyX4_ok nmX4 1 (by decide) wu_X4 wl_60 rfl (ty := .int) rfl rfl rfl (Nat.le_of_ble_eq_true rfl) (cC_put (by unfold own; omega) (by exact ve_rf _)) hd kk
theorem rg_X5_stored (C : gC p s m args meth c cc nL ret RX5 (dC, dI) vwCl (tyW cI cZ cS) A0 H0) (hd : decode cc pc = .ok (.getfield 13, 3)) (kk : gG p l e R s m args below meth c nL (dC, dI) vwCl A0 H0 cells slots Q (wC a cI cS M) (pc + 3) lv (.ref (a 12) :: st)) : gG p l e R s m args below meth c nL (dC, dI) vwCl A0 H0 cells slots Q (wC a cI cS M) pc lv (.ref (a 11) :: st) :=
  g_getf C (k := 11) (by decide) (rfl) rfl 0 (by decide) wu_X5 wl_150 rfl hd kk
theorem rg_X5_used (C : gC p s m args meth c cc nL ret RX5 (dC, dI) vwCl (tyW cI cZ cS) A0 H0) (hd : decode cc pc = .ok (.getfield 19, 3)) (kk : gG p l e R s m args below meth c nL (dC, dI) vwCl A0 H0 cells slots Q (wC a cI cS M) (pc + 3) lv (.int (M.1 0 5) :: st)) : gG p l e R s m args below meth c nL (dC, dI) vwCl A0 H0 cells slots Q (wC a cI cS M) pc lv (.ref (a 11) :: st) :=
  g_getf C (k := 11) (by decide) (rfl) rfl 1 (by decide) wu_X5 wl_151 rfl hd kk
theorem rp_X5_used (C : gC p s m args meth c cc nL ret RX5 (dC, dI) vwCl (tyW cI cZ cS) A0 H0) {v : Int32} (hd : decode cc pc = .ok (.putfield 19, 3)) (kk : gG p l e R s m args below meth c nL (dC, dI) vwCl A0 H0 cells slots Q (wC a cI cS (mU M 0 5 v)) (pc + 3) lv st) : gG p l e R s m args below meth c nL (dC, dI) vwCl A0 H0 cells slots Q (wC a cI cS M) pc lv (.int v :: .ref (a 11) :: st) :=
  g_putf C (k := 11) (by decide) (rfl) rfl tyX5 tyX5_ok nmX5 1 (by decide) wu_X5 wl_151 rfl (ty := .int) rfl rfl rfl (Nat.le_of_ble_eq_true rfl) (cC_put (by unfold own; omega) (by exact ve_rf _)) hd kk
theorem rg_X6_script (C : gC p s m args meth c cc nL ret RX6 (dC, dI) vwCl (tyW cI cZ cS) A0 H0) (hd : decode cc pc = .ok (.getfield 12, 3)) (kk : gG p l e R s m args below meth c nL (dC, dI) vwCl A0 H0 cells slots Q (wC a cI cS M) (pc + 3) lv (.ref (a 1) :: st)) : gG p l e R s m args below meth c nL (dC, dI) vwCl A0 H0 cells slots Q (wC a cI cS M) pc lv (.ref (a 0) :: st) :=
  g_getf C (k := 0) (by decide) (rfl) rfl 0 (by decide) wu_X6 wl_176 rfl hd kk
theorem rg_X6_plan (C : gC p s m args meth c cc nL ret RX6 (dC, dI) vwCl (tyW cI cZ cS) A0 H0) (hd : decode cc pc = .ok (.getfield 19, 3)) (kk : gG p l e R s m args below meth c nL (dC, dI) vwCl A0 H0 cells slots Q (wC a cI cS M) (pc + 3) lv (.ref (a 3) :: st)) : gG p l e R s m args below meth c nL (dC, dI) vwCl A0 H0 cells slots Q (wC a cI cS M) pc lv (.ref (a 0) :: st) :=
  g_getf C (k := 0) (by decide) (rfl) rfl 1 (by decide) wu_X6 wl_177 rfl hd kk
theorem rg_X6_now (C : gC p s m args meth c cc nL ret RX6 (dC, dI) vwCl (tyW cI cZ cS) A0 H0) (hd : decode cc pc = .ok (.getfield 28, 3)) (kk : gG p l e R s m args below meth c nL (dC, dI) vwCl A0 H0 cells slots Q (wC a cI cS M) (pc + 3) lv (.ref (a 16) :: st)) : gG p l e R s m args below meth c nL (dC, dI) vwCl A0 H0 cells slots Q (wC a cI cS M) pc lv (.ref (a 0) :: st) :=
  g_getf C (k := 0) (by decide) (rfl) rfl 2 (by decide) wu_X6 wl_178 rfl hd kk
theorem rg_X6_trial (C : gC p s m args meth c cc nL ret RX6 (dC, dI) vwCl (tyW cI cZ cS) A0 H0) (hd : decode cc pc = .ok (.getfield 32, 3)) (kk : gG p l e R s m args below meth c nL (dC, dI) vwCl A0 H0 cells slots Q (wC a cI cS M) (pc + 3) lv (.ref (a 21) :: st)) : gG p l e R s m args below meth c nL (dC, dI) vwCl A0 H0 cells slots Q (wC a cI cS M) pc lv (.ref (a 0) :: st) :=
  g_getf C (k := 0) (by decide) (rfl) rfl 3 (by decide) wu_X6 wl_179 rfl hd kk
theorem rg_X6_past (C : gC p s m args meth c cc nL ret RX6 (dC, dI) vwCl (tyW cI cZ cS) A0 H0) (hd : decode cc pc = .ok (.getfield 38, 3)) (kk : gG p l e R s m args below meth c nL (dC, dI) vwCl A0 H0 cells slots Q (wC a cI cS M) (pc + 3) lv (.ref (a 9) :: st)) : gG p l e R s m args below meth c nL (dC, dI) vwCl A0 H0 cells slots Q (wC a cI cS M) pc lv (.ref (a 0) :: st) :=
  g_getf C (k := 0) (by decide) (rfl) rfl 4 (by decide) wu_X6 wl_180 rfl hd kk
theorem rg_X6_slots (C : gC p s m args meth c cc nL ret RX6 (dC, dI) vwCl (tyW cI cZ cS) A0 H0) (hd : decode cc pc = .ok (.getfield 45, 3)) (kk : gG p l e R s m args below meth c nL (dC, dI) vwCl A0 H0 cells slots Q (wC a cI cS M) (pc + 3) lv (.ref (a 11) :: st)) : gG p l e R s m args below meth c nL (dC, dI) vwCl A0 H0 cells slots Q (wC a cI cS M) pc lv (.ref (a 0) :: st) :=
  g_getf C (k := 0) (by decide) (rfl) rfl 5 (by decide) wu_X6 wl_181 rfl hd kk
theorem rg_X6_felt (C : gC p s m args meth c cc nL ret RX6 (dC, dI) vwCl (tyW cI cZ cS) A0 H0) (hd : decode cc pc = .ok (.getfield 52, 3)) (kk : gG p l e R s m args below meth c nL (dC, dI) vwCl A0 H0 cells slots Q (wC a cI cS M) (pc + 3) lv (.ref (a 13) :: st)) : gG p l e R s m args below meth c nL (dC, dI) vwCl A0 H0 cells slots Q (wC a cI cS M) pc lv (.ref (a 0) :: st) :=
  g_getf C (k := 0) (by decide) (rfl) rfl 6 (by decide) wu_X6 wl_182 rfl hd kk
theorem rg_X6_seedNow (C : gC p s m args meth c cc nL ret RX6 (dC, dI) vwCl (tyW cI cZ cS) A0 H0) (hd : decode cc pc = .ok (.getfield 236, 3)) (kk : gG p l e R s m args below meth c nL (dC, dI) vwCl A0 H0 cells slots Q (wC a cI cS M) (pc + 3) lv (.long M.2 :: st)) : gG p l e R s m args below meth c nL (dC, dI) vwCl A0 H0 cells slots Q (wC a cI cS M) pc lv (.ref (a 0) :: st) :=
  g_getf C (k := 0) (by decide) (rfl) rfl 7 (by decide) wu_X6 wl_183 rfl hd kk
theorem rp_X6_seedNow (C : gC p s m args meth c cc nL ret RX6 (dC, dI) vwCl (tyW cI cZ cS) A0 H0) {v : Int64} (hd : decode cc pc = .ok (.putfield 236, 3)) (kk : gG p l e R s m args below meth c nL (dC, dI) vwCl A0 H0 cells slots Q (wC a cI cS (mL M v)) (pc + 3) lv st) : gG p l e R s m args below meth c nL (dC, dI) vwCl A0 H0 cells slots Q (wC a cI cS M) pc lv (.long v :: .ref (a 0) :: st) :=
  g_putf C (k := 0) (by decide) (rfl) rfl tyX6 tyX6_ok nmX6 7 (by decide) wu_X6 wl_183 rfl (ty := .long) rfl rfl rfl (Nat.le_of_ble_eq_true rfl) (cC_putL (by exact ve_rf _)) hd kk
theorem rg_X7_thrown (C : gC p s m args meth c cc nL ret RX7 (dC, dI) vwCl (tyW cI cZ cS) A0 H0) (hd : decode cc pc = .ok (.getfield 56, 3)) (kk : gG p l e R s m args below meth c nL (dC, dI) vwCl A0 H0 cells slots Q (wD a cI cZ M) (pc + 3) lv (.int (M.1 0 0) :: st)) : gG p l e R s m args below meth c nL (dC, dI) vwCl A0 H0 cells slots Q (wD a cI cZ M) pc lv (.ref (a 0) :: st) :=
  g_getf C (k := 0) (by decide) (cD_0) rfl 0 (by decide) wu_X7 wl_668 rfl hd kk
theorem rp_X7_thrown (C : gC p s m args meth c cc nL ret RX7 (dC, dI) vwCl (tyW cI cZ cS) A0 H0) {v : Int32} (hd : decode cc pc = .ok (.putfield 56, 3)) (kk : gG p l e R s m args below meth c nL (dC, dI) vwCl A0 H0 cells slots Q (wD a cI cZ (mU M 0 0 v)) (pc + 3) lv st) : gG p l e R s m args below meth c nL (dC, dI) vwCl A0 H0 cells slots Q (wD a cI cZ M) pc lv (.int v :: .ref (a 0) :: st) :=
  g_putf C (k := 0) (by decide) (cD_0) rfl tyX7 tyX7_ok nmX7 0 (by decide) wu_X7 wl_668 rfl (ty := .int) rfl rfl rfl (Nat.le_of_ble_eq_true rfl) (cD_put (k := 0) (by exact ve_rf _)) hd kk
theorem rg_X7_text (C : gC p s m args meth c cc nL ret RX7 (dC, dI) vwCl (tyW cI cZ cS) A0 H0) (hd : decode cc pc = .ok (.getfield 7, 3)) (kk : gG p l e R s m args below meth c nL (dC, dI) vwCl A0 H0 cells slots Q (wD a cI cZ M) (pc + 3) lv (.ref (a 1) :: st)) : gG p l e R s m args below meth c nL (dC, dI) vwCl A0 H0 cells slots Q (wD a cI cZ M) pc lv (.ref (a 0) :: st) :=
  g_getf C (k := 0) (by decide) (cD_0) rfl 1 (by decide) wu_X7 wl_669 rfl hd kk
theorem rg_X7_textSize (C : gC p s m args meth c cc nL ret RX7 (dC, dI) vwCl (tyW cI cZ cS) A0 H0) (hd : decode cc pc = .ok (.getfield 71, 3)) (kk : gG p l e R s m args below meth c nL (dC, dI) vwCl A0 H0 cells slots Q (wD a cI cZ M) (pc + 3) lv (.int (M.1 0 1) :: st)) : gG p l e R s m args below meth c nL (dC, dI) vwCl A0 H0 cells slots Q (wD a cI cZ M) pc lv (.ref (a 0) :: st) :=
  g_getf C (k := 0) (by decide) (cD_0) rfl 2 (by decide) wu_X7 wl_670 rfl hd kk
theorem rp_X7_textSize (C : gC p s m args meth c cc nL ret RX7 (dC, dI) vwCl (tyW cI cZ cS) A0 H0) {v : Int32} (hd : decode cc pc = .ok (.putfield 71, 3)) (kk : gG p l e R s m args below meth c nL (dC, dI) vwCl A0 H0 cells slots Q (wD a cI cZ (mU M 0 1 v)) (pc + 3) lv st) : gG p l e R s m args below meth c nL (dC, dI) vwCl A0 H0 cells slots Q (wD a cI cZ M) pc lv (.int v :: .ref (a 0) :: st) :=
  g_putf C (k := 0) (by decide) (cD_0) rfl tyX7 tyX7_ok nmX7 2 (by decide) wu_X7 wl_670 rfl (ty := .int) rfl rfl rfl (Nat.le_of_ble_eq_true rfl) (cD_put (k := 0) (by exact ve_rf _)) hd kk
theorem rg_X7_place (C : gC p s m args meth c cc nL ret RX7 (dC, dI) vwCl (tyW cI cZ cS) A0 H0) (hd : decode cc pc = .ok (.getfield 74, 3)) (kk : gG p l e R s m args below meth c nL (dC, dI) vwCl A0 H0 cells slots Q (wD a cI cZ M) (pc + 3) lv (.int (M.1 0 2) :: st)) : gG p l e R s m args below meth c nL (dC, dI) vwCl A0 H0 cells slots Q (wD a cI cZ M) pc lv (.ref (a 0) :: st) :=
  g_getf C (k := 0) (by decide) (cD_0) rfl 3 (by decide) wu_X7 wl_671 rfl hd kk
theorem rp_X7_place (C : gC p s m args meth c cc nL ret RX7 (dC, dI) vwCl (tyW cI cZ cS) A0 H0) {v : Int32} (hd : decode cc pc = .ok (.putfield 74, 3)) (kk : gG p l e R s m args below meth c nL (dC, dI) vwCl A0 H0 cells slots Q (wD a cI cZ (mU M 0 2 v)) (pc + 3) lv st) : gG p l e R s m args below meth c nL (dC, dI) vwCl A0 H0 cells slots Q (wD a cI cZ M) pc lv (.int v :: .ref (a 0) :: st) :=
  g_putf C (k := 0) (by decide) (cD_0) rfl tyX7 tyX7_ok nmX7 3 (by decide) wu_X7 wl_671 rfl (ty := .int) rfl rfl rfl (Nat.le_of_ble_eq_true rfl) (cD_put (k := 0) (by exact ve_rf _)) hd kk
theorem rg_X7_walkers (C : gC p s m args meth c cc nL ret RX7 (dC, dI) vwCl (tyW cI cZ cS) A0 H0) (hd : decode cc pc = .ok (.getfield 60, 3)) (kk : gG p l e R s m args below meth c nL (dC, dI) vwCl A0 H0 cells slots Q (wD a cI cZ M) (pc + 3) lv (.int (M.1 0 3) :: st)) : gG p l e R s m args below meth c nL (dC, dI) vwCl A0 H0 cells slots Q (wD a cI cZ M) pc lv (.ref (a 0) :: st) :=
  g_getf C (k := 0) (by decide) (cD_0) rfl 4 (by decide) wu_X7 wl_672 rfl hd kk
theorem rp_X7_walkers (C : gC p s m args meth c cc nL ret RX7 (dC, dI) vwCl (tyW cI cZ cS) A0 H0) {v : Int32} (hd : decode cc pc = .ok (.putfield 60, 3)) (kk : gG p l e R s m args below meth c nL (dC, dI) vwCl A0 H0 cells slots Q (wD a cI cZ (mU M 0 3 v)) (pc + 3) lv st) : gG p l e R s m args below meth c nL (dC, dI) vwCl A0 H0 cells slots Q (wD a cI cZ M) pc lv (.int v :: .ref (a 0) :: st) :=
  g_putf C (k := 0) (by decide) (cD_0) rfl tyX7 tyX7_ok nmX7 4 (by decide) wu_X7 wl_672 rfl (ty := .int) rfl rfl rfl (Nat.le_of_ble_eq_true rfl) (cD_put (k := 0) (by exact ve_rf _)) hd kk
theorem rg_X7_stuff (C : gC p s m args meth c cc nL ret RX7 (dC, dI) vwCl (tyW cI cZ cS) A0 H0) (hd : decode cc pc = .ok (.getfield 13, 3)) (kk : gG p l e R s m args below meth c nL (dC, dI) vwCl A0 H0 cells slots Q (wD a cI cZ M) (pc + 3) lv (.ref (a 2) :: st)) : gG p l e R s m args below meth c nL (dC, dI) vwCl A0 H0 cells slots Q (wD a cI cZ M) pc lv (.ref (a 0) :: st) :=
  g_getf C (k := 0) (by decide) (cD_0) rfl 5 (by decide) wu_X7 wl_673 rfl hd kk
theorem rg_X7_needs (C : gC p s m args meth c cc nL ret RX7 (dC, dI) vwCl (tyW cI cZ cS) A0 H0) (hd : decode cc pc = .ok (.getfield 101, 3)) (kk : gG p l e R s m args below meth c nL (dC, dI) vwCl A0 H0 cells slots Q (wD a cI cZ M) (pc + 3) lv (.int (M.1 0 4) :: st)) : gG p l e R s m args below meth c nL (dC, dI) vwCl A0 H0 cells slots Q (wD a cI cZ M) pc lv (.ref (a 0) :: st) :=
  g_getf C (k := 0) (by decide) (cD_0) rfl 6 (by decide) wu_X7 wl_674 rfl hd kk
theorem rp_X7_needs (C : gC p s m args meth c cc nL ret RX7 (dC, dI) vwCl (tyW cI cZ cS) A0 H0) {v : Int32} (hd : decode cc pc = .ok (.putfield 101, 3)) (kk : gG p l e R s m args below meth c nL (dC, dI) vwCl A0 H0 cells slots Q (wD a cI cZ (mU M 0 4 v)) (pc + 3) lv st) : gG p l e R s m args below meth c nL (dC, dI) vwCl A0 H0 cells slots Q (wD a cI cZ M) pc lv (.int v :: .ref (a 0) :: st) :=
  g_putf C (k := 0) (by decide) (cD_0) rfl tyX7 tyX7_ok nmX7 6 (by decide) wu_X7 wl_674 rfl (ty := .int) rfl rfl rfl (Nat.le_of_ble_eq_true rfl) (cD_put (k := 0) (by exact ve_rf _)) hd kk
theorem rg_X7_need (C : gC p s m args meth c cc nL ret RX7 (dC, dI) vwCl (tyW cI cZ cS) A0 H0) (hd : decode cc pc = .ok (.getfield 16, 3)) (kk : gG p l e R s m args below meth c nL (dC, dI) vwCl A0 H0 cells slots Q (wD a cI cZ M) (pc + 3) lv (.ref (a 3) :: st)) : gG p l e R s m args below meth c nL (dC, dI) vwCl A0 H0 cells slots Q (wD a cI cZ M) pc lv (.ref (a 0) :: st) :=
  g_getf C (k := 0) (by decide) (cD_0) rfl 7 (by decide) wu_X7 wl_675 rfl hd kk
theorem rg_X7_readWalkers (C : gC p s m args meth c cc nL ret RX7 (dC, dI) vwCl (tyW cI cZ cS) A0 H0) (hd : decode cc pc = .ok (.getfield 81, 3)) (kk : gG p l e R s m args below meth c nL (dC, dI) vwCl A0 H0 cells slots Q (wD a cI cZ M) (pc + 3) lv (.int (M.1 0 5) :: st)) : gG p l e R s m args below meth c nL (dC, dI) vwCl A0 H0 cells slots Q (wD a cI cZ M) pc lv (.ref (a 0) :: st) :=
  g_getf C (k := 0) (by decide) (cD_0) rfl 8 (by decide) wu_X7 wl_676 rfl hd kk
theorem rp_X7_readWalkers (C : gC p s m args meth c cc nL ret RX7 (dC, dI) vwCl (tyW cI cZ cS) A0 H0) {v : Int32} (hd : decode cc pc = .ok (.putfield 81, 3)) (kk : gG p l e R s m args below meth c nL (dC, dI) vwCl A0 H0 cells slots Q (wD a cI cZ (mU M 0 5 v)) (pc + 3) lv st) : gG p l e R s m args below meth c nL (dC, dI) vwCl A0 H0 cells slots Q (wD a cI cZ M) pc lv (.int v :: .ref (a 0) :: st) :=
  g_putf C (k := 0) (by decide) (cD_0) rfl tyX7 tyX7_ok nmX7 8 (by decide) wu_X7 wl_676 rfl (ty := .int) rfl rfl rfl (Nat.le_of_ble_eq_true rfl) (cD_put (k := 0) (by exact ve_rf _)) hd kk
theorem rg_X7_readWalker (C : gC p s m args meth c cc nL ret RX7 (dC, dI) vwCl (tyW cI cZ cS) A0 H0) (hd : decode cc pc = .ok (.getfield 19, 3)) (kk : gG p l e R s m args below meth c nL (dC, dI) vwCl A0 H0 cells slots Q (wD a cI cZ M) (pc + 3) lv (.ref (a 4) :: st)) : gG p l e R s m args below meth c nL (dC, dI) vwCl A0 H0 cells slots Q (wD a cI cZ M) pc lv (.ref (a 0) :: st) :=
  g_getf C (k := 0) (by decide) (cD_0) rfl 9 (by decide) wu_X7 wl_677 rfl hd kk
theorem rg_X7_readNeeds (C : gC p s m args meth c cc nL ret RX7 (dC, dI) vwCl (tyW cI cZ cS) A0 H0) (hd : decode cc pc = .ok (.getfield 84, 3)) (kk : gG p l e R s m args below meth c nL (dC, dI) vwCl A0 H0 cells slots Q (wD a cI cZ M) (pc + 3) lv (.int (M.1 0 6) :: st)) : gG p l e R s m args below meth c nL (dC, dI) vwCl A0 H0 cells slots Q (wD a cI cZ M) pc lv (.ref (a 0) :: st) :=
  g_getf C (k := 0) (by decide) (cD_0) rfl 10 (by decide) wu_X7 wl_678 rfl hd kk
theorem rp_X7_readNeeds (C : gC p s m args meth c cc nL ret RX7 (dC, dI) vwCl (tyW cI cZ cS) A0 H0) {v : Int32} (hd : decode cc pc = .ok (.putfield 84, 3)) (kk : gG p l e R s m args below meth c nL (dC, dI) vwCl A0 H0 cells slots Q (wD a cI cZ (mU M 0 6 v)) (pc + 3) lv st) : gG p l e R s m args below meth c nL (dC, dI) vwCl A0 H0 cells slots Q (wD a cI cZ M) pc lv (.int v :: .ref (a 0) :: st) :=
  g_putf C (k := 0) (by decide) (cD_0) rfl tyX7 tyX7_ok nmX7 10 (by decide) wu_X7 wl_678 rfl (ty := .int) rfl rfl rfl (Nat.le_of_ble_eq_true rfl) (cD_put (k := 0) (by exact ve_rf _)) hd kk
theorem rg_X7_readNeed (C : gC p s m args meth c cc nL ret RX7 (dC, dI) vwCl (tyW cI cZ cS) A0 H0) (hd : decode cc pc = .ok (.getfield 22, 3)) (kk : gG p l e R s m args below meth c nL (dC, dI) vwCl A0 H0 cells slots Q (wD a cI cZ M) (pc + 3) lv (.ref (a 5) :: st)) : gG p l e R s m args below meth c nL (dC, dI) vwCl A0 H0 cells slots Q (wD a cI cZ M) pc lv (.ref (a 0) :: st) :=
  g_getf C (k := 0) (by decide) (cD_0) rfl 11 (by decide) wu_X7 wl_679 rfl hd kk
theorem rg_X7_page (C : gC p s m args meth c cc nL ret RX7 (dC, dI) vwCl (tyW cI cZ cS) A0 H0) (hd : decode cc pc = .ok (.getfield 25, 3)) (kk : gG p l e R s m args below meth c nL (dC, dI) vwCl A0 H0 cells slots Q (wD a cI cZ M) (pc + 3) lv (.ref (a 6) :: st)) : gG p l e R s m args below meth c nL (dC, dI) vwCl A0 H0 cells slots Q (wD a cI cZ M) pc lv (.ref (a 0) :: st) :=
  g_getf C (k := 0) (by decide) (cD_0) rfl 12 (by decide) wu_X7 wl_680 rfl hd kk
theorem rg_X7_trial (C : gC p s m args meth c cc nL ret RX7 (dC, dI) vwCl (tyW cI cZ cS) A0 H0) (hd : decode cc pc = .ok (.getfield 28, 3)) (kk : gG p l e R s m args below meth c nL (dC, dI) vwCl A0 H0 cells slots Q (wD a cI cZ M) (pc + 3) lv (.ref (a 7) :: st)) : gG p l e R s m args below meth c nL (dC, dI) vwCl A0 H0 cells slots Q (wD a cI cZ M) pc lv (.ref (a 0) :: st) :=
  g_getf C (k := 0) (by decide) (cD_0) rfl 13 (by decide) wu_X7 wl_681 rfl hd kk
theorem rg_X7_book (C : gC p s m args meth c cc nL ret RX7 (dC, dI) vwCl (tyW cI cZ cS) A0 H0) (hd : decode cc pc = .ok (.getfield 31, 3)) (kk : gG p l e R s m args below meth c nL (dC, dI) vwCl A0 H0 cells slots Q (wD a cI cZ M) (pc + 3) lv (.ref (a 8) :: st)) : gG p l e R s m args below meth c nL (dC, dI) vwCl A0 H0 cells slots Q (wD a cI cZ M) pc lv (.ref (a 0) :: st) :=
  g_getf C (k := 0) (by decide) (cD_0) rfl 14 (by decide) wu_X7 wl_682 rfl hd kk
theorem rg_X7_acts (C : gC p s m args meth c cc nL ret RX7 (dC, dI) vwCl (tyW cI cZ cS) A0 H0) (hd : decode cc pc = .ok (.getfield 104, 3)) (kk : gG p l e R s m args below meth c nL (dC, dI) vwCl A0 H0 cells slots Q (wD a cI cZ M) (pc + 3) lv (.int (M.1 0 7) :: st)) : gG p l e R s m args below meth c nL (dC, dI) vwCl A0 H0 cells slots Q (wD a cI cZ M) pc lv (.ref (a 0) :: st) :=
  g_getf C (k := 0) (by decide) (cD_0) rfl 15 (by decide) wu_X7 wl_683 rfl hd kk
theorem rp_X7_acts (C : gC p s m args meth c cc nL ret RX7 (dC, dI) vwCl (tyW cI cZ cS) A0 H0) {v : Int32} (hd : decode cc pc = .ok (.putfield 104, 3)) (kk : gG p l e R s m args below meth c nL (dC, dI) vwCl A0 H0 cells slots Q (wD a cI cZ (mU M 0 7 v)) (pc + 3) lv st) : gG p l e R s m args below meth c nL (dC, dI) vwCl A0 H0 cells slots Q (wD a cI cZ M) pc lv (.int v :: .ref (a 0) :: st) :=
  g_putf C (k := 0) (by decide) (cD_0) rfl tyX7 tyX7_ok nmX7 15 (by decide) wu_X7 wl_683 rfl (ty := .int) rfl rfl rfl (Nat.le_of_ble_eq_true rfl) (cD_put (k := 0) (by exact ve_rf _)) hd kk
theorem rg_X7_kept (C : gC p s m args meth c cc nL ret RX7 (dC, dI) vwCl (tyW cI cZ cS) A0 H0) (hd : decode cc pc = .ok (.getfield 34, 3)) (kk : gG p l e R s m args below meth c nL (dC, dI) vwCl A0 H0 cells slots Q (wD a cI cZ M) (pc + 3) lv (.ref (a 9) :: st)) : gG p l e R s m args below meth c nL (dC, dI) vwCl A0 H0 cells slots Q (wD a cI cZ M) pc lv (.ref (a 0) :: st) :=
  g_getf C (k := 0) (by decide) (cD_0) rfl 16 (by decide) wu_X7 wl_684 rfl hd kk
theorem rg_X7_isKept (C : gC p s m args meth c cc nL ret RX7 (dC, dI) vwCl (tyW cI cZ cS) A0 H0) (hd : decode cc pc = .ok (.getfield 37, 3)) (kk : gG p l e R s m args below meth c nL (dC, dI) vwCl A0 H0 cells slots Q (wD a cI cZ M) (pc + 3) lv (.ref (a 10) :: st)) : gG p l e R s m args below meth c nL (dC, dI) vwCl A0 H0 cells slots Q (wD a cI cZ M) pc lv (.ref (a 0) :: st) :=
  g_getf C (k := 0) (by decide) (cD_0) rfl 17 (by decide) wu_X7 wl_685 rfl hd kk
theorem rg_X7_felt (C : gC p s m args meth c cc nL ret RX7 (dC, dI) vwCl (tyW cI cZ cS) A0 H0) (hd : decode cc pc = .ok (.getfield 135, 3)) (kk : gG p l e R s m args below meth c nL (dC, dI) vwCl A0 H0 cells slots Q (wD a cI cZ M) (pc + 3) lv (.int (M.1 0 8) :: st)) : gG p l e R s m args below meth c nL (dC, dI) vwCl A0 H0 cells slots Q (wD a cI cZ M) pc lv (.ref (a 0) :: st) :=
  g_getf C (k := 0) (by decide) (cD_0) rfl 18 (by decide) wu_X7 wl_686 rfl hd kk
theorem rp_X7_felt (C : gC p s m args meth c cc nL ret RX7 (dC, dI) vwCl (tyW cI cZ cS) A0 H0) {v : Int32} (hd : decode cc pc = .ok (.putfield 135, 3)) (kk : gG p l e R s m args below meth c nL (dC, dI) vwCl A0 H0 cells slots Q (wD a cI cZ (mU M 0 8 v)) (pc + 3) lv st) : gG p l e R s m args below meth c nL (dC, dI) vwCl A0 H0 cells slots Q (wD a cI cZ M) pc lv (.int v :: .ref (a 0) :: st) :=
  g_putf C (k := 0) (by decide) (cD_0) rfl tyX7 tyX7_ok nmX7 18 (by decide) wu_X7 wl_686 rfl (ty := .int) rfl rfl rfl (Nat.le_of_ble_eq_true rfl) (cD_put (k := 0) (by exact ve_rf _)) hd kk
theorem rg_X7_feltStreet (C : gC p s m args meth c cc nL ret RX7 (dC, dI) vwCl (tyW cI cZ cS) A0 H0) (hd : decode cc pc = .ok (.getfield 41, 3)) (kk : gG p l e R s m args below meth c nL (dC, dI) vwCl A0 H0 cells slots Q (wD a cI cZ M) (pc + 3) lv (.ref (a 11) :: st)) : gG p l e R s m args below meth c nL (dC, dI) vwCl A0 H0 cells slots Q (wD a cI cZ M) pc lv (.ref (a 0) :: st) :=
  g_getf C (k := 0) (by decide) (cD_0) rfl 19 (by decide) wu_X7 wl_687 rfl hd kk
theorem rg_X7_feltHour (C : gC p s m args meth c cc nL ret RX7 (dC, dI) vwCl (tyW cI cZ cS) A0 H0) (hd : decode cc pc = .ok (.getfield 44, 3)) (kk : gG p l e R s m args below meth c nL (dC, dI) vwCl A0 H0 cells slots Q (wD a cI cZ M) (pc + 3) lv (.ref (a 12) :: st)) : gG p l e R s m args below meth c nL (dC, dI) vwCl A0 H0 cells slots Q (wD a cI cZ M) pc lv (.ref (a 0) :: st) :=
  g_getf C (k := 0) (by decide) (cD_0) rfl 20 (by decide) wu_X7 wl_688 rfl hd kk
theorem rg_X7_feltRain (C : gC p s m args meth c cc nL ret RX7 (dC, dI) vwCl (tyW cI cZ cS) A0 H0) (hd : decode cc pc = .ok (.getfield 47, 3)) (kk : gG p l e R s m args below meth c nL (dC, dI) vwCl A0 H0 cells slots Q (wD a cI cZ M) (pc + 3) lv (.ref (a 13) :: st)) : gG p l e R s m args below meth c nL (dC, dI) vwCl A0 H0 cells slots Q (wD a cI cZ M) pc lv (.ref (a 0) :: st) :=
  g_getf C (k := 0) (by decide) (cD_0) rfl 21 (by decide) wu_X7 wl_689 rfl hd kk
theorem rg_X7_seed (C : gC p s m args meth c cc nL ret RX7 (dC, dI) vwCl (tyW cI cZ cS) A0 H0) (hd : decode cc pc = .ok (.getfield 239, 3)) (kk : gG p l e R s m args below meth c nL (dC, dI) vwCl A0 H0 cells slots Q (wD a cI cZ M) (pc + 3) lv (.long M.2 :: st)) : gG p l e R s m args below meth c nL (dC, dI) vwCl A0 H0 cells slots Q (wD a cI cZ M) pc lv (.ref (a 0) :: st) :=
  g_getf C (k := 0) (by decide) (cD_0) rfl 22 (by decide) wu_X7 wl_690 rfl hd kk
theorem rp_X7_seed (C : gC p s m args meth c cc nL ret RX7 (dC, dI) vwCl (tyW cI cZ cS) A0 H0) {v : Int64} (hd : decode cc pc = .ok (.putfield 239, 3)) (kk : gG p l e R s m args below meth c nL (dC, dI) vwCl A0 H0 cells slots Q (wD a cI cZ (mL M v)) (pc + 3) lv st) : gG p l e R s m args below meth c nL (dC, dI) vwCl A0 H0 cells slots Q (wD a cI cZ M) pc lv (.long v :: .ref (a 0) :: st) :=
  g_putf C (k := 0) (by decide) (cD_0) rfl tyX7 tyX7_ok nmX7 22 (by decide) wu_X7 wl_690 rfl (ty := .long) rfl rfl rfl (Nat.le_of_ble_eq_true rfl) (cD_putL (by exact ve_rf _)) hd kk
theorem rg_X7_bestWhich (C : gC p s m args meth c cc nL ret RX7 (dC, dI) vwCl (tyW cI cZ cS) A0 H0) (hd : decode cc pc = .ok (.getfield 174, 3)) (kk : gG p l e R s m args below meth c nL (dC, dI) vwCl A0 H0 cells slots Q (wD a cI cZ M) (pc + 3) lv (.int (M.1 0 9) :: st)) : gG p l e R s m args below meth c nL (dC, dI) vwCl A0 H0 cells slots Q (wD a cI cZ M) pc lv (.ref (a 0) :: st) :=
  g_getf C (k := 0) (by decide) (cD_0) rfl 23 (by decide) wu_X7 wl_691 rfl hd kk
theorem rp_X7_bestWhich (C : gC p s m args meth c cc nL ret RX7 (dC, dI) vwCl (tyW cI cZ cS) A0 H0) {v : Int32} (hd : decode cc pc = .ok (.putfield 174, 3)) (kk : gG p l e R s m args below meth c nL (dC, dI) vwCl A0 H0 cells slots Q (wD a cI cZ (mU M 0 9 v)) (pc + 3) lv st) : gG p l e R s m args below meth c nL (dC, dI) vwCl A0 H0 cells slots Q (wD a cI cZ M) pc lv (.int v :: .ref (a 0) :: st) :=
  g_putf C (k := 0) (by decide) (cD_0) rfl tyX7 tyX7_ok nmX7 23 (by decide) wu_X7 wl_691 rfl (ty := .int) rfl rfl rfl (Nat.le_of_ble_eq_true rfl) (cD_put (k := 0) (by exact ve_rf _)) hd kk
theorem rg_X7_bestMany (C : gC p s m args meth c cc nL ret RX7 (dC, dI) vwCl (tyW cI cZ cS) A0 H0) (hd : decode cc pc = .ok (.getfield 177, 3)) (kk : gG p l e R s m args below meth c nL (dC, dI) vwCl A0 H0 cells slots Q (wD a cI cZ M) (pc + 3) lv (.int (M.1 0 10) :: st)) : gG p l e R s m args below meth c nL (dC, dI) vwCl A0 H0 cells slots Q (wD a cI cZ M) pc lv (.ref (a 0) :: st) :=
  g_getf C (k := 0) (by decide) (cD_0) rfl 24 (by decide) wu_X7 wl_692 rfl hd kk
theorem rp_X7_bestMany (C : gC p s m args meth c cc nL ret RX7 (dC, dI) vwCl (tyW cI cZ cS) A0 H0) {v : Int32} (hd : decode cc pc = .ok (.putfield 177, 3)) (kk : gG p l e R s m args below meth c nL (dC, dI) vwCl A0 H0 cells slots Q (wD a cI cZ (mU M 0 10 v)) (pc + 3) lv st) : gG p l e R s m args below meth c nL (dC, dI) vwCl A0 H0 cells slots Q (wD a cI cZ M) pc lv (.int v :: .ref (a 0) :: st) :=
  g_putf C (k := 0) (by decide) (cD_0) rfl tyX7 tyX7_ok nmX7 24 (by decide) wu_X7 wl_692 rfl (ty := .int) rfl rfl rfl (Nat.le_of_ble_eq_true rfl) (cD_put (k := 0) (by exact ve_rf _)) hd kk
theorem rg_X7_mayMany (C : gC p s m args meth c cc nL ret RX7 (dC, dI) vwCl (tyW cI cZ cS) A0 H0) (hd : decode cc pc = .ok (.getfield 211, 3)) (kk : gG p l e R s m args below meth c nL (dC, dI) vwCl A0 H0 cells slots Q (wD a cI cZ M) (pc + 3) lv (.int (M.1 0 11) :: st)) : gG p l e R s m args below meth c nL (dC, dI) vwCl A0 H0 cells slots Q (wD a cI cZ M) pc lv (.ref (a 0) :: st) :=
  g_getf C (k := 0) (by decide) (cD_0) rfl 25 (by decide) wu_X7 wl_693 rfl hd kk
theorem rp_X7_mayMany (C : gC p s m args meth c cc nL ret RX7 (dC, dI) vwCl (tyW cI cZ cS) A0 H0) {v : Int32} (hd : decode cc pc = .ok (.putfield 211, 3)) (kk : gG p l e R s m args below meth c nL (dC, dI) vwCl A0 H0 cells slots Q (wD a cI cZ (mU M 0 11 v)) (pc + 3) lv st) : gG p l e R s m args below meth c nL (dC, dI) vwCl A0 H0 cells slots Q (wD a cI cZ M) pc lv (.int v :: .ref (a 0) :: st) :=
  g_putf C (k := 0) (by decide) (cD_0) rfl tyX7 tyX7_ok nmX7 25 (by decide) wu_X7 wl_693 rfl (ty := .int) rfl rfl rfl (Nat.le_of_ble_eq_true rfl) (cD_put (k := 0) (by exact ve_rf _)) hd kk
theorem rg_X7_mayFirst (C : gC p s m args meth c cc nL ret RX7 (dC, dI) vwCl (tyW cI cZ cS) A0 H0) (hd : decode cc pc = .ok (.getfield 214, 3)) (kk : gG p l e R s m args below meth c nL (dC, dI) vwCl A0 H0 cells slots Q (wD a cI cZ M) (pc + 3) lv (.int (M.1 0 12) :: st)) : gG p l e R s m args below meth c nL (dC, dI) vwCl A0 H0 cells slots Q (wD a cI cZ M) pc lv (.ref (a 0) :: st) :=
  g_getf C (k := 0) (by decide) (cD_0) rfl 26 (by decide) wu_X7 wl_694 rfl hd kk
theorem rp_X7_mayFirst (C : gC p s m args meth c cc nL ret RX7 (dC, dI) vwCl (tyW cI cZ cS) A0 H0) {v : Int32} (hd : decode cc pc = .ok (.putfield 214, 3)) (kk : gG p l e R s m args below meth c nL (dC, dI) vwCl A0 H0 cells slots Q (wD a cI cZ (mU M 0 12 v)) (pc + 3) lv st) : gG p l e R s m args below meth c nL (dC, dI) vwCl A0 H0 cells slots Q (wD a cI cZ M) pc lv (.int v :: .ref (a 0) :: st) :=
  g_putf C (k := 0) (by decide) (cD_0) rfl tyX7 tyX7_ok nmX7 26 (by decide) wu_X7 wl_694 rfl (ty := .int) rfl rfl rfl (Nat.le_of_ble_eq_true rfl) (cD_put (k := 0) (by exact ve_rf _)) hd kk
theorem rg_X7_restMany (C : gC p s m args meth c cc nL ret RX7 (dC, dI) vwCl (tyW cI cZ cS) A0 H0) (hd : decode cc pc = .ok (.getfield 228, 3)) (kk : gG p l e R s m args below meth c nL (dC, dI) vwCl A0 H0 cells slots Q (wD a cI cZ M) (pc + 3) lv (.int (M.1 0 13) :: st)) : gG p l e R s m args below meth c nL (dC, dI) vwCl A0 H0 cells slots Q (wD a cI cZ M) pc lv (.ref (a 0) :: st) :=
  g_getf C (k := 0) (by decide) (cD_0) rfl 27 (by decide) wu_X7 wl_695 rfl hd kk
theorem rp_X7_restMany (C : gC p s m args meth c cc nL ret RX7 (dC, dI) vwCl (tyW cI cZ cS) A0 H0) {v : Int32} (hd : decode cc pc = .ok (.putfield 228, 3)) (kk : gG p l e R s m args below meth c nL (dC, dI) vwCl A0 H0 cells slots Q (wD a cI cZ (mU M 0 13 v)) (pc + 3) lv st) : gG p l e R s m args below meth c nL (dC, dI) vwCl A0 H0 cells slots Q (wD a cI cZ M) pc lv (.int v :: .ref (a 0) :: st) :=
  g_putf C (k := 0) (by decide) (cD_0) rfl tyX7 tyX7_ok nmX7 27 (by decide) wu_X7 wl_695 rfl (ty := .int) rfl rfl rfl (Nat.le_of_ble_eq_true rfl) (cD_put (k := 0) (by exact ve_rf _)) hd kk
theorem rg_X7_restFirst (C : gC p s m args meth c cc nL ret RX7 (dC, dI) vwCl (tyW cI cZ cS) A0 H0) (hd : decode cc pc = .ok (.getfield 231, 3)) (kk : gG p l e R s m args below meth c nL (dC, dI) vwCl A0 H0 cells slots Q (wD a cI cZ M) (pc + 3) lv (.int (M.1 0 14) :: st)) : gG p l e R s m args below meth c nL (dC, dI) vwCl A0 H0 cells slots Q (wD a cI cZ M) pc lv (.ref (a 0) :: st) :=
  g_getf C (k := 0) (by decide) (cD_0) rfl 28 (by decide) wu_X7 wl_696 rfl hd kk
theorem rp_X7_restFirst (C : gC p s m args meth c cc nL ret RX7 (dC, dI) vwCl (tyW cI cZ cS) A0 H0) {v : Int32} (hd : decode cc pc = .ok (.putfield 231, 3)) (kk : gG p l e R s m args below meth c nL (dC, dI) vwCl A0 H0 cells slots Q (wD a cI cZ (mU M 0 14 v)) (pc + 3) lv st) : gG p l e R s m args below meth c nL (dC, dI) vwCl A0 H0 cells slots Q (wD a cI cZ M) pc lv (.int v :: .ref (a 0) :: st) :=
  g_putf C (k := 0) (by decide) (cD_0) rfl tyX7 tyX7_ok nmX7 28 (by decide) wu_X7 wl_696 rfl (ty := .int) rfl rfl rfl (Nat.le_of_ble_eq_true rfl) (cD_put (k := 0) (by exact ve_rf _)) hd kk
theorem rg_X7_gains (C : gC p s m args meth c cc nL ret RX7 (dC, dI) vwCl (tyW cI cZ cS) A0 H0) (hd : decode cc pc = .ok (.getfield 50, 3)) (kk : gG p l e R s m args below meth c nL (dC, dI) vwCl A0 H0 cells slots Q (wD a cI cZ M) (pc + 3) lv (.ref (a 14) :: st)) : gG p l e R s m args below meth c nL (dC, dI) vwCl A0 H0 cells slots Q (wD a cI cZ M) pc lv (.ref (a 0) :: st) :=
  g_getf C (k := 0) (by decide) (cD_0) rfl 29 (by decide) wu_X7 wl_697 rfl hd kk
theorem rg_X7_value (C : gC p s m args meth c cc nL ret RX7 (dC, dI) vwCl (tyW cI cZ cS) A0 H0) (hd : decode cc pc = .ok (.getfield 53, 3)) (kk : gG p l e R s m args below meth c nL (dC, dI) vwCl A0 H0 cells slots Q (wD a cI cZ M) (pc + 3) lv (.ref (a 15) :: st)) : gG p l e R s m args below meth c nL (dC, dI) vwCl A0 H0 cells slots Q (wD a cI cZ M) pc lv (.ref (a 0) :: st) :=
  g_getf C (k := 0) (by decide) (cD_0) rfl 30 (by decide) wu_X7 wl_698 rfl hd kk
end
end
