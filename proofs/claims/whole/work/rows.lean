section
-- ===== PART A: goes FIRST, ahead of the names: the tables' words, and 'selects' of the private methods out of them =====
/-- a private method of a class that the tables say can be made, by its rows of tables_1 -/
def lw_okq (q : MethodName × Nat) : Prop := (q.1.cls ≠ "java/lang/invoke/MethodHandle" ∧ q.1.cls ≠ "java/lang/invoke/VarHandle") ∧ Cond.instantiable q.1.cls q.2 ∈ tables_1 ∧ Cond.privateMethod q.1 ∈ tables_1 ∧ Cond.instanceMethod q.1 ∈ tables_1
theorem lw_p0 : lw_okq (⟨"FirstUmbrella$Script", "isFitting", "(II)Z"⟩, 2) := ⟨⟨by decide +kernel, by decide +kernel⟩, List.mem_of_getElem? (i := 22) (by decide +kernel), List.mem_of_getElem? (i := 208) (by decide +kernel), List.mem_of_getElem? (i := 209) (by decide +kernel)⟩
theorem lw_p1 : lw_okq (⟨"FirstUmbrella$Scene", "lastAtLeast", "(II)V"⟩, 7) := ⟨⟨by decide +kernel, by decide +kernel⟩, List.mem_of_getElem? (i := 64) (by decide +kernel), List.mem_of_getElem? (i := 383) (by decide +kernel), List.mem_of_getElem? (i := 384) (by decide +kernel)⟩
theorem lw_p2 : lw_okq (⟨"FirstUmbrella$Scene", "fateInHour", "(IZ)I"⟩, 7) := ⟨⟨by decide +kernel, by decide +kernel⟩, List.mem_of_getElem? (i := 64) (by decide +kernel), List.mem_of_getElem? (i := 428) (by decide +kernel), List.mem_of_getElem? (i := 429) (by decide +kernel)⟩
theorem lw_p3 : lw_okq (⟨"FirstUmbrella", "keptIfOpened", "(I)I"⟩, 8) := ⟨⟨by decide +kernel, by decide +kernel⟩, List.mem_of_getElem? (i := 14) (by decide +kernel), List.mem_of_getElem? (i := 469) (by decide +kernel), List.mem_of_getElem? (i := 470) (by decide +kernel)⟩
theorem lw_p4 : lw_okq (⟨"FirstUmbrella", "keptIfSent", "(II)I"⟩, 8) := ⟨⟨by decide +kernel, by decide +kernel⟩, List.mem_of_getElem? (i := 14) (by decide +kernel), List.mem_of_getElem? (i := 502) (by decide +kernel), List.mem_of_getElem? (i := 503) (by decide +kernel)⟩
theorem lw_p5 : lw_okq (⟨"FirstUmbrella", "comesTrue", "(III)Z"⟩, 8) := ⟨⟨by decide +kernel, by decide +kernel⟩, List.mem_of_getElem? (i := 14) (by decide +kernel), List.mem_of_getElem? (i := 515) (by decide +kernel), List.mem_of_getElem? (i := 516) (by decide +kernel)⟩
theorem lw_p6 : lw_okq (⟨"FirstUmbrella", "keptIfCome", "(I)I"⟩, 8) := ⟨⟨by decide +kernel, by decide +kernel⟩, List.mem_of_getElem? (i := 14) (by decide +kernel), List.mem_of_getElem? (i := 523) (by decide +kernel), List.mem_of_getElem? (i := 524) (by decide +kernel)⟩
theorem lw_p7 : lw_okq (⟨"FirstUmbrella", "isContent", "(IZIZ)Z"⟩, 8) := ⟨⟨by decide +kernel, by decide +kernel⟩, List.mem_of_getElem? (i := 14) (by decide +kernel), List.mem_of_getElem? (i := 579) (by decide +kernel), List.mem_of_getElem? (i := 580) (by decide +kernel)⟩
theorem lw_p8 : lw_okq (⟨"FirstUmbrella", "gain", "(IZIZ)I"⟩, 8) := ⟨⟨by decide +kernel, by decide +kernel⟩, List.mem_of_getElem? (i := 14) (by decide +kernel), List.mem_of_getElem? (i := 583) (by decide +kernel), List.mem_of_getElem? (i := 584) (by decide +kernel)⟩
theorem lw_p9 : lw_okq (⟨"FirstUmbrella", "doByChance", "(I)V"⟩, 8) := ⟨⟨by decide +kernel, by decide +kernel⟩, List.mem_of_getElem? (i := 14) (by decide +kernel), List.mem_of_getElem? (i := 605) (by decide +kernel), List.mem_of_getElem? (i := 606) (by decide +kernel)⟩
theorem lw_p10 : lw_okq (⟨"FirstUmbrellaModel", "readTown", "()I"⟩, 31) := ⟨⟨by decide +kernel, by decide +kernel⟩, List.mem_of_getElem? (i := 631) (by decide +kernel), List.mem_of_getElem? (i := 748) (by decide +kernel), List.mem_of_getElem? (i := 749) (by decide +kernel)⟩
theorem lw_p11 : lw_okq (⟨"FirstUmbrellaModel", "readThing", "()Z"⟩, 31) := ⟨⟨by decide +kernel, by decide +kernel⟩, List.mem_of_getElem? (i := 631) (by decide +kernel), List.mem_of_getElem? (i := 752) (by decide +kernel), List.mem_of_getElem? (i := 753) (by decide +kernel)⟩
theorem lw_p12 : lw_okq (⟨"FirstUmbrellaModel", "readOneWalker", "()Z"⟩, 31) := ⟨⟨by decide +kernel, by decide +kernel⟩, List.mem_of_getElem? (i := 631) (by decide +kernel), List.mem_of_getElem? (i := 756) (by decide +kernel), List.mem_of_getElem? (i := 757) (by decide +kernel)⟩
theorem lw_p13 : lw_okq (⟨"FirstUmbrellaModel", "figure", "(II)I"⟩, 31) := ⟨⟨by decide +kernel, by decide +kernel⟩, List.mem_of_getElem? (i := 631) (by decide +kernel), List.mem_of_getElem? (i := 760) (by decide +kernel), List.mem_of_getElem? (i := 761) (by decide +kernel)⟩
theorem lw_p14 : lw_okq (⟨"FirstUmbrellaModel", "readOneNeed", "()Z"⟩, 31) := ⟨⟨by decide +kernel, by decide +kernel⟩, List.mem_of_getElem? (i := 631) (by decide +kernel), List.mem_of_getElem? (i := 764) (by decide +kernel), List.mem_of_getElem? (i := 765) (by decide +kernel)⟩
theorem lw_p15 : lw_okq (⟨"FirstUmbrellaModel", "rainOf", "([I)I"⟩, 31) := ⟨⟨by decide +kernel, by decide +kernel⟩, List.mem_of_getElem? (i := 631) (by decide +kernel), List.mem_of_getElem? (i := 776) (by decide +kernel), List.mem_of_getElem? (i := 777) (by decide +kernel)⟩
def lw_privs_1 : List (MethodName × Nat) := [(⟨"FirstUmbrella$Script", "isFitting", "(II)Z"⟩, 2), (⟨"FirstUmbrella$Scene", "lastAtLeast", "(II)V"⟩, 7), (⟨"FirstUmbrella$Scene", "fateInHour", "(IZ)I"⟩, 7), (⟨"FirstUmbrella", "keptIfOpened", "(I)I"⟩, 8), (⟨"FirstUmbrella", "keptIfSent", "(II)I"⟩, 8), (⟨"FirstUmbrella", "comesTrue", "(III)Z"⟩, 8), (⟨"FirstUmbrella", "keptIfCome", "(I)I"⟩, 8), (⟨"FirstUmbrella", "isContent", "(IZIZ)Z"⟩, 8), (⟨"FirstUmbrella", "gain", "(IZIZ)I"⟩, 8), (⟨"FirstUmbrella", "doByChance", "(I)V"⟩, 8), (⟨"FirstUmbrellaModel", "readTown", "()I"⟩, 31), (⟨"FirstUmbrellaModel", "readThing", "()Z"⟩, 31), (⟨"FirstUmbrellaModel", "readOneWalker", "()Z"⟩, 31), (⟨"FirstUmbrellaModel", "figure", "(II)I"⟩, 31), (⟨"FirstUmbrellaModel", "readOneNeed", "()Z"⟩, 31), (⟨"FirstUmbrellaModel", "rainOf", "([I)I"⟩, 31)]
theorem lw_r1 : ∀ q ∈ lw_privs_1, lw_okq q := List.forall_mem_cons.mpr ⟨lw_p0, List.forall_mem_cons.mpr ⟨lw_p1, List.forall_mem_cons.mpr ⟨lw_p2, List.forall_mem_cons.mpr ⟨lw_p3, List.forall_mem_cons.mpr ⟨lw_p4, List.forall_mem_cons.mpr ⟨lw_p5, List.forall_mem_cons.mpr ⟨lw_p6, List.forall_mem_cons.mpr ⟨lw_p7, List.forall_mem_cons.mpr ⟨lw_p8, List.forall_mem_cons.mpr ⟨lw_p9, List.forall_mem_cons.mpr ⟨lw_p10, List.forall_mem_cons.mpr ⟨lw_p11, List.forall_mem_cons.mpr ⟨lw_p12, List.forall_mem_cons.mpr ⟨lw_p13, List.forall_mem_cons.mpr ⟨lw_p14, List.forall_mem_cons.mpr ⟨lw_p15, fun _ h => absurd h List.not_mem_nil⟩⟩⟩⟩⟩⟩⟩⟩⟩⟩⟩⟩⟩⟩⟩⟩
theorem lw_p16 : lw_okq (⟨"FirstUmbrellaModel", "hailOf", "([I)I"⟩, 31) := ⟨⟨by decide +kernel, by decide +kernel⟩, List.mem_of_getElem? (i := 631) (by decide +kernel), List.mem_of_getElem? (i := 783) (by decide +kernel), List.mem_of_getElem? (i := 784) (by decide +kernel)⟩
theorem lw_p17 : lw_okq (⟨"FirstUmbrellaModel", "openIn", "([II)I"⟩, 31) := ⟨⟨by decide +kernel, by decide +kernel⟩, List.mem_of_getElem? (i := 631) (by decide +kernel), List.mem_of_getElem? (i := 787) (by decide +kernel), List.mem_of_getElem? (i := 788) (by decide +kernel)⟩
theorem lw_p18 : lw_okq (⟨"FirstUmbrellaModel", "needsThat", "([II)I"⟩, 31) := ⟨⟨by decide +kernel, by decide +kernel⟩, List.mem_of_getElem? (i := 631) (by decide +kernel), List.mem_of_getElem? (i := 791) (by decide +kernel), List.mem_of_getElem? (i := 792) (by decide +kernel)⟩
theorem lw_p19 : lw_okq (⟨"FirstUmbrellaModel", "noWalker", "(I)Z"⟩, 31) := ⟨⟨by decide +kernel, by decide +kernel⟩, List.mem_of_getElem? (i := 631) (by decide +kernel), List.mem_of_getElem? (i := 799) (by decide +kernel), List.mem_of_getElem? (i := 800) (by decide +kernel)⟩
theorem lw_p20 : lw_okq (⟨"FirstUmbrellaModel", "note", "()V"⟩, 31) := ⟨⟨by decide +kernel, by decide +kernel⟩, List.mem_of_getElem? (i := 631) (by decide +kernel), List.mem_of_getElem? (i := 820) (by decide +kernel), List.mem_of_getElem? (i := 821) (by decide +kernel)⟩
theorem lw_p21 : lw_okq (⟨"FirstUmbrellaModel", "goOpen", "([II)V"⟩, 31) := ⟨⟨by decide +kernel, by decide +kernel⟩, List.mem_of_getElem? (i := 631) (by decide +kernel), List.mem_of_getElem? (i := 824) (by decide +kernel), List.mem_of_getElem? (i := 825) (by decide +kernel)⟩
theorem lw_p22 : lw_okq (⟨"FirstUmbrellaModel", "goShut", "([II)V"⟩, 31) := ⟨⟨by decide +kernel, by decide +kernel⟩, List.mem_of_getElem? (i := 631) (by decide +kernel), List.mem_of_getElem? (i := 835) (by decide +kernel), List.mem_of_getElem? (i := 836) (by decide +kernel)⟩
theorem lw_p23 : lw_okq (⟨"FirstUmbrellaModel", "goHour", "([I)I"⟩, 31) := ⟨⟨by decide +kernel, by decide +kernel⟩, List.mem_of_getElem? (i := 631) (by decide +kernel), List.mem_of_getElem? (i := 850) (by decide +kernel), List.mem_of_getElem? (i := 851) (by decide +kernel)⟩
theorem lw_p24 : lw_okq (⟨"FirstUmbrellaModel", "stateThen", "([III)I"⟩, 31) := ⟨⟨by decide +kernel, by decide +kernel⟩, List.mem_of_getElem? (i := 631) (by decide +kernel), List.mem_of_getElem? (i := 854) (by decide +kernel), List.mem_of_getElem? (i := 855) (by decide +kernel)⟩
theorem lw_p25 : lw_okq (⟨"FirstUmbrellaModel", "begin", "()V"⟩, 31) := ⟨⟨by decide +kernel, by decide +kernel⟩, List.mem_of_getElem? (i := 631) (by decide +kernel), List.mem_of_getElem? (i := 867) (by decide +kernel), List.mem_of_getElem? (i := 868) (by decide +kernel)⟩
theorem lw_p26 : lw_okq (⟨"FirstUmbrellaModel", "goHours", "(I)V"⟩, 31) := ⟨⟨by decide +kernel, by decide +kernel⟩, List.mem_of_getElem? (i := 631) (by decide +kernel), List.mem_of_getElem? (i := 871) (by decide +kernel), List.mem_of_getElem? (i := 872) (by decide +kernel)⟩
theorem lw_p27 : lw_okq (⟨"FirstUmbrellaModel", "openAll", "(I)V"⟩, 31) := ⟨⟨by decide +kernel, by decide +kernel⟩, List.mem_of_getElem? (i := 631) (by decide +kernel), List.mem_of_getElem? (i := 887) (by decide +kernel), List.mem_of_getElem? (i := 888) (by decide +kernel)⟩
theorem lw_p28 : lw_okq (⟨"FirstUmbrellaModel", "keptThen", "()I"⟩, 31) := ⟨⟨by decide +kernel, by decide +kernel⟩, List.mem_of_getElem? (i := 631) (by decide +kernel), List.mem_of_getElem? (i := 891) (by decide +kernel), List.mem_of_getElem? (i := 892) (by decide +kernel)⟩
theorem lw_p29 : lw_okq (⟨"FirstUmbrellaModel", "does", "(I)Z"⟩, 31) := ⟨⟨by decide +kernel, by decide +kernel⟩, List.mem_of_getElem? (i := 631) (by decide +kernel), List.mem_of_getElem? (i := 911) (by decide +kernel), List.mem_of_getElem? (i := 912) (by decide +kernel)⟩
theorem lw_p30 : lw_okq (⟨"FirstUmbrellaModel", "findMay", "()V"⟩, 31) := ⟨⟨by decide +kernel, by decide +kernel⟩, List.mem_of_getElem? (i := 631) (by decide +kernel), List.mem_of_getElem? (i := 941) (by decide +kernel), List.mem_of_getElem? (i := 942) (by decide +kernel)⟩
theorem lw_p31 : lw_okq (⟨"FirstUmbrellaModel", "gainOf", "(IZ)I"⟩, 31) := ⟨⟨by decide +kernel, by decide +kernel⟩, List.mem_of_getElem? (i := 631) (by decide +kernel), List.mem_of_getElem? (i := 953) (by decide +kernel), List.mem_of_getElem? (i := 954) (by decide +kernel)⟩
def lw_privs_2 : List (MethodName × Nat) := [(⟨"FirstUmbrellaModel", "hailOf", "([I)I"⟩, 31), (⟨"FirstUmbrellaModel", "openIn", "([II)I"⟩, 31), (⟨"FirstUmbrellaModel", "needsThat", "([II)I"⟩, 31), (⟨"FirstUmbrellaModel", "noWalker", "(I)Z"⟩, 31), (⟨"FirstUmbrellaModel", "note", "()V"⟩, 31), (⟨"FirstUmbrellaModel", "goOpen", "([II)V"⟩, 31), (⟨"FirstUmbrellaModel", "goShut", "([II)V"⟩, 31), (⟨"FirstUmbrellaModel", "goHour", "([I)I"⟩, 31), (⟨"FirstUmbrellaModel", "stateThen", "([III)I"⟩, 31), (⟨"FirstUmbrellaModel", "begin", "()V"⟩, 31), (⟨"FirstUmbrellaModel", "goHours", "(I)V"⟩, 31), (⟨"FirstUmbrellaModel", "openAll", "(I)V"⟩, 31), (⟨"FirstUmbrellaModel", "keptThen", "()I"⟩, 31), (⟨"FirstUmbrellaModel", "does", "(I)Z"⟩, 31), (⟨"FirstUmbrellaModel", "findMay", "()V"⟩, 31), (⟨"FirstUmbrellaModel", "gainOf", "(IZ)I"⟩, 31)]
theorem lw_r2 : ∀ q ∈ lw_privs_2, lw_okq q := List.forall_mem_cons.mpr ⟨lw_p16, List.forall_mem_cons.mpr ⟨lw_p17, List.forall_mem_cons.mpr ⟨lw_p18, List.forall_mem_cons.mpr ⟨lw_p19, List.forall_mem_cons.mpr ⟨lw_p20, List.forall_mem_cons.mpr ⟨lw_p21, List.forall_mem_cons.mpr ⟨lw_p22, List.forall_mem_cons.mpr ⟨lw_p23, List.forall_mem_cons.mpr ⟨lw_p24, List.forall_mem_cons.mpr ⟨lw_p25, List.forall_mem_cons.mpr ⟨lw_p26, List.forall_mem_cons.mpr ⟨lw_p27, List.forall_mem_cons.mpr ⟨lw_p28, List.forall_mem_cons.mpr ⟨lw_p29, List.forall_mem_cons.mpr ⟨lw_p30, List.forall_mem_cons.mpr ⟨lw_p31, fun _ h => absurd h List.not_mem_nil⟩⟩⟩⟩⟩⟩⟩⟩⟩⟩⟩⟩⟩⟩⟩⟩
def lw_privs : List (MethodName × Nat) := lw_privs_1 ++ (lw_privs_2)
def lw_tbl : List Cond := k2_sels lw_privs ++ tables_1
theorem lw_privs_ok : ∀ q ∈ lw_privs, lw_okq q := by
  show ∀ q ∈ lw_privs_1 ++ (lw_privs_2), lw_okq q
  exact List.forall_mem_append.mpr ⟨lw_r1, lw_r2⟩
end
section
def RX0 : String := "FirstUmbrella$Felt"
def TX0 : u_T := fun k => match k with
  | 0 => ("FirstUmbrella$Felt", "streets", "[I", true)
  | 1 => ("FirstUmbrella$Felt", "hours", "[I", true)
  | 2 => ("FirstUmbrella$Felt", "rains", "I", false)
  | _ => ("FirstUmbrella$Felt", "count", "I", false)
def tyX0 : Nat → FieldType := fun k => match k with
  | 0 => .array .int
  | 1 => .array .int
  | 2 => .int
  | _ => .int
abbrev wsX00 : List Cond := u_ws RX0 TX0 4
theorem nmX0 : ∀ a, a < 4 → ∀ b, b < 4 → a ≠ b → (TX0 a).2.1 ≠ (TX0 b).2.1 := by decide +kernel
theorem tyX0_ok : ∀ k, k < 4 → parseFieldDescriptor (TX0 k).2.2.1 = some (tyX0 k) := by decide +kernel
abbrev cX0_init : ByteArray := prog_2_method_1_code
def yX0_init : MethodName := ⟨RX0, "<init>", "()V"⟩
abbrev cX0_size : ByteArray := prog_2_method_2_code
def yX0_size : MethodName := ⟨RX0, "size", "()I"⟩
abbrev cX0_clear : ByteArray := prog_2_method_3_code
def yX0_clear : MethodName := ⟨RX0, "clear", "()V"⟩
abbrev cX0_add : ByteArray := prog_2_method_4_code
def yX0_add : MethodName := ⟨RX0, "add", "(IIZ)Z"⟩
abbrev cX0_isSo : ByteArray := prog_2_method_5_code
def yX0_isSo : MethodName := ⟨RX0, "isSo", "(III)Z"⟩
abbrev cX0_isWetAt : ByteArray := prog_2_method_6_code
def yX0_isWetAt : MethodName := ⟨RX0, "isWetAt", "(IIIII)Z"⟩
def RX1 : String := "FirstUmbrella$Past"
def TX1 : u_T := fun k => match k with
  | 0 => ("FirstUmbrella$Past", "found", "[LFirstUmbrella$Scene;", true)
  | 1 => ("FirstUmbrella$Past", "first", "I", false)
  | _ => ("FirstUmbrella$Past", "count", "I", false)
def tyX1 : Nat → FieldType := fun k => match k with
  | 0 => .array (.object "FirstUmbrella$Scene")
  | 1 => .int
  | _ => .int
abbrev wsX10 : List Cond := u_ws RX1 TX1 3
theorem nmX1 : ∀ a, a < 3 → ∀ b, b < 3 → a ≠ b → (TX1 a).2.1 ≠ (TX1 b).2.1 := by decide +kernel
theorem tyX1_ok : ∀ k, k < 3 → parseFieldDescriptor (TX1 k).2.2.1 = some (tyX1 k) := by decide +kernel
abbrev cX1_init : ByteArray := prog_3_method_1_code
def yX1_init : MethodName := ⟨RX1, "<init>", "(LFirstUmbrella$Plan;)V"⟩
abbrev cX1_size : ByteArray := prog_3_method_2_code
def yX1_size : MethodName := ⟨RX1, "size", "()I"⟩
abbrev cX1_clear : ByteArray := prog_3_method_3_code
def yX1_clear : MethodName := ⟨RX1, "clear", "()V"⟩
abbrev cX1_add : ByteArray := prog_3_method_4_code
def yX1_add : MethodName := ⟨RX1, "add", "(LFirstUmbrella$Scene;)V"⟩
abbrev cX1_takeLast : ByteArray := prog_3_method_5_code
def yX1_takeLast : MethodName := ⟨RX1, "takeLast", "(LFirstUmbrella$Scene;)V"⟩
def RX2 : String := "FirstUmbrella$Plan"
def TX2 : u_T := fun k => match k with
  | 0 => ("FirstUmbrella$Plan", "walkers", "I", false)
  | 1 => ("FirstUmbrella$Plan", "needs", "I", false)
  | 2 => ("FirstUmbrella$Plan", "homes", "[I", true)
  | 3 => ("FirstUmbrella$Plan", "stuffs", "[I", true)
  | 4 => ("FirstUmbrella$Plan", "needStreets", "[I", true)
  | 5 => ("FirstUmbrella$Plan", "needSorts", "[I", true)
  | _ => ("FirstUmbrella$Plan", "needFigures", "[I", true)
def tyX2 : Nat → FieldType := fun k => match k with
  | 0 => .int
  | 1 => .int
  | 2 => .array .int
  | 3 => .array .int
  | 4 => .array .int
  | 5 => .array .int
  | _ => .array .int
abbrev wsX20 : List Cond := u_ws RX2 TX2 7
theorem nmX2 : ∀ a, a < 7 → ∀ b, b < 7 → a ≠ b → (TX2 a).2.1 ≠ (TX2 b).2.1 := by decide +kernel
theorem tyX2_ok : ∀ k, k < 7 → parseFieldDescriptor (TX2 k).2.2.1 = some (tyX2 k) := by decide +kernel
abbrev cX2_init : ByteArray := prog_4_method_1_code
def yX2_init : MethodName := ⟨RX2, "<init>", "()V"⟩
abbrev cX2_readFrom : ByteArray := prog_4_method_2_code
def yX2_readFrom : MethodName := ⟨RX2, "readFrom", "(LFirstUmbrella$Script;)V"⟩
abbrev cX2_walkerCount : ByteArray := prog_4_method_3_code
def yX2_walkerCount : MethodName := ⟨RX2, "walkerCount", "()I"⟩
abbrev cX2_needCount : ByteArray := prog_4_method_4_code
def yX2_needCount : MethodName := ⟨RX2, "needCount", "()I"⟩
abbrev cX2_hasWalker : ByteArray := prog_4_method_5_code
def yX2_hasWalker : MethodName := ⟨RX2, "hasWalker", "(I)Z"⟩
abbrev cX2_hasNeed : ByteArray := prog_4_method_6_code
def yX2_hasNeed : MethodName := ⟨RX2, "hasNeed", "(I)Z"⟩
abbrev cX2_homeOf : ByteArray := prog_4_method_7_code
def yX2_homeOf : MethodName := ⟨RX2, "homeOf", "(I)I"⟩
abbrev cX2_stuffOf : ByteArray := prog_4_method_8_code
def yX2_stuffOf : MethodName := ⟨RX2, "stuffOf", "(I)I"⟩
abbrev cX2_streetOfNeed : ByteArray := prog_4_method_9_code
def yX2_streetOfNeed : MethodName := ⟨RX2, "streetOfNeed", "(I)I"⟩
abbrev cX2_sortOfNeed : ByteArray := prog_4_method_10_code
def yX2_sortOfNeed : MethodName := ⟨RX2, "sortOfNeed", "(I)I"⟩
abbrev cX2_figureOfNeed : ByteArray := prog_4_method_11_code
def yX2_figureOfNeed : MethodName := ⟨RX2, "figureOfNeed", "(I)I"⟩
def RX3 : String := "FirstUmbrella$Scene"
def TX3 : u_T := fun k => match k with
  | 0 => ("FirstUmbrella$Scene", "plan", "LFirstUmbrella$Plan;", true)
  | 1 => ("FirstUmbrella$Scene", "places", "[I", true)
  | 2 => ("FirstUmbrella$Scene", "lasts", "[I", true)
  | 3 => ("FirstUmbrella$Scene", "wetness", "[I", true)
  | 4 => ("FirstUmbrella$Scene", "fates", "[I", true)
  | 5 => ("FirstUmbrella$Scene", "opened", "I", false)
  | _ => ("FirstUmbrella$Scene", "time", "I", false)
def tyX3 : Nat → FieldType := fun k => match k with
  | 0 => .object "FirstUmbrella$Plan"
  | 1 => .array .int
  | 2 => .array .int
  | 3 => .array .int
  | 4 => .array .int
  | 5 => .int
  | _ => .int
abbrev wsX30 : List Cond := u_ws RX3 TX3 7
theorem nmX3 : ∀ a, a < 7 → ∀ b, b < 7 → a ≠ b → (TX3 a).2.1 ≠ (TX3 b).2.1 := by decide +kernel
theorem tyX3_ok : ∀ k, k < 7 → parseFieldDescriptor (TX3 k).2.2.1 = some (tyX3 k) := by decide +kernel
abbrev cX3_init : ByteArray := prog_5_method_1_code
def yX3_init : MethodName := ⟨RX3, "<init>", "(LFirstUmbrella$Plan;)V"⟩
abbrev cX3_begin : ByteArray := prog_5_method_2_code
def yX3_begin : MethodName := ⟨RX3, "begin", "()V"⟩
abbrev cX3_copy : ByteArray := prog_5_method_3_code
def yX3_copy : MethodName := ⟨RX3, "copy", "(LFirstUmbrella$Scene;)V"⟩
abbrev cX3_time : ByteArray := prog_5_method_4_code
def yX3_time : MethodName := ⟨RX3, "time", "()I"⟩
abbrev cX3_placeOf : ByteArray := prog_5_method_5_code
def yX3_placeOf : MethodName := ⟨RX3, "placeOf", "(I)I"⟩
abbrev cX3_lastsIn : ByteArray := prog_5_method_6_code
def yX3_lastsIn : MethodName := ⟨RX3, "lastsIn", "(I)I"⟩
abbrev cX3_wetnessOf : ByteArray := prog_5_method_7_code
def yX3_wetnessOf : MethodName := ⟨RX3, "wetnessOf", "(I)I"⟩
abbrev cX3_fateOf : ByteArray := prog_5_method_8_code
def yX3_fateOf : MethodName := ⟨RX3, "fateOf", "(I)I"⟩
abbrev cX3_openBits : ByteArray := prog_5_method_9_code
def yX3_openBits : MethodName := ⟨RX3, "openBits", "()I"⟩
abbrev cX3_shutBits : ByteArray := prog_5_method_10_code
def yX3_shutBits : MethodName := ⟨RX3, "shutBits", "()I"⟩
abbrev cX3_isOpen : ByteArray := prog_5_method_11_code
def yX3_isOpen : MethodName := ⟨RX3, "isOpen", "(I)Z"⟩
abbrev cX3_openIn : ByteArray := prog_5_method_12_code
def yX3_openIn : MethodName := ⟨RX3, "openIn", "(I)I"⟩
abbrev cX3_rainBits : ByteArray := prog_5_method_13_code
def yX3_rainBits : MethodName := ⟨RX3, "rainBits", "()I"⟩
abbrev cX3_hailBits : ByteArray := prog_5_method_14_code
def yX3_hailBits : MethodName := ⟨RX3, "hailBits", "()I"⟩
abbrev cX3_needBits : ByteArray := prog_5_method_15_code
def yX3_needBits : MethodName := ⟨RX3, "needBits", "(I)I"⟩
abbrev cX3_keptCount : ByteArray := prog_5_method_16_code
def yX3_keptCount : MethodName := ⟨RX3, "keptCount", "()I"⟩
abbrev cX3_raise : ByteArray := prog_5_method_17_code
def yX3_raise : MethodName := ⟨RX3, "raise", "(I)Z"⟩
abbrev cX3_raiseAll : ByteArray := prog_5_method_18_code
def yX3_raiseAll : MethodName := ⟨RX3, "raiseAll", "(I)V"⟩
abbrev cX3_lower : ByteArray := prog_5_method_19_code
def yX3_lower : MethodName := ⟨RX3, "lower", "(I)Z"⟩
abbrev cX3_forget : ByteArray := prog_5_method_20_code
def yX3_forget : MethodName := ⟨RX3, "forget", "(I)V"⟩
abbrev cX3_lastAtLeast : ByteArray := prog_5_method_21_code
def yX3_lastAtLeast : MethodName := ⟨RX3, "lastAtLeast", "(II)V"⟩
abbrev cX3_place : ByteArray := prog_5_method_22_code
def yX3_place : MethodName := ⟨RX3, "place", "(II)V"⟩
abbrev cX3_canMove : ByteArray := prog_5_method_23_code
def yX3_canMove : MethodName := ⟨RX3, "canMove", "(IZ)Z"⟩
abbrev cX3_move : ByteArray := prog_5_method_24_code
def yX3_move : MethodName := ⟨RX3, "move", "(IZ)Z"⟩
abbrev cX3_passHours : ByteArray := prog_5_method_25_code
def yX3_passHours : MethodName := ⟨RX3, "passHours", "(I)V"⟩
abbrev cX3_passHour : ByteArray := prog_5_method_26_code
def yX3_passHour : MethodName := ⟨RX3, "passHour", "()I"⟩
abbrev cX3_fateInHour : ByteArray := prog_5_method_27_code
def yX3_fateInHour : MethodName := ⟨RX3, "fateInHour", "(IZ)I"⟩
def RX4 : String := "FirstUmbrella$Script"
def TX4 : u_T := fun k => match k with
  | 0 => ("FirstUmbrella$Script", "bytes", "[I", true)
  | _ => ("FirstUmbrella$Script", "length", "I", false)
def tyX4 : Nat → FieldType := fun k => match k with
  | 0 => .array .int
  | _ => .int
abbrev wsX40 : List Cond := u_ws RX4 TX4 2
theorem nmX4 : ∀ a, a < 2 → ∀ b, b < 2 → a ≠ b → (TX4 a).2.1 ≠ (TX4 b).2.1 := by decide +kernel
theorem tyX4_ok : ∀ k, k < 2 → parseFieldDescriptor (TX4 k).2.2.1 = some (tyX4 k) := by decide +kernel
abbrev cX4_init : ByteArray := prog_6_method_1_code
def yX4_init : MethodName := ⟨RX4, "<init>", "()V"⟩
abbrev cX4_length : ByteArray := prog_6_method_2_code
def yX4_length : MethodName := ⟨RX4, "length", "()I"⟩
abbrev cX4_clear : ByteArray := prog_6_method_3_code
def yX4_clear : MethodName := ⟨RX4, "clear", "()V"⟩
abbrev cX4_append : ByteArray := prog_6_method_4_code
def yX4_append : MethodName := ⟨RX4, "append", "(I)Z"⟩
abbrev cX4_byteAt : ByteArray := prog_6_method_5_code
def yX4_byteAt : MethodName := ⟨RX4, "byteAt", "(I)I"⟩
abbrev cX4_figureAt : ByteArray := prog_6_method_6_code
def yX4_figureAt : MethodName := ⟨RX4, "figureAt", "(I)I"⟩
abbrev cX4_firstFault : ByteArray := prog_6_method_7_code
def yX4_firstFault : MethodName := ⟨RX4, "firstFault", "()I"⟩
abbrev cX4_isFitting : ByteArray := prog_6_method_8_code
def yX4_isFitting : MethodName := ⟨RX4, "isFitting", "(II)Z"⟩
def RX5 : String := "FirstUmbrella$Slots"
def TX5 : u_T := fun k => match k with
  | 0 => ("FirstUmbrella$Slots", "stored", "[LFirstUmbrella$Scene;", true)
  | _ => ("FirstUmbrella$Slots", "used", "I", false)
def tyX5 : Nat → FieldType := fun k => match k with
  | 0 => .array (.object "FirstUmbrella$Scene")
  | _ => .int
abbrev wsX50 : List Cond := u_ws RX5 TX5 2
theorem nmX5 : ∀ a, a < 2 → ∀ b, b < 2 → a ≠ b → (TX5 a).2.1 ≠ (TX5 b).2.1 := by decide +kernel
theorem tyX5_ok : ∀ k, k < 2 → parseFieldDescriptor (TX5 k).2.2.1 = some (tyX5 k) := by decide +kernel
abbrev cX5_init : ByteArray := prog_7_method_1_code
def yX5_init : MethodName := ⟨RX5, "<init>", "(LFirstUmbrella$Plan;)V"⟩
abbrev cX5_clear : ByteArray := prog_7_method_2_code
def yX5_clear : MethodName := ⟨RX5, "clear", "()V"⟩
abbrev cX5_store : ByteArray := prog_7_method_3_code
def yX5_store : MethodName := ⟨RX5, "store", "(ILFirstUmbrella$Scene;)V"⟩
abbrev cX5_fetch : ByteArray := prog_7_method_4_code
def yX5_fetch : MethodName := ⟨RX5, "fetch", "(ILFirstUmbrella$Scene;)Z"⟩
def RX6 : String := "FirstUmbrella"
def TX6 : u_T := fun k => match k with
  | 0 => ("FirstUmbrella", "script", "LFirstUmbrella$Script;", true)
  | 1 => ("FirstUmbrella", "plan", "LFirstUmbrella$Plan;", true)
  | 2 => ("FirstUmbrella", "now", "LFirstUmbrella$Scene;", true)
  | 3 => ("FirstUmbrella", "trial", "LFirstUmbrella$Scene;", true)
  | 4 => ("FirstUmbrella", "past", "LFirstUmbrella$Past;", true)
  | 5 => ("FirstUmbrella", "slots", "LFirstUmbrella$Slots;", true)
  | 6 => ("FirstUmbrella", "felt", "LFirstUmbrella$Felt;", true)
  | _ => ("FirstUmbrella", "seedNow", "J", false)
def tyX6 : Nat → FieldType := fun k => match k with
  | 0 => .object "FirstUmbrella$Script"
  | 1 => .object "FirstUmbrella$Plan"
  | 2 => .object "FirstUmbrella$Scene"
  | 3 => .object "FirstUmbrella$Scene"
  | 4 => .object "FirstUmbrella$Past"
  | 5 => .object "FirstUmbrella$Slots"
  | 6 => .object "FirstUmbrella$Felt"
  | _ => .long
abbrev wsX60 : List Cond := u_ws RX6 TX6 8
theorem nmX6 : ∀ a, a < 8 → ∀ b, b < 8 → a ≠ b → (TX6 a).2.1 ≠ (TX6 b).2.1 := by decide +kernel
theorem tyX6_ok : ∀ k, k < 8 → parseFieldDescriptor (TX6 k).2.2.1 = some (tyX6 k) := by decide +kernel
abbrev cX6_init : ByteArray := prog_1_method_1_code
def yX6_init : MethodName := ⟨RX6, "<init>", "()V"⟩
abbrev cX6_write : ByteArray := prog_1_method_2_code
def yX6_write : MethodName := ⟨RX6, "write", "(I)I"⟩
abbrev cX6_wipe : ByteArray := prog_1_method_3_code
def yX6_wipe : MethodName := ⟨RX6, "wipe", "()I"⟩
abbrev cX6_fault : ByteArray := prog_1_method_4_code
def yX6_fault : MethodName := ⟨RX6, "fault", "()I"⟩
abbrev cX6_town : ByteArray := prog_1_method_5_code
def yX6_town : MethodName := ⟨RX6, "town", "()I"⟩
abbrev cX6_about : ByteArray := prog_1_method_6_code
def yX6_about : MethodName := ⟨RX6, "about", "(I)I"⟩
abbrev cX6_walker : ByteArray := prog_1_method_7_code
def yX6_walker : MethodName := ⟨RX6, "walker", "(II)I"⟩
abbrev cX6_need : ByteArray := prog_1_method_8_code
def yX6_need : MethodName := ⟨RX6, "need", "(II)I"⟩
abbrev cX6_street : ByteArray := prog_1_method_9_code
def yX6_street : MethodName := ⟨RX6, "street", "(II)I"⟩
abbrev cX6_open : ByteArray := prog_1_method_10_code
def yX6_open : MethodName := ⟨RX6, "open", "(I)I"⟩
abbrev cX6_shut : ByteArray := prog_1_method_11_code
def yX6_shut : MethodName := ⟨RX6, "shut", "(I)I"⟩
abbrev cX6_walk : ByteArray := prog_1_method_12_code
def yX6_walk : MethodName := ⟨RX6, "walk", "(IZ)I"⟩
abbrev cX6_hour : ByteArray := prog_1_method_13_code
def yX6_hour : MethodName := ⟨RX6, "hour", "()I"⟩
abbrev cX6_undo : ByteArray := prog_1_method_14_code
def yX6_undo : MethodName := ⟨RX6, "undo", "()I"⟩
abbrev cX6_wet : ByteArray := prog_1_method_15_code
def yX6_wet : MethodName := ⟨RX6, "wet", "(II)I"⟩
abbrev cX6_needs : ByteArray := prog_1_method_16_code
def yX6_needs : MethodName := ⟨RX6, "needs", "(II)I"⟩
abbrev cX6_dry : ByteArray := prog_1_method_17_code
def yX6_dry : MethodName := ⟨RX6, "dry", "(I)I"⟩
abbrev cX6_asked : ByteArray := prog_1_method_18_code
def yX6_asked : MethodName := ⟨RX6, "asked", "(I)I"⟩
abbrev cX6_sent : ByteArray := prog_1_method_19_code
def yX6_sent : MethodName := ⟨RX6, "sent", "(II)I"⟩
abbrev cX6_judge : ByteArray := prog_1_method_20_code
def yX6_judge : MethodName := ⟨RX6, "judge", "(IJ)I"⟩
abbrev cX6_share : ByteArray := prog_1_method_21_code
def yX6_share : MethodName := ⟨RX6, "share", "(IZ)I"⟩
abbrev cX6_feel : ByteArray := prog_1_method_22_code
def yX6_feel : MethodName := ⟨RX6, "feel", "(III)I"⟩
abbrev cX6_unfeel : ByteArray := prog_1_method_23_code
def yX6_unfeel : MethodName := ⟨RX6, "unfeel", "()I"⟩
abbrev cX6_may : ByteArray := prog_1_method_24_code
def yX6_may : MethodName := ⟨RX6, "may", "(I)I"⟩
abbrev cX6_rests : ByteArray := prog_1_method_25_code
def yX6_rests : MethodName := ⟨RX6, "rests", "(III)I"⟩
abbrev cX6_sudden : ByteArray := prog_1_method_26_code
def yX6_sudden : MethodName := ⟨RX6, "sudden", "(IIIZ)I"⟩
abbrev cX6_seed : ByteArray := prog_1_method_27_code
def yX6_seed : MethodName := ⟨RX6, "seed", "(J)J"⟩
abbrev cX6_weeks : ByteArray := prog_1_method_28_code
def yX6_weeks : MethodName := ⟨RX6, "weeks", "(I)I"⟩
abbrev cX6_keep : ByteArray := prog_1_method_29_code
def yX6_keep : MethodName := ⟨RX6, "keep", "(I)I"⟩
abbrev cX6_again : ByteArray := prog_1_method_30_code
def yX6_again : MethodName := ⟨RX6, "again", "(I)I"⟩
abbrev cX6_keptIfOpened : ByteArray := prog_1_method_31_code
def yX6_keptIfOpened : MethodName := ⟨RX6, "keptIfOpened", "(I)I"⟩
abbrev cX6_keptIfSent : ByteArray := prog_1_method_32_code
def yX6_keptIfSent : MethodName := ⟨RX6, "keptIfSent", "(II)I"⟩
abbrev cX6_keptIfCome : ByteArray := prog_1_method_33_code
def yX6_keptIfCome : MethodName := ⟨RX6, "keptIfCome", "(I)I"⟩
abbrev cX6_comesTrue : ByteArray := prog_1_method_34_code
def yX6_comesTrue : MethodName := ⟨RX6, "comesTrue", "(III)Z"⟩
abbrev cX6_doByChance : ByteArray := prog_1_method_35_code
def yX6_doByChance : MethodName := ⟨RX6, "doByChance", "(I)V"⟩
abbrev cX6_isContent : ByteArray := prog_1_method_36_code
def yX6_isContent : MethodName := ⟨RX6, "isContent", "(IZIZ)Z"⟩
abbrev cX6_gain : ByteArray := prog_1_method_37_code
def yX6_gain : MethodName := ⟨RX6, "gain", "(IZIZ)I"⟩
abbrev cX6_isStreet : ByteArray := prog_1_method_38_code
def yX6_isStreet : MethodName := ⟨RX6, "isStreet", "(I)Z"⟩
abbrev cX6_isSlot : ByteArray := prog_1_method_39_code
def yX6_isSlot : MethodName := ⟨RX6, "isSlot", "(I)Z"⟩
abbrev cX6_isChoice : ByteArray := prog_1_method_40_code
def yX6_isChoice : MethodName := ⟨RX6, "isChoice", "(I)Z"⟩
abbrev cX6_has : ByteArray := prog_1_method_41_code
def yX6_has : MethodName := ⟨RX6, "has", "(II)Z"⟩
abbrev cX6_isWithin : ByteArray := prog_1_method_42_code
def yX6_isWithin : MethodName := ⟨RX6, "isWithin", "(II)Z"⟩
abbrev cX6_at : ByteArray := prog_1_method_43_code
def yX6_at : MethodName := ⟨RX6, "at", "([II)I"⟩
abbrev cX6_put : ByteArray := prog_1_method_44_code
def yX6_put : MethodName := ⟨RX6, "put", "([III)V"⟩
abbrev cX6_withoutLast : ByteArray := prog_1_method_45_code
def yX6_withoutLast : MethodName := ⟨RX6, "withoutLast", "(JI)J"⟩
abbrev cX6_ordersOf : ByteArray := prog_1_method_46_code
def yX6_ordersOf : MethodName := ⟨RX6, "ordersOf", "(I)I"⟩
abbrev cX6_power : ByteArray := prog_1_method_47_code
def yX6_power : MethodName := ⟨RX6, "power", "(II)I"⟩
abbrev cX6_partOf : ByteArray := prog_1_method_48_code
def yX6_partOf : MethodName := ⟨RX6, "partOf", "(IIZ)I"⟩
abbrev cX6_commonDivisor : ByteArray := prog_1_method_49_code
def yX6_commonDivisor : MethodName := ⟨RX6, "commonDivisor", "(II)I"⟩
abbrev cX6_scenes : ByteArray := prog_1_method_50_code
def yX6_scenes : MethodName := ⟨RX6, "scenes", "(LFirstUmbrella$Plan;I)[LFirstUmbrella$Scene;"⟩
abbrev cX6_sceneAt : ByteArray := prog_1_method_51_code
def yX6_sceneAt : MethodName := ⟨RX6, "sceneAt", "([LFirstUmbrella$Scene;I)LFirstUmbrella$Scene;"⟩
def RX7 : String := "FirstUmbrellaModel"
def TX7 : u_T := fun k => match k with
  | 0 => ("FirstUmbrellaModel", "thrown", "I", false)
  | 1 => ("FirstUmbrellaModel", "text", "[I", true)
  | 2 => ("FirstUmbrellaModel", "textSize", "I", false)
  | 3 => ("FirstUmbrellaModel", "place", "I", false)
  | 4 => ("FirstUmbrellaModel", "walkers", "I", false)
  | 5 => ("FirstUmbrellaModel", "stuff", "[I", true)
  | 6 => ("FirstUmbrellaModel", "needs", "I", false)
  | 7 => ("FirstUmbrellaModel", "need", "[I", true)
  | 8 => ("FirstUmbrellaModel", "readWalkers", "I", false)
  | 9 => ("FirstUmbrellaModel", "readWalker", "[I", true)
  | 10 => ("FirstUmbrellaModel", "readNeeds", "I", false)
  | 11 => ("FirstUmbrellaModel", "readNeed", "[I", true)
  | 12 => ("FirstUmbrellaModel", "page", "[I", true)
  | 13 => ("FirstUmbrellaModel", "trial", "[I", true)
  | 14 => ("FirstUmbrellaModel", "book", "[I", true)
  | 15 => ("FirstUmbrellaModel", "acts", "I", false)
  | 16 => ("FirstUmbrellaModel", "kept", "[I", true)
  | 17 => ("FirstUmbrellaModel", "isKept", "[Z", true)
  | 18 => ("FirstUmbrellaModel", "felt", "I", false)
  | 19 => ("FirstUmbrellaModel", "feltStreet", "[I", true)
  | 20 => ("FirstUmbrellaModel", "feltHour", "[I", true)
  | 21 => ("FirstUmbrellaModel", "feltRain", "[I", true)
  | 22 => ("FirstUmbrellaModel", "seed", "J", false)
  | 23 => ("FirstUmbrellaModel", "bestWhich", "I", false)
  | 24 => ("FirstUmbrellaModel", "bestMany", "I", false)
  | 25 => ("FirstUmbrellaModel", "mayMany", "I", false)
  | 26 => ("FirstUmbrellaModel", "mayFirst", "I", false)
  | 27 => ("FirstUmbrellaModel", "restMany", "I", false)
  | 28 => ("FirstUmbrellaModel", "restFirst", "I", false)
  | 29 => ("FirstUmbrellaModel", "gains", "[I", true)
  | _ => ("FirstUmbrellaModel", "value", "[I", true)
def tyX7 : Nat → FieldType := fun k => match k with
  | 0 => .int
  | 1 => .array .int
  | 2 => .int
  | 3 => .int
  | 4 => .int
  | 5 => .array .int
  | 6 => .int
  | 7 => .array .int
  | 8 => .int
  | 9 => .array .int
  | 10 => .int
  | 11 => .array .int
  | 12 => .array .int
  | 13 => .array .int
  | 14 => .array .int
  | 15 => .int
  | 16 => .array .int
  | 17 => .array .boolean
  | 18 => .int
  | 19 => .array .int
  | 20 => .array .int
  | 21 => .array .int
  | 22 => .long
  | 23 => .int
  | 24 => .int
  | 25 => .int
  | 26 => .int
  | 27 => .int
  | 28 => .int
  | 29 => .array .int
  | _ => .array .int
abbrev wsX70 : List Cond := u_ws RX7 TX7 31
theorem nmX7 : ∀ a, a < 31 → ∀ b, b < 31 → a ≠ b → (TX7 a).2.1 ≠ (TX7 b).2.1 := by decide +kernel
theorem tyX7_ok : ∀ k, k < 31 → parseFieldDescriptor (TX7 k).2.2.1 = some (tyX7 k) := by decide +kernel
abbrev cX7_init : ByteArray := prog_9_method_1_code
def yX7_init : MethodName := ⟨RX7, "<init>", "()V"⟩
abbrev cX7_in : ByteArray := prog_9_method_3_code
def yX7_in : MethodName := ⟨RX7, "in", "(JJJ)Z"⟩
abbrev cX7_has : ByteArray := prog_9_method_4_code
def yX7_has : MethodName := ⟨RX7, "has", "(II)Z"⟩
abbrev cX7_many : ByteArray := prog_9_method_5_code
def yX7_many : MethodName := ⟨RX7, "many", "(I)I"⟩
abbrev cX7_power : ByteArray := prog_9_method_6_code
def yX7_power : MethodName := ⟨RX7, "power", "(II)I"⟩
abbrev cX7_noWalker : ByteArray := prog_9_method_7_code
def yX7_noWalker : MethodName := ⟨RX7, "noWalker", "(I)Z"⟩
abbrev cX7_noStreet : ByteArray := prog_9_method_8_code
def yX7_noStreet : MethodName := ⟨RX7, "noStreet", "(I)Z"⟩
abbrev cX7_write : ByteArray := prog_9_method_9_code
def yX7_write : MethodName := ⟨RX7, "write", "(I)I"⟩
abbrev cX7_wipe : ByteArray := prog_9_method_10_code
def yX7_wipe : MethodName := ⟨RX7, "wipe", "()I"⟩
abbrev cX7_figure : ByteArray := prog_9_method_11_code
def yX7_figure : MethodName := ⟨RX7, "figure", "(II)I"⟩
abbrev cX7_readOneWalker : ByteArray := prog_9_method_12_code
def yX7_readOneWalker : MethodName := ⟨RX7, "readOneWalker", "()Z"⟩
abbrev cX7_readOneNeed : ByteArray := prog_9_method_13_code
def yX7_readOneNeed : MethodName := ⟨RX7, "readOneNeed", "()Z"⟩
abbrev cX7_readThing : ByteArray := prog_9_method_14_code
def yX7_readThing : MethodName := ⟨RX7, "readThing", "()Z"⟩
abbrev cX7_readTown : ByteArray := prog_9_method_15_code
def yX7_readTown : MethodName := ⟨RX7, "readTown", "()I"⟩
abbrev cX7_fault : ByteArray := prog_9_method_16_code
def yX7_fault : MethodName := ⟨RX7, "fault", "()I"⟩
abbrev cX7_town : ByteArray := prog_9_method_17_code
def yX7_town : MethodName := ⟨RX7, "town", "()I"⟩
abbrev cX7_openIn : ByteArray := prog_9_method_18_code
def yX7_openIn : MethodName := ⟨RX7, "openIn", "([II)I"⟩
abbrev cX7_rainOf : ByteArray := prog_9_method_19_code
def yX7_rainOf : MethodName := ⟨RX7, "rainOf", "([I)I"⟩
abbrev cX7_hailOf : ByteArray := prog_9_method_20_code
def yX7_hailOf : MethodName := ⟨RX7, "hailOf", "([I)I"⟩
abbrev cX7_greater : ByteArray := prog_9_method_21_code
def yX7_greater : MethodName := ⟨RX7, "greater", "(II)I"⟩
abbrev cX7_goOpen : ByteArray := prog_9_method_22_code
def yX7_goOpen : MethodName := ⟨RX7, "goOpen", "([II)V"⟩
abbrev cX7_goShut : ByteArray := prog_9_method_23_code
def yX7_goShut : MethodName := ⟨RX7, "goShut", "([II)V"⟩
abbrev cX7_stateThen : ByteArray := prog_9_method_24_code
def yX7_stateThen : MethodName := ⟨RX7, "stateThen", "([III)I"⟩
abbrev cX7_goHour : ByteArray := prog_9_method_25_code
def yX7_goHour : MethodName := ⟨RX7, "goHour", "([I)I"⟩
abbrev cX7_goHours : ByteArray := prog_9_method_26_code
def yX7_goHours : MethodName := ⟨RX7, "goHours", "(I)V"⟩
abbrev cX7_needsThat : ByteArray := prog_9_method_27_code
def yX7_needsThat : MethodName := ⟨RX7, "needsThat", "([II)I"⟩
abbrev cX7_about : ByteArray := prog_9_method_28_code
def yX7_about : MethodName := ⟨RX7, "about", "(I)I"⟩
abbrev cX7_walker : ByteArray := prog_9_method_29_code
def yX7_walker : MethodName := ⟨RX7, "walker", "(II)I"⟩
abbrev cX7_need : ByteArray := prog_9_method_30_code
def yX7_need : MethodName := ⟨RX7, "need", "(II)I"⟩
abbrev cX7_street : ByteArray := prog_9_method_31_code
def yX7_street : MethodName := ⟨RX7, "street", "(II)I"⟩
abbrev cX7_note : ByteArray := prog_9_method_32_code
def yX7_note : MethodName := ⟨RX7, "note", "()V"⟩
abbrev cX7_open : ByteArray := prog_9_method_33_code
def yX7_open : MethodName := ⟨RX7, "open", "(I)I"⟩
abbrev cX7_shut : ByteArray := prog_9_method_34_code
def yX7_shut : MethodName := ⟨RX7, "shut", "(I)I"⟩
abbrev cX7_canWalk : ByteArray := prog_9_method_35_code
def yX7_canWalk : MethodName := ⟨RX7, "canWalk", "([III)Z"⟩
abbrev cX7_walk : ByteArray := prog_9_method_36_code
def yX7_walk : MethodName := ⟨RX7, "walk", "(IZ)I"⟩
abbrev cX7_hour : ByteArray := prog_9_method_37_code
def yX7_hour : MethodName := ⟨RX7, "hour", "()I"⟩
abbrev cX7_undo : ByteArray := prog_9_method_38_code
def yX7_undo : MethodName := ⟨RX7, "undo", "()I"⟩
abbrev cX7_begin : ByteArray := prog_9_method_39_code
def yX7_begin : MethodName := ⟨RX7, "begin", "()V"⟩
abbrev cX7_wet : ByteArray := prog_9_method_40_code
def yX7_wet : MethodName := ⟨RX7, "wet", "(II)I"⟩
abbrev cX7_needs : ByteArray := prog_9_method_41_code
def yX7_needs : MethodName := ⟨RX7, "needs", "(II)I"⟩
abbrev cX7_dry : ByteArray := prog_9_method_42_code
def yX7_dry : MethodName := ⟨RX7, "dry", "(I)I"⟩
abbrev cX7_keptThen : ByteArray := prog_9_method_43_code
def yX7_keptThen : MethodName := ⟨RX7, "keptThen", "()I"⟩
abbrev cX7_openAll : ByteArray := prog_9_method_44_code
def yX7_openAll : MethodName := ⟨RX7, "openAll", "(I)V"⟩
abbrev cX7_asked : ByteArray := prog_9_method_45_code
def yX7_asked : MethodName := ⟨RX7, "asked", "(I)I"⟩
abbrev cX7_sent : ByteArray := prog_9_method_46_code
def yX7_sent : MethodName := ⟨RX7, "sent", "(II)I"⟩
abbrev cX7_longPower : ByteArray := prog_9_method_47_code
def yX7_longPower : MethodName := ⟨RX7, "longPower", "(JI)J"⟩
abbrev cX7_does : ByteArray := prog_9_method_48_code
def yX7_does : MethodName := ⟨RX7, "does", "(I)Z"⟩
abbrev cX7_judge : ByteArray := prog_9_method_49_code
def yX7_judge : MethodName := ⟨RX7, "judge", "(IJ)I"⟩
abbrev cX7_ways : ByteArray := prog_9_method_50_code
def yX7_ways : MethodName := ⟨RX7, "ways", "(I)I"⟩
abbrev cX7_divisor : ByteArray := prog_9_method_51_code
def yX7_divisor : MethodName := ⟨RX7, "divisor", "(II)I"⟩
abbrev cX7_fraction : ByteArray := prog_9_method_52_code
def yX7_fraction : MethodName := ⟨RX7, "fraction", "(IIZ)I"⟩
abbrev cX7_share : ByteArray := prog_9_method_53_code
def yX7_share : MethodName := ⟨RX7, "share", "(IZ)I"⟩
abbrev cX7_feel : ByteArray := prog_9_method_54_code
def yX7_feel : MethodName := ⟨RX7, "feel", "(III)I"⟩
abbrev cX7_unfeel : ByteArray := prog_9_method_55_code
def yX7_unfeel : MethodName := ⟨RX7, "unfeel", "()I"⟩
abbrev cX7_rainsBy : ByteArray := prog_9_method_56_code
def yX7_rainsBy : MethodName := ⟨RX7, "rainsBy", "(IIIII)Z"⟩
abbrev cX7_findMay : ByteArray := prog_9_method_57_code
def yX7_findMay : MethodName := ⟨RX7, "findMay", "()V"⟩
abbrev cX7_may : ByteArray := prog_9_method_58_code
def yX7_may : MethodName := ⟨RX7, "may", "(I)I"⟩
abbrev cX7_gainOf : ByteArray := prog_9_method_59_code
def yX7_gainOf : MethodName := ⟨RX7, "gainOf", "(IZ)I"⟩
abbrev cX7_rests : ByteArray := prog_9_method_60_code
def yX7_rests : MethodName := ⟨RX7, "rests", "(III)I"⟩
abbrev cX7_sudden : ByteArray := prog_9_method_61_code
def yX7_sudden : MethodName := ⟨RX7, "sudden", "(IIIZ)I"⟩
abbrev cX7_seed : ByteArray := prog_9_method_62_code
def yX7_seed : MethodName := ⟨RX7, "seed", "(J)J"⟩
abbrev cX7_weeks : ByteArray := prog_9_method_63_code
def yX7_weeks : MethodName := ⟨RX7, "weeks", "(I)I"⟩
abbrev cX7_keep : ByteArray := prog_9_method_64_code
def yX7_keep : MethodName := ⟨RX7, "keep", "(I)I"⟩
abbrev cX7_again : ByteArray := prog_9_method_65_code
def yX7_again : MethodName := ⟨RX7, "again", "(I)I"⟩
def RJ6 : String := "java/lang/Integer"
def TJ6 : u_T := fun k => match k with
  | _ => ("", "", "", false)
def tyJ6 : Nat → FieldType := fun k => match k with
  | _ => .int
abbrev wsJ60 : List Cond := u_ws RJ6 TJ6 0
theorem nmJ6 : ∀ a, a < 0 → ∀ b, b < 0 → a ≠ b → (TJ6 a).2.1 ≠ (TJ6 b).2.1 := by decide +kernel
theorem tyJ6_ok : ∀ k, k < 0 → parseFieldDescriptor (TJ6 k).2.2.1 = some (tyJ6 k) := by decide +kernel
abbrev cJ6_bitCount_0f7a4 : ByteArray := prog_10_method_49_code
def yJ6_bitCount_0f7a4 : MethodName := ⟨RJ6, "bitCount", "(I)I"⟩
def RJ9 : String := "java/lang/Math"
def TJ9 : u_T := fun k => match k with
  | _ => ("", "", "", false)
def tyJ9 : Nat → FieldType := fun k => match k with
  | _ => .int
abbrev wsJ90 : List Cond := u_ws RJ9 TJ9 0
theorem nmJ9 : ∀ a, a < 0 → ∀ b, b < 0 → a ≠ b → (TJ9 a).2.1 ≠ (TJ9 b).2.1 := by decide +kernel
theorem tyJ9_ok : ∀ k, k < 0 → parseFieldDescriptor (TJ9 k).2.2.1 = some (tyJ9 k) := by decide +kernel
abbrev cJ9_abs_0f7a4 : ByteArray := prog_11_method_59_code
def yJ9_abs_0f7a4 : MethodName := ⟨RJ9, "abs", "(I)I"⟩
abbrev cJ9_max_7cf53 : ByteArray := prog_11_method_65_code
def yJ9_max_7cf53 : MethodName := ⟨RJ9, "max", "(II)I"⟩
def RJ10 : String := "java/lang/System"
def TJ10 : u_T := fun k => match k with
  | _ => ("", "", "", false)
def tyJ10 : Nat → FieldType := fun k => match k with
  | _ => .int
theorem nmJ10 : ∀ a, a < 0 → ∀ b, b < 0 → a ≠ b → (TJ10 a).2.1 ≠ (TJ10 b).2.1 := by decide +kernel
theorem tyJ10_ok : ∀ k, k < 0 → parseFieldDescriptor (TJ10 k).2.2.1 = some (tyJ10 k) := by decide +kernel
def RJ7 : String := "java/util/Arrays"
def TJ7 : u_T := fun k => match k with
  | _ => ("", "", "", false)
def tyJ7 : Nat → FieldType := fun k => match k with
  | _ => .int
abbrev wsJ70 : List Cond := u_ws RJ7 TJ7 0
theorem nmJ7 : ∀ a, a < 0 → ∀ b, b < 0 → a ≠ b → (TJ7 a).2.1 ≠ (TJ7 b).2.1 := by decide +kernel
theorem tyJ7_ok : ∀ k, k < 0 → parseFieldDescriptor (TJ7 k).2.2.1 = some (tyJ7 k) := by decide +kernel
abbrev cJ7_fill_53178 : ByteArray := prog_13_method_103_code
def yJ7_fill_53178 : MethodName := ⟨RJ7, "fill", "([II)V"⟩
def RL : String := "FirstUmbrellaLaw"
abbrev cL_law : ByteArray := code
def yL_law : MethodName := ⟨RL, "law", "([I)Z"⟩
end
section
def Wl : List Cond := lw_tbl.filter goodWord
theorem wl_of {w : Cond} (i : Nat) (h : lw_tbl[i]? = some w) (hg : goodWord w = true) : w ∈ Wl := List.mem_filter.mpr ⟨List.mem_of_getElem? h, hg⟩
theorem wl_good : GoodIn Wl Wl := fun w h => ⟨h, good_of_word (List.mem_filter.mp h).2⟩
theorem wl_0 : Cond.selects RX4 yX4_isFitting yX4_isFitting ∈ Wl := wl_of 0 (by decide +kernel) rfl
theorem wl_1 : Cond.selects RX3 yX3_lastAtLeast yX3_lastAtLeast ∈ Wl := wl_of 1 (by decide +kernel) rfl
theorem wl_2 : Cond.selects RX3 yX3_fateInHour yX3_fateInHour ∈ Wl := wl_of 2 (by decide +kernel) rfl
theorem wl_3 : Cond.selects RX6 yX6_keptIfOpened yX6_keptIfOpened ∈ Wl := wl_of 3 (by decide +kernel) rfl
theorem wl_4 : Cond.selects RX6 yX6_keptIfSent yX6_keptIfSent ∈ Wl := wl_of 4 (by decide +kernel) rfl
theorem wl_5 : Cond.selects RX6 yX6_comesTrue yX6_comesTrue ∈ Wl := wl_of 5 (by decide +kernel) rfl
theorem wl_6 : Cond.selects RX6 yX6_keptIfCome yX6_keptIfCome ∈ Wl := wl_of 6 (by decide +kernel) rfl
theorem wl_7 : Cond.selects RX6 yX6_isContent yX6_isContent ∈ Wl := wl_of 7 (by decide +kernel) rfl
theorem wl_8 : Cond.selects RX6 yX6_gain yX6_gain ∈ Wl := wl_of 8 (by decide +kernel) rfl
theorem wl_9 : Cond.selects RX6 yX6_doByChance yX6_doByChance ∈ Wl := wl_of 9 (by decide +kernel) rfl
theorem wl_10 : Cond.selects RX7 yX7_readTown yX7_readTown ∈ Wl := wl_of 10 (by decide +kernel) rfl
theorem wl_11 : Cond.selects RX7 yX7_readThing yX7_readThing ∈ Wl := wl_of 11 (by decide +kernel) rfl
theorem wl_12 : Cond.selects RX7 yX7_readOneWalker yX7_readOneWalker ∈ Wl := wl_of 12 (by decide +kernel) rfl
theorem wl_13 : Cond.selects RX7 yX7_figure yX7_figure ∈ Wl := wl_of 13 (by decide +kernel) rfl
theorem wl_14 : Cond.selects RX7 yX7_readOneNeed yX7_readOneNeed ∈ Wl := wl_of 14 (by decide +kernel) rfl
theorem wl_15 : Cond.selects RX7 yX7_rainOf yX7_rainOf ∈ Wl := wl_of 15 (by decide +kernel) rfl
theorem wl_16 : Cond.selects RX7 yX7_hailOf yX7_hailOf ∈ Wl := wl_of 16 (by decide +kernel) rfl
theorem wl_17 : Cond.selects RX7 yX7_openIn yX7_openIn ∈ Wl := wl_of 17 (by decide +kernel) rfl
theorem wl_18 : Cond.selects RX7 yX7_needsThat yX7_needsThat ∈ Wl := wl_of 18 (by decide +kernel) rfl
theorem wl_19 : Cond.selects RX7 yX7_noWalker yX7_noWalker ∈ Wl := wl_of 19 (by decide +kernel) rfl
theorem wl_20 : Cond.selects RX7 yX7_note yX7_note ∈ Wl := wl_of 20 (by decide +kernel) rfl
theorem wl_21 : Cond.selects RX7 yX7_goOpen yX7_goOpen ∈ Wl := wl_of 21 (by decide +kernel) rfl
theorem wl_22 : Cond.selects RX7 yX7_goShut yX7_goShut ∈ Wl := wl_of 22 (by decide +kernel) rfl
theorem wl_23 : Cond.selects RX7 yX7_goHour yX7_goHour ∈ Wl := wl_of 23 (by decide +kernel) rfl
theorem wl_24 : Cond.selects RX7 yX7_stateThen yX7_stateThen ∈ Wl := wl_of 24 (by decide +kernel) rfl
theorem wl_25 : Cond.selects RX7 yX7_begin yX7_begin ∈ Wl := wl_of 25 (by decide +kernel) rfl
theorem wl_26 : Cond.selects RX7 yX7_goHours yX7_goHours ∈ Wl := wl_of 26 (by decide +kernel) rfl
theorem wl_27 : Cond.selects RX7 yX7_openAll yX7_openAll ∈ Wl := wl_of 27 (by decide +kernel) rfl
theorem wl_28 : Cond.selects RX7 yX7_keptThen yX7_keptThen ∈ Wl := wl_of 28 (by decide +kernel) rfl
theorem wl_29 : Cond.selects RX7 yX7_does yX7_does ∈ Wl := wl_of 29 (by decide +kernel) rfl
theorem wl_30 : Cond.selects RX7 yX7_findMay yX7_findMay ∈ Wl := wl_of 30 (by decide +kernel) rfl
theorem wl_31 : Cond.selects RX7 yX7_gainOf yX7_gainOf ∈ Wl := wl_of 31 (by decide +kernel) rfl
theorem wl_32 : Cond.initialized RL ∈ Wl := wl_of 32 (by decide +kernel) rfl
theorem wl_33 : Cond.initialized RX6 ∈ Wl := wl_of 33 (by decide +kernel) rfl
theorem wl_34 : Cond.initialized RX4 ∈ Wl := wl_of 34 (by decide +kernel) rfl
theorem wl_35 : Cond.initialized RX2 ∈ Wl := wl_of 35 (by decide +kernel) rfl
theorem wl_36 : Cond.initialized RX3 ∈ Wl := wl_of 36 (by decide +kernel) rfl
theorem wl_37 : Cond.initialized RX1 ∈ Wl := wl_of 37 (by decide +kernel) rfl
theorem wl_38 : Cond.initialized RX5 ∈ Wl := wl_of 38 (by decide +kernel) rfl
theorem wl_39 : Cond.initialized RX0 ∈ Wl := wl_of 39 (by decide +kernel) rfl
theorem wl_40 : Cond.initialized RX7 ∈ Wl := wl_of 40 (by decide +kernel) rfl
theorem wl_41 : Cond.initialized RJ7 ∈ Wl := wl_of 41 (by decide +kernel) rfl
theorem wl_42 : Cond.initialized "java/lang/System" ∈ Wl := wl_of 42 (by decide +kernel) rfl
theorem wl_43 : Cond.initialized "java/lang/Math" ∈ Wl := wl_of 43 (by decide +kernel) rfl
theorem wl_44 : Cond.initialized RJ6 ∈ Wl := wl_of 44 (by decide +kernel) rfl
theorem wl_45 : Cond.classLink RL 7 RX6 ∈ Wl := wl_of 45 (by decide +kernel) rfl
theorem wl_46 : Cond.instantiable RX6 8 ∈ Wl := wl_of 46 (by decide +kernel) rfl
theorem wl_47 : Cond.methodLink RL 9 yX6_init ∈ Wl := wl_of 47 (by decide +kernel) rfl
theorem wl_48 : Cond.instanceMethod yX6_init ∈ Wl := wl_of 48 (by decide +kernel) rfl
theorem wl_49 : Cond.code yX6_init cX6_init 1 none ∈ Wl := wl_of 49 (by decide +kernel) rfl
theorem wl_50 : Cond.methodLink RX6 3 objectInit ∈ Wl := wl_of 50 (by decide +kernel) rfl
theorem wl_51 : Cond.instanceMethod objectInit ∈ Wl := wl_of 51 (by decide +kernel) rfl
theorem wl_52 : Cond.code objectInit ⟨#[0xb1]⟩ 1 none ∈ Wl := wl_of 52 (by decide +kernel) rfl
theorem wl_53 : Cond.classLink RX6 9 RX4 ∈ Wl := wl_of 53 (by decide +kernel) rfl
theorem wl_54 : Cond.instantiable RX4 2 ∈ Wl := wl_of 54 (by decide +kernel) rfl
theorem wl_56 : Cond.instanceMethod yX4_init ∈ Wl := wl_of 56 (by decide +kernel) rfl
theorem wl_57 : Cond.code yX4_init cX4_init 1 none ∈ Wl := wl_of 57 (by decide +kernel) rfl
theorem wl_58 : Cond.methodLink RX4 3 objectInit ∈ Wl := wl_of 58 (by decide +kernel) rfl
theorem wl_59 : Cond.fieldLink RX4 9 RX4 "bytes" "[I" ∈ Wl := wl_of 59 (by decide +kernel) rfl
theorem wl_60 : Cond.fieldLink RX4 15 RX4 "length" "I" ∈ Wl := wl_of 60 (by decide +kernel) rfl
theorem wl_66 : Cond.arrayClass .int ∈ Wl := wl_of 66 (by decide +kernel) rfl
theorem wl_67 : Cond.classLink RX6 16 RX2 ∈ Wl := wl_of 67 (by decide +kernel) rfl
theorem wl_68 : Cond.instantiable RX2 7 ∈ Wl := wl_of 68 (by decide +kernel) rfl
theorem wl_70 : Cond.instanceMethod yX2_init ∈ Wl := wl_of 70 (by decide +kernel) rfl
theorem wl_71 : Cond.code yX2_init cX2_init 1 none ∈ Wl := wl_of 71 (by decide +kernel) rfl
theorem wl_72 : Cond.methodLink RX2 3 objectInit ∈ Wl := wl_of 72 (by decide +kernel) rfl
theorem wl_73 : Cond.fieldLink RX2 27 RX2 "walkers" "I" ∈ Wl := wl_of 73 (by decide +kernel) rfl
theorem wl_74 : Cond.fieldLink RX2 31 RX2 "needs" "I" ∈ Wl := wl_of 74 (by decide +kernel) rfl
theorem wl_75 : Cond.fieldLink RX2 9 RX2 "homes" "[I" ∈ Wl := wl_of 75 (by decide +kernel) rfl
theorem wl_76 : Cond.fieldLink RX2 15 RX2 "stuffs" "[I" ∈ Wl := wl_of 76 (by decide +kernel) rfl
theorem wl_77 : Cond.fieldLink RX2 18 RX2 "needStreets" "[I" ∈ Wl := wl_of 77 (by decide +kernel) rfl
theorem wl_78 : Cond.fieldLink RX2 21 RX2 "needSorts" "[I" ∈ Wl := wl_of 78 (by decide +kernel) rfl
theorem wl_79 : Cond.fieldLink RX2 24 RX2 "needFigures" "[I" ∈ Wl := wl_of 79 (by decide +kernel) rfl
theorem wl_95 : Cond.classLink RX6 23 RX3 ∈ Wl := wl_of 95 (by decide +kernel) rfl
theorem wl_96 : Cond.instantiable RX3 7 ∈ Wl := wl_of 96 (by decide +kernel) rfl
theorem wl_97 : Cond.methodLink RX6 25 yX3_init ∈ Wl := wl_of 97 (by decide +kernel) rfl
theorem wl_98 : Cond.instanceMethod yX3_init ∈ Wl := wl_of 98 (by decide +kernel) rfl
theorem wl_99 : Cond.code yX3_init cX3_init 2 none ∈ Wl := wl_of 99 (by decide +kernel) rfl
theorem wl_100 : Cond.methodLink RX3 3 objectInit ∈ Wl := wl_of 100 (by decide +kernel) rfl
theorem wl_101 : Cond.fieldLink RX3 24 RX3 "plan" "LFirstUmbrella$Plan;" ∈ Wl := wl_of 101 (by decide +kernel) rfl
theorem wl_102 : Cond.fieldLink RX3 9 RX3 "places" "[I" ∈ Wl := wl_of 102 (by decide +kernel) rfl
theorem wl_103 : Cond.fieldLink RX3 15 RX3 "lasts" "[I" ∈ Wl := wl_of 103 (by decide +kernel) rfl
theorem wl_104 : Cond.fieldLink RX3 18 RX3 "wetness" "[I" ∈ Wl := wl_of 104 (by decide +kernel) rfl
theorem wl_105 : Cond.fieldLink RX3 21 RX3 "fates" "[I" ∈ Wl := wl_of 105 (by decide +kernel) rfl
theorem wl_106 : Cond.fieldLink RX3 40 RX3 "opened" "I" ∈ Wl := wl_of 106 (by decide +kernel) rfl
theorem wl_107 : Cond.fieldLink RX3 44 RX3 "time" "I" ∈ Wl := wl_of 107 (by decide +kernel) rfl
theorem wl_123 : Cond.classLink RX6 35 RX1 ∈ Wl := wl_of 123 (by decide +kernel) rfl
theorem wl_124 : Cond.instantiable RX1 3 ∈ Wl := wl_of 124 (by decide +kernel) rfl
theorem wl_125 : Cond.methodLink RX6 37 yX1_init ∈ Wl := wl_of 125 (by decide +kernel) rfl
theorem wl_126 : Cond.instanceMethod yX1_init ∈ Wl := wl_of 126 (by decide +kernel) rfl
theorem wl_127 : Cond.code yX1_init cX1_init 2 none ∈ Wl := wl_of 127 (by decide +kernel) rfl
theorem wl_128 : Cond.methodLink RX1 3 objectInit ∈ Wl := wl_of 128 (by decide +kernel) rfl
theorem wl_130 : Cond.static yX6_scenes ∈ Wl := wl_of 130 (by decide +kernel) rfl
theorem wl_131 : Cond.code yX6_scenes cX6_scenes 4 (some (.array (.object "FirstUmbrella$Scene"))) ∈ Wl := wl_of 131 (by decide +kernel) rfl
theorem wl_133 : Cond.fieldLink RX1 13 RX1 "found" "[LFirstUmbrella$Scene;" ∈ Wl := wl_of 133 (by decide +kernel) rfl
theorem wl_134 : Cond.fieldLink RX1 23 RX1 "first" "I" ∈ Wl := wl_of 134 (by decide +kernel) rfl
theorem wl_135 : Cond.fieldLink RX1 19 RX1 "count" "I" ∈ Wl := wl_of 135 (by decide +kernel) rfl
theorem wl_143 : Cond.classLink RX6 42 RX5 ∈ Wl := wl_of 143 (by decide +kernel) rfl
theorem wl_144 : Cond.instantiable RX5 2 ∈ Wl := wl_of 144 (by decide +kernel) rfl
theorem wl_145 : Cond.methodLink RX6 44 yX5_init ∈ Wl := wl_of 145 (by decide +kernel) rfl
theorem wl_146 : Cond.instanceMethod yX5_init ∈ Wl := wl_of 146 (by decide +kernel) rfl
theorem wl_147 : Cond.code yX5_init cX5_init 2 none ∈ Wl := wl_of 147 (by decide +kernel) rfl
theorem wl_148 : Cond.methodLink RX5 3 objectInit ∈ Wl := wl_of 148 (by decide +kernel) rfl
theorem wl_150 : Cond.fieldLink RX5 13 RX5 "stored" "[LFirstUmbrella$Scene;" ∈ Wl := wl_of 150 (by decide +kernel) rfl
theorem wl_151 : Cond.fieldLink RX5 19 RX5 "used" "I" ∈ Wl := wl_of 151 (by decide +kernel) rfl
theorem wl_157 : Cond.classLink RX6 49 RX0 ∈ Wl := wl_of 157 (by decide +kernel) rfl
theorem wl_158 : Cond.instantiable RX0 4 ∈ Wl := wl_of 158 (by decide +kernel) rfl
theorem wl_160 : Cond.instanceMethod yX0_init ∈ Wl := wl_of 160 (by decide +kernel) rfl
theorem wl_161 : Cond.code yX0_init cX0_init 1 none ∈ Wl := wl_of 161 (by decide +kernel) rfl
theorem wl_162 : Cond.methodLink RX0 3 objectInit ∈ Wl := wl_of 162 (by decide +kernel) rfl
theorem wl_163 : Cond.fieldLink RX0 9 RX0 "streets" "[I" ∈ Wl := wl_of 163 (by decide +kernel) rfl
theorem wl_164 : Cond.fieldLink RX0 15 RX0 "hours" "[I" ∈ Wl := wl_of 164 (by decide +kernel) rfl
theorem wl_165 : Cond.fieldLink RX0 22 RX0 "rains" "I" ∈ Wl := wl_of 165 (by decide +kernel) rfl
theorem wl_166 : Cond.fieldLink RX0 18 RX0 "count" "I" ∈ Wl := wl_of 166 (by decide +kernel) rfl
theorem wl_176 : Cond.fieldLink RX6 12 RX6 "script" "LFirstUmbrella$Script;" ∈ Wl := wl_of 176 (by decide +kernel) rfl
theorem wl_177 : Cond.fieldLink RX6 19 RX6 "plan" "LFirstUmbrella$Plan;" ∈ Wl := wl_of 177 (by decide +kernel) rfl
theorem wl_178 : Cond.fieldLink RX6 28 RX6 "now" "LFirstUmbrella$Scene;" ∈ Wl := wl_of 178 (by decide +kernel) rfl
theorem wl_179 : Cond.fieldLink RX6 32 RX6 "trial" "LFirstUmbrella$Scene;" ∈ Wl := wl_of 179 (by decide +kernel) rfl
theorem wl_180 : Cond.fieldLink RX6 38 RX6 "past" "LFirstUmbrella$Past;" ∈ Wl := wl_of 180 (by decide +kernel) rfl
theorem wl_181 : Cond.fieldLink RX6 45 RX6 "slots" "LFirstUmbrella$Slots;" ∈ Wl := wl_of 181 (by decide +kernel) rfl
theorem wl_182 : Cond.fieldLink RX6 52 RX6 "felt" "LFirstUmbrella$Felt;" ∈ Wl := wl_of 182 (by decide +kernel) rfl
theorem wl_183 : Cond.fieldLink RX6 236 RX6 "seedNow" "J" ∈ Wl := wl_of 183 (by decide +kernel) rfl
theorem wl_201 : Cond.methodLink RL 13 yX6_write ∈ Wl := wl_of 201 (by decide +kernel) rfl
theorem wl_202 : Cond.instanceMethod yX6_write ∈ Wl := wl_of 202 (by decide +kernel) rfl
theorem wl_203 : Cond.selects RX6 yX6_write yX6_write ∈ Wl := wl_of 203 (by decide +kernel) rfl
theorem wl_204 : Cond.code yX6_write cX6_write 2 (some .int) ∈ Wl := wl_of 204 (by decide +kernel) rfl
theorem wl_205 : Cond.methodLink RX6 56 yX4_append ∈ Wl := wl_of 205 (by decide +kernel) rfl
theorem wl_206 : Cond.instanceMethod yX4_append ∈ Wl := wl_of 206 (by decide +kernel) rfl
theorem wl_207 : Cond.selects RX4 yX4_append yX4_append ∈ Wl := wl_of 207 (by decide +kernel) rfl
theorem wl_208 : Cond.code yX4_append cX4_append 2 (some .boolean) ∈ Wl := wl_of 208 (by decide +kernel) rfl
theorem wl_210 : Cond.static yX6_put ∈ Wl := wl_of 210 (by decide +kernel) rfl
theorem wl_211 : Cond.code yX6_put cX6_put 3 none ∈ Wl := wl_of 211 (by decide +kernel) rfl
theorem wl_212 : Cond.methodLink RX6 60 yX4_length ∈ Wl := wl_of 212 (by decide +kernel) rfl
theorem wl_213 : Cond.instanceMethod yX4_length ∈ Wl := wl_of 213 (by decide +kernel) rfl
theorem wl_214 : Cond.selects RX4 yX4_length yX4_length ∈ Wl := wl_of 214 (by decide +kernel) rfl
theorem wl_215 : Cond.code yX4_length cX4_length 1 (some .int) ∈ Wl := wl_of 215 (by decide +kernel) rfl
theorem wl_216 : Cond.methodLink RL 18 yX6_wipe ∈ Wl := wl_of 216 (by decide +kernel) rfl
theorem wl_217 : Cond.instanceMethod yX6_wipe ∈ Wl := wl_of 217 (by decide +kernel) rfl
theorem wl_218 : Cond.selects RX6 yX6_wipe yX6_wipe ∈ Wl := wl_of 218 (by decide +kernel) rfl
theorem wl_219 : Cond.code yX6_wipe cX6_wipe 2 (some .int) ∈ Wl := wl_of 219 (by decide +kernel) rfl
theorem wl_220 : Cond.methodLink RX6 64 yX4_clear ∈ Wl := wl_of 220 (by decide +kernel) rfl
theorem wl_221 : Cond.instanceMethod yX4_clear ∈ Wl := wl_of 221 (by decide +kernel) rfl
theorem wl_222 : Cond.selects RX4 yX4_clear yX4_clear ∈ Wl := wl_of 222 (by decide +kernel) rfl
theorem wl_223 : Cond.code yX4_clear cX4_clear 1 none ∈ Wl := wl_of 223 (by decide +kernel) rfl
theorem wl_224 : Cond.methodLink RL 23 yX6_fault ∈ Wl := wl_of 224 (by decide +kernel) rfl
theorem wl_225 : Cond.instanceMethod yX6_fault ∈ Wl := wl_of 225 (by decide +kernel) rfl
theorem wl_226 : Cond.selects RX6 yX6_fault yX6_fault ∈ Wl := wl_of 226 (by decide +kernel) rfl
theorem wl_227 : Cond.code yX6_fault cX6_fault 1 (some .int) ∈ Wl := wl_of 227 (by decide +kernel) rfl
theorem wl_228 : Cond.methodLink RX6 67 yX4_firstFault ∈ Wl := wl_of 228 (by decide +kernel) rfl
theorem wl_229 : Cond.instanceMethod yX4_firstFault ∈ Wl := wl_of 229 (by decide +kernel) rfl
theorem wl_230 : Cond.selects RX4 yX4_firstFault yX4_firstFault ∈ Wl := wl_of 230 (by decide +kernel) rfl
theorem wl_231 : Cond.code yX4_firstFault cX4_firstFault 8 (some .int) ∈ Wl := wl_of 231 (by decide +kernel) rfl
theorem wl_232 : Cond.methodLink RX4 27 yX4_byteAt ∈ Wl := wl_of 232 (by decide +kernel) rfl
theorem wl_233 : Cond.instanceMethod yX4_byteAt ∈ Wl := wl_of 233 (by decide +kernel) rfl
theorem wl_234 : Cond.selects RX4 yX4_byteAt yX4_byteAt ∈ Wl := wl_of 234 (by decide +kernel) rfl
theorem wl_235 : Cond.code yX4_byteAt cX4_byteAt 2 (some .int) ∈ Wl := wl_of 235 (by decide +kernel) rfl
theorem wl_237 : Cond.static yX6_at ∈ Wl := wl_of 237 (by decide +kernel) rfl
theorem wl_238 : Cond.code yX6_at cX6_at 2 (some .int) ∈ Wl := wl_of 238 (by decide +kernel) rfl
theorem wl_239 : Cond.methodLink RX4 31 yX4_isFitting ∈ Wl := wl_of 239 (by decide +kernel) rfl
theorem wl_241 : Cond.instanceMethod yX4_isFitting ∈ Wl := wl_of 241 (by decide +kernel) rfl
theorem wl_242 : Cond.code yX4_isFitting cX4_isFitting 6 (some .boolean) ∈ Wl := wl_of 242 (by decide +kernel) rfl
theorem wl_243 : Cond.methodLink RX4 35 yX4_figureAt ∈ Wl := wl_of 243 (by decide +kernel) rfl
theorem wl_244 : Cond.instanceMethod yX4_figureAt ∈ Wl := wl_of 244 (by decide +kernel) rfl
theorem wl_245 : Cond.selects RX4 yX4_figureAt yX4_figureAt ∈ Wl := wl_of 245 (by decide +kernel) rfl
theorem wl_246 : Cond.code yX4_figureAt cX4_figureAt 2 (some .int) ∈ Wl := wl_of 246 (by decide +kernel) rfl
theorem wl_247 : Cond.methodLink RL 27 yX6_town ∈ Wl := wl_of 247 (by decide +kernel) rfl
theorem wl_248 : Cond.instanceMethod yX6_town ∈ Wl := wl_of 248 (by decide +kernel) rfl
theorem wl_249 : Cond.selects RX6 yX6_town yX6_town ∈ Wl := wl_of 249 (by decide +kernel) rfl
theorem wl_250 : Cond.code yX6_town cX6_town 1 (some .int) ∈ Wl := wl_of 250 (by decide +kernel) rfl
theorem wl_251 : Cond.methodLink RX6 70 yX2_readFrom ∈ Wl := wl_of 251 (by decide +kernel) rfl
theorem wl_252 : Cond.instanceMethod yX2_readFrom ∈ Wl := wl_of 252 (by decide +kernel) rfl
theorem wl_253 : Cond.selects RX2 yX2_readFrom yX2_readFrom ∈ Wl := wl_of 253 (by decide +kernel) rfl
theorem wl_254 : Cond.code yX2_readFrom cX2_readFrom 3 none ∈ Wl := wl_of 254 (by decide +kernel) rfl
theorem wl_255 : Cond.methodLink RX2 34 yX4_length ∈ Wl := wl_of 255 (by decide +kernel) rfl
theorem wl_256 : Cond.methodLink RX2 40 yX4_byteAt ∈ Wl := wl_of 256 (by decide +kernel) rfl
theorem wl_257 : Cond.methodLink RX2 44 yX4_figureAt ∈ Wl := wl_of 257 (by decide +kernel) rfl
theorem wl_259 : Cond.methodLink RX6 74 yX3_begin ∈ Wl := wl_of 259 (by decide +kernel) rfl
theorem wl_260 : Cond.instanceMethod yX3_begin ∈ Wl := wl_of 260 (by decide +kernel) rfl
theorem wl_261 : Cond.selects RX3 yX3_begin yX3_begin ∈ Wl := wl_of 261 (by decide +kernel) rfl
theorem wl_262 : Cond.code yX3_begin cX3_begin 2 none ∈ Wl := wl_of 262 (by decide +kernel) rfl
theorem wl_263 : Cond.methodLink RX3 28 yX2_homeOf ∈ Wl := wl_of 263 (by decide +kernel) rfl
theorem wl_264 : Cond.instanceMethod yX2_homeOf ∈ Wl := wl_of 264 (by decide +kernel) rfl
theorem wl_265 : Cond.selects RX2 yX2_homeOf yX2_homeOf ∈ Wl := wl_of 265 (by decide +kernel) rfl
theorem wl_266 : Cond.code yX2_homeOf cX2_homeOf 2 (some .int) ∈ Wl := wl_of 266 (by decide +kernel) rfl
theorem wl_268 : Cond.methodLink RX3 34 yJ7_fill_53178 ∈ Wl := wl_of 268 (by decide +kernel) rfl
theorem wl_269 : Cond.static yJ7_fill_53178 ∈ Wl := wl_of 269 (by decide +kernel) rfl
theorem wl_270 : Cond.code yJ7_fill_53178 cJ7_fill_53178 4 none ∈ Wl := wl_of 270 (by decide +kernel) rfl
theorem wl_271 : Cond.methodLink RX6 77 yX1_clear ∈ Wl := wl_of 271 (by decide +kernel) rfl
theorem wl_272 : Cond.instanceMethod yX1_clear ∈ Wl := wl_of 272 (by decide +kernel) rfl
theorem wl_273 : Cond.selects RX1 yX1_clear yX1_clear ∈ Wl := wl_of 273 (by decide +kernel) rfl
theorem wl_274 : Cond.code yX1_clear cX1_clear 1 none ∈ Wl := wl_of 274 (by decide +kernel) rfl
theorem wl_275 : Cond.methodLink RX6 78 yX5_clear ∈ Wl := wl_of 275 (by decide +kernel) rfl
theorem wl_276 : Cond.instanceMethod yX5_clear ∈ Wl := wl_of 276 (by decide +kernel) rfl
theorem wl_277 : Cond.selects RX5 yX5_clear yX5_clear ∈ Wl := wl_of 277 (by decide +kernel) rfl
theorem wl_278 : Cond.code yX5_clear cX5_clear 1 none ∈ Wl := wl_of 278 (by decide +kernel) rfl
theorem wl_279 : Cond.methodLink RX6 79 yX2_walkerCount ∈ Wl := wl_of 279 (by decide +kernel) rfl
theorem wl_280 : Cond.instanceMethod yX2_walkerCount ∈ Wl := wl_of 280 (by decide +kernel) rfl
theorem wl_281 : Cond.selects RX2 yX2_walkerCount yX2_walkerCount ∈ Wl := wl_of 281 (by decide +kernel) rfl
theorem wl_282 : Cond.code yX2_walkerCount cX2_walkerCount 1 (some .int) ∈ Wl := wl_of 282 (by decide +kernel) rfl
theorem wl_283 : Cond.methodLink RX6 82 yX2_needCount ∈ Wl := wl_of 283 (by decide +kernel) rfl
theorem wl_284 : Cond.instanceMethod yX2_needCount ∈ Wl := wl_of 284 (by decide +kernel) rfl
theorem wl_285 : Cond.selects RX2 yX2_needCount yX2_needCount ∈ Wl := wl_of 285 (by decide +kernel) rfl
theorem wl_286 : Cond.code yX2_needCount cX2_needCount 1 (some .int) ∈ Wl := wl_of 286 (by decide +kernel) rfl
theorem wl_287 : Cond.methodLink RL 31 yX6_about ∈ Wl := wl_of 287 (by decide +kernel) rfl
theorem wl_288 : Cond.instanceMethod yX6_about ∈ Wl := wl_of 288 (by decide +kernel) rfl
theorem wl_289 : Cond.selects RX6 yX6_about yX6_about ∈ Wl := wl_of 289 (by decide +kernel) rfl
theorem wl_290 : Cond.code yX6_about cX6_about 2 (some .int) ∈ Wl := wl_of 290 (by decide +kernel) rfl
theorem wl_291 : Cond.methodLink RX6 85 yX3_time ∈ Wl := wl_of 291 (by decide +kernel) rfl
theorem wl_292 : Cond.instanceMethod yX3_time ∈ Wl := wl_of 292 (by decide +kernel) rfl
theorem wl_293 : Cond.selects RX3 yX3_time yX3_time ∈ Wl := wl_of 293 (by decide +kernel) rfl
theorem wl_294 : Cond.code yX3_time cX3_time 1 (some .int) ∈ Wl := wl_of 294 (by decide +kernel) rfl
theorem wl_295 : Cond.methodLink RX6 88 yX3_openBits ∈ Wl := wl_of 295 (by decide +kernel) rfl
theorem wl_296 : Cond.instanceMethod yX3_openBits ∈ Wl := wl_of 296 (by decide +kernel) rfl
theorem wl_297 : Cond.selects RX3 yX3_openBits yX3_openBits ∈ Wl := wl_of 297 (by decide +kernel) rfl
theorem wl_298 : Cond.code yX3_openBits cX3_openBits 1 (some .int) ∈ Wl := wl_of 298 (by decide +kernel) rfl
theorem wl_299 : Cond.methodLink RX6 91 yX3_rainBits ∈ Wl := wl_of 299 (by decide +kernel) rfl
theorem wl_300 : Cond.instanceMethod yX3_rainBits ∈ Wl := wl_of 300 (by decide +kernel) rfl
theorem wl_301 : Cond.selects RX3 yX3_rainBits yX3_rainBits ∈ Wl := wl_of 301 (by decide +kernel) rfl
theorem wl_302 : Cond.code yX3_rainBits cX3_rainBits 4 (some .int) ∈ Wl := wl_of 302 (by decide +kernel) rfl
theorem wl_304 : Cond.static yX6_has ∈ Wl := wl_of 304 (by decide +kernel) rfl
theorem wl_305 : Cond.code yX6_has cX6_has 2 (some .boolean) ∈ Wl := wl_of 305 (by decide +kernel) rfl
theorem wl_306 : Cond.methodLink RX3 65 yX2_stuffOf ∈ Wl := wl_of 306 (by decide +kernel) rfl
theorem wl_307 : Cond.instanceMethod yX2_stuffOf ∈ Wl := wl_of 307 (by decide +kernel) rfl
theorem wl_308 : Cond.selects RX2 yX2_stuffOf yX2_stuffOf ∈ Wl := wl_of 308 (by decide +kernel) rfl
theorem wl_309 : Cond.code yX2_stuffOf cX2_stuffOf 2 (some .int) ∈ Wl := wl_of 309 (by decide +kernel) rfl
theorem wl_310 : Cond.methodLink RX6 94 yX3_hailBits ∈ Wl := wl_of 310 (by decide +kernel) rfl
theorem wl_311 : Cond.instanceMethod yX3_hailBits ∈ Wl := wl_of 311 (by decide +kernel) rfl
theorem wl_312 : Cond.selects RX3 yX3_hailBits yX3_hailBits ∈ Wl := wl_of 312 (by decide +kernel) rfl
theorem wl_313 : Cond.code yX3_hailBits cX3_hailBits 5 (some .int) ∈ Wl := wl_of 313 (by decide +kernel) rfl
theorem wl_314 : Cond.methodLink RX6 97 yX3_needBits ∈ Wl := wl_of 314 (by decide +kernel) rfl
theorem wl_315 : Cond.instanceMethod yX3_needBits ∈ Wl := wl_of 315 (by decide +kernel) rfl
theorem wl_316 : Cond.selects RX3 yX3_needBits yX3_needBits ∈ Wl := wl_of 316 (by decide +kernel) rfl
theorem wl_317 : Cond.code yX3_needBits cX3_needBits 4 (some .int) ∈ Wl := wl_of 317 (by decide +kernel) rfl
theorem wl_318 : Cond.methodLink RX3 68 yX2_needCount ∈ Wl := wl_of 318 (by decide +kernel) rfl
theorem wl_319 : Cond.methodLink RX3 71 yX3_fateOf ∈ Wl := wl_of 319 (by decide +kernel) rfl
theorem wl_320 : Cond.instanceMethod yX3_fateOf ∈ Wl := wl_of 320 (by decide +kernel) rfl
theorem wl_321 : Cond.selects RX3 yX3_fateOf yX3_fateOf ∈ Wl := wl_of 321 (by decide +kernel) rfl
theorem wl_322 : Cond.code yX3_fateOf cX3_fateOf 2 (some .int) ∈ Wl := wl_of 322 (by decide +kernel) rfl
theorem wl_324 : Cond.methodLink RX6 101 yX1_size ∈ Wl := wl_of 324 (by decide +kernel) rfl
theorem wl_325 : Cond.instanceMethod yX1_size ∈ Wl := wl_of 325 (by decide +kernel) rfl
theorem wl_326 : Cond.selects RX1 yX1_size yX1_size ∈ Wl := wl_of 326 (by decide +kernel) rfl
theorem wl_327 : Cond.code yX1_size cX1_size 1 (some .int) ∈ Wl := wl_of 327 (by decide +kernel) rfl
theorem wl_328 : Cond.methodLink RX6 104 yX0_size ∈ Wl := wl_of 328 (by decide +kernel) rfl
theorem wl_329 : Cond.instanceMethod yX0_size ∈ Wl := wl_of 329 (by decide +kernel) rfl
theorem wl_330 : Cond.selects RX0 yX0_size yX0_size ∈ Wl := wl_of 330 (by decide +kernel) rfl
theorem wl_331 : Cond.code yX0_size cX0_size 1 (some .int) ∈ Wl := wl_of 331 (by decide +kernel) rfl
theorem wl_332 : Cond.methodLink RL 35 yX6_walker ∈ Wl := wl_of 332 (by decide +kernel) rfl
theorem wl_333 : Cond.instanceMethod yX6_walker ∈ Wl := wl_of 333 (by decide +kernel) rfl
theorem wl_334 : Cond.selects RX6 yX6_walker yX6_walker ∈ Wl := wl_of 334 (by decide +kernel) rfl
theorem wl_335 : Cond.code yX6_walker cX6_walker 3 (some .int) ∈ Wl := wl_of 335 (by decide +kernel) rfl
theorem wl_336 : Cond.methodLink RX6 105 yX2_hasWalker ∈ Wl := wl_of 336 (by decide +kernel) rfl
theorem wl_337 : Cond.instanceMethod yX2_hasWalker ∈ Wl := wl_of 337 (by decide +kernel) rfl
theorem wl_338 : Cond.selects RX2 yX2_hasWalker yX2_hasWalker ∈ Wl := wl_of 338 (by decide +kernel) rfl
theorem wl_339 : Cond.code yX2_hasWalker cX2_hasWalker 2 (some .boolean) ∈ Wl := wl_of 339 (by decide +kernel) rfl
theorem wl_340 : Cond.methodLink RX6 108 yX3_placeOf ∈ Wl := wl_of 340 (by decide +kernel) rfl
theorem wl_341 : Cond.instanceMethod yX3_placeOf ∈ Wl := wl_of 341 (by decide +kernel) rfl
theorem wl_342 : Cond.selects RX3 yX3_placeOf yX3_placeOf ∈ Wl := wl_of 342 (by decide +kernel) rfl
theorem wl_343 : Cond.code yX3_placeOf cX3_placeOf 2 (some .int) ∈ Wl := wl_of 343 (by decide +kernel) rfl
theorem wl_344 : Cond.methodLink RX6 111 yX2_stuffOf ∈ Wl := wl_of 344 (by decide +kernel) rfl
theorem wl_345 : Cond.methodLink RX6 114 yX3_isOpen ∈ Wl := wl_of 345 (by decide +kernel) rfl
theorem wl_346 : Cond.instanceMethod yX3_isOpen ∈ Wl := wl_of 346 (by decide +kernel) rfl
theorem wl_347 : Cond.selects RX3 yX3_isOpen yX3_isOpen ∈ Wl := wl_of 347 (by decide +kernel) rfl
theorem wl_348 : Cond.code yX3_isOpen cX3_isOpen 2 (some .boolean) ∈ Wl := wl_of 348 (by decide +kernel) rfl
theorem wl_349 : Cond.methodLink RL 40 yX6_need ∈ Wl := wl_of 349 (by decide +kernel) rfl
theorem wl_350 : Cond.instanceMethod yX6_need ∈ Wl := wl_of 350 (by decide +kernel) rfl
theorem wl_351 : Cond.selects RX6 yX6_need yX6_need ∈ Wl := wl_of 351 (by decide +kernel) rfl
theorem wl_352 : Cond.code yX6_need cX6_need 3 (some .int) ∈ Wl := wl_of 352 (by decide +kernel) rfl
theorem wl_353 : Cond.methodLink RX6 117 yX2_hasNeed ∈ Wl := wl_of 353 (by decide +kernel) rfl
theorem wl_354 : Cond.instanceMethod yX2_hasNeed ∈ Wl := wl_of 354 (by decide +kernel) rfl
theorem wl_355 : Cond.selects RX2 yX2_hasNeed yX2_hasNeed ∈ Wl := wl_of 355 (by decide +kernel) rfl
theorem wl_356 : Cond.code yX2_hasNeed cX2_hasNeed 2 (some .boolean) ∈ Wl := wl_of 356 (by decide +kernel) rfl
theorem wl_357 : Cond.methodLink RX6 120 yX2_streetOfNeed ∈ Wl := wl_of 357 (by decide +kernel) rfl
theorem wl_358 : Cond.instanceMethod yX2_streetOfNeed ∈ Wl := wl_of 358 (by decide +kernel) rfl
theorem wl_359 : Cond.selects RX2 yX2_streetOfNeed yX2_streetOfNeed ∈ Wl := wl_of 359 (by decide +kernel) rfl
theorem wl_360 : Cond.code yX2_streetOfNeed cX2_streetOfNeed 2 (some .int) ∈ Wl := wl_of 360 (by decide +kernel) rfl
theorem wl_361 : Cond.methodLink RX6 123 yX2_sortOfNeed ∈ Wl := wl_of 361 (by decide +kernel) rfl
theorem wl_362 : Cond.instanceMethod yX2_sortOfNeed ∈ Wl := wl_of 362 (by decide +kernel) rfl
theorem wl_363 : Cond.selects RX2 yX2_sortOfNeed yX2_sortOfNeed ∈ Wl := wl_of 363 (by decide +kernel) rfl
theorem wl_364 : Cond.code yX2_sortOfNeed cX2_sortOfNeed 2 (some .int) ∈ Wl := wl_of 364 (by decide +kernel) rfl
theorem wl_365 : Cond.methodLink RX6 126 yX2_figureOfNeed ∈ Wl := wl_of 365 (by decide +kernel) rfl
theorem wl_366 : Cond.instanceMethod yX2_figureOfNeed ∈ Wl := wl_of 366 (by decide +kernel) rfl
theorem wl_367 : Cond.selects RX2 yX2_figureOfNeed yX2_figureOfNeed ∈ Wl := wl_of 367 (by decide +kernel) rfl
theorem wl_368 : Cond.code yX2_figureOfNeed cX2_figureOfNeed 2 (some .int) ∈ Wl := wl_of 368 (by decide +kernel) rfl
theorem wl_369 : Cond.methodLink RX6 129 yX3_fateOf ∈ Wl := wl_of 369 (by decide +kernel) rfl
theorem wl_370 : Cond.methodLink RL 44 yX6_street ∈ Wl := wl_of 370 (by decide +kernel) rfl
theorem wl_371 : Cond.instanceMethod yX6_street ∈ Wl := wl_of 371 (by decide +kernel) rfl
theorem wl_372 : Cond.selects RX6 yX6_street yX6_street ∈ Wl := wl_of 372 (by decide +kernel) rfl
theorem wl_373 : Cond.code yX6_street cX6_street 3 (some .int) ∈ Wl := wl_of 373 (by decide +kernel) rfl
theorem wl_374 : Cond.methodLink RX6 132 yX6_isStreet ∈ Wl := wl_of 374 (by decide +kernel) rfl
theorem wl_375 : Cond.static yX6_isStreet ∈ Wl := wl_of 375 (by decide +kernel) rfl
theorem wl_376 : Cond.code yX6_isStreet cX6_isStreet 1 (some .boolean) ∈ Wl := wl_of 376 (by decide +kernel) rfl
theorem wl_377 : Cond.methodLink RX6 135 yX3_wetnessOf ∈ Wl := wl_of 377 (by decide +kernel) rfl
theorem wl_378 : Cond.instanceMethod yX3_wetnessOf ∈ Wl := wl_of 378 (by decide +kernel) rfl
theorem wl_379 : Cond.selects RX3 yX3_wetnessOf yX3_wetnessOf ∈ Wl := wl_of 379 (by decide +kernel) rfl
theorem wl_380 : Cond.code yX3_wetnessOf cX3_wetnessOf 2 (some .int) ∈ Wl := wl_of 380 (by decide +kernel) rfl
theorem wl_381 : Cond.methodLink RX6 138 yX3_lastsIn ∈ Wl := wl_of 381 (by decide +kernel) rfl
theorem wl_382 : Cond.instanceMethod yX3_lastsIn ∈ Wl := wl_of 382 (by decide +kernel) rfl
theorem wl_383 : Cond.selects RX3 yX3_lastsIn yX3_lastsIn ∈ Wl := wl_of 383 (by decide +kernel) rfl
theorem wl_384 : Cond.code yX3_lastsIn cX3_lastsIn 2 (some .int) ∈ Wl := wl_of 384 (by decide +kernel) rfl
theorem wl_385 : Cond.methodLink RX6 141 yX3_openIn ∈ Wl := wl_of 385 (by decide +kernel) rfl
theorem wl_386 : Cond.instanceMethod yX3_openIn ∈ Wl := wl_of 386 (by decide +kernel) rfl
theorem wl_387 : Cond.selects RX3 yX3_openIn yX3_openIn ∈ Wl := wl_of 387 (by decide +kernel) rfl
theorem wl_388 : Cond.code yX3_openIn cX3_openIn 4 (some .int) ∈ Wl := wl_of 388 (by decide +kernel) rfl
theorem wl_389 : Cond.methodLink RL 48 yX6_open ∈ Wl := wl_of 389 (by decide +kernel) rfl
theorem wl_390 : Cond.instanceMethod yX6_open ∈ Wl := wl_of 390 (by decide +kernel) rfl
theorem wl_391 : Cond.selects RX6 yX6_open yX6_open ∈ Wl := wl_of 391 (by decide +kernel) rfl
theorem wl_392 : Cond.code yX6_open cX6_open 2 (some .int) ∈ Wl := wl_of 392 (by decide +kernel) rfl
theorem wl_393 : Cond.methodLink RX6 144 yX1_add ∈ Wl := wl_of 393 (by decide +kernel) rfl
theorem wl_394 : Cond.instanceMethod yX1_add ∈ Wl := wl_of 394 (by decide +kernel) rfl
theorem wl_395 : Cond.selects RX1 yX1_add yX1_add ∈ Wl := wl_of 395 (by decide +kernel) rfl
theorem wl_396 : Cond.code yX1_add cX1_add 3 none ∈ Wl := wl_of 396 (by decide +kernel) rfl
theorem wl_398 : Cond.static yX6_sceneAt ∈ Wl := wl_of 398 (by decide +kernel) rfl
theorem wl_399 : Cond.code yX6_sceneAt cX6_sceneAt 2 (some (.object "FirstUmbrella$Scene")) ∈ Wl := wl_of 399 (by decide +kernel) rfl
theorem wl_400 : Cond.methodLink RX1 30 yX3_copy ∈ Wl := wl_of 400 (by decide +kernel) rfl
theorem wl_401 : Cond.instanceMethod yX3_copy ∈ Wl := wl_of 401 (by decide +kernel) rfl
theorem wl_402 : Cond.selects RX3 yX3_copy yX3_copy ∈ Wl := wl_of 402 (by decide +kernel) rfl
theorem wl_403 : Cond.code yX3_copy cX3_copy 2 none ∈ Wl := wl_of 403 (by decide +kernel) rfl
theorem wl_404 : Cond.methodLink RX3 47 arraycopyName ∈ Wl := wl_of 404 (by decide +kernel) rfl
theorem wl_405 : Cond.static arraycopyName ∈ Wl := wl_of 405 (by decide +kernel) rfl
theorem wl_406 : Cond.native arraycopyName ∈ Wl := wl_of 406 (by decide +kernel) rfl
theorem wl_407 : Cond.methodLink RX6 148 yX3_raise ∈ Wl := wl_of 407 (by decide +kernel) rfl
theorem wl_408 : Cond.instanceMethod yX3_raise ∈ Wl := wl_of 408 (by decide +kernel) rfl
theorem wl_409 : Cond.selects RX3 yX3_raise yX3_raise ∈ Wl := wl_of 409 (by decide +kernel) rfl
theorem wl_410 : Cond.code yX3_raise cX3_raise 2 (some .boolean) ∈ Wl := wl_of 410 (by decide +kernel) rfl
theorem wl_411 : Cond.methodLink RX3 82 yX2_hasWalker ∈ Wl := wl_of 411 (by decide +kernel) rfl
theorem wl_412 : Cond.methodLink RX3 86 yX3_isOpen ∈ Wl := wl_of 412 (by decide +kernel) rfl
theorem wl_413 : Cond.methodLink RX3 89 yX3_placeOf ∈ Wl := wl_of 413 (by decide +kernel) rfl
theorem wl_414 : Cond.methodLink RX3 92 yX3_lastAtLeast ∈ Wl := wl_of 414 (by decide +kernel) rfl
theorem wl_416 : Cond.instanceMethod yX3_lastAtLeast ∈ Wl := wl_of 416 (by decide +kernel) rfl
theorem wl_417 : Cond.code yX3_lastAtLeast cX3_lastAtLeast 3 none ∈ Wl := wl_of 417 (by decide +kernel) rfl
theorem wl_418 : Cond.methodLink RX3 99 Lib.Math.max.name ∈ Wl := wl_of 418 (by decide +kernel) rfl
theorem wl_419 : Cond.static Lib.Math.max.name ∈ Wl := wl_of 419 (by decide +kernel) rfl
theorem wl_420 : Cond.code Lib.Math.max.name Lib.Math.max.code 2 (some .int) ∈ Wl := wl_of 420 (by decide +kernel) rfl
theorem wl_422 : Cond.methodLink RL 52 yX6_shut ∈ Wl := wl_of 422 (by decide +kernel) rfl
theorem wl_423 : Cond.instanceMethod yX6_shut ∈ Wl := wl_of 423 (by decide +kernel) rfl
theorem wl_424 : Cond.selects RX6 yX6_shut yX6_shut ∈ Wl := wl_of 424 (by decide +kernel) rfl
theorem wl_425 : Cond.code yX6_shut cX6_shut 2 (some .int) ∈ Wl := wl_of 425 (by decide +kernel) rfl
theorem wl_426 : Cond.methodLink RX6 151 yX3_lower ∈ Wl := wl_of 426 (by decide +kernel) rfl
theorem wl_427 : Cond.instanceMethod yX3_lower ∈ Wl := wl_of 427 (by decide +kernel) rfl
theorem wl_428 : Cond.selects RX3 yX3_lower yX3_lower ∈ Wl := wl_of 428 (by decide +kernel) rfl
theorem wl_429 : Cond.code yX3_lower cX3_lower 2 (some .boolean) ∈ Wl := wl_of 429 (by decide +kernel) rfl
theorem wl_430 : Cond.methodLink RL 56 yX6_walk ∈ Wl := wl_of 430 (by decide +kernel) rfl
theorem wl_431 : Cond.instanceMethod yX6_walk ∈ Wl := wl_of 431 (by decide +kernel) rfl
theorem wl_432 : Cond.selects RX6 yX6_walk yX6_walk ∈ Wl := wl_of 432 (by decide +kernel) rfl
theorem wl_433 : Cond.code yX6_walk cX6_walk 3 (some .int) ∈ Wl := wl_of 433 (by decide +kernel) rfl
theorem wl_434 : Cond.methodLink RX6 154 yX3_canMove ∈ Wl := wl_of 434 (by decide +kernel) rfl
theorem wl_435 : Cond.instanceMethod yX3_canMove ∈ Wl := wl_of 435 (by decide +kernel) rfl
theorem wl_436 : Cond.selects RX3 yX3_canMove yX3_canMove ∈ Wl := wl_of 436 (by decide +kernel) rfl
theorem wl_437 : Cond.code yX3_canMove cX3_canMove 3 (some .boolean) ∈ Wl := wl_of 437 (by decide +kernel) rfl
theorem wl_439 : Cond.methodLink RX6 158 yX3_move ∈ Wl := wl_of 439 (by decide +kernel) rfl
theorem wl_440 : Cond.instanceMethod yX3_move ∈ Wl := wl_of 440 (by decide +kernel) rfl
theorem wl_441 : Cond.selects RX3 yX3_move yX3_move ∈ Wl := wl_of 441 (by decide +kernel) rfl
theorem wl_442 : Cond.code yX3_move cX3_move 3 (some .boolean) ∈ Wl := wl_of 442 (by decide +kernel) rfl
theorem wl_443 : Cond.methodLink RX3 112 yX3_canMove ∈ Wl := wl_of 443 (by decide +kernel) rfl
theorem wl_444 : Cond.methodLink RX3 116 yX3_place ∈ Wl := wl_of 444 (by decide +kernel) rfl
theorem wl_445 : Cond.instanceMethod yX3_place ∈ Wl := wl_of 445 (by decide +kernel) rfl
theorem wl_446 : Cond.selects RX3 yX3_place yX3_place ∈ Wl := wl_of 446 (by decide +kernel) rfl
theorem wl_447 : Cond.code yX3_place cX3_place 3 none ∈ Wl := wl_of 447 (by decide +kernel) rfl
theorem wl_448 : Cond.methodLink RL 61 yX6_hour ∈ Wl := wl_of 448 (by decide +kernel) rfl
theorem wl_449 : Cond.instanceMethod yX6_hour ∈ Wl := wl_of 449 (by decide +kernel) rfl
theorem wl_450 : Cond.selects RX6 yX6_hour yX6_hour ∈ Wl := wl_of 450 (by decide +kernel) rfl
theorem wl_451 : Cond.code yX6_hour cX6_hour 1 (some .int) ∈ Wl := wl_of 451 (by decide +kernel) rfl
theorem wl_452 : Cond.methodLink RX6 161 yX3_passHour ∈ Wl := wl_of 452 (by decide +kernel) rfl
theorem wl_453 : Cond.instanceMethod yX3_passHour ∈ Wl := wl_of 453 (by decide +kernel) rfl
theorem wl_454 : Cond.selects RX3 yX3_passHour yX3_passHour ∈ Wl := wl_of 454 (by decide +kernel) rfl
theorem wl_455 : Cond.code yX3_passHour cX3_passHour 4 (some .int) ∈ Wl := wl_of 455 (by decide +kernel) rfl
theorem wl_456 : Cond.methodLink RX3 122 yX3_rainBits ∈ Wl := wl_of 456 (by decide +kernel) rfl
theorem wl_457 : Cond.methodLink RX3 125 yX3_hailBits ∈ Wl := wl_of 457 (by decide +kernel) rfl
theorem wl_458 : Cond.methodLink RX3 128 yX2_streetOfNeed ∈ Wl := wl_of 458 (by decide +kernel) rfl
theorem wl_459 : Cond.methodLink RX3 131 yX3_fateInHour ∈ Wl := wl_of 459 (by decide +kernel) rfl
theorem wl_461 : Cond.instanceMethod yX3_fateInHour ∈ Wl := wl_of 461 (by decide +kernel) rfl
theorem wl_462 : Cond.code yX3_fateInHour cX3_fateInHour 5 (some .int) ∈ Wl := wl_of 462 (by decide +kernel) rfl
theorem wl_463 : Cond.methodLink RX3 135 yX2_figureOfNeed ∈ Wl := wl_of 463 (by decide +kernel) rfl
theorem wl_464 : Cond.methodLink RX3 138 yX2_sortOfNeed ∈ Wl := wl_of 464 (by decide +kernel) rfl
theorem wl_465 : Cond.methodLink RX3 141 yX3_wetnessOf ∈ Wl := wl_of 465 (by decide +kernel) rfl
theorem wl_466 : Cond.methodLink RL 65 yX6_undo ∈ Wl := wl_of 466 (by decide +kernel) rfl
theorem wl_467 : Cond.instanceMethod yX6_undo ∈ Wl := wl_of 467 (by decide +kernel) rfl
theorem wl_468 : Cond.selects RX6 yX6_undo yX6_undo ∈ Wl := wl_of 468 (by decide +kernel) rfl
theorem wl_469 : Cond.code yX6_undo cX6_undo 1 (some .int) ∈ Wl := wl_of 469 (by decide +kernel) rfl
theorem wl_470 : Cond.methodLink RX6 164 yX1_takeLast ∈ Wl := wl_of 470 (by decide +kernel) rfl
theorem wl_471 : Cond.instanceMethod yX1_takeLast ∈ Wl := wl_of 471 (by decide +kernel) rfl
theorem wl_472 : Cond.selects RX1 yX1_takeLast yX1_takeLast ∈ Wl := wl_of 472 (by decide +kernel) rfl
theorem wl_473 : Cond.code yX1_takeLast cX1_takeLast 3 none ∈ Wl := wl_of 473 (by decide +kernel) rfl
theorem wl_474 : Cond.methodLink RL 69 yX6_wet ∈ Wl := wl_of 474 (by decide +kernel) rfl
theorem wl_475 : Cond.instanceMethod yX6_wet ∈ Wl := wl_of 475 (by decide +kernel) rfl
theorem wl_476 : Cond.selects RX6 yX6_wet yX6_wet ∈ Wl := wl_of 476 (by decide +kernel) rfl
theorem wl_477 : Cond.code yX6_wet cX6_wet 3 (some .int) ∈ Wl := wl_of 477 (by decide +kernel) rfl
theorem wl_478 : Cond.methodLink RX6 167 yX3_copy ∈ Wl := wl_of 478 (by decide +kernel) rfl
theorem wl_479 : Cond.methodLink RX6 170 yX3_passHours ∈ Wl := wl_of 479 (by decide +kernel) rfl
theorem wl_480 : Cond.instanceMethod yX3_passHours ∈ Wl := wl_of 480 (by decide +kernel) rfl
theorem wl_481 : Cond.selects RX3 yX3_passHours yX3_passHours ∈ Wl := wl_of 481 (by decide +kernel) rfl
theorem wl_482 : Cond.code yX3_passHours cX3_passHours 3 none ∈ Wl := wl_of 482 (by decide +kernel) rfl
theorem wl_483 : Cond.methodLink RX3 119 yX3_passHour ∈ Wl := wl_of 483 (by decide +kernel) rfl
theorem wl_484 : Cond.methodLink RL 73 yX6_needs ∈ Wl := wl_of 484 (by decide +kernel) rfl
theorem wl_485 : Cond.instanceMethod yX6_needs ∈ Wl := wl_of 485 (by decide +kernel) rfl
theorem wl_486 : Cond.selects RX6 yX6_needs yX6_needs ∈ Wl := wl_of 486 (by decide +kernel) rfl
theorem wl_487 : Cond.code yX6_needs cX6_needs 3 (some .int) ∈ Wl := wl_of 487 (by decide +kernel) rfl
theorem wl_488 : Cond.methodLink RX6 174 yX6_isChoice ∈ Wl := wl_of 488 (by decide +kernel) rfl
theorem wl_489 : Cond.static yX6_isChoice ∈ Wl := wl_of 489 (by decide +kernel) rfl
theorem wl_490 : Cond.code yX6_isChoice cX6_isChoice 1 (some .boolean) ∈ Wl := wl_of 490 (by decide +kernel) rfl
theorem wl_491 : Cond.methodLink RL 77 yX6_dry ∈ Wl := wl_of 491 (by decide +kernel) rfl
theorem wl_492 : Cond.instanceMethod yX6_dry ∈ Wl := wl_of 492 (by decide +kernel) rfl
theorem wl_493 : Cond.selects RX6 yX6_dry yX6_dry ∈ Wl := wl_of 493 (by decide +kernel) rfl
theorem wl_494 : Cond.code yX6_dry cX6_dry 3 (some .int) ∈ Wl := wl_of 494 (by decide +kernel) rfl
theorem wl_495 : Cond.methodLink RX6 177 yX6_has ∈ Wl := wl_of 495 (by decide +kernel) rfl
theorem wl_496 : Cond.methodLink RL 81 yX6_asked ∈ Wl := wl_of 496 (by decide +kernel) rfl
theorem wl_497 : Cond.instanceMethod yX6_asked ∈ Wl := wl_of 497 (by decide +kernel) rfl
theorem wl_498 : Cond.selects RX6 yX6_asked yX6_asked ∈ Wl := wl_of 498 (by decide +kernel) rfl
theorem wl_499 : Cond.code yX6_asked cX6_asked 7 (some .int) ∈ Wl := wl_of 499 (by decide +kernel) rfl
theorem wl_500 : Cond.methodLink RX6 181 yX6_keptIfOpened ∈ Wl := wl_of 500 (by decide +kernel) rfl
theorem wl_502 : Cond.instanceMethod yX6_keptIfOpened ∈ Wl := wl_of 502 (by decide +kernel) rfl
theorem wl_503 : Cond.code yX6_keptIfOpened cX6_keptIfOpened 2 (some .int) ∈ Wl := wl_of 503 (by decide +kernel) rfl
theorem wl_504 : Cond.methodLink RX6 230 yX3_raiseAll ∈ Wl := wl_of 504 (by decide +kernel) rfl
theorem wl_505 : Cond.instanceMethod yX3_raiseAll ∈ Wl := wl_of 505 (by decide +kernel) rfl
theorem wl_506 : Cond.selects RX3 yX3_raiseAll yX3_raiseAll ∈ Wl := wl_of 506 (by decide +kernel) rfl
theorem wl_507 : Cond.code yX3_raiseAll cX3_raiseAll 3 none ∈ Wl := wl_of 507 (by decide +kernel) rfl
theorem wl_508 : Cond.methodLink RX3 96 yX3_raise ∈ Wl := wl_of 508 (by decide +kernel) rfl
theorem wl_509 : Cond.methodLink RX6 260 yX3_keptCount ∈ Wl := wl_of 509 (by decide +kernel) rfl
theorem wl_510 : Cond.instanceMethod yX3_keptCount ∈ Wl := wl_of 510 (by decide +kernel) rfl
theorem wl_511 : Cond.selects RX3 yX3_keptCount yX3_keptCount ∈ Wl := wl_of 511 (by decide +kernel) rfl
theorem wl_512 : Cond.code yX3_keptCount cX3_keptCount 1 (some .int) ∈ Wl := wl_of 512 (by decide +kernel) rfl
theorem wl_513 : Cond.methodLink RX3 74 yX3_needBits ∈ Wl := wl_of 513 (by decide +kernel) rfl
theorem wl_514 : Cond.methodLink RX3 77 yJ6_bitCount_0f7a4 ∈ Wl := wl_of 514 (by decide +kernel) rfl
theorem wl_515 : Cond.static yJ6_bitCount_0f7a4 ∈ Wl := wl_of 515 (by decide +kernel) rfl
theorem wl_516 : Cond.code yJ6_bitCount_0f7a4 cJ6_bitCount_0f7a4 1 (some .int) ∈ Wl := wl_of 516 (by decide +kernel) rfl
theorem wl_517 : Cond.constant RJ6 265 (1431655765) ∈ Wl := wl_of 517 (by decide +kernel) rfl
theorem wl_518 : Cond.constant RJ6 266 (858993459) ∈ Wl := wl_of 518 (by decide +kernel) rfl
theorem wl_519 : Cond.constant RJ6 267 (252645135) ∈ Wl := wl_of 519 (by decide +kernel) rfl
theorem wl_520 : Cond.methodLink RX6 184 yX3_shutBits ∈ Wl := wl_of 520 (by decide +kernel) rfl
theorem wl_521 : Cond.instanceMethod yX3_shutBits ∈ Wl := wl_of 521 (by decide +kernel) rfl
theorem wl_522 : Cond.selects RX3 yX3_shutBits yX3_shutBits ∈ Wl := wl_of 522 (by decide +kernel) rfl
theorem wl_523 : Cond.code yX3_shutBits cX3_shutBits 1 (some .int) ∈ Wl := wl_of 523 (by decide +kernel) rfl
theorem wl_524 : Cond.methodLink RX3 57 yX2_walkerCount ∈ Wl := wl_of 524 (by decide +kernel) rfl
theorem wl_525 : Cond.methodLink RX6 187 yX6_isWithin ∈ Wl := wl_of 525 (by decide +kernel) rfl
theorem wl_526 : Cond.static yX6_isWithin ∈ Wl := wl_of 526 (by decide +kernel) rfl
theorem wl_527 : Cond.code yX6_isWithin cX6_isWithin 2 (some .boolean) ∈ Wl := wl_of 527 (by decide +kernel) rfl
theorem wl_528 : Cond.methodLink RX6 190 yJ6_bitCount_0f7a4 ∈ Wl := wl_of 528 (by decide +kernel) rfl
theorem wl_529 : Cond.methodLink RL 85 yX6_sent ∈ Wl := wl_of 529 (by decide +kernel) rfl
theorem wl_530 : Cond.instanceMethod yX6_sent ∈ Wl := wl_of 530 (by decide +kernel) rfl
theorem wl_531 : Cond.selects RX6 yX6_sent yX6_sent ∈ Wl := wl_of 531 (by decide +kernel) rfl
theorem wl_532 : Cond.code yX6_sent cX6_sent 7 (some .int) ∈ Wl := wl_of 532 (by decide +kernel) rfl
theorem wl_533 : Cond.methodLink RX6 195 yX6_keptIfSent ∈ Wl := wl_of 533 (by decide +kernel) rfl
theorem wl_535 : Cond.instanceMethod yX6_keptIfSent ∈ Wl := wl_of 535 (by decide +kernel) rfl
theorem wl_536 : Cond.code yX6_keptIfSent cX6_keptIfSent 3 (some .int) ∈ Wl := wl_of 536 (by decide +kernel) rfl
theorem wl_537 : Cond.methodLink RX6 263 yX3_place ∈ Wl := wl_of 537 (by decide +kernel) rfl
theorem wl_538 : Cond.methodLink RL 91 yX6_judge ∈ Wl := wl_of 538 (by decide +kernel) rfl
theorem wl_539 : Cond.instanceMethod yX6_judge ∈ Wl := wl_of 539 (by decide +kernel) rfl
theorem wl_540 : Cond.selects RX6 yX6_judge yX6_judge ∈ Wl := wl_of 540 (by decide +kernel) rfl
theorem wl_541 : Cond.code yX6_judge cX6_judge 6 (some .int) ∈ Wl := wl_of 541 (by decide +kernel) rfl
theorem wl_542 : Cond.methodLink RX6 199 yX6_withoutLast ∈ Wl := wl_of 542 (by decide +kernel) rfl
theorem wl_543 : Cond.static yX6_withoutLast ∈ Wl := wl_of 543 (by decide +kernel) rfl
theorem wl_544 : Cond.code yX6_withoutLast cX6_withoutLast 6 (some .long) ∈ Wl := wl_of 544 (by decide +kernel) rfl
theorem wl_545 : Cond.constantLong RX6 203 (1000) ∈ Wl := wl_of 545 (by decide +kernel) rfl
theorem wl_546 : Cond.methodLink RX6 205 yX6_comesTrue ∈ Wl := wl_of 546 (by decide +kernel) rfl
theorem wl_548 : Cond.instanceMethod yX6_comesTrue ∈ Wl := wl_of 548 (by decide +kernel) rfl
theorem wl_549 : Cond.code yX6_comesTrue cX6_comesTrue 4 (some .boolean) ∈ Wl := wl_of 549 (by decide +kernel) rfl
theorem wl_550 : Cond.methodLink RL 96 yX6_share ∈ Wl := wl_of 550 (by decide +kernel) rfl
theorem wl_551 : Cond.instanceMethod yX6_share ∈ Wl := wl_of 551 (by decide +kernel) rfl
theorem wl_552 : Cond.selects RX6 yX6_share yX6_share ∈ Wl := wl_of 552 (by decide +kernel) rfl
theorem wl_553 : Cond.code yX6_share cX6_share 8 (some .int) ∈ Wl := wl_of 553 (by decide +kernel) rfl
theorem wl_554 : Cond.methodLink RX6 209 yX6_keptIfCome ∈ Wl := wl_of 554 (by decide +kernel) rfl
theorem wl_556 : Cond.instanceMethod yX6_keptIfCome ∈ Wl := wl_of 556 (by decide +kernel) rfl
theorem wl_557 : Cond.code yX6_keptIfCome cX6_keptIfCome 2 (some .int) ∈ Wl := wl_of 557 (by decide +kernel) rfl
theorem wl_558 : Cond.methodLink RX6 267 yX3_forget ∈ Wl := wl_of 558 (by decide +kernel) rfl
theorem wl_559 : Cond.instanceMethod yX3_forget ∈ Wl := wl_of 559 (by decide +kernel) rfl
theorem wl_560 : Cond.selects RX3 yX3_forget yX3_forget ∈ Wl := wl_of 560 (by decide +kernel) rfl
theorem wl_561 : Cond.code yX3_forget cX3_forget 2 none ∈ Wl := wl_of 561 (by decide +kernel) rfl
theorem wl_562 : Cond.methodLink RX6 212 yX6_ordersOf ∈ Wl := wl_of 562 (by decide +kernel) rfl
theorem wl_563 : Cond.static yX6_ordersOf ∈ Wl := wl_of 563 (by decide +kernel) rfl
theorem wl_564 : Cond.code yX6_ordersOf cX6_ordersOf 3 (some .int) ∈ Wl := wl_of 564 (by decide +kernel) rfl
theorem wl_565 : Cond.methodLink RX6 215 yX6_partOf ∈ Wl := wl_of 565 (by decide +kernel) rfl
theorem wl_566 : Cond.static yX6_partOf ∈ Wl := wl_of 566 (by decide +kernel) rfl
theorem wl_567 : Cond.code yX6_partOf cX6_partOf 4 (some .int) ∈ Wl := wl_of 567 (by decide +kernel) rfl
theorem wl_568 : Cond.methodLink RX6 274 Lib.Math.abs.name ∈ Wl := wl_of 568 (by decide +kernel) rfl
theorem wl_569 : Cond.static Lib.Math.abs.name ∈ Wl := wl_of 569 (by decide +kernel) rfl
theorem wl_570 : Cond.code Lib.Math.abs.name Lib.Math.abs.code 1 (some .int) ∈ Wl := wl_of 570 (by decide +kernel) rfl
theorem wl_571 : Cond.methodLink RX6 279 yX6_commonDivisor ∈ Wl := wl_of 571 (by decide +kernel) rfl
theorem wl_572 : Cond.static yX6_commonDivisor ∈ Wl := wl_of 572 (by decide +kernel) rfl
theorem wl_573 : Cond.code yX6_commonDivisor cX6_commonDivisor 6 (some .int) ∈ Wl := wl_of 573 (by decide +kernel) rfl
theorem wl_574 : Cond.methodLink RL 100 yX6_feel ∈ Wl := wl_of 574 (by decide +kernel) rfl
theorem wl_575 : Cond.instanceMethod yX6_feel ∈ Wl := wl_of 575 (by decide +kernel) rfl
theorem wl_576 : Cond.selects RX6 yX6_feel yX6_feel ∈ Wl := wl_of 576 (by decide +kernel) rfl
theorem wl_577 : Cond.code yX6_feel cX6_feel 4 (some .int) ∈ Wl := wl_of 577 (by decide +kernel) rfl
theorem wl_578 : Cond.methodLink RX6 219 yX0_add ∈ Wl := wl_of 578 (by decide +kernel) rfl
theorem wl_579 : Cond.instanceMethod yX0_add ∈ Wl := wl_of 579 (by decide +kernel) rfl
theorem wl_580 : Cond.selects RX0 yX0_add yX0_add ∈ Wl := wl_of 580 (by decide +kernel) rfl
theorem wl_581 : Cond.code yX0_add cX0_add 4 (some .boolean) ∈ Wl := wl_of 581 (by decide +kernel) rfl
theorem wl_583 : Cond.methodLink RL 105 yX6_unfeel ∈ Wl := wl_of 583 (by decide +kernel) rfl
theorem wl_584 : Cond.instanceMethod yX6_unfeel ∈ Wl := wl_of 584 (by decide +kernel) rfl
theorem wl_585 : Cond.selects RX6 yX6_unfeel yX6_unfeel ∈ Wl := wl_of 585 (by decide +kernel) rfl
theorem wl_586 : Cond.code yX6_unfeel cX6_unfeel 2 (some .int) ∈ Wl := wl_of 586 (by decide +kernel) rfl
theorem wl_587 : Cond.methodLink RX6 222 yX0_clear ∈ Wl := wl_of 587 (by decide +kernel) rfl
theorem wl_588 : Cond.instanceMethod yX0_clear ∈ Wl := wl_of 588 (by decide +kernel) rfl
theorem wl_589 : Cond.selects RX0 yX0_clear yX0_clear ∈ Wl := wl_of 589 (by decide +kernel) rfl
theorem wl_590 : Cond.code yX0_clear cX0_clear 1 none ∈ Wl := wl_of 590 (by decide +kernel) rfl
theorem wl_591 : Cond.methodLink RL 109 yX6_may ∈ Wl := wl_of 591 (by decide +kernel) rfl
theorem wl_592 : Cond.instanceMethod yX6_may ∈ Wl := wl_of 592 (by decide +kernel) rfl
theorem wl_593 : Cond.selects RX6 yX6_may yX6_may ∈ Wl := wl_of 593 (by decide +kernel) rfl
theorem wl_594 : Cond.code yX6_may cX6_may 7 (some .int) ∈ Wl := wl_of 594 (by decide +kernel) rfl
theorem wl_595 : Cond.methodLink RX6 223 yX0_isSo ∈ Wl := wl_of 595 (by decide +kernel) rfl
theorem wl_596 : Cond.instanceMethod yX0_isSo ∈ Wl := wl_of 596 (by decide +kernel) rfl
theorem wl_597 : Cond.selects RX0 yX0_isSo yX0_isSo ∈ Wl := wl_of 597 (by decide +kernel) rfl
theorem wl_598 : Cond.code yX0_isSo cX0_isSo 5 (some .boolean) ∈ Wl := wl_of 598 (by decide +kernel) rfl
theorem wl_600 : Cond.methodLink RX0 33 yX0_isWetAt ∈ Wl := wl_of 600 (by decide +kernel) rfl
theorem wl_601 : Cond.static yX0_isWetAt ∈ Wl := wl_of 601 (by decide +kernel) rfl
theorem wl_602 : Cond.code yX0_isWetAt cX0_isWetAt 7 (some .boolean) ∈ Wl := wl_of 602 (by decide +kernel) rfl
theorem wl_603 : Cond.methodLink RX0 41 Lib.Math.max.name ∈ Wl := wl_of 603 (by decide +kernel) rfl
theorem wl_604 : Cond.methodLink RX0 47 Lib.Math.abs.name ∈ Wl := wl_of 604 (by decide +kernel) rfl
theorem wl_606 : Cond.methodLink RL 113 yX6_rests ∈ Wl := wl_of 606 (by decide +kernel) rfl
theorem wl_607 : Cond.instanceMethod yX6_rests ∈ Wl := wl_of 607 (by decide +kernel) rfl
theorem wl_608 : Cond.selects RX6 yX6_rests yX6_rests ∈ Wl := wl_of 608 (by decide +kernel) rfl
theorem wl_609 : Cond.code yX6_rests cX6_rests 9 (some .int) ∈ Wl := wl_of 609 (by decide +kernel) rfl
theorem wl_610 : Cond.methodLink RX6 226 yX6_isContent ∈ Wl := wl_of 610 (by decide +kernel) rfl
theorem wl_612 : Cond.instanceMethod yX6_isContent ∈ Wl := wl_of 612 (by decide +kernel) rfl
theorem wl_613 : Cond.code yX6_isContent cX6_isContent 5 (some .boolean) ∈ Wl := wl_of 613 (by decide +kernel) rfl
theorem wl_614 : Cond.methodLink RX6 270 yX6_gain ∈ Wl := wl_of 614 (by decide +kernel) rfl
theorem wl_616 : Cond.instanceMethod yX6_gain ∈ Wl := wl_of 616 (by decide +kernel) rfl
theorem wl_617 : Cond.code yX6_gain cX6_gain 8 (some .int) ∈ Wl := wl_of 617 (by decide +kernel) rfl
theorem wl_618 : Cond.methodLink RL 117 yX6_sudden ∈ Wl := wl_of 618 (by decide +kernel) rfl
theorem wl_619 : Cond.instanceMethod yX6_sudden ∈ Wl := wl_of 619 (by decide +kernel) rfl
theorem wl_620 : Cond.selects RX6 yX6_sudden yX6_sudden ∈ Wl := wl_of 620 (by decide +kernel) rfl
theorem wl_621 : Cond.code yX6_sudden cX6_sudden 10 (some .int) ∈ Wl := wl_of 621 (by decide +kernel) rfl
theorem wl_622 : Cond.methodLink RX6 233 yX6_power ∈ Wl := wl_of 622 (by decide +kernel) rfl
theorem wl_623 : Cond.static yX6_power ∈ Wl := wl_of 623 (by decide +kernel) rfl
theorem wl_624 : Cond.code yX6_power cX6_power 4 (some .int) ∈ Wl := wl_of 624 (by decide +kernel) rfl
theorem wl_625 : Cond.methodLink RL 122 yX6_seed ∈ Wl := wl_of 625 (by decide +kernel) rfl
theorem wl_626 : Cond.instanceMethod yX6_seed ∈ Wl := wl_of 626 (by decide +kernel) rfl
theorem wl_627 : Cond.selects RX6 yX6_seed yX6_seed ∈ Wl := wl_of 627 (by decide +kernel) rfl
theorem wl_628 : Cond.code yX6_seed cX6_seed 5 (some .long) ∈ Wl := wl_of 628 (by decide +kernel) rfl
theorem wl_629 : Cond.methodLink RL 127 yX6_weeks ∈ Wl := wl_of 629 (by decide +kernel) rfl
theorem wl_630 : Cond.instanceMethod yX6_weeks ∈ Wl := wl_of 630 (by decide +kernel) rfl
theorem wl_631 : Cond.selects RX6 yX6_weeks yX6_weeks ∈ Wl := wl_of 631 (by decide +kernel) rfl
theorem wl_632 : Cond.code yX6_weeks cX6_weeks 4 (some .int) ∈ Wl := wl_of 632 (by decide +kernel) rfl
theorem wl_633 : Cond.constantLong RX6 240 (6364136223846793005) ∈ Wl := wl_of 633 (by decide +kernel) rfl
theorem wl_634 : Cond.constantLong RX6 242 (1442695040888963407) ∈ Wl := wl_of 634 (by decide +kernel) rfl
theorem wl_635 : Cond.constantLong RX6 244 (24) ∈ Wl := wl_of 635 (by decide +kernel) rfl
theorem wl_636 : Cond.methodLink RX6 246 yX6_doByChance ∈ Wl := wl_of 636 (by decide +kernel) rfl
theorem wl_638 : Cond.instanceMethod yX6_doByChance ∈ Wl := wl_of 638 (by decide +kernel) rfl
theorem wl_639 : Cond.code yX6_doByChance cX6_doByChance 2 none ∈ Wl := wl_of 639 (by decide +kernel) rfl
theorem wl_640 : Cond.methodLink RL 131 yX6_keep ∈ Wl := wl_of 640 (by decide +kernel) rfl
theorem wl_641 : Cond.instanceMethod yX6_keep ∈ Wl := wl_of 641 (by decide +kernel) rfl
theorem wl_642 : Cond.selects RX6 yX6_keep yX6_keep ∈ Wl := wl_of 642 (by decide +kernel) rfl
theorem wl_643 : Cond.code yX6_keep cX6_keep 2 (some .int) ∈ Wl := wl_of 643 (by decide +kernel) rfl
theorem wl_644 : Cond.methodLink RX6 249 yX6_isSlot ∈ Wl := wl_of 644 (by decide +kernel) rfl
theorem wl_645 : Cond.static yX6_isSlot ∈ Wl := wl_of 645 (by decide +kernel) rfl
theorem wl_646 : Cond.code yX6_isSlot cX6_isSlot 1 (some .boolean) ∈ Wl := wl_of 646 (by decide +kernel) rfl
theorem wl_647 : Cond.methodLink RX6 252 yX5_store ∈ Wl := wl_of 647 (by decide +kernel) rfl
theorem wl_648 : Cond.instanceMethod yX5_store ∈ Wl := wl_of 648 (by decide +kernel) rfl
theorem wl_649 : Cond.selects RX5 yX5_store yX5_store ∈ Wl := wl_of 649 (by decide +kernel) rfl
theorem wl_650 : Cond.code yX5_store cX5_store 4 none ∈ Wl := wl_of 650 (by decide +kernel) rfl
theorem wl_652 : Cond.methodLink RX5 27 yX3_copy ∈ Wl := wl_of 652 (by decide +kernel) rfl
theorem wl_653 : Cond.methodLink RL 135 yX6_again ∈ Wl := wl_of 653 (by decide +kernel) rfl
theorem wl_654 : Cond.instanceMethod yX6_again ∈ Wl := wl_of 654 (by decide +kernel) rfl
theorem wl_655 : Cond.selects RX6 yX6_again yX6_again ∈ Wl := wl_of 655 (by decide +kernel) rfl
theorem wl_656 : Cond.code yX6_again cX6_again 2 (some .int) ∈ Wl := wl_of 656 (by decide +kernel) rfl
theorem wl_657 : Cond.methodLink RX6 256 yX5_fetch ∈ Wl := wl_of 657 (by decide +kernel) rfl
theorem wl_658 : Cond.instanceMethod yX5_fetch ∈ Wl := wl_of 658 (by decide +kernel) rfl
theorem wl_659 : Cond.selects RX5 yX5_fetch yX5_fetch ∈ Wl := wl_of 659 (by decide +kernel) rfl
theorem wl_660 : Cond.code yX5_fetch cX5_fetch 4 (some .boolean) ∈ Wl := wl_of 660 (by decide +kernel) rfl
theorem wl_662 : Cond.classLink RL 10 RX7 ∈ Wl := wl_of 662 (by decide +kernel) rfl
theorem wl_663 : Cond.instantiable RX7 31 ∈ Wl := wl_of 663 (by decide +kernel) rfl
theorem wl_664 : Cond.methodLink RL 12 yX7_init ∈ Wl := wl_of 664 (by decide +kernel) rfl
theorem wl_665 : Cond.instanceMethod yX7_init ∈ Wl := wl_of 665 (by decide +kernel) rfl
theorem wl_666 : Cond.code yX7_init cX7_init 1 none ∈ Wl := wl_of 666 (by decide +kernel) rfl
theorem wl_667 : Cond.methodLink RX7 1 objectInit ∈ Wl := wl_of 667 (by decide +kernel) rfl
theorem wl_668 : Cond.fieldLink RX7 56 RX7 "thrown" "I" ∈ Wl := wl_of 668 (by decide +kernel) rfl
theorem wl_669 : Cond.fieldLink RX7 7 RX7 "text" "[I" ∈ Wl := wl_of 669 (by decide +kernel) rfl
theorem wl_670 : Cond.fieldLink RX7 71 RX7 "textSize" "I" ∈ Wl := wl_of 670 (by decide +kernel) rfl
theorem wl_671 : Cond.fieldLink RX7 74 RX7 "place" "I" ∈ Wl := wl_of 671 (by decide +kernel) rfl
theorem wl_672 : Cond.fieldLink RX7 60 RX7 "walkers" "I" ∈ Wl := wl_of 672 (by decide +kernel) rfl
theorem wl_673 : Cond.fieldLink RX7 13 RX7 "stuff" "[I" ∈ Wl := wl_of 673 (by decide +kernel) rfl
theorem wl_674 : Cond.fieldLink RX7 101 RX7 "needs" "I" ∈ Wl := wl_of 674 (by decide +kernel) rfl
theorem wl_675 : Cond.fieldLink RX7 16 RX7 "need" "[I" ∈ Wl := wl_of 675 (by decide +kernel) rfl
theorem wl_676 : Cond.fieldLink RX7 81 RX7 "readWalkers" "I" ∈ Wl := wl_of 676 (by decide +kernel) rfl
theorem wl_677 : Cond.fieldLink RX7 19 RX7 "readWalker" "[I" ∈ Wl := wl_of 677 (by decide +kernel) rfl
theorem wl_678 : Cond.fieldLink RX7 84 RX7 "readNeeds" "I" ∈ Wl := wl_of 678 (by decide +kernel) rfl
theorem wl_679 : Cond.fieldLink RX7 22 RX7 "readNeed" "[I" ∈ Wl := wl_of 679 (by decide +kernel) rfl
theorem wl_680 : Cond.fieldLink RX7 25 RX7 "page" "[I" ∈ Wl := wl_of 680 (by decide +kernel) rfl
theorem wl_681 : Cond.fieldLink RX7 28 RX7 "trial" "[I" ∈ Wl := wl_of 681 (by decide +kernel) rfl
theorem wl_682 : Cond.fieldLink RX7 31 RX7 "book" "[I" ∈ Wl := wl_of 682 (by decide +kernel) rfl
theorem wl_683 : Cond.fieldLink RX7 104 RX7 "acts" "I" ∈ Wl := wl_of 683 (by decide +kernel) rfl
theorem wl_684 : Cond.fieldLink RX7 34 RX7 "kept" "[I" ∈ Wl := wl_of 684 (by decide +kernel) rfl
theorem wl_685 : Cond.fieldLink RX7 37 RX7 "isKept" "[Z" ∈ Wl := wl_of 685 (by decide +kernel) rfl
theorem wl_686 : Cond.fieldLink RX7 135 RX7 "felt" "I" ∈ Wl := wl_of 686 (by decide +kernel) rfl
theorem wl_687 : Cond.fieldLink RX7 41 RX7 "feltStreet" "[I" ∈ Wl := wl_of 687 (by decide +kernel) rfl
theorem wl_688 : Cond.fieldLink RX7 44 RX7 "feltHour" "[I" ∈ Wl := wl_of 688 (by decide +kernel) rfl
theorem wl_689 : Cond.fieldLink RX7 47 RX7 "feltRain" "[I" ∈ Wl := wl_of 689 (by decide +kernel) rfl
theorem wl_690 : Cond.fieldLink RX7 239 RX7 "seed" "J" ∈ Wl := wl_of 690 (by decide +kernel) rfl
theorem wl_691 : Cond.fieldLink RX7 174 RX7 "bestWhich" "I" ∈ Wl := wl_of 691 (by decide +kernel) rfl
theorem wl_692 : Cond.fieldLink RX7 177 RX7 "bestMany" "I" ∈ Wl := wl_of 692 (by decide +kernel) rfl
theorem wl_693 : Cond.fieldLink RX7 211 RX7 "mayMany" "I" ∈ Wl := wl_of 693 (by decide +kernel) rfl
theorem wl_694 : Cond.fieldLink RX7 214 RX7 "mayFirst" "I" ∈ Wl := wl_of 694 (by decide +kernel) rfl
theorem wl_695 : Cond.fieldLink RX7 228 RX7 "restMany" "I" ∈ Wl := wl_of 695 (by decide +kernel) rfl
theorem wl_696 : Cond.fieldLink RX7 231 RX7 "restFirst" "I" ∈ Wl := wl_of 696 (by decide +kernel) rfl
theorem wl_697 : Cond.fieldLink RX7 50 RX7 "gains" "[I" ∈ Wl := wl_of 697 (by decide +kernel) rfl
theorem wl_698 : Cond.fieldLink RX7 53 RX7 "value" "[I" ∈ Wl := wl_of 698 (by decide +kernel) rfl
theorem wl_762 : Cond.arrayClass .boolean ∈ Wl := wl_of 762 (by decide +kernel) rfl
theorem wl_763 : Cond.methodLink RL 17 yX7_write ∈ Wl := wl_of 763 (by decide +kernel) rfl
theorem wl_764 : Cond.instanceMethod yX7_write ∈ Wl := wl_of 764 (by decide +kernel) rfl
theorem wl_765 : Cond.selects RX7 yX7_write yX7_write ∈ Wl := wl_of 765 (by decide +kernel) rfl
theorem wl_766 : Cond.code yX7_write cX7_write 2 (some .int) ∈ Wl := wl_of 766 (by decide +kernel) rfl
theorem wl_767 : Cond.constantLong RX7 69 (255) ∈ Wl := wl_of 767 (by decide +kernel) rfl
theorem wl_768 : Cond.methodLink RX7 63 yX7_in ∈ Wl := wl_of 768 (by decide +kernel) rfl
theorem wl_769 : Cond.static yX7_in ∈ Wl := wl_of 769 (by decide +kernel) rfl
theorem wl_770 : Cond.code yX7_in cX7_in 6 (some .boolean) ∈ Wl := wl_of 770 (by decide +kernel) rfl
theorem wl_771 : Cond.methodLink RL 22 yX7_wipe ∈ Wl := wl_of 771 (by decide +kernel) rfl
theorem wl_772 : Cond.instanceMethod yX7_wipe ∈ Wl := wl_of 772 (by decide +kernel) rfl
theorem wl_773 : Cond.selects RX7 yX7_wipe yX7_wipe ∈ Wl := wl_of 773 (by decide +kernel) rfl
theorem wl_774 : Cond.code yX7_wipe cX7_wipe 2 (some .int) ∈ Wl := wl_of 774 (by decide +kernel) rfl
theorem wl_775 : Cond.methodLink RL 26 yX7_fault ∈ Wl := wl_of 775 (by decide +kernel) rfl
theorem wl_776 : Cond.instanceMethod yX7_fault ∈ Wl := wl_of 776 (by decide +kernel) rfl
theorem wl_777 : Cond.selects RX7 yX7_fault yX7_fault ∈ Wl := wl_of 777 (by decide +kernel) rfl
theorem wl_778 : Cond.code yX7_fault cX7_fault 1 (some .int) ∈ Wl := wl_of 778 (by decide +kernel) rfl
theorem wl_779 : Cond.methodLink RX7 97 yX7_readTown ∈ Wl := wl_of 779 (by decide +kernel) rfl
theorem wl_781 : Cond.instanceMethod yX7_readTown ∈ Wl := wl_of 781 (by decide +kernel) rfl
theorem wl_782 : Cond.code yX7_readTown cX7_readTown 1 (some .int) ∈ Wl := wl_of 782 (by decide +kernel) rfl
theorem wl_783 : Cond.methodLink RX7 94 yX7_readThing ∈ Wl := wl_of 783 (by decide +kernel) rfl
theorem wl_785 : Cond.instanceMethod yX7_readThing ∈ Wl := wl_of 785 (by decide +kernel) rfl
theorem wl_786 : Cond.code yX7_readThing cX7_readThing 2 (some .boolean) ∈ Wl := wl_of 786 (by decide +kernel) rfl
theorem wl_787 : Cond.methodLink RX7 87 yX7_readOneWalker ∈ Wl := wl_of 787 (by decide +kernel) rfl
theorem wl_789 : Cond.instanceMethod yX7_readOneWalker ∈ Wl := wl_of 789 (by decide +kernel) rfl
theorem wl_790 : Cond.code yX7_readOneWalker cX7_readOneWalker 3 (some .boolean) ∈ Wl := wl_of 790 (by decide +kernel) rfl
theorem wl_791 : Cond.methodLink RX7 77 yX7_figure ∈ Wl := wl_of 791 (by decide +kernel) rfl
theorem wl_793 : Cond.instanceMethod yX7_figure ∈ Wl := wl_of 793 (by decide +kernel) rfl
theorem wl_794 : Cond.code yX7_figure cX7_figure 3 (some .int) ∈ Wl := wl_of 794 (by decide +kernel) rfl
theorem wl_795 : Cond.methodLink RX7 91 yX7_readOneNeed ∈ Wl := wl_of 795 (by decide +kernel) rfl
theorem wl_797 : Cond.instanceMethod yX7_readOneNeed ∈ Wl := wl_of 797 (by decide +kernel) rfl
theorem wl_798 : Cond.code yX7_readOneNeed cX7_readOneNeed 4 (some .boolean) ∈ Wl := wl_of 798 (by decide +kernel) rfl
theorem wl_799 : Cond.methodLink RL 30 yX7_town ∈ Wl := wl_of 799 (by decide +kernel) rfl
theorem wl_800 : Cond.instanceMethod yX7_town ∈ Wl := wl_of 800 (by decide +kernel) rfl
theorem wl_801 : Cond.selects RX7 yX7_town yX7_town ∈ Wl := wl_of 801 (by decide +kernel) rfl
theorem wl_802 : Cond.code yX7_town cX7_town 2 (some .int) ∈ Wl := wl_of 802 (by decide +kernel) rfl
theorem wl_803 : Cond.methodLink RL 34 yX7_about ∈ Wl := wl_of 803 (by decide +kernel) rfl
theorem wl_804 : Cond.instanceMethod yX7_about ∈ Wl := wl_of 804 (by decide +kernel) rfl
theorem wl_805 : Cond.selects RX7 yX7_about yX7_about ∈ Wl := wl_of 805 (by decide +kernel) rfl
theorem wl_806 : Cond.code yX7_about cX7_about 2 (some .int) ∈ Wl := wl_of 806 (by decide +kernel) rfl
theorem wl_807 : Cond.methodLink RX7 118 yX7_rainOf ∈ Wl := wl_of 807 (by decide +kernel) rfl
theorem wl_809 : Cond.instanceMethod yX7_rainOf ∈ Wl := wl_of 809 (by decide +kernel) rfl
theorem wl_810 : Cond.code yX7_rainOf cX7_rainOf 5 (some .int) ∈ Wl := wl_of 810 (by decide +kernel) rfl
theorem wl_811 : Cond.methodLink RX7 107 yX7_has ∈ Wl := wl_of 811 (by decide +kernel) rfl
theorem wl_812 : Cond.static yX7_has ∈ Wl := wl_of 812 (by decide +kernel) rfl
theorem wl_813 : Cond.code yX7_has cX7_has 2 (some .boolean) ∈ Wl := wl_of 813 (by decide +kernel) rfl
theorem wl_814 : Cond.methodLink RX7 122 yX7_hailOf ∈ Wl := wl_of 814 (by decide +kernel) rfl
theorem wl_816 : Cond.instanceMethod yX7_hailOf ∈ Wl := wl_of 816 (by decide +kernel) rfl
theorem wl_817 : Cond.code yX7_hailOf cX7_hailOf 4 (some .int) ∈ Wl := wl_of 817 (by decide +kernel) rfl
theorem wl_818 : Cond.methodLink RX7 111 yX7_openIn ∈ Wl := wl_of 818 (by decide +kernel) rfl
theorem wl_820 : Cond.instanceMethod yX7_openIn ∈ Wl := wl_of 820 (by decide +kernel) rfl
theorem wl_821 : Cond.code yX7_openIn cX7_openIn 5 (some .int) ∈ Wl := wl_of 821 (by decide +kernel) rfl
theorem wl_822 : Cond.methodLink RX7 132 yX7_needsThat ∈ Wl := wl_of 822 (by decide +kernel) rfl
theorem wl_824 : Cond.instanceMethod yX7_needsThat ∈ Wl := wl_of 824 (by decide +kernel) rfl
theorem wl_825 : Cond.code yX7_needsThat cX7_needsThat 5 (some .int) ∈ Wl := wl_of 825 (by decide +kernel) rfl
theorem wl_826 : Cond.methodLink RL 39 yX7_walker ∈ Wl := wl_of 826 (by decide +kernel) rfl
theorem wl_827 : Cond.instanceMethod yX7_walker ∈ Wl := wl_of 827 (by decide +kernel) rfl
theorem wl_828 : Cond.selects RX7 yX7_walker yX7_walker ∈ Wl := wl_of 828 (by decide +kernel) rfl
theorem wl_829 : Cond.code yX7_walker cX7_walker 3 (some .int) ∈ Wl := wl_of 829 (by decide +kernel) rfl
theorem wl_830 : Cond.methodLink RX7 138 yX7_noWalker ∈ Wl := wl_of 830 (by decide +kernel) rfl
theorem wl_832 : Cond.instanceMethod yX7_noWalker ∈ Wl := wl_of 832 (by decide +kernel) rfl
theorem wl_833 : Cond.code yX7_noWalker cX7_noWalker 2 (some .boolean) ∈ Wl := wl_of 833 (by decide +kernel) rfl
theorem wl_834 : Cond.methodLink RL 43 yX7_need ∈ Wl := wl_of 834 (by decide +kernel) rfl
theorem wl_835 : Cond.instanceMethod yX7_need ∈ Wl := wl_of 835 (by decide +kernel) rfl
theorem wl_836 : Cond.selects RX7 yX7_need yX7_need ∈ Wl := wl_of 836 (by decide +kernel) rfl
theorem wl_837 : Cond.code yX7_need cX7_need 3 (some .int) ∈ Wl := wl_of 837 (by decide +kernel) rfl
theorem wl_838 : Cond.constantLong RX7 142 (2) ∈ Wl := wl_of 838 (by decide +kernel) rfl
theorem wl_839 : Cond.methodLink RL 47 yX7_street ∈ Wl := wl_of 839 (by decide +kernel) rfl
theorem wl_840 : Cond.instanceMethod yX7_street ∈ Wl := wl_of 840 (by decide +kernel) rfl
theorem wl_841 : Cond.selects RX7 yX7_street yX7_street ∈ Wl := wl_of 841 (by decide +kernel) rfl
theorem wl_842 : Cond.code yX7_street cX7_street 3 (some .int) ∈ Wl := wl_of 842 (by decide +kernel) rfl
theorem wl_843 : Cond.methodLink RX7 144 yX7_noStreet ∈ Wl := wl_of 843 (by decide +kernel) rfl
theorem wl_844 : Cond.static yX7_noStreet ∈ Wl := wl_of 844 (by decide +kernel) rfl
theorem wl_845 : Cond.code yX7_noStreet cX7_noStreet 1 (some .boolean) ∈ Wl := wl_of 845 (by decide +kernel) rfl
theorem wl_846 : Cond.constantLong RX7 67 (5) ∈ Wl := wl_of 846 (by decide +kernel) rfl
theorem wl_847 : Cond.methodLink RL 51 yX7_open ∈ Wl := wl_of 847 (by decide +kernel) rfl
theorem wl_848 : Cond.instanceMethod yX7_open ∈ Wl := wl_of 848 (by decide +kernel) rfl
theorem wl_849 : Cond.selects RX7 yX7_open yX7_open ∈ Wl := wl_of 849 (by decide +kernel) rfl
theorem wl_850 : Cond.code yX7_open cX7_open 2 (some .int) ∈ Wl := wl_of 850 (by decide +kernel) rfl
theorem wl_851 : Cond.methodLink RX7 147 yX7_note ∈ Wl := wl_of 851 (by decide +kernel) rfl
theorem wl_853 : Cond.instanceMethod yX7_note ∈ Wl := wl_of 853 (by decide +kernel) rfl
theorem wl_854 : Cond.code yX7_note cX7_note 2 none ∈ Wl := wl_of 854 (by decide +kernel) rfl
theorem wl_855 : Cond.methodLink RX7 150 yX7_goOpen ∈ Wl := wl_of 855 (by decide +kernel) rfl
theorem wl_857 : Cond.instanceMethod yX7_goOpen ∈ Wl := wl_of 857 (by decide +kernel) rfl
theorem wl_858 : Cond.code yX7_goOpen cX7_goOpen 4 none ∈ Wl := wl_of 858 (by decide +kernel) rfl
theorem wl_859 : Cond.methodLink RX7 115 yX7_greater ∈ Wl := wl_of 859 (by decide +kernel) rfl
theorem wl_860 : Cond.static yX7_greater ∈ Wl := wl_of 860 (by decide +kernel) rfl
theorem wl_861 : Cond.code yX7_greater cX7_greater 2 (some .int) ∈ Wl := wl_of 861 (by decide +kernel) rfl
theorem wl_862 : Cond.methodLink RL 55 yX7_shut ∈ Wl := wl_of 862 (by decide +kernel) rfl
theorem wl_863 : Cond.instanceMethod yX7_shut ∈ Wl := wl_of 863 (by decide +kernel) rfl
theorem wl_864 : Cond.selects RX7 yX7_shut yX7_shut ∈ Wl := wl_of 864 (by decide +kernel) rfl
theorem wl_865 : Cond.code yX7_shut cX7_shut 2 (some .int) ∈ Wl := wl_of 865 (by decide +kernel) rfl
theorem wl_866 : Cond.methodLink RX7 154 yX7_goShut ∈ Wl := wl_of 866 (by decide +kernel) rfl
theorem wl_868 : Cond.instanceMethod yX7_goShut ∈ Wl := wl_of 868 (by decide +kernel) rfl
theorem wl_869 : Cond.code yX7_goShut cX7_goShut 4 none ∈ Wl := wl_of 869 (by decide +kernel) rfl
theorem wl_870 : Cond.methodLink RL 60 yX7_walk ∈ Wl := wl_of 870 (by decide +kernel) rfl
theorem wl_871 : Cond.instanceMethod yX7_walk ∈ Wl := wl_of 871 (by decide +kernel) rfl
theorem wl_872 : Cond.selects RX7 yX7_walk yX7_walk ∈ Wl := wl_of 872 (by decide +kernel) rfl
theorem wl_873 : Cond.code yX7_walk cX7_walk 4 (some .int) ∈ Wl := wl_of 873 (by decide +kernel) rfl
theorem wl_874 : Cond.methodLink RX7 157 yX7_canWalk ∈ Wl := wl_of 874 (by decide +kernel) rfl
theorem wl_875 : Cond.static yX7_canWalk ∈ Wl := wl_of 875 (by decide +kernel) rfl
theorem wl_876 : Cond.code yX7_canWalk cX7_canWalk 3 (some .boolean) ∈ Wl := wl_of 876 (by decide +kernel) rfl
theorem wl_877 : Cond.methodLink RL 64 yX7_hour ∈ Wl := wl_of 877 (by decide +kernel) rfl
theorem wl_878 : Cond.instanceMethod yX7_hour ∈ Wl := wl_of 878 (by decide +kernel) rfl
theorem wl_879 : Cond.selects RX7 yX7_hour yX7_hour ∈ Wl := wl_of 879 (by decide +kernel) rfl
theorem wl_880 : Cond.code yX7_hour cX7_hour 1 (some .int) ∈ Wl := wl_of 880 (by decide +kernel) rfl
theorem wl_881 : Cond.methodLink RX7 129 yX7_goHour ∈ Wl := wl_of 881 (by decide +kernel) rfl
theorem wl_883 : Cond.instanceMethod yX7_goHour ∈ Wl := wl_of 883 (by decide +kernel) rfl
theorem wl_884 : Cond.code yX7_goHour cX7_goHour 5 (some .int) ∈ Wl := wl_of 884 (by decide +kernel) rfl
theorem wl_885 : Cond.methodLink RX7 125 yX7_stateThen ∈ Wl := wl_of 885 (by decide +kernel) rfl
theorem wl_887 : Cond.instanceMethod yX7_stateThen ∈ Wl := wl_of 887 (by decide +kernel) rfl
theorem wl_888 : Cond.code yX7_stateThen cX7_stateThen 7 (some .int) ∈ Wl := wl_of 888 (by decide +kernel) rfl
theorem wl_889 : Cond.methodLink RL 68 yX7_undo ∈ Wl := wl_of 889 (by decide +kernel) rfl
theorem wl_890 : Cond.instanceMethod yX7_undo ∈ Wl := wl_of 890 (by decide +kernel) rfl
theorem wl_891 : Cond.selects RX7 yX7_undo yX7_undo ∈ Wl := wl_of 891 (by decide +kernel) rfl
theorem wl_892 : Cond.code yX7_undo cX7_undo 2 (some .int) ∈ Wl := wl_of 892 (by decide +kernel) rfl
theorem wl_893 : Cond.methodLink RL 72 yX7_wet ∈ Wl := wl_of 893 (by decide +kernel) rfl
theorem wl_894 : Cond.instanceMethod yX7_wet ∈ Wl := wl_of 894 (by decide +kernel) rfl
theorem wl_895 : Cond.selects RX7 yX7_wet yX7_wet ∈ Wl := wl_of 895 (by decide +kernel) rfl
theorem wl_896 : Cond.code yX7_wet cX7_wet 3 (some .int) ∈ Wl := wl_of 896 (by decide +kernel) rfl
theorem wl_897 : Cond.constantLong RX7 161 (20) ∈ Wl := wl_of 897 (by decide +kernel) rfl
theorem wl_898 : Cond.methodLink RX7 163 yX7_begin ∈ Wl := wl_of 898 (by decide +kernel) rfl
theorem wl_900 : Cond.instanceMethod yX7_begin ∈ Wl := wl_of 900 (by decide +kernel) rfl
theorem wl_901 : Cond.code yX7_begin cX7_begin 2 none ∈ Wl := wl_of 901 (by decide +kernel) rfl
theorem wl_902 : Cond.methodLink RX7 166 yX7_goHours ∈ Wl := wl_of 902 (by decide +kernel) rfl
theorem wl_904 : Cond.instanceMethod yX7_goHours ∈ Wl := wl_of 904 (by decide +kernel) rfl
theorem wl_905 : Cond.code yX7_goHours cX7_goHours 3 none ∈ Wl := wl_of 905 (by decide +kernel) rfl
theorem wl_906 : Cond.methodLink RL 76 yX7_needs ∈ Wl := wl_of 906 (by decide +kernel) rfl
theorem wl_907 : Cond.instanceMethod yX7_needs ∈ Wl := wl_of 907 (by decide +kernel) rfl
theorem wl_908 : Cond.selects RX7 yX7_needs yX7_needs ∈ Wl := wl_of 908 (by decide +kernel) rfl
theorem wl_909 : Cond.code yX7_needs cX7_needs 3 (some .int) ∈ Wl := wl_of 909 (by decide +kernel) rfl
theorem wl_910 : Cond.methodLink RL 80 yX7_dry ∈ Wl := wl_of 910 (by decide +kernel) rfl
theorem wl_911 : Cond.instanceMethod yX7_dry ∈ Wl := wl_of 911 (by decide +kernel) rfl
theorem wl_912 : Cond.selects RX7 yX7_dry yX7_dry ∈ Wl := wl_of 912 (by decide +kernel) rfl
theorem wl_913 : Cond.code yX7_dry cX7_dry 3 (some .int) ∈ Wl := wl_of 913 (by decide +kernel) rfl
theorem wl_914 : Cond.methodLink RL 84 yX7_asked ∈ Wl := wl_of 914 (by decide +kernel) rfl
theorem wl_915 : Cond.instanceMethod yX7_asked ∈ Wl := wl_of 915 (by decide +kernel) rfl
theorem wl_916 : Cond.selects RX7 yX7_asked yX7_asked ∈ Wl := wl_of 916 (by decide +kernel) rfl
theorem wl_917 : Cond.code yX7_asked cX7_asked 4 (some .int) ∈ Wl := wl_of 917 (by decide +kernel) rfl
theorem wl_918 : Cond.methodLink RX7 180 yX7_openAll ∈ Wl := wl_of 918 (by decide +kernel) rfl
theorem wl_920 : Cond.instanceMethod yX7_openAll ∈ Wl := wl_of 920 (by decide +kernel) rfl
theorem wl_921 : Cond.code yX7_openAll cX7_openAll 3 none ∈ Wl := wl_of 921 (by decide +kernel) rfl
theorem wl_922 : Cond.methodLink RX7 183 yX7_keptThen ∈ Wl := wl_of 922 (by decide +kernel) rfl
theorem wl_924 : Cond.instanceMethod yX7_keptThen ∈ Wl := wl_of 924 (by decide +kernel) rfl
theorem wl_925 : Cond.code yX7_keptThen cX7_keptThen 1 (some .int) ∈ Wl := wl_of 925 (by decide +kernel) rfl
theorem wl_926 : Cond.methodLink RX7 170 yX7_many ∈ Wl := wl_of 926 (by decide +kernel) rfl
theorem wl_927 : Cond.static yX7_many ∈ Wl := wl_of 927 (by decide +kernel) rfl
theorem wl_928 : Cond.code yX7_many cX7_many 3 (some .int) ∈ Wl := wl_of 928 (by decide +kernel) rfl
theorem wl_929 : Cond.methodLink RL 88 yX7_sent ∈ Wl := wl_of 929 (by decide +kernel) rfl
theorem wl_930 : Cond.instanceMethod yX7_sent ∈ Wl := wl_of 930 (by decide +kernel) rfl
theorem wl_931 : Cond.selects RX7 yX7_sent yX7_sent ∈ Wl := wl_of 931 (by decide +kernel) rfl
theorem wl_932 : Cond.code yX7_sent cX7_sent 5 (some .int) ∈ Wl := wl_of 932 (by decide +kernel) rfl
theorem wl_933 : Cond.methodLink RL 95 yX7_judge ∈ Wl := wl_of 933 (by decide +kernel) rfl
theorem wl_934 : Cond.instanceMethod yX7_judge ∈ Wl := wl_of 934 (by decide +kernel) rfl
theorem wl_935 : Cond.selects RX7 yX7_judge yX7_judge ∈ Wl := wl_of 935 (by decide +kernel) rfl
theorem wl_936 : Cond.code yX7_judge cX7_judge 5 (some .int) ∈ Wl := wl_of 936 (by decide +kernel) rfl
theorem wl_937 : Cond.constantLong RX7 186 (4) ∈ Wl := wl_of 937 (by decide +kernel) rfl
theorem wl_938 : Cond.constantLong RX7 188 (1000) ∈ Wl := wl_of 938 (by decide +kernel) rfl
theorem wl_939 : Cond.methodLink RX7 190 yX7_longPower ∈ Wl := wl_of 939 (by decide +kernel) rfl
theorem wl_940 : Cond.static yX7_longPower ∈ Wl := wl_of 940 (by decide +kernel) rfl
theorem wl_941 : Cond.code yX7_longPower cX7_longPower 6 (some .long) ∈ Wl := wl_of 941 (by decide +kernel) rfl
theorem wl_942 : Cond.methodLink RX7 194 yX7_does ∈ Wl := wl_of 942 (by decide +kernel) rfl
theorem wl_944 : Cond.instanceMethod yX7_does ∈ Wl := wl_of 944 (by decide +kernel) rfl
theorem wl_945 : Cond.code yX7_does cX7_does 5 (some .boolean) ∈ Wl := wl_of 945 (by decide +kernel) rfl
theorem wl_946 : Cond.methodLink RL 99 yX7_share ∈ Wl := wl_of 946 (by decide +kernel) rfl
theorem wl_947 : Cond.instanceMethod yX7_share ∈ Wl := wl_of 947 (by decide +kernel) rfl
theorem wl_948 : Cond.selects RX7 yX7_share yX7_share ∈ Wl := wl_of 948 (by decide +kernel) rfl
theorem wl_949 : Cond.code yX7_share cX7_share 6 (some .int) ∈ Wl := wl_of 949 (by decide +kernel) rfl
theorem wl_950 : Cond.methodLink RX7 200 yX7_ways ∈ Wl := wl_of 950 (by decide +kernel) rfl
theorem wl_951 : Cond.static yX7_ways ∈ Wl := wl_of 951 (by decide +kernel) rfl
theorem wl_952 : Cond.code yX7_ways cX7_ways 3 (some .int) ∈ Wl := wl_of 952 (by decide +kernel) rfl
theorem wl_953 : Cond.methodLink RX7 203 yX7_fraction ∈ Wl := wl_of 953 (by decide +kernel) rfl
theorem wl_954 : Cond.static yX7_fraction ∈ Wl := wl_of 954 (by decide +kernel) rfl
theorem wl_955 : Cond.code yX7_fraction cX7_fraction 4 (some .int) ∈ Wl := wl_of 955 (by decide +kernel) rfl
theorem wl_956 : Cond.methodLink RX7 197 yX7_divisor ∈ Wl := wl_of 956 (by decide +kernel) rfl
theorem wl_957 : Cond.static yX7_divisor ∈ Wl := wl_of 957 (by decide +kernel) rfl
theorem wl_958 : Cond.code yX7_divisor cX7_divisor 5 (some .int) ∈ Wl := wl_of 958 (by decide +kernel) rfl
theorem wl_959 : Cond.methodLink RL 104 yX7_feel ∈ Wl := wl_of 959 (by decide +kernel) rfl
theorem wl_960 : Cond.instanceMethod yX7_feel ∈ Wl := wl_of 960 (by decide +kernel) rfl
theorem wl_961 : Cond.selects RX7 yX7_feel yX7_feel ∈ Wl := wl_of 961 (by decide +kernel) rfl
theorem wl_962 : Cond.code yX7_feel cX7_feel 4 (some .int) ∈ Wl := wl_of 962 (by decide +kernel) rfl
theorem wl_963 : Cond.constantLong RX7 207 (9) ∈ Wl := wl_of 963 (by decide +kernel) rfl
theorem wl_964 : Cond.methodLink RL 108 yX7_unfeel ∈ Wl := wl_of 964 (by decide +kernel) rfl
theorem wl_965 : Cond.instanceMethod yX7_unfeel ∈ Wl := wl_of 965 (by decide +kernel) rfl
theorem wl_966 : Cond.selects RX7 yX7_unfeel yX7_unfeel ∈ Wl := wl_of 966 (by decide +kernel) rfl
theorem wl_967 : Cond.code yX7_unfeel cX7_unfeel 2 (some .int) ∈ Wl := wl_of 967 (by decide +kernel) rfl
theorem wl_968 : Cond.methodLink RL 112 yX7_may ∈ Wl := wl_of 968 (by decide +kernel) rfl
theorem wl_969 : Cond.instanceMethod yX7_may ∈ Wl := wl_of 969 (by decide +kernel) rfl
theorem wl_970 : Cond.selects RX7 yX7_may yX7_may ∈ Wl := wl_of 970 (by decide +kernel) rfl
theorem wl_971 : Cond.code yX7_may cX7_may 2 (some .int) ∈ Wl := wl_of 971 (by decide +kernel) rfl
theorem wl_972 : Cond.methodLink RX7 221 yX7_findMay ∈ Wl := wl_of 972 (by decide +kernel) rfl
theorem wl_974 : Cond.instanceMethod yX7_findMay ∈ Wl := wl_of 974 (by decide +kernel) rfl
theorem wl_975 : Cond.code yX7_findMay cX7_findMay 7 none ∈ Wl := wl_of 975 (by decide +kernel) rfl
theorem wl_976 : Cond.methodLink RX7 217 yX7_rainsBy ∈ Wl := wl_of 976 (by decide +kernel) rfl
theorem wl_977 : Cond.static yX7_rainsBy ∈ Wl := wl_of 977 (by decide +kernel) rfl
theorem wl_978 : Cond.code yX7_rainsBy cX7_rainsBy 6 (some .boolean) ∈ Wl := wl_of 978 (by decide +kernel) rfl
theorem wl_979 : Cond.constantLong RX7 209 (-1) ∈ Wl := wl_of 979 (by decide +kernel) rfl
theorem wl_980 : Cond.methodLink RL 116 yX7_rests ∈ Wl := wl_of 980 (by decide +kernel) rfl
theorem wl_981 : Cond.instanceMethod yX7_rests ∈ Wl := wl_of 981 (by decide +kernel) rfl
theorem wl_982 : Cond.selects RX7 yX7_rests yX7_rests ∈ Wl := wl_of 982 (by decide +kernel) rfl
theorem wl_983 : Cond.code yX7_rests cX7_rests 6 (some .int) ∈ Wl := wl_of 983 (by decide +kernel) rfl
theorem wl_984 : Cond.methodLink RX7 224 yX7_gainOf ∈ Wl := wl_of 984 (by decide +kernel) rfl
theorem wl_986 : Cond.instanceMethod yX7_gainOf ∈ Wl := wl_of 986 (by decide +kernel) rfl
theorem wl_987 : Cond.code yX7_gainOf cX7_gainOf 4 (some .int) ∈ Wl := wl_of 987 (by decide +kernel) rfl
theorem wl_988 : Cond.methodLink RL 121 yX7_sudden ∈ Wl := wl_of 988 (by decide +kernel) rfl
theorem wl_989 : Cond.instanceMethod yX7_sudden ∈ Wl := wl_of 989 (by decide +kernel) rfl
theorem wl_990 : Cond.selects RX7 yX7_sudden yX7_sudden ∈ Wl := wl_of 990 (by decide +kernel) rfl
theorem wl_991 : Cond.code yX7_sudden cX7_sudden 9 (some .int) ∈ Wl := wl_of 991 (by decide +kernel) rfl
theorem wl_992 : Cond.constantLong RX7 234 (10) ∈ Wl := wl_of 992 (by decide +kernel) rfl
theorem wl_993 : Cond.methodLink RX7 236 yX7_power ∈ Wl := wl_of 993 (by decide +kernel) rfl
theorem wl_994 : Cond.static yX7_power ∈ Wl := wl_of 994 (by decide +kernel) rfl
theorem wl_995 : Cond.code yX7_power cX7_power 4 (some .int) ∈ Wl := wl_of 995 (by decide +kernel) rfl
theorem wl_996 : Cond.methodLink RL 126 yX7_seed ∈ Wl := wl_of 996 (by decide +kernel) rfl
theorem wl_997 : Cond.instanceMethod yX7_seed ∈ Wl := wl_of 997 (by decide +kernel) rfl
theorem wl_998 : Cond.selects RX7 yX7_seed yX7_seed ∈ Wl := wl_of 998 (by decide +kernel) rfl
theorem wl_999 : Cond.code yX7_seed cX7_seed 5 (some .long) ∈ Wl := wl_of 999 (by decide +kernel) rfl
theorem wl_1000 : Cond.methodLink RL 130 yX7_weeks ∈ Wl := wl_of 1000 (by decide +kernel) rfl
theorem wl_1001 : Cond.instanceMethod yX7_weeks ∈ Wl := wl_of 1001 (by decide +kernel) rfl
theorem wl_1002 : Cond.selects RX7 yX7_weeks yX7_weeks ∈ Wl := wl_of 1002 (by decide +kernel) rfl
theorem wl_1003 : Cond.code yX7_weeks cX7_weeks 5 (some .int) ∈ Wl := wl_of 1003 (by decide +kernel) rfl
theorem wl_1004 : Cond.constantLong RX7 243 (30) ∈ Wl := wl_of 1004 (by decide +kernel) rfl
theorem wl_1005 : Cond.constantLong RX7 245 (6364136223846793005) ∈ Wl := wl_of 1005 (by decide +kernel) rfl
theorem wl_1006 : Cond.constantLong RX7 247 (1442695040888963407) ∈ Wl := wl_of 1006 (by decide +kernel) rfl
theorem wl_1007 : Cond.constantLong RX7 249 (24) ∈ Wl := wl_of 1007 (by decide +kernel) rfl
theorem wl_1008 : Cond.methodLink RL 134 yX7_keep ∈ Wl := wl_of 1008 (by decide +kernel) rfl
theorem wl_1009 : Cond.instanceMethod yX7_keep ∈ Wl := wl_of 1009 (by decide +kernel) rfl
theorem wl_1010 : Cond.selects RX7 yX7_keep yX7_keep ∈ Wl := wl_of 1010 (by decide +kernel) rfl
theorem wl_1011 : Cond.code yX7_keep cX7_keep 3 (some .int) ∈ Wl := wl_of 1011 (by decide +kernel) rfl
theorem wl_1012 : Cond.methodLink RL 138 yX7_again ∈ Wl := wl_of 1012 (by decide +kernel) rfl
theorem wl_1013 : Cond.instanceMethod yX7_again ∈ Wl := wl_of 1013 (by decide +kernel) rfl
theorem wl_1014 : Cond.selects RX7 yX7_again yX7_again ∈ Wl := wl_of 1014 (by decide +kernel) rfl
theorem wl_1015 : Cond.code yX7_again cX7_again 3 (some .int) ∈ Wl := wl_of 1015 (by decide +kernel) rfl
theorem wl_1016 : Cond.constantLong RL 89 (4294967295) ∈ Wl := wl_of 1016 (by decide +kernel) rfl
theorem wu_X0 : ∀ w ∈ wsX00, w ∈ Wl := fun w h => List.mem_filter.mpr ((show ∀ w ∈ wsX00, w ∈ lw_tbl ∧ goodWord w = true by decide +kernel) w h)
theorem wu_X1 : ∀ w ∈ wsX10, w ∈ Wl := fun w h => List.mem_filter.mpr ((show ∀ w ∈ wsX10, w ∈ lw_tbl ∧ goodWord w = true by decide +kernel) w h)
theorem wu_X2 : ∀ w ∈ wsX20, w ∈ Wl := fun w h => List.mem_filter.mpr ((show ∀ w ∈ wsX20, w ∈ lw_tbl ∧ goodWord w = true by decide +kernel) w h)
theorem wu_X3 : ∀ w ∈ wsX30, w ∈ Wl := fun w h => List.mem_filter.mpr ((show ∀ w ∈ wsX30, w ∈ lw_tbl ∧ goodWord w = true by decide +kernel) w h)
theorem wu_X4 : ∀ w ∈ wsX40, w ∈ Wl := fun w h => List.mem_filter.mpr ((show ∀ w ∈ wsX40, w ∈ lw_tbl ∧ goodWord w = true by decide +kernel) w h)
theorem wu_X5 : ∀ w ∈ wsX50, w ∈ Wl := fun w h => List.mem_filter.mpr ((show ∀ w ∈ wsX50, w ∈ lw_tbl ∧ goodWord w = true by decide +kernel) w h)
theorem wu_X6 : ∀ w ∈ wsX60, w ∈ Wl := fun w h => List.mem_filter.mpr ((show ∀ w ∈ wsX60, w ∈ lw_tbl ∧ goodWord w = true by decide +kernel) w h)
theorem wu_X7 : ∀ w ∈ wsX70, w ∈ Wl := fun w h => List.mem_filter.mpr ((show ∀ w ∈ wsX70, w ∈ lw_tbl ∧ goodWord w = true by decide +kernel) w h)
end
section
-- worlds as functions of an index; the judgement gG: the machine, its heap and its frame's locals bound inside
def wF (n : Nat) (a : Nat → Nat) (g : Nat → va_E) : va_W := (List.range n).map (fun k => (a k, g k))
theorem wF_get {n : Nat} {a : Nat → Nat} {g : Nat → va_E} {k : Nat} (h : k < n) : (wF n a g)[k]? = some (a k, g k) := by simp [wF, h]
theorem wF_inv {n : Nat} {a : Nat → Nat} {g : Nat → va_E} {k : Nat} {q : Nat × va_E} (h : (wF n a g)[k]? = some q) : k < n ∧ q = (a k, g k) := by
  by_cases hk : k < n
  · rw [wF_get hk] at h; cases h; exact ⟨hk, rfl⟩
  · have : (wF n a g)[k]? = none := by simp [wF]; omega
    rw [this] at h; cases h
def ve (x y : va_E) : Prop := ∀ (D : va_G) (cl : List vw_C) (q : Nat) (H : Heap), va_at D cl (q, x) H → va_at D cl (q, y) H
theorem ve_rf (x : va_E) : ve x x := fun _ _ _ _ h => h
theorem ve_eq {x y : va_E} (h : x = y) : ve x y := fun _ _ _ _ q => h ▸ q
theorem arrV_congr {cA : ClassId} {n : Nat} {f g : Nat → Value} (h : ∀ j, j < n → f j = g j) : arrV cA n f = arrV cA n g := by
  unfold arrV
  congr 1
  congr 1
  funext j
  exact h j.val j.isLt
theorem ve_arr {cA : ClassId} {n : Nat} {f g : Nat → Int32} (h : ∀ j, j < n → f j = g j) : ve (.inl (cA, n, .inl f)) (.inl (cA, n, .inl g)) := by
  intro D cl q H hq
  have hq : H[q]? = some (vp_cell cA (n, .inl f)) := hq
  show H[q]? = some (vp_cell cA (n, .inl g))
  rw [hq, vp_cell_i, vp_cell_i, arrV_congr (g := fun j => .int (g j)) (fun j hj => by rw [h j hj])]
theorem wF_set {D : va_G} {cl : List vw_C} {n : Nat} {a : Nat → Nat} {g g' : Nat → va_E} {k : Nat} {e : va_E} {H : Heap} (hP : va_P D cl ((wF n a g).set k (a k, e)) H) (h : ∀ i, i < n → ve (if i = k then e else g i) (g' i)) : va_P D cl (wF n a g') H := by
  intro i q hq
  obtain ⟨hi, rfl⟩ := wF_inv hq
  refine h i hi D cl (a i) H ?_
  by_cases hik : i = k
  · subst hik
    rw [if_pos rfl]
    refine hP i _ ?_
    rw [List.getElem?_set_self (by simp [wF]; exact hi)]
  · rw [if_neg hik]
    refine hP i _ ?_
    rw [List.getElem?_set_ne (Ne.symm hik), wF_get hi]
theorem wF_D {A : Nat → Prop} {n : Nat} {a : Nat → Nat} {g g' : Nat → va_E} (hD : va_D A (wF n a g)) : va_D A (wF n a g') := by
  refine ⟨fun i j x y hx hy hxy => ?_, fun k q hq => ?_⟩
  · obtain ⟨hi, rfl⟩ := wF_inv hx
    obtain ⟨hj, rfl⟩ := wF_inv hy
    exact hD.1 i j _ _ (wF_get hi) (wF_get hj) hxy
  · obtain ⟨hk, rfl⟩ := wF_inv hq
    exact hD.2 k (a k, g k) (wF_get hk)
theorem wF_A {n : Nat} {a : Nat → Nat} {g g' : Nat → va_E} {sz q : Nat} (h : va_A (wF n a g) sz q) : va_A (wF n a g') sz q := by
  rcases h with ⟨k, e, h⟩ | h
  · obtain ⟨hk, e1⟩ := wF_inv h
    exact Or.inl ⟨k, g' k, by rw [wF_get hk]; cases e1; rfl⟩
  · exact Or.inr h
-- the nest words
def isNest : Cond → Bool
  | .methodLinkNest _ _ _ _ => true
  | _ => false
def Nl : List Cond := lw_tbl.filter isNest
theorem nl_of {w : Cond} (i : Nat) (h : lw_tbl[i]? = some w) (hg : isNest w = true) : w ∈ Nl := List.mem_filter.mpr ⟨List.mem_of_getElem? h, hg⟩
def gK (D : va_G) (cl : List vw_C) (tys : List (ClassId × FieldType)) (U : State) : Prop := va_K D cl tys U ∧ ∀ w ∈ Nl, va_Nw w U
theorem gK.warm {D : va_G} {cl : List vw_C} {tys : List (ClassId × FieldType)} {s U : State} (hW : s.WarmedH U.vm) (h : gK D cl tys s) : gK D cl tys U := by
  refine ⟨va_K.moved hW.alike h.1, fun w hw => ?_⟩
  have h1 := h.2 w hw
  have h2 := (List.mem_filter.mp hw).2
  cases w <;> first | exact va_Nw.warmM hW h1 | cases h2
theorem gK.blind {D : va_G} {cl : List vw_C} {tys : List (ClassId × FieldType)} {U : State} {g : JFrame} {mk : MethodId} {a : Array Value} (h : gK D cl tys U) : gK D cl tys (U.calling g mk a) := by
  refine ⟨va_K.moved (u := U) (U := U.calling g mk a) (Vm.Alike.refl U.vm) h.1, fun w hw => ?_⟩
  have h1 := h.2 w hw
  have h2 := (List.mem_filter.mp hw).2
  cases w <;> first | exact va_Nw.same (u := U) (U := U.calling g mk a) rfl rfl h1 | cases h2
def gC (p : Program) (s : State) (m : MethodId) (args : Array Value) (meth : Method) (c : Code) (cc : ByteArray) (nL : Nat) (ret : Option FieldType) (own : String) (D : va_G) (cl : List vw_C) (tys : List (ClassId × FieldType)) (A0 : Nat → Prop) (H0 : Heap) : Prop :=
  p.tables.exec = Jvm.exec ∧ c.code = cc ∧ meth.sig.returnType = ret ∧ (∀ w ∈ Wl, w.before args s = true) ∧ s.vm.findClass own = some m.cls ∧ meth.locks = false ∧ c.maxLocals = nL ∧ gK D cl tys s ∧ (∀ q : Nat, H0.size ≤ q → A0 q)
def gG (p : Program) (l : Launch) (e : Env) (R : Room) (s : State) (m : MethodId) (args : Array Value) (below : List Frame) (meth : Method) (c : Code) (nL : Nat) (D : va_G) (cl : List vw_C) (A0 : Nat → Prop) (H0 : Heap) (cells slots : Nat) (Q : State → Prop) (w : va_W) (pc : Nat) (lv : List (Nat × Value)) (st : List Value) : Prop :=
  ∀ (H : Heap) (locs : List Loc) (ls : Array Slot), va_P D cl w H → va_D A0 w → va_S A0 H0 H locs → lv_has ls nL lv → W p l e R s m args below meth c H locs cells slots Q (F0 m pc ls st)
section
variable {p : Program} {l : Launch} {e : Env} {R : Room} {s : State} {m : MethodId} {args : Array Value} {below : List Frame} {meth : Method} {c : Code} {cells slots : Nat} {Q : State → Prop} {D : va_G} {cl : List vw_C} {tys : List (ClassId × FieldType)} {A0 : Nat → Prop} {H0 : Heap} {cc : ByteArray} {nL : Nat} {ret : Option FieldType} {own : String} {w : va_W} {pc : Nat} {lv : List (Nat × Value)} {st : List Value}
theorem g_iconst (C : gC p s m args meth c cc nL ret own D cl tys A0 H0) {n : Int} {v : Int32} (hd : decode cc pc = .ok (.iconst n, 1)) (hv : Int32.ofInt n = v) (k : gG p l e R s m args below meth c nL D cl A0 H0 cells slots Q w (pc + 1) lv (.int v :: st)) : gG p l e R s m args below meth c nL D cl A0 H0 cells slots Q w pc lv st :=
  fun H locs ls hP hD hS hl => lv_iconst C.1 C.2.1 hd hv (k H locs ls hP hD hS hl)
theorem g_bipush (C : gC p s m args meth c cc nL ret own D cl tys A0 H0) {n : Int} {v : Int32} (hd : decode cc pc = .ok (.bipush n, 2)) (hv : (Int8.ofInt n).toInt32 = v) (k : gG p l e R s m args below meth c nL D cl A0 H0 cells slots Q w (pc + 2) lv (.int v :: st)) : gG p l e R s m args below meth c nL D cl A0 H0 cells slots Q w pc lv (st) :=
  fun H locs ls hP hD hS hl => lv_bipush C.1 C.2.1 hd hv (k H locs ls hP hD hS hl)
theorem g_sipush (C : gC p s m args meth c cc nL ret own D cl tys A0 H0) {n : Int} {v : Int32} (hd : decode cc pc = .ok (.sipush n, 3)) (hv : (Int16.ofInt n).toInt32 = v) (k : gG p l e R s m args below meth c nL D cl A0 H0 cells slots Q w (pc + 3) lv (.int v :: st)) : gG p l e R s m args below meth c nL D cl A0 H0 cells slots Q w pc lv (st) :=
  fun H locs ls hP hD hS hl => lv_sipush C.1 C.2.1 hd hv (k H locs ls hP hD hS hl)
theorem g_lconst (C : gC p s m args meth c cc nL ret own D cl tys A0 H0) {n : Fin 2} {v : Int64} (hd : decode cc pc = .ok (.lconst n, 1)) (hv : Int64.ofNat (n : Nat) = v) (k : gG p l e R s m args below meth c nL D cl A0 H0 cells slots Q w (pc + 1) lv (.long v :: st)) : gG p l e R s m args below meth c nL D cl A0 H0 cells slots Q w pc lv (st) :=
  fun H locs ls hP hD hS hl => lv_lconst C.1 C.2.1 hd hv (k H locs ls hP hD hS hl)
theorem g_iload_n (C : gC p s m args meth c cc nL ret own D cl tys A0 H0) {k4 : Fin 4} {i : Nat} {x : Int32} (hd : decode cc pc = .ok (.iload_n k4, 1)) (j : Nat) (hi : (k4 : Nat) = i) (hj : lv[j]? = some (i, .int x)) (k : gG p l e R s m args below meth c nL D cl A0 H0 cells slots Q w (pc + 1) lv (.int x :: st)) : gG p l e R s m args below meth c nL D cl A0 H0 cells slots Q w pc lv (st) :=
  fun H locs ls hP hD hS hl => lv_iload_n C.1 C.2.1 hd hi (lv_at hl j hj) (k H locs ls hP hD hS hl)
theorem g_iload (C : gC p s m args meth c cc nL ret own D cl tys A0 H0) {i : Nat} {x : Int32} (hd : decode cc pc = .ok (.iload i, 2)) (j : Nat) (hj : lv[j]? = some (i, .int x)) (k : gG p l e R s m args below meth c nL D cl A0 H0 cells slots Q w (pc + 2) lv (.int x :: st)) : gG p l e R s m args below meth c nL D cl A0 H0 cells slots Q w pc lv (st) :=
  fun H locs ls hP hD hS hl => lv_iload C.1 C.2.1 hd (lv_at hl j hj) (k H locs ls hP hD hS hl)
theorem g_lload_n (C : gC p s m args meth c cc nL ret own D cl tys A0 H0) {k4 : Fin 4} {i : Nat} {x : Int64} (hd : decode cc pc = .ok (.lload_n k4, 1)) (j : Nat) (hi : (k4 : Nat) = i) (hj : lv[j]? = some (i, .long x)) (k : gG p l e R s m args below meth c nL D cl A0 H0 cells slots Q w (pc + 1) lv (.long x :: st)) : gG p l e R s m args below meth c nL D cl A0 H0 cells slots Q w pc lv (st) :=
  fun H locs ls hP hD hS hl => lv_lload_n C.1 C.2.1 hd hi (lv_at hl j hj) (k H locs ls hP hD hS hl)
theorem g_lload (C : gC p s m args meth c cc nL ret own D cl tys A0 H0) {i : Nat} {x : Int64} (hd : decode cc pc = .ok (.lload i, 2)) (j : Nat) (hj : lv[j]? = some (i, .long x)) (k : gG p l e R s m args below meth c nL D cl A0 H0 cells slots Q w (pc + 2) lv (.long x :: st)) : gG p l e R s m args below meth c nL D cl A0 H0 cells slots Q w pc lv (st) :=
  fun H locs ls hP hD hS hl => lv_lload C.1 C.2.1 hd (lv_at hl j hj) (k H locs ls hP hD hS hl)
theorem g_aload_n (C : gC p s m args meth c cc nL ret own D cl tys A0 H0) {k4 : Fin 4} {i : Nat} {x : Nat} (hd : decode cc pc = .ok (.aload_n k4, 1)) (j : Nat) (hi : (k4 : Nat) = i) (hj : lv[j]? = some (i, .ref x)) (k : gG p l e R s m args below meth c nL D cl A0 H0 cells slots Q w (pc + 1) lv (.ref x :: st)) : gG p l e R s m args below meth c nL D cl A0 H0 cells slots Q w pc lv (st) :=
  fun H locs ls hP hD hS hl => lv_aload_n C.1 C.2.1 hd hi (lv_at hl j hj) (k H locs ls hP hD hS hl)
theorem g_aload (C : gC p s m args meth c cc nL ret own D cl tys A0 H0) {i : Nat} {x : Nat} (hd : decode cc pc = .ok (.aload i, 2)) (j : Nat) (hj : lv[j]? = some (i, .ref x)) (k : gG p l e R s m args below meth c nL D cl A0 H0 cells slots Q w (pc + 2) lv (.ref x :: st)) : gG p l e R s m args below meth c nL D cl A0 H0 cells slots Q w pc lv (st) :=
  fun H locs ls hP hD hS hl => lv_aload C.1 C.2.1 hd (lv_at hl j hj) (k H locs ls hP hD hS hl)
theorem g_istore_n (C : gC p s m args meth c cc nL ret own D cl tys A0 H0) {k4 : Fin 4} {i : Nat} {x : Int32} {lv2 : List (Nat × Value)} (hd : decode cc pc = .ok (.istore_n k4, 1)) (hi : (k4 : Nat) = i) (hn : i < nL) (he : (i, Value.int x) :: lv.filter (fun q => !(q.1 == i) && !(q.1 + 1 == i && q.2.category == 2)) = lv2) (k : gG p l e R s m args below meth c nL D cl A0 H0 cells slots Q w (pc + 1) lv2 st) : gG p l e R s m args below meth c nL D cl A0 H0 cells slots Q w pc lv (Value.int x :: st) :=
  fun H locs ls hP hD hS hl => lv_istore_n C.1 C.2.1 hd hi hl hn he (fun ls2 hl2 => k H locs ls2 hP hD hS hl2)
theorem g_istore (C : gC p s m args meth c cc nL ret own D cl tys A0 H0) {i : Nat} {x : Int32} {lv2 : List (Nat × Value)} (hd : decode cc pc = .ok (.istore i, 2))  (hn : i < nL) (he : (i, Value.int x) :: lv.filter (fun q => !(q.1 == i) && !(q.1 + 1 == i && q.2.category == 2)) = lv2) (k : gG p l e R s m args below meth c nL D cl A0 H0 cells slots Q w (pc + 2) lv2 st) : gG p l e R s m args below meth c nL D cl A0 H0 cells slots Q w pc lv (Value.int x :: st) :=
  fun H locs ls hP hD hS hl => lv_istore C.1 C.2.1 hd  hl hn he (fun ls2 hl2 => k H locs ls2 hP hD hS hl2)
theorem g_lstore_n (C : gC p s m args meth c cc nL ret own D cl tys A0 H0) {k4 : Fin 4} {i : Nat} {x : Int64} {lv2 : List (Nat × Value)} (hd : decode cc pc = .ok (.lstore_n k4, 1)) (hi : (k4 : Nat) = i) (hn : i + 1 < nL) (he : (i, Value.long x) :: lv.filter (fun q => !(q.1 == i) && (!(q.1 == i + 1) && !(q.1 + 1 == i && q.2.category == 2))) = lv2) (k : gG p l e R s m args below meth c nL D cl A0 H0 cells slots Q w (pc + 1) lv2 st) : gG p l e R s m args below meth c nL D cl A0 H0 cells slots Q w pc lv (Value.long x :: st) :=
  fun H locs ls hP hD hS hl => lv_lstore_n C.1 C.2.1 hd hi hl hn he (fun ls2 hl2 => k H locs ls2 hP hD hS hl2)
theorem g_lstore (C : gC p s m args meth c cc nL ret own D cl tys A0 H0) {i : Nat} {x : Int64} {lv2 : List (Nat × Value)} (hd : decode cc pc = .ok (.lstore i, 2))  (hn : i + 1 < nL) (he : (i, Value.long x) :: lv.filter (fun q => !(q.1 == i) && (!(q.1 == i + 1) && !(q.1 + 1 == i && q.2.category == 2))) = lv2) (k : gG p l e R s m args below meth c nL D cl A0 H0 cells slots Q w (pc + 2) lv2 st) : gG p l e R s m args below meth c nL D cl A0 H0 cells slots Q w pc lv (Value.long x :: st) :=
  fun H locs ls hP hD hS hl => lv_lstore C.1 C.2.1 hd  hl hn he (fun ls2 hl2 => k H locs ls2 hP hD hS hl2)
theorem g_astore_n (C : gC p s m args meth c cc nL ret own D cl tys A0 H0) {k4 : Fin 4} {i : Nat} {x : Nat} {lv2 : List (Nat × Value)} (hd : decode cc pc = .ok (.astore_n k4, 1)) (hi : (k4 : Nat) = i) (hn : i < nL) (he : (i, Value.ref x) :: lv.filter (fun q => !(q.1 == i) && !(q.1 + 1 == i && q.2.category == 2)) = lv2) (k : gG p l e R s m args below meth c nL D cl A0 H0 cells slots Q w (pc + 1) lv2 st) : gG p l e R s m args below meth c nL D cl A0 H0 cells slots Q w pc lv (Value.ref x :: st) :=
  fun H locs ls hP hD hS hl => lv_astore_n C.1 C.2.1 hd hi hl hn he (fun ls2 hl2 => k H locs ls2 hP hD hS hl2)
theorem g_astore (C : gC p s m args meth c cc nL ret own D cl tys A0 H0) {i : Nat} {x : Nat} {lv2 : List (Nat × Value)} (hd : decode cc pc = .ok (.astore i, 2))  (hn : i < nL) (he : (i, Value.ref x) :: lv.filter (fun q => !(q.1 == i) && !(q.1 + 1 == i && q.2.category == 2)) = lv2) (k : gG p l e R s m args below meth c nL D cl A0 H0 cells slots Q w (pc + 2) lv2 st) : gG p l e R s m args below meth c nL D cl A0 H0 cells slots Q w pc lv (Value.ref x :: st) :=
  fun H locs ls hP hD hS hl => lv_astore C.1 C.2.1 hd  hl hn he (fun ls2 hl2 => k H locs ls2 hP hD hS hl2)
theorem g_iinc (C : gC p s m args meth c cc nL ret own D cl tys A0 H0) {i : Nat} {n : Int} {x v : Int32} {lv2 : List (Nat × Value)} (hd : decode cc pc = .ok (.iinc i n, 3)) (j : Nat) (hj : lv[j]? = some (i, .int x)) (hv : x + Int32.ofInt n = v) (hn : i < nL) (he : (i, Value.int v) :: lv.filter (fun q => !(q.1 == i) && !(q.1 + 1 == i && q.2.category == 2)) = lv2) (k : gG p l e R s m args below meth c nL D cl A0 H0 cells slots Q w (pc + 3) lv2 st) : gG p l e R s m args below meth c nL D cl A0 H0 cells slots Q w pc lv st :=
  fun H locs ls hP hD hS hl => lv_iinc C.1 C.2.1 hd hl hj hv hn he (fun ls2 hl2 => k H locs ls2 hP hD hS hl2)
theorem g_iadd (C : gC p s m args meth c cc nL ret own D cl tys A0 H0) {x y : Int32} (hd : decode cc pc = .ok (.iadd, 1))  (k : gG p l e R s m args below meth c nL D cl A0 H0 cells slots Q w (pc + 1) lv (.int (x + y) :: st)) : gG p l e R s m args below meth c nL D cl A0 H0 cells slots Q w pc lv (.int y :: .int x :: st) :=
  fun H locs ls hP hD hS hl => lv_iadd C.1 C.2.1 hd (k H locs ls hP hD hS hl)
theorem g_isub (C : gC p s m args meth c cc nL ret own D cl tys A0 H0) {x y : Int32} (hd : decode cc pc = .ok (.isub, 1))  (k : gG p l e R s m args below meth c nL D cl A0 H0 cells slots Q w (pc + 1) lv (.int (x - y) :: st)) : gG p l e R s m args below meth c nL D cl A0 H0 cells slots Q w pc lv (.int y :: .int x :: st) :=
  fun H locs ls hP hD hS hl => lv_isub C.1 C.2.1 hd (k H locs ls hP hD hS hl)
theorem g_imul (C : gC p s m args meth c cc nL ret own D cl tys A0 H0) {x y : Int32} (hd : decode cc pc = .ok (.imul, 1))  (k : gG p l e R s m args below meth c nL D cl A0 H0 cells slots Q w (pc + 1) lv (.int (x * y) :: st)) : gG p l e R s m args below meth c nL D cl A0 H0 cells slots Q w pc lv (.int y :: .int x :: st) :=
  fun H locs ls hP hD hS hl => lv_imul C.1 C.2.1 hd (k H locs ls hP hD hS hl)
theorem g_iand (C : gC p s m args meth c cc nL ret own D cl tys A0 H0) {x y : Int32} (hd : decode cc pc = .ok (.iand, 1))  (k : gG p l e R s m args below meth c nL D cl A0 H0 cells slots Q w (pc + 1) lv (.int (x &&& y) :: st)) : gG p l e R s m args below meth c nL D cl A0 H0 cells slots Q w pc lv (.int y :: .int x :: st) :=
  fun H locs ls hP hD hS hl => lv_iand C.1 C.2.1 hd (k H locs ls hP hD hS hl)
theorem g_ior (C : gC p s m args meth c cc nL ret own D cl tys A0 H0) {x y : Int32} (hd : decode cc pc = .ok (.ior, 1))  (k : gG p l e R s m args below meth c nL D cl A0 H0 cells slots Q w (pc + 1) lv (.int (x ||| y) :: st)) : gG p l e R s m args below meth c nL D cl A0 H0 cells slots Q w pc lv (.int y :: .int x :: st) :=
  fun H locs ls hP hD hS hl => lv_ior C.1 C.2.1 hd (k H locs ls hP hD hS hl)
theorem g_ixor (C : gC p s m args meth c cc nL ret own D cl tys A0 H0) {x y : Int32} (hd : decode cc pc = .ok (.ixor, 1))  (k : gG p l e R s m args below meth c nL D cl A0 H0 cells slots Q w (pc + 1) lv (.int (x ^^^ y) :: st)) : gG p l e R s m args below meth c nL D cl A0 H0 cells slots Q w pc lv (.int y :: .int x :: st) :=
  fun H locs ls hP hD hS hl => lv_ixor C.1 C.2.1 hd (k H locs ls hP hD hS hl)
theorem g_ladd (C : gC p s m args meth c cc nL ret own D cl tys A0 H0) {x y : Int64} (hd : decode cc pc = .ok (.ladd, 1))  (k : gG p l e R s m args below meth c nL D cl A0 H0 cells slots Q w (pc + 1) lv (.long (x + y) :: st)) : gG p l e R s m args below meth c nL D cl A0 H0 cells slots Q w pc lv (.long y :: .long x :: st) :=
  fun H locs ls hP hD hS hl => lv_ladd C.1 C.2.1 hd (k H locs ls hP hD hS hl)
theorem g_lsub (C : gC p s m args meth c cc nL ret own D cl tys A0 H0) {x y : Int64} (hd : decode cc pc = .ok (.lsub, 1))  (k : gG p l e R s m args below meth c nL D cl A0 H0 cells slots Q w (pc + 1) lv (.long (x - y) :: st)) : gG p l e R s m args below meth c nL D cl A0 H0 cells slots Q w pc lv (.long y :: .long x :: st) :=
  fun H locs ls hP hD hS hl => lv_lsub C.1 C.2.1 hd (k H locs ls hP hD hS hl)
theorem g_lmul (C : gC p s m args meth c cc nL ret own D cl tys A0 H0) {x y : Int64} (hd : decode cc pc = .ok (.lmul, 1))  (k : gG p l e R s m args below meth c nL D cl A0 H0 cells slots Q w (pc + 1) lv (.long (x * y) :: st)) : gG p l e R s m args below meth c nL D cl A0 H0 cells slots Q w pc lv (.long y :: .long x :: st) :=
  fun H locs ls hP hD hS hl => lv_lmul C.1 C.2.1 hd (k H locs ls hP hD hS hl)
theorem g_land (C : gC p s m args meth c cc nL ret own D cl tys A0 H0) {x y : Int64} (hd : decode cc pc = .ok (.land, 1))  (k : gG p l e R s m args below meth c nL D cl A0 H0 cells slots Q w (pc + 1) lv (.long (x &&& y) :: st)) : gG p l e R s m args below meth c nL D cl A0 H0 cells slots Q w pc lv (.long y :: .long x :: st) :=
  fun H locs ls hP hD hS hl => lv_land C.1 C.2.1 hd (k H locs ls hP hD hS hl)
theorem g_lor (C : gC p s m args meth c cc nL ret own D cl tys A0 H0) {x y : Int64} (hd : decode cc pc = .ok (.lor, 1))  (k : gG p l e R s m args below meth c nL D cl A0 H0 cells slots Q w (pc + 1) lv (.long (x ||| y) :: st)) : gG p l e R s m args below meth c nL D cl A0 H0 cells slots Q w pc lv (.long y :: .long x :: st) :=
  fun H locs ls hP hD hS hl => lv_lor C.1 C.2.1 hd (k H locs ls hP hD hS hl)
theorem g_idiv (C : gC p s m args meth c cc nL ret own D cl tys A0 H0) {x y : Int32} (hd : decode cc pc = .ok (.idiv, 1)) (hne : ¬ y = 0) (k : gG p l e R s m args below meth c nL D cl A0 H0 cells slots Q w (pc + 1) lv (.int (x / y) :: st)) : gG p l e R s m args below meth c nL D cl A0 H0 cells slots Q w pc lv (.int y :: .int x :: st) :=
  fun H locs ls hP hD hS hl => lv_idiv C.1 C.2.1 hd hne (k H locs ls hP hD hS hl)
theorem g_irem (C : gC p s m args meth c cc nL ret own D cl tys A0 H0) {x y : Int32} (hd : decode cc pc = .ok (.irem, 1)) (hne : ¬ y = 0) (k : gG p l e R s m args below meth c nL D cl A0 H0 cells slots Q w (pc + 1) lv (.int (x - x / y * y) :: st)) : gG p l e R s m args below meth c nL D cl A0 H0 cells slots Q w pc lv (.int y :: .int x :: st) :=
  fun H locs ls hP hD hS hl => lv_irem C.1 C.2.1 hd hne (k H locs ls hP hD hS hl)
theorem g_ldiv (C : gC p s m args meth c cc nL ret own D cl tys A0 H0) {x y : Int64} (hd : decode cc pc = .ok (.ldiv, 1)) (hne : ¬ y = 0) (k : gG p l e R s m args below meth c nL D cl A0 H0 cells slots Q w (pc + 1) lv (.long (x / y) :: st)) : gG p l e R s m args below meth c nL D cl A0 H0 cells slots Q w pc lv (.long y :: .long x :: st) :=
  fun H locs ls hP hD hS hl => lv_ldiv C.1 C.2.1 hd hne (k H locs ls hP hD hS hl)
theorem g_lrem (C : gC p s m args meth c cc nL ret own D cl tys A0 H0) {x y : Int64} (hd : decode cc pc = .ok (.lrem, 1)) (hne : ¬ y = 0) (k : gG p l e R s m args below meth c nL D cl A0 H0 cells slots Q w (pc + 1) lv (.long (x - x / y * y) :: st)) : gG p l e R s m args below meth c nL D cl A0 H0 cells slots Q w pc lv (.long y :: .long x :: st) :=
  fun H locs ls hP hD hS hl => lv_lrem C.1 C.2.1 hd hne (k H locs ls hP hD hS hl)
theorem g_ineg (C : gC p s m args meth c cc nL ret own D cl tys A0 H0) {x : Int32} (hd : decode cc pc = .ok (.ineg, 1))  (k : gG p l e R s m args below meth c nL D cl A0 H0 cells slots Q w (pc + 1) lv (.int (-x) :: st)) : gG p l e R s m args below meth c nL D cl A0 H0 cells slots Q w pc lv (.int x :: st) :=
  fun H locs ls hP hD hS hl => lv_ineg C.1 C.2.1 hd (k H locs ls hP hD hS hl)
theorem g_ishl (C : gC p s m args meth c cc nL ret own D cl tys A0 H0) {x y : Int32} (hd : decode cc pc = .ok (.ishl, 1))  (k : gG p l e R s m args below meth c nL D cl A0 H0 cells slots Q w (pc + 1) lv (.int (x <<< (y &&& 31)) :: st)) : gG p l e R s m args below meth c nL D cl A0 H0 cells slots Q w pc lv (.int y :: .int x :: st) :=
  fun H locs ls hP hD hS hl => lv_ishl C.1 C.2.1 hd (k H locs ls hP hD hS hl)
theorem g_ishr (C : gC p s m args meth c cc nL ret own D cl tys A0 H0) {x y : Int32} (hd : decode cc pc = .ok (.ishr, 1))  (k : gG p l e R s m args below meth c nL D cl A0 H0 cells slots Q w (pc + 1) lv (.int (x >>> (y &&& 31)) :: st)) : gG p l e R s m args below meth c nL D cl A0 H0 cells slots Q w pc lv (.int y :: .int x :: st) :=
  fun H locs ls hP hD hS hl => lv_ishr C.1 C.2.1 hd (k H locs ls hP hD hS hl)
theorem g_iushr (C : gC p s m args meth c cc nL ret own D cl tys A0 H0) {x y v : Int32} (hd : decode cc pc = .ok (.iushr, 1)) (hv : (x.toUInt32 >>> (y.toUInt32 &&& Int32.toUInt32 31)).toInt32 = v) (k : gG p l e R s m args below meth c nL D cl A0 H0 cells slots Q w (pc + 1) lv (.int v :: st)) : gG p l e R s m args below meth c nL D cl A0 H0 cells slots Q w pc lv (.int y :: .int x :: st) :=
  fun H locs ls hP hD hS hl => lv_iushr C.1 C.2.1 hd hv (k H locs ls hP hD hS hl)
theorem g_lushr (C : gC p s m args meth c cc nL ret own D cl tys A0 H0) {x v : Int64} {y : Int32} (hd : decode cc pc = .ok (.lushr, 1)) (hv : (x.toUInt64 >>> (y.toInt64.toUInt64 &&& Int64.toUInt64 63)).toInt64 = v) (k : gG p l e R s m args below meth c nL D cl A0 H0 cells slots Q w (pc + 1) lv (.long v :: st)) : gG p l e R s m args below meth c nL D cl A0 H0 cells slots Q w pc lv (.int y :: .long x :: st) :=
  fun H locs ls hP hD hS hl => lv_lushr C.1 C.2.1 hd hv (k H locs ls hP hD hS hl)
theorem g_lshl (C : gC p s m args meth c cc nL ret own D cl tys A0 H0) {x v : Int64} {y : Int32} (hd : decode cc pc = .ok (.lshl, 1)) (hv : x <<< (y.toInt64 &&& 63) = v) (k : gG p l e R s m args below meth c nL D cl A0 H0 cells slots Q w (pc + 1) lv (.long v :: st)) : gG p l e R s m args below meth c nL D cl A0 H0 cells slots Q w pc lv (.int y :: .long x :: st) :=
  fun H locs ls hP hD hS hl => lv_lshl C.1 C.2.1 hd hv (k H locs ls hP hD hS hl)
theorem g_i2l (C : gC p s m args meth c cc nL ret own D cl tys A0 H0) {x : Int32} {v : Int64} (hd : decode cc pc = .ok (.i2l, 1)) (hv : x.toInt64 = v) (k : gG p l e R s m args below meth c nL D cl A0 H0 cells slots Q w (pc + 1) lv (.long v :: st)) : gG p l e R s m args below meth c nL D cl A0 H0 cells slots Q w pc lv (.int x :: st) :=
  fun H locs ls hP hD hS hl => lv_i2l C.1 C.2.1 hd hv (k H locs ls hP hD hS hl)
theorem g_l2i (C : gC p s m args meth c cc nL ret own D cl tys A0 H0) {x : Int64} {v : Int32} (hd : decode cc pc = .ok (.l2i, 1)) (hv : x.toInt32 = v) (k : gG p l e R s m args below meth c nL D cl A0 H0 cells slots Q w (pc + 1) lv (.int v :: st)) : gG p l e R s m args below meth c nL D cl A0 H0 cells slots Q w pc lv (.long x :: st) :=
  fun H locs ls hP hD hS hl => lv_l2i C.1 C.2.1 hd hv (k H locs ls hP hD hS hl)
theorem g_lcmp (C : gC p s m args meth c cc nL ret own D cl tys A0 H0) {x y : Int64} (hd : decode cc pc = .ok (.lcmp, 1)) (k : gG p l e R s m args below meth c nL D cl A0 H0 cells slots Q w (pc + 1) lv (.int (lg_cmp x y) :: st)) : gG p l e R s m args below meth c nL D cl A0 H0 cells slots Q w pc lv (.long y :: .long x :: st) :=
  fun H locs ls hP hD hS hl => W.lcmp C.1 C.2.1 hd (k H locs ls hP hD hS hl)
theorem g_dup (C : gC p s m args meth c cc nL ret own D cl tys A0 H0) {va : Value} (hd : decode cc pc = .ok (.dup, 1)) (ha : va.category = 1) (k : gG p l e R s m args below meth c nL D cl A0 H0 cells slots Q w (pc + 1) lv (va :: va :: st)) : gG p l e R s m args below meth c nL D cl A0 H0 cells slots Q w pc lv (va :: st) :=
  fun H locs ls hP hD hS hl => lv_dup C.1 C.2.1 hd ha (k H locs ls hP hD hS hl)
theorem g_pop (C : gC p s m args meth c cc nL ret own D cl tys A0 H0) {va : Value} (hd : decode cc pc = .ok (.pop, 1)) (ha : va.category = 1) (k : gG p l e R s m args below meth c nL D cl A0 H0 cells slots Q w (pc + 1) lv (st)) : gG p l e R s m args below meth c nL D cl A0 H0 cells slots Q w pc lv (va :: st) :=
  fun H locs ls hP hD hS hl => lv_pop C.1 C.2.1 hd ha (k H locs ls hP hD hS hl)
theorem g_dup_x1 (C : gC p s m args meth c cc nL ret own D cl tys A0 H0) {va vb : Value} (hd : decode cc pc = .ok (.dup_x1, 1)) (ha : va.category = 1) (hb : vb.category = 1) (k : gG p l e R s m args below meth c nL D cl A0 H0 cells slots Q w (pc + 1) lv (va :: vb :: va :: st)) : gG p l e R s m args below meth c nL D cl A0 H0 cells slots Q w pc lv (va :: vb :: st) :=
  fun H locs ls hP hD hS hl => lv_dup_x1 C.1 C.2.1 hd ha hb (k H locs ls hP hD hS hl)
theorem g_dup_x2 (C : gC p s m args meth c cc nL ret own D cl tys A0 H0) {va vb vd : Value} (hd : decode cc pc = .ok (.dup_x2, 1)) (ha : va.category = 1) (hb : vb.category = 1) (hc : vd.category = 1) (k : gG p l e R s m args below meth c nL D cl A0 H0 cells slots Q w (pc + 1) lv (va :: vb :: vd :: va :: st)) : gG p l e R s m args below meth c nL D cl A0 H0 cells slots Q w pc lv (va :: vb :: vd :: st) :=
  fun H locs ls hP hD hS hl => lv_dup_x2 C.1 C.2.1 hd ha hb hc (k H locs ls hP hD hS hl)
theorem g_dup2_11 (C : gC p s m args meth c cc nL ret own D cl tys A0 H0) {va vb : Value} (hd : decode cc pc = .ok (.dup2, 1)) (ha : va.category = 1) (hb : vb.category = 1) (k : gG p l e R s m args below meth c nL D cl A0 H0 cells slots Q w (pc + 1) lv (va :: vb :: va :: vb :: st)) : gG p l e R s m args below meth c nL D cl A0 H0 cells slots Q w pc lv (va :: vb :: st) :=
  fun H locs ls hP hD hS hl => lv_dup2_11 C.1 C.2.1 hd ha hb (k H locs ls hP hD hS hl)
theorem g_goto (C : gC p s m args meth c cc nL ret own D cl tys A0 H0) {off : Int} {tgt : Nat} (hd : decode cc pc = .ok (.goto off, 3)) (ht : (pc : Int) + off = (tgt : Int)) (k : gG p l e R s m args below meth c nL D cl A0 H0 cells slots Q w tgt lv st) : gG p l e R s m args below meth c nL D cl A0 H0 cells slots Q w pc lv st :=
  fun H locs ls hP hD hS hl => lv_goto C.1 C.2.1 hd ht (k H locs ls hP hD hS hl)
theorem g_if_eq (C : gC p s m args meth c cc nL ret own D cl tys A0 H0) {x : Int32} {off : Int} {tgt : Nat} (hd : decode cc pc = .ok (.ifCond .eq off, 3)) (ht : (pc : Int) + off = (tgt : Int)) (kt : x = 0 → gG p l e R s m args below meth c nL D cl A0 H0 cells slots Q w tgt lv st) (kf : ¬ (x = 0) → gG p l e R s m args below meth c nL D cl A0 H0 cells slots Q w (pc + 3) lv st) : gG p l e R s m args below meth c nL D cl A0 H0 cells slots Q w pc lv (.int x :: st) :=
  fun H locs ls hP hD hS hl => lv_if_eq C.1 C.2.1 hd ht (fun h => kt h H locs ls hP hD hS hl) (fun h => kf h H locs ls hP hD hS hl)
theorem g_icmp_eq (C : gC p s m args meth c cc nL ret own D cl tys A0 H0) {x y : Int32} {off : Int} {tgt : Nat} (hd : decode cc pc = .ok (.if_icmp .eq off, 3)) (ht : (pc : Int) + off = (tgt : Int)) (kt : x = y → gG p l e R s m args below meth c nL D cl A0 H0 cells slots Q w tgt lv st) (kf : ¬ (x = y) → gG p l e R s m args below meth c nL D cl A0 H0 cells slots Q w (pc + 3) lv st) : gG p l e R s m args below meth c nL D cl A0 H0 cells slots Q w pc lv (.int y :: .int x :: st) :=
  fun H locs ls hP hD hS hl => lv_icmp_eq C.1 C.2.1 hd ht (fun h => kt h H locs ls hP hD hS hl) (fun h => kf h H locs ls hP hD hS hl)
theorem g_if_ne (C : gC p s m args meth c cc nL ret own D cl tys A0 H0) {x : Int32} {off : Int} {tgt : Nat} (hd : decode cc pc = .ok (.ifCond .ne off, 3)) (ht : (pc : Int) + off = (tgt : Int)) (kt : ¬ x = 0 → gG p l e R s m args below meth c nL D cl A0 H0 cells slots Q w tgt lv st) (kf : x = 0 → gG p l e R s m args below meth c nL D cl A0 H0 cells slots Q w (pc + 3) lv st) : gG p l e R s m args below meth c nL D cl A0 H0 cells slots Q w pc lv (.int x :: st) :=
  fun H locs ls hP hD hS hl => lv_if_ne C.1 C.2.1 hd ht (fun h => kt h H locs ls hP hD hS hl) (fun h => kf h H locs ls hP hD hS hl)
theorem g_icmp_ne (C : gC p s m args meth c cc nL ret own D cl tys A0 H0) {x y : Int32} {off : Int} {tgt : Nat} (hd : decode cc pc = .ok (.if_icmp .ne off, 3)) (ht : (pc : Int) + off = (tgt : Int)) (kt : ¬ x = y → gG p l e R s m args below meth c nL D cl A0 H0 cells slots Q w tgt lv st) (kf : x = y → gG p l e R s m args below meth c nL D cl A0 H0 cells slots Q w (pc + 3) lv st) : gG p l e R s m args below meth c nL D cl A0 H0 cells slots Q w pc lv (.int y :: .int x :: st) :=
  fun H locs ls hP hD hS hl => lv_icmp_ne C.1 C.2.1 hd ht (fun h => kt h H locs ls hP hD hS hl) (fun h => kf h H locs ls hP hD hS hl)
theorem g_if_lt (C : gC p s m args meth c cc nL ret own D cl tys A0 H0) {x : Int32} {off : Int} {tgt : Nat} (hd : decode cc pc = .ok (.ifCond .lt off, 3)) (ht : (pc : Int) + off = (tgt : Int)) (kt : x < 0 → gG p l e R s m args below meth c nL D cl A0 H0 cells slots Q w tgt lv st) (kf : ¬ (x < 0) → gG p l e R s m args below meth c nL D cl A0 H0 cells slots Q w (pc + 3) lv st) : gG p l e R s m args below meth c nL D cl A0 H0 cells slots Q w pc lv (.int x :: st) :=
  fun H locs ls hP hD hS hl => lv_if_lt C.1 C.2.1 hd ht (fun h => kt h H locs ls hP hD hS hl) (fun h => kf h H locs ls hP hD hS hl)
theorem g_icmp_lt (C : gC p s m args meth c cc nL ret own D cl tys A0 H0) {x y : Int32} {off : Int} {tgt : Nat} (hd : decode cc pc = .ok (.if_icmp .lt off, 3)) (ht : (pc : Int) + off = (tgt : Int)) (kt : x < y → gG p l e R s m args below meth c nL D cl A0 H0 cells slots Q w tgt lv st) (kf : ¬ (x < y) → gG p l e R s m args below meth c nL D cl A0 H0 cells slots Q w (pc + 3) lv st) : gG p l e R s m args below meth c nL D cl A0 H0 cells slots Q w pc lv (.int y :: .int x :: st) :=
  fun H locs ls hP hD hS hl => lv_icmp_lt C.1 C.2.1 hd ht (fun h => kt h H locs ls hP hD hS hl) (fun h => kf h H locs ls hP hD hS hl)
theorem g_if_ge (C : gC p s m args meth c cc nL ret own D cl tys A0 H0) {x : Int32} {off : Int} {tgt : Nat} (hd : decode cc pc = .ok (.ifCond .ge off, 3)) (ht : (pc : Int) + off = (tgt : Int)) (kt : 0 ≤ x → gG p l e R s m args below meth c nL D cl A0 H0 cells slots Q w tgt lv st) (kf : ¬ (0 ≤ x) → gG p l e R s m args below meth c nL D cl A0 H0 cells slots Q w (pc + 3) lv st) : gG p l e R s m args below meth c nL D cl A0 H0 cells slots Q w pc lv (.int x :: st) :=
  fun H locs ls hP hD hS hl => lv_if_ge C.1 C.2.1 hd ht (fun h => kt h H locs ls hP hD hS hl) (fun h => kf h H locs ls hP hD hS hl)
theorem g_icmp_ge (C : gC p s m args meth c cc nL ret own D cl tys A0 H0) {x y : Int32} {off : Int} {tgt : Nat} (hd : decode cc pc = .ok (.if_icmp .ge off, 3)) (ht : (pc : Int) + off = (tgt : Int)) (kt : y ≤ x → gG p l e R s m args below meth c nL D cl A0 H0 cells slots Q w tgt lv st) (kf : ¬ (y ≤ x) → gG p l e R s m args below meth c nL D cl A0 H0 cells slots Q w (pc + 3) lv st) : gG p l e R s m args below meth c nL D cl A0 H0 cells slots Q w pc lv (.int y :: .int x :: st) :=
  fun H locs ls hP hD hS hl => lv_icmp_ge C.1 C.2.1 hd ht (fun h => kt h H locs ls hP hD hS hl) (fun h => kf h H locs ls hP hD hS hl)
theorem g_if_gt (C : gC p s m args meth c cc nL ret own D cl tys A0 H0) {x : Int32} {off : Int} {tgt : Nat} (hd : decode cc pc = .ok (.ifCond .gt off, 3)) (ht : (pc : Int) + off = (tgt : Int)) (kt : 0 < x → gG p l e R s m args below meth c nL D cl A0 H0 cells slots Q w tgt lv st) (kf : ¬ (0 < x) → gG p l e R s m args below meth c nL D cl A0 H0 cells slots Q w (pc + 3) lv st) : gG p l e R s m args below meth c nL D cl A0 H0 cells slots Q w pc lv (.int x :: st) :=
  fun H locs ls hP hD hS hl => lv_if_gt C.1 C.2.1 hd ht (fun h => kt h H locs ls hP hD hS hl) (fun h => kf h H locs ls hP hD hS hl)
theorem g_icmp_gt (C : gC p s m args meth c cc nL ret own D cl tys A0 H0) {x y : Int32} {off : Int} {tgt : Nat} (hd : decode cc pc = .ok (.if_icmp .gt off, 3)) (ht : (pc : Int) + off = (tgt : Int)) (kt : y < x → gG p l e R s m args below meth c nL D cl A0 H0 cells slots Q w tgt lv st) (kf : ¬ (y < x) → gG p l e R s m args below meth c nL D cl A0 H0 cells slots Q w (pc + 3) lv st) : gG p l e R s m args below meth c nL D cl A0 H0 cells slots Q w pc lv (.int y :: .int x :: st) :=
  fun H locs ls hP hD hS hl => lv_icmp_gt C.1 C.2.1 hd ht (fun h => kt h H locs ls hP hD hS hl) (fun h => kf h H locs ls hP hD hS hl)
theorem g_if_le (C : gC p s m args meth c cc nL ret own D cl tys A0 H0) {x : Int32} {off : Int} {tgt : Nat} (hd : decode cc pc = .ok (.ifCond .le off, 3)) (ht : (pc : Int) + off = (tgt : Int)) (kt : x ≤ 0 → gG p l e R s m args below meth c nL D cl A0 H0 cells slots Q w tgt lv st) (kf : ¬ (x ≤ 0) → gG p l e R s m args below meth c nL D cl A0 H0 cells slots Q w (pc + 3) lv st) : gG p l e R s m args below meth c nL D cl A0 H0 cells slots Q w pc lv (.int x :: st) :=
  fun H locs ls hP hD hS hl => lv_if_le C.1 C.2.1 hd ht (fun h => kt h H locs ls hP hD hS hl) (fun h => kf h H locs ls hP hD hS hl)
theorem g_icmp_le (C : gC p s m args meth c cc nL ret own D cl tys A0 H0) {x y : Int32} {off : Int} {tgt : Nat} (hd : decode cc pc = .ok (.if_icmp .le off, 3)) (ht : (pc : Int) + off = (tgt : Int)) (kt : x ≤ y → gG p l e R s m args below meth c nL D cl A0 H0 cells slots Q w tgt lv st) (kf : ¬ (x ≤ y) → gG p l e R s m args below meth c nL D cl A0 H0 cells slots Q w (pc + 3) lv st) : gG p l e R s m args below meth c nL D cl A0 H0 cells slots Q w pc lv (.int y :: .int x :: st) :=
  fun H locs ls hP hD hS hl => lv_icmp_le C.1 C.2.1 hd ht (fun h => kt h H locs ls hP hD hS hl) (fun h => kf h H locs ls hP hD hS hl)
theorem g_ldc2 (C : gC p s m args meth c cc nL ret own D cl tys A0 H0) {index : Nat} {v : Int64} (hc : Cond.constantLong own index v ∈ Wl) (hd : decode cc pc = .ok (.ldc2_w index, 3)) (k : gG p l e R s m args below meth c nL D cl A0 H0 cells slots Q w (pc + 3) lv (.long v :: st)) : gG p l e R s m args below meth c nL D cl A0 H0 cells slots Q w pc lv st :=
  fun H locs ls hP hD hS hl => lv_ldc2 C.1 C.2.1 C.2.2.2.2.1 (C.2.2.2.1 _ hc) hd (k H locs ls hP hD hS hl)
theorem g_ldcw (C : gC p s m args meth c cc nL ret own D cl tys A0 H0) {index : Nat} {v : Int32} (hc : Cond.constant own index v ∈ Wl) (hd : decode cc pc = .ok (.ldc_w index, 3)) (k : gG p l e R s m args below meth c nL D cl A0 H0 cells slots Q w (pc + 3) lv (.int v :: st)) : gG p l e R s m args below meth c nL D cl A0 H0 cells slots Q w pc lv st :=
  fun H locs ls hP hD hS hl => lv_ldcw C.1 C.2.1 C.2.2.2.2.1 (C.2.2.2.1 _ hc) hd (k H locs ls hP hD hS hl)
theorem g_sub {lv2 : List (Nat × Value)} (ks : List Nat) (h : lv_pick lv ks = lv2) (k : gG p l e R s m args below meth c nL D cl A0 H0 cells slots Q w pc lv2 st) : gG p l e R s m args below meth c nL D cl A0 H0 cells slots Q w pc lv st := fun H locs ls hP hD hS hl => k H locs ls hP hD hS (lv_sub hl ks h)
theorem g_eq {w2 : va_W} {st2 : List Value} (hw : w = w2) (hs : st = st2) (k : gG p l e R s m args below meth c nL D cl A0 H0 cells slots Q w2 pc lv st2) : gG p l e R s m args below meth c nL D cl A0 H0 cells slots Q w pc lv st := by subst hw; subst hs; exact k
theorem g_mmax (C : gC p s m args meth c cc nL ret own D cl tys A0 H0) {index : Nat} {x y : Int32} (hlk : Cond.methodLink own index Lib.Math.max.name ∈ Wl) (hst : Cond.static Lib.Math.max.name ∈ Wl) (hin : Cond.initialized "java/lang/Math" ∈ Wl) (hco : Cond.code Lib.Math.max.name Lib.Math.max.code 2 (some .int) ∈ Wl) (hR : 1 ≤ R.frames ∧ (st.map fun v => v.category).sum + 13 ≤ R.locals ∧ cells ≤ R.cells ∧ slots ≤ R.slots) (hd : decode cc pc = .ok (.invokestatic index, 3)) (k : gG p l e R s m args below meth c nL D cl A0 H0 cells slots Q w (pc + 3) lv (.int (if x < y then y else x) :: st)) : gG p l e R s m args below meth c nL D cl A0 H0 cells slots Q w pc lv (.int y :: .int x :: st) :=
  fun H locs ls hP hD hS hl => va_mmax C.1 C.2.1 (C.2.2.2.2.2.2.1.trans hl.1.symm) C.2.2.2.2.1 (C.2.2.2.1 _ hlk) (C.2.2.2.1 _ hst) (C.2.2.2.1 _ hin) (C.2.2.2.1 _ hco) hR.1 hR.2.1 hR.2.2.1 hR.2.2.2 hd (k H locs ls hP hD hS hl)
theorem g_mabs (C : gC p s m args meth c cc nL ret own D cl tys A0 H0) {index : Nat} {x : Int32} (hlk : Cond.methodLink own index Lib.Math.abs.name ∈ Wl) (hst : Cond.static Lib.Math.abs.name ∈ Wl) (hin : Cond.initialized "java/lang/Math" ∈ Wl) (hco : Cond.code Lib.Math.abs.name Lib.Math.abs.code 1 (some .int) ∈ Wl) (hR : 1 ≤ R.frames ∧ (st.map fun v => v.category).sum + 13 ≤ R.locals ∧ cells ≤ R.cells ∧ slots ≤ R.slots) (hd : decode cc pc = .ok (.invokestatic index, 3)) (k : gG p l e R s m args below meth c nL D cl A0 H0 cells slots Q w (pc + 3) lv (.int (if 0 ≤ x then x else 0 - x) :: st)) : gG p l e R s m args below meth c nL D cl A0 H0 cells slots Q w pc lv (.int x :: st) :=
  fun H locs ls hP hD hS hl => va_mabs C.1 C.2.1 (C.2.2.2.2.2.2.1.trans hl.1.symm) C.2.2.2.2.1 (C.2.2.2.1 _ hlk) (C.2.2.2.1 _ hst) (C.2.2.2.1 _ hin) (C.2.2.2.1 _ hco) hR.1 hR.2.1 hR.2.2.1 hR.2.2.2 hd (k H locs ls hP hD hS hl)
end
end
section
-- memories: rows of numbers, and a long; the two worlds over them
abbrev MM : Type := (Nat → Nat → Int32) × Int64
def mU (M : MM) (r c : Nat) (v : Int32) : MM := (fun r2 c2 => if r2 = r ∧ c2 = c then v else M.1 r2 c2, M.2)
def mL (M : MM) (v : Int64) : MM := (M.1, v)
def mR (M : MM) (r : Nat) (f : Nat → Int32) : MM := (fun r2 => if r2 = r then f else M.1 r2, M.2)
def aR (k : Nat) : Nat := if k = 2 then 1 else if k < 9 then k - 2 else if k < 16 then k - 7 else 9 + (k - 16) / 5
def aO (k : Nat) : Nat := if k < 16 then 0 else if (k - 16) % 5 = 1 then 0 else if (k - 16) % 5 = 2 then 6 else if (k - 16) % 5 = 3 then 12 else 18
def aN (k : Nat) : Nat := if k = 2 then 48 else if k < 9 then 5 else if k < 16 then 6 else if (k - 16) % 5 = 1 then 5 else if (k - 16) % 5 = 2 then 6 else if (k - 16) % 5 = 3 then 6 else 5
def aI (k : Nat) : Prop := k = 2 ∨ (4 ≤ k ∧ k < 9) ∨ k = 14 ∨ k = 15 ∨ (16 < k ∧ k < 106 ∧ (k - 16) % 5 ≠ 0)
-- object k of the class is an array of numbers: row, first column, length
def arr (k r o n : Nat) : Prop := aI k ∧ aR k = r ∧ aO k = o ∧ aN k = n
theorem arr_pl {i : Nat} (h : i < 18) : arr (16 + 5 * i + 1) (9 + i) 0 5 := by
  unfold arr aI aR aO aN
  rw [show 16 + 5 * i + 1 - 16 = 5 * i + 1 by omega, show (5 * i + 1) % 5 = 1 by omega, show (5 * i + 1) / 5 = i by omega]
  exact ⟨by omega, (if_neg (by omega)).trans ((if_neg (by omega)).trans (if_neg (by omega))), (if_neg (by omega)).trans (by decide), (if_neg (by omega)).trans ((if_neg (by omega)).trans ((if_neg (by omega)).trans (by decide)))⟩
theorem arr_la {i : Nat} (h : i < 18) : arr (16 + 5 * i + 2) (9 + i) 6 6 := by
  unfold arr aI aR aO aN
  rw [show 16 + 5 * i + 2 - 16 = 5 * i + 2 by omega, show (5 * i + 2) % 5 = 2 by omega, show (5 * i + 2) / 5 = i by omega]
  exact ⟨by omega, (if_neg (by omega)).trans ((if_neg (by omega)).trans (if_neg (by omega))), (if_neg (by omega)).trans (by decide), (if_neg (by omega)).trans ((if_neg (by omega)).trans ((if_neg (by omega)).trans (by decide)))⟩
theorem arr_we {i : Nat} (h : i < 18) : arr (16 + 5 * i + 3) (9 + i) 12 6 := by
  unfold arr aI aR aO aN
  rw [show 16 + 5 * i + 3 - 16 = 5 * i + 3 by omega, show (5 * i + 3) % 5 = 3 by omega, show (5 * i + 3) / 5 = i by omega]
  exact ⟨by omega, (if_neg (by omega)).trans ((if_neg (by omega)).trans (if_neg (by omega))), (if_neg (by omega)).trans (by decide), (if_neg (by omega)).trans ((if_neg (by omega)).trans ((if_neg (by omega)).trans (by decide)))⟩
theorem arr_fa {i : Nat} (h : i < 18) : arr (16 + 5 * i + 4) (9 + i) 18 5 := by
  unfold arr aI aR aO aN
  rw [show 16 + 5 * i + 4 - 16 = 5 * i + 4 by omega, show (5 * i + 4) % 5 = 4 by omega, show (5 * i + 4) / 5 = i by omega]
  exact ⟨by omega, (if_neg (by omega)).trans ((if_neg (by omega)).trans (if_neg (by omega))), (if_neg (by omega)).trans (by decide), (if_neg (by omega)).trans ((if_neg (by omega)).trans ((if_neg (by omega)).trans (by decide)))⟩
def cC (a : Nat → Nat) (cI cS : ClassId) (M : MM) (k : Nat) : va_E :=
  if k = 0 then .inr (6, [.ref (a 1), .ref (a 3), .ref (a 16), .ref (a 21), .ref (a 9), .ref (a 11), .ref (a 13), .long M.2])
  else if k = 1 then .inr (4, [.ref (a 2), .int (M.1 0 0)])
  else if k = 3 then .inr (2, [.int (M.1 0 1), .int (M.1 0 2), .ref (a 4), .ref (a 5), .ref (a 6), .ref (a 7), .ref (a 8)])
  else if k = 9 then .inr (1, [.ref (a 10), .int (M.1 0 3), .int (M.1 0 4)])
  else if k = 10 then .inl (cS, 14, .inr (.inr (.inr (.inr (fun j => some (a (16 + 5 * (2 + j))))))))
  else if k = 11 then .inr (5, [.ref (a 12), .int (M.1 0 5)])
  else if k = 12 then .inl (cS, 2, .inr (.inr (.inr (.inr (fun j => some (a (16 + 5 * (16 + j))))))))
  else if k = 13 then .inr (0, [.ref (a 14), .ref (a 15), .int (M.1 0 6), .int (M.1 0 7)])
  else if 16 ≤ k ∧ (k - 16) % 5 = 0 then .inr (3, [.ref (a 3), .ref (a (k + 1)), .ref (a (k + 2)), .ref (a (k + 3)), .ref (a (k + 4)), .int (M.1 (9 + (k - 16) / 5) 5), .int (M.1 (9 + (k - 16) / 5) 23)])
  else .inl (cI, aN k, .inl (fun j => M.1 (aR k) (aO k + j)))
theorem cC_arr {a : Nat → Nat} {cI cS : ClassId} {M : MM} {k r o n : Nat} (h : arr k r o n) : cC a cI cS M k = .inl (cI, n, .inl (fun j => M.1 r (o + j))) := by
  obtain ⟨h, rfl, rfl, rfl⟩ := h
  unfold aI at h
  unfold cC
  rw [if_neg (by omega), if_neg (by omega), if_neg (by omega), if_neg (by omega), if_neg (by omega), if_neg (by omega), if_neg (by omega), if_neg (by omega), if_neg (by omega)]
theorem cC_sc {a : Nat → Nat} {cI cS : ClassId} {M : MM} (i : Nat) : cC a cI cS M (16 + 5 * i) = .inr (3, [.ref (a 3), .ref (a (16 + 5 * i + 1)), .ref (a (16 + 5 * i + 2)), .ref (a (16 + 5 * i + 3)), .ref (a (16 + 5 * i + 4)), .int (M.1 (9 + i) 5), .int (M.1 (9 + i) 23)]) := by
  unfold cC
  rw [if_neg (by omega), if_neg (by omega), if_neg (by omega), if_neg (by omega), if_neg (by omega), if_neg (by omega), if_neg (by omega), if_neg (by omega), if_pos (by omega), show (16 + 5 * i - 16) / 5 = i by omega]
theorem cC_aN {k r o n : Nat} (h : arr k r o n) : k < 106 := by
  obtain ⟨h, -⟩ := h
  unfold aI at h
  omega
theorem ap_num {k k2 : Nat} (h : aI k) (h2 : aI k2) (hne : k2 ≠ k) (j j2 : Nat) (hj : j < aN k) (hj2 : j2 < aN k2) : ¬ (aR k2 = aR k ∧ aO k2 + j2 = aO k + j) := by
  unfold aI at h h2
  unfold aN at hj hj2
  unfold aR aO
  intro q
  obtain ⟨q1, q2⟩ := q
  by_cases g1 : k < 16 <;> by_cases g2 : k2 < 16
  · simp only [g1, g2, if_true] at q2
    repeat' split at q1
    all_goals first | omega | (simp only [g1, g2] at *; omega)
  · repeat' split at q1
    all_goals omega
  · repeat' split at q1
    all_goals omega
  · have e1 : (k - 16) / 5 = (k2 - 16) / 5 := by
      repeat' split at q1
      all_goals omega
    simp only [if_neg g1, if_neg g2] at q2
    have r1 : ¬ k = 2 := by omega
    have r2 : ¬ k < 9 := by omega
    have r3 : ¬ k2 = 2 := by omega
    have r4 : ¬ k2 < 9 := by omega
    simp only [if_neg g1, if_neg g2, if_neg r1, if_neg r2, if_neg r3, if_neg r4] at hj hj2
    have e2 : (k - 16) % 5 ≠ (k2 - 16) % 5 := by omega
    have b1 : (k - 16) % 5 < 5 := Nat.mod_lt _ (by omega)
    have b2 : (k2 - 16) % 5 < 5 := Nat.mod_lt _ (by omega)
    generalize (k - 16) % 5 = u at *
    generalize (k2 - 16) % 5 = v at *
    rcases (show u = 1 ∨ u = 2 ∨ u = 3 ∨ u = 4 by omega) with rfl | rfl | rfl | rfl <;> rcases (show v = 1 ∨ v = 2 ∨ v = 3 ∨ v = 4 by omega) with rfl | rfl | rfl | rfl <;> simp at * <;> omega
end
section
def own (i r c : Nat) : Prop := (i = 1 ∧ r = 0 ∧ c = 0) ∨ (i = 3 ∧ r = 0 ∧ (c = 1 ∨ c = 2)) ∨ (i = 9 ∧ r = 0 ∧ (c = 3 ∨ c = 4)) ∨ (i = 11 ∧ r = 0 ∧ c = 5) ∨ (i = 13 ∧ r = 0 ∧ (c = 6 ∨ c = 7)) ∨ (16 ≤ i ∧ (i - 16) % 5 = 0 ∧ r = 9 + (i - 16) / 5 ∧ (c = 5 ∨ c = 23)) ∨ (aI i ∧ r = aR i ∧ aO i ≤ c ∧ c < aO i + aN i)
theorem aR_pos {k : Nat} (h : aI k) : 1 ≤ aR k := by
  unfold aI at h
  unfold aR
  repeat' split
  all_goals omega
theorem own_as {i i2 r c : Nat} (h : aI i) (hr : r = aR i) (h1 : aO i ≤ c) (h2 : c < aO i + aN i) (g1 : 16 ≤ i2) (g2 : (i2 - 16) % 5 = 0) (g3 : r = 9 + (i2 - 16) / 5) (g4 : c = 5 ∨ c = 23) : False := by
  unfold aI at h
  have e : 16 ≤ i := by
    unfold aR at hr
    by_cases g : 16 ≤ i
    · exact g
    · repeat' split at hr
      all_goals omega
  unfold aO at h1 h2
  unfold aN at h2
  have r1 : ¬ i < 16 := by omega
  have r2 : ¬ i = 2 := by omega
  have r3 : ¬ i < 9 := by omega
  simp only [if_neg r1, if_neg r2, if_neg r3] at h1 h2
  have b1 : (i - 16) % 5 < 5 := Nat.mod_lt _ (by omega)
  have b2 : (i - 16) % 5 ≠ 0 := by omega
  generalize (i - 16) % 5 = u at *
  rcases (show u = 1 ∨ u = 2 ∨ u = 3 ∨ u = 4 by omega) with rfl | rfl | rfl | rfl <;> simp at * <;> omega
theorem own_one {i i2 r c : Nat} (h : own i r c) (h2 : own i2 r c) : i = i2 := by
  unfold own at h h2
  rcases h with h | h | h | h | h | h | ⟨h, hr, ha, hb⟩ <;> rcases h2 with g | g | g | g | g | g | ⟨g, gr, ga, gb⟩
  all_goals first
    | omega
    | (exfalso; have := aR_pos h; omega)
    | (exfalso; have := aR_pos g; omega)
    | (exact (own_as h hr ha hb g.1 g.2.1 g.2.2.1 g.2.2.2).elim)
    | (exact (own_as g gr ga gb h.1 h.2.1 h.2.2.1 h.2.2.2).elim)
    | skip
  by_cases e : i = i2
  · exact e
  · exact (ap_num h g (Ne.symm e) (c - aO i) (c - aO i2) (by omega) (by omega) ⟨by omega, by omega⟩).elim
theorem cC_arr0 {a : Nat → Nat} {cI cS : ClassId} {M : MM} {k : Nat} (h : aI k) : cC a cI cS M k = .inl (cI, aN k, .inl (fun j => M.1 (aR k) (aO k + j))) := cC_arr ⟨h, rfl, rfl, rfl⟩
theorem cC_ve {a : Nat → Nat} {cI cS : ClassId} {M M2 : MM} {i : Nat} (hi : i < 106) (hs : M2.2 = M.2 ∨ i ≠ 0) (h : ∀ r c, own i r c → M2.1 r c = M.1 r c) : ve (cC a cI cS M i) (cC a cI cS M2 i) := by
  by_cases ha : aI i
  · rw [cC_arr0 ha, cC_arr0 ha]
    exact ve_arr (fun j hj => (h _ _ (Or.inr (Or.inr (Or.inr (Or.inr (Or.inr (Or.inr ⟨ha, rfl, by omega, by omega⟩))))))).symm)
  · apply ve_eq
    unfold cC
    by_cases e0 : i = 0
    · rw [if_pos e0, if_pos e0]
      rcases hs with hs | hs
      · rw [hs]
      · exact absurd e0 hs
    rw [if_neg e0, if_neg e0]
    by_cases e1 : i = 1
    · rw [if_pos e1, if_pos e1, h 0 0 (by unfold own; omega)]
    rw [if_neg e1, if_neg e1]
    by_cases e3 : i = 3
    · rw [if_pos e3, if_pos e3, h 0 1 (by unfold own; omega), h 0 2 (by unfold own; omega)]
    rw [if_neg e3, if_neg e3]
    by_cases e9 : i = 9
    · rw [if_pos e9, if_pos e9, h 0 3 (by unfold own; omega), h 0 4 (by unfold own; omega)]
    rw [if_neg e9, if_neg e9]
    by_cases e10 : i = 10
    · rw [if_pos e10, if_pos e10]
    rw [if_neg e10, if_neg e10]
    by_cases e11 : i = 11
    · rw [if_pos e11, if_pos e11, h 0 5 (by unfold own; omega)]
    rw [if_neg e11, if_neg e11]
    by_cases e12 : i = 12
    · rw [if_pos e12, if_pos e12]
    rw [if_neg e12, if_neg e12]
    by_cases e13 : i = 13
    · rw [if_pos e13, if_pos e13, h 0 6 (by unfold own; omega), h 0 7 (by unfold own; omega)]
    rw [if_neg e13, if_neg e13]
    have es : 16 ≤ i ∧ (i - 16) % 5 = 0 := by unfold aI at ha; omega
    rw [if_pos es, if_pos es, h (9 + (i - 16) / 5) 5 (by unfold own; omega), h (9 + (i - 16) / 5) 23 (by unfold own; omega)]
theorem mU_at {M : MM} {r c : Nat} {v : Int32} : (mU M r c v).1 r c = v := if_pos ⟨rfl, rfl⟩
theorem mU_ne {M : MM} {r c r2 c2 : Nat} {v : Int32} (h : ¬ (r2 = r ∧ c2 = c)) : (mU M r c v).1 r2 c2 = M.1 r2 c2 := if_neg h
-- a put of a number into location (r, c) of object k
theorem cC_put {a : Nat → Nat} {cI cS : ClassId} {M : MM} {k r c : Nat} {v : Int32} {e : va_E} (ho : own k r c) (he : ve e (cC a cI cS (mU M r c v) k)) : ∀ i, i < 106 → ve (if i = k then e else cC a cI cS M i) (cC a cI cS (mU M r c v) i) := by
  intro i hi
  by_cases hik : i = k
  · subst hik; rw [if_pos rfl]; exact he
  · rw [if_neg hik]
    exact cC_ve hi (Or.inl rfl) (fun r2 c2 h2 => mU_ne (fun q => hik (own_one h2 (by rw [q.1, q.2]; exact ho))))
theorem cC_putL {a : Nat → Nat} {cI cS : ClassId} {M : MM} {v : Int64} {e : va_E} (he : ve e (cC a cI cS (mL M v) 0)) : ∀ i, i < 106 → ve (if i = 0 then e else cC a cI cS M i) (cC a cI cS (mL M v) i) := by
  intro i hi
  by_cases hik : i = 0
  · subst hik; rw [if_pos rfl]; exact he
  · rw [if_neg hik]
    exact cC_ve hi (Or.inr hik) (fun r2 c2 h2 => rfl)
-- the reference's world
def lnM (k : Nat) : Nat := if k = 1 then 48 else if k = 2 then 5 else if k = 3 then 15 else if k = 4 then 10 else if k = 5 then 15 else if k < 8 then 24 else if k = 8 then 336 else if k = 9 then 48 else if k = 10 then 2 else if k < 14 then 6 else if k = 14 then 8 else 32
def cD (a : Nat → Nat) (cI cZ : ClassId) (M : MM) (k : Nat) : va_E :=
  if k = 0 then .inr (7, [.int (M.1 0 0), .ref (a 1), .int (M.1 0 1), .int (M.1 0 2), .int (M.1 0 3), .ref (a 2), .int (M.1 0 4), .ref (a 3), .int (M.1 0 5), .ref (a 4), .int (M.1 0 6), .ref (a 5), .ref (a 6), .ref (a 7), .ref (a 8), .int (M.1 0 7), .ref (a 9), .ref (a 10), .int (M.1 0 8), .ref (a 11), .ref (a 12), .ref (a 13), .long M.2, .int (M.1 0 9), .int (M.1 0 10), .int (M.1 0 11), .int (M.1 0 12), .int (M.1 0 13), .int (M.1 0 14), .ref (a 14), .ref (a 15)])
  else .inl (if k = 10 then cZ else cI, lnM k, .inl (fun j => M.1 k j))
theorem cD_0 {a : Nat → Nat} {cI cZ : ClassId} {M : MM} : cD a cI cZ M 0 = .inr (7, [.int (M.1 0 0), .ref (a 1), .int (M.1 0 1), .int (M.1 0 2), .int (M.1 0 3), .ref (a 2), .int (M.1 0 4), .ref (a 3), .int (M.1 0 5), .ref (a 4), .int (M.1 0 6), .ref (a 5), .ref (a 6), .ref (a 7), .ref (a 8), .int (M.1 0 7), .ref (a 9), .ref (a 10), .int (M.1 0 8), .ref (a 11), .ref (a 12), .ref (a 13), .long M.2, .int (M.1 0 9), .int (M.1 0 10), .int (M.1 0 11), .int (M.1 0 12), .int (M.1 0 13), .int (M.1 0 14), .ref (a 14), .ref (a 15)]) := rfl
theorem cD_arr {a : Nat → Nat} {cI cZ : ClassId} {M : MM} {k : Nat} (h : 0 < k) (h2 : k ≠ 10) : cD a cI cZ M k = .inl (cI, lnM k, .inl (fun j => M.1 k j)) := by unfold cD; rw [if_neg (by omega), if_neg h2]
theorem cD_arrZ {a : Nat → Nat} {cI cZ : ClassId} {M : MM} : cD a cI cZ M 10 = .inl (cZ, 2, .inl (fun j => M.1 10 j)) := rfl
theorem cD_ve {a : Nat → Nat} {cI cZ : ClassId} {M M2 : MM} {i : Nat} (h0 : i = 0 → M2.2 = M.2 ∧ ∀ c, c < 15 → M2.1 0 c = M.1 0 c) (h : i ≠ 0 → ∀ c, c < lnM i → M2.1 i c = M.1 i c) : ve (cD a cI cZ M i) (cD a cI cZ M2 i) := by
  by_cases e : i = 0
  · subst e
    obtain ⟨h1, h2⟩ := h0 rfl
    apply ve_eq
    rw [cD_0, cD_0, h1, h2 0 (by omega), h2 1 (by omega), h2 2 (by omega), h2 3 (by omega), h2 4 (by omega), h2 5 (by omega), h2 6 (by omega), h2 7 (by omega), h2 8 (by omega), h2 9 (by omega), h2 10 (by omega), h2 11 (by omega), h2 12 (by omega), h2 13 (by omega), h2 14 (by omega)]
  · unfold cD
    rw [if_neg e, if_neg e]
    exact ve_arr (fun j hj => (h e j hj).symm)
theorem cD_put {a : Nat → Nat} {cI cZ : ClassId} {M : MM} {k c : Nat} {v : Int32} {e : va_E} (he : ve e (cD a cI cZ (mU M k c v) k)) : ∀ i, i < 16 → ve (if i = k then e else cD a cI cZ M i) (cD a cI cZ (mU M k c v) i) := by
  intro i hi
  by_cases hik : i = k
  · subst hik; rw [if_pos rfl]; exact he
  · rw [if_neg hik]
    exact cD_ve (fun e0 => ⟨rfl, fun c2 _ => mU_ne (fun q => hik (e0.trans q.1))⟩) (fun _ c2 _ => mU_ne (fun q => hik q.1))
theorem cD_putL {a : Nat → Nat} {cI cZ : ClassId} {M : MM} {v : Int64} {e : va_E} (he : ve e (cD a cI cZ (mL M v) 0)) : ∀ i, i < 16 → ve (if i = 0 then e else cD a cI cZ M i) (cD a cI cZ (mL M v) i) := by
  intro i hi
  by_cases hik : i = 0
  · subst hik; rw [if_pos rfl]; exact he
  · rw [if_neg hik]
    exact cD_ve (fun e0 => absurd e0 hik) (fun _ c2 _ => rfl)
end
section
-- rows over a world of functions; contracts; calls
section
variable {p : Program} {l : Launch} {e : Env} {R : Room} {s : State} {m : MethodId} {args : Array Value} {below : List Frame} {meth : Method} {c : Code} {cells slots : Nat} {Q : State → Prop} {D : va_G} {cl : List vw_C} {tys : List (ClassId × FieldType)} {A0 : Nat → Prop} {H0 : Heap} {cc : ByteArray} {nL : Nat} {ret : Option FieldType} {own : String} {w : va_W} {pc : Nat} {lv : List (Nat × Value)} {st : List Value} {n : Nat} {a : Nat → Nat} {g g2 : Nat → va_E}
theorem g_getf (C : gC p s m args meth c cc nL ret own D cl tys A0 H0) {k ci : Nat} {fs : List Value} (hk : k < n) (hg : g k = .inr (ci, fs)) {Cn : String} {T : u_T} {N : Nat} (hc : cl[ci]? = some (Cn, T, N)) (j : Nat) (hj : j < N) (hin : ∀ w ∈ u_ws Cn T N, w ∈ Wl) {index : Nat} (hlk : Cond.fieldLink own index (T j).1 (T j).2.1 (T j).2.2.1 ∈ Wl) {v : Value} (hv : fs[j]? = some v) (hd : decode cc pc = .ok (.getfield index, 3)) (kk : gG p l e R s m args below meth c nL D cl A0 H0 cells slots Q (wF n a g) (pc + 3) lv (v :: st)) : gG p l e R s m args below meth c nL D cl A0 H0 cells slots Q (wF n a g) pc lv (.ref (a k) :: st) :=
  fun H locs ls hP hD hS hl => va_get C.1 C.2.1 C.2.2.2.1 hin C.2.2.2.2.1 C.2.2.2.2.2.2.2.1.1 hP k (by rw [wF_get hk, hg]) hc j hj (C.2.2.2.1 _ hlk) (fun x hx => hx) hv hd (kk H locs ls hP hD hS hl)
theorem g_putf (C : gC p s m args meth c cc nL ret own D cl tys A0 H0) {k ci : Nat} {fs : List Value} (hk : k < n) (hg : g k = .inr (ci, fs)) {Cn : String} {T : u_T} {N : Nat} (hc : cl[ci]? = some (Cn, T, N)) (ty0 : Nat → FieldType) (hty : ∀ k, k < N → parseFieldDescriptor (T k).2.2.1 = some (ty0 k)) (hnm : ∀ a, a < N → ∀ b, b < N → a ≠ b → (T a).2.1 ≠ (T b).2.1) (j : Nat) (hj : j < N) (hin : ∀ w ∈ u_ws Cn T N, w ∈ Wl) {index : Nat} (hlk : Cond.fieldLink own index (T j).1 (T j).2.1 (T j).2.2.1 ∈ Wl) (hfin : (T j).2.2.2 = false) {ty : FieldType} {v : Value} (hpd : parseFieldDescriptor (T j).2.2.1 = some ty) (hn : narrow ty v = v) (hfit : fits ty v = true) (hlen : j < fs.length) (hu : ∀ i, i < n → ve (if i = k then .inr (ci, fs.set j v) else g i) (g2 i)) (hd : decode cc pc = .ok (.putfield index, 3)) (kk : gG p l e R s m args below meth c nL D cl A0 H0 cells slots Q (wF n a g2) (pc + 3) lv st) : gG p l e R s m args below meth c nL D cl A0 H0 cells slots Q (wF n a g) pc lv (v :: .ref (a k) :: st) :=
  fun H locs ls hP hD hS hl => va_put C.1 C.2.1 C.2.2.2.1 hin ty0 hty hnm C.2.2.2.2.1 C.2.2.2.2.2.2.2.1.1 hP hD hS k (by rw [wF_get hk, hg]) hc j hj (C.2.2.2.1 _ hlk) (fun x hx => hx) hfin hpd hn hfit hlen hd (fun H1 locs1 hP1 _ hS1 => kk H1 locs1 ls (wF_set hP1 hu) (wF_D hD) hS1 hl)
theorem g_iald (C : gC p s m args meth c cc nL ret own D cl tys A0 H0) {k : Nat} {cA : ClassId} {N t0 : Nat} {f : Nat → Int32} (hk : k < n) (hg : g k = .inl (cA, N, .inl f)) (ht : tys[t0]? = some (cA, .int)) {i : Int32} (hi : vp_in i N) (hd : decode cc pc = .ok (.iaload, 1)) (kk : gG p l e R s m args below meth c nL D cl A0 H0 cells slots Q (wF n a g) (pc + 1) lv (.int (f i.toNatClampNeg) :: st)) : gG p l e R s m args below meth c nL D cl A0 H0 cells slots Q (wF n a g) pc lv (.int i :: .ref (a k) :: st) :=
  fun H locs ls hP hD hS hl => va_iald C.1 C.2.1 C.2.2.2.2.2.2.2.1.1 hP k t0 (by rw [wF_get hk, hg]) ht hi hd (kk H locs ls hP hD hS hl)
theorem g_zald (C : gC p s m args meth c cc nL ret own D cl tys A0 H0) {k : Nat} {cA : ClassId} {N t0 : Nat} {f : Nat → Int32} (hk : k < n) (hg : g k = .inl (cA, N, .inl f)) (ht : tys[t0]? = some (cA, .boolean)) {i : Int32} (hi : vp_in i N) (hd : decode cc pc = .ok (.baload, 1)) (kk : gG p l e R s m args below meth c nL D cl A0 H0 cells slots Q (wF n a g) (pc + 1) lv (.int (f i.toNatClampNeg) :: st)) : gG p l e R s m args below meth c nL D cl A0 H0 cells slots Q (wF n a g) pc lv (.int i :: .ref (a k) :: st) :=
  fun H locs ls hP hD hS hl => va_zald C.1 C.2.1 C.2.2.2.2.2.2.2.1.1 hP k t0 (by rw [wF_get hk, hg]) ht hi hd (kk H locs ls hP hD hS hl)
theorem g_iast (C : gC p s m args meth c cc nL ret own D cl tys A0 H0) {k : Nat} {cA : ClassId} {N t0 : Nat} {f : Nat → Int32} (hk : k < n) (hg : g k = .inl (cA, N, .inl f)) (ht : tys[t0]? = some (cA, .int)) {i x : Int32} (hi : vp_in i N) (hu : ∀ j, j < n → ve (if j = k then .inl (cA, N, .inl (upd f i.toNatClampNeg x)) else g j) (g2 j)) (hd : decode cc pc = .ok (.iastore, 1)) (kk : gG p l e R s m args below meth c nL D cl A0 H0 cells slots Q (wF n a g2) (pc + 1) lv st) : gG p l e R s m args below meth c nL D cl A0 H0 cells slots Q (wF n a g) pc lv (.int x :: .int i :: .ref (a k) :: st) :=
  fun H locs ls hP hD hS hl => va_iast C.1 C.2.1 C.2.2.2.2.2.2.2.1.1 hP hD hS k t0 (by rw [wF_get hk, hg]) ht hi hd (fun H1 locs1 hP1 _ hS1 => kk H1 locs1 ls (wF_set hP1 hu) (wF_D hD) hS1 hl)
theorem g_zast (C : gC p s m args meth c cc nL ret own D cl tys A0 H0) {k : Nat} {cA : ClassId} {N t0 : Nat} {f : Nat → Int32} (hk : k < n) (hg : g k = .inl (cA, N, .inl f)) (ht : tys[t0]? = some (cA, .boolean)) {i x : Int32} (hi : vp_in i N) (hu : ∀ j, j < n → ve (if j = k then .inl (cA, N, .inl (upd f i.toNatClampNeg (vp_nar .boolean x))) else g j) (g2 j)) (hd : decode cc pc = .ok (.bastore, 1)) (kk : gG p l e R s m args below meth c nL D cl A0 H0 cells slots Q (wF n a g2) (pc + 1) lv st) : gG p l e R s m args below meth c nL D cl A0 H0 cells slots Q (wF n a g) pc lv (.int x :: .int i :: .ref (a k) :: st) :=
  fun H locs ls hP hD hS hl => va_zast C.1 C.2.1 C.2.2.2.2.2.2.2.1.1 hP hD hS k t0 (by rw [wF_get hk, hg]) ht hi hd (fun H1 locs1 hP1 _ hS1 => kk H1 locs1 ls (wF_set hP1 hu) (wF_D hD) hS1 hl)
theorem g_alen (C : gC p s m args meth c cc nL ret own D cl tys A0 H0) {k : Nat} {cA : ClassId} {x : vp_A} {t0 : Nat} {ty : FieldType} (hk : k < n) (hg : g k = .inl (cA, x)) (ht : tys[t0]? = some (cA, ty)) (hd : decode cc pc = .ok (.arraylength, 1)) (kk : gG p l e R s m args below meth c nL D cl A0 H0 cells slots Q (wF n a g) (pc + 1) lv (.int (nI x.1) :: st)) : gG p l e R s m args below meth c nL D cl A0 H0 cells slots Q (wF n a g) pc lv (.ref (a k) :: st) :=
  fun H locs ls hP hD hS hl => va_alen C.1 C.2.1 C.2.2.2.2.2.2.2.1.1 hP k t0 (by rw [wF_get hk, hg]) ht rfl hd (kk H locs ls hP hD hS hl)
theorem g_aldq (C : gC p s m args meth c cc nL ret own D cl tys A0 H0) {k : Nat} {cA : ClassId} {Cn : String} {N t0 : Nat} {f : Nat → Option Nat} (hk : k < n) (hg : g k = .inl (cA, N, .inr (.inr (.inr (.inr f))))) (ht : tys[t0]? = some (cA, .object Cn)) {i : Int32} (hi : vp_in i N) (hd : decode cc pc = .ok (.aaload, 1)) (kk : gG p l e R s m args below meth c nL D cl A0 H0 cells slots Q (wF n a g) (pc + 1) lv (va_rf (f i.toNatClampNeg) :: st)) : gG p l e R s m args below meth c nL D cl A0 H0 cells slots Q (wF n a g) pc lv (.int i :: .ref (a k) :: st) :=
  fun H locs ls hP hD hS hl => va_aldq C.1 C.2.1 C.2.2.2.2.2.2.2.1.1 hP k t0 (by rw [wF_get hk, hg]) ht hi hd (kk H locs ls hP hD hS hl)
theorem g_copyi (C : gC p s m args meth c cc nL ret own D cl tys A0 H0) {k0 k1 : Nat} {c0 c1 : ClassId} {n0 n1 t0 t1 : Nat} {f f1 : Nat → Int32} {index : Nat} (hlk : Cond.methodLink own index arraycopyName ∈ Wl) (hna : Cond.native arraycopyName ∈ Wl) (hst : Cond.static arraycopyName ∈ Wl) (hini : Cond.initialized "java/lang/System" ∈ Wl) (hk0 : k0 < n) (hk1 : k1 < n) (hg0 : g k0 = .inl (c0, n0, .inl f)) (hg1 : g k1 = .inl (c1, n1, .inl f1)) (ht0 : tys[t0]? = some (c0, .int)) (ht1 : tys[t1]? = some (c1, .int)) {sp dp nn : Int32} (h1 : ¬ sp < 0) (h2 : ¬ dp < 0) (h3 : ¬ nn < 0) (h4 : sp.toNatClampNeg + nn.toNatClampNeg ≤ n0) (h5 : dp.toNatClampNeg + nn.toNatClampNeg ≤ n1) (hR : 1 ≤ R.frames ∧ (st.map fun v => v.category).sum + (nativeFrameWords "java/lang/System" "arraycopy" 5 + 11) ≤ R.locals) (hu : ∀ j, j < n → ve (if j = k1 then .inl (c1, n1, .inl (va_cpy f f1 sp.toNatClampNeg dp.toNatClampNeg nn.toNatClampNeg)) else g j) (g2 j)) (hd : decode cc pc = .ok (.invokestatic index, 3)) (kk : gG p l e R s m args below meth c nL D cl A0 H0 cells slots Q (wF n a g2) (pc + 3) lv st) : gG p l e R s m args below meth c nL D cl A0 H0 cells slots Q (wF n a g) pc lv (.int nn :: .int dp :: .ref (a k1) :: .int sp :: .ref (a k0) :: st) :=
  fun H locs ls hP hD hS hl => va_copyi C.1 C.2.1 (C.2.2.2.2.2.2.1.trans hl.1.symm) C.2.2.2.2.1 (C.2.2.2.1 _ hlk) (C.2.2.2.1 _ hna) (C.2.2.2.1 _ hst) (C.2.2.2.1 _ hini) C.2.2.2.2.2.2.2.1.1 hP hD hS k0 k1 t0 t1 (by rw [wF_get hk0, hg0]) (by rw [wF_get hk1, hg1]) ht0 ht1 rfl h1 h2 h3 h4 h5 (fun _ _ => rfl) hR.1 hR.2 hd (fun H1 locs1 hP1 _ hS1 => kk H1 locs1 ls (wF_set hP1 hu) (wF_D hD) hS1 hl)
theorem g_tsIn (C : gC p s m args meth c cc nL ret own D cl tys A0 H0) {dflt lo hi : Int} {offs : Array Int} {len : Nat} {x : Int32} {off : Int} {tgt : Nat} (v : Int32) (hx : x = v) (hd : decode cc pc = .ok (.tableswitch dflt lo hi offs, len)) (h1 : ¬ v.toInt < lo) (h2 : ¬ hi < v.toInt) (ho : offs[(v.toInt - lo).toNat]? = some off) (ht : (pc : Int) + off = (tgt : Int)) (kk : gG p l e R s m args below meth c nL D cl A0 H0 cells slots Q w tgt lv st) : gG p l e R s m args below meth c nL D cl A0 H0 cells slots Q w pc lv (.int x :: st) :=
  fun H locs ls hP hD hS hl => by subst hx; exact lv_tableIn C.1 C.2.1 hd h1 h2 ho ht (kk H locs ls hP hD hS hl)
theorem g_tsOut (C : gC p s m args meth c cc nL ret own D cl tys A0 H0) {dflt lo hi : Int} {offs : Array Int} {len : Nat} {x : Int32} {tgt : Nat} (hd : decode cc pc = .ok (.tableswitch dflt lo hi offs, len)) (h : x.toInt < lo ∨ hi < x.toInt) (ht : (pc : Int) + dflt = (tgt : Int)) (kk : gG p l e R s m args below meth c nL D cl A0 H0 cells slots Q w tgt lv st) : gG p l e R s m args below meth c nL D cl A0 H0 cells slots Q w pc lv (.int x :: st) :=
  fun H locs ls hP hD hS hl => lv_tableOut C.1 C.2.1 hd h ht (kk H locs ls hP hD hS hl)
theorem g_ifnull (C : gC p s m args meth c cc nL ret own D cl tys A0 H0) {r : Option Nat} {off : Int} {tgt : Nat} (hd : decode cc pc = .ok (.ifnull off, 3)) (ht : (pc : Int) + off = (tgt : Int)) (kt : r = none → gG p l e R s m args below meth c nL D cl A0 H0 cells slots Q w tgt lv st) (kf : ∀ b, r = some b → gG p l e R s m args below meth c nL D cl A0 H0 cells slots Q w (pc + 3) lv st) : gG p l e R s m args below meth c nL D cl A0 H0 cells slots Q w pc lv (va_rf r :: st) :=
  fun H locs ls hP hD hS hl => by
    cases r with
    | none => exact lv_ifnullN C.1 C.2.1 hd ht (kt rfl H locs ls hP hD hS hl)
    | some b => exact lv_ifnull C.1 C.2.1 hd (kf b rfl H locs ls hP hD hS hl)
theorem g_ifnonnull (C : gC p s m args meth c cc nL ret own D cl tys A0 H0) {r : Option Nat} {off : Int} {tgt : Nat} (hd : decode cc pc = .ok (.ifnonnull off, 3)) (ht : (pc : Int) + off = (tgt : Int)) (kt : ∀ b, r = some b → gG p l e R s m args below meth c nL D cl A0 H0 cells slots Q w tgt lv st) (kf : r = none → gG p l e R s m args below meth c nL D cl A0 H0 cells slots Q w (pc + 3) lv st) : gG p l e R s m args below meth c nL D cl A0 H0 cells slots Q w pc lv (va_rf r :: st) :=
  fun H locs ls hP hD hS hl => by
    cases r with
    | none => exact lv_ifnonnullN C.1 C.2.1 hd (kf rfl H locs ls hP hD hS hl)
    | some b => exact lv_ifnonnull C.1 C.2.1 hd ht (kt b rfl H locs ls hP hD hS hl)
theorem g_null (C : gC p s m args meth c cc nL ret own D cl tys A0 H0) (hd : decode cc pc = .ok (.aconst_null, 1)) (kk : gG p l e R s m args below meth c nL D cl A0 H0 cells slots Q w (pc + 1) lv (.null :: st)) : gG p l e R s m args below meth c nL D cl A0 H0 cells slots Q w pc lv st :=
  fun H locs ls hP hD hS hl => lv_null C.1 C.2.1 hd (kk H locs ls hP hD hS hl)
def gPre (D : va_G) (cl : List vw_C) (tys : List (ClassId × FieldType)) (w : va_W) (sz : Nat) (U : State) : Prop := U.heap.size = sz ∧ va_P D cl w U.heap ∧ gK D cl tys U ∧ va_D (fun _ => True) w
def KQ (l : Launch) (D : va_G) (cl : List vw_C) (tys : List (ClassId × FieldType)) (y : MethodName) (cc : ByteArray) (nL : Nat) (ret : Option FieldType) (fr lo : Nat) (av : List Value) (w : va_W) (Qc : (Nat → Prop) → Array Value → State → Outcome → State → Prop) : Prop :=
  ∀ sz : Nat, Met l y (Cond.code y cc nL ret :: Wl) ({ frames := fr, cells := 0, slots := 0, locals := lo }) (va_Pc av (gPre D cl tys w sz)) (Qc (va_A w sz)) 0 0 (va_A w sz)
def qI (D : va_G) (cl : List vw_C) (w2 : va_W) (r : Int32) (A : Nat → Prop) : Array Value → State → Outcome → State → Prop := va_Qi (fun (x : Int32) (_ : Unit) => x = r) (fun _ t => va_P D cl w2 t.heap) A
def qL (D : va_G) (cl : List vw_C) (w2 : va_W) (r : Int64) (A : Nat → Prop) : Array Value → State → Outcome → State → Prop := va_Ql (fun (x : Int64) (_ : Unit) => x = r) (fun _ t => va_P D cl w2 t.heap) A
def qV (D : va_G) (cl : List vw_C) (w2 : va_W) (A : Nat → Prop) : Array Value → State → Outcome → State → Prop := va_Qv (fun (_ : Unit) => True) (fun _ t => va_P D cl w2 t.heap) A
def qR (D : va_G) (cl : List vw_C) (w2 : va_W) (r : Option Nat) (A : Nat → Prop) : Array Value → State → Outcome → State → Prop := va_Qq (fun (x : Option Nat) (_ : Unit) => x = r) (fun _ t => va_P D cl w2 t.heap) A
theorem KQ.of {y : MethodName} {rt : Option FieldType} {fr lo : Nat} {av : List Value} {Qc : (Nat → Prop) → Array Value → State → Outcome → State → Prop} {lv0 : List (Nat × Value)} (hy : plainName y.cls = true) (hlen : (lg_sl av).length ≤ nL) (hlv : lv_args 0 av = lv0)
    (body : ∀ (p : Program) (e : Env) (s : State) (m : MethodId) (args : Array Value) (below : List Frame) (meth : Method) (c : Code) (A0 : Nat → Prop), gC p s m args meth c cc nL rt y.cls D cl tys A0 s.heap → gG p l e ({ frames := fr, cells := 0, slots := 0, locals := lo }) s m args below meth c nL D cl A0 s.heap 0 0 (MQ below (Qc A0) args s 0 0 A0) w 0 lv0 []) : KQ l D cl tys y cc nL rt fr lo av w Qc := by
  intro sz
  refine Met.ofW (cc := cc) (maxL := nL) (ret := rt) hy rfl ?_
  intro p e s m args below meth c s₁ B hml hv
  obtain ⟨rfl, hsz, hP, hK, hD0⟩ := hv
  have hts := atoms_spec (ws := Cond.code y cc nL rt :: Wl) B.pre
  subst hsz
  have hD := hD0.self (sz := s.heap.size)
  have hC : gC p s m av.toArray meth c cc nL rt y.cls D cl tys (va_A w s.heap.size) s.heap := ⟨B.exec, B.bytes, B.returns, fun w hw => hts w (List.mem_cons_of_mem _ hw), findClass_of_methodNamed B.named, B.notSynchronized, hml, hK, fun q h => Or.inr h⟩
  have hb := body p e s m av.toArray below meth c (va_A w s.heap.size) hC
  have hl := lv_entry av (n := nL) hlen
  rw [lg_entry_eq]
  rw [hlv] at hl
  exact hb s.heap [] _ hP hD va_S.rf hl
theorem g_iret (C : gC p s m args meth c cc nL (some .int) own D cl tys A0 s.heap) {v r : Int32} (hd : decode cc pc = .ok (.ireturn, 1)) (hr : v = r) {w2 : va_W} (hw : w = w2) : gG p l e R s m args below meth c nL D cl A0 s.heap 0 0 (MQ below (qI D cl w2 r A0) args s 0 0 A0) w pc lv [.int v] :=
  fun H locs ls hP hD hS hl => W.iret C.1 C.2.1 C.2.2.1 (fun t ht hW => ⟨⟨v, (), rfl, hr, by show va_P D cl w2 t.heap; rw [ht, ← hw]; exact hP⟩, hS.F ht⟩) hS.2.2 hd C.2.2.2.2.2.1
theorem g_zret (C : gC p s m args meth c cc nL (some .boolean) own D cl tys A0 s.heap) {v r : Int32} (hd : decode cc pc = .ok (.ireturn, 1)) (hz : v = 0 ∨ v = 1) (hr : v = r) {w2 : va_W} (hw : w = w2) : gG p l e R s m args below meth c nL D cl A0 s.heap 0 0 (MQ below (qI D cl w2 r A0) args s 0 0 A0) w pc lv [.int v] :=
  fun H locs ls hP hD hS hl => W.zret C.1 C.2.1 C.2.2.1 (by rcases hz with rfl | rfl <;> rfl) (fun t ht hW => ⟨⟨v, (), rfl, hr, by show va_P D cl w2 t.heap; rw [ht, ← hw]; exact hP⟩, hS.F ht⟩) hS.2.2 hd C.2.2.2.2.2.1
theorem g_lret (C : gC p s m args meth c cc nL (some .long) own D cl tys A0 s.heap) {v r : Int64} (hd : decode cc pc = .ok (.lreturn, 1)) (hr : v = r) {w2 : va_W} (hw : w = w2) : gG p l e R s m args below meth c nL D cl A0 s.heap 0 0 (MQ below (qL D cl w2 r A0) args s 0 0 A0) w pc lv [.long v] :=
  fun H locs ls hP hD hS hl => W.lret C.1 C.2.1 C.2.2.1 (fun t ht hW => ⟨⟨v, (), rfl, hr, by show va_P D cl w2 t.heap; rw [ht, ← hw]; exact hP⟩, hS.F ht⟩) hS.2.2 hd C.2.2.2.2.2.1
theorem g_vret (C : gC p s m args meth c cc nL none own D cl tys A0 s.heap)  (hd : decode cc pc = .ok (.return_, 1))  {w2 : va_W} (hw : w = w2) : gG p l e R s m args below meth c nL D cl A0 s.heap 0 0 (MQ below (qV D cl w2 A0) args s 0 0 A0) w pc lv [] :=
  fun H locs ls hP hD hS hl => W.vret C.1 C.2.1 C.2.2.1 (fun t ht hW => ⟨⟨(), rfl, trivial, by show va_P D cl w2 t.heap; rw [ht, ← hw]; exact hP⟩, hS.F ht⟩) hS.2.2 hd C.2.2.2.2.2.1
theorem g_aret {Cn : String} (C : gC p s m args meth c cc nL (some (.object Cn)) own D cl tys A0 s.heap) {v r : Option Nat} (hd : decode cc pc = .ok (.areturn, 1)) (hr : v = r) {w2 : va_W} (hw : w = w2) : gG p l e R s m args below meth c nL D cl A0 s.heap 0 0 (MQ below (qR D cl w2 r A0) args s 0 0 A0) w pc lv [va_rf v] :=
  fun H locs ls hP hD hS hl => W.aret C.1 C.2.1 C.2.2.1 (Or.inl ⟨_, rfl⟩) (by cases v <;> first | exact Or.inl rfl | exact Or.inr ⟨_, rfl⟩) (fun t ht hW => ⟨⟨v, (), rfl, hr, by show va_P D cl w2 t.heap; rw [ht, ← hw]; exact hP⟩, hS.F ht⟩) hS.2.2 hd C.2.2.2.2.2.1
theorem g_free {H : Heap} {locs : List Loc} (C : gC p s m args meth c cc nL ret own D cl tys A0 H0) (hD : va_D A0 w) (hS : va_S A0 H0 H locs) : ∀ q, va_A w H.size q → A0 q := by
  intro q h
  rcases h with ⟨k, e, h⟩ | h
  · exact hD.2 k (q, e) h
  · exact C.2.2.2.2.2.2.2.2 q (Nat.le_trans hS.1 h)
theorem gPre_blind {av : List Value} {sz : Nat} : FrameBlind (va_Pc av (gPre D cl tys w sz)) := fun a U g mk q => ⟨q.1, q.2.1, q.2.2.1, q.2.2.2.1.blind, q.2.2.2.2⟩
theorem gPre_of {H : Heap} {av : List Value} (C : gC p s m args meth c cc nL ret own D cl tys A0 H0) (hP : va_P D cl w H) (hD : va_D A0 w) : ∀ U : State, U.heap = H → s.WarmedH U.vm → va_Pc av (gPre D cl tys w H.size) av.toArray U := fun U hU hW => ⟨rfl, by rw [hU], by rw [hU]; exact hP, C.2.2.2.2.2.2.2.1.warm hW, ⟨hD.1, fun _ _ _ => trivial⟩⟩
theorem gW_good {y : MethodName} {bytes : ByteArray} {maxL : Nat} {rt : Option FieldType} (hco : Cond.code y bytes maxL rt ∈ Wl) : GoodIn Wl (Cond.code y bytes maxL rt :: Wl) := fun w h => wl_good w ((List.mem_cons.mp h).elim (fun e => e ▸ hco) id)
theorem gV_good {own : String} {index : Nat} {y : MethodName} {bytes : ByteArray} {maxL : Nat} {rt : Option FieldType} (hlk : Cond.methodLink own index y ∈ Wl) (hin : Cond.instanceMethod y ∈ Wl) (hse : Cond.selects y.cls y y ∈ Wl) (hini : Cond.initialized y.cls ∈ Wl) (hco : Cond.code y bytes maxL rt ∈ Wl) : GoodIn Wl (wsV own index y.cls y (Cond.code y bytes maxL rt :: Wl)) := by
  intro w h
  unfold wsV at h
  rcases List.mem_append.mp h with h | h
  · refine wl_good w ?_
    simp only [List.mem_cons, List.not_mem_nil, or_false] at h
    rcases h with rfl | rfl | rfl | rfl
    · exact hlk
    · exact hin
    · exact hse
    · exact hini
  · exact gW_good hco w h
theorem gS_good {own : String} {index : Nat} {y : MethodName} {bytes : ByteArray} {maxL : Nat} {rt : Option FieldType} (hlk : Cond.methodLink own index y ∈ Wl) (hsa : Cond.static y ∈ Wl) (hini : Cond.initialized y.cls ∈ Wl) (hco : Cond.code y bytes maxL rt ∈ Wl) : GoodIn Wl (va_wsS own index y (Cond.code y bytes maxL rt :: Wl)) := by
  intro w h
  unfold va_wsS at h
  rcases List.mem_append.mp h with h | h
  · refine wl_good w ?_
    simp only [List.mem_cons, List.not_mem_nil, or_false] at h
    rcases h with rfl | rfl | rfl
    · exact hlk
    · exact hsa
    · exact hini
  · exact gW_good hco w h
theorem g_callV_i (C : gC p s m args meth c cc nL ret own D cl tys A0 H0) {y : MethodName} {bytes : ByteArray} {maxL index fr lo : Nat} {rt : Option FieldType} {rest st0 : List Value} {As : List Value} {b : Nat} {Cn : String} {q0 ci : Nat} {fs : List Value} {rc : vw_C} {r : Int32} (hM : KQ l D cl tys y bytes maxL rt fr lo (.ref b :: As) (wF n a g) (qI D cl (wF n a g2) r)) (hlk : Cond.methodLink own index y ∈ Wl) (hin : Cond.instanceMethod y ∈ Wl) (hse : Cond.selects y.cls y y ∈ Wl) (hini : Cond.initialized y.cls ∈ Wl) (hco : Cond.code y bytes maxL rt ∈ Wl) (hdd : y.cls = y.cls ∧ y.cls ≠ "java/lang/invoke/MethodHandle" ∧ y.cls ≠ "java/lang/invoke/VarHandle" ∧ (parseMethodDescriptor y.desc).map (fun d => d.parameters.length) = some As.length) (hk0 : q0 < n) (hb0 : b = a q0) (hg0 : g q0 = .inr (ci, fs)) (hc0 : cl[ci]? = some rc) (hc1 : rc.1 = y.cls) (hR : fr + 1 ≤ R.frames ∧ 8 + (maxL + 11) + lo ≤ R.locals) (hf : cells + 0 ≤ R.cells ∧ slots + 0 ≤ R.slots) (hst : st0 = As.reverse ++ .ref b :: rest) (hro : (rest.map fun v => v.category).sum ≤ 8) (hd : decode cc pc = .ok (.invokevirtual index, 3)) (kk : gG p l e R s m args below meth c nL D cl A0 H0 cells slots Q (wF n a g2) (pc + 3) lv (.int r :: rest)) : gG p l e R s m args below meth c nL D cl A0 H0 cells slots Q (wF n a g) pc lv st0 :=
  fun H locs ls hP hD hS hl => va_calli (va_runV (As := As) (rest := rest) ⟨C.1, C.2.1, C.2.2.2.2.2.2.1, C.2.2.2.2.1, C.2.2.2.1⟩ (hM H.size) (cwV As.length C.2.2.2.1 (gV_good hlk hin hse hini hco) rfl rfl rfl hdd hR) ⟨gPre_blind, by subst hb0; rw [← hc1]; exact va_recv C.2.2.2.2.2.2.2.1.1 hP hc0 (by rw [wF_get hk0, hg0]), gPre_of C hP hD⟩ rfl rfl hl.1 hst (lv_room hro) hd hf) hS (fun q _ h => g_free C hD hS q h) (g_free C hD hS) (fun r2 u t H1 locs1 ht hvm hw hB hz1 hk1 hS1 => by cases hw; exact kk H1 locs1 ls (by rw [← ht]; exact hB) (wF_D hD) hS1 hl)
theorem g_callV_l (C : gC p s m args meth c cc nL ret own D cl tys A0 H0) {y : MethodName} {bytes : ByteArray} {maxL index fr lo : Nat} {rt : Option FieldType} {rest st0 : List Value} {As : List Value} {b : Nat} {Cn : String} {q0 ci : Nat} {fs : List Value} {rc : vw_C} {r : Int64} (hM : KQ l D cl tys y bytes maxL rt fr lo (.ref b :: As) (wF n a g) (qL D cl (wF n a g2) r)) (hlk : Cond.methodLink own index y ∈ Wl) (hin : Cond.instanceMethod y ∈ Wl) (hse : Cond.selects y.cls y y ∈ Wl) (hini : Cond.initialized y.cls ∈ Wl) (hco : Cond.code y bytes maxL rt ∈ Wl) (hdd : y.cls = y.cls ∧ y.cls ≠ "java/lang/invoke/MethodHandle" ∧ y.cls ≠ "java/lang/invoke/VarHandle" ∧ (parseMethodDescriptor y.desc).map (fun d => d.parameters.length) = some As.length) (hk0 : q0 < n) (hb0 : b = a q0) (hg0 : g q0 = .inr (ci, fs)) (hc0 : cl[ci]? = some rc) (hc1 : rc.1 = y.cls) (hR : fr + 1 ≤ R.frames ∧ 8 + (maxL + 11) + lo ≤ R.locals) (hf : cells + 0 ≤ R.cells ∧ slots + 0 ≤ R.slots) (hst : st0 = As.reverse ++ .ref b :: rest) (hro : (rest.map fun v => v.category).sum ≤ 8) (hd : decode cc pc = .ok (.invokevirtual index, 3)) (kk : gG p l e R s m args below meth c nL D cl A0 H0 cells slots Q (wF n a g2) (pc + 3) lv (.long r :: rest)) : gG p l e R s m args below meth c nL D cl A0 H0 cells slots Q (wF n a g) pc lv st0 :=
  fun H locs ls hP hD hS hl => va_calll (va_runV (As := As) (rest := rest) ⟨C.1, C.2.1, C.2.2.2.2.2.2.1, C.2.2.2.2.1, C.2.2.2.1⟩ (hM H.size) (cwV As.length C.2.2.2.1 (gV_good hlk hin hse hini hco) rfl rfl rfl hdd hR) ⟨gPre_blind, by subst hb0; rw [← hc1]; exact va_recv C.2.2.2.2.2.2.2.1.1 hP hc0 (by rw [wF_get hk0, hg0]), gPre_of C hP hD⟩ rfl rfl hl.1 hst (lv_room hro) hd hf) hS (fun q _ h => g_free C hD hS q h) (g_free C hD hS) (fun r2 u t H1 locs1 ht hvm hw hB hz1 hk1 hS1 => by cases hw; exact kk H1 locs1 ls (by rw [← ht]; exact hB) (wF_D hD) hS1 hl)
theorem g_callV_v (C : gC p s m args meth c cc nL ret own D cl tys A0 H0) {y : MethodName} {bytes : ByteArray} {maxL index fr lo : Nat} {rt : Option FieldType} {rest st0 : List Value} {As : List Value} {b : Nat} {Cn : String} {q0 ci : Nat} {fs : List Value} {rc : vw_C}  (hM : KQ l D cl tys y bytes maxL rt fr lo (.ref b :: As) (wF n a g) (qV D cl (wF n a g2))) (hlk : Cond.methodLink own index y ∈ Wl) (hin : Cond.instanceMethod y ∈ Wl) (hse : Cond.selects y.cls y y ∈ Wl) (hini : Cond.initialized y.cls ∈ Wl) (hco : Cond.code y bytes maxL rt ∈ Wl) (hdd : y.cls = y.cls ∧ y.cls ≠ "java/lang/invoke/MethodHandle" ∧ y.cls ≠ "java/lang/invoke/VarHandle" ∧ (parseMethodDescriptor y.desc).map (fun d => d.parameters.length) = some As.length) (hk0 : q0 < n) (hb0 : b = a q0) (hg0 : g q0 = .inr (ci, fs)) (hc0 : cl[ci]? = some rc) (hc1 : rc.1 = y.cls) (hR : fr + 1 ≤ R.frames ∧ 8 + (maxL + 11) + lo ≤ R.locals) (hf : cells + 0 ≤ R.cells ∧ slots + 0 ≤ R.slots) (hst : st0 = As.reverse ++ .ref b :: rest) (hro : (rest.map fun v => v.category).sum ≤ 8) (hd : decode cc pc = .ok (.invokevirtual index, 3)) (kk : gG p l e R s m args below meth c nL D cl A0 H0 cells slots Q (wF n a g2) (pc + 3) lv rest) : gG p l e R s m args below meth c nL D cl A0 H0 cells slots Q (wF n a g) pc lv st0 :=
  fun H locs ls hP hD hS hl => va_callv (va_runV (As := As) (rest := rest) ⟨C.1, C.2.1, C.2.2.2.2.2.2.1, C.2.2.2.2.1, C.2.2.2.1⟩ (hM H.size) (cwV As.length C.2.2.2.1 (gV_good hlk hin hse hini hco) rfl rfl rfl hdd hR) ⟨gPre_blind, by subst hb0; rw [← hc1]; exact va_recv C.2.2.2.2.2.2.2.1.1 hP hc0 (by rw [wF_get hk0, hg0]), gPre_of C hP hD⟩ rfl rfl hl.1 hst (lv_room hro) hd hf) hS (fun q _ h => g_free C hD hS q h) (g_free C hD hS) (fun u t H1 locs1 ht hvm hw hB hz1 hk1 hS1 => kk H1 locs1 ls (by rw [← ht]; exact hB) (wF_D hD) hS1 hl)
theorem g_callS_i (C : gC p s m args meth c cc nL ret own D cl tys A0 H0) {y : MethodName} {bytes : ByteArray} {maxL index fr lo : Nat} {rt : Option FieldType} {rest st0 : List Value} {As : List Value} {r : Int32} (hM : KQ l D cl tys y bytes maxL rt fr lo As (wF n a g) (qI D cl (wF n a g2) r)) (hlk : Cond.methodLink own index y ∈ Wl) (hsa : Cond.static y ∈ Wl) (hini : Cond.initialized y.cls ∈ Wl) (hco : Cond.code y bytes maxL rt ∈ Wl) (hdd : y.cls ≠ "java/lang/invoke/MethodHandle" ∧ y.cls ≠ "java/lang/invoke/VarHandle" ∧ (parseMethodDescriptor y.desc).map (fun d => d.parameters.length) = some As.length) (hR : fr + 1 ≤ R.frames ∧ 8 + (maxL + 11) + lo ≤ R.locals) (hf : cells + 0 ≤ R.cells ∧ slots + 0 ≤ R.slots) (hst : st0 = As.reverse ++ rest) (hro : (rest.map fun v => v.category).sum ≤ 8) (hd : decode cc pc = .ok (.invokestatic index, 3)) (kk : gG p l e R s m args below meth c nL D cl A0 H0 cells slots Q (wF n a g2) (pc + 3) lv (.int r :: rest)) : gG p l e R s m args below meth c nL D cl A0 H0 cells slots Q (wF n a g) pc lv st0 :=
  fun H locs ls hP hD hS hl => va_calli (va_runS (As := As) (rest := rest) ⟨C.1, C.2.1, C.2.2.2.2.2.2.1, C.2.2.2.2.1, C.2.2.2.1⟩ (hM H.size) (va_cwS As.length C.2.2.2.1 (gS_good hlk hsa hini hco) rfl rfl rfl hdd hR) ⟨gPre_blind, gPre_of C hP hD⟩ rfl rfl hl.1 hst (lv_room hro) hd hf) hS (fun q _ h => g_free C hD hS q h) (g_free C hD hS) (fun r2 u t H1 locs1 ht hvm hw hB hz1 hk1 hS1 => by cases hw; exact kk H1 locs1 ls (by rw [← ht]; exact hB) (wF_D hD) hS1 hl)
theorem g_callS_l (C : gC p s m args meth c cc nL ret own D cl tys A0 H0) {y : MethodName} {bytes : ByteArray} {maxL index fr lo : Nat} {rt : Option FieldType} {rest st0 : List Value} {As : List Value} {r : Int64} (hM : KQ l D cl tys y bytes maxL rt fr lo As (wF n a g) (qL D cl (wF n a g2) r)) (hlk : Cond.methodLink own index y ∈ Wl) (hsa : Cond.static y ∈ Wl) (hini : Cond.initialized y.cls ∈ Wl) (hco : Cond.code y bytes maxL rt ∈ Wl) (hdd : y.cls ≠ "java/lang/invoke/MethodHandle" ∧ y.cls ≠ "java/lang/invoke/VarHandle" ∧ (parseMethodDescriptor y.desc).map (fun d => d.parameters.length) = some As.length) (hR : fr + 1 ≤ R.frames ∧ 8 + (maxL + 11) + lo ≤ R.locals) (hf : cells + 0 ≤ R.cells ∧ slots + 0 ≤ R.slots) (hst : st0 = As.reverse ++ rest) (hro : (rest.map fun v => v.category).sum ≤ 8) (hd : decode cc pc = .ok (.invokestatic index, 3)) (kk : gG p l e R s m args below meth c nL D cl A0 H0 cells slots Q (wF n a g2) (pc + 3) lv (.long r :: rest)) : gG p l e R s m args below meth c nL D cl A0 H0 cells slots Q (wF n a g) pc lv st0 :=
  fun H locs ls hP hD hS hl => va_calll (va_runS (As := As) (rest := rest) ⟨C.1, C.2.1, C.2.2.2.2.2.2.1, C.2.2.2.2.1, C.2.2.2.1⟩ (hM H.size) (va_cwS As.length C.2.2.2.1 (gS_good hlk hsa hini hco) rfl rfl rfl hdd hR) ⟨gPre_blind, gPre_of C hP hD⟩ rfl rfl hl.1 hst (lv_room hro) hd hf) hS (fun q _ h => g_free C hD hS q h) (g_free C hD hS) (fun r2 u t H1 locs1 ht hvm hw hB hz1 hk1 hS1 => by cases hw; exact kk H1 locs1 ls (by rw [← ht]; exact hB) (wF_D hD) hS1 hl)
theorem g_callS_v (C : gC p s m args meth c cc nL ret own D cl tys A0 H0) {y : MethodName} {bytes : ByteArray} {maxL index fr lo : Nat} {rt : Option FieldType} {rest st0 : List Value} {As : List Value}  (hM : KQ l D cl tys y bytes maxL rt fr lo As (wF n a g) (qV D cl (wF n a g2))) (hlk : Cond.methodLink own index y ∈ Wl) (hsa : Cond.static y ∈ Wl) (hini : Cond.initialized y.cls ∈ Wl) (hco : Cond.code y bytes maxL rt ∈ Wl) (hdd : y.cls ≠ "java/lang/invoke/MethodHandle" ∧ y.cls ≠ "java/lang/invoke/VarHandle" ∧ (parseMethodDescriptor y.desc).map (fun d => d.parameters.length) = some As.length) (hR : fr + 1 ≤ R.frames ∧ 8 + (maxL + 11) + lo ≤ R.locals) (hf : cells + 0 ≤ R.cells ∧ slots + 0 ≤ R.slots) (hst : st0 = As.reverse ++ rest) (hro : (rest.map fun v => v.category).sum ≤ 8) (hd : decode cc pc = .ok (.invokestatic index, 3)) (kk : gG p l e R s m args below meth c nL D cl A0 H0 cells slots Q (wF n a g2) (pc + 3) lv rest) : gG p l e R s m args below meth c nL D cl A0 H0 cells slots Q (wF n a g) pc lv st0 :=
  fun H locs ls hP hD hS hl => va_callv (va_runS (As := As) (rest := rest) ⟨C.1, C.2.1, C.2.2.2.2.2.2.1, C.2.2.2.2.1, C.2.2.2.1⟩ (hM H.size) (va_cwS As.length C.2.2.2.1 (gS_good hlk hsa hini hco) rfl rfl rfl hdd hR) ⟨gPre_blind, gPre_of C hP hD⟩ rfl rfl hl.1 hst (lv_room hro) hd hf) hS (fun q _ h => g_free C hD hS q h) (g_free C hD hS) (fun u t H1 locs1 ht hvm hw hB hz1 hk1 hS1 => kk H1 locs1 ls (by rw [← ht]; exact hB) (wF_D hD) hS1 hl)
theorem g_callS_q (C : gC p s m args meth c cc nL ret own D cl tys A0 H0) {y : MethodName} {bytes : ByteArray} {maxL index fr lo : Nat} {rt : Option FieldType} {rest st0 : List Value} {As : List Value} {r : Option Nat} (hM : KQ l D cl tys y bytes maxL rt fr lo As (wF n a g) (qR D cl (wF n a g2) r)) (hlk : Cond.methodLink own index y ∈ Wl) (hsa : Cond.static y ∈ Wl) (hini : Cond.initialized y.cls ∈ Wl) (hco : Cond.code y bytes maxL rt ∈ Wl) (hdd : y.cls ≠ "java/lang/invoke/MethodHandle" ∧ y.cls ≠ "java/lang/invoke/VarHandle" ∧ (parseMethodDescriptor y.desc).map (fun d => d.parameters.length) = some As.length) (hR : fr + 1 ≤ R.frames ∧ 8 + (maxL + 11) + lo ≤ R.locals) (hf : cells + 0 ≤ R.cells ∧ slots + 0 ≤ R.slots) (hst : st0 = As.reverse ++ rest) (hro : (rest.map fun v => v.category).sum ≤ 8) (hd : decode cc pc = .ok (.invokestatic index, 3)) (kk : gG p l e R s m args below meth c nL D cl A0 H0 cells slots Q (wF n a g2) (pc + 3) lv (va_rf r :: rest)) : gG p l e R s m args below meth c nL D cl A0 H0 cells slots Q (wF n a g) pc lv st0 :=
  fun H locs ls hP hD hS hl => va_callq (va_runS (As := As) (rest := rest) ⟨C.1, C.2.1, C.2.2.2.2.2.2.1, C.2.2.2.2.1, C.2.2.2.1⟩ (hM H.size) (va_cwS As.length C.2.2.2.1 (gS_good hlk hsa hini hco) rfl rfl rfl hdd hR) ⟨gPre_blind, gPre_of C hP hD⟩ rfl rfl hl.1 hst (lv_room hro) hd hf) hS (fun q _ h => g_free C hD hS q h) (g_free C hD hS) (fun r2 u t H1 locs1 ht hvm hw hB hz1 hk1 hS1 => by cases hw; exact kk H1 locs1 ls (by rw [← ht]; exact hB) (wF_D hD) hS1 hl)
theorem g_callN_i (C : gC p s m args meth c cc nL ret own D cl tys A0 H0) {y : MethodName} {bytes : ByteArray} {maxL index fr lo : Nat} {rt : Option FieldType} {rest st0 : List Value} {As : List Value} {host : String} {r : Int32} (hM : KQ l D cl tys y bytes maxL rt fr lo As (wF n a g) (qI D cl (wF n a g2) r)) (hnl : Cond.methodLinkNest own index y host ∈ Nl) (hsa : Cond.static y ∈ Wl) (hini : Cond.initialized y.cls ∈ Wl) (hco : Cond.code y bytes maxL rt ∈ Wl) (hdd : y.cls ≠ "java/lang/invoke/MethodHandle" ∧ y.cls ≠ "java/lang/invoke/VarHandle" ∧ (parseMethodDescriptor y.desc).map (fun d => d.parameters.length) = some As.length) (hR : fr + 1 ≤ R.frames ∧ 8 + (maxL + 11) + lo ≤ R.locals) (hf : cells + 0 ≤ R.cells ∧ slots + 0 ≤ R.slots) (hst : st0 = As.reverse ++ rest) (hro : (rest.map fun v => v.category).sum ≤ 8) (hd : decode cc pc = .ok (.invokestatic index, 3)) (kk : gG p l e R s m args below meth c nL D cl A0 H0 cells slots Q (wF n a g2) (pc + 3) lv (.int r :: rest)) : gG p l e R s m args below meth c nL D cl A0 H0 cells slots Q (wF n a g) pc lv st0 :=
  fun H locs ls hP hD hS hl => va_calli (va_runSN (As := As) (rest := rest) ⟨C.1, C.2.1, C.2.2.2.2.2.2.1, C.2.2.2.2.1, C.2.2.2.1⟩ (hM H.size) ⟨va_cnB As.length C.2.2.2.1 (gW_good hco) rfl rfl rfl (C.2.2.2.2.2.2.2.1.2 _ hnl) (C.2.2.2.1 _ hini) hdd hR, C.2.2.2.1 _ hsa, trivial⟩ ⟨gPre_blind, gPre_of C hP hD⟩ rfl rfl hl.1 hst (lv_room hro) hd hf) hS (fun q _ h => g_free C hD hS q h) (g_free C hD hS) (fun r2 u t H1 locs1 ht hvm hw hB hz1 hk1 hS1 => by cases hw; exact kk H1 locs1 ls (by rw [← ht]; exact hB) (wF_D hD) hS1 hl)
theorem g_callN_l (C : gC p s m args meth c cc nL ret own D cl tys A0 H0) {y : MethodName} {bytes : ByteArray} {maxL index fr lo : Nat} {rt : Option FieldType} {rest st0 : List Value} {As : List Value} {host : String} {r : Int64} (hM : KQ l D cl tys y bytes maxL rt fr lo As (wF n a g) (qL D cl (wF n a g2) r)) (hnl : Cond.methodLinkNest own index y host ∈ Nl) (hsa : Cond.static y ∈ Wl) (hini : Cond.initialized y.cls ∈ Wl) (hco : Cond.code y bytes maxL rt ∈ Wl) (hdd : y.cls ≠ "java/lang/invoke/MethodHandle" ∧ y.cls ≠ "java/lang/invoke/VarHandle" ∧ (parseMethodDescriptor y.desc).map (fun d => d.parameters.length) = some As.length) (hR : fr + 1 ≤ R.frames ∧ 8 + (maxL + 11) + lo ≤ R.locals) (hf : cells + 0 ≤ R.cells ∧ slots + 0 ≤ R.slots) (hst : st0 = As.reverse ++ rest) (hro : (rest.map fun v => v.category).sum ≤ 8) (hd : decode cc pc = .ok (.invokestatic index, 3)) (kk : gG p l e R s m args below meth c nL D cl A0 H0 cells slots Q (wF n a g2) (pc + 3) lv (.long r :: rest)) : gG p l e R s m args below meth c nL D cl A0 H0 cells slots Q (wF n a g) pc lv st0 :=
  fun H locs ls hP hD hS hl => va_calll (va_runSN (As := As) (rest := rest) ⟨C.1, C.2.1, C.2.2.2.2.2.2.1, C.2.2.2.2.1, C.2.2.2.1⟩ (hM H.size) ⟨va_cnB As.length C.2.2.2.1 (gW_good hco) rfl rfl rfl (C.2.2.2.2.2.2.2.1.2 _ hnl) (C.2.2.2.1 _ hini) hdd hR, C.2.2.2.1 _ hsa, trivial⟩ ⟨gPre_blind, gPre_of C hP hD⟩ rfl rfl hl.1 hst (lv_room hro) hd hf) hS (fun q _ h => g_free C hD hS q h) (g_free C hD hS) (fun r2 u t H1 locs1 ht hvm hw hB hz1 hk1 hS1 => by cases hw; exact kk H1 locs1 ls (by rw [← ht]; exact hB) (wF_D hD) hS1 hl)
theorem g_callN_v (C : gC p s m args meth c cc nL ret own D cl tys A0 H0) {y : MethodName} {bytes : ByteArray} {maxL index fr lo : Nat} {rt : Option FieldType} {rest st0 : List Value} {As : List Value} {host : String}  (hM : KQ l D cl tys y bytes maxL rt fr lo As (wF n a g) (qV D cl (wF n a g2))) (hnl : Cond.methodLinkNest own index y host ∈ Nl) (hsa : Cond.static y ∈ Wl) (hini : Cond.initialized y.cls ∈ Wl) (hco : Cond.code y bytes maxL rt ∈ Wl) (hdd : y.cls ≠ "java/lang/invoke/MethodHandle" ∧ y.cls ≠ "java/lang/invoke/VarHandle" ∧ (parseMethodDescriptor y.desc).map (fun d => d.parameters.length) = some As.length) (hR : fr + 1 ≤ R.frames ∧ 8 + (maxL + 11) + lo ≤ R.locals) (hf : cells + 0 ≤ R.cells ∧ slots + 0 ≤ R.slots) (hst : st0 = As.reverse ++ rest) (hro : (rest.map fun v => v.category).sum ≤ 8) (hd : decode cc pc = .ok (.invokestatic index, 3)) (kk : gG p l e R s m args below meth c nL D cl A0 H0 cells slots Q (wF n a g2) (pc + 3) lv rest) : gG p l e R s m args below meth c nL D cl A0 H0 cells slots Q (wF n a g) pc lv st0 :=
  fun H locs ls hP hD hS hl => va_callv (va_runSN (As := As) (rest := rest) ⟨C.1, C.2.1, C.2.2.2.2.2.2.1, C.2.2.2.2.1, C.2.2.2.1⟩ (hM H.size) ⟨va_cnB As.length C.2.2.2.1 (gW_good hco) rfl rfl rfl (C.2.2.2.2.2.2.2.1.2 _ hnl) (C.2.2.2.1 _ hini) hdd hR, C.2.2.2.1 _ hsa, trivial⟩ ⟨gPre_blind, gPre_of C hP hD⟩ rfl rfl hl.1 hst (lv_room hro) hd hf) hS (fun q _ h => g_free C hD hS q h) (g_free C hD hS) (fun u t H1 locs1 ht hvm hw hB hz1 hk1 hS1 => kk H1 locs1 ls (by rw [← ht]; exact hB) (wF_D hD) hS1 hl)
theorem g_callN_q (C : gC p s m args meth c cc nL ret own D cl tys A0 H0) {y : MethodName} {bytes : ByteArray} {maxL index fr lo : Nat} {rt : Option FieldType} {rest st0 : List Value} {As : List Value} {host : String} {r : Option Nat} (hM : KQ l D cl tys y bytes maxL rt fr lo As (wF n a g) (qR D cl (wF n a g2) r)) (hnl : Cond.methodLinkNest own index y host ∈ Nl) (hsa : Cond.static y ∈ Wl) (hini : Cond.initialized y.cls ∈ Wl) (hco : Cond.code y bytes maxL rt ∈ Wl) (hdd : y.cls ≠ "java/lang/invoke/MethodHandle" ∧ y.cls ≠ "java/lang/invoke/VarHandle" ∧ (parseMethodDescriptor y.desc).map (fun d => d.parameters.length) = some As.length) (hR : fr + 1 ≤ R.frames ∧ 8 + (maxL + 11) + lo ≤ R.locals) (hf : cells + 0 ≤ R.cells ∧ slots + 0 ≤ R.slots) (hst : st0 = As.reverse ++ rest) (hro : (rest.map fun v => v.category).sum ≤ 8) (hd : decode cc pc = .ok (.invokestatic index, 3)) (kk : gG p l e R s m args below meth c nL D cl A0 H0 cells slots Q (wF n a g2) (pc + 3) lv (va_rf r :: rest)) : gG p l e R s m args below meth c nL D cl A0 H0 cells slots Q (wF n a g) pc lv st0 :=
  fun H locs ls hP hD hS hl => va_callq (va_runSN (As := As) (rest := rest) ⟨C.1, C.2.1, C.2.2.2.2.2.2.1, C.2.2.2.2.1, C.2.2.2.1⟩ (hM H.size) ⟨va_cnB As.length C.2.2.2.1 (gW_good hco) rfl rfl rfl (C.2.2.2.2.2.2.2.1.2 _ hnl) (C.2.2.2.1 _ hini) hdd hR, C.2.2.2.1 _ hsa, trivial⟩ ⟨gPre_blind, gPre_of C hP hD⟩ rfl rfl hl.1 hst (lv_room hro) hd hf) hS (fun q _ h => g_free C hD hS q h) (g_free C hD hS) (fun r2 u t H1 locs1 ht hvm hw hB hz1 hk1 hS1 => by cases hw; exact kk H1 locs1 ls (by rw [← ht]; exact hB) (wF_D hD) hS1 hl)
end
end
section
abbrev vwCl : List vw_C := [(RX0, TX0, 4), (RX1, TX1, 3), (RX2, TX2, 7), (RX3, TX3, 7), (RX4, TX4, 2), (RX5, TX5, 2), (RX6, TX6, 8), (RX7, TX7, 31)]
abbrev tyW (cI cZ cS : ClassId) : List (ClassId × FieldType) := [(cI, .int), (cZ, .boolean), (cS, .object "FirstUmbrella$Scene")]
abbrev wC (a : Nat → Nat) (cI cS : ClassId) (M : MM) : va_W := wF 106 a (cC a cI cS M)
abbrev wD (a : Nat → Nat) (cI cZ : ClassId) (M : MM) : va_W := wF 16 a (cD a cI cZ M)
section
variable {p : Program} {l : Launch} {e : Env} {R : Room} {s : State} {m : MethodId} {args : Array Value} {below : List Frame} {meth : Method} {c : Code} {cells slots : Nat} {Q : State → Prop} {dC : Nat → ClassId} {dI : Nat → Nat → Nat} {A0 : Nat → Prop} {H0 : Heap} {cc : ByteArray} {nL : Nat} {ret : Option FieldType} {own : String} {pc : Nat} {lv : List (Nat × Value)} {st : List Value} {a : Nat → Nat} {cI cZ cS : ClassId} {M : MM}
theorem rg_X0_streets (C : gC p s m args meth c cc nL ret RX0 (dC, dI) vwCl (tyW cI cZ cS) A0 H0) (hd : decode cc pc = .ok (.getfield 9, 3)) (kk : gG p l e R s m args below meth c nL (dC, dI) vwCl A0 H0 cells slots Q (wC a cI cS M) (pc + 3) lv (.ref (a 14) :: st)) : gG p l e R s m args below meth c nL (dC, dI) vwCl A0 H0 cells slots Q (wC a cI cS M) pc lv (.ref (a 13) :: st) :=
  g_getf C (k := 13) (by decide) (rfl) rfl 0 (by decide) wu_X0 wl_163 rfl hd kk
theorem rg_X0_hours (C : gC p s m args meth c cc nL ret RX0 (dC, dI) vwCl (tyW cI cZ cS) A0 H0) (hd : decode cc pc = .ok (.getfield 15, 3)) (kk : gG p l e R s m args below meth c nL (dC, dI) vwCl A0 H0 cells slots Q (wC a cI cS M) (pc + 3) lv (.ref (a 15) :: st)) : gG p l e R s m args below meth c nL (dC, dI) vwCl A0 H0 cells slots Q (wC a cI cS M) pc lv (.ref (a 13) :: st) :=
  g_getf C (k := 13) (by decide) (rfl) rfl 1 (by decide) wu_X0 wl_164 rfl hd kk
theorem rg_X0_rains (C : gC p s m args meth c cc nL ret RX0 (dC, dI) vwCl (tyW cI cZ cS) A0 H0) (hd : decode cc pc = .ok (.getfield 22, 3)) (kk : gG p l e R s m args below meth c nL (dC, dI) vwCl A0 H0 cells slots Q (wC a cI cS M) (pc + 3) lv (.int (M.1 0 6) :: st)) : gG p l e R s m args below meth c nL (dC, dI) vwCl A0 H0 cells slots Q (wC a cI cS M) pc lv (.ref (a 13) :: st) :=
  g_getf C (k := 13) (by decide) (rfl) rfl 2 (by decide) wu_X0 wl_165 rfl hd kk
theorem rp_X0_rains (C : gC p s m args meth c cc nL ret RX0 (dC, dI) vwCl (tyW cI cZ cS) A0 H0) {v : Int32} (hd : decode cc pc = .ok (.putfield 22, 3)) (kk : gG p l e R s m args below meth c nL (dC, dI) vwCl A0 H0 cells slots Q (wC a cI cS (mU M 0 6 v)) (pc + 3) lv st) : gG p l e R s m args below meth c nL (dC, dI) vwCl A0 H0 cells slots Q (wC a cI cS M) pc lv (.int v :: .ref (a 13) :: st) :=
  g_putf C (k := 13) (by decide) (rfl) rfl tyX0 tyX0_ok nmX0 2 (by decide) wu_X0 wl_165 rfl (ty := .int) rfl rfl rfl (Nat.le_of_ble_eq_true rfl) (cC_put (by unfold own; omega) (by exact ve_rf _)) hd kk
theorem rg_X0_count (C : gC p s m args meth c cc nL ret RX0 (dC, dI) vwCl (tyW cI cZ cS) A0 H0) (hd : decode cc pc = .ok (.getfield 18, 3)) (kk : gG p l e R s m args below meth c nL (dC, dI) vwCl A0 H0 cells slots Q (wC a cI cS M) (pc + 3) lv (.int (M.1 0 7) :: st)) : gG p l e R s m args below meth c nL (dC, dI) vwCl A0 H0 cells slots Q (wC a cI cS M) pc lv (.ref (a 13) :: st) :=
  g_getf C (k := 13) (by decide) (rfl) rfl 3 (by decide) wu_X0 wl_166 rfl hd kk
theorem rp_X0_count (C : gC p s m args meth c cc nL ret RX0 (dC, dI) vwCl (tyW cI cZ cS) A0 H0) {v : Int32} (hd : decode cc pc = .ok (.putfield 18, 3)) (kk : gG p l e R s m args below meth c nL (dC, dI) vwCl A0 H0 cells slots Q (wC a cI cS (mU M 0 7 v)) (pc + 3) lv st) : gG p l e R s m args below meth c nL (dC, dI) vwCl A0 H0 cells slots Q (wC a cI cS M) pc lv (.int v :: .ref (a 13) :: st) :=
  g_putf C (k := 13) (by decide) (rfl) rfl tyX0 tyX0_ok nmX0 3 (by decide) wu_X0 wl_166 rfl (ty := .int) rfl rfl rfl (Nat.le_of_ble_eq_true rfl) (cC_put (by unfold own; omega) (by exact ve_rf _)) hd kk
theorem rg_X1_found (C : gC p s m args meth c cc nL ret RX1 (dC, dI) vwCl (tyW cI cZ cS) A0 H0) (hd : decode cc pc = .ok (.getfield 13, 3)) (kk : gG p l e R s m args below meth c nL (dC, dI) vwCl A0 H0 cells slots Q (wC a cI cS M) (pc + 3) lv (.ref (a 10) :: st)) : gG p l e R s m args below meth c nL (dC, dI) vwCl A0 H0 cells slots Q (wC a cI cS M) pc lv (.ref (a 9) :: st) :=
  g_getf C (k := 9) (by decide) (rfl) rfl 0 (by decide) wu_X1 wl_133 rfl hd kk
theorem rg_X1_first (C : gC p s m args meth c cc nL ret RX1 (dC, dI) vwCl (tyW cI cZ cS) A0 H0) (hd : decode cc pc = .ok (.getfield 23, 3)) (kk : gG p l e R s m args below meth c nL (dC, dI) vwCl A0 H0 cells slots Q (wC a cI cS M) (pc + 3) lv (.int (M.1 0 3) :: st)) : gG p l e R s m args below meth c nL (dC, dI) vwCl A0 H0 cells slots Q (wC a cI cS M) pc lv (.ref (a 9) :: st) :=
  g_getf C (k := 9) (by decide) (rfl) rfl 1 (by decide) wu_X1 wl_134 rfl hd kk
theorem rp_X1_first (C : gC p s m args meth c cc nL ret RX1 (dC, dI) vwCl (tyW cI cZ cS) A0 H0) {v : Int32} (hd : decode cc pc = .ok (.putfield 23, 3)) (kk : gG p l e R s m args below meth c nL (dC, dI) vwCl A0 H0 cells slots Q (wC a cI cS (mU M 0 3 v)) (pc + 3) lv st) : gG p l e R s m args below meth c nL (dC, dI) vwCl A0 H0 cells slots Q (wC a cI cS M) pc lv (.int v :: .ref (a 9) :: st) :=
  g_putf C (k := 9) (by decide) (rfl) rfl tyX1 tyX1_ok nmX1 1 (by decide) wu_X1 wl_134 rfl (ty := .int) rfl rfl rfl (Nat.le_of_ble_eq_true rfl) (cC_put (by unfold own; omega) (by exact ve_rf _)) hd kk
theorem rg_X1_count (C : gC p s m args meth c cc nL ret RX1 (dC, dI) vwCl (tyW cI cZ cS) A0 H0) (hd : decode cc pc = .ok (.getfield 19, 3)) (kk : gG p l e R s m args below meth c nL (dC, dI) vwCl A0 H0 cells slots Q (wC a cI cS M) (pc + 3) lv (.int (M.1 0 4) :: st)) : gG p l e R s m args below meth c nL (dC, dI) vwCl A0 H0 cells slots Q (wC a cI cS M) pc lv (.ref (a 9) :: st) :=
  g_getf C (k := 9) (by decide) (rfl) rfl 2 (by decide) wu_X1 wl_135 rfl hd kk
theorem rp_X1_count (C : gC p s m args meth c cc nL ret RX1 (dC, dI) vwCl (tyW cI cZ cS) A0 H0) {v : Int32} (hd : decode cc pc = .ok (.putfield 19, 3)) (kk : gG p l e R s m args below meth c nL (dC, dI) vwCl A0 H0 cells slots Q (wC a cI cS (mU M 0 4 v)) (pc + 3) lv st) : gG p l e R s m args below meth c nL (dC, dI) vwCl A0 H0 cells slots Q (wC a cI cS M) pc lv (.int v :: .ref (a 9) :: st) :=
  g_putf C (k := 9) (by decide) (rfl) rfl tyX1 tyX1_ok nmX1 2 (by decide) wu_X1 wl_135 rfl (ty := .int) rfl rfl rfl (Nat.le_of_ble_eq_true rfl) (cC_put (by unfold own; omega) (by exact ve_rf _)) hd kk
theorem rg_X2_walkers (C : gC p s m args meth c cc nL ret RX2 (dC, dI) vwCl (tyW cI cZ cS) A0 H0) (hd : decode cc pc = .ok (.getfield 27, 3)) (kk : gG p l e R s m args below meth c nL (dC, dI) vwCl A0 H0 cells slots Q (wC a cI cS M) (pc + 3) lv (.int (M.1 0 1) :: st)) : gG p l e R s m args below meth c nL (dC, dI) vwCl A0 H0 cells slots Q (wC a cI cS M) pc lv (.ref (a 3) :: st) :=
  g_getf C (k := 3) (by decide) (rfl) rfl 0 (by decide) wu_X2 wl_73 rfl hd kk
theorem rp_X2_walkers (C : gC p s m args meth c cc nL ret RX2 (dC, dI) vwCl (tyW cI cZ cS) A0 H0) {v : Int32} (hd : decode cc pc = .ok (.putfield 27, 3)) (kk : gG p l e R s m args below meth c nL (dC, dI) vwCl A0 H0 cells slots Q (wC a cI cS (mU M 0 1 v)) (pc + 3) lv st) : gG p l e R s m args below meth c nL (dC, dI) vwCl A0 H0 cells slots Q (wC a cI cS M) pc lv (.int v :: .ref (a 3) :: st) :=
  g_putf C (k := 3) (by decide) (rfl) rfl tyX2 tyX2_ok nmX2 0 (by decide) wu_X2 wl_73 rfl (ty := .int) rfl rfl rfl (Nat.le_of_ble_eq_true rfl) (cC_put (by unfold own; omega) (by exact ve_rf _)) hd kk
theorem rg_X2_needs (C : gC p s m args meth c cc nL ret RX2 (dC, dI) vwCl (tyW cI cZ cS) A0 H0) (hd : decode cc pc = .ok (.getfield 31, 3)) (kk : gG p l e R s m args below meth c nL (dC, dI) vwCl A0 H0 cells slots Q (wC a cI cS M) (pc + 3) lv (.int (M.1 0 2) :: st)) : gG p l e R s m args below meth c nL (dC, dI) vwCl A0 H0 cells slots Q (wC a cI cS M) pc lv (.ref (a 3) :: st) :=
  g_getf C (k := 3) (by decide) (rfl) rfl 1 (by decide) wu_X2 wl_74 rfl hd kk
theorem rp_X2_needs (C : gC p s m args meth c cc nL ret RX2 (dC, dI) vwCl (tyW cI cZ cS) A0 H0) {v : Int32} (hd : decode cc pc = .ok (.putfield 31, 3)) (kk : gG p l e R s m args below meth c nL (dC, dI) vwCl A0 H0 cells slots Q (wC a cI cS (mU M 0 2 v)) (pc + 3) lv st) : gG p l e R s m args below meth c nL (dC, dI) vwCl A0 H0 cells slots Q (wC a cI cS M) pc lv (.int v :: .ref (a 3) :: st) :=
  g_putf C (k := 3) (by decide) (rfl) rfl tyX2 tyX2_ok nmX2 1 (by decide) wu_X2 wl_74 rfl (ty := .int) rfl rfl rfl (Nat.le_of_ble_eq_true rfl) (cC_put (by unfold own; omega) (by exact ve_rf _)) hd kk
theorem rg_X2_homes (C : gC p s m args meth c cc nL ret RX2 (dC, dI) vwCl (tyW cI cZ cS) A0 H0) (hd : decode cc pc = .ok (.getfield 9, 3)) (kk : gG p l e R s m args below meth c nL (dC, dI) vwCl A0 H0 cells slots Q (wC a cI cS M) (pc + 3) lv (.ref (a 4) :: st)) : gG p l e R s m args below meth c nL (dC, dI) vwCl A0 H0 cells slots Q (wC a cI cS M) pc lv (.ref (a 3) :: st) :=
  g_getf C (k := 3) (by decide) (rfl) rfl 2 (by decide) wu_X2 wl_75 rfl hd kk
theorem rg_X2_stuffs (C : gC p s m args meth c cc nL ret RX2 (dC, dI) vwCl (tyW cI cZ cS) A0 H0) (hd : decode cc pc = .ok (.getfield 15, 3)) (kk : gG p l e R s m args below meth c nL (dC, dI) vwCl A0 H0 cells slots Q (wC a cI cS M) (pc + 3) lv (.ref (a 5) :: st)) : gG p l e R s m args below meth c nL (dC, dI) vwCl A0 H0 cells slots Q (wC a cI cS M) pc lv (.ref (a 3) :: st) :=
  g_getf C (k := 3) (by decide) (rfl) rfl 3 (by decide) wu_X2 wl_76 rfl hd kk
theorem rg_X2_needStreets (C : gC p s m args meth c cc nL ret RX2 (dC, dI) vwCl (tyW cI cZ cS) A0 H0) (hd : decode cc pc = .ok (.getfield 18, 3)) (kk : gG p l e R s m args below meth c nL (dC, dI) vwCl A0 H0 cells slots Q (wC a cI cS M) (pc + 3) lv (.ref (a 6) :: st)) : gG p l e R s m args below meth c nL (dC, dI) vwCl A0 H0 cells slots Q (wC a cI cS M) pc lv (.ref (a 3) :: st) :=
  g_getf C (k := 3) (by decide) (rfl) rfl 4 (by decide) wu_X2 wl_77 rfl hd kk
theorem rg_X2_needSorts (C : gC p s m args meth c cc nL ret RX2 (dC, dI) vwCl (tyW cI cZ cS) A0 H0) (hd : decode cc pc = .ok (.getfield 21, 3)) (kk : gG p l e R s m args below meth c nL (dC, dI) vwCl A0 H0 cells slots Q (wC a cI cS M) (pc + 3) lv (.ref (a 7) :: st)) : gG p l e R s m args below meth c nL (dC, dI) vwCl A0 H0 cells slots Q (wC a cI cS M) pc lv (.ref (a 3) :: st) :=
  g_getf C (k := 3) (by decide) (rfl) rfl 5 (by decide) wu_X2 wl_78 rfl hd kk
theorem rg_X2_needFigures (C : gC p s m args meth c cc nL ret RX2 (dC, dI) vwCl (tyW cI cZ cS) A0 H0) (hd : decode cc pc = .ok (.getfield 24, 3)) (kk : gG p l e R s m args below meth c nL (dC, dI) vwCl A0 H0 cells slots Q (wC a cI cS M) (pc + 3) lv (.ref (a 8) :: st)) : gG p l e R s m args below meth c nL (dC, dI) vwCl A0 H0 cells slots Q (wC a cI cS M) pc lv (.ref (a 3) :: st) :=
  g_getf C (k := 3) (by decide) (rfl) rfl 6 (by decide) wu_X2 wl_79 rfl hd kk
theorem rg_X3_plan (C : gC p s m args meth c cc nL ret RX3 (dC, dI) vwCl (tyW cI cZ cS) A0 H0) (i : Nat) (hi : i < 18) (hd : decode cc pc = .ok (.getfield 24, 3)) (kk : gG p l e R s m args below meth c nL (dC, dI) vwCl A0 H0 cells slots Q (wC a cI cS M) (pc + 3) lv (.ref (a 3) :: st)) : gG p l e R s m args below meth c nL (dC, dI) vwCl A0 H0 cells slots Q (wC a cI cS M) pc lv (.ref (a (16 + 5 * i)) :: st) :=
  g_getf C (k := (16 + 5 * i)) (by omega) (cC_sc i) rfl 0 (by decide) wu_X3 wl_101 rfl hd kk
theorem rg_X3_places (C : gC p s m args meth c cc nL ret RX3 (dC, dI) vwCl (tyW cI cZ cS) A0 H0) (i : Nat) (hi : i < 18) (hd : decode cc pc = .ok (.getfield 9, 3)) (kk : gG p l e R s m args below meth c nL (dC, dI) vwCl A0 H0 cells slots Q (wC a cI cS M) (pc + 3) lv (.ref (a (16 + 5 * i + 1)) :: st)) : gG p l e R s m args below meth c nL (dC, dI) vwCl A0 H0 cells slots Q (wC a cI cS M) pc lv (.ref (a (16 + 5 * i)) :: st) :=
  g_getf C (k := (16 + 5 * i)) (by omega) (cC_sc i) rfl 1 (by decide) wu_X3 wl_102 rfl hd kk
theorem rg_X3_lasts (C : gC p s m args meth c cc nL ret RX3 (dC, dI) vwCl (tyW cI cZ cS) A0 H0) (i : Nat) (hi : i < 18) (hd : decode cc pc = .ok (.getfield 15, 3)) (kk : gG p l e R s m args below meth c nL (dC, dI) vwCl A0 H0 cells slots Q (wC a cI cS M) (pc + 3) lv (.ref (a (16 + 5 * i + 2)) :: st)) : gG p l e R s m args below meth c nL (dC, dI) vwCl A0 H0 cells slots Q (wC a cI cS M) pc lv (.ref (a (16 + 5 * i)) :: st) :=
  g_getf C (k := (16 + 5 * i)) (by omega) (cC_sc i) rfl 2 (by decide) wu_X3 wl_103 rfl hd kk
theorem rg_X3_wetness (C : gC p s m args meth c cc nL ret RX3 (dC, dI) vwCl (tyW cI cZ cS) A0 H0) (i : Nat) (hi : i < 18) (hd : decode cc pc = .ok (.getfield 18, 3)) (kk : gG p l e R s m args below meth c nL (dC, dI) vwCl A0 H0 cells slots Q (wC a cI cS M) (pc + 3) lv (.ref (a (16 + 5 * i + 3)) :: st)) : gG p l e R s m args below meth c nL (dC, dI) vwCl A0 H0 cells slots Q (wC a cI cS M) pc lv (.ref (a (16 + 5 * i)) :: st) :=
  g_getf C (k := (16 + 5 * i)) (by omega) (cC_sc i) rfl 3 (by decide) wu_X3 wl_104 rfl hd kk
theorem rg_X3_fates (C : gC p s m args meth c cc nL ret RX3 (dC, dI) vwCl (tyW cI cZ cS) A0 H0) (i : Nat) (hi : i < 18) (hd : decode cc pc = .ok (.getfield 21, 3)) (kk : gG p l e R s m args below meth c nL (dC, dI) vwCl A0 H0 cells slots Q (wC a cI cS M) (pc + 3) lv (.ref (a (16 + 5 * i + 4)) :: st)) : gG p l e R s m args below meth c nL (dC, dI) vwCl A0 H0 cells slots Q (wC a cI cS M) pc lv (.ref (a (16 + 5 * i)) :: st) :=
  g_getf C (k := (16 + 5 * i)) (by omega) (cC_sc i) rfl 4 (by decide) wu_X3 wl_105 rfl hd kk
theorem rg_X3_opened (C : gC p s m args meth c cc nL ret RX3 (dC, dI) vwCl (tyW cI cZ cS) A0 H0) (i : Nat) (hi : i < 18) (hd : decode cc pc = .ok (.getfield 40, 3)) (kk : gG p l e R s m args below meth c nL (dC, dI) vwCl A0 H0 cells slots Q (wC a cI cS M) (pc + 3) lv (.int (M.1 (9 + i) 5) :: st)) : gG p l e R s m args below meth c nL (dC, dI) vwCl A0 H0 cells slots Q (wC a cI cS M) pc lv (.ref (a (16 + 5 * i)) :: st) :=
  g_getf C (k := (16 + 5 * i)) (by omega) (cC_sc i) rfl 5 (by decide) wu_X3 wl_106 rfl hd kk
theorem rp_X3_opened (C : gC p s m args meth c cc nL ret RX3 (dC, dI) vwCl (tyW cI cZ cS) A0 H0) (i : Nat) (hi : i < 18) {v : Int32} (hd : decode cc pc = .ok (.putfield 40, 3)) (kk : gG p l e R s m args below meth c nL (dC, dI) vwCl A0 H0 cells slots Q (wC a cI cS (mU M (9 + i) 5 v)) (pc + 3) lv st) : gG p l e R s m args below meth c nL (dC, dI) vwCl A0 H0 cells slots Q (wC a cI cS M) pc lv (.int v :: .ref (a (16 + 5 * i)) :: st) :=
  g_putf C (k := (16 + 5 * i)) (by omega) (cC_sc i) rfl tyX3 tyX3_ok nmX3 5 (by decide) wu_X3 wl_106 rfl (ty := .int) rfl rfl rfl (Nat.le_of_ble_eq_true rfl) (cC_put (by unfold own; omega) (by rw [cC_sc, mU_at, mU_ne (by omega)]; exact ve_rf _)) hd kk
theorem rg_X3_time (C : gC p s m args meth c cc nL ret RX3 (dC, dI) vwCl (tyW cI cZ cS) A0 H0) (i : Nat) (hi : i < 18) (hd : decode cc pc = .ok (.getfield 44, 3)) (kk : gG p l e R s m args below meth c nL (dC, dI) vwCl A0 H0 cells slots Q (wC a cI cS M) (pc + 3) lv (.int (M.1 (9 + i) 23) :: st)) : gG p l e R s m args below meth c nL (dC, dI) vwCl A0 H0 cells slots Q (wC a cI cS M) pc lv (.ref (a (16 + 5 * i)) :: st) :=
  g_getf C (k := (16 + 5 * i)) (by omega) (cC_sc i) rfl 6 (by decide) wu_X3 wl_107 rfl hd kk
theorem rp_X3_time (C : gC p s m args meth c cc nL ret RX3 (dC, dI) vwCl (tyW cI cZ cS) A0 H0) (i : Nat) (hi : i < 18) {v : Int32} (hd : decode cc pc = .ok (.putfield 44, 3)) (kk : gG p l e R s m args below meth c nL (dC, dI) vwCl A0 H0 cells slots Q (wC a cI cS (mU M (9 + i) 23 v)) (pc + 3) lv st) : gG p l e R s m args below meth c nL (dC, dI) vwCl A0 H0 cells slots Q (wC a cI cS M) pc lv (.int v :: .ref (a (16 + 5 * i)) :: st) :=
  g_putf C (k := (16 + 5 * i)) (by omega) (cC_sc i) rfl tyX3 tyX3_ok nmX3 6 (by decide) wu_X3 wl_107 rfl (ty := .int) rfl rfl rfl (Nat.le_of_ble_eq_true rfl) (cC_put (by unfold own; omega) (by rw [cC_sc, mU_at, mU_ne (by omega)]; exact ve_rf _)) hd kk
theorem rg_X4_bytes (C : gC p s m args meth c cc nL ret RX4 (dC, dI) vwCl (tyW cI cZ cS) A0 H0) (hd : decode cc pc = .ok (.getfield 9, 3)) (kk : gG p l e R s m args below meth c nL (dC, dI) vwCl A0 H0 cells slots Q (wC a cI cS M) (pc + 3) lv (.ref (a 2) :: st)) : gG p l e R s m args below meth c nL (dC, dI) vwCl A0 H0 cells slots Q (wC a cI cS M) pc lv (.ref (a 1) :: st) :=
  g_getf C (k := 1) (by decide) (rfl) rfl 0 (by decide) wu_X4 wl_59 rfl hd kk
theorem rg_X4_length (C : gC p s m args meth c cc nL ret RX4 (dC, dI) vwCl (tyW cI cZ cS) A0 H0) (hd : decode cc pc = .ok (.getfield 15, 3)) (kk : gG p l e R s m args below meth c nL (dC, dI) vwCl A0 H0 cells slots Q (wC a cI cS M) (pc + 3) lv (.int (M.1 0 0) :: st)) : gG p l e R s m args below meth c nL (dC, dI) vwCl A0 H0 cells slots Q (wC a cI cS M) pc lv (.ref (a 1) :: st) :=
  g_getf C (k := 1) (by decide) (rfl) rfl 1 (by decide) wu_X4 wl_60 rfl hd kk
theorem rp_X4_length (C : gC p s m args meth c cc nL ret RX4 (dC, dI) vwCl (tyW cI cZ cS) A0 H0) {v : Int32} (hd : decode cc pc = .ok (.putfield 15, 3)) (kk : gG p l e R s m args below meth c nL (dC, dI) vwCl A0 H0 cells slots Q (wC a cI cS (mU M 0 0 v)) (pc + 3) lv st) : gG p l e R s m args below meth c nL (dC, dI) vwCl A0 H0 cells slots Q (wC a cI cS M) pc lv (.int v :: .ref (a 1) :: st) :=
  g_putf C (k := 1) (by decide) (rfl) rfl tyX4 tyX4_ok nmX4 1 (by decide) wu_X4 wl_60 rfl (ty := .int) rfl rfl rfl (Nat.le_of_ble_eq_true rfl) (cC_put (by unfold own; omega) (by exact ve_rf _)) hd kk
theorem rg_X5_stored (C : gC p s m args meth c cc nL ret RX5 (dC, dI) vwCl (tyW cI cZ cS) A0 H0) (hd : decode cc pc = .ok (.getfield 13, 3)) (kk : gG p l e R s m args below meth c nL (dC, dI) vwCl A0 H0 cells slots Q (wC a cI cS M) (pc + 3) lv (.ref (a 12) :: st)) : gG p l e R s m args below meth c nL (dC, dI) vwCl A0 H0 cells slots Q (wC a cI cS M) pc lv (.ref (a 11) :: st) :=
  g_getf C (k := 11) (by decide) (rfl) rfl 0 (by decide) wu_X5 wl_150 rfl hd kk
theorem rg_X5_used (C : gC p s m args meth c cc nL ret RX5 (dC, dI) vwCl (tyW cI cZ cS) A0 H0) (hd : decode cc pc = .ok (.getfield 19, 3)) (kk : gG p l e R s m args below meth c nL (dC, dI) vwCl A0 H0 cells slots Q (wC a cI cS M) (pc + 3) lv (.int (M.1 0 5) :: st)) : gG p l e R s m args below meth c nL (dC, dI) vwCl A0 H0 cells slots Q (wC a cI cS M) pc lv (.ref (a 11) :: st) :=
  g_getf C (k := 11) (by decide) (rfl) rfl 1 (by decide) wu_X5 wl_151 rfl hd kk
theorem rp_X5_used (C : gC p s m args meth c cc nL ret RX5 (dC, dI) vwCl (tyW cI cZ cS) A0 H0) {v : Int32} (hd : decode cc pc = .ok (.putfield 19, 3)) (kk : gG p l e R s m args below meth c nL (dC, dI) vwCl A0 H0 cells slots Q (wC a cI cS (mU M 0 5 v)) (pc + 3) lv st) : gG p l e R s m args below meth c nL (dC, dI) vwCl A0 H0 cells slots Q (wC a cI cS M) pc lv (.int v :: .ref (a 11) :: st) :=
  g_putf C (k := 11) (by decide) (rfl) rfl tyX5 tyX5_ok nmX5 1 (by decide) wu_X5 wl_151 rfl (ty := .int) rfl rfl rfl (Nat.le_of_ble_eq_true rfl) (cC_put (by unfold own; omega) (by exact ve_rf _)) hd kk
theorem rg_X6_script (C : gC p s m args meth c cc nL ret RX6 (dC, dI) vwCl (tyW cI cZ cS) A0 H0) (hd : decode cc pc = .ok (.getfield 12, 3)) (kk : gG p l e R s m args below meth c nL (dC, dI) vwCl A0 H0 cells slots Q (wC a cI cS M) (pc + 3) lv (.ref (a 1) :: st)) : gG p l e R s m args below meth c nL (dC, dI) vwCl A0 H0 cells slots Q (wC a cI cS M) pc lv (.ref (a 0) :: st) :=
  g_getf C (k := 0) (by decide) (rfl) rfl 0 (by decide) wu_X6 wl_176 rfl hd kk
theorem rg_X6_plan (C : gC p s m args meth c cc nL ret RX6 (dC, dI) vwCl (tyW cI cZ cS) A0 H0) (hd : decode cc pc = .ok (.getfield 19, 3)) (kk : gG p l e R s m args below meth c nL (dC, dI) vwCl A0 H0 cells slots Q (wC a cI cS M) (pc + 3) lv (.ref (a 3) :: st)) : gG p l e R s m args below meth c nL (dC, dI) vwCl A0 H0 cells slots Q (wC a cI cS M) pc lv (.ref (a 0) :: st) :=
  g_getf C (k := 0) (by decide) (rfl) rfl 1 (by decide) wu_X6 wl_177 rfl hd kk
theorem rg_X6_now (C : gC p s m args meth c cc nL ret RX6 (dC, dI) vwCl (tyW cI cZ cS) A0 H0) (hd : decode cc pc = .ok (.getfield 28, 3)) (kk : gG p l e R s m args below meth c nL (dC, dI) vwCl A0 H0 cells slots Q (wC a cI cS M) (pc + 3) lv (.ref (a 16) :: st)) : gG p l e R s m args below meth c nL (dC, dI) vwCl A0 H0 cells slots Q (wC a cI cS M) pc lv (.ref (a 0) :: st) :=
  g_getf C (k := 0) (by decide) (rfl) rfl 2 (by decide) wu_X6 wl_178 rfl hd kk
theorem rg_X6_trial (C : gC p s m args meth c cc nL ret RX6 (dC, dI) vwCl (tyW cI cZ cS) A0 H0) (hd : decode cc pc = .ok (.getfield 32, 3)) (kk : gG p l e R s m args below meth c nL (dC, dI) vwCl A0 H0 cells slots Q (wC a cI cS M) (pc + 3) lv (.ref (a 21) :: st)) : gG p l e R s m args below meth c nL (dC, dI) vwCl A0 H0 cells slots Q (wC a cI cS M) pc lv (.ref (a 0) :: st) :=
  g_getf C (k := 0) (by decide) (rfl) rfl 3 (by decide) wu_X6 wl_179 rfl hd kk
theorem rg_X6_past (C : gC p s m args meth c cc nL ret RX6 (dC, dI) vwCl (tyW cI cZ cS) A0 H0) (hd : decode cc pc = .ok (.getfield 38, 3)) (kk : gG p l e R s m args below meth c nL (dC, dI) vwCl A0 H0 cells slots Q (wC a cI cS M) (pc + 3) lv (.ref (a 9) :: st)) : gG p l e R s m args below meth c nL (dC, dI) vwCl A0 H0 cells slots Q (wC a cI cS M) pc lv (.ref (a 0) :: st) :=
  g_getf C (k := 0) (by decide) (rfl) rfl 4 (by decide) wu_X6 wl_180 rfl hd kk
theorem rg_X6_slots (C : gC p s m args meth c cc nL ret RX6 (dC, dI) vwCl (tyW cI cZ cS) A0 H0) (hd : decode cc pc = .ok (.getfield 45, 3)) (kk : gG p l e R s m args below meth c nL (dC, dI) vwCl A0 H0 cells slots Q (wC a cI cS M) (pc + 3) lv (.ref (a 11) :: st)) : gG p l e R s m args below meth c nL (dC, dI) vwCl A0 H0 cells slots Q (wC a cI cS M) pc lv (.ref (a 0) :: st) :=
  g_getf C (k := 0) (by decide) (rfl) rfl 5 (by decide) wu_X6 wl_181 rfl hd kk
theorem rg_X6_felt (C : gC p s m args meth c cc nL ret RX6 (dC, dI) vwCl (tyW cI cZ cS) A0 H0) (hd : decode cc pc = .ok (.getfield 52, 3)) (kk : gG p l e R s m args below meth c nL (dC, dI) vwCl A0 H0 cells slots Q (wC a cI cS M) (pc + 3) lv (.ref (a 13) :: st)) : gG p l e R s m args below meth c nL (dC, dI) vwCl A0 H0 cells slots Q (wC a cI cS M) pc lv (.ref (a 0) :: st) :=
  g_getf C (k := 0) (by decide) (rfl) rfl 6 (by decide) wu_X6 wl_182 rfl hd kk
theorem rg_X6_seedNow (C : gC p s m args meth c cc nL ret RX6 (dC, dI) vwCl (tyW cI cZ cS) A0 H0) (hd : decode cc pc = .ok (.getfield 236, 3)) (kk : gG p l e R s m args below meth c nL (dC, dI) vwCl A0 H0 cells slots Q (wC a cI cS M) (pc + 3) lv (.long M.2 :: st)) : gG p l e R s m args below meth c nL (dC, dI) vwCl A0 H0 cells slots Q (wC a cI cS M) pc lv (.ref (a 0) :: st) :=
  g_getf C (k := 0) (by decide) (rfl) rfl 7 (by decide) wu_X6 wl_183 rfl hd kk
theorem rp_X6_seedNow (C : gC p s m args meth c cc nL ret RX6 (dC, dI) vwCl (tyW cI cZ cS) A0 H0) {v : Int64} (hd : decode cc pc = .ok (.putfield 236, 3)) (kk : gG p l e R s m args below meth c nL (dC, dI) vwCl A0 H0 cells slots Q (wC a cI cS (mL M v)) (pc + 3) lv st) : gG p l e R s m args below meth c nL (dC, dI) vwCl A0 H0 cells slots Q (wC a cI cS M) pc lv (.long v :: .ref (a 0) :: st) :=
  g_putf C (k := 0) (by decide) (rfl) rfl tyX6 tyX6_ok nmX6 7 (by decide) wu_X6 wl_183 rfl (ty := .long) rfl rfl rfl (Nat.le_of_ble_eq_true rfl) (cC_putL (by exact ve_rf _)) hd kk
theorem rg_X7_thrown (C : gC p s m args meth c cc nL ret RX7 (dC, dI) vwCl (tyW cI cZ cS) A0 H0) (hd : decode cc pc = .ok (.getfield 56, 3)) (kk : gG p l e R s m args below meth c nL (dC, dI) vwCl A0 H0 cells slots Q (wD a cI cZ M) (pc + 3) lv (.int (M.1 0 0) :: st)) : gG p l e R s m args below meth c nL (dC, dI) vwCl A0 H0 cells slots Q (wD a cI cZ M) pc lv (.ref (a 0) :: st) :=
  g_getf C (k := 0) (by decide) (cD_0) rfl 0 (by decide) wu_X7 wl_668 rfl hd kk
theorem rp_X7_thrown (C : gC p s m args meth c cc nL ret RX7 (dC, dI) vwCl (tyW cI cZ cS) A0 H0) {v : Int32} (hd : decode cc pc = .ok (.putfield 56, 3)) (kk : gG p l e R s m args below meth c nL (dC, dI) vwCl A0 H0 cells slots Q (wD a cI cZ (mU M 0 0 v)) (pc + 3) lv st) : gG p l e R s m args below meth c nL (dC, dI) vwCl A0 H0 cells slots Q (wD a cI cZ M) pc lv (.int v :: .ref (a 0) :: st) :=
  g_putf C (k := 0) (by decide) (cD_0) rfl tyX7 tyX7_ok nmX7 0 (by decide) wu_X7 wl_668 rfl (ty := .int) rfl rfl rfl (Nat.le_of_ble_eq_true rfl) (cD_put (k := 0) (by exact ve_rf _)) hd kk
theorem rg_X7_text (C : gC p s m args meth c cc nL ret RX7 (dC, dI) vwCl (tyW cI cZ cS) A0 H0) (hd : decode cc pc = .ok (.getfield 7, 3)) (kk : gG p l e R s m args below meth c nL (dC, dI) vwCl A0 H0 cells slots Q (wD a cI cZ M) (pc + 3) lv (.ref (a 1) :: st)) : gG p l e R s m args below meth c nL (dC, dI) vwCl A0 H0 cells slots Q (wD a cI cZ M) pc lv (.ref (a 0) :: st) :=
  g_getf C (k := 0) (by decide) (cD_0) rfl 1 (by decide) wu_X7 wl_669 rfl hd kk
theorem rg_X7_textSize (C : gC p s m args meth c cc nL ret RX7 (dC, dI) vwCl (tyW cI cZ cS) A0 H0) (hd : decode cc pc = .ok (.getfield 71, 3)) (kk : gG p l e R s m args below meth c nL (dC, dI) vwCl A0 H0 cells slots Q (wD a cI cZ M) (pc + 3) lv (.int (M.1 0 1) :: st)) : gG p l e R s m args below meth c nL (dC, dI) vwCl A0 H0 cells slots Q (wD a cI cZ M) pc lv (.ref (a 0) :: st) :=
  g_getf C (k := 0) (by decide) (cD_0) rfl 2 (by decide) wu_X7 wl_670 rfl hd kk
theorem rp_X7_textSize (C : gC p s m args meth c cc nL ret RX7 (dC, dI) vwCl (tyW cI cZ cS) A0 H0) {v : Int32} (hd : decode cc pc = .ok (.putfield 71, 3)) (kk : gG p l e R s m args below meth c nL (dC, dI) vwCl A0 H0 cells slots Q (wD a cI cZ (mU M 0 1 v)) (pc + 3) lv st) : gG p l e R s m args below meth c nL (dC, dI) vwCl A0 H0 cells slots Q (wD a cI cZ M) pc lv (.int v :: .ref (a 0) :: st) :=
  g_putf C (k := 0) (by decide) (cD_0) rfl tyX7 tyX7_ok nmX7 2 (by decide) wu_X7 wl_670 rfl (ty := .int) rfl rfl rfl (Nat.le_of_ble_eq_true rfl) (cD_put (k := 0) (by exact ve_rf _)) hd kk
theorem rg_X7_place (C : gC p s m args meth c cc nL ret RX7 (dC, dI) vwCl (tyW cI cZ cS) A0 H0) (hd : decode cc pc = .ok (.getfield 74, 3)) (kk : gG p l e R s m args below meth c nL (dC, dI) vwCl A0 H0 cells slots Q (wD a cI cZ M) (pc + 3) lv (.int (M.1 0 2) :: st)) : gG p l e R s m args below meth c nL (dC, dI) vwCl A0 H0 cells slots Q (wD a cI cZ M) pc lv (.ref (a 0) :: st) :=
  g_getf C (k := 0) (by decide) (cD_0) rfl 3 (by decide) wu_X7 wl_671 rfl hd kk
theorem rp_X7_place (C : gC p s m args meth c cc nL ret RX7 (dC, dI) vwCl (tyW cI cZ cS) A0 H0) {v : Int32} (hd : decode cc pc = .ok (.putfield 74, 3)) (kk : gG p l e R s m args below meth c nL (dC, dI) vwCl A0 H0 cells slots Q (wD a cI cZ (mU M 0 2 v)) (pc + 3) lv st) : gG p l e R s m args below meth c nL (dC, dI) vwCl A0 H0 cells slots Q (wD a cI cZ M) pc lv (.int v :: .ref (a 0) :: st) :=
  g_putf C (k := 0) (by decide) (cD_0) rfl tyX7 tyX7_ok nmX7 3 (by decide) wu_X7 wl_671 rfl (ty := .int) rfl rfl rfl (Nat.le_of_ble_eq_true rfl) (cD_put (k := 0) (by exact ve_rf _)) hd kk
theorem rg_X7_walkers (C : gC p s m args meth c cc nL ret RX7 (dC, dI) vwCl (tyW cI cZ cS) A0 H0) (hd : decode cc pc = .ok (.getfield 60, 3)) (kk : gG p l e R s m args below meth c nL (dC, dI) vwCl A0 H0 cells slots Q (wD a cI cZ M) (pc + 3) lv (.int (M.1 0 3) :: st)) : gG p l e R s m args below meth c nL (dC, dI) vwCl A0 H0 cells slots Q (wD a cI cZ M) pc lv (.ref (a 0) :: st) :=
  g_getf C (k := 0) (by decide) (cD_0) rfl 4 (by decide) wu_X7 wl_672 rfl hd kk
theorem rp_X7_walkers (C : gC p s m args meth c cc nL ret RX7 (dC, dI) vwCl (tyW cI cZ cS) A0 H0) {v : Int32} (hd : decode cc pc = .ok (.putfield 60, 3)) (kk : gG p l e R s m args below meth c nL (dC, dI) vwCl A0 H0 cells slots Q (wD a cI cZ (mU M 0 3 v)) (pc + 3) lv st) : gG p l e R s m args below meth c nL (dC, dI) vwCl A0 H0 cells slots Q (wD a cI cZ M) pc lv (.int v :: .ref (a 0) :: st) :=
  g_putf C (k := 0) (by decide) (cD_0) rfl tyX7 tyX7_ok nmX7 4 (by decide) wu_X7 wl_672 rfl (ty := .int) rfl rfl rfl (Nat.le_of_ble_eq_true rfl) (cD_put (k := 0) (by exact ve_rf _)) hd kk
theorem rg_X7_stuff (C : gC p s m args meth c cc nL ret RX7 (dC, dI) vwCl (tyW cI cZ cS) A0 H0) (hd : decode cc pc = .ok (.getfield 13, 3)) (kk : gG p l e R s m args below meth c nL (dC, dI) vwCl A0 H0 cells slots Q (wD a cI cZ M) (pc + 3) lv (.ref (a 2) :: st)) : gG p l e R s m args below meth c nL (dC, dI) vwCl A0 H0 cells slots Q (wD a cI cZ M) pc lv (.ref (a 0) :: st) :=
  g_getf C (k := 0) (by decide) (cD_0) rfl 5 (by decide) wu_X7 wl_673 rfl hd kk
theorem rg_X7_needs (C : gC p s m args meth c cc nL ret RX7 (dC, dI) vwCl (tyW cI cZ cS) A0 H0) (hd : decode cc pc = .ok (.getfield 101, 3)) (kk : gG p l e R s m args below meth c nL (dC, dI) vwCl A0 H0 cells slots Q (wD a cI cZ M) (pc + 3) lv (.int (M.1 0 4) :: st)) : gG p l e R s m args below meth c nL (dC, dI) vwCl A0 H0 cells slots Q (wD a cI cZ M) pc lv (.ref (a 0) :: st) :=
  g_getf C (k := 0) (by decide) (cD_0) rfl 6 (by decide) wu_X7 wl_674 rfl hd kk
theorem rp_X7_needs (C : gC p s m args meth c cc nL ret RX7 (dC, dI) vwCl (tyW cI cZ cS) A0 H0) {v : Int32} (hd : decode cc pc = .ok (.putfield 101, 3)) (kk : gG p l e R s m args below meth c nL (dC, dI) vwCl A0 H0 cells slots Q (wD a cI cZ (mU M 0 4 v)) (pc + 3) lv st) : gG p l e R s m args below meth c nL (dC, dI) vwCl A0 H0 cells slots Q (wD a cI cZ M) pc lv (.int v :: .ref (a 0) :: st) :=
  g_putf C (k := 0) (by decide) (cD_0) rfl tyX7 tyX7_ok nmX7 6 (by decide) wu_X7 wl_674 rfl (ty := .int) rfl rfl rfl (Nat.le_of_ble_eq_true rfl) (cD_put (k := 0) (by exact ve_rf _)) hd kk
theorem rg_X7_need (C : gC p s m args meth c cc nL ret RX7 (dC, dI) vwCl (tyW cI cZ cS) A0 H0) (hd : decode cc pc = .ok (.getfield 16, 3)) (kk : gG p l e R s m args below meth c nL (dC, dI) vwCl A0 H0 cells slots Q (wD a cI cZ M) (pc + 3) lv (.ref (a 3) :: st)) : gG p l e R s m args below meth c nL (dC, dI) vwCl A0 H0 cells slots Q (wD a cI cZ M) pc lv (.ref (a 0) :: st) :=
  g_getf C (k := 0) (by decide) (cD_0) rfl 7 (by decide) wu_X7 wl_675 rfl hd kk
theorem rg_X7_readWalkers (C : gC p s m args meth c cc nL ret RX7 (dC, dI) vwCl (tyW cI cZ cS) A0 H0) (hd : decode cc pc = .ok (.getfield 81, 3)) (kk : gG p l e R s m args below meth c nL (dC, dI) vwCl A0 H0 cells slots Q (wD a cI cZ M) (pc + 3) lv (.int (M.1 0 5) :: st)) : gG p l e R s m args below meth c nL (dC, dI) vwCl A0 H0 cells slots Q (wD a cI cZ M) pc lv (.ref (a 0) :: st) :=
  g_getf C (k := 0) (by decide) (cD_0) rfl 8 (by decide) wu_X7 wl_676 rfl hd kk
theorem rp_X7_readWalkers (C : gC p s m args meth c cc nL ret RX7 (dC, dI) vwCl (tyW cI cZ cS) A0 H0) {v : Int32} (hd : decode cc pc = .ok (.putfield 81, 3)) (kk : gG p l e R s m args below meth c nL (dC, dI) vwCl A0 H0 cells slots Q (wD a cI cZ (mU M 0 5 v)) (pc + 3) lv st) : gG p l e R s m args below meth c nL (dC, dI) vwCl A0 H0 cells slots Q (wD a cI cZ M) pc lv (.int v :: .ref (a 0) :: st) :=
  g_putf C (k := 0) (by decide) (cD_0) rfl tyX7 tyX7_ok nmX7 8 (by decide) wu_X7 wl_676 rfl (ty := .int) rfl rfl rfl (Nat.le_of_ble_eq_true rfl) (cD_put (k := 0) (by exact ve_rf _)) hd kk
theorem rg_X7_readWalker (C : gC p s m args meth c cc nL ret RX7 (dC, dI) vwCl (tyW cI cZ cS) A0 H0) (hd : decode cc pc = .ok (.getfield 19, 3)) (kk : gG p l e R s m args below meth c nL (dC, dI) vwCl A0 H0 cells slots Q (wD a cI cZ M) (pc + 3) lv (.ref (a 4) :: st)) : gG p l e R s m args below meth c nL (dC, dI) vwCl A0 H0 cells slots Q (wD a cI cZ M) pc lv (.ref (a 0) :: st) :=
  g_getf C (k := 0) (by decide) (cD_0) rfl 9 (by decide) wu_X7 wl_677 rfl hd kk
theorem rg_X7_readNeeds (C : gC p s m args meth c cc nL ret RX7 (dC, dI) vwCl (tyW cI cZ cS) A0 H0) (hd : decode cc pc = .ok (.getfield 84, 3)) (kk : gG p l e R s m args below meth c nL (dC, dI) vwCl A0 H0 cells slots Q (wD a cI cZ M) (pc + 3) lv (.int (M.1 0 6) :: st)) : gG p l e R s m args below meth c nL (dC, dI) vwCl A0 H0 cells slots Q (wD a cI cZ M) pc lv (.ref (a 0) :: st) :=
  g_getf C (k := 0) (by decide) (cD_0) rfl 10 (by decide) wu_X7 wl_678 rfl hd kk
theorem rp_X7_readNeeds (C : gC p s m args meth c cc nL ret RX7 (dC, dI) vwCl (tyW cI cZ cS) A0 H0) {v : Int32} (hd : decode cc pc = .ok (.putfield 84, 3)) (kk : gG p l e R s m args below meth c nL (dC, dI) vwCl A0 H0 cells slots Q (wD a cI cZ (mU M 0 6 v)) (pc + 3) lv st) : gG p l e R s m args below meth c nL (dC, dI) vwCl A0 H0 cells slots Q (wD a cI cZ M) pc lv (.int v :: .ref (a 0) :: st) :=
  g_putf C (k := 0) (by decide) (cD_0) rfl tyX7 tyX7_ok nmX7 10 (by decide) wu_X7 wl_678 rfl (ty := .int) rfl rfl rfl (Nat.le_of_ble_eq_true rfl) (cD_put (k := 0) (by exact ve_rf _)) hd kk
theorem rg_X7_readNeed (C : gC p s m args meth c cc nL ret RX7 (dC, dI) vwCl (tyW cI cZ cS) A0 H0) (hd : decode cc pc = .ok (.getfield 22, 3)) (kk : gG p l e R s m args below meth c nL (dC, dI) vwCl A0 H0 cells slots Q (wD a cI cZ M) (pc + 3) lv (.ref (a 5) :: st)) : gG p l e R s m args below meth c nL (dC, dI) vwCl A0 H0 cells slots Q (wD a cI cZ M) pc lv (.ref (a 0) :: st) :=
  g_getf C (k := 0) (by decide) (cD_0) rfl 11 (by decide) wu_X7 wl_679 rfl hd kk
theorem rg_X7_page (C : gC p s m args meth c cc nL ret RX7 (dC, dI) vwCl (tyW cI cZ cS) A0 H0) (hd : decode cc pc = .ok (.getfield 25, 3)) (kk : gG p l e R s m args below meth c nL (dC, dI) vwCl A0 H0 cells slots Q (wD a cI cZ M) (pc + 3) lv (.ref (a 6) :: st)) : gG p l e R s m args below meth c nL (dC, dI) vwCl A0 H0 cells slots Q (wD a cI cZ M) pc lv (.ref (a 0) :: st) :=
  g_getf C (k := 0) (by decide) (cD_0) rfl 12 (by decide) wu_X7 wl_680 rfl hd kk
theorem rg_X7_trial (C : gC p s m args meth c cc nL ret RX7 (dC, dI) vwCl (tyW cI cZ cS) A0 H0) (hd : decode cc pc = .ok (.getfield 28, 3)) (kk : gG p l e R s m args below meth c nL (dC, dI) vwCl A0 H0 cells slots Q (wD a cI cZ M) (pc + 3) lv (.ref (a 7) :: st)) : gG p l e R s m args below meth c nL (dC, dI) vwCl A0 H0 cells slots Q (wD a cI cZ M) pc lv (.ref (a 0) :: st) :=
  g_getf C (k := 0) (by decide) (cD_0) rfl 13 (by decide) wu_X7 wl_681 rfl hd kk
theorem rg_X7_book (C : gC p s m args meth c cc nL ret RX7 (dC, dI) vwCl (tyW cI cZ cS) A0 H0) (hd : decode cc pc = .ok (.getfield 31, 3)) (kk : gG p l e R s m args below meth c nL (dC, dI) vwCl A0 H0 cells slots Q (wD a cI cZ M) (pc + 3) lv (.ref (a 8) :: st)) : gG p l e R s m args below meth c nL (dC, dI) vwCl A0 H0 cells slots Q (wD a cI cZ M) pc lv (.ref (a 0) :: st) :=
  g_getf C (k := 0) (by decide) (cD_0) rfl 14 (by decide) wu_X7 wl_682 rfl hd kk
theorem rg_X7_acts (C : gC p s m args meth c cc nL ret RX7 (dC, dI) vwCl (tyW cI cZ cS) A0 H0) (hd : decode cc pc = .ok (.getfield 104, 3)) (kk : gG p l e R s m args below meth c nL (dC, dI) vwCl A0 H0 cells slots Q (wD a cI cZ M) (pc + 3) lv (.int (M.1 0 7) :: st)) : gG p l e R s m args below meth c nL (dC, dI) vwCl A0 H0 cells slots Q (wD a cI cZ M) pc lv (.ref (a 0) :: st) :=
  g_getf C (k := 0) (by decide) (cD_0) rfl 15 (by decide) wu_X7 wl_683 rfl hd kk
theorem rp_X7_acts (C : gC p s m args meth c cc nL ret RX7 (dC, dI) vwCl (tyW cI cZ cS) A0 H0) {v : Int32} (hd : decode cc pc = .ok (.putfield 104, 3)) (kk : gG p l e R s m args below meth c nL (dC, dI) vwCl A0 H0 cells slots Q (wD a cI cZ (mU M 0 7 v)) (pc + 3) lv st) : gG p l e R s m args below meth c nL (dC, dI) vwCl A0 H0 cells slots Q (wD a cI cZ M) pc lv (.int v :: .ref (a 0) :: st) :=
  g_putf C (k := 0) (by decide) (cD_0) rfl tyX7 tyX7_ok nmX7 15 (by decide) wu_X7 wl_683 rfl (ty := .int) rfl rfl rfl (Nat.le_of_ble_eq_true rfl) (cD_put (k := 0) (by exact ve_rf _)) hd kk
theorem rg_X7_kept (C : gC p s m args meth c cc nL ret RX7 (dC, dI) vwCl (tyW cI cZ cS) A0 H0) (hd : decode cc pc = .ok (.getfield 34, 3)) (kk : gG p l e R s m args below meth c nL (dC, dI) vwCl A0 H0 cells slots Q (wD a cI cZ M) (pc + 3) lv (.ref (a 9) :: st)) : gG p l e R s m args below meth c nL (dC, dI) vwCl A0 H0 cells slots Q (wD a cI cZ M) pc lv (.ref (a 0) :: st) :=
  g_getf C (k := 0) (by decide) (cD_0) rfl 16 (by decide) wu_X7 wl_684 rfl hd kk
theorem rg_X7_isKept (C : gC p s m args meth c cc nL ret RX7 (dC, dI) vwCl (tyW cI cZ cS) A0 H0) (hd : decode cc pc = .ok (.getfield 37, 3)) (kk : gG p l e R s m args below meth c nL (dC, dI) vwCl A0 H0 cells slots Q (wD a cI cZ M) (pc + 3) lv (.ref (a 10) :: st)) : gG p l e R s m args below meth c nL (dC, dI) vwCl A0 H0 cells slots Q (wD a cI cZ M) pc lv (.ref (a 0) :: st) :=
  g_getf C (k := 0) (by decide) (cD_0) rfl 17 (by decide) wu_X7 wl_685 rfl hd kk
theorem rg_X7_felt (C : gC p s m args meth c cc nL ret RX7 (dC, dI) vwCl (tyW cI cZ cS) A0 H0) (hd : decode cc pc = .ok (.getfield 135, 3)) (kk : gG p l e R s m args below meth c nL (dC, dI) vwCl A0 H0 cells slots Q (wD a cI cZ M) (pc + 3) lv (.int (M.1 0 8) :: st)) : gG p l e R s m args below meth c nL (dC, dI) vwCl A0 H0 cells slots Q (wD a cI cZ M) pc lv (.ref (a 0) :: st) :=
  g_getf C (k := 0) (by decide) (cD_0) rfl 18 (by decide) wu_X7 wl_686 rfl hd kk
theorem rp_X7_felt (C : gC p s m args meth c cc nL ret RX7 (dC, dI) vwCl (tyW cI cZ cS) A0 H0) {v : Int32} (hd : decode cc pc = .ok (.putfield 135, 3)) (kk : gG p l e R s m args below meth c nL (dC, dI) vwCl A0 H0 cells slots Q (wD a cI cZ (mU M 0 8 v)) (pc + 3) lv st) : gG p l e R s m args below meth c nL (dC, dI) vwCl A0 H0 cells slots Q (wD a cI cZ M) pc lv (.int v :: .ref (a 0) :: st) :=
  g_putf C (k := 0) (by decide) (cD_0) rfl tyX7 tyX7_ok nmX7 18 (by decide) wu_X7 wl_686 rfl (ty := .int) rfl rfl rfl (Nat.le_of_ble_eq_true rfl) (cD_put (k := 0) (by exact ve_rf _)) hd kk
theorem rg_X7_feltStreet (C : gC p s m args meth c cc nL ret RX7 (dC, dI) vwCl (tyW cI cZ cS) A0 H0) (hd : decode cc pc = .ok (.getfield 41, 3)) (kk : gG p l e R s m args below meth c nL (dC, dI) vwCl A0 H0 cells slots Q (wD a cI cZ M) (pc + 3) lv (.ref (a 11) :: st)) : gG p l e R s m args below meth c nL (dC, dI) vwCl A0 H0 cells slots Q (wD a cI cZ M) pc lv (.ref (a 0) :: st) :=
  g_getf C (k := 0) (by decide) (cD_0) rfl 19 (by decide) wu_X7 wl_687 rfl hd kk
theorem rg_X7_feltHour (C : gC p s m args meth c cc nL ret RX7 (dC, dI) vwCl (tyW cI cZ cS) A0 H0) (hd : decode cc pc = .ok (.getfield 44, 3)) (kk : gG p l e R s m args below meth c nL (dC, dI) vwCl A0 H0 cells slots Q (wD a cI cZ M) (pc + 3) lv (.ref (a 12) :: st)) : gG p l e R s m args below meth c nL (dC, dI) vwCl A0 H0 cells slots Q (wD a cI cZ M) pc lv (.ref (a 0) :: st) :=
  g_getf C (k := 0) (by decide) (cD_0) rfl 20 (by decide) wu_X7 wl_688 rfl hd kk
theorem rg_X7_feltRain (C : gC p s m args meth c cc nL ret RX7 (dC, dI) vwCl (tyW cI cZ cS) A0 H0) (hd : decode cc pc = .ok (.getfield 47, 3)) (kk : gG p l e R s m args below meth c nL (dC, dI) vwCl A0 H0 cells slots Q (wD a cI cZ M) (pc + 3) lv (.ref (a 13) :: st)) : gG p l e R s m args below meth c nL (dC, dI) vwCl A0 H0 cells slots Q (wD a cI cZ M) pc lv (.ref (a 0) :: st) :=
  g_getf C (k := 0) (by decide) (cD_0) rfl 21 (by decide) wu_X7 wl_689 rfl hd kk
theorem rg_X7_seed (C : gC p s m args meth c cc nL ret RX7 (dC, dI) vwCl (tyW cI cZ cS) A0 H0) (hd : decode cc pc = .ok (.getfield 239, 3)) (kk : gG p l e R s m args below meth c nL (dC, dI) vwCl A0 H0 cells slots Q (wD a cI cZ M) (pc + 3) lv (.long M.2 :: st)) : gG p l e R s m args below meth c nL (dC, dI) vwCl A0 H0 cells slots Q (wD a cI cZ M) pc lv (.ref (a 0) :: st) :=
  g_getf C (k := 0) (by decide) (cD_0) rfl 22 (by decide) wu_X7 wl_690 rfl hd kk
theorem rp_X7_seed (C : gC p s m args meth c cc nL ret RX7 (dC, dI) vwCl (tyW cI cZ cS) A0 H0) {v : Int64} (hd : decode cc pc = .ok (.putfield 239, 3)) (kk : gG p l e R s m args below meth c nL (dC, dI) vwCl A0 H0 cells slots Q (wD a cI cZ (mL M v)) (pc + 3) lv st) : gG p l e R s m args below meth c nL (dC, dI) vwCl A0 H0 cells slots Q (wD a cI cZ M) pc lv (.long v :: .ref (a 0) :: st) :=
  g_putf C (k := 0) (by decide) (cD_0) rfl tyX7 tyX7_ok nmX7 22 (by decide) wu_X7 wl_690 rfl (ty := .long) rfl rfl rfl (Nat.le_of_ble_eq_true rfl) (cD_putL (by exact ve_rf _)) hd kk
theorem rg_X7_bestWhich (C : gC p s m args meth c cc nL ret RX7 (dC, dI) vwCl (tyW cI cZ cS) A0 H0) (hd : decode cc pc = .ok (.getfield 174, 3)) (kk : gG p l e R s m args below meth c nL (dC, dI) vwCl A0 H0 cells slots Q (wD a cI cZ M) (pc + 3) lv (.int (M.1 0 9) :: st)) : gG p l e R s m args below meth c nL (dC, dI) vwCl A0 H0 cells slots Q (wD a cI cZ M) pc lv (.ref (a 0) :: st) :=
  g_getf C (k := 0) (by decide) (cD_0) rfl 23 (by decide) wu_X7 wl_691 rfl hd kk
theorem rp_X7_bestWhich (C : gC p s m args meth c cc nL ret RX7 (dC, dI) vwCl (tyW cI cZ cS) A0 H0) {v : Int32} (hd : decode cc pc = .ok (.putfield 174, 3)) (kk : gG p l e R s m args below meth c nL (dC, dI) vwCl A0 H0 cells slots Q (wD a cI cZ (mU M 0 9 v)) (pc + 3) lv st) : gG p l e R s m args below meth c nL (dC, dI) vwCl A0 H0 cells slots Q (wD a cI cZ M) pc lv (.int v :: .ref (a 0) :: st) :=
  g_putf C (k := 0) (by decide) (cD_0) rfl tyX7 tyX7_ok nmX7 23 (by decide) wu_X7 wl_691 rfl (ty := .int) rfl rfl rfl (Nat.le_of_ble_eq_true rfl) (cD_put (k := 0) (by exact ve_rf _)) hd kk
theorem rg_X7_bestMany (C : gC p s m args meth c cc nL ret RX7 (dC, dI) vwCl (tyW cI cZ cS) A0 H0) (hd : decode cc pc = .ok (.getfield 177, 3)) (kk : gG p l e R s m args below meth c nL (dC, dI) vwCl A0 H0 cells slots Q (wD a cI cZ M) (pc + 3) lv (.int (M.1 0 10) :: st)) : gG p l e R s m args below meth c nL (dC, dI) vwCl A0 H0 cells slots Q (wD a cI cZ M) pc lv (.ref (a 0) :: st) :=
  g_getf C (k := 0) (by decide) (cD_0) rfl 24 (by decide) wu_X7 wl_692 rfl hd kk
theorem rp_X7_bestMany (C : gC p s m args meth c cc nL ret RX7 (dC, dI) vwCl (tyW cI cZ cS) A0 H0) {v : Int32} (hd : decode cc pc = .ok (.putfield 177, 3)) (kk : gG p l e R s m args below meth c nL (dC, dI) vwCl A0 H0 cells slots Q (wD a cI cZ (mU M 0 10 v)) (pc + 3) lv st) : gG p l e R s m args below meth c nL (dC, dI) vwCl A0 H0 cells slots Q (wD a cI cZ M) pc lv (.int v :: .ref (a 0) :: st) :=
  g_putf C (k := 0) (by decide) (cD_0) rfl tyX7 tyX7_ok nmX7 24 (by decide) wu_X7 wl_692 rfl (ty := .int) rfl rfl rfl (Nat.le_of_ble_eq_true rfl) (cD_put (k := 0) (by exact ve_rf _)) hd kk
theorem rg_X7_mayMany (C : gC p s m args meth c cc nL ret RX7 (dC, dI) vwCl (tyW cI cZ cS) A0 H0) (hd : decode cc pc = .ok (.getfield 211, 3)) (kk : gG p l e R s m args below meth c nL (dC, dI) vwCl A0 H0 cells slots Q (wD a cI cZ M) (pc + 3) lv (.int (M.1 0 11) :: st)) : gG p l e R s m args below meth c nL (dC, dI) vwCl A0 H0 cells slots Q (wD a cI cZ M) pc lv (.ref (a 0) :: st) :=
  g_getf C (k := 0) (by decide) (cD_0) rfl 25 (by decide) wu_X7 wl_693 rfl hd kk
theorem rp_X7_mayMany (C : gC p s m args meth c cc nL ret RX7 (dC, dI) vwCl (tyW cI cZ cS) A0 H0) {v : Int32} (hd : decode cc pc = .ok (.putfield 211, 3)) (kk : gG p l e R s m args below meth c nL (dC, dI) vwCl A0 H0 cells slots Q (wD a cI cZ (mU M 0 11 v)) (pc + 3) lv st) : gG p l e R s m args below meth c nL (dC, dI) vwCl A0 H0 cells slots Q (wD a cI cZ M) pc lv (.int v :: .ref (a 0) :: st) :=
  g_putf C (k := 0) (by decide) (cD_0) rfl tyX7 tyX7_ok nmX7 25 (by decide) wu_X7 wl_693 rfl (ty := .int) rfl rfl rfl (Nat.le_of_ble_eq_true rfl) (cD_put (k := 0) (by exact ve_rf _)) hd kk
theorem rg_X7_mayFirst (C : gC p s m args meth c cc nL ret RX7 (dC, dI) vwCl (tyW cI cZ cS) A0 H0) (hd : decode cc pc = .ok (.getfield 214, 3)) (kk : gG p l e R s m args below meth c nL (dC, dI) vwCl A0 H0 cells slots Q (wD a cI cZ M) (pc + 3) lv (.int (M.1 0 12) :: st)) : gG p l e R s m args below meth c nL (dC, dI) vwCl A0 H0 cells slots Q (wD a cI cZ M) pc lv (.ref (a 0) :: st) :=
  g_getf C (k := 0) (by decide) (cD_0) rfl 26 (by decide) wu_X7 wl_694 rfl hd kk
theorem rp_X7_mayFirst (C : gC p s m args meth c cc nL ret RX7 (dC, dI) vwCl (tyW cI cZ cS) A0 H0) {v : Int32} (hd : decode cc pc = .ok (.putfield 214, 3)) (kk : gG p l e R s m args below meth c nL (dC, dI) vwCl A0 H0 cells slots Q (wD a cI cZ (mU M 0 12 v)) (pc + 3) lv st) : gG p l e R s m args below meth c nL (dC, dI) vwCl A0 H0 cells slots Q (wD a cI cZ M) pc lv (.int v :: .ref (a 0) :: st) :=
  g_putf C (k := 0) (by decide) (cD_0) rfl tyX7 tyX7_ok nmX7 26 (by decide) wu_X7 wl_694 rfl (ty := .int) rfl rfl rfl (Nat.le_of_ble_eq_true rfl) (cD_put (k := 0) (by exact ve_rf _)) hd kk
theorem rg_X7_restMany (C : gC p s m args meth c cc nL ret RX7 (dC, dI) vwCl (tyW cI cZ cS) A0 H0) (hd : decode cc pc = .ok (.getfield 228, 3)) (kk : gG p l e R s m args below meth c nL (dC, dI) vwCl A0 H0 cells slots Q (wD a cI cZ M) (pc + 3) lv (.int (M.1 0 13) :: st)) : gG p l e R s m args below meth c nL (dC, dI) vwCl A0 H0 cells slots Q (wD a cI cZ M) pc lv (.ref (a 0) :: st) :=
  g_getf C (k := 0) (by decide) (cD_0) rfl 27 (by decide) wu_X7 wl_695 rfl hd kk
theorem rp_X7_restMany (C : gC p s m args meth c cc nL ret RX7 (dC, dI) vwCl (tyW cI cZ cS) A0 H0) {v : Int32} (hd : decode cc pc = .ok (.putfield 228, 3)) (kk : gG p l e R s m args below meth c nL (dC, dI) vwCl A0 H0 cells slots Q (wD a cI cZ (mU M 0 13 v)) (pc + 3) lv st) : gG p l e R s m args below meth c nL (dC, dI) vwCl A0 H0 cells slots Q (wD a cI cZ M) pc lv (.int v :: .ref (a 0) :: st) :=
  g_putf C (k := 0) (by decide) (cD_0) rfl tyX7 tyX7_ok nmX7 27 (by decide) wu_X7 wl_695 rfl (ty := .int) rfl rfl rfl (Nat.le_of_ble_eq_true rfl) (cD_put (k := 0) (by exact ve_rf _)) hd kk
theorem rg_X7_restFirst (C : gC p s m args meth c cc nL ret RX7 (dC, dI) vwCl (tyW cI cZ cS) A0 H0) (hd : decode cc pc = .ok (.getfield 231, 3)) (kk : gG p l e R s m args below meth c nL (dC, dI) vwCl A0 H0 cells slots Q (wD a cI cZ M) (pc + 3) lv (.int (M.1 0 14) :: st)) : gG p l e R s m args below meth c nL (dC, dI) vwCl A0 H0 cells slots Q (wD a cI cZ M) pc lv (.ref (a 0) :: st) :=
  g_getf C (k := 0) (by decide) (cD_0) rfl 28 (by decide) wu_X7 wl_696 rfl hd kk
theorem rp_X7_restFirst (C : gC p s m args meth c cc nL ret RX7 (dC, dI) vwCl (tyW cI cZ cS) A0 H0) {v : Int32} (hd : decode cc pc = .ok (.putfield 231, 3)) (kk : gG p l e R s m args below meth c nL (dC, dI) vwCl A0 H0 cells slots Q (wD a cI cZ (mU M 0 14 v)) (pc + 3) lv st) : gG p l e R s m args below meth c nL (dC, dI) vwCl A0 H0 cells slots Q (wD a cI cZ M) pc lv (.int v :: .ref (a 0) :: st) :=
  g_putf C (k := 0) (by decide) (cD_0) rfl tyX7 tyX7_ok nmX7 28 (by decide) wu_X7 wl_696 rfl (ty := .int) rfl rfl rfl (Nat.le_of_ble_eq_true rfl) (cD_put (k := 0) (by exact ve_rf _)) hd kk
theorem rg_X7_gains (C : gC p s m args meth c cc nL ret RX7 (dC, dI) vwCl (tyW cI cZ cS) A0 H0) (hd : decode cc pc = .ok (.getfield 50, 3)) (kk : gG p l e R s m args below meth c nL (dC, dI) vwCl A0 H0 cells slots Q (wD a cI cZ M) (pc + 3) lv (.ref (a 14) :: st)) : gG p l e R s m args below meth c nL (dC, dI) vwCl A0 H0 cells slots Q (wD a cI cZ M) pc lv (.ref (a 0) :: st) :=
  g_getf C (k := 0) (by decide) (cD_0) rfl 29 (by decide) wu_X7 wl_697 rfl hd kk
theorem rg_X7_value (C : gC p s m args meth c cc nL ret RX7 (dC, dI) vwCl (tyW cI cZ cS) A0 H0) (hd : decode cc pc = .ok (.getfield 53, 3)) (kk : gG p l e R s m args below meth c nL (dC, dI) vwCl A0 H0 cells slots Q (wD a cI cZ M) (pc + 3) lv (.ref (a 15) :: st)) : gG p l e R s m args below meth c nL (dC, dI) vwCl A0 H0 cells slots Q (wD a cI cZ M) pc lv (.ref (a 0) :: st) :=
  g_getf C (k := 0) (by decide) (cD_0) rfl 30 (by decide) wu_X7 wl_698 rfl hd kk
end
end
section
theorem dX0_init_0 : decode cX0_init 0 = .ok (.aload_n 0, 1) := by decide +kernel
theorem dX0_init_1 : decode cX0_init 1 = .ok (.invokespecial 3, 3) := by decide +kernel
theorem dX0_init_4 : decode cX0_init 4 = .ok (.aload_n 0, 1) := by decide +kernel
theorem dX0_init_5 : decode cX0_init 5 = .ok (.bipush 6, 2) := by decide +kernel
theorem dX0_init_7 : decode cX0_init 7 = .ok (.newarray .int, 2) := by decide +kernel
theorem dX0_init_9 : decode cX0_init 9 = .ok (.putfield 9, 3) := by decide +kernel
theorem dX0_init_12 : decode cX0_init 12 = .ok (.aload_n 0, 1) := by decide +kernel
theorem dX0_init_13 : decode cX0_init 13 = .ok (.bipush 6, 2) := by decide +kernel
theorem dX0_init_15 : decode cX0_init 15 = .ok (.newarray .int, 2) := by decide +kernel
theorem dX0_init_17 : decode cX0_init 17 = .ok (.putfield 15, 3) := by decide +kernel
theorem dX0_init_20 : decode cX0_init 20 = .ok (.return_, 1) := by decide +kernel
theorem dX0_size_0 : decode cX0_size 0 = .ok (.aload_n 0, 1) := by decide +kernel
theorem dX0_size_1 : decode cX0_size 1 = .ok (.getfield 18, 3) := by decide +kernel
theorem dX0_size_4 : decode cX0_size 4 = .ok (.ireturn, 1) := by decide +kernel
theorem dX0_clear_0 : decode cX0_clear 0 = .ok (.aload_n 0, 1) := by decide +kernel
theorem dX0_clear_1 : decode cX0_clear 1 = .ok (.iconst 0, 1) := by decide +kernel
theorem dX0_clear_2 : decode cX0_clear 2 = .ok (.putfield 18, 3) := by decide +kernel
theorem dX0_clear_5 : decode cX0_clear 5 = .ok (.aload_n 0, 1) := by decide +kernel
theorem dX0_clear_6 : decode cX0_clear 6 = .ok (.iconst 0, 1) := by decide +kernel
theorem dX0_clear_7 : decode cX0_clear 7 = .ok (.putfield 22, 3) := by decide +kernel
theorem dX0_clear_10 : decode cX0_clear 10 = .ok (.return_, 1) := by decide +kernel
theorem dX0_add_0 : decode cX0_add 0 = .ok (.aload_n 0, 1) := by decide +kernel
theorem dX0_add_1 : decode cX0_add 1 = .ok (.getfield 18, 3) := by decide +kernel
theorem dX0_add_4 : decode cX0_add 4 = .ok (.bipush 6, 2) := by decide +kernel
theorem dX0_add_6 : decode cX0_add 6 = .ok (.if_icmp .lt 5, 3) := by decide +kernel
theorem dX0_add_9 : decode cX0_add 9 = .ok (.iconst 0, 1) := by decide +kernel
theorem dX0_add_10 : decode cX0_add 10 = .ok (.ireturn, 1) := by decide +kernel
theorem dX0_add_11 : decode cX0_add 11 = .ok (.aload_n 0, 1) := by decide +kernel
theorem dX0_add_12 : decode cX0_add 12 = .ok (.getfield 9, 3) := by decide +kernel
theorem dX0_add_15 : decode cX0_add 15 = .ok (.aload_n 0, 1) := by decide +kernel
theorem dX0_add_16 : decode cX0_add 16 = .ok (.getfield 18, 3) := by decide +kernel
theorem dX0_add_19 : decode cX0_add 19 = .ok (.iload_n 1, 1) := by decide +kernel
theorem dX0_add_20 : decode cX0_add 20 = .ok (.invokestatic 25, 3) := by decide +kernel
theorem dX0_add_23 : decode cX0_add 23 = .ok (.aload_n 0, 1) := by decide +kernel
theorem dX0_add_24 : decode cX0_add 24 = .ok (.getfield 15, 3) := by decide +kernel
theorem dX0_add_27 : decode cX0_add 27 = .ok (.aload_n 0, 1) := by decide +kernel
theorem dX0_add_28 : decode cX0_add 28 = .ok (.getfield 18, 3) := by decide +kernel
theorem dX0_add_31 : decode cX0_add 31 = .ok (.iload_n 2, 1) := by decide +kernel
theorem dX0_add_32 : decode cX0_add 32 = .ok (.invokestatic 25, 3) := by decide +kernel
theorem dX0_add_35 : decode cX0_add 35 = .ok (.aload_n 0, 1) := by decide +kernel
theorem dX0_add_36 : decode cX0_add 36 = .ok (.dup, 1) := by decide +kernel
theorem dX0_add_37 : decode cX0_add 37 = .ok (.getfield 22, 3) := by decide +kernel
theorem dX0_add_40 : decode cX0_add 40 = .ok (.iload_n 3, 1) := by decide +kernel
theorem dX0_add_41 : decode cX0_add 41 = .ok (.ifCond .eq 12, 3) := by decide +kernel
theorem dX0_add_44 : decode cX0_add 44 = .ok (.iconst 1, 1) := by decide +kernel
theorem dX0_add_45 : decode cX0_add 45 = .ok (.aload_n 0, 1) := by decide +kernel
theorem dX0_add_46 : decode cX0_add 46 = .ok (.getfield 18, 3) := by decide +kernel
theorem dX0_add_49 : decode cX0_add 49 = .ok (.ishl, 1) := by decide +kernel
theorem dX0_add_50 : decode cX0_add 50 = .ok (.goto 4, 3) := by decide +kernel
theorem dX0_add_53 : decode cX0_add 53 = .ok (.iconst 0, 1) := by decide +kernel
theorem dX0_add_54 : decode cX0_add 54 = .ok (.ior, 1) := by decide +kernel
theorem dX0_add_55 : decode cX0_add 55 = .ok (.putfield 22, 3) := by decide +kernel
theorem dX0_add_58 : decode cX0_add 58 = .ok (.aload_n 0, 1) := by decide +kernel
theorem dX0_add_59 : decode cX0_add 59 = .ok (.dup, 1) := by decide +kernel
theorem dX0_add_60 : decode cX0_add 60 = .ok (.getfield 18, 3) := by decide +kernel
theorem dX0_add_63 : decode cX0_add 63 = .ok (.iconst 1, 1) := by decide +kernel
theorem dX0_add_64 : decode cX0_add 64 = .ok (.iadd, 1) := by decide +kernel
theorem dX0_add_65 : decode cX0_add 65 = .ok (.putfield 18, 3) := by decide +kernel
theorem dX0_add_68 : decode cX0_add 68 = .ok (.iconst 1, 1) := by decide +kernel
theorem dX0_add_69 : decode cX0_add 69 = .ok (.ireturn, 1) := by decide +kernel
theorem dX0_isSo_0 : decode cX0_isSo 0 = .ok (.iconst 0, 1) := by decide +kernel
theorem dX0_isSo_1 : decode cX0_isSo 1 = .ok (.istore 4, 2) := by decide +kernel
theorem dX0_isSo_3 : decode cX0_isSo 3 = .ok (.iload 4, 2) := by decide +kernel
theorem dX0_isSo_5 : decode cX0_isSo 5 = .ok (.aload_n 0, 1) := by decide +kernel
theorem dX0_isSo_6 : decode cX0_isSo 6 = .ok (.getfield 18, 3) := by decide +kernel
theorem dX0_isSo_9 : decode cX0_isSo 9 = .ok (.if_icmp .ge 47, 3) := by decide +kernel
theorem dX0_isSo_12 : decode cX0_isSo 12 = .ok (.iload_n 1, 1) := by decide +kernel
theorem dX0_isSo_13 : decode cX0_isSo 13 = .ok (.iload_n 2, 1) := by decide +kernel
theorem dX0_isSo_14 : decode cX0_isSo 14 = .ok (.iload_n 3, 1) := by decide +kernel
theorem dX0_isSo_15 : decode cX0_isSo 15 = .ok (.aload_n 0, 1) := by decide +kernel
theorem dX0_isSo_16 : decode cX0_isSo 16 = .ok (.getfield 9, 3) := by decide +kernel
theorem dX0_isSo_19 : decode cX0_isSo 19 = .ok (.iload 4, 2) := by decide +kernel
theorem dX0_isSo_21 : decode cX0_isSo 21 = .ok (.invokestatic 29, 3) := by decide +kernel
theorem dX0_isSo_24 : decode cX0_isSo 24 = .ok (.aload_n 0, 1) := by decide +kernel
theorem dX0_isSo_25 : decode cX0_isSo 25 = .ok (.getfield 15, 3) := by decide +kernel
theorem dX0_isSo_28 : decode cX0_isSo 28 = .ok (.iload 4, 2) := by decide +kernel
theorem dX0_isSo_30 : decode cX0_isSo 30 = .ok (.invokestatic 29, 3) := by decide +kernel
theorem dX0_isSo_33 : decode cX0_isSo 33 = .ok (.invokestatic 33, 3) := by decide +kernel
theorem dX0_isSo_36 : decode cX0_isSo 36 = .ok (.aload_n 0, 1) := by decide +kernel
theorem dX0_isSo_37 : decode cX0_isSo 37 = .ok (.getfield 22, 3) := by decide +kernel
theorem dX0_isSo_40 : decode cX0_isSo 40 = .ok (.iload 4, 2) := by decide +kernel
theorem dX0_isSo_42 : decode cX0_isSo 42 = .ok (.invokestatic 37, 3) := by decide +kernel
theorem dX0_isSo_45 : decode cX0_isSo 45 = .ok (.if_icmp .eq 5, 3) := by decide +kernel
theorem dX0_isSo_48 : decode cX0_isSo 48 = .ok (.iconst 0, 1) := by decide +kernel
theorem dX0_isSo_49 : decode cX0_isSo 49 = .ok (.ireturn, 1) := by decide +kernel
theorem dX0_isSo_50 : decode cX0_isSo 50 = .ok (.iinc 4 1, 3) := by decide +kernel
theorem dX0_isSo_53 : decode cX0_isSo 53 = .ok (.goto (-50), 3) := by decide +kernel
theorem dX0_isSo_56 : decode cX0_isSo 56 = .ok (.iconst 1, 1) := by decide +kernel
theorem dX0_isSo_57 : decode cX0_isSo 57 = .ok (.ireturn, 1) := by decide +kernel
theorem dX0_isWetAt_0 : decode cX0_isWetAt 0 = .ok (.iload_n 0, 1) := by decide +kernel
theorem dX0_isWetAt_1 : decode cX0_isWetAt 1 = .ok (.iconst 3, 1) := by decide +kernel
theorem dX0_isWetAt_2 : decode cX0_isWetAt 2 = .ok (.if_icmp .ne 7, 3) := by decide +kernel
theorem dX0_isWetAt_5 : decode cX0_isWetAt 5 = .ok (.iconst 1, 1) := by decide +kernel
theorem dX0_isWetAt_6 : decode cX0_isWetAt 6 = .ok (.goto 4, 3) := by decide +kernel
theorem dX0_isWetAt_9 : decode cX0_isWetAt 9 = .ok (.iconst 0, 1) := by decide +kernel
theorem dX0_isWetAt_10 : decode cX0_isWetAt 10 = .ok (.istore 5, 2) := by decide +kernel
theorem dX0_isWetAt_12 : decode cX0_isWetAt 12 = .ok (.iload_n 2, 1) := by decide +kernel
theorem dX0_isWetAt_13 : decode cX0_isWetAt 13 = .ok (.istore 6, 2) := by decide +kernel
theorem dX0_isWetAt_15 : decode cX0_isWetAt 15 = .ok (.iload_n 0, 1) := by decide +kernel
theorem dX0_isWetAt_16 : decode cX0_isWetAt 16 = .ok (.iconst 1, 1) := by decide +kernel
theorem dX0_isWetAt_17 : decode cX0_isWetAt 17 = .ok (.if_icmp .ne 11, 3) := by decide +kernel
theorem dX0_isWetAt_20 : decode cX0_isWetAt 20 = .ok (.iload_n 2, 1) := by decide +kernel
theorem dX0_isWetAt_21 : decode cX0_isWetAt 21 = .ok (.iconst 1, 1) := by decide +kernel
theorem dX0_isWetAt_22 : decode cX0_isWetAt 22 = .ok (.iadd, 1) := by decide +kernel
theorem dX0_isWetAt_23 : decode cX0_isWetAt 23 = .ok (.istore 6, 2) := by decide +kernel
theorem dX0_isWetAt_25 : decode cX0_isWetAt 25 = .ok (.goto 16, 3) := by decide +kernel
theorem dX0_isWetAt_28 : decode cX0_isWetAt 28 = .ok (.iload_n 0, 1) := by decide +kernel
theorem dX0_isWetAt_29 : decode cX0_isWetAt 29 = .ok (.iconst 2, 1) := by decide +kernel
theorem dX0_isWetAt_30 : decode cX0_isWetAt 30 = .ok (.if_icmp .ne 11, 3) := by decide +kernel
theorem dX0_isWetAt_33 : decode cX0_isWetAt 33 = .ok (.iload_n 2, 1) := by decide +kernel
theorem dX0_isWetAt_34 : decode cX0_isWetAt 34 = .ok (.bipush 7, 2) := by decide +kernel
theorem dX0_isWetAt_36 : decode cX0_isWetAt 36 = .ok (.invokestatic 41, 3) := by decide +kernel
theorem dX0_isWetAt_39 : decode cX0_isWetAt 39 = .ok (.istore 6, 2) := by decide +kernel
theorem dX0_isWetAt_41 : decode cX0_isWetAt 41 = .ok (.iload_n 3, 1) := by decide +kernel
theorem dX0_isWetAt_42 : decode cX0_isWetAt 42 = .ok (.iload_n 1, 1) := by decide +kernel
theorem dX0_isWetAt_43 : decode cX0_isWetAt 43 = .ok (.isub, 1) := by decide +kernel
theorem dX0_isWetAt_44 : decode cX0_isWetAt 44 = .ok (.invokestatic 47, 3) := by decide +kernel
theorem dX0_isWetAt_47 : decode cX0_isWetAt 47 = .ok (.iload 5, 2) := by decide +kernel
theorem dX0_isWetAt_49 : decode cX0_isWetAt 49 = .ok (.if_icmp .gt 14, 3) := by decide +kernel
theorem dX0_isWetAt_52 : decode cX0_isWetAt 52 = .ok (.iload 4, 2) := by decide +kernel
theorem dX0_isWetAt_54 : decode cX0_isWetAt 54 = .ok (.iload 6, 2) := by decide +kernel
theorem dX0_isWetAt_56 : decode cX0_isWetAt 56 = .ok (.if_icmp .ge 7, 3) := by decide +kernel
theorem dX0_isWetAt_59 : decode cX0_isWetAt 59 = .ok (.iconst 1, 1) := by decide +kernel
theorem dX0_isWetAt_60 : decode cX0_isWetAt 60 = .ok (.goto 4, 3) := by decide +kernel
theorem dX0_isWetAt_63 : decode cX0_isWetAt 63 = .ok (.iconst 0, 1) := by decide +kernel
theorem dX0_isWetAt_64 : decode cX0_isWetAt 64 = .ok (.ireturn, 1) := by decide +kernel
theorem dX1_init_0 : decode cX1_init 0 = .ok (.aload_n 0, 1) := by decide +kernel
theorem dX1_init_1 : decode cX1_init 1 = .ok (.invokespecial 3, 3) := by decide +kernel
theorem dX1_init_4 : decode cX1_init 4 = .ok (.aload_n 0, 1) := by decide +kernel
theorem dX1_init_5 : decode cX1_init 5 = .ok (.aload_n 1, 1) := by decide +kernel
theorem dX1_init_6 : decode cX1_init 6 = .ok (.bipush 14, 2) := by decide +kernel
theorem dX1_init_8 : decode cX1_init 8 = .ok (.invokestatic 9, 3) := by decide +kernel
theorem dX1_init_11 : decode cX1_init 11 = .ok (.putfield 13, 3) := by decide +kernel
theorem dX1_init_14 : decode cX1_init 14 = .ok (.return_, 1) := by decide +kernel
theorem dX1_size_0 : decode cX1_size 0 = .ok (.aload_n 0, 1) := by decide +kernel
theorem dX1_size_1 : decode cX1_size 1 = .ok (.getfield 19, 3) := by decide +kernel
theorem dX1_size_4 : decode cX1_size 4 = .ok (.ireturn, 1) := by decide +kernel
theorem dX1_clear_0 : decode cX1_clear 0 = .ok (.aload_n 0, 1) := by decide +kernel
theorem dX1_clear_1 : decode cX1_clear 1 = .ok (.iconst 0, 1) := by decide +kernel
theorem dX1_clear_2 : decode cX1_clear 2 = .ok (.putfield 19, 3) := by decide +kernel
theorem dX1_clear_5 : decode cX1_clear 5 = .ok (.return_, 1) := by decide +kernel
theorem dX1_add_0 : decode cX1_add 0 = .ok (.aload_n 0, 1) := by decide +kernel
theorem dX1_add_1 : decode cX1_add 1 = .ok (.getfield 19, 3) := by decide +kernel
theorem dX1_add_4 : decode cX1_add 4 = .ok (.bipush 14, 2) := by decide +kernel
theorem dX1_add_6 : decode cX1_add 6 = .ok (.if_icmp .ne 26, 3) := by decide +kernel
theorem dX1_add_9 : decode cX1_add 9 = .ok (.aload_n 0, 1) := by decide +kernel
theorem dX1_add_10 : decode cX1_add 10 = .ok (.aload_n 0, 1) := by decide +kernel
theorem dX1_add_11 : decode cX1_add 11 = .ok (.getfield 23, 3) := by decide +kernel
theorem dX1_add_14 : decode cX1_add 14 = .ok (.iconst 1, 1) := by decide +kernel
theorem dX1_add_15 : decode cX1_add 15 = .ok (.iadd, 1) := by decide +kernel
theorem dX1_add_16 : decode cX1_add 16 = .ok (.bipush 14, 2) := by decide +kernel
theorem dX1_add_18 : decode cX1_add 18 = .ok (.irem, 1) := by decide +kernel
theorem dX1_add_19 : decode cX1_add 19 = .ok (.putfield 23, 3) := by decide +kernel
theorem dX1_add_22 : decode cX1_add 22 = .ok (.aload_n 0, 1) := by decide +kernel
theorem dX1_add_23 : decode cX1_add 23 = .ok (.dup, 1) := by decide +kernel
theorem dX1_add_24 : decode cX1_add 24 = .ok (.getfield 19, 3) := by decide +kernel
theorem dX1_add_27 : decode cX1_add 27 = .ok (.iconst 1, 1) := by decide +kernel
theorem dX1_add_28 : decode cX1_add 28 = .ok (.isub, 1) := by decide +kernel
theorem dX1_add_29 : decode cX1_add 29 = .ok (.putfield 19, 3) := by decide +kernel
theorem dX1_add_32 : decode cX1_add 32 = .ok (.aload_n 0, 1) := by decide +kernel
theorem dX1_add_33 : decode cX1_add 33 = .ok (.getfield 13, 3) := by decide +kernel
theorem dX1_add_36 : decode cX1_add 36 = .ok (.aload_n 0, 1) := by decide +kernel
theorem dX1_add_37 : decode cX1_add 37 = .ok (.getfield 23, 3) := by decide +kernel
theorem dX1_add_40 : decode cX1_add 40 = .ok (.aload_n 0, 1) := by decide +kernel
theorem dX1_add_41 : decode cX1_add 41 = .ok (.getfield 19, 3) := by decide +kernel
theorem dX1_add_44 : decode cX1_add 44 = .ok (.iadd, 1) := by decide +kernel
theorem dX1_add_45 : decode cX1_add 45 = .ok (.bipush 14, 2) := by decide +kernel
theorem dX1_add_47 : decode cX1_add 47 = .ok (.irem, 1) := by decide +kernel
theorem dX1_add_48 : decode cX1_add 48 = .ok (.invokestatic 26, 3) := by decide +kernel
theorem dX1_add_51 : decode cX1_add 51 = .ok (.astore_n 2, 1) := by decide +kernel
theorem dX1_add_52 : decode cX1_add 52 = .ok (.aload_n 2, 1) := by decide +kernel
theorem dX1_add_53 : decode cX1_add 53 = .ok (.ifnull 8, 3) := by decide +kernel
theorem dX1_add_56 : decode cX1_add 56 = .ok (.aload_n 2, 1) := by decide +kernel
theorem dX1_add_57 : decode cX1_add 57 = .ok (.aload_n 1, 1) := by decide +kernel
theorem dX1_add_58 : decode cX1_add 58 = .ok (.invokevirtual 30, 3) := by decide +kernel
theorem dX1_add_61 : decode cX1_add 61 = .ok (.aload_n 0, 1) := by decide +kernel
theorem dX1_add_62 : decode cX1_add 62 = .ok (.dup, 1) := by decide +kernel
theorem dX1_add_63 : decode cX1_add 63 = .ok (.getfield 19, 3) := by decide +kernel
theorem dX1_add_66 : decode cX1_add 66 = .ok (.iconst 1, 1) := by decide +kernel
theorem dX1_add_67 : decode cX1_add 67 = .ok (.iadd, 1) := by decide +kernel
theorem dX1_add_68 : decode cX1_add 68 = .ok (.putfield 19, 3) := by decide +kernel
theorem dX1_add_71 : decode cX1_add 71 = .ok (.return_, 1) := by decide +kernel
theorem dX1_takeLast_0 : decode cX1_takeLast 0 = .ok (.aload_n 0, 1) := by decide +kernel
theorem dX1_takeLast_1 : decode cX1_takeLast 1 = .ok (.getfield 19, 3) := by decide +kernel
theorem dX1_takeLast_4 : decode cX1_takeLast 4 = .ok (.ifCond .le 42, 3) := by decide +kernel
theorem dX1_takeLast_7 : decode cX1_takeLast 7 = .ok (.aload_n 0, 1) := by decide +kernel
theorem dX1_takeLast_8 : decode cX1_takeLast 8 = .ok (.dup, 1) := by decide +kernel
theorem dX1_takeLast_9 : decode cX1_takeLast 9 = .ok (.getfield 19, 3) := by decide +kernel
theorem dX1_takeLast_12 : decode cX1_takeLast 12 = .ok (.iconst 1, 1) := by decide +kernel
theorem dX1_takeLast_13 : decode cX1_takeLast 13 = .ok (.isub, 1) := by decide +kernel
theorem dX1_takeLast_14 : decode cX1_takeLast 14 = .ok (.putfield 19, 3) := by decide +kernel
theorem dX1_takeLast_17 : decode cX1_takeLast 17 = .ok (.aload_n 0, 1) := by decide +kernel
theorem dX1_takeLast_18 : decode cX1_takeLast 18 = .ok (.getfield 13, 3) := by decide +kernel
theorem dX1_takeLast_21 : decode cX1_takeLast 21 = .ok (.aload_n 0, 1) := by decide +kernel
theorem dX1_takeLast_22 : decode cX1_takeLast 22 = .ok (.getfield 23, 3) := by decide +kernel
theorem dX1_takeLast_25 : decode cX1_takeLast 25 = .ok (.aload_n 0, 1) := by decide +kernel
theorem dX1_takeLast_26 : decode cX1_takeLast 26 = .ok (.getfield 19, 3) := by decide +kernel
theorem dX1_takeLast_29 : decode cX1_takeLast 29 = .ok (.iadd, 1) := by decide +kernel
theorem dX1_takeLast_30 : decode cX1_takeLast 30 = .ok (.bipush 14, 2) := by decide +kernel
theorem dX1_takeLast_32 : decode cX1_takeLast 32 = .ok (.irem, 1) := by decide +kernel
theorem dX1_takeLast_33 : decode cX1_takeLast 33 = .ok (.invokestatic 26, 3) := by decide +kernel
theorem dX1_takeLast_36 : decode cX1_takeLast 36 = .ok (.astore_n 2, 1) := by decide +kernel
theorem dX1_takeLast_37 : decode cX1_takeLast 37 = .ok (.aload_n 2, 1) := by decide +kernel
theorem dX1_takeLast_38 : decode cX1_takeLast 38 = .ok (.ifnull 8, 3) := by decide +kernel
theorem dX1_takeLast_41 : decode cX1_takeLast 41 = .ok (.aload_n 1, 1) := by decide +kernel
theorem dX1_takeLast_42 : decode cX1_takeLast 42 = .ok (.aload_n 2, 1) := by decide +kernel
theorem dX1_takeLast_43 : decode cX1_takeLast 43 = .ok (.invokevirtual 30, 3) := by decide +kernel
theorem dX1_takeLast_46 : decode cX1_takeLast 46 = .ok (.return_, 1) := by decide +kernel
theorem dX2_init_0 : decode cX2_init 0 = .ok (.aload_n 0, 1) := by decide +kernel
theorem dX2_init_1 : decode cX2_init 1 = .ok (.invokespecial 3, 3) := by decide +kernel
theorem dX2_init_4 : decode cX2_init 4 = .ok (.aload_n 0, 1) := by decide +kernel
theorem dX2_init_5 : decode cX2_init 5 = .ok (.iconst 5, 1) := by decide +kernel
theorem dX2_init_6 : decode cX2_init 6 = .ok (.newarray .int, 2) := by decide +kernel
theorem dX2_init_8 : decode cX2_init 8 = .ok (.putfield 9, 3) := by decide +kernel
theorem dX2_init_11 : decode cX2_init 11 = .ok (.aload_n 0, 1) := by decide +kernel
theorem dX2_init_12 : decode cX2_init 12 = .ok (.iconst 5, 1) := by decide +kernel
theorem dX2_init_13 : decode cX2_init 13 = .ok (.newarray .int, 2) := by decide +kernel
theorem dX2_init_15 : decode cX2_init 15 = .ok (.putfield 15, 3) := by decide +kernel
theorem dX2_init_18 : decode cX2_init 18 = .ok (.aload_n 0, 1) := by decide +kernel
theorem dX2_init_19 : decode cX2_init 19 = .ok (.iconst 5, 1) := by decide +kernel
theorem dX2_init_20 : decode cX2_init 20 = .ok (.newarray .int, 2) := by decide +kernel
theorem dX2_init_22 : decode cX2_init 22 = .ok (.putfield 18, 3) := by decide +kernel
theorem dX2_init_25 : decode cX2_init 25 = .ok (.aload_n 0, 1) := by decide +kernel
theorem dX2_init_26 : decode cX2_init 26 = .ok (.iconst 5, 1) := by decide +kernel
theorem dX2_init_27 : decode cX2_init 27 = .ok (.newarray .int, 2) := by decide +kernel
theorem dX2_init_29 : decode cX2_init 29 = .ok (.putfield 21, 3) := by decide +kernel
theorem dX2_init_32 : decode cX2_init 32 = .ok (.aload_n 0, 1) := by decide +kernel
theorem dX2_init_33 : decode cX2_init 33 = .ok (.iconst 5, 1) := by decide +kernel
theorem dX2_init_34 : decode cX2_init 34 = .ok (.newarray .int, 2) := by decide +kernel
theorem dX2_init_36 : decode cX2_init 36 = .ok (.putfield 24, 3) := by decide +kernel
theorem dX2_init_39 : decode cX2_init 39 = .ok (.return_, 1) := by decide +kernel
theorem dX2_readFrom_0 : decode cX2_readFrom 0 = .ok (.aload_n 0, 1) := by decide +kernel
theorem dX2_readFrom_1 : decode cX2_readFrom 1 = .ok (.iconst 0, 1) := by decide +kernel
theorem dX2_readFrom_2 : decode cX2_readFrom 2 = .ok (.putfield 27, 3) := by decide +kernel
theorem dX2_readFrom_5 : decode cX2_readFrom 5 = .ok (.aload_n 0, 1) := by decide +kernel
theorem dX2_readFrom_6 : decode cX2_readFrom 6 = .ok (.iconst 0, 1) := by decide +kernel
theorem dX2_readFrom_7 : decode cX2_readFrom 7 = .ok (.putfield 31, 3) := by decide +kernel
theorem dX2_readFrom_10 : decode cX2_readFrom 10 = .ok (.iconst 1, 1) := by decide +kernel
theorem dX2_readFrom_11 : decode cX2_readFrom 11 = .ok (.istore_n 2, 1) := by decide +kernel
theorem dX2_readFrom_12 : decode cX2_readFrom 12 = .ok (.iload_n 2, 1) := by decide +kernel
theorem dX2_readFrom_13 : decode cX2_readFrom 13 = .ok (.aload_n 1, 1) := by decide +kernel
theorem dX2_readFrom_14 : decode cX2_readFrom 14 = .ok (.invokevirtual 34, 3) := by decide +kernel
theorem dX2_readFrom_17 : decode cX2_readFrom 17 = .ok (.if_icmp .ge 142, 3) := by decide +kernel
theorem dX2_readFrom_20 : decode cX2_readFrom 20 = .ok (.aload_n 1, 1) := by decide +kernel
theorem dX2_readFrom_21 : decode cX2_readFrom 21 = .ok (.iload_n 2, 1) := by decide +kernel
theorem dX2_readFrom_22 : decode cX2_readFrom 22 = .ok (.invokevirtual 40, 3) := by decide +kernel
theorem dX2_readFrom_25 : decode cX2_readFrom 25 = .ok (.bipush 87, 2) := by decide +kernel
theorem dX2_readFrom_27 : decode cX2_readFrom 27 = .ok (.if_icmp .ne 52, 3) := by decide +kernel
theorem dX2_readFrom_30 : decode cX2_readFrom 30 = .ok (.aload_n 0, 1) := by decide +kernel
theorem dX2_readFrom_31 : decode cX2_readFrom 31 = .ok (.getfield 9, 3) := by decide +kernel
theorem dX2_readFrom_34 : decode cX2_readFrom 34 = .ok (.aload_n 0, 1) := by decide +kernel
theorem dX2_readFrom_35 : decode cX2_readFrom 35 = .ok (.getfield 27, 3) := by decide +kernel
theorem dX2_readFrom_38 : decode cX2_readFrom 38 = .ok (.aload_n 1, 1) := by decide +kernel
theorem dX2_readFrom_39 : decode cX2_readFrom 39 = .ok (.iload_n 2, 1) := by decide +kernel
theorem dX2_readFrom_40 : decode cX2_readFrom 40 = .ok (.iconst 1, 1) := by decide +kernel
theorem dX2_readFrom_41 : decode cX2_readFrom 41 = .ok (.iadd, 1) := by decide +kernel
theorem dX2_readFrom_42 : decode cX2_readFrom 42 = .ok (.invokevirtual 44, 3) := by decide +kernel
theorem dX2_readFrom_45 : decode cX2_readFrom 45 = .ok (.invokestatic 47, 3) := by decide +kernel
theorem dX2_readFrom_48 : decode cX2_readFrom 48 = .ok (.aload_n 0, 1) := by decide +kernel
theorem dX2_readFrom_49 : decode cX2_readFrom 49 = .ok (.getfield 15, 3) := by decide +kernel
theorem dX2_readFrom_52 : decode cX2_readFrom 52 = .ok (.aload_n 0, 1) := by decide +kernel
theorem dX2_readFrom_53 : decode cX2_readFrom 53 = .ok (.getfield 27, 3) := by decide +kernel
theorem dX2_readFrom_56 : decode cX2_readFrom 56 = .ok (.aload_n 1, 1) := by decide +kernel
theorem dX2_readFrom_57 : decode cX2_readFrom 57 = .ok (.iload_n 2, 1) := by decide +kernel
theorem dX2_readFrom_58 : decode cX2_readFrom 58 = .ok (.iconst 2, 1) := by decide +kernel
theorem dX2_readFrom_59 : decode cX2_readFrom 59 = .ok (.iadd, 1) := by decide +kernel
theorem dX2_readFrom_60 : decode cX2_readFrom 60 = .ok (.invokevirtual 44, 3) := by decide +kernel
theorem dX2_readFrom_63 : decode cX2_readFrom 63 = .ok (.invokestatic 47, 3) := by decide +kernel
theorem dX2_readFrom_66 : decode cX2_readFrom 66 = .ok (.aload_n 0, 1) := by decide +kernel
theorem dX2_readFrom_67 : decode cX2_readFrom 67 = .ok (.dup, 1) := by decide +kernel
theorem dX2_readFrom_68 : decode cX2_readFrom 68 = .ok (.getfield 27, 3) := by decide +kernel
theorem dX2_readFrom_71 : decode cX2_readFrom 71 = .ok (.iconst 1, 1) := by decide +kernel
theorem dX2_readFrom_72 : decode cX2_readFrom 72 = .ok (.iadd, 1) := by decide +kernel
theorem dX2_readFrom_73 : decode cX2_readFrom 73 = .ok (.putfield 27, 3) := by decide +kernel
theorem dX2_readFrom_76 : decode cX2_readFrom 76 = .ok (.goto 77, 3) := by decide +kernel
theorem dX2_readFrom_79 : decode cX2_readFrom 79 = .ok (.aload_n 1, 1) := by decide +kernel
theorem dX2_readFrom_80 : decode cX2_readFrom 80 = .ok (.iload_n 2, 1) := by decide +kernel
theorem dX2_readFrom_81 : decode cX2_readFrom 81 = .ok (.invokevirtual 40, 3) := by decide +kernel
theorem dX2_readFrom_84 : decode cX2_readFrom 84 = .ok (.bipush 78, 2) := by decide +kernel
theorem dX2_readFrom_86 : decode cX2_readFrom 86 = .ok (.if_icmp .ne 67, 3) := by decide +kernel
theorem dX2_readFrom_89 : decode cX2_readFrom 89 = .ok (.aload_n 0, 1) := by decide +kernel
theorem dX2_readFrom_90 : decode cX2_readFrom 90 = .ok (.getfield 18, 3) := by decide +kernel
theorem dX2_readFrom_93 : decode cX2_readFrom 93 = .ok (.aload_n 0, 1) := by decide +kernel
theorem dX2_readFrom_94 : decode cX2_readFrom 94 = .ok (.getfield 31, 3) := by decide +kernel
theorem dX2_readFrom_97 : decode cX2_readFrom 97 = .ok (.aload_n 1, 1) := by decide +kernel
theorem dX2_readFrom_98 : decode cX2_readFrom 98 = .ok (.iload_n 2, 1) := by decide +kernel
theorem dX2_readFrom_99 : decode cX2_readFrom 99 = .ok (.iconst 1, 1) := by decide +kernel
theorem dX2_readFrom_100 : decode cX2_readFrom 100 = .ok (.iadd, 1) := by decide +kernel
theorem dX2_readFrom_101 : decode cX2_readFrom 101 = .ok (.invokevirtual 44, 3) := by decide +kernel
theorem dX2_readFrom_104 : decode cX2_readFrom 104 = .ok (.invokestatic 47, 3) := by decide +kernel
theorem dX2_readFrom_107 : decode cX2_readFrom 107 = .ok (.aload_n 0, 1) := by decide +kernel
theorem dX2_readFrom_108 : decode cX2_readFrom 108 = .ok (.getfield 21, 3) := by decide +kernel
theorem dX2_readFrom_111 : decode cX2_readFrom 111 = .ok (.aload_n 0, 1) := by decide +kernel
theorem dX2_readFrom_112 : decode cX2_readFrom 112 = .ok (.getfield 31, 3) := by decide +kernel
theorem dX2_readFrom_115 : decode cX2_readFrom 115 = .ok (.aload_n 1, 1) := by decide +kernel
theorem dX2_readFrom_116 : decode cX2_readFrom 116 = .ok (.iload_n 2, 1) := by decide +kernel
theorem dX2_readFrom_117 : decode cX2_readFrom 117 = .ok (.iconst 2, 1) := by decide +kernel
theorem dX2_readFrom_118 : decode cX2_readFrom 118 = .ok (.iadd, 1) := by decide +kernel
theorem dX2_readFrom_119 : decode cX2_readFrom 119 = .ok (.invokevirtual 44, 3) := by decide +kernel
theorem dX2_readFrom_122 : decode cX2_readFrom 122 = .ok (.invokestatic 47, 3) := by decide +kernel
theorem dX2_readFrom_125 : decode cX2_readFrom 125 = .ok (.aload_n 0, 1) := by decide +kernel
theorem dX2_readFrom_126 : decode cX2_readFrom 126 = .ok (.getfield 24, 3) := by decide +kernel
theorem dX2_readFrom_129 : decode cX2_readFrom 129 = .ok (.aload_n 0, 1) := by decide +kernel
theorem dX2_readFrom_130 : decode cX2_readFrom 130 = .ok (.getfield 31, 3) := by decide +kernel
theorem dX2_readFrom_133 : decode cX2_readFrom 133 = .ok (.aload_n 1, 1) := by decide +kernel
theorem dX2_readFrom_134 : decode cX2_readFrom 134 = .ok (.iload_n 2, 1) := by decide +kernel
theorem dX2_readFrom_135 : decode cX2_readFrom 135 = .ok (.iconst 3, 1) := by decide +kernel
theorem dX2_readFrom_136 : decode cX2_readFrom 136 = .ok (.iadd, 1) := by decide +kernel
theorem dX2_readFrom_137 : decode cX2_readFrom 137 = .ok (.invokevirtual 44, 3) := by decide +kernel
theorem dX2_readFrom_140 : decode cX2_readFrom 140 = .ok (.invokestatic 47, 3) := by decide +kernel
theorem dX2_readFrom_143 : decode cX2_readFrom 143 = .ok (.aload_n 0, 1) := by decide +kernel
theorem dX2_readFrom_144 : decode cX2_readFrom 144 = .ok (.dup, 1) := by decide +kernel
theorem dX2_readFrom_145 : decode cX2_readFrom 145 = .ok (.getfield 31, 3) := by decide +kernel
theorem dX2_readFrom_148 : decode cX2_readFrom 148 = .ok (.iconst 1, 1) := by decide +kernel
theorem dX2_readFrom_149 : decode cX2_readFrom 149 = .ok (.iadd, 1) := by decide +kernel
theorem dX2_readFrom_150 : decode cX2_readFrom 150 = .ok (.putfield 31, 3) := by decide +kernel
theorem dX2_readFrom_153 : decode cX2_readFrom 153 = .ok (.iinc 2 1, 3) := by decide +kernel
theorem dX2_readFrom_156 : decode cX2_readFrom 156 = .ok (.goto (-144), 3) := by decide +kernel
theorem dX2_readFrom_159 : decode cX2_readFrom 159 = .ok (.return_, 1) := by decide +kernel
theorem dX2_walkerCount_0 : decode cX2_walkerCount 0 = .ok (.aload_n 0, 1) := by decide +kernel
theorem dX2_walkerCount_1 : decode cX2_walkerCount 1 = .ok (.getfield 27, 3) := by decide +kernel
theorem dX2_walkerCount_4 : decode cX2_walkerCount 4 = .ok (.ireturn, 1) := by decide +kernel
theorem dX2_needCount_0 : decode cX2_needCount 0 = .ok (.aload_n 0, 1) := by decide +kernel
theorem dX2_needCount_1 : decode cX2_needCount 1 = .ok (.getfield 31, 3) := by decide +kernel
theorem dX2_needCount_4 : decode cX2_needCount 4 = .ok (.ireturn, 1) := by decide +kernel
theorem dX2_hasWalker_0 : decode cX2_hasWalker 0 = .ok (.iload_n 1, 1) := by decide +kernel
theorem dX2_hasWalker_1 : decode cX2_hasWalker 1 = .ok (.ifCond .lt 15, 3) := by decide +kernel
theorem dX2_hasWalker_4 : decode cX2_hasWalker 4 = .ok (.iload_n 1, 1) := by decide +kernel
theorem dX2_hasWalker_5 : decode cX2_hasWalker 5 = .ok (.aload_n 0, 1) := by decide +kernel
theorem dX2_hasWalker_6 : decode cX2_hasWalker 6 = .ok (.getfield 27, 3) := by decide +kernel
theorem dX2_hasWalker_9 : decode cX2_hasWalker 9 = .ok (.if_icmp .ge 7, 3) := by decide +kernel
theorem dX2_hasWalker_12 : decode cX2_hasWalker 12 = .ok (.iconst 1, 1) := by decide +kernel
theorem dX2_hasWalker_13 : decode cX2_hasWalker 13 = .ok (.goto 4, 3) := by decide +kernel
theorem dX2_hasWalker_16 : decode cX2_hasWalker 16 = .ok (.iconst 0, 1) := by decide +kernel
theorem dX2_hasWalker_17 : decode cX2_hasWalker 17 = .ok (.ireturn, 1) := by decide +kernel
theorem dX2_hasNeed_0 : decode cX2_hasNeed 0 = .ok (.iload_n 1, 1) := by decide +kernel
theorem dX2_hasNeed_1 : decode cX2_hasNeed 1 = .ok (.ifCond .lt 15, 3) := by decide +kernel
theorem dX2_hasNeed_4 : decode cX2_hasNeed 4 = .ok (.iload_n 1, 1) := by decide +kernel
theorem dX2_hasNeed_5 : decode cX2_hasNeed 5 = .ok (.aload_n 0, 1) := by decide +kernel
theorem dX2_hasNeed_6 : decode cX2_hasNeed 6 = .ok (.getfield 31, 3) := by decide +kernel
theorem dX2_hasNeed_9 : decode cX2_hasNeed 9 = .ok (.if_icmp .ge 7, 3) := by decide +kernel
theorem dX2_hasNeed_12 : decode cX2_hasNeed 12 = .ok (.iconst 1, 1) := by decide +kernel
theorem dX2_hasNeed_13 : decode cX2_hasNeed 13 = .ok (.goto 4, 3) := by decide +kernel
theorem dX2_hasNeed_16 : decode cX2_hasNeed 16 = .ok (.iconst 0, 1) := by decide +kernel
theorem dX2_hasNeed_17 : decode cX2_hasNeed 17 = .ok (.ireturn, 1) := by decide +kernel
theorem dX2_homeOf_0 : decode cX2_homeOf 0 = .ok (.aload_n 0, 1) := by decide +kernel
theorem dX2_homeOf_1 : decode cX2_homeOf 1 = .ok (.getfield 9, 3) := by decide +kernel
theorem dX2_homeOf_4 : decode cX2_homeOf 4 = .ok (.iload_n 1, 1) := by decide +kernel
theorem dX2_homeOf_5 : decode cX2_homeOf 5 = .ok (.invokestatic 51, 3) := by decide +kernel
theorem dX2_homeOf_8 : decode cX2_homeOf 8 = .ok (.ireturn, 1) := by decide +kernel
theorem dX2_stuffOf_0 : decode cX2_stuffOf 0 = .ok (.aload_n 0, 1) := by decide +kernel
theorem dX2_stuffOf_1 : decode cX2_stuffOf 1 = .ok (.getfield 15, 3) := by decide +kernel
theorem dX2_stuffOf_4 : decode cX2_stuffOf 4 = .ok (.iload_n 1, 1) := by decide +kernel
theorem dX2_stuffOf_5 : decode cX2_stuffOf 5 = .ok (.invokestatic 51, 3) := by decide +kernel
theorem dX2_stuffOf_8 : decode cX2_stuffOf 8 = .ok (.ireturn, 1) := by decide +kernel
theorem dX2_streetOfNeed_0 : decode cX2_streetOfNeed 0 = .ok (.aload_n 0, 1) := by decide +kernel
theorem dX2_streetOfNeed_1 : decode cX2_streetOfNeed 1 = .ok (.getfield 18, 3) := by decide +kernel
theorem dX2_streetOfNeed_4 : decode cX2_streetOfNeed 4 = .ok (.iload_n 1, 1) := by decide +kernel
theorem dX2_streetOfNeed_5 : decode cX2_streetOfNeed 5 = .ok (.invokestatic 51, 3) := by decide +kernel
theorem dX2_streetOfNeed_8 : decode cX2_streetOfNeed 8 = .ok (.ireturn, 1) := by decide +kernel
theorem dX2_sortOfNeed_0 : decode cX2_sortOfNeed 0 = .ok (.aload_n 0, 1) := by decide +kernel
theorem dX2_sortOfNeed_1 : decode cX2_sortOfNeed 1 = .ok (.getfield 21, 3) := by decide +kernel
theorem dX2_sortOfNeed_4 : decode cX2_sortOfNeed 4 = .ok (.iload_n 1, 1) := by decide +kernel
theorem dX2_sortOfNeed_5 : decode cX2_sortOfNeed 5 = .ok (.invokestatic 51, 3) := by decide +kernel
theorem dX2_sortOfNeed_8 : decode cX2_sortOfNeed 8 = .ok (.ireturn, 1) := by decide +kernel
theorem dX2_figureOfNeed_0 : decode cX2_figureOfNeed 0 = .ok (.aload_n 0, 1) := by decide +kernel
theorem dX2_figureOfNeed_1 : decode cX2_figureOfNeed 1 = .ok (.getfield 24, 3) := by decide +kernel
theorem dX2_figureOfNeed_4 : decode cX2_figureOfNeed 4 = .ok (.iload_n 1, 1) := by decide +kernel
theorem dX2_figureOfNeed_5 : decode cX2_figureOfNeed 5 = .ok (.invokestatic 51, 3) := by decide +kernel
theorem dX2_figureOfNeed_8 : decode cX2_figureOfNeed 8 = .ok (.ireturn, 1) := by decide +kernel
theorem dX3_init_0 : decode cX3_init 0 = .ok (.aload_n 0, 1) := by decide +kernel
theorem dX3_init_1 : decode cX3_init 1 = .ok (.invokespecial 3, 3) := by decide +kernel
theorem dX3_init_4 : decode cX3_init 4 = .ok (.aload_n 0, 1) := by decide +kernel
theorem dX3_init_5 : decode cX3_init 5 = .ok (.iconst 5, 1) := by decide +kernel
theorem dX3_init_6 : decode cX3_init 6 = .ok (.newarray .int, 2) := by decide +kernel
theorem dX3_init_8 : decode cX3_init 8 = .ok (.putfield 9, 3) := by decide +kernel
theorem dX3_init_11 : decode cX3_init 11 = .ok (.aload_n 0, 1) := by decide +kernel
theorem dX3_init_12 : decode cX3_init 12 = .ok (.bipush 6, 2) := by decide +kernel
theorem dX3_init_14 : decode cX3_init 14 = .ok (.newarray .int, 2) := by decide +kernel
theorem dX3_init_16 : decode cX3_init 16 = .ok (.putfield 15, 3) := by decide +kernel
theorem dX3_init_19 : decode cX3_init 19 = .ok (.aload_n 0, 1) := by decide +kernel
theorem dX3_init_20 : decode cX3_init 20 = .ok (.bipush 6, 2) := by decide +kernel
theorem dX3_init_22 : decode cX3_init 22 = .ok (.newarray .int, 2) := by decide +kernel
theorem dX3_init_24 : decode cX3_init 24 = .ok (.putfield 18, 3) := by decide +kernel
theorem dX3_init_27 : decode cX3_init 27 = .ok (.aload_n 0, 1) := by decide +kernel
theorem dX3_init_28 : decode cX3_init 28 = .ok (.iconst 5, 1) := by decide +kernel
theorem dX3_init_29 : decode cX3_init 29 = .ok (.newarray .int, 2) := by decide +kernel
theorem dX3_init_31 : decode cX3_init 31 = .ok (.putfield 21, 3) := by decide +kernel
theorem dX3_init_34 : decode cX3_init 34 = .ok (.aload_n 0, 1) := by decide +kernel
theorem dX3_init_35 : decode cX3_init 35 = .ok (.aload_n 1, 1) := by decide +kernel
theorem dX3_init_36 : decode cX3_init 36 = .ok (.putfield 24, 3) := by decide +kernel
theorem dX3_init_39 : decode cX3_init 39 = .ok (.return_, 1) := by decide +kernel
theorem dX3_begin_0 : decode cX3_begin 0 = .ok (.iconst 0, 1) := by decide +kernel
theorem dX3_begin_1 : decode cX3_begin 1 = .ok (.istore_n 1, 1) := by decide +kernel
theorem dX3_begin_2 : decode cX3_begin 2 = .ok (.iload_n 1, 1) := by decide +kernel
theorem dX3_begin_3 : decode cX3_begin 3 = .ok (.aload_n 0, 1) := by decide +kernel
theorem dX3_begin_4 : decode cX3_begin 4 = .ok (.getfield 9, 3) := by decide +kernel
theorem dX3_begin_7 : decode cX3_begin 7 = .ok (.arraylength, 1) := by decide +kernel
theorem dX3_begin_8 : decode cX3_begin 8 = .ok (.if_icmp .ge 23, 3) := by decide +kernel
theorem dX3_begin_11 : decode cX3_begin 11 = .ok (.aload_n 0, 1) := by decide +kernel
theorem dX3_begin_12 : decode cX3_begin 12 = .ok (.getfield 9, 3) := by decide +kernel
theorem dX3_begin_15 : decode cX3_begin 15 = .ok (.iload_n 1, 1) := by decide +kernel
theorem dX3_begin_16 : decode cX3_begin 16 = .ok (.aload_n 0, 1) := by decide +kernel
theorem dX3_begin_17 : decode cX3_begin 17 = .ok (.getfield 24, 3) := by decide +kernel
theorem dX3_begin_20 : decode cX3_begin 20 = .ok (.iload_n 1, 1) := by decide +kernel
theorem dX3_begin_21 : decode cX3_begin 21 = .ok (.invokevirtual 28, 3) := by decide +kernel
theorem dX3_begin_24 : decode cX3_begin 24 = .ok (.iastore, 1) := by decide +kernel
theorem dX3_begin_25 : decode cX3_begin 25 = .ok (.iinc 1 1, 3) := by decide +kernel
theorem dX3_begin_28 : decode cX3_begin 28 = .ok (.goto (-26), 3) := by decide +kernel
theorem dX3_begin_31 : decode cX3_begin 31 = .ok (.aload_n 0, 1) := by decide +kernel
theorem dX3_begin_32 : decode cX3_begin 32 = .ok (.getfield 15, 3) := by decide +kernel
theorem dX3_begin_35 : decode cX3_begin 35 = .ok (.iconst 0, 1) := by decide +kernel
theorem dX3_begin_36 : decode cX3_begin 36 = .ok (.invokestatic 34, 3) := by decide +kernel
theorem dX3_begin_39 : decode cX3_begin 39 = .ok (.aload_n 0, 1) := by decide +kernel
theorem dX3_begin_40 : decode cX3_begin 40 = .ok (.getfield 18, 3) := by decide +kernel
theorem dX3_begin_43 : decode cX3_begin 43 = .ok (.iconst 0, 1) := by decide +kernel
theorem dX3_begin_44 : decode cX3_begin 44 = .ok (.invokestatic 34, 3) := by decide +kernel
theorem dX3_begin_47 : decode cX3_begin 47 = .ok (.aload_n 0, 1) := by decide +kernel
theorem dX3_begin_48 : decode cX3_begin 48 = .ok (.getfield 21, 3) := by decide +kernel
theorem dX3_begin_51 : decode cX3_begin 51 = .ok (.iconst 0, 1) := by decide +kernel
theorem dX3_begin_52 : decode cX3_begin 52 = .ok (.invokestatic 34, 3) := by decide +kernel
theorem dX3_begin_55 : decode cX3_begin 55 = .ok (.aload_n 0, 1) := by decide +kernel
theorem dX3_begin_56 : decode cX3_begin 56 = .ok (.iconst 0, 1) := by decide +kernel
theorem dX3_begin_57 : decode cX3_begin 57 = .ok (.putfield 40, 3) := by decide +kernel
theorem dX3_begin_60 : decode cX3_begin 60 = .ok (.aload_n 0, 1) := by decide +kernel
theorem dX3_begin_61 : decode cX3_begin 61 = .ok (.iconst 0, 1) := by decide +kernel
theorem dX3_begin_62 : decode cX3_begin 62 = .ok (.putfield 44, 3) := by decide +kernel
theorem dX3_begin_65 : decode cX3_begin 65 = .ok (.return_, 1) := by decide +kernel
theorem dX3_copy_0 : decode cX3_copy 0 = .ok (.aload_n 1, 1) := by decide +kernel
theorem dX3_copy_1 : decode cX3_copy 1 = .ok (.getfield 9, 3) := by decide +kernel
theorem dX3_copy_4 : decode cX3_copy 4 = .ok (.iconst 0, 1) := by decide +kernel
theorem dX3_copy_5 : decode cX3_copy 5 = .ok (.aload_n 0, 1) := by decide +kernel
theorem dX3_copy_6 : decode cX3_copy 6 = .ok (.getfield 9, 3) := by decide +kernel
theorem dX3_copy_9 : decode cX3_copy 9 = .ok (.iconst 0, 1) := by decide +kernel
theorem dX3_copy_10 : decode cX3_copy 10 = .ok (.aload_n 0, 1) := by decide +kernel
theorem dX3_copy_11 : decode cX3_copy 11 = .ok (.getfield 9, 3) := by decide +kernel
theorem dX3_copy_14 : decode cX3_copy 14 = .ok (.arraylength, 1) := by decide +kernel
theorem dX3_copy_15 : decode cX3_copy 15 = .ok (.invokestatic 47, 3) := by decide +kernel
theorem dX3_copy_18 : decode cX3_copy 18 = .ok (.aload_n 1, 1) := by decide +kernel
theorem dX3_copy_19 : decode cX3_copy 19 = .ok (.getfield 15, 3) := by decide +kernel
theorem dX3_copy_22 : decode cX3_copy 22 = .ok (.iconst 0, 1) := by decide +kernel
theorem dX3_copy_23 : decode cX3_copy 23 = .ok (.aload_n 0, 1) := by decide +kernel
theorem dX3_copy_24 : decode cX3_copy 24 = .ok (.getfield 15, 3) := by decide +kernel
theorem dX3_copy_27 : decode cX3_copy 27 = .ok (.iconst 0, 1) := by decide +kernel
theorem dX3_copy_28 : decode cX3_copy 28 = .ok (.aload_n 0, 1) := by decide +kernel
theorem dX3_copy_29 : decode cX3_copy 29 = .ok (.getfield 15, 3) := by decide +kernel
theorem dX3_copy_32 : decode cX3_copy 32 = .ok (.arraylength, 1) := by decide +kernel
theorem dX3_copy_33 : decode cX3_copy 33 = .ok (.invokestatic 47, 3) := by decide +kernel
theorem dX3_copy_36 : decode cX3_copy 36 = .ok (.aload_n 1, 1) := by decide +kernel
theorem dX3_copy_37 : decode cX3_copy 37 = .ok (.getfield 18, 3) := by decide +kernel
theorem dX3_copy_40 : decode cX3_copy 40 = .ok (.iconst 0, 1) := by decide +kernel
theorem dX3_copy_41 : decode cX3_copy 41 = .ok (.aload_n 0, 1) := by decide +kernel
theorem dX3_copy_42 : decode cX3_copy 42 = .ok (.getfield 18, 3) := by decide +kernel
theorem dX3_copy_45 : decode cX3_copy 45 = .ok (.iconst 0, 1) := by decide +kernel
theorem dX3_copy_46 : decode cX3_copy 46 = .ok (.aload_n 0, 1) := by decide +kernel
theorem dX3_copy_47 : decode cX3_copy 47 = .ok (.getfield 18, 3) := by decide +kernel
theorem dX3_copy_50 : decode cX3_copy 50 = .ok (.arraylength, 1) := by decide +kernel
theorem dX3_copy_51 : decode cX3_copy 51 = .ok (.invokestatic 47, 3) := by decide +kernel
theorem dX3_copy_54 : decode cX3_copy 54 = .ok (.aload_n 1, 1) := by decide +kernel
theorem dX3_copy_55 : decode cX3_copy 55 = .ok (.getfield 21, 3) := by decide +kernel
theorem dX3_copy_58 : decode cX3_copy 58 = .ok (.iconst 0, 1) := by decide +kernel
theorem dX3_copy_59 : decode cX3_copy 59 = .ok (.aload_n 0, 1) := by decide +kernel
theorem dX3_copy_60 : decode cX3_copy 60 = .ok (.getfield 21, 3) := by decide +kernel
theorem dX3_copy_63 : decode cX3_copy 63 = .ok (.iconst 0, 1) := by decide +kernel
theorem dX3_copy_64 : decode cX3_copy 64 = .ok (.aload_n 0, 1) := by decide +kernel
theorem dX3_copy_65 : decode cX3_copy 65 = .ok (.getfield 21, 3) := by decide +kernel
theorem dX3_copy_68 : decode cX3_copy 68 = .ok (.arraylength, 1) := by decide +kernel
theorem dX3_copy_69 : decode cX3_copy 69 = .ok (.invokestatic 47, 3) := by decide +kernel
theorem dX3_copy_72 : decode cX3_copy 72 = .ok (.aload_n 0, 1) := by decide +kernel
theorem dX3_copy_73 : decode cX3_copy 73 = .ok (.aload_n 1, 1) := by decide +kernel
theorem dX3_copy_74 : decode cX3_copy 74 = .ok (.getfield 40, 3) := by decide +kernel
theorem dX3_copy_77 : decode cX3_copy 77 = .ok (.putfield 40, 3) := by decide +kernel
theorem dX3_copy_80 : decode cX3_copy 80 = .ok (.aload_n 0, 1) := by decide +kernel
theorem dX3_copy_81 : decode cX3_copy 81 = .ok (.aload_n 1, 1) := by decide +kernel
theorem dX3_copy_82 : decode cX3_copy 82 = .ok (.getfield 44, 3) := by decide +kernel
theorem dX3_copy_85 : decode cX3_copy 85 = .ok (.putfield 44, 3) := by decide +kernel
theorem dX3_copy_88 : decode cX3_copy 88 = .ok (.return_, 1) := by decide +kernel
theorem dX3_time_0 : decode cX3_time 0 = .ok (.aload_n 0, 1) := by decide +kernel
theorem dX3_time_1 : decode cX3_time 1 = .ok (.getfield 44, 3) := by decide +kernel
theorem dX3_time_4 : decode cX3_time 4 = .ok (.ireturn, 1) := by decide +kernel
theorem dX3_placeOf_0 : decode cX3_placeOf 0 = .ok (.aload_n 0, 1) := by decide +kernel
theorem dX3_placeOf_1 : decode cX3_placeOf 1 = .ok (.getfield 9, 3) := by decide +kernel
theorem dX3_placeOf_4 : decode cX3_placeOf 4 = .ok (.iload_n 1, 1) := by decide +kernel
theorem dX3_placeOf_5 : decode cX3_placeOf 5 = .ok (.invokestatic 53, 3) := by decide +kernel
theorem dX3_placeOf_8 : decode cX3_placeOf 8 = .ok (.ireturn, 1) := by decide +kernel
theorem dX3_lastsIn_0 : decode cX3_lastsIn 0 = .ok (.aload_n 0, 1) := by decide +kernel
theorem dX3_lastsIn_1 : decode cX3_lastsIn 1 = .ok (.getfield 15, 3) := by decide +kernel
theorem dX3_lastsIn_4 : decode cX3_lastsIn 4 = .ok (.iload_n 1, 1) := by decide +kernel
theorem dX3_lastsIn_5 : decode cX3_lastsIn 5 = .ok (.invokestatic 53, 3) := by decide +kernel
theorem dX3_lastsIn_8 : decode cX3_lastsIn 8 = .ok (.ireturn, 1) := by decide +kernel
theorem dX3_wetnessOf_0 : decode cX3_wetnessOf 0 = .ok (.aload_n 0, 1) := by decide +kernel
theorem dX3_wetnessOf_1 : decode cX3_wetnessOf 1 = .ok (.getfield 18, 3) := by decide +kernel
theorem dX3_wetnessOf_4 : decode cX3_wetnessOf 4 = .ok (.iload_n 1, 1) := by decide +kernel
theorem dX3_wetnessOf_5 : decode cX3_wetnessOf 5 = .ok (.invokestatic 53, 3) := by decide +kernel
theorem dX3_wetnessOf_8 : decode cX3_wetnessOf 8 = .ok (.ireturn, 1) := by decide +kernel
theorem dX3_fateOf_0 : decode cX3_fateOf 0 = .ok (.aload_n 0, 1) := by decide +kernel
theorem dX3_fateOf_1 : decode cX3_fateOf 1 = .ok (.getfield 21, 3) := by decide +kernel
theorem dX3_fateOf_4 : decode cX3_fateOf 4 = .ok (.iload_n 1, 1) := by decide +kernel
theorem dX3_fateOf_5 : decode cX3_fateOf 5 = .ok (.invokestatic 53, 3) := by decide +kernel
theorem dX3_fateOf_8 : decode cX3_fateOf 8 = .ok (.ireturn, 1) := by decide +kernel
theorem dX3_openBits_0 : decode cX3_openBits 0 = .ok (.aload_n 0, 1) := by decide +kernel
theorem dX3_openBits_1 : decode cX3_openBits 1 = .ok (.getfield 40, 3) := by decide +kernel
theorem dX3_openBits_4 : decode cX3_openBits 4 = .ok (.ireturn, 1) := by decide +kernel
theorem dX3_shutBits_0 : decode cX3_shutBits 0 = .ok (.iconst 1, 1) := by decide +kernel
theorem dX3_shutBits_1 : decode cX3_shutBits 1 = .ok (.aload_n 0, 1) := by decide +kernel
theorem dX3_shutBits_2 : decode cX3_shutBits 2 = .ok (.getfield 24, 3) := by decide +kernel
theorem dX3_shutBits_5 : decode cX3_shutBits 5 = .ok (.invokevirtual 57, 3) := by decide +kernel
theorem dX3_shutBits_8 : decode cX3_shutBits 8 = .ok (.ishl, 1) := by decide +kernel
theorem dX3_shutBits_9 : decode cX3_shutBits 9 = .ok (.iconst 1, 1) := by decide +kernel
theorem dX3_shutBits_10 : decode cX3_shutBits 10 = .ok (.isub, 1) := by decide +kernel
theorem dX3_shutBits_11 : decode cX3_shutBits 11 = .ok (.aload_n 0, 1) := by decide +kernel
theorem dX3_shutBits_12 : decode cX3_shutBits 12 = .ok (.getfield 40, 3) := by decide +kernel
theorem dX3_shutBits_15 : decode cX3_shutBits 15 = .ok (.iconst (-1), 1) := by decide +kernel
theorem dX3_shutBits_16 : decode cX3_shutBits 16 = .ok (.ixor, 1) := by decide +kernel
theorem dX3_shutBits_17 : decode cX3_shutBits 17 = .ok (.iand, 1) := by decide +kernel
theorem dX3_shutBits_18 : decode cX3_shutBits 18 = .ok (.ireturn, 1) := by decide +kernel
theorem dX3_isOpen_0 : decode cX3_isOpen 0 = .ok (.aload_n 0, 1) := by decide +kernel
theorem dX3_isOpen_1 : decode cX3_isOpen 1 = .ok (.getfield 40, 3) := by decide +kernel
theorem dX3_isOpen_4 : decode cX3_isOpen 4 = .ok (.iload_n 1, 1) := by decide +kernel
theorem dX3_isOpen_5 : decode cX3_isOpen 5 = .ok (.invokestatic 61, 3) := by decide +kernel
theorem dX3_isOpen_8 : decode cX3_isOpen 8 = .ok (.ireturn, 1) := by decide +kernel
theorem dX3_openIn_0 : decode cX3_openIn 0 = .ok (.iconst 0, 1) := by decide +kernel
theorem dX3_openIn_1 : decode cX3_openIn 1 = .ok (.istore_n 2, 1) := by decide +kernel
theorem dX3_openIn_2 : decode cX3_openIn 2 = .ok (.iconst 0, 1) := by decide +kernel
theorem dX3_openIn_3 : decode cX3_openIn 3 = .ok (.istore_n 3, 1) := by decide +kernel
theorem dX3_openIn_4 : decode cX3_openIn 4 = .ok (.iload_n 3, 1) := by decide +kernel
theorem dX3_openIn_5 : decode cX3_openIn 5 = .ok (.aload_n 0, 1) := by decide +kernel
theorem dX3_openIn_6 : decode cX3_openIn 6 = .ok (.getfield 9, 3) := by decide +kernel
theorem dX3_openIn_9 : decode cX3_openIn 9 = .ok (.arraylength, 1) := by decide +kernel
theorem dX3_openIn_10 : decode cX3_openIn 10 = .ok (.if_icmp .ge 38, 3) := by decide +kernel
theorem dX3_openIn_13 : decode cX3_openIn 13 = .ok (.iload_n 2, 1) := by decide +kernel
theorem dX3_openIn_14 : decode cX3_openIn 14 = .ok (.aload_n 0, 1) := by decide +kernel
theorem dX3_openIn_15 : decode cX3_openIn 15 = .ok (.getfield 40, 3) := by decide +kernel
theorem dX3_openIn_18 : decode cX3_openIn 18 = .ok (.iload_n 3, 1) := by decide +kernel
theorem dX3_openIn_19 : decode cX3_openIn 19 = .ok (.invokestatic 61, 3) := by decide +kernel
theorem dX3_openIn_22 : decode cX3_openIn 22 = .ok (.ifCond .eq 17, 3) := by decide +kernel
theorem dX3_openIn_25 : decode cX3_openIn 25 = .ok (.aload_n 0, 1) := by decide +kernel
theorem dX3_openIn_26 : decode cX3_openIn 26 = .ok (.getfield 9, 3) := by decide +kernel
theorem dX3_openIn_29 : decode cX3_openIn 29 = .ok (.iload_n 3, 1) := by decide +kernel
theorem dX3_openIn_30 : decode cX3_openIn 30 = .ok (.iaload, 1) := by decide +kernel
theorem dX3_openIn_31 : decode cX3_openIn 31 = .ok (.iload_n 1, 1) := by decide +kernel
theorem dX3_openIn_32 : decode cX3_openIn 32 = .ok (.if_icmp .ne 7, 3) := by decide +kernel
theorem dX3_openIn_35 : decode cX3_openIn 35 = .ok (.iconst 1, 1) := by decide +kernel
theorem dX3_openIn_36 : decode cX3_openIn 36 = .ok (.goto 4, 3) := by decide +kernel
theorem dX3_openIn_39 : decode cX3_openIn 39 = .ok (.iconst 0, 1) := by decide +kernel
theorem dX3_openIn_40 : decode cX3_openIn 40 = .ok (.iadd, 1) := by decide +kernel
theorem dX3_openIn_41 : decode cX3_openIn 41 = .ok (.istore_n 2, 1) := by decide +kernel
theorem dX3_openIn_42 : decode cX3_openIn 42 = .ok (.iinc 3 1, 3) := by decide +kernel
theorem dX3_openIn_45 : decode cX3_openIn 45 = .ok (.goto (-41), 3) := by decide +kernel
theorem dX3_openIn_48 : decode cX3_openIn 48 = .ok (.iload_n 2, 1) := by decide +kernel
theorem dX3_openIn_49 : decode cX3_openIn 49 = .ok (.ireturn, 1) := by decide +kernel
theorem dX3_rainBits_0 : decode cX3_rainBits 0 = .ok (.iconst 0, 1) := by decide +kernel
theorem dX3_rainBits_1 : decode cX3_rainBits 1 = .ok (.istore_n 1, 1) := by decide +kernel
theorem dX3_rainBits_2 : decode cX3_rainBits 2 = .ok (.iconst 0, 1) := by decide +kernel
theorem dX3_rainBits_3 : decode cX3_rainBits 3 = .ok (.istore_n 2, 1) := by decide +kernel
theorem dX3_rainBits_4 : decode cX3_rainBits 4 = .ok (.iload_n 2, 1) := by decide +kernel
theorem dX3_rainBits_5 : decode cX3_rainBits 5 = .ok (.aload_n 0, 1) := by decide +kernel
theorem dX3_rainBits_6 : decode cX3_rainBits 6 = .ok (.getfield 9, 3) := by decide +kernel
theorem dX3_rainBits_9 : decode cX3_rainBits 9 = .ok (.arraylength, 1) := by decide +kernel
theorem dX3_rainBits_10 : decode cX3_rainBits 10 = .ok (.if_icmp .ge 57, 3) := by decide +kernel
theorem dX3_rainBits_13 : decode cX3_rainBits 13 = .ok (.aload_n 0, 1) := by decide +kernel
theorem dX3_rainBits_14 : decode cX3_rainBits 14 = .ok (.getfield 40, 3) := by decide +kernel
theorem dX3_rainBits_17 : decode cX3_rainBits 17 = .ok (.iload_n 2, 1) := by decide +kernel
theorem dX3_rainBits_18 : decode cX3_rainBits 18 = .ok (.invokestatic 61, 3) := by decide +kernel
theorem dX3_rainBits_21 : decode cX3_rainBits 21 = .ok (.ifCond .eq 40, 3) := by decide +kernel
theorem dX3_rainBits_24 : decode cX3_rainBits 24 = .ok (.iconst 1, 1) := by decide +kernel
theorem dX3_rainBits_25 : decode cX3_rainBits 25 = .ok (.aload_n 0, 1) := by decide +kernel
theorem dX3_rainBits_26 : decode cX3_rainBits 26 = .ok (.getfield 9, 3) := by decide +kernel
theorem dX3_rainBits_29 : decode cX3_rainBits 29 = .ok (.iload_n 2, 1) := by decide +kernel
theorem dX3_rainBits_30 : decode cX3_rainBits 30 = .ok (.iaload, 1) := by decide +kernel
theorem dX3_rainBits_31 : decode cX3_rainBits 31 = .ok (.ishl, 1) := by decide +kernel
theorem dX3_rainBits_32 : decode cX3_rainBits 32 = .ok (.istore_n 3, 1) := by decide +kernel
theorem dX3_rainBits_33 : decode cX3_rainBits 33 = .ok (.iload_n 1, 1) := by decide +kernel
theorem dX3_rainBits_34 : decode cX3_rainBits 34 = .ok (.aload_n 0, 1) := by decide +kernel
theorem dX3_rainBits_35 : decode cX3_rainBits 35 = .ok (.getfield 24, 3) := by decide +kernel
theorem dX3_rainBits_38 : decode cX3_rainBits 38 = .ok (.iload_n 2, 1) := by decide +kernel
theorem dX3_rainBits_39 : decode cX3_rainBits 39 = .ok (.invokevirtual 65, 3) := by decide +kernel
theorem dX3_rainBits_42 : decode cX3_rainBits 42 = .ok (.iconst 3, 1) := by decide +kernel
theorem dX3_rainBits_43 : decode cX3_rainBits 43 = .ok (.if_icmp .ne 15, 3) := by decide +kernel
theorem dX3_rainBits_46 : decode cX3_rainBits 46 = .ok (.iload_n 3, 1) := by decide +kernel
theorem dX3_rainBits_47 : decode cX3_rainBits 47 = .ok (.iconst 1, 1) := by decide +kernel
theorem dX3_rainBits_48 : decode cX3_rainBits 48 = .ok (.ishl, 1) := by decide +kernel
theorem dX3_rainBits_49 : decode cX3_rainBits 49 = .ok (.iload_n 3, 1) := by decide +kernel
theorem dX3_rainBits_50 : decode cX3_rainBits 50 = .ok (.ior, 1) := by decide +kernel
theorem dX3_rainBits_51 : decode cX3_rainBits 51 = .ok (.iload_n 3, 1) := by decide +kernel
theorem dX3_rainBits_52 : decode cX3_rainBits 52 = .ok (.iconst 1, 1) := by decide +kernel
theorem dX3_rainBits_53 : decode cX3_rainBits 53 = .ok (.ishr, 1) := by decide +kernel
theorem dX3_rainBits_54 : decode cX3_rainBits 54 = .ok (.ior, 1) := by decide +kernel
theorem dX3_rainBits_55 : decode cX3_rainBits 55 = .ok (.goto 4, 3) := by decide +kernel
theorem dX3_rainBits_58 : decode cX3_rainBits 58 = .ok (.iload_n 3, 1) := by decide +kernel
theorem dX3_rainBits_59 : decode cX3_rainBits 59 = .ok (.ior, 1) := by decide +kernel
theorem dX3_rainBits_60 : decode cX3_rainBits 60 = .ok (.istore_n 1, 1) := by decide +kernel
theorem dX3_rainBits_61 : decode cX3_rainBits 61 = .ok (.iinc 2 1, 3) := by decide +kernel
theorem dX3_rainBits_64 : decode cX3_rainBits 64 = .ok (.goto (-60), 3) := by decide +kernel
theorem dX3_rainBits_67 : decode cX3_rainBits 67 = .ok (.iconst 0, 1) := by decide +kernel
theorem dX3_rainBits_68 : decode cX3_rainBits 68 = .ok (.istore_n 2, 1) := by decide +kernel
theorem dX3_rainBits_69 : decode cX3_rainBits 69 = .ok (.iload_n 2, 1) := by decide +kernel
theorem dX3_rainBits_70 : decode cX3_rainBits 70 = .ok (.aload_n 0, 1) := by decide +kernel
theorem dX3_rainBits_71 : decode cX3_rainBits 71 = .ok (.getfield 15, 3) := by decide +kernel
theorem dX3_rainBits_74 : decode cX3_rainBits 74 = .ok (.arraylength, 1) := by decide +kernel
theorem dX3_rainBits_75 : decode cX3_rainBits 75 = .ok (.if_icmp .ge 28, 3) := by decide +kernel
theorem dX3_rainBits_78 : decode cX3_rainBits 78 = .ok (.iload_n 1, 1) := by decide +kernel
theorem dX3_rainBits_79 : decode cX3_rainBits 79 = .ok (.aload_n 0, 1) := by decide +kernel
theorem dX3_rainBits_80 : decode cX3_rainBits 80 = .ok (.getfield 15, 3) := by decide +kernel
theorem dX3_rainBits_83 : decode cX3_rainBits 83 = .ok (.iload_n 2, 1) := by decide +kernel
theorem dX3_rainBits_84 : decode cX3_rainBits 84 = .ok (.iaload, 1) := by decide +kernel
theorem dX3_rainBits_85 : decode cX3_rainBits 85 = .ok (.ifCond .le 9, 3) := by decide +kernel
theorem dX3_rainBits_88 : decode cX3_rainBits 88 = .ok (.iconst 1, 1) := by decide +kernel
theorem dX3_rainBits_89 : decode cX3_rainBits 89 = .ok (.iload_n 2, 1) := by decide +kernel
theorem dX3_rainBits_90 : decode cX3_rainBits 90 = .ok (.ishl, 1) := by decide +kernel
theorem dX3_rainBits_91 : decode cX3_rainBits 91 = .ok (.goto 4, 3) := by decide +kernel
theorem dX3_rainBits_94 : decode cX3_rainBits 94 = .ok (.iconst 0, 1) := by decide +kernel
theorem dX3_rainBits_95 : decode cX3_rainBits 95 = .ok (.ior, 1) := by decide +kernel
theorem dX3_rainBits_96 : decode cX3_rainBits 96 = .ok (.istore_n 1, 1) := by decide +kernel
theorem dX3_rainBits_97 : decode cX3_rainBits 97 = .ok (.iinc 2 1, 3) := by decide +kernel
theorem dX3_rainBits_100 : decode cX3_rainBits 100 = .ok (.goto (-31), 3) := by decide +kernel
theorem dX3_rainBits_103 : decode cX3_rainBits 103 = .ok (.iload_n 1, 1) := by decide +kernel
theorem dX3_rainBits_104 : decode cX3_rainBits 104 = .ok (.bipush 63, 2) := by decide +kernel
theorem dX3_rainBits_106 : decode cX3_rainBits 106 = .ok (.iand, 1) := by decide +kernel
theorem dX3_rainBits_107 : decode cX3_rainBits 107 = .ok (.ireturn, 1) := by decide +kernel
theorem dX3_hailBits_0 : decode cX3_hailBits 0 = .ok (.iconst 0, 1) := by decide +kernel
theorem dX3_hailBits_1 : decode cX3_hailBits 1 = .ok (.istore_n 1, 1) := by decide +kernel
theorem dX3_hailBits_2 : decode cX3_hailBits 2 = .ok (.iconst 0, 1) := by decide +kernel
theorem dX3_hailBits_3 : decode cX3_hailBits 3 = .ok (.istore_n 2, 1) := by decide +kernel
theorem dX3_hailBits_4 : decode cX3_hailBits 4 = .ok (.iconst 0, 1) := by decide +kernel
theorem dX3_hailBits_5 : decode cX3_hailBits 5 = .ok (.istore_n 3, 1) := by decide +kernel
theorem dX3_hailBits_6 : decode cX3_hailBits 6 = .ok (.iload_n 3, 1) := by decide +kernel
theorem dX3_hailBits_7 : decode cX3_hailBits 7 = .ok (.aload_n 0, 1) := by decide +kernel
theorem dX3_hailBits_8 : decode cX3_hailBits 8 = .ok (.getfield 9, 3) := by decide +kernel
theorem dX3_hailBits_11 : decode cX3_hailBits 11 = .ok (.arraylength, 1) := by decide +kernel
theorem dX3_hailBits_12 : decode cX3_hailBits 12 = .ok (.if_icmp .ge 46, 3) := by decide +kernel
theorem dX3_hailBits_15 : decode cX3_hailBits 15 = .ok (.aload_n 0, 1) := by decide +kernel
theorem dX3_hailBits_16 : decode cX3_hailBits 16 = .ok (.getfield 40, 3) := by decide +kernel
theorem dX3_hailBits_19 : decode cX3_hailBits 19 = .ok (.iload_n 3, 1) := by decide +kernel
theorem dX3_hailBits_20 : decode cX3_hailBits 20 = .ok (.invokestatic 61, 3) := by decide +kernel
theorem dX3_hailBits_23 : decode cX3_hailBits 23 = .ok (.ifCond .eq 14, 3) := by decide +kernel
theorem dX3_hailBits_26 : decode cX3_hailBits 26 = .ok (.iconst 1, 1) := by decide +kernel
theorem dX3_hailBits_27 : decode cX3_hailBits 27 = .ok (.aload_n 0, 1) := by decide +kernel
theorem dX3_hailBits_28 : decode cX3_hailBits 28 = .ok (.getfield 9, 3) := by decide +kernel
theorem dX3_hailBits_31 : decode cX3_hailBits 31 = .ok (.iload_n 3, 1) := by decide +kernel
theorem dX3_hailBits_32 : decode cX3_hailBits 32 = .ok (.iaload, 1) := by decide +kernel
theorem dX3_hailBits_33 : decode cX3_hailBits 33 = .ok (.ishl, 1) := by decide +kernel
theorem dX3_hailBits_34 : decode cX3_hailBits 34 = .ok (.goto 4, 3) := by decide +kernel
theorem dX3_hailBits_37 : decode cX3_hailBits 37 = .ok (.iconst 0, 1) := by decide +kernel
theorem dX3_hailBits_38 : decode cX3_hailBits 38 = .ok (.istore 4, 2) := by decide +kernel
theorem dX3_hailBits_40 : decode cX3_hailBits 40 = .ok (.iload_n 2, 1) := by decide +kernel
theorem dX3_hailBits_41 : decode cX3_hailBits 41 = .ok (.iload_n 1, 1) := by decide +kernel
theorem dX3_hailBits_42 : decode cX3_hailBits 42 = .ok (.iload 4, 2) := by decide +kernel
theorem dX3_hailBits_44 : decode cX3_hailBits 44 = .ok (.iand, 1) := by decide +kernel
theorem dX3_hailBits_45 : decode cX3_hailBits 45 = .ok (.ior, 1) := by decide +kernel
theorem dX3_hailBits_46 : decode cX3_hailBits 46 = .ok (.istore_n 2, 1) := by decide +kernel
theorem dX3_hailBits_47 : decode cX3_hailBits 47 = .ok (.iload_n 1, 1) := by decide +kernel
theorem dX3_hailBits_48 : decode cX3_hailBits 48 = .ok (.iload 4, 2) := by decide +kernel
theorem dX3_hailBits_50 : decode cX3_hailBits 50 = .ok (.ior, 1) := by decide +kernel
theorem dX3_hailBits_51 : decode cX3_hailBits 51 = .ok (.istore_n 1, 1) := by decide +kernel
theorem dX3_hailBits_52 : decode cX3_hailBits 52 = .ok (.iinc 3 1, 3) := by decide +kernel
theorem dX3_hailBits_55 : decode cX3_hailBits 55 = .ok (.goto (-49), 3) := by decide +kernel
theorem dX3_hailBits_58 : decode cX3_hailBits 58 = .ok (.iload_n 2, 1) := by decide +kernel
theorem dX3_hailBits_59 : decode cX3_hailBits 59 = .ok (.ireturn, 1) := by decide +kernel
theorem dX3_needBits_0 : decode cX3_needBits 0 = .ok (.iconst 0, 1) := by decide +kernel
theorem dX3_needBits_1 : decode cX3_needBits 1 = .ok (.istore_n 2, 1) := by decide +kernel
theorem dX3_needBits_2 : decode cX3_needBits 2 = .ok (.iconst 0, 1) := by decide +kernel
theorem dX3_needBits_3 : decode cX3_needBits 3 = .ok (.istore_n 3, 1) := by decide +kernel
theorem dX3_needBits_4 : decode cX3_needBits 4 = .ok (.iload_n 3, 1) := by decide +kernel
theorem dX3_needBits_5 : decode cX3_needBits 5 = .ok (.aload_n 0, 1) := by decide +kernel
theorem dX3_needBits_6 : decode cX3_needBits 6 = .ok (.getfield 24, 3) := by decide +kernel
theorem dX3_needBits_9 : decode cX3_needBits 9 = .ok (.invokevirtual 68, 3) := by decide +kernel
theorem dX3_needBits_12 : decode cX3_needBits 12 = .ok (.if_icmp .ge 28, 3) := by decide +kernel
theorem dX3_needBits_15 : decode cX3_needBits 15 = .ok (.iload_n 2, 1) := by decide +kernel
theorem dX3_needBits_16 : decode cX3_needBits 16 = .ok (.aload_n 0, 1) := by decide +kernel
theorem dX3_needBits_17 : decode cX3_needBits 17 = .ok (.iload_n 3, 1) := by decide +kernel
theorem dX3_needBits_18 : decode cX3_needBits 18 = .ok (.invokevirtual 71, 3) := by decide +kernel
theorem dX3_needBits_21 : decode cX3_needBits 21 = .ok (.iload_n 1, 1) := by decide +kernel
theorem dX3_needBits_22 : decode cX3_needBits 22 = .ok (.if_icmp .ne 9, 3) := by decide +kernel
theorem dX3_needBits_25 : decode cX3_needBits 25 = .ok (.iconst 1, 1) := by decide +kernel
theorem dX3_needBits_26 : decode cX3_needBits 26 = .ok (.iload_n 3, 1) := by decide +kernel
theorem dX3_needBits_27 : decode cX3_needBits 27 = .ok (.ishl, 1) := by decide +kernel
theorem dX3_needBits_28 : decode cX3_needBits 28 = .ok (.goto 4, 3) := by decide +kernel
theorem dX3_needBits_31 : decode cX3_needBits 31 = .ok (.iconst 0, 1) := by decide +kernel
theorem dX3_needBits_32 : decode cX3_needBits 32 = .ok (.ior, 1) := by decide +kernel
theorem dX3_needBits_33 : decode cX3_needBits 33 = .ok (.istore_n 2, 1) := by decide +kernel
theorem dX3_needBits_34 : decode cX3_needBits 34 = .ok (.iinc 3 1, 3) := by decide +kernel
theorem dX3_needBits_37 : decode cX3_needBits 37 = .ok (.goto (-33), 3) := by decide +kernel
theorem dX3_needBits_40 : decode cX3_needBits 40 = .ok (.iload_n 2, 1) := by decide +kernel
theorem dX3_needBits_41 : decode cX3_needBits 41 = .ok (.ireturn, 1) := by decide +kernel
theorem dX3_keptCount_0 : decode cX3_keptCount 0 = .ok (.aload_n 0, 1) := by decide +kernel
theorem dX3_keptCount_1 : decode cX3_keptCount 1 = .ok (.iconst 1, 1) := by decide +kernel
theorem dX3_keptCount_2 : decode cX3_keptCount 2 = .ok (.invokevirtual 74, 3) := by decide +kernel
theorem dX3_keptCount_5 : decode cX3_keptCount 5 = .ok (.invokestatic 77, 3) := by decide +kernel
theorem dX3_keptCount_8 : decode cX3_keptCount 8 = .ok (.ireturn, 1) := by decide +kernel
theorem dX3_raise_0 : decode cX3_raise 0 = .ok (.aload_n 0, 1) := by decide +kernel
theorem dX3_raise_1 : decode cX3_raise 1 = .ok (.getfield 24, 3) := by decide +kernel
theorem dX3_raise_4 : decode cX3_raise 4 = .ok (.iload_n 1, 1) := by decide +kernel
theorem dX3_raise_5 : decode cX3_raise 5 = .ok (.invokevirtual 82, 3) := by decide +kernel
theorem dX3_raise_8 : decode cX3_raise 8 = .ok (.ifCond .eq 11, 3) := by decide +kernel
theorem dX3_raise_11 : decode cX3_raise 11 = .ok (.aload_n 0, 1) := by decide +kernel
theorem dX3_raise_12 : decode cX3_raise 12 = .ok (.iload_n 1, 1) := by decide +kernel
theorem dX3_raise_13 : decode cX3_raise 13 = .ok (.invokevirtual 86, 3) := by decide +kernel
theorem dX3_raise_16 : decode cX3_raise 16 = .ok (.ifCond .eq 5, 3) := by decide +kernel
theorem dX3_raise_19 : decode cX3_raise 19 = .ok (.iconst 0, 1) := by decide +kernel
theorem dX3_raise_20 : decode cX3_raise 20 = .ok (.ireturn, 1) := by decide +kernel
theorem dX3_raise_21 : decode cX3_raise 21 = .ok (.aload_n 0, 1) := by decide +kernel
theorem dX3_raise_22 : decode cX3_raise 22 = .ok (.dup, 1) := by decide +kernel
theorem dX3_raise_23 : decode cX3_raise 23 = .ok (.getfield 40, 3) := by decide +kernel
theorem dX3_raise_26 : decode cX3_raise 26 = .ok (.iconst 1, 1) := by decide +kernel
theorem dX3_raise_27 : decode cX3_raise 27 = .ok (.iload_n 1, 1) := by decide +kernel
theorem dX3_raise_28 : decode cX3_raise 28 = .ok (.ishl, 1) := by decide +kernel
theorem dX3_raise_29 : decode cX3_raise 29 = .ok (.ior, 1) := by decide +kernel
theorem dX3_raise_30 : decode cX3_raise 30 = .ok (.putfield 40, 3) := by decide +kernel
theorem dX3_raise_33 : decode cX3_raise 33 = .ok (.aload_n 0, 1) := by decide +kernel
theorem dX3_raise_34 : decode cX3_raise 34 = .ok (.getfield 24, 3) := by decide +kernel
theorem dX3_raise_37 : decode cX3_raise 37 = .ok (.iload_n 1, 1) := by decide +kernel
theorem dX3_raise_38 : decode cX3_raise 38 = .ok (.invokevirtual 65, 3) := by decide +kernel
theorem dX3_raise_41 : decode cX3_raise 41 = .ok (.iconst 2, 1) := by decide +kernel
theorem dX3_raise_42 : decode cX3_raise 42 = .ok (.if_icmp .ne 14, 3) := by decide +kernel
theorem dX3_raise_45 : decode cX3_raise 45 = .ok (.aload_n 0, 1) := by decide +kernel
theorem dX3_raise_46 : decode cX3_raise 46 = .ok (.aload_n 0, 1) := by decide +kernel
theorem dX3_raise_47 : decode cX3_raise 47 = .ok (.iload_n 1, 1) := by decide +kernel
theorem dX3_raise_48 : decode cX3_raise 48 = .ok (.invokevirtual 89, 3) := by decide +kernel
theorem dX3_raise_51 : decode cX3_raise 51 = .ok (.bipush 7, 2) := by decide +kernel
theorem dX3_raise_53 : decode cX3_raise 53 = .ok (.invokevirtual 92, 3) := by decide +kernel
theorem dX3_raise_56 : decode cX3_raise 56 = .ok (.iconst 1, 1) := by decide +kernel
theorem dX3_raise_57 : decode cX3_raise 57 = .ok (.ireturn, 1) := by decide +kernel
theorem dX3_raiseAll_0 : decode cX3_raiseAll 0 = .ok (.iconst 0, 1) := by decide +kernel
theorem dX3_raiseAll_1 : decode cX3_raiseAll 1 = .ok (.istore_n 2, 1) := by decide +kernel
theorem dX3_raiseAll_2 : decode cX3_raiseAll 2 = .ok (.iload_n 2, 1) := by decide +kernel
theorem dX3_raiseAll_3 : decode cX3_raiseAll 3 = .ok (.iconst 5, 1) := by decide +kernel
theorem dX3_raiseAll_4 : decode cX3_raiseAll 4 = .ok (.if_icmp .ge 23, 3) := by decide +kernel
theorem dX3_raiseAll_7 : decode cX3_raiseAll 7 = .ok (.iload_n 1, 1) := by decide +kernel
theorem dX3_raiseAll_8 : decode cX3_raiseAll 8 = .ok (.iload_n 2, 1) := by decide +kernel
theorem dX3_raiseAll_9 : decode cX3_raiseAll 9 = .ok (.invokestatic 61, 3) := by decide +kernel
theorem dX3_raiseAll_12 : decode cX3_raiseAll 12 = .ok (.ifCond .eq 9, 3) := by decide +kernel
theorem dX3_raiseAll_15 : decode cX3_raiseAll 15 = .ok (.aload_n 0, 1) := by decide +kernel
theorem dX3_raiseAll_16 : decode cX3_raiseAll 16 = .ok (.iload_n 2, 1) := by decide +kernel
theorem dX3_raiseAll_17 : decode cX3_raiseAll 17 = .ok (.invokevirtual 96, 3) := by decide +kernel
theorem dX3_raiseAll_20 : decode cX3_raiseAll 20 = .ok (.pop, 1) := by decide +kernel
theorem dX3_raiseAll_21 : decode cX3_raiseAll 21 = .ok (.iinc 2 1, 3) := by decide +kernel
theorem dX3_raiseAll_24 : decode cX3_raiseAll 24 = .ok (.goto (-22), 3) := by decide +kernel
theorem dX3_raiseAll_27 : decode cX3_raiseAll 27 = .ok (.return_, 1) := by decide +kernel
theorem dX3_lower_0 : decode cX3_lower 0 = .ok (.aload_n 0, 1) := by decide +kernel
theorem dX3_lower_1 : decode cX3_lower 1 = .ok (.getfield 24, 3) := by decide +kernel
theorem dX3_lower_4 : decode cX3_lower 4 = .ok (.iload_n 1, 1) := by decide +kernel
theorem dX3_lower_5 : decode cX3_lower 5 = .ok (.invokevirtual 82, 3) := by decide +kernel
theorem dX3_lower_8 : decode cX3_lower 8 = .ok (.ifCond .eq 11, 3) := by decide +kernel
theorem dX3_lower_11 : decode cX3_lower 11 = .ok (.aload_n 0, 1) := by decide +kernel
theorem dX3_lower_12 : decode cX3_lower 12 = .ok (.iload_n 1, 1) := by decide +kernel
theorem dX3_lower_13 : decode cX3_lower 13 = .ok (.invokevirtual 86, 3) := by decide +kernel
theorem dX3_lower_16 : decode cX3_lower 16 = .ok (.ifCond .ne 5, 3) := by decide +kernel
theorem dX3_lower_19 : decode cX3_lower 19 = .ok (.iconst 0, 1) := by decide +kernel
theorem dX3_lower_20 : decode cX3_lower 20 = .ok (.ireturn, 1) := by decide +kernel
theorem dX3_lower_21 : decode cX3_lower 21 = .ok (.aload_n 0, 1) := by decide +kernel
theorem dX3_lower_22 : decode cX3_lower 22 = .ok (.dup, 1) := by decide +kernel
theorem dX3_lower_23 : decode cX3_lower 23 = .ok (.getfield 40, 3) := by decide +kernel
theorem dX3_lower_26 : decode cX3_lower 26 = .ok (.iconst 1, 1) := by decide +kernel
theorem dX3_lower_27 : decode cX3_lower 27 = .ok (.iload_n 1, 1) := by decide +kernel
theorem dX3_lower_28 : decode cX3_lower 28 = .ok (.ishl, 1) := by decide +kernel
theorem dX3_lower_29 : decode cX3_lower 29 = .ok (.iconst (-1), 1) := by decide +kernel
theorem dX3_lower_30 : decode cX3_lower 30 = .ok (.ixor, 1) := by decide +kernel
theorem dX3_lower_31 : decode cX3_lower 31 = .ok (.iand, 1) := by decide +kernel
theorem dX3_lower_32 : decode cX3_lower 32 = .ok (.putfield 40, 3) := by decide +kernel
theorem dX3_lower_35 : decode cX3_lower 35 = .ok (.aload_n 0, 1) := by decide +kernel
theorem dX3_lower_36 : decode cX3_lower 36 = .ok (.getfield 24, 3) := by decide +kernel
theorem dX3_lower_39 : decode cX3_lower 39 = .ok (.iload_n 1, 1) := by decide +kernel
theorem dX3_lower_40 : decode cX3_lower 40 = .ok (.invokevirtual 65, 3) := by decide +kernel
theorem dX3_lower_43 : decode cX3_lower 43 = .ok (.iconst 1, 1) := by decide +kernel
theorem dX3_lower_44 : decode cX3_lower 44 = .ok (.if_icmp .ne 13, 3) := by decide +kernel
theorem dX3_lower_47 : decode cX3_lower 47 = .ok (.aload_n 0, 1) := by decide +kernel
theorem dX3_lower_48 : decode cX3_lower 48 = .ok (.aload_n 0, 1) := by decide +kernel
theorem dX3_lower_49 : decode cX3_lower 49 = .ok (.iload_n 1, 1) := by decide +kernel
theorem dX3_lower_50 : decode cX3_lower 50 = .ok (.invokevirtual 89, 3) := by decide +kernel
theorem dX3_lower_53 : decode cX3_lower 53 = .ok (.iconst 1, 1) := by decide +kernel
theorem dX3_lower_54 : decode cX3_lower 54 = .ok (.invokevirtual 92, 3) := by decide +kernel
theorem dX3_lower_57 : decode cX3_lower 57 = .ok (.iconst 1, 1) := by decide +kernel
theorem dX3_lower_58 : decode cX3_lower 58 = .ok (.ireturn, 1) := by decide +kernel
theorem dX3_forget_0 : decode cX3_forget 0 = .ok (.aload_n 0, 1) := by decide +kernel
theorem dX3_forget_1 : decode cX3_forget 1 = .ok (.dup, 1) := by decide +kernel
theorem dX3_forget_2 : decode cX3_forget 2 = .ok (.getfield 40, 3) := by decide +kernel
theorem dX3_forget_5 : decode cX3_forget 5 = .ok (.iload_n 1, 1) := by decide +kernel
theorem dX3_forget_6 : decode cX3_forget 6 = .ok (.iconst (-1), 1) := by decide +kernel
theorem dX3_forget_7 : decode cX3_forget 7 = .ok (.ixor, 1) := by decide +kernel
theorem dX3_forget_8 : decode cX3_forget 8 = .ok (.iand, 1) := by decide +kernel
theorem dX3_forget_9 : decode cX3_forget 9 = .ok (.putfield 40, 3) := by decide +kernel
theorem dX3_forget_12 : decode cX3_forget 12 = .ok (.return_, 1) := by decide +kernel
theorem dX3_lastAtLeast_0 : decode cX3_lastAtLeast 0 = .ok (.aload_n 0, 1) := by decide +kernel
theorem dX3_lastAtLeast_1 : decode cX3_lastAtLeast 1 = .ok (.getfield 15, 3) := by decide +kernel
theorem dX3_lastAtLeast_4 : decode cX3_lastAtLeast 4 = .ok (.iload_n 1, 1) := by decide +kernel
theorem dX3_lastAtLeast_5 : decode cX3_lastAtLeast 5 = .ok (.aload_n 0, 1) := by decide +kernel
theorem dX3_lastAtLeast_6 : decode cX3_lastAtLeast 6 = .ok (.getfield 15, 3) := by decide +kernel
theorem dX3_lastAtLeast_9 : decode cX3_lastAtLeast 9 = .ok (.iload_n 1, 1) := by decide +kernel
theorem dX3_lastAtLeast_10 : decode cX3_lastAtLeast 10 = .ok (.invokestatic 53, 3) := by decide +kernel
theorem dX3_lastAtLeast_13 : decode cX3_lastAtLeast 13 = .ok (.iload_n 2, 1) := by decide +kernel
theorem dX3_lastAtLeast_14 : decode cX3_lastAtLeast 14 = .ok (.invokestatic 99, 3) := by decide +kernel
theorem dX3_lastAtLeast_17 : decode cX3_lastAtLeast 17 = .ok (.invokestatic 105, 3) := by decide +kernel
theorem dX3_lastAtLeast_20 : decode cX3_lastAtLeast 20 = .ok (.return_, 1) := by decide +kernel
theorem dX3_place_0 : decode cX3_place 0 = .ok (.aload_n 0, 1) := by decide +kernel
theorem dX3_place_1 : decode cX3_place 1 = .ok (.getfield 9, 3) := by decide +kernel
theorem dX3_place_4 : decode cX3_place 4 = .ok (.iload_n 1, 1) := by decide +kernel
theorem dX3_place_5 : decode cX3_place 5 = .ok (.iload_n 2, 1) := by decide +kernel
theorem dX3_place_6 : decode cX3_place 6 = .ok (.invokestatic 105, 3) := by decide +kernel
theorem dX3_place_9 : decode cX3_place 9 = .ok (.return_, 1) := by decide +kernel
theorem dX3_canMove_0 : decode cX3_canMove 0 = .ok (.aload_n 0, 1) := by decide +kernel
theorem dX3_canMove_1 : decode cX3_canMove 1 = .ok (.getfield 24, 3) := by decide +kernel
theorem dX3_canMove_4 : decode cX3_canMove 4 = .ok (.iload_n 1, 1) := by decide +kernel
theorem dX3_canMove_5 : decode cX3_canMove 5 = .ok (.invokevirtual 82, 3) := by decide +kernel
theorem dX3_canMove_8 : decode cX3_canMove 8 = .ok (.ifCond .eq 36, 3) := by decide +kernel
theorem dX3_canMove_11 : decode cX3_canMove 11 = .ok (.aload_n 0, 1) := by decide +kernel
theorem dX3_canMove_12 : decode cX3_canMove 12 = .ok (.iload_n 1, 1) := by decide +kernel
theorem dX3_canMove_13 : decode cX3_canMove 13 = .ok (.invokevirtual 86, 3) := by decide +kernel
theorem dX3_canMove_16 : decode cX3_canMove 16 = .ok (.ifCond .ne 28, 3) := by decide +kernel
theorem dX3_canMove_19 : decode cX3_canMove 19 = .ok (.aload_n 0, 1) := by decide +kernel
theorem dX3_canMove_20 : decode cX3_canMove 20 = .ok (.iload_n 1, 1) := by decide +kernel
theorem dX3_canMove_21 : decode cX3_canMove 21 = .ok (.invokevirtual 89, 3) := by decide +kernel
theorem dX3_canMove_24 : decode cX3_canMove 24 = .ok (.iload_n 2, 1) := by decide +kernel
theorem dX3_canMove_25 : decode cX3_canMove 25 = .ok (.ifCond .eq 7, 3) := by decide +kernel
theorem dX3_canMove_28 : decode cX3_canMove 28 = .ok (.iconst 1, 1) := by decide +kernel
theorem dX3_canMove_29 : decode cX3_canMove 29 = .ok (.goto 4, 3) := by decide +kernel
theorem dX3_canMove_32 : decode cX3_canMove 32 = .ok (.iconst (-1), 1) := by decide +kernel
theorem dX3_canMove_33 : decode cX3_canMove 33 = .ok (.iadd, 1) := by decide +kernel
theorem dX3_canMove_34 : decode cX3_canMove 34 = .ok (.invokestatic 109, 3) := by decide +kernel
theorem dX3_canMove_37 : decode cX3_canMove 37 = .ok (.ifCond .eq 7, 3) := by decide +kernel
theorem dX3_canMove_40 : decode cX3_canMove 40 = .ok (.iconst 1, 1) := by decide +kernel
theorem dX3_canMove_41 : decode cX3_canMove 41 = .ok (.goto 4, 3) := by decide +kernel
theorem dX3_canMove_44 : decode cX3_canMove 44 = .ok (.iconst 0, 1) := by decide +kernel
theorem dX3_canMove_45 : decode cX3_canMove 45 = .ok (.ireturn, 1) := by decide +kernel
theorem dX3_move_0 : decode cX3_move 0 = .ok (.aload_n 0, 1) := by decide +kernel
theorem dX3_move_1 : decode cX3_move 1 = .ok (.iload_n 1, 1) := by decide +kernel
theorem dX3_move_2 : decode cX3_move 2 = .ok (.iload_n 2, 1) := by decide +kernel
theorem dX3_move_3 : decode cX3_move 3 = .ok (.invokevirtual 112, 3) := by decide +kernel
theorem dX3_move_6 : decode cX3_move 6 = .ok (.ifCond .ne 5, 3) := by decide +kernel
theorem dX3_move_9 : decode cX3_move 9 = .ok (.iconst 0, 1) := by decide +kernel
theorem dX3_move_10 : decode cX3_move 10 = .ok (.ireturn, 1) := by decide +kernel
theorem dX3_move_11 : decode cX3_move 11 = .ok (.aload_n 0, 1) := by decide +kernel
theorem dX3_move_12 : decode cX3_move 12 = .ok (.iload_n 1, 1) := by decide +kernel
theorem dX3_move_13 : decode cX3_move 13 = .ok (.aload_n 0, 1) := by decide +kernel
theorem dX3_move_14 : decode cX3_move 14 = .ok (.iload_n 1, 1) := by decide +kernel
theorem dX3_move_15 : decode cX3_move 15 = .ok (.invokevirtual 89, 3) := by decide +kernel
theorem dX3_move_18 : decode cX3_move 18 = .ok (.iload_n 2, 1) := by decide +kernel
theorem dX3_move_19 : decode cX3_move 19 = .ok (.ifCond .eq 7, 3) := by decide +kernel
theorem dX3_move_22 : decode cX3_move 22 = .ok (.iconst 1, 1) := by decide +kernel
theorem dX3_move_23 : decode cX3_move 23 = .ok (.goto 4, 3) := by decide +kernel
theorem dX3_move_26 : decode cX3_move 26 = .ok (.iconst (-1), 1) := by decide +kernel
theorem dX3_move_27 : decode cX3_move 27 = .ok (.iadd, 1) := by decide +kernel
theorem dX3_move_28 : decode cX3_move 28 = .ok (.invokevirtual 116, 3) := by decide +kernel
theorem dX3_move_31 : decode cX3_move 31 = .ok (.iconst 1, 1) := by decide +kernel
theorem dX3_move_32 : decode cX3_move 32 = .ok (.ireturn, 1) := by decide +kernel
theorem dX3_passHours_0 : decode cX3_passHours 0 = .ok (.iconst 0, 1) := by decide +kernel
theorem dX3_passHours_1 : decode cX3_passHours 1 = .ok (.istore_n 2, 1) := by decide +kernel
theorem dX3_passHours_2 : decode cX3_passHours 2 = .ok (.iload_n 2, 1) := by decide +kernel
theorem dX3_passHours_3 : decode cX3_passHours 3 = .ok (.iload_n 1, 1) := by decide +kernel
theorem dX3_passHours_4 : decode cX3_passHours 4 = .ok (.if_icmp .ge 14, 3) := by decide +kernel
theorem dX3_passHours_7 : decode cX3_passHours 7 = .ok (.aload_n 0, 1) := by decide +kernel
theorem dX3_passHours_8 : decode cX3_passHours 8 = .ok (.invokevirtual 119, 3) := by decide +kernel
theorem dX3_passHours_11 : decode cX3_passHours 11 = .ok (.pop, 1) := by decide +kernel
theorem dX3_passHours_12 : decode cX3_passHours 12 = .ok (.iinc 2 1, 3) := by decide +kernel
theorem dX3_passHours_15 : decode cX3_passHours 15 = .ok (.goto (-13), 3) := by decide +kernel
theorem dX3_passHours_18 : decode cX3_passHours 18 = .ok (.return_, 1) := by decide +kernel
theorem dX3_passHour_0 : decode cX3_passHour 0 = .ok (.aload_n 0, 1) := by decide +kernel
theorem dX3_passHour_1 : decode cX3_passHour 1 = .ok (.invokevirtual 122, 3) := by decide +kernel
theorem dX3_passHour_4 : decode cX3_passHour 4 = .ok (.istore_n 1, 1) := by decide +kernel
theorem dX3_passHour_5 : decode cX3_passHour 5 = .ok (.aload_n 0, 1) := by decide +kernel
theorem dX3_passHour_6 : decode cX3_passHour 6 = .ok (.invokevirtual 125, 3) := by decide +kernel
theorem dX3_passHour_9 : decode cX3_passHour 9 = .ok (.istore_n 2, 1) := by decide +kernel
theorem dX3_passHour_10 : decode cX3_passHour 10 = .ok (.iconst 0, 1) := by decide +kernel
theorem dX3_passHour_11 : decode cX3_passHour 11 = .ok (.istore_n 3, 1) := by decide +kernel
theorem dX3_passHour_12 : decode cX3_passHour 12 = .ok (.iload_n 3, 1) := by decide +kernel
theorem dX3_passHour_13 : decode cX3_passHour 13 = .ok (.aload_n 0, 1) := by decide +kernel
theorem dX3_passHour_14 : decode cX3_passHour 14 = .ok (.getfield 18, 3) := by decide +kernel
theorem dX3_passHour_17 : decode cX3_passHour 17 = .ok (.arraylength, 1) := by decide +kernel
theorem dX3_passHour_18 : decode cX3_passHour 18 = .ok (.if_icmp .ge 43, 3) := by decide +kernel
theorem dX3_passHour_21 : decode cX3_passHour 21 = .ok (.aload_n 0, 1) := by decide +kernel
theorem dX3_passHour_22 : decode cX3_passHour 22 = .ok (.getfield 18, 3) := by decide +kernel
theorem dX3_passHour_25 : decode cX3_passHour 25 = .ok (.iload_n 3, 1) := by decide +kernel
theorem dX3_passHour_26 : decode cX3_passHour 26 = .ok (.dup2, 1) := by decide +kernel
theorem dX3_passHour_27 : decode cX3_passHour 27 = .ok (.iaload, 1) := by decide +kernel
theorem dX3_passHour_28 : decode cX3_passHour 28 = .ok (.iload_n 2, 1) := by decide +kernel
theorem dX3_passHour_29 : decode cX3_passHour 29 = .ok (.iload_n 3, 1) := by decide +kernel
theorem dX3_passHour_30 : decode cX3_passHour 30 = .ok (.invokestatic 61, 3) := by decide +kernel
theorem dX3_passHour_33 : decode cX3_passHour 33 = .ok (.ifCond .eq 7, 3) := by decide +kernel
theorem dX3_passHour_36 : decode cX3_passHour 36 = .ok (.iconst 2, 1) := by decide +kernel
theorem dX3_passHour_37 : decode cX3_passHour 37 = .ok (.goto 16, 3) := by decide +kernel
theorem dX3_passHour_40 : decode cX3_passHour 40 = .ok (.iload_n 1, 1) := by decide +kernel
theorem dX3_passHour_41 : decode cX3_passHour 41 = .ok (.iload_n 3, 1) := by decide +kernel
theorem dX3_passHour_42 : decode cX3_passHour 42 = .ok (.invokestatic 61, 3) := by decide +kernel
theorem dX3_passHour_45 : decode cX3_passHour 45 = .ok (.ifCond .eq 7, 3) := by decide +kernel
theorem dX3_passHour_48 : decode cX3_passHour 48 = .ok (.iconst 1, 1) := by decide +kernel
theorem dX3_passHour_49 : decode cX3_passHour 49 = .ok (.goto 4, 3) := by decide +kernel
theorem dX3_passHour_52 : decode cX3_passHour 52 = .ok (.iconst 0, 1) := by decide +kernel
theorem dX3_passHour_53 : decode cX3_passHour 53 = .ok (.iadd, 1) := by decide +kernel
theorem dX3_passHour_54 : decode cX3_passHour 54 = .ok (.iastore, 1) := by decide +kernel
theorem dX3_passHour_55 : decode cX3_passHour 55 = .ok (.iinc 3 1, 3) := by decide +kernel
theorem dX3_passHour_58 : decode cX3_passHour 58 = .ok (.goto (-46), 3) := by decide +kernel
theorem dX3_passHour_61 : decode cX3_passHour 61 = .ok (.iconst 0, 1) := by decide +kernel
theorem dX3_passHour_62 : decode cX3_passHour 62 = .ok (.istore_n 3, 1) := by decide +kernel
theorem dX3_passHour_63 : decode cX3_passHour 63 = .ok (.iload_n 3, 1) := by decide +kernel
theorem dX3_passHour_64 : decode cX3_passHour 64 = .ok (.aload_n 0, 1) := by decide +kernel
theorem dX3_passHour_65 : decode cX3_passHour 65 = .ok (.getfield 24, 3) := by decide +kernel
theorem dX3_passHour_68 : decode cX3_passHour 68 = .ok (.invokevirtual 68, 3) := by decide +kernel
theorem dX3_passHour_71 : decode cX3_passHour 71 = .ok (.if_icmp .ge 42, 3) := by decide +kernel
theorem dX3_passHour_74 : decode cX3_passHour 74 = .ok (.aload_n 0, 1) := by decide +kernel
theorem dX3_passHour_75 : decode cX3_passHour 75 = .ok (.iload_n 3, 1) := by decide +kernel
theorem dX3_passHour_76 : decode cX3_passHour 76 = .ok (.invokevirtual 71, 3) := by decide +kernel
theorem dX3_passHour_79 : decode cX3_passHour 79 = .ok (.ifCond .ne 28, 3) := by decide +kernel
theorem dX3_passHour_82 : decode cX3_passHour 82 = .ok (.aload_n 0, 1) := by decide +kernel
theorem dX3_passHour_83 : decode cX3_passHour 83 = .ok (.getfield 21, 3) := by decide +kernel
theorem dX3_passHour_86 : decode cX3_passHour 86 = .ok (.iload_n 3, 1) := by decide +kernel
theorem dX3_passHour_87 : decode cX3_passHour 87 = .ok (.aload_n 0, 1) := by decide +kernel
theorem dX3_passHour_88 : decode cX3_passHour 88 = .ok (.iload_n 3, 1) := by decide +kernel
theorem dX3_passHour_89 : decode cX3_passHour 89 = .ok (.iload_n 1, 1) := by decide +kernel
theorem dX3_passHour_90 : decode cX3_passHour 90 = .ok (.aload_n 0, 1) := by decide +kernel
theorem dX3_passHour_91 : decode cX3_passHour 91 = .ok (.getfield 24, 3) := by decide +kernel
theorem dX3_passHour_94 : decode cX3_passHour 94 = .ok (.iload_n 3, 1) := by decide +kernel
theorem dX3_passHour_95 : decode cX3_passHour 95 = .ok (.invokevirtual 128, 3) := by decide +kernel
theorem dX3_passHour_98 : decode cX3_passHour 98 = .ok (.invokestatic 61, 3) := by decide +kernel
theorem dX3_passHour_101 : decode cX3_passHour 101 = .ok (.invokevirtual 131, 3) := by decide +kernel
theorem dX3_passHour_104 : decode cX3_passHour 104 = .ok (.invokestatic 105, 3) := by decide +kernel
theorem dX3_passHour_107 : decode cX3_passHour 107 = .ok (.iinc 3 1, 3) := by decide +kernel
theorem dX3_passHour_110 : decode cX3_passHour 110 = .ok (.goto (-47), 3) := by decide +kernel
theorem dX3_passHour_113 : decode cX3_passHour 113 = .ok (.iconst 0, 1) := by decide +kernel
theorem dX3_passHour_114 : decode cX3_passHour 114 = .ok (.istore_n 3, 1) := by decide +kernel
theorem dX3_passHour_115 : decode cX3_passHour 115 = .ok (.iload_n 3, 1) := by decide +kernel
theorem dX3_passHour_116 : decode cX3_passHour 116 = .ok (.aload_n 0, 1) := by decide +kernel
theorem dX3_passHour_117 : decode cX3_passHour 117 = .ok (.getfield 15, 3) := by decide +kernel
theorem dX3_passHour_120 : decode cX3_passHour 120 = .ok (.arraylength, 1) := by decide +kernel
theorem dX3_passHour_121 : decode cX3_passHour 121 = .ok (.if_icmp .ge 27, 3) := by decide +kernel
theorem dX3_passHour_124 : decode cX3_passHour 124 = .ok (.aload_n 0, 1) := by decide +kernel
theorem dX3_passHour_125 : decode cX3_passHour 125 = .ok (.getfield 15, 3) := by decide +kernel
theorem dX3_passHour_128 : decode cX3_passHour 128 = .ok (.iload_n 3, 1) := by decide +kernel
theorem dX3_passHour_129 : decode cX3_passHour 129 = .ok (.aload_n 0, 1) := by decide +kernel
theorem dX3_passHour_130 : decode cX3_passHour 130 = .ok (.getfield 15, 3) := by decide +kernel
theorem dX3_passHour_133 : decode cX3_passHour 133 = .ok (.iload_n 3, 1) := by decide +kernel
theorem dX3_passHour_134 : decode cX3_passHour 134 = .ok (.iaload, 1) := by decide +kernel
theorem dX3_passHour_135 : decode cX3_passHour 135 = .ok (.iconst 1, 1) := by decide +kernel
theorem dX3_passHour_136 : decode cX3_passHour 136 = .ok (.isub, 1) := by decide +kernel
theorem dX3_passHour_137 : decode cX3_passHour 137 = .ok (.iconst 0, 1) := by decide +kernel
theorem dX3_passHour_138 : decode cX3_passHour 138 = .ok (.invokestatic 99, 3) := by decide +kernel
theorem dX3_passHour_141 : decode cX3_passHour 141 = .ok (.iastore, 1) := by decide +kernel
theorem dX3_passHour_142 : decode cX3_passHour 142 = .ok (.iinc 3 1, 3) := by decide +kernel
theorem dX3_passHour_145 : decode cX3_passHour 145 = .ok (.goto (-30), 3) := by decide +kernel
theorem dX3_passHour_148 : decode cX3_passHour 148 = .ok (.aload_n 0, 1) := by decide +kernel
theorem dX3_passHour_149 : decode cX3_passHour 149 = .ok (.dup, 1) := by decide +kernel
theorem dX3_passHour_150 : decode cX3_passHour 150 = .ok (.getfield 44, 3) := by decide +kernel
theorem dX3_passHour_153 : decode cX3_passHour 153 = .ok (.iconst 1, 1) := by decide +kernel
theorem dX3_passHour_154 : decode cX3_passHour 154 = .ok (.iadd, 1) := by decide +kernel
theorem dX3_passHour_155 : decode cX3_passHour 155 = .ok (.putfield 44, 3) := by decide +kernel
theorem dX3_passHour_158 : decode cX3_passHour 158 = .ok (.iload_n 1, 1) := by decide +kernel
theorem dX3_passHour_159 : decode cX3_passHour 159 = .ok (.ireturn, 1) := by decide +kernel
theorem dX3_fateInHour_0 : decode cX3_fateInHour 0 = .ok (.aload_n 0, 1) := by decide +kernel
theorem dX3_fateInHour_1 : decode cX3_fateInHour 1 = .ok (.getfield 24, 3) := by decide +kernel
theorem dX3_fateInHour_4 : decode cX3_fateInHour 4 = .ok (.iload_n 1, 1) := by decide +kernel
theorem dX3_fateInHour_5 : decode cX3_fateInHour 5 = .ok (.invokevirtual 135, 3) := by decide +kernel
theorem dX3_fateInHour_8 : decode cX3_fateInHour 8 = .ok (.istore_n 3, 1) := by decide +kernel
theorem dX3_fateInHour_9 : decode cX3_fateInHour 9 = .ok (.aload_n 0, 1) := by decide +kernel
theorem dX3_fateInHour_10 : decode cX3_fateInHour 10 = .ok (.getfield 24, 3) := by decide +kernel
theorem dX3_fateInHour_13 : decode cX3_fateInHour 13 = .ok (.iload_n 1, 1) := by decide +kernel
theorem dX3_fateInHour_14 : decode cX3_fateInHour 14 = .ok (.invokevirtual 138, 3) := by decide +kernel
theorem dX3_fateInHour_17 : decode cX3_fateInHour 17 = .ok (.iconst 1, 1) := by decide +kernel
theorem dX3_fateInHour_18 : decode cX3_fateInHour 18 = .ok (.if_icmp .ne 25, 3) := by decide +kernel
theorem dX3_fateInHour_21 : decode cX3_fateInHour 21 = .ok (.aload_n 0, 1) := by decide +kernel
theorem dX3_fateInHour_22 : decode cX3_fateInHour 22 = .ok (.aload_n 0, 1) := by decide +kernel
theorem dX3_fateInHour_23 : decode cX3_fateInHour 23 = .ok (.getfield 24, 3) := by decide +kernel
theorem dX3_fateInHour_26 : decode cX3_fateInHour 26 = .ok (.iload_n 1, 1) := by decide +kernel
theorem dX3_fateInHour_27 : decode cX3_fateInHour 27 = .ok (.invokevirtual 128, 3) := by decide +kernel
theorem dX3_fateInHour_30 : decode cX3_fateInHour 30 = .ok (.invokevirtual 141, 3) := by decide +kernel
theorem dX3_fateInHour_33 : decode cX3_fateInHour 33 = .ok (.iload_n 3, 1) := by decide +kernel
theorem dX3_fateInHour_34 : decode cX3_fateInHour 34 = .ok (.if_icmp .lt 7, 3) := by decide +kernel
theorem dX3_fateInHour_37 : decode cX3_fateInHour 37 = .ok (.iconst 1, 1) := by decide +kernel
theorem dX3_fateInHour_38 : decode cX3_fateInHour 38 = .ok (.goto 4, 3) := by decide +kernel
theorem dX3_fateInHour_41 : decode cX3_fateInHour 41 = .ok (.iconst 0, 1) := by decide +kernel
theorem dX3_fateInHour_42 : decode cX3_fateInHour 42 = .ok (.ireturn, 1) := by decide +kernel
theorem dX3_fateInHour_43 : decode cX3_fateInHour 43 = .ok (.aload_n 0, 1) := by decide +kernel
theorem dX3_fateInHour_44 : decode cX3_fateInHour 44 = .ok (.getfield 44, 3) := by decide +kernel
theorem dX3_fateInHour_47 : decode cX3_fateInHour 47 = .ok (.iload_n 3, 1) := by decide +kernel
theorem dX3_fateInHour_48 : decode cX3_fateInHour 48 = .ok (.if_icmp .ne 7, 3) := by decide +kernel
theorem dX3_fateInHour_51 : decode cX3_fateInHour 51 = .ok (.iconst 1, 1) := by decide +kernel
theorem dX3_fateInHour_52 : decode cX3_fateInHour 52 = .ok (.goto 4, 3) := by decide +kernel
theorem dX3_fateInHour_55 : decode cX3_fateInHour 55 = .ok (.iconst 0, 1) := by decide +kernel
theorem dX3_fateInHour_56 : decode cX3_fateInHour 56 = .ok (.istore 4, 2) := by decide +kernel
theorem dX3_fateInHour_58 : decode cX3_fateInHour 58 = .ok (.iload_n 2, 1) := by decide +kernel
theorem dX3_fateInHour_59 : decode cX3_fateInHour 59 = .ok (.ifCond .eq 21, 3) := by decide +kernel
theorem dX3_fateInHour_62 : decode cX3_fateInHour 62 = .ok (.iload 4, 2) := by decide +kernel
theorem dX3_fateInHour_64 : decode cX3_fateInHour 64 = .ok (.ifCond .ne 14, 3) := by decide +kernel
theorem dX3_fateInHour_67 : decode cX3_fateInHour 67 = .ok (.aload_n 0, 1) := by decide +kernel
theorem dX3_fateInHour_68 : decode cX3_fateInHour 68 = .ok (.getfield 24, 3) := by decide +kernel
theorem dX3_fateInHour_71 : decode cX3_fateInHour 71 = .ok (.iload_n 1, 1) := by decide +kernel
theorem dX3_fateInHour_72 : decode cX3_fateInHour 72 = .ok (.invokevirtual 138, 3) := by decide +kernel
theorem dX3_fateInHour_75 : decode cX3_fateInHour 75 = .ok (.ifCond .ne 5, 3) := by decide +kernel
theorem dX3_fateInHour_78 : decode cX3_fateInHour 78 = .ok (.iconst 2, 1) := by decide +kernel
theorem dX3_fateInHour_79 : decode cX3_fateInHour 79 = .ok (.ireturn, 1) := by decide +kernel
theorem dX3_fateInHour_80 : decode cX3_fateInHour 80 = .ok (.iload 4, 2) := by decide +kernel
theorem dX3_fateInHour_82 : decode cX3_fateInHour 82 = .ok (.ifCond .eq 7, 3) := by decide +kernel
theorem dX3_fateInHour_85 : decode cX3_fateInHour 85 = .ok (.iconst 1, 1) := by decide +kernel
theorem dX3_fateInHour_86 : decode cX3_fateInHour 86 = .ok (.goto 4, 3) := by decide +kernel
theorem dX3_fateInHour_89 : decode cX3_fateInHour 89 = .ok (.iconst 0, 1) := by decide +kernel
theorem dX3_fateInHour_90 : decode cX3_fateInHour 90 = .ok (.ireturn, 1) := by decide +kernel
theorem dX4_init_0 : decode cX4_init 0 = .ok (.aload_n 0, 1) := by decide +kernel
theorem dX4_init_1 : decode cX4_init 1 = .ok (.invokespecial 3, 3) := by decide +kernel
theorem dX4_init_4 : decode cX4_init 4 = .ok (.aload_n 0, 1) := by decide +kernel
theorem dX4_init_5 : decode cX4_init 5 = .ok (.bipush 48, 2) := by decide +kernel
theorem dX4_init_7 : decode cX4_init 7 = .ok (.newarray .int, 2) := by decide +kernel
theorem dX4_init_9 : decode cX4_init 9 = .ok (.putfield 9, 3) := by decide +kernel
theorem dX4_init_12 : decode cX4_init 12 = .ok (.return_, 1) := by decide +kernel
theorem dX4_length_0 : decode cX4_length 0 = .ok (.aload_n 0, 1) := by decide +kernel
theorem dX4_length_1 : decode cX4_length 1 = .ok (.getfield 15, 3) := by decide +kernel
theorem dX4_length_4 : decode cX4_length 4 = .ok (.ireturn, 1) := by decide +kernel
theorem dX4_clear_0 : decode cX4_clear 0 = .ok (.aload_n 0, 1) := by decide +kernel
theorem dX4_clear_1 : decode cX4_clear 1 = .ok (.iconst 0, 1) := by decide +kernel
theorem dX4_clear_2 : decode cX4_clear 2 = .ok (.putfield 15, 3) := by decide +kernel
theorem dX4_clear_5 : decode cX4_clear 5 = .ok (.return_, 1) := by decide +kernel
theorem dX4_append_0 : decode cX4_append 0 = .ok (.aload_n 0, 1) := by decide +kernel
theorem dX4_append_1 : decode cX4_append 1 = .ok (.getfield 15, 3) := by decide +kernel
theorem dX4_append_4 : decode cX4_append 4 = .ok (.aload_n 0, 1) := by decide +kernel
theorem dX4_append_5 : decode cX4_append 5 = .ok (.getfield 9, 3) := by decide +kernel
theorem dX4_append_8 : decode cX4_append 8 = .ok (.arraylength, 1) := by decide +kernel
theorem dX4_append_9 : decode cX4_append 9 = .ok (.if_icmp .lt 5, 3) := by decide +kernel
theorem dX4_append_12 : decode cX4_append 12 = .ok (.iconst 0, 1) := by decide +kernel
theorem dX4_append_13 : decode cX4_append 13 = .ok (.ireturn, 1) := by decide +kernel
theorem dX4_append_14 : decode cX4_append 14 = .ok (.aload_n 0, 1) := by decide +kernel
theorem dX4_append_15 : decode cX4_append 15 = .ok (.getfield 9, 3) := by decide +kernel
theorem dX4_append_18 : decode cX4_append 18 = .ok (.aload_n 0, 1) := by decide +kernel
theorem dX4_append_19 : decode cX4_append 19 = .ok (.getfield 15, 3) := by decide +kernel
theorem dX4_append_22 : decode cX4_append 22 = .ok (.iload_n 1, 1) := by decide +kernel
theorem dX4_append_23 : decode cX4_append 23 = .ok (.invokestatic 19, 3) := by decide +kernel
theorem dX4_append_26 : decode cX4_append 26 = .ok (.aload_n 0, 1) := by decide +kernel
theorem dX4_append_27 : decode cX4_append 27 = .ok (.dup, 1) := by decide +kernel
theorem dX4_append_28 : decode cX4_append 28 = .ok (.getfield 15, 3) := by decide +kernel
theorem dX4_append_31 : decode cX4_append 31 = .ok (.iconst 1, 1) := by decide +kernel
theorem dX4_append_32 : decode cX4_append 32 = .ok (.iadd, 1) := by decide +kernel
theorem dX4_append_33 : decode cX4_append 33 = .ok (.putfield 15, 3) := by decide +kernel
theorem dX4_append_36 : decode cX4_append 36 = .ok (.iconst 1, 1) := by decide +kernel
theorem dX4_append_37 : decode cX4_append 37 = .ok (.ireturn, 1) := by decide +kernel
theorem dX4_byteAt_0 : decode cX4_byteAt 0 = .ok (.aload_n 0, 1) := by decide +kernel
theorem dX4_byteAt_1 : decode cX4_byteAt 1 = .ok (.getfield 9, 3) := by decide +kernel
theorem dX4_byteAt_4 : decode cX4_byteAt 4 = .ok (.iload_n 1, 1) := by decide +kernel
theorem dX4_byteAt_5 : decode cX4_byteAt 5 = .ok (.invokestatic 23, 3) := by decide +kernel
theorem dX4_byteAt_8 : decode cX4_byteAt 8 = .ok (.ireturn, 1) := by decide +kernel
theorem dX4_figureAt_0 : decode cX4_figureAt 0 = .ok (.aload_n 0, 1) := by decide +kernel
theorem dX4_figureAt_1 : decode cX4_figureAt 1 = .ok (.iload_n 1, 1) := by decide +kernel
theorem dX4_figureAt_2 : decode cX4_figureAt 2 = .ok (.invokevirtual 27, 3) := by decide +kernel
theorem dX4_figureAt_5 : decode cX4_figureAt 5 = .ok (.bipush 48, 2) := by decide +kernel
theorem dX4_figureAt_7 : decode cX4_figureAt 7 = .ok (.isub, 1) := by decide +kernel
theorem dX4_figureAt_8 : decode cX4_figureAt 8 = .ok (.ireturn, 1) := by decide +kernel
theorem dX4_firstFault_0 : decode cX4_firstFault 0 = .ok (.aload_n 0, 1) := by decide +kernel
theorem dX4_firstFault_1 : decode cX4_firstFault 1 = .ok (.getfield 15, 3) := by decide +kernel
theorem dX4_firstFault_4 : decode cX4_firstFault 4 = .ok (.ifCond .eq 13, 3) := by decide +kernel
theorem dX4_firstFault_7 : decode cX4_firstFault 7 = .ok (.aload_n 0, 1) := by decide +kernel
theorem dX4_firstFault_8 : decode cX4_firstFault 8 = .ok (.iconst 0, 1) := by decide +kernel
theorem dX4_firstFault_9 : decode cX4_firstFault 9 = .ok (.invokevirtual 27, 3) := by decide +kernel
theorem dX4_firstFault_12 : decode cX4_firstFault 12 = .ok (.bipush 85, 2) := by decide +kernel
theorem dX4_firstFault_14 : decode cX4_firstFault 14 = .ok (.if_icmp .eq 5, 3) := by decide +kernel
theorem dX4_firstFault_17 : decode cX4_firstFault 17 = .ok (.iconst 0, 1) := by decide +kernel
theorem dX4_firstFault_18 : decode cX4_firstFault 18 = .ok (.ireturn, 1) := by decide +kernel
theorem dX4_firstFault_19 : decode cX4_firstFault 19 = .ok (.iconst 0, 1) := by decide +kernel
theorem dX4_firstFault_20 : decode cX4_firstFault 20 = .ok (.istore_n 1, 1) := by decide +kernel
theorem dX4_firstFault_21 : decode cX4_firstFault 21 = .ok (.iconst 0, 1) := by decide +kernel
theorem dX4_firstFault_22 : decode cX4_firstFault 22 = .ok (.istore_n 2, 1) := by decide +kernel
theorem dX4_firstFault_23 : decode cX4_firstFault 23 = .ok (.iconst 1, 1) := by decide +kernel
theorem dX4_firstFault_24 : decode cX4_firstFault 24 = .ok (.istore_n 3, 1) := by decide +kernel
theorem dX4_firstFault_25 : decode cX4_firstFault 25 = .ok (.iconst 1, 1) := by decide +kernel
theorem dX4_firstFault_26 : decode cX4_firstFault 26 = .ok (.istore 4, 2) := by decide +kernel
theorem dX4_firstFault_28 : decode cX4_firstFault 28 = .ok (.iconst 1, 1) := by decide +kernel
theorem dX4_firstFault_29 : decode cX4_firstFault 29 = .ok (.istore 5, 2) := by decide +kernel
theorem dX4_firstFault_31 : decode cX4_firstFault 31 = .ok (.iload 5, 2) := by decide +kernel
theorem dX4_firstFault_33 : decode cX4_firstFault 33 = .ok (.aload_n 0, 1) := by decide +kernel
theorem dX4_firstFault_34 : decode cX4_firstFault 34 = .ok (.getfield 15, 3) := by decide +kernel
theorem dX4_firstFault_37 : decode cX4_firstFault 37 = .ok (.if_icmp .ge 137, 3) := by decide +kernel
theorem dX4_firstFault_40 : decode cX4_firstFault 40 = .ok (.iload 5, 2) := by decide +kernel
theorem dX4_firstFault_42 : decode cX4_firstFault 42 = .ok (.iload 4, 2) := by decide +kernel
theorem dX4_firstFault_44 : decode cX4_firstFault 44 = .ok (.if_icmp .ne 109, 3) := by decide +kernel
theorem dX4_firstFault_47 : decode cX4_firstFault 47 = .ok (.aload_n 0, 1) := by decide +kernel
theorem dX4_firstFault_48 : decode cX4_firstFault 48 = .ok (.iload 5, 2) := by decide +kernel
theorem dX4_firstFault_50 : decode cX4_firstFault 50 = .ok (.invokevirtual 27, 3) := by decide +kernel
theorem dX4_firstFault_53 : decode cX4_firstFault 53 = .ok (.bipush 87, 2) := by decide +kernel
theorem dX4_firstFault_55 : decode cX4_firstFault 55 = .ok (.if_icmp .ne 7, 3) := by decide +kernel
theorem dX4_firstFault_58 : decode cX4_firstFault 58 = .ok (.iconst 1, 1) := by decide +kernel
theorem dX4_firstFault_59 : decode cX4_firstFault 59 = .ok (.goto 4, 3) := by decide +kernel
theorem dX4_firstFault_62 : decode cX4_firstFault 62 = .ok (.iconst 0, 1) := by decide +kernel
theorem dX4_firstFault_63 : decode cX4_firstFault 63 = .ok (.istore 6, 2) := by decide +kernel
theorem dX4_firstFault_65 : decode cX4_firstFault 65 = .ok (.aload_n 0, 1) := by decide +kernel
theorem dX4_firstFault_66 : decode cX4_firstFault 66 = .ok (.iload 5, 2) := by decide +kernel
theorem dX4_firstFault_68 : decode cX4_firstFault 68 = .ok (.invokevirtual 27, 3) := by decide +kernel
theorem dX4_firstFault_71 : decode cX4_firstFault 71 = .ok (.bipush 78, 2) := by decide +kernel
theorem dX4_firstFault_73 : decode cX4_firstFault 73 = .ok (.if_icmp .ne 7, 3) := by decide +kernel
theorem dX4_firstFault_76 : decode cX4_firstFault 76 = .ok (.iconst 1, 1) := by decide +kernel
theorem dX4_firstFault_77 : decode cX4_firstFault 77 = .ok (.goto 4, 3) := by decide +kernel
theorem dX4_firstFault_80 : decode cX4_firstFault 80 = .ok (.iconst 0, 1) := by decide +kernel
theorem dX4_firstFault_81 : decode cX4_firstFault 81 = .ok (.istore 7, 2) := by decide +kernel
theorem dX4_firstFault_83 : decode cX4_firstFault 83 = .ok (.iload_n 1, 1) := by decide +kernel
theorem dX4_firstFault_84 : decode cX4_firstFault 84 = .ok (.iload 6, 2) := by decide +kernel
theorem dX4_firstFault_86 : decode cX4_firstFault 86 = .ok (.ifCond .eq 7, 3) := by decide +kernel
theorem dX4_firstFault_89 : decode cX4_firstFault 89 = .ok (.iconst 1, 1) := by decide +kernel
theorem dX4_firstFault_90 : decode cX4_firstFault 90 = .ok (.goto 4, 3) := by decide +kernel
theorem dX4_firstFault_93 : decode cX4_firstFault 93 = .ok (.iconst 0, 1) := by decide +kernel
theorem dX4_firstFault_94 : decode cX4_firstFault 94 = .ok (.iadd, 1) := by decide +kernel
theorem dX4_firstFault_95 : decode cX4_firstFault 95 = .ok (.istore_n 1, 1) := by decide +kernel
theorem dX4_firstFault_96 : decode cX4_firstFault 96 = .ok (.iload_n 2, 1) := by decide +kernel
theorem dX4_firstFault_97 : decode cX4_firstFault 97 = .ok (.iload 7, 2) := by decide +kernel
theorem dX4_firstFault_99 : decode cX4_firstFault 99 = .ok (.ifCond .eq 7, 3) := by decide +kernel
theorem dX4_firstFault_102 : decode cX4_firstFault 102 = .ok (.iconst 1, 1) := by decide +kernel
theorem dX4_firstFault_103 : decode cX4_firstFault 103 = .ok (.goto 4, 3) := by decide +kernel
theorem dX4_firstFault_106 : decode cX4_firstFault 106 = .ok (.iconst 0, 1) := by decide +kernel
theorem dX4_firstFault_107 : decode cX4_firstFault 107 = .ok (.iadd, 1) := by decide +kernel
theorem dX4_firstFault_108 : decode cX4_firstFault 108 = .ok (.istore_n 2, 1) := by decide +kernel
theorem dX4_firstFault_109 : decode cX4_firstFault 109 = .ok (.iload 6, 2) := by decide +kernel
theorem dX4_firstFault_111 : decode cX4_firstFault 111 = .ok (.ifCond .ne 8, 3) := by decide +kernel
theorem dX4_firstFault_114 : decode cX4_firstFault 114 = .ok (.iload 7, 2) := by decide +kernel
theorem dX4_firstFault_116 : decode cX4_firstFault 116 = .ok (.ifCond .eq 13, 3) := by decide +kernel
theorem dX4_firstFault_119 : decode cX4_firstFault 119 = .ok (.iload_n 1, 1) := by decide +kernel
theorem dX4_firstFault_120 : decode cX4_firstFault 120 = .ok (.iconst 5, 1) := by decide +kernel
theorem dX4_firstFault_121 : decode cX4_firstFault 121 = .ok (.if_icmp .gt 8, 3) := by decide +kernel
theorem dX4_firstFault_124 : decode cX4_firstFault 124 = .ok (.iload_n 2, 1) := by decide +kernel
theorem dX4_firstFault_125 : decode cX4_firstFault 125 = .ok (.iconst 5, 1) := by decide +kernel
theorem dX4_firstFault_126 : decode cX4_firstFault 126 = .ok (.if_icmp .le 6, 3) := by decide +kernel
theorem dX4_firstFault_129 : decode cX4_firstFault 129 = .ok (.iload 5, 2) := by decide +kernel
theorem dX4_firstFault_131 : decode cX4_firstFault 131 = .ok (.ireturn, 1) := by decide +kernel
theorem dX4_firstFault_132 : decode cX4_firstFault 132 = .ok (.iload 5, 2) := by decide +kernel
theorem dX4_firstFault_134 : decode cX4_firstFault 134 = .ok (.istore_n 3, 1) := by decide +kernel
theorem dX4_firstFault_135 : decode cX4_firstFault 135 = .ok (.iload 5, 2) := by decide +kernel
theorem dX4_firstFault_137 : decode cX4_firstFault 137 = .ok (.iload 6, 2) := by decide +kernel
theorem dX4_firstFault_139 : decode cX4_firstFault 139 = .ok (.ifCond .eq 7, 3) := by decide +kernel
theorem dX4_firstFault_142 : decode cX4_firstFault 142 = .ok (.iconst 3, 1) := by decide +kernel
theorem dX4_firstFault_143 : decode cX4_firstFault 143 = .ok (.goto 4, 3) := by decide +kernel
theorem dX4_firstFault_146 : decode cX4_firstFault 146 = .ok (.iconst 4, 1) := by decide +kernel
theorem dX4_firstFault_147 : decode cX4_firstFault 147 = .ok (.iadd, 1) := by decide +kernel
theorem dX4_firstFault_148 : decode cX4_firstFault 148 = .ok (.istore 4, 2) := by decide +kernel
theorem dX4_firstFault_150 : decode cX4_firstFault 150 = .ok (.goto 18, 3) := by decide +kernel
theorem dX4_firstFault_153 : decode cX4_firstFault 153 = .ok (.aload_n 0, 1) := by decide +kernel
theorem dX4_firstFault_154 : decode cX4_firstFault 154 = .ok (.iload_n 3, 1) := by decide +kernel
theorem dX4_firstFault_155 : decode cX4_firstFault 155 = .ok (.iload 5, 2) := by decide +kernel
theorem dX4_firstFault_157 : decode cX4_firstFault 157 = .ok (.iload_n 3, 1) := by decide +kernel
theorem dX4_firstFault_158 : decode cX4_firstFault 158 = .ok (.isub, 1) := by decide +kernel
theorem dX4_firstFault_159 : decode cX4_firstFault 159 = .ok (.invokevirtual 31, 3) := by decide +kernel
theorem dX4_firstFault_162 : decode cX4_firstFault 162 = .ok (.ifCond .ne 6, 3) := by decide +kernel
theorem dX4_firstFault_165 : decode cX4_firstFault 165 = .ok (.iload 5, 2) := by decide +kernel
theorem dX4_firstFault_167 : decode cX4_firstFault 167 = .ok (.ireturn, 1) := by decide +kernel
theorem dX4_firstFault_168 : decode cX4_firstFault 168 = .ok (.iinc 5 1, 3) := by decide +kernel
theorem dX4_firstFault_171 : decode cX4_firstFault 171 = .ok (.goto (-140), 3) := by decide +kernel
theorem dX4_firstFault_174 : decode cX4_firstFault 174 = .ok (.iload 4, 2) := by decide +kernel
theorem dX4_firstFault_176 : decode cX4_firstFault 176 = .ok (.aload_n 0, 1) := by decide +kernel
theorem dX4_firstFault_177 : decode cX4_firstFault 177 = .ok (.getfield 15, 3) := by decide +kernel
theorem dX4_firstFault_180 : decode cX4_firstFault 180 = .ok (.if_icmp .ne 8, 3) := by decide +kernel
theorem dX4_firstFault_183 : decode cX4_firstFault 183 = .ok (.bipush (-9), 2) := by decide +kernel
theorem dX4_firstFault_185 : decode cX4_firstFault 185 = .ok (.goto 7, 3) := by decide +kernel
theorem dX4_firstFault_188 : decode cX4_firstFault 188 = .ok (.aload_n 0, 1) := by decide +kernel
theorem dX4_firstFault_189 : decode cX4_firstFault 189 = .ok (.getfield 15, 3) := by decide +kernel
theorem dX4_firstFault_192 : decode cX4_firstFault 192 = .ok (.ireturn, 1) := by decide +kernel
theorem dX4_isFitting_0 : decode cX4_isFitting 0 = .ok (.aload_n 0, 1) := by decide +kernel
theorem dX4_isFitting_1 : decode cX4_isFitting 1 = .ok (.iload_n 1, 1) := by decide +kernel
theorem dX4_isFitting_2 : decode cX4_isFitting 2 = .ok (.iload_n 2, 1) := by decide +kernel
theorem dX4_isFitting_3 : decode cX4_isFitting 3 = .ok (.iadd, 1) := by decide +kernel
theorem dX4_isFitting_4 : decode cX4_isFitting 4 = .ok (.invokevirtual 35, 3) := by decide +kernel
theorem dX4_isFitting_7 : decode cX4_isFitting 7 = .ok (.istore_n 3, 1) := by decide +kernel
theorem dX4_isFitting_8 : decode cX4_isFitting 8 = .ok (.iconst 0, 1) := by decide +kernel
theorem dX4_isFitting_9 : decode cX4_isFitting 9 = .ok (.istore 4, 2) := by decide +kernel
theorem dX4_isFitting_11 : decode cX4_isFitting 11 = .ok (.bipush 6, 2) := by decide +kernel
theorem dX4_isFitting_13 : decode cX4_isFitting 13 = .ok (.istore 5, 2) := by decide +kernel
theorem dX4_isFitting_15 : decode cX4_isFitting 15 = .ok (.iload_n 2, 1) := by decide +kernel
theorem dX4_isFitting_16 : decode cX4_isFitting 16 = .ok (.iconst 2, 1) := by decide +kernel
theorem dX4_isFitting_17 : decode cX4_isFitting 17 = .ok (.if_icmp .ne 23, 3) := by decide +kernel
theorem dX4_isFitting_20 : decode cX4_isFitting 20 = .ok (.aload_n 0, 1) := by decide +kernel
theorem dX4_isFitting_21 : decode cX4_isFitting 21 = .ok (.iload_n 1, 1) := by decide +kernel
theorem dX4_isFitting_22 : decode cX4_isFitting 22 = .ok (.invokevirtual 27, 3) := by decide +kernel
theorem dX4_isFitting_25 : decode cX4_isFitting 25 = .ok (.bipush 87, 2) := by decide +kernel
theorem dX4_isFitting_27 : decode cX4_isFitting 27 = .ok (.if_icmp .ne 7, 3) := by decide +kernel
theorem dX4_isFitting_30 : decode cX4_isFitting 30 = .ok (.iconst 4, 1) := by decide +kernel
theorem dX4_isFitting_31 : decode cX4_isFitting 31 = .ok (.goto 4, 3) := by decide +kernel
theorem dX4_isFitting_34 : decode cX4_isFitting 34 = .ok (.iconst 3, 1) := by decide +kernel
theorem dX4_isFitting_35 : decode cX4_isFitting 35 = .ok (.istore 5, 2) := by decide +kernel
theorem dX4_isFitting_37 : decode cX4_isFitting 37 = .ok (.goto 30, 3) := by decide +kernel
theorem dX4_isFitting_40 : decode cX4_isFitting 40 = .ok (.iload_n 2, 1) := by decide +kernel
theorem dX4_isFitting_41 : decode cX4_isFitting 41 = .ok (.iconst 3, 1) := by decide +kernel
theorem dX4_isFitting_42 : decode cX4_isFitting 42 = .ok (.if_icmp .ne 25, 3) := by decide +kernel
theorem dX4_isFitting_45 : decode cX4_isFitting 45 = .ok (.aload_n 0, 1) := by decide +kernel
theorem dX4_isFitting_46 : decode cX4_isFitting 46 = .ok (.iload_n 1, 1) := by decide +kernel
theorem dX4_isFitting_47 : decode cX4_isFitting 47 = .ok (.iconst 2, 1) := by decide +kernel
theorem dX4_isFitting_48 : decode cX4_isFitting 48 = .ok (.iadd, 1) := by decide +kernel
theorem dX4_isFitting_49 : decode cX4_isFitting 49 = .ok (.invokevirtual 35, 3) := by decide +kernel
theorem dX4_isFitting_52 : decode cX4_isFitting 52 = .ok (.iconst 1, 1) := by decide +kernel
theorem dX4_isFitting_53 : decode cX4_isFitting 53 = .ok (.if_icmp .ne 7, 3) := by decide +kernel
theorem dX4_isFitting_56 : decode cX4_isFitting 56 = .ok (.iconst 1, 1) := by decide +kernel
theorem dX4_isFitting_57 : decode cX4_isFitting 57 = .ok (.goto 4, 3) := by decide +kernel
theorem dX4_isFitting_60 : decode cX4_isFitting 60 = .ok (.iconst 0, 1) := by decide +kernel
theorem dX4_isFitting_61 : decode cX4_isFitting 61 = .ok (.istore 4, 2) := by decide +kernel
theorem dX4_isFitting_63 : decode cX4_isFitting 63 = .ok (.bipush 10, 2) := by decide +kernel
theorem dX4_isFitting_65 : decode cX4_isFitting 65 = .ok (.istore 5, 2) := by decide +kernel
theorem dX4_isFitting_67 : decode cX4_isFitting 67 = .ok (.iload_n 3, 1) := by decide +kernel
theorem dX4_isFitting_68 : decode cX4_isFitting 68 = .ok (.iload 4, 2) := by decide +kernel
theorem dX4_isFitting_70 : decode cX4_isFitting 70 = .ok (.if_icmp .lt 13, 3) := by decide +kernel
theorem dX4_isFitting_73 : decode cX4_isFitting 73 = .ok (.iload_n 3, 1) := by decide +kernel
theorem dX4_isFitting_74 : decode cX4_isFitting 74 = .ok (.iload 5, 2) := by decide +kernel
theorem dX4_isFitting_76 : decode cX4_isFitting 76 = .ok (.if_icmp .ge 7, 3) := by decide +kernel
theorem dX4_isFitting_79 : decode cX4_isFitting 79 = .ok (.iconst 1, 1) := by decide +kernel
theorem dX4_isFitting_80 : decode cX4_isFitting 80 = .ok (.goto 4, 3) := by decide +kernel
theorem dX4_isFitting_83 : decode cX4_isFitting 83 = .ok (.iconst 0, 1) := by decide +kernel
theorem dX4_isFitting_84 : decode cX4_isFitting 84 = .ok (.ireturn, 1) := by decide +kernel
theorem dX5_init_0 : decode cX5_init 0 = .ok (.aload_n 0, 1) := by decide +kernel
theorem dX5_init_1 : decode cX5_init 1 = .ok (.invokespecial 3, 3) := by decide +kernel
theorem dX5_init_4 : decode cX5_init 4 = .ok (.aload_n 0, 1) := by decide +kernel
theorem dX5_init_5 : decode cX5_init 5 = .ok (.aload_n 1, 1) := by decide +kernel
theorem dX5_init_6 : decode cX5_init 6 = .ok (.iconst 2, 1) := by decide +kernel
theorem dX5_init_7 : decode cX5_init 7 = .ok (.invokestatic 9, 3) := by decide +kernel
theorem dX5_init_10 : decode cX5_init 10 = .ok (.putfield 13, 3) := by decide +kernel
theorem dX5_init_13 : decode cX5_init 13 = .ok (.return_, 1) := by decide +kernel
theorem dX5_clear_0 : decode cX5_clear 0 = .ok (.aload_n 0, 1) := by decide +kernel
theorem dX5_clear_1 : decode cX5_clear 1 = .ok (.iconst 0, 1) := by decide +kernel
theorem dX5_clear_2 : decode cX5_clear 2 = .ok (.putfield 19, 3) := by decide +kernel
theorem dX5_clear_5 : decode cX5_clear 5 = .ok (.return_, 1) := by decide +kernel
theorem dX5_store_0 : decode cX5_store 0 = .ok (.aload_n 0, 1) := by decide +kernel
theorem dX5_store_1 : decode cX5_store 1 = .ok (.getfield 13, 3) := by decide +kernel
theorem dX5_store_4 : decode cX5_store 4 = .ok (.iload_n 1, 1) := by decide +kernel
theorem dX5_store_5 : decode cX5_store 5 = .ok (.invokestatic 23, 3) := by decide +kernel
theorem dX5_store_8 : decode cX5_store 8 = .ok (.astore_n 3, 1) := by decide +kernel
theorem dX5_store_9 : decode cX5_store 9 = .ok (.aload_n 3, 1) := by decide +kernel
theorem dX5_store_10 : decode cX5_store 10 = .ok (.ifnull 20, 3) := by decide +kernel
theorem dX5_store_13 : decode cX5_store 13 = .ok (.aload_n 3, 1) := by decide +kernel
theorem dX5_store_14 : decode cX5_store 14 = .ok (.aload_n 2, 1) := by decide +kernel
theorem dX5_store_15 : decode cX5_store 15 = .ok (.invokevirtual 27, 3) := by decide +kernel
theorem dX5_store_18 : decode cX5_store 18 = .ok (.aload_n 0, 1) := by decide +kernel
theorem dX5_store_19 : decode cX5_store 19 = .ok (.dup, 1) := by decide +kernel
theorem dX5_store_20 : decode cX5_store 20 = .ok (.getfield 19, 3) := by decide +kernel
theorem dX5_store_23 : decode cX5_store 23 = .ok (.iconst 1, 1) := by decide +kernel
theorem dX5_store_24 : decode cX5_store 24 = .ok (.iload_n 1, 1) := by decide +kernel
theorem dX5_store_25 : decode cX5_store 25 = .ok (.ishl, 1) := by decide +kernel
theorem dX5_store_26 : decode cX5_store 26 = .ok (.ior, 1) := by decide +kernel
theorem dX5_store_27 : decode cX5_store 27 = .ok (.putfield 19, 3) := by decide +kernel
theorem dX5_store_30 : decode cX5_store 30 = .ok (.return_, 1) := by decide +kernel
theorem dX5_fetch_0 : decode cX5_fetch 0 = .ok (.aload_n 0, 1) := by decide +kernel
theorem dX5_fetch_1 : decode cX5_fetch 1 = .ok (.getfield 13, 3) := by decide +kernel
theorem dX5_fetch_4 : decode cX5_fetch 4 = .ok (.iload_n 1, 1) := by decide +kernel
theorem dX5_fetch_5 : decode cX5_fetch 5 = .ok (.invokestatic 23, 3) := by decide +kernel
theorem dX5_fetch_8 : decode cX5_fetch 8 = .ok (.astore_n 3, 1) := by decide +kernel
theorem dX5_fetch_9 : decode cX5_fetch 9 = .ok (.aload_n 3, 1) := by decide +kernel
theorem dX5_fetch_10 : decode cX5_fetch 10 = .ok (.ifnull 14, 3) := by decide +kernel
theorem dX5_fetch_13 : decode cX5_fetch 13 = .ok (.aload_n 0, 1) := by decide +kernel
theorem dX5_fetch_14 : decode cX5_fetch 14 = .ok (.getfield 19, 3) := by decide +kernel
theorem dX5_fetch_17 : decode cX5_fetch 17 = .ok (.iload_n 1, 1) := by decide +kernel
theorem dX5_fetch_18 : decode cX5_fetch 18 = .ok (.invokestatic 33, 3) := by decide +kernel
theorem dX5_fetch_21 : decode cX5_fetch 21 = .ok (.ifCond .ne 5, 3) := by decide +kernel
theorem dX5_fetch_24 : decode cX5_fetch 24 = .ok (.iconst 0, 1) := by decide +kernel
theorem dX5_fetch_25 : decode cX5_fetch 25 = .ok (.ireturn, 1) := by decide +kernel
theorem dX5_fetch_26 : decode cX5_fetch 26 = .ok (.aload_n 2, 1) := by decide +kernel
theorem dX5_fetch_27 : decode cX5_fetch 27 = .ok (.aload_n 3, 1) := by decide +kernel
theorem dX5_fetch_28 : decode cX5_fetch 28 = .ok (.invokevirtual 27, 3) := by decide +kernel
theorem dX5_fetch_31 : decode cX5_fetch 31 = .ok (.iconst 1, 1) := by decide +kernel
theorem dX5_fetch_32 : decode cX5_fetch 32 = .ok (.ireturn, 1) := by decide +kernel
theorem dX6_init_0 : decode cX6_init 0 = .ok (.aload_n 0, 1) := by decide +kernel
theorem dX6_init_1 : decode cX6_init 1 = .ok (.invokespecial 3, 3) := by decide +kernel
theorem dX6_init_4 : decode cX6_init 4 = .ok (.aload_n 0, 1) := by decide +kernel
theorem dX6_init_5 : decode cX6_init 5 = .ok (.new 9, 3) := by decide +kernel
theorem dX6_init_8 : decode cX6_init 8 = .ok (.dup, 1) := by decide +kernel
theorem dX6_init_9 : decode cX6_init 9 = .ok (.invokespecial 11, 3) := by decide +kernel
theorem dX6_init_12 : decode cX6_init 12 = .ok (.putfield 12, 3) := by decide +kernel
theorem dX6_init_15 : decode cX6_init 15 = .ok (.aload_n 0, 1) := by decide +kernel
theorem dX6_init_16 : decode cX6_init 16 = .ok (.new 16, 3) := by decide +kernel
theorem dX6_init_19 : decode cX6_init 19 = .ok (.dup, 1) := by decide +kernel
theorem dX6_init_20 : decode cX6_init 20 = .ok (.invokespecial 18, 3) := by decide +kernel
theorem dX6_init_23 : decode cX6_init 23 = .ok (.putfield 19, 3) := by decide +kernel
theorem dX6_init_26 : decode cX6_init 26 = .ok (.aload_n 0, 1) := by decide +kernel
theorem dX6_init_27 : decode cX6_init 27 = .ok (.new 23, 3) := by decide +kernel
theorem dX6_init_30 : decode cX6_init 30 = .ok (.dup, 1) := by decide +kernel
theorem dX6_init_31 : decode cX6_init 31 = .ok (.aload_n 0, 1) := by decide +kernel
theorem dX6_init_32 : decode cX6_init 32 = .ok (.getfield 19, 3) := by decide +kernel
theorem dX6_init_35 : decode cX6_init 35 = .ok (.invokespecial 25, 3) := by decide +kernel
theorem dX6_init_38 : decode cX6_init 38 = .ok (.putfield 28, 3) := by decide +kernel
theorem dX6_init_41 : decode cX6_init 41 = .ok (.aload_n 0, 1) := by decide +kernel
theorem dX6_init_42 : decode cX6_init 42 = .ok (.new 23, 3) := by decide +kernel
theorem dX6_init_45 : decode cX6_init 45 = .ok (.dup, 1) := by decide +kernel
theorem dX6_init_46 : decode cX6_init 46 = .ok (.aload_n 0, 1) := by decide +kernel
theorem dX6_init_47 : decode cX6_init 47 = .ok (.getfield 19, 3) := by decide +kernel
theorem dX6_init_50 : decode cX6_init 50 = .ok (.invokespecial 25, 3) := by decide +kernel
theorem dX6_init_53 : decode cX6_init 53 = .ok (.putfield 32, 3) := by decide +kernel
theorem dX6_init_56 : decode cX6_init 56 = .ok (.aload_n 0, 1) := by decide +kernel
theorem dX6_init_57 : decode cX6_init 57 = .ok (.new 35, 3) := by decide +kernel
theorem dX6_init_60 : decode cX6_init 60 = .ok (.dup, 1) := by decide +kernel
theorem dX6_init_61 : decode cX6_init 61 = .ok (.aload_n 0, 1) := by decide +kernel
theorem dX6_init_62 : decode cX6_init 62 = .ok (.getfield 19, 3) := by decide +kernel
theorem dX6_init_65 : decode cX6_init 65 = .ok (.invokespecial 37, 3) := by decide +kernel
theorem dX6_init_68 : decode cX6_init 68 = .ok (.putfield 38, 3) := by decide +kernel
theorem dX6_init_71 : decode cX6_init 71 = .ok (.aload_n 0, 1) := by decide +kernel
theorem dX6_init_72 : decode cX6_init 72 = .ok (.new 42, 3) := by decide +kernel
theorem dX6_init_75 : decode cX6_init 75 = .ok (.dup, 1) := by decide +kernel
theorem dX6_init_76 : decode cX6_init 76 = .ok (.aload_n 0, 1) := by decide +kernel
theorem dX6_init_77 : decode cX6_init 77 = .ok (.getfield 19, 3) := by decide +kernel
theorem dX6_init_80 : decode cX6_init 80 = .ok (.invokespecial 44, 3) := by decide +kernel
theorem dX6_init_83 : decode cX6_init 83 = .ok (.putfield 45, 3) := by decide +kernel
theorem dX6_init_86 : decode cX6_init 86 = .ok (.aload_n 0, 1) := by decide +kernel
theorem dX6_init_87 : decode cX6_init 87 = .ok (.new 49, 3) := by decide +kernel
theorem dX6_init_90 : decode cX6_init 90 = .ok (.dup, 1) := by decide +kernel
theorem dX6_init_91 : decode cX6_init 91 = .ok (.invokespecial 51, 3) := by decide +kernel
theorem dX6_init_94 : decode cX6_init 94 = .ok (.putfield 52, 3) := by decide +kernel
theorem dX6_init_97 : decode cX6_init 97 = .ok (.return_, 1) := by decide +kernel
theorem dX6_write_0 : decode cX6_write 0 = .ok (.iload_n 1, 1) := by decide +kernel
theorem dX6_write_1 : decode cX6_write 1 = .ok (.ifCond .lt 10, 3) := by decide +kernel
theorem dX6_write_4 : decode cX6_write 4 = .ok (.iload_n 1, 1) := by decide +kernel
theorem dX6_write_5 : decode cX6_write 5 = .ok (.sipush 255, 3) := by decide +kernel
theorem dX6_write_8 : decode cX6_write 8 = .ok (.if_icmp .le 6, 3) := by decide +kernel
theorem dX6_write_11 : decode cX6_write 11 = .ok (.bipush (-2), 2) := by decide +kernel
theorem dX6_write_13 : decode cX6_write 13 = .ok (.ireturn, 1) := by decide +kernel
theorem dX6_write_14 : decode cX6_write 14 = .ok (.aload_n 0, 1) := by decide +kernel
theorem dX6_write_15 : decode cX6_write 15 = .ok (.getfield 12, 3) := by decide +kernel
theorem dX6_write_18 : decode cX6_write 18 = .ok (.iload_n 1, 1) := by decide +kernel
theorem dX6_write_19 : decode cX6_write 19 = .ok (.invokevirtual 56, 3) := by decide +kernel
theorem dX6_write_22 : decode cX6_write 22 = .ok (.ifCond .eq 13, 3) := by decide +kernel
theorem dX6_write_25 : decode cX6_write 25 = .ok (.aload_n 0, 1) := by decide +kernel
theorem dX6_write_26 : decode cX6_write 26 = .ok (.getfield 12, 3) := by decide +kernel
theorem dX6_write_29 : decode cX6_write 29 = .ok (.invokevirtual 60, 3) := by decide +kernel
theorem dX6_write_32 : decode cX6_write 32 = .ok (.goto 5, 3) := by decide +kernel
theorem dX6_write_35 : decode cX6_write 35 = .ok (.bipush (-4), 2) := by decide +kernel
theorem dX6_write_37 : decode cX6_write 37 = .ok (.ireturn, 1) := by decide +kernel
theorem dX6_wipe_0 : decode cX6_wipe 0 = .ok (.aload_n 0, 1) := by decide +kernel
theorem dX6_wipe_1 : decode cX6_wipe 1 = .ok (.getfield 12, 3) := by decide +kernel
theorem dX6_wipe_4 : decode cX6_wipe 4 = .ok (.invokevirtual 60, 3) := by decide +kernel
theorem dX6_wipe_7 : decode cX6_wipe 7 = .ok (.istore_n 1, 1) := by decide +kernel
theorem dX6_wipe_8 : decode cX6_wipe 8 = .ok (.aload_n 0, 1) := by decide +kernel
theorem dX6_wipe_9 : decode cX6_wipe 9 = .ok (.getfield 12, 3) := by decide +kernel
theorem dX6_wipe_12 : decode cX6_wipe 12 = .ok (.invokevirtual 64, 3) := by decide +kernel
theorem dX6_wipe_15 : decode cX6_wipe 15 = .ok (.iload_n 1, 1) := by decide +kernel
theorem dX6_wipe_16 : decode cX6_wipe 16 = .ok (.ireturn, 1) := by decide +kernel
theorem dX6_fault_0 : decode cX6_fault 0 = .ok (.aload_n 0, 1) := by decide +kernel
theorem dX6_fault_1 : decode cX6_fault 1 = .ok (.getfield 12, 3) := by decide +kernel
theorem dX6_fault_4 : decode cX6_fault 4 = .ok (.invokevirtual 67, 3) := by decide +kernel
theorem dX6_fault_7 : decode cX6_fault 7 = .ok (.ireturn, 1) := by decide +kernel
theorem dX6_town_0 : decode cX6_town 0 = .ok (.aload_n 0, 1) := by decide +kernel
theorem dX6_town_1 : decode cX6_town 1 = .ok (.getfield 12, 3) := by decide +kernel
theorem dX6_town_4 : decode cX6_town 4 = .ok (.invokevirtual 67, 3) := by decide +kernel
theorem dX6_town_7 : decode cX6_town 7 = .ok (.bipush (-9), 2) := by decide +kernel
theorem dX6_town_9 : decode cX6_town 9 = .ok (.if_icmp .eq 6, 3) := by decide +kernel
theorem dX6_town_12 : decode cX6_town 12 = .ok (.bipush (-3), 2) := by decide +kernel
theorem dX6_town_14 : decode cX6_town 14 = .ok (.ireturn, 1) := by decide +kernel
theorem dX6_town_15 : decode cX6_town 15 = .ok (.aload_n 0, 1) := by decide +kernel
theorem dX6_town_16 : decode cX6_town 16 = .ok (.getfield 19, 3) := by decide +kernel
theorem dX6_town_19 : decode cX6_town 19 = .ok (.aload_n 0, 1) := by decide +kernel
theorem dX6_town_20 : decode cX6_town 20 = .ok (.getfield 12, 3) := by decide +kernel
theorem dX6_town_23 : decode cX6_town 23 = .ok (.invokevirtual 70, 3) := by decide +kernel
theorem dX6_town_26 : decode cX6_town 26 = .ok (.aload_n 0, 1) := by decide +kernel
theorem dX6_town_27 : decode cX6_town 27 = .ok (.getfield 28, 3) := by decide +kernel
theorem dX6_town_30 : decode cX6_town 30 = .ok (.invokevirtual 74, 3) := by decide +kernel
theorem dX6_town_33 : decode cX6_town 33 = .ok (.aload_n 0, 1) := by decide +kernel
theorem dX6_town_34 : decode cX6_town 34 = .ok (.getfield 38, 3) := by decide +kernel
theorem dX6_town_37 : decode cX6_town 37 = .ok (.invokevirtual 77, 3) := by decide +kernel
theorem dX6_town_40 : decode cX6_town 40 = .ok (.aload_n 0, 1) := by decide +kernel
theorem dX6_town_41 : decode cX6_town 41 = .ok (.getfield 45, 3) := by decide +kernel
theorem dX6_town_44 : decode cX6_town 44 = .ok (.invokevirtual 78, 3) := by decide +kernel
theorem dX6_town_47 : decode cX6_town 47 = .ok (.bipush 10, 2) := by decide +kernel
theorem dX6_town_49 : decode cX6_town 49 = .ok (.aload_n 0, 1) := by decide +kernel
theorem dX6_town_50 : decode cX6_town 50 = .ok (.getfield 19, 3) := by decide +kernel
theorem dX6_town_53 : decode cX6_town 53 = .ok (.invokevirtual 79, 3) := by decide +kernel
theorem dX6_town_56 : decode cX6_town 56 = .ok (.imul, 1) := by decide +kernel
theorem dX6_town_57 : decode cX6_town 57 = .ok (.aload_n 0, 1) := by decide +kernel
theorem dX6_town_58 : decode cX6_town 58 = .ok (.getfield 19, 3) := by decide +kernel
theorem dX6_town_61 : decode cX6_town 61 = .ok (.invokevirtual 82, 3) := by decide +kernel
theorem dX6_town_64 : decode cX6_town 64 = .ok (.iadd, 1) := by decide +kernel
theorem dX6_town_65 : decode cX6_town 65 = .ok (.ireturn, 1) := by decide +kernel
theorem dX6_about_0 : decode cX6_about 0 = .ok (.iload_n 1, 1) := by decide +kernel
theorem dX6_about_1 : decode cX6_about 1 = .ok (.tableswitch 149 0 10 #[59, 67, 75, 83, 91, 99, 107, 116, 125, 133, 141], 59) := by decide +kernel
theorem dX6_about_60 : decode cX6_about 60 = .ok (.aload_n 0, 1) := by decide +kernel
theorem dX6_about_61 : decode cX6_about 61 = .ok (.getfield 19, 3) := by decide +kernel
theorem dX6_about_64 : decode cX6_about 64 = .ok (.invokevirtual 79, 3) := by decide +kernel
theorem dX6_about_67 : decode cX6_about 67 = .ok (.ireturn, 1) := by decide +kernel
theorem dX6_about_68 : decode cX6_about 68 = .ok (.aload_n 0, 1) := by decide +kernel
theorem dX6_about_69 : decode cX6_about 69 = .ok (.getfield 19, 3) := by decide +kernel
theorem dX6_about_72 : decode cX6_about 72 = .ok (.invokevirtual 82, 3) := by decide +kernel
theorem dX6_about_75 : decode cX6_about 75 = .ok (.ireturn, 1) := by decide +kernel
theorem dX6_about_76 : decode cX6_about 76 = .ok (.aload_n 0, 1) := by decide +kernel
theorem dX6_about_77 : decode cX6_about 77 = .ok (.getfield 28, 3) := by decide +kernel
theorem dX6_about_80 : decode cX6_about 80 = .ok (.invokevirtual 85, 3) := by decide +kernel
theorem dX6_about_83 : decode cX6_about 83 = .ok (.ireturn, 1) := by decide +kernel
theorem dX6_about_84 : decode cX6_about 84 = .ok (.aload_n 0, 1) := by decide +kernel
theorem dX6_about_85 : decode cX6_about 85 = .ok (.getfield 28, 3) := by decide +kernel
theorem dX6_about_88 : decode cX6_about 88 = .ok (.invokevirtual 88, 3) := by decide +kernel
theorem dX6_about_91 : decode cX6_about 91 = .ok (.ireturn, 1) := by decide +kernel
theorem dX6_about_92 : decode cX6_about 92 = .ok (.aload_n 0, 1) := by decide +kernel
theorem dX6_about_93 : decode cX6_about 93 = .ok (.getfield 28, 3) := by decide +kernel
theorem dX6_about_96 : decode cX6_about 96 = .ok (.invokevirtual 91, 3) := by decide +kernel
theorem dX6_about_99 : decode cX6_about 99 = .ok (.ireturn, 1) := by decide +kernel
theorem dX6_about_100 : decode cX6_about 100 = .ok (.aload_n 0, 1) := by decide +kernel
theorem dX6_about_101 : decode cX6_about 101 = .ok (.getfield 28, 3) := by decide +kernel
theorem dX6_about_104 : decode cX6_about 104 = .ok (.invokevirtual 94, 3) := by decide +kernel
theorem dX6_about_107 : decode cX6_about 107 = .ok (.ireturn, 1) := by decide +kernel
theorem dX6_about_108 : decode cX6_about 108 = .ok (.aload_n 0, 1) := by decide +kernel
theorem dX6_about_109 : decode cX6_about 109 = .ok (.getfield 28, 3) := by decide +kernel
theorem dX6_about_112 : decode cX6_about 112 = .ok (.iconst 1, 1) := by decide +kernel
theorem dX6_about_113 : decode cX6_about 113 = .ok (.invokevirtual 97, 3) := by decide +kernel
theorem dX6_about_116 : decode cX6_about 116 = .ok (.ireturn, 1) := by decide +kernel
theorem dX6_about_117 : decode cX6_about 117 = .ok (.aload_n 0, 1) := by decide +kernel
theorem dX6_about_118 : decode cX6_about 118 = .ok (.getfield 28, 3) := by decide +kernel
theorem dX6_about_121 : decode cX6_about 121 = .ok (.iconst 2, 1) := by decide +kernel
theorem dX6_about_122 : decode cX6_about 122 = .ok (.invokevirtual 97, 3) := by decide +kernel
theorem dX6_about_125 : decode cX6_about 125 = .ok (.ireturn, 1) := by decide +kernel
theorem dX6_about_126 : decode cX6_about 126 = .ok (.aload_n 0, 1) := by decide +kernel
theorem dX6_about_127 : decode cX6_about 127 = .ok (.getfield 38, 3) := by decide +kernel
theorem dX6_about_130 : decode cX6_about 130 = .ok (.invokevirtual 101, 3) := by decide +kernel
theorem dX6_about_133 : decode cX6_about 133 = .ok (.ireturn, 1) := by decide +kernel
theorem dX6_about_134 : decode cX6_about 134 = .ok (.aload_n 0, 1) := by decide +kernel
theorem dX6_about_135 : decode cX6_about 135 = .ok (.getfield 52, 3) := by decide +kernel
theorem dX6_about_138 : decode cX6_about 138 = .ok (.invokevirtual 104, 3) := by decide +kernel
theorem dX6_about_141 : decode cX6_about 141 = .ok (.ireturn, 1) := by decide +kernel
theorem dX6_about_142 : decode cX6_about 142 = .ok (.aload_n 0, 1) := by decide +kernel
theorem dX6_about_143 : decode cX6_about 143 = .ok (.getfield 12, 3) := by decide +kernel
theorem dX6_about_146 : decode cX6_about 146 = .ok (.invokevirtual 60, 3) := by decide +kernel
theorem dX6_about_149 : decode cX6_about 149 = .ok (.ireturn, 1) := by decide +kernel
theorem dX6_about_150 : decode cX6_about 150 = .ok (.bipush (-2), 2) := by decide +kernel
theorem dX6_about_152 : decode cX6_about 152 = .ok (.ireturn, 1) := by decide +kernel
theorem dX6_walker_0 : decode cX6_walker 0 = .ok (.aload_n 0, 1) := by decide +kernel
theorem dX6_walker_1 : decode cX6_walker 1 = .ok (.getfield 19, 3) := by decide +kernel
theorem dX6_walker_4 : decode cX6_walker 4 = .ok (.iload_n 1, 1) := by decide +kernel
theorem dX6_walker_5 : decode cX6_walker 5 = .ok (.invokevirtual 105, 3) := by decide +kernel
theorem dX6_walker_8 : decode cX6_walker 8 = .ok (.ifCond .ne 5, 3) := by decide +kernel
theorem dX6_walker_11 : decode cX6_walker 11 = .ok (.iconst (-1), 1) := by decide +kernel
theorem dX6_walker_12 : decode cX6_walker 12 = .ok (.ireturn, 1) := by decide +kernel
theorem dX6_walker_13 : decode cX6_walker 13 = .ok (.iload_n 2, 1) := by decide +kernel
theorem dX6_walker_14 : decode cX6_walker 14 = .ok (.tableswitch 61 0 2 #[26, 35, 44], 26) := by decide +kernel
theorem dX6_walker_40 : decode cX6_walker 40 = .ok (.aload_n 0, 1) := by decide +kernel
theorem dX6_walker_41 : decode cX6_walker 41 = .ok (.getfield 28, 3) := by decide +kernel
theorem dX6_walker_44 : decode cX6_walker 44 = .ok (.iload_n 1, 1) := by decide +kernel
theorem dX6_walker_45 : decode cX6_walker 45 = .ok (.invokevirtual 108, 3) := by decide +kernel
theorem dX6_walker_48 : decode cX6_walker 48 = .ok (.ireturn, 1) := by decide +kernel
theorem dX6_walker_49 : decode cX6_walker 49 = .ok (.aload_n 0, 1) := by decide +kernel
theorem dX6_walker_50 : decode cX6_walker 50 = .ok (.getfield 19, 3) := by decide +kernel
theorem dX6_walker_53 : decode cX6_walker 53 = .ok (.iload_n 1, 1) := by decide +kernel
theorem dX6_walker_54 : decode cX6_walker 54 = .ok (.invokevirtual 111, 3) := by decide +kernel
theorem dX6_walker_57 : decode cX6_walker 57 = .ok (.ireturn, 1) := by decide +kernel
theorem dX6_walker_58 : decode cX6_walker 58 = .ok (.aload_n 0, 1) := by decide +kernel
theorem dX6_walker_59 : decode cX6_walker 59 = .ok (.getfield 28, 3) := by decide +kernel
theorem dX6_walker_62 : decode cX6_walker 62 = .ok (.iload_n 1, 1) := by decide +kernel
theorem dX6_walker_63 : decode cX6_walker 63 = .ok (.invokevirtual 114, 3) := by decide +kernel
theorem dX6_walker_66 : decode cX6_walker 66 = .ok (.ifCond .eq 7, 3) := by decide +kernel
theorem dX6_walker_69 : decode cX6_walker 69 = .ok (.iconst 1, 1) := by decide +kernel
theorem dX6_walker_70 : decode cX6_walker 70 = .ok (.goto 4, 3) := by decide +kernel
theorem dX6_walker_73 : decode cX6_walker 73 = .ok (.iconst 0, 1) := by decide +kernel
theorem dX6_walker_74 : decode cX6_walker 74 = .ok (.ireturn, 1) := by decide +kernel
theorem dX6_walker_75 : decode cX6_walker 75 = .ok (.bipush (-2), 2) := by decide +kernel
theorem dX6_walker_77 : decode cX6_walker 77 = .ok (.ireturn, 1) := by decide +kernel
theorem dX6_need_0 : decode cX6_need 0 = .ok (.aload_n 0, 1) := by decide +kernel
theorem dX6_need_1 : decode cX6_need 1 = .ok (.getfield 19, 3) := by decide +kernel
theorem dX6_need_4 : decode cX6_need 4 = .ok (.iload_n 1, 1) := by decide +kernel
theorem dX6_need_5 : decode cX6_need 5 = .ok (.invokevirtual 117, 3) := by decide +kernel
theorem dX6_need_8 : decode cX6_need 8 = .ok (.ifCond .ne 5, 3) := by decide +kernel
theorem dX6_need_11 : decode cX6_need 11 = .ok (.iconst (-1), 1) := by decide +kernel
theorem dX6_need_12 : decode cX6_need 12 = .ok (.ireturn, 1) := by decide +kernel
theorem dX6_need_13 : decode cX6_need 13 = .ok (.iload_n 2, 1) := by decide +kernel
theorem dX6_need_14 : decode cX6_need 14 = .ok (.tableswitch 66 0 3 #[30, 39, 48, 57], 30) := by decide +kernel
theorem dX6_need_44 : decode cX6_need 44 = .ok (.aload_n 0, 1) := by decide +kernel
theorem dX6_need_45 : decode cX6_need 45 = .ok (.getfield 19, 3) := by decide +kernel
theorem dX6_need_48 : decode cX6_need 48 = .ok (.iload_n 1, 1) := by decide +kernel
theorem dX6_need_49 : decode cX6_need 49 = .ok (.invokevirtual 120, 3) := by decide +kernel
theorem dX6_need_52 : decode cX6_need 52 = .ok (.ireturn, 1) := by decide +kernel
theorem dX6_need_53 : decode cX6_need 53 = .ok (.aload_n 0, 1) := by decide +kernel
theorem dX6_need_54 : decode cX6_need 54 = .ok (.getfield 19, 3) := by decide +kernel
theorem dX6_need_57 : decode cX6_need 57 = .ok (.iload_n 1, 1) := by decide +kernel
theorem dX6_need_58 : decode cX6_need 58 = .ok (.invokevirtual 123, 3) := by decide +kernel
theorem dX6_need_61 : decode cX6_need 61 = .ok (.ireturn, 1) := by decide +kernel
theorem dX6_need_62 : decode cX6_need 62 = .ok (.aload_n 0, 1) := by decide +kernel
theorem dX6_need_63 : decode cX6_need 63 = .ok (.getfield 19, 3) := by decide +kernel
theorem dX6_need_66 : decode cX6_need 66 = .ok (.iload_n 1, 1) := by decide +kernel
theorem dX6_need_67 : decode cX6_need 67 = .ok (.invokevirtual 126, 3) := by decide +kernel
theorem dX6_need_70 : decode cX6_need 70 = .ok (.ireturn, 1) := by decide +kernel
theorem dX6_need_71 : decode cX6_need 71 = .ok (.aload_n 0, 1) := by decide +kernel
theorem dX6_need_72 : decode cX6_need 72 = .ok (.getfield 28, 3) := by decide +kernel
theorem dX6_need_75 : decode cX6_need 75 = .ok (.iload_n 1, 1) := by decide +kernel
theorem dX6_need_76 : decode cX6_need 76 = .ok (.invokevirtual 129, 3) := by decide +kernel
theorem dX6_need_79 : decode cX6_need 79 = .ok (.ireturn, 1) := by decide +kernel
theorem dX6_need_80 : decode cX6_need 80 = .ok (.bipush (-2), 2) := by decide +kernel
theorem dX6_need_82 : decode cX6_need 82 = .ok (.ireturn, 1) := by decide +kernel
theorem dX6_street_0 : decode cX6_street 0 = .ok (.iload_n 1, 1) := by decide +kernel
theorem dX6_street_1 : decode cX6_street 1 = .ok (.invokestatic 132, 3) := by decide +kernel
theorem dX6_street_4 : decode cX6_street 4 = .ok (.ifCond .ne 5, 3) := by decide +kernel
theorem dX6_street_7 : decode cX6_street 7 = .ok (.iconst (-1), 1) := by decide +kernel
theorem dX6_street_8 : decode cX6_street 8 = .ok (.ireturn, 1) := by decide +kernel
theorem dX6_street_9 : decode cX6_street 9 = .ok (.iload_n 2, 1) := by decide +kernel
theorem dX6_street_10 : decode cX6_street 10 = .ok (.tableswitch 53 0 2 #[26, 35, 44], 26) := by decide +kernel
theorem dX6_street_36 : decode cX6_street 36 = .ok (.aload_n 0, 1) := by decide +kernel
theorem dX6_street_37 : decode cX6_street 37 = .ok (.getfield 28, 3) := by decide +kernel
theorem dX6_street_40 : decode cX6_street 40 = .ok (.iload_n 1, 1) := by decide +kernel
theorem dX6_street_41 : decode cX6_street 41 = .ok (.invokevirtual 135, 3) := by decide +kernel
theorem dX6_street_44 : decode cX6_street 44 = .ok (.ireturn, 1) := by decide +kernel
theorem dX6_street_45 : decode cX6_street 45 = .ok (.aload_n 0, 1) := by decide +kernel
theorem dX6_street_46 : decode cX6_street 46 = .ok (.getfield 28, 3) := by decide +kernel
theorem dX6_street_49 : decode cX6_street 49 = .ok (.iload_n 1, 1) := by decide +kernel
theorem dX6_street_50 : decode cX6_street 50 = .ok (.invokevirtual 138, 3) := by decide +kernel
theorem dX6_street_53 : decode cX6_street 53 = .ok (.ireturn, 1) := by decide +kernel
theorem dX6_street_54 : decode cX6_street 54 = .ok (.aload_n 0, 1) := by decide +kernel
theorem dX6_street_55 : decode cX6_street 55 = .ok (.getfield 28, 3) := by decide +kernel
theorem dX6_street_58 : decode cX6_street 58 = .ok (.iload_n 1, 1) := by decide +kernel
theorem dX6_street_59 : decode cX6_street 59 = .ok (.invokevirtual 141, 3) := by decide +kernel
theorem dX6_street_62 : decode cX6_street 62 = .ok (.ireturn, 1) := by decide +kernel
theorem dX6_street_63 : decode cX6_street 63 = .ok (.bipush (-2), 2) := by decide +kernel
theorem dX6_street_65 : decode cX6_street 65 = .ok (.ireturn, 1) := by decide +kernel
theorem dX6_open_0 : decode cX6_open 0 = .ok (.aload_n 0, 1) := by decide +kernel
theorem dX6_open_1 : decode cX6_open 1 = .ok (.getfield 19, 3) := by decide +kernel
theorem dX6_open_4 : decode cX6_open 4 = .ok (.iload_n 1, 1) := by decide +kernel
theorem dX6_open_5 : decode cX6_open 5 = .ok (.invokevirtual 105, 3) := by decide +kernel
theorem dX6_open_8 : decode cX6_open 8 = .ok (.ifCond .ne 5, 3) := by decide +kernel
theorem dX6_open_11 : decode cX6_open 11 = .ok (.iconst (-1), 1) := by decide +kernel
theorem dX6_open_12 : decode cX6_open 12 = .ok (.ireturn, 1) := by decide +kernel
theorem dX6_open_13 : decode cX6_open 13 = .ok (.aload_n 0, 1) := by decide +kernel
theorem dX6_open_14 : decode cX6_open 14 = .ok (.getfield 28, 3) := by decide +kernel
theorem dX6_open_17 : decode cX6_open 17 = .ok (.iload_n 1, 1) := by decide +kernel
theorem dX6_open_18 : decode cX6_open 18 = .ok (.invokevirtual 114, 3) := by decide +kernel
theorem dX6_open_21 : decode cX6_open 21 = .ok (.ifCond .eq 6, 3) := by decide +kernel
theorem dX6_open_24 : decode cX6_open 24 = .ok (.bipush (-3), 2) := by decide +kernel
theorem dX6_open_26 : decode cX6_open 26 = .ok (.ireturn, 1) := by decide +kernel
theorem dX6_open_27 : decode cX6_open 27 = .ok (.aload_n 0, 1) := by decide +kernel
theorem dX6_open_28 : decode cX6_open 28 = .ok (.getfield 38, 3) := by decide +kernel
theorem dX6_open_31 : decode cX6_open 31 = .ok (.aload_n 0, 1) := by decide +kernel
theorem dX6_open_32 : decode cX6_open 32 = .ok (.getfield 28, 3) := by decide +kernel
theorem dX6_open_35 : decode cX6_open 35 = .ok (.invokevirtual 144, 3) := by decide +kernel
theorem dX6_open_38 : decode cX6_open 38 = .ok (.aload_n 0, 1) := by decide +kernel
theorem dX6_open_39 : decode cX6_open 39 = .ok (.getfield 28, 3) := by decide +kernel
theorem dX6_open_42 : decode cX6_open 42 = .ok (.iload_n 1, 1) := by decide +kernel
theorem dX6_open_43 : decode cX6_open 43 = .ok (.invokevirtual 148, 3) := by decide +kernel
theorem dX6_open_46 : decode cX6_open 46 = .ok (.pop, 1) := by decide +kernel
theorem dX6_open_47 : decode cX6_open 47 = .ok (.aload_n 0, 1) := by decide +kernel
theorem dX6_open_48 : decode cX6_open 48 = .ok (.getfield 28, 3) := by decide +kernel
theorem dX6_open_51 : decode cX6_open 51 = .ok (.aload_n 0, 1) := by decide +kernel
theorem dX6_open_52 : decode cX6_open 52 = .ok (.getfield 28, 3) := by decide +kernel
theorem dX6_open_55 : decode cX6_open 55 = .ok (.iload_n 1, 1) := by decide +kernel
theorem dX6_open_56 : decode cX6_open 56 = .ok (.invokevirtual 108, 3) := by decide +kernel
theorem dX6_open_59 : decode cX6_open 59 = .ok (.invokevirtual 141, 3) := by decide +kernel
theorem dX6_open_62 : decode cX6_open 62 = .ok (.ireturn, 1) := by decide +kernel
theorem dX6_shut_0 : decode cX6_shut 0 = .ok (.aload_n 0, 1) := by decide +kernel
theorem dX6_shut_1 : decode cX6_shut 1 = .ok (.getfield 19, 3) := by decide +kernel
theorem dX6_shut_4 : decode cX6_shut 4 = .ok (.iload_n 1, 1) := by decide +kernel
theorem dX6_shut_5 : decode cX6_shut 5 = .ok (.invokevirtual 105, 3) := by decide +kernel
theorem dX6_shut_8 : decode cX6_shut 8 = .ok (.ifCond .ne 5, 3) := by decide +kernel
theorem dX6_shut_11 : decode cX6_shut 11 = .ok (.iconst (-1), 1) := by decide +kernel
theorem dX6_shut_12 : decode cX6_shut 12 = .ok (.ireturn, 1) := by decide +kernel
theorem dX6_shut_13 : decode cX6_shut 13 = .ok (.aload_n 0, 1) := by decide +kernel
theorem dX6_shut_14 : decode cX6_shut 14 = .ok (.getfield 28, 3) := by decide +kernel
theorem dX6_shut_17 : decode cX6_shut 17 = .ok (.iload_n 1, 1) := by decide +kernel
theorem dX6_shut_18 : decode cX6_shut 18 = .ok (.invokevirtual 114, 3) := by decide +kernel
theorem dX6_shut_21 : decode cX6_shut 21 = .ok (.ifCond .ne 6, 3) := by decide +kernel
theorem dX6_shut_24 : decode cX6_shut 24 = .ok (.bipush (-3), 2) := by decide +kernel
theorem dX6_shut_26 : decode cX6_shut 26 = .ok (.ireturn, 1) := by decide +kernel
theorem dX6_shut_27 : decode cX6_shut 27 = .ok (.aload_n 0, 1) := by decide +kernel
theorem dX6_shut_28 : decode cX6_shut 28 = .ok (.getfield 38, 3) := by decide +kernel
theorem dX6_shut_31 : decode cX6_shut 31 = .ok (.aload_n 0, 1) := by decide +kernel
theorem dX6_shut_32 : decode cX6_shut 32 = .ok (.getfield 28, 3) := by decide +kernel
theorem dX6_shut_35 : decode cX6_shut 35 = .ok (.invokevirtual 144, 3) := by decide +kernel
theorem dX6_shut_38 : decode cX6_shut 38 = .ok (.aload_n 0, 1) := by decide +kernel
theorem dX6_shut_39 : decode cX6_shut 39 = .ok (.getfield 28, 3) := by decide +kernel
theorem dX6_shut_42 : decode cX6_shut 42 = .ok (.iload_n 1, 1) := by decide +kernel
theorem dX6_shut_43 : decode cX6_shut 43 = .ok (.invokevirtual 151, 3) := by decide +kernel
theorem dX6_shut_46 : decode cX6_shut 46 = .ok (.pop, 1) := by decide +kernel
theorem dX6_shut_47 : decode cX6_shut 47 = .ok (.aload_n 0, 1) := by decide +kernel
theorem dX6_shut_48 : decode cX6_shut 48 = .ok (.getfield 28, 3) := by decide +kernel
theorem dX6_shut_51 : decode cX6_shut 51 = .ok (.aload_n 0, 1) := by decide +kernel
theorem dX6_shut_52 : decode cX6_shut 52 = .ok (.getfield 28, 3) := by decide +kernel
theorem dX6_shut_55 : decode cX6_shut 55 = .ok (.iload_n 1, 1) := by decide +kernel
theorem dX6_shut_56 : decode cX6_shut 56 = .ok (.invokevirtual 108, 3) := by decide +kernel
theorem dX6_shut_59 : decode cX6_shut 59 = .ok (.invokevirtual 141, 3) := by decide +kernel
theorem dX6_shut_62 : decode cX6_shut 62 = .ok (.ireturn, 1) := by decide +kernel
theorem dX6_walk_0 : decode cX6_walk 0 = .ok (.aload_n 0, 1) := by decide +kernel
theorem dX6_walk_1 : decode cX6_walk 1 = .ok (.getfield 19, 3) := by decide +kernel
theorem dX6_walk_4 : decode cX6_walk 4 = .ok (.iload_n 1, 1) := by decide +kernel
theorem dX6_walk_5 : decode cX6_walk 5 = .ok (.invokevirtual 105, 3) := by decide +kernel
theorem dX6_walk_8 : decode cX6_walk 8 = .ok (.ifCond .ne 5, 3) := by decide +kernel
theorem dX6_walk_11 : decode cX6_walk 11 = .ok (.iconst (-1), 1) := by decide +kernel
theorem dX6_walk_12 : decode cX6_walk 12 = .ok (.ireturn, 1) := by decide +kernel
theorem dX6_walk_13 : decode cX6_walk 13 = .ok (.aload_n 0, 1) := by decide +kernel
theorem dX6_walk_14 : decode cX6_walk 14 = .ok (.getfield 28, 3) := by decide +kernel
theorem dX6_walk_17 : decode cX6_walk 17 = .ok (.iload_n 1, 1) := by decide +kernel
theorem dX6_walk_18 : decode cX6_walk 18 = .ok (.iload_n 2, 1) := by decide +kernel
theorem dX6_walk_19 : decode cX6_walk 19 = .ok (.invokevirtual 154, 3) := by decide +kernel
theorem dX6_walk_22 : decode cX6_walk 22 = .ok (.ifCond .ne 6, 3) := by decide +kernel
theorem dX6_walk_25 : decode cX6_walk 25 = .ok (.bipush (-3), 2) := by decide +kernel
theorem dX6_walk_27 : decode cX6_walk 27 = .ok (.ireturn, 1) := by decide +kernel
theorem dX6_walk_28 : decode cX6_walk 28 = .ok (.aload_n 0, 1) := by decide +kernel
theorem dX6_walk_29 : decode cX6_walk 29 = .ok (.getfield 38, 3) := by decide +kernel
theorem dX6_walk_32 : decode cX6_walk 32 = .ok (.aload_n 0, 1) := by decide +kernel
theorem dX6_walk_33 : decode cX6_walk 33 = .ok (.getfield 28, 3) := by decide +kernel
theorem dX6_walk_36 : decode cX6_walk 36 = .ok (.invokevirtual 144, 3) := by decide +kernel
theorem dX6_walk_39 : decode cX6_walk 39 = .ok (.aload_n 0, 1) := by decide +kernel
theorem dX6_walk_40 : decode cX6_walk 40 = .ok (.getfield 28, 3) := by decide +kernel
theorem dX6_walk_43 : decode cX6_walk 43 = .ok (.iload_n 1, 1) := by decide +kernel
theorem dX6_walk_44 : decode cX6_walk 44 = .ok (.iload_n 2, 1) := by decide +kernel
theorem dX6_walk_45 : decode cX6_walk 45 = .ok (.invokevirtual 158, 3) := by decide +kernel
theorem dX6_walk_48 : decode cX6_walk 48 = .ok (.pop, 1) := by decide +kernel
theorem dX6_walk_49 : decode cX6_walk 49 = .ok (.aload_n 0, 1) := by decide +kernel
theorem dX6_walk_50 : decode cX6_walk 50 = .ok (.getfield 28, 3) := by decide +kernel
theorem dX6_walk_53 : decode cX6_walk 53 = .ok (.iload_n 1, 1) := by decide +kernel
theorem dX6_walk_54 : decode cX6_walk 54 = .ok (.invokevirtual 108, 3) := by decide +kernel
theorem dX6_walk_57 : decode cX6_walk 57 = .ok (.ireturn, 1) := by decide +kernel
theorem dX6_hour_0 : decode cX6_hour 0 = .ok (.aload_n 0, 1) := by decide +kernel
theorem dX6_hour_1 : decode cX6_hour 1 = .ok (.getfield 38, 3) := by decide +kernel
theorem dX6_hour_4 : decode cX6_hour 4 = .ok (.aload_n 0, 1) := by decide +kernel
theorem dX6_hour_5 : decode cX6_hour 5 = .ok (.getfield 28, 3) := by decide +kernel
theorem dX6_hour_8 : decode cX6_hour 8 = .ok (.invokevirtual 144, 3) := by decide +kernel
theorem dX6_hour_11 : decode cX6_hour 11 = .ok (.aload_n 0, 1) := by decide +kernel
theorem dX6_hour_12 : decode cX6_hour 12 = .ok (.getfield 28, 3) := by decide +kernel
theorem dX6_hour_15 : decode cX6_hour 15 = .ok (.invokevirtual 161, 3) := by decide +kernel
theorem dX6_hour_18 : decode cX6_hour 18 = .ok (.ireturn, 1) := by decide +kernel
theorem dX6_undo_0 : decode cX6_undo 0 = .ok (.aload_n 0, 1) := by decide +kernel
theorem dX6_undo_1 : decode cX6_undo 1 = .ok (.getfield 38, 3) := by decide +kernel
theorem dX6_undo_4 : decode cX6_undo 4 = .ok (.invokevirtual 101, 3) := by decide +kernel
theorem dX6_undo_7 : decode cX6_undo 7 = .ok (.ifCond .ne 6, 3) := by decide +kernel
theorem dX6_undo_10 : decode cX6_undo 10 = .ok (.bipush (-3), 2) := by decide +kernel
theorem dX6_undo_12 : decode cX6_undo 12 = .ok (.ireturn, 1) := by decide +kernel
theorem dX6_undo_13 : decode cX6_undo 13 = .ok (.aload_n 0, 1) := by decide +kernel
theorem dX6_undo_14 : decode cX6_undo 14 = .ok (.getfield 38, 3) := by decide +kernel
theorem dX6_undo_17 : decode cX6_undo 17 = .ok (.aload_n 0, 1) := by decide +kernel
end
section
theorem dX6_undo_18 : decode cX6_undo 18 = .ok (.getfield 28, 3) := by decide +kernel
theorem dX6_undo_21 : decode cX6_undo 21 = .ok (.invokevirtual 164, 3) := by decide +kernel
theorem dX6_undo_24 : decode cX6_undo 24 = .ok (.aload_n 0, 1) := by decide +kernel
theorem dX6_undo_25 : decode cX6_undo 25 = .ok (.getfield 38, 3) := by decide +kernel
theorem dX6_undo_28 : decode cX6_undo 28 = .ok (.invokevirtual 101, 3) := by decide +kernel
theorem dX6_undo_31 : decode cX6_undo 31 = .ok (.ireturn, 1) := by decide +kernel
theorem dX6_wet_0 : decode cX6_wet 0 = .ok (.iload_n 1, 1) := by decide +kernel
theorem dX6_wet_1 : decode cX6_wet 1 = .ok (.invokestatic 132, 3) := by decide +kernel
theorem dX6_wet_4 : decode cX6_wet 4 = .ok (.ifCond .ne 5, 3) := by decide +kernel
theorem dX6_wet_7 : decode cX6_wet 7 = .ok (.iconst (-1), 1) := by decide +kernel
theorem dX6_wet_8 : decode cX6_wet 8 = .ok (.ireturn, 1) := by decide +kernel
theorem dX6_wet_9 : decode cX6_wet 9 = .ok (.iload_n 2, 1) := by decide +kernel
theorem dX6_wet_10 : decode cX6_wet 10 = .ok (.ifCond .lt 9, 3) := by decide +kernel
theorem dX6_wet_13 : decode cX6_wet 13 = .ok (.iload_n 2, 1) := by decide +kernel
theorem dX6_wet_14 : decode cX6_wet 14 = .ok (.bipush 20, 2) := by decide +kernel
theorem dX6_wet_16 : decode cX6_wet 16 = .ok (.if_icmp .le 6, 3) := by decide +kernel
theorem dX6_wet_19 : decode cX6_wet 19 = .ok (.bipush (-2), 2) := by decide +kernel
theorem dX6_wet_21 : decode cX6_wet 21 = .ok (.ireturn, 1) := by decide +kernel
theorem dX6_wet_22 : decode cX6_wet 22 = .ok (.aload_n 0, 1) := by decide +kernel
theorem dX6_wet_23 : decode cX6_wet 23 = .ok (.getfield 32, 3) := by decide +kernel
theorem dX6_wet_26 : decode cX6_wet 26 = .ok (.aload_n 0, 1) := by decide +kernel
theorem dX6_wet_27 : decode cX6_wet 27 = .ok (.getfield 28, 3) := by decide +kernel
theorem dX6_wet_30 : decode cX6_wet 30 = .ok (.invokevirtual 167, 3) := by decide +kernel
theorem dX6_wet_33 : decode cX6_wet 33 = .ok (.aload_n 0, 1) := by decide +kernel
theorem dX6_wet_34 : decode cX6_wet 34 = .ok (.getfield 32, 3) := by decide +kernel
theorem dX6_wet_37 : decode cX6_wet 37 = .ok (.iload_n 2, 1) := by decide +kernel
theorem dX6_wet_38 : decode cX6_wet 38 = .ok (.invokevirtual 170, 3) := by decide +kernel
theorem dX6_wet_41 : decode cX6_wet 41 = .ok (.aload_n 0, 1) := by decide +kernel
theorem dX6_wet_42 : decode cX6_wet 42 = .ok (.getfield 32, 3) := by decide +kernel
theorem dX6_wet_45 : decode cX6_wet 45 = .ok (.iload_n 1, 1) := by decide +kernel
theorem dX6_wet_46 : decode cX6_wet 46 = .ok (.invokevirtual 135, 3) := by decide +kernel
theorem dX6_wet_49 : decode cX6_wet 49 = .ok (.ireturn, 1) := by decide +kernel
theorem dX6_needs_0 : decode cX6_needs 0 = .ok (.iload_n 1, 1) := by decide +kernel
theorem dX6_needs_1 : decode cX6_needs 1 = .ok (.ifCond .lt 16, 3) := by decide +kernel
theorem dX6_needs_4 : decode cX6_needs 4 = .ok (.iload_n 1, 1) := by decide +kernel
theorem dX6_needs_5 : decode cX6_needs 5 = .ok (.bipush 20, 2) := by decide +kernel
theorem dX6_needs_7 : decode cX6_needs 7 = .ok (.if_icmp .gt 10, 3) := by decide +kernel
theorem dX6_needs_10 : decode cX6_needs 10 = .ok (.iload_n 2, 1) := by decide +kernel
theorem dX6_needs_11 : decode cX6_needs 11 = .ok (.invokestatic 174, 3) := by decide +kernel
theorem dX6_needs_14 : decode cX6_needs 14 = .ok (.ifCond .ne 6, 3) := by decide +kernel
theorem dX6_needs_17 : decode cX6_needs 17 = .ok (.bipush (-2), 2) := by decide +kernel
theorem dX6_needs_19 : decode cX6_needs 19 = .ok (.ireturn, 1) := by decide +kernel
theorem dX6_needs_20 : decode cX6_needs 20 = .ok (.aload_n 0, 1) := by decide +kernel
theorem dX6_needs_21 : decode cX6_needs 21 = .ok (.getfield 32, 3) := by decide +kernel
theorem dX6_needs_24 : decode cX6_needs 24 = .ok (.aload_n 0, 1) := by decide +kernel
theorem dX6_needs_25 : decode cX6_needs 25 = .ok (.getfield 28, 3) := by decide +kernel
theorem dX6_needs_28 : decode cX6_needs 28 = .ok (.invokevirtual 167, 3) := by decide +kernel
theorem dX6_needs_31 : decode cX6_needs 31 = .ok (.aload_n 0, 1) := by decide +kernel
theorem dX6_needs_32 : decode cX6_needs 32 = .ok (.getfield 32, 3) := by decide +kernel
theorem dX6_needs_35 : decode cX6_needs 35 = .ok (.iload_n 1, 1) := by decide +kernel
theorem dX6_needs_36 : decode cX6_needs 36 = .ok (.invokevirtual 170, 3) := by decide +kernel
theorem dX6_needs_39 : decode cX6_needs 39 = .ok (.aload_n 0, 1) := by decide +kernel
theorem dX6_needs_40 : decode cX6_needs 40 = .ok (.getfield 32, 3) := by decide +kernel
theorem dX6_needs_43 : decode cX6_needs 43 = .ok (.iload_n 2, 1) := by decide +kernel
theorem dX6_needs_44 : decode cX6_needs 44 = .ok (.ifCond .ne 7, 3) := by decide +kernel
theorem dX6_needs_47 : decode cX6_needs 47 = .ok (.iconst 1, 1) := by decide +kernel
theorem dX6_needs_48 : decode cX6_needs 48 = .ok (.goto 4, 3) := by decide +kernel
theorem dX6_needs_51 : decode cX6_needs 51 = .ok (.iconst 2, 1) := by decide +kernel
theorem dX6_needs_52 : decode cX6_needs 52 = .ok (.invokevirtual 97, 3) := by decide +kernel
theorem dX6_needs_55 : decode cX6_needs 55 = .ok (.ireturn, 1) := by decide +kernel
theorem dX6_dry_0 : decode cX6_dry 0 = .ok (.iload_n 1, 1) := by decide +kernel
theorem dX6_dry_1 : decode cX6_dry 1 = .ok (.invokestatic 132, 3) := by decide +kernel
theorem dX6_dry_4 : decode cX6_dry 4 = .ok (.ifCond .ne 5, 3) := by decide +kernel
theorem dX6_dry_7 : decode cX6_dry 7 = .ok (.iconst (-1), 1) := by decide +kernel
theorem dX6_dry_8 : decode cX6_dry 8 = .ok (.ireturn, 1) := by decide +kernel
theorem dX6_dry_9 : decode cX6_dry 9 = .ok (.aload_n 0, 1) := by decide +kernel
theorem dX6_dry_10 : decode cX6_dry 10 = .ok (.getfield 32, 3) := by decide +kernel
theorem dX6_dry_13 : decode cX6_dry 13 = .ok (.aload_n 0, 1) := by decide +kernel
theorem dX6_dry_14 : decode cX6_dry 14 = .ok (.getfield 28, 3) := by decide +kernel
theorem dX6_dry_17 : decode cX6_dry 17 = .ok (.invokevirtual 167, 3) := by decide +kernel
theorem dX6_dry_20 : decode cX6_dry 20 = .ok (.iconst 0, 1) := by decide +kernel
theorem dX6_dry_21 : decode cX6_dry 21 = .ok (.istore_n 2, 1) := by decide +kernel
theorem dX6_dry_22 : decode cX6_dry 22 = .ok (.iload_n 2, 1) := by decide +kernel
theorem dX6_dry_23 : decode cX6_dry 23 = .ok (.bipush 20, 2) := by decide +kernel
theorem dX6_dry_25 : decode cX6_dry 25 = .ok (.if_icmp .gt 33, 3) := by decide +kernel
theorem dX6_dry_28 : decode cX6_dry 28 = .ok (.aload_n 0, 1) := by decide +kernel
theorem dX6_dry_29 : decode cX6_dry 29 = .ok (.getfield 32, 3) := by decide +kernel
theorem dX6_dry_32 : decode cX6_dry 32 = .ok (.invokevirtual 91, 3) := by decide +kernel
theorem dX6_dry_35 : decode cX6_dry 35 = .ok (.iload_n 1, 1) := by decide +kernel
theorem dX6_dry_36 : decode cX6_dry 36 = .ok (.invokestatic 177, 3) := by decide +kernel
theorem dX6_dry_39 : decode cX6_dry 39 = .ok (.ifCond .ne 5, 3) := by decide +kernel
theorem dX6_dry_42 : decode cX6_dry 42 = .ok (.iload_n 2, 1) := by decide +kernel
theorem dX6_dry_43 : decode cX6_dry 43 = .ok (.ireturn, 1) := by decide +kernel
theorem dX6_dry_44 : decode cX6_dry 44 = .ok (.aload_n 0, 1) := by decide +kernel
theorem dX6_dry_45 : decode cX6_dry 45 = .ok (.getfield 32, 3) := by decide +kernel
theorem dX6_dry_48 : decode cX6_dry 48 = .ok (.invokevirtual 161, 3) := by decide +kernel
theorem dX6_dry_51 : decode cX6_dry 51 = .ok (.pop, 1) := by decide +kernel
theorem dX6_dry_52 : decode cX6_dry 52 = .ok (.iinc 2 1, 3) := by decide +kernel
theorem dX6_dry_55 : decode cX6_dry 55 = .ok (.goto (-33), 3) := by decide +kernel
theorem dX6_dry_58 : decode cX6_dry 58 = .ok (.bipush (-9), 2) := by decide +kernel
theorem dX6_dry_60 : decode cX6_dry 60 = .ok (.ireturn, 1) := by decide +kernel
theorem dX6_asked_0 : decode cX6_asked 0 = .ok (.iload_n 1, 1) := by decide +kernel
theorem dX6_asked_1 : decode cX6_asked 1 = .ok (.invokestatic 174, 3) := by decide +kernel
theorem dX6_asked_4 : decode cX6_asked 4 = .ok (.ifCond .ne 6, 3) := by decide +kernel
theorem dX6_asked_7 : decode cX6_asked 7 = .ok (.bipush (-2), 2) := by decide +kernel
theorem dX6_asked_9 : decode cX6_asked 9 = .ok (.ireturn, 1) := by decide +kernel
theorem dX6_asked_10 : decode cX6_asked 10 = .ok (.iconst 0, 1) := by decide +kernel
theorem dX6_asked_11 : decode cX6_asked 11 = .ok (.istore_n 2, 1) := by decide +kernel
theorem dX6_asked_12 : decode cX6_asked 12 = .ok (.aload_n 0, 1) := by decide +kernel
theorem dX6_asked_13 : decode cX6_asked 13 = .ok (.iload_n 2, 1) := by decide +kernel
theorem dX6_asked_14 : decode cX6_asked 14 = .ok (.invokevirtual 181, 3) := by decide +kernel
theorem dX6_asked_17 : decode cX6_asked 17 = .ok (.istore_n 3, 1) := by decide +kernel
theorem dX6_asked_18 : decode cX6_asked 18 = .ok (.iconst 1, 1) := by decide +kernel
theorem dX6_asked_19 : decode cX6_asked 19 = .ok (.istore 4, 2) := by decide +kernel
theorem dX6_asked_21 : decode cX6_asked 21 = .ok (.iload 4, 2) := by decide +kernel
theorem dX6_asked_23 : decode cX6_asked 23 = .ok (.bipush 32, 2) := by decide +kernel
theorem dX6_asked_25 : decode cX6_asked 25 = .ok (.if_icmp .ge 74, 3) := by decide +kernel
theorem dX6_asked_28 : decode cX6_asked 28 = .ok (.iload 4, 2) := by decide +kernel
theorem dX6_asked_30 : decode cX6_asked 30 = .ok (.aload_n 0, 1) := by decide +kernel
theorem dX6_asked_31 : decode cX6_asked 31 = .ok (.getfield 28, 3) := by decide +kernel
theorem dX6_asked_34 : decode cX6_asked 34 = .ok (.invokevirtual 184, 3) := by decide +kernel
theorem dX6_asked_37 : decode cX6_asked 37 = .ok (.invokestatic 187, 3) := by decide +kernel
theorem dX6_asked_40 : decode cX6_asked 40 = .ok (.ifCond .eq 53, 3) := by decide +kernel
theorem dX6_asked_43 : decode cX6_asked 43 = .ok (.aload_n 0, 1) := by decide +kernel
theorem dX6_asked_44 : decode cX6_asked 44 = .ok (.iload 4, 2) := by decide +kernel
theorem dX6_asked_46 : decode cX6_asked 46 = .ok (.invokevirtual 181, 3) := by decide +kernel
theorem dX6_asked_49 : decode cX6_asked 49 = .ok (.istore 5, 2) := by decide +kernel
theorem dX6_asked_51 : decode cX6_asked 51 = .ok (.iload 4, 2) := by decide +kernel
theorem dX6_asked_53 : decode cX6_asked 53 = .ok (.invokestatic 190, 3) := by decide +kernel
theorem dX6_asked_56 : decode cX6_asked 56 = .ok (.iload_n 2, 1) := by decide +kernel
theorem dX6_asked_57 : decode cX6_asked 57 = .ok (.invokestatic 190, 3) := by decide +kernel
theorem dX6_asked_60 : decode cX6_asked 60 = .ok (.if_icmp .ge 7, 3) := by decide +kernel
theorem dX6_asked_63 : decode cX6_asked 63 = .ok (.iconst 1, 1) := by decide +kernel
theorem dX6_asked_64 : decode cX6_asked 64 = .ok (.goto 4, 3) := by decide +kernel
theorem dX6_asked_67 : decode cX6_asked 67 = .ok (.iconst 0, 1) := by decide +kernel
theorem dX6_asked_68 : decode cX6_asked 68 = .ok (.istore 6, 2) := by decide +kernel
theorem dX6_asked_70 : decode cX6_asked 70 = .ok (.iload 5, 2) := by decide +kernel
theorem dX6_asked_72 : decode cX6_asked 72 = .ok (.iload_n 3, 1) := by decide +kernel
theorem dX6_asked_73 : decode cX6_asked 73 = .ok (.if_icmp .gt 14, 3) := by decide +kernel
theorem dX6_asked_76 : decode cX6_asked 76 = .ok (.iload 5, 2) := by decide +kernel
theorem dX6_asked_78 : decode cX6_asked 78 = .ok (.iload_n 3, 1) := by decide +kernel
theorem dX6_asked_79 : decode cX6_asked 79 = .ok (.if_icmp .ne 14, 3) := by decide +kernel
theorem dX6_asked_82 : decode cX6_asked 82 = .ok (.iload 6, 2) := by decide +kernel
theorem dX6_asked_84 : decode cX6_asked 84 = .ok (.ifCond .eq 9, 3) := by decide +kernel
theorem dX6_asked_87 : decode cX6_asked 87 = .ok (.iload 4, 2) := by decide +kernel
theorem dX6_asked_89 : decode cX6_asked 89 = .ok (.istore_n 2, 1) := by decide +kernel
theorem dX6_asked_90 : decode cX6_asked 90 = .ok (.iload 5, 2) := by decide +kernel
theorem dX6_asked_92 : decode cX6_asked 92 = .ok (.istore_n 3, 1) := by decide +kernel
theorem dX6_asked_93 : decode cX6_asked 93 = .ok (.iinc 4 1, 3) := by decide +kernel
theorem dX6_asked_96 : decode cX6_asked 96 = .ok (.goto (-75), 3) := by decide +kernel
theorem dX6_asked_99 : decode cX6_asked 99 = .ok (.iload_n 1, 1) := by decide +kernel
theorem dX6_asked_100 : decode cX6_asked 100 = .ok (.ifCond .ne 7, 3) := by decide +kernel
theorem dX6_asked_103 : decode cX6_asked 103 = .ok (.iload_n 2, 1) := by decide +kernel
theorem dX6_asked_104 : decode cX6_asked 104 = .ok (.goto 4, 3) := by decide +kernel
theorem dX6_asked_107 : decode cX6_asked 107 = .ok (.iload_n 3, 1) := by decide +kernel
theorem dX6_asked_108 : decode cX6_asked 108 = .ok (.ireturn, 1) := by decide +kernel
theorem dX6_sent_0 : decode cX6_sent 0 = .ok (.aload_n 0, 1) := by decide +kernel
theorem dX6_sent_1 : decode cX6_sent 1 = .ok (.getfield 19, 3) := by decide +kernel
theorem dX6_sent_4 : decode cX6_sent 4 = .ok (.iload_n 1, 1) := by decide +kernel
theorem dX6_sent_5 : decode cX6_sent 5 = .ok (.invokevirtual 105, 3) := by decide +kernel
theorem dX6_sent_8 : decode cX6_sent 8 = .ok (.ifCond .ne 5, 3) := by decide +kernel
theorem dX6_sent_11 : decode cX6_sent 11 = .ok (.iconst (-1), 1) := by decide +kernel
theorem dX6_sent_12 : decode cX6_sent 12 = .ok (.ireturn, 1) := by decide +kernel
theorem dX6_sent_13 : decode cX6_sent 13 = .ok (.iload_n 2, 1) := by decide +kernel
theorem dX6_sent_14 : decode cX6_sent 14 = .ok (.invokestatic 174, 3) := by decide +kernel
theorem dX6_sent_17 : decode cX6_sent 17 = .ok (.ifCond .ne 6, 3) := by decide +kernel
theorem dX6_sent_20 : decode cX6_sent 20 = .ok (.bipush (-2), 2) := by decide +kernel
theorem dX6_sent_22 : decode cX6_sent 22 = .ok (.ireturn, 1) := by decide +kernel
theorem dX6_sent_23 : decode cX6_sent 23 = .ok (.aload_n 0, 1) := by decide +kernel
theorem dX6_sent_24 : decode cX6_sent 24 = .ok (.getfield 28, 3) := by decide +kernel
theorem dX6_sent_27 : decode cX6_sent 27 = .ok (.iload_n 1, 1) := by decide +kernel
theorem dX6_sent_28 : decode cX6_sent 28 = .ok (.invokevirtual 114, 3) := by decide +kernel
theorem dX6_sent_31 : decode cX6_sent 31 = .ok (.ifCond .eq 6, 3) := by decide +kernel
theorem dX6_sent_34 : decode cX6_sent 34 = .ok (.bipush (-3), 2) := by decide +kernel
theorem dX6_sent_36 : decode cX6_sent 36 = .ok (.ireturn, 1) := by decide +kernel
theorem dX6_sent_37 : decode cX6_sent 37 = .ok (.iconst 0, 1) := by decide +kernel
theorem dX6_sent_38 : decode cX6_sent 38 = .ok (.istore_n 3, 1) := by decide +kernel
theorem dX6_sent_39 : decode cX6_sent 39 = .ok (.aload_n 0, 1) := by decide +kernel
theorem dX6_sent_40 : decode cX6_sent 40 = .ok (.iload_n 1, 1) := by decide +kernel
theorem dX6_sent_41 : decode cX6_sent 41 = .ok (.iload_n 3, 1) := by decide +kernel
theorem dX6_sent_42 : decode cX6_sent 42 = .ok (.invokevirtual 195, 3) := by decide +kernel
theorem dX6_sent_45 : decode cX6_sent 45 = .ok (.istore 4, 2) := by decide +kernel
theorem dX6_sent_47 : decode cX6_sent 47 = .ok (.iconst 1, 1) := by decide +kernel
theorem dX6_sent_48 : decode cX6_sent 48 = .ok (.istore 5, 2) := by decide +kernel
theorem dX6_sent_50 : decode cX6_sent 50 = .ok (.iload 5, 2) := by decide +kernel
theorem dX6_sent_52 : decode cX6_sent 52 = .ok (.bipush 6, 2) := by decide +kernel
theorem dX6_sent_54 : decode cX6_sent 54 = .ok (.if_icmp .ge 32, 3) := by decide +kernel
theorem dX6_sent_57 : decode cX6_sent 57 = .ok (.aload_n 0, 1) := by decide +kernel
theorem dX6_sent_58 : decode cX6_sent 58 = .ok (.iload_n 1, 1) := by decide +kernel
theorem dX6_sent_59 : decode cX6_sent 59 = .ok (.iload 5, 2) := by decide +kernel
theorem dX6_sent_61 : decode cX6_sent 61 = .ok (.invokevirtual 195, 3) := by decide +kernel
theorem dX6_sent_64 : decode cX6_sent 64 = .ok (.istore 6, 2) := by decide +kernel
theorem dX6_sent_66 : decode cX6_sent 66 = .ok (.iload 6, 2) := by decide +kernel
theorem dX6_sent_68 : decode cX6_sent 68 = .ok (.iload 4, 2) := by decide +kernel
theorem dX6_sent_70 : decode cX6_sent 70 = .ok (.if_icmp .le 10, 3) := by decide +kernel
theorem dX6_sent_73 : decode cX6_sent 73 = .ok (.iload 5, 2) := by decide +kernel
theorem dX6_sent_75 : decode cX6_sent 75 = .ok (.istore_n 3, 1) := by decide +kernel
theorem dX6_sent_76 : decode cX6_sent 76 = .ok (.iload 6, 2) := by decide +kernel
theorem dX6_sent_78 : decode cX6_sent 78 = .ok (.istore 4, 2) := by decide +kernel
theorem dX6_sent_80 : decode cX6_sent 80 = .ok (.iinc 5 1, 3) := by decide +kernel
theorem dX6_sent_83 : decode cX6_sent 83 = .ok (.goto (-33), 3) := by decide +kernel
theorem dX6_sent_86 : decode cX6_sent 86 = .ok (.iload_n 2, 1) := by decide +kernel
theorem dX6_sent_87 : decode cX6_sent 87 = .ok (.ifCond .ne 7, 3) := by decide +kernel
theorem dX6_sent_90 : decode cX6_sent 90 = .ok (.iload_n 3, 1) := by decide +kernel
theorem dX6_sent_91 : decode cX6_sent 91 = .ok (.goto 5, 3) := by decide +kernel
theorem dX6_sent_94 : decode cX6_sent 94 = .ok (.iload 4, 2) := by decide +kernel
theorem dX6_sent_96 : decode cX6_sent 96 = .ok (.ireturn, 1) := by decide +kernel
theorem dX6_judge_0 : decode cX6_judge 0 = .ok (.iload_n 1, 1) := by decide +kernel
theorem dX6_judge_1 : decode cX6_judge 1 = .ok (.iconst 1, 1) := by decide +kernel
theorem dX6_judge_2 : decode cX6_judge 2 = .ok (.if_icmp .lt 24, 3) := by decide +kernel
theorem dX6_judge_5 : decode cX6_judge 5 = .ok (.iload_n 1, 1) := by decide +kernel
theorem dX6_judge_6 : decode cX6_judge 6 = .ok (.iconst 4, 1) := by decide +kernel
theorem dX6_judge_7 : decode cX6_judge 7 = .ok (.if_icmp .gt 19, 3) := by decide +kernel
theorem dX6_judge_10 : decode cX6_judge 10 = .ok (.lload_n 2, 1) := by decide +kernel
theorem dX6_judge_11 : decode cX6_judge 11 = .ok (.lconst 0, 1) := by decide +kernel
theorem dX6_judge_12 : decode cX6_judge 12 = .ok (.lcmp, 1) := by decide +kernel
theorem dX6_judge_13 : decode cX6_judge 13 = .ok (.ifCond .lt 13, 3) := by decide +kernel
theorem dX6_judge_16 : decode cX6_judge 16 = .ok (.lload_n 2, 1) := by decide +kernel
theorem dX6_judge_17 : decode cX6_judge 17 = .ok (.iload_n 1, 1) := by decide +kernel
theorem dX6_judge_18 : decode cX6_judge 18 = .ok (.invokestatic 199, 3) := by decide +kernel
theorem dX6_judge_21 : decode cX6_judge 21 = .ok (.lconst 0, 1) := by decide +kernel
theorem dX6_judge_22 : decode cX6_judge 22 = .ok (.lcmp, 1) := by decide +kernel
theorem dX6_judge_23 : decode cX6_judge 23 = .ok (.ifCond .eq 6, 3) := by decide +kernel
theorem dX6_judge_26 : decode cX6_judge 26 = .ok (.bipush (-2), 2) := by decide +kernel
theorem dX6_judge_28 : decode cX6_judge 28 = .ok (.ireturn, 1) := by decide +kernel
theorem dX6_judge_29 : decode cX6_judge 29 = .ok (.aload_n 0, 1) := by decide +kernel
theorem dX6_judge_30 : decode cX6_judge 30 = .ok (.getfield 32, 3) := by decide +kernel
theorem dX6_judge_33 : decode cX6_judge 33 = .ok (.aload_n 0, 1) := by decide +kernel
theorem dX6_judge_34 : decode cX6_judge 34 = .ok (.getfield 28, 3) := by decide +kernel
theorem dX6_judge_37 : decode cX6_judge 37 = .ok (.invokevirtual 167, 3) := by decide +kernel
theorem dX6_judge_40 : decode cX6_judge 40 = .ok (.iconst 0, 1) := by decide +kernel
theorem dX6_judge_41 : decode cX6_judge 41 = .ok (.istore 4, 2) := by decide +kernel
theorem dX6_judge_43 : decode cX6_judge 43 = .ok (.iload 4, 2) := by decide +kernel
theorem dX6_judge_45 : decode cX6_judge 45 = .ok (.iload_n 1, 1) := by decide +kernel
theorem dX6_judge_46 : decode cX6_judge 46 = .ok (.if_icmp .ge 54, 3) := by decide +kernel
theorem dX6_judge_49 : decode cX6_judge 49 = .ok (.lload_n 2, 1) := by decide +kernel
theorem dX6_judge_50 : decode cX6_judge 50 = .ok (.iload_n 1, 1) := by decide +kernel
theorem dX6_judge_51 : decode cX6_judge 51 = .ok (.iconst 1, 1) := by decide +kernel
theorem dX6_judge_52 : decode cX6_judge 52 = .ok (.isub, 1) := by decide +kernel
theorem dX6_judge_53 : decode cX6_judge 53 = .ok (.iload 4, 2) := by decide +kernel
theorem dX6_judge_55 : decode cX6_judge 55 = .ok (.isub, 1) := by decide +kernel
theorem dX6_judge_56 : decode cX6_judge 56 = .ok (.invokestatic 199, 3) := by decide +kernel
theorem dX6_judge_59 : decode cX6_judge 59 = .ok (.ldc2_w 203, 3) := by decide +kernel
theorem dX6_judge_62 : decode cX6_judge 62 = .ok (.lrem, 1) := by decide +kernel
theorem dX6_judge_63 : decode cX6_judge 63 = .ok (.l2i, 1) := by decide +kernel
theorem dX6_judge_64 : decode cX6_judge 64 = .ok (.istore 5, 2) := by decide +kernel
theorem dX6_judge_66 : decode cX6_judge 66 = .ok (.aload_n 0, 1) := by decide +kernel
theorem dX6_judge_67 : decode cX6_judge 67 = .ok (.iload 5, 2) := by decide +kernel
theorem dX6_judge_69 : decode cX6_judge 69 = .ok (.bipush 100, 2) := by decide +kernel
theorem dX6_judge_71 : decode cX6_judge 71 = .ok (.idiv, 1) := by decide +kernel
theorem dX6_judge_72 : decode cX6_judge 72 = .ok (.iload 5, 2) := by decide +kernel
theorem dX6_judge_74 : decode cX6_judge 74 = .ok (.bipush 10, 2) := by decide +kernel
theorem dX6_judge_76 : decode cX6_judge 76 = .ok (.idiv, 1) := by decide +kernel
theorem dX6_judge_77 : decode cX6_judge 77 = .ok (.bipush 10, 2) := by decide +kernel
theorem dX6_judge_79 : decode cX6_judge 79 = .ok (.irem, 1) := by decide +kernel
theorem dX6_judge_80 : decode cX6_judge 80 = .ok (.iload 5, 2) := by decide +kernel
theorem dX6_judge_82 : decode cX6_judge 82 = .ok (.bipush 10, 2) := by decide +kernel
theorem dX6_judge_84 : decode cX6_judge 84 = .ok (.irem, 1) := by decide +kernel
theorem dX6_judge_85 : decode cX6_judge 85 = .ok (.invokevirtual 205, 3) := by decide +kernel
theorem dX6_judge_88 : decode cX6_judge 88 = .ok (.ifCond .ne 6, 3) := by decide +kernel
theorem dX6_judge_91 : decode cX6_judge 91 = .ok (.iload 4, 2) := by decide +kernel
theorem dX6_judge_93 : decode cX6_judge 93 = .ok (.ireturn, 1) := by decide +kernel
theorem dX6_judge_94 : decode cX6_judge 94 = .ok (.iinc 4 1, 3) := by decide +kernel
theorem dX6_judge_97 : decode cX6_judge 97 = .ok (.goto (-54), 3) := by decide +kernel
theorem dX6_judge_100 : decode cX6_judge 100 = .ok (.bipush (-9), 2) := by decide +kernel
theorem dX6_judge_102 : decode cX6_judge 102 = .ok (.ireturn, 1) := by decide +kernel
theorem dX6_share_0 : decode cX6_share 0 = .ok (.aload_n 0, 1) := by decide +kernel
theorem dX6_share_1 : decode cX6_share 1 = .ok (.getfield 19, 3) := by decide +kernel
theorem dX6_share_4 : decode cX6_share 4 = .ok (.iload_n 1, 1) := by decide +kernel
theorem dX6_share_5 : decode cX6_share 5 = .ok (.invokevirtual 105, 3) := by decide +kernel
theorem dX6_share_8 : decode cX6_share 8 = .ok (.ifCond .ne 5, 3) := by decide +kernel
theorem dX6_share_11 : decode cX6_share 11 = .ok (.iconst (-1), 1) := by decide +kernel
theorem dX6_share_12 : decode cX6_share 12 = .ok (.ireturn, 1) := by decide +kernel
theorem dX6_share_13 : decode cX6_share 13 = .ok (.aload_n 0, 1) := by decide +kernel
theorem dX6_share_14 : decode cX6_share 14 = .ok (.getfield 19, 3) := by decide +kernel
theorem dX6_share_17 : decode cX6_share 17 = .ok (.invokevirtual 79, 3) := by decide +kernel
theorem dX6_share_20 : decode cX6_share 20 = .ok (.istore_n 3, 1) := by decide +kernel
theorem dX6_share_21 : decode cX6_share 21 = .ok (.iconst 0, 1) := by decide +kernel
theorem dX6_share_22 : decode cX6_share 22 = .ok (.istore 4, 2) := by decide +kernel
theorem dX6_share_24 : decode cX6_share 24 = .ok (.iconst 0, 1) := by decide +kernel
theorem dX6_share_25 : decode cX6_share 25 = .ok (.istore 5, 2) := by decide +kernel
theorem dX6_share_27 : decode cX6_share 27 = .ok (.iload 5, 2) := by decide +kernel
theorem dX6_share_29 : decode cX6_share 29 = .ok (.iconst 1, 1) := by decide +kernel
theorem dX6_share_30 : decode cX6_share 30 = .ok (.iload_n 3, 1) := by decide +kernel
theorem dX6_share_31 : decode cX6_share 31 = .ok (.ishl, 1) := by decide +kernel
theorem dX6_share_32 : decode cX6_share 32 = .ok (.if_icmp .ge 67, 3) := by decide +kernel
theorem dX6_share_35 : decode cX6_share 35 = .ok (.iload 5, 2) := by decide +kernel
theorem dX6_share_37 : decode cX6_share 37 = .ok (.iload_n 1, 1) := by decide +kernel
theorem dX6_share_38 : decode cX6_share 38 = .ok (.invokestatic 177, 3) := by decide +kernel
theorem dX6_share_41 : decode cX6_share 41 = .ok (.ifCond .ne 52, 3) := by decide +kernel
theorem dX6_share_44 : decode cX6_share 44 = .ok (.iload 5, 2) := by decide +kernel
theorem dX6_share_46 : decode cX6_share 46 = .ok (.invokestatic 190, 3) := by decide +kernel
theorem dX6_share_49 : decode cX6_share 49 = .ok (.istore 6, 2) := by decide +kernel
theorem dX6_share_51 : decode cX6_share 51 = .ok (.aload_n 0, 1) := by decide +kernel
theorem dX6_share_52 : decode cX6_share 52 = .ok (.iload 5, 2) := by decide +kernel
theorem dX6_share_54 : decode cX6_share 54 = .ok (.iconst 1, 1) := by decide +kernel
theorem dX6_share_55 : decode cX6_share 55 = .ok (.iload_n 1, 1) := by decide +kernel
theorem dX6_share_56 : decode cX6_share 56 = .ok (.ishl, 1) := by decide +kernel
theorem dX6_share_57 : decode cX6_share 57 = .ok (.ior, 1) := by decide +kernel
theorem dX6_share_58 : decode cX6_share 58 = .ok (.invokevirtual 209, 3) := by decide +kernel
theorem dX6_share_61 : decode cX6_share 61 = .ok (.aload_n 0, 1) := by decide +kernel
theorem dX6_share_62 : decode cX6_share 62 = .ok (.iload 5, 2) := by decide +kernel
theorem dX6_share_64 : decode cX6_share 64 = .ok (.invokevirtual 209, 3) := by decide +kernel
theorem dX6_share_67 : decode cX6_share 67 = .ok (.isub, 1) := by decide +kernel
theorem dX6_share_68 : decode cX6_share 68 = .ok (.istore 7, 2) := by decide +kernel
theorem dX6_share_70 : decode cX6_share 70 = .ok (.iload 4, 2) := by decide +kernel
theorem dX6_share_72 : decode cX6_share 72 = .ok (.iload 7, 2) := by decide +kernel
theorem dX6_share_74 : decode cX6_share 74 = .ok (.iload 6, 2) := by decide +kernel
theorem dX6_share_76 : decode cX6_share 76 = .ok (.invokestatic 212, 3) := by decide +kernel
theorem dX6_share_79 : decode cX6_share 79 = .ok (.imul, 1) := by decide +kernel
theorem dX6_share_80 : decode cX6_share 80 = .ok (.iload_n 3, 1) := by decide +kernel
theorem dX6_share_81 : decode cX6_share 81 = .ok (.iconst 1, 1) := by decide +kernel
theorem dX6_share_82 : decode cX6_share 82 = .ok (.isub, 1) := by decide +kernel
theorem dX6_share_83 : decode cX6_share 83 = .ok (.iload 6, 2) := by decide +kernel
theorem dX6_share_85 : decode cX6_share 85 = .ok (.isub, 1) := by decide +kernel
theorem dX6_share_86 : decode cX6_share 86 = .ok (.invokestatic 212, 3) := by decide +kernel
theorem dX6_share_89 : decode cX6_share 89 = .ok (.imul, 1) := by decide +kernel
theorem dX6_share_90 : decode cX6_share 90 = .ok (.iadd, 1) := by decide +kernel
theorem dX6_share_91 : decode cX6_share 91 = .ok (.istore 4, 2) := by decide +kernel
theorem dX6_share_93 : decode cX6_share 93 = .ok (.iinc 5 1, 3) := by decide +kernel
theorem dX6_share_96 : decode cX6_share 96 = .ok (.goto (-69), 3) := by decide +kernel
theorem dX6_share_99 : decode cX6_share 99 = .ok (.iload 4, 2) := by decide +kernel
theorem dX6_share_101 : decode cX6_share 101 = .ok (.iload_n 3, 1) := by decide +kernel
theorem dX6_share_102 : decode cX6_share 102 = .ok (.invokestatic 212, 3) := by decide +kernel
theorem dX6_share_105 : decode cX6_share 105 = .ok (.iload_n 2, 1) := by decide +kernel
theorem dX6_share_106 : decode cX6_share 106 = .ok (.invokestatic 215, 3) := by decide +kernel
theorem dX6_share_109 : decode cX6_share 109 = .ok (.ireturn, 1) := by decide +kernel
theorem dX6_feel_0 : decode cX6_feel 0 = .ok (.iload_n 1, 1) := by decide +kernel
theorem dX6_feel_1 : decode cX6_feel 1 = .ok (.invokestatic 132, 3) := by decide +kernel
theorem dX6_feel_4 : decode cX6_feel 4 = .ok (.ifCond .ne 5, 3) := by decide +kernel
theorem dX6_feel_7 : decode cX6_feel 7 = .ok (.iconst (-1), 1) := by decide +kernel
theorem dX6_feel_8 : decode cX6_feel 8 = .ok (.ireturn, 1) := by decide +kernel
theorem dX6_feel_9 : decode cX6_feel 9 = .ok (.iload_n 2, 1) := by decide +kernel
theorem dX6_feel_10 : decode cX6_feel 10 = .ok (.ifCond .lt 16, 3) := by decide +kernel
theorem dX6_feel_13 : decode cX6_feel 13 = .ok (.iload_n 2, 1) := by decide +kernel
theorem dX6_feel_14 : decode cX6_feel 14 = .ok (.bipush 9, 2) := by decide +kernel
theorem dX6_feel_16 : decode cX6_feel 16 = .ok (.if_icmp .gt 10, 3) := by decide +kernel
theorem dX6_feel_19 : decode cX6_feel 19 = .ok (.iload_n 3, 1) := by decide +kernel
theorem dX6_feel_20 : decode cX6_feel 20 = .ok (.invokestatic 174, 3) := by decide +kernel
theorem dX6_feel_23 : decode cX6_feel 23 = .ok (.ifCond .ne 6, 3) := by decide +kernel
theorem dX6_feel_26 : decode cX6_feel 26 = .ok (.bipush (-2), 2) := by decide +kernel
theorem dX6_feel_28 : decode cX6_feel 28 = .ok (.ireturn, 1) := by decide +kernel
theorem dX6_feel_29 : decode cX6_feel 29 = .ok (.aload_n 0, 1) := by decide +kernel
theorem dX6_feel_30 : decode cX6_feel 30 = .ok (.getfield 52, 3) := by decide +kernel
theorem dX6_feel_33 : decode cX6_feel 33 = .ok (.iload_n 1, 1) := by decide +kernel
theorem dX6_feel_34 : decode cX6_feel 34 = .ok (.iload_n 2, 1) := by decide +kernel
theorem dX6_feel_35 : decode cX6_feel 35 = .ok (.iload_n 3, 1) := by decide +kernel
theorem dX6_feel_36 : decode cX6_feel 36 = .ok (.iconst 1, 1) := by decide +kernel
theorem dX6_feel_37 : decode cX6_feel 37 = .ok (.if_icmp .ne 7, 3) := by decide +kernel
theorem dX6_feel_40 : decode cX6_feel 40 = .ok (.iconst 1, 1) := by decide +kernel
theorem dX6_feel_41 : decode cX6_feel 41 = .ok (.goto 4, 3) := by decide +kernel
theorem dX6_feel_44 : decode cX6_feel 44 = .ok (.iconst 0, 1) := by decide +kernel
theorem dX6_feel_45 : decode cX6_feel 45 = .ok (.invokevirtual 219, 3) := by decide +kernel
theorem dX6_feel_48 : decode cX6_feel 48 = .ok (.ifCond .eq 13, 3) := by decide +kernel
theorem dX6_feel_51 : decode cX6_feel 51 = .ok (.aload_n 0, 1) := by decide +kernel
theorem dX6_feel_52 : decode cX6_feel 52 = .ok (.getfield 52, 3) := by decide +kernel
theorem dX6_feel_55 : decode cX6_feel 55 = .ok (.invokevirtual 104, 3) := by decide +kernel
theorem dX6_feel_58 : decode cX6_feel 58 = .ok (.goto 5, 3) := by decide +kernel
theorem dX6_feel_61 : decode cX6_feel 61 = .ok (.bipush (-4), 2) := by decide +kernel
theorem dX6_feel_63 : decode cX6_feel 63 = .ok (.ireturn, 1) := by decide +kernel
theorem dX6_unfeel_0 : decode cX6_unfeel 0 = .ok (.aload_n 0, 1) := by decide +kernel
theorem dX6_unfeel_1 : decode cX6_unfeel 1 = .ok (.getfield 52, 3) := by decide +kernel
theorem dX6_unfeel_4 : decode cX6_unfeel 4 = .ok (.invokevirtual 104, 3) := by decide +kernel
theorem dX6_unfeel_7 : decode cX6_unfeel 7 = .ok (.istore_n 1, 1) := by decide +kernel
theorem dX6_unfeel_8 : decode cX6_unfeel 8 = .ok (.aload_n 0, 1) := by decide +kernel
theorem dX6_unfeel_9 : decode cX6_unfeel 9 = .ok (.getfield 52, 3) := by decide +kernel
theorem dX6_unfeel_12 : decode cX6_unfeel 12 = .ok (.invokevirtual 222, 3) := by decide +kernel
theorem dX6_unfeel_15 : decode cX6_unfeel 15 = .ok (.iload_n 1, 1) := by decide +kernel
theorem dX6_unfeel_16 : decode cX6_unfeel 16 = .ok (.ireturn, 1) := by decide +kernel
theorem dX6_may_0 : decode cX6_may 0 = .ok (.iload_n 1, 1) := by decide +kernel
theorem dX6_may_1 : decode cX6_may 1 = .ok (.invokestatic 174, 3) := by decide +kernel
theorem dX6_may_4 : decode cX6_may 4 = .ok (.ifCond .ne 6, 3) := by decide +kernel
theorem dX6_may_7 : decode cX6_may 7 = .ok (.bipush (-2), 2) := by decide +kernel
theorem dX6_may_9 : decode cX6_may 9 = .ok (.ireturn, 1) := by decide +kernel
theorem dX6_may_10 : decode cX6_may 10 = .ok (.iconst 0, 1) := by decide +kernel
theorem dX6_may_11 : decode cX6_may 11 = .ok (.istore_n 2, 1) := by decide +kernel
theorem dX6_may_12 : decode cX6_may 12 = .ok (.bipush (-9), 2) := by decide +kernel
theorem dX6_may_14 : decode cX6_may 14 = .ok (.istore_n 3, 1) := by decide +kernel
theorem dX6_may_15 : decode cX6_may 15 = .ok (.iconst 0, 1) := by decide +kernel
theorem dX6_may_16 : decode cX6_may 16 = .ok (.istore 4, 2) := by decide +kernel
theorem dX6_may_18 : decode cX6_may 18 = .ok (.iload 4, 2) := by decide +kernel
theorem dX6_may_20 : decode cX6_may 20 = .ok (.iconst 4, 1) := by decide +kernel
theorem dX6_may_21 : decode cX6_may 21 = .ok (.if_icmp .ge 83, 3) := by decide +kernel
theorem dX6_may_24 : decode cX6_may 24 = .ok (.iconst 0, 1) := by decide +kernel
theorem dX6_may_25 : decode cX6_may 25 = .ok (.istore 5, 2) := by decide +kernel
theorem dX6_may_27 : decode cX6_may 27 = .ok (.iload 5, 2) := by decide +kernel
theorem dX6_may_29 : decode cX6_may 29 = .ok (.bipush 6, 2) := by decide +kernel
theorem dX6_may_31 : decode cX6_may 31 = .ok (.if_icmp .ge 67, 3) := by decide +kernel
theorem dX6_may_34 : decode cX6_may 34 = .ok (.iconst 1, 1) := by decide +kernel
theorem dX6_may_35 : decode cX6_may 35 = .ok (.istore 6, 2) := by decide +kernel
theorem dX6_may_37 : decode cX6_may 37 = .ok (.iload 6, 2) := by decide +kernel
theorem dX6_may_39 : decode cX6_may 39 = .ok (.bipush 6, 2) := by decide +kernel
theorem dX6_may_41 : decode cX6_may 41 = .ok (.if_icmp .gt 51, 3) := by decide +kernel
theorem dX6_may_44 : decode cX6_may 44 = .ok (.aload_n 0, 1) := by decide +kernel
theorem dX6_may_45 : decode cX6_may 45 = .ok (.getfield 52, 3) := by decide +kernel
theorem dX6_may_48 : decode cX6_may 48 = .ok (.iload 4, 2) := by decide +kernel
theorem dX6_may_50 : decode cX6_may 50 = .ok (.iload 5, 2) := by decide +kernel
theorem dX6_may_52 : decode cX6_may 52 = .ok (.iload 6, 2) := by decide +kernel
theorem dX6_may_54 : decode cX6_may 54 = .ok (.invokevirtual 223, 3) := by decide +kernel
theorem dX6_may_57 : decode cX6_may 57 = .ok (.ifCond .eq 29, 3) := by decide +kernel
theorem dX6_may_60 : decode cX6_may 60 = .ok (.iload_n 2, 1) := by decide +kernel
theorem dX6_may_61 : decode cX6_may 61 = .ok (.ifCond .ne 20, 3) := by decide +kernel
theorem dX6_may_64 : decode cX6_may 64 = .ok (.bipush 100, 2) := by decide +kernel
theorem dX6_may_66 : decode cX6_may 66 = .ok (.iload 4, 2) := by decide +kernel
theorem dX6_may_68 : decode cX6_may 68 = .ok (.imul, 1) := by decide +kernel
theorem dX6_may_69 : decode cX6_may 69 = .ok (.bipush 10, 2) := by decide +kernel
theorem dX6_may_71 : decode cX6_may 71 = .ok (.iload 5, 2) := by decide +kernel
theorem dX6_may_73 : decode cX6_may 73 = .ok (.imul, 1) := by decide +kernel
theorem dX6_may_74 : decode cX6_may 74 = .ok (.iadd, 1) := by decide +kernel
theorem dX6_may_75 : decode cX6_may 75 = .ok (.iload 6, 2) := by decide +kernel
theorem dX6_may_77 : decode cX6_may 77 = .ok (.iadd, 1) := by decide +kernel
theorem dX6_may_78 : decode cX6_may 78 = .ok (.goto 4, 3) := by decide +kernel
theorem dX6_may_81 : decode cX6_may 81 = .ok (.iload_n 3, 1) := by decide +kernel
theorem dX6_may_82 : decode cX6_may 82 = .ok (.istore_n 3, 1) := by decide +kernel
theorem dX6_may_83 : decode cX6_may 83 = .ok (.iinc 2 1, 3) := by decide +kernel
theorem dX6_may_86 : decode cX6_may 86 = .ok (.iinc 6 1, 3) := by decide +kernel
theorem dX6_may_89 : decode cX6_may 89 = .ok (.goto (-52), 3) := by decide +kernel
theorem dX6_may_92 : decode cX6_may 92 = .ok (.iinc 5 1, 3) := by decide +kernel
theorem dX6_may_95 : decode cX6_may 95 = .ok (.goto (-68), 3) := by decide +kernel
theorem dX6_may_98 : decode cX6_may 98 = .ok (.iinc 4 1, 3) := by decide +kernel
theorem dX6_may_101 : decode cX6_may 101 = .ok (.goto (-83), 3) := by decide +kernel
theorem dX6_may_104 : decode cX6_may 104 = .ok (.iload_n 1, 1) := by decide +kernel
theorem dX6_may_105 : decode cX6_may 105 = .ok (.ifCond .ne 7, 3) := by decide +kernel
theorem dX6_may_108 : decode cX6_may 108 = .ok (.iload_n 2, 1) := by decide +kernel
theorem dX6_may_109 : decode cX6_may 109 = .ok (.goto 4, 3) := by decide +kernel
theorem dX6_may_112 : decode cX6_may 112 = .ok (.iload_n 3, 1) := by decide +kernel
theorem dX6_may_113 : decode cX6_may 113 = .ok (.ireturn, 1) := by decide +kernel
theorem dX6_rests_0 : decode cX6_rests 0 = .ok (.aload_n 0, 1) := by decide +kernel
theorem dX6_rests_1 : decode cX6_rests 1 = .ok (.getfield 19, 3) := by decide +kernel
theorem dX6_rests_4 : decode cX6_rests 4 = .ok (.iload_n 1, 1) := by decide +kernel
theorem dX6_rests_5 : decode cX6_rests 5 = .ok (.invokevirtual 105, 3) := by decide +kernel
theorem dX6_rests_8 : decode cX6_rests 8 = .ok (.ifCond .eq 14, 3) := by decide +kernel
theorem dX6_rests_11 : decode cX6_rests 11 = .ok (.aload_n 0, 1) := by decide +kernel
theorem dX6_rests_12 : decode cX6_rests 12 = .ok (.getfield 19, 3) := by decide +kernel
theorem dX6_rests_15 : decode cX6_rests 15 = .ok (.iload_n 2, 1) := by decide +kernel
theorem dX6_rests_16 : decode cX6_rests 16 = .ok (.invokevirtual 105, 3) := by decide +kernel
theorem dX6_rests_19 : decode cX6_rests 19 = .ok (.ifCond .ne 5, 3) := by decide +kernel
theorem dX6_rests_22 : decode cX6_rests 22 = .ok (.iconst (-1), 1) := by decide +kernel
theorem dX6_rests_23 : decode cX6_rests 23 = .ok (.ireturn, 1) := by decide +kernel
theorem dX6_rests_24 : decode cX6_rests 24 = .ok (.iload_n 1, 1) := by decide +kernel
theorem dX6_rests_25 : decode cX6_rests 25 = .ok (.iload_n 2, 1) := by decide +kernel
theorem dX6_rests_26 : decode cX6_rests 26 = .ok (.if_icmp .eq 10, 3) := by decide +kernel
theorem dX6_rests_29 : decode cX6_rests 29 = .ok (.iload_n 3, 1) := by decide +kernel
theorem dX6_rests_30 : decode cX6_rests 30 = .ok (.invokestatic 174, 3) := by decide +kernel
theorem dX6_rests_33 : decode cX6_rests 33 = .ok (.ifCond .ne 6, 3) := by decide +kernel
theorem dX6_rests_36 : decode cX6_rests 36 = .ok (.bipush (-2), 2) := by decide +kernel
theorem dX6_rests_38 : decode cX6_rests 38 = .ok (.ireturn, 1) := by decide +kernel
theorem dX6_rests_39 : decode cX6_rests 39 = .ok (.aload_n 0, 1) := by decide +kernel
theorem dX6_rests_40 : decode cX6_rests 40 = .ok (.getfield 28, 3) := by decide +kernel
theorem dX6_rests_43 : decode cX6_rests 43 = .ok (.iload_n 1, 1) := by decide +kernel
theorem dX6_rests_44 : decode cX6_rests 44 = .ok (.invokevirtual 114, 3) := by decide +kernel
theorem dX6_rests_47 : decode cX6_rests 47 = .ok (.ifCond .ne 14, 3) := by decide +kernel
theorem dX6_rests_50 : decode cX6_rests 50 = .ok (.aload_n 0, 1) := by decide +kernel
theorem dX6_rests_51 : decode cX6_rests 51 = .ok (.getfield 28, 3) := by decide +kernel
theorem dX6_rests_54 : decode cX6_rests 54 = .ok (.iload_n 2, 1) := by decide +kernel
theorem dX6_rests_55 : decode cX6_rests 55 = .ok (.invokevirtual 114, 3) := by decide +kernel
theorem dX6_rests_58 : decode cX6_rests 58 = .ok (.ifCond .eq 6, 3) := by decide +kernel
theorem dX6_rests_61 : decode cX6_rests 61 = .ok (.bipush (-3), 2) := by decide +kernel
theorem dX6_rests_63 : decode cX6_rests 63 = .ok (.ireturn, 1) := by decide +kernel
theorem dX6_rests_64 : decode cX6_rests 64 = .ok (.iconst 0, 1) := by decide +kernel
theorem dX6_rests_65 : decode cX6_rests 65 = .ok (.istore 4, 2) := by decide +kernel
theorem dX6_rests_67 : decode cX6_rests 67 = .ok (.bipush (-9), 2) := by decide +kernel
theorem dX6_rests_69 : decode cX6_rests 69 = .ok (.istore 5, 2) := by decide +kernel
theorem dX6_rests_71 : decode cX6_rests 71 = .ok (.iconst 0, 1) := by decide +kernel
theorem dX6_rests_72 : decode cX6_rests 72 = .ok (.istore 6, 2) := by decide +kernel
theorem dX6_rests_74 : decode cX6_rests 74 = .ok (.iload 6, 2) := by decide +kernel
theorem dX6_rests_76 : decode cX6_rests 76 = .ok (.iconst 4, 1) := by decide +kernel
theorem dX6_rests_77 : decode cX6_rests 77 = .ok (.if_icmp .ge 90, 3) := by decide +kernel
theorem dX6_rests_80 : decode cX6_rests 80 = .ok (.iload 6, 2) := by decide +kernel
theorem dX6_rests_82 : decode cX6_rests 82 = .ok (.iconst 2, 1) := by decide +kernel
theorem dX6_rests_83 : decode cX6_rests 83 = .ok (.if_icmp .lt 7, 3) := by decide +kernel
theorem dX6_rests_86 : decode cX6_rests 86 = .ok (.iconst 1, 1) := by decide +kernel
theorem dX6_rests_87 : decode cX6_rests 87 = .ok (.goto 4, 3) := by decide +kernel
theorem dX6_rests_90 : decode cX6_rests 90 = .ok (.iconst 0, 1) := by decide +kernel
theorem dX6_rests_91 : decode cX6_rests 91 = .ok (.istore 7, 2) := by decide +kernel
theorem dX6_rests_93 : decode cX6_rests 93 = .ok (.iload 6, 2) := by decide +kernel
theorem dX6_rests_95 : decode cX6_rests 95 = .ok (.iconst 2, 1) := by decide +kernel
theorem dX6_rests_96 : decode cX6_rests 96 = .ok (.irem, 1) := by decide +kernel
theorem dX6_rests_97 : decode cX6_rests 97 = .ok (.iconst 1, 1) := by decide +kernel
theorem dX6_rests_98 : decode cX6_rests 98 = .ok (.if_icmp .ne 7, 3) := by decide +kernel
theorem dX6_rests_101 : decode cX6_rests 101 = .ok (.iconst 1, 1) := by decide +kernel
theorem dX6_rests_102 : decode cX6_rests 102 = .ok (.goto 4, 3) := by decide +kernel
theorem dX6_rests_105 : decode cX6_rests 105 = .ok (.iconst 0, 1) := by decide +kernel
theorem dX6_rests_106 : decode cX6_rests 106 = .ok (.istore 8, 2) := by decide +kernel
theorem dX6_rests_108 : decode cX6_rests 108 = .ok (.aload_n 0, 1) := by decide +kernel
theorem dX6_rests_109 : decode cX6_rests 109 = .ok (.iload_n 1, 1) := by decide +kernel
theorem dX6_rests_110 : decode cX6_rests 110 = .ok (.iload 7, 2) := by decide +kernel
theorem dX6_rests_112 : decode cX6_rests 112 = .ok (.iload_n 2, 1) := by decide +kernel
theorem dX6_rests_113 : decode cX6_rests 113 = .ok (.iload 8, 2) := by decide +kernel
theorem dX6_rests_115 : decode cX6_rests 115 = .ok (.invokevirtual 226, 3) := by decide +kernel
theorem dX6_rests_118 : decode cX6_rests 118 = .ok (.ifCond .eq 43, 3) := by decide +kernel
theorem dX6_rests_121 : decode cX6_rests 121 = .ok (.aload_n 0, 1) := by decide +kernel
theorem dX6_rests_122 : decode cX6_rests 122 = .ok (.iload_n 2, 1) := by decide +kernel
theorem dX6_rests_123 : decode cX6_rests 123 = .ok (.iload 8, 2) := by decide +kernel
theorem dX6_rests_125 : decode cX6_rests 125 = .ok (.iload_n 1, 1) := by decide +kernel
theorem dX6_rests_126 : decode cX6_rests 126 = .ok (.iload 7, 2) := by decide +kernel
theorem dX6_rests_128 : decode cX6_rests 128 = .ok (.invokevirtual 226, 3) := by decide +kernel
theorem dX6_rests_131 : decode cX6_rests 131 = .ok (.ifCond .eq 30, 3) := by decide +kernel
theorem dX6_rests_134 : decode cX6_rests 134 = .ok (.iload 4, 2) := by decide +kernel
theorem dX6_rests_136 : decode cX6_rests 136 = .ok (.ifCond .ne 18, 3) := by decide +kernel
theorem dX6_rests_139 : decode cX6_rests 139 = .ok (.bipush 10, 2) := by decide +kernel
theorem dX6_rests_141 : decode cX6_rests 141 = .ok (.iload 6, 2) := by decide +kernel
theorem dX6_rests_143 : decode cX6_rests 143 = .ok (.iconst 2, 1) := by decide +kernel
theorem dX6_rests_144 : decode cX6_rests 144 = .ok (.idiv, 1) := by decide +kernel
theorem dX6_rests_145 : decode cX6_rests 145 = .ok (.imul, 1) := by decide +kernel
theorem dX6_rests_146 : decode cX6_rests 146 = .ok (.iload 6, 2) := by decide +kernel
theorem dX6_rests_148 : decode cX6_rests 148 = .ok (.iconst 2, 1) := by decide +kernel
theorem dX6_rests_149 : decode cX6_rests 149 = .ok (.irem, 1) := by decide +kernel
theorem dX6_rests_150 : decode cX6_rests 150 = .ok (.iadd, 1) := by decide +kernel
theorem dX6_rests_151 : decode cX6_rests 151 = .ok (.goto 5, 3) := by decide +kernel
theorem dX6_rests_154 : decode cX6_rests 154 = .ok (.iload 5, 2) := by decide +kernel
theorem dX6_rests_156 : decode cX6_rests 156 = .ok (.istore 5, 2) := by decide +kernel
theorem dX6_rests_158 : decode cX6_rests 158 = .ok (.iinc 4 1, 3) := by decide +kernel
theorem dX6_rests_161 : decode cX6_rests 161 = .ok (.iinc 6 1, 3) := by decide +kernel
theorem dX6_rests_164 : decode cX6_rests 164 = .ok (.goto (-90), 3) := by decide +kernel
theorem dX6_rests_167 : decode cX6_rests 167 = .ok (.iload_n 3, 1) := by decide +kernel
theorem dX6_rests_168 : decode cX6_rests 168 = .ok (.ifCond .ne 8, 3) := by decide +kernel
theorem dX6_rests_171 : decode cX6_rests 171 = .ok (.iload 4, 2) := by decide +kernel
theorem dX6_rests_173 : decode cX6_rests 173 = .ok (.goto 5, 3) := by decide +kernel
theorem dX6_rests_176 : decode cX6_rests 176 = .ok (.iload 5, 2) := by decide +kernel
theorem dX6_rests_178 : decode cX6_rests 178 = .ok (.ireturn, 1) := by decide +kernel
theorem dX6_sudden_0 : decode cX6_sudden 0 = .ok (.iload_n 1, 1) := by decide +kernel
theorem dX6_sudden_1 : decode cX6_sudden 1 = .ok (.invokestatic 132, 3) := by decide +kernel
theorem dX6_sudden_4 : decode cX6_sudden 4 = .ok (.ifCond .ne 5, 3) := by decide +kernel
theorem dX6_sudden_7 : decode cX6_sudden 7 = .ok (.iconst (-1), 1) := by decide +kernel
theorem dX6_sudden_8 : decode cX6_sudden 8 = .ok (.ireturn, 1) := by decide +kernel
theorem dX6_sudden_9 : decode cX6_sudden 9 = .ok (.iload_n 2, 1) := by decide +kernel
theorem dX6_sudden_10 : decode cX6_sudden 10 = .ok (.invokestatic 174, 3) := by decide +kernel
theorem dX6_sudden_13 : decode cX6_sudden 13 = .ok (.ifCond .eq 13, 3) := by decide +kernel
theorem dX6_sudden_16 : decode cX6_sudden 16 = .ok (.iload_n 3, 1) := by decide +kernel
theorem dX6_sudden_17 : decode cX6_sudden 17 = .ok (.ifCond .lt 9, 3) := by decide +kernel
theorem dX6_sudden_20 : decode cX6_sudden 20 = .ok (.iload_n 3, 1) := by decide +kernel
theorem dX6_sudden_21 : decode cX6_sudden 21 = .ok (.bipush 10, 2) := by decide +kernel
theorem dX6_sudden_23 : decode cX6_sudden 23 = .ok (.if_icmp .le 6, 3) := by decide +kernel
theorem dX6_sudden_26 : decode cX6_sudden 26 = .ok (.bipush (-2), 2) := by decide +kernel
theorem dX6_sudden_28 : decode cX6_sudden 28 = .ok (.ireturn, 1) := by decide +kernel
theorem dX6_sudden_29 : decode cX6_sudden 29 = .ok (.aload_n 0, 1) := by decide +kernel
theorem dX6_sudden_30 : decode cX6_sudden 30 = .ok (.getfield 28, 3) := by decide +kernel
theorem dX6_sudden_33 : decode cX6_sudden 33 = .ok (.invokevirtual 184, 3) := by decide +kernel
theorem dX6_sudden_36 : decode cX6_sudden 36 = .ok (.istore 5, 2) := by decide +kernel
theorem dX6_sudden_38 : decode cX6_sudden 38 = .ok (.iload 5, 2) := by decide +kernel
theorem dX6_sudden_40 : decode cX6_sudden 40 = .ok (.invokestatic 190, 3) := by decide +kernel
theorem dX6_sudden_43 : decode cX6_sudden 43 = .ok (.istore 6, 2) := by decide +kernel
theorem dX6_sudden_45 : decode cX6_sudden 45 = .ok (.iconst 0, 1) := by decide +kernel
theorem dX6_sudden_46 : decode cX6_sudden 46 = .ok (.istore 7, 2) := by decide +kernel
theorem dX6_sudden_48 : decode cX6_sudden 48 = .ok (.iconst 0, 1) := by decide +kernel
theorem dX6_sudden_49 : decode cX6_sudden 49 = .ok (.istore 8, 2) := by decide +kernel
theorem dX6_sudden_51 : decode cX6_sudden 51 = .ok (.iload 8, 2) := by decide +kernel
theorem dX6_sudden_53 : decode cX6_sudden 53 = .ok (.bipush 32, 2) := by decide +kernel
theorem dX6_sudden_55 : decode cX6_sudden 55 = .ok (.if_icmp .ge 98, 3) := by decide +kernel
theorem dX6_sudden_58 : decode cX6_sudden 58 = .ok (.iload 8, 2) := by decide +kernel
theorem dX6_sudden_60 : decode cX6_sudden 60 = .ok (.iload 5, 2) := by decide +kernel
theorem dX6_sudden_62 : decode cX6_sudden 62 = .ok (.invokestatic 187, 3) := by decide +kernel
theorem dX6_sudden_65 : decode cX6_sudden 65 = .ok (.ifCond .eq 82, 3) := by decide +kernel
theorem dX6_sudden_68 : decode cX6_sudden 68 = .ok (.aload_n 0, 1) := by decide +kernel
theorem dX6_sudden_69 : decode cX6_sudden 69 = .ok (.getfield 32, 3) := by decide +kernel
theorem dX6_sudden_72 : decode cX6_sudden 72 = .ok (.aload_n 0, 1) := by decide +kernel
theorem dX6_sudden_73 : decode cX6_sudden 73 = .ok (.getfield 28, 3) := by decide +kernel
theorem dX6_sudden_76 : decode cX6_sudden 76 = .ok (.invokevirtual 167, 3) := by decide +kernel
theorem dX6_sudden_79 : decode cX6_sudden 79 = .ok (.aload_n 0, 1) := by decide +kernel
theorem dX6_sudden_80 : decode cX6_sudden 80 = .ok (.getfield 32, 3) := by decide +kernel
theorem dX6_sudden_83 : decode cX6_sudden 83 = .ok (.iload 8, 2) := by decide +kernel
theorem dX6_sudden_85 : decode cX6_sudden 85 = .ok (.invokevirtual 230, 3) := by decide +kernel
theorem dX6_sudden_88 : decode cX6_sudden 88 = .ok (.iload_n 2, 1) := by decide +kernel
theorem dX6_sudden_89 : decode cX6_sudden 89 = .ok (.ifCond .ne 13, 3) := by decide +kernel
theorem dX6_sudden_92 : decode cX6_sudden 92 = .ok (.aload_n 0, 1) := by decide +kernel
theorem dX6_sudden_93 : decode cX6_sudden 93 = .ok (.getfield 32, 3) := by decide +kernel
theorem dX6_sudden_96 : decode cX6_sudden 96 = .ok (.invokevirtual 91, 3) := by decide +kernel
theorem dX6_sudden_99 : decode cX6_sudden 99 = .ok (.goto 10, 3) := by decide +kernel
theorem dX6_sudden_102 : decode cX6_sudden 102 = .ok (.aload_n 0, 1) := by decide +kernel
theorem dX6_sudden_103 : decode cX6_sudden 103 = .ok (.getfield 32, 3) := by decide +kernel
theorem dX6_sudden_106 : decode cX6_sudden 106 = .ok (.invokevirtual 94, 3) := by decide +kernel
theorem dX6_sudden_109 : decode cX6_sudden 109 = .ok (.iload_n 1, 1) := by decide +kernel
theorem dX6_sudden_110 : decode cX6_sudden 110 = .ok (.invokestatic 177, 3) := by decide +kernel
theorem dX6_sudden_113 : decode cX6_sudden 113 = .ok (.ifCond .eq 34, 3) := by decide +kernel
theorem dX6_sudden_116 : decode cX6_sudden 116 = .ok (.iload 8, 2) := by decide +kernel
theorem dX6_sudden_118 : decode cX6_sudden 118 = .ok (.invokestatic 190, 3) := by decide +kernel
theorem dX6_sudden_121 : decode cX6_sudden 121 = .ok (.istore 9, 2) := by decide +kernel
theorem dX6_sudden_123 : decode cX6_sudden 123 = .ok (.iload 7, 2) := by decide +kernel
theorem dX6_sudden_125 : decode cX6_sudden 125 = .ok (.iload_n 3, 1) := by decide +kernel
theorem dX6_sudden_126 : decode cX6_sudden 126 = .ok (.iload 9, 2) := by decide +kernel
theorem dX6_sudden_128 : decode cX6_sudden 128 = .ok (.invokestatic 233, 3) := by decide +kernel
theorem dX6_sudden_131 : decode cX6_sudden 131 = .ok (.bipush 10, 2) := by decide +kernel
theorem dX6_sudden_133 : decode cX6_sudden 133 = .ok (.iload_n 3, 1) := by decide +kernel
theorem dX6_sudden_134 : decode cX6_sudden 134 = .ok (.isub, 1) := by decide +kernel
theorem dX6_sudden_135 : decode cX6_sudden 135 = .ok (.iload 6, 2) := by decide +kernel
theorem dX6_sudden_137 : decode cX6_sudden 137 = .ok (.iload 9, 2) := by decide +kernel
theorem dX6_sudden_139 : decode cX6_sudden 139 = .ok (.isub, 1) := by decide +kernel
theorem dX6_sudden_140 : decode cX6_sudden 140 = .ok (.invokestatic 233, 3) := by decide +kernel
theorem dX6_sudden_143 : decode cX6_sudden 143 = .ok (.imul, 1) := by decide +kernel
theorem dX6_sudden_144 : decode cX6_sudden 144 = .ok (.iadd, 1) := by decide +kernel
theorem dX6_sudden_145 : decode cX6_sudden 145 = .ok (.istore 7, 2) := by decide +kernel
theorem dX6_sudden_147 : decode cX6_sudden 147 = .ok (.iinc 8 1, 3) := by decide +kernel
theorem dX6_sudden_150 : decode cX6_sudden 150 = .ok (.goto (-99), 3) := by decide +kernel
theorem dX6_sudden_153 : decode cX6_sudden 153 = .ok (.iload 7, 2) := by decide +kernel
theorem dX6_sudden_155 : decode cX6_sudden 155 = .ok (.bipush 10, 2) := by decide +kernel
theorem dX6_sudden_157 : decode cX6_sudden 157 = .ok (.iload 6, 2) := by decide +kernel
theorem dX6_sudden_159 : decode cX6_sudden 159 = .ok (.invokestatic 233, 3) := by decide +kernel
theorem dX6_sudden_162 : decode cX6_sudden 162 = .ok (.iload 4, 2) := by decide +kernel
theorem dX6_sudden_164 : decode cX6_sudden 164 = .ok (.invokestatic 215, 3) := by decide +kernel
theorem dX6_sudden_167 : decode cX6_sudden 167 = .ok (.ireturn, 1) := by decide +kernel
theorem dX6_seed_0 : decode cX6_seed 0 = .ok (.aload_n 0, 1) := by decide +kernel
theorem dX6_seed_1 : decode cX6_seed 1 = .ok (.getfield 236, 3) := by decide +kernel
theorem dX6_seed_4 : decode cX6_seed 4 = .ok (.lstore_n 3, 1) := by decide +kernel
theorem dX6_seed_5 : decode cX6_seed 5 = .ok (.aload_n 0, 1) := by decide +kernel
theorem dX6_seed_6 : decode cX6_seed 6 = .ok (.lload_n 1, 1) := by decide +kernel
theorem dX6_seed_7 : decode cX6_seed 7 = .ok (.putfield 236, 3) := by decide +kernel
theorem dX6_seed_10 : decode cX6_seed 10 = .ok (.lload_n 3, 1) := by decide +kernel
theorem dX6_seed_11 : decode cX6_seed 11 = .ok (.lreturn, 1) := by decide +kernel
theorem dX6_weeks_0 : decode cX6_weeks 0 = .ok (.iload_n 1, 1) := by decide +kernel
theorem dX6_weeks_1 : decode cX6_weeks 1 = .ok (.iconst 1, 1) := by decide +kernel
theorem dX6_weeks_2 : decode cX6_weeks 2 = .ok (.if_icmp .lt 9, 3) := by decide +kernel
theorem dX6_weeks_5 : decode cX6_weeks 5 = .ok (.iload_n 1, 1) := by decide +kernel
theorem dX6_weeks_6 : decode cX6_weeks 6 = .ok (.bipush 30, 2) := by decide +kernel
theorem dX6_weeks_8 : decode cX6_weeks 8 = .ok (.if_icmp .le 6, 3) := by decide +kernel
theorem dX6_weeks_11 : decode cX6_weeks 11 = .ok (.bipush (-2), 2) := by decide +kernel
theorem dX6_weeks_13 : decode cX6_weeks 13 = .ok (.ireturn, 1) := by decide +kernel
theorem dX6_weeks_14 : decode cX6_weeks 14 = .ok (.aload_n 0, 1) := by decide +kernel
theorem dX6_weeks_15 : decode cX6_weeks 15 = .ok (.getfield 32, 3) := by decide +kernel
theorem dX6_weeks_18 : decode cX6_weeks 18 = .ok (.aload_n 0, 1) := by decide +kernel
theorem dX6_weeks_19 : decode cX6_weeks 19 = .ok (.getfield 28, 3) := by decide +kernel
theorem dX6_weeks_22 : decode cX6_weeks 22 = .ok (.invokevirtual 167, 3) := by decide +kernel
theorem dX6_weeks_25 : decode cX6_weeks 25 = .ok (.iconst 0, 1) := by decide +kernel
theorem dX6_weeks_26 : decode cX6_weeks 26 = .ok (.istore_n 2, 1) := by decide +kernel
theorem dX6_weeks_27 : decode cX6_weeks 27 = .ok (.iconst 0, 1) := by decide +kernel
theorem dX6_weeks_28 : decode cX6_weeks 28 = .ok (.istore_n 3, 1) := by decide +kernel
theorem dX6_weeks_29 : decode cX6_weeks 29 = .ok (.iload_n 3, 1) := by decide +kernel
theorem dX6_weeks_30 : decode cX6_weeks 30 = .ok (.iload_n 1, 1) := by decide +kernel
theorem dX6_weeks_31 : decode cX6_weeks 31 = .ok (.if_icmp .ge 54, 3) := by decide +kernel
theorem dX6_weeks_34 : decode cX6_weeks 34 = .ok (.aload_n 0, 1) := by decide +kernel
theorem dX6_weeks_35 : decode cX6_weeks 35 = .ok (.aload_n 0, 1) := by decide +kernel
theorem dX6_weeks_36 : decode cX6_weeks 36 = .ok (.getfield 236, 3) := by decide +kernel
theorem dX6_weeks_39 : decode cX6_weeks 39 = .ok (.ldc2_w 240, 3) := by decide +kernel
theorem dX6_weeks_42 : decode cX6_weeks 42 = .ok (.lmul, 1) := by decide +kernel
theorem dX6_weeks_43 : decode cX6_weeks 43 = .ok (.ldc2_w 242, 3) := by decide +kernel
theorem dX6_weeks_46 : decode cX6_weeks 46 = .ok (.ladd, 1) := by decide +kernel
theorem dX6_weeks_47 : decode cX6_weeks 47 = .ok (.putfield 236, 3) := by decide +kernel
theorem dX6_weeks_50 : decode cX6_weeks 50 = .ok (.aload_n 0, 1) := by decide +kernel
theorem dX6_weeks_51 : decode cX6_weeks 51 = .ok (.aload_n 0, 1) := by decide +kernel
theorem dX6_weeks_52 : decode cX6_weeks 52 = .ok (.getfield 236, 3) := by decide +kernel
theorem dX6_weeks_55 : decode cX6_weeks 55 = .ok (.bipush 33, 2) := by decide +kernel
theorem dX6_weeks_57 : decode cX6_weeks 57 = .ok (.lushr, 1) := by decide +kernel
theorem dX6_weeks_58 : decode cX6_weeks 58 = .ok (.ldc2_w 244, 3) := by decide +kernel
theorem dX6_weeks_61 : decode cX6_weeks 61 = .ok (.lrem, 1) := by decide +kernel
theorem dX6_weeks_62 : decode cX6_weeks 62 = .ok (.l2i, 1) := by decide +kernel
theorem dX6_weeks_63 : decode cX6_weeks 63 = .ok (.invokevirtual 246, 3) := by decide +kernel
theorem dX6_weeks_66 : decode cX6_weeks 66 = .ok (.iload_n 2, 1) := by decide +kernel
theorem dX6_weeks_67 : decode cX6_weeks 67 = .ok (.aload_n 0, 1) := by decide +kernel
theorem dX6_weeks_68 : decode cX6_weeks 68 = .ok (.getfield 32, 3) := by decide +kernel
theorem dX6_weeks_71 : decode cX6_weeks 71 = .ok (.invokevirtual 91, 3) := by decide +kernel
theorem dX6_weeks_74 : decode cX6_weeks 74 = .ok (.invokestatic 190, 3) := by decide +kernel
theorem dX6_weeks_77 : decode cX6_weeks 77 = .ok (.iadd, 1) := by decide +kernel
theorem dX6_weeks_78 : decode cX6_weeks 78 = .ok (.istore_n 2, 1) := by decide +kernel
theorem dX6_weeks_79 : decode cX6_weeks 79 = .ok (.iinc 3 1, 3) := by decide +kernel
theorem dX6_weeks_82 : decode cX6_weeks 82 = .ok (.goto (-53), 3) := by decide +kernel
theorem dX6_weeks_85 : decode cX6_weeks 85 = .ok (.iload_n 2, 1) := by decide +kernel
theorem dX6_weeks_86 : decode cX6_weeks 86 = .ok (.ireturn, 1) := by decide +kernel
theorem dX6_keep_0 : decode cX6_keep 0 = .ok (.iload_n 1, 1) := by decide +kernel
theorem dX6_keep_1 : decode cX6_keep 1 = .ok (.invokestatic 249, 3) := by decide +kernel
theorem dX6_keep_4 : decode cX6_keep 4 = .ok (.ifCond .ne 5, 3) := by decide +kernel
theorem dX6_keep_7 : decode cX6_keep 7 = .ok (.iconst (-1), 1) := by decide +kernel
theorem dX6_keep_8 : decode cX6_keep 8 = .ok (.ireturn, 1) := by decide +kernel
theorem dX6_keep_9 : decode cX6_keep 9 = .ok (.aload_n 0, 1) := by decide +kernel
theorem dX6_keep_10 : decode cX6_keep 10 = .ok (.getfield 45, 3) := by decide +kernel
theorem dX6_keep_13 : decode cX6_keep 13 = .ok (.iload_n 1, 1) := by decide +kernel
theorem dX6_keep_14 : decode cX6_keep 14 = .ok (.aload_n 0, 1) := by decide +kernel
theorem dX6_keep_15 : decode cX6_keep 15 = .ok (.getfield 28, 3) := by decide +kernel
theorem dX6_keep_18 : decode cX6_keep 18 = .ok (.invokevirtual 252, 3) := by decide +kernel
theorem dX6_keep_21 : decode cX6_keep 21 = .ok (.aload_n 0, 1) := by decide +kernel
theorem dX6_keep_22 : decode cX6_keep 22 = .ok (.getfield 28, 3) := by decide +kernel
theorem dX6_keep_25 : decode cX6_keep 25 = .ok (.invokevirtual 85, 3) := by decide +kernel
theorem dX6_keep_28 : decode cX6_keep 28 = .ok (.ireturn, 1) := by decide +kernel
theorem dX6_again_0 : decode cX6_again 0 = .ok (.iload_n 1, 1) := by decide +kernel
theorem dX6_again_1 : decode cX6_again 1 = .ok (.invokestatic 249, 3) := by decide +kernel
theorem dX6_again_4 : decode cX6_again 4 = .ok (.ifCond .ne 5, 3) := by decide +kernel
theorem dX6_again_7 : decode cX6_again 7 = .ok (.iconst (-1), 1) := by decide +kernel
theorem dX6_again_8 : decode cX6_again 8 = .ok (.ireturn, 1) := by decide +kernel
theorem dX6_again_9 : decode cX6_again 9 = .ok (.aload_n 0, 1) := by decide +kernel
theorem dX6_again_10 : decode cX6_again 10 = .ok (.getfield 45, 3) := by decide +kernel
theorem dX6_again_13 : decode cX6_again 13 = .ok (.iload_n 1, 1) := by decide +kernel
theorem dX6_again_14 : decode cX6_again 14 = .ok (.aload_n 0, 1) := by decide +kernel
theorem dX6_again_15 : decode cX6_again 15 = .ok (.getfield 28, 3) := by decide +kernel
theorem dX6_again_18 : decode cX6_again 18 = .ok (.invokevirtual 256, 3) := by decide +kernel
theorem dX6_again_21 : decode cX6_again 21 = .ok (.ifCond .ne 6, 3) := by decide +kernel
theorem dX6_again_24 : decode cX6_again 24 = .ok (.bipush (-3), 2) := by decide +kernel
theorem dX6_again_26 : decode cX6_again 26 = .ok (.ireturn, 1) := by decide +kernel
theorem dX6_again_27 : decode cX6_again 27 = .ok (.aload_n 0, 1) := by decide +kernel
theorem dX6_again_28 : decode cX6_again 28 = .ok (.getfield 38, 3) := by decide +kernel
theorem dX6_again_31 : decode cX6_again 31 = .ok (.invokevirtual 77, 3) := by decide +kernel
theorem dX6_again_34 : decode cX6_again 34 = .ok (.aload_n 0, 1) := by decide +kernel
theorem dX6_again_35 : decode cX6_again 35 = .ok (.getfield 28, 3) := by decide +kernel
theorem dX6_again_38 : decode cX6_again 38 = .ok (.invokevirtual 85, 3) := by decide +kernel
theorem dX6_again_41 : decode cX6_again 41 = .ok (.ireturn, 1) := by decide +kernel
theorem dX6_keptIfOpened_0 : decode cX6_keptIfOpened 0 = .ok (.aload_n 0, 1) := by decide +kernel
theorem dX6_keptIfOpened_1 : decode cX6_keptIfOpened 1 = .ok (.getfield 32, 3) := by decide +kernel
theorem dX6_keptIfOpened_4 : decode cX6_keptIfOpened 4 = .ok (.aload_n 0, 1) := by decide +kernel
theorem dX6_keptIfOpened_5 : decode cX6_keptIfOpened 5 = .ok (.getfield 28, 3) := by decide +kernel
theorem dX6_keptIfOpened_8 : decode cX6_keptIfOpened 8 = .ok (.invokevirtual 167, 3) := by decide +kernel
theorem dX6_keptIfOpened_11 : decode cX6_keptIfOpened 11 = .ok (.aload_n 0, 1) := by decide +kernel
theorem dX6_keptIfOpened_12 : decode cX6_keptIfOpened 12 = .ok (.getfield 32, 3) := by decide +kernel
theorem dX6_keptIfOpened_15 : decode cX6_keptIfOpened 15 = .ok (.iload_n 1, 1) := by decide +kernel
theorem dX6_keptIfOpened_16 : decode cX6_keptIfOpened 16 = .ok (.invokevirtual 230, 3) := by decide +kernel
theorem dX6_keptIfOpened_19 : decode cX6_keptIfOpened 19 = .ok (.aload_n 0, 1) := by decide +kernel
theorem dX6_keptIfOpened_20 : decode cX6_keptIfOpened 20 = .ok (.getfield 32, 3) := by decide +kernel
theorem dX6_keptIfOpened_23 : decode cX6_keptIfOpened 23 = .ok (.bipush 9, 2) := by decide +kernel
theorem dX6_keptIfOpened_25 : decode cX6_keptIfOpened 25 = .ok (.invokevirtual 170, 3) := by decide +kernel
theorem dX6_keptIfOpened_28 : decode cX6_keptIfOpened 28 = .ok (.aload_n 0, 1) := by decide +kernel
theorem dX6_keptIfOpened_29 : decode cX6_keptIfOpened 29 = .ok (.getfield 32, 3) := by decide +kernel
theorem dX6_keptIfOpened_32 : decode cX6_keptIfOpened 32 = .ok (.invokevirtual 260, 3) := by decide +kernel
theorem dX6_keptIfOpened_35 : decode cX6_keptIfOpened 35 = .ok (.ireturn, 1) := by decide +kernel
theorem dX6_keptIfSent_0 : decode cX6_keptIfSent 0 = .ok (.aload_n 0, 1) := by decide +kernel
theorem dX6_keptIfSent_1 : decode cX6_keptIfSent 1 = .ok (.getfield 32, 3) := by decide +kernel
theorem dX6_keptIfSent_4 : decode cX6_keptIfSent 4 = .ok (.aload_n 0, 1) := by decide +kernel
theorem dX6_keptIfSent_5 : decode cX6_keptIfSent 5 = .ok (.getfield 28, 3) := by decide +kernel
theorem dX6_keptIfSent_8 : decode cX6_keptIfSent 8 = .ok (.invokevirtual 167, 3) := by decide +kernel
theorem dX6_keptIfSent_11 : decode cX6_keptIfSent 11 = .ok (.aload_n 0, 1) := by decide +kernel
theorem dX6_keptIfSent_12 : decode cX6_keptIfSent 12 = .ok (.getfield 32, 3) := by decide +kernel
theorem dX6_keptIfSent_15 : decode cX6_keptIfSent 15 = .ok (.iload_n 1, 1) := by decide +kernel
theorem dX6_keptIfSent_16 : decode cX6_keptIfSent 16 = .ok (.iload_n 2, 1) := by decide +kernel
theorem dX6_keptIfSent_17 : decode cX6_keptIfSent 17 = .ok (.invokevirtual 263, 3) := by decide +kernel
theorem dX6_keptIfSent_20 : decode cX6_keptIfSent 20 = .ok (.aload_n 0, 1) := by decide +kernel
theorem dX6_keptIfSent_21 : decode cX6_keptIfSent 21 = .ok (.getfield 32, 3) := by decide +kernel
theorem dX6_keptIfSent_24 : decode cX6_keptIfSent 24 = .ok (.iload_n 1, 1) := by decide +kernel
theorem dX6_keptIfSent_25 : decode cX6_keptIfSent 25 = .ok (.invokevirtual 148, 3) := by decide +kernel
theorem dX6_keptIfSent_28 : decode cX6_keptIfSent 28 = .ok (.pop, 1) := by decide +kernel
theorem dX6_keptIfSent_29 : decode cX6_keptIfSent 29 = .ok (.aload_n 0, 1) := by decide +kernel
theorem dX6_keptIfSent_30 : decode cX6_keptIfSent 30 = .ok (.getfield 32, 3) := by decide +kernel
theorem dX6_keptIfSent_33 : decode cX6_keptIfSent 33 = .ok (.bipush 9, 2) := by decide +kernel
theorem dX6_keptIfSent_35 : decode cX6_keptIfSent 35 = .ok (.invokevirtual 170, 3) := by decide +kernel
theorem dX6_keptIfSent_38 : decode cX6_keptIfSent 38 = .ok (.aload_n 0, 1) := by decide +kernel
theorem dX6_keptIfSent_39 : decode cX6_keptIfSent 39 = .ok (.getfield 32, 3) := by decide +kernel
theorem dX6_keptIfSent_42 : decode cX6_keptIfSent 42 = .ok (.invokevirtual 260, 3) := by decide +kernel
theorem dX6_keptIfSent_45 : decode cX6_keptIfSent 45 = .ok (.ireturn, 1) := by decide +kernel
theorem dX6_keptIfCome_0 : decode cX6_keptIfCome 0 = .ok (.aload_n 0, 1) := by decide +kernel
theorem dX6_keptIfCome_1 : decode cX6_keptIfCome 1 = .ok (.getfield 32, 3) := by decide +kernel
theorem dX6_keptIfCome_4 : decode cX6_keptIfCome 4 = .ok (.aload_n 0, 1) := by decide +kernel
theorem dX6_keptIfCome_5 : decode cX6_keptIfCome 5 = .ok (.getfield 28, 3) := by decide +kernel
theorem dX6_keptIfCome_8 : decode cX6_keptIfCome 8 = .ok (.invokevirtual 167, 3) := by decide +kernel
theorem dX6_keptIfCome_11 : decode cX6_keptIfCome 11 = .ok (.aload_n 0, 1) := by decide +kernel
theorem dX6_keptIfCome_12 : decode cX6_keptIfCome 12 = .ok (.getfield 32, 3) := by decide +kernel
theorem dX6_keptIfCome_15 : decode cX6_keptIfCome 15 = .ok (.aload_n 0, 1) := by decide +kernel
theorem dX6_keptIfCome_16 : decode cX6_keptIfCome 16 = .ok (.getfield 28, 3) := by decide +kernel
theorem dX6_keptIfCome_19 : decode cX6_keptIfCome 19 = .ok (.invokevirtual 88, 3) := by decide +kernel
theorem dX6_keptIfCome_22 : decode cX6_keptIfCome 22 = .ok (.iload_n 1, 1) := by decide +kernel
theorem dX6_keptIfCome_23 : decode cX6_keptIfCome 23 = .ok (.iconst (-1), 1) := by decide +kernel
theorem dX6_keptIfCome_24 : decode cX6_keptIfCome 24 = .ok (.ixor, 1) := by decide +kernel
theorem dX6_keptIfCome_25 : decode cX6_keptIfCome 25 = .ok (.iand, 1) := by decide +kernel
theorem dX6_keptIfCome_26 : decode cX6_keptIfCome 26 = .ok (.invokevirtual 267, 3) := by decide +kernel
theorem dX6_keptIfCome_29 : decode cX6_keptIfCome 29 = .ok (.aload_n 0, 1) := by decide +kernel
theorem dX6_keptIfCome_30 : decode cX6_keptIfCome 30 = .ok (.getfield 32, 3) := by decide +kernel
theorem dX6_keptIfCome_33 : decode cX6_keptIfCome 33 = .ok (.iload_n 1, 1) := by decide +kernel
theorem dX6_keptIfCome_34 : decode cX6_keptIfCome 34 = .ok (.invokevirtual 230, 3) := by decide +kernel
theorem dX6_keptIfCome_37 : decode cX6_keptIfCome 37 = .ok (.aload_n 0, 1) := by decide +kernel
theorem dX6_keptIfCome_38 : decode cX6_keptIfCome 38 = .ok (.getfield 32, 3) := by decide +kernel
theorem dX6_keptIfCome_41 : decode cX6_keptIfCome 41 = .ok (.bipush 9, 2) := by decide +kernel
theorem dX6_keptIfCome_43 : decode cX6_keptIfCome 43 = .ok (.invokevirtual 170, 3) := by decide +kernel
theorem dX6_keptIfCome_46 : decode cX6_keptIfCome 46 = .ok (.aload_n 0, 1) := by decide +kernel
theorem dX6_keptIfCome_47 : decode cX6_keptIfCome 47 = .ok (.getfield 32, 3) := by decide +kernel
theorem dX6_keptIfCome_50 : decode cX6_keptIfCome 50 = .ok (.invokevirtual 260, 3) := by decide +kernel
theorem dX6_keptIfCome_53 : decode cX6_keptIfCome 53 = .ok (.ireturn, 1) := by decide +kernel
theorem dX6_comesTrue_0 : decode cX6_comesTrue 0 = .ok (.iload_n 1, 1) := by decide +kernel
theorem dX6_comesTrue_1 : decode cX6_comesTrue 1 = .ok (.iconst 3, 1) := by decide +kernel
theorem dX6_comesTrue_2 : decode cX6_comesTrue 2 = .ok (.if_icmp .ne 37, 3) := by decide +kernel
theorem dX6_comesTrue_5 : decode cX6_comesTrue 5 = .ok (.iload_n 3, 1) := by decide +kernel
theorem dX6_comesTrue_6 : decode cX6_comesTrue 6 = .ok (.invokestatic 174, 3) := by decide +kernel
theorem dX6_comesTrue_9 : decode cX6_comesTrue 9 = .ok (.ifCond .eq 28, 3) := by decide +kernel
theorem dX6_comesTrue_12 : decode cX6_comesTrue 12 = .ok (.aload_n 0, 1) := by decide +kernel
theorem dX6_comesTrue_13 : decode cX6_comesTrue 13 = .ok (.getfield 32, 3) := by decide +kernel
theorem dX6_comesTrue_16 : decode cX6_comesTrue 16 = .ok (.iload_n 2, 1) := by decide +kernel
theorem dX6_comesTrue_17 : decode cX6_comesTrue 17 = .ok (.iload_n 3, 1) := by decide +kernel
theorem dX6_comesTrue_18 : decode cX6_comesTrue 18 = .ok (.iconst 1, 1) := by decide +kernel
theorem dX6_comesTrue_19 : decode cX6_comesTrue 19 = .ok (.if_icmp .ne 7, 3) := by decide +kernel
theorem dX6_comesTrue_22 : decode cX6_comesTrue 22 = .ok (.iconst 1, 1) := by decide +kernel
theorem dX6_comesTrue_23 : decode cX6_comesTrue 23 = .ok (.goto 4, 3) := by decide +kernel
theorem dX6_comesTrue_26 : decode cX6_comesTrue 26 = .ok (.iconst 0, 1) := by decide +kernel
theorem dX6_comesTrue_27 : decode cX6_comesTrue 27 = .ok (.invokevirtual 158, 3) := by decide +kernel
theorem dX6_comesTrue_30 : decode cX6_comesTrue 30 = .ok (.ifCond .eq 7, 3) := by decide +kernel
theorem dX6_comesTrue_33 : decode cX6_comesTrue 33 = .ok (.iconst 1, 1) := by decide +kernel
theorem dX6_comesTrue_34 : decode cX6_comesTrue 34 = .ok (.goto 4, 3) := by decide +kernel
theorem dX6_comesTrue_37 : decode cX6_comesTrue 37 = .ok (.iconst 0, 1) := by decide +kernel
theorem dX6_comesTrue_38 : decode cX6_comesTrue 38 = .ok (.ireturn, 1) := by decide +kernel
theorem dX6_comesTrue_39 : decode cX6_comesTrue 39 = .ok (.iload_n 2, 1) := by decide +kernel
theorem dX6_comesTrue_40 : decode cX6_comesTrue 40 = .ok (.ifCond .eq 5, 3) := by decide +kernel
theorem dX6_comesTrue_43 : decode cX6_comesTrue 43 = .ok (.iconst 0, 1) := by decide +kernel
theorem dX6_comesTrue_44 : decode cX6_comesTrue 44 = .ok (.ireturn, 1) := by decide +kernel
theorem dX6_comesTrue_45 : decode cX6_comesTrue 45 = .ok (.iload_n 1, 1) := by decide +kernel
theorem dX6_comesTrue_46 : decode cX6_comesTrue 46 = .ok (.tableswitch 114 0 5 #[38, 56, 65, 114, 74, 101], 38) := by decide +kernel
theorem dX6_comesTrue_84 : decode cX6_comesTrue 84 = .ok (.aload_n 0, 1) := by decide +kernel
theorem dX6_comesTrue_85 : decode cX6_comesTrue 85 = .ok (.getfield 32, 3) := by decide +kernel
theorem dX6_comesTrue_88 : decode cX6_comesTrue 88 = .ok (.invokevirtual 161, 3) := by decide +kernel
theorem dX6_comesTrue_91 : decode cX6_comesTrue 91 = .ok (.pop, 1) := by decide +kernel
theorem dX6_comesTrue_92 : decode cX6_comesTrue 92 = .ok (.iload_n 3, 1) := by decide +kernel
theorem dX6_comesTrue_93 : decode cX6_comesTrue 93 = .ok (.ifCond .ne 7, 3) := by decide +kernel
theorem dX6_comesTrue_96 : decode cX6_comesTrue 96 = .ok (.iconst 1, 1) := by decide +kernel
theorem dX6_comesTrue_97 : decode cX6_comesTrue 97 = .ok (.goto 4, 3) := by decide +kernel
theorem dX6_comesTrue_100 : decode cX6_comesTrue 100 = .ok (.iconst 0, 1) := by decide +kernel
theorem dX6_comesTrue_101 : decode cX6_comesTrue 101 = .ok (.ireturn, 1) := by decide +kernel
theorem dX6_comesTrue_102 : decode cX6_comesTrue 102 = .ok (.aload_n 0, 1) := by decide +kernel
theorem dX6_comesTrue_103 : decode cX6_comesTrue 103 = .ok (.getfield 32, 3) := by decide +kernel
theorem dX6_comesTrue_106 : decode cX6_comesTrue 106 = .ok (.iload_n 3, 1) := by decide +kernel
theorem dX6_comesTrue_107 : decode cX6_comesTrue 107 = .ok (.invokevirtual 148, 3) := by decide +kernel
theorem dX6_comesTrue_110 : decode cX6_comesTrue 110 = .ok (.ireturn, 1) := by decide +kernel
theorem dX6_comesTrue_111 : decode cX6_comesTrue 111 = .ok (.aload_n 0, 1) := by decide +kernel
theorem dX6_comesTrue_112 : decode cX6_comesTrue 112 = .ok (.getfield 32, 3) := by decide +kernel
theorem dX6_comesTrue_115 : decode cX6_comesTrue 115 = .ok (.iload_n 3, 1) := by decide +kernel
theorem dX6_comesTrue_116 : decode cX6_comesTrue 116 = .ok (.invokevirtual 151, 3) := by decide +kernel
theorem dX6_comesTrue_119 : decode cX6_comesTrue 119 = .ok (.ireturn, 1) := by decide +kernel
theorem dX6_comesTrue_120 : decode cX6_comesTrue 120 = .ok (.iload_n 3, 1) := by decide +kernel
theorem dX6_comesTrue_121 : decode cX6_comesTrue 121 = .ok (.invokestatic 132, 3) := by decide +kernel
theorem dX6_comesTrue_124 : decode cX6_comesTrue 124 = .ok (.ifCond .eq 21, 3) := by decide +kernel
theorem dX6_comesTrue_127 : decode cX6_comesTrue 127 = .ok (.aload_n 0, 1) := by decide +kernel
theorem dX6_comesTrue_128 : decode cX6_comesTrue 128 = .ok (.getfield 32, 3) := by decide +kernel
theorem dX6_comesTrue_131 : decode cX6_comesTrue 131 = .ok (.invokevirtual 91, 3) := by decide +kernel
theorem dX6_comesTrue_134 : decode cX6_comesTrue 134 = .ok (.iload_n 3, 1) := by decide +kernel
theorem dX6_comesTrue_135 : decode cX6_comesTrue 135 = .ok (.invokestatic 177, 3) := by decide +kernel
theorem dX6_comesTrue_138 : decode cX6_comesTrue 138 = .ok (.ifCond .eq 7, 3) := by decide +kernel
theorem dX6_comesTrue_141 : decode cX6_comesTrue 141 = .ok (.iconst 1, 1) := by decide +kernel
theorem dX6_comesTrue_142 : decode cX6_comesTrue 142 = .ok (.goto 4, 3) := by decide +kernel
theorem dX6_comesTrue_145 : decode cX6_comesTrue 145 = .ok (.iconst 0, 1) := by decide +kernel
theorem dX6_comesTrue_146 : decode cX6_comesTrue 146 = .ok (.ireturn, 1) := by decide +kernel
theorem dX6_comesTrue_147 : decode cX6_comesTrue 147 = .ok (.aload_n 0, 1) := by decide +kernel
theorem dX6_comesTrue_148 : decode cX6_comesTrue 148 = .ok (.getfield 32, 3) := by decide +kernel
theorem dX6_comesTrue_151 : decode cX6_comesTrue 151 = .ok (.iconst 1, 1) := by decide +kernel
theorem dX6_comesTrue_152 : decode cX6_comesTrue 152 = .ok (.invokevirtual 97, 3) := by decide +kernel
theorem dX6_comesTrue_155 : decode cX6_comesTrue 155 = .ok (.iload_n 3, 1) := by decide +kernel
theorem dX6_comesTrue_156 : decode cX6_comesTrue 156 = .ok (.invokestatic 177, 3) := by decide +kernel
theorem dX6_comesTrue_159 : decode cX6_comesTrue 159 = .ok (.ireturn, 1) := by decide +kernel
theorem dX6_comesTrue_160 : decode cX6_comesTrue 160 = .ok (.iconst 0, 1) := by decide +kernel
theorem dX6_comesTrue_161 : decode cX6_comesTrue 161 = .ok (.ireturn, 1) := by decide +kernel
theorem dX6_doByChance_0 : decode cX6_doByChance 0 = .ok (.iload_n 1, 1) := by decide +kernel
theorem dX6_doByChance_1 : decode cX6_doByChance 1 = .ok (.iconst 5, 1) := by decide +kernel
theorem dX6_doByChance_2 : decode cX6_doByChance 2 = .ok (.if_icmp .ge 15, 3) := by decide +kernel
theorem dX6_doByChance_5 : decode cX6_doByChance 5 = .ok (.aload_n 0, 1) := by decide +kernel
theorem dX6_doByChance_6 : decode cX6_doByChance 6 = .ok (.getfield 32, 3) := by decide +kernel
theorem dX6_doByChance_9 : decode cX6_doByChance 9 = .ok (.iload_n 1, 1) := by decide +kernel
theorem dX6_doByChance_10 : decode cX6_doByChance 10 = .ok (.invokevirtual 148, 3) := by decide +kernel
theorem dX6_doByChance_13 : decode cX6_doByChance 13 = .ok (.pop, 1) := by decide +kernel
theorem dX6_doByChance_14 : decode cX6_doByChance 14 = .ok (.goto 53, 3) := by decide +kernel
theorem dX6_doByChance_17 : decode cX6_doByChance 17 = .ok (.iload_n 1, 1) := by decide +kernel
theorem dX6_doByChance_18 : decode cX6_doByChance 18 = .ok (.bipush 10, 2) := by decide +kernel
theorem dX6_doByChance_20 : decode cX6_doByChance 20 = .ok (.if_icmp .ge 17, 3) := by decide +kernel
theorem dX6_doByChance_23 : decode cX6_doByChance 23 = .ok (.aload_n 0, 1) := by decide +kernel
theorem dX6_doByChance_24 : decode cX6_doByChance 24 = .ok (.getfield 32, 3) := by decide +kernel
theorem dX6_doByChance_27 : decode cX6_doByChance 27 = .ok (.iload_n 1, 1) := by decide +kernel
theorem dX6_doByChance_28 : decode cX6_doByChance 28 = .ok (.iconst 5, 1) := by decide +kernel
theorem dX6_doByChance_29 : decode cX6_doByChance 29 = .ok (.isub, 1) := by decide +kernel
theorem dX6_doByChance_30 : decode cX6_doByChance 30 = .ok (.invokevirtual 151, 3) := by decide +kernel
theorem dX6_doByChance_33 : decode cX6_doByChance 33 = .ok (.pop, 1) := by decide +kernel
theorem dX6_doByChance_34 : decode cX6_doByChance 34 = .ok (.goto 33, 3) := by decide +kernel
theorem dX6_doByChance_37 : decode cX6_doByChance 37 = .ok (.iload_n 1, 1) := by decide +kernel
theorem dX6_doByChance_38 : decode cX6_doByChance 38 = .ok (.bipush 15, 2) := by decide +kernel
theorem dX6_doByChance_40 : decode cX6_doByChance 40 = .ok (.if_icmp .ge 19, 3) := by decide +kernel
theorem dX6_doByChance_43 : decode cX6_doByChance 43 = .ok (.aload_n 0, 1) := by decide +kernel
theorem dX6_doByChance_44 : decode cX6_doByChance 44 = .ok (.getfield 32, 3) := by decide +kernel
theorem dX6_doByChance_47 : decode cX6_doByChance 47 = .ok (.iload_n 1, 1) := by decide +kernel
theorem dX6_doByChance_48 : decode cX6_doByChance 48 = .ok (.bipush 10, 2) := by decide +kernel
theorem dX6_doByChance_50 : decode cX6_doByChance 50 = .ok (.isub, 1) := by decide +kernel
theorem dX6_doByChance_51 : decode cX6_doByChance 51 = .ok (.iconst 1, 1) := by decide +kernel
theorem dX6_doByChance_52 : decode cX6_doByChance 52 = .ok (.invokevirtual 158, 3) := by decide +kernel
theorem dX6_doByChance_55 : decode cX6_doByChance 55 = .ok (.pop, 1) := by decide +kernel
theorem dX6_doByChance_56 : decode cX6_doByChance 56 = .ok (.goto 11, 3) := by decide +kernel
theorem dX6_doByChance_59 : decode cX6_doByChance 59 = .ok (.aload_n 0, 1) := by decide +kernel
theorem dX6_doByChance_60 : decode cX6_doByChance 60 = .ok (.getfield 32, 3) := by decide +kernel
theorem dX6_doByChance_63 : decode cX6_doByChance 63 = .ok (.invokevirtual 161, 3) := by decide +kernel
theorem dX6_doByChance_66 : decode cX6_doByChance 66 = .ok (.pop, 1) := by decide +kernel
theorem dX6_doByChance_67 : decode cX6_doByChance 67 = .ok (.return_, 1) := by decide +kernel
theorem dX6_isContent_0 : decode cX6_isContent 0 = .ok (.aload_n 0, 1) := by decide +kernel
theorem dX6_isContent_1 : decode cX6_isContent 1 = .ok (.iload_n 1, 1) := by decide +kernel
theorem dX6_isContent_2 : decode cX6_isContent 2 = .ok (.iload_n 2, 1) := by decide +kernel
theorem dX6_isContent_3 : decode cX6_isContent 3 = .ok (.iload_n 3, 1) := by decide +kernel
theorem dX6_isContent_4 : decode cX6_isContent 4 = .ok (.iload 4, 2) := by decide +kernel
theorem dX6_isContent_6 : decode cX6_isContent 6 = .ok (.invokevirtual 270, 3) := by decide +kernel
theorem dX6_isContent_9 : decode cX6_isContent 9 = .ok (.aload_n 0, 1) := by decide +kernel
theorem dX6_isContent_10 : decode cX6_isContent 10 = .ok (.iload_n 1, 1) := by decide +kernel
theorem dX6_isContent_11 : decode cX6_isContent 11 = .ok (.iload_n 2, 1) := by decide +kernel
theorem dX6_isContent_12 : decode cX6_isContent 12 = .ok (.ifCond .ne 7, 3) := by decide +kernel
theorem dX6_isContent_15 : decode cX6_isContent 15 = .ok (.iconst 1, 1) := by decide +kernel
theorem dX6_isContent_16 : decode cX6_isContent 16 = .ok (.goto 4, 3) := by decide +kernel
theorem dX6_isContent_19 : decode cX6_isContent 19 = .ok (.iconst 0, 1) := by decide +kernel
theorem dX6_isContent_20 : decode cX6_isContent 20 = .ok (.iload_n 3, 1) := by decide +kernel
theorem dX6_isContent_21 : decode cX6_isContent 21 = .ok (.iload 4, 2) := by decide +kernel
theorem dX6_isContent_23 : decode cX6_isContent 23 = .ok (.invokevirtual 270, 3) := by decide +kernel
theorem dX6_isContent_26 : decode cX6_isContent 26 = .ok (.if_icmp .lt 7, 3) := by decide +kernel
theorem dX6_isContent_29 : decode cX6_isContent 29 = .ok (.iconst 1, 1) := by decide +kernel
theorem dX6_isContent_30 : decode cX6_isContent 30 = .ok (.goto 4, 3) := by decide +kernel
theorem dX6_isContent_33 : decode cX6_isContent 33 = .ok (.iconst 0, 1) := by decide +kernel
theorem dX6_isContent_34 : decode cX6_isContent 34 = .ok (.ireturn, 1) := by decide +kernel
theorem dX6_gain_0 : decode cX6_gain 0 = .ok (.aload_n 0, 1) := by decide +kernel
theorem dX6_gain_1 : decode cX6_gain 1 = .ok (.getfield 32, 3) := by decide +kernel
theorem dX6_gain_4 : decode cX6_gain 4 = .ok (.aload_n 0, 1) := by decide +kernel
theorem dX6_gain_5 : decode cX6_gain 5 = .ok (.getfield 28, 3) := by decide +kernel
theorem dX6_gain_8 : decode cX6_gain 8 = .ok (.invokevirtual 167, 3) := by decide +kernel
theorem dX6_gain_11 : decode cX6_gain 11 = .ok (.aload_n 0, 1) := by decide +kernel
theorem dX6_gain_12 : decode cX6_gain 12 = .ok (.getfield 32, 3) := by decide +kernel
theorem dX6_gain_15 : decode cX6_gain 15 = .ok (.iload_n 2, 1) := by decide +kernel
theorem dX6_gain_16 : decode cX6_gain 16 = .ok (.ifCond .eq 9, 3) := by decide +kernel
theorem dX6_gain_19 : decode cX6_gain 19 = .ok (.iconst 1, 1) := by decide +kernel
theorem dX6_gain_20 : decode cX6_gain 20 = .ok (.iload_n 1, 1) := by decide +kernel
theorem dX6_gain_21 : decode cX6_gain 21 = .ok (.ishl, 1) := by decide +kernel
theorem dX6_gain_22 : decode cX6_gain 22 = .ok (.goto 4, 3) := by decide +kernel
theorem dX6_gain_25 : decode cX6_gain 25 = .ok (.iconst 0, 1) := by decide +kernel
theorem dX6_gain_26 : decode cX6_gain 26 = .ok (.iload 4, 2) := by decide +kernel
theorem dX6_gain_28 : decode cX6_gain 28 = .ok (.ifCond .eq 9, 3) := by decide +kernel
theorem dX6_gain_31 : decode cX6_gain 31 = .ok (.iconst 1, 1) := by decide +kernel
theorem dX6_gain_32 : decode cX6_gain 32 = .ok (.iload_n 3, 1) := by decide +kernel
theorem dX6_gain_33 : decode cX6_gain 33 = .ok (.ishl, 1) := by decide +kernel
theorem dX6_gain_34 : decode cX6_gain 34 = .ok (.goto 4, 3) := by decide +kernel
theorem dX6_gain_37 : decode cX6_gain 37 = .ok (.iconst 0, 1) := by decide +kernel
theorem dX6_gain_38 : decode cX6_gain 38 = .ok (.ior, 1) := by decide +kernel
theorem dX6_gain_39 : decode cX6_gain 39 = .ok (.invokevirtual 230, 3) := by decide +kernel
theorem dX6_gain_42 : decode cX6_gain 42 = .ok (.aload_n 0, 1) := by decide +kernel
theorem dX6_gain_43 : decode cX6_gain 43 = .ok (.getfield 32, 3) := by decide +kernel
theorem dX6_gain_46 : decode cX6_gain 46 = .ok (.iload_n 1, 1) := by decide +kernel
theorem dX6_gain_47 : decode cX6_gain 47 = .ok (.invokevirtual 108, 3) := by decide +kernel
theorem dX6_gain_50 : decode cX6_gain 50 = .ok (.istore 5, 2) := by decide +kernel
theorem dX6_gain_52 : decode cX6_gain 52 = .ok (.aload_n 0, 1) := by decide +kernel
theorem dX6_gain_53 : decode cX6_gain 53 = .ok (.getfield 32, 3) := by decide +kernel
theorem dX6_gain_56 : decode cX6_gain 56 = .ok (.invokevirtual 94, 3) := by decide +kernel
theorem dX6_gain_59 : decode cX6_gain 59 = .ok (.iload 5, 2) := by decide +kernel
theorem dX6_gain_61 : decode cX6_gain 61 = .ok (.invokestatic 177, 3) := by decide +kernel
theorem dX6_gain_64 : decode cX6_gain 64 = .ok (.istore 6, 2) := by decide +kernel
theorem dX6_gain_66 : decode cX6_gain 66 = .ok (.aload_n 0, 1) := by decide +kernel
theorem dX6_gain_67 : decode cX6_gain 67 = .ok (.getfield 32, 3) := by decide +kernel
theorem dX6_gain_70 : decode cX6_gain 70 = .ok (.invokevirtual 91, 3) := by decide +kernel
theorem dX6_gain_73 : decode cX6_gain 73 = .ok (.iload 5, 2) := by decide +kernel
theorem dX6_gain_75 : decode cX6_gain 75 = .ok (.invokestatic 177, 3) := by decide +kernel
theorem dX6_gain_78 : decode cX6_gain 78 = .ok (.istore 7, 2) := by decide +kernel
theorem dX6_gain_80 : decode cX6_gain 80 = .ok (.iload 7, 2) := by decide +kernel
theorem dX6_gain_82 : decode cX6_gain 82 = .ok (.ifCond .eq 12, 3) := by decide +kernel
theorem dX6_gain_85 : decode cX6_gain 85 = .ok (.iload 6, 2) := by decide +kernel
theorem dX6_gain_87 : decode cX6_gain 87 = .ok (.ifCond .ne 7, 3) := by decide +kernel
theorem dX6_gain_90 : decode cX6_gain 90 = .ok (.iconst 2, 1) := by decide +kernel
theorem dX6_gain_91 : decode cX6_gain 91 = .ok (.goto 4, 3) := by decide +kernel
theorem dX6_gain_94 : decode cX6_gain 94 = .ok (.iconst 0, 1) := by decide +kernel
theorem dX6_gain_95 : decode cX6_gain 95 = .ok (.iload_n 2, 1) := by decide +kernel
theorem dX6_gain_96 : decode cX6_gain 96 = .ok (.ifCond .eq 7, 3) := by decide +kernel
theorem dX6_gain_99 : decode cX6_gain 99 = .ok (.iconst 1, 1) := by decide +kernel
theorem dX6_gain_100 : decode cX6_gain 100 = .ok (.goto 4, 3) := by decide +kernel
theorem dX6_gain_103 : decode cX6_gain 103 = .ok (.iconst 0, 1) := by decide +kernel
theorem dX6_gain_104 : decode cX6_gain 104 = .ok (.isub, 1) := by decide +kernel
theorem dX6_gain_105 : decode cX6_gain 105 = .ok (.iload 6, 2) := by decide +kernel
theorem dX6_gain_107 : decode cX6_gain 107 = .ok (.ifCond .eq 7, 3) := by decide +kernel
theorem dX6_gain_110 : decode cX6_gain 110 = .ok (.iconst 3, 1) := by decide +kernel
theorem dX6_gain_111 : decode cX6_gain 111 = .ok (.goto 4, 3) := by decide +kernel
theorem dX6_gain_114 : decode cX6_gain 114 = .ok (.iconst 0, 1) := by decide +kernel
theorem dX6_gain_115 : decode cX6_gain 115 = .ok (.isub, 1) := by decide +kernel
theorem dX6_gain_116 : decode cX6_gain 116 = .ok (.ireturn, 1) := by decide +kernel
theorem dX6_isStreet_0 : decode cX6_isStreet 0 = .ok (.iload_n 0, 1) := by decide +kernel
theorem dX6_isStreet_1 : decode cX6_isStreet 1 = .ok (.ifCond .lt 13, 3) := by decide +kernel
theorem dX6_isStreet_4 : decode cX6_isStreet 4 = .ok (.iload_n 0, 1) := by decide +kernel
theorem dX6_isStreet_5 : decode cX6_isStreet 5 = .ok (.bipush 6, 2) := by decide +kernel
theorem dX6_isStreet_7 : decode cX6_isStreet 7 = .ok (.if_icmp .ge 7, 3) := by decide +kernel
theorem dX6_isStreet_10 : decode cX6_isStreet 10 = .ok (.iconst 1, 1) := by decide +kernel
theorem dX6_isStreet_11 : decode cX6_isStreet 11 = .ok (.goto 4, 3) := by decide +kernel
theorem dX6_isStreet_14 : decode cX6_isStreet 14 = .ok (.iconst 0, 1) := by decide +kernel
theorem dX6_isStreet_15 : decode cX6_isStreet 15 = .ok (.ireturn, 1) := by decide +kernel
theorem dX6_isSlot_0 : decode cX6_isSlot 0 = .ok (.iload_n 0, 1) := by decide +kernel
theorem dX6_isSlot_1 : decode cX6_isSlot 1 = .ok (.ifCond .lt 12, 3) := by decide +kernel
theorem dX6_isSlot_4 : decode cX6_isSlot 4 = .ok (.iload_n 0, 1) := by decide +kernel
theorem dX6_isSlot_5 : decode cX6_isSlot 5 = .ok (.iconst 2, 1) := by decide +kernel
theorem dX6_isSlot_6 : decode cX6_isSlot 6 = .ok (.if_icmp .ge 7, 3) := by decide +kernel
theorem dX6_isSlot_9 : decode cX6_isSlot 9 = .ok (.iconst 1, 1) := by decide +kernel
theorem dX6_isSlot_10 : decode cX6_isSlot 10 = .ok (.goto 4, 3) := by decide +kernel
theorem dX6_isSlot_13 : decode cX6_isSlot 13 = .ok (.iconst 0, 1) := by decide +kernel
theorem dX6_isSlot_14 : decode cX6_isSlot 14 = .ok (.ireturn, 1) := by decide +kernel
theorem dX6_isChoice_0 : decode cX6_isChoice 0 = .ok (.iload_n 0, 1) := by decide +kernel
theorem dX6_isChoice_1 : decode cX6_isChoice 1 = .ok (.ifCond .eq 8, 3) := by decide +kernel
theorem dX6_isChoice_4 : decode cX6_isChoice 4 = .ok (.iload_n 0, 1) := by decide +kernel
theorem dX6_isChoice_5 : decode cX6_isChoice 5 = .ok (.iconst 1, 1) := by decide +kernel
theorem dX6_isChoice_6 : decode cX6_isChoice 6 = .ok (.if_icmp .ne 7, 3) := by decide +kernel
theorem dX6_isChoice_9 : decode cX6_isChoice 9 = .ok (.iconst 1, 1) := by decide +kernel
theorem dX6_isChoice_10 : decode cX6_isChoice 10 = .ok (.goto 4, 3) := by decide +kernel
theorem dX6_isChoice_13 : decode cX6_isChoice 13 = .ok (.iconst 0, 1) := by decide +kernel
theorem dX6_isChoice_14 : decode cX6_isChoice 14 = .ok (.ireturn, 1) := by decide +kernel
theorem dX6_has_0 : decode cX6_has 0 = .ok (.iload_n 1, 1) := by decide +kernel
theorem dX6_has_1 : decode cX6_has 1 = .ok (.ifCond .lt 22, 3) := by decide +kernel
theorem dX6_has_4 : decode cX6_has 4 = .ok (.iload_n 1, 1) := by decide +kernel
theorem dX6_has_5 : decode cX6_has 5 = .ok (.bipush 31, 2) := by decide +kernel
theorem dX6_has_7 : decode cX6_has 7 = .ok (.if_icmp .ge 16, 3) := by decide +kernel
theorem dX6_has_10 : decode cX6_has 10 = .ok (.iload_n 0, 1) := by decide +kernel
theorem dX6_has_11 : decode cX6_has 11 = .ok (.iload_n 1, 1) := by decide +kernel
theorem dX6_has_12 : decode cX6_has 12 = .ok (.ishr, 1) := by decide +kernel
theorem dX6_has_13 : decode cX6_has 13 = .ok (.iconst 1, 1) := by decide +kernel
theorem dX6_has_14 : decode cX6_has 14 = .ok (.iand, 1) := by decide +kernel
theorem dX6_has_15 : decode cX6_has 15 = .ok (.iconst 1, 1) := by decide +kernel
theorem dX6_has_16 : decode cX6_has 16 = .ok (.if_icmp .ne 7, 3) := by decide +kernel
theorem dX6_has_19 : decode cX6_has 19 = .ok (.iconst 1, 1) := by decide +kernel
theorem dX6_has_20 : decode cX6_has 20 = .ok (.goto 4, 3) := by decide +kernel
theorem dX6_has_23 : decode cX6_has 23 = .ok (.iconst 0, 1) := by decide +kernel
theorem dX6_has_24 : decode cX6_has 24 = .ok (.ireturn, 1) := by decide +kernel
theorem dX6_isWithin_0 : decode cX6_isWithin 0 = .ok (.iload_n 0, 1) := by decide +kernel
theorem dX6_isWithin_1 : decode cX6_isWithin 1 = .ok (.iload_n 1, 1) := by decide +kernel
theorem dX6_isWithin_2 : decode cX6_isWithin 2 = .ok (.iconst (-1), 1) := by decide +kernel
theorem dX6_isWithin_3 : decode cX6_isWithin 3 = .ok (.ixor, 1) := by decide +kernel
theorem dX6_isWithin_4 : decode cX6_isWithin 4 = .ok (.iand, 1) := by decide +kernel
theorem dX6_isWithin_5 : decode cX6_isWithin 5 = .ok (.ifCond .ne 7, 3) := by decide +kernel
theorem dX6_isWithin_8 : decode cX6_isWithin 8 = .ok (.iconst 1, 1) := by decide +kernel
theorem dX6_isWithin_9 : decode cX6_isWithin 9 = .ok (.goto 4, 3) := by decide +kernel
theorem dX6_isWithin_12 : decode cX6_isWithin 12 = .ok (.iconst 0, 1) := by decide +kernel
theorem dX6_isWithin_13 : decode cX6_isWithin 13 = .ok (.ireturn, 1) := by decide +kernel
theorem dX6_at_0 : decode cX6_at 0 = .ok (.iload_n 1, 1) := by decide +kernel
theorem dX6_at_1 : decode cX6_at 1 = .ok (.ifCond .lt 15, 3) := by decide +kernel
theorem dX6_at_4 : decode cX6_at 4 = .ok (.iload_n 1, 1) := by decide +kernel
theorem dX6_at_5 : decode cX6_at 5 = .ok (.aload_n 0, 1) := by decide +kernel
theorem dX6_at_6 : decode cX6_at 6 = .ok (.arraylength, 1) := by decide +kernel
theorem dX6_at_7 : decode cX6_at 7 = .ok (.if_icmp .ge 9, 3) := by decide +kernel
theorem dX6_at_10 : decode cX6_at 10 = .ok (.aload_n 0, 1) := by decide +kernel
theorem dX6_at_11 : decode cX6_at 11 = .ok (.iload_n 1, 1) := by decide +kernel
theorem dX6_at_12 : decode cX6_at 12 = .ok (.iaload, 1) := by decide +kernel
theorem dX6_at_13 : decode cX6_at 13 = .ok (.goto 4, 3) := by decide +kernel
theorem dX6_at_16 : decode cX6_at 16 = .ok (.iconst 0, 1) := by decide +kernel
theorem dX6_at_17 : decode cX6_at 17 = .ok (.ireturn, 1) := by decide +kernel
theorem dX6_put_0 : decode cX6_put 0 = .ok (.iload_n 1, 1) := by decide +kernel
theorem dX6_put_1 : decode cX6_put 1 = .ok (.ifCond .lt 13, 3) := by decide +kernel
theorem dX6_put_4 : decode cX6_put 4 = .ok (.iload_n 1, 1) := by decide +kernel
theorem dX6_put_5 : decode cX6_put 5 = .ok (.aload_n 0, 1) := by decide +kernel
theorem dX6_put_6 : decode cX6_put 6 = .ok (.arraylength, 1) := by decide +kernel
theorem dX6_put_7 : decode cX6_put 7 = .ok (.if_icmp .ge 7, 3) := by decide +kernel
theorem dX6_put_10 : decode cX6_put 10 = .ok (.aload_n 0, 1) := by decide +kernel
theorem dX6_put_11 : decode cX6_put 11 = .ok (.iload_n 1, 1) := by decide +kernel
theorem dX6_put_12 : decode cX6_put 12 = .ok (.iload_n 2, 1) := by decide +kernel
theorem dX6_put_13 : decode cX6_put 13 = .ok (.iastore, 1) := by decide +kernel
theorem dX6_put_14 : decode cX6_put 14 = .ok (.return_, 1) := by decide +kernel
theorem dX6_withoutLast_0 : decode cX6_withoutLast 0 = .ok (.lload_n 0, 1) := by decide +kernel
theorem dX6_withoutLast_1 : decode cX6_withoutLast 1 = .ok (.lstore_n 3, 1) := by decide +kernel
theorem dX6_withoutLast_2 : decode cX6_withoutLast 2 = .ok (.iconst 0, 1) := by decide +kernel
theorem dX6_withoutLast_3 : decode cX6_withoutLast 3 = .ok (.istore 5, 2) := by decide +kernel
theorem dX6_withoutLast_5 : decode cX6_withoutLast 5 = .ok (.iload 5, 2) := by decide +kernel
theorem dX6_withoutLast_7 : decode cX6_withoutLast 7 = .ok (.iload_n 2, 1) := by decide +kernel
theorem dX6_withoutLast_8 : decode cX6_withoutLast 8 = .ok (.if_icmp .ge 15, 3) := by decide +kernel
theorem dX6_withoutLast_11 : decode cX6_withoutLast 11 = .ok (.lload_n 3, 1) := by decide +kernel
theorem dX6_withoutLast_12 : decode cX6_withoutLast 12 = .ok (.ldc2_w 203, 3) := by decide +kernel
theorem dX6_withoutLast_15 : decode cX6_withoutLast 15 = .ok (.ldiv, 1) := by decide +kernel
theorem dX6_withoutLast_16 : decode cX6_withoutLast 16 = .ok (.lstore_n 3, 1) := by decide +kernel
theorem dX6_withoutLast_17 : decode cX6_withoutLast 17 = .ok (.iinc 5 1, 3) := by decide +kernel
theorem dX6_withoutLast_20 : decode cX6_withoutLast 20 = .ok (.goto (-15), 3) := by decide +kernel
theorem dX6_withoutLast_23 : decode cX6_withoutLast 23 = .ok (.lload_n 3, 1) := by decide +kernel
theorem dX6_withoutLast_24 : decode cX6_withoutLast 24 = .ok (.lreturn, 1) := by decide +kernel
theorem dX6_ordersOf_0 : decode cX6_ordersOf 0 = .ok (.iconst 1, 1) := by decide +kernel
theorem dX6_ordersOf_1 : decode cX6_ordersOf 1 = .ok (.istore_n 1, 1) := by decide +kernel
theorem dX6_ordersOf_2 : decode cX6_ordersOf 2 = .ok (.iconst 2, 1) := by decide +kernel
theorem dX6_ordersOf_3 : decode cX6_ordersOf 3 = .ok (.istore_n 2, 1) := by decide +kernel
theorem dX6_ordersOf_4 : decode cX6_ordersOf 4 = .ok (.iload_n 2, 1) := by decide +kernel
theorem dX6_ordersOf_5 : decode cX6_ordersOf 5 = .ok (.iload_n 0, 1) := by decide +kernel
theorem dX6_ordersOf_6 : decode cX6_ordersOf 6 = .ok (.if_icmp .gt 13, 3) := by decide +kernel
theorem dX6_ordersOf_9 : decode cX6_ordersOf 9 = .ok (.iload_n 1, 1) := by decide +kernel
theorem dX6_ordersOf_10 : decode cX6_ordersOf 10 = .ok (.iload_n 2, 1) := by decide +kernel
theorem dX6_ordersOf_11 : decode cX6_ordersOf 11 = .ok (.imul, 1) := by decide +kernel
theorem dX6_ordersOf_12 : decode cX6_ordersOf 12 = .ok (.istore_n 1, 1) := by decide +kernel
theorem dX6_ordersOf_13 : decode cX6_ordersOf 13 = .ok (.iinc 2 1, 3) := by decide +kernel
theorem dX6_ordersOf_16 : decode cX6_ordersOf 16 = .ok (.goto (-12), 3) := by decide +kernel
theorem dX6_ordersOf_19 : decode cX6_ordersOf 19 = .ok (.iload_n 1, 1) := by decide +kernel
theorem dX6_ordersOf_20 : decode cX6_ordersOf 20 = .ok (.ireturn, 1) := by decide +kernel
theorem dX6_power_0 : decode cX6_power 0 = .ok (.iconst 1, 1) := by decide +kernel
theorem dX6_power_1 : decode cX6_power 1 = .ok (.istore_n 2, 1) := by decide +kernel
theorem dX6_power_2 : decode cX6_power 2 = .ok (.iconst 0, 1) := by decide +kernel
theorem dX6_power_3 : decode cX6_power 3 = .ok (.istore_n 3, 1) := by decide +kernel
theorem dX6_power_4 : decode cX6_power 4 = .ok (.iload_n 3, 1) := by decide +kernel
theorem dX6_power_5 : decode cX6_power 5 = .ok (.iload_n 1, 1) := by decide +kernel
theorem dX6_power_6 : decode cX6_power 6 = .ok (.if_icmp .ge 13, 3) := by decide +kernel
theorem dX6_power_9 : decode cX6_power 9 = .ok (.iload_n 2, 1) := by decide +kernel
theorem dX6_power_10 : decode cX6_power 10 = .ok (.iload_n 0, 1) := by decide +kernel
theorem dX6_power_11 : decode cX6_power 11 = .ok (.imul, 1) := by decide +kernel
theorem dX6_power_12 : decode cX6_power 12 = .ok (.istore_n 2, 1) := by decide +kernel
theorem dX6_power_13 : decode cX6_power 13 = .ok (.iinc 3 1, 3) := by decide +kernel
theorem dX6_power_16 : decode cX6_power 16 = .ok (.goto (-12), 3) := by decide +kernel
theorem dX6_power_19 : decode cX6_power 19 = .ok (.iload_n 2, 1) := by decide +kernel
theorem dX6_power_20 : decode cX6_power 20 = .ok (.ireturn, 1) := by decide +kernel
theorem dX6_partOf_0 : decode cX6_partOf 0 = .ok (.iload_n 0, 1) := by decide +kernel
theorem dX6_partOf_1 : decode cX6_partOf 1 = .ok (.invokestatic 274, 3) := by decide +kernel
theorem dX6_partOf_4 : decode cX6_partOf 4 = .ok (.iload_n 1, 1) := by decide +kernel
theorem dX6_partOf_5 : decode cX6_partOf 5 = .ok (.invokestatic 279, 3) := by decide +kernel
theorem dX6_partOf_8 : decode cX6_partOf 8 = .ok (.istore_n 3, 1) := by decide +kernel
theorem dX6_partOf_9 : decode cX6_partOf 9 = .ok (.iload_n 3, 1) := by decide +kernel
theorem dX6_partOf_10 : decode cX6_partOf 10 = .ok (.ifCond .ne 5, 3) := by decide +kernel
theorem dX6_partOf_13 : decode cX6_partOf 13 = .ok (.iconst 0, 1) := by decide +kernel
theorem dX6_partOf_14 : decode cX6_partOf 14 = .ok (.ireturn, 1) := by decide +kernel
theorem dX6_partOf_15 : decode cX6_partOf 15 = .ok (.iload_n 2, 1) := by decide +kernel
theorem dX6_partOf_16 : decode cX6_partOf 16 = .ok (.ifCond .eq 9, 3) := by decide +kernel
theorem dX6_partOf_19 : decode cX6_partOf 19 = .ok (.iload_n 0, 1) := by decide +kernel
theorem dX6_partOf_20 : decode cX6_partOf 20 = .ok (.iload_n 3, 1) := by decide +kernel
theorem dX6_partOf_21 : decode cX6_partOf 21 = .ok (.idiv, 1) := by decide +kernel
theorem dX6_partOf_22 : decode cX6_partOf 22 = .ok (.goto 6, 3) := by decide +kernel
theorem dX6_partOf_25 : decode cX6_partOf 25 = .ok (.iload_n 1, 1) := by decide +kernel
theorem dX6_partOf_26 : decode cX6_partOf 26 = .ok (.iload_n 3, 1) := by decide +kernel
theorem dX6_partOf_27 : decode cX6_partOf 27 = .ok (.idiv, 1) := by decide +kernel
theorem dX6_partOf_28 : decode cX6_partOf 28 = .ok (.ireturn, 1) := by decide +kernel
theorem dX6_commonDivisor_0 : decode cX6_commonDivisor 0 = .ok (.iload_n 0, 1) := by decide +kernel
theorem dX6_commonDivisor_1 : decode cX6_commonDivisor 1 = .ok (.istore_n 2, 1) := by decide +kernel
theorem dX6_commonDivisor_2 : decode cX6_commonDivisor 2 = .ok (.iload_n 1, 1) := by decide +kernel
theorem dX6_commonDivisor_3 : decode cX6_commonDivisor 3 = .ok (.istore_n 3, 1) := by decide +kernel
theorem dX6_commonDivisor_4 : decode cX6_commonDivisor 4 = .ok (.iconst 0, 1) := by decide +kernel
theorem dX6_commonDivisor_5 : decode cX6_commonDivisor 5 = .ok (.istore 4, 2) := by decide +kernel
theorem dX6_commonDivisor_7 : decode cX6_commonDivisor 7 = .ok (.iload 4, 2) := by decide +kernel
theorem dX6_commonDivisor_9 : decode cX6_commonDivisor 9 = .ok (.bipush 100, 2) := by decide +kernel
theorem dX6_commonDivisor_11 : decode cX6_commonDivisor 11 = .ok (.if_icmp .ge 23, 3) := by decide +kernel
theorem dX6_commonDivisor_14 : decode cX6_commonDivisor 14 = .ok (.iload_n 3, 1) := by decide +kernel
theorem dX6_commonDivisor_15 : decode cX6_commonDivisor 15 = .ok (.ifCond .eq 19, 3) := by decide +kernel
theorem dX6_commonDivisor_18 : decode cX6_commonDivisor 18 = .ok (.iload_n 2, 1) := by decide +kernel
theorem dX6_commonDivisor_19 : decode cX6_commonDivisor 19 = .ok (.iload_n 3, 1) := by decide +kernel
theorem dX6_commonDivisor_20 : decode cX6_commonDivisor 20 = .ok (.irem, 1) := by decide +kernel
theorem dX6_commonDivisor_21 : decode cX6_commonDivisor 21 = .ok (.istore 5, 2) := by decide +kernel
theorem dX6_commonDivisor_23 : decode cX6_commonDivisor 23 = .ok (.iload_n 3, 1) := by decide +kernel
theorem dX6_commonDivisor_24 : decode cX6_commonDivisor 24 = .ok (.istore_n 2, 1) := by decide +kernel
theorem dX6_commonDivisor_25 : decode cX6_commonDivisor 25 = .ok (.iload 5, 2) := by decide +kernel
theorem dX6_commonDivisor_27 : decode cX6_commonDivisor 27 = .ok (.istore_n 3, 1) := by decide +kernel
theorem dX6_commonDivisor_28 : decode cX6_commonDivisor 28 = .ok (.iinc 4 1, 3) := by decide +kernel
theorem dX6_commonDivisor_31 : decode cX6_commonDivisor 31 = .ok (.goto (-24), 3) := by decide +kernel
theorem dX6_commonDivisor_34 : decode cX6_commonDivisor 34 = .ok (.iload_n 2, 1) := by decide +kernel
theorem dX6_commonDivisor_35 : decode cX6_commonDivisor 35 = .ok (.ireturn, 1) := by decide +kernel
theorem dX6_scenes_0 : decode cX6_scenes 0 = .ok (.iload_n 1, 1) := by decide +kernel
theorem dX6_scenes_1 : decode cX6_scenes 1 = .ok (.ifCond .ge 7, 3) := by decide +kernel
theorem dX6_scenes_4 : decode cX6_scenes 4 = .ok (.iconst 0, 1) := by decide +kernel
theorem dX6_scenes_5 : decode cX6_scenes 5 = .ok (.goto 4, 3) := by decide +kernel
theorem dX6_scenes_8 : decode cX6_scenes 8 = .ok (.iload_n 1, 1) := by decide +kernel
theorem dX6_scenes_9 : decode cX6_scenes 9 = .ok (.anewarray 23, 3) := by decide +kernel
theorem dX6_scenes_12 : decode cX6_scenes 12 = .ok (.astore_n 2, 1) := by decide +kernel
theorem dX6_scenes_13 : decode cX6_scenes 13 = .ok (.iconst 0, 1) := by decide +kernel
theorem dX6_scenes_14 : decode cX6_scenes 14 = .ok (.istore_n 3, 1) := by decide +kernel
theorem dX6_scenes_15 : decode cX6_scenes 15 = .ok (.iload_n 3, 1) := by decide +kernel
theorem dX6_scenes_16 : decode cX6_scenes 16 = .ok (.aload_n 2, 1) := by decide +kernel
theorem dX6_scenes_17 : decode cX6_scenes 17 = .ok (.arraylength, 1) := by decide +kernel
theorem dX6_scenes_18 : decode cX6_scenes 18 = .ok (.if_icmp .ge 20, 3) := by decide +kernel
theorem dX6_scenes_21 : decode cX6_scenes 21 = .ok (.aload_n 2, 1) := by decide +kernel
theorem dX6_scenes_22 : decode cX6_scenes 22 = .ok (.iload_n 3, 1) := by decide +kernel
theorem dX6_scenes_23 : decode cX6_scenes 23 = .ok (.new 23, 3) := by decide +kernel
theorem dX6_scenes_26 : decode cX6_scenes 26 = .ok (.dup, 1) := by decide +kernel
theorem dX6_scenes_27 : decode cX6_scenes 27 = .ok (.aload_n 0, 1) := by decide +kernel
theorem dX6_scenes_28 : decode cX6_scenes 28 = .ok (.invokespecial 25, 3) := by decide +kernel
theorem dX6_scenes_31 : decode cX6_scenes 31 = .ok (.aastore, 1) := by decide +kernel
theorem dX6_scenes_32 : decode cX6_scenes 32 = .ok (.iinc 3 1, 3) := by decide +kernel
theorem dX6_scenes_35 : decode cX6_scenes 35 = .ok (.goto (-20), 3) := by decide +kernel
theorem dX6_scenes_38 : decode cX6_scenes 38 = .ok (.aload_n 2, 1) := by decide +kernel
theorem dX6_scenes_39 : decode cX6_scenes 39 = .ok (.areturn, 1) := by decide +kernel
theorem dX6_sceneAt_0 : decode cX6_sceneAt 0 = .ok (.iload_n 1, 1) := by decide +kernel
theorem dX6_sceneAt_1 : decode cX6_sceneAt 1 = .ok (.ifCond .lt 15, 3) := by decide +kernel
theorem dX6_sceneAt_4 : decode cX6_sceneAt 4 = .ok (.iload_n 1, 1) := by decide +kernel
theorem dX6_sceneAt_5 : decode cX6_sceneAt 5 = .ok (.aload_n 0, 1) := by decide +kernel
theorem dX6_sceneAt_6 : decode cX6_sceneAt 6 = .ok (.arraylength, 1) := by decide +kernel
theorem dX6_sceneAt_7 : decode cX6_sceneAt 7 = .ok (.if_icmp .ge 9, 3) := by decide +kernel
theorem dX6_sceneAt_10 : decode cX6_sceneAt 10 = .ok (.aload_n 0, 1) := by decide +kernel
theorem dX6_sceneAt_11 : decode cX6_sceneAt 11 = .ok (.iload_n 1, 1) := by decide +kernel
theorem dX6_sceneAt_12 : decode cX6_sceneAt 12 = .ok (.aaload, 1) := by decide +kernel
theorem dX6_sceneAt_13 : decode cX6_sceneAt 13 = .ok (.goto 4, 3) := by decide +kernel
theorem dX6_sceneAt_16 : decode cX6_sceneAt 16 = .ok (.aconst_null, 1) := by decide +kernel
theorem dX6_sceneAt_17 : decode cX6_sceneAt 17 = .ok (.areturn, 1) := by decide +kernel
theorem dX7_init_0 : decode cX7_init 0 = .ok (.aload_n 0, 1) := by decide +kernel
theorem dX7_init_1 : decode cX7_init 1 = .ok (.invokespecial 1, 3) := by decide +kernel
theorem dX7_init_4 : decode cX7_init 4 = .ok (.aload_n 0, 1) := by decide +kernel
theorem dX7_init_5 : decode cX7_init 5 = .ok (.bipush 48, 2) := by decide +kernel
theorem dX7_init_7 : decode cX7_init 7 = .ok (.newarray .int, 2) := by decide +kernel
theorem dX7_init_9 : decode cX7_init 9 = .ok (.putfield 7, 3) := by decide +kernel
theorem dX7_init_12 : decode cX7_init 12 = .ok (.aload_n 0, 1) := by decide +kernel
theorem dX7_init_13 : decode cX7_init 13 = .ok (.iconst 5, 1) := by decide +kernel
theorem dX7_init_14 : decode cX7_init 14 = .ok (.newarray .int, 2) := by decide +kernel
theorem dX7_init_16 : decode cX7_init 16 = .ok (.putfield 13, 3) := by decide +kernel
theorem dX7_init_19 : decode cX7_init 19 = .ok (.aload_n 0, 1) := by decide +kernel
theorem dX7_init_20 : decode cX7_init 20 = .ok (.bipush 15, 2) := by decide +kernel
theorem dX7_init_22 : decode cX7_init 22 = .ok (.newarray .int, 2) := by decide +kernel
theorem dX7_init_24 : decode cX7_init 24 = .ok (.putfield 16, 3) := by decide +kernel
theorem dX7_init_27 : decode cX7_init 27 = .ok (.aload_n 0, 1) := by decide +kernel
theorem dX7_init_28 : decode cX7_init 28 = .ok (.bipush 10, 2) := by decide +kernel
theorem dX7_init_30 : decode cX7_init 30 = .ok (.newarray .int, 2) := by decide +kernel
theorem dX7_init_32 : decode cX7_init 32 = .ok (.putfield 19, 3) := by decide +kernel
theorem dX7_init_35 : decode cX7_init 35 = .ok (.aload_n 0, 1) := by decide +kernel
theorem dX7_init_36 : decode cX7_init 36 = .ok (.bipush 15, 2) := by decide +kernel
theorem dX7_init_38 : decode cX7_init 38 = .ok (.newarray .int, 2) := by decide +kernel
theorem dX7_init_40 : decode cX7_init 40 = .ok (.putfield 22, 3) := by decide +kernel
theorem dX7_init_43 : decode cX7_init 43 = .ok (.aload_n 0, 1) := by decide +kernel
theorem dX7_init_44 : decode cX7_init 44 = .ok (.bipush 24, 2) := by decide +kernel
theorem dX7_init_46 : decode cX7_init 46 = .ok (.newarray .int, 2) := by decide +kernel
theorem dX7_init_48 : decode cX7_init 48 = .ok (.putfield 25, 3) := by decide +kernel
theorem dX7_init_51 : decode cX7_init 51 = .ok (.aload_n 0, 1) := by decide +kernel
theorem dX7_init_52 : decode cX7_init 52 = .ok (.bipush 24, 2) := by decide +kernel
theorem dX7_init_54 : decode cX7_init 54 = .ok (.newarray .int, 2) := by decide +kernel
theorem dX7_init_56 : decode cX7_init 56 = .ok (.putfield 28, 3) := by decide +kernel
theorem dX7_init_59 : decode cX7_init 59 = .ok (.aload_n 0, 1) := by decide +kernel
theorem dX7_init_60 : decode cX7_init 60 = .ok (.sipush 336, 3) := by decide +kernel
theorem dX7_init_63 : decode cX7_init 63 = .ok (.newarray .int, 2) := by decide +kernel
theorem dX7_init_65 : decode cX7_init 65 = .ok (.putfield 31, 3) := by decide +kernel
theorem dX7_init_68 : decode cX7_init 68 = .ok (.aload_n 0, 1) := by decide +kernel
theorem dX7_init_69 : decode cX7_init 69 = .ok (.bipush 48, 2) := by decide +kernel
theorem dX7_init_71 : decode cX7_init 71 = .ok (.newarray .int, 2) := by decide +kernel
theorem dX7_init_73 : decode cX7_init 73 = .ok (.putfield 34, 3) := by decide +kernel
theorem dX7_init_76 : decode cX7_init 76 = .ok (.aload_n 0, 1) := by decide +kernel
theorem dX7_init_77 : decode cX7_init 77 = .ok (.iconst 2, 1) := by decide +kernel
theorem dX7_init_78 : decode cX7_init 78 = .ok (.newarray .boolean, 2) := by decide +kernel
theorem dX7_init_80 : decode cX7_init 80 = .ok (.putfield 37, 3) := by decide +kernel
theorem dX7_init_83 : decode cX7_init 83 = .ok (.aload_n 0, 1) := by decide +kernel
theorem dX7_init_84 : decode cX7_init 84 = .ok (.bipush 6, 2) := by decide +kernel
theorem dX7_init_86 : decode cX7_init 86 = .ok (.newarray .int, 2) := by decide +kernel
theorem dX7_init_88 : decode cX7_init 88 = .ok (.putfield 41, 3) := by decide +kernel
theorem dX7_init_91 : decode cX7_init 91 = .ok (.aload_n 0, 1) := by decide +kernel
theorem dX7_init_92 : decode cX7_init 92 = .ok (.bipush 6, 2) := by decide +kernel
theorem dX7_init_94 : decode cX7_init 94 = .ok (.newarray .int, 2) := by decide +kernel
theorem dX7_init_96 : decode cX7_init 96 = .ok (.putfield 44, 3) := by decide +kernel
theorem dX7_init_99 : decode cX7_init 99 = .ok (.aload_n 0, 1) := by decide +kernel
theorem dX7_init_100 : decode cX7_init 100 = .ok (.bipush 6, 2) := by decide +kernel
theorem dX7_init_102 : decode cX7_init 102 = .ok (.newarray .int, 2) := by decide +kernel
theorem dX7_init_104 : decode cX7_init 104 = .ok (.putfield 47, 3) := by decide +kernel
theorem dX7_init_107 : decode cX7_init 107 = .ok (.aload_n 0, 1) := by decide +kernel
theorem dX7_init_108 : decode cX7_init 108 = .ok (.bipush 8, 2) := by decide +kernel
theorem dX7_init_110 : decode cX7_init 110 = .ok (.newarray .int, 2) := by decide +kernel
theorem dX7_init_112 : decode cX7_init 112 = .ok (.putfield 50, 3) := by decide +kernel
theorem dX7_init_115 : decode cX7_init 115 = .ok (.aload_n 0, 1) := by decide +kernel
theorem dX7_init_116 : decode cX7_init 116 = .ok (.bipush 32, 2) := by decide +kernel
theorem dX7_init_118 : decode cX7_init 118 = .ok (.newarray .int, 2) := by decide +kernel
theorem dX7_init_120 : decode cX7_init 120 = .ok (.putfield 53, 3) := by decide +kernel
theorem dX7_init_123 : decode cX7_init 123 = .ok (.return_, 1) := by decide +kernel
theorem dX7_in_0 : decode cX7_in 0 = .ok (.lload_n 0, 1) := by decide +kernel
theorem dX7_in_1 : decode cX7_in 1 = .ok (.lload_n 2, 1) := by decide +kernel
theorem dX7_in_2 : decode cX7_in 2 = .ok (.lcmp, 1) := by decide +kernel
theorem dX7_in_3 : decode cX7_in 3 = .ok (.ifCond .lt 14, 3) := by decide +kernel
theorem dX7_in_6 : decode cX7_in 6 = .ok (.lload_n 0, 1) := by decide +kernel
theorem dX7_in_7 : decode cX7_in 7 = .ok (.lload 4, 2) := by decide +kernel
theorem dX7_in_9 : decode cX7_in 9 = .ok (.lcmp, 1) := by decide +kernel
theorem dX7_in_10 : decode cX7_in 10 = .ok (.ifCond .gt 7, 3) := by decide +kernel
theorem dX7_in_13 : decode cX7_in 13 = .ok (.iconst 1, 1) := by decide +kernel
theorem dX7_in_14 : decode cX7_in 14 = .ok (.goto 4, 3) := by decide +kernel
theorem dX7_in_17 : decode cX7_in 17 = .ok (.iconst 0, 1) := by decide +kernel
theorem dX7_in_18 : decode cX7_in 18 = .ok (.ireturn, 1) := by decide +kernel
theorem dX7_has_0 : decode cX7_has 0 = .ok (.iload_n 0, 1) := by decide +kernel
theorem dX7_has_1 : decode cX7_has 1 = .ok (.iload_n 1, 1) := by decide +kernel
theorem dX7_has_2 : decode cX7_has 2 = .ok (.ishr, 1) := by decide +kernel
theorem dX7_has_3 : decode cX7_has 3 = .ok (.iconst 1, 1) := by decide +kernel
theorem dX7_has_4 : decode cX7_has 4 = .ok (.iand, 1) := by decide +kernel
theorem dX7_has_5 : decode cX7_has 5 = .ok (.iconst 1, 1) := by decide +kernel
theorem dX7_has_6 : decode cX7_has 6 = .ok (.if_icmp .ne 7, 3) := by decide +kernel
theorem dX7_has_9 : decode cX7_has 9 = .ok (.iconst 1, 1) := by decide +kernel
theorem dX7_has_10 : decode cX7_has 10 = .ok (.goto 4, 3) := by decide +kernel
theorem dX7_has_13 : decode cX7_has 13 = .ok (.iconst 0, 1) := by decide +kernel
theorem dX7_has_14 : decode cX7_has 14 = .ok (.ireturn, 1) := by decide +kernel
theorem dX7_many_0 : decode cX7_many 0 = .ok (.iconst 0, 1) := by decide +kernel
theorem dX7_many_1 : decode cX7_many 1 = .ok (.istore_n 1, 1) := by decide +kernel
theorem dX7_many_2 : decode cX7_many 2 = .ok (.iconst 0, 1) := by decide +kernel
theorem dX7_many_3 : decode cX7_many 3 = .ok (.istore_n 2, 1) := by decide +kernel
theorem dX7_many_4 : decode cX7_many 4 = .ok (.iload_n 2, 1) := by decide +kernel
theorem dX7_many_5 : decode cX7_many 5 = .ok (.bipush 6, 2) := by decide +kernel
theorem dX7_many_7 : decode cX7_many 7 = .ok (.if_icmp .ge 17, 3) := by decide +kernel
theorem dX7_many_10 : decode cX7_many 10 = .ok (.iload_n 1, 1) := by decide +kernel
theorem dX7_many_11 : decode cX7_many 11 = .ok (.iload_n 0, 1) := by decide +kernel
theorem dX7_many_12 : decode cX7_many 12 = .ok (.iload_n 2, 1) := by decide +kernel
theorem dX7_many_13 : decode cX7_many 13 = .ok (.ishr, 1) := by decide +kernel
theorem dX7_many_14 : decode cX7_many 14 = .ok (.iconst 1, 1) := by decide +kernel
theorem dX7_many_15 : decode cX7_many 15 = .ok (.iand, 1) := by decide +kernel
theorem dX7_many_16 : decode cX7_many 16 = .ok (.iadd, 1) := by decide +kernel
theorem dX7_many_17 : decode cX7_many 17 = .ok (.istore_n 1, 1) := by decide +kernel
theorem dX7_many_18 : decode cX7_many 18 = .ok (.iinc 2 1, 3) := by decide +kernel
theorem dX7_many_21 : decode cX7_many 21 = .ok (.goto (-17), 3) := by decide +kernel
theorem dX7_many_24 : decode cX7_many 24 = .ok (.iload_n 1, 1) := by decide +kernel
theorem dX7_many_25 : decode cX7_many 25 = .ok (.ireturn, 1) := by decide +kernel
theorem dX7_power_0 : decode cX7_power 0 = .ok (.iconst 1, 1) := by decide +kernel
theorem dX7_power_1 : decode cX7_power 1 = .ok (.istore_n 2, 1) := by decide +kernel
theorem dX7_power_2 : decode cX7_power 2 = .ok (.iconst 0, 1) := by decide +kernel
theorem dX7_power_3 : decode cX7_power 3 = .ok (.istore_n 3, 1) := by decide +kernel
theorem dX7_power_4 : decode cX7_power 4 = .ok (.iload_n 3, 1) := by decide +kernel
theorem dX7_power_5 : decode cX7_power 5 = .ok (.iload_n 1, 1) := by decide +kernel
theorem dX7_power_6 : decode cX7_power 6 = .ok (.if_icmp .ge 13, 3) := by decide +kernel
theorem dX7_power_9 : decode cX7_power 9 = .ok (.iload_n 2, 1) := by decide +kernel
theorem dX7_power_10 : decode cX7_power 10 = .ok (.iload_n 0, 1) := by decide +kernel
theorem dX7_power_11 : decode cX7_power 11 = .ok (.imul, 1) := by decide +kernel
theorem dX7_power_12 : decode cX7_power 12 = .ok (.istore_n 2, 1) := by decide +kernel
theorem dX7_power_13 : decode cX7_power 13 = .ok (.iinc 3 1, 3) := by decide +kernel
theorem dX7_power_16 : decode cX7_power 16 = .ok (.goto (-12), 3) := by decide +kernel
theorem dX7_power_19 : decode cX7_power 19 = .ok (.iload_n 2, 1) := by decide +kernel
theorem dX7_power_20 : decode cX7_power 20 = .ok (.ireturn, 1) := by decide +kernel
theorem dX7_noWalker_0 : decode cX7_noWalker 0 = .ok (.iload_n 1, 1) := by decide +kernel
theorem dX7_noWalker_1 : decode cX7_noWalker 1 = .ok (.i2l, 1) := by decide +kernel
theorem dX7_noWalker_2 : decode cX7_noWalker 2 = .ok (.lconst 0, 1) := by decide +kernel
theorem dX7_noWalker_3 : decode cX7_noWalker 3 = .ok (.aload_n 0, 1) := by decide +kernel
theorem dX7_noWalker_4 : decode cX7_noWalker 4 = .ok (.getfield 60, 3) := by decide +kernel
theorem dX7_noWalker_7 : decode cX7_noWalker 7 = .ok (.iconst 1, 1) := by decide +kernel
theorem dX7_noWalker_8 : decode cX7_noWalker 8 = .ok (.isub, 1) := by decide +kernel
theorem dX7_noWalker_9 : decode cX7_noWalker 9 = .ok (.i2l, 1) := by decide +kernel
theorem dX7_noWalker_10 : decode cX7_noWalker 10 = .ok (.invokestatic 63, 3) := by decide +kernel
theorem dX7_noWalker_13 : decode cX7_noWalker 13 = .ok (.ifCond .ne 7, 3) := by decide +kernel
theorem dX7_noWalker_16 : decode cX7_noWalker 16 = .ok (.iconst 1, 1) := by decide +kernel
theorem dX7_noWalker_17 : decode cX7_noWalker 17 = .ok (.goto 4, 3) := by decide +kernel
theorem dX7_noWalker_20 : decode cX7_noWalker 20 = .ok (.iconst 0, 1) := by decide +kernel
theorem dX7_noWalker_21 : decode cX7_noWalker 21 = .ok (.ireturn, 1) := by decide +kernel
theorem dX7_noStreet_0 : decode cX7_noStreet 0 = .ok (.iload_n 0, 1) := by decide +kernel
theorem dX7_noStreet_1 : decode cX7_noStreet 1 = .ok (.i2l, 1) := by decide +kernel
theorem dX7_noStreet_2 : decode cX7_noStreet 2 = .ok (.lconst 0, 1) := by decide +kernel
theorem dX7_noStreet_3 : decode cX7_noStreet 3 = .ok (.ldc2_w 67, 3) := by decide +kernel
theorem dX7_noStreet_6 : decode cX7_noStreet 6 = .ok (.invokestatic 63, 3) := by decide +kernel
theorem dX7_noStreet_9 : decode cX7_noStreet 9 = .ok (.ifCond .ne 7, 3) := by decide +kernel
theorem dX7_noStreet_12 : decode cX7_noStreet 12 = .ok (.iconst 1, 1) := by decide +kernel
theorem dX7_noStreet_13 : decode cX7_noStreet 13 = .ok (.goto 4, 3) := by decide +kernel
theorem dX7_noStreet_16 : decode cX7_noStreet 16 = .ok (.iconst 0, 1) := by decide +kernel
theorem dX7_noStreet_17 : decode cX7_noStreet 17 = .ok (.ireturn, 1) := by decide +kernel
theorem dX7_write_0 : decode cX7_write 0 = .ok (.aload_n 0, 1) := by decide +kernel
theorem dX7_write_1 : decode cX7_write 1 = .ok (.iconst 0, 1) := by decide +kernel
theorem dX7_write_2 : decode cX7_write 2 = .ok (.putfield 56, 3) := by decide +kernel
theorem dX7_write_5 : decode cX7_write 5 = .ok (.iload_n 1, 1) := by decide +kernel
theorem dX7_write_6 : decode cX7_write 6 = .ok (.i2l, 1) := by decide +kernel
theorem dX7_write_7 : decode cX7_write 7 = .ok (.lconst 0, 1) := by decide +kernel
theorem dX7_write_8 : decode cX7_write 8 = .ok (.ldc2_w 69, 3) := by decide +kernel
theorem dX7_write_11 : decode cX7_write 11 = .ok (.invokestatic 63, 3) := by decide +kernel
theorem dX7_write_14 : decode cX7_write 14 = .ok (.ifCond .ne 6, 3) := by decide +kernel
theorem dX7_write_17 : decode cX7_write 17 = .ok (.bipush (-2), 2) := by decide +kernel
theorem dX7_write_19 : decode cX7_write 19 = .ok (.ireturn, 1) := by decide +kernel
theorem dX7_write_20 : decode cX7_write 20 = .ok (.aload_n 0, 1) := by decide +kernel
theorem dX7_write_21 : decode cX7_write 21 = .ok (.getfield 71, 3) := by decide +kernel
theorem dX7_write_24 : decode cX7_write 24 = .ok (.bipush 48, 2) := by decide +kernel
theorem dX7_write_26 : decode cX7_write 26 = .ok (.if_icmp .ne 6, 3) := by decide +kernel
theorem dX7_write_29 : decode cX7_write 29 = .ok (.bipush (-4), 2) := by decide +kernel
theorem dX7_write_31 : decode cX7_write 31 = .ok (.ireturn, 1) := by decide +kernel
theorem dX7_write_32 : decode cX7_write 32 = .ok (.aload_n 0, 1) := by decide +kernel
theorem dX7_write_33 : decode cX7_write 33 = .ok (.getfield 7, 3) := by decide +kernel
theorem dX7_write_36 : decode cX7_write 36 = .ok (.aload_n 0, 1) := by decide +kernel
theorem dX7_write_37 : decode cX7_write 37 = .ok (.getfield 71, 3) := by decide +kernel
theorem dX7_write_40 : decode cX7_write 40 = .ok (.iload_n 1, 1) := by decide +kernel
theorem dX7_write_41 : decode cX7_write 41 = .ok (.iastore, 1) := by decide +kernel
theorem dX7_write_42 : decode cX7_write 42 = .ok (.aload_n 0, 1) := by decide +kernel
theorem dX7_write_43 : decode cX7_write 43 = .ok (.dup, 1) := by decide +kernel
theorem dX7_write_44 : decode cX7_write 44 = .ok (.getfield 71, 3) := by decide +kernel
theorem dX7_write_47 : decode cX7_write 47 = .ok (.iconst 1, 1) := by decide +kernel
theorem dX7_write_48 : decode cX7_write 48 = .ok (.iadd, 1) := by decide +kernel
theorem dX7_write_49 : decode cX7_write 49 = .ok (.putfield 71, 3) := by decide +kernel
theorem dX7_write_52 : decode cX7_write 52 = .ok (.aload_n 0, 1) := by decide +kernel
theorem dX7_write_53 : decode cX7_write 53 = .ok (.getfield 71, 3) := by decide +kernel
theorem dX7_write_56 : decode cX7_write 56 = .ok (.ireturn, 1) := by decide +kernel
theorem dX7_wipe_0 : decode cX7_wipe 0 = .ok (.aload_n 0, 1) := by decide +kernel
theorem dX7_wipe_1 : decode cX7_wipe 1 = .ok (.iconst 0, 1) := by decide +kernel
theorem dX7_wipe_2 : decode cX7_wipe 2 = .ok (.putfield 56, 3) := by decide +kernel
theorem dX7_wipe_5 : decode cX7_wipe 5 = .ok (.aload_n 0, 1) := by decide +kernel
theorem dX7_wipe_6 : decode cX7_wipe 6 = .ok (.getfield 71, 3) := by decide +kernel
theorem dX7_wipe_9 : decode cX7_wipe 9 = .ok (.istore_n 1, 1) := by decide +kernel
theorem dX7_wipe_10 : decode cX7_wipe 10 = .ok (.aload_n 0, 1) := by decide +kernel
theorem dX7_wipe_11 : decode cX7_wipe 11 = .ok (.iconst 0, 1) := by decide +kernel
theorem dX7_wipe_12 : decode cX7_wipe 12 = .ok (.putfield 71, 3) := by decide +kernel
theorem dX7_wipe_15 : decode cX7_wipe 15 = .ok (.iload_n 1, 1) := by decide +kernel
theorem dX7_wipe_16 : decode cX7_wipe 16 = .ok (.ireturn, 1) := by decide +kernel
theorem dX7_figure_0 : decode cX7_figure 0 = .ok (.aload_n 0, 1) := by decide +kernel
theorem dX7_figure_1 : decode cX7_figure 1 = .ok (.getfield 74, 3) := by decide +kernel
theorem dX7_figure_4 : decode cX7_figure 4 = .ok (.aload_n 0, 1) := by decide +kernel
theorem dX7_figure_5 : decode cX7_figure 5 = .ok (.getfield 71, 3) := by decide +kernel
theorem dX7_figure_8 : decode cX7_figure 8 = .ok (.if_icmp .eq 26, 3) := by decide +kernel
theorem dX7_figure_11 : decode cX7_figure 11 = .ok (.aload_n 0, 1) := by decide +kernel
theorem dX7_figure_12 : decode cX7_figure 12 = .ok (.getfield 7, 3) := by decide +kernel
theorem dX7_figure_15 : decode cX7_figure 15 = .ok (.aload_n 0, 1) := by decide +kernel
theorem dX7_figure_16 : decode cX7_figure 16 = .ok (.getfield 74, 3) := by decide +kernel
theorem dX7_figure_19 : decode cX7_figure 19 = .ok (.iaload, 1) := by decide +kernel
theorem dX7_figure_20 : decode cX7_figure 20 = .ok (.bipush 48, 2) := by decide +kernel
theorem dX7_figure_22 : decode cX7_figure 22 = .ok (.isub, 1) := by decide +kernel
theorem dX7_figure_23 : decode cX7_figure 23 = .ok (.i2l, 1) := by decide +kernel
theorem dX7_figure_24 : decode cX7_figure 24 = .ok (.iload_n 1, 1) := by decide +kernel
theorem dX7_figure_25 : decode cX7_figure 25 = .ok (.i2l, 1) := by decide +kernel
theorem dX7_figure_26 : decode cX7_figure 26 = .ok (.iload_n 2, 1) := by decide +kernel
theorem dX7_figure_27 : decode cX7_figure 27 = .ok (.i2l, 1) := by decide +kernel
theorem dX7_figure_28 : decode cX7_figure 28 = .ok (.invokestatic 63, 3) := by decide +kernel
theorem dX7_figure_31 : decode cX7_figure 31 = .ok (.ifCond .ne 6, 3) := by decide +kernel
theorem dX7_figure_34 : decode cX7_figure 34 = .ok (.bipush (-9), 2) := by decide +kernel
theorem dX7_figure_36 : decode cX7_figure 36 = .ok (.ireturn, 1) := by decide +kernel
theorem dX7_figure_37 : decode cX7_figure 37 = .ok (.aload_n 0, 1) := by decide +kernel
theorem dX7_figure_38 : decode cX7_figure 38 = .ok (.dup, 1) := by decide +kernel
theorem dX7_figure_39 : decode cX7_figure 39 = .ok (.getfield 74, 3) := by decide +kernel
theorem dX7_figure_42 : decode cX7_figure 42 = .ok (.iconst 1, 1) := by decide +kernel
theorem dX7_figure_43 : decode cX7_figure 43 = .ok (.iadd, 1) := by decide +kernel
theorem dX7_figure_44 : decode cX7_figure 44 = .ok (.putfield 74, 3) := by decide +kernel
theorem dX7_figure_47 : decode cX7_figure 47 = .ok (.aload_n 0, 1) := by decide +kernel
theorem dX7_figure_48 : decode cX7_figure 48 = .ok (.getfield 7, 3) := by decide +kernel
theorem dX7_figure_51 : decode cX7_figure 51 = .ok (.aload_n 0, 1) := by decide +kernel
theorem dX7_figure_52 : decode cX7_figure 52 = .ok (.getfield 74, 3) := by decide +kernel
theorem dX7_figure_55 : decode cX7_figure 55 = .ok (.iconst 1, 1) := by decide +kernel
theorem dX7_figure_56 : decode cX7_figure 56 = .ok (.isub, 1) := by decide +kernel
theorem dX7_figure_57 : decode cX7_figure 57 = .ok (.iaload, 1) := by decide +kernel
theorem dX7_figure_58 : decode cX7_figure 58 = .ok (.bipush 48, 2) := by decide +kernel
theorem dX7_figure_60 : decode cX7_figure 60 = .ok (.isub, 1) := by decide +kernel
theorem dX7_figure_61 : decode cX7_figure 61 = .ok (.ireturn, 1) := by decide +kernel
theorem dX7_readOneWalker_0 : decode cX7_readOneWalker 0 = .ok (.aload_n 0, 1) := by decide +kernel
theorem dX7_readOneWalker_1 : decode cX7_readOneWalker 1 = .ok (.iconst 0, 1) := by decide +kernel
theorem dX7_readOneWalker_2 : decode cX7_readOneWalker 2 = .ok (.iconst 5, 1) := by decide +kernel
theorem dX7_readOneWalker_3 : decode cX7_readOneWalker 3 = .ok (.invokevirtual 77, 3) := by decide +kernel
theorem dX7_readOneWalker_6 : decode cX7_readOneWalker 6 = .ok (.istore_n 1, 1) := by decide +kernel
theorem dX7_readOneWalker_7 : decode cX7_readOneWalker 7 = .ok (.iload_n 1, 1) := by decide +kernel
theorem dX7_readOneWalker_8 : decode cX7_readOneWalker 8 = .ok (.bipush (-9), 2) := by decide +kernel
theorem dX7_readOneWalker_10 : decode cX7_readOneWalker 10 = .ok (.if_icmp .ne 8, 3) := by decide +kernel
theorem dX7_readOneWalker_13 : decode cX7_readOneWalker 13 = .ok (.bipush (-9), 2) := by decide +kernel
theorem dX7_readOneWalker_15 : decode cX7_readOneWalker 15 = .ok (.goto 9, 3) := by decide +kernel
theorem dX7_readOneWalker_18 : decode cX7_readOneWalker 18 = .ok (.aload_n 0, 1) := by decide +kernel
theorem dX7_readOneWalker_19 : decode cX7_readOneWalker 19 = .ok (.iconst 0, 1) := by decide +kernel
theorem dX7_readOneWalker_20 : decode cX7_readOneWalker 20 = .ok (.iconst 3, 1) := by decide +kernel
theorem dX7_readOneWalker_21 : decode cX7_readOneWalker 21 = .ok (.invokevirtual 77, 3) := by decide +kernel
theorem dX7_readOneWalker_24 : decode cX7_readOneWalker 24 = .ok (.istore_n 2, 1) := by decide +kernel
theorem dX7_readOneWalker_25 : decode cX7_readOneWalker 25 = .ok (.iload_n 2, 1) := by decide +kernel
theorem dX7_readOneWalker_26 : decode cX7_readOneWalker 26 = .ok (.bipush (-9), 2) := by decide +kernel
theorem dX7_readOneWalker_28 : decode cX7_readOneWalker 28 = .ok (.if_icmp .ne 5, 3) := by decide +kernel
theorem dX7_readOneWalker_31 : decode cX7_readOneWalker 31 = .ok (.iconst 0, 1) := by decide +kernel
theorem dX7_readOneWalker_32 : decode cX7_readOneWalker 32 = .ok (.ireturn, 1) := by decide +kernel
theorem dX7_readOneWalker_33 : decode cX7_readOneWalker 33 = .ok (.aload_n 0, 1) := by decide +kernel
theorem dX7_readOneWalker_34 : decode cX7_readOneWalker 34 = .ok (.getfield 19, 3) := by decide +kernel
theorem dX7_readOneWalker_37 : decode cX7_readOneWalker 37 = .ok (.iconst 2, 1) := by decide +kernel
theorem dX7_readOneWalker_38 : decode cX7_readOneWalker 38 = .ok (.aload_n 0, 1) := by decide +kernel
theorem dX7_readOneWalker_39 : decode cX7_readOneWalker 39 = .ok (.getfield 81, 3) := by decide +kernel
theorem dX7_readOneWalker_42 : decode cX7_readOneWalker 42 = .ok (.imul, 1) := by decide +kernel
theorem dX7_readOneWalker_43 : decode cX7_readOneWalker 43 = .ok (.iload_n 1, 1) := by decide +kernel
theorem dX7_readOneWalker_44 : decode cX7_readOneWalker 44 = .ok (.iastore, 1) := by decide +kernel
theorem dX7_readOneWalker_45 : decode cX7_readOneWalker 45 = .ok (.aload_n 0, 1) := by decide +kernel
theorem dX7_readOneWalker_46 : decode cX7_readOneWalker 46 = .ok (.getfield 19, 3) := by decide +kernel
theorem dX7_readOneWalker_49 : decode cX7_readOneWalker 49 = .ok (.iconst 2, 1) := by decide +kernel
theorem dX7_readOneWalker_50 : decode cX7_readOneWalker 50 = .ok (.aload_n 0, 1) := by decide +kernel
theorem dX7_readOneWalker_51 : decode cX7_readOneWalker 51 = .ok (.getfield 81, 3) := by decide +kernel
theorem dX7_readOneWalker_54 : decode cX7_readOneWalker 54 = .ok (.imul, 1) := by decide +kernel
theorem dX7_readOneWalker_55 : decode cX7_readOneWalker 55 = .ok (.iconst 1, 1) := by decide +kernel
theorem dX7_readOneWalker_56 : decode cX7_readOneWalker 56 = .ok (.iadd, 1) := by decide +kernel
theorem dX7_readOneWalker_57 : decode cX7_readOneWalker 57 = .ok (.iload_n 2, 1) := by decide +kernel
theorem dX7_readOneWalker_58 : decode cX7_readOneWalker 58 = .ok (.iastore, 1) := by decide +kernel
theorem dX7_readOneWalker_59 : decode cX7_readOneWalker 59 = .ok (.aload_n 0, 1) := by decide +kernel
theorem dX7_readOneWalker_60 : decode cX7_readOneWalker 60 = .ok (.dup, 1) := by decide +kernel
theorem dX7_readOneWalker_61 : decode cX7_readOneWalker 61 = .ok (.getfield 81, 3) := by decide +kernel
theorem dX7_readOneWalker_64 : decode cX7_readOneWalker 64 = .ok (.iconst 1, 1) := by decide +kernel
theorem dX7_readOneWalker_65 : decode cX7_readOneWalker 65 = .ok (.iadd, 1) := by decide +kernel
theorem dX7_readOneWalker_66 : decode cX7_readOneWalker 66 = .ok (.putfield 81, 3) := by decide +kernel
theorem dX7_readOneWalker_69 : decode cX7_readOneWalker 69 = .ok (.iconst 1, 1) := by decide +kernel
theorem dX7_readOneWalker_70 : decode cX7_readOneWalker 70 = .ok (.ireturn, 1) := by decide +kernel
theorem dX7_readOneNeed_0 : decode cX7_readOneNeed 0 = .ok (.aload_n 0, 1) := by decide +kernel
theorem dX7_readOneNeed_1 : decode cX7_readOneNeed 1 = .ok (.iconst 0, 1) := by decide +kernel
theorem dX7_readOneNeed_2 : decode cX7_readOneNeed 2 = .ok (.iconst 5, 1) := by decide +kernel
theorem dX7_readOneNeed_3 : decode cX7_readOneNeed 3 = .ok (.invokevirtual 77, 3) := by decide +kernel
theorem dX7_readOneNeed_6 : decode cX7_readOneNeed 6 = .ok (.istore_n 1, 1) := by decide +kernel
theorem dX7_readOneNeed_7 : decode cX7_readOneNeed 7 = .ok (.iload_n 1, 1) := by decide +kernel
theorem dX7_readOneNeed_8 : decode cX7_readOneNeed 8 = .ok (.bipush (-9), 2) := by decide +kernel
theorem dX7_readOneNeed_10 : decode cX7_readOneNeed 10 = .ok (.if_icmp .ne 8, 3) := by decide +kernel
theorem dX7_readOneNeed_13 : decode cX7_readOneNeed 13 = .ok (.bipush (-9), 2) := by decide +kernel
theorem dX7_readOneNeed_15 : decode cX7_readOneNeed 15 = .ok (.goto 9, 3) := by decide +kernel
theorem dX7_readOneNeed_18 : decode cX7_readOneNeed 18 = .ok (.aload_n 0, 1) := by decide +kernel
theorem dX7_readOneNeed_19 : decode cX7_readOneNeed 19 = .ok (.iconst 0, 1) := by decide +kernel
theorem dX7_readOneNeed_20 : decode cX7_readOneNeed 20 = .ok (.iconst 2, 1) := by decide +kernel
theorem dX7_readOneNeed_21 : decode cX7_readOneNeed 21 = .ok (.invokevirtual 77, 3) := by decide +kernel
theorem dX7_readOneNeed_24 : decode cX7_readOneNeed 24 = .ok (.istore_n 2, 1) := by decide +kernel
theorem dX7_readOneNeed_25 : decode cX7_readOneNeed 25 = .ok (.iload_n 2, 1) := by decide +kernel
theorem dX7_readOneNeed_26 : decode cX7_readOneNeed 26 = .ok (.bipush (-9), 2) := by decide +kernel
theorem dX7_readOneNeed_28 : decode cX7_readOneNeed 28 = .ok (.if_icmp .ne 8, 3) := by decide +kernel
theorem dX7_readOneNeed_31 : decode cX7_readOneNeed 31 = .ok (.bipush (-9), 2) := by decide +kernel
theorem dX7_readOneNeed_33 : decode cX7_readOneNeed 33 = .ok (.goto 19, 3) := by decide +kernel
theorem dX7_readOneNeed_36 : decode cX7_readOneNeed 36 = .ok (.aload_n 0, 1) := by decide +kernel
theorem dX7_readOneNeed_37 : decode cX7_readOneNeed 37 = .ok (.iload_n 2, 1) := by decide +kernel
theorem dX7_readOneNeed_38 : decode cX7_readOneNeed 38 = .ok (.iconst 1, 1) := by decide +kernel
theorem dX7_readOneNeed_39 : decode cX7_readOneNeed 39 = .ok (.if_icmp .ne 7, 3) := by decide +kernel
theorem dX7_readOneNeed_42 : decode cX7_readOneNeed 42 = .ok (.iconst 1, 1) := by decide +kernel
theorem dX7_readOneNeed_43 : decode cX7_readOneNeed 43 = .ok (.goto 4, 3) := by decide +kernel
theorem dX7_readOneNeed_46 : decode cX7_readOneNeed 46 = .ok (.iconst 0, 1) := by decide +kernel
theorem dX7_readOneNeed_47 : decode cX7_readOneNeed 47 = .ok (.bipush 9, 2) := by decide +kernel
theorem dX7_readOneNeed_49 : decode cX7_readOneNeed 49 = .ok (.invokevirtual 77, 3) := by decide +kernel
theorem dX7_readOneNeed_52 : decode cX7_readOneNeed 52 = .ok (.istore_n 3, 1) := by decide +kernel
theorem dX7_readOneNeed_53 : decode cX7_readOneNeed 53 = .ok (.iload_n 3, 1) := by decide +kernel
theorem dX7_readOneNeed_54 : decode cX7_readOneNeed 54 = .ok (.bipush (-9), 2) := by decide +kernel
theorem dX7_readOneNeed_56 : decode cX7_readOneNeed 56 = .ok (.if_icmp .ne 5, 3) := by decide +kernel
theorem dX7_readOneNeed_59 : decode cX7_readOneNeed 59 = .ok (.iconst 0, 1) := by decide +kernel
theorem dX7_readOneNeed_60 : decode cX7_readOneNeed 60 = .ok (.ireturn, 1) := by decide +kernel
theorem dX7_readOneNeed_61 : decode cX7_readOneNeed 61 = .ok (.aload_n 0, 1) := by decide +kernel
theorem dX7_readOneNeed_62 : decode cX7_readOneNeed 62 = .ok (.getfield 22, 3) := by decide +kernel
theorem dX7_readOneNeed_65 : decode cX7_readOneNeed 65 = .ok (.iconst 3, 1) := by decide +kernel
theorem dX7_readOneNeed_66 : decode cX7_readOneNeed 66 = .ok (.aload_n 0, 1) := by decide +kernel
theorem dX7_readOneNeed_67 : decode cX7_readOneNeed 67 = .ok (.getfield 84, 3) := by decide +kernel
theorem dX7_readOneNeed_70 : decode cX7_readOneNeed 70 = .ok (.imul, 1) := by decide +kernel
theorem dX7_readOneNeed_71 : decode cX7_readOneNeed 71 = .ok (.iload_n 1, 1) := by decide +kernel
theorem dX7_readOneNeed_72 : decode cX7_readOneNeed 72 = .ok (.iastore, 1) := by decide +kernel
theorem dX7_readOneNeed_73 : decode cX7_readOneNeed 73 = .ok (.aload_n 0, 1) := by decide +kernel
theorem dX7_readOneNeed_74 : decode cX7_readOneNeed 74 = .ok (.getfield 22, 3) := by decide +kernel
theorem dX7_readOneNeed_77 : decode cX7_readOneNeed 77 = .ok (.iconst 3, 1) := by decide +kernel
theorem dX7_readOneNeed_78 : decode cX7_readOneNeed 78 = .ok (.aload_n 0, 1) := by decide +kernel
theorem dX7_readOneNeed_79 : decode cX7_readOneNeed 79 = .ok (.getfield 84, 3) := by decide +kernel
theorem dX7_readOneNeed_82 : decode cX7_readOneNeed 82 = .ok (.imul, 1) := by decide +kernel
theorem dX7_readOneNeed_83 : decode cX7_readOneNeed 83 = .ok (.iconst 1, 1) := by decide +kernel
theorem dX7_readOneNeed_84 : decode cX7_readOneNeed 84 = .ok (.iadd, 1) := by decide +kernel
theorem dX7_readOneNeed_85 : decode cX7_readOneNeed 85 = .ok (.iload_n 2, 1) := by decide +kernel
theorem dX7_readOneNeed_86 : decode cX7_readOneNeed 86 = .ok (.iastore, 1) := by decide +kernel
theorem dX7_readOneNeed_87 : decode cX7_readOneNeed 87 = .ok (.aload_n 0, 1) := by decide +kernel
theorem dX7_readOneNeed_88 : decode cX7_readOneNeed 88 = .ok (.getfield 22, 3) := by decide +kernel
theorem dX7_readOneNeed_91 : decode cX7_readOneNeed 91 = .ok (.iconst 3, 1) := by decide +kernel
theorem dX7_readOneNeed_92 : decode cX7_readOneNeed 92 = .ok (.aload_n 0, 1) := by decide +kernel
theorem dX7_readOneNeed_93 : decode cX7_readOneNeed 93 = .ok (.getfield 84, 3) := by decide +kernel
theorem dX7_readOneNeed_96 : decode cX7_readOneNeed 96 = .ok (.imul, 1) := by decide +kernel
theorem dX7_readOneNeed_97 : decode cX7_readOneNeed 97 = .ok (.iconst 2, 1) := by decide +kernel
theorem dX7_readOneNeed_98 : decode cX7_readOneNeed 98 = .ok (.iadd, 1) := by decide +kernel
theorem dX7_readOneNeed_99 : decode cX7_readOneNeed 99 = .ok (.iload_n 3, 1) := by decide +kernel
theorem dX7_readOneNeed_100 : decode cX7_readOneNeed 100 = .ok (.iastore, 1) := by decide +kernel
theorem dX7_readOneNeed_101 : decode cX7_readOneNeed 101 = .ok (.aload_n 0, 1) := by decide +kernel
theorem dX7_readOneNeed_102 : decode cX7_readOneNeed 102 = .ok (.dup, 1) := by decide +kernel
theorem dX7_readOneNeed_103 : decode cX7_readOneNeed 103 = .ok (.getfield 84, 3) := by decide +kernel
theorem dX7_readOneNeed_106 : decode cX7_readOneNeed 106 = .ok (.iconst 1, 1) := by decide +kernel
theorem dX7_readOneNeed_107 : decode cX7_readOneNeed 107 = .ok (.iadd, 1) := by decide +kernel
theorem dX7_readOneNeed_108 : decode cX7_readOneNeed 108 = .ok (.putfield 84, 3) := by decide +kernel
theorem dX7_readOneNeed_111 : decode cX7_readOneNeed 111 = .ok (.iconst 1, 1) := by decide +kernel
theorem dX7_readOneNeed_112 : decode cX7_readOneNeed 112 = .ok (.ireturn, 1) := by decide +kernel
theorem dX7_readThing_0 : decode cX7_readThing 0 = .ok (.aload_n 0, 1) := by decide +kernel
theorem dX7_readThing_1 : decode cX7_readThing 1 = .ok (.getfield 7, 3) := by decide +kernel
theorem dX7_readThing_4 : decode cX7_readThing 4 = .ok (.aload_n 0, 1) := by decide +kernel
theorem dX7_readThing_5 : decode cX7_readThing 5 = .ok (.getfield 74, 3) := by decide +kernel
theorem dX7_readThing_8 : decode cX7_readThing 8 = .ok (.iaload, 1) := by decide +kernel
theorem dX7_readThing_9 : decode cX7_readThing 9 = .ok (.istore_n 1, 1) := by decide +kernel
theorem dX7_readThing_10 : decode cX7_readThing 10 = .ok (.aload_n 0, 1) := by decide +kernel
theorem dX7_readThing_11 : decode cX7_readThing 11 = .ok (.dup, 1) := by decide +kernel
theorem dX7_readThing_12 : decode cX7_readThing 12 = .ok (.getfield 74, 3) := by decide +kernel
theorem dX7_readThing_15 : decode cX7_readThing 15 = .ok (.iconst 1, 1) := by decide +kernel
theorem dX7_readThing_16 : decode cX7_readThing 16 = .ok (.iadd, 1) := by decide +kernel
theorem dX7_readThing_17 : decode cX7_readThing 17 = .ok (.putfield 74, 3) := by decide +kernel
theorem dX7_readThing_20 : decode cX7_readThing 20 = .ok (.iload_n 1, 1) := by decide +kernel
theorem dX7_readThing_21 : decode cX7_readThing 21 = .ok (.bipush 87, 2) := by decide +kernel
theorem dX7_readThing_23 : decode cX7_readThing 23 = .ok (.if_icmp .ne 16, 3) := by decide +kernel
theorem dX7_readThing_26 : decode cX7_readThing 26 = .ok (.aload_n 0, 1) := by decide +kernel
theorem dX7_readThing_27 : decode cX7_readThing 27 = .ok (.getfield 81, 3) := by decide +kernel
theorem dX7_readThing_30 : decode cX7_readThing 30 = .ok (.iconst 5, 1) := by decide +kernel
theorem dX7_readThing_31 : decode cX7_readThing 31 = .ok (.if_icmp .ge 8, 3) := by decide +kernel
theorem dX7_readThing_34 : decode cX7_readThing 34 = .ok (.aload_n 0, 1) := by decide +kernel
theorem dX7_readThing_35 : decode cX7_readThing 35 = .ok (.invokevirtual 87, 3) := by decide +kernel
theorem dX7_readThing_38 : decode cX7_readThing 38 = .ok (.ireturn, 1) := by decide +kernel
theorem dX7_readThing_39 : decode cX7_readThing 39 = .ok (.iload_n 1, 1) := by decide +kernel
theorem dX7_readThing_40 : decode cX7_readThing 40 = .ok (.bipush 78, 2) := by decide +kernel
theorem dX7_readThing_42 : decode cX7_readThing 42 = .ok (.if_icmp .ne 16, 3) := by decide +kernel
theorem dX7_readThing_45 : decode cX7_readThing 45 = .ok (.aload_n 0, 1) := by decide +kernel
theorem dX7_readThing_46 : decode cX7_readThing 46 = .ok (.getfield 84, 3) := by decide +kernel
theorem dX7_readThing_49 : decode cX7_readThing 49 = .ok (.iconst 5, 1) := by decide +kernel
theorem dX7_readThing_50 : decode cX7_readThing 50 = .ok (.if_icmp .ge 8, 3) := by decide +kernel
theorem dX7_readThing_53 : decode cX7_readThing 53 = .ok (.aload_n 0, 1) := by decide +kernel
theorem dX7_readThing_54 : decode cX7_readThing 54 = .ok (.invokevirtual 91, 3) := by decide +kernel
theorem dX7_readThing_57 : decode cX7_readThing 57 = .ok (.ireturn, 1) := by decide +kernel
theorem dX7_readThing_58 : decode cX7_readThing 58 = .ok (.aload_n 0, 1) := by decide +kernel
theorem dX7_readThing_59 : decode cX7_readThing 59 = .ok (.dup, 1) := by decide +kernel
theorem dX7_readThing_60 : decode cX7_readThing 60 = .ok (.getfield 74, 3) := by decide +kernel
theorem dX7_readThing_63 : decode cX7_readThing 63 = .ok (.iconst 1, 1) := by decide +kernel
theorem dX7_readThing_64 : decode cX7_readThing 64 = .ok (.isub, 1) := by decide +kernel
theorem dX7_readThing_65 : decode cX7_readThing 65 = .ok (.putfield 74, 3) := by decide +kernel
theorem dX7_readThing_68 : decode cX7_readThing 68 = .ok (.iconst 0, 1) := by decide +kernel
theorem dX7_readThing_69 : decode cX7_readThing 69 = .ok (.ireturn, 1) := by decide +kernel
theorem dX7_readTown_0 : decode cX7_readTown 0 = .ok (.aload_n 0, 1) := by decide +kernel
theorem dX7_readTown_1 : decode cX7_readTown 1 = .ok (.iconst 0, 1) := by decide +kernel
theorem dX7_readTown_2 : decode cX7_readTown 2 = .ok (.putfield 74, 3) := by decide +kernel
theorem dX7_readTown_5 : decode cX7_readTown 5 = .ok (.aload_n 0, 1) := by decide +kernel
theorem dX7_readTown_6 : decode cX7_readTown 6 = .ok (.iconst 0, 1) := by decide +kernel
theorem dX7_readTown_7 : decode cX7_readTown 7 = .ok (.putfield 81, 3) := by decide +kernel
theorem dX7_readTown_10 : decode cX7_readTown 10 = .ok (.aload_n 0, 1) := by decide +kernel
theorem dX7_readTown_11 : decode cX7_readTown 11 = .ok (.iconst 0, 1) := by decide +kernel
theorem dX7_readTown_12 : decode cX7_readTown 12 = .ok (.putfield 84, 3) := by decide +kernel
theorem dX7_readTown_15 : decode cX7_readTown 15 = .ok (.aload_n 0, 1) := by decide +kernel
theorem dX7_readTown_16 : decode cX7_readTown 16 = .ok (.getfield 71, 3) := by decide +kernel
theorem dX7_readTown_19 : decode cX7_readTown 19 = .ok (.ifCond .eq 14, 3) := by decide +kernel
theorem dX7_readTown_22 : decode cX7_readTown 22 = .ok (.aload_n 0, 1) := by decide +kernel
theorem dX7_readTown_23 : decode cX7_readTown 23 = .ok (.getfield 7, 3) := by decide +kernel
theorem dX7_readTown_26 : decode cX7_readTown 26 = .ok (.iconst 0, 1) := by decide +kernel
theorem dX7_readTown_27 : decode cX7_readTown 27 = .ok (.iaload, 1) := by decide +kernel
theorem dX7_readTown_28 : decode cX7_readTown 28 = .ok (.bipush 85, 2) := by decide +kernel
theorem dX7_readTown_30 : decode cX7_readTown 30 = .ok (.if_icmp .eq 5, 3) := by decide +kernel
theorem dX7_readTown_33 : decode cX7_readTown 33 = .ok (.iconst 0, 1) := by decide +kernel
theorem dX7_readTown_34 : decode cX7_readTown 34 = .ok (.ireturn, 1) := by decide +kernel
theorem dX7_readTown_35 : decode cX7_readTown 35 = .ok (.aload_n 0, 1) := by decide +kernel
theorem dX7_readTown_36 : decode cX7_readTown 36 = .ok (.iconst 1, 1) := by decide +kernel
theorem dX7_readTown_37 : decode cX7_readTown 37 = .ok (.putfield 74, 3) := by decide +kernel
theorem dX7_readTown_40 : decode cX7_readTown 40 = .ok (.aload_n 0, 1) := by decide +kernel
theorem dX7_readTown_41 : decode cX7_readTown 41 = .ok (.getfield 74, 3) := by decide +kernel
theorem dX7_readTown_44 : decode cX7_readTown 44 = .ok (.aload_n 0, 1) := by decide +kernel
theorem dX7_readTown_45 : decode cX7_readTown 45 = .ok (.getfield 71, 3) := by decide +kernel
theorem dX7_readTown_48 : decode cX7_readTown 48 = .ok (.if_icmp .ge 15, 3) := by decide +kernel
theorem dX7_readTown_51 : decode cX7_readTown 51 = .ok (.aload_n 0, 1) := by decide +kernel
theorem dX7_readTown_52 : decode cX7_readTown 52 = .ok (.invokevirtual 94, 3) := by decide +kernel
theorem dX7_readTown_55 : decode cX7_readTown 55 = .ok (.ifCond .ne (-15), 3) := by decide +kernel
theorem dX7_readTown_58 : decode cX7_readTown 58 = .ok (.aload_n 0, 1) := by decide +kernel
theorem dX7_readTown_59 : decode cX7_readTown 59 = .ok (.getfield 74, 3) := by decide +kernel
theorem dX7_readTown_62 : decode cX7_readTown 62 = .ok (.ireturn, 1) := by decide +kernel
theorem dX7_readTown_63 : decode cX7_readTown 63 = .ok (.bipush (-9), 2) := by decide +kernel
theorem dX7_readTown_65 : decode cX7_readTown 65 = .ok (.ireturn, 1) := by decide +kernel
theorem dX7_fault_0 : decode cX7_fault 0 = .ok (.aload_n 0, 1) := by decide +kernel
theorem dX7_fault_1 : decode cX7_fault 1 = .ok (.iconst 0, 1) := by decide +kernel
theorem dX7_fault_2 : decode cX7_fault 2 = .ok (.putfield 56, 3) := by decide +kernel
theorem dX7_fault_5 : decode cX7_fault 5 = .ok (.aload_n 0, 1) := by decide +kernel
theorem dX7_fault_6 : decode cX7_fault 6 = .ok (.invokevirtual 97, 3) := by decide +kernel
theorem dX7_fault_9 : decode cX7_fault 9 = .ok (.ireturn, 1) := by decide +kernel
theorem dX7_town_0 : decode cX7_town 0 = .ok (.aload_n 0, 1) := by decide +kernel
theorem dX7_town_1 : decode cX7_town 1 = .ok (.iconst 0, 1) := by decide +kernel
theorem dX7_town_2 : decode cX7_town 2 = .ok (.putfield 56, 3) := by decide +kernel
theorem dX7_town_5 : decode cX7_town 5 = .ok (.aload_n 0, 1) := by decide +kernel
theorem dX7_town_6 : decode cX7_town 6 = .ok (.invokevirtual 97, 3) := by decide +kernel
theorem dX7_town_9 : decode cX7_town 9 = .ok (.bipush (-9), 2) := by decide +kernel
theorem dX7_town_11 : decode cX7_town 11 = .ok (.if_icmp .eq 6, 3) := by decide +kernel
theorem dX7_town_14 : decode cX7_town 14 = .ok (.bipush (-3), 2) := by decide +kernel
theorem dX7_town_16 : decode cX7_town 16 = .ok (.ireturn, 1) := by decide +kernel
theorem dX7_town_17 : decode cX7_town 17 = .ok (.aload_n 0, 1) := by decide +kernel
theorem dX7_town_18 : decode cX7_town 18 = .ok (.aload_n 0, 1) := by decide +kernel
theorem dX7_town_19 : decode cX7_town 19 = .ok (.getfield 81, 3) := by decide +kernel
theorem dX7_town_22 : decode cX7_town 22 = .ok (.putfield 60, 3) := by decide +kernel
theorem dX7_town_25 : decode cX7_town 25 = .ok (.aload_n 0, 1) := by decide +kernel
theorem dX7_town_26 : decode cX7_town 26 = .ok (.aload_n 0, 1) := by decide +kernel
theorem dX7_town_27 : decode cX7_town 27 = .ok (.getfield 84, 3) := by decide +kernel
theorem dX7_town_30 : decode cX7_town 30 = .ok (.putfield 101, 3) := by decide +kernel
theorem dX7_town_33 : decode cX7_town 33 = .ok (.iconst 0, 1) := by decide +kernel
theorem dX7_town_34 : decode cX7_town 34 = .ok (.istore_n 1, 1) := by decide +kernel
theorem dX7_town_35 : decode cX7_town 35 = .ok (.iload_n 1, 1) := by decide +kernel
theorem dX7_town_36 : decode cX7_town 36 = .ok (.bipush 24, 2) := by decide +kernel
theorem dX7_town_38 : decode cX7_town 38 = .ok (.if_icmp .ge 16, 3) := by decide +kernel
theorem dX7_town_41 : decode cX7_town 41 = .ok (.aload_n 0, 1) := by decide +kernel
theorem dX7_town_42 : decode cX7_town 42 = .ok (.getfield 25, 3) := by decide +kernel
theorem dX7_town_45 : decode cX7_town 45 = .ok (.iload_n 1, 1) := by decide +kernel
theorem dX7_town_46 : decode cX7_town 46 = .ok (.iconst 0, 1) := by decide +kernel
theorem dX7_town_47 : decode cX7_town 47 = .ok (.iastore, 1) := by decide +kernel
theorem dX7_town_48 : decode cX7_town 48 = .ok (.iinc 1 1, 3) := by decide +kernel
theorem dX7_town_51 : decode cX7_town 51 = .ok (.goto (-16), 3) := by decide +kernel
theorem dX7_town_54 : decode cX7_town 54 = .ok (.iconst 0, 1) := by decide +kernel
theorem dX7_town_55 : decode cX7_town 55 = .ok (.istore_n 1, 1) := by decide +kernel
theorem dX7_town_56 : decode cX7_town 56 = .ok (.iload_n 1, 1) := by decide +kernel
theorem dX7_town_57 : decode cX7_town 57 = .ok (.aload_n 0, 1) := by decide +kernel
theorem dX7_town_58 : decode cX7_town 58 = .ok (.getfield 60, 3) := by decide +kernel
theorem dX7_town_61 : decode cX7_town 61 = .ok (.if_icmp .ge 39, 3) := by decide +kernel
theorem dX7_town_64 : decode cX7_town 64 = .ok (.aload_n 0, 1) := by decide +kernel
theorem dX7_town_65 : decode cX7_town 65 = .ok (.getfield 25, 3) := by decide +kernel
theorem dX7_town_68 : decode cX7_town 68 = .ok (.iload_n 1, 1) := by decide +kernel
theorem dX7_town_69 : decode cX7_town 69 = .ok (.aload_n 0, 1) := by decide +kernel
theorem dX7_town_70 : decode cX7_town 70 = .ok (.getfield 19, 3) := by decide +kernel
theorem dX7_town_73 : decode cX7_town 73 = .ok (.iconst 2, 1) := by decide +kernel
end
section
theorem dX7_town_74 : decode cX7_town 74 = .ok (.iload_n 1, 1) := by decide +kernel
theorem dX7_town_75 : decode cX7_town 75 = .ok (.imul, 1) := by decide +kernel
theorem dX7_town_76 : decode cX7_town 76 = .ok (.iaload, 1) := by decide +kernel
theorem dX7_town_77 : decode cX7_town 77 = .ok (.iastore, 1) := by decide +kernel
theorem dX7_town_78 : decode cX7_town 78 = .ok (.aload_n 0, 1) := by decide +kernel
theorem dX7_town_79 : decode cX7_town 79 = .ok (.getfield 13, 3) := by decide +kernel
theorem dX7_town_82 : decode cX7_town 82 = .ok (.iload_n 1, 1) := by decide +kernel
theorem dX7_town_83 : decode cX7_town 83 = .ok (.aload_n 0, 1) := by decide +kernel
theorem dX7_town_84 : decode cX7_town 84 = .ok (.getfield 19, 3) := by decide +kernel
theorem dX7_town_87 : decode cX7_town 87 = .ok (.iconst 2, 1) := by decide +kernel
theorem dX7_town_88 : decode cX7_town 88 = .ok (.iload_n 1, 1) := by decide +kernel
theorem dX7_town_89 : decode cX7_town 89 = .ok (.imul, 1) := by decide +kernel
theorem dX7_town_90 : decode cX7_town 90 = .ok (.iconst 1, 1) := by decide +kernel
theorem dX7_town_91 : decode cX7_town 91 = .ok (.iadd, 1) := by decide +kernel
theorem dX7_town_92 : decode cX7_town 92 = .ok (.iaload, 1) := by decide +kernel
theorem dX7_town_93 : decode cX7_town 93 = .ok (.iastore, 1) := by decide +kernel
theorem dX7_town_94 : decode cX7_town 94 = .ok (.iinc 1 1, 3) := by decide +kernel
theorem dX7_town_97 : decode cX7_town 97 = .ok (.goto (-41), 3) := by decide +kernel
theorem dX7_town_100 : decode cX7_town 100 = .ok (.iconst 0, 1) := by decide +kernel
theorem dX7_town_101 : decode cX7_town 101 = .ok (.istore_n 1, 1) := by decide +kernel
theorem dX7_town_102 : decode cX7_town 102 = .ok (.iload_n 1, 1) := by decide +kernel
theorem dX7_town_103 : decode cX7_town 103 = .ok (.iconst 3, 1) := by decide +kernel
theorem dX7_town_104 : decode cX7_town 104 = .ok (.aload_n 0, 1) := by decide +kernel
theorem dX7_town_105 : decode cX7_town 105 = .ok (.getfield 101, 3) := by decide +kernel
theorem dX7_town_108 : decode cX7_town 108 = .ok (.imul, 1) := by decide +kernel
theorem dX7_town_109 : decode cX7_town 109 = .ok (.if_icmp .ge 21, 3) := by decide +kernel
theorem dX7_town_112 : decode cX7_town 112 = .ok (.aload_n 0, 1) := by decide +kernel
theorem dX7_town_113 : decode cX7_town 113 = .ok (.getfield 16, 3) := by decide +kernel
theorem dX7_town_116 : decode cX7_town 116 = .ok (.iload_n 1, 1) := by decide +kernel
theorem dX7_town_117 : decode cX7_town 117 = .ok (.aload_n 0, 1) := by decide +kernel
theorem dX7_town_118 : decode cX7_town 118 = .ok (.getfield 22, 3) := by decide +kernel
theorem dX7_town_121 : decode cX7_town 121 = .ok (.iload_n 1, 1) := by decide +kernel
theorem dX7_town_122 : decode cX7_town 122 = .ok (.iaload, 1) := by decide +kernel
theorem dX7_town_123 : decode cX7_town 123 = .ok (.iastore, 1) := by decide +kernel
theorem dX7_town_124 : decode cX7_town 124 = .ok (.iinc 1 1, 3) := by decide +kernel
theorem dX7_town_127 : decode cX7_town 127 = .ok (.goto (-25), 3) := by decide +kernel
theorem dX7_town_130 : decode cX7_town 130 = .ok (.aload_n 0, 1) := by decide +kernel
theorem dX7_town_131 : decode cX7_town 131 = .ok (.iconst 0, 1) := by decide +kernel
theorem dX7_town_132 : decode cX7_town 132 = .ok (.putfield 104, 3) := by decide +kernel
theorem dX7_town_135 : decode cX7_town 135 = .ok (.aload_n 0, 1) := by decide +kernel
theorem dX7_town_136 : decode cX7_town 136 = .ok (.getfield 37, 3) := by decide +kernel
theorem dX7_town_139 : decode cX7_town 139 = .ok (.iconst 0, 1) := by decide +kernel
theorem dX7_town_140 : decode cX7_town 140 = .ok (.iconst 0, 1) := by decide +kernel
theorem dX7_town_141 : decode cX7_town 141 = .ok (.bastore, 1) := by decide +kernel
theorem dX7_town_142 : decode cX7_town 142 = .ok (.aload_n 0, 1) := by decide +kernel
theorem dX7_town_143 : decode cX7_town 143 = .ok (.getfield 37, 3) := by decide +kernel
theorem dX7_town_146 : decode cX7_town 146 = .ok (.iconst 1, 1) := by decide +kernel
theorem dX7_town_147 : decode cX7_town 147 = .ok (.iconst 0, 1) := by decide +kernel
theorem dX7_town_148 : decode cX7_town 148 = .ok (.bastore, 1) := by decide +kernel
theorem dX7_town_149 : decode cX7_town 149 = .ok (.bipush 10, 2) := by decide +kernel
theorem dX7_town_151 : decode cX7_town 151 = .ok (.aload_n 0, 1) := by decide +kernel
theorem dX7_town_152 : decode cX7_town 152 = .ok (.getfield 60, 3) := by decide +kernel
theorem dX7_town_155 : decode cX7_town 155 = .ok (.imul, 1) := by decide +kernel
theorem dX7_town_156 : decode cX7_town 156 = .ok (.aload_n 0, 1) := by decide +kernel
theorem dX7_town_157 : decode cX7_town 157 = .ok (.getfield 101, 3) := by decide +kernel
theorem dX7_town_160 : decode cX7_town 160 = .ok (.iadd, 1) := by decide +kernel
theorem dX7_town_161 : decode cX7_town 161 = .ok (.ireturn, 1) := by decide +kernel
theorem dX7_openIn_0 : decode cX7_openIn 0 = .ok (.iconst 0, 1) := by decide +kernel
theorem dX7_openIn_1 : decode cX7_openIn 1 = .ok (.istore_n 3, 1) := by decide +kernel
theorem dX7_openIn_2 : decode cX7_openIn 2 = .ok (.iconst 0, 1) := by decide +kernel
theorem dX7_openIn_3 : decode cX7_openIn 3 = .ok (.istore 4, 2) := by decide +kernel
theorem dX7_openIn_5 : decode cX7_openIn 5 = .ok (.iload 4, 2) := by decide +kernel
theorem dX7_openIn_7 : decode cX7_openIn 7 = .ok (.aload_n 0, 1) := by decide +kernel
theorem dX7_openIn_8 : decode cX7_openIn 8 = .ok (.getfield 60, 3) := by decide +kernel
theorem dX7_openIn_11 : decode cX7_openIn 11 = .ok (.if_icmp .ge 36, 3) := by decide +kernel
theorem dX7_openIn_14 : decode cX7_openIn 14 = .ok (.iload_n 3, 1) := by decide +kernel
theorem dX7_openIn_15 : decode cX7_openIn 15 = .ok (.aload_n 1, 1) := by decide +kernel
theorem dX7_openIn_16 : decode cX7_openIn 16 = .ok (.iconst 5, 1) := by decide +kernel
theorem dX7_openIn_17 : decode cX7_openIn 17 = .ok (.iaload, 1) := by decide +kernel
theorem dX7_openIn_18 : decode cX7_openIn 18 = .ok (.iload 4, 2) := by decide +kernel
theorem dX7_openIn_20 : decode cX7_openIn 20 = .ok (.invokestatic 107, 3) := by decide +kernel
theorem dX7_openIn_23 : decode cX7_openIn 23 = .ok (.ifCond .eq 15, 3) := by decide +kernel
theorem dX7_openIn_26 : decode cX7_openIn 26 = .ok (.aload_n 1, 1) := by decide +kernel
theorem dX7_openIn_27 : decode cX7_openIn 27 = .ok (.iload 4, 2) := by decide +kernel
theorem dX7_openIn_29 : decode cX7_openIn 29 = .ok (.iaload, 1) := by decide +kernel
theorem dX7_openIn_30 : decode cX7_openIn 30 = .ok (.iload_n 2, 1) := by decide +kernel
theorem dX7_openIn_31 : decode cX7_openIn 31 = .ok (.if_icmp .ne 7, 3) := by decide +kernel
theorem dX7_openIn_34 : decode cX7_openIn 34 = .ok (.iconst 1, 1) := by decide +kernel
theorem dX7_openIn_35 : decode cX7_openIn 35 = .ok (.goto 4, 3) := by decide +kernel
theorem dX7_openIn_38 : decode cX7_openIn 38 = .ok (.iconst 0, 1) := by decide +kernel
theorem dX7_openIn_39 : decode cX7_openIn 39 = .ok (.iadd, 1) := by decide +kernel
theorem dX7_openIn_40 : decode cX7_openIn 40 = .ok (.istore_n 3, 1) := by decide +kernel
theorem dX7_openIn_41 : decode cX7_openIn 41 = .ok (.iinc 4 1, 3) := by decide +kernel
theorem dX7_openIn_44 : decode cX7_openIn 44 = .ok (.goto (-39), 3) := by decide +kernel
theorem dX7_openIn_47 : decode cX7_openIn 47 = .ok (.iload_n 3, 1) := by decide +kernel
theorem dX7_openIn_48 : decode cX7_openIn 48 = .ok (.ireturn, 1) := by decide +kernel
theorem dX7_rainOf_0 : decode cX7_rainOf 0 = .ok (.iconst 0, 1) := by decide +kernel
theorem dX7_rainOf_1 : decode cX7_rainOf 1 = .ok (.istore_n 2, 1) := by decide +kernel
theorem dX7_rainOf_2 : decode cX7_rainOf 2 = .ok (.iconst 0, 1) := by decide +kernel
theorem dX7_rainOf_3 : decode cX7_rainOf 3 = .ok (.istore_n 3, 1) := by decide +kernel
theorem dX7_rainOf_4 : decode cX7_rainOf 4 = .ok (.iload_n 3, 1) := by decide +kernel
theorem dX7_rainOf_5 : decode cX7_rainOf 5 = .ok (.bipush 6, 2) := by decide +kernel
theorem dX7_rainOf_7 : decode cX7_rainOf 7 = .ok (.if_icmp .ge 28, 3) := by decide +kernel
theorem dX7_rainOf_10 : decode cX7_rainOf 10 = .ok (.iload_n 2, 1) := by decide +kernel
theorem dX7_rainOf_11 : decode cX7_rainOf 11 = .ok (.aload_n 1, 1) := by decide +kernel
theorem dX7_rainOf_12 : decode cX7_rainOf 12 = .ok (.bipush 6, 2) := by decide +kernel
theorem dX7_rainOf_14 : decode cX7_rainOf 14 = .ok (.iload_n 3, 1) := by decide +kernel
theorem dX7_rainOf_15 : decode cX7_rainOf 15 = .ok (.iadd, 1) := by decide +kernel
theorem dX7_rainOf_16 : decode cX7_rainOf 16 = .ok (.iaload, 1) := by decide +kernel
theorem dX7_rainOf_17 : decode cX7_rainOf 17 = .ok (.ifCond .le 9, 3) := by decide +kernel
theorem dX7_rainOf_20 : decode cX7_rainOf 20 = .ok (.iconst 1, 1) := by decide +kernel
theorem dX7_rainOf_21 : decode cX7_rainOf 21 = .ok (.iload_n 3, 1) := by decide +kernel
theorem dX7_rainOf_22 : decode cX7_rainOf 22 = .ok (.ishl, 1) := by decide +kernel
theorem dX7_rainOf_23 : decode cX7_rainOf 23 = .ok (.goto 4, 3) := by decide +kernel
theorem dX7_rainOf_26 : decode cX7_rainOf 26 = .ok (.iconst 0, 1) := by decide +kernel
theorem dX7_rainOf_27 : decode cX7_rainOf 27 = .ok (.ior, 1) := by decide +kernel
theorem dX7_rainOf_28 : decode cX7_rainOf 28 = .ok (.istore_n 2, 1) := by decide +kernel
theorem dX7_rainOf_29 : decode cX7_rainOf 29 = .ok (.iinc 3 1, 3) := by decide +kernel
theorem dX7_rainOf_32 : decode cX7_rainOf 32 = .ok (.goto (-28), 3) := by decide +kernel
theorem dX7_rainOf_35 : decode cX7_rainOf 35 = .ok (.iconst 0, 1) := by decide +kernel
theorem dX7_rainOf_36 : decode cX7_rainOf 36 = .ok (.istore_n 3, 1) := by decide +kernel
theorem dX7_rainOf_37 : decode cX7_rainOf 37 = .ok (.iload_n 3, 1) := by decide +kernel
theorem dX7_rainOf_38 : decode cX7_rainOf 38 = .ok (.aload_n 0, 1) := by decide +kernel
theorem dX7_rainOf_39 : decode cX7_rainOf 39 = .ok (.getfield 60, 3) := by decide +kernel
theorem dX7_rainOf_42 : decode cX7_rainOf 42 = .ok (.if_icmp .ge 60, 3) := by decide +kernel
theorem dX7_rainOf_45 : decode cX7_rainOf 45 = .ok (.aload_n 1, 1) := by decide +kernel
theorem dX7_rainOf_46 : decode cX7_rainOf 46 = .ok (.iconst 5, 1) := by decide +kernel
theorem dX7_rainOf_47 : decode cX7_rainOf 47 = .ok (.iaload, 1) := by decide +kernel
theorem dX7_rainOf_48 : decode cX7_rainOf 48 = .ok (.iload_n 3, 1) := by decide +kernel
theorem dX7_rainOf_49 : decode cX7_rainOf 49 = .ok (.invokestatic 107, 3) := by decide +kernel
theorem dX7_rainOf_52 : decode cX7_rainOf 52 = .ok (.ifCond .eq 11, 3) := by decide +kernel
theorem dX7_rainOf_55 : decode cX7_rainOf 55 = .ok (.iconst 1, 1) := by decide +kernel
theorem dX7_rainOf_56 : decode cX7_rainOf 56 = .ok (.aload_n 1, 1) := by decide +kernel
theorem dX7_rainOf_57 : decode cX7_rainOf 57 = .ok (.iload_n 3, 1) := by decide +kernel
theorem dX7_rainOf_58 : decode cX7_rainOf 58 = .ok (.iaload, 1) := by decide +kernel
theorem dX7_rainOf_59 : decode cX7_rainOf 59 = .ok (.ishl, 1) := by decide +kernel
theorem dX7_rainOf_60 : decode cX7_rainOf 60 = .ok (.goto 4, 3) := by decide +kernel
theorem dX7_rainOf_63 : decode cX7_rainOf 63 = .ok (.iconst 0, 1) := by decide +kernel
theorem dX7_rainOf_64 : decode cX7_rainOf 64 = .ok (.istore 4, 2) := by decide +kernel
theorem dX7_rainOf_66 : decode cX7_rainOf 66 = .ok (.iload_n 2, 1) := by decide +kernel
theorem dX7_rainOf_67 : decode cX7_rainOf 67 = .ok (.aload_n 0, 1) := by decide +kernel
theorem dX7_rainOf_68 : decode cX7_rainOf 68 = .ok (.getfield 13, 3) := by decide +kernel
theorem dX7_rainOf_71 : decode cX7_rainOf 71 = .ok (.iload_n 3, 1) := by decide +kernel
theorem dX7_rainOf_72 : decode cX7_rainOf 72 = .ok (.iaload, 1) := by decide +kernel
theorem dX7_rainOf_73 : decode cX7_rainOf 73 = .ok (.iconst 3, 1) := by decide +kernel
theorem dX7_rainOf_74 : decode cX7_rainOf 74 = .ok (.if_icmp .ne 18, 3) := by decide +kernel
theorem dX7_rainOf_77 : decode cX7_rainOf 77 = .ok (.iload 4, 2) := by decide +kernel
theorem dX7_rainOf_79 : decode cX7_rainOf 79 = .ok (.iload 4, 2) := by decide +kernel
theorem dX7_rainOf_81 : decode cX7_rainOf 81 = .ok (.iconst 1, 1) := by decide +kernel
theorem dX7_rainOf_82 : decode cX7_rainOf 82 = .ok (.ishl, 1) := by decide +kernel
theorem dX7_rainOf_83 : decode cX7_rainOf 83 = .ok (.ior, 1) := by decide +kernel
theorem dX7_rainOf_84 : decode cX7_rainOf 84 = .ok (.iload 4, 2) := by decide +kernel
theorem dX7_rainOf_86 : decode cX7_rainOf 86 = .ok (.iconst 1, 1) := by decide +kernel
theorem dX7_rainOf_87 : decode cX7_rainOf 87 = .ok (.ishr, 1) := by decide +kernel
theorem dX7_rainOf_88 : decode cX7_rainOf 88 = .ok (.ior, 1) := by decide +kernel
theorem dX7_rainOf_89 : decode cX7_rainOf 89 = .ok (.goto 5, 3) := by decide +kernel
theorem dX7_rainOf_92 : decode cX7_rainOf 92 = .ok (.iload 4, 2) := by decide +kernel
theorem dX7_rainOf_94 : decode cX7_rainOf 94 = .ok (.ior, 1) := by decide +kernel
theorem dX7_rainOf_95 : decode cX7_rainOf 95 = .ok (.istore_n 2, 1) := by decide +kernel
theorem dX7_rainOf_96 : decode cX7_rainOf 96 = .ok (.iinc 3 1, 3) := by decide +kernel
theorem dX7_rainOf_99 : decode cX7_rainOf 99 = .ok (.goto (-62), 3) := by decide +kernel
theorem dX7_rainOf_102 : decode cX7_rainOf 102 = .ok (.iload_n 2, 1) := by decide +kernel
theorem dX7_rainOf_103 : decode cX7_rainOf 103 = .ok (.bipush 63, 2) := by decide +kernel
theorem dX7_rainOf_105 : decode cX7_rainOf 105 = .ok (.iand, 1) := by decide +kernel
theorem dX7_rainOf_106 : decode cX7_rainOf 106 = .ok (.ireturn, 1) := by decide +kernel
theorem dX7_hailOf_0 : decode cX7_hailOf 0 = .ok (.iconst 0, 1) := by decide +kernel
theorem dX7_hailOf_1 : decode cX7_hailOf 1 = .ok (.istore_n 2, 1) := by decide +kernel
theorem dX7_hailOf_2 : decode cX7_hailOf 2 = .ok (.iconst 0, 1) := by decide +kernel
theorem dX7_hailOf_3 : decode cX7_hailOf 3 = .ok (.istore_n 3, 1) := by decide +kernel
theorem dX7_hailOf_4 : decode cX7_hailOf 4 = .ok (.iload_n 3, 1) := by decide +kernel
theorem dX7_hailOf_5 : decode cX7_hailOf 5 = .ok (.bipush 6, 2) := by decide +kernel
theorem dX7_hailOf_7 : decode cX7_hailOf 7 = .ok (.if_icmp .ge 29, 3) := by decide +kernel
theorem dX7_hailOf_10 : decode cX7_hailOf 10 = .ok (.iload_n 2, 1) := by decide +kernel
theorem dX7_hailOf_11 : decode cX7_hailOf 11 = .ok (.aload_n 0, 1) := by decide +kernel
theorem dX7_hailOf_12 : decode cX7_hailOf 12 = .ok (.aload_n 1, 1) := by decide +kernel
theorem dX7_hailOf_13 : decode cX7_hailOf 13 = .ok (.iload_n 3, 1) := by decide +kernel
theorem dX7_hailOf_14 : decode cX7_hailOf 14 = .ok (.invokevirtual 111, 3) := by decide +kernel
theorem dX7_hailOf_17 : decode cX7_hailOf 17 = .ok (.iconst 1, 1) := by decide +kernel
theorem dX7_hailOf_18 : decode cX7_hailOf 18 = .ok (.if_icmp .le 9, 3) := by decide +kernel
theorem dX7_hailOf_21 : decode cX7_hailOf 21 = .ok (.iconst 1, 1) := by decide +kernel
theorem dX7_hailOf_22 : decode cX7_hailOf 22 = .ok (.iload_n 3, 1) := by decide +kernel
theorem dX7_hailOf_23 : decode cX7_hailOf 23 = .ok (.ishl, 1) := by decide +kernel
theorem dX7_hailOf_24 : decode cX7_hailOf 24 = .ok (.goto 4, 3) := by decide +kernel
theorem dX7_hailOf_27 : decode cX7_hailOf 27 = .ok (.iconst 0, 1) := by decide +kernel
theorem dX7_hailOf_28 : decode cX7_hailOf 28 = .ok (.ior, 1) := by decide +kernel
theorem dX7_hailOf_29 : decode cX7_hailOf 29 = .ok (.istore_n 2, 1) := by decide +kernel
theorem dX7_hailOf_30 : decode cX7_hailOf 30 = .ok (.iinc 3 1, 3) := by decide +kernel
theorem dX7_hailOf_33 : decode cX7_hailOf 33 = .ok (.goto (-29), 3) := by decide +kernel
theorem dX7_hailOf_36 : decode cX7_hailOf 36 = .ok (.iload_n 2, 1) := by decide +kernel
theorem dX7_hailOf_37 : decode cX7_hailOf 37 = .ok (.ireturn, 1) := by decide +kernel
theorem dX7_greater_0 : decode cX7_greater 0 = .ok (.iload_n 0, 1) := by decide +kernel
theorem dX7_greater_1 : decode cX7_greater 1 = .ok (.iload_n 1, 1) := by decide +kernel
theorem dX7_greater_2 : decode cX7_greater 2 = .ok (.if_icmp .ge 7, 3) := by decide +kernel
theorem dX7_greater_5 : decode cX7_greater 5 = .ok (.iload_n 1, 1) := by decide +kernel
theorem dX7_greater_6 : decode cX7_greater 6 = .ok (.goto 4, 3) := by decide +kernel
theorem dX7_greater_9 : decode cX7_greater 9 = .ok (.iload_n 0, 1) := by decide +kernel
theorem dX7_greater_10 : decode cX7_greater 10 = .ok (.ireturn, 1) := by decide +kernel
theorem dX7_goOpen_0 : decode cX7_goOpen 0 = .ok (.aload_n 1, 1) := by decide +kernel
theorem dX7_goOpen_1 : decode cX7_goOpen 1 = .ok (.iconst 5, 1) := by decide +kernel
theorem dX7_goOpen_2 : decode cX7_goOpen 2 = .ok (.dup2, 1) := by decide +kernel
theorem dX7_goOpen_3 : decode cX7_goOpen 3 = .ok (.iaload, 1) := by decide +kernel
theorem dX7_goOpen_4 : decode cX7_goOpen 4 = .ok (.iconst 1, 1) := by decide +kernel
theorem dX7_goOpen_5 : decode cX7_goOpen 5 = .ok (.iload_n 2, 1) := by decide +kernel
theorem dX7_goOpen_6 : decode cX7_goOpen 6 = .ok (.ishl, 1) := by decide +kernel
theorem dX7_goOpen_7 : decode cX7_goOpen 7 = .ok (.ior, 1) := by decide +kernel
theorem dX7_goOpen_8 : decode cX7_goOpen 8 = .ok (.iastore, 1) := by decide +kernel
theorem dX7_goOpen_9 : decode cX7_goOpen 9 = .ok (.bipush 6, 2) := by decide +kernel
theorem dX7_goOpen_11 : decode cX7_goOpen 11 = .ok (.aload_n 1, 1) := by decide +kernel
theorem dX7_goOpen_12 : decode cX7_goOpen 12 = .ok (.iload_n 2, 1) := by decide +kernel
theorem dX7_goOpen_13 : decode cX7_goOpen 13 = .ok (.iaload, 1) := by decide +kernel
theorem dX7_goOpen_14 : decode cX7_goOpen 14 = .ok (.iadd, 1) := by decide +kernel
theorem dX7_goOpen_15 : decode cX7_goOpen 15 = .ok (.istore_n 3, 1) := by decide +kernel
theorem dX7_goOpen_16 : decode cX7_goOpen 16 = .ok (.aload_n 1, 1) := by decide +kernel
theorem dX7_goOpen_17 : decode cX7_goOpen 17 = .ok (.iload_n 3, 1) := by decide +kernel
theorem dX7_goOpen_18 : decode cX7_goOpen 18 = .ok (.aload_n 0, 1) := by decide +kernel
theorem dX7_goOpen_19 : decode cX7_goOpen 19 = .ok (.getfield 13, 3) := by decide +kernel
theorem dX7_goOpen_22 : decode cX7_goOpen 22 = .ok (.iload_n 2, 1) := by decide +kernel
theorem dX7_goOpen_23 : decode cX7_goOpen 23 = .ok (.iaload, 1) := by decide +kernel
theorem dX7_goOpen_24 : decode cX7_goOpen 24 = .ok (.iconst 2, 1) := by decide +kernel
theorem dX7_goOpen_25 : decode cX7_goOpen 25 = .ok (.if_icmp .ne 14, 3) := by decide +kernel
theorem dX7_goOpen_28 : decode cX7_goOpen 28 = .ok (.aload_n 1, 1) := by decide +kernel
theorem dX7_goOpen_29 : decode cX7_goOpen 29 = .ok (.iload_n 3, 1) := by decide +kernel
theorem dX7_goOpen_30 : decode cX7_goOpen 30 = .ok (.iaload, 1) := by decide +kernel
theorem dX7_goOpen_31 : decode cX7_goOpen 31 = .ok (.bipush 7, 2) := by decide +kernel
theorem dX7_goOpen_33 : decode cX7_goOpen 33 = .ok (.invokestatic 115, 3) := by decide +kernel
theorem dX7_goOpen_36 : decode cX7_goOpen 36 = .ok (.goto 6, 3) := by decide +kernel
theorem dX7_goOpen_39 : decode cX7_goOpen 39 = .ok (.aload_n 1, 1) := by decide +kernel
theorem dX7_goOpen_40 : decode cX7_goOpen 40 = .ok (.iload_n 3, 1) := by decide +kernel
theorem dX7_goOpen_41 : decode cX7_goOpen 41 = .ok (.iaload, 1) := by decide +kernel
theorem dX7_goOpen_42 : decode cX7_goOpen 42 = .ok (.iastore, 1) := by decide +kernel
theorem dX7_goOpen_43 : decode cX7_goOpen 43 = .ok (.return_, 1) := by decide +kernel
theorem dX7_goShut_0 : decode cX7_goShut 0 = .ok (.aload_n 1, 1) := by decide +kernel
theorem dX7_goShut_1 : decode cX7_goShut 1 = .ok (.iconst 5, 1) := by decide +kernel
theorem dX7_goShut_2 : decode cX7_goShut 2 = .ok (.dup2, 1) := by decide +kernel
theorem dX7_goShut_3 : decode cX7_goShut 3 = .ok (.iaload, 1) := by decide +kernel
theorem dX7_goShut_4 : decode cX7_goShut 4 = .ok (.iconst 1, 1) := by decide +kernel
theorem dX7_goShut_5 : decode cX7_goShut 5 = .ok (.iload_n 2, 1) := by decide +kernel
theorem dX7_goShut_6 : decode cX7_goShut 6 = .ok (.ishl, 1) := by decide +kernel
theorem dX7_goShut_7 : decode cX7_goShut 7 = .ok (.iconst (-1), 1) := by decide +kernel
theorem dX7_goShut_8 : decode cX7_goShut 8 = .ok (.ixor, 1) := by decide +kernel
theorem dX7_goShut_9 : decode cX7_goShut 9 = .ok (.iand, 1) := by decide +kernel
theorem dX7_goShut_10 : decode cX7_goShut 10 = .ok (.iastore, 1) := by decide +kernel
theorem dX7_goShut_11 : decode cX7_goShut 11 = .ok (.bipush 6, 2) := by decide +kernel
theorem dX7_goShut_13 : decode cX7_goShut 13 = .ok (.aload_n 1, 1) := by decide +kernel
theorem dX7_goShut_14 : decode cX7_goShut 14 = .ok (.iload_n 2, 1) := by decide +kernel
theorem dX7_goShut_15 : decode cX7_goShut 15 = .ok (.iaload, 1) := by decide +kernel
theorem dX7_goShut_16 : decode cX7_goShut 16 = .ok (.iadd, 1) := by decide +kernel
theorem dX7_goShut_17 : decode cX7_goShut 17 = .ok (.istore_n 3, 1) := by decide +kernel
theorem dX7_goShut_18 : decode cX7_goShut 18 = .ok (.aload_n 1, 1) := by decide +kernel
theorem dX7_goShut_19 : decode cX7_goShut 19 = .ok (.iload_n 3, 1) := by decide +kernel
theorem dX7_goShut_20 : decode cX7_goShut 20 = .ok (.aload_n 0, 1) := by decide +kernel
theorem dX7_goShut_21 : decode cX7_goShut 21 = .ok (.getfield 13, 3) := by decide +kernel
theorem dX7_goShut_24 : decode cX7_goShut 24 = .ok (.iload_n 2, 1) := by decide +kernel
theorem dX7_goShut_25 : decode cX7_goShut 25 = .ok (.iaload, 1) := by decide +kernel
theorem dX7_goShut_26 : decode cX7_goShut 26 = .ok (.iconst 1, 1) := by decide +kernel
theorem dX7_goShut_27 : decode cX7_goShut 27 = .ok (.if_icmp .ne 13, 3) := by decide +kernel
theorem dX7_goShut_30 : decode cX7_goShut 30 = .ok (.aload_n 1, 1) := by decide +kernel
theorem dX7_goShut_31 : decode cX7_goShut 31 = .ok (.iload_n 3, 1) := by decide +kernel
theorem dX7_goShut_32 : decode cX7_goShut 32 = .ok (.iaload, 1) := by decide +kernel
theorem dX7_goShut_33 : decode cX7_goShut 33 = .ok (.iconst 1, 1) := by decide +kernel
theorem dX7_goShut_34 : decode cX7_goShut 34 = .ok (.invokestatic 115, 3) := by decide +kernel
theorem dX7_goShut_37 : decode cX7_goShut 37 = .ok (.goto 6, 3) := by decide +kernel
theorem dX7_goShut_40 : decode cX7_goShut 40 = .ok (.aload_n 1, 1) := by decide +kernel
theorem dX7_goShut_41 : decode cX7_goShut 41 = .ok (.iload_n 3, 1) := by decide +kernel
theorem dX7_goShut_42 : decode cX7_goShut 42 = .ok (.iaload, 1) := by decide +kernel
theorem dX7_goShut_43 : decode cX7_goShut 43 = .ok (.iastore, 1) := by decide +kernel
theorem dX7_goShut_44 : decode cX7_goShut 44 = .ok (.return_, 1) := by decide +kernel
theorem dX7_stateThen_0 : decode cX7_stateThen 0 = .ok (.aload_n 0, 1) := by decide +kernel
theorem dX7_stateThen_1 : decode cX7_stateThen 1 = .ok (.getfield 16, 3) := by decide +kernel
theorem dX7_stateThen_4 : decode cX7_stateThen 4 = .ok (.iconst 3, 1) := by decide +kernel
theorem dX7_stateThen_5 : decode cX7_stateThen 5 = .ok (.iload_n 2, 1) := by decide +kernel
theorem dX7_stateThen_6 : decode cX7_stateThen 6 = .ok (.imul, 1) := by decide +kernel
theorem dX7_stateThen_7 : decode cX7_stateThen 7 = .ok (.iconst 1, 1) := by decide +kernel
theorem dX7_stateThen_8 : decode cX7_stateThen 8 = .ok (.iadd, 1) := by decide +kernel
theorem dX7_stateThen_9 : decode cX7_stateThen 9 = .ok (.iaload, 1) := by decide +kernel
theorem dX7_stateThen_10 : decode cX7_stateThen 10 = .ok (.istore 4, 2) := by decide +kernel
theorem dX7_stateThen_12 : decode cX7_stateThen 12 = .ok (.aload_n 0, 1) := by decide +kernel
theorem dX7_stateThen_13 : decode cX7_stateThen 13 = .ok (.getfield 16, 3) := by decide +kernel
theorem dX7_stateThen_16 : decode cX7_stateThen 16 = .ok (.iconst 3, 1) := by decide +kernel
theorem dX7_stateThen_17 : decode cX7_stateThen 17 = .ok (.iload_n 2, 1) := by decide +kernel
theorem dX7_stateThen_18 : decode cX7_stateThen 18 = .ok (.imul, 1) := by decide +kernel
theorem dX7_stateThen_19 : decode cX7_stateThen 19 = .ok (.iconst 2, 1) := by decide +kernel
theorem dX7_stateThen_20 : decode cX7_stateThen 20 = .ok (.iadd, 1) := by decide +kernel
theorem dX7_stateThen_21 : decode cX7_stateThen 21 = .ok (.iaload, 1) := by decide +kernel
theorem dX7_stateThen_22 : decode cX7_stateThen 22 = .ok (.istore 5, 2) := by decide +kernel
theorem dX7_stateThen_24 : decode cX7_stateThen 24 = .ok (.iload_n 3, 1) := by decide +kernel
theorem dX7_stateThen_25 : decode cX7_stateThen 25 = .ok (.aload_n 0, 1) := by decide +kernel
theorem dX7_stateThen_26 : decode cX7_stateThen 26 = .ok (.getfield 16, 3) := by decide +kernel
theorem dX7_stateThen_29 : decode cX7_stateThen 29 = .ok (.iconst 3, 1) := by decide +kernel
theorem dX7_stateThen_30 : decode cX7_stateThen 30 = .ok (.iload_n 2, 1) := by decide +kernel
theorem dX7_stateThen_31 : decode cX7_stateThen 31 = .ok (.imul, 1) := by decide +kernel
theorem dX7_stateThen_32 : decode cX7_stateThen 32 = .ok (.iaload, 1) := by decide +kernel
theorem dX7_stateThen_33 : decode cX7_stateThen 33 = .ok (.invokestatic 107, 3) := by decide +kernel
theorem dX7_stateThen_36 : decode cX7_stateThen 36 = .ok (.istore 6, 2) := by decide +kernel
theorem dX7_stateThen_38 : decode cX7_stateThen 38 = .ok (.iload 4, 2) := by decide +kernel
theorem dX7_stateThen_40 : decode cX7_stateThen 40 = .ok (.iconst 1, 1) := by decide +kernel
theorem dX7_stateThen_41 : decode cX7_stateThen 41 = .ok (.if_icmp .ne 27, 3) := by decide +kernel
theorem dX7_stateThen_44 : decode cX7_stateThen 44 = .ok (.aload_n 1, 1) := by decide +kernel
theorem dX7_stateThen_45 : decode cX7_stateThen 45 = .ok (.bipush 12, 2) := by decide +kernel
theorem dX7_stateThen_47 : decode cX7_stateThen 47 = .ok (.aload_n 0, 1) := by decide +kernel
theorem dX7_stateThen_48 : decode cX7_stateThen 48 = .ok (.getfield 16, 3) := by decide +kernel
theorem dX7_stateThen_51 : decode cX7_stateThen 51 = .ok (.iconst 3, 1) := by decide +kernel
theorem dX7_stateThen_52 : decode cX7_stateThen 52 = .ok (.iload_n 2, 1) := by decide +kernel
theorem dX7_stateThen_53 : decode cX7_stateThen 53 = .ok (.imul, 1) := by decide +kernel
theorem dX7_stateThen_54 : decode cX7_stateThen 54 = .ok (.iaload, 1) := by decide +kernel
theorem dX7_stateThen_55 : decode cX7_stateThen 55 = .ok (.iadd, 1) := by decide +kernel
theorem dX7_stateThen_56 : decode cX7_stateThen 56 = .ok (.iaload, 1) := by decide +kernel
theorem dX7_stateThen_57 : decode cX7_stateThen 57 = .ok (.iload 5, 2) := by decide +kernel
theorem dX7_stateThen_59 : decode cX7_stateThen 59 = .ok (.if_icmp .lt 7, 3) := by decide +kernel
theorem dX7_stateThen_62 : decode cX7_stateThen 62 = .ok (.iconst 1, 1) := by decide +kernel
theorem dX7_stateThen_63 : decode cX7_stateThen 63 = .ok (.goto 4, 3) := by decide +kernel
theorem dX7_stateThen_66 : decode cX7_stateThen 66 = .ok (.iconst 0, 1) := by decide +kernel
theorem dX7_stateThen_67 : decode cX7_stateThen 67 = .ok (.ireturn, 1) := by decide +kernel
theorem dX7_stateThen_68 : decode cX7_stateThen 68 = .ok (.iload 4, 2) := by decide +kernel
theorem dX7_stateThen_70 : decode cX7_stateThen 70 = .ok (.iconst 2, 1) := by decide +kernel
theorem dX7_stateThen_71 : decode cX7_stateThen 71 = .ok (.if_icmp .ne 27, 3) := by decide +kernel
theorem dX7_stateThen_74 : decode cX7_stateThen 74 = .ok (.aload_n 1, 1) := by decide +kernel
theorem dX7_stateThen_75 : decode cX7_stateThen 75 = .ok (.bipush 23, 2) := by decide +kernel
theorem dX7_stateThen_77 : decode cX7_stateThen 77 = .ok (.iaload, 1) := by decide +kernel
theorem dX7_stateThen_78 : decode cX7_stateThen 78 = .ok (.iload 5, 2) := by decide +kernel
theorem dX7_stateThen_80 : decode cX7_stateThen 80 = .ok (.if_icmp .eq 7, 3) := by decide +kernel
theorem dX7_stateThen_83 : decode cX7_stateThen 83 = .ok (.iconst 0, 1) := by decide +kernel
theorem dX7_stateThen_84 : decode cX7_stateThen 84 = .ok (.goto 13, 3) := by decide +kernel
theorem dX7_stateThen_87 : decode cX7_stateThen 87 = .ok (.iload 6, 2) := by decide +kernel
theorem dX7_stateThen_89 : decode cX7_stateThen 89 = .ok (.ifCond .eq 7, 3) := by decide +kernel
theorem dX7_stateThen_92 : decode cX7_stateThen 92 = .ok (.iconst 2, 1) := by decide +kernel
theorem dX7_stateThen_93 : decode cX7_stateThen 93 = .ok (.goto 4, 3) := by decide +kernel
theorem dX7_stateThen_96 : decode cX7_stateThen 96 = .ok (.iconst 1, 1) := by decide +kernel
theorem dX7_stateThen_97 : decode cX7_stateThen 97 = .ok (.ireturn, 1) := by decide +kernel
theorem dX7_stateThen_98 : decode cX7_stateThen 98 = .ok (.aload_n 1, 1) := by decide +kernel
theorem dX7_stateThen_99 : decode cX7_stateThen 99 = .ok (.bipush 23, 2) := by decide +kernel
theorem dX7_stateThen_101 : decode cX7_stateThen 101 = .ok (.iaload, 1) := by decide +kernel
theorem dX7_stateThen_102 : decode cX7_stateThen 102 = .ok (.iload 5, 2) := by decide +kernel
theorem dX7_stateThen_104 : decode cX7_stateThen 104 = .ok (.if_icmp .le 7, 3) := by decide +kernel
theorem dX7_stateThen_107 : decode cX7_stateThen 107 = .ok (.iconst 0, 1) := by decide +kernel
theorem dX7_stateThen_108 : decode cX7_stateThen 108 = .ok (.goto 26, 3) := by decide +kernel
theorem dX7_stateThen_111 : decode cX7_stateThen 111 = .ok (.iload 6, 2) := by decide +kernel
theorem dX7_stateThen_113 : decode cX7_stateThen 113 = .ok (.ifCond .eq 7, 3) := by decide +kernel
theorem dX7_stateThen_116 : decode cX7_stateThen 116 = .ok (.iconst 2, 1) := by decide +kernel
theorem dX7_stateThen_117 : decode cX7_stateThen 117 = .ok (.goto 17, 3) := by decide +kernel
theorem dX7_stateThen_120 : decode cX7_stateThen 120 = .ok (.aload_n 1, 1) := by decide +kernel
theorem dX7_stateThen_121 : decode cX7_stateThen 121 = .ok (.bipush 23, 2) := by decide +kernel
theorem dX7_stateThen_123 : decode cX7_stateThen 123 = .ok (.iaload, 1) := by decide +kernel
theorem dX7_stateThen_124 : decode cX7_stateThen 124 = .ok (.iload 5, 2) := by decide +kernel
theorem dX7_stateThen_126 : decode cX7_stateThen 126 = .ok (.if_icmp .ne 7, 3) := by decide +kernel
theorem dX7_stateThen_129 : decode cX7_stateThen 129 = .ok (.iconst 1, 1) := by decide +kernel
theorem dX7_stateThen_130 : decode cX7_stateThen 130 = .ok (.goto 4, 3) := by decide +kernel
theorem dX7_stateThen_133 : decode cX7_stateThen 133 = .ok (.iconst 0, 1) := by decide +kernel
theorem dX7_stateThen_134 : decode cX7_stateThen 134 = .ok (.ireturn, 1) := by decide +kernel
theorem dX7_goHour_0 : decode cX7_goHour 0 = .ok (.aload_n 0, 1) := by decide +kernel
theorem dX7_goHour_1 : decode cX7_goHour 1 = .ok (.aload_n 1, 1) := by decide +kernel
theorem dX7_goHour_2 : decode cX7_goHour 2 = .ok (.invokevirtual 118, 3) := by decide +kernel
theorem dX7_goHour_5 : decode cX7_goHour 5 = .ok (.istore_n 2, 1) := by decide +kernel
theorem dX7_goHour_6 : decode cX7_goHour 6 = .ok (.aload_n 0, 1) := by decide +kernel
theorem dX7_goHour_7 : decode cX7_goHour 7 = .ok (.aload_n 1, 1) := by decide +kernel
theorem dX7_goHour_8 : decode cX7_goHour 8 = .ok (.invokevirtual 122, 3) := by decide +kernel
theorem dX7_goHour_11 : decode cX7_goHour 11 = .ok (.istore_n 3, 1) := by decide +kernel
theorem dX7_goHour_12 : decode cX7_goHour 12 = .ok (.iconst 0, 1) := by decide +kernel
theorem dX7_goHour_13 : decode cX7_goHour 13 = .ok (.istore 4, 2) := by decide +kernel
theorem dX7_goHour_15 : decode cX7_goHour 15 = .ok (.iload 4, 2) := by decide +kernel
theorem dX7_goHour_17 : decode cX7_goHour 17 = .ok (.bipush 6, 2) := by decide +kernel
theorem dX7_goHour_19 : decode cX7_goHour 19 = .ok (.if_icmp .ge 46, 3) := by decide +kernel
theorem dX7_goHour_22 : decode cX7_goHour 22 = .ok (.aload_n 1, 1) := by decide +kernel
theorem dX7_goHour_23 : decode cX7_goHour 23 = .ok (.bipush 12, 2) := by decide +kernel
theorem dX7_goHour_25 : decode cX7_goHour 25 = .ok (.iload 4, 2) := by decide +kernel
theorem dX7_goHour_27 : decode cX7_goHour 27 = .ok (.iadd, 1) := by decide +kernel
theorem dX7_goHour_28 : decode cX7_goHour 28 = .ok (.dup2, 1) := by decide +kernel
theorem dX7_goHour_29 : decode cX7_goHour 29 = .ok (.iaload, 1) := by decide +kernel
theorem dX7_goHour_30 : decode cX7_goHour 30 = .ok (.iload_n 2, 1) := by decide +kernel
theorem dX7_goHour_31 : decode cX7_goHour 31 = .ok (.iload 4, 2) := by decide +kernel
theorem dX7_goHour_33 : decode cX7_goHour 33 = .ok (.invokestatic 107, 3) := by decide +kernel
theorem dX7_goHour_36 : decode cX7_goHour 36 = .ok (.ifCond .eq 20, 3) := by decide +kernel
theorem dX7_goHour_39 : decode cX7_goHour 39 = .ok (.iload_n 3, 1) := by decide +kernel
theorem dX7_goHour_40 : decode cX7_goHour 40 = .ok (.iload 4, 2) := by decide +kernel
theorem dX7_goHour_42 : decode cX7_goHour 42 = .ok (.invokestatic 107, 3) := by decide +kernel
theorem dX7_goHour_45 : decode cX7_goHour 45 = .ok (.ifCond .eq 7, 3) := by decide +kernel
theorem dX7_goHour_48 : decode cX7_goHour 48 = .ok (.iconst 2, 1) := by decide +kernel
theorem dX7_goHour_49 : decode cX7_goHour 49 = .ok (.goto 8, 3) := by decide +kernel
theorem dX7_goHour_52 : decode cX7_goHour 52 = .ok (.iconst 1, 1) := by decide +kernel
theorem dX7_goHour_53 : decode cX7_goHour 53 = .ok (.goto 4, 3) := by decide +kernel
theorem dX7_goHour_56 : decode cX7_goHour 56 = .ok (.iconst 0, 1) := by decide +kernel
theorem dX7_goHour_57 : decode cX7_goHour 57 = .ok (.iadd, 1) := by decide +kernel
theorem dX7_goHour_58 : decode cX7_goHour 58 = .ok (.iastore, 1) := by decide +kernel
theorem dX7_goHour_59 : decode cX7_goHour 59 = .ok (.iinc 4 1, 3) := by decide +kernel
theorem dX7_goHour_62 : decode cX7_goHour 62 = .ok (.goto (-47), 3) := by decide +kernel
theorem dX7_goHour_65 : decode cX7_goHour 65 = .ok (.iconst 0, 1) := by decide +kernel
theorem dX7_goHour_66 : decode cX7_goHour 66 = .ok (.istore 4, 2) := by decide +kernel
theorem dX7_goHour_68 : decode cX7_goHour 68 = .ok (.iload 4, 2) := by decide +kernel
theorem dX7_goHour_70 : decode cX7_goHour 70 = .ok (.aload_n 0, 1) := by decide +kernel
theorem dX7_goHour_71 : decode cX7_goHour 71 = .ok (.getfield 101, 3) := by decide +kernel
theorem dX7_goHour_74 : decode cX7_goHour 74 = .ok (.if_icmp .ge 44, 3) := by decide +kernel
theorem dX7_goHour_77 : decode cX7_goHour 77 = .ok (.aload_n 1, 1) := by decide +kernel
theorem dX7_goHour_78 : decode cX7_goHour 78 = .ok (.bipush 18, 2) := by decide +kernel
theorem dX7_goHour_80 : decode cX7_goHour 80 = .ok (.iload 4, 2) := by decide +kernel
theorem dX7_goHour_82 : decode cX7_goHour 82 = .ok (.iadd, 1) := by decide +kernel
theorem dX7_goHour_83 : decode cX7_goHour 83 = .ok (.aload_n 1, 1) := by decide +kernel
theorem dX7_goHour_84 : decode cX7_goHour 84 = .ok (.bipush 18, 2) := by decide +kernel
theorem dX7_goHour_86 : decode cX7_goHour 86 = .ok (.iload 4, 2) := by decide +kernel
theorem dX7_goHour_88 : decode cX7_goHour 88 = .ok (.iadd, 1) := by decide +kernel
theorem dX7_goHour_89 : decode cX7_goHour 89 = .ok (.iaload, 1) := by decide +kernel
theorem dX7_goHour_90 : decode cX7_goHour 90 = .ok (.ifCond .ne 14, 3) := by decide +kernel
theorem dX7_goHour_93 : decode cX7_goHour 93 = .ok (.aload_n 0, 1) := by decide +kernel
theorem dX7_goHour_94 : decode cX7_goHour 94 = .ok (.aload_n 1, 1) := by decide +kernel
theorem dX7_goHour_95 : decode cX7_goHour 95 = .ok (.iload 4, 2) := by decide +kernel
theorem dX7_goHour_97 : decode cX7_goHour 97 = .ok (.iload_n 2, 1) := by decide +kernel
theorem dX7_goHour_98 : decode cX7_goHour 98 = .ok (.invokevirtual 125, 3) := by decide +kernel
theorem dX7_goHour_101 : decode cX7_goHour 101 = .ok (.goto 10, 3) := by decide +kernel
theorem dX7_goHour_104 : decode cX7_goHour 104 = .ok (.aload_n 1, 1) := by decide +kernel
theorem dX7_goHour_105 : decode cX7_goHour 105 = .ok (.bipush 18, 2) := by decide +kernel
theorem dX7_goHour_107 : decode cX7_goHour 107 = .ok (.iload 4, 2) := by decide +kernel
theorem dX7_goHour_109 : decode cX7_goHour 109 = .ok (.iadd, 1) := by decide +kernel
theorem dX7_goHour_110 : decode cX7_goHour 110 = .ok (.iaload, 1) := by decide +kernel
theorem dX7_goHour_111 : decode cX7_goHour 111 = .ok (.iastore, 1) := by decide +kernel
theorem dX7_goHour_112 : decode cX7_goHour 112 = .ok (.iinc 4 1, 3) := by decide +kernel
theorem dX7_goHour_115 : decode cX7_goHour 115 = .ok (.goto (-47), 3) := by decide +kernel
theorem dX7_goHour_118 : decode cX7_goHour 118 = .ok (.iconst 0, 1) := by decide +kernel
theorem dX7_goHour_119 : decode cX7_goHour 119 = .ok (.istore 4, 2) := by decide +kernel
theorem dX7_goHour_121 : decode cX7_goHour 121 = .ok (.iload 4, 2) := by decide +kernel
theorem dX7_goHour_123 : decode cX7_goHour 123 = .ok (.bipush 6, 2) := by decide +kernel
theorem dX7_goHour_125 : decode cX7_goHour 125 = .ok (.if_icmp .ge 34, 3) := by decide +kernel
theorem dX7_goHour_128 : decode cX7_goHour 128 = .ok (.aload_n 1, 1) := by decide +kernel
theorem dX7_goHour_129 : decode cX7_goHour 129 = .ok (.bipush 6, 2) := by decide +kernel
theorem dX7_goHour_131 : decode cX7_goHour 131 = .ok (.iload 4, 2) := by decide +kernel
theorem dX7_goHour_133 : decode cX7_goHour 133 = .ok (.iadd, 1) := by decide +kernel
theorem dX7_goHour_134 : decode cX7_goHour 134 = .ok (.dup2, 1) := by decide +kernel
theorem dX7_goHour_135 : decode cX7_goHour 135 = .ok (.iaload, 1) := by decide +kernel
theorem dX7_goHour_136 : decode cX7_goHour 136 = .ok (.aload_n 1, 1) := by decide +kernel
theorem dX7_goHour_137 : decode cX7_goHour 137 = .ok (.bipush 6, 2) := by decide +kernel
theorem dX7_goHour_139 : decode cX7_goHour 139 = .ok (.iload 4, 2) := by decide +kernel
theorem dX7_goHour_141 : decode cX7_goHour 141 = .ok (.iadd, 1) := by decide +kernel
theorem dX7_goHour_142 : decode cX7_goHour 142 = .ok (.iaload, 1) := by decide +kernel
theorem dX7_goHour_143 : decode cX7_goHour 143 = .ok (.ifCond .le 7, 3) := by decide +kernel
theorem dX7_goHour_146 : decode cX7_goHour 146 = .ok (.iconst 1, 1) := by decide +kernel
theorem dX7_goHour_147 : decode cX7_goHour 147 = .ok (.goto 4, 3) := by decide +kernel
theorem dX7_goHour_150 : decode cX7_goHour 150 = .ok (.iconst 0, 1) := by decide +kernel
theorem dX7_goHour_151 : decode cX7_goHour 151 = .ok (.isub, 1) := by decide +kernel
theorem dX7_goHour_152 : decode cX7_goHour 152 = .ok (.iastore, 1) := by decide +kernel
theorem dX7_goHour_153 : decode cX7_goHour 153 = .ok (.iinc 4 1, 3) := by decide +kernel
theorem dX7_goHour_156 : decode cX7_goHour 156 = .ok (.goto (-35), 3) := by decide +kernel
theorem dX7_goHour_159 : decode cX7_goHour 159 = .ok (.aload_n 1, 1) := by decide +kernel
theorem dX7_goHour_160 : decode cX7_goHour 160 = .ok (.bipush 23, 2) := by decide +kernel
theorem dX7_goHour_162 : decode cX7_goHour 162 = .ok (.dup2, 1) := by decide +kernel
theorem dX7_goHour_163 : decode cX7_goHour 163 = .ok (.iaload, 1) := by decide +kernel
theorem dX7_goHour_164 : decode cX7_goHour 164 = .ok (.iconst 1, 1) := by decide +kernel
theorem dX7_goHour_165 : decode cX7_goHour 165 = .ok (.iadd, 1) := by decide +kernel
theorem dX7_goHour_166 : decode cX7_goHour 166 = .ok (.iastore, 1) := by decide +kernel
theorem dX7_goHour_167 : decode cX7_goHour 167 = .ok (.iload_n 2, 1) := by decide +kernel
theorem dX7_goHour_168 : decode cX7_goHour 168 = .ok (.ireturn, 1) := by decide +kernel
theorem dX7_goHours_0 : decode cX7_goHours 0 = .ok (.iconst 0, 1) := by decide +kernel
theorem dX7_goHours_1 : decode cX7_goHours 1 = .ok (.istore_n 2, 1) := by decide +kernel
theorem dX7_goHours_2 : decode cX7_goHours 2 = .ok (.iload_n 2, 1) := by decide +kernel
theorem dX7_goHours_3 : decode cX7_goHours 3 = .ok (.iload_n 1, 1) := by decide +kernel
theorem dX7_goHours_4 : decode cX7_goHours 4 = .ok (.if_icmp .ge 18, 3) := by decide +kernel
theorem dX7_goHours_7 : decode cX7_goHours 7 = .ok (.aload_n 0, 1) := by decide +kernel
theorem dX7_goHours_8 : decode cX7_goHours 8 = .ok (.aload_n 0, 1) := by decide +kernel
theorem dX7_goHours_9 : decode cX7_goHours 9 = .ok (.getfield 28, 3) := by decide +kernel
theorem dX7_goHours_12 : decode cX7_goHours 12 = .ok (.invokevirtual 129, 3) := by decide +kernel
theorem dX7_goHours_15 : decode cX7_goHours 15 = .ok (.pop, 1) := by decide +kernel
theorem dX7_goHours_16 : decode cX7_goHours 16 = .ok (.iinc 2 1, 3) := by decide +kernel
theorem dX7_goHours_19 : decode cX7_goHours 19 = .ok (.goto (-17), 3) := by decide +kernel
theorem dX7_goHours_22 : decode cX7_goHours 22 = .ok (.return_, 1) := by decide +kernel
theorem dX7_needsThat_0 : decode cX7_needsThat 0 = .ok (.iconst 0, 1) := by decide +kernel
theorem dX7_needsThat_1 : decode cX7_needsThat 1 = .ok (.istore_n 3, 1) := by decide +kernel
theorem dX7_needsThat_2 : decode cX7_needsThat 2 = .ok (.iconst 0, 1) := by decide +kernel
theorem dX7_needsThat_3 : decode cX7_needsThat 3 = .ok (.istore 4, 2) := by decide +kernel
theorem dX7_needsThat_5 : decode cX7_needsThat 5 = .ok (.iload 4, 2) := by decide +kernel
theorem dX7_needsThat_7 : decode cX7_needsThat 7 = .ok (.aload_n 0, 1) := by decide +kernel
theorem dX7_needsThat_8 : decode cX7_needsThat 8 = .ok (.getfield 101, 3) := by decide +kernel
theorem dX7_needsThat_11 : decode cX7_needsThat 11 = .ok (.if_icmp .ge 31, 3) := by decide +kernel
theorem dX7_needsThat_14 : decode cX7_needsThat 14 = .ok (.iload_n 3, 1) := by decide +kernel
theorem dX7_needsThat_15 : decode cX7_needsThat 15 = .ok (.aload_n 1, 1) := by decide +kernel
theorem dX7_needsThat_16 : decode cX7_needsThat 16 = .ok (.bipush 18, 2) := by decide +kernel
theorem dX7_needsThat_18 : decode cX7_needsThat 18 = .ok (.iload 4, 2) := by decide +kernel
theorem dX7_needsThat_20 : decode cX7_needsThat 20 = .ok (.iadd, 1) := by decide +kernel
theorem dX7_needsThat_21 : decode cX7_needsThat 21 = .ok (.iaload, 1) := by decide +kernel
theorem dX7_needsThat_22 : decode cX7_needsThat 22 = .ok (.iload_n 2, 1) := by decide +kernel
theorem dX7_needsThat_23 : decode cX7_needsThat 23 = .ok (.if_icmp .ne 10, 3) := by decide +kernel
theorem dX7_needsThat_26 : decode cX7_needsThat 26 = .ok (.iconst 1, 1) := by decide +kernel
theorem dX7_needsThat_27 : decode cX7_needsThat 27 = .ok (.iload 4, 2) := by decide +kernel
theorem dX7_needsThat_29 : decode cX7_needsThat 29 = .ok (.ishl, 1) := by decide +kernel
theorem dX7_needsThat_30 : decode cX7_needsThat 30 = .ok (.goto 4, 3) := by decide +kernel
theorem dX7_needsThat_33 : decode cX7_needsThat 33 = .ok (.iconst 0, 1) := by decide +kernel
theorem dX7_needsThat_34 : decode cX7_needsThat 34 = .ok (.ior, 1) := by decide +kernel
theorem dX7_needsThat_35 : decode cX7_needsThat 35 = .ok (.istore_n 3, 1) := by decide +kernel
theorem dX7_needsThat_36 : decode cX7_needsThat 36 = .ok (.iinc 4 1, 3) := by decide +kernel
theorem dX7_needsThat_39 : decode cX7_needsThat 39 = .ok (.goto (-34), 3) := by decide +kernel
theorem dX7_needsThat_42 : decode cX7_needsThat 42 = .ok (.iload_n 3, 1) := by decide +kernel
theorem dX7_needsThat_43 : decode cX7_needsThat 43 = .ok (.ireturn, 1) := by decide +kernel
theorem dX7_about_0 : decode cX7_about 0 = .ok (.aload_n 0, 1) := by decide +kernel
theorem dX7_about_1 : decode cX7_about 1 = .ok (.iconst 0, 1) := by decide +kernel
theorem dX7_about_2 : decode cX7_about 2 = .ok (.putfield 56, 3) := by decide +kernel
theorem dX7_about_5 : decode cX7_about 5 = .ok (.iload_n 1, 1) := by decide +kernel
theorem dX7_about_6 : decode cX7_about 6 = .ok (.tableswitch 136 0 10 #[58, 63, 68, 76, 83, 92, 101, 111, 121, 126, 131], 58) := by decide +kernel
theorem dX7_about_64 : decode cX7_about 64 = .ok (.aload_n 0, 1) := by decide +kernel
theorem dX7_about_65 : decode cX7_about 65 = .ok (.getfield 60, 3) := by decide +kernel
theorem dX7_about_68 : decode cX7_about 68 = .ok (.ireturn, 1) := by decide +kernel
theorem dX7_about_69 : decode cX7_about 69 = .ok (.aload_n 0, 1) := by decide +kernel
theorem dX7_about_70 : decode cX7_about 70 = .ok (.getfield 101, 3) := by decide +kernel
theorem dX7_about_73 : decode cX7_about 73 = .ok (.ireturn, 1) := by decide +kernel
theorem dX7_about_74 : decode cX7_about 74 = .ok (.aload_n 0, 1) := by decide +kernel
theorem dX7_about_75 : decode cX7_about 75 = .ok (.getfield 25, 3) := by decide +kernel
theorem dX7_about_78 : decode cX7_about 78 = .ok (.bipush 23, 2) := by decide +kernel
theorem dX7_about_80 : decode cX7_about 80 = .ok (.iaload, 1) := by decide +kernel
theorem dX7_about_81 : decode cX7_about 81 = .ok (.ireturn, 1) := by decide +kernel
theorem dX7_about_82 : decode cX7_about 82 = .ok (.aload_n 0, 1) := by decide +kernel
theorem dX7_about_83 : decode cX7_about 83 = .ok (.getfield 25, 3) := by decide +kernel
theorem dX7_about_86 : decode cX7_about 86 = .ok (.iconst 5, 1) := by decide +kernel
theorem dX7_about_87 : decode cX7_about 87 = .ok (.iaload, 1) := by decide +kernel
theorem dX7_about_88 : decode cX7_about 88 = .ok (.ireturn, 1) := by decide +kernel
theorem dX7_about_89 : decode cX7_about 89 = .ok (.aload_n 0, 1) := by decide +kernel
theorem dX7_about_90 : decode cX7_about 90 = .ok (.aload_n 0, 1) := by decide +kernel
theorem dX7_about_91 : decode cX7_about 91 = .ok (.getfield 25, 3) := by decide +kernel
theorem dX7_about_94 : decode cX7_about 94 = .ok (.invokevirtual 118, 3) := by decide +kernel
theorem dX7_about_97 : decode cX7_about 97 = .ok (.ireturn, 1) := by decide +kernel
theorem dX7_about_98 : decode cX7_about 98 = .ok (.aload_n 0, 1) := by decide +kernel
theorem dX7_about_99 : decode cX7_about 99 = .ok (.aload_n 0, 1) := by decide +kernel
theorem dX7_about_100 : decode cX7_about 100 = .ok (.getfield 25, 3) := by decide +kernel
theorem dX7_about_103 : decode cX7_about 103 = .ok (.invokevirtual 122, 3) := by decide +kernel
theorem dX7_about_106 : decode cX7_about 106 = .ok (.ireturn, 1) := by decide +kernel
theorem dX7_about_107 : decode cX7_about 107 = .ok (.aload_n 0, 1) := by decide +kernel
theorem dX7_about_108 : decode cX7_about 108 = .ok (.aload_n 0, 1) := by decide +kernel
theorem dX7_about_109 : decode cX7_about 109 = .ok (.getfield 25, 3) := by decide +kernel
theorem dX7_about_112 : decode cX7_about 112 = .ok (.iconst 1, 1) := by decide +kernel
theorem dX7_about_113 : decode cX7_about 113 = .ok (.invokevirtual 132, 3) := by decide +kernel
theorem dX7_about_116 : decode cX7_about 116 = .ok (.ireturn, 1) := by decide +kernel
theorem dX7_about_117 : decode cX7_about 117 = .ok (.aload_n 0, 1) := by decide +kernel
theorem dX7_about_118 : decode cX7_about 118 = .ok (.aload_n 0, 1) := by decide +kernel
theorem dX7_about_119 : decode cX7_about 119 = .ok (.getfield 25, 3) := by decide +kernel
theorem dX7_about_122 : decode cX7_about 122 = .ok (.iconst 2, 1) := by decide +kernel
theorem dX7_about_123 : decode cX7_about 123 = .ok (.invokevirtual 132, 3) := by decide +kernel
theorem dX7_about_126 : decode cX7_about 126 = .ok (.ireturn, 1) := by decide +kernel
theorem dX7_about_127 : decode cX7_about 127 = .ok (.aload_n 0, 1) := by decide +kernel
theorem dX7_about_128 : decode cX7_about 128 = .ok (.getfield 104, 3) := by decide +kernel
theorem dX7_about_131 : decode cX7_about 131 = .ok (.ireturn, 1) := by decide +kernel
theorem dX7_about_132 : decode cX7_about 132 = .ok (.aload_n 0, 1) := by decide +kernel
theorem dX7_about_133 : decode cX7_about 133 = .ok (.getfield 135, 3) := by decide +kernel
theorem dX7_about_136 : decode cX7_about 136 = .ok (.ireturn, 1) := by decide +kernel
theorem dX7_about_137 : decode cX7_about 137 = .ok (.aload_n 0, 1) := by decide +kernel
theorem dX7_about_138 : decode cX7_about 138 = .ok (.getfield 71, 3) := by decide +kernel
theorem dX7_about_141 : decode cX7_about 141 = .ok (.ireturn, 1) := by decide +kernel
theorem dX7_about_142 : decode cX7_about 142 = .ok (.bipush (-2), 2) := by decide +kernel
theorem dX7_about_144 : decode cX7_about 144 = .ok (.ireturn, 1) := by decide +kernel
theorem dX7_walker_0 : decode cX7_walker 0 = .ok (.aload_n 0, 1) := by decide +kernel
theorem dX7_walker_1 : decode cX7_walker 1 = .ok (.iconst 0, 1) := by decide +kernel
theorem dX7_walker_2 : decode cX7_walker 2 = .ok (.putfield 56, 3) := by decide +kernel
theorem dX7_walker_5 : decode cX7_walker 5 = .ok (.aload_n 0, 1) := by decide +kernel
theorem dX7_walker_6 : decode cX7_walker 6 = .ok (.iload_n 1, 1) := by decide +kernel
theorem dX7_walker_7 : decode cX7_walker 7 = .ok (.invokevirtual 138, 3) := by decide +kernel
theorem dX7_walker_10 : decode cX7_walker 10 = .ok (.ifCond .eq 5, 3) := by decide +kernel
theorem dX7_walker_13 : decode cX7_walker 13 = .ok (.iconst (-1), 1) := by decide +kernel
theorem dX7_walker_14 : decode cX7_walker 14 = .ok (.ireturn, 1) := by decide +kernel
theorem dX7_walker_15 : decode cX7_walker 15 = .ok (.iload_n 2, 1) := by decide +kernel
theorem dX7_walker_16 : decode cX7_walker 16 = .ok (.tableswitch 53 0 2 #[28, 35, 42], 28) := by decide +kernel
theorem dX7_walker_44 : decode cX7_walker 44 = .ok (.aload_n 0, 1) := by decide +kernel
theorem dX7_walker_45 : decode cX7_walker 45 = .ok (.getfield 25, 3) := by decide +kernel
theorem dX7_walker_48 : decode cX7_walker 48 = .ok (.iload_n 1, 1) := by decide +kernel
theorem dX7_walker_49 : decode cX7_walker 49 = .ok (.iaload, 1) := by decide +kernel
theorem dX7_walker_50 : decode cX7_walker 50 = .ok (.ireturn, 1) := by decide +kernel
theorem dX7_walker_51 : decode cX7_walker 51 = .ok (.aload_n 0, 1) := by decide +kernel
theorem dX7_walker_52 : decode cX7_walker 52 = .ok (.getfield 13, 3) := by decide +kernel
theorem dX7_walker_55 : decode cX7_walker 55 = .ok (.iload_n 1, 1) := by decide +kernel
theorem dX7_walker_56 : decode cX7_walker 56 = .ok (.iaload, 1) := by decide +kernel
theorem dX7_walker_57 : decode cX7_walker 57 = .ok (.ireturn, 1) := by decide +kernel
theorem dX7_walker_58 : decode cX7_walker 58 = .ok (.aload_n 0, 1) := by decide +kernel
theorem dX7_walker_59 : decode cX7_walker 59 = .ok (.getfield 25, 3) := by decide +kernel
theorem dX7_walker_62 : decode cX7_walker 62 = .ok (.iconst 5, 1) := by decide +kernel
theorem dX7_walker_63 : decode cX7_walker 63 = .ok (.iaload, 1) := by decide +kernel
theorem dX7_walker_64 : decode cX7_walker 64 = .ok (.iload_n 1, 1) := by decide +kernel
theorem dX7_walker_65 : decode cX7_walker 65 = .ok (.ishr, 1) := by decide +kernel
theorem dX7_walker_66 : decode cX7_walker 66 = .ok (.iconst 1, 1) := by decide +kernel
theorem dX7_walker_67 : decode cX7_walker 67 = .ok (.iand, 1) := by decide +kernel
theorem dX7_walker_68 : decode cX7_walker 68 = .ok (.ireturn, 1) := by decide +kernel
theorem dX7_walker_69 : decode cX7_walker 69 = .ok (.bipush (-2), 2) := by decide +kernel
theorem dX7_walker_71 : decode cX7_walker 71 = .ok (.ireturn, 1) := by decide +kernel
theorem dX7_need_0 : decode cX7_need 0 = .ok (.aload_n 0, 1) := by decide +kernel
theorem dX7_need_1 : decode cX7_need 1 = .ok (.iconst 0, 1) := by decide +kernel
theorem dX7_need_2 : decode cX7_need 2 = .ok (.putfield 56, 3) := by decide +kernel
theorem dX7_need_5 : decode cX7_need 5 = .ok (.iload_n 1, 1) := by decide +kernel
theorem dX7_need_6 : decode cX7_need 6 = .ok (.i2l, 1) := by decide +kernel
theorem dX7_need_7 : decode cX7_need 7 = .ok (.lconst 0, 1) := by decide +kernel
theorem dX7_need_8 : decode cX7_need 8 = .ok (.aload_n 0, 1) := by decide +kernel
theorem dX7_need_9 : decode cX7_need 9 = .ok (.getfield 101, 3) := by decide +kernel
theorem dX7_need_12 : decode cX7_need 12 = .ok (.iconst 1, 1) := by decide +kernel
theorem dX7_need_13 : decode cX7_need 13 = .ok (.isub, 1) := by decide +kernel
theorem dX7_need_14 : decode cX7_need 14 = .ok (.i2l, 1) := by decide +kernel
theorem dX7_need_15 : decode cX7_need 15 = .ok (.invokestatic 63, 3) := by decide +kernel
theorem dX7_need_18 : decode cX7_need 18 = .ok (.ifCond .ne 5, 3) := by decide +kernel
theorem dX7_need_21 : decode cX7_need 21 = .ok (.iconst (-1), 1) := by decide +kernel
theorem dX7_need_22 : decode cX7_need 22 = .ok (.ireturn, 1) := by decide +kernel
theorem dX7_need_23 : decode cX7_need 23 = .ok (.iload_n 2, 1) := by decide +kernel
theorem dX7_need_24 : decode cX7_need 24 = .ok (.i2l, 1) := by decide +kernel
theorem dX7_need_25 : decode cX7_need 25 = .ok (.lconst 0, 1) := by decide +kernel
theorem dX7_need_26 : decode cX7_need 26 = .ok (.ldc2_w 142, 3) := by decide +kernel
theorem dX7_need_29 : decode cX7_need 29 = .ok (.invokestatic 63, 3) := by decide +kernel
theorem dX7_need_32 : decode cX7_need 32 = .ok (.ifCond .eq 16, 3) := by decide +kernel
theorem dX7_need_35 : decode cX7_need 35 = .ok (.aload_n 0, 1) := by decide +kernel
theorem dX7_need_36 : decode cX7_need 36 = .ok (.getfield 16, 3) := by decide +kernel
theorem dX7_need_39 : decode cX7_need 39 = .ok (.iconst 3, 1) := by decide +kernel
theorem dX7_need_40 : decode cX7_need 40 = .ok (.iload_n 1, 1) := by decide +kernel
theorem dX7_need_41 : decode cX7_need 41 = .ok (.imul, 1) := by decide +kernel
theorem dX7_need_42 : decode cX7_need 42 = .ok (.iload_n 2, 1) := by decide +kernel
theorem dX7_need_43 : decode cX7_need 43 = .ok (.iadd, 1) := by decide +kernel
theorem dX7_need_44 : decode cX7_need 44 = .ok (.iaload, 1) := by decide +kernel
theorem dX7_need_45 : decode cX7_need 45 = .ok (.goto 22, 3) := by decide +kernel
theorem dX7_need_48 : decode cX7_need 48 = .ok (.iload_n 2, 1) := by decide +kernel
theorem dX7_need_49 : decode cX7_need 49 = .ok (.iconst 3, 1) := by decide +kernel
theorem dX7_need_50 : decode cX7_need 50 = .ok (.if_icmp .ne 15, 3) := by decide +kernel
theorem dX7_need_53 : decode cX7_need 53 = .ok (.aload_n 0, 1) := by decide +kernel
theorem dX7_need_54 : decode cX7_need 54 = .ok (.getfield 25, 3) := by decide +kernel
theorem dX7_need_57 : decode cX7_need 57 = .ok (.bipush 18, 2) := by decide +kernel
theorem dX7_need_59 : decode cX7_need 59 = .ok (.iload_n 1, 1) := by decide +kernel
theorem dX7_need_60 : decode cX7_need 60 = .ok (.iadd, 1) := by decide +kernel
theorem dX7_need_61 : decode cX7_need 61 = .ok (.iaload, 1) := by decide +kernel
theorem dX7_need_62 : decode cX7_need 62 = .ok (.goto 5, 3) := by decide +kernel
theorem dX7_need_65 : decode cX7_need 65 = .ok (.bipush (-2), 2) := by decide +kernel
theorem dX7_need_67 : decode cX7_need 67 = .ok (.ireturn, 1) := by decide +kernel
theorem dX7_street_0 : decode cX7_street 0 = .ok (.aload_n 0, 1) := by decide +kernel
theorem dX7_street_1 : decode cX7_street 1 = .ok (.iconst 0, 1) := by decide +kernel
theorem dX7_street_2 : decode cX7_street 2 = .ok (.putfield 56, 3) := by decide +kernel
theorem dX7_street_5 : decode cX7_street 5 = .ok (.iload_n 1, 1) := by decide +kernel
theorem dX7_street_6 : decode cX7_street 6 = .ok (.invokestatic 144, 3) := by decide +kernel
theorem dX7_street_9 : decode cX7_street 9 = .ok (.ifCond .eq 5, 3) := by decide +kernel
theorem dX7_street_12 : decode cX7_street 12 = .ok (.iconst (-1), 1) := by decide +kernel
theorem dX7_street_13 : decode cX7_street 13 = .ok (.ireturn, 1) := by decide +kernel
theorem dX7_street_14 : decode cX7_street 14 = .ok (.iload_n 2, 1) := by decide +kernel
theorem dX7_street_15 : decode cX7_street 15 = .ok (.tableswitch 55 0 2 #[25, 35, 45], 25) := by decide +kernel
theorem dX7_street_40 : decode cX7_street 40 = .ok (.aload_n 0, 1) := by decide +kernel
theorem dX7_street_41 : decode cX7_street 41 = .ok (.getfield 25, 3) := by decide +kernel
theorem dX7_street_44 : decode cX7_street 44 = .ok (.bipush 12, 2) := by decide +kernel
theorem dX7_street_46 : decode cX7_street 46 = .ok (.iload_n 1, 1) := by decide +kernel
theorem dX7_street_47 : decode cX7_street 47 = .ok (.iadd, 1) := by decide +kernel
theorem dX7_street_48 : decode cX7_street 48 = .ok (.iaload, 1) := by decide +kernel
theorem dX7_street_49 : decode cX7_street 49 = .ok (.ireturn, 1) := by decide +kernel
theorem dX7_street_50 : decode cX7_street 50 = .ok (.aload_n 0, 1) := by decide +kernel
theorem dX7_street_51 : decode cX7_street 51 = .ok (.getfield 25, 3) := by decide +kernel
theorem dX7_street_54 : decode cX7_street 54 = .ok (.bipush 6, 2) := by decide +kernel
theorem dX7_street_56 : decode cX7_street 56 = .ok (.iload_n 1, 1) := by decide +kernel
theorem dX7_street_57 : decode cX7_street 57 = .ok (.iadd, 1) := by decide +kernel
theorem dX7_street_58 : decode cX7_street 58 = .ok (.iaload, 1) := by decide +kernel
theorem dX7_street_59 : decode cX7_street 59 = .ok (.ireturn, 1) := by decide +kernel
theorem dX7_street_60 : decode cX7_street 60 = .ok (.aload_n 0, 1) := by decide +kernel
theorem dX7_street_61 : decode cX7_street 61 = .ok (.aload_n 0, 1) := by decide +kernel
theorem dX7_street_62 : decode cX7_street 62 = .ok (.getfield 25, 3) := by decide +kernel
theorem dX7_street_65 : decode cX7_street 65 = .ok (.iload_n 1, 1) := by decide +kernel
theorem dX7_street_66 : decode cX7_street 66 = .ok (.invokevirtual 111, 3) := by decide +kernel
theorem dX7_street_69 : decode cX7_street 69 = .ok (.ireturn, 1) := by decide +kernel
theorem dX7_street_70 : decode cX7_street 70 = .ok (.bipush (-2), 2) := by decide +kernel
theorem dX7_street_72 : decode cX7_street 72 = .ok (.ireturn, 1) := by decide +kernel
theorem dX7_note_0 : decode cX7_note 0 = .ok (.aload_n 0, 1) := by decide +kernel
theorem dX7_note_1 : decode cX7_note 1 = .ok (.getfield 104, 3) := by decide +kernel
theorem dX7_note_4 : decode cX7_note 4 = .ok (.bipush 14, 2) := by decide +kernel
theorem dX7_note_6 : decode cX7_note 6 = .ok (.if_icmp .ne 43, 3) := by decide +kernel
theorem dX7_note_9 : decode cX7_note 9 = .ok (.iconst 0, 1) := by decide +kernel
theorem dX7_note_10 : decode cX7_note 10 = .ok (.istore_n 1, 1) := by decide +kernel
theorem dX7_note_11 : decode cX7_note 11 = .ok (.iload_n 1, 1) := by decide +kernel
theorem dX7_note_12 : decode cX7_note 12 = .ok (.sipush 312, 3) := by decide +kernel
theorem dX7_note_15 : decode cX7_note 15 = .ok (.if_icmp .ge 24, 3) := by decide +kernel
theorem dX7_note_18 : decode cX7_note 18 = .ok (.aload_n 0, 1) := by decide +kernel
theorem dX7_note_19 : decode cX7_note 19 = .ok (.getfield 31, 3) := by decide +kernel
theorem dX7_note_22 : decode cX7_note 22 = .ok (.iload_n 1, 1) := by decide +kernel
theorem dX7_note_23 : decode cX7_note 23 = .ok (.aload_n 0, 1) := by decide +kernel
theorem dX7_note_24 : decode cX7_note 24 = .ok (.getfield 31, 3) := by decide +kernel
theorem dX7_note_27 : decode cX7_note 27 = .ok (.iload_n 1, 1) := by decide +kernel
theorem dX7_note_28 : decode cX7_note 28 = .ok (.bipush 24, 2) := by decide +kernel
theorem dX7_note_30 : decode cX7_note 30 = .ok (.iadd, 1) := by decide +kernel
theorem dX7_note_31 : decode cX7_note 31 = .ok (.iaload, 1) := by decide +kernel
theorem dX7_note_32 : decode cX7_note 32 = .ok (.iastore, 1) := by decide +kernel
theorem dX7_note_33 : decode cX7_note 33 = .ok (.iinc 1 1, 3) := by decide +kernel
theorem dX7_note_36 : decode cX7_note 36 = .ok (.goto (-25), 3) := by decide +kernel
theorem dX7_note_39 : decode cX7_note 39 = .ok (.aload_n 0, 1) := by decide +kernel
theorem dX7_note_40 : decode cX7_note 40 = .ok (.dup, 1) := by decide +kernel
theorem dX7_note_41 : decode cX7_note 41 = .ok (.getfield 104, 3) := by decide +kernel
theorem dX7_note_44 : decode cX7_note 44 = .ok (.iconst 1, 1) := by decide +kernel
theorem dX7_note_45 : decode cX7_note 45 = .ok (.isub, 1) := by decide +kernel
theorem dX7_note_46 : decode cX7_note 46 = .ok (.putfield 104, 3) := by decide +kernel
theorem dX7_note_49 : decode cX7_note 49 = .ok (.iconst 0, 1) := by decide +kernel
theorem dX7_note_50 : decode cX7_note 50 = .ok (.istore_n 1, 1) := by decide +kernel
theorem dX7_note_51 : decode cX7_note 51 = .ok (.iload_n 1, 1) := by decide +kernel
theorem dX7_note_52 : decode cX7_note 52 = .ok (.bipush 24, 2) := by decide +kernel
theorem dX7_note_54 : decode cX7_note 54 = .ok (.if_icmp .ge 29, 3) := by decide +kernel
theorem dX7_note_57 : decode cX7_note 57 = .ok (.aload_n 0, 1) := by decide +kernel
theorem dX7_note_58 : decode cX7_note 58 = .ok (.getfield 31, 3) := by decide +kernel
theorem dX7_note_61 : decode cX7_note 61 = .ok (.bipush 24, 2) := by decide +kernel
theorem dX7_note_63 : decode cX7_note 63 = .ok (.aload_n 0, 1) := by decide +kernel
theorem dX7_note_64 : decode cX7_note 64 = .ok (.getfield 104, 3) := by decide +kernel
theorem dX7_note_67 : decode cX7_note 67 = .ok (.imul, 1) := by decide +kernel
theorem dX7_note_68 : decode cX7_note 68 = .ok (.iload_n 1, 1) := by decide +kernel
theorem dX7_note_69 : decode cX7_note 69 = .ok (.iadd, 1) := by decide +kernel
theorem dX7_note_70 : decode cX7_note 70 = .ok (.aload_n 0, 1) := by decide +kernel
theorem dX7_note_71 : decode cX7_note 71 = .ok (.getfield 25, 3) := by decide +kernel
theorem dX7_note_74 : decode cX7_note 74 = .ok (.iload_n 1, 1) := by decide +kernel
theorem dX7_note_75 : decode cX7_note 75 = .ok (.iaload, 1) := by decide +kernel
theorem dX7_note_76 : decode cX7_note 76 = .ok (.iastore, 1) := by decide +kernel
theorem dX7_note_77 : decode cX7_note 77 = .ok (.iinc 1 1, 3) := by decide +kernel
theorem dX7_note_80 : decode cX7_note 80 = .ok (.goto (-29), 3) := by decide +kernel
theorem dX7_note_83 : decode cX7_note 83 = .ok (.aload_n 0, 1) := by decide +kernel
theorem dX7_note_84 : decode cX7_note 84 = .ok (.dup, 1) := by decide +kernel
theorem dX7_note_85 : decode cX7_note 85 = .ok (.getfield 104, 3) := by decide +kernel
theorem dX7_note_88 : decode cX7_note 88 = .ok (.iconst 1, 1) := by decide +kernel
theorem dX7_note_89 : decode cX7_note 89 = .ok (.iadd, 1) := by decide +kernel
theorem dX7_note_90 : decode cX7_note 90 = .ok (.putfield 104, 3) := by decide +kernel
theorem dX7_note_93 : decode cX7_note 93 = .ok (.return_, 1) := by decide +kernel
theorem dX7_open_0 : decode cX7_open 0 = .ok (.aload_n 0, 1) := by decide +kernel
theorem dX7_open_1 : decode cX7_open 1 = .ok (.iconst 0, 1) := by decide +kernel
theorem dX7_open_2 : decode cX7_open 2 = .ok (.putfield 56, 3) := by decide +kernel
theorem dX7_open_5 : decode cX7_open 5 = .ok (.aload_n 0, 1) := by decide +kernel
theorem dX7_open_6 : decode cX7_open 6 = .ok (.iload_n 1, 1) := by decide +kernel
theorem dX7_open_7 : decode cX7_open 7 = .ok (.invokevirtual 138, 3) := by decide +kernel
theorem dX7_open_10 : decode cX7_open 10 = .ok (.ifCond .eq 5, 3) := by decide +kernel
theorem dX7_open_13 : decode cX7_open 13 = .ok (.iconst (-1), 1) := by decide +kernel
theorem dX7_open_14 : decode cX7_open 14 = .ok (.ireturn, 1) := by decide +kernel
theorem dX7_open_15 : decode cX7_open 15 = .ok (.aload_n 0, 1) := by decide +kernel
theorem dX7_open_16 : decode cX7_open 16 = .ok (.getfield 25, 3) := by decide +kernel
theorem dX7_open_19 : decode cX7_open 19 = .ok (.iconst 5, 1) := by decide +kernel
theorem dX7_open_20 : decode cX7_open 20 = .ok (.iaload, 1) := by decide +kernel
theorem dX7_open_21 : decode cX7_open 21 = .ok (.iload_n 1, 1) := by decide +kernel
theorem dX7_open_22 : decode cX7_open 22 = .ok (.invokestatic 107, 3) := by decide +kernel
theorem dX7_open_25 : decode cX7_open 25 = .ok (.ifCond .eq 6, 3) := by decide +kernel
theorem dX7_open_28 : decode cX7_open 28 = .ok (.bipush (-3), 2) := by decide +kernel
theorem dX7_open_30 : decode cX7_open 30 = .ok (.ireturn, 1) := by decide +kernel
theorem dX7_open_31 : decode cX7_open 31 = .ok (.aload_n 0, 1) := by decide +kernel
theorem dX7_open_32 : decode cX7_open 32 = .ok (.invokevirtual 147, 3) := by decide +kernel
theorem dX7_open_35 : decode cX7_open 35 = .ok (.aload_n 0, 1) := by decide +kernel
theorem dX7_open_36 : decode cX7_open 36 = .ok (.aload_n 0, 1) := by decide +kernel
theorem dX7_open_37 : decode cX7_open 37 = .ok (.getfield 25, 3) := by decide +kernel
theorem dX7_open_40 : decode cX7_open 40 = .ok (.iload_n 1, 1) := by decide +kernel
theorem dX7_open_41 : decode cX7_open 41 = .ok (.invokevirtual 150, 3) := by decide +kernel
theorem dX7_open_44 : decode cX7_open 44 = .ok (.aload_n 0, 1) := by decide +kernel
theorem dX7_open_45 : decode cX7_open 45 = .ok (.aload_n 0, 1) := by decide +kernel
theorem dX7_open_46 : decode cX7_open 46 = .ok (.getfield 25, 3) := by decide +kernel
theorem dX7_open_49 : decode cX7_open 49 = .ok (.aload_n 0, 1) := by decide +kernel
theorem dX7_open_50 : decode cX7_open 50 = .ok (.getfield 25, 3) := by decide +kernel
theorem dX7_open_53 : decode cX7_open 53 = .ok (.iload_n 1, 1) := by decide +kernel
theorem dX7_open_54 : decode cX7_open 54 = .ok (.iaload, 1) := by decide +kernel
theorem dX7_open_55 : decode cX7_open 55 = .ok (.invokevirtual 111, 3) := by decide +kernel
theorem dX7_open_58 : decode cX7_open 58 = .ok (.ireturn, 1) := by decide +kernel
theorem dX7_shut_0 : decode cX7_shut 0 = .ok (.aload_n 0, 1) := by decide +kernel
theorem dX7_shut_1 : decode cX7_shut 1 = .ok (.iconst 0, 1) := by decide +kernel
theorem dX7_shut_2 : decode cX7_shut 2 = .ok (.putfield 56, 3) := by decide +kernel
theorem dX7_shut_5 : decode cX7_shut 5 = .ok (.aload_n 0, 1) := by decide +kernel
theorem dX7_shut_6 : decode cX7_shut 6 = .ok (.iload_n 1, 1) := by decide +kernel
theorem dX7_shut_7 : decode cX7_shut 7 = .ok (.invokevirtual 138, 3) := by decide +kernel
theorem dX7_shut_10 : decode cX7_shut 10 = .ok (.ifCond .eq 5, 3) := by decide +kernel
theorem dX7_shut_13 : decode cX7_shut 13 = .ok (.iconst (-1), 1) := by decide +kernel
theorem dX7_shut_14 : decode cX7_shut 14 = .ok (.ireturn, 1) := by decide +kernel
theorem dX7_shut_15 : decode cX7_shut 15 = .ok (.aload_n 0, 1) := by decide +kernel
theorem dX7_shut_16 : decode cX7_shut 16 = .ok (.getfield 25, 3) := by decide +kernel
theorem dX7_shut_19 : decode cX7_shut 19 = .ok (.iconst 5, 1) := by decide +kernel
theorem dX7_shut_20 : decode cX7_shut 20 = .ok (.iaload, 1) := by decide +kernel
theorem dX7_shut_21 : decode cX7_shut 21 = .ok (.iload_n 1, 1) := by decide +kernel
theorem dX7_shut_22 : decode cX7_shut 22 = .ok (.invokestatic 107, 3) := by decide +kernel
theorem dX7_shut_25 : decode cX7_shut 25 = .ok (.ifCond .ne 6, 3) := by decide +kernel
theorem dX7_shut_28 : decode cX7_shut 28 = .ok (.bipush (-3), 2) := by decide +kernel
theorem dX7_shut_30 : decode cX7_shut 30 = .ok (.ireturn, 1) := by decide +kernel
theorem dX7_shut_31 : decode cX7_shut 31 = .ok (.aload_n 0, 1) := by decide +kernel
theorem dX7_shut_32 : decode cX7_shut 32 = .ok (.invokevirtual 147, 3) := by decide +kernel
theorem dX7_shut_35 : decode cX7_shut 35 = .ok (.aload_n 0, 1) := by decide +kernel
theorem dX7_shut_36 : decode cX7_shut 36 = .ok (.aload_n 0, 1) := by decide +kernel
theorem dX7_shut_37 : decode cX7_shut 37 = .ok (.getfield 25, 3) := by decide +kernel
theorem dX7_shut_40 : decode cX7_shut 40 = .ok (.iload_n 1, 1) := by decide +kernel
theorem dX7_shut_41 : decode cX7_shut 41 = .ok (.invokevirtual 154, 3) := by decide +kernel
theorem dX7_shut_44 : decode cX7_shut 44 = .ok (.aload_n 0, 1) := by decide +kernel
theorem dX7_shut_45 : decode cX7_shut 45 = .ok (.aload_n 0, 1) := by decide +kernel
theorem dX7_shut_46 : decode cX7_shut 46 = .ok (.getfield 25, 3) := by decide +kernel
theorem dX7_shut_49 : decode cX7_shut 49 = .ok (.aload_n 0, 1) := by decide +kernel
theorem dX7_shut_50 : decode cX7_shut 50 = .ok (.getfield 25, 3) := by decide +kernel
theorem dX7_shut_53 : decode cX7_shut 53 = .ok (.iload_n 1, 1) := by decide +kernel
theorem dX7_shut_54 : decode cX7_shut 54 = .ok (.iaload, 1) := by decide +kernel
theorem dX7_shut_55 : decode cX7_shut 55 = .ok (.invokevirtual 111, 3) := by decide +kernel
theorem dX7_shut_58 : decode cX7_shut 58 = .ok (.ireturn, 1) := by decide +kernel
theorem dX7_canWalk_0 : decode cX7_canWalk 0 = .ok (.aload_n 0, 1) := by decide +kernel
theorem dX7_canWalk_1 : decode cX7_canWalk 1 = .ok (.iload_n 1, 1) := by decide +kernel
theorem dX7_canWalk_2 : decode cX7_canWalk 2 = .ok (.iaload, 1) := by decide +kernel
theorem dX7_canWalk_3 : decode cX7_canWalk 3 = .ok (.iload_n 2, 1) := by decide +kernel
theorem dX7_canWalk_4 : decode cX7_canWalk 4 = .ok (.iadd, 1) := by decide +kernel
theorem dX7_canWalk_5 : decode cX7_canWalk 5 = .ok (.invokestatic 144, 3) := by decide +kernel
theorem dX7_canWalk_8 : decode cX7_canWalk 8 = .ok (.ifCond .ne 17, 3) := by decide +kernel
theorem dX7_canWalk_11 : decode cX7_canWalk 11 = .ok (.aload_n 0, 1) := by decide +kernel
theorem dX7_canWalk_12 : decode cX7_canWalk 12 = .ok (.iconst 5, 1) := by decide +kernel
theorem dX7_canWalk_13 : decode cX7_canWalk 13 = .ok (.iaload, 1) := by decide +kernel
theorem dX7_canWalk_14 : decode cX7_canWalk 14 = .ok (.iload_n 1, 1) := by decide +kernel
theorem dX7_canWalk_15 : decode cX7_canWalk 15 = .ok (.invokestatic 107, 3) := by decide +kernel
theorem dX7_canWalk_18 : decode cX7_canWalk 18 = .ok (.ifCond .ne 7, 3) := by decide +kernel
theorem dX7_canWalk_21 : decode cX7_canWalk 21 = .ok (.iconst 1, 1) := by decide +kernel
theorem dX7_canWalk_22 : decode cX7_canWalk 22 = .ok (.goto 4, 3) := by decide +kernel
theorem dX7_canWalk_25 : decode cX7_canWalk 25 = .ok (.iconst 0, 1) := by decide +kernel
theorem dX7_canWalk_26 : decode cX7_canWalk 26 = .ok (.ireturn, 1) := by decide +kernel
theorem dX7_walk_0 : decode cX7_walk 0 = .ok (.aload_n 0, 1) := by decide +kernel
theorem dX7_walk_1 : decode cX7_walk 1 = .ok (.iconst 0, 1) := by decide +kernel
theorem dX7_walk_2 : decode cX7_walk 2 = .ok (.putfield 56, 3) := by decide +kernel
theorem dX7_walk_5 : decode cX7_walk 5 = .ok (.aload_n 0, 1) := by decide +kernel
theorem dX7_walk_6 : decode cX7_walk 6 = .ok (.iload_n 1, 1) := by decide +kernel
theorem dX7_walk_7 : decode cX7_walk 7 = .ok (.invokevirtual 138, 3) := by decide +kernel
theorem dX7_walk_10 : decode cX7_walk 10 = .ok (.ifCond .eq 5, 3) := by decide +kernel
theorem dX7_walk_13 : decode cX7_walk 13 = .ok (.iconst (-1), 1) := by decide +kernel
theorem dX7_walk_14 : decode cX7_walk 14 = .ok (.ireturn, 1) := by decide +kernel
theorem dX7_walk_15 : decode cX7_walk 15 = .ok (.iload_n 2, 1) := by decide +kernel
theorem dX7_walk_16 : decode cX7_walk 16 = .ok (.ifCond .eq 7, 3) := by decide +kernel
theorem dX7_walk_19 : decode cX7_walk 19 = .ok (.iconst 1, 1) := by decide +kernel
theorem dX7_walk_20 : decode cX7_walk 20 = .ok (.goto 4, 3) := by decide +kernel
theorem dX7_walk_23 : decode cX7_walk 23 = .ok (.iconst (-1), 1) := by decide +kernel
theorem dX7_walk_24 : decode cX7_walk 24 = .ok (.istore_n 3, 1) := by decide +kernel
theorem dX7_walk_25 : decode cX7_walk 25 = .ok (.aload_n 0, 1) := by decide +kernel
theorem dX7_walk_26 : decode cX7_walk 26 = .ok (.getfield 25, 3) := by decide +kernel
theorem dX7_walk_29 : decode cX7_walk 29 = .ok (.iload_n 1, 1) := by decide +kernel
theorem dX7_walk_30 : decode cX7_walk 30 = .ok (.iload_n 3, 1) := by decide +kernel
theorem dX7_walk_31 : decode cX7_walk 31 = .ok (.invokestatic 157, 3) := by decide +kernel
theorem dX7_walk_34 : decode cX7_walk 34 = .ok (.ifCond .ne 6, 3) := by decide +kernel
theorem dX7_walk_37 : decode cX7_walk 37 = .ok (.bipush (-3), 2) := by decide +kernel
theorem dX7_walk_39 : decode cX7_walk 39 = .ok (.ireturn, 1) := by decide +kernel
theorem dX7_walk_40 : decode cX7_walk 40 = .ok (.aload_n 0, 1) := by decide +kernel
theorem dX7_walk_41 : decode cX7_walk 41 = .ok (.invokevirtual 147, 3) := by decide +kernel
theorem dX7_walk_44 : decode cX7_walk 44 = .ok (.aload_n 0, 1) := by decide +kernel
theorem dX7_walk_45 : decode cX7_walk 45 = .ok (.getfield 25, 3) := by decide +kernel
theorem dX7_walk_48 : decode cX7_walk 48 = .ok (.iload_n 1, 1) := by decide +kernel
theorem dX7_walk_49 : decode cX7_walk 49 = .ok (.dup2, 1) := by decide +kernel
theorem dX7_walk_50 : decode cX7_walk 50 = .ok (.iaload, 1) := by decide +kernel
theorem dX7_walk_51 : decode cX7_walk 51 = .ok (.iload_n 3, 1) := by decide +kernel
theorem dX7_walk_52 : decode cX7_walk 52 = .ok (.iadd, 1) := by decide +kernel
theorem dX7_walk_53 : decode cX7_walk 53 = .ok (.iastore, 1) := by decide +kernel
theorem dX7_walk_54 : decode cX7_walk 54 = .ok (.aload_n 0, 1) := by decide +kernel
theorem dX7_walk_55 : decode cX7_walk 55 = .ok (.getfield 25, 3) := by decide +kernel
theorem dX7_walk_58 : decode cX7_walk 58 = .ok (.iload_n 1, 1) := by decide +kernel
theorem dX7_walk_59 : decode cX7_walk 59 = .ok (.iaload, 1) := by decide +kernel
theorem dX7_walk_60 : decode cX7_walk 60 = .ok (.ireturn, 1) := by decide +kernel
theorem dX7_hour_0 : decode cX7_hour 0 = .ok (.aload_n 0, 1) := by decide +kernel
theorem dX7_hour_1 : decode cX7_hour 1 = .ok (.iconst 0, 1) := by decide +kernel
theorem dX7_hour_2 : decode cX7_hour 2 = .ok (.putfield 56, 3) := by decide +kernel
theorem dX7_hour_5 : decode cX7_hour 5 = .ok (.aload_n 0, 1) := by decide +kernel
theorem dX7_hour_6 : decode cX7_hour 6 = .ok (.invokevirtual 147, 3) := by decide +kernel
theorem dX7_hour_9 : decode cX7_hour 9 = .ok (.aload_n 0, 1) := by decide +kernel
theorem dX7_hour_10 : decode cX7_hour 10 = .ok (.aload_n 0, 1) := by decide +kernel
theorem dX7_hour_11 : decode cX7_hour 11 = .ok (.getfield 25, 3) := by decide +kernel
theorem dX7_hour_14 : decode cX7_hour 14 = .ok (.invokevirtual 129, 3) := by decide +kernel
theorem dX7_hour_17 : decode cX7_hour 17 = .ok (.ireturn, 1) := by decide +kernel
theorem dX7_undo_0 : decode cX7_undo 0 = .ok (.aload_n 0, 1) := by decide +kernel
theorem dX7_undo_1 : decode cX7_undo 1 = .ok (.iconst 0, 1) := by decide +kernel
theorem dX7_undo_2 : decode cX7_undo 2 = .ok (.putfield 56, 3) := by decide +kernel
theorem dX7_undo_5 : decode cX7_undo 5 = .ok (.aload_n 0, 1) := by decide +kernel
theorem dX7_undo_6 : decode cX7_undo 6 = .ok (.getfield 104, 3) := by decide +kernel
theorem dX7_undo_9 : decode cX7_undo 9 = .ok (.ifCond .ne 6, 3) := by decide +kernel
theorem dX7_undo_12 : decode cX7_undo 12 = .ok (.bipush (-3), 2) := by decide +kernel
theorem dX7_undo_14 : decode cX7_undo 14 = .ok (.ireturn, 1) := by decide +kernel
theorem dX7_undo_15 : decode cX7_undo 15 = .ok (.aload_n 0, 1) := by decide +kernel
theorem dX7_undo_16 : decode cX7_undo 16 = .ok (.dup, 1) := by decide +kernel
theorem dX7_undo_17 : decode cX7_undo 17 = .ok (.getfield 104, 3) := by decide +kernel
theorem dX7_undo_20 : decode cX7_undo 20 = .ok (.iconst 1, 1) := by decide +kernel
theorem dX7_undo_21 : decode cX7_undo 21 = .ok (.isub, 1) := by decide +kernel
theorem dX7_undo_22 : decode cX7_undo 22 = .ok (.putfield 104, 3) := by decide +kernel
theorem dX7_undo_25 : decode cX7_undo 25 = .ok (.iconst 0, 1) := by decide +kernel
theorem dX7_undo_26 : decode cX7_undo 26 = .ok (.istore_n 1, 1) := by decide +kernel
theorem dX7_undo_27 : decode cX7_undo 27 = .ok (.iload_n 1, 1) := by decide +kernel
theorem dX7_undo_28 : decode cX7_undo 28 = .ok (.bipush 24, 2) := by decide +kernel
theorem dX7_undo_30 : decode cX7_undo 30 = .ok (.if_icmp .ge 29, 3) := by decide +kernel
theorem dX7_undo_33 : decode cX7_undo 33 = .ok (.aload_n 0, 1) := by decide +kernel
theorem dX7_undo_34 : decode cX7_undo 34 = .ok (.getfield 25, 3) := by decide +kernel
theorem dX7_undo_37 : decode cX7_undo 37 = .ok (.iload_n 1, 1) := by decide +kernel
theorem dX7_undo_38 : decode cX7_undo 38 = .ok (.aload_n 0, 1) := by decide +kernel
theorem dX7_undo_39 : decode cX7_undo 39 = .ok (.getfield 31, 3) := by decide +kernel
theorem dX7_undo_42 : decode cX7_undo 42 = .ok (.bipush 24, 2) := by decide +kernel
theorem dX7_undo_44 : decode cX7_undo 44 = .ok (.aload_n 0, 1) := by decide +kernel
theorem dX7_undo_45 : decode cX7_undo 45 = .ok (.getfield 104, 3) := by decide +kernel
theorem dX7_undo_48 : decode cX7_undo 48 = .ok (.imul, 1) := by decide +kernel
theorem dX7_undo_49 : decode cX7_undo 49 = .ok (.iload_n 1, 1) := by decide +kernel
theorem dX7_undo_50 : decode cX7_undo 50 = .ok (.iadd, 1) := by decide +kernel
theorem dX7_undo_51 : decode cX7_undo 51 = .ok (.iaload, 1) := by decide +kernel
theorem dX7_undo_52 : decode cX7_undo 52 = .ok (.iastore, 1) := by decide +kernel
theorem dX7_undo_53 : decode cX7_undo 53 = .ok (.iinc 1 1, 3) := by decide +kernel
theorem dX7_undo_56 : decode cX7_undo 56 = .ok (.goto (-29), 3) := by decide +kernel
theorem dX7_undo_59 : decode cX7_undo 59 = .ok (.aload_n 0, 1) := by decide +kernel
theorem dX7_undo_60 : decode cX7_undo 60 = .ok (.getfield 104, 3) := by decide +kernel
theorem dX7_undo_63 : decode cX7_undo 63 = .ok (.ireturn, 1) := by decide +kernel
theorem dX7_begin_0 : decode cX7_begin 0 = .ok (.iconst 0, 1) := by decide +kernel
theorem dX7_begin_1 : decode cX7_begin 1 = .ok (.istore_n 1, 1) := by decide +kernel
theorem dX7_begin_2 : decode cX7_begin 2 = .ok (.iload_n 1, 1) := by decide +kernel
theorem dX7_begin_3 : decode cX7_begin 3 = .ok (.bipush 24, 2) := by decide +kernel
theorem dX7_begin_5 : decode cX7_begin 5 = .ok (.if_icmp .ge 21, 3) := by decide +kernel
theorem dX7_begin_8 : decode cX7_begin 8 = .ok (.aload_n 0, 1) := by decide +kernel
theorem dX7_begin_9 : decode cX7_begin 9 = .ok (.getfield 28, 3) := by decide +kernel
theorem dX7_begin_12 : decode cX7_begin 12 = .ok (.iload_n 1, 1) := by decide +kernel
theorem dX7_begin_13 : decode cX7_begin 13 = .ok (.aload_n 0, 1) := by decide +kernel
theorem dX7_begin_14 : decode cX7_begin 14 = .ok (.getfield 25, 3) := by decide +kernel
theorem dX7_begin_17 : decode cX7_begin 17 = .ok (.iload_n 1, 1) := by decide +kernel
theorem dX7_begin_18 : decode cX7_begin 18 = .ok (.iaload, 1) := by decide +kernel
theorem dX7_begin_19 : decode cX7_begin 19 = .ok (.iastore, 1) := by decide +kernel
theorem dX7_begin_20 : decode cX7_begin 20 = .ok (.iinc 1 1, 3) := by decide +kernel
theorem dX7_begin_23 : decode cX7_begin 23 = .ok (.goto (-21), 3) := by decide +kernel
theorem dX7_begin_26 : decode cX7_begin 26 = .ok (.return_, 1) := by decide +kernel
theorem dX7_wet_0 : decode cX7_wet 0 = .ok (.aload_n 0, 1) := by decide +kernel
theorem dX7_wet_1 : decode cX7_wet 1 = .ok (.iconst 0, 1) := by decide +kernel
theorem dX7_wet_2 : decode cX7_wet 2 = .ok (.putfield 56, 3) := by decide +kernel
theorem dX7_wet_5 : decode cX7_wet 5 = .ok (.iload_n 1, 1) := by decide +kernel
theorem dX7_wet_6 : decode cX7_wet 6 = .ok (.invokestatic 144, 3) := by decide +kernel
theorem dX7_wet_9 : decode cX7_wet 9 = .ok (.ifCond .eq 5, 3) := by decide +kernel
theorem dX7_wet_12 : decode cX7_wet 12 = .ok (.iconst (-1), 1) := by decide +kernel
theorem dX7_wet_13 : decode cX7_wet 13 = .ok (.ireturn, 1) := by decide +kernel
theorem dX7_wet_14 : decode cX7_wet 14 = .ok (.iload_n 2, 1) := by decide +kernel
theorem dX7_wet_15 : decode cX7_wet 15 = .ok (.i2l, 1) := by decide +kernel
theorem dX7_wet_16 : decode cX7_wet 16 = .ok (.lconst 0, 1) := by decide +kernel
theorem dX7_wet_17 : decode cX7_wet 17 = .ok (.ldc2_w 161, 3) := by decide +kernel
theorem dX7_wet_20 : decode cX7_wet 20 = .ok (.invokestatic 63, 3) := by decide +kernel
theorem dX7_wet_23 : decode cX7_wet 23 = .ok (.ifCond .ne 6, 3) := by decide +kernel
theorem dX7_wet_26 : decode cX7_wet 26 = .ok (.bipush (-2), 2) := by decide +kernel
theorem dX7_wet_28 : decode cX7_wet 28 = .ok (.ireturn, 1) := by decide +kernel
theorem dX7_wet_29 : decode cX7_wet 29 = .ok (.aload_n 0, 1) := by decide +kernel
theorem dX7_wet_30 : decode cX7_wet 30 = .ok (.invokevirtual 163, 3) := by decide +kernel
theorem dX7_wet_33 : decode cX7_wet 33 = .ok (.aload_n 0, 1) := by decide +kernel
theorem dX7_wet_34 : decode cX7_wet 34 = .ok (.iload_n 2, 1) := by decide +kernel
theorem dX7_wet_35 : decode cX7_wet 35 = .ok (.invokevirtual 166, 3) := by decide +kernel
theorem dX7_wet_38 : decode cX7_wet 38 = .ok (.aload_n 0, 1) := by decide +kernel
theorem dX7_wet_39 : decode cX7_wet 39 = .ok (.getfield 28, 3) := by decide +kernel
theorem dX7_wet_42 : decode cX7_wet 42 = .ok (.bipush 12, 2) := by decide +kernel
theorem dX7_wet_44 : decode cX7_wet 44 = .ok (.iload_n 1, 1) := by decide +kernel
theorem dX7_wet_45 : decode cX7_wet 45 = .ok (.iadd, 1) := by decide +kernel
theorem dX7_wet_46 : decode cX7_wet 46 = .ok (.iaload, 1) := by decide +kernel
theorem dX7_wet_47 : decode cX7_wet 47 = .ok (.ireturn, 1) := by decide +kernel
theorem dX7_needs_0 : decode cX7_needs 0 = .ok (.aload_n 0, 1) := by decide +kernel
theorem dX7_needs_1 : decode cX7_needs 1 = .ok (.iconst 0, 1) := by decide +kernel
theorem dX7_needs_2 : decode cX7_needs 2 = .ok (.putfield 56, 3) := by decide +kernel
theorem dX7_needs_5 : decode cX7_needs 5 = .ok (.iload_n 1, 1) := by decide +kernel
theorem dX7_needs_6 : decode cX7_needs 6 = .ok (.i2l, 1) := by decide +kernel
theorem dX7_needs_7 : decode cX7_needs 7 = .ok (.lconst 0, 1) := by decide +kernel
theorem dX7_needs_8 : decode cX7_needs 8 = .ok (.ldc2_w 161, 3) := by decide +kernel
theorem dX7_needs_11 : decode cX7_needs 11 = .ok (.invokestatic 63, 3) := by decide +kernel
theorem dX7_needs_14 : decode cX7_needs 14 = .ok (.ifCond .eq 13, 3) := by decide +kernel
theorem dX7_needs_17 : decode cX7_needs 17 = .ok (.iload_n 2, 1) := by decide +kernel
theorem dX7_needs_18 : decode cX7_needs 18 = .ok (.i2l, 1) := by decide +kernel
theorem dX7_needs_19 : decode cX7_needs 19 = .ok (.lconst 0, 1) := by decide +kernel
theorem dX7_needs_20 : decode cX7_needs 20 = .ok (.lconst 1, 1) := by decide +kernel
theorem dX7_needs_21 : decode cX7_needs 21 = .ok (.invokestatic 63, 3) := by decide +kernel
theorem dX7_needs_24 : decode cX7_needs 24 = .ok (.ifCond .ne 6, 3) := by decide +kernel
theorem dX7_needs_27 : decode cX7_needs 27 = .ok (.bipush (-2), 2) := by decide +kernel
theorem dX7_needs_29 : decode cX7_needs 29 = .ok (.ireturn, 1) := by decide +kernel
theorem dX7_needs_30 : decode cX7_needs 30 = .ok (.aload_n 0, 1) := by decide +kernel
theorem dX7_needs_31 : decode cX7_needs 31 = .ok (.invokevirtual 163, 3) := by decide +kernel
theorem dX7_needs_34 : decode cX7_needs 34 = .ok (.aload_n 0, 1) := by decide +kernel
theorem dX7_needs_35 : decode cX7_needs 35 = .ok (.iload_n 1, 1) := by decide +kernel
theorem dX7_needs_36 : decode cX7_needs 36 = .ok (.invokevirtual 166, 3) := by decide +kernel
theorem dX7_needs_39 : decode cX7_needs 39 = .ok (.aload_n 0, 1) := by decide +kernel
theorem dX7_needs_40 : decode cX7_needs 40 = .ok (.aload_n 0, 1) := by decide +kernel
theorem dX7_needs_41 : decode cX7_needs 41 = .ok (.getfield 28, 3) := by decide +kernel
theorem dX7_needs_44 : decode cX7_needs 44 = .ok (.iload_n 2, 1) := by decide +kernel
theorem dX7_needs_45 : decode cX7_needs 45 = .ok (.iconst 1, 1) := by decide +kernel
theorem dX7_needs_46 : decode cX7_needs 46 = .ok (.iadd, 1) := by decide +kernel
theorem dX7_needs_47 : decode cX7_needs 47 = .ok (.invokevirtual 132, 3) := by decide +kernel
theorem dX7_needs_50 : decode cX7_needs 50 = .ok (.ireturn, 1) := by decide +kernel
theorem dX7_dry_0 : decode cX7_dry 0 = .ok (.aload_n 0, 1) := by decide +kernel
theorem dX7_dry_1 : decode cX7_dry 1 = .ok (.iconst 0, 1) := by decide +kernel
theorem dX7_dry_2 : decode cX7_dry 2 = .ok (.putfield 56, 3) := by decide +kernel
theorem dX7_dry_5 : decode cX7_dry 5 = .ok (.iload_n 1, 1) := by decide +kernel
theorem dX7_dry_6 : decode cX7_dry 6 = .ok (.invokestatic 144, 3) := by decide +kernel
theorem dX7_dry_9 : decode cX7_dry 9 = .ok (.ifCond .eq 5, 3) := by decide +kernel
theorem dX7_dry_12 : decode cX7_dry 12 = .ok (.iconst (-1), 1) := by decide +kernel
theorem dX7_dry_13 : decode cX7_dry 13 = .ok (.ireturn, 1) := by decide +kernel
theorem dX7_dry_14 : decode cX7_dry 14 = .ok (.aload_n 0, 1) := by decide +kernel
theorem dX7_dry_15 : decode cX7_dry 15 = .ok (.invokevirtual 163, 3) := by decide +kernel
theorem dX7_dry_18 : decode cX7_dry 18 = .ok (.iconst 0, 1) := by decide +kernel
theorem dX7_dry_19 : decode cX7_dry 19 = .ok (.istore_n 2, 1) := by decide +kernel
theorem dX7_dry_20 : decode cX7_dry 20 = .ok (.iload_n 2, 1) := by decide +kernel
theorem dX7_dry_21 : decode cX7_dry 21 = .ok (.bipush 20, 2) := by decide +kernel
theorem dX7_dry_23 : decode cX7_dry 23 = .ok (.if_icmp .gt 35, 3) := by decide +kernel
theorem dX7_dry_26 : decode cX7_dry 26 = .ok (.aload_n 0, 1) := by decide +kernel
theorem dX7_dry_27 : decode cX7_dry 27 = .ok (.aload_n 0, 1) := by decide +kernel
theorem dX7_dry_28 : decode cX7_dry 28 = .ok (.getfield 28, 3) := by decide +kernel
theorem dX7_dry_31 : decode cX7_dry 31 = .ok (.invokevirtual 118, 3) := by decide +kernel
theorem dX7_dry_34 : decode cX7_dry 34 = .ok (.iload_n 1, 1) := by decide +kernel
theorem dX7_dry_35 : decode cX7_dry 35 = .ok (.invokestatic 107, 3) := by decide +kernel
theorem dX7_dry_38 : decode cX7_dry 38 = .ok (.ifCond .ne 5, 3) := by decide +kernel
theorem dX7_dry_41 : decode cX7_dry 41 = .ok (.iload_n 2, 1) := by decide +kernel
theorem dX7_dry_42 : decode cX7_dry 42 = .ok (.ireturn, 1) := by decide +kernel
theorem dX7_dry_43 : decode cX7_dry 43 = .ok (.aload_n 0, 1) := by decide +kernel
theorem dX7_dry_44 : decode cX7_dry 44 = .ok (.aload_n 0, 1) := by decide +kernel
theorem dX7_dry_45 : decode cX7_dry 45 = .ok (.getfield 28, 3) := by decide +kernel
theorem dX7_dry_48 : decode cX7_dry 48 = .ok (.invokevirtual 129, 3) := by decide +kernel
theorem dX7_dry_51 : decode cX7_dry 51 = .ok (.pop, 1) := by decide +kernel
theorem dX7_dry_52 : decode cX7_dry 52 = .ok (.iinc 2 1, 3) := by decide +kernel
theorem dX7_dry_55 : decode cX7_dry 55 = .ok (.goto (-35), 3) := by decide +kernel
theorem dX7_dry_58 : decode cX7_dry 58 = .ok (.bipush (-9), 2) := by decide +kernel
theorem dX7_dry_60 : decode cX7_dry 60 = .ok (.ireturn, 1) := by decide +kernel
theorem dX7_keptThen_0 : decode cX7_keptThen 0 = .ok (.aload_n 0, 1) := by decide +kernel
theorem dX7_keptThen_1 : decode cX7_keptThen 1 = .ok (.bipush 9, 2) := by decide +kernel
theorem dX7_keptThen_3 : decode cX7_keptThen 3 = .ok (.invokevirtual 166, 3) := by decide +kernel
theorem dX7_keptThen_6 : decode cX7_keptThen 6 = .ok (.aload_n 0, 1) := by decide +kernel
theorem dX7_keptThen_7 : decode cX7_keptThen 7 = .ok (.aload_n 0, 1) := by decide +kernel
theorem dX7_keptThen_8 : decode cX7_keptThen 8 = .ok (.getfield 28, 3) := by decide +kernel
theorem dX7_keptThen_11 : decode cX7_keptThen 11 = .ok (.iconst 1, 1) := by decide +kernel
theorem dX7_keptThen_12 : decode cX7_keptThen 12 = .ok (.invokevirtual 132, 3) := by decide +kernel
theorem dX7_keptThen_15 : decode cX7_keptThen 15 = .ok (.invokestatic 170, 3) := by decide +kernel
theorem dX7_keptThen_18 : decode cX7_keptThen 18 = .ok (.ireturn, 1) := by decide +kernel
theorem dX7_openAll_0 : decode cX7_openAll 0 = .ok (.iconst 0, 1) := by decide +kernel
theorem dX7_openAll_1 : decode cX7_openAll 1 = .ok (.istore_n 2, 1) := by decide +kernel
theorem dX7_openAll_2 : decode cX7_openAll 2 = .ok (.iload_n 2, 1) := by decide +kernel
theorem dX7_openAll_3 : decode cX7_openAll 3 = .ok (.aload_n 0, 1) := by decide +kernel
theorem dX7_openAll_4 : decode cX7_openAll 4 = .ok (.getfield 60, 3) := by decide +kernel
theorem dX7_openAll_7 : decode cX7_openAll 7 = .ok (.if_icmp .ge 26, 3) := by decide +kernel
theorem dX7_openAll_10 : decode cX7_openAll 10 = .ok (.iload_n 1, 1) := by decide +kernel
theorem dX7_openAll_11 : decode cX7_openAll 11 = .ok (.iload_n 2, 1) := by decide +kernel
theorem dX7_openAll_12 : decode cX7_openAll 12 = .ok (.invokestatic 107, 3) := by decide +kernel
theorem dX7_openAll_15 : decode cX7_openAll 15 = .ok (.ifCond .eq 12, 3) := by decide +kernel
theorem dX7_openAll_18 : decode cX7_openAll 18 = .ok (.aload_n 0, 1) := by decide +kernel
theorem dX7_openAll_19 : decode cX7_openAll 19 = .ok (.aload_n 0, 1) := by decide +kernel
theorem dX7_openAll_20 : decode cX7_openAll 20 = .ok (.getfield 28, 3) := by decide +kernel
theorem dX7_openAll_23 : decode cX7_openAll 23 = .ok (.iload_n 2, 1) := by decide +kernel
theorem dX7_openAll_24 : decode cX7_openAll 24 = .ok (.invokevirtual 150, 3) := by decide +kernel
theorem dX7_openAll_27 : decode cX7_openAll 27 = .ok (.iinc 2 1, 3) := by decide +kernel
theorem dX7_openAll_30 : decode cX7_openAll 30 = .ok (.goto (-28), 3) := by decide +kernel
theorem dX7_openAll_33 : decode cX7_openAll 33 = .ok (.return_, 1) := by decide +kernel
theorem dX7_asked_0 : decode cX7_asked 0 = .ok (.aload_n 0, 1) := by decide +kernel
theorem dX7_asked_1 : decode cX7_asked 1 = .ok (.iconst 0, 1) := by decide +kernel
theorem dX7_asked_2 : decode cX7_asked 2 = .ok (.putfield 56, 3) := by decide +kernel
theorem dX7_asked_5 : decode cX7_asked 5 = .ok (.iload_n 1, 1) := by decide +kernel
theorem dX7_asked_6 : decode cX7_asked 6 = .ok (.i2l, 1) := by decide +kernel
theorem dX7_asked_7 : decode cX7_asked 7 = .ok (.lconst 0, 1) := by decide +kernel
theorem dX7_asked_8 : decode cX7_asked 8 = .ok (.lconst 1, 1) := by decide +kernel
theorem dX7_asked_9 : decode cX7_asked 9 = .ok (.invokestatic 63, 3) := by decide +kernel
theorem dX7_asked_12 : decode cX7_asked 12 = .ok (.ifCond .ne 6, 3) := by decide +kernel
theorem dX7_asked_15 : decode cX7_asked 15 = .ok (.bipush (-2), 2) := by decide +kernel
theorem dX7_asked_17 : decode cX7_asked 17 = .ok (.ireturn, 1) := by decide +kernel
theorem dX7_asked_18 : decode cX7_asked 18 = .ok (.aload_n 0, 1) := by decide +kernel
theorem dX7_asked_19 : decode cX7_asked 19 = .ok (.iconst 0, 1) := by decide +kernel
theorem dX7_asked_20 : decode cX7_asked 20 = .ok (.putfield 174, 3) := by decide +kernel
theorem dX7_asked_23 : decode cX7_asked 23 = .ok (.aload_n 0, 1) := by decide +kernel
theorem dX7_asked_24 : decode cX7_asked 24 = .ok (.bipush (-9), 2) := by decide +kernel
theorem dX7_asked_26 : decode cX7_asked 26 = .ok (.putfield 177, 3) := by decide +kernel
theorem dX7_asked_29 : decode cX7_asked 29 = .ok (.iconst 0, 1) := by decide +kernel
theorem dX7_asked_30 : decode cX7_asked 30 = .ok (.istore_n 2, 1) := by decide +kernel
theorem dX7_asked_31 : decode cX7_asked 31 = .ok (.iload_n 2, 1) := by decide +kernel
theorem dX7_asked_32 : decode cX7_asked 32 = .ok (.iconst 1, 1) := by decide +kernel
theorem dX7_asked_33 : decode cX7_asked 33 = .ok (.aload_n 0, 1) := by decide +kernel
theorem dX7_asked_34 : decode cX7_asked 34 = .ok (.getfield 60, 3) := by decide +kernel
theorem dX7_asked_37 : decode cX7_asked 37 = .ok (.ishl, 1) := by decide +kernel
theorem dX7_asked_38 : decode cX7_asked 38 = .ok (.if_icmp .ge 74, 3) := by decide +kernel
theorem dX7_asked_41 : decode cX7_asked 41 = .ok (.iload_n 2, 1) := by decide +kernel
theorem dX7_asked_42 : decode cX7_asked 42 = .ok (.aload_n 0, 1) := by decide +kernel
theorem dX7_asked_43 : decode cX7_asked 43 = .ok (.getfield 25, 3) := by decide +kernel
theorem dX7_asked_46 : decode cX7_asked 46 = .ok (.iconst 5, 1) := by decide +kernel
theorem dX7_asked_47 : decode cX7_asked 47 = .ok (.iaload, 1) := by decide +kernel
theorem dX7_asked_48 : decode cX7_asked 48 = .ok (.iand, 1) := by decide +kernel
theorem dX7_asked_49 : decode cX7_asked 49 = .ok (.ifCond .ne 57, 3) := by decide +kernel
theorem dX7_asked_52 : decode cX7_asked 52 = .ok (.aload_n 0, 1) := by decide +kernel
theorem dX7_asked_53 : decode cX7_asked 53 = .ok (.invokevirtual 163, 3) := by decide +kernel
theorem dX7_asked_56 : decode cX7_asked 56 = .ok (.aload_n 0, 1) := by decide +kernel
theorem dX7_asked_57 : decode cX7_asked 57 = .ok (.iload_n 2, 1) := by decide +kernel
theorem dX7_asked_58 : decode cX7_asked 58 = .ok (.invokevirtual 180, 3) := by decide +kernel
theorem dX7_asked_61 : decode cX7_asked 61 = .ok (.aload_n 0, 1) := by decide +kernel
theorem dX7_asked_62 : decode cX7_asked 62 = .ok (.invokevirtual 183, 3) := by decide +kernel
theorem dX7_asked_65 : decode cX7_asked 65 = .ok (.istore_n 3, 1) := by decide +kernel
theorem dX7_asked_66 : decode cX7_asked 66 = .ok (.iload_n 3, 1) := by decide +kernel
theorem dX7_asked_67 : decode cX7_asked 67 = .ok (.aload_n 0, 1) := by decide +kernel
theorem dX7_asked_68 : decode cX7_asked 68 = .ok (.getfield 177, 3) := by decide +kernel
theorem dX7_asked_71 : decode cX7_asked 71 = .ok (.if_icmp .gt 25, 3) := by decide +kernel
theorem dX7_asked_74 : decode cX7_asked 74 = .ok (.iload_n 3, 1) := by decide +kernel
theorem dX7_asked_75 : decode cX7_asked 75 = .ok (.aload_n 0, 1) := by decide +kernel
theorem dX7_asked_76 : decode cX7_asked 76 = .ok (.getfield 177, 3) := by decide +kernel
theorem dX7_asked_79 : decode cX7_asked 79 = .ok (.if_icmp .ne 27, 3) := by decide +kernel
theorem dX7_asked_82 : decode cX7_asked 82 = .ok (.iload_n 2, 1) := by decide +kernel
theorem dX7_asked_83 : decode cX7_asked 83 = .ok (.invokestatic 170, 3) := by decide +kernel
theorem dX7_asked_86 : decode cX7_asked 86 = .ok (.aload_n 0, 1) := by decide +kernel
theorem dX7_asked_87 : decode cX7_asked 87 = .ok (.getfield 174, 3) := by decide +kernel
theorem dX7_asked_90 : decode cX7_asked 90 = .ok (.invokestatic 170, 3) := by decide +kernel
theorem dX7_asked_93 : decode cX7_asked 93 = .ok (.if_icmp .ge 13, 3) := by decide +kernel
theorem dX7_asked_96 : decode cX7_asked 96 = .ok (.aload_n 0, 1) := by decide +kernel
theorem dX7_asked_97 : decode cX7_asked 97 = .ok (.iload_n 3, 1) := by decide +kernel
theorem dX7_asked_98 : decode cX7_asked 98 = .ok (.putfield 177, 3) := by decide +kernel
theorem dX7_asked_101 : decode cX7_asked 101 = .ok (.aload_n 0, 1) := by decide +kernel
theorem dX7_asked_102 : decode cX7_asked 102 = .ok (.iload_n 2, 1) := by decide +kernel
theorem dX7_asked_103 : decode cX7_asked 103 = .ok (.putfield 174, 3) := by decide +kernel
theorem dX7_asked_106 : decode cX7_asked 106 = .ok (.iinc 2 1, 3) := by decide +kernel
theorem dX7_asked_109 : decode cX7_asked 109 = .ok (.goto (-78), 3) := by decide +kernel
theorem dX7_asked_112 : decode cX7_asked 112 = .ok (.iload_n 1, 1) := by decide +kernel
theorem dX7_asked_113 : decode cX7_asked 113 = .ok (.ifCond .ne 10, 3) := by decide +kernel
theorem dX7_asked_116 : decode cX7_asked 116 = .ok (.aload_n 0, 1) := by decide +kernel
theorem dX7_asked_117 : decode cX7_asked 117 = .ok (.getfield 174, 3) := by decide +kernel
theorem dX7_asked_120 : decode cX7_asked 120 = .ok (.goto 7, 3) := by decide +kernel
theorem dX7_asked_123 : decode cX7_asked 123 = .ok (.aload_n 0, 1) := by decide +kernel
theorem dX7_asked_124 : decode cX7_asked 124 = .ok (.getfield 177, 3) := by decide +kernel
theorem dX7_asked_127 : decode cX7_asked 127 = .ok (.ireturn, 1) := by decide +kernel
theorem dX7_sent_0 : decode cX7_sent 0 = .ok (.aload_n 0, 1) := by decide +kernel
theorem dX7_sent_1 : decode cX7_sent 1 = .ok (.iconst 0, 1) := by decide +kernel
theorem dX7_sent_2 : decode cX7_sent 2 = .ok (.putfield 56, 3) := by decide +kernel
theorem dX7_sent_5 : decode cX7_sent 5 = .ok (.aload_n 0, 1) := by decide +kernel
theorem dX7_sent_6 : decode cX7_sent 6 = .ok (.iload_n 1, 1) := by decide +kernel
theorem dX7_sent_7 : decode cX7_sent 7 = .ok (.invokevirtual 138, 3) := by decide +kernel
theorem dX7_sent_10 : decode cX7_sent 10 = .ok (.ifCond .eq 5, 3) := by decide +kernel
theorem dX7_sent_13 : decode cX7_sent 13 = .ok (.iconst (-1), 1) := by decide +kernel
theorem dX7_sent_14 : decode cX7_sent 14 = .ok (.ireturn, 1) := by decide +kernel
theorem dX7_sent_15 : decode cX7_sent 15 = .ok (.iload_n 2, 1) := by decide +kernel
theorem dX7_sent_16 : decode cX7_sent 16 = .ok (.i2l, 1) := by decide +kernel
theorem dX7_sent_17 : decode cX7_sent 17 = .ok (.lconst 0, 1) := by decide +kernel
theorem dX7_sent_18 : decode cX7_sent 18 = .ok (.lconst 1, 1) := by decide +kernel
theorem dX7_sent_19 : decode cX7_sent 19 = .ok (.invokestatic 63, 3) := by decide +kernel
theorem dX7_sent_22 : decode cX7_sent 22 = .ok (.ifCond .ne 6, 3) := by decide +kernel
theorem dX7_sent_25 : decode cX7_sent 25 = .ok (.bipush (-2), 2) := by decide +kernel
theorem dX7_sent_27 : decode cX7_sent 27 = .ok (.ireturn, 1) := by decide +kernel
theorem dX7_sent_28 : decode cX7_sent 28 = .ok (.aload_n 0, 1) := by decide +kernel
theorem dX7_sent_29 : decode cX7_sent 29 = .ok (.getfield 25, 3) := by decide +kernel
theorem dX7_sent_32 : decode cX7_sent 32 = .ok (.iconst 5, 1) := by decide +kernel
theorem dX7_sent_33 : decode cX7_sent 33 = .ok (.iaload, 1) := by decide +kernel
theorem dX7_sent_34 : decode cX7_sent 34 = .ok (.iload_n 1, 1) := by decide +kernel
theorem dX7_sent_35 : decode cX7_sent 35 = .ok (.invokestatic 107, 3) := by decide +kernel
theorem dX7_sent_38 : decode cX7_sent 38 = .ok (.ifCond .eq 6, 3) := by decide +kernel
theorem dX7_sent_41 : decode cX7_sent 41 = .ok (.bipush (-3), 2) := by decide +kernel
theorem dX7_sent_43 : decode cX7_sent 43 = .ok (.ireturn, 1) := by decide +kernel
theorem dX7_sent_44 : decode cX7_sent 44 = .ok (.aload_n 0, 1) := by decide +kernel
theorem dX7_sent_45 : decode cX7_sent 45 = .ok (.iconst 0, 1) := by decide +kernel
theorem dX7_sent_46 : decode cX7_sent 46 = .ok (.putfield 174, 3) := by decide +kernel
theorem dX7_sent_49 : decode cX7_sent 49 = .ok (.aload_n 0, 1) := by decide +kernel
theorem dX7_sent_50 : decode cX7_sent 50 = .ok (.bipush (-9), 2) := by decide +kernel
theorem dX7_sent_52 : decode cX7_sent 52 = .ok (.putfield 177, 3) := by decide +kernel
theorem dX7_sent_55 : decode cX7_sent 55 = .ok (.iconst 0, 1) := by decide +kernel
theorem dX7_sent_56 : decode cX7_sent 56 = .ok (.istore_n 3, 1) := by decide +kernel
theorem dX7_sent_57 : decode cX7_sent 57 = .ok (.iload_n 3, 1) := by decide +kernel
theorem dX7_sent_58 : decode cX7_sent 58 = .ok (.bipush 6, 2) := by decide +kernel
theorem dX7_sent_60 : decode cX7_sent 60 = .ok (.if_icmp .ge 78, 3) := by decide +kernel
theorem dX7_sent_63 : decode cX7_sent 63 = .ok (.aload_n 0, 1) := by decide +kernel
theorem dX7_sent_64 : decode cX7_sent 64 = .ok (.invokevirtual 163, 3) := by decide +kernel
theorem dX7_sent_67 : decode cX7_sent 67 = .ok (.aload_n 0, 1) := by decide +kernel
theorem dX7_sent_68 : decode cX7_sent 68 = .ok (.getfield 28, 3) := by decide +kernel
theorem dX7_sent_71 : decode cX7_sent 71 = .ok (.iload_n 1, 1) := by decide +kernel
theorem dX7_sent_72 : decode cX7_sent 72 = .ok (.iload_n 3, 1) := by decide +kernel
theorem dX7_sent_73 : decode cX7_sent 73 = .ok (.iastore, 1) := by decide +kernel
theorem dX7_sent_74 : decode cX7_sent 74 = .ok (.aload_n 0, 1) := by decide +kernel
theorem dX7_sent_75 : decode cX7_sent 75 = .ok (.aload_n 0, 1) := by decide +kernel
theorem dX7_sent_76 : decode cX7_sent 76 = .ok (.getfield 28, 3) := by decide +kernel
theorem dX7_sent_79 : decode cX7_sent 79 = .ok (.iload_n 1, 1) := by decide +kernel
theorem dX7_sent_80 : decode cX7_sent 80 = .ok (.invokevirtual 150, 3) := by decide +kernel
theorem dX7_sent_83 : decode cX7_sent 83 = .ok (.aload_n 0, 1) := by decide +kernel
theorem dX7_sent_84 : decode cX7_sent 84 = .ok (.invokevirtual 183, 3) := by decide +kernel
theorem dX7_sent_87 : decode cX7_sent 87 = .ok (.istore 4, 2) := by decide +kernel
theorem dX7_sent_89 : decode cX7_sent 89 = .ok (.aload_n 0, 1) := by decide +kernel
theorem dX7_sent_90 : decode cX7_sent 90 = .ok (.iload 4, 2) := by decide +kernel
theorem dX7_sent_92 : decode cX7_sent 92 = .ok (.aload_n 0, 1) := by decide +kernel
theorem dX7_sent_93 : decode cX7_sent 93 = .ok (.getfield 177, 3) := by decide +kernel
theorem dX7_sent_96 : decode cX7_sent 96 = .ok (.if_icmp .le 7, 3) := by decide +kernel
theorem dX7_sent_99 : decode cX7_sent 99 = .ok (.iload_n 3, 1) := by decide +kernel
theorem dX7_sent_100 : decode cX7_sent 100 = .ok (.goto 7, 3) := by decide +kernel
theorem dX7_sent_103 : decode cX7_sent 103 = .ok (.aload_n 0, 1) := by decide +kernel
theorem dX7_sent_104 : decode cX7_sent 104 = .ok (.getfield 174, 3) := by decide +kernel
theorem dX7_sent_107 : decode cX7_sent 107 = .ok (.putfield 174, 3) := by decide +kernel
theorem dX7_sent_110 : decode cX7_sent 110 = .ok (.aload_n 0, 1) := by decide +kernel
theorem dX7_sent_111 : decode cX7_sent 111 = .ok (.iload 4, 2) := by decide +kernel
theorem dX7_sent_113 : decode cX7_sent 113 = .ok (.aload_n 0, 1) := by decide +kernel
theorem dX7_sent_114 : decode cX7_sent 114 = .ok (.getfield 177, 3) := by decide +kernel
theorem dX7_sent_117 : decode cX7_sent 117 = .ok (.if_icmp .le 8, 3) := by decide +kernel
theorem dX7_sent_120 : decode cX7_sent 120 = .ok (.iload 4, 2) := by decide +kernel
theorem dX7_sent_122 : decode cX7_sent 122 = .ok (.goto 7, 3) := by decide +kernel
theorem dX7_sent_125 : decode cX7_sent 125 = .ok (.aload_n 0, 1) := by decide +kernel
theorem dX7_sent_126 : decode cX7_sent 126 = .ok (.getfield 177, 3) := by decide +kernel
theorem dX7_sent_129 : decode cX7_sent 129 = .ok (.putfield 177, 3) := by decide +kernel
theorem dX7_sent_132 : decode cX7_sent 132 = .ok (.iinc 3 1, 3) := by decide +kernel
theorem dX7_sent_135 : decode cX7_sent 135 = .ok (.goto (-78), 3) := by decide +kernel
theorem dX7_sent_138 : decode cX7_sent 138 = .ok (.iload_n 2, 1) := by decide +kernel
theorem dX7_sent_139 : decode cX7_sent 139 = .ok (.ifCond .ne 10, 3) := by decide +kernel
theorem dX7_sent_142 : decode cX7_sent 142 = .ok (.aload_n 0, 1) := by decide +kernel
theorem dX7_sent_143 : decode cX7_sent 143 = .ok (.getfield 174, 3) := by decide +kernel
theorem dX7_sent_146 : decode cX7_sent 146 = .ok (.goto 7, 3) := by decide +kernel
theorem dX7_sent_149 : decode cX7_sent 149 = .ok (.aload_n 0, 1) := by decide +kernel
theorem dX7_sent_150 : decode cX7_sent 150 = .ok (.getfield 177, 3) := by decide +kernel
theorem dX7_sent_153 : decode cX7_sent 153 = .ok (.ireturn, 1) := by decide +kernel
theorem dX7_longPower_0 : decode cX7_longPower 0 = .ok (.lconst 1, 1) := by decide +kernel
theorem dX7_longPower_1 : decode cX7_longPower 1 = .ok (.lstore_n 3, 1) := by decide +kernel
theorem dX7_longPower_2 : decode cX7_longPower 2 = .ok (.iconst 0, 1) := by decide +kernel
theorem dX7_longPower_3 : decode cX7_longPower 3 = .ok (.istore 5, 2) := by decide +kernel
theorem dX7_longPower_5 : decode cX7_longPower 5 = .ok (.iload 5, 2) := by decide +kernel
theorem dX7_longPower_7 : decode cX7_longPower 7 = .ok (.iload_n 2, 1) := by decide +kernel
theorem dX7_longPower_8 : decode cX7_longPower 8 = .ok (.if_icmp .ge 13, 3) := by decide +kernel
theorem dX7_longPower_11 : decode cX7_longPower 11 = .ok (.lload_n 3, 1) := by decide +kernel
theorem dX7_longPower_12 : decode cX7_longPower 12 = .ok (.lload_n 0, 1) := by decide +kernel
theorem dX7_longPower_13 : decode cX7_longPower 13 = .ok (.lmul, 1) := by decide +kernel
theorem dX7_longPower_14 : decode cX7_longPower 14 = .ok (.lstore_n 3, 1) := by decide +kernel
theorem dX7_longPower_15 : decode cX7_longPower 15 = .ok (.iinc 5 1, 3) := by decide +kernel
theorem dX7_longPower_18 : decode cX7_longPower 18 = .ok (.goto (-13), 3) := by decide +kernel
theorem dX7_longPower_21 : decode cX7_longPower 21 = .ok (.lload_n 3, 1) := by decide +kernel
theorem dX7_longPower_22 : decode cX7_longPower 22 = .ok (.lreturn, 1) := by decide +kernel
theorem dX7_does_0 : decode cX7_does 0 = .ok (.iload_n 1, 1) := by decide +kernel
theorem dX7_does_1 : decode cX7_does 1 = .ok (.bipush 100, 2) := by decide +kernel
theorem dX7_does_3 : decode cX7_does 3 = .ok (.idiv, 1) := by decide +kernel
theorem dX7_does_4 : decode cX7_does 4 = .ok (.istore_n 2, 1) := by decide +kernel
theorem dX7_does_5 : decode cX7_does 5 = .ok (.iload_n 1, 1) := by decide +kernel
theorem dX7_does_6 : decode cX7_does 6 = .ok (.bipush 10, 2) := by decide +kernel
theorem dX7_does_8 : decode cX7_does 8 = .ok (.idiv, 1) := by decide +kernel
theorem dX7_does_9 : decode cX7_does 9 = .ok (.bipush 10, 2) := by decide +kernel
theorem dX7_does_11 : decode cX7_does 11 = .ok (.irem, 1) := by decide +kernel
theorem dX7_does_12 : decode cX7_does 12 = .ok (.istore_n 3, 1) := by decide +kernel
theorem dX7_does_13 : decode cX7_does 13 = .ok (.iload_n 1, 1) := by decide +kernel
theorem dX7_does_14 : decode cX7_does 14 = .ok (.bipush 10, 2) := by decide +kernel
theorem dX7_does_16 : decode cX7_does 16 = .ok (.irem, 1) := by decide +kernel
theorem dX7_does_17 : decode cX7_does 17 = .ok (.istore 4, 2) := by decide +kernel
theorem dX7_does_19 : decode cX7_does 19 = .ok (.iload_n 1, 1) := by decide +kernel
theorem dX7_does_20 : decode cX7_does 20 = .ok (.ifCond .ne 14, 3) := by decide +kernel
theorem dX7_does_23 : decode cX7_does 23 = .ok (.aload_n 0, 1) := by decide +kernel
theorem dX7_does_24 : decode cX7_does 24 = .ok (.aload_n 0, 1) := by decide +kernel
theorem dX7_does_25 : decode cX7_does 25 = .ok (.getfield 28, 3) := by decide +kernel
theorem dX7_does_28 : decode cX7_does 28 = .ok (.invokevirtual 129, 3) := by decide +kernel
theorem dX7_does_31 : decode cX7_does 31 = .ok (.pop, 1) := by decide +kernel
theorem dX7_does_32 : decode cX7_does 32 = .ok (.iconst 1, 1) := by decide +kernel
theorem dX7_does_33 : decode cX7_does 33 = .ok (.ireturn, 1) := by decide +kernel
theorem dX7_does_34 : decode cX7_does 34 = .ok (.iload_n 2, 1) := by decide +kernel
theorem dX7_does_35 : decode cX7_does 35 = .ok (.iconst 1, 1) := by decide +kernel
theorem dX7_does_36 : decode cX7_does 36 = .ok (.if_icmp .ne 42, 3) := by decide +kernel
theorem dX7_does_39 : decode cX7_does 39 = .ok (.iload_n 3, 1) := by decide +kernel
theorem dX7_does_40 : decode cX7_does 40 = .ok (.ifCond .ne 38, 3) := by decide +kernel
theorem dX7_does_43 : decode cX7_does 43 = .ok (.aload_n 0, 1) := by decide +kernel
theorem dX7_does_44 : decode cX7_does 44 = .ok (.iload 4, 2) := by decide +kernel
theorem dX7_does_46 : decode cX7_does 46 = .ok (.invokevirtual 138, 3) := by decide +kernel
theorem dX7_does_49 : decode cX7_does 49 = .ok (.ifCond .ne 29, 3) := by decide +kernel
theorem dX7_does_52 : decode cX7_does 52 = .ok (.aload_n 0, 1) := by decide +kernel
theorem dX7_does_53 : decode cX7_does 53 = .ok (.getfield 28, 3) := by decide +kernel
theorem dX7_does_56 : decode cX7_does 56 = .ok (.iconst 5, 1) := by decide +kernel
theorem dX7_does_57 : decode cX7_does 57 = .ok (.iaload, 1) := by decide +kernel
theorem dX7_does_58 : decode cX7_does 58 = .ok (.iload 4, 2) := by decide +kernel
theorem dX7_does_60 : decode cX7_does 60 = .ok (.invokestatic 107, 3) := by decide +kernel
theorem dX7_does_63 : decode cX7_does 63 = .ok (.ifCond .ne 15, 3) := by decide +kernel
theorem dX7_does_66 : decode cX7_does 66 = .ok (.aload_n 0, 1) := by decide +kernel
theorem dX7_does_67 : decode cX7_does 67 = .ok (.aload_n 0, 1) := by decide +kernel
theorem dX7_does_68 : decode cX7_does 68 = .ok (.getfield 28, 3) := by decide +kernel
theorem dX7_does_71 : decode cX7_does 71 = .ok (.iload 4, 2) := by decide +kernel
theorem dX7_does_73 : decode cX7_does 73 = .ok (.invokevirtual 150, 3) := by decide +kernel
theorem dX7_does_76 : decode cX7_does 76 = .ok (.iconst 1, 1) := by decide +kernel
theorem dX7_does_77 : decode cX7_does 77 = .ok (.ireturn, 1) := by decide +kernel
theorem dX7_does_78 : decode cX7_does 78 = .ok (.iload_n 2, 1) := by decide +kernel
theorem dX7_does_79 : decode cX7_does 79 = .ok (.iconst 2, 1) := by decide +kernel
theorem dX7_does_80 : decode cX7_does 80 = .ok (.if_icmp .ne 42, 3) := by decide +kernel
theorem dX7_does_83 : decode cX7_does 83 = .ok (.iload_n 3, 1) := by decide +kernel
theorem dX7_does_84 : decode cX7_does 84 = .ok (.ifCond .ne 38, 3) := by decide +kernel
theorem dX7_does_87 : decode cX7_does 87 = .ok (.aload_n 0, 1) := by decide +kernel
theorem dX7_does_88 : decode cX7_does 88 = .ok (.iload 4, 2) := by decide +kernel
theorem dX7_does_90 : decode cX7_does 90 = .ok (.invokevirtual 138, 3) := by decide +kernel
theorem dX7_does_93 : decode cX7_does 93 = .ok (.ifCond .ne 29, 3) := by decide +kernel
theorem dX7_does_96 : decode cX7_does 96 = .ok (.aload_n 0, 1) := by decide +kernel
theorem dX7_does_97 : decode cX7_does 97 = .ok (.getfield 28, 3) := by decide +kernel
theorem dX7_does_100 : decode cX7_does 100 = .ok (.iconst 5, 1) := by decide +kernel
theorem dX7_does_101 : decode cX7_does 101 = .ok (.iaload, 1) := by decide +kernel
theorem dX7_does_102 : decode cX7_does 102 = .ok (.iload 4, 2) := by decide +kernel
theorem dX7_does_104 : decode cX7_does 104 = .ok (.invokestatic 107, 3) := by decide +kernel
theorem dX7_does_107 : decode cX7_does 107 = .ok (.ifCond .eq 15, 3) := by decide +kernel
theorem dX7_does_110 : decode cX7_does 110 = .ok (.aload_n 0, 1) := by decide +kernel
theorem dX7_does_111 : decode cX7_does 111 = .ok (.aload_n 0, 1) := by decide +kernel
theorem dX7_does_112 : decode cX7_does 112 = .ok (.getfield 28, 3) := by decide +kernel
theorem dX7_does_115 : decode cX7_does 115 = .ok (.iload 4, 2) := by decide +kernel
theorem dX7_does_117 : decode cX7_does 117 = .ok (.invokevirtual 154, 3) := by decide +kernel
theorem dX7_does_120 : decode cX7_does 120 = .ok (.iconst 1, 1) := by decide +kernel
theorem dX7_does_121 : decode cX7_does 121 = .ok (.ireturn, 1) := by decide +kernel
theorem dX7_does_122 : decode cX7_does 122 = .ok (.iload_n 2, 1) := by decide +kernel
theorem dX7_does_123 : decode cX7_does 123 = .ok (.iconst 3, 1) := by decide +kernel
theorem dX7_does_124 : decode cX7_does 124 = .ok (.if_icmp .ne 51, 3) := by decide +kernel
theorem dX7_does_127 : decode cX7_does 127 = .ok (.aload_n 0, 1) := by decide +kernel
theorem dX7_does_128 : decode cX7_does 128 = .ok (.iload_n 3, 1) := by decide +kernel
theorem dX7_does_129 : decode cX7_does 129 = .ok (.invokevirtual 138, 3) := by decide +kernel
theorem dX7_does_132 : decode cX7_does 132 = .ok (.ifCond .ne 43, 3) := by decide +kernel
theorem dX7_does_135 : decode cX7_does 135 = .ok (.iload 4, 2) := by decide +kernel
theorem dX7_does_137 : decode cX7_does 137 = .ok (.iconst 2, 1) := by decide +kernel
theorem dX7_does_138 : decode cX7_does 138 = .ok (.if_icmp .ge 37, 3) := by decide +kernel
theorem dX7_does_141 : decode cX7_does 141 = .ok (.aload_n 0, 1) := by decide +kernel
theorem dX7_does_142 : decode cX7_does 142 = .ok (.getfield 28, 3) := by decide +kernel
theorem dX7_does_145 : decode cX7_does 145 = .ok (.iload_n 3, 1) := by decide +kernel
theorem dX7_does_146 : decode cX7_does 146 = .ok (.iconst 2, 1) := by decide +kernel
theorem dX7_does_147 : decode cX7_does 147 = .ok (.iload 4, 2) := by decide +kernel
theorem dX7_does_149 : decode cX7_does 149 = .ok (.imul, 1) := by decide +kernel
theorem dX7_does_150 : decode cX7_does 150 = .ok (.iconst 1, 1) := by decide +kernel
theorem dX7_does_151 : decode cX7_does 151 = .ok (.isub, 1) := by decide +kernel
theorem dX7_does_152 : decode cX7_does 152 = .ok (.invokestatic 157, 3) := by decide +kernel
theorem dX7_does_155 : decode cX7_does 155 = .ok (.ifCond .eq 20, 3) := by decide +kernel
theorem dX7_does_158 : decode cX7_does 158 = .ok (.aload_n 0, 1) := by decide +kernel
theorem dX7_does_159 : decode cX7_does 159 = .ok (.getfield 28, 3) := by decide +kernel
theorem dX7_does_162 : decode cX7_does 162 = .ok (.iload_n 3, 1) := by decide +kernel
theorem dX7_does_163 : decode cX7_does 163 = .ok (.dup2, 1) := by decide +kernel
theorem dX7_does_164 : decode cX7_does 164 = .ok (.iaload, 1) := by decide +kernel
theorem dX7_does_165 : decode cX7_does 165 = .ok (.iconst 2, 1) := by decide +kernel
theorem dX7_does_166 : decode cX7_does 166 = .ok (.iload 4, 2) := by decide +kernel
theorem dX7_does_168 : decode cX7_does 168 = .ok (.imul, 1) := by decide +kernel
theorem dX7_does_169 : decode cX7_does 169 = .ok (.iconst 1, 1) := by decide +kernel
theorem dX7_does_170 : decode cX7_does 170 = .ok (.isub, 1) := by decide +kernel
theorem dX7_does_171 : decode cX7_does 171 = .ok (.iadd, 1) := by decide +kernel
theorem dX7_does_172 : decode cX7_does 172 = .ok (.iastore, 1) := by decide +kernel
theorem dX7_does_173 : decode cX7_does 173 = .ok (.iconst 1, 1) := by decide +kernel
theorem dX7_does_174 : decode cX7_does 174 = .ok (.ireturn, 1) := by decide +kernel
theorem dX7_does_175 : decode cX7_does 175 = .ok (.iload_n 2, 1) := by decide +kernel
theorem dX7_does_176 : decode cX7_does 176 = .ok (.iconst 4, 1) := by decide +kernel
theorem dX7_does_177 : decode cX7_does 177 = .ok (.if_icmp .ne 37, 3) := by decide +kernel
theorem dX7_does_180 : decode cX7_does 180 = .ok (.iload_n 3, 1) := by decide +kernel
theorem dX7_does_181 : decode cX7_does 181 = .ok (.ifCond .ne 31, 3) := by decide +kernel
theorem dX7_does_184 : decode cX7_does 184 = .ok (.iload 4, 2) := by decide +kernel
theorem dX7_does_186 : decode cX7_does 186 = .ok (.invokestatic 144, 3) := by decide +kernel
theorem dX7_does_189 : decode cX7_does 189 = .ok (.ifCond .ne 23, 3) := by decide +kernel
theorem dX7_does_192 : decode cX7_does 192 = .ok (.aload_n 0, 1) := by decide +kernel
theorem dX7_does_193 : decode cX7_does 193 = .ok (.aload_n 0, 1) := by decide +kernel
theorem dX7_does_194 : decode cX7_does 194 = .ok (.getfield 28, 3) := by decide +kernel
theorem dX7_does_197 : decode cX7_does 197 = .ok (.invokevirtual 118, 3) := by decide +kernel
theorem dX7_does_200 : decode cX7_does 200 = .ok (.iload 4, 2) := by decide +kernel
theorem dX7_does_202 : decode cX7_does 202 = .ok (.invokestatic 107, 3) := by decide +kernel
theorem dX7_does_205 : decode cX7_does 205 = .ok (.ifCond .eq 7, 3) := by decide +kernel
theorem dX7_does_208 : decode cX7_does 208 = .ok (.iconst 1, 1) := by decide +kernel
theorem dX7_does_209 : decode cX7_does 209 = .ok (.goto 4, 3) := by decide +kernel
theorem dX7_does_212 : decode cX7_does 212 = .ok (.iconst 0, 1) := by decide +kernel
theorem dX7_does_213 : decode cX7_does 213 = .ok (.ireturn, 1) := by decide +kernel
theorem dX7_does_214 : decode cX7_does 214 = .ok (.iload_n 2, 1) := by decide +kernel
theorem dX7_does_215 : decode cX7_does 215 = .ok (.iconst 5, 1) := by decide +kernel
theorem dX7_does_216 : decode cX7_does 216 = .ok (.if_icmp .ne 34, 3) := by decide +kernel
theorem dX7_does_219 : decode cX7_does 219 = .ok (.iload_n 3, 1) := by decide +kernel
theorem dX7_does_220 : decode cX7_does 220 = .ok (.ifCond .ne 30, 3) := by decide +kernel
theorem dX7_does_223 : decode cX7_does 223 = .ok (.iload 4, 2) := by decide +kernel
theorem dX7_does_225 : decode cX7_does 225 = .ok (.aload_n 0, 1) := by decide +kernel
theorem dX7_does_226 : decode cX7_does 226 = .ok (.getfield 101, 3) := by decide +kernel
theorem dX7_does_229 : decode cX7_does 229 = .ok (.if_icmp .ge 21, 3) := by decide +kernel
theorem dX7_does_232 : decode cX7_does 232 = .ok (.aload_n 0, 1) := by decide +kernel
theorem dX7_does_233 : decode cX7_does 233 = .ok (.getfield 28, 3) := by decide +kernel
theorem dX7_does_236 : decode cX7_does 236 = .ok (.bipush 18, 2) := by decide +kernel
theorem dX7_does_238 : decode cX7_does 238 = .ok (.iload 4, 2) := by decide +kernel
theorem dX7_does_240 : decode cX7_does 240 = .ok (.iadd, 1) := by decide +kernel
theorem dX7_does_241 : decode cX7_does 241 = .ok (.iaload, 1) := by decide +kernel
theorem dX7_does_242 : decode cX7_does 242 = .ok (.iconst 1, 1) := by decide +kernel
theorem dX7_does_243 : decode cX7_does 243 = .ok (.if_icmp .ne 7, 3) := by decide +kernel
theorem dX7_does_246 : decode cX7_does 246 = .ok (.iconst 1, 1) := by decide +kernel
theorem dX7_does_247 : decode cX7_does 247 = .ok (.goto 4, 3) := by decide +kernel
theorem dX7_does_250 : decode cX7_does 250 = .ok (.iconst 0, 1) := by decide +kernel
theorem dX7_does_251 : decode cX7_does 251 = .ok (.ireturn, 1) := by decide +kernel
theorem dX7_judge_0 : decode cX7_judge 0 = .ok (.aload_n 0, 1) := by decide +kernel
theorem dX7_judge_1 : decode cX7_judge 1 = .ok (.iconst 0, 1) := by decide +kernel
theorem dX7_judge_2 : decode cX7_judge 2 = .ok (.putfield 56, 3) := by decide +kernel
theorem dX7_judge_5 : decode cX7_judge 5 = .ok (.iload_n 1, 1) := by decide +kernel
theorem dX7_judge_6 : decode cX7_judge 6 = .ok (.i2l, 1) := by decide +kernel
theorem dX7_judge_7 : decode cX7_judge 7 = .ok (.lconst 1, 1) := by decide +kernel
theorem dX7_judge_8 : decode cX7_judge 8 = .ok (.ldc2_w 186, 3) := by decide +kernel
theorem dX7_judge_11 : decode cX7_judge 11 = .ok (.invokestatic 63, 3) := by decide +kernel
theorem dX7_judge_14 : decode cX7_judge 14 = .ok (.ifCond .eq 20, 3) := by decide +kernel
theorem dX7_judge_17 : decode cX7_judge 17 = .ok (.lload_n 2, 1) := by decide +kernel
theorem dX7_judge_18 : decode cX7_judge 18 = .ok (.lconst 0, 1) := by decide +kernel
theorem dX7_judge_19 : decode cX7_judge 19 = .ok (.ldc2_w 188, 3) := by decide +kernel
theorem dX7_judge_22 : decode cX7_judge 22 = .ok (.iload_n 1, 1) := by decide +kernel
theorem dX7_judge_23 : decode cX7_judge 23 = .ok (.invokestatic 190, 3) := by decide +kernel
theorem dX7_judge_26 : decode cX7_judge 26 = .ok (.lconst 1, 1) := by decide +kernel
theorem dX7_judge_27 : decode cX7_judge 27 = .ok (.lsub, 1) := by decide +kernel
theorem dX7_judge_28 : decode cX7_judge 28 = .ok (.invokestatic 63, 3) := by decide +kernel
theorem dX7_judge_31 : decode cX7_judge 31 = .ok (.ifCond .ne 6, 3) := by decide +kernel
theorem dX7_judge_34 : decode cX7_judge 34 = .ok (.bipush (-2), 2) := by decide +kernel
theorem dX7_judge_36 : decode cX7_judge 36 = .ok (.ireturn, 1) := by decide +kernel
theorem dX7_judge_37 : decode cX7_judge 37 = .ok (.aload_n 0, 1) := by decide +kernel
theorem dX7_judge_38 : decode cX7_judge 38 = .ok (.invokevirtual 163, 3) := by decide +kernel
theorem dX7_judge_41 : decode cX7_judge 41 = .ok (.iconst 0, 1) := by decide +kernel
theorem dX7_judge_42 : decode cX7_judge 42 = .ok (.istore 4, 2) := by decide +kernel
theorem dX7_judge_44 : decode cX7_judge 44 = .ok (.iload 4, 2) := by decide +kernel
theorem dX7_judge_46 : decode cX7_judge 46 = .ok (.iload_n 1, 1) := by decide +kernel
theorem dX7_judge_47 : decode cX7_judge 47 = .ok (.if_icmp .ge 38, 3) := by decide +kernel
theorem dX7_judge_50 : decode cX7_judge 50 = .ok (.aload_n 0, 1) := by decide +kernel
theorem dX7_judge_51 : decode cX7_judge 51 = .ok (.lload_n 2, 1) := by decide +kernel
theorem dX7_judge_52 : decode cX7_judge 52 = .ok (.ldc2_w 188, 3) := by decide +kernel
theorem dX7_judge_55 : decode cX7_judge 55 = .ok (.iload_n 1, 1) := by decide +kernel
theorem dX7_judge_56 : decode cX7_judge 56 = .ok (.iconst 1, 1) := by decide +kernel
theorem dX7_judge_57 : decode cX7_judge 57 = .ok (.isub, 1) := by decide +kernel
theorem dX7_judge_58 : decode cX7_judge 58 = .ok (.iload 4, 2) := by decide +kernel
theorem dX7_judge_60 : decode cX7_judge 60 = .ok (.isub, 1) := by decide +kernel
theorem dX7_judge_61 : decode cX7_judge 61 = .ok (.invokestatic 190, 3) := by decide +kernel
theorem dX7_judge_64 : decode cX7_judge 64 = .ok (.ldiv, 1) := by decide +kernel
theorem dX7_judge_65 : decode cX7_judge 65 = .ok (.ldc2_w 188, 3) := by decide +kernel
theorem dX7_judge_68 : decode cX7_judge 68 = .ok (.lrem, 1) := by decide +kernel
theorem dX7_judge_69 : decode cX7_judge 69 = .ok (.l2i, 1) := by decide +kernel
theorem dX7_judge_70 : decode cX7_judge 70 = .ok (.invokevirtual 194, 3) := by decide +kernel
theorem dX7_judge_73 : decode cX7_judge 73 = .ok (.ifCond .ne 6, 3) := by decide +kernel
theorem dX7_judge_76 : decode cX7_judge 76 = .ok (.iload 4, 2) := by decide +kernel
theorem dX7_judge_78 : decode cX7_judge 78 = .ok (.ireturn, 1) := by decide +kernel
theorem dX7_judge_79 : decode cX7_judge 79 = .ok (.iinc 4 1, 3) := by decide +kernel
theorem dX7_judge_82 : decode cX7_judge 82 = .ok (.goto (-38), 3) := by decide +kernel
theorem dX7_judge_85 : decode cX7_judge 85 = .ok (.bipush (-9), 2) := by decide +kernel
theorem dX7_judge_87 : decode cX7_judge 87 = .ok (.ireturn, 1) := by decide +kernel
theorem dX7_ways_0 : decode cX7_ways 0 = .ok (.iconst 1, 1) := by decide +kernel
theorem dX7_ways_1 : decode cX7_ways 1 = .ok (.istore_n 1, 1) := by decide +kernel
theorem dX7_ways_2 : decode cX7_ways 2 = .ok (.iconst 2, 1) := by decide +kernel
theorem dX7_ways_3 : decode cX7_ways 3 = .ok (.istore_n 2, 1) := by decide +kernel
theorem dX7_ways_4 : decode cX7_ways 4 = .ok (.iload_n 2, 1) := by decide +kernel
theorem dX7_ways_5 : decode cX7_ways 5 = .ok (.iload_n 0, 1) := by decide +kernel
theorem dX7_ways_6 : decode cX7_ways 6 = .ok (.if_icmp .gt 13, 3) := by decide +kernel
theorem dX7_ways_9 : decode cX7_ways 9 = .ok (.iload_n 1, 1) := by decide +kernel
theorem dX7_ways_10 : decode cX7_ways 10 = .ok (.iload_n 2, 1) := by decide +kernel
theorem dX7_ways_11 : decode cX7_ways 11 = .ok (.imul, 1) := by decide +kernel
theorem dX7_ways_12 : decode cX7_ways 12 = .ok (.istore_n 1, 1) := by decide +kernel
theorem dX7_ways_13 : decode cX7_ways 13 = .ok (.iinc 2 1, 3) := by decide +kernel
theorem dX7_ways_16 : decode cX7_ways 16 = .ok (.goto (-12), 3) := by decide +kernel
theorem dX7_ways_19 : decode cX7_ways 19 = .ok (.iload_n 1, 1) := by decide +kernel
theorem dX7_ways_20 : decode cX7_ways 20 = .ok (.ireturn, 1) := by decide +kernel
theorem dX7_divisor_0 : decode cX7_divisor 0 = .ok (.iload_n 0, 1) := by decide +kernel
theorem dX7_divisor_1 : decode cX7_divisor 1 = .ok (.ifCond .ge 8, 3) := by decide +kernel
theorem dX7_divisor_4 : decode cX7_divisor 4 = .ok (.iload_n 0, 1) := by decide +kernel
theorem dX7_divisor_5 : decode cX7_divisor 5 = .ok (.ineg, 1) := by decide +kernel
theorem dX7_divisor_6 : decode cX7_divisor 6 = .ok (.goto 4, 3) := by decide +kernel
theorem dX7_divisor_9 : decode cX7_divisor 9 = .ok (.iload_n 0, 1) := by decide +kernel
theorem dX7_divisor_10 : decode cX7_divisor 10 = .ok (.istore_n 2, 1) := by decide +kernel
theorem dX7_divisor_11 : decode cX7_divisor 11 = .ok (.iload_n 1, 1) := by decide +kernel
theorem dX7_divisor_12 : decode cX7_divisor 12 = .ok (.istore_n 3, 1) := by decide +kernel
theorem dX7_divisor_13 : decode cX7_divisor 13 = .ok (.iload_n 3, 1) := by decide +kernel
theorem dX7_divisor_14 : decode cX7_divisor 14 = .ok (.ifCond .eq 16, 3) := by decide +kernel
theorem dX7_divisor_17 : decode cX7_divisor 17 = .ok (.iload_n 2, 1) := by decide +kernel
theorem dX7_divisor_18 : decode cX7_divisor 18 = .ok (.iload_n 3, 1) := by decide +kernel
theorem dX7_divisor_19 : decode cX7_divisor 19 = .ok (.irem, 1) := by decide +kernel
theorem dX7_divisor_20 : decode cX7_divisor 20 = .ok (.istore 4, 2) := by decide +kernel
theorem dX7_divisor_22 : decode cX7_divisor 22 = .ok (.iload_n 3, 1) := by decide +kernel
theorem dX7_divisor_23 : decode cX7_divisor 23 = .ok (.istore_n 2, 1) := by decide +kernel
theorem dX7_divisor_24 : decode cX7_divisor 24 = .ok (.iload 4, 2) := by decide +kernel
theorem dX7_divisor_26 : decode cX7_divisor 26 = .ok (.istore_n 3, 1) := by decide +kernel
theorem dX7_divisor_27 : decode cX7_divisor 27 = .ok (.goto (-14), 3) := by decide +kernel
theorem dX7_divisor_30 : decode cX7_divisor 30 = .ok (.iload_n 2, 1) := by decide +kernel
theorem dX7_divisor_31 : decode cX7_divisor 31 = .ok (.ireturn, 1) := by decide +kernel
theorem dX7_fraction_0 : decode cX7_fraction 0 = .ok (.iload_n 0, 1) := by decide +kernel
theorem dX7_fraction_1 : decode cX7_fraction 1 = .ok (.iload_n 1, 1) := by decide +kernel
theorem dX7_fraction_2 : decode cX7_fraction 2 = .ok (.invokestatic 197, 3) := by decide +kernel
theorem dX7_fraction_5 : decode cX7_fraction 5 = .ok (.istore_n 3, 1) := by decide +kernel
theorem dX7_fraction_6 : decode cX7_fraction 6 = .ok (.iload_n 2, 1) := by decide +kernel
theorem dX7_fraction_7 : decode cX7_fraction 7 = .ok (.ifCond .eq 9, 3) := by decide +kernel
theorem dX7_fraction_10 : decode cX7_fraction 10 = .ok (.iload_n 0, 1) := by decide +kernel
theorem dX7_fraction_11 : decode cX7_fraction 11 = .ok (.iload_n 3, 1) := by decide +kernel
theorem dX7_fraction_12 : decode cX7_fraction 12 = .ok (.idiv, 1) := by decide +kernel
theorem dX7_fraction_13 : decode cX7_fraction 13 = .ok (.goto 6, 3) := by decide +kernel
theorem dX7_fraction_16 : decode cX7_fraction 16 = .ok (.iload_n 1, 1) := by decide +kernel
theorem dX7_fraction_17 : decode cX7_fraction 17 = .ok (.iload_n 3, 1) := by decide +kernel
theorem dX7_fraction_18 : decode cX7_fraction 18 = .ok (.idiv, 1) := by decide +kernel
theorem dX7_fraction_19 : decode cX7_fraction 19 = .ok (.ireturn, 1) := by decide +kernel
theorem dX7_share_0 : decode cX7_share 0 = .ok (.aload_n 0, 1) := by decide +kernel
theorem dX7_share_1 : decode cX7_share 1 = .ok (.iconst 0, 1) := by decide +kernel
theorem dX7_share_2 : decode cX7_share 2 = .ok (.putfield 56, 3) := by decide +kernel
theorem dX7_share_5 : decode cX7_share 5 = .ok (.aload_n 0, 1) := by decide +kernel
theorem dX7_share_6 : decode cX7_share 6 = .ok (.iload_n 1, 1) := by decide +kernel
theorem dX7_share_7 : decode cX7_share 7 = .ok (.invokevirtual 138, 3) := by decide +kernel
theorem dX7_share_10 : decode cX7_share 10 = .ok (.ifCond .eq 5, 3) := by decide +kernel
theorem dX7_share_13 : decode cX7_share 13 = .ok (.iconst (-1), 1) := by decide +kernel
theorem dX7_share_14 : decode cX7_share 14 = .ok (.ireturn, 1) := by decide +kernel
theorem dX7_share_15 : decode cX7_share 15 = .ok (.iconst 0, 1) := by decide +kernel
theorem dX7_share_16 : decode cX7_share 16 = .ok (.istore_n 3, 1) := by decide +kernel
theorem dX7_share_17 : decode cX7_share 17 = .ok (.iload_n 3, 1) := by decide +kernel
theorem dX7_share_18 : decode cX7_share 18 = .ok (.iconst 1, 1) := by decide +kernel
theorem dX7_share_19 : decode cX7_share 19 = .ok (.aload_n 0, 1) := by decide +kernel
theorem dX7_share_20 : decode cX7_share 20 = .ok (.getfield 60, 3) := by decide +kernel
theorem dX7_share_23 : decode cX7_share 23 = .ok (.ishl, 1) := by decide +kernel
theorem dX7_share_24 : decode cX7_share 24 = .ok (.if_icmp .ge 47, 3) := by decide +kernel
theorem dX7_share_27 : decode cX7_share 27 = .ok (.aload_n 0, 1) := by decide +kernel
theorem dX7_share_28 : decode cX7_share 28 = .ok (.invokevirtual 163, 3) := by decide +kernel
theorem dX7_share_31 : decode cX7_share 31 = .ok (.aload_n 0, 1) := by decide +kernel
theorem dX7_share_32 : decode cX7_share 32 = .ok (.getfield 28, 3) := by decide +kernel
theorem dX7_share_35 : decode cX7_share 35 = .ok (.iconst 5, 1) := by decide +kernel
theorem dX7_share_36 : decode cX7_share 36 = .ok (.dup2, 1) := by decide +kernel
theorem dX7_share_37 : decode cX7_share 37 = .ok (.iaload, 1) := by decide +kernel
theorem dX7_share_38 : decode cX7_share 38 = .ok (.iload_n 3, 1) := by decide +kernel
theorem dX7_share_39 : decode cX7_share 39 = .ok (.iand, 1) := by decide +kernel
theorem dX7_share_40 : decode cX7_share 40 = .ok (.iastore, 1) := by decide +kernel
theorem dX7_share_41 : decode cX7_share 41 = .ok (.aload_n 0, 1) := by decide +kernel
theorem dX7_share_42 : decode cX7_share 42 = .ok (.iload_n 3, 1) := by decide +kernel
theorem dX7_share_43 : decode cX7_share 43 = .ok (.aload_n 0, 1) := by decide +kernel
theorem dX7_share_44 : decode cX7_share 44 = .ok (.getfield 25, 3) := by decide +kernel
theorem dX7_share_47 : decode cX7_share 47 = .ok (.iconst 5, 1) := by decide +kernel
theorem dX7_share_48 : decode cX7_share 48 = .ok (.iaload, 1) := by decide +kernel
theorem dX7_share_49 : decode cX7_share 49 = .ok (.iconst (-1), 1) := by decide +kernel
theorem dX7_share_50 : decode cX7_share 50 = .ok (.ixor, 1) := by decide +kernel
theorem dX7_share_51 : decode cX7_share 51 = .ok (.iand, 1) := by decide +kernel
theorem dX7_share_52 : decode cX7_share 52 = .ok (.invokevirtual 180, 3) := by decide +kernel
theorem dX7_share_55 : decode cX7_share 55 = .ok (.aload_n 0, 1) := by decide +kernel
theorem dX7_share_56 : decode cX7_share 56 = .ok (.getfield 53, 3) := by decide +kernel
theorem dX7_share_59 : decode cX7_share 59 = .ok (.iload_n 3, 1) := by decide +kernel
theorem dX7_share_60 : decode cX7_share 60 = .ok (.aload_n 0, 1) := by decide +kernel
theorem dX7_share_61 : decode cX7_share 61 = .ok (.invokevirtual 183, 3) := by decide +kernel
theorem dX7_share_64 : decode cX7_share 64 = .ok (.iastore, 1) := by decide +kernel
theorem dX7_share_65 : decode cX7_share 65 = .ok (.iinc 3 1, 3) := by decide +kernel
theorem dX7_share_68 : decode cX7_share 68 = .ok (.goto (-51), 3) := by decide +kernel
theorem dX7_share_71 : decode cX7_share 71 = .ok (.iconst 0, 1) := by decide +kernel
theorem dX7_share_72 : decode cX7_share 72 = .ok (.istore_n 3, 1) := by decide +kernel
theorem dX7_share_73 : decode cX7_share 73 = .ok (.iconst 0, 1) := by decide +kernel
theorem dX7_share_74 : decode cX7_share 74 = .ok (.istore 4, 2) := by decide +kernel
theorem dX7_share_76 : decode cX7_share 76 = .ok (.iload 4, 2) := by decide +kernel
theorem dX7_share_78 : decode cX7_share 78 = .ok (.iconst 1, 1) := by decide +kernel
theorem dX7_share_79 : decode cX7_share 79 = .ok (.aload_n 0, 1) := by decide +kernel
theorem dX7_share_80 : decode cX7_share 80 = .ok (.getfield 60, 3) := by decide +kernel
theorem dX7_share_83 : decode cX7_share 83 = .ok (.ishl, 1) := by decide +kernel
theorem dX7_share_84 : decode cX7_share 84 = .ok (.if_icmp .ge 66, 3) := by decide +kernel
theorem dX7_share_87 : decode cX7_share 87 = .ok (.iload 4, 2) := by decide +kernel
theorem dX7_share_89 : decode cX7_share 89 = .ok (.iload_n 1, 1) := by decide +kernel
theorem dX7_share_90 : decode cX7_share 90 = .ok (.invokestatic 107, 3) := by decide +kernel
theorem dX7_share_93 : decode cX7_share 93 = .ok (.ifCond .ne 51, 3) := by decide +kernel
theorem dX7_share_96 : decode cX7_share 96 = .ok (.iload 4, 2) := by decide +kernel
theorem dX7_share_98 : decode cX7_share 98 = .ok (.invokestatic 170, 3) := by decide +kernel
theorem dX7_share_101 : decode cX7_share 101 = .ok (.istore 5, 2) := by decide +kernel
theorem dX7_share_103 : decode cX7_share 103 = .ok (.iload_n 3, 1) := by decide +kernel
theorem dX7_share_104 : decode cX7_share 104 = .ok (.iload 5, 2) := by decide +kernel
theorem dX7_share_106 : decode cX7_share 106 = .ok (.invokestatic 200, 3) := by decide +kernel
theorem dX7_share_109 : decode cX7_share 109 = .ok (.aload_n 0, 1) := by decide +kernel
theorem dX7_share_110 : decode cX7_share 110 = .ok (.getfield 60, 3) := by decide +kernel
theorem dX7_share_113 : decode cX7_share 113 = .ok (.iconst 1, 1) := by decide +kernel
theorem dX7_share_114 : decode cX7_share 114 = .ok (.isub, 1) := by decide +kernel
theorem dX7_share_115 : decode cX7_share 115 = .ok (.iload 5, 2) := by decide +kernel
theorem dX7_share_117 : decode cX7_share 117 = .ok (.isub, 1) := by decide +kernel
theorem dX7_share_118 : decode cX7_share 118 = .ok (.invokestatic 200, 3) := by decide +kernel
theorem dX7_share_121 : decode cX7_share 121 = .ok (.imul, 1) := by decide +kernel
theorem dX7_share_122 : decode cX7_share 122 = .ok (.aload_n 0, 1) := by decide +kernel
theorem dX7_share_123 : decode cX7_share 123 = .ok (.getfield 53, 3) := by decide +kernel
theorem dX7_share_126 : decode cX7_share 126 = .ok (.iload 4, 2) := by decide +kernel
theorem dX7_share_128 : decode cX7_share 128 = .ok (.iconst 1, 1) := by decide +kernel
theorem dX7_share_129 : decode cX7_share 129 = .ok (.iload_n 1, 1) := by decide +kernel
theorem dX7_share_130 : decode cX7_share 130 = .ok (.ishl, 1) := by decide +kernel
theorem dX7_share_131 : decode cX7_share 131 = .ok (.ior, 1) := by decide +kernel
theorem dX7_share_132 : decode cX7_share 132 = .ok (.iaload, 1) := by decide +kernel
theorem dX7_share_133 : decode cX7_share 133 = .ok (.aload_n 0, 1) := by decide +kernel
theorem dX7_share_134 : decode cX7_share 134 = .ok (.getfield 53, 3) := by decide +kernel
theorem dX7_share_137 : decode cX7_share 137 = .ok (.iload 4, 2) := by decide +kernel
theorem dX7_share_139 : decode cX7_share 139 = .ok (.iaload, 1) := by decide +kernel
theorem dX7_share_140 : decode cX7_share 140 = .ok (.isub, 1) := by decide +kernel
theorem dX7_share_141 : decode cX7_share 141 = .ok (.imul, 1) := by decide +kernel
theorem dX7_share_142 : decode cX7_share 142 = .ok (.iadd, 1) := by decide +kernel
theorem dX7_share_143 : decode cX7_share 143 = .ok (.istore_n 3, 1) := by decide +kernel
theorem dX7_share_144 : decode cX7_share 144 = .ok (.iinc 4 1, 3) := by decide +kernel
theorem dX7_share_147 : decode cX7_share 147 = .ok (.goto (-71), 3) := by decide +kernel
theorem dX7_share_150 : decode cX7_share 150 = .ok (.iload_n 3, 1) := by decide +kernel
theorem dX7_share_151 : decode cX7_share 151 = .ok (.aload_n 0, 1) := by decide +kernel
theorem dX7_share_152 : decode cX7_share 152 = .ok (.getfield 60, 3) := by decide +kernel
theorem dX7_share_155 : decode cX7_share 155 = .ok (.invokestatic 200, 3) := by decide +kernel
theorem dX7_share_158 : decode cX7_share 158 = .ok (.iload_n 2, 1) := by decide +kernel
theorem dX7_share_159 : decode cX7_share 159 = .ok (.invokestatic 203, 3) := by decide +kernel
theorem dX7_share_162 : decode cX7_share 162 = .ok (.ireturn, 1) := by decide +kernel
theorem dX7_feel_0 : decode cX7_feel 0 = .ok (.aload_n 0, 1) := by decide +kernel
theorem dX7_feel_1 : decode cX7_feel 1 = .ok (.iconst 0, 1) := by decide +kernel
theorem dX7_feel_2 : decode cX7_feel 2 = .ok (.putfield 56, 3) := by decide +kernel
theorem dX7_feel_5 : decode cX7_feel 5 = .ok (.iload_n 1, 1) := by decide +kernel
theorem dX7_feel_6 : decode cX7_feel 6 = .ok (.invokestatic 144, 3) := by decide +kernel
theorem dX7_feel_9 : decode cX7_feel 9 = .ok (.ifCond .eq 5, 3) := by decide +kernel
theorem dX7_feel_12 : decode cX7_feel 12 = .ok (.iconst (-1), 1) := by decide +kernel
theorem dX7_feel_13 : decode cX7_feel 13 = .ok (.ireturn, 1) := by decide +kernel
theorem dX7_feel_14 : decode cX7_feel 14 = .ok (.iload_n 2, 1) := by decide +kernel
theorem dX7_feel_15 : decode cX7_feel 15 = .ok (.i2l, 1) := by decide +kernel
theorem dX7_feel_16 : decode cX7_feel 16 = .ok (.lconst 0, 1) := by decide +kernel
theorem dX7_feel_17 : decode cX7_feel 17 = .ok (.ldc2_w 207, 3) := by decide +kernel
theorem dX7_feel_20 : decode cX7_feel 20 = .ok (.invokestatic 63, 3) := by decide +kernel
theorem dX7_feel_23 : decode cX7_feel 23 = .ok (.ifCond .eq 13, 3) := by decide +kernel
theorem dX7_feel_26 : decode cX7_feel 26 = .ok (.iload_n 3, 1) := by decide +kernel
theorem dX7_feel_27 : decode cX7_feel 27 = .ok (.i2l, 1) := by decide +kernel
theorem dX7_feel_28 : decode cX7_feel 28 = .ok (.lconst 0, 1) := by decide +kernel
theorem dX7_feel_29 : decode cX7_feel 29 = .ok (.lconst 1, 1) := by decide +kernel
theorem dX7_feel_30 : decode cX7_feel 30 = .ok (.invokestatic 63, 3) := by decide +kernel
theorem dX7_feel_33 : decode cX7_feel 33 = .ok (.ifCond .ne 6, 3) := by decide +kernel
theorem dX7_feel_36 : decode cX7_feel 36 = .ok (.bipush (-2), 2) := by decide +kernel
theorem dX7_feel_38 : decode cX7_feel 38 = .ok (.ireturn, 1) := by decide +kernel
theorem dX7_feel_39 : decode cX7_feel 39 = .ok (.aload_n 0, 1) := by decide +kernel
theorem dX7_feel_40 : decode cX7_feel 40 = .ok (.getfield 135, 3) := by decide +kernel
theorem dX7_feel_43 : decode cX7_feel 43 = .ok (.bipush 6, 2) := by decide +kernel
theorem dX7_feel_45 : decode cX7_feel 45 = .ok (.if_icmp .ne 6, 3) := by decide +kernel
theorem dX7_feel_48 : decode cX7_feel 48 = .ok (.bipush (-4), 2) := by decide +kernel
theorem dX7_feel_50 : decode cX7_feel 50 = .ok (.ireturn, 1) := by decide +kernel
theorem dX7_feel_51 : decode cX7_feel 51 = .ok (.aload_n 0, 1) := by decide +kernel
theorem dX7_feel_52 : decode cX7_feel 52 = .ok (.getfield 41, 3) := by decide +kernel
theorem dX7_feel_55 : decode cX7_feel 55 = .ok (.aload_n 0, 1) := by decide +kernel
theorem dX7_feel_56 : decode cX7_feel 56 = .ok (.getfield 135, 3) := by decide +kernel
theorem dX7_feel_59 : decode cX7_feel 59 = .ok (.iload_n 1, 1) := by decide +kernel
theorem dX7_feel_60 : decode cX7_feel 60 = .ok (.iastore, 1) := by decide +kernel
theorem dX7_feel_61 : decode cX7_feel 61 = .ok (.aload_n 0, 1) := by decide +kernel
theorem dX7_feel_62 : decode cX7_feel 62 = .ok (.getfield 44, 3) := by decide +kernel
theorem dX7_feel_65 : decode cX7_feel 65 = .ok (.aload_n 0, 1) := by decide +kernel
theorem dX7_feel_66 : decode cX7_feel 66 = .ok (.getfield 135, 3) := by decide +kernel
theorem dX7_feel_69 : decode cX7_feel 69 = .ok (.iload_n 2, 1) := by decide +kernel
theorem dX7_feel_70 : decode cX7_feel 70 = .ok (.iastore, 1) := by decide +kernel
theorem dX7_feel_71 : decode cX7_feel 71 = .ok (.aload_n 0, 1) := by decide +kernel
theorem dX7_feel_72 : decode cX7_feel 72 = .ok (.getfield 47, 3) := by decide +kernel
theorem dX7_feel_75 : decode cX7_feel 75 = .ok (.aload_n 0, 1) := by decide +kernel
theorem dX7_feel_76 : decode cX7_feel 76 = .ok (.getfield 135, 3) := by decide +kernel
theorem dX7_feel_79 : decode cX7_feel 79 = .ok (.iload_n 3, 1) := by decide +kernel
theorem dX7_feel_80 : decode cX7_feel 80 = .ok (.iastore, 1) := by decide +kernel
theorem dX7_feel_81 : decode cX7_feel 81 = .ok (.aload_n 0, 1) := by decide +kernel
theorem dX7_feel_82 : decode cX7_feel 82 = .ok (.dup, 1) := by decide +kernel
theorem dX7_feel_83 : decode cX7_feel 83 = .ok (.getfield 135, 3) := by decide +kernel
theorem dX7_feel_86 : decode cX7_feel 86 = .ok (.iconst 1, 1) := by decide +kernel
theorem dX7_feel_87 : decode cX7_feel 87 = .ok (.iadd, 1) := by decide +kernel
theorem dX7_feel_88 : decode cX7_feel 88 = .ok (.putfield 135, 3) := by decide +kernel
theorem dX7_feel_91 : decode cX7_feel 91 = .ok (.aload_n 0, 1) := by decide +kernel
theorem dX7_feel_92 : decode cX7_feel 92 = .ok (.getfield 135, 3) := by decide +kernel
theorem dX7_feel_95 : decode cX7_feel 95 = .ok (.ireturn, 1) := by decide +kernel
theorem dX7_unfeel_0 : decode cX7_unfeel 0 = .ok (.aload_n 0, 1) := by decide +kernel
theorem dX7_unfeel_1 : decode cX7_unfeel 1 = .ok (.iconst 0, 1) := by decide +kernel
theorem dX7_unfeel_2 : decode cX7_unfeel 2 = .ok (.putfield 56, 3) := by decide +kernel
theorem dX7_unfeel_5 : decode cX7_unfeel 5 = .ok (.aload_n 0, 1) := by decide +kernel
theorem dX7_unfeel_6 : decode cX7_unfeel 6 = .ok (.getfield 135, 3) := by decide +kernel
theorem dX7_unfeel_9 : decode cX7_unfeel 9 = .ok (.istore_n 1, 1) := by decide +kernel
theorem dX7_unfeel_10 : decode cX7_unfeel 10 = .ok (.aload_n 0, 1) := by decide +kernel
theorem dX7_unfeel_11 : decode cX7_unfeel 11 = .ok (.iconst 0, 1) := by decide +kernel
theorem dX7_unfeel_12 : decode cX7_unfeel 12 = .ok (.putfield 135, 3) := by decide +kernel
theorem dX7_unfeel_15 : decode cX7_unfeel 15 = .ok (.iload_n 1, 1) := by decide +kernel
theorem dX7_unfeel_16 : decode cX7_unfeel 16 = .ok (.ireturn, 1) := by decide +kernel
theorem dX7_rainsBy_0 : decode cX7_rainsBy 0 = .ok (.iload_n 0, 1) := by decide +kernel
theorem dX7_rainsBy_1 : decode cX7_rainsBy 1 = .ok (.iconst 3, 1) := by decide +kernel
theorem dX7_rainsBy_2 : decode cX7_rainsBy 2 = .ok (.if_icmp .ne 29, 3) := by decide +kernel
theorem dX7_rainsBy_5 : decode cX7_rainsBy 5 = .ok (.iload 4, 2) := by decide +kernel
theorem dX7_rainsBy_7 : decode cX7_rainsBy 7 = .ok (.iload_n 2, 1) := by decide +kernel
theorem dX7_rainsBy_8 : decode cX7_rainsBy 8 = .ok (.if_icmp .ge 21, 3) := by decide +kernel
theorem dX7_rainsBy_11 : decode cX7_rainsBy 11 = .ok (.iload_n 3, 1) := by decide +kernel
theorem dX7_rainsBy_12 : decode cX7_rainsBy 12 = .ok (.iload_n 1, 1) := by decide +kernel
theorem dX7_rainsBy_13 : decode cX7_rainsBy 13 = .ok (.isub, 1) := by decide +kernel
theorem dX7_rainsBy_14 : decode cX7_rainsBy 14 = .ok (.i2l, 1) := by decide +kernel
theorem dX7_rainsBy_15 : decode cX7_rainsBy 15 = .ok (.ldc2_w 209, 3) := by decide +kernel
theorem dX7_rainsBy_18 : decode cX7_rainsBy 18 = .ok (.lconst 1, 1) := by decide +kernel
theorem dX7_rainsBy_19 : decode cX7_rainsBy 19 = .ok (.invokestatic 63, 3) := by decide +kernel
theorem dX7_rainsBy_22 : decode cX7_rainsBy 22 = .ok (.ifCond .eq 7, 3) := by decide +kernel
theorem dX7_rainsBy_25 : decode cX7_rainsBy 25 = .ok (.iconst 1, 1) := by decide +kernel
theorem dX7_rainsBy_26 : decode cX7_rainsBy 26 = .ok (.goto 4, 3) := by decide +kernel
theorem dX7_rainsBy_29 : decode cX7_rainsBy 29 = .ok (.iconst 0, 1) := by decide +kernel
theorem dX7_rainsBy_30 : decode cX7_rainsBy 30 = .ok (.ireturn, 1) := by decide +kernel
theorem dX7_rainsBy_31 : decode cX7_rainsBy 31 = .ok (.iload_n 0, 1) := by decide +kernel
theorem dX7_rainsBy_32 : decode cX7_rainsBy 32 = .ok (.iconst 1, 1) := by decide +kernel
theorem dX7_rainsBy_33 : decode cX7_rainsBy 33 = .ok (.if_icmp .ne 9, 3) := by decide +kernel
theorem dX7_rainsBy_36 : decode cX7_rainsBy 36 = .ok (.iload_n 2, 1) := by decide +kernel
theorem dX7_rainsBy_37 : decode cX7_rainsBy 37 = .ok (.iconst 1, 1) := by decide +kernel
theorem dX7_rainsBy_38 : decode cX7_rainsBy 38 = .ok (.iadd, 1) := by decide +kernel
theorem dX7_rainsBy_39 : decode cX7_rainsBy 39 = .ok (.goto 14, 3) := by decide +kernel
theorem dX7_rainsBy_42 : decode cX7_rainsBy 42 = .ok (.iload_n 0, 1) := by decide +kernel
theorem dX7_rainsBy_43 : decode cX7_rainsBy 43 = .ok (.iconst 2, 1) := by decide +kernel
theorem dX7_rainsBy_44 : decode cX7_rainsBy 44 = .ok (.if_icmp .ne 8, 3) := by decide +kernel
theorem dX7_rainsBy_47 : decode cX7_rainsBy 47 = .ok (.bipush 7, 2) := by decide +kernel
theorem dX7_rainsBy_49 : decode cX7_rainsBy 49 = .ok (.goto 4, 3) := by decide +kernel
end
section
theorem dX7_rainsBy_52 : decode cX7_rainsBy 52 = .ok (.iload_n 2, 1) := by decide +kernel
theorem dX7_rainsBy_53 : decode cX7_rainsBy 53 = .ok (.istore 5, 2) := by decide +kernel
theorem dX7_rainsBy_55 : decode cX7_rainsBy 55 = .ok (.iload_n 3, 1) := by decide +kernel
theorem dX7_rainsBy_56 : decode cX7_rainsBy 56 = .ok (.iload_n 1, 1) := by decide +kernel
theorem dX7_rainsBy_57 : decode cX7_rainsBy 57 = .ok (.if_icmp .ne 14, 3) := by decide +kernel
theorem dX7_rainsBy_60 : decode cX7_rainsBy 60 = .ok (.iload 4, 2) := by decide +kernel
theorem dX7_rainsBy_62 : decode cX7_rainsBy 62 = .ok (.iload 5, 2) := by decide +kernel
theorem dX7_rainsBy_64 : decode cX7_rainsBy 64 = .ok (.if_icmp .ge 7, 3) := by decide +kernel
theorem dX7_rainsBy_67 : decode cX7_rainsBy 67 = .ok (.iconst 1, 1) := by decide +kernel
theorem dX7_rainsBy_68 : decode cX7_rainsBy 68 = .ok (.goto 4, 3) := by decide +kernel
theorem dX7_rainsBy_71 : decode cX7_rainsBy 71 = .ok (.iconst 0, 1) := by decide +kernel
theorem dX7_rainsBy_72 : decode cX7_rainsBy 72 = .ok (.ireturn, 1) := by decide +kernel
theorem dX7_findMay_0 : decode cX7_findMay 0 = .ok (.aload_n 0, 1) := by decide +kernel
theorem dX7_findMay_1 : decode cX7_findMay 1 = .ok (.iconst 0, 1) := by decide +kernel
theorem dX7_findMay_2 : decode cX7_findMay 2 = .ok (.putfield 211, 3) := by decide +kernel
theorem dX7_findMay_5 : decode cX7_findMay 5 = .ok (.aload_n 0, 1) := by decide +kernel
theorem dX7_findMay_6 : decode cX7_findMay 6 = .ok (.bipush (-9), 2) := by decide +kernel
theorem dX7_findMay_8 : decode cX7_findMay 8 = .ok (.putfield 214, 3) := by decide +kernel
theorem dX7_findMay_11 : decode cX7_findMay 11 = .ok (.iconst 0, 1) := by decide +kernel
theorem dX7_findMay_12 : decode cX7_findMay 12 = .ok (.istore_n 1, 1) := by decide +kernel
theorem dX7_findMay_13 : decode cX7_findMay 13 = .ok (.iload_n 1, 1) := by decide +kernel
theorem dX7_findMay_14 : decode cX7_findMay 14 = .ok (.sipush 144, 3) := by decide +kernel
theorem dX7_findMay_17 : decode cX7_findMay 17 = .ok (.if_icmp .ge 157, 3) := by decide +kernel
theorem dX7_findMay_20 : decode cX7_findMay 20 = .ok (.iload_n 1, 1) := by decide +kernel
theorem dX7_findMay_21 : decode cX7_findMay 21 = .ok (.bipush 36, 2) := by decide +kernel
theorem dX7_findMay_23 : decode cX7_findMay 23 = .ok (.idiv, 1) := by decide +kernel
theorem dX7_findMay_24 : decode cX7_findMay 24 = .ok (.istore_n 2, 1) := by decide +kernel
theorem dX7_findMay_25 : decode cX7_findMay 25 = .ok (.iload_n 1, 1) := by decide +kernel
theorem dX7_findMay_26 : decode cX7_findMay 26 = .ok (.bipush 6, 2) := by decide +kernel
theorem dX7_findMay_28 : decode cX7_findMay 28 = .ok (.idiv, 1) := by decide +kernel
theorem dX7_findMay_29 : decode cX7_findMay 29 = .ok (.bipush 6, 2) := by decide +kernel
theorem dX7_findMay_31 : decode cX7_findMay 31 = .ok (.irem, 1) := by decide +kernel
theorem dX7_findMay_32 : decode cX7_findMay 32 = .ok (.istore_n 3, 1) := by decide +kernel
theorem dX7_findMay_33 : decode cX7_findMay 33 = .ok (.iconst 1, 1) := by decide +kernel
theorem dX7_findMay_34 : decode cX7_findMay 34 = .ok (.iload_n 1, 1) := by decide +kernel
theorem dX7_findMay_35 : decode cX7_findMay 35 = .ok (.bipush 6, 2) := by decide +kernel
theorem dX7_findMay_37 : decode cX7_findMay 37 = .ok (.irem, 1) := by decide +kernel
theorem dX7_findMay_38 : decode cX7_findMay 38 = .ok (.iadd, 1) := by decide +kernel
theorem dX7_findMay_39 : decode cX7_findMay 39 = .ok (.istore 4, 2) := by decide +kernel
theorem dX7_findMay_41 : decode cX7_findMay 41 = .ok (.iconst 1, 1) := by decide +kernel
theorem dX7_findMay_42 : decode cX7_findMay 42 = .ok (.istore 5, 2) := by decide +kernel
theorem dX7_findMay_44 : decode cX7_findMay 44 = .ok (.iconst 0, 1) := by decide +kernel
theorem dX7_findMay_45 : decode cX7_findMay 45 = .ok (.istore 6, 2) := by decide +kernel
theorem dX7_findMay_47 : decode cX7_findMay 47 = .ok (.iload 6, 2) := by decide +kernel
theorem dX7_findMay_49 : decode cX7_findMay 49 = .ok (.aload_n 0, 1) := by decide +kernel
theorem dX7_findMay_50 : decode cX7_findMay 50 = .ok (.getfield 135, 3) := by decide +kernel
theorem dX7_findMay_53 : decode cX7_findMay 53 = .ok (.if_icmp .ge 61, 3) := by decide +kernel
theorem dX7_findMay_56 : decode cX7_findMay 56 = .ok (.iload 5, 2) := by decide +kernel
theorem dX7_findMay_58 : decode cX7_findMay 58 = .ok (.ifCond .eq 47, 3) := by decide +kernel
theorem dX7_findMay_61 : decode cX7_findMay 61 = .ok (.iload_n 2, 1) := by decide +kernel
theorem dX7_findMay_62 : decode cX7_findMay 62 = .ok (.iload_n 3, 1) := by decide +kernel
theorem dX7_findMay_63 : decode cX7_findMay 63 = .ok (.iload 4, 2) := by decide +kernel
theorem dX7_findMay_65 : decode cX7_findMay 65 = .ok (.aload_n 0, 1) := by decide +kernel
theorem dX7_findMay_66 : decode cX7_findMay 66 = .ok (.getfield 41, 3) := by decide +kernel
theorem dX7_findMay_69 : decode cX7_findMay 69 = .ok (.iload 6, 2) := by decide +kernel
theorem dX7_findMay_71 : decode cX7_findMay 71 = .ok (.iaload, 1) := by decide +kernel
theorem dX7_findMay_72 : decode cX7_findMay 72 = .ok (.aload_n 0, 1) := by decide +kernel
theorem dX7_findMay_73 : decode cX7_findMay 73 = .ok (.getfield 44, 3) := by decide +kernel
theorem dX7_findMay_76 : decode cX7_findMay 76 = .ok (.iload 6, 2) := by decide +kernel
theorem dX7_findMay_78 : decode cX7_findMay 78 = .ok (.iaload, 1) := by decide +kernel
theorem dX7_findMay_79 : decode cX7_findMay 79 = .ok (.invokestatic 217, 3) := by decide +kernel
theorem dX7_findMay_82 : decode cX7_findMay 82 = .ok (.aload_n 0, 1) := by decide +kernel
theorem dX7_findMay_83 : decode cX7_findMay 83 = .ok (.getfield 47, 3) := by decide +kernel
theorem dX7_findMay_86 : decode cX7_findMay 86 = .ok (.iload 6, 2) := by decide +kernel
theorem dX7_findMay_88 : decode cX7_findMay 88 = .ok (.iaload, 1) := by decide +kernel
theorem dX7_findMay_89 : decode cX7_findMay 89 = .ok (.iconst 1, 1) := by decide +kernel
theorem dX7_findMay_90 : decode cX7_findMay 90 = .ok (.if_icmp .ne 7, 3) := by decide +kernel
theorem dX7_findMay_93 : decode cX7_findMay 93 = .ok (.iconst 1, 1) := by decide +kernel
theorem dX7_findMay_94 : decode cX7_findMay 94 = .ok (.goto 4, 3) := by decide +kernel
theorem dX7_findMay_97 : decode cX7_findMay 97 = .ok (.iconst 0, 1) := by decide +kernel
theorem dX7_findMay_98 : decode cX7_findMay 98 = .ok (.if_icmp .ne 7, 3) := by decide +kernel
theorem dX7_findMay_101 : decode cX7_findMay 101 = .ok (.iconst 1, 1) := by decide +kernel
theorem dX7_findMay_102 : decode cX7_findMay 102 = .ok (.goto 4, 3) := by decide +kernel
theorem dX7_findMay_105 : decode cX7_findMay 105 = .ok (.iconst 0, 1) := by decide +kernel
theorem dX7_findMay_106 : decode cX7_findMay 106 = .ok (.istore 5, 2) := by decide +kernel
theorem dX7_findMay_108 : decode cX7_findMay 108 = .ok (.iinc 6 1, 3) := by decide +kernel
theorem dX7_findMay_111 : decode cX7_findMay 111 = .ok (.goto (-64), 3) := by decide +kernel
theorem dX7_findMay_114 : decode cX7_findMay 114 = .ok (.aload_n 0, 1) := by decide +kernel
theorem dX7_findMay_115 : decode cX7_findMay 115 = .ok (.iload 5, 2) := by decide +kernel
theorem dX7_findMay_117 : decode cX7_findMay 117 = .ok (.ifCond .eq 25, 3) := by decide +kernel
theorem dX7_findMay_120 : decode cX7_findMay 120 = .ok (.aload_n 0, 1) := by decide +kernel
theorem dX7_findMay_121 : decode cX7_findMay 121 = .ok (.getfield 211, 3) := by decide +kernel
theorem dX7_findMay_124 : decode cX7_findMay 124 = .ok (.ifCond .ne 18, 3) := by decide +kernel
theorem dX7_findMay_127 : decode cX7_findMay 127 = .ok (.bipush 100, 2) := by decide +kernel
theorem dX7_findMay_129 : decode cX7_findMay 129 = .ok (.iload_n 2, 1) := by decide +kernel
theorem dX7_findMay_130 : decode cX7_findMay 130 = .ok (.imul, 1) := by decide +kernel
theorem dX7_findMay_131 : decode cX7_findMay 131 = .ok (.bipush 10, 2) := by decide +kernel
theorem dX7_findMay_133 : decode cX7_findMay 133 = .ok (.iload_n 3, 1) := by decide +kernel
theorem dX7_findMay_134 : decode cX7_findMay 134 = .ok (.imul, 1) := by decide +kernel
theorem dX7_findMay_135 : decode cX7_findMay 135 = .ok (.iadd, 1) := by decide +kernel
theorem dX7_findMay_136 : decode cX7_findMay 136 = .ok (.iload 4, 2) := by decide +kernel
theorem dX7_findMay_138 : decode cX7_findMay 138 = .ok (.iadd, 1) := by decide +kernel
theorem dX7_findMay_139 : decode cX7_findMay 139 = .ok (.goto 7, 3) := by decide +kernel
theorem dX7_findMay_142 : decode cX7_findMay 142 = .ok (.aload_n 0, 1) := by decide +kernel
theorem dX7_findMay_143 : decode cX7_findMay 143 = .ok (.getfield 214, 3) := by decide +kernel
theorem dX7_findMay_146 : decode cX7_findMay 146 = .ok (.putfield 214, 3) := by decide +kernel
theorem dX7_findMay_149 : decode cX7_findMay 149 = .ok (.aload_n 0, 1) := by decide +kernel
theorem dX7_findMay_150 : decode cX7_findMay 150 = .ok (.dup, 1) := by decide +kernel
theorem dX7_findMay_151 : decode cX7_findMay 151 = .ok (.getfield 211, 3) := by decide +kernel
theorem dX7_findMay_154 : decode cX7_findMay 154 = .ok (.iload 5, 2) := by decide +kernel
theorem dX7_findMay_156 : decode cX7_findMay 156 = .ok (.ifCond .eq 7, 3) := by decide +kernel
theorem dX7_findMay_159 : decode cX7_findMay 159 = .ok (.iconst 1, 1) := by decide +kernel
theorem dX7_findMay_160 : decode cX7_findMay 160 = .ok (.goto 4, 3) := by decide +kernel
theorem dX7_findMay_163 : decode cX7_findMay 163 = .ok (.iconst 0, 1) := by decide +kernel
theorem dX7_findMay_164 : decode cX7_findMay 164 = .ok (.iadd, 1) := by decide +kernel
theorem dX7_findMay_165 : decode cX7_findMay 165 = .ok (.putfield 211, 3) := by decide +kernel
theorem dX7_findMay_168 : decode cX7_findMay 168 = .ok (.iinc 1 1, 3) := by decide +kernel
theorem dX7_findMay_171 : decode cX7_findMay 171 = .ok (.goto (-158), 3) := by decide +kernel
theorem dX7_findMay_174 : decode cX7_findMay 174 = .ok (.return_, 1) := by decide +kernel
theorem dX7_may_0 : decode cX7_may 0 = .ok (.aload_n 0, 1) := by decide +kernel
theorem dX7_may_1 : decode cX7_may 1 = .ok (.iconst 0, 1) := by decide +kernel
theorem dX7_may_2 : decode cX7_may 2 = .ok (.putfield 56, 3) := by decide +kernel
theorem dX7_may_5 : decode cX7_may 5 = .ok (.iload_n 1, 1) := by decide +kernel
theorem dX7_may_6 : decode cX7_may 6 = .ok (.i2l, 1) := by decide +kernel
theorem dX7_may_7 : decode cX7_may 7 = .ok (.lconst 0, 1) := by decide +kernel
theorem dX7_may_8 : decode cX7_may 8 = .ok (.lconst 1, 1) := by decide +kernel
theorem dX7_may_9 : decode cX7_may 9 = .ok (.invokestatic 63, 3) := by decide +kernel
theorem dX7_may_12 : decode cX7_may 12 = .ok (.ifCond .ne 6, 3) := by decide +kernel
theorem dX7_may_15 : decode cX7_may 15 = .ok (.bipush (-2), 2) := by decide +kernel
theorem dX7_may_17 : decode cX7_may 17 = .ok (.ireturn, 1) := by decide +kernel
theorem dX7_may_18 : decode cX7_may 18 = .ok (.aload_n 0, 1) := by decide +kernel
theorem dX7_may_19 : decode cX7_may 19 = .ok (.invokevirtual 221, 3) := by decide +kernel
theorem dX7_may_22 : decode cX7_may 22 = .ok (.iload_n 1, 1) := by decide +kernel
theorem dX7_may_23 : decode cX7_may 23 = .ok (.ifCond .ne 10, 3) := by decide +kernel
theorem dX7_may_26 : decode cX7_may 26 = .ok (.aload_n 0, 1) := by decide +kernel
theorem dX7_may_27 : decode cX7_may 27 = .ok (.getfield 211, 3) := by decide +kernel
theorem dX7_may_30 : decode cX7_may 30 = .ok (.goto 7, 3) := by decide +kernel
theorem dX7_may_33 : decode cX7_may 33 = .ok (.aload_n 0, 1) := by decide +kernel
theorem dX7_may_34 : decode cX7_may 34 = .ok (.getfield 214, 3) := by decide +kernel
theorem dX7_may_37 : decode cX7_may 37 = .ok (.ireturn, 1) := by decide +kernel
theorem dX7_gainOf_0 : decode cX7_gainOf 0 = .ok (.aload_n 0, 1) := by decide +kernel
theorem dX7_gainOf_1 : decode cX7_gainOf 1 = .ok (.aload_n 0, 1) := by decide +kernel
theorem dX7_gainOf_2 : decode cX7_gainOf 2 = .ok (.getfield 28, 3) := by decide +kernel
theorem dX7_gainOf_5 : decode cX7_gainOf 5 = .ok (.invokevirtual 122, 3) := by decide +kernel
theorem dX7_gainOf_8 : decode cX7_gainOf 8 = .ok (.aload_n 0, 1) := by decide +kernel
theorem dX7_gainOf_9 : decode cX7_gainOf 9 = .ok (.getfield 28, 3) := by decide +kernel
theorem dX7_gainOf_12 : decode cX7_gainOf 12 = .ok (.iload_n 1, 1) := by decide +kernel
theorem dX7_gainOf_13 : decode cX7_gainOf 13 = .ok (.iaload, 1) := by decide +kernel
theorem dX7_gainOf_14 : decode cX7_gainOf 14 = .ok (.invokestatic 107, 3) := by decide +kernel
theorem dX7_gainOf_17 : decode cX7_gainOf 17 = .ok (.ifCond .eq 8, 3) := by decide +kernel
theorem dX7_gainOf_20 : decode cX7_gainOf 20 = .ok (.bipush (-3), 2) := by decide +kernel
theorem dX7_gainOf_22 : decode cX7_gainOf 22 = .ok (.goto 28, 3) := by decide +kernel
theorem dX7_gainOf_25 : decode cX7_gainOf 25 = .ok (.aload_n 0, 1) := by decide +kernel
theorem dX7_gainOf_26 : decode cX7_gainOf 26 = .ok (.aload_n 0, 1) := by decide +kernel
theorem dX7_gainOf_27 : decode cX7_gainOf 27 = .ok (.getfield 28, 3) := by decide +kernel
theorem dX7_gainOf_30 : decode cX7_gainOf 30 = .ok (.invokevirtual 118, 3) := by decide +kernel
theorem dX7_gainOf_33 : decode cX7_gainOf 33 = .ok (.aload_n 0, 1) := by decide +kernel
theorem dX7_gainOf_34 : decode cX7_gainOf 34 = .ok (.getfield 28, 3) := by decide +kernel
theorem dX7_gainOf_37 : decode cX7_gainOf 37 = .ok (.iload_n 1, 1) := by decide +kernel
theorem dX7_gainOf_38 : decode cX7_gainOf 38 = .ok (.iaload, 1) := by decide +kernel
theorem dX7_gainOf_39 : decode cX7_gainOf 39 = .ok (.invokestatic 107, 3) := by decide +kernel
theorem dX7_gainOf_42 : decode cX7_gainOf 42 = .ok (.ifCond .eq 7, 3) := by decide +kernel
theorem dX7_gainOf_45 : decode cX7_gainOf 45 = .ok (.iconst 2, 1) := by decide +kernel
theorem dX7_gainOf_46 : decode cX7_gainOf 46 = .ok (.goto 4, 3) := by decide +kernel
theorem dX7_gainOf_49 : decode cX7_gainOf 49 = .ok (.iconst 0, 1) := by decide +kernel
theorem dX7_gainOf_50 : decode cX7_gainOf 50 = .ok (.istore_n 3, 1) := by decide +kernel
theorem dX7_gainOf_51 : decode cX7_gainOf 51 = .ok (.iload_n 2, 1) := by decide +kernel
theorem dX7_gainOf_52 : decode cX7_gainOf 52 = .ok (.ifCond .eq 9, 3) := by decide +kernel
theorem dX7_gainOf_55 : decode cX7_gainOf 55 = .ok (.iload_n 3, 1) := by decide +kernel
theorem dX7_gainOf_56 : decode cX7_gainOf 56 = .ok (.iconst 1, 1) := by decide +kernel
theorem dX7_gainOf_57 : decode cX7_gainOf 57 = .ok (.isub, 1) := by decide +kernel
theorem dX7_gainOf_58 : decode cX7_gainOf 58 = .ok (.goto 4, 3) := by decide +kernel
theorem dX7_gainOf_61 : decode cX7_gainOf 61 = .ok (.iload_n 3, 1) := by decide +kernel
theorem dX7_gainOf_62 : decode cX7_gainOf 62 = .ok (.ireturn, 1) := by decide +kernel
theorem dX7_rests_0 : decode cX7_rests 0 = .ok (.aload_n 0, 1) := by decide +kernel
theorem dX7_rests_1 : decode cX7_rests 1 = .ok (.iconst 0, 1) := by decide +kernel
theorem dX7_rests_2 : decode cX7_rests 2 = .ok (.putfield 56, 3) := by decide +kernel
theorem dX7_rests_5 : decode cX7_rests 5 = .ok (.aload_n 0, 1) := by decide +kernel
theorem dX7_rests_6 : decode cX7_rests 6 = .ok (.iload_n 1, 1) := by decide +kernel
theorem dX7_rests_7 : decode cX7_rests 7 = .ok (.invokevirtual 138, 3) := by decide +kernel
theorem dX7_rests_10 : decode cX7_rests 10 = .ok (.ifCond .ne 11, 3) := by decide +kernel
theorem dX7_rests_13 : decode cX7_rests 13 = .ok (.aload_n 0, 1) := by decide +kernel
theorem dX7_rests_14 : decode cX7_rests 14 = .ok (.iload_n 2, 1) := by decide +kernel
theorem dX7_rests_15 : decode cX7_rests 15 = .ok (.invokevirtual 138, 3) := by decide +kernel
theorem dX7_rests_18 : decode cX7_rests 18 = .ok (.ifCond .eq 5, 3) := by decide +kernel
theorem dX7_rests_21 : decode cX7_rests 21 = .ok (.iconst (-1), 1) := by decide +kernel
theorem dX7_rests_22 : decode cX7_rests 22 = .ok (.ireturn, 1) := by decide +kernel
theorem dX7_rests_23 : decode cX7_rests 23 = .ok (.iload_n 1, 1) := by decide +kernel
theorem dX7_rests_24 : decode cX7_rests 24 = .ok (.iload_n 2, 1) := by decide +kernel
theorem dX7_rests_25 : decode cX7_rests 25 = .ok (.if_icmp .eq 13, 3) := by decide +kernel
theorem dX7_rests_28 : decode cX7_rests 28 = .ok (.iload_n 3, 1) := by decide +kernel
theorem dX7_rests_29 : decode cX7_rests 29 = .ok (.i2l, 1) := by decide +kernel
theorem dX7_rests_30 : decode cX7_rests 30 = .ok (.lconst 0, 1) := by decide +kernel
theorem dX7_rests_31 : decode cX7_rests 31 = .ok (.lconst 1, 1) := by decide +kernel
theorem dX7_rests_32 : decode cX7_rests 32 = .ok (.invokestatic 63, 3) := by decide +kernel
theorem dX7_rests_35 : decode cX7_rests 35 = .ok (.ifCond .ne 6, 3) := by decide +kernel
theorem dX7_rests_38 : decode cX7_rests 38 = .ok (.bipush (-2), 2) := by decide +kernel
theorem dX7_rests_40 : decode cX7_rests 40 = .ok (.ireturn, 1) := by decide +kernel
theorem dX7_rests_41 : decode cX7_rests 41 = .ok (.aload_n 0, 1) := by decide +kernel
theorem dX7_rests_42 : decode cX7_rests 42 = .ok (.getfield 25, 3) := by decide +kernel
theorem dX7_rests_45 : decode cX7_rests 45 = .ok (.iconst 5, 1) := by decide +kernel
theorem dX7_rests_46 : decode cX7_rests 46 = .ok (.iaload, 1) := by decide +kernel
theorem dX7_rests_47 : decode cX7_rests 47 = .ok (.iload_n 1, 1) := by decide +kernel
theorem dX7_rests_48 : decode cX7_rests 48 = .ok (.invokestatic 107, 3) := by decide +kernel
theorem dX7_rests_51 : decode cX7_rests 51 = .ok (.ifCond .ne 16, 3) := by decide +kernel
theorem dX7_rests_54 : decode cX7_rests 54 = .ok (.aload_n 0, 1) := by decide +kernel
theorem dX7_rests_55 : decode cX7_rests 55 = .ok (.getfield 25, 3) := by decide +kernel
theorem dX7_rests_58 : decode cX7_rests 58 = .ok (.iconst 5, 1) := by decide +kernel
theorem dX7_rests_59 : decode cX7_rests 59 = .ok (.iaload, 1) := by decide +kernel
theorem dX7_rests_60 : decode cX7_rests 60 = .ok (.iload_n 2, 1) := by decide +kernel
theorem dX7_rests_61 : decode cX7_rests 61 = .ok (.invokestatic 107, 3) := by decide +kernel
theorem dX7_rests_64 : decode cX7_rests 64 = .ok (.ifCond .eq 6, 3) := by decide +kernel
theorem dX7_rests_67 : decode cX7_rests 67 = .ok (.bipush (-3), 2) := by decide +kernel
theorem dX7_rests_69 : decode cX7_rests 69 = .ok (.ireturn, 1) := by decide +kernel
theorem dX7_rests_70 : decode cX7_rests 70 = .ok (.iconst 0, 1) := by decide +kernel
theorem dX7_rests_71 : decode cX7_rests 71 = .ok (.istore 4, 2) := by decide +kernel
theorem dX7_rests_73 : decode cX7_rests 73 = .ok (.iload 4, 2) := by decide +kernel
theorem dX7_rests_75 : decode cX7_rests 75 = .ok (.iconst 4, 1) := by decide +kernel
theorem dX7_rests_76 : decode cX7_rests 76 = .ok (.if_icmp .ge 100, 3) := by decide +kernel
theorem dX7_rests_79 : decode cX7_rests 79 = .ok (.aload_n 0, 1) := by decide +kernel
theorem dX7_rests_80 : decode cX7_rests 80 = .ok (.invokevirtual 163, 3) := by decide +kernel
theorem dX7_rests_83 : decode cX7_rests 83 = .ok (.aload_n 0, 1) := by decide +kernel
theorem dX7_rests_84 : decode cX7_rests 84 = .ok (.iload 4, 2) := by decide +kernel
theorem dX7_rests_86 : decode cX7_rests 86 = .ok (.iconst 1, 1) := by decide +kernel
theorem dX7_rests_87 : decode cX7_rests 87 = .ok (.if_icmp .le 9, 3) := by decide +kernel
theorem dX7_rests_90 : decode cX7_rests 90 = .ok (.iconst 1, 1) := by decide +kernel
theorem dX7_rests_91 : decode cX7_rests 91 = .ok (.iload_n 1, 1) := by decide +kernel
theorem dX7_rests_92 : decode cX7_rests 92 = .ok (.ishl, 1) := by decide +kernel
theorem dX7_rests_93 : decode cX7_rests 93 = .ok (.goto 4, 3) := by decide +kernel
theorem dX7_rests_96 : decode cX7_rests 96 = .ok (.iconst 0, 1) := by decide +kernel
theorem dX7_rests_97 : decode cX7_rests 97 = .ok (.iload 4, 2) := by decide +kernel
theorem dX7_rests_99 : decode cX7_rests 99 = .ok (.iconst 2, 1) := by decide +kernel
theorem dX7_rests_100 : decode cX7_rests 100 = .ok (.irem, 1) := by decide +kernel
theorem dX7_rests_101 : decode cX7_rests 101 = .ok (.iconst 1, 1) := by decide +kernel
theorem dX7_rests_102 : decode cX7_rests 102 = .ok (.if_icmp .ne 9, 3) := by decide +kernel
theorem dX7_rests_105 : decode cX7_rests 105 = .ok (.iconst 1, 1) := by decide +kernel
theorem dX7_rests_106 : decode cX7_rests 106 = .ok (.iload_n 2, 1) := by decide +kernel
theorem dX7_rests_107 : decode cX7_rests 107 = .ok (.ishl, 1) := by decide +kernel
theorem dX7_rests_108 : decode cX7_rests 108 = .ok (.goto 4, 3) := by decide +kernel
theorem dX7_rests_111 : decode cX7_rests 111 = .ok (.iconst 0, 1) := by decide +kernel
theorem dX7_rests_112 : decode cX7_rests 112 = .ok (.ior, 1) := by decide +kernel
theorem dX7_rests_113 : decode cX7_rests 113 = .ok (.invokevirtual 180, 3) := by decide +kernel
theorem dX7_rests_116 : decode cX7_rests 116 = .ok (.aload_n 0, 1) := by decide +kernel
theorem dX7_rests_117 : decode cX7_rests 117 = .ok (.getfield 50, 3) := by decide +kernel
theorem dX7_rests_120 : decode cX7_rests 120 = .ok (.iconst 2, 1) := by decide +kernel
theorem dX7_rests_121 : decode cX7_rests 121 = .ok (.iload 4, 2) := by decide +kernel
theorem dX7_rests_123 : decode cX7_rests 123 = .ok (.imul, 1) := by decide +kernel
theorem dX7_rests_124 : decode cX7_rests 124 = .ok (.aload_n 0, 1) := by decide +kernel
theorem dX7_rests_125 : decode cX7_rests 125 = .ok (.iload_n 1, 1) := by decide +kernel
theorem dX7_rests_126 : decode cX7_rests 126 = .ok (.iload 4, 2) := by decide +kernel
theorem dX7_rests_128 : decode cX7_rests 128 = .ok (.iconst 1, 1) := by decide +kernel
theorem dX7_rests_129 : decode cX7_rests 129 = .ok (.if_icmp .le 7, 3) := by decide +kernel
theorem dX7_rests_132 : decode cX7_rests 132 = .ok (.iconst 1, 1) := by decide +kernel
theorem dX7_rests_133 : decode cX7_rests 133 = .ok (.goto 4, 3) := by decide +kernel
theorem dX7_rests_136 : decode cX7_rests 136 = .ok (.iconst 0, 1) := by decide +kernel
theorem dX7_rests_137 : decode cX7_rests 137 = .ok (.invokevirtual 224, 3) := by decide +kernel
theorem dX7_rests_140 : decode cX7_rests 140 = .ok (.iastore, 1) := by decide +kernel
theorem dX7_rests_141 : decode cX7_rests 141 = .ok (.aload_n 0, 1) := by decide +kernel
theorem dX7_rests_142 : decode cX7_rests 142 = .ok (.getfield 50, 3) := by decide +kernel
theorem dX7_rests_145 : decode cX7_rests 145 = .ok (.iconst 2, 1) := by decide +kernel
theorem dX7_rests_146 : decode cX7_rests 146 = .ok (.iload 4, 2) := by decide +kernel
theorem dX7_rests_148 : decode cX7_rests 148 = .ok (.imul, 1) := by decide +kernel
theorem dX7_rests_149 : decode cX7_rests 149 = .ok (.iconst 1, 1) := by decide +kernel
theorem dX7_rests_150 : decode cX7_rests 150 = .ok (.iadd, 1) := by decide +kernel
theorem dX7_rests_151 : decode cX7_rests 151 = .ok (.aload_n 0, 1) := by decide +kernel
theorem dX7_rests_152 : decode cX7_rests 152 = .ok (.iload_n 2, 1) := by decide +kernel
theorem dX7_rests_153 : decode cX7_rests 153 = .ok (.iload 4, 2) := by decide +kernel
theorem dX7_rests_155 : decode cX7_rests 155 = .ok (.iconst 2, 1) := by decide +kernel
theorem dX7_rests_156 : decode cX7_rests 156 = .ok (.irem, 1) := by decide +kernel
theorem dX7_rests_157 : decode cX7_rests 157 = .ok (.iconst 1, 1) := by decide +kernel
theorem dX7_rests_158 : decode cX7_rests 158 = .ok (.if_icmp .ne 7, 3) := by decide +kernel
theorem dX7_rests_161 : decode cX7_rests 161 = .ok (.iconst 1, 1) := by decide +kernel
theorem dX7_rests_162 : decode cX7_rests 162 = .ok (.goto 4, 3) := by decide +kernel
theorem dX7_rests_165 : decode cX7_rests 165 = .ok (.iconst 0, 1) := by decide +kernel
theorem dX7_rests_166 : decode cX7_rests 166 = .ok (.invokevirtual 224, 3) := by decide +kernel
theorem dX7_rests_169 : decode cX7_rests 169 = .ok (.iastore, 1) := by decide +kernel
theorem dX7_rests_170 : decode cX7_rests 170 = .ok (.iinc 4 1, 3) := by decide +kernel
theorem dX7_rests_173 : decode cX7_rests 173 = .ok (.goto (-100), 3) := by decide +kernel
theorem dX7_rests_176 : decode cX7_rests 176 = .ok (.aload_n 0, 1) := by decide +kernel
theorem dX7_rests_177 : decode cX7_rests 177 = .ok (.iconst 0, 1) := by decide +kernel
theorem dX7_rests_178 : decode cX7_rests 178 = .ok (.putfield 228, 3) := by decide +kernel
theorem dX7_rests_181 : decode cX7_rests 181 = .ok (.aload_n 0, 1) := by decide +kernel
theorem dX7_rests_182 : decode cX7_rests 182 = .ok (.bipush (-9), 2) := by decide +kernel
theorem dX7_rests_184 : decode cX7_rests 184 = .ok (.putfield 231, 3) := by decide +kernel
theorem dX7_rests_187 : decode cX7_rests 187 = .ok (.iconst 0, 1) := by decide +kernel
theorem dX7_rests_188 : decode cX7_rests 188 = .ok (.istore 4, 2) := by decide +kernel
theorem dX7_rests_190 : decode cX7_rests 190 = .ok (.iload 4, 2) := by decide +kernel
theorem dX7_rests_192 : decode cX7_rests 192 = .ok (.iconst 4, 1) := by decide +kernel
theorem dX7_rests_193 : decode cX7_rests 193 = .ok (.if_icmp .ge 120, 3) := by decide +kernel
theorem dX7_rests_196 : decode cX7_rests 196 = .ok (.aload_n 0, 1) := by decide +kernel
theorem dX7_rests_197 : decode cX7_rests 197 = .ok (.getfield 50, 3) := by decide +kernel
theorem dX7_rests_200 : decode cX7_rests 200 = .ok (.iconst 2, 1) := by decide +kernel
theorem dX7_rests_201 : decode cX7_rests 201 = .ok (.iload 4, 2) := by decide +kernel
theorem dX7_rests_203 : decode cX7_rests 203 = .ok (.iconst 2, 1) := by decide +kernel
theorem dX7_rests_204 : decode cX7_rests 204 = .ok (.ixor, 1) := by decide +kernel
theorem dX7_rests_205 : decode cX7_rests 205 = .ok (.imul, 1) := by decide +kernel
theorem dX7_rests_206 : decode cX7_rests 206 = .ok (.iaload, 1) := by decide +kernel
theorem dX7_rests_207 : decode cX7_rests 207 = .ok (.aload_n 0, 1) := by decide +kernel
theorem dX7_rests_208 : decode cX7_rests 208 = .ok (.getfield 50, 3) := by decide +kernel
theorem dX7_rests_211 : decode cX7_rests 211 = .ok (.iconst 2, 1) := by decide +kernel
theorem dX7_rests_212 : decode cX7_rests 212 = .ok (.iload 4, 2) := by decide +kernel
theorem dX7_rests_214 : decode cX7_rests 214 = .ok (.imul, 1) := by decide +kernel
theorem dX7_rests_215 : decode cX7_rests 215 = .ok (.iaload, 1) := by decide +kernel
theorem dX7_rests_216 : decode cX7_rests 216 = .ok (.if_icmp .gt 34, 3) := by decide +kernel
theorem dX7_rests_219 : decode cX7_rests 219 = .ok (.aload_n 0, 1) := by decide +kernel
theorem dX7_rests_220 : decode cX7_rests 220 = .ok (.getfield 50, 3) := by decide +kernel
theorem dX7_rests_223 : decode cX7_rests 223 = .ok (.iconst 2, 1) := by decide +kernel
theorem dX7_rests_224 : decode cX7_rests 224 = .ok (.iload 4, 2) := by decide +kernel
theorem dX7_rests_226 : decode cX7_rests 226 = .ok (.iconst 1, 1) := by decide +kernel
theorem dX7_rests_227 : decode cX7_rests 227 = .ok (.ixor, 1) := by decide +kernel
theorem dX7_rests_228 : decode cX7_rests 228 = .ok (.imul, 1) := by decide +kernel
theorem dX7_rests_229 : decode cX7_rests 229 = .ok (.iconst 1, 1) := by decide +kernel
theorem dX7_rests_230 : decode cX7_rests 230 = .ok (.iadd, 1) := by decide +kernel
theorem dX7_rests_231 : decode cX7_rests 231 = .ok (.iaload, 1) := by decide +kernel
theorem dX7_rests_232 : decode cX7_rests 232 = .ok (.aload_n 0, 1) := by decide +kernel
theorem dX7_rests_233 : decode cX7_rests 233 = .ok (.getfield 50, 3) := by decide +kernel
theorem dX7_rests_236 : decode cX7_rests 236 = .ok (.iconst 2, 1) := by decide +kernel
theorem dX7_rests_237 : decode cX7_rests 237 = .ok (.iload 4, 2) := by decide +kernel
theorem dX7_rests_239 : decode cX7_rests 239 = .ok (.imul, 1) := by decide +kernel
theorem dX7_rests_240 : decode cX7_rests 240 = .ok (.iconst 1, 1) := by decide +kernel
theorem dX7_rests_241 : decode cX7_rests 241 = .ok (.iadd, 1) := by decide +kernel
theorem dX7_rests_242 : decode cX7_rests 242 = .ok (.iaload, 1) := by decide +kernel
theorem dX7_rests_243 : decode cX7_rests 243 = .ok (.if_icmp .gt 7, 3) := by decide +kernel
theorem dX7_rests_246 : decode cX7_rests 246 = .ok (.iconst 1, 1) := by decide +kernel
theorem dX7_rests_247 : decode cX7_rests 247 = .ok (.goto 4, 3) := by decide +kernel
theorem dX7_rests_250 : decode cX7_rests 250 = .ok (.iconst 0, 1) := by decide +kernel
theorem dX7_rests_251 : decode cX7_rests 251 = .ok (.istore 5, 2) := by decide +kernel
theorem dX7_rests_253 : decode cX7_rests 253 = .ok (.aload_n 0, 1) := by decide +kernel
theorem dX7_rests_254 : decode cX7_rests 254 = .ok (.iload 5, 2) := by decide +kernel
theorem dX7_rests_256 : decode cX7_rests 256 = .ok (.ifCond .eq 25, 3) := by decide +kernel
theorem dX7_rests_259 : decode cX7_rests 259 = .ok (.aload_n 0, 1) := by decide +kernel
theorem dX7_rests_260 : decode cX7_rests 260 = .ok (.getfield 228, 3) := by decide +kernel
theorem dX7_rests_263 : decode cX7_rests 263 = .ok (.ifCond .ne 18, 3) := by decide +kernel
theorem dX7_rests_266 : decode cX7_rests 266 = .ok (.bipush 10, 2) := by decide +kernel
theorem dX7_rests_268 : decode cX7_rests 268 = .ok (.iload 4, 2) := by decide +kernel
theorem dX7_rests_270 : decode cX7_rests 270 = .ok (.iconst 2, 1) := by decide +kernel
theorem dX7_rests_271 : decode cX7_rests 271 = .ok (.idiv, 1) := by decide +kernel
theorem dX7_rests_272 : decode cX7_rests 272 = .ok (.imul, 1) := by decide +kernel
theorem dX7_rests_273 : decode cX7_rests 273 = .ok (.iload 4, 2) := by decide +kernel
theorem dX7_rests_275 : decode cX7_rests 275 = .ok (.iconst 2, 1) := by decide +kernel
theorem dX7_rests_276 : decode cX7_rests 276 = .ok (.irem, 1) := by decide +kernel
theorem dX7_rests_277 : decode cX7_rests 277 = .ok (.iadd, 1) := by decide +kernel
theorem dX7_rests_278 : decode cX7_rests 278 = .ok (.goto 7, 3) := by decide +kernel
theorem dX7_rests_281 : decode cX7_rests 281 = .ok (.aload_n 0, 1) := by decide +kernel
theorem dX7_rests_282 : decode cX7_rests 282 = .ok (.getfield 231, 3) := by decide +kernel
theorem dX7_rests_285 : decode cX7_rests 285 = .ok (.putfield 231, 3) := by decide +kernel
theorem dX7_rests_288 : decode cX7_rests 288 = .ok (.aload_n 0, 1) := by decide +kernel
theorem dX7_rests_289 : decode cX7_rests 289 = .ok (.dup, 1) := by decide +kernel
theorem dX7_rests_290 : decode cX7_rests 290 = .ok (.getfield 228, 3) := by decide +kernel
theorem dX7_rests_293 : decode cX7_rests 293 = .ok (.iload 5, 2) := by decide +kernel
theorem dX7_rests_295 : decode cX7_rests 295 = .ok (.ifCond .eq 7, 3) := by decide +kernel
theorem dX7_rests_298 : decode cX7_rests 298 = .ok (.iconst 1, 1) := by decide +kernel
theorem dX7_rests_299 : decode cX7_rests 299 = .ok (.goto 4, 3) := by decide +kernel
theorem dX7_rests_302 : decode cX7_rests 302 = .ok (.iconst 0, 1) := by decide +kernel
theorem dX7_rests_303 : decode cX7_rests 303 = .ok (.iadd, 1) := by decide +kernel
theorem dX7_rests_304 : decode cX7_rests 304 = .ok (.putfield 228, 3) := by decide +kernel
theorem dX7_rests_307 : decode cX7_rests 307 = .ok (.iinc 4 1, 3) := by decide +kernel
theorem dX7_rests_310 : decode cX7_rests 310 = .ok (.goto (-120), 3) := by decide +kernel
theorem dX7_rests_313 : decode cX7_rests 313 = .ok (.iload_n 3, 1) := by decide +kernel
theorem dX7_rests_314 : decode cX7_rests 314 = .ok (.ifCond .ne 10, 3) := by decide +kernel
theorem dX7_rests_317 : decode cX7_rests 317 = .ok (.aload_n 0, 1) := by decide +kernel
theorem dX7_rests_318 : decode cX7_rests 318 = .ok (.getfield 228, 3) := by decide +kernel
theorem dX7_rests_321 : decode cX7_rests 321 = .ok (.goto 7, 3) := by decide +kernel
theorem dX7_rests_324 : decode cX7_rests 324 = .ok (.aload_n 0, 1) := by decide +kernel
theorem dX7_rests_325 : decode cX7_rests 325 = .ok (.getfield 231, 3) := by decide +kernel
theorem dX7_rests_328 : decode cX7_rests 328 = .ok (.ireturn, 1) := by decide +kernel
theorem dX7_sudden_0 : decode cX7_sudden 0 = .ok (.aload_n 0, 1) := by decide +kernel
theorem dX7_sudden_1 : decode cX7_sudden 1 = .ok (.iconst 0, 1) := by decide +kernel
theorem dX7_sudden_2 : decode cX7_sudden 2 = .ok (.putfield 56, 3) := by decide +kernel
theorem dX7_sudden_5 : decode cX7_sudden 5 = .ok (.iload_n 1, 1) := by decide +kernel
theorem dX7_sudden_6 : decode cX7_sudden 6 = .ok (.invokestatic 144, 3) := by decide +kernel
theorem dX7_sudden_9 : decode cX7_sudden 9 = .ok (.ifCond .eq 5, 3) := by decide +kernel
theorem dX7_sudden_12 : decode cX7_sudden 12 = .ok (.iconst (-1), 1) := by decide +kernel
theorem dX7_sudden_13 : decode cX7_sudden 13 = .ok (.ireturn, 1) := by decide +kernel
theorem dX7_sudden_14 : decode cX7_sudden 14 = .ok (.iload_n 2, 1) := by decide +kernel
theorem dX7_sudden_15 : decode cX7_sudden 15 = .ok (.i2l, 1) := by decide +kernel
theorem dX7_sudden_16 : decode cX7_sudden 16 = .ok (.lconst 0, 1) := by decide +kernel
theorem dX7_sudden_17 : decode cX7_sudden 17 = .ok (.lconst 1, 1) := by decide +kernel
theorem dX7_sudden_18 : decode cX7_sudden 18 = .ok (.invokestatic 63, 3) := by decide +kernel
theorem dX7_sudden_21 : decode cX7_sudden 21 = .ok (.ifCond .eq 15, 3) := by decide +kernel
theorem dX7_sudden_24 : decode cX7_sudden 24 = .ok (.iload_n 3, 1) := by decide +kernel
theorem dX7_sudden_25 : decode cX7_sudden 25 = .ok (.i2l, 1) := by decide +kernel
theorem dX7_sudden_26 : decode cX7_sudden 26 = .ok (.lconst 0, 1) := by decide +kernel
theorem dX7_sudden_27 : decode cX7_sudden 27 = .ok (.ldc2_w 234, 3) := by decide +kernel
theorem dX7_sudden_30 : decode cX7_sudden 30 = .ok (.invokestatic 63, 3) := by decide +kernel
theorem dX7_sudden_33 : decode cX7_sudden 33 = .ok (.ifCond .ne 6, 3) := by decide +kernel
theorem dX7_sudden_36 : decode cX7_sudden 36 = .ok (.bipush (-2), 2) := by decide +kernel
theorem dX7_sudden_38 : decode cX7_sudden 38 = .ok (.ireturn, 1) := by decide +kernel
theorem dX7_sudden_39 : decode cX7_sudden 39 = .ok (.iconst 0, 1) := by decide +kernel
theorem dX7_sudden_40 : decode cX7_sudden 40 = .ok (.istore 5, 2) := by decide +kernel
theorem dX7_sudden_42 : decode cX7_sudden 42 = .ok (.iconst 0, 1) := by decide +kernel
theorem dX7_sudden_43 : decode cX7_sudden 43 = .ok (.istore 6, 2) := by decide +kernel
theorem dX7_sudden_45 : decode cX7_sudden 45 = .ok (.iload 6, 2) := by decide +kernel
theorem dX7_sudden_47 : decode cX7_sudden 47 = .ok (.iconst 1, 1) := by decide +kernel
theorem dX7_sudden_48 : decode cX7_sudden 48 = .ok (.aload_n 0, 1) := by decide +kernel
theorem dX7_sudden_49 : decode cX7_sudden 49 = .ok (.getfield 60, 3) := by decide +kernel
theorem dX7_sudden_52 : decode cX7_sudden 52 = .ok (.ishl, 1) := by decide +kernel
theorem dX7_sudden_53 : decode cX7_sudden 53 = .ok (.if_icmp .ge 99, 3) := by decide +kernel
theorem dX7_sudden_56 : decode cX7_sudden 56 = .ok (.aload_n 0, 1) := by decide +kernel
theorem dX7_sudden_57 : decode cX7_sudden 57 = .ok (.invokevirtual 163, 3) := by decide +kernel
theorem dX7_sudden_60 : decode cX7_sudden 60 = .ok (.aload_n 0, 1) := by decide +kernel
theorem dX7_sudden_61 : decode cX7_sudden 61 = .ok (.iload 6, 2) := by decide +kernel
theorem dX7_sudden_63 : decode cX7_sudden 63 = .ok (.aload_n 0, 1) := by decide +kernel
theorem dX7_sudden_64 : decode cX7_sudden 64 = .ok (.getfield 25, 3) := by decide +kernel
theorem dX7_sudden_67 : decode cX7_sudden 67 = .ok (.iconst 5, 1) := by decide +kernel
theorem dX7_sudden_68 : decode cX7_sudden 68 = .ok (.iaload, 1) := by decide +kernel
theorem dX7_sudden_69 : decode cX7_sudden 69 = .ok (.iconst (-1), 1) := by decide +kernel
theorem dX7_sudden_70 : decode cX7_sudden 70 = .ok (.ixor, 1) := by decide +kernel
theorem dX7_sudden_71 : decode cX7_sudden 71 = .ok (.iand, 1) := by decide +kernel
theorem dX7_sudden_72 : decode cX7_sudden 72 = .ok (.invokevirtual 180, 3) := by decide +kernel
theorem dX7_sudden_75 : decode cX7_sudden 75 = .ok (.iload 6, 2) := by decide +kernel
theorem dX7_sudden_77 : decode cX7_sudden 77 = .ok (.invokestatic 170, 3) := by decide +kernel
theorem dX7_sudden_80 : decode cX7_sudden 80 = .ok (.istore 7, 2) := by decide +kernel
theorem dX7_sudden_82 : decode cX7_sudden 82 = .ok (.iload_n 2, 1) := by decide +kernel
theorem dX7_sudden_83 : decode cX7_sudden 83 = .ok (.ifCond .ne 14, 3) := by decide +kernel
theorem dX7_sudden_86 : decode cX7_sudden 86 = .ok (.aload_n 0, 1) := by decide +kernel
theorem dX7_sudden_87 : decode cX7_sudden 87 = .ok (.aload_n 0, 1) := by decide +kernel
theorem dX7_sudden_88 : decode cX7_sudden 88 = .ok (.getfield 28, 3) := by decide +kernel
theorem dX7_sudden_91 : decode cX7_sudden 91 = .ok (.invokevirtual 118, 3) := by decide +kernel
theorem dX7_sudden_94 : decode cX7_sudden 94 = .ok (.goto 11, 3) := by decide +kernel
theorem dX7_sudden_97 : decode cX7_sudden 97 = .ok (.aload_n 0, 1) := by decide +kernel
theorem dX7_sudden_98 : decode cX7_sudden 98 = .ok (.aload_n 0, 1) := by decide +kernel
theorem dX7_sudden_99 : decode cX7_sudden 99 = .ok (.getfield 28, 3) := by decide +kernel
theorem dX7_sudden_102 : decode cX7_sudden 102 = .ok (.invokevirtual 122, 3) := by decide +kernel
theorem dX7_sudden_105 : decode cX7_sudden 105 = .ok (.istore 8, 2) := by decide +kernel
theorem dX7_sudden_107 : decode cX7_sudden 107 = .ok (.iload 5, 2) := by decide +kernel
theorem dX7_sudden_109 : decode cX7_sudden 109 = .ok (.iload 8, 2) := by decide +kernel
theorem dX7_sudden_111 : decode cX7_sudden 111 = .ok (.iload_n 1, 1) := by decide +kernel
theorem dX7_sudden_112 : decode cX7_sudden 112 = .ok (.invokestatic 107, 3) := by decide +kernel
theorem dX7_sudden_115 : decode cX7_sudden 115 = .ok (.ifCond .eq 27, 3) := by decide +kernel
theorem dX7_sudden_118 : decode cX7_sudden 118 = .ok (.iload_n 3, 1) := by decide +kernel
theorem dX7_sudden_119 : decode cX7_sudden 119 = .ok (.iload 7, 2) := by decide +kernel
theorem dX7_sudden_121 : decode cX7_sudden 121 = .ok (.invokestatic 236, 3) := by decide +kernel
theorem dX7_sudden_124 : decode cX7_sudden 124 = .ok (.bipush 10, 2) := by decide +kernel
theorem dX7_sudden_126 : decode cX7_sudden 126 = .ok (.iload_n 3, 1) := by decide +kernel
theorem dX7_sudden_127 : decode cX7_sudden 127 = .ok (.isub, 1) := by decide +kernel
theorem dX7_sudden_128 : decode cX7_sudden 128 = .ok (.aload_n 0, 1) := by decide +kernel
theorem dX7_sudden_129 : decode cX7_sudden 129 = .ok (.getfield 60, 3) := by decide +kernel
theorem dX7_sudden_132 : decode cX7_sudden 132 = .ok (.iload 7, 2) := by decide +kernel
theorem dX7_sudden_134 : decode cX7_sudden 134 = .ok (.isub, 1) := by decide +kernel
theorem dX7_sudden_135 : decode cX7_sudden 135 = .ok (.invokestatic 236, 3) := by decide +kernel
theorem dX7_sudden_138 : decode cX7_sudden 138 = .ok (.imul, 1) := by decide +kernel
theorem dX7_sudden_139 : decode cX7_sudden 139 = .ok (.goto 4, 3) := by decide +kernel
theorem dX7_sudden_142 : decode cX7_sudden 142 = .ok (.iconst 0, 1) := by decide +kernel
theorem dX7_sudden_143 : decode cX7_sudden 143 = .ok (.iadd, 1) := by decide +kernel
theorem dX7_sudden_144 : decode cX7_sudden 144 = .ok (.istore 5, 2) := by decide +kernel
theorem dX7_sudden_146 : decode cX7_sudden 146 = .ok (.iinc 6 1, 3) := by decide +kernel
theorem dX7_sudden_149 : decode cX7_sudden 149 = .ok (.goto (-104), 3) := by decide +kernel
theorem dX7_sudden_152 : decode cX7_sudden 152 = .ok (.iload 5, 2) := by decide +kernel
theorem dX7_sudden_154 : decode cX7_sudden 154 = .ok (.bipush 10, 2) := by decide +kernel
theorem dX7_sudden_156 : decode cX7_sudden 156 = .ok (.aload_n 0, 1) := by decide +kernel
theorem dX7_sudden_157 : decode cX7_sudden 157 = .ok (.getfield 60, 3) := by decide +kernel
theorem dX7_sudden_160 : decode cX7_sudden 160 = .ok (.invokestatic 236, 3) := by decide +kernel
theorem dX7_sudden_163 : decode cX7_sudden 163 = .ok (.iload 4, 2) := by decide +kernel
theorem dX7_sudden_165 : decode cX7_sudden 165 = .ok (.invokestatic 203, 3) := by decide +kernel
theorem dX7_sudden_168 : decode cX7_sudden 168 = .ok (.ireturn, 1) := by decide +kernel
theorem dX7_seed_0 : decode cX7_seed 0 = .ok (.aload_n 0, 1) := by decide +kernel
theorem dX7_seed_1 : decode cX7_seed 1 = .ok (.iconst 0, 1) := by decide +kernel
theorem dX7_seed_2 : decode cX7_seed 2 = .ok (.putfield 56, 3) := by decide +kernel
theorem dX7_seed_5 : decode cX7_seed 5 = .ok (.aload_n 0, 1) := by decide +kernel
theorem dX7_seed_6 : decode cX7_seed 6 = .ok (.getfield 239, 3) := by decide +kernel
theorem dX7_seed_9 : decode cX7_seed 9 = .ok (.lstore_n 3, 1) := by decide +kernel
theorem dX7_seed_10 : decode cX7_seed 10 = .ok (.aload_n 0, 1) := by decide +kernel
theorem dX7_seed_11 : decode cX7_seed 11 = .ok (.lload_n 1, 1) := by decide +kernel
theorem dX7_seed_12 : decode cX7_seed 12 = .ok (.putfield 239, 3) := by decide +kernel
theorem dX7_seed_15 : decode cX7_seed 15 = .ok (.lload_n 3, 1) := by decide +kernel
theorem dX7_seed_16 : decode cX7_seed 16 = .ok (.lreturn, 1) := by decide +kernel
theorem dX7_weeks_0 : decode cX7_weeks 0 = .ok (.aload_n 0, 1) := by decide +kernel
theorem dX7_weeks_1 : decode cX7_weeks 1 = .ok (.iconst 0, 1) := by decide +kernel
theorem dX7_weeks_2 : decode cX7_weeks 2 = .ok (.putfield 56, 3) := by decide +kernel
theorem dX7_weeks_5 : decode cX7_weeks 5 = .ok (.iload_n 1, 1) := by decide +kernel
theorem dX7_weeks_6 : decode cX7_weeks 6 = .ok (.i2l, 1) := by decide +kernel
theorem dX7_weeks_7 : decode cX7_weeks 7 = .ok (.lconst 1, 1) := by decide +kernel
theorem dX7_weeks_8 : decode cX7_weeks 8 = .ok (.ldc2_w 243, 3) := by decide +kernel
theorem dX7_weeks_11 : decode cX7_weeks 11 = .ok (.invokestatic 63, 3) := by decide +kernel
theorem dX7_weeks_14 : decode cX7_weeks 14 = .ok (.ifCond .ne 6, 3) := by decide +kernel
theorem dX7_weeks_17 : decode cX7_weeks 17 = .ok (.bipush (-2), 2) := by decide +kernel
theorem dX7_weeks_19 : decode cX7_weeks 19 = .ok (.ireturn, 1) := by decide +kernel
theorem dX7_weeks_20 : decode cX7_weeks 20 = .ok (.aload_n 0, 1) := by decide +kernel
theorem dX7_weeks_21 : decode cX7_weeks 21 = .ok (.invokevirtual 163, 3) := by decide +kernel
theorem dX7_weeks_24 : decode cX7_weeks 24 = .ok (.iconst 0, 1) := by decide +kernel
theorem dX7_weeks_25 : decode cX7_weeks 25 = .ok (.istore_n 2, 1) := by decide +kernel
theorem dX7_weeks_26 : decode cX7_weeks 26 = .ok (.iconst 0, 1) := by decide +kernel
theorem dX7_weeks_27 : decode cX7_weeks 27 = .ok (.istore_n 3, 1) := by decide +kernel
theorem dX7_weeks_28 : decode cX7_weeks 28 = .ok (.iload_n 3, 1) := by decide +kernel
theorem dX7_weeks_29 : decode cX7_weeks 29 = .ok (.iload_n 1, 1) := by decide +kernel
theorem dX7_weeks_30 : decode cX7_weeks 30 = .ok (.if_icmp .ge 111, 3) := by decide +kernel
theorem dX7_weeks_33 : decode cX7_weeks 33 = .ok (.aload_n 0, 1) := by decide +kernel
theorem dX7_weeks_34 : decode cX7_weeks 34 = .ok (.aload_n 0, 1) := by decide +kernel
theorem dX7_weeks_35 : decode cX7_weeks 35 = .ok (.getfield 239, 3) := by decide +kernel
theorem dX7_weeks_38 : decode cX7_weeks 38 = .ok (.ldc2_w 245, 3) := by decide +kernel
theorem dX7_weeks_41 : decode cX7_weeks 41 = .ok (.lmul, 1) := by decide +kernel
theorem dX7_weeks_42 : decode cX7_weeks 42 = .ok (.ldc2_w 247, 3) := by decide +kernel
theorem dX7_weeks_45 : decode cX7_weeks 45 = .ok (.ladd, 1) := by decide +kernel
theorem dX7_weeks_46 : decode cX7_weeks 46 = .ok (.putfield 239, 3) := by decide +kernel
theorem dX7_weeks_49 : decode cX7_weeks 49 = .ok (.aload_n 0, 1) := by decide +kernel
theorem dX7_weeks_50 : decode cX7_weeks 50 = .ok (.getfield 239, 3) := by decide +kernel
theorem dX7_weeks_53 : decode cX7_weeks 53 = .ok (.bipush 33, 2) := by decide +kernel
theorem dX7_weeks_55 : decode cX7_weeks 55 = .ok (.lushr, 1) := by decide +kernel
theorem dX7_weeks_56 : decode cX7_weeks 56 = .ok (.ldc2_w 249, 3) := by decide +kernel
theorem dX7_weeks_59 : decode cX7_weeks 59 = .ok (.lrem, 1) := by decide +kernel
theorem dX7_weeks_60 : decode cX7_weeks 60 = .ok (.l2i, 1) := by decide +kernel
theorem dX7_weeks_61 : decode cX7_weeks 61 = .ok (.istore 4, 2) := by decide +kernel
theorem dX7_weeks_63 : decode cX7_weeks 63 = .ok (.aload_n 0, 1) := by decide +kernel
theorem dX7_weeks_64 : decode cX7_weeks 64 = .ok (.iload 4, 2) := by decide +kernel
theorem dX7_weeks_66 : decode cX7_weeks 66 = .ok (.iconst 5, 1) := by decide +kernel
theorem dX7_weeks_67 : decode cX7_weeks 67 = .ok (.if_icmp .ge 11, 3) := by decide +kernel
theorem dX7_weeks_70 : decode cX7_weeks 70 = .ok (.bipush 100, 2) := by decide +kernel
theorem dX7_weeks_72 : decode cX7_weeks 72 = .ok (.iload 4, 2) := by decide +kernel
theorem dX7_weeks_74 : decode cX7_weeks 74 = .ok (.iadd, 1) := by decide +kernel
theorem dX7_weeks_75 : decode cX7_weeks 75 = .ok (.goto 42, 3) := by decide +kernel
theorem dX7_weeks_78 : decode cX7_weeks 78 = .ok (.iload 4, 2) := by decide +kernel
theorem dX7_weeks_80 : decode cX7_weeks 80 = .ok (.bipush 10, 2) := by decide +kernel
theorem dX7_weeks_82 : decode cX7_weeks 82 = .ok (.if_icmp .ge 12, 3) := by decide +kernel
theorem dX7_weeks_85 : decode cX7_weeks 85 = .ok (.sipush 195, 3) := by decide +kernel
theorem dX7_weeks_88 : decode cX7_weeks 88 = .ok (.iload 4, 2) := by decide +kernel
theorem dX7_weeks_90 : decode cX7_weeks 90 = .ok (.iadd, 1) := by decide +kernel
theorem dX7_weeks_91 : decode cX7_weeks 91 = .ok (.goto 26, 3) := by decide +kernel
theorem dX7_weeks_94 : decode cX7_weeks 94 = .ok (.iload 4, 2) := by decide +kernel
theorem dX7_weeks_96 : decode cX7_weeks 96 = .ok (.bipush 15, 2) := by decide +kernel
theorem dX7_weeks_98 : decode cX7_weeks 98 = .ok (.if_icmp .ge 18, 3) := by decide +kernel
theorem dX7_weeks_101 : decode cX7_weeks 101 = .ok (.sipush 301, 3) := by decide +kernel
theorem dX7_weeks_104 : decode cX7_weeks 104 = .ok (.bipush 10, 2) := by decide +kernel
theorem dX7_weeks_106 : decode cX7_weeks 106 = .ok (.iload 4, 2) := by decide +kernel
theorem dX7_weeks_108 : decode cX7_weeks 108 = .ok (.bipush 10, 2) := by decide +kernel
theorem dX7_weeks_110 : decode cX7_weeks 110 = .ok (.isub, 1) := by decide +kernel
theorem dX7_weeks_111 : decode cX7_weeks 111 = .ok (.imul, 1) := by decide +kernel
theorem dX7_weeks_112 : decode cX7_weeks 112 = .ok (.iadd, 1) := by decide +kernel
theorem dX7_weeks_113 : decode cX7_weeks 113 = .ok (.goto 4, 3) := by decide +kernel
theorem dX7_weeks_116 : decode cX7_weeks 116 = .ok (.iconst 0, 1) := by decide +kernel
theorem dX7_weeks_117 : decode cX7_weeks 117 = .ok (.invokevirtual 194, 3) := by decide +kernel
theorem dX7_weeks_120 : decode cX7_weeks 120 = .ok (.pop, 1) := by decide +kernel
theorem dX7_weeks_121 : decode cX7_weeks 121 = .ok (.iload_n 2, 1) := by decide +kernel
theorem dX7_weeks_122 : decode cX7_weeks 122 = .ok (.aload_n 0, 1) := by decide +kernel
theorem dX7_weeks_123 : decode cX7_weeks 123 = .ok (.aload_n 0, 1) := by decide +kernel
theorem dX7_weeks_124 : decode cX7_weeks 124 = .ok (.getfield 28, 3) := by decide +kernel
theorem dX7_weeks_127 : decode cX7_weeks 127 = .ok (.invokevirtual 118, 3) := by decide +kernel
theorem dX7_weeks_130 : decode cX7_weeks 130 = .ok (.invokestatic 170, 3) := by decide +kernel
theorem dX7_weeks_133 : decode cX7_weeks 133 = .ok (.iadd, 1) := by decide +kernel
theorem dX7_weeks_134 : decode cX7_weeks 134 = .ok (.istore_n 2, 1) := by decide +kernel
theorem dX7_weeks_135 : decode cX7_weeks 135 = .ok (.iinc 3 1, 3) := by decide +kernel
theorem dX7_weeks_138 : decode cX7_weeks 138 = .ok (.goto (-110), 3) := by decide +kernel
theorem dX7_weeks_141 : decode cX7_weeks 141 = .ok (.iload_n 2, 1) := by decide +kernel
theorem dX7_weeks_142 : decode cX7_weeks 142 = .ok (.ireturn, 1) := by decide +kernel
theorem dX7_keep_0 : decode cX7_keep 0 = .ok (.aload_n 0, 1) := by decide +kernel
theorem dX7_keep_1 : decode cX7_keep 1 = .ok (.iconst 0, 1) := by decide +kernel
theorem dX7_keep_2 : decode cX7_keep 2 = .ok (.putfield 56, 3) := by decide +kernel
theorem dX7_keep_5 : decode cX7_keep 5 = .ok (.iload_n 1, 1) := by decide +kernel
theorem dX7_keep_6 : decode cX7_keep 6 = .ok (.i2l, 1) := by decide +kernel
theorem dX7_keep_7 : decode cX7_keep 7 = .ok (.lconst 0, 1) := by decide +kernel
theorem dX7_keep_8 : decode cX7_keep 8 = .ok (.lconst 1, 1) := by decide +kernel
theorem dX7_keep_9 : decode cX7_keep 9 = .ok (.invokestatic 63, 3) := by decide +kernel
theorem dX7_keep_12 : decode cX7_keep 12 = .ok (.ifCond .ne 5, 3) := by decide +kernel
theorem dX7_keep_15 : decode cX7_keep 15 = .ok (.iconst (-1), 1) := by decide +kernel
theorem dX7_keep_16 : decode cX7_keep 16 = .ok (.ireturn, 1) := by decide +kernel
theorem dX7_keep_17 : decode cX7_keep 17 = .ok (.aload_n 0, 1) := by decide +kernel
theorem dX7_keep_18 : decode cX7_keep 18 = .ok (.getfield 37, 3) := by decide +kernel
theorem dX7_keep_21 : decode cX7_keep 21 = .ok (.iload_n 1, 1) := by decide +kernel
theorem dX7_keep_22 : decode cX7_keep 22 = .ok (.iconst 1, 1) := by decide +kernel
theorem dX7_keep_23 : decode cX7_keep 23 = .ok (.bastore, 1) := by decide +kernel
theorem dX7_keep_24 : decode cX7_keep 24 = .ok (.iconst 0, 1) := by decide +kernel
theorem dX7_keep_25 : decode cX7_keep 25 = .ok (.istore_n 2, 1) := by decide +kernel
theorem dX7_keep_26 : decode cX7_keep 26 = .ok (.iload_n 2, 1) := by decide +kernel
theorem dX7_keep_27 : decode cX7_keep 27 = .ok (.bipush 24, 2) := by decide +kernel
theorem dX7_keep_29 : decode cX7_keep 29 = .ok (.if_icmp .ge 26, 3) := by decide +kernel
theorem dX7_keep_32 : decode cX7_keep 32 = .ok (.aload_n 0, 1) := by decide +kernel
theorem dX7_keep_33 : decode cX7_keep 33 = .ok (.getfield 34, 3) := by decide +kernel
theorem dX7_keep_36 : decode cX7_keep 36 = .ok (.bipush 24, 2) := by decide +kernel
theorem dX7_keep_38 : decode cX7_keep 38 = .ok (.iload_n 1, 1) := by decide +kernel
theorem dX7_keep_39 : decode cX7_keep 39 = .ok (.imul, 1) := by decide +kernel
theorem dX7_keep_40 : decode cX7_keep 40 = .ok (.iload_n 2, 1) := by decide +kernel
theorem dX7_keep_41 : decode cX7_keep 41 = .ok (.iadd, 1) := by decide +kernel
theorem dX7_keep_42 : decode cX7_keep 42 = .ok (.aload_n 0, 1) := by decide +kernel
theorem dX7_keep_43 : decode cX7_keep 43 = .ok (.getfield 25, 3) := by decide +kernel
theorem dX7_keep_46 : decode cX7_keep 46 = .ok (.iload_n 2, 1) := by decide +kernel
theorem dX7_keep_47 : decode cX7_keep 47 = .ok (.iaload, 1) := by decide +kernel
theorem dX7_keep_48 : decode cX7_keep 48 = .ok (.iastore, 1) := by decide +kernel
theorem dX7_keep_49 : decode cX7_keep 49 = .ok (.iinc 2 1, 3) := by decide +kernel
theorem dX7_keep_52 : decode cX7_keep 52 = .ok (.goto (-26), 3) := by decide +kernel
theorem dX7_keep_55 : decode cX7_keep 55 = .ok (.aload_n 0, 1) := by decide +kernel
theorem dX7_keep_56 : decode cX7_keep 56 = .ok (.getfield 25, 3) := by decide +kernel
theorem dX7_keep_59 : decode cX7_keep 59 = .ok (.bipush 23, 2) := by decide +kernel
theorem dX7_keep_61 : decode cX7_keep 61 = .ok (.iaload, 1) := by decide +kernel
theorem dX7_keep_62 : decode cX7_keep 62 = .ok (.ireturn, 1) := by decide +kernel
theorem dX7_again_0 : decode cX7_again 0 = .ok (.aload_n 0, 1) := by decide +kernel
theorem dX7_again_1 : decode cX7_again 1 = .ok (.iconst 0, 1) := by decide +kernel
theorem dX7_again_2 : decode cX7_again 2 = .ok (.putfield 56, 3) := by decide +kernel
theorem dX7_again_5 : decode cX7_again 5 = .ok (.iload_n 1, 1) := by decide +kernel
theorem dX7_again_6 : decode cX7_again 6 = .ok (.i2l, 1) := by decide +kernel
theorem dX7_again_7 : decode cX7_again 7 = .ok (.lconst 0, 1) := by decide +kernel
theorem dX7_again_8 : decode cX7_again 8 = .ok (.lconst 1, 1) := by decide +kernel
theorem dX7_again_9 : decode cX7_again 9 = .ok (.invokestatic 63, 3) := by decide +kernel
theorem dX7_again_12 : decode cX7_again 12 = .ok (.ifCond .ne 5, 3) := by decide +kernel
theorem dX7_again_15 : decode cX7_again 15 = .ok (.iconst (-1), 1) := by decide +kernel
theorem dX7_again_16 : decode cX7_again 16 = .ok (.ireturn, 1) := by decide +kernel
theorem dX7_again_17 : decode cX7_again 17 = .ok (.aload_n 0, 1) := by decide +kernel
theorem dX7_again_18 : decode cX7_again 18 = .ok (.getfield 37, 3) := by decide +kernel
theorem dX7_again_21 : decode cX7_again 21 = .ok (.iload_n 1, 1) := by decide +kernel
theorem dX7_again_22 : decode cX7_again 22 = .ok (.baload, 1) := by decide +kernel
theorem dX7_again_23 : decode cX7_again 23 = .ok (.ifCond .ne 6, 3) := by decide +kernel
theorem dX7_again_26 : decode cX7_again 26 = .ok (.bipush (-3), 2) := by decide +kernel
theorem dX7_again_28 : decode cX7_again 28 = .ok (.ireturn, 1) := by decide +kernel
theorem dX7_again_29 : decode cX7_again 29 = .ok (.iconst 0, 1) := by decide +kernel
theorem dX7_again_30 : decode cX7_again 30 = .ok (.istore_n 2, 1) := by decide +kernel
theorem dX7_again_31 : decode cX7_again 31 = .ok (.iload_n 2, 1) := by decide +kernel
theorem dX7_again_32 : decode cX7_again 32 = .ok (.bipush 24, 2) := by decide +kernel
theorem dX7_again_34 : decode cX7_again 34 = .ok (.if_icmp .ge 26, 3) := by decide +kernel
theorem dX7_again_37 : decode cX7_again 37 = .ok (.aload_n 0, 1) := by decide +kernel
theorem dX7_again_38 : decode cX7_again 38 = .ok (.getfield 25, 3) := by decide +kernel
theorem dX7_again_41 : decode cX7_again 41 = .ok (.iload_n 2, 1) := by decide +kernel
theorem dX7_again_42 : decode cX7_again 42 = .ok (.aload_n 0, 1) := by decide +kernel
theorem dX7_again_43 : decode cX7_again 43 = .ok (.getfield 34, 3) := by decide +kernel
theorem dX7_again_46 : decode cX7_again 46 = .ok (.bipush 24, 2) := by decide +kernel
theorem dX7_again_48 : decode cX7_again 48 = .ok (.iload_n 1, 1) := by decide +kernel
theorem dX7_again_49 : decode cX7_again 49 = .ok (.imul, 1) := by decide +kernel
theorem dX7_again_50 : decode cX7_again 50 = .ok (.iload_n 2, 1) := by decide +kernel
theorem dX7_again_51 : decode cX7_again 51 = .ok (.iadd, 1) := by decide +kernel
theorem dX7_again_52 : decode cX7_again 52 = .ok (.iaload, 1) := by decide +kernel
theorem dX7_again_53 : decode cX7_again 53 = .ok (.iastore, 1) := by decide +kernel
theorem dX7_again_54 : decode cX7_again 54 = .ok (.iinc 2 1, 3) := by decide +kernel
theorem dX7_again_57 : decode cX7_again 57 = .ok (.goto (-26), 3) := by decide +kernel
theorem dX7_again_60 : decode cX7_again 60 = .ok (.aload_n 0, 1) := by decide +kernel
theorem dX7_again_61 : decode cX7_again 61 = .ok (.iconst 0, 1) := by decide +kernel
theorem dX7_again_62 : decode cX7_again 62 = .ok (.putfield 104, 3) := by decide +kernel
theorem dX7_again_65 : decode cX7_again 65 = .ok (.aload_n 0, 1) := by decide +kernel
theorem dX7_again_66 : decode cX7_again 66 = .ok (.getfield 25, 3) := by decide +kernel
theorem dX7_again_69 : decode cX7_again 69 = .ok (.bipush 23, 2) := by decide +kernel
theorem dX7_again_71 : decode cX7_again 71 = .ok (.iaload, 1) := by decide +kernel
theorem dX7_again_72 : decode cX7_again 72 = .ok (.ireturn, 1) := by decide +kernel
theorem dJ6_bitCount_0f7a4_0 : decode cJ6_bitCount_0f7a4 0 = .ok (.iload_n 0, 1) := by decide +kernel
theorem dJ6_bitCount_0f7a4_1 : decode cJ6_bitCount_0f7a4 1 = .ok (.iload_n 0, 1) := by decide +kernel
theorem dJ6_bitCount_0f7a4_2 : decode cJ6_bitCount_0f7a4 2 = .ok (.iconst 1, 1) := by decide +kernel
theorem dJ6_bitCount_0f7a4_3 : decode cJ6_bitCount_0f7a4 3 = .ok (.iushr, 1) := by decide +kernel
theorem dJ6_bitCount_0f7a4_4 : decode cJ6_bitCount_0f7a4 4 = .ok (.ldc_w 265, 3) := by decide +kernel
theorem dJ6_bitCount_0f7a4_7 : decode cJ6_bitCount_0f7a4 7 = .ok (.iand, 1) := by decide +kernel
theorem dJ6_bitCount_0f7a4_8 : decode cJ6_bitCount_0f7a4 8 = .ok (.isub, 1) := by decide +kernel
theorem dJ6_bitCount_0f7a4_9 : decode cJ6_bitCount_0f7a4 9 = .ok (.istore_n 0, 1) := by decide +kernel
theorem dJ6_bitCount_0f7a4_10 : decode cJ6_bitCount_0f7a4 10 = .ok (.iload_n 0, 1) := by decide +kernel
theorem dJ6_bitCount_0f7a4_11 : decode cJ6_bitCount_0f7a4 11 = .ok (.ldc_w 266, 3) := by decide +kernel
theorem dJ6_bitCount_0f7a4_14 : decode cJ6_bitCount_0f7a4 14 = .ok (.iand, 1) := by decide +kernel
theorem dJ6_bitCount_0f7a4_15 : decode cJ6_bitCount_0f7a4 15 = .ok (.iload_n 0, 1) := by decide +kernel
theorem dJ6_bitCount_0f7a4_16 : decode cJ6_bitCount_0f7a4 16 = .ok (.iconst 2, 1) := by decide +kernel
theorem dJ6_bitCount_0f7a4_17 : decode cJ6_bitCount_0f7a4 17 = .ok (.iushr, 1) := by decide +kernel
theorem dJ6_bitCount_0f7a4_18 : decode cJ6_bitCount_0f7a4 18 = .ok (.ldc_w 266, 3) := by decide +kernel
theorem dJ6_bitCount_0f7a4_21 : decode cJ6_bitCount_0f7a4 21 = .ok (.iand, 1) := by decide +kernel
theorem dJ6_bitCount_0f7a4_22 : decode cJ6_bitCount_0f7a4 22 = .ok (.iadd, 1) := by decide +kernel
theorem dJ6_bitCount_0f7a4_23 : decode cJ6_bitCount_0f7a4 23 = .ok (.istore_n 0, 1) := by decide +kernel
theorem dJ6_bitCount_0f7a4_24 : decode cJ6_bitCount_0f7a4 24 = .ok (.iload_n 0, 1) := by decide +kernel
theorem dJ6_bitCount_0f7a4_25 : decode cJ6_bitCount_0f7a4 25 = .ok (.iload_n 0, 1) := by decide +kernel
theorem dJ6_bitCount_0f7a4_26 : decode cJ6_bitCount_0f7a4 26 = .ok (.iconst 4, 1) := by decide +kernel
theorem dJ6_bitCount_0f7a4_27 : decode cJ6_bitCount_0f7a4 27 = .ok (.iushr, 1) := by decide +kernel
theorem dJ6_bitCount_0f7a4_28 : decode cJ6_bitCount_0f7a4 28 = .ok (.iadd, 1) := by decide +kernel
theorem dJ6_bitCount_0f7a4_29 : decode cJ6_bitCount_0f7a4 29 = .ok (.ldc_w 267, 3) := by decide +kernel
theorem dJ6_bitCount_0f7a4_32 : decode cJ6_bitCount_0f7a4 32 = .ok (.iand, 1) := by decide +kernel
theorem dJ6_bitCount_0f7a4_33 : decode cJ6_bitCount_0f7a4 33 = .ok (.istore_n 0, 1) := by decide +kernel
theorem dJ6_bitCount_0f7a4_34 : decode cJ6_bitCount_0f7a4 34 = .ok (.iload_n 0, 1) := by decide +kernel
theorem dJ6_bitCount_0f7a4_35 : decode cJ6_bitCount_0f7a4 35 = .ok (.iload_n 0, 1) := by decide +kernel
theorem dJ6_bitCount_0f7a4_36 : decode cJ6_bitCount_0f7a4 36 = .ok (.bipush 8, 2) := by decide +kernel
theorem dJ6_bitCount_0f7a4_38 : decode cJ6_bitCount_0f7a4 38 = .ok (.iushr, 1) := by decide +kernel
theorem dJ6_bitCount_0f7a4_39 : decode cJ6_bitCount_0f7a4 39 = .ok (.iadd, 1) := by decide +kernel
theorem dJ6_bitCount_0f7a4_40 : decode cJ6_bitCount_0f7a4 40 = .ok (.istore_n 0, 1) := by decide +kernel
theorem dJ6_bitCount_0f7a4_41 : decode cJ6_bitCount_0f7a4 41 = .ok (.iload_n 0, 1) := by decide +kernel
theorem dJ6_bitCount_0f7a4_42 : decode cJ6_bitCount_0f7a4 42 = .ok (.iload_n 0, 1) := by decide +kernel
theorem dJ6_bitCount_0f7a4_43 : decode cJ6_bitCount_0f7a4 43 = .ok (.bipush 16, 2) := by decide +kernel
theorem dJ6_bitCount_0f7a4_45 : decode cJ6_bitCount_0f7a4 45 = .ok (.iushr, 1) := by decide +kernel
theorem dJ6_bitCount_0f7a4_46 : decode cJ6_bitCount_0f7a4 46 = .ok (.iadd, 1) := by decide +kernel
theorem dJ6_bitCount_0f7a4_47 : decode cJ6_bitCount_0f7a4 47 = .ok (.istore_n 0, 1) := by decide +kernel
theorem dJ6_bitCount_0f7a4_48 : decode cJ6_bitCount_0f7a4 48 = .ok (.iload_n 0, 1) := by decide +kernel
theorem dJ6_bitCount_0f7a4_49 : decode cJ6_bitCount_0f7a4 49 = .ok (.bipush 63, 2) := by decide +kernel
theorem dJ6_bitCount_0f7a4_51 : decode cJ6_bitCount_0f7a4 51 = .ok (.iand, 1) := by decide +kernel
theorem dJ6_bitCount_0f7a4_52 : decode cJ6_bitCount_0f7a4 52 = .ok (.ireturn, 1) := by decide +kernel
theorem dJ9_abs_0f7a4_0 : decode cJ9_abs_0f7a4 0 = .ok (.iload_n 0, 1) := by decide +kernel
theorem dJ9_abs_0f7a4_1 : decode cJ9_abs_0f7a4 1 = .ok (.ifCond .ge 8, 3) := by decide +kernel
theorem dJ9_abs_0f7a4_4 : decode cJ9_abs_0f7a4 4 = .ok (.iload_n 0, 1) := by decide +kernel
theorem dJ9_abs_0f7a4_5 : decode cJ9_abs_0f7a4 5 = .ok (.ineg, 1) := by decide +kernel
theorem dJ9_abs_0f7a4_6 : decode cJ9_abs_0f7a4 6 = .ok (.goto 4, 3) := by decide +kernel
theorem dJ9_abs_0f7a4_9 : decode cJ9_abs_0f7a4 9 = .ok (.iload_n 0, 1) := by decide +kernel
theorem dJ9_abs_0f7a4_10 : decode cJ9_abs_0f7a4 10 = .ok (.ireturn, 1) := by decide +kernel
theorem dJ9_max_7cf53_0 : decode cJ9_max_7cf53 0 = .ok (.iload_n 0, 1) := by decide +kernel
theorem dJ9_max_7cf53_1 : decode cJ9_max_7cf53 1 = .ok (.iload_n 1, 1) := by decide +kernel
theorem dJ9_max_7cf53_2 : decode cJ9_max_7cf53 2 = .ok (.if_icmp .lt 7, 3) := by decide +kernel
theorem dJ9_max_7cf53_5 : decode cJ9_max_7cf53 5 = .ok (.iload_n 0, 1) := by decide +kernel
theorem dJ9_max_7cf53_6 : decode cJ9_max_7cf53 6 = .ok (.goto 4, 3) := by decide +kernel
theorem dJ9_max_7cf53_9 : decode cJ9_max_7cf53 9 = .ok (.iload_n 1, 1) := by decide +kernel
theorem dJ9_max_7cf53_10 : decode cJ9_max_7cf53 10 = .ok (.ireturn, 1) := by decide +kernel
theorem dJ7_fill_53178_0 : decode cJ7_fill_53178 0 = .ok (.iconst 0, 1) := by decide +kernel
theorem dJ7_fill_53178_1 : decode cJ7_fill_53178 1 = .ok (.istore_n 2, 1) := by decide +kernel
theorem dJ7_fill_53178_2 : decode cJ7_fill_53178 2 = .ok (.aload_n 0, 1) := by decide +kernel
theorem dJ7_fill_53178_3 : decode cJ7_fill_53178 3 = .ok (.arraylength, 1) := by decide +kernel
theorem dJ7_fill_53178_4 : decode cJ7_fill_53178 4 = .ok (.istore_n 3, 1) := by decide +kernel
theorem dJ7_fill_53178_5 : decode cJ7_fill_53178 5 = .ok (.iload_n 2, 1) := by decide +kernel
theorem dJ7_fill_53178_6 : decode cJ7_fill_53178 6 = .ok (.iload_n 3, 1) := by decide +kernel
theorem dJ7_fill_53178_7 : decode cJ7_fill_53178 7 = .ok (.if_icmp .ge 13, 3) := by decide +kernel
theorem dJ7_fill_53178_10 : decode cJ7_fill_53178 10 = .ok (.aload_n 0, 1) := by decide +kernel
theorem dJ7_fill_53178_11 : decode cJ7_fill_53178 11 = .ok (.iload_n 2, 1) := by decide +kernel
theorem dJ7_fill_53178_12 : decode cJ7_fill_53178 12 = .ok (.iload_n 1, 1) := by decide +kernel
theorem dJ7_fill_53178_13 : decode cJ7_fill_53178 13 = .ok (.iastore, 1) := by decide +kernel
theorem dJ7_fill_53178_14 : decode cJ7_fill_53178 14 = .ok (.iinc 2 1, 3) := by decide +kernel
theorem dJ7_fill_53178_17 : decode cJ7_fill_53178 17 = .ok (.goto (-12), 3) := by decide +kernel
theorem dJ7_fill_53178_20 : decode cJ7_fill_53178 20 = .ok (.return_, 1) := by decide +kernel
theorem dL_law_0 : decode cL_law 0 = .ok (.new 7, 3) := by decide +kernel
theorem dL_law_3 : decode cL_law 3 = .ok (.dup, 1) := by decide +kernel
theorem dL_law_4 : decode cL_law 4 = .ok (.invokespecial 9, 3) := by decide +kernel
theorem dL_law_7 : decode cL_law 7 = .ok (.astore_n 1, 1) := by decide +kernel
theorem dL_law_8 : decode cL_law 8 = .ok (.new 10, 3) := by decide +kernel
theorem dL_law_11 : decode cL_law 11 = .ok (.dup, 1) := by decide +kernel
theorem dL_law_12 : decode cL_law 12 = .ok (.invokespecial 12, 3) := by decide +kernel
theorem dL_law_15 : decode cL_law 15 = .ok (.astore_n 2, 1) := by decide +kernel
theorem dL_law_16 : decode cL_law 16 = .ok (.iconst 0, 1) := by decide +kernel
theorem dL_law_17 : decode cL_law 17 = .ok (.istore_n 3, 1) := by decide +kernel
theorem dL_law_18 : decode cL_law 18 = .ok (.iload_n 3, 1) := by decide +kernel
theorem dL_law_19 : decode cL_law 19 = .ok (.aload_n 0, 1) := by decide +kernel
theorem dL_law_20 : decode cL_law 20 = .ok (.arraylength, 1) := by decide +kernel
theorem dL_law_21 : decode cL_law 21 = .ok (.iconst 5, 1) := by decide +kernel
theorem dL_law_22 : decode cL_law 22 = .ok (.isub, 1) := by decide +kernel
theorem dL_law_23 : decode cL_law 23 = .ok (.if_icmp .gt 1023, 3) := by decide +kernel
theorem dL_law_26 : decode cL_law 26 = .ok (.aload_n 0, 1) := by decide +kernel
theorem dL_law_27 : decode cL_law 27 = .ok (.iload_n 3, 1) := by decide +kernel
theorem dL_law_28 : decode cL_law 28 = .ok (.iaload, 1) := by decide +kernel
theorem dL_law_29 : decode cL_law 29 = .ok (.bipush 31, 2) := by decide +kernel
theorem dL_law_31 : decode cL_law 31 = .ok (.iand, 1) := by decide +kernel
theorem dL_law_32 : decode cL_law 32 = .ok (.tableswitch 1008 0 28 #[132, 155, 168, 181, 194, 217, 250, 283, 316, 339, 362, 411, 424, 437, 470, 503, 526, 549, 582, 645, 694, 737, 750, 773, 816, 885, 939, 962, 985], 132) := by decide +kernel
theorem dL_law_164 : decode cL_law 164 = .ok (.aload_n 1, 1) := by decide +kernel
theorem dL_law_165 : decode cL_law 165 = .ok (.aload_n 0, 1) := by decide +kernel
theorem dL_law_166 : decode cL_law 166 = .ok (.iload_n 3, 1) := by decide +kernel
theorem dL_law_167 : decode cL_law 167 = .ok (.iconst 1, 1) := by decide +kernel
theorem dL_law_168 : decode cL_law 168 = .ok (.iadd, 1) := by decide +kernel
theorem dL_law_169 : decode cL_law 169 = .ok (.iaload, 1) := by decide +kernel
theorem dL_law_170 : decode cL_law 170 = .ok (.invokevirtual 13, 3) := by decide +kernel
theorem dL_law_173 : decode cL_law 173 = .ok (.aload_n 2, 1) := by decide +kernel
theorem dL_law_174 : decode cL_law 174 = .ok (.aload_n 0, 1) := by decide +kernel
theorem dL_law_175 : decode cL_law 175 = .ok (.iload_n 3, 1) := by decide +kernel
theorem dL_law_176 : decode cL_law 176 = .ok (.iconst 1, 1) := by decide +kernel
theorem dL_law_177 : decode cL_law 177 = .ok (.iadd, 1) := by decide +kernel
theorem dL_law_178 : decode cL_law 178 = .ok (.iaload, 1) := by decide +kernel
theorem dL_law_179 : decode cL_law 179 = .ok (.invokevirtual 17, 3) := by decide +kernel
theorem dL_law_182 : decode cL_law 182 = .ok (.if_icmp .eq 858, 3) := by decide +kernel
theorem dL_law_185 : decode cL_law 185 = .ok (.iconst 0, 1) := by decide +kernel
theorem dL_law_186 : decode cL_law 186 = .ok (.ireturn, 1) := by decide +kernel
theorem dL_law_187 : decode cL_law 187 = .ok (.aload_n 1, 1) := by decide +kernel
theorem dL_law_188 : decode cL_law 188 = .ok (.invokevirtual 18, 3) := by decide +kernel
theorem dL_law_191 : decode cL_law 191 = .ok (.aload_n 2, 1) := by decide +kernel
theorem dL_law_192 : decode cL_law 192 = .ok (.invokevirtual 22, 3) := by decide +kernel
theorem dL_law_195 : decode cL_law 195 = .ok (.if_icmp .eq 845, 3) := by decide +kernel
theorem dL_law_198 : decode cL_law 198 = .ok (.iconst 0, 1) := by decide +kernel
theorem dL_law_199 : decode cL_law 199 = .ok (.ireturn, 1) := by decide +kernel
theorem dL_law_200 : decode cL_law 200 = .ok (.aload_n 1, 1) := by decide +kernel
theorem dL_law_201 : decode cL_law 201 = .ok (.invokevirtual 23, 3) := by decide +kernel
theorem dL_law_204 : decode cL_law 204 = .ok (.aload_n 2, 1) := by decide +kernel
theorem dL_law_205 : decode cL_law 205 = .ok (.invokevirtual 26, 3) := by decide +kernel
theorem dL_law_208 : decode cL_law 208 = .ok (.if_icmp .eq 832, 3) := by decide +kernel
theorem dL_law_211 : decode cL_law 211 = .ok (.iconst 0, 1) := by decide +kernel
theorem dL_law_212 : decode cL_law 212 = .ok (.ireturn, 1) := by decide +kernel
theorem dL_law_213 : decode cL_law 213 = .ok (.aload_n 1, 1) := by decide +kernel
theorem dL_law_214 : decode cL_law 214 = .ok (.invokevirtual 27, 3) := by decide +kernel
theorem dL_law_217 : decode cL_law 217 = .ok (.aload_n 2, 1) := by decide +kernel
theorem dL_law_218 : decode cL_law 218 = .ok (.invokevirtual 30, 3) := by decide +kernel
theorem dL_law_221 : decode cL_law 221 = .ok (.if_icmp .eq 819, 3) := by decide +kernel
theorem dL_law_224 : decode cL_law 224 = .ok (.iconst 0, 1) := by decide +kernel
theorem dL_law_225 : decode cL_law 225 = .ok (.ireturn, 1) := by decide +kernel
theorem dL_law_226 : decode cL_law 226 = .ok (.aload_n 1, 1) := by decide +kernel
theorem dL_law_227 : decode cL_law 227 = .ok (.aload_n 0, 1) := by decide +kernel
theorem dL_law_228 : decode cL_law 228 = .ok (.iload_n 3, 1) := by decide +kernel
theorem dL_law_229 : decode cL_law 229 = .ok (.iconst 1, 1) := by decide +kernel
theorem dL_law_230 : decode cL_law 230 = .ok (.iadd, 1) := by decide +kernel
theorem dL_law_231 : decode cL_law 231 = .ok (.iaload, 1) := by decide +kernel
theorem dL_law_232 : decode cL_law 232 = .ok (.invokevirtual 31, 3) := by decide +kernel
theorem dL_law_235 : decode cL_law 235 = .ok (.aload_n 2, 1) := by decide +kernel
theorem dL_law_236 : decode cL_law 236 = .ok (.aload_n 0, 1) := by decide +kernel
theorem dL_law_237 : decode cL_law 237 = .ok (.iload_n 3, 1) := by decide +kernel
theorem dL_law_238 : decode cL_law 238 = .ok (.iconst 1, 1) := by decide +kernel
theorem dL_law_239 : decode cL_law 239 = .ok (.iadd, 1) := by decide +kernel
theorem dL_law_240 : decode cL_law 240 = .ok (.iaload, 1) := by decide +kernel
theorem dL_law_241 : decode cL_law 241 = .ok (.invokevirtual 34, 3) := by decide +kernel
theorem dL_law_244 : decode cL_law 244 = .ok (.if_icmp .eq 796, 3) := by decide +kernel
theorem dL_law_247 : decode cL_law 247 = .ok (.iconst 0, 1) := by decide +kernel
theorem dL_law_248 : decode cL_law 248 = .ok (.ireturn, 1) := by decide +kernel
theorem dL_law_249 : decode cL_law 249 = .ok (.aload_n 1, 1) := by decide +kernel
theorem dL_law_250 : decode cL_law 250 = .ok (.aload_n 0, 1) := by decide +kernel
theorem dL_law_251 : decode cL_law 251 = .ok (.iload_n 3, 1) := by decide +kernel
theorem dL_law_252 : decode cL_law 252 = .ok (.iconst 1, 1) := by decide +kernel
theorem dL_law_253 : decode cL_law 253 = .ok (.iadd, 1) := by decide +kernel
theorem dL_law_254 : decode cL_law 254 = .ok (.iaload, 1) := by decide +kernel
theorem dL_law_255 : decode cL_law 255 = .ok (.aload_n 0, 1) := by decide +kernel
theorem dL_law_256 : decode cL_law 256 = .ok (.iload_n 3, 1) := by decide +kernel
theorem dL_law_257 : decode cL_law 257 = .ok (.iconst 2, 1) := by decide +kernel
theorem dL_law_258 : decode cL_law 258 = .ok (.iadd, 1) := by decide +kernel
theorem dL_law_259 : decode cL_law 259 = .ok (.iaload, 1) := by decide +kernel
theorem dL_law_260 : decode cL_law 260 = .ok (.invokevirtual 35, 3) := by decide +kernel
theorem dL_law_263 : decode cL_law 263 = .ok (.aload_n 2, 1) := by decide +kernel
theorem dL_law_264 : decode cL_law 264 = .ok (.aload_n 0, 1) := by decide +kernel
theorem dL_law_265 : decode cL_law 265 = .ok (.iload_n 3, 1) := by decide +kernel
theorem dL_law_266 : decode cL_law 266 = .ok (.iconst 1, 1) := by decide +kernel
theorem dL_law_267 : decode cL_law 267 = .ok (.iadd, 1) := by decide +kernel
theorem dL_law_268 : decode cL_law 268 = .ok (.iaload, 1) := by decide +kernel
theorem dL_law_269 : decode cL_law 269 = .ok (.aload_n 0, 1) := by decide +kernel
theorem dL_law_270 : decode cL_law 270 = .ok (.iload_n 3, 1) := by decide +kernel
theorem dL_law_271 : decode cL_law 271 = .ok (.iconst 2, 1) := by decide +kernel
theorem dL_law_272 : decode cL_law 272 = .ok (.iadd, 1) := by decide +kernel
theorem dL_law_273 : decode cL_law 273 = .ok (.iaload, 1) := by decide +kernel
theorem dL_law_274 : decode cL_law 274 = .ok (.invokevirtual 39, 3) := by decide +kernel
theorem dL_law_277 : decode cL_law 277 = .ok (.if_icmp .eq 763, 3) := by decide +kernel
theorem dL_law_280 : decode cL_law 280 = .ok (.iconst 0, 1) := by decide +kernel
theorem dL_law_281 : decode cL_law 281 = .ok (.ireturn, 1) := by decide +kernel
theorem dL_law_282 : decode cL_law 282 = .ok (.aload_n 1, 1) := by decide +kernel
theorem dL_law_283 : decode cL_law 283 = .ok (.aload_n 0, 1) := by decide +kernel
theorem dL_law_284 : decode cL_law 284 = .ok (.iload_n 3, 1) := by decide +kernel
theorem dL_law_285 : decode cL_law 285 = .ok (.iconst 1, 1) := by decide +kernel
theorem dL_law_286 : decode cL_law 286 = .ok (.iadd, 1) := by decide +kernel
theorem dL_law_287 : decode cL_law 287 = .ok (.iaload, 1) := by decide +kernel
theorem dL_law_288 : decode cL_law 288 = .ok (.aload_n 0, 1) := by decide +kernel
theorem dL_law_289 : decode cL_law 289 = .ok (.iload_n 3, 1) := by decide +kernel
theorem dL_law_290 : decode cL_law 290 = .ok (.iconst 2, 1) := by decide +kernel
theorem dL_law_291 : decode cL_law 291 = .ok (.iadd, 1) := by decide +kernel
theorem dL_law_292 : decode cL_law 292 = .ok (.iaload, 1) := by decide +kernel
theorem dL_law_293 : decode cL_law 293 = .ok (.invokevirtual 40, 3) := by decide +kernel
theorem dL_law_296 : decode cL_law 296 = .ok (.aload_n 2, 1) := by decide +kernel
theorem dL_law_297 : decode cL_law 297 = .ok (.aload_n 0, 1) := by decide +kernel
theorem dL_law_298 : decode cL_law 298 = .ok (.iload_n 3, 1) := by decide +kernel
theorem dL_law_299 : decode cL_law 299 = .ok (.iconst 1, 1) := by decide +kernel
theorem dL_law_300 : decode cL_law 300 = .ok (.iadd, 1) := by decide +kernel
theorem dL_law_301 : decode cL_law 301 = .ok (.iaload, 1) := by decide +kernel
theorem dL_law_302 : decode cL_law 302 = .ok (.aload_n 0, 1) := by decide +kernel
theorem dL_law_303 : decode cL_law 303 = .ok (.iload_n 3, 1) := by decide +kernel
theorem dL_law_304 : decode cL_law 304 = .ok (.iconst 2, 1) := by decide +kernel
theorem dL_law_305 : decode cL_law 305 = .ok (.iadd, 1) := by decide +kernel
theorem dL_law_306 : decode cL_law 306 = .ok (.iaload, 1) := by decide +kernel
theorem dL_law_307 : decode cL_law 307 = .ok (.invokevirtual 43, 3) := by decide +kernel
theorem dL_law_310 : decode cL_law 310 = .ok (.if_icmp .eq 730, 3) := by decide +kernel
theorem dL_law_313 : decode cL_law 313 = .ok (.iconst 0, 1) := by decide +kernel
theorem dL_law_314 : decode cL_law 314 = .ok (.ireturn, 1) := by decide +kernel
theorem dL_law_315 : decode cL_law 315 = .ok (.aload_n 1, 1) := by decide +kernel
theorem dL_law_316 : decode cL_law 316 = .ok (.aload_n 0, 1) := by decide +kernel
theorem dL_law_317 : decode cL_law 317 = .ok (.iload_n 3, 1) := by decide +kernel
theorem dL_law_318 : decode cL_law 318 = .ok (.iconst 1, 1) := by decide +kernel
theorem dL_law_319 : decode cL_law 319 = .ok (.iadd, 1) := by decide +kernel
theorem dL_law_320 : decode cL_law 320 = .ok (.iaload, 1) := by decide +kernel
theorem dL_law_321 : decode cL_law 321 = .ok (.aload_n 0, 1) := by decide +kernel
theorem dL_law_322 : decode cL_law 322 = .ok (.iload_n 3, 1) := by decide +kernel
theorem dL_law_323 : decode cL_law 323 = .ok (.iconst 2, 1) := by decide +kernel
theorem dL_law_324 : decode cL_law 324 = .ok (.iadd, 1) := by decide +kernel
theorem dL_law_325 : decode cL_law 325 = .ok (.iaload, 1) := by decide +kernel
theorem dL_law_326 : decode cL_law 326 = .ok (.invokevirtual 44, 3) := by decide +kernel
theorem dL_law_329 : decode cL_law 329 = .ok (.aload_n 2, 1) := by decide +kernel
theorem dL_law_330 : decode cL_law 330 = .ok (.aload_n 0, 1) := by decide +kernel
theorem dL_law_331 : decode cL_law 331 = .ok (.iload_n 3, 1) := by decide +kernel
theorem dL_law_332 : decode cL_law 332 = .ok (.iconst 1, 1) := by decide +kernel
theorem dL_law_333 : decode cL_law 333 = .ok (.iadd, 1) := by decide +kernel
theorem dL_law_334 : decode cL_law 334 = .ok (.iaload, 1) := by decide +kernel
theorem dL_law_335 : decode cL_law 335 = .ok (.aload_n 0, 1) := by decide +kernel
theorem dL_law_336 : decode cL_law 336 = .ok (.iload_n 3, 1) := by decide +kernel
theorem dL_law_337 : decode cL_law 337 = .ok (.iconst 2, 1) := by decide +kernel
theorem dL_law_338 : decode cL_law 338 = .ok (.iadd, 1) := by decide +kernel
theorem dL_law_339 : decode cL_law 339 = .ok (.iaload, 1) := by decide +kernel
theorem dL_law_340 : decode cL_law 340 = .ok (.invokevirtual 47, 3) := by decide +kernel
theorem dL_law_343 : decode cL_law 343 = .ok (.if_icmp .eq 697, 3) := by decide +kernel
theorem dL_law_346 : decode cL_law 346 = .ok (.iconst 0, 1) := by decide +kernel
theorem dL_law_347 : decode cL_law 347 = .ok (.ireturn, 1) := by decide +kernel
theorem dL_law_348 : decode cL_law 348 = .ok (.aload_n 1, 1) := by decide +kernel
theorem dL_law_349 : decode cL_law 349 = .ok (.aload_n 0, 1) := by decide +kernel
theorem dL_law_350 : decode cL_law 350 = .ok (.iload_n 3, 1) := by decide +kernel
theorem dL_law_351 : decode cL_law 351 = .ok (.iconst 1, 1) := by decide +kernel
theorem dL_law_352 : decode cL_law 352 = .ok (.iadd, 1) := by decide +kernel
theorem dL_law_353 : decode cL_law 353 = .ok (.iaload, 1) := by decide +kernel
theorem dL_law_354 : decode cL_law 354 = .ok (.invokevirtual 48, 3) := by decide +kernel
theorem dL_law_357 : decode cL_law 357 = .ok (.aload_n 2, 1) := by decide +kernel
theorem dL_law_358 : decode cL_law 358 = .ok (.aload_n 0, 1) := by decide +kernel
theorem dL_law_359 : decode cL_law 359 = .ok (.iload_n 3, 1) := by decide +kernel
theorem dL_law_360 : decode cL_law 360 = .ok (.iconst 1, 1) := by decide +kernel
theorem dL_law_361 : decode cL_law 361 = .ok (.iadd, 1) := by decide +kernel
theorem dL_law_362 : decode cL_law 362 = .ok (.iaload, 1) := by decide +kernel
theorem dL_law_363 : decode cL_law 363 = .ok (.invokevirtual 51, 3) := by decide +kernel
theorem dL_law_366 : decode cL_law 366 = .ok (.if_icmp .eq 674, 3) := by decide +kernel
theorem dL_law_369 : decode cL_law 369 = .ok (.iconst 0, 1) := by decide +kernel
theorem dL_law_370 : decode cL_law 370 = .ok (.ireturn, 1) := by decide +kernel
theorem dL_law_371 : decode cL_law 371 = .ok (.aload_n 1, 1) := by decide +kernel
theorem dL_law_372 : decode cL_law 372 = .ok (.aload_n 0, 1) := by decide +kernel
theorem dL_law_373 : decode cL_law 373 = .ok (.iload_n 3, 1) := by decide +kernel
theorem dL_law_374 : decode cL_law 374 = .ok (.iconst 1, 1) := by decide +kernel
theorem dL_law_375 : decode cL_law 375 = .ok (.iadd, 1) := by decide +kernel
theorem dL_law_376 : decode cL_law 376 = .ok (.iaload, 1) := by decide +kernel
theorem dL_law_377 : decode cL_law 377 = .ok (.invokevirtual 52, 3) := by decide +kernel
theorem dL_law_380 : decode cL_law 380 = .ok (.aload_n 2, 1) := by decide +kernel
theorem dL_law_381 : decode cL_law 381 = .ok (.aload_n 0, 1) := by decide +kernel
theorem dL_law_382 : decode cL_law 382 = .ok (.iload_n 3, 1) := by decide +kernel
theorem dL_law_383 : decode cL_law 383 = .ok (.iconst 1, 1) := by decide +kernel
theorem dL_law_384 : decode cL_law 384 = .ok (.iadd, 1) := by decide +kernel
theorem dL_law_385 : decode cL_law 385 = .ok (.iaload, 1) := by decide +kernel
theorem dL_law_386 : decode cL_law 386 = .ok (.invokevirtual 55, 3) := by decide +kernel
theorem dL_law_389 : decode cL_law 389 = .ok (.if_icmp .eq 651, 3) := by decide +kernel
theorem dL_law_392 : decode cL_law 392 = .ok (.iconst 0, 1) := by decide +kernel
theorem dL_law_393 : decode cL_law 393 = .ok (.ireturn, 1) := by decide +kernel
theorem dL_law_394 : decode cL_law 394 = .ok (.aload_n 1, 1) := by decide +kernel
theorem dL_law_395 : decode cL_law 395 = .ok (.aload_n 0, 1) := by decide +kernel
theorem dL_law_396 : decode cL_law 396 = .ok (.iload_n 3, 1) := by decide +kernel
theorem dL_law_397 : decode cL_law 397 = .ok (.iconst 1, 1) := by decide +kernel
theorem dL_law_398 : decode cL_law 398 = .ok (.iadd, 1) := by decide +kernel
theorem dL_law_399 : decode cL_law 399 = .ok (.iaload, 1) := by decide +kernel
theorem dL_law_400 : decode cL_law 400 = .ok (.aload_n 0, 1) := by decide +kernel
theorem dL_law_401 : decode cL_law 401 = .ok (.iload_n 3, 1) := by decide +kernel
theorem dL_law_402 : decode cL_law 402 = .ok (.iconst 2, 1) := by decide +kernel
theorem dL_law_403 : decode cL_law 403 = .ok (.iadd, 1) := by decide +kernel
theorem dL_law_404 : decode cL_law 404 = .ok (.iaload, 1) := by decide +kernel
theorem dL_law_405 : decode cL_law 405 = .ok (.ifCond .eq 7, 3) := by decide +kernel
theorem dL_law_408 : decode cL_law 408 = .ok (.iconst 1, 1) := by decide +kernel
theorem dL_law_409 : decode cL_law 409 = .ok (.goto 4, 3) := by decide +kernel
theorem dL_law_412 : decode cL_law 412 = .ok (.iconst 0, 1) := by decide +kernel
theorem dL_law_413 : decode cL_law 413 = .ok (.invokevirtual 56, 3) := by decide +kernel
theorem dL_law_416 : decode cL_law 416 = .ok (.aload_n 2, 1) := by decide +kernel
theorem dL_law_417 : decode cL_law 417 = .ok (.aload_n 0, 1) := by decide +kernel
theorem dL_law_418 : decode cL_law 418 = .ok (.iload_n 3, 1) := by decide +kernel
theorem dL_law_419 : decode cL_law 419 = .ok (.iconst 1, 1) := by decide +kernel
theorem dL_law_420 : decode cL_law 420 = .ok (.iadd, 1) := by decide +kernel
theorem dL_law_421 : decode cL_law 421 = .ok (.iaload, 1) := by decide +kernel
theorem dL_law_422 : decode cL_law 422 = .ok (.aload_n 0, 1) := by decide +kernel
theorem dL_law_423 : decode cL_law 423 = .ok (.iload_n 3, 1) := by decide +kernel
theorem dL_law_424 : decode cL_law 424 = .ok (.iconst 2, 1) := by decide +kernel
theorem dL_law_425 : decode cL_law 425 = .ok (.iadd, 1) := by decide +kernel
theorem dL_law_426 : decode cL_law 426 = .ok (.iaload, 1) := by decide +kernel
theorem dL_law_427 : decode cL_law 427 = .ok (.ifCond .eq 7, 3) := by decide +kernel
theorem dL_law_430 : decode cL_law 430 = .ok (.iconst 1, 1) := by decide +kernel
theorem dL_law_431 : decode cL_law 431 = .ok (.goto 4, 3) := by decide +kernel
theorem dL_law_434 : decode cL_law 434 = .ok (.iconst 0, 1) := by decide +kernel
theorem dL_law_435 : decode cL_law 435 = .ok (.invokevirtual 60, 3) := by decide +kernel
theorem dL_law_438 : decode cL_law 438 = .ok (.if_icmp .eq 602, 3) := by decide +kernel
theorem dL_law_441 : decode cL_law 441 = .ok (.iconst 0, 1) := by decide +kernel
theorem dL_law_442 : decode cL_law 442 = .ok (.ireturn, 1) := by decide +kernel
theorem dL_law_443 : decode cL_law 443 = .ok (.aload_n 1, 1) := by decide +kernel
theorem dL_law_444 : decode cL_law 444 = .ok (.invokevirtual 61, 3) := by decide +kernel
theorem dL_law_447 : decode cL_law 447 = .ok (.aload_n 2, 1) := by decide +kernel
theorem dL_law_448 : decode cL_law 448 = .ok (.invokevirtual 64, 3) := by decide +kernel
theorem dL_law_451 : decode cL_law 451 = .ok (.if_icmp .eq 589, 3) := by decide +kernel
theorem dL_law_454 : decode cL_law 454 = .ok (.iconst 0, 1) := by decide +kernel
theorem dL_law_455 : decode cL_law 455 = .ok (.ireturn, 1) := by decide +kernel
theorem dL_law_456 : decode cL_law 456 = .ok (.aload_n 1, 1) := by decide +kernel
theorem dL_law_457 : decode cL_law 457 = .ok (.invokevirtual 65, 3) := by decide +kernel
theorem dL_law_460 : decode cL_law 460 = .ok (.aload_n 2, 1) := by decide +kernel
theorem dL_law_461 : decode cL_law 461 = .ok (.invokevirtual 68, 3) := by decide +kernel
theorem dL_law_464 : decode cL_law 464 = .ok (.if_icmp .eq 576, 3) := by decide +kernel
theorem dL_law_467 : decode cL_law 467 = .ok (.iconst 0, 1) := by decide +kernel
theorem dL_law_468 : decode cL_law 468 = .ok (.ireturn, 1) := by decide +kernel
theorem dL_law_469 : decode cL_law 469 = .ok (.aload_n 1, 1) := by decide +kernel
theorem dL_law_470 : decode cL_law 470 = .ok (.aload_n 0, 1) := by decide +kernel
theorem dL_law_471 : decode cL_law 471 = .ok (.iload_n 3, 1) := by decide +kernel
theorem dL_law_472 : decode cL_law 472 = .ok (.iconst 1, 1) := by decide +kernel
theorem dL_law_473 : decode cL_law 473 = .ok (.iadd, 1) := by decide +kernel
theorem dL_law_474 : decode cL_law 474 = .ok (.iaload, 1) := by decide +kernel
theorem dL_law_475 : decode cL_law 475 = .ok (.aload_n 0, 1) := by decide +kernel
theorem dL_law_476 : decode cL_law 476 = .ok (.iload_n 3, 1) := by decide +kernel
theorem dL_law_477 : decode cL_law 477 = .ok (.iconst 2, 1) := by decide +kernel
theorem dL_law_478 : decode cL_law 478 = .ok (.iadd, 1) := by decide +kernel
theorem dL_law_479 : decode cL_law 479 = .ok (.iaload, 1) := by decide +kernel
theorem dL_law_480 : decode cL_law 480 = .ok (.invokevirtual 69, 3) := by decide +kernel
theorem dL_law_483 : decode cL_law 483 = .ok (.aload_n 2, 1) := by decide +kernel
theorem dL_law_484 : decode cL_law 484 = .ok (.aload_n 0, 1) := by decide +kernel
theorem dL_law_485 : decode cL_law 485 = .ok (.iload_n 3, 1) := by decide +kernel
theorem dL_law_486 : decode cL_law 486 = .ok (.iconst 1, 1) := by decide +kernel
theorem dL_law_487 : decode cL_law 487 = .ok (.iadd, 1) := by decide +kernel
theorem dL_law_488 : decode cL_law 488 = .ok (.iaload, 1) := by decide +kernel
theorem dL_law_489 : decode cL_law 489 = .ok (.aload_n 0, 1) := by decide +kernel
theorem dL_law_490 : decode cL_law 490 = .ok (.iload_n 3, 1) := by decide +kernel
theorem dL_law_491 : decode cL_law 491 = .ok (.iconst 2, 1) := by decide +kernel
theorem dL_law_492 : decode cL_law 492 = .ok (.iadd, 1) := by decide +kernel
theorem dL_law_493 : decode cL_law 493 = .ok (.iaload, 1) := by decide +kernel
theorem dL_law_494 : decode cL_law 494 = .ok (.invokevirtual 72, 3) := by decide +kernel
theorem dL_law_497 : decode cL_law 497 = .ok (.if_icmp .eq 543, 3) := by decide +kernel
theorem dL_law_500 : decode cL_law 500 = .ok (.iconst 0, 1) := by decide +kernel
theorem dL_law_501 : decode cL_law 501 = .ok (.ireturn, 1) := by decide +kernel
theorem dL_law_502 : decode cL_law 502 = .ok (.aload_n 1, 1) := by decide +kernel
theorem dL_law_503 : decode cL_law 503 = .ok (.aload_n 0, 1) := by decide +kernel
theorem dL_law_504 : decode cL_law 504 = .ok (.iload_n 3, 1) := by decide +kernel
theorem dL_law_505 : decode cL_law 505 = .ok (.iconst 1, 1) := by decide +kernel
theorem dL_law_506 : decode cL_law 506 = .ok (.iadd, 1) := by decide +kernel
theorem dL_law_507 : decode cL_law 507 = .ok (.iaload, 1) := by decide +kernel
theorem dL_law_508 : decode cL_law 508 = .ok (.aload_n 0, 1) := by decide +kernel
theorem dL_law_509 : decode cL_law 509 = .ok (.iload_n 3, 1) := by decide +kernel
theorem dL_law_510 : decode cL_law 510 = .ok (.iconst 2, 1) := by decide +kernel
theorem dL_law_511 : decode cL_law 511 = .ok (.iadd, 1) := by decide +kernel
theorem dL_law_512 : decode cL_law 512 = .ok (.iaload, 1) := by decide +kernel
theorem dL_law_513 : decode cL_law 513 = .ok (.invokevirtual 73, 3) := by decide +kernel
theorem dL_law_516 : decode cL_law 516 = .ok (.aload_n 2, 1) := by decide +kernel
theorem dL_law_517 : decode cL_law 517 = .ok (.aload_n 0, 1) := by decide +kernel
theorem dL_law_518 : decode cL_law 518 = .ok (.iload_n 3, 1) := by decide +kernel
theorem dL_law_519 : decode cL_law 519 = .ok (.iconst 1, 1) := by decide +kernel
theorem dL_law_520 : decode cL_law 520 = .ok (.iadd, 1) := by decide +kernel
theorem dL_law_521 : decode cL_law 521 = .ok (.iaload, 1) := by decide +kernel
theorem dL_law_522 : decode cL_law 522 = .ok (.aload_n 0, 1) := by decide +kernel
theorem dL_law_523 : decode cL_law 523 = .ok (.iload_n 3, 1) := by decide +kernel
theorem dL_law_524 : decode cL_law 524 = .ok (.iconst 2, 1) := by decide +kernel
theorem dL_law_525 : decode cL_law 525 = .ok (.iadd, 1) := by decide +kernel
theorem dL_law_526 : decode cL_law 526 = .ok (.iaload, 1) := by decide +kernel
theorem dL_law_527 : decode cL_law 527 = .ok (.invokevirtual 76, 3) := by decide +kernel
theorem dL_law_530 : decode cL_law 530 = .ok (.if_icmp .eq 510, 3) := by decide +kernel
theorem dL_law_533 : decode cL_law 533 = .ok (.iconst 0, 1) := by decide +kernel
theorem dL_law_534 : decode cL_law 534 = .ok (.ireturn, 1) := by decide +kernel
theorem dL_law_535 : decode cL_law 535 = .ok (.aload_n 1, 1) := by decide +kernel
theorem dL_law_536 : decode cL_law 536 = .ok (.aload_n 0, 1) := by decide +kernel
theorem dL_law_537 : decode cL_law 537 = .ok (.iload_n 3, 1) := by decide +kernel
theorem dL_law_538 : decode cL_law 538 = .ok (.iconst 1, 1) := by decide +kernel
theorem dL_law_539 : decode cL_law 539 = .ok (.iadd, 1) := by decide +kernel
theorem dL_law_540 : decode cL_law 540 = .ok (.iaload, 1) := by decide +kernel
theorem dL_law_541 : decode cL_law 541 = .ok (.invokevirtual 77, 3) := by decide +kernel
theorem dL_law_544 : decode cL_law 544 = .ok (.aload_n 2, 1) := by decide +kernel
theorem dL_law_545 : decode cL_law 545 = .ok (.aload_n 0, 1) := by decide +kernel
theorem dL_law_546 : decode cL_law 546 = .ok (.iload_n 3, 1) := by decide +kernel
theorem dL_law_547 : decode cL_law 547 = .ok (.iconst 1, 1) := by decide +kernel
theorem dL_law_548 : decode cL_law 548 = .ok (.iadd, 1) := by decide +kernel
theorem dL_law_549 : decode cL_law 549 = .ok (.iaload, 1) := by decide +kernel
theorem dL_law_550 : decode cL_law 550 = .ok (.invokevirtual 80, 3) := by decide +kernel
theorem dL_law_553 : decode cL_law 553 = .ok (.if_icmp .eq 487, 3) := by decide +kernel
theorem dL_law_556 : decode cL_law 556 = .ok (.iconst 0, 1) := by decide +kernel
theorem dL_law_557 : decode cL_law 557 = .ok (.ireturn, 1) := by decide +kernel
theorem dL_law_558 : decode cL_law 558 = .ok (.aload_n 1, 1) := by decide +kernel
theorem dL_law_559 : decode cL_law 559 = .ok (.aload_n 0, 1) := by decide +kernel
theorem dL_law_560 : decode cL_law 560 = .ok (.iload_n 3, 1) := by decide +kernel
theorem dL_law_561 : decode cL_law 561 = .ok (.iconst 1, 1) := by decide +kernel
theorem dL_law_562 : decode cL_law 562 = .ok (.iadd, 1) := by decide +kernel
theorem dL_law_563 : decode cL_law 563 = .ok (.iaload, 1) := by decide +kernel
theorem dL_law_564 : decode cL_law 564 = .ok (.invokevirtual 81, 3) := by decide +kernel
theorem dL_law_567 : decode cL_law 567 = .ok (.aload_n 2, 1) := by decide +kernel
theorem dL_law_568 : decode cL_law 568 = .ok (.aload_n 0, 1) := by decide +kernel
theorem dL_law_569 : decode cL_law 569 = .ok (.iload_n 3, 1) := by decide +kernel
theorem dL_law_570 : decode cL_law 570 = .ok (.iconst 1, 1) := by decide +kernel
theorem dL_law_571 : decode cL_law 571 = .ok (.iadd, 1) := by decide +kernel
theorem dL_law_572 : decode cL_law 572 = .ok (.iaload, 1) := by decide +kernel
theorem dL_law_573 : decode cL_law 573 = .ok (.invokevirtual 84, 3) := by decide +kernel
theorem dL_law_576 : decode cL_law 576 = .ok (.if_icmp .eq 464, 3) := by decide +kernel
theorem dL_law_579 : decode cL_law 579 = .ok (.iconst 0, 1) := by decide +kernel
theorem dL_law_580 : decode cL_law 580 = .ok (.ireturn, 1) := by decide +kernel
theorem dL_law_581 : decode cL_law 581 = .ok (.aload_n 1, 1) := by decide +kernel
theorem dL_law_582 : decode cL_law 582 = .ok (.aload_n 0, 1) := by decide +kernel
theorem dL_law_583 : decode cL_law 583 = .ok (.iload_n 3, 1) := by decide +kernel
theorem dL_law_584 : decode cL_law 584 = .ok (.iconst 1, 1) := by decide +kernel
theorem dL_law_585 : decode cL_law 585 = .ok (.iadd, 1) := by decide +kernel
theorem dL_law_586 : decode cL_law 586 = .ok (.iaload, 1) := by decide +kernel
theorem dL_law_587 : decode cL_law 587 = .ok (.aload_n 0, 1) := by decide +kernel
theorem dL_law_588 : decode cL_law 588 = .ok (.iload_n 3, 1) := by decide +kernel
theorem dL_law_589 : decode cL_law 589 = .ok (.iconst 2, 1) := by decide +kernel
theorem dL_law_590 : decode cL_law 590 = .ok (.iadd, 1) := by decide +kernel
theorem dL_law_591 : decode cL_law 591 = .ok (.iaload, 1) := by decide +kernel
theorem dL_law_592 : decode cL_law 592 = .ok (.invokevirtual 85, 3) := by decide +kernel
theorem dL_law_595 : decode cL_law 595 = .ok (.aload_n 2, 1) := by decide +kernel
theorem dL_law_596 : decode cL_law 596 = .ok (.aload_n 0, 1) := by decide +kernel
theorem dL_law_597 : decode cL_law 597 = .ok (.iload_n 3, 1) := by decide +kernel
theorem dL_law_598 : decode cL_law 598 = .ok (.iconst 1, 1) := by decide +kernel
theorem dL_law_599 : decode cL_law 599 = .ok (.iadd, 1) := by decide +kernel
theorem dL_law_600 : decode cL_law 600 = .ok (.iaload, 1) := by decide +kernel
theorem dL_law_601 : decode cL_law 601 = .ok (.aload_n 0, 1) := by decide +kernel
theorem dL_law_602 : decode cL_law 602 = .ok (.iload_n 3, 1) := by decide +kernel
theorem dL_law_603 : decode cL_law 603 = .ok (.iconst 2, 1) := by decide +kernel
theorem dL_law_604 : decode cL_law 604 = .ok (.iadd, 1) := by decide +kernel
theorem dL_law_605 : decode cL_law 605 = .ok (.iaload, 1) := by decide +kernel
theorem dL_law_606 : decode cL_law 606 = .ok (.invokevirtual 88, 3) := by decide +kernel
theorem dL_law_609 : decode cL_law 609 = .ok (.if_icmp .eq 431, 3) := by decide +kernel
theorem dL_law_612 : decode cL_law 612 = .ok (.iconst 0, 1) := by decide +kernel
theorem dL_law_613 : decode cL_law 613 = .ok (.ireturn, 1) := by decide +kernel
theorem dL_law_614 : decode cL_law 614 = .ok (.aload_n 1, 1) := by decide +kernel
theorem dL_law_615 : decode cL_law 615 = .ok (.aload_n 0, 1) := by decide +kernel
theorem dL_law_616 : decode cL_law 616 = .ok (.iload_n 3, 1) := by decide +kernel
theorem dL_law_617 : decode cL_law 617 = .ok (.iconst 1, 1) := by decide +kernel
theorem dL_law_618 : decode cL_law 618 = .ok (.iadd, 1) := by decide +kernel
theorem dL_law_619 : decode cL_law 619 = .ok (.iaload, 1) := by decide +kernel
theorem dL_law_620 : decode cL_law 620 = .ok (.aload_n 0, 1) := by decide +kernel
theorem dL_law_621 : decode cL_law 621 = .ok (.iload_n 3, 1) := by decide +kernel
theorem dL_law_622 : decode cL_law 622 = .ok (.iconst 2, 1) := by decide +kernel
theorem dL_law_623 : decode cL_law 623 = .ok (.iadd, 1) := by decide +kernel
theorem dL_law_624 : decode cL_law 624 = .ok (.iaload, 1) := by decide +kernel
theorem dL_law_625 : decode cL_law 625 = .ok (.i2l, 1) := by decide +kernel
theorem dL_law_626 : decode cL_law 626 = .ok (.bipush 32, 2) := by decide +kernel
theorem dL_law_628 : decode cL_law 628 = .ok (.lshl, 1) := by decide +kernel
theorem dL_law_629 : decode cL_law 629 = .ok (.aload_n 0, 1) := by decide +kernel
theorem dL_law_630 : decode cL_law 630 = .ok (.iload_n 3, 1) := by decide +kernel
theorem dL_law_631 : decode cL_law 631 = .ok (.iconst 3, 1) := by decide +kernel
theorem dL_law_632 : decode cL_law 632 = .ok (.iadd, 1) := by decide +kernel
theorem dL_law_633 : decode cL_law 633 = .ok (.iaload, 1) := by decide +kernel
theorem dL_law_634 : decode cL_law 634 = .ok (.i2l, 1) := by decide +kernel
theorem dL_law_635 : decode cL_law 635 = .ok (.ldc2_w 89, 3) := by decide +kernel
theorem dL_law_638 : decode cL_law 638 = .ok (.land, 1) := by decide +kernel
theorem dL_law_639 : decode cL_law 639 = .ok (.lor, 1) := by decide +kernel
theorem dL_law_640 : decode cL_law 640 = .ok (.invokevirtual 91, 3) := by decide +kernel
theorem dL_law_643 : decode cL_law 643 = .ok (.aload_n 2, 1) := by decide +kernel
theorem dL_law_644 : decode cL_law 644 = .ok (.aload_n 0, 1) := by decide +kernel
theorem dL_law_645 : decode cL_law 645 = .ok (.iload_n 3, 1) := by decide +kernel
theorem dL_law_646 : decode cL_law 646 = .ok (.iconst 1, 1) := by decide +kernel
theorem dL_law_647 : decode cL_law 647 = .ok (.iadd, 1) := by decide +kernel
theorem dL_law_648 : decode cL_law 648 = .ok (.iaload, 1) := by decide +kernel
theorem dL_law_649 : decode cL_law 649 = .ok (.aload_n 0, 1) := by decide +kernel
theorem dL_law_650 : decode cL_law 650 = .ok (.iload_n 3, 1) := by decide +kernel
theorem dL_law_651 : decode cL_law 651 = .ok (.iconst 2, 1) := by decide +kernel
theorem dL_law_652 : decode cL_law 652 = .ok (.iadd, 1) := by decide +kernel
theorem dL_law_653 : decode cL_law 653 = .ok (.iaload, 1) := by decide +kernel
theorem dL_law_654 : decode cL_law 654 = .ok (.i2l, 1) := by decide +kernel
theorem dL_law_655 : decode cL_law 655 = .ok (.bipush 32, 2) := by decide +kernel
theorem dL_law_657 : decode cL_law 657 = .ok (.lshl, 1) := by decide +kernel
theorem dL_law_658 : decode cL_law 658 = .ok (.aload_n 0, 1) := by decide +kernel
theorem dL_law_659 : decode cL_law 659 = .ok (.iload_n 3, 1) := by decide +kernel
theorem dL_law_660 : decode cL_law 660 = .ok (.iconst 3, 1) := by decide +kernel
theorem dL_law_661 : decode cL_law 661 = .ok (.iadd, 1) := by decide +kernel
theorem dL_law_662 : decode cL_law 662 = .ok (.iaload, 1) := by decide +kernel
theorem dL_law_663 : decode cL_law 663 = .ok (.i2l, 1) := by decide +kernel
theorem dL_law_664 : decode cL_law 664 = .ok (.ldc2_w 89, 3) := by decide +kernel
theorem dL_law_667 : decode cL_law 667 = .ok (.land, 1) := by decide +kernel
theorem dL_law_668 : decode cL_law 668 = .ok (.lor, 1) := by decide +kernel
theorem dL_law_669 : decode cL_law 669 = .ok (.invokevirtual 95, 3) := by decide +kernel
theorem dL_law_672 : decode cL_law 672 = .ok (.if_icmp .eq 368, 3) := by decide +kernel
theorem dL_law_675 : decode cL_law 675 = .ok (.iconst 0, 1) := by decide +kernel
theorem dL_law_676 : decode cL_law 676 = .ok (.ireturn, 1) := by decide +kernel
theorem dL_law_677 : decode cL_law 677 = .ok (.aload_n 1, 1) := by decide +kernel
theorem dL_law_678 : decode cL_law 678 = .ok (.aload_n 0, 1) := by decide +kernel
theorem dL_law_679 : decode cL_law 679 = .ok (.iload_n 3, 1) := by decide +kernel
theorem dL_law_680 : decode cL_law 680 = .ok (.iconst 1, 1) := by decide +kernel
theorem dL_law_681 : decode cL_law 681 = .ok (.iadd, 1) := by decide +kernel
theorem dL_law_682 : decode cL_law 682 = .ok (.iaload, 1) := by decide +kernel
theorem dL_law_683 : decode cL_law 683 = .ok (.aload_n 0, 1) := by decide +kernel
theorem dL_law_684 : decode cL_law 684 = .ok (.iload_n 3, 1) := by decide +kernel
theorem dL_law_685 : decode cL_law 685 = .ok (.iconst 2, 1) := by decide +kernel
theorem dL_law_686 : decode cL_law 686 = .ok (.iadd, 1) := by decide +kernel
theorem dL_law_687 : decode cL_law 687 = .ok (.iaload, 1) := by decide +kernel
theorem dL_law_688 : decode cL_law 688 = .ok (.ifCond .eq 7, 3) := by decide +kernel
theorem dL_law_691 : decode cL_law 691 = .ok (.iconst 1, 1) := by decide +kernel
theorem dL_law_692 : decode cL_law 692 = .ok (.goto 4, 3) := by decide +kernel
theorem dL_law_695 : decode cL_law 695 = .ok (.iconst 0, 1) := by decide +kernel
theorem dL_law_696 : decode cL_law 696 = .ok (.invokevirtual 96, 3) := by decide +kernel
theorem dL_law_699 : decode cL_law 699 = .ok (.aload_n 2, 1) := by decide +kernel
theorem dL_law_700 : decode cL_law 700 = .ok (.aload_n 0, 1) := by decide +kernel
theorem dL_law_701 : decode cL_law 701 = .ok (.iload_n 3, 1) := by decide +kernel
theorem dL_law_702 : decode cL_law 702 = .ok (.iconst 1, 1) := by decide +kernel
theorem dL_law_703 : decode cL_law 703 = .ok (.iadd, 1) := by decide +kernel
theorem dL_law_704 : decode cL_law 704 = .ok (.iaload, 1) := by decide +kernel
theorem dL_law_705 : decode cL_law 705 = .ok (.aload_n 0, 1) := by decide +kernel
theorem dL_law_706 : decode cL_law 706 = .ok (.iload_n 3, 1) := by decide +kernel
theorem dL_law_707 : decode cL_law 707 = .ok (.iconst 2, 1) := by decide +kernel
theorem dL_law_708 : decode cL_law 708 = .ok (.iadd, 1) := by decide +kernel
theorem dL_law_709 : decode cL_law 709 = .ok (.iaload, 1) := by decide +kernel
theorem dL_law_710 : decode cL_law 710 = .ok (.ifCond .eq 7, 3) := by decide +kernel
theorem dL_law_713 : decode cL_law 713 = .ok (.iconst 1, 1) := by decide +kernel
theorem dL_law_714 : decode cL_law 714 = .ok (.goto 4, 3) := by decide +kernel
theorem dL_law_717 : decode cL_law 717 = .ok (.iconst 0, 1) := by decide +kernel
theorem dL_law_718 : decode cL_law 718 = .ok (.invokevirtual 99, 3) := by decide +kernel
theorem dL_law_721 : decode cL_law 721 = .ok (.if_icmp .eq 319, 3) := by decide +kernel
theorem dL_law_724 : decode cL_law 724 = .ok (.iconst 0, 1) := by decide +kernel
theorem dL_law_725 : decode cL_law 725 = .ok (.ireturn, 1) := by decide +kernel
theorem dL_law_726 : decode cL_law 726 = .ok (.aload_n 1, 1) := by decide +kernel
theorem dL_law_727 : decode cL_law 727 = .ok (.aload_n 0, 1) := by decide +kernel
theorem dL_law_728 : decode cL_law 728 = .ok (.iload_n 3, 1) := by decide +kernel
theorem dL_law_729 : decode cL_law 729 = .ok (.iconst 1, 1) := by decide +kernel
theorem dL_law_730 : decode cL_law 730 = .ok (.iadd, 1) := by decide +kernel
theorem dL_law_731 : decode cL_law 731 = .ok (.iaload, 1) := by decide +kernel
theorem dL_law_732 : decode cL_law 732 = .ok (.aload_n 0, 1) := by decide +kernel
theorem dL_law_733 : decode cL_law 733 = .ok (.iload_n 3, 1) := by decide +kernel
theorem dL_law_734 : decode cL_law 734 = .ok (.iconst 2, 1) := by decide +kernel
theorem dL_law_735 : decode cL_law 735 = .ok (.iadd, 1) := by decide +kernel
theorem dL_law_736 : decode cL_law 736 = .ok (.iaload, 1) := by decide +kernel
theorem dL_law_737 : decode cL_law 737 = .ok (.aload_n 0, 1) := by decide +kernel
theorem dL_law_738 : decode cL_law 738 = .ok (.iload_n 3, 1) := by decide +kernel
theorem dL_law_739 : decode cL_law 739 = .ok (.iconst 3, 1) := by decide +kernel
theorem dL_law_740 : decode cL_law 740 = .ok (.iadd, 1) := by decide +kernel
theorem dL_law_741 : decode cL_law 741 = .ok (.iaload, 1) := by decide +kernel
theorem dL_law_742 : decode cL_law 742 = .ok (.invokevirtual 100, 3) := by decide +kernel
theorem dL_law_745 : decode cL_law 745 = .ok (.aload_n 2, 1) := by decide +kernel
theorem dL_law_746 : decode cL_law 746 = .ok (.aload_n 0, 1) := by decide +kernel
theorem dL_law_747 : decode cL_law 747 = .ok (.iload_n 3, 1) := by decide +kernel
theorem dL_law_748 : decode cL_law 748 = .ok (.iconst 1, 1) := by decide +kernel
theorem dL_law_749 : decode cL_law 749 = .ok (.iadd, 1) := by decide +kernel
theorem dL_law_750 : decode cL_law 750 = .ok (.iaload, 1) := by decide +kernel
theorem dL_law_751 : decode cL_law 751 = .ok (.aload_n 0, 1) := by decide +kernel
theorem dL_law_752 : decode cL_law 752 = .ok (.iload_n 3, 1) := by decide +kernel
theorem dL_law_753 : decode cL_law 753 = .ok (.iconst 2, 1) := by decide +kernel
theorem dL_law_754 : decode cL_law 754 = .ok (.iadd, 1) := by decide +kernel
theorem dL_law_755 : decode cL_law 755 = .ok (.iaload, 1) := by decide +kernel
theorem dL_law_756 : decode cL_law 756 = .ok (.aload_n 0, 1) := by decide +kernel
theorem dL_law_757 : decode cL_law 757 = .ok (.iload_n 3, 1) := by decide +kernel
theorem dL_law_758 : decode cL_law 758 = .ok (.iconst 3, 1) := by decide +kernel
theorem dL_law_759 : decode cL_law 759 = .ok (.iadd, 1) := by decide +kernel
theorem dL_law_760 : decode cL_law 760 = .ok (.iaload, 1) := by decide +kernel
theorem dL_law_761 : decode cL_law 761 = .ok (.invokevirtual 104, 3) := by decide +kernel
theorem dL_law_764 : decode cL_law 764 = .ok (.if_icmp .eq 276, 3) := by decide +kernel
theorem dL_law_767 : decode cL_law 767 = .ok (.iconst 0, 1) := by decide +kernel
theorem dL_law_768 : decode cL_law 768 = .ok (.ireturn, 1) := by decide +kernel
theorem dL_law_769 : decode cL_law 769 = .ok (.aload_n 1, 1) := by decide +kernel
theorem dL_law_770 : decode cL_law 770 = .ok (.invokevirtual 105, 3) := by decide +kernel
theorem dL_law_773 : decode cL_law 773 = .ok (.aload_n 2, 1) := by decide +kernel
theorem dL_law_774 : decode cL_law 774 = .ok (.invokevirtual 108, 3) := by decide +kernel
theorem dL_law_777 : decode cL_law 777 = .ok (.if_icmp .eq 263, 3) := by decide +kernel
theorem dL_law_780 : decode cL_law 780 = .ok (.iconst 0, 1) := by decide +kernel
theorem dL_law_781 : decode cL_law 781 = .ok (.ireturn, 1) := by decide +kernel
theorem dL_law_782 : decode cL_law 782 = .ok (.aload_n 1, 1) := by decide +kernel
theorem dL_law_783 : decode cL_law 783 = .ok (.aload_n 0, 1) := by decide +kernel
theorem dL_law_784 : decode cL_law 784 = .ok (.iload_n 3, 1) := by decide +kernel
theorem dL_law_785 : decode cL_law 785 = .ok (.iconst 1, 1) := by decide +kernel
theorem dL_law_786 : decode cL_law 786 = .ok (.iadd, 1) := by decide +kernel
theorem dL_law_787 : decode cL_law 787 = .ok (.iaload, 1) := by decide +kernel
theorem dL_law_788 : decode cL_law 788 = .ok (.invokevirtual 109, 3) := by decide +kernel
theorem dL_law_791 : decode cL_law 791 = .ok (.aload_n 2, 1) := by decide +kernel
theorem dL_law_792 : decode cL_law 792 = .ok (.aload_n 0, 1) := by decide +kernel
theorem dL_law_793 : decode cL_law 793 = .ok (.iload_n 3, 1) := by decide +kernel
theorem dL_law_794 : decode cL_law 794 = .ok (.iconst 1, 1) := by decide +kernel
theorem dL_law_795 : decode cL_law 795 = .ok (.iadd, 1) := by decide +kernel
theorem dL_law_796 : decode cL_law 796 = .ok (.iaload, 1) := by decide +kernel
theorem dL_law_797 : decode cL_law 797 = .ok (.invokevirtual 112, 3) := by decide +kernel
theorem dL_law_800 : decode cL_law 800 = .ok (.if_icmp .eq 240, 3) := by decide +kernel
theorem dL_law_803 : decode cL_law 803 = .ok (.iconst 0, 1) := by decide +kernel
theorem dL_law_804 : decode cL_law 804 = .ok (.ireturn, 1) := by decide +kernel
theorem dL_law_805 : decode cL_law 805 = .ok (.aload_n 1, 1) := by decide +kernel
theorem dL_law_806 : decode cL_law 806 = .ok (.aload_n 0, 1) := by decide +kernel
theorem dL_law_807 : decode cL_law 807 = .ok (.iload_n 3, 1) := by decide +kernel
theorem dL_law_808 : decode cL_law 808 = .ok (.iconst 1, 1) := by decide +kernel
theorem dL_law_809 : decode cL_law 809 = .ok (.iadd, 1) := by decide +kernel
theorem dL_law_810 : decode cL_law 810 = .ok (.iaload, 1) := by decide +kernel
theorem dL_law_811 : decode cL_law 811 = .ok (.aload_n 0, 1) := by decide +kernel
theorem dL_law_812 : decode cL_law 812 = .ok (.iload_n 3, 1) := by decide +kernel
theorem dL_law_813 : decode cL_law 813 = .ok (.iconst 2, 1) := by decide +kernel
theorem dL_law_814 : decode cL_law 814 = .ok (.iadd, 1) := by decide +kernel
theorem dL_law_815 : decode cL_law 815 = .ok (.iaload, 1) := by decide +kernel
theorem dL_law_816 : decode cL_law 816 = .ok (.aload_n 0, 1) := by decide +kernel
theorem dL_law_817 : decode cL_law 817 = .ok (.iload_n 3, 1) := by decide +kernel
theorem dL_law_818 : decode cL_law 818 = .ok (.iconst 3, 1) := by decide +kernel
theorem dL_law_819 : decode cL_law 819 = .ok (.iadd, 1) := by decide +kernel
theorem dL_law_820 : decode cL_law 820 = .ok (.iaload, 1) := by decide +kernel
theorem dL_law_821 : decode cL_law 821 = .ok (.invokevirtual 113, 3) := by decide +kernel
theorem dL_law_824 : decode cL_law 824 = .ok (.aload_n 2, 1) := by decide +kernel
theorem dL_law_825 : decode cL_law 825 = .ok (.aload_n 0, 1) := by decide +kernel
theorem dL_law_826 : decode cL_law 826 = .ok (.iload_n 3, 1) := by decide +kernel
theorem dL_law_827 : decode cL_law 827 = .ok (.iconst 1, 1) := by decide +kernel
theorem dL_law_828 : decode cL_law 828 = .ok (.iadd, 1) := by decide +kernel
theorem dL_law_829 : decode cL_law 829 = .ok (.iaload, 1) := by decide +kernel
theorem dL_law_830 : decode cL_law 830 = .ok (.aload_n 0, 1) := by decide +kernel
theorem dL_law_831 : decode cL_law 831 = .ok (.iload_n 3, 1) := by decide +kernel
theorem dL_law_832 : decode cL_law 832 = .ok (.iconst 2, 1) := by decide +kernel
theorem dL_law_833 : decode cL_law 833 = .ok (.iadd, 1) := by decide +kernel
theorem dL_law_834 : decode cL_law 834 = .ok (.iaload, 1) := by decide +kernel
theorem dL_law_835 : decode cL_law 835 = .ok (.aload_n 0, 1) := by decide +kernel
theorem dL_law_836 : decode cL_law 836 = .ok (.iload_n 3, 1) := by decide +kernel
theorem dL_law_837 : decode cL_law 837 = .ok (.iconst 3, 1) := by decide +kernel
theorem dL_law_838 : decode cL_law 838 = .ok (.iadd, 1) := by decide +kernel
theorem dL_law_839 : decode cL_law 839 = .ok (.iaload, 1) := by decide +kernel
theorem dL_law_840 : decode cL_law 840 = .ok (.invokevirtual 116, 3) := by decide +kernel
theorem dL_law_843 : decode cL_law 843 = .ok (.if_icmp .eq 197, 3) := by decide +kernel
theorem dL_law_846 : decode cL_law 846 = .ok (.iconst 0, 1) := by decide +kernel
theorem dL_law_847 : decode cL_law 847 = .ok (.ireturn, 1) := by decide +kernel
theorem dL_law_848 : decode cL_law 848 = .ok (.aload_n 1, 1) := by decide +kernel
theorem dL_law_849 : decode cL_law 849 = .ok (.aload_n 0, 1) := by decide +kernel
theorem dL_law_850 : decode cL_law 850 = .ok (.iload_n 3, 1) := by decide +kernel
theorem dL_law_851 : decode cL_law 851 = .ok (.iconst 1, 1) := by decide +kernel
theorem dL_law_852 : decode cL_law 852 = .ok (.iadd, 1) := by decide +kernel
theorem dL_law_853 : decode cL_law 853 = .ok (.iaload, 1) := by decide +kernel
theorem dL_law_854 : decode cL_law 854 = .ok (.aload_n 0, 1) := by decide +kernel
theorem dL_law_855 : decode cL_law 855 = .ok (.iload_n 3, 1) := by decide +kernel
theorem dL_law_856 : decode cL_law 856 = .ok (.iconst 2, 1) := by decide +kernel
theorem dL_law_857 : decode cL_law 857 = .ok (.iadd, 1) := by decide +kernel
theorem dL_law_858 : decode cL_law 858 = .ok (.iaload, 1) := by decide +kernel
theorem dL_law_859 : decode cL_law 859 = .ok (.aload_n 0, 1) := by decide +kernel
theorem dL_law_860 : decode cL_law 860 = .ok (.iload_n 3, 1) := by decide +kernel
theorem dL_law_861 : decode cL_law 861 = .ok (.iconst 3, 1) := by decide +kernel
theorem dL_law_862 : decode cL_law 862 = .ok (.iadd, 1) := by decide +kernel
theorem dL_law_863 : decode cL_law 863 = .ok (.iaload, 1) := by decide +kernel
theorem dL_law_864 : decode cL_law 864 = .ok (.aload_n 0, 1) := by decide +kernel
theorem dL_law_865 : decode cL_law 865 = .ok (.iload_n 3, 1) := by decide +kernel
theorem dL_law_866 : decode cL_law 866 = .ok (.iconst 4, 1) := by decide +kernel
theorem dL_law_867 : decode cL_law 867 = .ok (.iadd, 1) := by decide +kernel
theorem dL_law_868 : decode cL_law 868 = .ok (.iaload, 1) := by decide +kernel
theorem dL_law_869 : decode cL_law 869 = .ok (.ifCond .eq 7, 3) := by decide +kernel
theorem dL_law_872 : decode cL_law 872 = .ok (.iconst 1, 1) := by decide +kernel
theorem dL_law_873 : decode cL_law 873 = .ok (.goto 4, 3) := by decide +kernel
theorem dL_law_876 : decode cL_law 876 = .ok (.iconst 0, 1) := by decide +kernel
theorem dL_law_877 : decode cL_law 877 = .ok (.invokevirtual 117, 3) := by decide +kernel
theorem dL_law_880 : decode cL_law 880 = .ok (.aload_n 2, 1) := by decide +kernel
theorem dL_law_881 : decode cL_law 881 = .ok (.aload_n 0, 1) := by decide +kernel
theorem dL_law_882 : decode cL_law 882 = .ok (.iload_n 3, 1) := by decide +kernel
theorem dL_law_883 : decode cL_law 883 = .ok (.iconst 1, 1) := by decide +kernel
theorem dL_law_884 : decode cL_law 884 = .ok (.iadd, 1) := by decide +kernel
theorem dL_law_885 : decode cL_law 885 = .ok (.iaload, 1) := by decide +kernel
theorem dL_law_886 : decode cL_law 886 = .ok (.aload_n 0, 1) := by decide +kernel
theorem dL_law_887 : decode cL_law 887 = .ok (.iload_n 3, 1) := by decide +kernel
theorem dL_law_888 : decode cL_law 888 = .ok (.iconst 2, 1) := by decide +kernel
theorem dL_law_889 : decode cL_law 889 = .ok (.iadd, 1) := by decide +kernel
theorem dL_law_890 : decode cL_law 890 = .ok (.iaload, 1) := by decide +kernel
theorem dL_law_891 : decode cL_law 891 = .ok (.aload_n 0, 1) := by decide +kernel
theorem dL_law_892 : decode cL_law 892 = .ok (.iload_n 3, 1) := by decide +kernel
theorem dL_law_893 : decode cL_law 893 = .ok (.iconst 3, 1) := by decide +kernel
theorem dL_law_894 : decode cL_law 894 = .ok (.iadd, 1) := by decide +kernel
theorem dL_law_895 : decode cL_law 895 = .ok (.iaload, 1) := by decide +kernel
theorem dL_law_896 : decode cL_law 896 = .ok (.aload_n 0, 1) := by decide +kernel
theorem dL_law_897 : decode cL_law 897 = .ok (.iload_n 3, 1) := by decide +kernel
theorem dL_law_898 : decode cL_law 898 = .ok (.iconst 4, 1) := by decide +kernel
theorem dL_law_899 : decode cL_law 899 = .ok (.iadd, 1) := by decide +kernel
theorem dL_law_900 : decode cL_law 900 = .ok (.iaload, 1) := by decide +kernel
theorem dL_law_901 : decode cL_law 901 = .ok (.ifCond .eq 7, 3) := by decide +kernel
theorem dL_law_904 : decode cL_law 904 = .ok (.iconst 1, 1) := by decide +kernel
theorem dL_law_905 : decode cL_law 905 = .ok (.goto 4, 3) := by decide +kernel
theorem dL_law_908 : decode cL_law 908 = .ok (.iconst 0, 1) := by decide +kernel
theorem dL_law_909 : decode cL_law 909 = .ok (.invokevirtual 121, 3) := by decide +kernel
theorem dL_law_912 : decode cL_law 912 = .ok (.if_icmp .eq 128, 3) := by decide +kernel
theorem dL_law_915 : decode cL_law 915 = .ok (.iconst 0, 1) := by decide +kernel
theorem dL_law_916 : decode cL_law 916 = .ok (.ireturn, 1) := by decide +kernel
theorem dL_law_917 : decode cL_law 917 = .ok (.aload_n 1, 1) := by decide +kernel
theorem dL_law_918 : decode cL_law 918 = .ok (.aload_n 0, 1) := by decide +kernel
theorem dL_law_919 : decode cL_law 919 = .ok (.iload_n 3, 1) := by decide +kernel
theorem dL_law_920 : decode cL_law 920 = .ok (.iconst 1, 1) := by decide +kernel
theorem dL_law_921 : decode cL_law 921 = .ok (.iadd, 1) := by decide +kernel
theorem dL_law_922 : decode cL_law 922 = .ok (.iaload, 1) := by decide +kernel
theorem dL_law_923 : decode cL_law 923 = .ok (.i2l, 1) := by decide +kernel
theorem dL_law_924 : decode cL_law 924 = .ok (.bipush 32, 2) := by decide +kernel
theorem dL_law_926 : decode cL_law 926 = .ok (.lshl, 1) := by decide +kernel
theorem dL_law_927 : decode cL_law 927 = .ok (.aload_n 0, 1) := by decide +kernel
theorem dL_law_928 : decode cL_law 928 = .ok (.iload_n 3, 1) := by decide +kernel
theorem dL_law_929 : decode cL_law 929 = .ok (.iconst 2, 1) := by decide +kernel
theorem dL_law_930 : decode cL_law 930 = .ok (.iadd, 1) := by decide +kernel
theorem dL_law_931 : decode cL_law 931 = .ok (.iaload, 1) := by decide +kernel
theorem dL_law_932 : decode cL_law 932 = .ok (.i2l, 1) := by decide +kernel
theorem dL_law_933 : decode cL_law 933 = .ok (.ldc2_w 89, 3) := by decide +kernel
theorem dL_law_936 : decode cL_law 936 = .ok (.land, 1) := by decide +kernel
theorem dL_law_937 : decode cL_law 937 = .ok (.lor, 1) := by decide +kernel
theorem dL_law_938 : decode cL_law 938 = .ok (.invokevirtual 122, 3) := by decide +kernel
theorem dL_law_941 : decode cL_law 941 = .ok (.aload_n 2, 1) := by decide +kernel
theorem dL_law_942 : decode cL_law 942 = .ok (.aload_n 0, 1) := by decide +kernel
theorem dL_law_943 : decode cL_law 943 = .ok (.iload_n 3, 1) := by decide +kernel
theorem dL_law_944 : decode cL_law 944 = .ok (.iconst 1, 1) := by decide +kernel
theorem dL_law_945 : decode cL_law 945 = .ok (.iadd, 1) := by decide +kernel
theorem dL_law_946 : decode cL_law 946 = .ok (.iaload, 1) := by decide +kernel
theorem dL_law_947 : decode cL_law 947 = .ok (.i2l, 1) := by decide +kernel
theorem dL_law_948 : decode cL_law 948 = .ok (.bipush 32, 2) := by decide +kernel
theorem dL_law_950 : decode cL_law 950 = .ok (.lshl, 1) := by decide +kernel
theorem dL_law_951 : decode cL_law 951 = .ok (.aload_n 0, 1) := by decide +kernel
theorem dL_law_952 : decode cL_law 952 = .ok (.iload_n 3, 1) := by decide +kernel
theorem dL_law_953 : decode cL_law 953 = .ok (.iconst 2, 1) := by decide +kernel
theorem dL_law_954 : decode cL_law 954 = .ok (.iadd, 1) := by decide +kernel
theorem dL_law_955 : decode cL_law 955 = .ok (.iaload, 1) := by decide +kernel
theorem dL_law_956 : decode cL_law 956 = .ok (.i2l, 1) := by decide +kernel
theorem dL_law_957 : decode cL_law 957 = .ok (.ldc2_w 89, 3) := by decide +kernel
theorem dL_law_960 : decode cL_law 960 = .ok (.land, 1) := by decide +kernel
theorem dL_law_961 : decode cL_law 961 = .ok (.lor, 1) := by decide +kernel
theorem dL_law_962 : decode cL_law 962 = .ok (.invokevirtual 126, 3) := by decide +kernel
theorem dL_law_965 : decode cL_law 965 = .ok (.lcmp, 1) := by decide +kernel
theorem dL_law_966 : decode cL_law 966 = .ok (.ifCond .eq 74, 3) := by decide +kernel
theorem dL_law_969 : decode cL_law 969 = .ok (.iconst 0, 1) := by decide +kernel
theorem dL_law_970 : decode cL_law 970 = .ok (.ireturn, 1) := by decide +kernel
theorem dL_law_971 : decode cL_law 971 = .ok (.aload_n 1, 1) := by decide +kernel
theorem dL_law_972 : decode cL_law 972 = .ok (.aload_n 0, 1) := by decide +kernel
theorem dL_law_973 : decode cL_law 973 = .ok (.iload_n 3, 1) := by decide +kernel
theorem dL_law_974 : decode cL_law 974 = .ok (.iconst 1, 1) := by decide +kernel
theorem dL_law_975 : decode cL_law 975 = .ok (.iadd, 1) := by decide +kernel
theorem dL_law_976 : decode cL_law 976 = .ok (.iaload, 1) := by decide +kernel
theorem dL_law_977 : decode cL_law 977 = .ok (.invokevirtual 127, 3) := by decide +kernel
theorem dL_law_980 : decode cL_law 980 = .ok (.aload_n 2, 1) := by decide +kernel
theorem dL_law_981 : decode cL_law 981 = .ok (.aload_n 0, 1) := by decide +kernel
theorem dL_law_982 : decode cL_law 982 = .ok (.iload_n 3, 1) := by decide +kernel
theorem dL_law_983 : decode cL_law 983 = .ok (.iconst 1, 1) := by decide +kernel
theorem dL_law_984 : decode cL_law 984 = .ok (.iadd, 1) := by decide +kernel
theorem dL_law_985 : decode cL_law 985 = .ok (.iaload, 1) := by decide +kernel
theorem dL_law_986 : decode cL_law 986 = .ok (.invokevirtual 130, 3) := by decide +kernel
theorem dL_law_989 : decode cL_law 989 = .ok (.if_icmp .eq 51, 3) := by decide +kernel
theorem dL_law_992 : decode cL_law 992 = .ok (.iconst 0, 1) := by decide +kernel
theorem dL_law_993 : decode cL_law 993 = .ok (.ireturn, 1) := by decide +kernel
theorem dL_law_994 : decode cL_law 994 = .ok (.aload_n 1, 1) := by decide +kernel
theorem dL_law_995 : decode cL_law 995 = .ok (.aload_n 0, 1) := by decide +kernel
theorem dL_law_996 : decode cL_law 996 = .ok (.iload_n 3, 1) := by decide +kernel
theorem dL_law_997 : decode cL_law 997 = .ok (.iconst 1, 1) := by decide +kernel
theorem dL_law_998 : decode cL_law 998 = .ok (.iadd, 1) := by decide +kernel
theorem dL_law_999 : decode cL_law 999 = .ok (.iaload, 1) := by decide +kernel
theorem dL_law_1000 : decode cL_law 1000 = .ok (.invokevirtual 131, 3) := by decide +kernel
theorem dL_law_1003 : decode cL_law 1003 = .ok (.aload_n 2, 1) := by decide +kernel
theorem dL_law_1004 : decode cL_law 1004 = .ok (.aload_n 0, 1) := by decide +kernel
theorem dL_law_1005 : decode cL_law 1005 = .ok (.iload_n 3, 1) := by decide +kernel
theorem dL_law_1006 : decode cL_law 1006 = .ok (.iconst 1, 1) := by decide +kernel
theorem dL_law_1007 : decode cL_law 1007 = .ok (.iadd, 1) := by decide +kernel
theorem dL_law_1008 : decode cL_law 1008 = .ok (.iaload, 1) := by decide +kernel
theorem dL_law_1009 : decode cL_law 1009 = .ok (.invokevirtual 134, 3) := by decide +kernel
theorem dL_law_1012 : decode cL_law 1012 = .ok (.if_icmp .eq 28, 3) := by decide +kernel
theorem dL_law_1015 : decode cL_law 1015 = .ok (.iconst 0, 1) := by decide +kernel
theorem dL_law_1016 : decode cL_law 1016 = .ok (.ireturn, 1) := by decide +kernel
theorem dL_law_1017 : decode cL_law 1017 = .ok (.aload_n 1, 1) := by decide +kernel
theorem dL_law_1018 : decode cL_law 1018 = .ok (.aload_n 0, 1) := by decide +kernel
theorem dL_law_1019 : decode cL_law 1019 = .ok (.iload_n 3, 1) := by decide +kernel
theorem dL_law_1020 : decode cL_law 1020 = .ok (.iconst 1, 1) := by decide +kernel
theorem dL_law_1021 : decode cL_law 1021 = .ok (.iadd, 1) := by decide +kernel
theorem dL_law_1022 : decode cL_law 1022 = .ok (.iaload, 1) := by decide +kernel
theorem dL_law_1023 : decode cL_law 1023 = .ok (.invokevirtual 135, 3) := by decide +kernel
theorem dL_law_1026 : decode cL_law 1026 = .ok (.aload_n 2, 1) := by decide +kernel
theorem dL_law_1027 : decode cL_law 1027 = .ok (.aload_n 0, 1) := by decide +kernel
theorem dL_law_1028 : decode cL_law 1028 = .ok (.iload_n 3, 1) := by decide +kernel
theorem dL_law_1029 : decode cL_law 1029 = .ok (.iconst 1, 1) := by decide +kernel
theorem dL_law_1030 : decode cL_law 1030 = .ok (.iadd, 1) := by decide +kernel
theorem dL_law_1031 : decode cL_law 1031 = .ok (.iaload, 1) := by decide +kernel
theorem dL_law_1032 : decode cL_law 1032 = .ok (.invokevirtual 138, 3) := by decide +kernel
theorem dL_law_1035 : decode cL_law 1035 = .ok (.if_icmp .eq 5, 3) := by decide +kernel
theorem dL_law_1038 : decode cL_law 1038 = .ok (.iconst 0, 1) := by decide +kernel
theorem dL_law_1039 : decode cL_law 1039 = .ok (.ireturn, 1) := by decide +kernel
theorem dL_law_1040 : decode cL_law 1040 = .ok (.iinc 3 5, 3) := by decide +kernel
theorem dL_law_1043 : decode cL_law 1043 = .ok (.goto (-1025), 3) := by decide +kernel
theorem dL_law_1046 : decode cL_law 1046 = .ok (.iconst 1, 1) := by decide +kernel
theorem dL_law_1047 : decode cL_law 1047 = .ok (.ireturn, 1) := by decide +kernel
end
section
-- pure words of the literal functions; array rows of the two worlds; call rows with their words bundled
def b2i (b : Bool) : Int32 := if b then 1 else 0
theorem b2i_t : b2i true = 1 := rfl
theorem b2i_f : b2i false = 0 := rfl
theorem b2i_z (b : Bool) : b2i b = 0 ∨ b2i b = 1 := by cases b <;> simp [b2i]
theorem b2i_0 {b : Bool} : b2i b = 0 ↔ b = false := by cases b <;> simp [b2i]
theorem b2i_1 {b : Bool} : b2i b = 1 ↔ b = true := by cases b <;> simp [b2i]
theorem b2i_inj {b d : Bool} : b2i b = b2i d ↔ b = d := by cases b <;> cases d <;> simp [b2i]
def ib (i : Int32) (n : Nat) : Bool := decide (0 ≤ i.toInt ∧ i.toInt < n)
theorem vp_of_ib {i : Int32} {n : Nat} (h : ib i n = true) : vp_in i n := vp_in_iff.mpr (of_decide_eq_true h)
theorem ib_lt {i : Int32} {n : Nat} (h : ib i n = true) : i.toNatClampNeg < n := by
  have := of_decide_eq_true h
  show i.toInt.toNat < n
  omega
theorem ib_nI {j n : Nat} (h : j < n) (hn : n < 2 ^ 31) : ib (nI j) n = true := by
  unfold ib
  rw [nI_toInt (by omega)]
  simp
  exact h
theorem ib_iff {i : Int32} {n : Nat} : ib i n = true ↔ 0 ≤ i.toInt ∧ i.toInt < n := by unfold ib; simp
def ogd {α : Type} (c : Prop) (hc : Decidable c) (x : Option α) : Option α := @ite _ c hc x none
theorem ogd_some {α : Type} {c : Prop} {hc : Decidable c} {x : Option α} {y : α} (h : ogd c hc x = some y) : c ∧ x = some y := by
  unfold ogd at h
  by_cases g : c
  · rw [if_pos g] at h; exact ⟨g, h⟩
  · rw [if_neg g] at h; cases h
theorem ogd_pos {α : Type} {c : Prop} {hc : Decidable c} {x : Option α} (h : c) : ogd c hc x = x := if_pos h
def obd {α β γ : Type} (x : Option (α × β)) (f : α → β → Option γ) : Option γ := match x with
  | none => none
  | some z => f z.1 z.2
theorem obd_some {α β γ : Type} {x : Option (α × β)} {f : α → β → Option γ} {y : γ} (h : obd x f = some y) : ∃ r m, x = some (r, m) ∧ f r m = some y := by
  cases x with
  | none => cases h
  | some z => exact ⟨z.1, z.2, rfl, h⟩
theorem obd_of {α β γ : Type} {x : Option (α × β)} {f : α → β → Option γ} {r : α} {m : β} (h : x = some (r, m)) : obd x f = f r m := by subst h; rfl
theorem ip {α : Type} {c : Prop} {hc : Decidable c} {x y z : α} (h : c) (hq : @ite α c hc x y = z) : x = z := by rw [if_pos h] at hq; exact hq
theorem iq {α : Type} {c : Prop} {hc : Decidable c} {x y z : α} (h : ¬ c) (hq : @ite α c hc x y = z) : y = z := by rw [if_neg h] at hq; exact hq
theorem som2 {α β : Type} {a c : α} {b d : β} (h : some (a, b) = some (c, d)) : a = c ∧ b = d := by cases h; exact ⟨rfl, rfl⟩
abbrev FU : Nat := 400
theorem arr_2 : arr 2 1 0 48 := by unfold arr aI aR aO aN; decide
theorem arr_4 : arr 4 2 0 5 := by unfold arr aI aR aO aN; decide
theorem arr_5 : arr 5 3 0 5 := by unfold arr aI aR aO aN; decide
theorem arr_6 : arr 6 4 0 5 := by unfold arr aI aR aO aN; decide
theorem arr_7 : arr 7 5 0 5 := by unfold arr aI aR aO aN; decide
theorem arr_8 : arr 8 6 0 5 := by unfold arr aI aR aO aN; decide
theorem arr_14 : arr 14 7 0 6 := by unfold arr aI aR aO aN; decide
theorem arr_15 : arr 15 8 0 6 := by unfold arr aI aR aO aN; decide
def arD (k n : Nat) : Prop := 0 < k ∧ k < 16 ∧ k ≠ 10 ∧ lnM k = n
theorem arD_p {k : Nat} (h : k = 6 ∨ k = 7) : arD k 24 := by rcases h with rfl | rfl <;> exact ⟨by decide, by decide, by decide, by decide⟩
theorem cD_a {a : Nat → Nat} {cI cZ : ClassId} {M : MM} {k n : Nat} (h : arD k n) : cD a cI cZ M k = .inl (cI, n, .inl (fun j => M.1 k j)) := by rw [cD_arr h.1 h.2.2.1, h.2.2.2]
theorem cC_ast {a : Nat → Nat} {cI cS : ClassId} {M : MM} {k r o n j : Nat} {x : Int32} (h : arr k r o n) (hj : j < n) : ∀ i, i < 106 → ve (if i = k then .inl (cI, n, .inl (upd (fun c => M.1 r (o + c)) j x)) else cC a cI cS M i) (cC a cI cS (mU M r (o + j) x) i) := by
  refine cC_put ?_ ?_
  · obtain ⟨h1, rfl, rfl, rfl⟩ := h
    exact Or.inr (Or.inr (Or.inr (Or.inr (Or.inr (Or.inr ⟨h1, rfl, by omega, by omega⟩)))))
  · rw [cC_arr h]
    refine ve_arr (fun c hc => ?_)
    unfold upd
    by_cases e : c = j
    · subst e; rw [if_pos rfl, mU_at]
    · rw [if_neg e, mU_ne (by omega)]
theorem cD_ast {a : Nat → Nat} {cI cZ : ClassId} {M : MM} {k n j : Nat} {x : Int32} (h : arD k n) : ∀ i, i < 16 → ve (if i = k then .inl (cI, n, .inl (upd (fun c => M.1 k c) j x)) else cD a cI cZ M i) (cD a cI cZ (mU M k j x) i) := by
  refine cD_put ?_
  rw [cD_a h]
  refine ve_arr (fun c hc => ?_)
  unfold upd
  by_cases e : c = j
  · subst e; rw [if_pos rfl, mU_at]
  · rw [if_neg e, mU_ne (by omega)]
theorem cD_astZ {a : Nat → Nat} {cI cZ : ClassId} {M : MM} {j : Nat} {x : Int32} : ∀ i, i < 16 → ve (if i = 10 then .inl (cZ, 2, .inl (upd (fun c => M.1 10 c) j x)) else cD a cI cZ M i) (cD a cI cZ (mU M 10 j x) i) := by
  refine cD_put ?_
  rw [cD_arrZ]
  refine ve_arr (fun c hc => ?_)
  unfold upd
  by_cases e : c = j
  · subst e; rw [if_pos rfl, mU_at]
  · rw [if_neg e, mU_ne (by omega)]
def rcv (g : Nat → va_E) (n q : Nat) (cls : String) (cl : List vw_C) : Prop := q < n ∧ ∃ (ci : Nat) (fs : List Value) (rc : vw_C), g q = .inr (ci, fs) ∧ cl[ci]? = some rc ∧ rc.1 = cls
theorem rv_X0 {a : Nat → Nat} {cI cS : ClassId} {M : MM} : rcv (cC a cI cS M) 106 13 RX0 vwCl := ⟨by decide, 0, _, _, rfl, rfl, rfl⟩
theorem rv_X1 {a : Nat → Nat} {cI cS : ClassId} {M : MM} : rcv (cC a cI cS M) 106 9 RX1 vwCl := ⟨by decide, 1, _, _, rfl, rfl, rfl⟩
theorem rv_X2 {a : Nat → Nat} {cI cS : ClassId} {M : MM} : rcv (cC a cI cS M) 106 3 RX2 vwCl := ⟨by decide, 2, _, _, rfl, rfl, rfl⟩
theorem rv_X3 {a : Nat → Nat} {cI cS : ClassId} {M : MM} (i : Nat) (hi : i < 18) : rcv (cC a cI cS M) 106 (16 + 5 * i) RX3 vwCl := ⟨by omega, 3, _, _, cC_sc i, rfl, rfl⟩
theorem rv_X4 {a : Nat → Nat} {cI cS : ClassId} {M : MM} : rcv (cC a cI cS M) 106 1 RX4 vwCl := ⟨by decide, 4, _, _, rfl, rfl, rfl⟩
theorem rv_X5 {a : Nat → Nat} {cI cS : ClassId} {M : MM} : rcv (cC a cI cS M) 106 11 RX5 vwCl := ⟨by decide, 5, _, _, rfl, rfl, rfl⟩
theorem rv_X6 {a : Nat → Nat} {cI cS : ClassId} {M : MM} : rcv (cC a cI cS M) 106 0 RX6 vwCl := ⟨by decide, 6, _, _, rfl, rfl, rfl⟩
theorem rv_X7 {a : Nat → Nat} {cI cZ : ClassId} {M : MM} : rcv (cD a cI cZ M) 16 0 RX7 vwCl := ⟨by decide, 7, _, _, rfl, rfl, rfl⟩
def okV (y : MethodName) (bytes : ByteArray) (maxL : Nat) (rt : Option FieldType) (n : Nat) : Prop := Cond.instanceMethod y ∈ Wl ∧ Cond.selects y.cls y y ∈ Wl ∧ Cond.initialized y.cls ∈ Wl ∧ Cond.code y bytes maxL rt ∈ Wl ∧ y.cls ≠ "java/lang/invoke/MethodHandle" ∧ y.cls ≠ "java/lang/invoke/VarHandle" ∧ (parseMethodDescriptor y.desc).map (fun d => d.parameters.length) = some n
def okS (y : MethodName) (bytes : ByteArray) (maxL : Nat) (rt : Option FieldType) (n : Nat) : Prop := Cond.static y ∈ Wl ∧ Cond.initialized y.cls ∈ Wl ∧ Cond.code y bytes maxL rt ∈ Wl ∧ y.cls ≠ "java/lang/invoke/MethodHandle" ∧ y.cls ≠ "java/lang/invoke/VarHandle" ∧ (parseMethodDescriptor y.desc).map (fun d => d.parameters.length) = some n
section
variable {p : Program} {l : Launch} {e : Env} {R : Room} {s : State} {m : MethodId} {args : Array Value} {below : List Frame} {meth : Method} {c : Code} {cells slots : Nat} {Q : State → Prop} {dC : Nat → ClassId} {dI : Nat → Nat → Nat} {A0 : Nat → Prop} {H0 : Heap} {cc : ByteArray} {nL : Nat} {ret : Option FieldType} {own : String} {pc : Nat} {lv : List (Nat × Value)} {st : List Value} {a : Nat → Nat} {cI cZ cS : ClassId} {M : MM} {n : Nat} {g g2 : Nat → va_E}
theorem ga_ld (C : gC p s m args meth c cc nL ret own (dC, dI) vwCl (tyW cI cZ cS) A0 H0) {k r o N : Nat} (h : arr k r o N) {i : Int32} (hi : ib i N = true) (hd : decode cc pc = .ok (.iaload, 1)) (kk : gG p l e R s m args below meth c nL (dC, dI) vwCl A0 H0 cells slots Q (wC a cI cS M) (pc + 1) lv (.int (M.1 r (o + i.toNatClampNeg)) :: st)) : gG p l e R s m args below meth c nL (dC, dI) vwCl A0 H0 cells slots Q (wC a cI cS M) pc lv (.int i :: .ref (a k) :: st) :=
  g_iald C (t0 := 0) (cC_aN h) (cC_arr h) rfl (vp_of_ib hi) hd kk
theorem ga_st (C : gC p s m args meth c cc nL ret own (dC, dI) vwCl (tyW cI cZ cS) A0 H0) {k r o N : Nat} (h : arr k r o N) {i x : Int32} (hi : ib i N = true) (hd : decode cc pc = .ok (.iastore, 1)) (kk : gG p l e R s m args below meth c nL (dC, dI) vwCl A0 H0 cells slots Q (wC a cI cS (mU M r (o + i.toNatClampNeg) x)) (pc + 1) lv st) : gG p l e R s m args below meth c nL (dC, dI) vwCl A0 H0 cells slots Q (wC a cI cS M) pc lv (.int x :: .int i :: .ref (a k) :: st) :=
  g_iast C (t0 := 0) (cC_aN h) (cC_arr h) rfl (vp_of_ib hi) (cC_ast h (ib_lt hi)) hd kk
theorem ga_len (C : gC p s m args meth c cc nL ret own (dC, dI) vwCl (tyW cI cZ cS) A0 H0) {k r o N : Nat} (h : arr k r o N) (hd : decode cc pc = .ok (.arraylength, 1)) (kk : gG p l e R s m args below meth c nL (dC, dI) vwCl A0 H0 cells slots Q (wC a cI cS M) (pc + 1) lv (.int (nI N) :: st)) : gG p l e R s m args below meth c nL (dC, dI) vwCl A0 H0 cells slots Q (wC a cI cS M) pc lv (.ref (a k) :: st) :=
  g_alen C (t0 := 0) (x := (N, _)) (cC_aN h) (cC_arr h) rfl hd kk
theorem gb_ld (C : gC p s m args meth c cc nL ret own (dC, dI) vwCl (tyW cI cZ cS) A0 H0) {k N : Nat} (h : arD k N) {i : Int32} (hi : ib i N = true) (hd : decode cc pc = .ok (.iaload, 1)) (kk : gG p l e R s m args below meth c nL (dC, dI) vwCl A0 H0 cells slots Q (wD a cI cZ M) (pc + 1) lv (.int (M.1 k i.toNatClampNeg) :: st)) : gG p l e R s m args below meth c nL (dC, dI) vwCl A0 H0 cells slots Q (wD a cI cZ M) pc lv (.int i :: .ref (a k) :: st) :=
  g_iald C (t0 := 0) (h.2.1) (cD_a h) rfl (vp_of_ib hi) hd kk
theorem gb_st (C : gC p s m args meth c cc nL ret own (dC, dI) vwCl (tyW cI cZ cS) A0 H0) {k N : Nat} (h : arD k N) {i x : Int32} (hi : ib i N = true) (hd : decode cc pc = .ok (.iastore, 1)) (kk : gG p l e R s m args below meth c nL (dC, dI) vwCl A0 H0 cells slots Q (wD a cI cZ (mU M k i.toNatClampNeg x)) (pc + 1) lv st) : gG p l e R s m args below meth c nL (dC, dI) vwCl A0 H0 cells slots Q (wD a cI cZ M) pc lv (.int x :: .int i :: .ref (a k) :: st) :=
  g_iast C (t0 := 0) (h.2.1) (cD_a h) rfl (vp_of_ib hi) (cD_ast h) hd kk
theorem gb_len (C : gC p s m args meth c cc nL ret own (dC, dI) vwCl (tyW cI cZ cS) A0 H0) {k N : Nat} (h : arD k N) (hd : decode cc pc = .ok (.arraylength, 1)) (kk : gG p l e R s m args below meth c nL (dC, dI) vwCl A0 H0 cells slots Q (wD a cI cZ M) (pc + 1) lv (.int (nI N) :: st)) : gG p l e R s m args below meth c nL (dC, dI) vwCl A0 H0 cells slots Q (wD a cI cZ M) pc lv (.ref (a k) :: st) :=
  g_alen C (t0 := 0) (x := (N, _)) (h.2.1) (cD_a h) rfl hd kk
theorem gz_ld (C : gC p s m args meth c cc nL ret own (dC, dI) vwCl (tyW cI cZ cS) A0 H0) {i : Int32} (hi : ib i 2 = true) (hd : decode cc pc = .ok (.baload, 1)) (kk : gG p l e R s m args below meth c nL (dC, dI) vwCl A0 H0 cells slots Q (wD a cI cZ M) (pc + 1) lv (.int (M.1 10 i.toNatClampNeg) :: st)) : gG p l e R s m args below meth c nL (dC, dI) vwCl A0 H0 cells slots Q (wD a cI cZ M) pc lv (.int i :: .ref (a 10) :: st) :=
  g_zald C (k := 10) (t0 := 1) (by decide) cD_arrZ rfl (vp_of_ib hi) hd kk
theorem gz_st (C : gC p s m args meth c cc nL ret own (dC, dI) vwCl (tyW cI cZ cS) A0 H0) {i x : Int32} (hi : ib i 2 = true) (hd : decode cc pc = .ok (.bastore, 1)) (kk : gG p l e R s m args below meth c nL (dC, dI) vwCl A0 H0 cells slots Q (wD a cI cZ (mU M 10 i.toNatClampNeg (vp_nar .boolean x))) (pc + 1) lv st) : gG p l e R s m args below meth c nL (dC, dI) vwCl A0 H0 cells slots Q (wD a cI cZ M) pc lv (.int x :: .int i :: .ref (a 10) :: st) :=
  g_zast C (k := 10) (t0 := 1) (by decide) cD_arrZ rfl (vp_of_ib hi) cD_astZ hd kk
theorem gc_Vi (C : gC p s m args meth c cc nL ret own (dC, dI) vwCl (tyW cI cZ cS) A0 H0) {y : MethodName} {bytes : ByteArray} {maxL index fr lo : Nat} {rt : Option FieldType} {rest st0 : List Value} {As : List Value} {b : Nat} {q0 : Nat} {r : Int32} (hM : KQ l (dC, dI) vwCl (tyW cI cZ cS) y bytes maxL rt fr lo (.ref b :: As) (wF n a g) (qI (dC, dI) vwCl (wF n a g2) r)) (hlk : Cond.methodLink own index y ∈ Wl) (ok : okV y bytes maxL rt As.length) (hv : rcv g n q0 y.cls vwCl) (hb0 : b = a q0) (hR : fr + 1 ≤ R.frames ∧ 8 + (maxL + 11) + lo ≤ R.locals) (hf : cells + 0 ≤ R.cells ∧ slots + 0 ≤ R.slots) (hst : st0 = As.reverse ++ .ref b :: rest) (hro : (rest.map fun v => v.category).sum ≤ 8) (hd : decode cc pc = .ok (.invokevirtual index, 3)) (kk : gG p l e R s m args below meth c nL (dC, dI) vwCl A0 H0 cells slots Q (wF n a g2) (pc + 3) lv (.int r :: rest)) : gG p l e R s m args below meth c nL (dC, dI) vwCl A0 H0 cells slots Q (wF n a g) pc lv st0 :=
  (by obtain ⟨hk0, ci, fs, rc, hg0, hc0, hc1⟩ := hv; exact g_callV_i C (Cn := y.cls) (As := As) (b := b) (rest := rest) hM hlk ok.1 ok.2.1 ok.2.2.1 ok.2.2.2.1 ⟨rfl, ok.2.2.2.2.1, ok.2.2.2.2.2.1, ok.2.2.2.2.2.2⟩ hk0 hb0 hg0 hc0 hc1 hR hf hst hro hd kk)
theorem gc_Vl (C : gC p s m args meth c cc nL ret own (dC, dI) vwCl (tyW cI cZ cS) A0 H0) {y : MethodName} {bytes : ByteArray} {maxL index fr lo : Nat} {rt : Option FieldType} {rest st0 : List Value} {As : List Value} {b : Nat} {q0 : Nat} {r : Int64} (hM : KQ l (dC, dI) vwCl (tyW cI cZ cS) y bytes maxL rt fr lo (.ref b :: As) (wF n a g) (qL (dC, dI) vwCl (wF n a g2) r)) (hlk : Cond.methodLink own index y ∈ Wl) (ok : okV y bytes maxL rt As.length) (hv : rcv g n q0 y.cls vwCl) (hb0 : b = a q0) (hR : fr + 1 ≤ R.frames ∧ 8 + (maxL + 11) + lo ≤ R.locals) (hf : cells + 0 ≤ R.cells ∧ slots + 0 ≤ R.slots) (hst : st0 = As.reverse ++ .ref b :: rest) (hro : (rest.map fun v => v.category).sum ≤ 8) (hd : decode cc pc = .ok (.invokevirtual index, 3)) (kk : gG p l e R s m args below meth c nL (dC, dI) vwCl A0 H0 cells slots Q (wF n a g2) (pc + 3) lv (.long r :: rest)) : gG p l e R s m args below meth c nL (dC, dI) vwCl A0 H0 cells slots Q (wF n a g) pc lv st0 :=
  (by obtain ⟨hk0, ci, fs, rc, hg0, hc0, hc1⟩ := hv; exact g_callV_l C (Cn := y.cls) (As := As) (b := b) (rest := rest) hM hlk ok.1 ok.2.1 ok.2.2.1 ok.2.2.2.1 ⟨rfl, ok.2.2.2.2.1, ok.2.2.2.2.2.1, ok.2.2.2.2.2.2⟩ hk0 hb0 hg0 hc0 hc1 hR hf hst hro hd kk)
theorem gc_Vv (C : gC p s m args meth c cc nL ret own (dC, dI) vwCl (tyW cI cZ cS) A0 H0) {y : MethodName} {bytes : ByteArray} {maxL index fr lo : Nat} {rt : Option FieldType} {rest st0 : List Value} {As : List Value} {b : Nat} {q0 : Nat}  (hM : KQ l (dC, dI) vwCl (tyW cI cZ cS) y bytes maxL rt fr lo (.ref b :: As) (wF n a g) (qV (dC, dI) vwCl (wF n a g2))) (hlk : Cond.methodLink own index y ∈ Wl) (ok : okV y bytes maxL rt As.length) (hv : rcv g n q0 y.cls vwCl) (hb0 : b = a q0) (hR : fr + 1 ≤ R.frames ∧ 8 + (maxL + 11) + lo ≤ R.locals) (hf : cells + 0 ≤ R.cells ∧ slots + 0 ≤ R.slots) (hst : st0 = As.reverse ++ .ref b :: rest) (hro : (rest.map fun v => v.category).sum ≤ 8) (hd : decode cc pc = .ok (.invokevirtual index, 3)) (kk : gG p l e R s m args below meth c nL (dC, dI) vwCl A0 H0 cells slots Q (wF n a g2) (pc + 3) lv rest) : gG p l e R s m args below meth c nL (dC, dI) vwCl A0 H0 cells slots Q (wF n a g) pc lv st0 :=
  (by obtain ⟨hk0, ci, fs, rc, hg0, hc0, hc1⟩ := hv; exact g_callV_v C (Cn := y.cls) (As := As) (b := b) (rest := rest) hM hlk ok.1 ok.2.1 ok.2.2.1 ok.2.2.2.1 ⟨rfl, ok.2.2.2.2.1, ok.2.2.2.2.2.1, ok.2.2.2.2.2.2⟩ hk0 hb0 hg0 hc0 hc1 hR hf hst hro hd kk)
theorem gc_Si (C : gC p s m args meth c cc nL ret own (dC, dI) vwCl (tyW cI cZ cS) A0 H0) {y : MethodName} {bytes : ByteArray} {maxL index fr lo : Nat} {rt : Option FieldType} {rest st0 : List Value} {As : List Value} {r : Int32} (hM : KQ l (dC, dI) vwCl (tyW cI cZ cS) y bytes maxL rt fr lo As (wF n a g) (qI (dC, dI) vwCl (wF n a g2) r)) (hlk : Cond.methodLink own index y ∈ Wl) (ok : okS y bytes maxL rt As.length) (hR : fr + 1 ≤ R.frames ∧ 8 + (maxL + 11) + lo ≤ R.locals) (hf : cells + 0 ≤ R.cells ∧ slots + 0 ≤ R.slots) (hst : st0 = As.reverse ++ rest) (hro : (rest.map fun v => v.category).sum ≤ 8) (hd : decode cc pc = .ok (.invokestatic index, 3)) (kk : gG p l e R s m args below meth c nL (dC, dI) vwCl A0 H0 cells slots Q (wF n a g2) (pc + 3) lv (.int r :: rest)) : gG p l e R s m args below meth c nL (dC, dI) vwCl A0 H0 cells slots Q (wF n a g) pc lv st0 :=
  (g_callS_i C (As := As) (rest := rest) hM hlk ok.1 ok.2.1 ok.2.2.1 ⟨ok.2.2.2.1, ok.2.2.2.2.1, ok.2.2.2.2.2⟩ hR hf hst hro hd kk)
theorem gc_Sl (C : gC p s m args meth c cc nL ret own (dC, dI) vwCl (tyW cI cZ cS) A0 H0) {y : MethodName} {bytes : ByteArray} {maxL index fr lo : Nat} {rt : Option FieldType} {rest st0 : List Value} {As : List Value} {r : Int64} (hM : KQ l (dC, dI) vwCl (tyW cI cZ cS) y bytes maxL rt fr lo As (wF n a g) (qL (dC, dI) vwCl (wF n a g2) r)) (hlk : Cond.methodLink own index y ∈ Wl) (ok : okS y bytes maxL rt As.length) (hR : fr + 1 ≤ R.frames ∧ 8 + (maxL + 11) + lo ≤ R.locals) (hf : cells + 0 ≤ R.cells ∧ slots + 0 ≤ R.slots) (hst : st0 = As.reverse ++ rest) (hro : (rest.map fun v => v.category).sum ≤ 8) (hd : decode cc pc = .ok (.invokestatic index, 3)) (kk : gG p l e R s m args below meth c nL (dC, dI) vwCl A0 H0 cells slots Q (wF n a g2) (pc + 3) lv (.long r :: rest)) : gG p l e R s m args below meth c nL (dC, dI) vwCl A0 H0 cells slots Q (wF n a g) pc lv st0 :=
  (g_callS_l C (As := As) (rest := rest) hM hlk ok.1 ok.2.1 ok.2.2.1 ⟨ok.2.2.2.1, ok.2.2.2.2.1, ok.2.2.2.2.2⟩ hR hf hst hro hd kk)
theorem gc_Sv (C : gC p s m args meth c cc nL ret own (dC, dI) vwCl (tyW cI cZ cS) A0 H0) {y : MethodName} {bytes : ByteArray} {maxL index fr lo : Nat} {rt : Option FieldType} {rest st0 : List Value} {As : List Value}  (hM : KQ l (dC, dI) vwCl (tyW cI cZ cS) y bytes maxL rt fr lo As (wF n a g) (qV (dC, dI) vwCl (wF n a g2))) (hlk : Cond.methodLink own index y ∈ Wl) (ok : okS y bytes maxL rt As.length) (hR : fr + 1 ≤ R.frames ∧ 8 + (maxL + 11) + lo ≤ R.locals) (hf : cells + 0 ≤ R.cells ∧ slots + 0 ≤ R.slots) (hst : st0 = As.reverse ++ rest) (hro : (rest.map fun v => v.category).sum ≤ 8) (hd : decode cc pc = .ok (.invokestatic index, 3)) (kk : gG p l e R s m args below meth c nL (dC, dI) vwCl A0 H0 cells slots Q (wF n a g2) (pc + 3) lv rest) : gG p l e R s m args below meth c nL (dC, dI) vwCl A0 H0 cells slots Q (wF n a g) pc lv st0 :=
  (g_callS_v C (As := As) (rest := rest) hM hlk ok.1 ok.2.1 ok.2.2.1 ⟨ok.2.2.2.1, ok.2.2.2.2.1, ok.2.2.2.2.2⟩ hR hf hst hro hd kk)
theorem gc_Sq (C : gC p s m args meth c cc nL ret own (dC, dI) vwCl (tyW cI cZ cS) A0 H0) {y : MethodName} {bytes : ByteArray} {maxL index fr lo : Nat} {rt : Option FieldType} {rest st0 : List Value} {As : List Value} {r : Option Nat} (hM : KQ l (dC, dI) vwCl (tyW cI cZ cS) y bytes maxL rt fr lo As (wF n a g) (qR (dC, dI) vwCl (wF n a g2) r)) (hlk : Cond.methodLink own index y ∈ Wl) (ok : okS y bytes maxL rt As.length) (hR : fr + 1 ≤ R.frames ∧ 8 + (maxL + 11) + lo ≤ R.locals) (hf : cells + 0 ≤ R.cells ∧ slots + 0 ≤ R.slots) (hst : st0 = As.reverse ++ rest) (hro : (rest.map fun v => v.category).sum ≤ 8) (hd : decode cc pc = .ok (.invokestatic index, 3)) (kk : gG p l e R s m args below meth c nL (dC, dI) vwCl A0 H0 cells slots Q (wF n a g2) (pc + 3) lv (va_rf r :: rest)) : gG p l e R s m args below meth c nL (dC, dI) vwCl A0 H0 cells slots Q (wF n a g) pc lv st0 :=
  (g_callS_q C (As := As) (rest := rest) hM hlk ok.1 ok.2.1 ok.2.2.1 ⟨ok.2.2.2.1, ok.2.2.2.2.1, ok.2.2.2.2.2⟩ hR hf hst hro hd kk)
theorem gc_Ni (C : gC p s m args meth c cc nL ret own (dC, dI) vwCl (tyW cI cZ cS) A0 H0) {y : MethodName} {bytes : ByteArray} {maxL index fr lo : Nat} {rt : Option FieldType} {rest st0 : List Value} {As : List Value} {host : String} {r : Int32} (hM : KQ l (dC, dI) vwCl (tyW cI cZ cS) y bytes maxL rt fr lo As (wF n a g) (qI (dC, dI) vwCl (wF n a g2) r)) (hnl : Cond.methodLinkNest own index y host ∈ Nl) (ok : okS y bytes maxL rt As.length) (hR : fr + 1 ≤ R.frames ∧ 8 + (maxL + 11) + lo ≤ R.locals) (hf : cells + 0 ≤ R.cells ∧ slots + 0 ≤ R.slots) (hst : st0 = As.reverse ++ rest) (hro : (rest.map fun v => v.category).sum ≤ 8) (hd : decode cc pc = .ok (.invokestatic index, 3)) (kk : gG p l e R s m args below meth c nL (dC, dI) vwCl A0 H0 cells slots Q (wF n a g2) (pc + 3) lv (.int r :: rest)) : gG p l e R s m args below meth c nL (dC, dI) vwCl A0 H0 cells slots Q (wF n a g) pc lv st0 :=
  (g_callN_i C (As := As) (rest := rest) hM hnl ok.1 ok.2.1 ok.2.2.1 ⟨ok.2.2.2.1, ok.2.2.2.2.1, ok.2.2.2.2.2⟩ hR hf hst hro hd kk)
theorem gc_Nl (C : gC p s m args meth c cc nL ret own (dC, dI) vwCl (tyW cI cZ cS) A0 H0) {y : MethodName} {bytes : ByteArray} {maxL index fr lo : Nat} {rt : Option FieldType} {rest st0 : List Value} {As : List Value} {host : String} {r : Int64} (hM : KQ l (dC, dI) vwCl (tyW cI cZ cS) y bytes maxL rt fr lo As (wF n a g) (qL (dC, dI) vwCl (wF n a g2) r)) (hnl : Cond.methodLinkNest own index y host ∈ Nl) (ok : okS y bytes maxL rt As.length) (hR : fr + 1 ≤ R.frames ∧ 8 + (maxL + 11) + lo ≤ R.locals) (hf : cells + 0 ≤ R.cells ∧ slots + 0 ≤ R.slots) (hst : st0 = As.reverse ++ rest) (hro : (rest.map fun v => v.category).sum ≤ 8) (hd : decode cc pc = .ok (.invokestatic index, 3)) (kk : gG p l e R s m args below meth c nL (dC, dI) vwCl A0 H0 cells slots Q (wF n a g2) (pc + 3) lv (.long r :: rest)) : gG p l e R s m args below meth c nL (dC, dI) vwCl A0 H0 cells slots Q (wF n a g) pc lv st0 :=
  (g_callN_l C (As := As) (rest := rest) hM hnl ok.1 ok.2.1 ok.2.2.1 ⟨ok.2.2.2.1, ok.2.2.2.2.1, ok.2.2.2.2.2⟩ hR hf hst hro hd kk)
theorem gc_Nv (C : gC p s m args meth c cc nL ret own (dC, dI) vwCl (tyW cI cZ cS) A0 H0) {y : MethodName} {bytes : ByteArray} {maxL index fr lo : Nat} {rt : Option FieldType} {rest st0 : List Value} {As : List Value} {host : String}  (hM : KQ l (dC, dI) vwCl (tyW cI cZ cS) y bytes maxL rt fr lo As (wF n a g) (qV (dC, dI) vwCl (wF n a g2))) (hnl : Cond.methodLinkNest own index y host ∈ Nl) (ok : okS y bytes maxL rt As.length) (hR : fr + 1 ≤ R.frames ∧ 8 + (maxL + 11) + lo ≤ R.locals) (hf : cells + 0 ≤ R.cells ∧ slots + 0 ≤ R.slots) (hst : st0 = As.reverse ++ rest) (hro : (rest.map fun v => v.category).sum ≤ 8) (hd : decode cc pc = .ok (.invokestatic index, 3)) (kk : gG p l e R s m args below meth c nL (dC, dI) vwCl A0 H0 cells slots Q (wF n a g2) (pc + 3) lv rest) : gG p l e R s m args below meth c nL (dC, dI) vwCl A0 H0 cells slots Q (wF n a g) pc lv st0 :=
  (g_callN_v C (As := As) (rest := rest) hM hnl ok.1 ok.2.1 ok.2.2.1 ⟨ok.2.2.2.1, ok.2.2.2.2.1, ok.2.2.2.2.2⟩ hR hf hst hro hd kk)
theorem gc_Nq (C : gC p s m args meth c cc nL ret own (dC, dI) vwCl (tyW cI cZ cS) A0 H0) {y : MethodName} {bytes : ByteArray} {maxL index fr lo : Nat} {rt : Option FieldType} {rest st0 : List Value} {As : List Value} {host : String} {r : Option Nat} (hM : KQ l (dC, dI) vwCl (tyW cI cZ cS) y bytes maxL rt fr lo As (wF n a g) (qR (dC, dI) vwCl (wF n a g2) r)) (hnl : Cond.methodLinkNest own index y host ∈ Nl) (ok : okS y bytes maxL rt As.length) (hR : fr + 1 ≤ R.frames ∧ 8 + (maxL + 11) + lo ≤ R.locals) (hf : cells + 0 ≤ R.cells ∧ slots + 0 ≤ R.slots) (hst : st0 = As.reverse ++ rest) (hro : (rest.map fun v => v.category).sum ≤ 8) (hd : decode cc pc = .ok (.invokestatic index, 3)) (kk : gG p l e R s m args below meth c nL (dC, dI) vwCl A0 H0 cells slots Q (wF n a g2) (pc + 3) lv (va_rf r :: rest)) : gG p l e R s m args below meth c nL (dC, dI) vwCl A0 H0 cells slots Q (wF n a g) pc lv st0 :=
  (g_callN_q C (As := As) (rest := rest) hM hnl ok.1 ok.2.1 ok.2.2.1 ⟨ok.2.2.2.1, ok.2.2.2.2.1, ok.2.2.2.2.2⟩ hR hf hst hro hd kk)
end
theorem ok_X0_size : okV yX0_size cX0_size 1 (some .int) 0 := ⟨wl_329, wl_330, wl_39, wl_331, by decide, by decide, by decide +kernel⟩
theorem ok_X0_clear : okV yX0_clear cX0_clear 1 none 0 := ⟨wl_588, wl_589, wl_39, wl_590, by decide, by decide, by decide +kernel⟩
theorem ok_X0_add : okV yX0_add cX0_add 4 (some .boolean) 3 := ⟨wl_579, wl_580, wl_39, wl_581, by decide, by decide, by decide +kernel⟩
theorem ok_X0_isSo : okV yX0_isSo cX0_isSo 5 (some .boolean) 3 := ⟨wl_596, wl_597, wl_39, wl_598, by decide, by decide, by decide +kernel⟩
theorem ok_X0_isWetAt : okS yX0_isWetAt cX0_isWetAt 7 (some .boolean) 5 := ⟨wl_601, wl_39, wl_602, by decide, by decide, by decide +kernel⟩
theorem ok_X1_size : okV yX1_size cX1_size 1 (some .int) 0 := ⟨wl_325, wl_326, wl_37, wl_327, by decide, by decide, by decide +kernel⟩
theorem ok_X1_clear : okV yX1_clear cX1_clear 1 none 0 := ⟨wl_272, wl_273, wl_37, wl_274, by decide, by decide, by decide +kernel⟩
theorem ok_X1_add : okV yX1_add cX1_add 3 none 1 := ⟨wl_394, wl_395, wl_37, wl_396, by decide, by decide, by decide +kernel⟩
theorem ok_X1_takeLast : okV yX1_takeLast cX1_takeLast 3 none 1 := ⟨wl_471, wl_472, wl_37, wl_473, by decide, by decide, by decide +kernel⟩
theorem ok_X2_readFrom : okV yX2_readFrom cX2_readFrom 3 none 1 := ⟨wl_252, wl_253, wl_35, wl_254, by decide, by decide, by decide +kernel⟩
theorem ok_X2_walkerCount : okV yX2_walkerCount cX2_walkerCount 1 (some .int) 0 := ⟨wl_280, wl_281, wl_35, wl_282, by decide, by decide, by decide +kernel⟩
theorem ok_X2_needCount : okV yX2_needCount cX2_needCount 1 (some .int) 0 := ⟨wl_284, wl_285, wl_35, wl_286, by decide, by decide, by decide +kernel⟩
theorem ok_X2_hasWalker : okV yX2_hasWalker cX2_hasWalker 2 (some .boolean) 1 := ⟨wl_337, wl_338, wl_35, wl_339, by decide, by decide, by decide +kernel⟩
theorem ok_X2_hasNeed : okV yX2_hasNeed cX2_hasNeed 2 (some .boolean) 1 := ⟨wl_354, wl_355, wl_35, wl_356, by decide, by decide, by decide +kernel⟩
theorem ok_X2_homeOf : okV yX2_homeOf cX2_homeOf 2 (some .int) 1 := ⟨wl_264, wl_265, wl_35, wl_266, by decide, by decide, by decide +kernel⟩
theorem ok_X2_stuffOf : okV yX2_stuffOf cX2_stuffOf 2 (some .int) 1 := ⟨wl_307, wl_308, wl_35, wl_309, by decide, by decide, by decide +kernel⟩
theorem ok_X2_streetOfNeed : okV yX2_streetOfNeed cX2_streetOfNeed 2 (some .int) 1 := ⟨wl_358, wl_359, wl_35, wl_360, by decide, by decide, by decide +kernel⟩
theorem ok_X2_sortOfNeed : okV yX2_sortOfNeed cX2_sortOfNeed 2 (some .int) 1 := ⟨wl_362, wl_363, wl_35, wl_364, by decide, by decide, by decide +kernel⟩
theorem ok_X2_figureOfNeed : okV yX2_figureOfNeed cX2_figureOfNeed 2 (some .int) 1 := ⟨wl_366, wl_367, wl_35, wl_368, by decide, by decide, by decide +kernel⟩
theorem ok_X3_begin : okV yX3_begin cX3_begin 2 none 0 := ⟨wl_260, wl_261, wl_36, wl_262, by decide, by decide, by decide +kernel⟩
theorem ok_X3_copy : okV yX3_copy cX3_copy 2 none 1 := ⟨wl_401, wl_402, wl_36, wl_403, by decide, by decide, by decide +kernel⟩
theorem ok_X3_time : okV yX3_time cX3_time 1 (some .int) 0 := ⟨wl_292, wl_293, wl_36, wl_294, by decide, by decide, by decide +kernel⟩
theorem ok_X3_placeOf : okV yX3_placeOf cX3_placeOf 2 (some .int) 1 := ⟨wl_341, wl_342, wl_36, wl_343, by decide, by decide, by decide +kernel⟩
theorem ok_X3_lastsIn : okV yX3_lastsIn cX3_lastsIn 2 (some .int) 1 := ⟨wl_382, wl_383, wl_36, wl_384, by decide, by decide, by decide +kernel⟩
theorem ok_X3_wetnessOf : okV yX3_wetnessOf cX3_wetnessOf 2 (some .int) 1 := ⟨wl_378, wl_379, wl_36, wl_380, by decide, by decide, by decide +kernel⟩
theorem ok_X3_fateOf : okV yX3_fateOf cX3_fateOf 2 (some .int) 1 := ⟨wl_320, wl_321, wl_36, wl_322, by decide, by decide, by decide +kernel⟩
theorem ok_X3_openBits : okV yX3_openBits cX3_openBits 1 (some .int) 0 := ⟨wl_296, wl_297, wl_36, wl_298, by decide, by decide, by decide +kernel⟩
theorem ok_X3_shutBits : okV yX3_shutBits cX3_shutBits 1 (some .int) 0 := ⟨wl_521, wl_522, wl_36, wl_523, by decide, by decide, by decide +kernel⟩
theorem ok_X3_isOpen : okV yX3_isOpen cX3_isOpen 2 (some .boolean) 1 := ⟨wl_346, wl_347, wl_36, wl_348, by decide, by decide, by decide +kernel⟩
theorem ok_X3_openIn : okV yX3_openIn cX3_openIn 4 (some .int) 1 := ⟨wl_386, wl_387, wl_36, wl_388, by decide, by decide, by decide +kernel⟩
theorem ok_X3_rainBits : okV yX3_rainBits cX3_rainBits 4 (some .int) 0 := ⟨wl_300, wl_301, wl_36, wl_302, by decide, by decide, by decide +kernel⟩
theorem ok_X3_hailBits : okV yX3_hailBits cX3_hailBits 5 (some .int) 0 := ⟨wl_311, wl_312, wl_36, wl_313, by decide, by decide, by decide +kernel⟩
theorem ok_X3_needBits : okV yX3_needBits cX3_needBits 4 (some .int) 1 := ⟨wl_315, wl_316, wl_36, wl_317, by decide, by decide, by decide +kernel⟩
theorem ok_X3_keptCount : okV yX3_keptCount cX3_keptCount 1 (some .int) 0 := ⟨wl_510, wl_511, wl_36, wl_512, by decide, by decide, by decide +kernel⟩
theorem ok_X3_raise : okV yX3_raise cX3_raise 2 (some .boolean) 1 := ⟨wl_408, wl_409, wl_36, wl_410, by decide, by decide, by decide +kernel⟩
theorem ok_X3_raiseAll : okV yX3_raiseAll cX3_raiseAll 3 none 1 := ⟨wl_505, wl_506, wl_36, wl_507, by decide, by decide, by decide +kernel⟩
theorem ok_X3_lower : okV yX3_lower cX3_lower 2 (some .boolean) 1 := ⟨wl_427, wl_428, wl_36, wl_429, by decide, by decide, by decide +kernel⟩
theorem ok_X3_forget : okV yX3_forget cX3_forget 2 none 1 := ⟨wl_559, wl_560, wl_36, wl_561, by decide, by decide, by decide +kernel⟩
theorem ok_X3_lastAtLeast : okV yX3_lastAtLeast cX3_lastAtLeast 3 none 2 := ⟨wl_416, wl_1, wl_36, wl_417, by decide, by decide, by decide +kernel⟩
theorem ok_X3_place : okV yX3_place cX3_place 3 none 2 := ⟨wl_445, wl_446, wl_36, wl_447, by decide, by decide, by decide +kernel⟩
theorem ok_X3_canMove : okV yX3_canMove cX3_canMove 3 (some .boolean) 2 := ⟨wl_435, wl_436, wl_36, wl_437, by decide, by decide, by decide +kernel⟩
theorem ok_X3_move : okV yX3_move cX3_move 3 (some .boolean) 2 := ⟨wl_440, wl_441, wl_36, wl_442, by decide, by decide, by decide +kernel⟩
theorem ok_X3_passHours : okV yX3_passHours cX3_passHours 3 none 1 := ⟨wl_480, wl_481, wl_36, wl_482, by decide, by decide, by decide +kernel⟩
theorem ok_X3_passHour : okV yX3_passHour cX3_passHour 4 (some .int) 0 := ⟨wl_453, wl_454, wl_36, wl_455, by decide, by decide, by decide +kernel⟩
theorem ok_X3_fateInHour : okV yX3_fateInHour cX3_fateInHour 5 (some .int) 2 := ⟨wl_461, wl_2, wl_36, wl_462, by decide, by decide, by decide +kernel⟩
theorem ok_X4_length : okV yX4_length cX4_length 1 (some .int) 0 := ⟨wl_213, wl_214, wl_34, wl_215, by decide, by decide, by decide +kernel⟩
theorem ok_X4_clear : okV yX4_clear cX4_clear 1 none 0 := ⟨wl_221, wl_222, wl_34, wl_223, by decide, by decide, by decide +kernel⟩
theorem ok_X4_append : okV yX4_append cX4_append 2 (some .boolean) 1 := ⟨wl_206, wl_207, wl_34, wl_208, by decide, by decide, by decide +kernel⟩
theorem ok_X4_byteAt : okV yX4_byteAt cX4_byteAt 2 (some .int) 1 := ⟨wl_233, wl_234, wl_34, wl_235, by decide, by decide, by decide +kernel⟩
theorem ok_X4_figureAt : okV yX4_figureAt cX4_figureAt 2 (some .int) 1 := ⟨wl_244, wl_245, wl_34, wl_246, by decide, by decide, by decide +kernel⟩
theorem ok_X4_firstFault : okV yX4_firstFault cX4_firstFault 8 (some .int) 0 := ⟨wl_229, wl_230, wl_34, wl_231, by decide, by decide, by decide +kernel⟩
theorem ok_X4_isFitting : okV yX4_isFitting cX4_isFitting 6 (some .boolean) 2 := ⟨wl_241, wl_0, wl_34, wl_242, by decide, by decide, by decide +kernel⟩
theorem ok_X5_clear : okV yX5_clear cX5_clear 1 none 0 := ⟨wl_276, wl_277, wl_38, wl_278, by decide, by decide, by decide +kernel⟩
theorem ok_X5_store : okV yX5_store cX5_store 4 none 2 := ⟨wl_648, wl_649, wl_38, wl_650, by decide, by decide, by decide +kernel⟩
theorem ok_X5_fetch : okV yX5_fetch cX5_fetch 4 (some .boolean) 2 := ⟨wl_658, wl_659, wl_38, wl_660, by decide, by decide, by decide +kernel⟩
theorem ok_X6_write : okV yX6_write cX6_write 2 (some .int) 1 := ⟨wl_202, wl_203, wl_33, wl_204, by decide, by decide, by decide +kernel⟩
theorem ok_X6_wipe : okV yX6_wipe cX6_wipe 2 (some .int) 0 := ⟨wl_217, wl_218, wl_33, wl_219, by decide, by decide, by decide +kernel⟩
theorem ok_X6_fault : okV yX6_fault cX6_fault 1 (some .int) 0 := ⟨wl_225, wl_226, wl_33, wl_227, by decide, by decide, by decide +kernel⟩
theorem ok_X6_town : okV yX6_town cX6_town 1 (some .int) 0 := ⟨wl_248, wl_249, wl_33, wl_250, by decide, by decide, by decide +kernel⟩
theorem ok_X6_about : okV yX6_about cX6_about 2 (some .int) 1 := ⟨wl_288, wl_289, wl_33, wl_290, by decide, by decide, by decide +kernel⟩
theorem ok_X6_walker : okV yX6_walker cX6_walker 3 (some .int) 2 := ⟨wl_333, wl_334, wl_33, wl_335, by decide, by decide, by decide +kernel⟩
theorem ok_X6_need : okV yX6_need cX6_need 3 (some .int) 2 := ⟨wl_350, wl_351, wl_33, wl_352, by decide, by decide, by decide +kernel⟩
theorem ok_X6_street : okV yX6_street cX6_street 3 (some .int) 2 := ⟨wl_371, wl_372, wl_33, wl_373, by decide, by decide, by decide +kernel⟩
theorem ok_X6_open : okV yX6_open cX6_open 2 (some .int) 1 := ⟨wl_390, wl_391, wl_33, wl_392, by decide, by decide, by decide +kernel⟩
theorem ok_X6_shut : okV yX6_shut cX6_shut 2 (some .int) 1 := ⟨wl_423, wl_424, wl_33, wl_425, by decide, by decide, by decide +kernel⟩
theorem ok_X6_walk : okV yX6_walk cX6_walk 3 (some .int) 2 := ⟨wl_431, wl_432, wl_33, wl_433, by decide, by decide, by decide +kernel⟩
theorem ok_X6_hour : okV yX6_hour cX6_hour 1 (some .int) 0 := ⟨wl_449, wl_450, wl_33, wl_451, by decide, by decide, by decide +kernel⟩
theorem ok_X6_undo : okV yX6_undo cX6_undo 1 (some .int) 0 := ⟨wl_467, wl_468, wl_33, wl_469, by decide, by decide, by decide +kernel⟩
theorem ok_X6_wet : okV yX6_wet cX6_wet 3 (some .int) 2 := ⟨wl_475, wl_476, wl_33, wl_477, by decide, by decide, by decide +kernel⟩
theorem ok_X6_needs : okV yX6_needs cX6_needs 3 (some .int) 2 := ⟨wl_485, wl_486, wl_33, wl_487, by decide, by decide, by decide +kernel⟩
theorem ok_X6_dry : okV yX6_dry cX6_dry 3 (some .int) 1 := ⟨wl_492, wl_493, wl_33, wl_494, by decide, by decide, by decide +kernel⟩
theorem ok_X6_asked : okV yX6_asked cX6_asked 7 (some .int) 1 := ⟨wl_497, wl_498, wl_33, wl_499, by decide, by decide, by decide +kernel⟩
theorem ok_X6_sent : okV yX6_sent cX6_sent 7 (some .int) 2 := ⟨wl_530, wl_531, wl_33, wl_532, by decide, by decide, by decide +kernel⟩
theorem ok_X6_judge : okV yX6_judge cX6_judge 6 (some .int) 2 := ⟨wl_539, wl_540, wl_33, wl_541, by decide, by decide, by decide +kernel⟩
theorem ok_X6_share : okV yX6_share cX6_share 8 (some .int) 2 := ⟨wl_551, wl_552, wl_33, wl_553, by decide, by decide, by decide +kernel⟩
theorem ok_X6_feel : okV yX6_feel cX6_feel 4 (some .int) 3 := ⟨wl_575, wl_576, wl_33, wl_577, by decide, by decide, by decide +kernel⟩
theorem ok_X6_unfeel : okV yX6_unfeel cX6_unfeel 2 (some .int) 0 := ⟨wl_584, wl_585, wl_33, wl_586, by decide, by decide, by decide +kernel⟩
theorem ok_X6_may : okV yX6_may cX6_may 7 (some .int) 1 := ⟨wl_592, wl_593, wl_33, wl_594, by decide, by decide, by decide +kernel⟩
theorem ok_X6_rests : okV yX6_rests cX6_rests 9 (some .int) 3 := ⟨wl_607, wl_608, wl_33, wl_609, by decide, by decide, by decide +kernel⟩
theorem ok_X6_sudden : okV yX6_sudden cX6_sudden 10 (some .int) 4 := ⟨wl_619, wl_620, wl_33, wl_621, by decide, by decide, by decide +kernel⟩
theorem ok_X6_seed : okV yX6_seed cX6_seed 5 (some .long) 1 := ⟨wl_626, wl_627, wl_33, wl_628, by decide, by decide, by decide +kernel⟩
theorem ok_X6_weeks : okV yX6_weeks cX6_weeks 4 (some .int) 1 := ⟨wl_630, wl_631, wl_33, wl_632, by decide, by decide, by decide +kernel⟩
theorem ok_X6_keep : okV yX6_keep cX6_keep 2 (some .int) 1 := ⟨wl_641, wl_642, wl_33, wl_643, by decide, by decide, by decide +kernel⟩
theorem ok_X6_again : okV yX6_again cX6_again 2 (some .int) 1 := ⟨wl_654, wl_655, wl_33, wl_656, by decide, by decide, by decide +kernel⟩
theorem ok_X6_keptIfOpened : okV yX6_keptIfOpened cX6_keptIfOpened 2 (some .int) 1 := ⟨wl_502, wl_3, wl_33, wl_503, by decide, by decide, by decide +kernel⟩
theorem ok_X6_keptIfSent : okV yX6_keptIfSent cX6_keptIfSent 3 (some .int) 2 := ⟨wl_535, wl_4, wl_33, wl_536, by decide, by decide, by decide +kernel⟩
theorem ok_X6_keptIfCome : okV yX6_keptIfCome cX6_keptIfCome 2 (some .int) 1 := ⟨wl_556, wl_6, wl_33, wl_557, by decide, by decide, by decide +kernel⟩
theorem ok_X6_comesTrue : okV yX6_comesTrue cX6_comesTrue 4 (some .boolean) 3 := ⟨wl_548, wl_5, wl_33, wl_549, by decide, by decide, by decide +kernel⟩
theorem ok_X6_doByChance : okV yX6_doByChance cX6_doByChance 2 none 1 := ⟨wl_638, wl_9, wl_33, wl_639, by decide, by decide, by decide +kernel⟩
theorem ok_X6_isContent : okV yX6_isContent cX6_isContent 5 (some .boolean) 4 := ⟨wl_612, wl_7, wl_33, wl_613, by decide, by decide, by decide +kernel⟩
theorem ok_X6_gain : okV yX6_gain cX6_gain 8 (some .int) 4 := ⟨wl_616, wl_8, wl_33, wl_617, by decide, by decide, by decide +kernel⟩
theorem ok_X6_isStreet : okS yX6_isStreet cX6_isStreet 1 (some .boolean) 1 := ⟨wl_375, wl_33, wl_376, by decide, by decide, by decide +kernel⟩
theorem ok_X6_isSlot : okS yX6_isSlot cX6_isSlot 1 (some .boolean) 1 := ⟨wl_645, wl_33, wl_646, by decide, by decide, by decide +kernel⟩
theorem ok_X6_isChoice : okS yX6_isChoice cX6_isChoice 1 (some .boolean) 1 := ⟨wl_489, wl_33, wl_490, by decide, by decide, by decide +kernel⟩
theorem ok_X6_has : okS yX6_has cX6_has 2 (some .boolean) 2 := ⟨wl_304, wl_33, wl_305, by decide, by decide, by decide +kernel⟩
theorem ok_X6_isWithin : okS yX6_isWithin cX6_isWithin 2 (some .boolean) 2 := ⟨wl_526, wl_33, wl_527, by decide, by decide, by decide +kernel⟩
theorem ok_X6_at : okS yX6_at cX6_at 2 (some .int) 2 := ⟨wl_237, wl_33, wl_238, by decide, by decide, by decide +kernel⟩
theorem ok_X6_put : okS yX6_put cX6_put 3 none 3 := ⟨wl_210, wl_33, wl_211, by decide, by decide, by decide +kernel⟩
theorem ok_X6_withoutLast : okS yX6_withoutLast cX6_withoutLast 6 (some .long) 2 := ⟨wl_543, wl_33, wl_544, by decide, by decide, by decide +kernel⟩
theorem ok_X6_ordersOf : okS yX6_ordersOf cX6_ordersOf 3 (some .int) 1 := ⟨wl_563, wl_33, wl_564, by decide, by decide, by decide +kernel⟩
theorem ok_X6_power : okS yX6_power cX6_power 4 (some .int) 2 := ⟨wl_623, wl_33, wl_624, by decide, by decide, by decide +kernel⟩
theorem ok_X6_partOf : okS yX6_partOf cX6_partOf 4 (some .int) 3 := ⟨wl_566, wl_33, wl_567, by decide, by decide, by decide +kernel⟩
theorem ok_X6_commonDivisor : okS yX6_commonDivisor cX6_commonDivisor 6 (some .int) 2 := ⟨wl_572, wl_33, wl_573, by decide, by decide, by decide +kernel⟩
theorem ok_X6_scenes : okS yX6_scenes cX6_scenes 4 (some (.array (.object "FirstUmbrella$Scene"))) 2 := ⟨wl_130, wl_33, wl_131, by decide, by decide, by decide +kernel⟩
theorem ok_X6_sceneAt : okS yX6_sceneAt cX6_sceneAt 2 (some (.object "FirstUmbrella$Scene")) 2 := ⟨wl_398, wl_33, wl_399, by decide, by decide, by decide +kernel⟩
theorem ok_X7_in : okS yX7_in cX7_in 6 (some .boolean) 3 := ⟨wl_769, wl_40, wl_770, by decide, by decide, by decide +kernel⟩
theorem ok_X7_has : okS yX7_has cX7_has 2 (some .boolean) 2 := ⟨wl_812, wl_40, wl_813, by decide, by decide, by decide +kernel⟩
theorem ok_X7_many : okS yX7_many cX7_many 3 (some .int) 1 := ⟨wl_927, wl_40, wl_928, by decide, by decide, by decide +kernel⟩
theorem ok_X7_power : okS yX7_power cX7_power 4 (some .int) 2 := ⟨wl_994, wl_40, wl_995, by decide, by decide, by decide +kernel⟩
theorem ok_X7_noWalker : okV yX7_noWalker cX7_noWalker 2 (some .boolean) 1 := ⟨wl_832, wl_19, wl_40, wl_833, by decide, by decide, by decide +kernel⟩
theorem ok_X7_noStreet : okS yX7_noStreet cX7_noStreet 1 (some .boolean) 1 := ⟨wl_844, wl_40, wl_845, by decide, by decide, by decide +kernel⟩
theorem ok_X7_write : okV yX7_write cX7_write 2 (some .int) 1 := ⟨wl_764, wl_765, wl_40, wl_766, by decide, by decide, by decide +kernel⟩
theorem ok_X7_wipe : okV yX7_wipe cX7_wipe 2 (some .int) 0 := ⟨wl_772, wl_773, wl_40, wl_774, by decide, by decide, by decide +kernel⟩
theorem ok_X7_figure : okV yX7_figure cX7_figure 3 (some .int) 2 := ⟨wl_793, wl_13, wl_40, wl_794, by decide, by decide, by decide +kernel⟩
theorem ok_X7_readOneWalker : okV yX7_readOneWalker cX7_readOneWalker 3 (some .boolean) 0 := ⟨wl_789, wl_12, wl_40, wl_790, by decide, by decide, by decide +kernel⟩
theorem ok_X7_readOneNeed : okV yX7_readOneNeed cX7_readOneNeed 4 (some .boolean) 0 := ⟨wl_797, wl_14, wl_40, wl_798, by decide, by decide, by decide +kernel⟩
theorem ok_X7_readThing : okV yX7_readThing cX7_readThing 2 (some .boolean) 0 := ⟨wl_785, wl_11, wl_40, wl_786, by decide, by decide, by decide +kernel⟩
theorem ok_X7_readTown : okV yX7_readTown cX7_readTown 1 (some .int) 0 := ⟨wl_781, wl_10, wl_40, wl_782, by decide, by decide, by decide +kernel⟩
theorem ok_X7_fault : okV yX7_fault cX7_fault 1 (some .int) 0 := ⟨wl_776, wl_777, wl_40, wl_778, by decide, by decide, by decide +kernel⟩
theorem ok_X7_town : okV yX7_town cX7_town 2 (some .int) 0 := ⟨wl_800, wl_801, wl_40, wl_802, by decide, by decide, by decide +kernel⟩
theorem ok_X7_openIn : okV yX7_openIn cX7_openIn 5 (some .int) 2 := ⟨wl_820, wl_17, wl_40, wl_821, by decide, by decide, by decide +kernel⟩
theorem ok_X7_rainOf : okV yX7_rainOf cX7_rainOf 5 (some .int) 1 := ⟨wl_809, wl_15, wl_40, wl_810, by decide, by decide, by decide +kernel⟩
theorem ok_X7_hailOf : okV yX7_hailOf cX7_hailOf 4 (some .int) 1 := ⟨wl_816, wl_16, wl_40, wl_817, by decide, by decide, by decide +kernel⟩
theorem ok_X7_greater : okS yX7_greater cX7_greater 2 (some .int) 2 := ⟨wl_860, wl_40, wl_861, by decide, by decide, by decide +kernel⟩
theorem ok_X7_goOpen : okV yX7_goOpen cX7_goOpen 4 none 2 := ⟨wl_857, wl_21, wl_40, wl_858, by decide, by decide, by decide +kernel⟩
theorem ok_X7_goShut : okV yX7_goShut cX7_goShut 4 none 2 := ⟨wl_868, wl_22, wl_40, wl_869, by decide, by decide, by decide +kernel⟩
theorem ok_X7_stateThen : okV yX7_stateThen cX7_stateThen 7 (some .int) 3 := ⟨wl_887, wl_24, wl_40, wl_888, by decide, by decide, by decide +kernel⟩
theorem ok_X7_goHour : okV yX7_goHour cX7_goHour 5 (some .int) 1 := ⟨wl_883, wl_23, wl_40, wl_884, by decide, by decide, by decide +kernel⟩
theorem ok_X7_goHours : okV yX7_goHours cX7_goHours 3 none 1 := ⟨wl_904, wl_26, wl_40, wl_905, by decide, by decide, by decide +kernel⟩
theorem ok_X7_needsThat : okV yX7_needsThat cX7_needsThat 5 (some .int) 2 := ⟨wl_824, wl_18, wl_40, wl_825, by decide, by decide, by decide +kernel⟩
theorem ok_X7_about : okV yX7_about cX7_about 2 (some .int) 1 := ⟨wl_804, wl_805, wl_40, wl_806, by decide, by decide, by decide +kernel⟩
theorem ok_X7_walker : okV yX7_walker cX7_walker 3 (some .int) 2 := ⟨wl_827, wl_828, wl_40, wl_829, by decide, by decide, by decide +kernel⟩
theorem ok_X7_need : okV yX7_need cX7_need 3 (some .int) 2 := ⟨wl_835, wl_836, wl_40, wl_837, by decide, by decide, by decide +kernel⟩
theorem ok_X7_street : okV yX7_street cX7_street 3 (some .int) 2 := ⟨wl_840, wl_841, wl_40, wl_842, by decide, by decide, by decide +kernel⟩
theorem ok_X7_note : okV yX7_note cX7_note 2 none 0 := ⟨wl_853, wl_20, wl_40, wl_854, by decide, by decide, by decide +kernel⟩
theorem ok_X7_open : okV yX7_open cX7_open 2 (some .int) 1 := ⟨wl_848, wl_849, wl_40, wl_850, by decide, by decide, by decide +kernel⟩
theorem ok_X7_shut : okV yX7_shut cX7_shut 2 (some .int) 1 := ⟨wl_863, wl_864, wl_40, wl_865, by decide, by decide, by decide +kernel⟩
theorem ok_X7_canWalk : okS yX7_canWalk cX7_canWalk 3 (some .boolean) 3 := ⟨wl_875, wl_40, wl_876, by decide, by decide, by decide +kernel⟩
theorem ok_X7_walk : okV yX7_walk cX7_walk 4 (some .int) 2 := ⟨wl_871, wl_872, wl_40, wl_873, by decide, by decide, by decide +kernel⟩
theorem ok_X7_hour : okV yX7_hour cX7_hour 1 (some .int) 0 := ⟨wl_878, wl_879, wl_40, wl_880, by decide, by decide, by decide +kernel⟩
theorem ok_X7_undo : okV yX7_undo cX7_undo 2 (some .int) 0 := ⟨wl_890, wl_891, wl_40, wl_892, by decide, by decide, by decide +kernel⟩
theorem ok_X7_begin : okV yX7_begin cX7_begin 2 none 0 := ⟨wl_900, wl_25, wl_40, wl_901, by decide, by decide, by decide +kernel⟩
theorem ok_X7_wet : okV yX7_wet cX7_wet 3 (some .int) 2 := ⟨wl_894, wl_895, wl_40, wl_896, by decide, by decide, by decide +kernel⟩
theorem ok_X7_needs : okV yX7_needs cX7_needs 3 (some .int) 2 := ⟨wl_907, wl_908, wl_40, wl_909, by decide, by decide, by decide +kernel⟩
theorem ok_X7_dry : okV yX7_dry cX7_dry 3 (some .int) 1 := ⟨wl_911, wl_912, wl_40, wl_913, by decide, by decide, by decide +kernel⟩
theorem ok_X7_keptThen : okV yX7_keptThen cX7_keptThen 1 (some .int) 0 := ⟨wl_924, wl_28, wl_40, wl_925, by decide, by decide, by decide +kernel⟩
theorem ok_X7_openAll : okV yX7_openAll cX7_openAll 3 none 1 := ⟨wl_920, wl_27, wl_40, wl_921, by decide, by decide, by decide +kernel⟩
theorem ok_X7_asked : okV yX7_asked cX7_asked 4 (some .int) 1 := ⟨wl_915, wl_916, wl_40, wl_917, by decide, by decide, by decide +kernel⟩
theorem ok_X7_sent : okV yX7_sent cX7_sent 5 (some .int) 2 := ⟨wl_930, wl_931, wl_40, wl_932, by decide, by decide, by decide +kernel⟩
theorem ok_X7_longPower : okS yX7_longPower cX7_longPower 6 (some .long) 2 := ⟨wl_940, wl_40, wl_941, by decide, by decide, by decide +kernel⟩
theorem ok_X7_does : okV yX7_does cX7_does 5 (some .boolean) 1 := ⟨wl_944, wl_29, wl_40, wl_945, by decide, by decide, by decide +kernel⟩
theorem ok_X7_judge : okV yX7_judge cX7_judge 5 (some .int) 2 := ⟨wl_934, wl_935, wl_40, wl_936, by decide, by decide, by decide +kernel⟩
theorem ok_X7_ways : okS yX7_ways cX7_ways 3 (some .int) 1 := ⟨wl_951, wl_40, wl_952, by decide, by decide, by decide +kernel⟩
theorem ok_X7_divisor : okS yX7_divisor cX7_divisor 5 (some .int) 2 := ⟨wl_957, wl_40, wl_958, by decide, by decide, by decide +kernel⟩
theorem ok_X7_fraction : okS yX7_fraction cX7_fraction 4 (some .int) 3 := ⟨wl_954, wl_40, wl_955, by decide, by decide, by decide +kernel⟩
theorem ok_X7_share : okV yX7_share cX7_share 6 (some .int) 2 := ⟨wl_947, wl_948, wl_40, wl_949, by decide, by decide, by decide +kernel⟩
theorem ok_X7_feel : okV yX7_feel cX7_feel 4 (some .int) 3 := ⟨wl_960, wl_961, wl_40, wl_962, by decide, by decide, by decide +kernel⟩
theorem ok_X7_unfeel : okV yX7_unfeel cX7_unfeel 2 (some .int) 0 := ⟨wl_965, wl_966, wl_40, wl_967, by decide, by decide, by decide +kernel⟩
theorem ok_X7_rainsBy : okS yX7_rainsBy cX7_rainsBy 6 (some .boolean) 5 := ⟨wl_977, wl_40, wl_978, by decide, by decide, by decide +kernel⟩
theorem ok_X7_findMay : okV yX7_findMay cX7_findMay 7 none 0 := ⟨wl_974, wl_30, wl_40, wl_975, by decide, by decide, by decide +kernel⟩
theorem ok_X7_may : okV yX7_may cX7_may 2 (some .int) 1 := ⟨wl_969, wl_970, wl_40, wl_971, by decide, by decide, by decide +kernel⟩
theorem ok_X7_gainOf : okV yX7_gainOf cX7_gainOf 4 (some .int) 2 := ⟨wl_986, wl_31, wl_40, wl_987, by decide, by decide, by decide +kernel⟩
theorem ok_X7_rests : okV yX7_rests cX7_rests 6 (some .int) 3 := ⟨wl_981, wl_982, wl_40, wl_983, by decide, by decide, by decide +kernel⟩
theorem ok_X7_sudden : okV yX7_sudden cX7_sudden 9 (some .int) 4 := ⟨wl_989, wl_990, wl_40, wl_991, by decide, by decide, by decide +kernel⟩
theorem ok_X7_seed : okV yX7_seed cX7_seed 5 (some .long) 1 := ⟨wl_997, wl_998, wl_40, wl_999, by decide, by decide, by decide +kernel⟩
theorem ok_X7_weeks : okV yX7_weeks cX7_weeks 5 (some .int) 1 := ⟨wl_1001, wl_1002, wl_40, wl_1003, by decide, by decide, by decide +kernel⟩
theorem ok_X7_keep : okV yX7_keep cX7_keep 3 (some .int) 1 := ⟨wl_1009, wl_1010, wl_40, wl_1011, by decide, by decide, by decide +kernel⟩
theorem ok_X7_again : okV yX7_again cX7_again 3 (some .int) 1 := ⟨wl_1013, wl_1014, wl_40, wl_1015, by decide, by decide, by decide +kernel⟩
theorem ok_J6_bitCount_0f7a4 : okS yJ6_bitCount_0f7a4 cJ6_bitCount_0f7a4 1 (some .int) 1 := ⟨wl_515, wl_44, wl_516, by decide, by decide, by decide +kernel⟩
theorem ok_J9_abs_0f7a4 : okS yJ9_abs_0f7a4 cJ9_abs_0f7a4 1 (some .int) 1 := ⟨wl_569, wl_43, wl_570, by decide, by decide, by decide +kernel⟩
theorem ok_J9_max_7cf53 : okS yJ9_max_7cf53 cJ9_max_7cf53 2 (some .int) 2 := ⟨wl_419, wl_43, wl_420, by decide, by decide, by decide +kernel⟩
theorem ok_J7_fill_53178 : okS yJ7_fill_53178 cJ7_fill_53178 4 none 2 := ⟨wl_269, wl_41, wl_270, by decide, by decide, by decide +kernel⟩
end
section
section
variable {p : Program} {l : Launch} {e : Env} {R : Room} {s : State} {m : MethodId} {args : Array Value} {below : List Frame} {meth : Method} {c : Code} {cells slots : Nat} {Q : State → Prop} {D : va_G} {cl : List vw_C} {tys : List (ClassId × FieldType)} {A0 : Nat → Prop} {H0 : Heap} {cc : ByteArray} {nL : Nat} {ret : Option FieldType} {own : String} {w : va_W} {pc : Nat} {lv : List (Nat × Value)} {st : List Value} {n : Nat} {a : Nat → Nat} {g g2 : Nat → va_E}
theorem g_ve (hu : ∀ i, i < n → ve (g i) (g2 i)) (k : gG p l e R s m args below meth c nL D cl A0 H0 cells slots Q (wF n a g2) pc lv st) : gG p l e R s m args below meth c nL D cl A0 H0 cells slots Q (wF n a g) pc lv st := by
  intro H locs ls hP hD hS hl
  refine k H locs ls ?_ (wF_D hD) hS hl
  intro i q hq
  obtain ⟨hi, rfl⟩ := wF_inv hq
  exact hu i hi D cl (a i) H (hP i _ (wF_get hi))
theorem g_aload_n_null (C : gC p s m args meth c cc nL ret own D cl tys A0 H0) {k4 : Fin 4} {i : Nat} (hd : decode cc pc = .ok (.aload_n k4, 1)) (j : Nat) (hi : (k4 : Nat) = i) (hj : lv[j]? = some (i, .null)) (k : gG p l e R s m args below meth c nL D cl A0 H0 cells slots Q w (pc + 1) lv (.null :: st)) : gG p l e R s m args below meth c nL D cl A0 H0 cells slots Q w pc lv st :=
  fun H locs ls hP hD hS hl => lv_aload_nN C.1 C.2.1 hd hi (lv_at hl j hj) (k H locs ls hP hD hS hl)
theorem g_astore_n_null (C : gC p s m args meth c cc nL ret own D cl tys A0 H0) {k4 : Fin 4} {i : Nat} {lv2 : List (Nat × Value)} (hd : decode cc pc = .ok (.astore_n k4, 1)) (hi : (k4 : Nat) = i) (hn : i < nL) (he : (i, Value.null) :: lv.filter (fun q => !(q.1 == i) && !(q.1 + 1 == i && q.2.category == 2)) = lv2) (k : gG p l e R s m args below meth c nL D cl A0 H0 cells slots Q w (pc + 1) lv2 st) : gG p l e R s m args below meth c nL D cl A0 H0 cells slots Q w pc lv (.null :: st) :=
  fun H locs ls hP hD hS hl => lv_astore_nN C.1 C.2.1 hd hi hl hn he (fun ls2 hl2 => k H locs ls2 hP hD hS hl2)
theorem g_ifnull_null (C : gC p s m args meth c cc nL ret own D cl tys A0 H0) {off : Int} {tgt : Nat} (hd : decode cc pc = .ok (.ifnull off, 3)) (ht : (pc : Int) + off = (tgt : Int)) (k : gG p l e R s m args below meth c nL D cl A0 H0 cells slots Q w tgt lv st) : gG p l e R s m args below meth c nL D cl A0 H0 cells slots Q w pc lv (.null :: st) :=
  fun H locs ls hP hD hS hl => lv_ifnullN C.1 C.2.1 hd ht (k H locs ls hP hD hS hl)
theorem g_ifnull_ref (C : gC p s m args meth c cc nL ret own D cl tys A0 H0) {off : Int} {x : Nat} (hd : decode cc pc = .ok (.ifnull off, 3)) (k : gG p l e R s m args below meth c nL D cl A0 H0 cells slots Q w (pc + 3) lv st) : gG p l e R s m args below meth c nL D cl A0 H0 cells slots Q w pc lv (.ref x :: st) :=
  fun H locs ls hP hD hS hl => lv_ifnull C.1 C.2.1 hd (k H locs ls hP hD hS hl)
end
-- array copies
def mC (M : MM) (rd od rs os n : Nat) : MM := (fun r c => if r = rd ∧ od ≤ c ∧ c < od + n then M.1 rs (os + (c - od)) else M.1 r c, M.2)
theorem cC_mC {a : Nat → Nat} {cI cS : ClassId} {M : MM} {k r o n rs os : Nat} (h : arr k r o n) : ∀ i, i < 106 → ve (if i = k then .inl (cI, n, .inl (va_cpy (fun c => M.1 rs (os + c)) (fun c => M.1 r (o + c)) 0 0 n)) else cC a cI cS M i) (cC a cI cS (mC M r o rs os n) i) := by
  intro i hi
  by_cases hik : i = k
  · subst hik
    rw [if_pos rfl, cC_arr h]
    refine ve_arr (fun c hc => ?_)
    show va_cpy _ _ 0 0 n c = (if r = r ∧ o ≤ o + c ∧ o + c < o + n then M.1 rs (os + (o + c - o)) else M.1 r (o + c))
    rw [if_pos ⟨rfl, by omega, by omega⟩, pk_cpy_in (by omega) (by omega)]
    exact congrArg (M.1 rs) (by omega)
  · rw [if_neg hik]
    refine cC_ve hi (Or.inl rfl) (fun r2 c2 h2 => ?_)
    refine if_neg (fun q => hik (own_one h2 ?_))
    obtain ⟨h1, rfl, rfl, rfl⟩ := h
    exact Or.inr (Or.inr (Or.inr (Or.inr (Or.inr (Or.inr ⟨h1, q.1, by omega, by omega⟩)))))
theorem arr_n {k r o n : Nat} (h : arr k r o n) : n ≤ 48 := by
  obtain ⟨-, -, -, h⟩ := h
  unfold aN at h
  repeat' split at h
  all_goals omega
section
variable {p : Program} {l : Launch} {e : Env} {R : Room} {s : State} {m : MethodId} {args : Array Value} {below : List Frame} {meth : Method} {c : Code} {cells slots : Nat} {Q : State → Prop} {dC : Nat → ClassId} {dI : Nat → Nat → Nat} {A0 : Nat → Prop} {H0 : Heap} {cc : ByteArray} {nL : Nat} {ret : Option FieldType} {own : String} {pc : Nat} {lv : List (Nat × Value)} {st : List Value} {a : Nat → Nat} {cI cZ cS : ClassId} {M : MM}
theorem ga_copy (C : gC p s m args meth c cc nL ret own (dC, dI) vwCl (tyW cI cZ cS) A0 H0) {index k0 r0 o0 n0 k1 r1 o1 n1 : Nat} (hlk : Cond.methodLink own index arraycopyName ∈ Wl) (hna : Cond.native arraycopyName ∈ Wl) (hst : Cond.static arraycopyName ∈ Wl) (hini : Cond.initialized "java/lang/System" ∈ Wl) (h0 : arr k0 r0 o0 n0) (h1 : arr k1 r1 o1 n1) (hn : n1 ≤ n0) (hR : 1 ≤ R.frames ∧ (st.map fun v => v.category).sum + (nativeFrameWords "java/lang/System" "arraycopy" 5 + 11) ≤ R.locals) (hd : decode cc pc = .ok (.invokestatic index, 3)) (kk : gG p l e R s m args below meth c nL (dC, dI) vwCl A0 H0 cells slots Q (wC a cI cS (mC M r1 o1 r0 o0 n1)) (pc + 3) lv st) : gG p l e R s m args below meth c nL (dC, dI) vwCl A0 H0 cells slots Q (wC a cI cS M) pc lv (.int (nI n1) :: .int 0 :: .ref (a k1) :: .int 0 :: .ref (a k0) :: st) := by
  have hb := arr_n h1
  refine g_copyi C (t0 := 0) (t1 := 0) hlk hna hst hini (cC_aN h0) (cC_aN h1) (cC_arr h0) (cC_arr h1) rfl rfl (by decide) (by decide) (nI_pos (by omega)) ?_ ?_ hR ?_ hd kk
  · rw [nI_clamp (by omega)]; show 0 + n1 ≤ n0; omega
  · rw [nI_clamp (by omega)]; show 0 + n1 ≤ n1; omega
  · rw [nI_clamp (by omega)]; exact cC_mC h1
end
-- a scene out of a row of scenes
abbrev sA (k N b : Nat) : Prop := (k = 10 ∧ N = 14 ∧ b = 2) ∨ (k = 12 ∧ N = 2 ∧ b = 16)
def scAt (N b : Nat) (x : Int32) : Option Nat := if ib x N = true then some (b + x.toNatClampNeg) else none
def osc {β : Type} (x : Option Nat) (f : β) (h : Nat → β) : β := match x with
  | none => f
  | some j => h j
theorem scAt_lt {N b : Nat} {x : Int32} {j : Nat} (h : scAt N b x = some j) (hb : b + N ≤ 18) : j < 18 := by
  unfold scAt at h
  by_cases q : ib x N = true
  · rw [if_pos q] at h
    have := ib_lt q
    cases h
    omega
  · rw [if_neg q] at h; cases h
theorem ib_neg {x : Int32} {n : Nat} (h : x < 0) : ib x n = false := by
  unfold ib
  have := Int32.lt_iff_toInt_lt.mp h
  simp at this ⊢
  omega
theorem ib_big {x : Int32} {n : Nat} (hn : n < 2 ^ 31) (h : nI n ≤ x) : ib x n = false := by
  unfold ib
  have := Int32.le_iff_toInt_le.mp h
  rw [nI_toInt hn] at this
  simp
  omega
theorem ib_mid {x : Int32} {n : Nat} (hn : n < 2 ^ 31) (h0 : ¬ x < 0) (h : ¬ nI n ≤ x) : ib x n = true := by
  unfold ib
  have h1 := Int32.not_lt.mp h0
  have h1 := Int32.le_iff_toInt_le.mp h1
  have h2 := Int32.lt_iff_toInt_lt.mp (Int32.not_le.mp h)
  rw [nI_toInt hn] at h2
  simp at h1 ⊢
  omega
set_option maxHeartbeats 4000000 in
set_option maxRecDepth 100000 in
theorem k_X6_sceneAt {l : Launch} {dC : Nat → ClassId} {dI : Nat → Nat → Nat} {a : Nat → Nat} {cI cZ cS : ClassId} (k N b : Nat) (hS : sA k N b) (x1 : Int32) (M : MM) : KQ l (dC, dI) vwCl (tyW cI cZ cS) yX6_sceneAt cX6_sceneAt 2 (some (.object "FirstUmbrella$Scene")) 0 0 [.ref (a k), .int x1] (wC a cI cS M) (qR (dC, dI) vwCl (wC a cI cS M) ((scAt N b x1).map (fun j => a (16 + 5 * j)))) := by
  have hg : cC a cI cS M k = .inl (cS, N, .inr (.inr (.inr (.inr (fun j => some (a (16 + 5 * (b + j)))))))) := by rcases hS with ⟨rfl, rfl, rfl⟩ | ⟨rfl, rfl, rfl⟩ <;> rfl
  have hk : k < 106 := by omega
  have hN : N < 2 ^ 31 := by omega
  refine KQ.of (by decide) (Nat.le_of_ble_eq_true rfl) rfl ?_
  intro p e s m args below meth c A0 C
  refine g_iload_n C dX6_sceneAt_0 1 rfl rfl ?_
  refine g_if_lt C (tgt := 16) dX6_sceneAt_1 (by decide) (fun c1 => ?_) (fun c1 => ?_)
  · refine g_null C dX6_sceneAt_16 ?_
    refine g_aret C (v := none) dX6_sceneAt_17 ?_ rfl
    unfold scAt
    rw [ib_neg c1]; rfl
  · refine g_iload_n C dX6_sceneAt_4 1 rfl rfl ?_
    refine g_aload_n C dX6_sceneAt_5 0 rfl rfl ?_
    refine g_alen C (t0 := 2) hk hg rfl dX6_sceneAt_6 ?_
    refine g_icmp_ge C (tgt := 16) dX6_sceneAt_7 (by decide) (fun c2 => ?_) (fun c2 => ?_)
    · refine g_null C dX6_sceneAt_16 ?_
      refine g_aret C (v := none) dX6_sceneAt_17 ?_ rfl
      unfold scAt
      rw [ib_big hN c2]; rfl
    · have hi := ib_mid hN c1 c2
      refine g_aload_n C dX6_sceneAt_10 0 rfl rfl ?_
      refine g_iload_n C dX6_sceneAt_11 1 rfl rfl ?_
      refine g_aldq C (t0 := 2) hk hg rfl (vp_of_ib hi) dX6_sceneAt_12 ?_
      refine g_goto C (tgt := 17) dX6_sceneAt_13 (by decide) ?_
      refine g_aret C dX6_sceneAt_17 ?_ rfl
      unfold scAt
      rw [if_pos hi]; rfl

def q_X6_at (r0 : Nat) (o0 : Nat) (n0 : Nat) (x1 : Int32) (M : MM) : Option (Int32 × MM) := (if x1 < 0 then (some ((0 : Int32), M)) else (if (nI n0) ≤ x1 then (some ((0 : Int32), M)) else (ogd (ib x1 n0 = true) inferInstance (some ((M.1 r0 (o0 + x1.toNatClampNeg)), M)))))
set_option maxHeartbeats 4000000 in
set_option maxRecDepth 100000 in
theorem k_X6_at {l : Launch} {dC : Nat → ClassId} {dI : Nat → Nat → Nat} {a : Nat → Nat} {cI cZ cS : ClassId} (k0 r0 o0 n0 : Nat) (hA0 : arr k0 r0 o0 n0) (x1 : Int32) (M M2 : MM) (r : Int32) (hq : q_X6_at r0 o0 n0 x1 M = some (r, M2)) : KQ l (dC, dI) vwCl (tyW cI cZ cS) yX6_at cX6_at 2 (some .int) 0 0 [.ref (a k0), .int x1] (wC a cI cS M) (qI (dC, dI) vwCl (wC a cI cS M2) r) := by
  refine KQ.of (by decide) (Nat.le_of_ble_eq_true rfl) rfl ?_
  intro p e s m args below meth c A0 C
  unfold q_X6_at at hq
  refine g_iload_n C dX6_at_0 1 rfl rfl ?_
  refine g_if_lt C (tgt := 16) dX6_at_1 (by decide) (fun c7 => ?_) (fun c7 => ?_)
  · have hq := ip c7 hq
    refine g_iconst C dX6_at_16 (v := 0) (by decide) ?_
    exact g_iret C dX6_at_17 (som2 hq).1 (congrArg (wC a cI cS) (som2 hq).2)
  · have hq := iq c7 hq
    refine g_iload_n C dX6_at_4 1 rfl rfl ?_
    refine g_aload_n C dX6_at_5 0 rfl rfl ?_
    refine ga_len C hA0 dX6_at_6 ?_
    refine g_icmp_ge C (tgt := 16) dX6_at_7 (by decide) (fun c8 => ?_) (fun c8 => ?_)
    · have hq := ip c8 hq
      refine g_iconst C dX6_at_16 (v := 0) (by decide) ?_
      exact g_iret C dX6_at_17 (som2 hq).1 (congrArg (wC a cI cS) (som2 hq).2)
    · have hq := iq c8 hq
      refine g_aload_n C dX6_at_10 0 rfl rfl ?_
      refine g_iload_n C dX6_at_11 1 rfl rfl ?_
      obtain ⟨h9, hq⟩ := ogd_some hq
      refine ga_ld C hA0 h9 dX6_at_12 ?_
      refine g_goto C (tgt := 17) dX6_at_13 (by decide) ?_
      exact g_iret C dX6_at_17 (som2 hq).1 (congrArg (wC a cI cS) (som2 hq).2)

def q_X6_put (r0 : Nat) (o0 : Nat) (n0 : Nat) (x1 : Int32) (x2 : Int32) (M : MM) : Option (Unit × MM) := (if x1 < 0 then (some ((), M)) else (if (nI n0) ≤ x1 then (some ((), M)) else (ogd (ib x1 n0 = true) inferInstance (some ((), (mU M r0 (o0 + x1.toNatClampNeg) x2))))))
set_option maxHeartbeats 4000000 in
set_option maxRecDepth 100000 in
theorem k_X6_put {l : Launch} {dC : Nat → ClassId} {dI : Nat → Nat → Nat} {a : Nat → Nat} {cI cZ cS : ClassId} (k0 r0 o0 n0 : Nat) (hA0 : arr k0 r0 o0 n0) (x1 : Int32) (x2 : Int32) (M M2 : MM) (r : Unit) (hq : q_X6_put r0 o0 n0 x1 x2 M = some (r, M2)) : KQ l (dC, dI) vwCl (tyW cI cZ cS) yX6_put cX6_put 3 none 0 0 [.ref (a k0), .int x1, .int x2] (wC a cI cS M) (qV (dC, dI) vwCl (wC a cI cS M2)) := by
  refine KQ.of (by decide) (Nat.le_of_ble_eq_true rfl) rfl ?_
  intro p e s m args below meth c A0 C
  unfold q_X6_put at hq
  refine g_iload_n C dX6_put_0 1 rfl rfl ?_
  refine g_if_lt C (tgt := 14) dX6_put_1 (by decide) (fun c7 => ?_) (fun c7 => ?_)
  · have hq := ip c7 hq
    exact g_vret C dX6_put_14 (congrArg (wC a cI cS) (som2 hq).2)
  · have hq := iq c7 hq
    refine g_iload_n C dX6_put_4 1 rfl rfl ?_
    refine g_aload_n C dX6_put_5 0 rfl rfl ?_
    refine ga_len C hA0 dX6_put_6 ?_
    refine g_icmp_ge C (tgt := 14) dX6_put_7 (by decide) (fun c8 => ?_) (fun c8 => ?_)
    · have hq := ip c8 hq
      exact g_vret C dX6_put_14 (congrArg (wC a cI cS) (som2 hq).2)
    · have hq := iq c8 hq
      refine g_aload_n C dX6_put_10 0 rfl rfl ?_
      refine g_iload_n C dX6_put_11 1 rfl rfl ?_
      refine g_iload_n C dX6_put_12 2 rfl rfl ?_
      obtain ⟨h9, hq⟩ := ogd_some hq
      refine ga_st C hA0 h9 dX6_put_13 ?_
      exact g_vret C dX6_put_14 (congrArg (wC a cI cS) (som2 hq).2)

def t_at (r o n : Nat) (x : Int32) (M : MM) : Int32 := if ib x n = true then M.1 r (o + x.toNatClampNeg) else 0
def t_put (r o n : Nat) (x v : Int32) (M : MM) : MM := if ib x n = true then mU M r (o + x.toNatClampNeg) v else M
theorem n_X6_at {r o n : Nat} (hn : n < 2 ^ 31) (x : Int32) (M : MM) : q_X6_at r o n x M = some (t_at r o n x M, M) := by
  unfold q_X6_at t_at
  by_cases h0 : x < 0
  · rw [if_pos h0, ib_neg h0]; rfl
  · rw [if_neg h0]
    by_cases h1 : nI n ≤ x
    · rw [if_pos h1, ib_big hn h1]; rfl
    · have h := ib_mid hn h0 h1
      rw [if_neg h1, if_pos h, ogd_pos h]
theorem n_X6_put {r o n : Nat} (hn : n < 2 ^ 31) (x v : Int32) (M : MM) : q_X6_put r o n x v M = some ((), t_put r o n x v M) := by
  unfold q_X6_put t_put
  by_cases h0 : x < 0
  · rw [if_pos h0, ib_neg h0]; rfl
  · rw [if_neg h0]
    by_cases h1 : nI n ≤ x
    · rw [if_pos h1, ib_big hn h1]; rfl
    · have h := ib_mid hn h0 h1
      rw [if_neg h1, if_pos h, ogd_pos h]
theorem kn_X6_at {l : Launch} {dC : Nat → ClassId} {dI : Nat → Nat → Nat} {a : Nat → Nat} {cI cZ cS : ClassId} (k0 r0 o0 n0 : Nat) (hA0 : arr k0 r0 o0 n0) (x1 : Int32) (M : MM) : KQ l (dC, dI) vwCl (tyW cI cZ cS) yX6_at cX6_at 2 (some .int) 0 0 [.ref (a k0), .int x1] (wC a cI cS M) (qI (dC, dI) vwCl (wC a cI cS M) (t_at r0 o0 n0 x1 M)) := k_X6_at k0 r0 o0 n0 hA0 x1 M M _ (n_X6_at (by have := arr_n hA0; omega) x1 M)
theorem kn_X6_put {l : Launch} {dC : Nat → ClassId} {dI : Nat → Nat → Nat} {a : Nat → Nat} {cI cZ cS : ClassId} (k0 r0 o0 n0 : Nat) (hA0 : arr k0 r0 o0 n0) (x1 : Int32) (x2 : Int32) (M : MM) : KQ l (dC, dI) vwCl (tyW cI cZ cS) yX6_put cX6_put 3 none 0 0 [.ref (a k0), .int x1, .int x2] (wC a cI cS M) (qV (dC, dI) vwCl (wC a cI cS (t_put r0 o0 n0 x1 x2 M))) := k_X6_put k0 r0 o0 n0 hA0 x1 x2 M _ _ (n_X6_put (by have := arr_n hA0; omega) x1 x2 M)
end
