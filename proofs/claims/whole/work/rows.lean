section
-- ===== PART A: goes FIRST, ahead of the names: the tables' words, and 'selects' of the private methods out of them =====
/-- a private method of a class that the tables say can be made, by its rows of tables_1 -/
def lw_okq (q : MethodName × Nat) : Prop := (q.1.cls ≠ "java/lang/invoke/MethodHandle" ∧ q.1.cls ≠ "java/lang/invoke/VarHandle") ∧ Cond.instantiable q.1.cls q.2 ∈ tables_1 ∧ Cond.privateMethod q.1 ∈ tables_1 ∧ Cond.instanceMethod q.1 ∈ tables_1
theorem lw_p0 : lw_okq (⟨"FirstUmbrella$Script", "isFitting", "(II)Z"⟩, 2) := ⟨⟨by decide +kernel, by decide +kernel⟩, List.mem_of_getElem? (i := 22) (by decide +kernel), List.mem_of_getElem? (i := 208) (by decide +kernel), List.mem_of_getElem? (i := 209) (by decide +kernel)⟩
theorem lw_p1 : lw_okq (⟨"FirstUmbrella$Scene", "lastAtLeast", "(II)V"⟩, 7) := ⟨⟨by decide +kernel, by decide +kernel⟩, List.mem_of_getElem? (i := 64) (by decide +kernel), List.mem_of_getElem? (i := 383) (by decide +kernel), List.mem_of_getElem? (i := 384) (by decide +kernel)⟩
theorem lw_p2 : lw_okq (⟨"FirstUmbrella$Scene", "fateInHour", "(IZ)I"⟩, 7) := ⟨⟨by decide +kernel, by decide +kernel⟩, List.mem_of_getElem? (i := 64) (by decide +kernel), List.mem_of_getElem? (i := 428) (by decide +kernel), List.mem_of_getElem? (i := 429) (by decide +kernel)⟩
theorem lw_p3 : lw_okq (⟨"FirstUmbrella", "keptIfOpened", "(I)I"⟩, 8) := ⟨⟨by decide +kernel, by decide +kernel⟩, List.mem_of_getElem? (i := 14) (by decide +kernel), List.mem_of_getElem? (i := 469) (by decide +kernel), List.mem_of_getElem? (i := 470) (by decide +kernel)⟩
theorem lw_p4 : lw_okq (⟨"FirstUmbrella", "keptIfSent", "(II)I"⟩, 8) := ⟨⟨by decide +kernel, by decide +kernel⟩, List.mem_of_getElem? (i := 14) (by decide +kernel), List.mem_of_getElem? (i := 502) (by decide +kernel), List.mem_of_getElem? (i := 503) (by decide +kernel)⟩
theorem lw_p5 : lw_okq (⟨"FirstUmbrella", "comesTrue", "(III)Z"⟩, 8) := ⟨⟨by decide +kernel, by decide +kernel⟩, List.mem_of_getElem? (i := 14) (by decide +kernel), List.mem_of_getElem? (i := 515) (by decide +kernel), List.mem_of_getElem? (i := 516) (by decide +kernel)⟩
theorem lw_p6 : lw_okq (⟨"FirstUmbrella", "keptIfCome", "(I)I"⟩, 8) := ⟨⟨by decide +kernel, by decide +kernel⟩, List.mem_of_getElem? (i := 14) (by decide +kernel), List.mem_of_getElem? (i := 523) (by decide +kernel), List.mem_of_getElem? (i := 524) (by decide +kernel)⟩
theorem lw_p7 : lw_okq (⟨"FirstUmbrella", "isContent", "(IZIZ)Z"⟩, 8) := ⟨⟨by decide +kernel, by decide +kernel⟩, List.mem_of_getElem? (i := 14) (by decide +kernel), List.mem_of_getElem? (i := 579) (by decide +kernel), List.mem_of_getElem? (i := 580) (by decide +kernel)⟩
theorem lw_p8 : lw_okq (⟨"FirstUmbrella", "gain", "(IZIZ)I"⟩, 8) := ⟨⟨by decide +kernel, by decide +kernel⟩, List.mem_of_getElem? (i := 14) (by decide +kernel), List.mem_of_getElem? (i := 583) (by decide +kernel), List.mem_of_getElem? (i := 584) (by decide +kernel)⟩
theorem lw_p9 : lw_okq (⟨"FirstUmbrella", "doByChance", "(I)V"⟩, 8) := ⟨⟨by decide +kernel, by decide +kernel⟩, List.mem_of_getElem? (i := 14) (by decide +kernel), List.mem_of_getElem? (i := 605) (by decide +kernel), List.mem_of_getElem? (i := 606) (by decide +kernel)⟩
theorem lw_p10 : lw_okq (⟨"FirstUmbrellaModel", "readTown", "()I"⟩, 31) := ⟨⟨by decide +kernel, by decide +kernel⟩, List.mem_of_getElem? (i := 631) (by decide +kernel), List.mem_of_getElem? (i := 748) (by decide +kernel), List.mem_of_getElem? (i := 749) (by decide +kernel)⟩
theorem lw_p11 : lw_okq (⟨"FirstUmbrellaModel", "readThing", "()Z"⟩, 31) := ⟨⟨by decide +kernel, by decide +kernel⟩, List.mem_of_getElem? (i := 631) (by decide +kernel), List.mem_of_getElem? (i := 752) (by decide +kernel), List.mem_of_getElem? (i := 753) (by decide +kernel)⟩
theorem lw_p12 : lw_okq (⟨"FirstUmbrellaModel", "readOneWalker", "()Z"⟩, 31) := ⟨⟨by decide +kernel, by decide +kernel⟩, List.mem_of_getElem? (i := 631) (by decide +kernel), List.mem_of_getElem? (i := 756) (by decide +kernel), List.mem_of_getElem? (i := 757) (by decide +kernel)⟩
theorem lw_p13 : lw_okq (⟨"FirstUmbrellaModel", "figure", "(II)I"⟩, 31) := ⟨⟨by decide +kernel, by decide +kernel⟩, List.mem_of_getElem? (i := 631) (by decide +kernel), List.mem_of_getElem? (i := 760) (by decide +kernel), List.mem_of_getElem? (i := 761) (by decide +kernel)⟩
theorem lw_p14 : lw_okq (⟨"FirstUmbrellaModel", "readOneNeed", "()Z"⟩, 31) := ⟨⟨by decide +kernel, by decide +kernel⟩, List.mem_of_getElem? (i := 631) (by decide +kernel), List.mem_of_getElem? (i := 764) (by decide +kernel), List.mem_of_getElem? (i := 765) (by decide +kernel)⟩
theorem lw_p15 : lw_okq (⟨"FirstUmbrellaModel", "rainOf", "([I)I"⟩, 31) := ⟨⟨by decide +kernel, by decide +kernel⟩, List.mem_of_getElem? (i := 631) (by decide +kernel), List.mem_of_getElem? (i := 776) (by decide +kernel), List.mem_of_getElem? (i := 777) (by decide +kernel)⟩
def lw_privs_1 : List (MethodName × Nat) := [(⟨"FirstUmbrella$Script", "isFitting", "(II)Z"⟩, 2), (⟨"FirstUmbrella$Scene", "lastAtLeast", "(II)V"⟩, 7), (⟨"FirstUmbrella$Scene", "fateInHour", "(IZ)I"⟩, 7), (⟨"FirstUmbrella", "keptIfOpened", "(I)I"⟩, 8), (⟨"FirstUmbrella", "keptIfSent", "(II)I"⟩, 8), (⟨"FirstUmbrella", "comesTrue", "(III)Z"⟩, 8), (⟨"FirstUmbrella", "keptIfCome", "(I)I"⟩, 8), (⟨"FirstUmbrella", "isContent", "(IZIZ)Z"⟩, 8), (⟨"FirstUmbrella", "gain", "(IZIZ)I"⟩, 8), (⟨"FirstUmbrella", "doByChance", "(I)V"⟩, 8), (⟨"FirstUmbrellaModel", "readTown", "()I"⟩, 31), (⟨"FirstUmbrellaModel", "readThing", "()Z"⟩, 31), (⟨"FirstUmbrellaModel", "readOneWalker", "()Z"⟩, 31), (⟨"FirstUmbrellaModel", "figure", "(II)I"⟩, 31), (⟨"FirstUmbrellaModel", "readOneNeed", "()Z"⟩, 31), (⟨"FirstUmbrellaModel", "rainOf", "([I)I"⟩, 31)]
theorem lw_r1 : ∀ q ∈ lw_privs_1, lw_okq q := List.forall_mem_cons.mpr ⟨lw_p0, List.forall_mem_cons.mpr ⟨lw_p1, List.forall_mem_cons.mpr ⟨lw_p2, List.forall_mem_cons.mpr ⟨lw_p3, List.forall_mem_cons.mpr ⟨lw_p4, List.forall_mem_cons.mpr ⟨lw_p5, List.forall_mem_cons.mpr ⟨lw_p6, List.forall_mem_cons.mpr ⟨lw_p7, List.forall_mem_cons.mpr ⟨lw_p8, List.forall_mem_cons.mpr ⟨lw_p9, List.forall_mem_cons.mpr ⟨lw_p10, List.forall_mem_cons.mpr ⟨lw_p11, List.forall_mem_cons.mpr ⟨lw_p12, List.forall_mem_cons.mpr ⟨lw_p13, List.forall_mem_cons.mpr ⟨lw_p14, List.forall_mem_cons.mpr ⟨lw_p15, fun _ h => absurd h List.not_mem_nil⟩⟩⟩⟩⟩⟩⟩⟩⟩⟩⟩⟩⟩⟩⟩⟩
theorem lw_p16 : lw_okq (⟨"FirstUmbrellaModel", "hailOf", "([I)I"⟩, 31) := ⟨⟨by decide +kernel, by decide +kernel⟩, List.mem_of_getElem? (i := 631) (by decide +kernel), List.mem_of_getElem? (i := 783) (by decide +kernel), List.mem_of_getElem? (i := 784) (by decide +kernel)⟩
theorem lw_p17 : lw_okq (⟨"FirstUmbrellaModel", "openIn", "([II)I"⟩, 31) := ⟨⟨by decide +kernel, by decide +kernel⟩, List.mem_of_getElem? (i := 631) (by decide +kernel), List.mem_of_getElem? (i := 787) (by decide +kernel), List.mem_of_getElem? (i := 788) (by decide +kernel)⟩
theorem lw_p18 : lw_okq (⟨"FirstUmbrellaModel", "needsThat", "([II)I"⟩, 31) := ⟨⟨by decide +kernel, by decide +kernel⟩, List.mem_of_getElem? (i := 631) (by decide +kernel), List.mem_of_getElem? (i := 791) (by decide +kernel), List.mem_of_getElem? (i := 792) (by decide +kernel)⟩
theorem lw_p19 : lw_okq (⟨"FirstUmbrellaModel", "noWalker", "(I)Z"⟩, 31) := ⟨⟨by decide +kernel, by decide +kernel⟩, List.mem_of_getElem? (i := 631) (by decide +kernel), List.mem_of_getElem? (i := 799) (by decide +kernel), List.mem_of_getElem? (i := 800) (by decide +kernel)⟩
theorem lw_p20 : lw_okq (⟨"FirstUmbrellaModel", "note", "()V"⟩, 31) := ⟨⟨by decide +kernel, by decide +kernel⟩, List.mem_of_getElem? (i := 631) (by decide +kernel), List.mem_of_getElem? (i := 820) (by decide +kernel), List.mem_of_getElem? (i := 821) (by decide +kernel)⟩
theorem lw_p21 : lw_okq (⟨"FirstUmbrellaModel", "goOpen", "([II)V"⟩, 31) := ⟨⟨by decide +kernel, by decide +kernel⟩, List.mem_of_getElem? (i := 631) (by decide +kernel), List.mem_of_getElem? (i := 824) (by decide +kernel), List.mem_of_getElem? (i := 825) (by decide +kernel)⟩
theorem lw_p22 : lw_okq (⟨"FirstUmbrellaModel", "goShut", "([II)V"⟩, 31) := ⟨⟨by decide +kernel, by decide +kernel⟩, List.mem_of_getElem? (i := 631) (by decide +kernel), List.mem_of_getElem? (i := 835) (by decide +kernel), List.mem_of_getElem? (i := 836) (by decide +kernel)⟩
theorem lw_p23 : lw_okq (⟨"FirstUmbrellaModel", "goHour", "([I)I"⟩, 31) := ⟨⟨by decide +kernel, by decide +kernel⟩, List.mem_of_getElem? (i := 631) (by decide +kernel), List.mem_of_getElem? (i := 850) (by decide +kernel), List.mem_of_getElem? (i := 851) (by decide +kernel)⟩
theorem lw_p24 : lw_okq (⟨"FirstUmbrellaModel", "stateThen", "([III)I"⟩, 31) := ⟨⟨by decide +kernel, by decide +kernel⟩, List.mem_of_getElem? (i := 631) (by decide +kernel), List.mem_of_getElem? (i := 854) (by decide +kernel), List.mem_of_getElem? (i := 855) (by decide +kernel)⟩
theorem lw_p25 : lw_okq (⟨"FirstUmbrellaModel", "begin", "()V"⟩, 31) := ⟨⟨by decide +kernel, by decide +kernel⟩, List.mem_of_getElem? (i := 631) (by decide +kernel), List.mem_of_getElem? (i := 867) (by decide +kernel), List.mem_of_getElem? (i := 868) (by decide +kernel)⟩
theorem lw_p26 : lw_okq (⟨"FirstUmbrellaModel", "goHours", "(I)V"⟩, 31) := ⟨⟨by decide +kernel, by decide +kernel⟩, List.mem_of_getElem? (i := 631) (by decide +kernel), List.mem_of_getElem? (i := 871) (by decide +kernel), List.mem_of_getElem? (i := 872) (by decide +kernel)⟩
theorem lw_p27 : lw_okq (⟨"FirstUmbrellaModel", "openAll", "(I)V"⟩, 31) := ⟨⟨by decide +kernel, by decide +kernel⟩, List.mem_of_getElem? (i := 631) (by decide +kernel), List.mem_of_getElem? (i := 887) (by decide +kernel), List.mem_of_getElem? (i := 888) (by decide +kernel)⟩
theorem lw_p28 : lw_okq (⟨"FirstUmbrellaModel", "keptThen", "()I"⟩, 31) := ⟨⟨by decide +kernel, by decide +kernel⟩, List.mem_of_getElem? (i := 631) (by decide +kernel), List.mem_of_getElem? (i := 891) (by decide +kernel), List.mem_of_getElem? (i := 892) (by decide +kernel)⟩
theorem lw_p29 : lw_okq (⟨"FirstUmbrellaModel", "does", "(I)Z"⟩, 31) := ⟨⟨by decide +kernel, by decide +kernel⟩, List.mem_of_getElem? (i := 631) (by decide +kernel), List.mem_of_getElem? (i := 911) (by decide +kernel), List.mem_of_getElem? (i := 912) (by decide +kernel)⟩
theorem lw_p30 : lw_okq (⟨"FirstUmbrellaModel", "findMay", "()V"⟩, 31) := ⟨⟨by decide +kernel, by decide +kernel⟩, List.mem_of_getElem? (i := 631) (by decide +kernel), List.mem_of_getElem? (i := 941) (by decide +kernel), List.mem_of_getElem? (i := 942) (by decide +kernel)⟩
theorem lw_p31 : lw_okq (⟨"FirstUmbrellaModel", "gainOf", "(IZ)I"⟩, 31) := ⟨⟨by decide +kernel, by decide +kernel⟩, List.mem_of_getElem? (i := 631) (by decide +kernel), List.mem_of_getElem? (i := 953) (by decide +kernel), List.mem_of_getElem? (i := 954) (by decide +kernel)⟩
def lw_privs_2 : List (MethodName × Nat) := [(⟨"FirstUmbrellaModel", "hailOf", "([I)I"⟩, 31), (⟨"FirstUmbrellaModel", "openIn", "([II)I"⟩, 31), (⟨"FirstUmbrellaModel", "needsThat", "([II)I"⟩, 31), (⟨"FirstUmbrellaModel", "noWalker", "(I)Z"⟩, 31), (⟨"FirstUmbrellaModel", "note", "()V"⟩, 31), (⟨"FirstUmbrellaModel", "goOpen", "([II)V"⟩, 31), (⟨"FirstUmbrellaModel", "goShut", "([II)V"⟩, 31), (⟨"FirstUmbrellaModel", "goHour", "([I)I"⟩, 31), (⟨"FirstUmbrellaModel", "stateThen", "([III)I"⟩, 31), (⟨"FirstUmbrellaModel", "begin", "()V"⟩, 31), (⟨"FirstUmbrellaModel", "goHours", "(I)V"⟩, 31), (⟨"FirstUmbrellaModel", "openAll", "(I)V"⟩, 31), (⟨"FirstUmbrellaModel", "keptThen", "()I"⟩, 31), (⟨"FirstUmbrellaModel", "does", "(I)Z"⟩, 31), (⟨"FirstUmbrellaModel", "findMay", "()V"⟩, 31), (⟨"FirstUmbrellaModel", "gainOf", "(IZ)I"⟩, 31)]
theorem lw_r2 : ∀ q ∈ lw_privs_2, lw_okq q := List.forall_mem_cons.mpr ⟨lw_p16, List.forall_mem_cons.mpr ⟨lw_p17, List.forall_mem_cons.mpr ⟨lw_p18, List.forall_mem_cons.mpr ⟨lw_p19, List.forall_mem_cons.mpr ⟨lw_p20, List.forall_mem_cons.mpr ⟨lw_p21, List.forall_mem_cons.mpr ⟨lw_p22, List.forall_mem_cons.mpr ⟨lw_p23, List.forall_mem_cons.mpr ⟨lw_p24, List.forall_mem_cons.mpr ⟨lw_p25, List.forall_mem_cons.mpr ⟨lw_p26, List.forall_mem_cons.mpr ⟨lw_p27, List.forall_mem_cons.mpr ⟨lw_p28, List.forall_mem_cons.mpr ⟨lw_p29, List.forall_mem_cons.mpr ⟨lw_p30, List.forall_mem_cons.mpr ⟨lw_p31, fun _ h => absurd h List.not_mem_nil⟩⟩⟩⟩⟩⟩⟩⟩⟩⟩⟩⟩⟩⟩⟩⟩
def lw_privs : List (MethodName × Nat) := lw_privs_1 ++ (lw_privs_2)
def lw_tbl : List Cond := k2_sels lw_privs ++ tables_1
theorem lw_privs_ok : ∀ q ∈ lw_privs, lw_okq q := by
  show ∀ q ∈ lw_privs_1 ++ (lw_privs_2), lw_okq q
  exact List.forall_mem_append.mpr ⟨lw_r1, lw_r2⟩
end
section
def RX0 : String := "FirstUmbrella$Felt"
def TX0 : u_T := fun k => match k with
  | 0 => ("FirstUmbrella$Felt", "streets", "[I", true)
  | 1 => ("FirstUmbrella$Felt", "hours", "[I", true)
  | 2 => ("FirstUmbrella$Felt", "rains", "I", false)
  | _ => ("FirstUmbrella$Felt", "count", "I", false)
def tyX0 : Nat → FieldType := fun k => match k with
  | 0 => .array .int
  | 1 => .array .int
  | 2 => .int
  | _ => .int
abbrev wsX00 : List Cond := u_ws RX0 TX0 4
theorem nmX0 : ∀ a, a < 4 → ∀ b, b < 4 → a ≠ b → (TX0 a).2.1 ≠ (TX0 b).2.1 := by decide +kernel
theorem tyX0_ok : ∀ k, k < 4 → parseFieldDescriptor (TX0 k).2.2.1 = some (tyX0 k) := by decide +kernel
abbrev cX0_init : ByteArray := prog_2_method_1_code
def yX0_init : MethodName := ⟨RX0, "<init>", "()V"⟩
abbrev cX0_size : ByteArray := prog_2_method_2_code
def yX0_size : MethodName := ⟨RX0, "size", "()I"⟩
abbrev cX0_clear : ByteArray := prog_2_method_3_code
def yX0_clear : MethodName := ⟨RX0, "clear", "()V"⟩
abbrev cX0_add : ByteArray := prog_2_method_4_code
def yX0_add : MethodName := ⟨RX0, "add", "(IIZ)Z"⟩
abbrev cX0_isSo : ByteArray := prog_2_method_5_code
def yX0_isSo : MethodName := ⟨RX0, "isSo", "(III)Z"⟩
abbrev cX0_isWetAt : ByteArray := prog_2_method_6_code
def yX0_isWetAt : MethodName := ⟨RX0, "isWetAt", "(IIIII)Z"⟩
def RX1 : String := "FirstUmbrella$Past"
def TX1 : u_T := fun k => match k with
  | 0 => ("FirstUmbrella$Past", "found", "[LFirstUmbrella$Scene;", true)
  | 1 => ("FirstUmbrella$Past", "first", "I", false)
  | _ => ("FirstUmbrella$Past", "count", "I", false)
def tyX1 : Nat → FieldType := fun k => match k with
  | 0 => .array (.object "FirstUmbrella$Scene")
  | 1 => .int
  | _ => .int
abbrev wsX10 : List Cond := u_ws RX1 TX1 3
theorem nmX1 : ∀ a, a < 3 → ∀ b, b < 3 → a ≠ b → (TX1 a).2.1 ≠ (TX1 b).2.1 := by decide +kernel
theorem tyX1_ok : ∀ k, k < 3 → parseFieldDescriptor (TX1 k).2.2.1 = some (tyX1 k) := by decide +kernel
abbrev cX1_init : ByteArray := prog_3_method_1_code
def yX1_init : MethodName := ⟨RX1, "<init>", "(LFirstUmbrella$Plan;)V"⟩
abbrev cX1_size : ByteArray := prog_3_method_2_code
def yX1_size : MethodName := ⟨RX1, "size", "()I"⟩
abbrev cX1_clear : ByteArray := prog_3_method_3_code
def yX1_clear : MethodName := ⟨RX1, "clear", "()V"⟩
abbrev cX1_add : ByteArray := prog_3_method_4_code
def yX1_add : MethodName := ⟨RX1, "add", "(LFirstUmbrella$Scene;)V"⟩
abbrev cX1_takeLast : ByteArray := prog_3_method_5_code
def yX1_takeLast : MethodName := ⟨RX1, "takeLast", "(LFirstUmbrella$Scene;)V"⟩
def RX2 : String := "FirstUmbrella$Plan"
def TX2 : u_T := fun k => match k with
  | 0 => ("FirstUmbrella$Plan", "walkers", "I", false)
  | 1 => ("FirstUmbrella$Plan", "needs", "I", false)
  | 2 => ("FirstUmbrella$Plan", "homes", "[I", true)
  | 3 => ("FirstUmbrella$Plan", "stuffs", "[I", true)
  | 4 => ("FirstUmbrella$Plan", "needStreets", "[I", true)
  | 5 => ("FirstUmbrella$Plan", "needSorts", "[I", true)
  | _ => ("FirstUmbrella$Plan", "needFigures", "[I", true)
def tyX2 : Nat → FieldType := fun k => match k with
  | 0 => .int
  | 1 => .int
  | 2 => .array .int
  | 3 => .array .int
  | 4 => .array .int
  | 5 => .array .int
  | _ => .array .int
abbrev wsX20 : List Cond := u_ws RX2 TX2 7
theorem nmX2 : ∀ a, a < 7 → ∀ b, b < 7 → a ≠ b → (TX2 a).2.1 ≠ (TX2 b).2.1 := by decide +kernel
theorem tyX2_ok : ∀ k, k < 7 → parseFieldDescriptor (TX2 k).2.2.1 = some (tyX2 k) := by decide +kernel
abbrev cX2_init : ByteArray := prog_4_method_1_code
def yX2_init : MethodName := ⟨RX2, "<init>", "()V"⟩
abbrev cX2_readFrom : ByteArray := prog_4_method_2_code
def yX2_readFrom : MethodName := ⟨RX2, "readFrom", "(LFirstUmbrella$Script;)V"⟩
abbrev cX2_walkerCount : ByteArray := prog_4_method_3_code
def yX2_walkerCount : MethodName := ⟨RX2, "walkerCount", "()I"⟩
abbrev cX2_needCount : ByteArray := prog_4_method_4_code
def yX2_needCount : MethodName := ⟨RX2, "needCount", "()I"⟩
abbrev cX2_hasWalker : ByteArray := prog_4_method_5_code
def yX2_hasWalker : MethodName := ⟨RX2, "hasWalker", "(I)Z"⟩
abbrev cX2_hasNeed : ByteArray := prog_4_method_6_code
def yX2_hasNeed : MethodName := ⟨RX2, "hasNeed", "(I)Z"⟩
abbrev cX2_homeOf : ByteArray := prog_4_method_7_code
def yX2_homeOf : MethodName := ⟨RX2, "homeOf", "(I)I"⟩
abbrev cX2_stuffOf : ByteArray := prog_4_method_8_code
def yX2_stuffOf : MethodName := ⟨RX2, "stuffOf", "(I)I"⟩
abbrev cX2_streetOfNeed : ByteArray := prog_4_method_9_code
def yX2_streetOfNeed : MethodName := ⟨RX2, "streetOfNeed", "(I)I"⟩
abbrev cX2_sortOfNeed : ByteArray := prog_4_method_10_code
def yX2_sortOfNeed : MethodName := ⟨RX2, "sortOfNeed", "(I)I"⟩
abbrev cX2_figureOfNeed : ByteArray := prog_4_method_11_code
def yX2_figureOfNeed : MethodName := ⟨RX2, "figureOfNeed", "(I)I"⟩
def RX3 : String := "FirstUmbrella$Scene"
def TX3 : u_T := fun k => match k with
  | 0 => ("FirstUmbrella$Scene", "plan", "LFirstUmbrella$Plan;", true)
  | 1 => ("FirstUmbrella$Scene", "places", "[I", true)
  | 2 => ("FirstUmbrella$Scene", "lasts", "[I", true)
  | 3 => ("FirstUmbrella$Scene", "wetness", "[I", true)
  | 4 => ("FirstUmbrella$Scene", "fates", "[I", true)
  | 5 => ("FirstUmbrella$Scene", "opened", "I", false)
  | _ => ("FirstUmbrella$Scene", "time", "I", false)
def tyX3 : Nat → FieldType := fun k => match k with
  | 0 => .object "FirstUmbrella$Plan"
  | 1 => .array .int
  | 2 => .array .int
  | 3 => .array .int
  | 4 => .array .int
  | 5 => .int
  | _ => .int
abbrev wsX30 : List Cond := u_ws RX3 TX3 7
theorem nmX3 : ∀ a, a < 7 → ∀ b, b < 7 → a ≠ b → (TX3 a).2.1 ≠ (TX3 b).2.1 := by decide +kernel
theorem tyX3_ok : ∀ k, k < 7 → parseFieldDescriptor (TX3 k).2.2.1 = some (tyX3 k) := by decide +kernel
abbrev cX3_init : ByteArray := prog_5_method_1_code
def yX3_init : MethodName := ⟨RX3, "<init>", "(LFirstUmbrella$Plan;)V"⟩
abbrev cX3_begin : ByteArray := prog_5_method_2_code
def yX3_begin : MethodName := ⟨RX3, "begin", "()V"⟩
abbrev cX3_copy : ByteArray := prog_5_method_3_code
def yX3_copy : MethodName := ⟨RX3, "copy", "(LFirstUmbrella$Scene;)V"⟩
abbrev cX3_time : ByteArray := prog_5_method_4_code
def yX3_time : MethodName := ⟨RX3, "time", "()I"⟩
abbrev cX3_placeOf : ByteArray := prog_5_method_5_code
def yX3_placeOf : MethodName := ⟨RX3, "placeOf", "(I)I"⟩
abbrev cX3_lastsIn : ByteArray := prog_5_method_6_code
def yX3_lastsIn : MethodName := ⟨RX3, "lastsIn", "(I)I"⟩
abbrev cX3_wetnessOf : ByteArray := prog_5_method_7_code
def yX3_wetnessOf : MethodName := ⟨RX3, "wetnessOf", "(I)I"⟩
abbrev cX3_fateOf : ByteArray := prog_5_method_8_code
def yX3_fateOf : MethodName := ⟨RX3, "fateOf", "(I)I"⟩
abbrev cX3_openBits : ByteArray := prog_5_method_9_code
def yX3_openBits : MethodName := ⟨RX3, "openBits", "()I"⟩
abbrev cX3_shutBits : ByteArray := prog_5_method_10_code
def yX3_shutBits : MethodName := ⟨RX3, "shutBits", "()I"⟩
abbrev cX3_isOpen : ByteArray := prog_5_method_11_code
def yX3_isOpen : MethodName := ⟨RX3, "isOpen", "(I)Z"⟩
abbrev cX3_openIn : ByteArray := prog_5_method_12_code
def yX3_openIn : MethodName := ⟨RX3, "openIn", "(I)I"⟩
abbrev cX3_rainBits : ByteArray := prog_5_method_13_code
def yX3_rainBits : MethodName := ⟨RX3, "rainBits", "()I"⟩
abbrev cX3_hailBits : ByteArray := prog_5_method_14_code
def yX3_hailBits : MethodName := ⟨RX3, "hailBits", "()I"⟩
abbrev cX3_needBits : ByteArray := prog_5_method_15_code
def yX3_needBits : MethodName := ⟨RX3, "needBits", "(I)I"⟩
abbrev cX3_keptCount : ByteArray := prog_5_method_16_code
def yX3_keptCount : MethodName := ⟨RX3, "keptCount", "()I"⟩
abbrev cX3_raise : ByteArray := prog_5_method_17_code
def yX3_raise : MethodName := ⟨RX3, "raise", "(I)Z"⟩
abbrev cX3_raiseAll : ByteArray := prog_5_method_18_code
def yX3_raiseAll : MethodName := ⟨RX3, "raiseAll", "(I)V"⟩
abbrev cX3_lower : ByteArray := prog_5_method_19_code
def yX3_lower : MethodName := ⟨RX3, "lower", "(I)Z"⟩
abbrev cX3_forget : ByteArray := prog_5_method_20_code
def yX3_forget : MethodName := ⟨RX3, "forget", "(I)V"⟩
abbrev cX3_lastAtLeast : ByteArray := prog_5_method_21_code
def yX3_lastAtLeast : MethodName := ⟨RX3, "lastAtLeast", "(II)V"⟩
abbrev cX3_place : ByteArray := prog_5_method_22_code
def yX3_place : MethodName := ⟨RX3, "place", "(II)V"⟩
abbrev cX3_canMove : ByteArray := prog_5_method_23_code
def yX3_canMove : MethodName := ⟨RX3, "canMove", "(IZ)Z"⟩
abbrev cX3_move : ByteArray := prog_5_method_24_code
def yX3_move : MethodName := ⟨RX3, "move", "(IZ)Z"⟩
abbrev cX3_passHours : ByteArray := prog_5_method_25_code
def yX3_passHours : MethodName := ⟨RX3, "passHours", "(I)V"⟩
abbrev cX3_passHour : ByteArray := prog_5_method_26_code
def yX3_passHour : MethodName := ⟨RX3, "passHour", "()I"⟩
abbrev cX3_fateInHour : ByteArray := prog_5_method_27_code
def yX3_fateInHour : MethodName := ⟨RX3, "fateInHour", "(IZ)I"⟩
def RX4 : String := "FirstUmbrella$Script"
def TX4 : u_T := fun k => match k with
  | 0 => ("FirstUmbrella$Script", "bytes", "[I", true)
  | _ => ("FirstUmbrella$Script", "length", "I", false)
def tyX4 : Nat → FieldType := fun k => match k with
  | 0 => .array .int
  | _ => .int
abbrev wsX40 : List Cond := u_ws RX4 TX4 2
theorem nmX4 : ∀ a, a < 2 → ∀ b, b < 2 → a ≠ b → (TX4 a).2.1 ≠ (TX4 b).2.1 := by decide +kernel
theorem tyX4_ok : ∀ k, k < 2 → parseFieldDescriptor (TX4 k).2.2.1 = some (tyX4 k) := by decide +kernel
abbrev cX4_init : ByteArray := prog_6_method_1_code
def yX4_init : MethodName := ⟨RX4, "<init>", "()V"⟩
abbrev cX4_length : ByteArray := prog_6_method_2_code
def yX4_length : MethodName := ⟨RX4, "length", "()I"⟩
abbrev cX4_clear : ByteArray := prog_6_method_3_code
def yX4_clear : MethodName := ⟨RX4, "clear", "()V"⟩
abbrev cX4_append : ByteArray := prog_6_method_4_code
def yX4_append : MethodName := ⟨RX4, "append", "(I)Z"⟩
abbrev cX4_byteAt : ByteArray := prog_6_method_5_code
def yX4_byteAt : MethodName := ⟨RX4, "byteAt", "(I)I"⟩
abbrev cX4_figureAt : ByteArray := prog_6_method_6_code
def yX4_figureAt : MethodName := ⟨RX4, "figureAt", "(I)I"⟩
abbrev cX4_firstFault : ByteArray := prog_6_method_7_code
def yX4_firstFault : MethodName := ⟨RX4, "firstFault", "()I"⟩
abbrev cX4_isFitting : ByteArray := prog_6_method_8_code
def yX4_isFitting : MethodName := ⟨RX4, "isFitting", "(II)Z"⟩
def RX5 : String := "FirstUmbrella$Slots"
def TX5 : u_T := fun k => match k with
  | 0 => ("FirstUmbrella$Slots", "stored", "[LFirstUmbrella$Scene;", true)
  | _ => ("FirstUmbrella$Slots", "used", "I", false)
def tyX5 : Nat → FieldType := fun k => match k with
  | 0 => .array (.object "FirstUmbrella$Scene")
  | _ => .int
abbrev wsX50 : List Cond := u_ws RX5 TX5 2
theorem nmX5 : ∀ a, a < 2 → ∀ b, b < 2 → a ≠ b → (TX5 a).2.1 ≠ (TX5 b).2.1 := by decide +kernel
theorem tyX5_ok : ∀ k, k < 2 → parseFieldDescriptor (TX5 k).2.2.1 = some (tyX5 k) := by decide +kernel
abbrev cX5_init : ByteArray := prog_7_method_1_code
def yX5_init : MethodName := ⟨RX5, "<init>", "(LFirstUmbrella$Plan;)V"⟩
abbrev cX5_clear : ByteArray := prog_7_method_2_code
def yX5_clear : MethodName := ⟨RX5, "clear", "()V"⟩
abbrev cX5_store : ByteArray := prog_7_method_3_code
def yX5_store : MethodName := ⟨RX5, "store", "(ILFirstUmbrella$Scene;)V"⟩
abbrev cX5_fetch : ByteArray := prog_7_method_4_code
def yX5_fetch : MethodName := ⟨RX5, "fetch", "(ILFirstUmbrella$Scene;)Z"⟩
def RX6 : String := "FirstUmbrella"
def TX6 : u_T := fun k => match k with
  | 0 => ("FirstUmbrella", "script", "LFirstUmbrella$Script;", true)
  | 1 => ("FirstUmbrella", "plan", "LFirstUmbrella$Plan;", true)
  | 2 => ("FirstUmbrella", "now", "LFirstUmbrella$Scene;", true)
  | 3 => ("FirstUmbrella", "trial", "LFirstUmbrella$Scene;", true)
  | 4 => ("FirstUmbrella", "past", "LFirstUmbrella$Past;", true)
  | 5 => ("FirstUmbrella", "slots", "LFirstUmbrella$Slots;", true)
  | 6 => ("FirstUmbrella", "felt", "LFirstUmbrella$Felt;", true)
  | _ => ("FirstUmbrella", "seedNow", "J", false)
def tyX6 : Nat → FieldType := fun k => match k with
  | 0 => .object "FirstUmbrella$Script"
  | 1 => .object "FirstUmbrella$Plan"
  | 2 => .object "FirstUmbrella$Scene"
  | 3 => .object "FirstUmbrella$Scene"
  | 4 => .object "FirstUmbrella$Past"
  | 5 => .object "FirstUmbrella$Slots"
  | 6 => .object "FirstUmbrella$Felt"
  | _ => .long
abbrev wsX60 : List Cond := u_ws RX6 TX6 8
theorem nmX6 : ∀ a, a < 8 → ∀ b, b < 8 → a ≠ b → (TX6 a).2.1 ≠ (TX6 b).2.1 := by decide +kernel
theorem tyX6_ok : ∀ k, k < 8 → parseFieldDescriptor (TX6 k).2.2.1 = some (tyX6 k) := by decide +kernel
abbrev cX6_init : ByteArray := prog_1_method_1_code
def yX6_init : MethodName := ⟨RX6, "<init>", "()V"⟩
abbrev cX6_write : ByteArray := prog_1_method_2_code
def yX6_write : MethodName := ⟨RX6, "write", "(I)I"⟩
abbrev cX6_wipe : ByteArray := prog_1_method_3_code
def yX6_wipe : MethodName := ⟨RX6, "wipe", "()I"⟩
abbrev cX6_fault : ByteArray := prog_1_method_4_code
def yX6_fault : MethodName := ⟨RX6, "fault", "()I"⟩
abbrev cX6_town : ByteArray := prog_1_method_5_code
def yX6_town : MethodName := ⟨RX6, "town", "()I"⟩
abbrev cX6_about : ByteArray := prog_1_method_6_code
def yX6_about : MethodName := ⟨RX6, "about", "(I)I"⟩
abbrev cX6_walker : ByteArray := prog_1_method_7_code
def yX6_walker : MethodName := ⟨RX6, "walker", "(II)I"⟩
abbrev cX6_need : ByteArray := prog_1_method_8_code
def yX6_need : MethodName := ⟨RX6, "need", "(II)I"⟩
abbrev cX6_street : ByteArray := prog_1_method_9_code
def yX6_street : MethodName := ⟨RX6, "street", "(II)I"⟩
abbrev cX6_open : ByteArray := prog_1_method_10_code
def yX6_open : MethodName := ⟨RX6, "open", "(I)I"⟩
abbrev cX6_shut : ByteArray := prog_1_method_11_code
def yX6_shut : MethodName := ⟨RX6, "shut", "(I)I"⟩
abbrev cX6_walk : ByteArray := prog_1_method_12_code
def yX6_walk : MethodName := ⟨RX6, "walk", "(IZ)I"⟩
abbrev cX6_hour : ByteArray := prog_1_method_13_code
def yX6_hour : MethodName := ⟨RX6, "hour", "()I"⟩
abbrev cX6_undo : ByteArray := prog_1_method_14_code
def yX6_undo : MethodName := ⟨RX6, "undo", "()I"⟩
abbrev cX6_wet : ByteArray := prog_1_method_15_code
def yX6_wet : MethodName := ⟨RX6, "wet", "(II)I"⟩
abbrev cX6_needs : ByteArray := prog_1_method_16_code
def yX6_needs : MethodName := ⟨RX6, "needs", "(II)I"⟩
abbrev cX6_dry : ByteArray := prog_1_method_17_code
def yX6_dry : MethodName := ⟨RX6, "dry", "(I)I"⟩
abbrev cX6_asked : ByteArray := prog_1_method_18_code
def yX6_asked : MethodName := ⟨RX6, "asked", "(I)I"⟩
abbrev cX6_sent : ByteArray := prog_1_method_19_code
def yX6_sent : MethodName := ⟨RX6, "sent", "(II)I"⟩
abbrev cX6_judge : ByteArray := prog_1_method_20_code
def yX6_judge : MethodName := ⟨RX6, "judge", "(IJ)I"⟩
abbrev cX6_share : ByteArray := prog_1_method_21_code
def yX6_share : MethodName := ⟨RX6, "share", "(IZ)I"⟩
abbrev cX6_feel : ByteArray := prog_1_method_22_code
def yX6_feel : MethodName := ⟨RX6, "feel", "(III)I"⟩
abbrev cX6_unfeel : ByteArray := prog_1_method_23_code
def yX6_unfeel : MethodName := ⟨RX6, "unfeel", "()I"⟩
abbrev cX6_may : ByteArray := prog_1_method_24_code
def yX6_may : MethodName := ⟨RX6, "may", "(I)I"⟩
abbrev cX6_rests : ByteArray := prog_1_method_25_code
def yX6_rests : MethodName := ⟨RX6, "rests", "(III)I"⟩
abbrev cX6_sudden : ByteArray := prog_1_method_26_code
def yX6_sudden : MethodName := ⟨RX6, "sudden", "(IIIZ)I"⟩
abbrev cX6_seed : ByteArray := prog_1_method_27_code
def yX6_seed : MethodName := ⟨RX6, "seed", "(J)J"⟩
abbrev cX6_weeks : ByteArray := prog_1_method_28_code
def yX6_weeks : MethodName := ⟨RX6, "weeks", "(I)I"⟩
abbrev cX6_keep : ByteArray := prog_1_method_29_code
def yX6_keep : MethodName := ⟨RX6, "keep", "(I)I"⟩
abbrev cX6_again : ByteArray := prog_1_method_30_code
def yX6_again : MethodName := ⟨RX6, "again", "(I)I"⟩
abbrev cX6_keptIfOpened : ByteArray := prog_1_method_31_code
def yX6_keptIfOpened : MethodName := ⟨RX6, "keptIfOpened", "(I)I"⟩
abbrev cX6_keptIfSent : ByteArray := prog_1_method_32_code
def yX6_keptIfSent : MethodName := ⟨RX6, "keptIfSent", "(II)I"⟩
abbrev cX6_keptIfCome : ByteArray := prog_1_method_33_code
def yX6_keptIfCome : MethodName := ⟨RX6, "keptIfCome", "(I)I"⟩
abbrev cX6_comesTrue : ByteArray := prog_1_method_34_code
def yX6_comesTrue : MethodName := ⟨RX6, "comesTrue", "(III)Z"⟩
abbrev cX6_doByChance : ByteArray := prog_1_method_35_code
def yX6_doByChance : MethodName := ⟨RX6, "doByChance", "(I)V"⟩
abbrev cX6_isContent : ByteArray := prog_1_method_36_code
def yX6_isContent : MethodName := ⟨RX6, "isContent", "(IZIZ)Z"⟩
abbrev cX6_gain : ByteArray := prog_1_method_37_code
def yX6_gain : MethodName := ⟨RX6, "gain", "(IZIZ)I"⟩
abbrev cX6_isStreet : ByteArray := prog_1_method_38_code
def yX6_isStreet : MethodName := ⟨RX6, "isStreet", "(I)Z"⟩
abbrev cX6_isSlot : ByteArray := prog_1_method_39_code
def yX6_isSlot : MethodName := ⟨RX6, "isSlot", "(I)Z"⟩
abbrev cX6_isChoice : ByteArray := prog_1_method_40_code
def yX6_isChoice : MethodName := ⟨RX6, "isChoice", "(I)Z"⟩
abbrev cX6_has : ByteArray := prog_1_method_41_code
def yX6_has : MethodName := ⟨RX6, "has", "(II)Z"⟩
abbrev cX6_isWithin : ByteArray := prog_1_method_42_code
def yX6_isWithin : MethodName := ⟨RX6, "isWithin", "(II)Z"⟩
abbrev cX6_at : ByteArray := prog_1_method_43_code
def yX6_at : MethodName := ⟨RX6, "at", "([II)I"⟩
abbrev cX6_put : ByteArray := prog_1_method_44_code
def yX6_put : MethodName := ⟨RX6, "put", "([III)V"⟩
abbrev cX6_withoutLast : ByteArray := prog_1_method_45_code
def yX6_withoutLast : MethodName := ⟨RX6, "withoutLast", "(JI)J"⟩
abbrev cX6_ordersOf : ByteArray := prog_1_method_46_code
def yX6_ordersOf : MethodName := ⟨RX6, "ordersOf", "(I)I"⟩
abbrev cX6_power : ByteArray := prog_1_method_47_code
def yX6_power : MethodName := ⟨RX6, "power", "(II)I"⟩
abbrev cX6_partOf : ByteArray := prog_1_method_48_code
def yX6_partOf : MethodName := ⟨RX6, "partOf", "(IIZ)I"⟩
abbrev cX6_commonDivisor : ByteArray := prog_1_method_49_code
def yX6_commonDivisor : MethodName := ⟨RX6, "commonDivisor", "(II)I"⟩
abbrev cX6_scenes : ByteArray := prog_1_method_50_code
def yX6_scenes : MethodName := ⟨RX6, "scenes", "(LFirstUmbrella$Plan;I)[LFirstUmbrella$Scene;"⟩
abbrev cX6_sceneAt : ByteArray := prog_1_method_51_code
def yX6_sceneAt : MethodName := ⟨RX6, "sceneAt", "([LFirstUmbrella$Scene;I)LFirstUmbrella$Scene;"⟩
def RX7 : String := "FirstUmbrellaModel"
def TX7 : u_T := fun k => match k with
  | 0 => ("FirstUmbrellaModel", "thrown", "I", false)
  | 1 => ("FirstUmbrellaModel", "text", "[I", true)
  | 2 => ("FirstUmbrellaModel", "textSize", "I", false)
  | 3 => ("FirstUmbrellaModel", "place", "I", false)
  | 4 => ("FirstUmbrellaModel", "walkers", "I", false)
  | 5 => ("FirstUmbrellaModel", "stuff", "[I", true)
  | 6 => ("FirstUmbrellaModel", "needs", "I", false)
  | 7 => ("FirstUmbrellaModel", "need", "[I", true)
  | 8 => ("FirstUmbrellaModel", "readWalkers", "I", false)
  | 9 => ("FirstUmbrellaModel", "readWalker", "[I", true)
  | 10 => ("FirstUmbrellaModel", "readNeeds", "I", false)
  | 11 => ("FirstUmbrellaModel", "readNeed", "[I", true)
  | 12 => ("FirstUmbrellaModel", "page", "[I", true)
  | 13 => ("FirstUmbrellaModel", "trial", "[I", true)
  | 14 => ("FirstUmbrellaModel", "book", "[I", true)
  | 15 => ("FirstUmbrellaModel", "acts", "I", false)
  | 16 => ("FirstUmbrellaModel", "kept", "[I", true)
  | 17 => ("FirstUmbrellaModel", "isKept", "[Z", true)
  | 18 => ("FirstUmbrellaModel", "felt", "I", false)
  | 19 => ("FirstUmbrellaModel", "feltStreet", "[I", true)
  | 20 => ("FirstUmbrellaModel", "feltHour", "[I", true)
  | 21 => ("FirstUmbrellaModel", "feltRain", "[I", true)
  | 22 => ("FirstUmbrellaModel", "seed", "J", false)
  | 23 => ("FirstUmbrellaModel", "bestWhich", "I", false)
  | 24 => ("FirstUmbrellaModel", "bestMany", "I", false)
  | 25 => ("FirstUmbrellaModel", "mayMany", "I", false)
  | 26 => ("FirstUmbrellaModel", "mayFirst", "I", false)
  | 27 => ("FirstUmbrellaModel", "restMany", "I", false)
  | 28 => ("FirstUmbrellaModel", "restFirst", "I", false)
  | 29 => ("FirstUmbrellaModel", "gains", "[I", true)
  | _ => ("FirstUmbrellaModel", "value", "[I", true)
def tyX7 : Nat → FieldType := fun k => match k with
  | 0 => .int
  | 1 => .array .int
  | 2 => .int
  | 3 => .int
  | 4 => .int
  | 5 => .array .int
  | 6 => .int
  | 7 => .array .int
  | 8 => .int
  | 9 => .array .int
  | 10 => .int
  | 11 => .array .int
  | 12 => .array .int
  | 13 => .array .int
  | 14 => .array .int
  | 15 => .int
  | 16 => .array .int
  | 17 => .array .boolean
  | 18 => .int
  | 19 => .array .int
  | 20 => .array .int
  | 21 => .array .int
  | 22 => .long
  | 23 => .int
  | 24 => .int
  | 25 => .int
  | 26 => .int
  | 27 => .int
  | 28 => .int
  | 29 => .array .int
  | _ => .array .int
abbrev wsX70 : List Cond := u_ws RX7 TX7 31
theorem nmX7 : ∀ a, a < 31 → ∀ b, b < 31 → a ≠ b → (TX7 a).2.1 ≠ (TX7 b).2.1 := by decide +kernel
theorem tyX7_ok : ∀ k, k < 31 → parseFieldDescriptor (TX7 k).2.2.1 = some (tyX7 k) := by decide +kernel
abbrev cX7_init : ByteArray := prog_9_method_1_code
def yX7_init : MethodName := ⟨RX7, "<init>", "()V"⟩
abbrev cX7_in : ByteArray := prog_9_method_3_code
def yX7_in : MethodName := ⟨RX7, "in", "(JJJ)Z"⟩
abbrev cX7_has : ByteArray := prog_9_method_4_code
def yX7_has : MethodName := ⟨RX7, "has", "(II)Z"⟩
abbrev cX7_many : ByteArray := prog_9_method_5_code
def yX7_many : MethodName := ⟨RX7, "many", "(I)I"⟩
abbrev cX7_power : ByteArray := prog_9_method_6_code
def yX7_power : MethodName := ⟨RX7, "power", "(II)I"⟩
abbrev cX7_noWalker : ByteArray := prog_9_method_7_code
def yX7_noWalker : MethodName := ⟨RX7, "noWalker", "(I)Z"⟩
abbrev cX7_noStreet : ByteArray := prog_9_method_8_code
def yX7_noStreet : MethodName := ⟨RX7, "noStreet", "(I)Z"⟩
abbrev cX7_write : ByteArray := prog_9_method_9_code
def yX7_write : MethodName := ⟨RX7, "write", "(I)I"⟩
abbrev cX7_wipe : ByteArray := prog_9_method_10_code
def yX7_wipe : MethodName := ⟨RX7, "wipe", "()I"⟩
abbrev cX7_figure : ByteArray := prog_9_method_11_code
def yX7_figure : MethodName := ⟨RX7, "figure", "(II)I"⟩
abbrev cX7_readOneWalker : ByteArray := prog_9_method_12_code
def yX7_readOneWalker : MethodName := ⟨RX7, "readOneWalker", "()Z"⟩
abbrev cX7_readOneNeed : ByteArray := prog_9_method_13_code
def yX7_readOneNeed : MethodName := ⟨RX7, "readOneNeed", "()Z"⟩
abbrev cX7_readThing : ByteArray := prog_9_method_14_code
def yX7_readThing : MethodName := ⟨RX7, "readThing", "()Z"⟩
abbrev cX7_readTown : ByteArray := prog_9_method_15_code
def yX7_readTown : MethodName := ⟨RX7, "readTown", "()I"⟩
abbrev cX7_fault : ByteArray := prog_9_method_16_code
def yX7_fault : MethodName := ⟨RX7, "fault", "()I"⟩
abbrev cX7_town : ByteArray := prog_9_method_17_code
def yX7_town : MethodName := ⟨RX7, "town", "()I"⟩
abbrev cX7_openIn : ByteArray := prog_9_method_18_code
def yX7_openIn : MethodName := ⟨RX7, "openIn", "([II)I"⟩
abbrev cX7_rainOf : ByteArray := prog_9_method_19_code
def yX7_rainOf : MethodName := ⟨RX7, "rainOf", "([I)I"⟩
abbrev cX7_hailOf : ByteArray := prog_9_method_20_code
def yX7_hailOf : MethodName := ⟨RX7, "hailOf", "([I)I"⟩
abbrev cX7_greater : ByteArray := prog_9_method_21_code
def yX7_greater : MethodName := ⟨RX7, "greater", "(II)I"⟩
abbrev cX7_goOpen : ByteArray := prog_9_method_22_code
def yX7_goOpen : MethodName := ⟨RX7, "goOpen", "([II)V"⟩
abbrev cX7_goShut : ByteArray := prog_9_method_23_code
def yX7_goShut : MethodName := ⟨RX7, "goShut", "([II)V"⟩
abbrev cX7_stateThen : ByteArray := prog_9_method_24_code
def yX7_stateThen : MethodName := ⟨RX7, "stateThen", "([III)I"⟩
abbrev cX7_goHour : ByteArray := prog_9_method_25_code
def yX7_goHour : MethodName := ⟨RX7, "goHour", "([I)I"⟩
abbrev cX7_goHours : ByteArray := prog_9_method_26_code
def yX7_goHours : MethodName := ⟨RX7, "goHours", "(I)V"⟩
abbrev cX7_needsThat : ByteArray := prog_9_method_27_code
def yX7_needsThat : MethodName := ⟨RX7, "needsThat", "([II)I"⟩
abbrev cX7_about : ByteArray := prog_9_method_28_code
def yX7_about : MethodName := ⟨RX7, "about", "(I)I"⟩
abbrev cX7_walker : ByteArray := prog_9_method_29_code
def yX7_walker : MethodName := ⟨RX7, "walker", "(II)I"⟩
abbrev cX7_need : ByteArray := prog_9_method_30_code
def yX7_need : MethodName := ⟨RX7, "need", "(II)I"⟩
abbrev cX7_street : ByteArray := prog_9_method_31_code
def yX7_street : MethodName := ⟨RX7, "street", "(II)I"⟩
abbrev cX7_note : ByteArray := prog_9_method_32_code
def yX7_note : MethodName := ⟨RX7, "note", "()V"⟩
abbrev cX7_open : ByteArray := prog_9_method_33_code
def yX7_open : MethodName := ⟨RX7, "open", "(I)I"⟩
abbrev cX7_shut : ByteArray := prog_9_method_34_code
def yX7_shut : MethodName := ⟨RX7, "shut", "(I)I"⟩
abbrev cX7_canWalk : ByteArray := prog_9_method_35_code
def yX7_canWalk : MethodName := ⟨RX7, "canWalk", "([III)Z"⟩
abbrev cX7_walk : ByteArray := prog_9_method_36_code
def yX7_walk : MethodName := ⟨RX7, "walk", "(IZ)I"⟩
abbrev cX7_hour : ByteArray := prog_9_method_37_code
def yX7_hour : MethodName := ⟨RX7, "hour", "()I"⟩
abbrev cX7_undo : ByteArray := prog_9_method_38_code
def yX7_undo : MethodName := ⟨RX7, "undo", "()I"⟩
abbrev cX7_begin : ByteArray := prog_9_method_39_code
def yX7_begin : MethodName := ⟨RX7, "begin", "()V"⟩
abbrev cX7_wet : ByteArray := prog_9_method_40_code
def yX7_wet : MethodName := ⟨RX7, "wet", "(II)I"⟩
abbrev cX7_needs : ByteArray := prog_9_method_41_code
def yX7_needs : MethodName := ⟨RX7, "needs", "(II)I"⟩
abbrev cX7_dry : ByteArray := prog_9_method_42_code
def yX7_dry : MethodName := ⟨RX7, "dry", "(I)I"⟩
abbrev cX7_keptThen : ByteArray := prog_9_method_43_code
def yX7_keptThen : MethodName := ⟨RX7, "keptThen", "()I"⟩
abbrev cX7_openAll : ByteArray := prog_9_method_44_code
def yX7_openAll : MethodName := ⟨RX7, "openAll", "(I)V"⟩
abbrev cX7_asked : ByteArray := prog_9_method_45_code
def yX7_asked : MethodName := ⟨RX7, "asked", "(I)I"⟩
abbrev cX7_sent : ByteArray := prog_9_method_46_code
def yX7_sent : MethodName := ⟨RX7, "sent", "(II)I"⟩
abbrev cX7_longPower : ByteArray := prog_9_method_47_code
def yX7_longPower : MethodName := ⟨RX7, "longPower", "(JI)J"⟩
abbrev cX7_does : ByteArray := prog_9_method_48_code
def yX7_does : MethodName := ⟨RX7, "does", "(I)Z"⟩
abbrev cX7_judge : ByteArray := prog_9_method_49_code
def yX7_judge : MethodName := ⟨RX7, "judge", "(IJ)I"⟩
abbrev cX7_ways : ByteArray := prog_9_method_50_code
def yX7_ways : MethodName := ⟨RX7, "ways", "(I)I"⟩
abbrev cX7_divisor : ByteArray := prog_9_method_51_code
def yX7_divisor : MethodName := ⟨RX7, "divisor", "(II)I"⟩
abbrev cX7_fraction : ByteArray := prog_9_method_52_code
def yX7_fraction : MethodName := ⟨RX7, "fraction", "(IIZ)I"⟩
abbrev cX7_share : ByteArray := prog_9_method_53_code
def yX7_share : MethodName := ⟨RX7, "share", "(IZ)I"⟩
abbrev cX7_feel : ByteArray := prog_9_method_54_code
def yX7_feel : MethodName := ⟨RX7, "feel", "(III)I"⟩
abbrev cX7_unfeel : ByteArray := prog_9_method_55_code
def yX7_unfeel : MethodName := ⟨RX7, "unfeel", "()I"⟩
abbrev cX7_rainsBy : ByteArray := prog_9_method_56_code
def yX7_rainsBy : MethodName := ⟨RX7, "rainsBy", "(IIIII)Z"⟩
abbrev cX7_findMay : ByteArray := prog_9_method_57_code
def yX7_findMay : MethodName := ⟨RX7, "findMay", "()V"⟩
abbrev cX7_may : ByteArray := prog_9_method_58_code
def yX7_may : MethodName := ⟨RX7, "may", "(I)I"⟩
abbrev cX7_gainOf : ByteArray := prog_9_method_59_code
def yX7_gainOf : MethodName := ⟨RX7, "gainOf", "(IZ)I"⟩
abbrev cX7_rests : ByteArray := prog_9_method_60_code
def yX7_rests : MethodName := ⟨RX7, "rests", "(III)I"⟩
abbrev cX7_sudden : ByteArray := prog_9_method_61_code
def yX7_sudden : MethodName := ⟨RX7, "sudden", "(IIIZ)I"⟩
abbrev cX7_seed : ByteArray := prog_9_method_62_code
def yX7_seed : MethodName := ⟨RX7, "seed", "(J)J"⟩
abbrev cX7_weeks : ByteArray := prog_9_method_63_code
def yX7_weeks : MethodName := ⟨RX7, "weeks", "(I)I"⟩
abbrev cX7_keep : ByteArray := prog_9_method_64_code
def yX7_keep : MethodName := ⟨RX7, "keep", "(I)I"⟩
abbrev cX7_again : ByteArray := prog_9_method_65_code
def yX7_again : MethodName := ⟨RX7, "again", "(I)I"⟩
def RJ6 : String := "java/lang/Integer"
def TJ6 : u_T := fun k => match k with
  | _ => ("", "", "", false)
def tyJ6 : Nat → FieldType := fun k => match k with
  | _ => .int
abbrev wsJ60 : List Cond := u_ws RJ6 TJ6 0
theorem nmJ6 : ∀ a, a < 0 → ∀ b, b < 0 → a ≠ b → (TJ6 a).2.1 ≠ (TJ6 b).2.1 := by decide +kernel
theorem tyJ6_ok : ∀ k, k < 0 → parseFieldDescriptor (TJ6 k).2.2.1 = some (tyJ6 k) := by decide +kernel
abbrev cJ6_bitCount_0f7a4 : ByteArray := prog_10_method_49_code
def yJ6_bitCount_0f7a4 : MethodName := ⟨RJ6, "bitCount", "(I)I"⟩
def RJ9 : String := "java/lang/Math"
def TJ9 : u_T := fun k => match k with
  | _ => ("", "", "", false)
def tyJ9 : Nat → FieldType := fun k => match k with
  | _ => .int
abbrev wsJ90 : List Cond := u_ws RJ9 TJ9 0
theorem nmJ9 : ∀ a, a < 0 → ∀ b, b < 0 → a ≠ b → (TJ9 a).2.1 ≠ (TJ9 b).2.1 := by decide +kernel
theorem tyJ9_ok : ∀ k, k < 0 → parseFieldDescriptor (TJ9 k).2.2.1 = some (tyJ9 k) := by decide +kernel
abbrev cJ9_abs_0f7a4 : ByteArray := prog_11_method_59_code
def yJ9_abs_0f7a4 : MethodName := ⟨RJ9, "abs", "(I)I"⟩
abbrev cJ9_max_7cf53 : ByteArray := prog_11_method_65_code
def yJ9_max_7cf53 : MethodName := ⟨RJ9, "max", "(II)I"⟩
def RJ10 : String := "java/lang/System"
def TJ10 : u_T := fun k => match k with
  | _ => ("", "", "", false)
def tyJ10 : Nat → FieldType := fun k => match k with
  | _ => .int
theorem nmJ10 : ∀ a, a < 0 → ∀ b, b < 0 → a ≠ b → (TJ10 a).2.1 ≠ (TJ10 b).2.1 := by decide +kernel
theorem tyJ10_ok : ∀ k, k < 0 → parseFieldDescriptor (TJ10 k).2.2.1 = some (tyJ10 k) := by decide +kernel
def RJ7 : String := "java/util/Arrays"
def TJ7 : u_T := fun k => match k with
  | _ => ("", "", "", false)
def tyJ7 : Nat → FieldType := fun k => match k with
  | _ => .int
abbrev wsJ70 : List Cond := u_ws RJ7 TJ7 0
theorem nmJ7 : ∀ a, a < 0 → ∀ b, b < 0 → a ≠ b → (TJ7 a).2.1 ≠ (TJ7 b).2.1 := by decide +kernel
theorem tyJ7_ok : ∀ k, k < 0 → parseFieldDescriptor (TJ7 k).2.2.1 = some (tyJ7 k) := by decide +kernel
abbrev cJ7_fill_53178 : ByteArray := prog_13_method_103_code
def yJ7_fill_53178 : MethodName := ⟨RJ7, "fill", "([II)V"⟩
def RL : String := "FirstUmbrellaLaw"
abbrev cL_law : ByteArray := code
def yL_law : MethodName := ⟨RL, "law", "([I)Z"⟩
end
section
def Wl : List Cond := lw_tbl.filter goodWord
theorem wl_of {w : Cond} (i : Nat) (h : lw_tbl[i]? = some w) (hg : goodWord w = true) : w ∈ Wl := List.mem_filter.mpr ⟨List.mem_of_getElem? h, hg⟩
theorem wl_good : GoodIn Wl Wl := fun w h => ⟨h, good_of_word (List.mem_filter.mp h).2⟩
theorem zz1 : Cond.methodLink "FirstUmbrella" 3 ⟨"java/lang/Object", "<init>", "()V"⟩ ∈ Wl := wl_of 50 (by decide +kernel) rfl
theorem zf59 : Cond.fieldLink RX4 9 "FirstUmbrella$Script" "bytes" "[I" ∈ Wl := wl_of 59 (by decide +kernel) rfl
theorem zf60 : Cond.fieldLink RX4 15 "FirstUmbrella$Script" "length" "I" ∈ Wl := wl_of 60 (by decide +kernel) rfl
theorem zf73 : Cond.fieldLink RX2 27 "FirstUmbrella$Plan" "walkers" "I" ∈ Wl := wl_of 73 (by decide +kernel) rfl
theorem zf74 : Cond.fieldLink RX2 31 "FirstUmbrella$Plan" "needs" "I" ∈ Wl := wl_of 74 (by decide +kernel) rfl
theorem zf75 : Cond.fieldLink RX2 9 "FirstUmbrella$Plan" "homes" "[I" ∈ Wl := wl_of 75 (by decide +kernel) rfl
theorem zf76 : Cond.fieldLink RX2 15 "FirstUmbrella$Plan" "stuffs" "[I" ∈ Wl := wl_of 76 (by decide +kernel) rfl
theorem zf77 : Cond.fieldLink RX2 18 "FirstUmbrella$Plan" "needStreets" "[I" ∈ Wl := wl_of 77 (by decide +kernel) rfl
theorem zf78 : Cond.fieldLink RX2 21 "FirstUmbrella$Plan" "needSorts" "[I" ∈ Wl := wl_of 78 (by decide +kernel) rfl
theorem zf79 : Cond.fieldLink RX2 24 "FirstUmbrella$Plan" "needFigures" "[I" ∈ Wl := wl_of 79 (by decide +kernel) rfl
theorem zf101 : Cond.fieldLink RX3 24 "FirstUmbrella$Scene" "plan" "LFirstUmbrella$Plan;" ∈ Wl := wl_of 101 (by decide +kernel) rfl
theorem zf102 : Cond.fieldLink RX3 9 "FirstUmbrella$Scene" "places" "[I" ∈ Wl := wl_of 102 (by decide +kernel) rfl
theorem zf103 : Cond.fieldLink RX3 15 "FirstUmbrella$Scene" "lasts" "[I" ∈ Wl := wl_of 103 (by decide +kernel) rfl
theorem zf104 : Cond.fieldLink RX3 18 "FirstUmbrella$Scene" "wetness" "[I" ∈ Wl := wl_of 104 (by decide +kernel) rfl
theorem zf105 : Cond.fieldLink RX3 21 "FirstUmbrella$Scene" "fates" "[I" ∈ Wl := wl_of 105 (by decide +kernel) rfl
theorem zf106 : Cond.fieldLink RX3 40 "FirstUmbrella$Scene" "opened" "I" ∈ Wl := wl_of 106 (by decide +kernel) rfl
theorem zf107 : Cond.fieldLink RX3 44 "FirstUmbrella$Scene" "time" "I" ∈ Wl := wl_of 107 (by decide +kernel) rfl
theorem zf133 : Cond.fieldLink RX1 13 "FirstUmbrella$Past" "found" "[LFirstUmbrella$Scene;" ∈ Wl := wl_of 133 (by decide +kernel) rfl
theorem zf134 : Cond.fieldLink RX1 23 "FirstUmbrella$Past" "first" "I" ∈ Wl := wl_of 134 (by decide +kernel) rfl
theorem zf135 : Cond.fieldLink RX1 19 "FirstUmbrella$Past" "count" "I" ∈ Wl := wl_of 135 (by decide +kernel) rfl
theorem zf150 : Cond.fieldLink RX5 13 "FirstUmbrella$Slots" "stored" "[LFirstUmbrella$Scene;" ∈ Wl := wl_of 150 (by decide +kernel) rfl
theorem zg59 : Cond.fieldLink RX4 9 "FirstUmbrella$Script" "bytes" "[I" ∈ Wl := wl_of 59 rfl rfl
theorem zg60 : Cond.fieldLink RX4 15 "FirstUmbrella$Script" "length" "I" ∈ Wl := wl_of 60 rfl rfl
theorem zg73 : Cond.fieldLink RX2 27 "FirstUmbrella$Plan" "walkers" "I" ∈ Wl := wl_of 73 rfl rfl
theorem zg74 : Cond.fieldLink RX2 31 "FirstUmbrella$Plan" "needs" "I" ∈ Wl := wl_of 74 rfl rfl
theorem zg75 : Cond.fieldLink RX2 9 "FirstUmbrella$Plan" "homes" "[I" ∈ Wl := wl_of 75 rfl rfl
theorem zg76 : Cond.fieldLink RX2 15 "FirstUmbrella$Plan" "stuffs" "[I" ∈ Wl := wl_of 76 rfl rfl
theorem zg77 : Cond.fieldLink RX2 18 "FirstUmbrella$Plan" "needStreets" "[I" ∈ Wl := wl_of 77 rfl rfl
theorem zg78 : Cond.fieldLink RX2 21 "FirstUmbrella$Plan" "needSorts" "[I" ∈ Wl := wl_of 78 rfl rfl
theorem zg79 : Cond.fieldLink RX2 24 "FirstUmbrella$Plan" "needFigures" "[I" ∈ Wl := wl_of 79 rfl rfl
theorem zg101 : Cond.fieldLink RX3 24 "FirstUmbrella$Scene" "plan" "LFirstUmbrella$Plan;" ∈ Wl := wl_of 101 rfl rfl
theorem zg102 : Cond.fieldLink RX3 9 "FirstUmbrella$Scene" "places" "[I" ∈ Wl := wl_of 102 rfl rfl
theorem zg103 : Cond.fieldLink RX3 15 "FirstUmbrella$Scene" "lasts" "[I" ∈ Wl := wl_of 103 rfl rfl
theorem zg104 : Cond.fieldLink RX3 18 "FirstUmbrella$Scene" "wetness" "[I" ∈ Wl := wl_of 104 rfl rfl
theorem zg105 : Cond.fieldLink RX3 21 "FirstUmbrella$Scene" "fates" "[I" ∈ Wl := wl_of 105 rfl rfl
theorem zg106 : Cond.fieldLink RX3 40 "FirstUmbrella$Scene" "opened" "I" ∈ Wl := wl_of 106 rfl rfl
theorem zg107 : Cond.fieldLink RX3 44 "FirstUmbrella$Scene" "time" "I" ∈ Wl := wl_of 107 rfl rfl
theorem zg133 : Cond.fieldLink RX1 13 "FirstUmbrella$Past" "found" "[LFirstUmbrella$Scene;" ∈ Wl := wl_of 133 rfl rfl
theorem zg134 : Cond.fieldLink RX1 23 "FirstUmbrella$Past" "first" "I" ∈ Wl := wl_of 134 rfl rfl
theorem zg135 : Cond.fieldLink RX1 19 "FirstUmbrella$Past" "count" "I" ∈ Wl := wl_of 135 rfl rfl
theorem zg150 : Cond.fieldLink RX5 13 "FirstUmbrella$Slots" "stored" "[LFirstUmbrella$Scene;" ∈ Wl := wl_of 150 rfl rfl
end
section
-- worlds as functions of an index; the judgement gG: the machine, its heap and its frame's locals bound inside
def wF (n : Nat) (a : Nat → Nat) (g : Nat → va_E) : va_W := (List.range n).map (fun k => (a k, g k))
theorem wF_get {n : Nat} {a : Nat → Nat} {g : Nat → va_E} {k : Nat} (h : k < n) : (wF n a g)[k]? = some (a k, g k) := by simp [wF, h]
theorem wF_inv {n : Nat} {a : Nat → Nat} {g : Nat → va_E} {k : Nat} {q : Nat × va_E} (h : (wF n a g)[k]? = some q) : k < n ∧ q = (a k, g k) := by
  by_cases hk : k < n
  · rw [wF_get hk] at h; cases h; exact ⟨hk, rfl⟩
  · have : (wF n a g)[k]? = none := by simp [wF]; omega
    rw [this] at h; cases h
def ve (x y : va_E) : Prop := ∀ (D : va_G) (cl : List vw_C) (q : Nat) (H : Heap), va_at D cl (q, x) H → va_at D cl (q, y) H
theorem ve_rf (x : va_E) : ve x x := fun _ _ _ _ h => h
theorem ve_eq {x y : va_E} (h : x = y) : ve x y := fun _ _ _ _ q => h ▸ q
theorem arrV_congr {cA : ClassId} {n : Nat} {f g : Nat → Value} (h : ∀ j, j < n → f j = g j) : arrV cA n f = arrV cA n g := by
  unfold arrV
  congr 1
  congr 1
  funext j
  exact h j.val j.isLt
theorem ve_arr {cA : ClassId} {n : Nat} {f g : Nat → Int32} (h : ∀ j, j < n → f j = g j) : ve (.inl (cA, n, .inl f)) (.inl (cA, n, .inl g)) := by
  intro D cl q H hq
  have hq : H[q]? = some (vp_cell cA (n, .inl f)) := hq
  show H[q]? = some (vp_cell cA (n, .inl g))
  rw [hq, vp_cell_i, vp_cell_i, arrV_congr (g := fun j => .int (g j)) (fun j hj => by rw [h j hj])]
theorem wF_set {D : va_G} {cl : List vw_C} {n : Nat} {a : Nat → Nat} {g g' : Nat → va_E} {k : Nat} {e : va_E} {H : Heap} (hP : va_P D cl ((wF n a g).set k (a k, e)) H) (h : ∀ i, i < n → ve (if i = k then e else g i) (g' i)) : va_P D cl (wF n a g') H := by
  intro i q hq
  obtain ⟨hi, rfl⟩ := wF_inv hq
  refine h i hi D cl (a i) H ?_
  by_cases hik : i = k
  · subst hik
    rw [if_pos rfl]
    refine hP i _ ?_
    rw [List.getElem?_set_self (by simp [wF]; exact hi)]
  · rw [if_neg hik]
    refine hP i _ ?_
    rw [List.getElem?_set_ne (Ne.symm hik), wF_get hi]
theorem wF_D {A : Nat → Prop} {n : Nat} {a : Nat → Nat} {g g' : Nat → va_E} (hD : va_D A (wF n a g)) : va_D A (wF n a g') := by
  refine ⟨fun i j x y hx hy hxy => ?_, fun k q hq => ?_⟩
  · obtain ⟨hi, rfl⟩ := wF_inv hx
    obtain ⟨hj, rfl⟩ := wF_inv hy
    exact hD.1 i j _ _ (wF_get hi) (wF_get hj) hxy
  · obtain ⟨hk, rfl⟩ := wF_inv hq
    exact hD.2 k (a k, g k) (wF_get hk)
theorem wF_A {n : Nat} {a : Nat → Nat} {g g' : Nat → va_E} {sz q : Nat} (h : va_A (wF n a g) sz q) : va_A (wF n a g') sz q := by
  rcases h with ⟨k, e, h⟩ | h
  · obtain ⟨hk, e1⟩ := wF_inv h
    exact Or.inl ⟨k, g' k, by rw [wF_get hk]; cases e1; rfl⟩
  · exact Or.inr h
-- the nest words
def isNest : Cond → Bool
  | .methodLinkNest _ _ _ _ => true
  | _ => false
def Nl : List Cond := lw_tbl.filter isNest
theorem nl_of {w : Cond} (i : Nat) (h : lw_tbl[i]? = some w) (hg : isNest w = true) : w ∈ Nl := List.mem_filter.mpr ⟨List.mem_of_getElem? h, hg⟩
def gK (D : va_G) (cl : List vw_C) (tys : List (ClassId × FieldType)) (U : State) : Prop := va_K D cl tys U ∧ ∀ w ∈ Nl, va_Nw w U
theorem gK.warm {D : va_G} {cl : List vw_C} {tys : List (ClassId × FieldType)} {s U : State} (hW : s.WarmedH U.vm) (h : gK D cl tys s) : gK D cl tys U := by
  refine ⟨va_K.moved hW.alike h.1, fun w hw => ?_⟩
  have h1 := h.2 w hw
  have h2 := (List.mem_filter.mp hw).2
  cases w <;> first | exact va_Nw.warmM hW h1 | cases h2
theorem gK.blind {D : va_G} {cl : List vw_C} {tys : List (ClassId × FieldType)} {U : State} {g : JFrame} {mk : MethodId} {a : Array Value} (h : gK D cl tys U) : gK D cl tys (U.calling g mk a) := by
  refine ⟨va_K.moved (u := U) (U := U.calling g mk a) (Vm.Alike.refl U.vm) h.1, fun w hw => ?_⟩
  have h1 := h.2 w hw
  have h2 := (List.mem_filter.mp hw).2
  cases w <;> first | exact va_Nw.same (u := U) (U := U.calling g mk a) rfl rfl h1 | cases h2
def gC (p : Program) (s : State) (m : MethodId) (args : Array Value) (meth : Method) (c : Code) (cc : ByteArray) (nL : Nat) (ret : Option FieldType) (own : String) (D : va_G) (cl : List vw_C) (tys : List (ClassId × FieldType)) (A0 : Nat → Prop) (H0 : Heap) : Prop :=
  p.tables.exec = Jvm.exec ∧ c.code = cc ∧ meth.sig.returnType = ret ∧ (∀ w ∈ Wl, w.before args s = true) ∧ s.vm.findClass own = some m.cls ∧ meth.locks = false ∧ c.maxLocals = nL ∧ gK D cl tys s ∧ (∀ q : Nat, H0.size ≤ q → A0 q)
def gG (p : Program) (l : Launch) (e : Env) (R : Room) (s : State) (m : MethodId) (args : Array Value) (below : List Frame) (meth : Method) (c : Code) (nL : Nat) (D : va_G) (cl : List vw_C) (A0 : Nat → Prop) (H0 : Heap) (cells slots : Nat) (Q : State → Prop) (w : va_W) (pc : Nat) (lv : List (Nat × Value)) (st : List Value) : Prop :=
  ∀ (H : Heap) (locs : List Loc) (ls : Array Slot), va_P D cl w H → va_D A0 w → va_S A0 H0 H locs → lv_has ls nL lv → W p l e R s m args below meth c H locs cells slots Q (F0 m pc ls st)
section
variable {p : Program} {l : Launch} {e : Env} {R : Room} {s : State} {m : MethodId} {args : Array Value} {below : List Frame} {meth : Method} {c : Code} {cells slots : Nat} {Q : State → Prop} {D : va_G} {cl : List vw_C} {tys : List (ClassId × FieldType)} {A0 : Nat → Prop} {H0 : Heap} {cc : ByteArray} {nL : Nat} {ret : Option FieldType} {own : String} {w : va_W} {pc : Nat} {lv : List (Nat × Value)} {st : List Value}
theorem g_iconst (C : gC p s m args meth c cc nL ret own D cl tys A0 H0) {n : Int} {v : Int32} (hd : decode cc pc = .ok (.iconst n, 1)) (hv : Int32.ofInt n = v) (k : gG p l e R s m args below meth c nL D cl A0 H0 cells slots Q w (pc + 1) lv (.int v :: st)) : gG p l e R s m args below meth c nL D cl A0 H0 cells slots Q w pc lv st :=
  fun H locs ls hP hD hS hl => lv_iconst C.1 C.2.1 hd hv (k H locs ls hP hD hS hl)
theorem g_bipush (C : gC p s m args meth c cc nL ret own D cl tys A0 H0) {n : Int} {v : Int32} (hd : decode cc pc = .ok (.bipush n, 2)) (hv : (Int8.ofInt n).toInt32 = v) (k : gG p l e R s m args below meth c nL D cl A0 H0 cells slots Q w (pc + 2) lv (.int v :: st)) : gG p l e R s m args below meth c nL D cl A0 H0 cells slots Q w pc lv (st) :=
  fun H locs ls hP hD hS hl => lv_bipush C.1 C.2.1 hd hv (k H locs ls hP hD hS hl)
theorem g_sipush (C : gC p s m args meth c cc nL ret own D cl tys A0 H0) {n : Int} {v : Int32} (hd : decode cc pc = .ok (.sipush n, 3)) (hv : (Int16.ofInt n).toInt32 = v) (k : gG p l e R s m args below meth c nL D cl A0 H0 cells slots Q w (pc + 3) lv (.int v :: st)) : gG p l e R s m args below meth c nL D cl A0 H0 cells slots Q w pc lv (st) :=
  fun H locs ls hP hD hS hl => lv_sipush C.1 C.2.1 hd hv (k H locs ls hP hD hS hl)
theorem g_lconst (C : gC p s m args meth c cc nL ret own D cl tys A0 H0) {n : Fin 2} {v : Int64} (hd : decode cc pc = .ok (.lconst n, 1)) (hv : Int64.ofNat (n : Nat) = v) (k : gG p l e R s m args below meth c nL D cl A0 H0 cells slots Q w (pc + 1) lv (.long v :: st)) : gG p l e R s m args below meth c nL D cl A0 H0 cells slots Q w pc lv (st) :=
  fun H locs ls hP hD hS hl => lv_lconst C.1 C.2.1 hd hv (k H locs ls hP hD hS hl)
theorem g_iload_n (C : gC p s m args meth c cc nL ret own D cl tys A0 H0) {k4 : Fin 4} {i : Nat} {x : Int32} (hd : decode cc pc = .ok (.iload_n k4, 1)) (j : Nat) (hi : (k4 : Nat) = i) (hj : lv[j]? = some (i, .int x)) (k : gG p l e R s m args below meth c nL D cl A0 H0 cells slots Q w (pc + 1) lv (.int x :: st)) : gG p l e R s m args below meth c nL D cl A0 H0 cells slots Q w pc lv (st) :=
  fun H locs ls hP hD hS hl => lv_iload_n C.1 C.2.1 hd hi (lv_at hl j hj) (k H locs ls hP hD hS hl)
theorem g_iload (C : gC p s m args meth c cc nL ret own D cl tys A0 H0) {i : Nat} {x : Int32} (hd : decode cc pc = .ok (.iload i, 2)) (j : Nat) (hj : lv[j]? = some (i, .int x)) (k : gG p l e R s m args below meth c nL D cl A0 H0 cells slots Q w (pc + 2) lv (.int x :: st)) : gG p l e R s m args below meth c nL D cl A0 H0 cells slots Q w pc lv (st) :=
  fun H locs ls hP hD hS hl => lv_iload C.1 C.2.1 hd (lv_at hl j hj) (k H locs ls hP hD hS hl)
theorem g_lload_n (C : gC p s m args meth c cc nL ret own D cl tys A0 H0) {k4 : Fin 4} {i : Nat} {x : Int64} (hd : decode cc pc = .ok (.lload_n k4, 1)) (j : Nat) (hi : (k4 : Nat) = i) (hj : lv[j]? = some (i, .long x)) (k : gG p l e R s m args below meth c nL D cl A0 H0 cells slots Q w (pc + 1) lv (.long x :: st)) : gG p l e R s m args below meth c nL D cl A0 H0 cells slots Q w pc lv (st) :=
  fun H locs ls hP hD hS hl => lv_lload_n C.1 C.2.1 hd hi (lv_at hl j hj) (k H locs ls hP hD hS hl)
theorem g_lload (C : gC p s m args meth c cc nL ret own D cl tys A0 H0) {i : Nat} {x : Int64} (hd : decode cc pc = .ok (.lload i, 2)) (j : Nat) (hj : lv[j]? = some (i, .long x)) (k : gG p l e R s m args below meth c nL D cl A0 H0 cells slots Q w (pc + 2) lv (.long x :: st)) : gG p l e R s m args below meth c nL D cl A0 H0 cells slots Q w pc lv (st) :=
  fun H locs ls hP hD hS hl => lv_lload C.1 C.2.1 hd (lv_at hl j hj) (k H locs ls hP hD hS hl)
theorem g_aload_n (C : gC p s m args meth c cc nL ret own D cl tys A0 H0) {k4 : Fin 4} {i : Nat} {x : Nat} (hd : decode cc pc = .ok (.aload_n k4, 1)) (j : Nat) (hi : (k4 : Nat) = i) (hj : lv[j]? = some (i, .ref x)) (k : gG p l e R s m args below meth c nL D cl A0 H0 cells slots Q w (pc + 1) lv (.ref x :: st)) : gG p l e R s m args below meth c nL D cl A0 H0 cells slots Q w pc lv (st) :=
  fun H locs ls hP hD hS hl => lv_aload_n C.1 C.2.1 hd hi (lv_at hl j hj) (k H locs ls hP hD hS hl)
theorem g_aload (C : gC p s m args meth c cc nL ret own D cl tys A0 H0) {i : Nat} {x : Nat} (hd : decode cc pc = .ok (.aload i, 2)) (j : Nat) (hj : lv[j]? = some (i, .ref x)) (k : gG p l e R s m args below meth c nL D cl A0 H0 cells slots Q w (pc + 2) lv (.ref x :: st)) : gG p l e R s m args below meth c nL D cl A0 H0 cells slots Q w pc lv (st) :=
  fun H locs ls hP hD hS hl => lv_aload C.1 C.2.1 hd (lv_at hl j hj) (k H locs ls hP hD hS hl)
theorem g_istore_n (C : gC p s m args meth c cc nL ret own D cl tys A0 H0) {k4 : Fin 4} {i : Nat} {x : Int32} {lv2 : List (Nat × Value)} (hd : decode cc pc = .ok (.istore_n k4, 1)) (hi : (k4 : Nat) = i) (hn : i < nL) (he : (i, Value.int x) :: lv.filter (fun q => !(q.1 == i) && !(q.1 + 1 == i && q.2.category == 2)) = lv2) (k : gG p l e R s m args below meth c nL D cl A0 H0 cells slots Q w (pc + 1) lv2 st) : gG p l e R s m args below meth c nL D cl A0 H0 cells slots Q w pc lv (Value.int x :: st) :=
  fun H locs ls hP hD hS hl => lv_istore_n C.1 C.2.1 hd hi hl hn he (fun ls2 hl2 => k H locs ls2 hP hD hS hl2)
theorem g_istore (C : gC p s m args meth c cc nL ret own D cl tys A0 H0) {i : Nat} {x : Int32} {lv2 : List (Nat × Value)} (hd : decode cc pc = .ok (.istore i, 2))  (hn : i < nL) (he : (i, Value.int x) :: lv.filter (fun q => !(q.1 == i) && !(q.1 + 1 == i && q.2.category == 2)) = lv2) (k : gG p l e R s m args below meth c nL D cl A0 H0 cells slots Q w (pc + 2) lv2 st) : gG p l e R s m args below meth c nL D cl A0 H0 cells slots Q w pc lv (Value.int x :: st) :=
  fun H locs ls hP hD hS hl => lv_istore C.1 C.2.1 hd  hl hn he (fun ls2 hl2 => k H locs ls2 hP hD hS hl2)
theorem g_lstore_n (C : gC p s m args meth c cc nL ret own D cl tys A0 H0) {k4 : Fin 4} {i : Nat} {x : Int64} {lv2 : List (Nat × Value)} (hd : decode cc pc = .ok (.lstore_n k4, 1)) (hi : (k4 : Nat) = i) (hn : i + 1 < nL) (he : (i, Value.long x) :: lv.filter (fun q => !(q.1 == i) && (!(q.1 == i + 1) && !(q.1 + 1 == i && q.2.category == 2))) = lv2) (k : gG p l e R s m args below meth c nL D cl A0 H0 cells slots Q w (pc + 1) lv2 st) : gG p l e R s m args below meth c nL D cl A0 H0 cells slots Q w pc lv (Value.long x :: st) :=
  fun H locs ls hP hD hS hl => lv_lstore_n C.1 C.2.1 hd hi hl hn he (fun ls2 hl2 => k H locs ls2 hP hD hS hl2)
theorem g_lstore (C : gC p s m args meth c cc nL ret own D cl tys A0 H0) {i : Nat} {x : Int64} {lv2 : List (Nat × Value)} (hd : decode cc pc = .ok (.lstore i, 2))  (hn : i + 1 < nL) (he : (i, Value.long x) :: lv.filter (fun q => !(q.1 == i) && (!(q.1 == i + 1) && !(q.1 + 1 == i && q.2.category == 2))) = lv2) (k : gG p l e R s m args below meth c nL D cl A0 H0 cells slots Q w (pc + 2) lv2 st) : gG p l e R s m args below meth c nL D cl A0 H0 cells slots Q w pc lv (Value.long x :: st) :=
  fun H locs ls hP hD hS hl => lv_lstore C.1 C.2.1 hd  hl hn he (fun ls2 hl2 => k H locs ls2 hP hD hS hl2)
theorem g_astore_n (C : gC p s m args meth c cc nL ret own D cl tys A0 H0) {k4 : Fin 4} {i : Nat} {x : Nat} {lv2 : List (Nat × Value)} (hd : decode cc pc = .ok (.astore_n k4, 1)) (hi : (k4 : Nat) = i) (hn : i < nL) (he : (i, Value.ref x) :: lv.filter (fun q => !(q.1 == i) && !(q.1 + 1 == i && q.2.category == 2)) = lv2) (k : gG p l e R s m args below meth c nL D cl A0 H0 cells slots Q w (pc + 1) lv2 st) : gG p l e R s m args below meth c nL D cl A0 H0 cells slots Q w pc lv (Value.ref x :: st) :=
  fun H locs ls hP hD hS hl => lv_astore_n C.1 C.2.1 hd hi hl hn he (fun ls2 hl2 => k H locs ls2 hP hD hS hl2)
theorem g_astore (C : gC p s m args meth c cc nL ret own D cl tys A0 H0) {i : Nat} {x : Nat} {lv2 : List (Nat × Value)} (hd : decode cc pc = .ok (.astore i, 2))  (hn : i < nL) (he : (i, Value.ref x) :: lv.filter (fun q => !(q.1 == i) && !(q.1 + 1 == i && q.2.category == 2)) = lv2) (k : gG p l e R s m args below meth c nL D cl A0 H0 cells slots Q w (pc + 2) lv2 st) : gG p l e R s m args below meth c nL D cl A0 H0 cells slots Q w pc lv (Value.ref x :: st) :=
  fun H locs ls hP hD hS hl => lv_astore C.1 C.2.1 hd  hl hn he (fun ls2 hl2 => k H locs ls2 hP hD hS hl2)
theorem g_iinc (C : gC p s m args meth c cc nL ret own D cl tys A0 H0) {i : Nat} {n : Int} {x v : Int32} {lv2 : List (Nat × Value)} (hd : decode cc pc = .ok (.iinc i n, 3)) (j : Nat) (hj : lv[j]? = some (i, .int x)) (hv : x + Int32.ofInt n = v) (hn : i < nL) (he : (i, Value.int v) :: lv.filter (fun q => !(q.1 == i) && !(q.1 + 1 == i && q.2.category == 2)) = lv2) (k : gG p l e R s m args below meth c nL D cl A0 H0 cells slots Q w (pc + 3) lv2 st) : gG p l e R s m args below meth c nL D cl A0 H0 cells slots Q w pc lv st :=
  fun H locs ls hP hD hS hl => lv_iinc C.1 C.2.1 hd hl hj hv hn he (fun ls2 hl2 => k H locs ls2 hP hD hS hl2)
theorem g_iadd (C : gC p s m args meth c cc nL ret own D cl tys A0 H0) {x y : Int32} (hd : decode cc pc = .ok (.iadd, 1))  (k : gG p l e R s m args below meth c nL D cl A0 H0 cells slots Q w (pc + 1) lv (.int (x + y) :: st)) : gG p l e R s m args below meth c nL D cl A0 H0 cells slots Q w pc lv (.int y :: .int x :: st) :=
  fun H locs ls hP hD hS hl => lv_iadd C.1 C.2.1 hd (k H locs ls hP hD hS hl)
theorem g_isub (C : gC p s m args meth c cc nL ret own D cl tys A0 H0) {x y : Int32} (hd : decode cc pc = .ok (.isub, 1))  (k : gG p l e R s m args below meth c nL D cl A0 H0 cells slots Q w (pc + 1) lv (.int (x - y) :: st)) : gG p l e R s m args below meth c nL D cl A0 H0 cells slots Q w pc lv (.int y :: .int x :: st) :=
  fun H locs ls hP hD hS hl => lv_isub C.1 C.2.1 hd (k H locs ls hP hD hS hl)
theorem g_imul (C : gC p s m args meth c cc nL ret own D cl tys A0 H0) {x y : Int32} (hd : decode cc pc = .ok (.imul, 1))  (k : gG p l e R s m args below meth c nL D cl A0 H0 cells slots Q w (pc + 1) lv (.int (x * y) :: st)) : gG p l e R s m args below meth c nL D cl A0 H0 cells slots Q w pc lv (.int y :: .int x :: st) :=
  fun H locs ls hP hD hS hl => lv_imul C.1 C.2.1 hd (k H locs ls hP hD hS hl)
theorem g_iand (C : gC p s m args meth c cc nL ret own D cl tys A0 H0) {x y : Int32} (hd : decode cc pc = .ok (.iand, 1))  (k : gG p l e R s m args below meth c nL D cl A0 H0 cells slots Q w (pc + 1) lv (.int (x &&& y) :: st)) : gG p l e R s m args below meth c nL D cl A0 H0 cells slots Q w pc lv (.int y :: .int x :: st) :=
  fun H locs ls hP hD hS hl => lv_iand C.1 C.2.1 hd (k H locs ls hP hD hS hl)
theorem g_ior (C : gC p s m args meth c cc nL ret own D cl tys A0 H0) {x y : Int32} (hd : decode cc pc = .ok (.ior, 1))  (k : gG p l e R s m args below meth c nL D cl A0 H0 cells slots Q w (pc + 1) lv (.int (x ||| y) :: st)) : gG p l e R s m args below meth c nL D cl A0 H0 cells slots Q w pc lv (.int y :: .int x :: st) :=
  fun H locs ls hP hD hS hl => lv_ior C.1 C.2.1 hd (k H locs ls hP hD hS hl)
theorem g_ixor (C : gC p s m args meth c cc nL ret own D cl tys A0 H0) {x y : Int32} (hd : decode cc pc = .ok (.ixor, 1))  (k : gG p l e R s m args below meth c nL D cl A0 H0 cells slots Q w (pc + 1) lv (.int (x ^^^ y) :: st)) : gG p l e R s m args below meth c nL D cl A0 H0 cells slots Q w pc lv (.int y :: .int x :: st) :=
  fun H locs ls hP hD hS hl => lv_ixor C.1 C.2.1 hd (k H locs ls hP hD hS hl)
theorem g_ladd (C : gC p s m args meth c cc nL ret own D cl tys A0 H0) {x y : Int64} (hd : decode cc pc = .ok (.ladd, 1))  (k : gG p l e R s m args below meth c nL D cl A0 H0 cells slots Q w (pc + 1) lv (.long (x + y) :: st)) : gG p l e R s m args below meth c nL D cl A0 H0 cells slots Q w pc lv (.long y :: .long x :: st) :=
  fun H locs ls hP hD hS hl => lv_ladd C.1 C.2.1 hd (k H locs ls hP hD hS hl)
theorem g_lsub (C : gC p s m args meth c cc nL ret own D cl tys A0 H0) {x y : Int64} (hd : decode cc pc = .ok (.lsub, 1))  (k : gG p l e R s m args below meth c nL D cl A0 H0 cells slots Q w (pc + 1) lv (.long (x - y) :: st)) : gG p l e R s m args below meth c nL D cl A0 H0 cells slots Q w pc lv (.long y :: .long x :: st) :=
  fun H locs ls hP hD hS hl => lv_lsub C.1 C.2.1 hd (k H locs ls hP hD hS hl)
theorem g_lmul (C : gC p s m args meth c cc nL ret own D cl tys A0 H0) {x y : Int64} (hd : decode cc pc = .ok (.lmul, 1))  (k : gG p l e R s m args below meth c nL D cl A0 H0 cells slots Q w (pc + 1) lv (.long (x * y) :: st)) : gG p l e R s m args below meth c nL D cl A0 H0 cells slots Q w pc lv (.long y :: .long x :: st) :=
  fun H locs ls hP hD hS hl => lv_lmul C.1 C.2.1 hd (k H locs ls hP hD hS hl)
theorem g_land (C : gC p s m args meth c cc nL ret own D cl tys A0 H0) {x y : Int64} (hd : decode cc pc = .ok (.land, 1))  (k : gG p l e R s m args below meth c nL D cl A0 H0 cells slots Q w (pc + 1) lv (.long (x &&& y) :: st)) : gG p l e R s m args below meth c nL D cl A0 H0 cells slots Q w pc lv (.long y :: .long x :: st) :=
  fun H locs ls hP hD hS hl => lv_land C.1 C.2.1 hd (k H locs ls hP hD hS hl)
theorem g_lor (C : gC p s m args meth c cc nL ret own D cl tys A0 H0) {x y : Int64} (hd : decode cc pc = .ok (.lor, 1))  (k : gG p l e R s m args below meth c nL D cl A0 H0 cells slots Q w (pc + 1) lv (.long (x ||| y) :: st)) : gG p l e R s m args below meth c nL D cl A0 H0 cells slots Q w pc lv (.long y :: .long x :: st) :=
  fun H locs ls hP hD hS hl => lv_lor C.1 C.2.1 hd (k H locs ls hP hD hS hl)
theorem g_idiv (C : gC p s m args meth c cc nL ret own D cl tys A0 H0) {x y : Int32} (hd : decode cc pc = .ok (.idiv, 1)) (hne : ¬ y = 0) (k : gG p l e R s m args below meth c nL D cl A0 H0 cells slots Q w (pc + 1) lv (.int (x / y) :: st)) : gG p l e R s m args below meth c nL D cl A0 H0 cells slots Q w pc lv (.int y :: .int x :: st) :=
  fun H locs ls hP hD hS hl => lv_idiv C.1 C.2.1 hd hne (k H locs ls hP hD hS hl)
theorem g_irem (C : gC p s m args meth c cc nL ret own D cl tys A0 H0) {x y : Int32} (hd : decode cc pc = .ok (.irem, 1)) (hne : ¬ y = 0) (k : gG p l e R s m args below meth c nL D cl A0 H0 cells slots Q w (pc + 1) lv (.int (x - x / y * y) :: st)) : gG p l e R s m args below meth c nL D cl A0 H0 cells slots Q w pc lv (.int y :: .int x :: st) :=
  fun H locs ls hP hD hS hl => lv_irem C.1 C.2.1 hd hne (k H locs ls hP hD hS hl)
theorem g_ldiv (C : gC p s m args meth c cc nL ret own D cl tys A0 H0) {x y : Int64} (hd : decode cc pc = .ok (.ldiv, 1)) (hne : ¬ y = 0) (k : gG p l e R s m args below meth c nL D cl A0 H0 cells slots Q w (pc + 1) lv (.long (x / y) :: st)) : gG p l e R s m args below meth c nL D cl A0 H0 cells slots Q w pc lv (.long y :: .long x :: st) :=
  fun H locs ls hP hD hS hl => lv_ldiv C.1 C.2.1 hd hne (k H locs ls hP hD hS hl)
theorem g_lrem (C : gC p s m args meth c cc nL ret own D cl tys A0 H0) {x y : Int64} (hd : decode cc pc = .ok (.lrem, 1)) (hne : ¬ y = 0) (k : gG p l e R s m args below meth c nL D cl A0 H0 cells slots Q w (pc + 1) lv (.long (x - x / y * y) :: st)) : gG p l e R s m args below meth c nL D cl A0 H0 cells slots Q w pc lv (.long y :: .long x :: st) :=
  fun H locs ls hP hD hS hl => lv_lrem C.1 C.2.1 hd hne (k H locs ls hP hD hS hl)
theorem g_ineg (C : gC p s m args meth c cc nL ret own D cl tys A0 H0) {x : Int32} (hd : decode cc pc = .ok (.ineg, 1))  (k : gG p l e R s m args below meth c nL D cl A0 H0 cells slots Q w (pc + 1) lv (.int (-x) :: st)) : gG p l e R s m args below meth c nL D cl A0 H0 cells slots Q w pc lv (.int x :: st) :=
  fun H locs ls hP hD hS hl => lv_ineg C.1 C.2.1 hd (k H locs ls hP hD hS hl)
theorem g_ishl (C : gC p s m args meth c cc nL ret own D cl tys A0 H0) {x y : Int32} (hd : decode cc pc = .ok (.ishl, 1))  (k : gG p l e R s m args below meth c nL D cl A0 H0 cells slots Q w (pc + 1) lv (.int (x <<< (y &&& 31)) :: st)) : gG p l e R s m args below meth c nL D cl A0 H0 cells slots Q w pc lv (.int y :: .int x :: st) :=
  fun H locs ls hP hD hS hl => lv_ishl C.1 C.2.1 hd (k H locs ls hP hD hS hl)
theorem g_ishr (C : gC p s m args meth c cc nL ret own D cl tys A0 H0) {x y : Int32} (hd : decode cc pc = .ok (.ishr, 1))  (k : gG p l e R s m args below meth c nL D cl A0 H0 cells slots Q w (pc + 1) lv (.int (x >>> (y &&& 31)) :: st)) : gG p l e R s m args below meth c nL D cl A0 H0 cells slots Q w pc lv (.int y :: .int x :: st) :=
  fun H locs ls hP hD hS hl => lv_ishr C.1 C.2.1 hd (k H locs ls hP hD hS hl)
theorem g_iushr (C : gC p s m args meth c cc nL ret own D cl tys A0 H0) {x y v : Int32} (hd : decode cc pc = .ok (.iushr, 1)) (hv : (x.toUInt32 >>> (y.toUInt32 &&& Int32.toUInt32 31)).toInt32 = v) (k : gG p l e R s m args below meth c nL D cl A0 H0 cells slots Q w (pc + 1) lv (.int v :: st)) : gG p l e R s m args below meth c nL D cl A0 H0 cells slots Q w pc lv (.int y :: .int x :: st) :=
  fun H locs ls hP hD hS hl => lv_iushr C.1 C.2.1 hd hv (k H locs ls hP hD hS hl)
theorem g_lushr (C : gC p s m args meth c cc nL ret own D cl tys A0 H0) {x v : Int64} {y : Int32} (hd : decode cc pc = .ok (.lushr, 1)) (hv : (x.toUInt64 >>> (y.toInt64.toUInt64 &&& Int64.toUInt64 63)).toInt64 = v) (k : gG p l e R s m args below meth c nL D cl A0 H0 cells slots Q w (pc + 1) lv (.long v :: st)) : gG p l e R s m args below meth c nL D cl A0 H0 cells slots Q w pc lv (.int y :: .long x :: st) :=
  fun H locs ls hP hD hS hl => lv_lushr C.1 C.2.1 hd hv (k H locs ls hP hD hS hl)
theorem g_lshl (C : gC p s m args meth c cc nL ret own D cl tys A0 H0) {x v : Int64} {y : Int32} (hd : decode cc pc = .ok (.lshl, 1)) (hv : x <<< (y.toInt64 &&& 63) = v) (k : gG p l e R s m args below meth c nL D cl A0 H0 cells slots Q w (pc + 1) lv (.long v :: st)) : gG p l e R s m args below meth c nL D cl A0 H0 cells slots Q w pc lv (.int y :: .long x :: st) :=
  fun H locs ls hP hD hS hl => lv_lshl C.1 C.2.1 hd hv (k H locs ls hP hD hS hl)
theorem g_i2l (C : gC p s m args meth c cc nL ret own D cl tys A0 H0) {x : Int32} {v : Int64} (hd : decode cc pc = .ok (.i2l, 1)) (hv : x.toInt64 = v) (k : gG p l e R s m args below meth c nL D cl A0 H0 cells slots Q w (pc + 1) lv (.long v :: st)) : gG p l e R s m args below meth c nL D cl A0 H0 cells slots Q w pc lv (.int x :: st) :=
  fun H locs ls hP hD hS hl => lv_i2l C.1 C.2.1 hd hv (k H locs ls hP hD hS hl)
theorem g_l2i (C : gC p s m args meth c cc nL ret own D cl tys A0 H0) {x : Int64} {v : Int32} (hd : decode cc pc = .ok (.l2i, 1)) (hv : x.toInt32 = v) (k : gG p l e R s m args below meth c nL D cl A0 H0 cells slots Q w (pc + 1) lv (.int v :: st)) : gG p l e R s m args below meth c nL D cl A0 H0 cells slots Q w pc lv (.long x :: st) :=
  fun H locs ls hP hD hS hl => lv_l2i C.1 C.2.1 hd hv (k H locs ls hP hD hS hl)
theorem g_lcmp (C : gC p s m args meth c cc nL ret own D cl tys A0 H0) {x y : Int64} (hd : decode cc pc = .ok (.lcmp, 1)) (k : gG p l e R s m args below meth c nL D cl A0 H0 cells slots Q w (pc + 1) lv (.int (lg_cmp x y) :: st)) : gG p l e R s m args below meth c nL D cl A0 H0 cells slots Q w pc lv (.long y :: .long x :: st) :=
  fun H locs ls hP hD hS hl => W.lcmp C.1 C.2.1 hd (k H locs ls hP hD hS hl)
theorem g_dup (C : gC p s m args meth c cc nL ret own D cl tys A0 H0) {va : Value} (hd : decode cc pc = .ok (.dup, 1)) (ha : va.category = 1) (k : gG p l e R s m args below meth c nL D cl A0 H0 cells slots Q w (pc + 1) lv (va :: va :: st)) : gG p l e R s m args below meth c nL D cl A0 H0 cells slots Q w pc lv (va :: st) :=
  fun H locs ls hP hD hS hl => lv_dup C.1 C.2.1 hd ha (k H locs ls hP hD hS hl)
theorem g_pop (C : gC p s m args meth c cc nL ret own D cl tys A0 H0) {va : Value} (hd : decode cc pc = .ok (.pop, 1)) (ha : va.category = 1) (k : gG p l e R s m args below meth c nL D cl A0 H0 cells slots Q w (pc + 1) lv (st)) : gG p l e R s m args below meth c nL D cl A0 H0 cells slots Q w pc lv (va :: st) :=
  fun H locs ls hP hD hS hl => lv_pop C.1 C.2.1 hd ha (k H locs ls hP hD hS hl)
theorem g_dup_x1 (C : gC p s m args meth c cc nL ret own D cl tys A0 H0) {va vb : Value} (hd : decode cc pc = .ok (.dup_x1, 1)) (ha : va.category = 1) (hb : vb.category = 1) (k : gG p l e R s m args below meth c nL D cl A0 H0 cells slots Q w (pc + 1) lv (va :: vb :: va :: st)) : gG p l e R s m args below meth c nL D cl A0 H0 cells slots Q w pc lv (va :: vb :: st) :=
  fun H locs ls hP hD hS hl => lv_dup_x1 C.1 C.2.1 hd ha hb (k H locs ls hP hD hS hl)
theorem g_dup_x2 (C : gC p s m args meth c cc nL ret own D cl tys A0 H0) {va vb vd : Value} (hd : decode cc pc = .ok (.dup_x2, 1)) (ha : va.category = 1) (hb : vb.category = 1) (hc : vd.category = 1) (k : gG p l e R s m args below meth c nL D cl A0 H0 cells slots Q w (pc + 1) lv (va :: vb :: vd :: va :: st)) : gG p l e R s m args below meth c nL D cl A0 H0 cells slots Q w pc lv (va :: vb :: vd :: st) :=
  fun H locs ls hP hD hS hl => lv_dup_x2 C.1 C.2.1 hd ha hb hc (k H locs ls hP hD hS hl)
theorem g_dup2_11 (C : gC p s m args meth c cc nL ret own D cl tys A0 H0) {va vb : Value} (hd : decode cc pc = .ok (.dup2, 1)) (ha : va.category = 1) (hb : vb.category = 1) (k : gG p l e R s m args below meth c nL D cl A0 H0 cells slots Q w (pc + 1) lv (va :: vb :: va :: vb :: st)) : gG p l e R s m args below meth c nL D cl A0 H0 cells slots Q w pc lv (va :: vb :: st) :=
  fun H locs ls hP hD hS hl => lv_dup2_11 C.1 C.2.1 hd ha hb (k H locs ls hP hD hS hl)
theorem g_goto (C : gC p s m args meth c cc nL ret own D cl tys A0 H0) {off : Int} {tgt : Nat} (hd : decode cc pc = .ok (.goto off, 3)) (ht : (pc : Int) + off = (tgt : Int)) (k : gG p l e R s m args below meth c nL D cl A0 H0 cells slots Q w tgt lv st) : gG p l e R s m args below meth c nL D cl A0 H0 cells slots Q w pc lv st :=
  fun H locs ls hP hD hS hl => lv_goto C.1 C.2.1 hd ht (k H locs ls hP hD hS hl)
theorem g_if_eq (C : gC p s m args meth c cc nL ret own D cl tys A0 H0) {x : Int32} {off : Int} {tgt : Nat} (hd : decode cc pc = .ok (.ifCond .eq off, 3)) (ht : (pc : Int) + off = (tgt : Int)) (kt : x = 0 → gG p l e R s m args below meth c nL D cl A0 H0 cells slots Q w tgt lv st) (kf : ¬ (x = 0) → gG p l e R s m args below meth c nL D cl A0 H0 cells slots Q w (pc + 3) lv st) : gG p l e R s m args below meth c nL D cl A0 H0 cells slots Q w pc lv (.int x :: st) :=
  fun H locs ls hP hD hS hl => lv_if_eq C.1 C.2.1 hd ht (fun h => kt h H locs ls hP hD hS hl) (fun h => kf h H locs ls hP hD hS hl)
theorem g_icmp_eq (C : gC p s m args meth c cc nL ret own D cl tys A0 H0) {x y : Int32} {off : Int} {tgt : Nat} (hd : decode cc pc = .ok (.if_icmp .eq off, 3)) (ht : (pc : Int) + off = (tgt : Int)) (kt : x = y → gG p l e R s m args below meth c nL D cl A0 H0 cells slots Q w tgt lv st) (kf : ¬ (x = y) → gG p l e R s m args below meth c nL D cl A0 H0 cells slots Q w (pc + 3) lv st) : gG p l e R s m args below meth c nL D cl A0 H0 cells slots Q w pc lv (.int y :: .int x :: st) :=
  fun H locs ls hP hD hS hl => lv_icmp_eq C.1 C.2.1 hd ht (fun h => kt h H locs ls hP hD hS hl) (fun h => kf h H locs ls hP hD hS hl)
theorem g_if_ne (C : gC p s m args meth c cc nL ret own D cl tys A0 H0) {x : Int32} {off : Int} {tgt : Nat} (hd : decode cc pc = .ok (.ifCond .ne off, 3)) (ht : (pc : Int) + off = (tgt : Int)) (kt : ¬ x = 0 → gG p l e R s m args below meth c nL D cl A0 H0 cells slots Q w tgt lv st) (kf : x = 0 → gG p l e R s m args below meth c nL D cl A0 H0 cells slots Q w (pc + 3) lv st) : gG p l e R s m args below meth c nL D cl A0 H0 cells slots Q w pc lv (.int x :: st) :=
  fun H locs ls hP hD hS hl => lv_if_ne C.1 C.2.1 hd ht (fun h => kt h H locs ls hP hD hS hl) (fun h => kf h H locs ls hP hD hS hl)
theorem g_icmp_ne (C : gC p s m args meth c cc nL ret own D cl tys A0 H0) {x y : Int32} {off : Int} {tgt : Nat} (hd : decode cc pc = .ok (.if_icmp .ne off, 3)) (ht : (pc : Int) + off = (tgt : Int)) (kt : ¬ x = y → gG p l e R s m args below meth c nL D cl A0 H0 cells slots Q w tgt lv st) (kf : x = y → gG p l e R s m args below meth c nL D cl A0 H0 cells slots Q w (pc + 3) lv st) : gG p l e R s m args below meth c nL D cl A0 H0 cells slots Q w pc lv (.int y :: .int x :: st) :=
  fun H locs ls hP hD hS hl => lv_icmp_ne C.1 C.2.1 hd ht (fun h => kt h H locs ls hP hD hS hl) (fun h => kf h H locs ls hP hD hS hl)
theorem g_if_lt (C : gC p s m args meth c cc nL ret own D cl tys A0 H0) {x : Int32} {off : Int} {tgt : Nat} (hd : decode cc pc = .ok (.ifCond .lt off, 3)) (ht : (pc : Int) + off = (tgt : Int)) (kt : x < 0 → gG p l e R s m args below meth c nL D cl A0 H0 cells slots Q w tgt lv st) (kf : ¬ (x < 0) → gG p l e R s m args below meth c nL D cl A0 H0 cells slots Q w (pc + 3) lv st) : gG p l e R s m args below meth c nL D cl A0 H0 cells slots Q w pc lv (.int x :: st) :=
  fun H locs ls hP hD hS hl => lv_if_lt C.1 C.2.1 hd ht (fun h => kt h H locs ls hP hD hS hl) (fun h => kf h H locs ls hP hD hS hl)
theorem g_icmp_lt (C : gC p s m args meth c cc nL ret own D cl tys A0 H0) {x y : Int32} {off : Int} {tgt : Nat} (hd : decode cc pc = .ok (.if_icmp .lt off, 3)) (ht : (pc : Int) + off = (tgt : Int)) (kt : x < y → gG p l e R s m args below meth c nL D cl A0 H0 cells slots Q w tgt lv st) (kf : ¬ (x < y) → gG p l e R s m args below meth c nL D cl A0 H0 cells slots Q w (pc + 3) lv st) : gG p l e R s m args below meth c nL D cl A0 H0 cells slots Q w pc lv (.int y :: .int x :: st) :=
  fun H locs ls hP hD hS hl => lv_icmp_lt C.1 C.2.1 hd ht (fun h => kt h H locs ls hP hD hS hl) (fun h => kf h H locs ls hP hD hS hl)
theorem g_if_ge (C : gC p s m args meth c cc nL ret own D cl tys A0 H0) {x : Int32} {off : Int} {tgt : Nat} (hd : decode cc pc = .ok (.ifCond .ge off, 3)) (ht : (pc : Int) + off = (tgt : Int)) (kt : 0 ≤ x → gG p l e R s m args below meth c nL D cl A0 H0 cells slots Q w tgt lv st) (kf : ¬ (0 ≤ x) → gG p l e R s m args below meth c nL D cl A0 H0 cells slots Q w (pc + 3) lv st) : gG p l e R s m args below meth c nL D cl A0 H0 cells slots Q w pc lv (.int x :: st) :=
  fun H locs ls hP hD hS hl => lv_if_ge C.1 C.2.1 hd ht (fun h => kt h H locs ls hP hD hS hl) (fun h => kf h H locs ls hP hD hS hl)
theorem g_icmp_ge (C : gC p s m args meth c cc nL ret own D cl tys A0 H0) {x y : Int32} {off : Int} {tgt : Nat} (hd : decode cc pc = .ok (.if_icmp .ge off, 3)) (ht : (pc : Int) + off = (tgt : Int)) (kt : y ≤ x → gG p l e R s m args below meth c nL D cl A0 H0 cells slots Q w tgt lv st) (kf : ¬ (y ≤ x) → gG p l e R s m args below meth c nL D cl A0 H0 cells slots Q w (pc + 3) lv st) : gG p l e R s m args below meth c nL D cl A0 H0 cells slots Q w pc lv (.int y :: .int x :: st) :=
  fun H locs ls hP hD hS hl => lv_icmp_ge C.1 C.2.1 hd ht (fun h => kt h H locs ls hP hD hS hl) (fun h => kf h H locs ls hP hD hS hl)
theorem g_if_gt (C : gC p s m args meth c cc nL ret own D cl tys A0 H0) {x : Int32} {off : Int} {tgt : Nat} (hd : decode cc pc = .ok (.ifCond .gt off, 3)) (ht : (pc : Int) + off = (tgt : Int)) (kt : 0 < x → gG p l e R s m args below meth c nL D cl A0 H0 cells slots Q w tgt lv st) (kf : ¬ (0 < x) → gG p l e R s m args below meth c nL D cl A0 H0 cells slots Q w (pc + 3) lv st) : gG p l e R s m args below meth c nL D cl A0 H0 cells slots Q w pc lv (.int x :: st) :=
  fun H locs ls hP hD hS hl => lv_if_gt C.1 C.2.1 hd ht (fun h => kt h H locs ls hP hD hS hl) (fun h => kf h H locs ls hP hD hS hl)
theorem g_icmp_gt (C : gC p s m args meth c cc nL ret own D cl tys A0 H0) {x y : Int32} {off : Int} {tgt : Nat} (hd : decode cc pc = .ok (.if_icmp .gt off, 3)) (ht : (pc : Int) + off = (tgt : Int)) (kt : y < x → gG p l e R s m args below meth c nL D cl A0 H0 cells slots Q w tgt lv st) (kf : ¬ (y < x) → gG p l e R s m args below meth c nL D cl A0 H0 cells slots Q w (pc + 3) lv st) : gG p l e R s m args below meth c nL D cl A0 H0 cells slots Q w pc lv (.int y :: .int x :: st) :=
  fun H locs ls hP hD hS hl => lv_icmp_gt C.1 C.2.1 hd ht (fun h => kt h H locs ls hP hD hS hl) (fun h => kf h H locs ls hP hD hS hl)
theorem g_if_le (C : gC p s m args meth c cc nL ret own D cl tys A0 H0) {x : Int32} {off : Int} {tgt : Nat} (hd : decode cc pc = .ok (.ifCond .le off, 3)) (ht : (pc : Int) + off = (tgt : Int)) (kt : x ≤ 0 → gG p l e R s m args below meth c nL D cl A0 H0 cells slots Q w tgt lv st) (kf : ¬ (x ≤ 0) → gG p l e R s m args below meth c nL D cl A0 H0 cells slots Q w (pc + 3) lv st) : gG p l e R s m args below meth c nL D cl A0 H0 cells slots Q w pc lv (.int x :: st) :=
  fun H locs ls hP hD hS hl => lv_if_le C.1 C.2.1 hd ht (fun h => kt h H locs ls hP hD hS hl) (fun h => kf h H locs ls hP hD hS hl)
theorem g_icmp_le (C : gC p s m args meth c cc nL ret own D cl tys A0 H0) {x y : Int32} {off : Int} {tgt : Nat} (hd : decode cc pc = .ok (.if_icmp .le off, 3)) (ht : (pc : Int) + off = (tgt : Int)) (kt : x ≤ y → gG p l e R s m args below meth c nL D cl A0 H0 cells slots Q w tgt lv st) (kf : ¬ (x ≤ y) → gG p l e R s m args below meth c nL D cl A0 H0 cells slots Q w (pc + 3) lv st) : gG p l e R s m args below meth c nL D cl A0 H0 cells slots Q w pc lv (.int y :: .int x :: st) :=
  fun H locs ls hP hD hS hl => lv_icmp_le C.1 C.2.1 hd ht (fun h => kt h H locs ls hP hD hS hl) (fun h => kf h H locs ls hP hD hS hl)
theorem g_ldc2 (C : gC p s m args meth c cc nL ret own D cl tys A0 H0) {index : Nat} {v : Int64} (hc : Cond.constantLong own index v ∈ Wl) (hd : decode cc pc = .ok (.ldc2_w index, 3)) (k : gG p l e R s m args below meth c nL D cl A0 H0 cells slots Q w (pc + 3) lv (.long v :: st)) : gG p l e R s m args below meth c nL D cl A0 H0 cells slots Q w pc lv st :=
  fun H locs ls hP hD hS hl => lv_ldc2 C.1 C.2.1 C.2.2.2.2.1 (C.2.2.2.1 _ hc) hd (k H locs ls hP hD hS hl)
theorem g_ldcw (C : gC p s m args meth c cc nL ret own D cl tys A0 H0) {index : Nat} {v : Int32} (hc : Cond.constant own index v ∈ Wl) (hd : decode cc pc = .ok (.ldc_w index, 3)) (k : gG p l e R s m args below meth c nL D cl A0 H0 cells slots Q w (pc + 3) lv (.int v :: st)) : gG p l e R s m args below meth c nL D cl A0 H0 cells slots Q w pc lv st :=
  fun H locs ls hP hD hS hl => lv_ldcw C.1 C.2.1 C.2.2.2.2.1 (C.2.2.2.1 _ hc) hd (k H locs ls hP hD hS hl)
theorem g_sub {lv2 : List (Nat × Value)} (ks : List Nat) (h : lv_pick lv ks = lv2) (k : gG p l e R s m args below meth c nL D cl A0 H0 cells slots Q w pc lv2 st) : gG p l e R s m args below meth c nL D cl A0 H0 cells slots Q w pc lv st := fun H locs ls hP hD hS hl => k H locs ls hP hD hS (lv_sub hl ks h)
theorem g_eq {w2 : va_W} {st2 : List Value} (hw : w = w2) (hs : st = st2) (k : gG p l e R s m args below meth c nL D cl A0 H0 cells slots Q w2 pc lv st2) : gG p l e R s m args below meth c nL D cl A0 H0 cells slots Q w pc lv st := by subst hw; subst hs; exact k
theorem g_mmax (C : gC p s m args meth c cc nL ret own D cl tys A0 H0) {index : Nat} {x y : Int32} (hlk : Cond.methodLink own index Lib.Math.max.name ∈ Wl) (hst : Cond.static Lib.Math.max.name ∈ Wl) (hin : Cond.initialized "java/lang/Math" ∈ Wl) (hco : Cond.code Lib.Math.max.name Lib.Math.max.code 2 (some .int) ∈ Wl) (hR : 1 ≤ R.frames ∧ (st.map fun v => v.category).sum + 13 ≤ R.locals ∧ cells ≤ R.cells ∧ slots ≤ R.slots) (hd : decode cc pc = .ok (.invokestatic index, 3)) (k : gG p l e R s m args below meth c nL D cl A0 H0 cells slots Q w (pc + 3) lv (.int (if x < y then y else x) :: st)) : gG p l e R s m args below meth c nL D cl A0 H0 cells slots Q w pc lv (.int y :: .int x :: st) :=
  fun H locs ls hP hD hS hl => va_mmax C.1 C.2.1 (C.2.2.2.2.2.2.1.trans hl.1.symm) C.2.2.2.2.1 (C.2.2.2.1 _ hlk) (C.2.2.2.1 _ hst) (C.2.2.2.1 _ hin) (C.2.2.2.1 _ hco) hR.1 hR.2.1 hR.2.2.1 hR.2.2.2 hd (k H locs ls hP hD hS hl)
theorem g_mabs (C : gC p s m args meth c cc nL ret own D cl tys A0 H0) {index : Nat} {x : Int32} (hlk : Cond.methodLink own index Lib.Math.abs.name ∈ Wl) (hst : Cond.static Lib.Math.abs.name ∈ Wl) (hin : Cond.initialized "java/lang/Math" ∈ Wl) (hco : Cond.code Lib.Math.abs.name Lib.Math.abs.code 1 (some .int) ∈ Wl) (hR : 1 ≤ R.frames ∧ (st.map fun v => v.category).sum + 13 ≤ R.locals ∧ cells ≤ R.cells ∧ slots ≤ R.slots) (hd : decode cc pc = .ok (.invokestatic index, 3)) (k : gG p l e R s m args below meth c nL D cl A0 H0 cells slots Q w (pc + 3) lv (.int (if 0 ≤ x then x else 0 - x) :: st)) : gG p l e R s m args below meth c nL D cl A0 H0 cells slots Q w pc lv (.int x :: st) :=
  fun H locs ls hP hD hS hl => va_mabs C.1 C.2.1 (C.2.2.2.2.2.2.1.trans hl.1.symm) C.2.2.2.2.1 (C.2.2.2.1 _ hlk) (C.2.2.2.1 _ hst) (C.2.2.2.1 _ hin) (C.2.2.2.1 _ hco) hR.1 hR.2.1 hR.2.2.1 hR.2.2.2 hd (k H locs ls hP hD hS hl)
end
end
section
-- memories: rows of numbers, and a long; the two worlds over them
abbrev MM : Type := (Nat → Nat → Int32) × Int64
def mU (M : MM) (r c : Nat) (v : Int32) : MM := (fun r2 c2 => if r2 = r ∧ c2 = c then v else M.1 r2 c2, M.2)
def mL (M : MM) (v : Int64) : MM := (M.1, v)
def mR (M : MM) (r : Nat) (f : Nat → Int32) : MM := (fun r2 => if r2 = r then f else M.1 r2, M.2)
def aR (k : Nat) : Nat := if k = 2 then 1 else if k < 9 then k - 2 else if k < 16 then k - 7 else 9 + (k - 16) / 5
def aO (k : Nat) : Nat := if k < 16 then 0 else if (k - 16) % 5 = 1 then 0 else if (k - 16) % 5 = 2 then 6 else if (k - 16) % 5 = 3 then 12 else 18
def aN (k : Nat) : Nat := if k = 2 then 48 else if k < 9 then 5 else if k < 16 then 6 else if (k - 16) % 5 = 1 then 5 else if (k - 16) % 5 = 2 then 6 else if (k - 16) % 5 = 3 then 6 else 5
def aI (k : Nat) : Prop := k = 2 ∨ (4 ≤ k ∧ k < 9) ∨ k = 14 ∨ k = 15 ∨ (16 < k ∧ k < 106 ∧ (k - 16) % 5 ≠ 0)
-- object k of the class is an array of numbers: row, first column, length
def arr (k r o n : Nat) : Prop := aI k ∧ aR k = r ∧ aO k = o ∧ aN k = n
theorem arr_pl {i : Nat} (h : i < 18) : arr (16 + 5 * i + 1) (9 + i) 0 5 := by
  unfold arr aI aR aO aN
  rw [show 16 + 5 * i + 1 - 16 = 5 * i + 1 by omega, show (5 * i + 1) % 5 = 1 by omega, show (5 * i + 1) / 5 = i by omega]
  exact ⟨by omega, (if_neg (by omega)).trans ((if_neg (by omega)).trans (if_neg (by omega))), (if_neg (by omega)).trans (by decide), (if_neg (by omega)).trans ((if_neg (by omega)).trans ((if_neg (by omega)).trans (by decide)))⟩
theorem arr_la {i : Nat} (h : i < 18) : arr (16 + 5 * i + 2) (9 + i) 6 6 := by
  unfold arr aI aR aO aN
  rw [show 16 + 5 * i + 2 - 16 = 5 * i + 2 by omega, show (5 * i + 2) % 5 = 2 by omega, show (5 * i + 2) / 5 = i by omega]
  exact ⟨by omega, (if_neg (by omega)).trans ((if_neg (by omega)).trans (if_neg (by omega))), (if_neg (by omega)).trans (by decide), (if_neg (by omega)).trans ((if_neg (by omega)).trans ((if_neg (by omega)).trans (by decide)))⟩
theorem arr_we {i : Nat} (h : i < 18) : arr (16 + 5 * i + 3) (9 + i) 12 6 := by
  unfold arr aI aR aO aN
  rw [show 16 + 5 * i + 3 - 16 = 5 * i + 3 by omega, show (5 * i + 3) % 5 = 3 by omega, show (5 * i + 3) / 5 = i by omega]
  exact ⟨by omega, (if_neg (by omega)).trans ((if_neg (by omega)).trans (if_neg (by omega))), (if_neg (by omega)).trans (by decide), (if_neg (by omega)).trans ((if_neg (by omega)).trans ((if_neg (by omega)).trans (by decide)))⟩
theorem arr_fa {i : Nat} (h : i < 18) : arr (16 + 5 * i + 4) (9 + i) 18 5 := by
  unfold arr aI aR aO aN
  rw [show 16 + 5 * i + 4 - 16 = 5 * i + 4 by omega, show (5 * i + 4) % 5 = 4 by omega, show (5 * i + 4) / 5 = i by omega]
  exact ⟨by omega, (if_neg (by omega)).trans ((if_neg (by omega)).trans (if_neg (by omega))), (if_neg (by omega)).trans (by decide), (if_neg (by omega)).trans ((if_neg (by omega)).trans ((if_neg (by omega)).trans (by decide)))⟩
def cC (a : Nat → Nat) (cI cS : ClassId) (M : MM) (k : Nat) : va_E :=
  if k = 0 then .inr (6, [.ref (a 1), .ref (a 3), .ref (a 16), .ref (a 21), .ref (a 9), .ref (a 11), .ref (a 13), .long M.2])
  else if k = 1 then .inr (4, [.ref (a 2), .int (M.1 0 0)])
  else if k = 3 then .inr (2, [.int (M.1 0 1), .int (M.1 0 2), .ref (a 4), .ref (a 5), .ref (a 6), .ref (a 7), .ref (a 8)])
  else if k = 9 then .inr (1, [.ref (a 10), .int (M.1 0 3), .int (M.1 0 4)])
  else if k = 10 then .inl (cS, 14, .inr (.inr (.inr (.inr (fun j => some (a (16 + 5 * (2 + j))))))))
  else if k = 11 then .inr (5, [.ref (a 12), .int (M.1 0 5)])
  else if k = 12 then .inl (cS, 2, .inr (.inr (.inr (.inr (fun j => some (a (16 + 5 * (16 + j))))))))
  else if k = 13 then .inr (0, [.ref (a 14), .ref (a 15), .int (M.1 0 6), .int (M.1 0 7)])
  else if 16 ≤ k ∧ (k - 16) % 5 = 0 then .inr (3, [.ref (a 3), .ref (a (k + 1)), .ref (a (k + 2)), .ref (a (k + 3)), .ref (a (k + 4)), .int (M.1 (9 + (k - 16) / 5) 5), .int (M.1 (9 + (k - 16) / 5) 23)])
  else .inl (cI, aN k, .inl (fun j => M.1 (aR k) (aO k + j)))
theorem cC_arr {a : Nat → Nat} {cI cS : ClassId} {M : MM} {k r o n : Nat} (h : arr k r o n) : cC a cI cS M k = .inl (cI, n, .inl (fun j => M.1 r (o + j))) := by
  obtain ⟨h, rfl, rfl, rfl⟩ := h
  unfold aI at h
  unfold cC
  rw [if_neg (by omega), if_neg (by omega), if_neg (by omega), if_neg (by omega), if_neg (by omega), if_neg (by omega), if_neg (by omega), if_neg (by omega), if_neg (by omega)]
theorem cC_sc {a : Nat → Nat} {cI cS : ClassId} {M : MM} (i : Nat) : cC a cI cS M (16 + 5 * i) = .inr (3, [.ref (a 3), .ref (a (16 + 5 * i + 1)), .ref (a (16 + 5 * i + 2)), .ref (a (16 + 5 * i + 3)), .ref (a (16 + 5 * i + 4)), .int (M.1 (9 + i) 5), .int (M.1 (9 + i) 23)]) := by
  unfold cC
  rw [if_neg (by omega), if_neg (by omega), if_neg (by omega), if_neg (by omega), if_neg (by omega), if_neg (by omega), if_neg (by omega), if_neg (by omega), if_pos (by omega), show (16 + 5 * i - 16) / 5 = i by omega]
theorem cC_aN {k r o n : Nat} (h : arr k r o n) : k < 106 := by
  obtain ⟨h, -⟩ := h
  unfold aI at h
  omega
theorem ap_num {k k2 : Nat} (h : aI k) (h2 : aI k2) (hne : k2 ≠ k) (j j2 : Nat) (hj : j < aN k) (hj2 : j2 < aN k2) : ¬ (aR k2 = aR k ∧ aO k2 + j2 = aO k + j) := by
  unfold aI at h h2
  unfold aN at hj hj2
  unfold aR aO
  intro q
  obtain ⟨q1, q2⟩ := q
  by_cases g1 : k < 16 <;> by_cases g2 : k2 < 16
  · simp only [g1, g2, if_true] at q2
    repeat' split at q1
    all_goals first | omega | (simp only [g1, g2] at *; omega)
  · repeat' split at q1
    all_goals omega
  · repeat' split at q1
    all_goals omega
  · have e1 : (k - 16) / 5 = (k2 - 16) / 5 := by
      repeat' split at q1
      all_goals omega
    simp only [if_neg g1, if_neg g2] at q2
    have r1 : ¬ k = 2 := by omega
    have r2 : ¬ k < 9 := by omega
    have r3 : ¬ k2 = 2 := by omega
    have r4 : ¬ k2 < 9 := by omega
    simp only [if_neg g1, if_neg g2, if_neg r1, if_neg r2, if_neg r3, if_neg r4] at hj hj2
    have e2 : (k - 16) % 5 ≠ (k2 - 16) % 5 := by omega
    have b1 : (k - 16) % 5 < 5 := Nat.mod_lt _ (by omega)
    have b2 : (k2 - 16) % 5 < 5 := Nat.mod_lt _ (by omega)
    generalize (k - 16) % 5 = u at *
    generalize (k2 - 16) % 5 = v at *
    rcases (show u = 1 ∨ u = 2 ∨ u = 3 ∨ u = 4 by omega) with rfl | rfl | rfl | rfl <;> rcases (show v = 1 ∨ v = 2 ∨ v = 3 ∨ v = 4 by omega) with rfl | rfl | rfl | rfl <;> simp at * <;> omega
end
section
def own (i r c : Nat) : Prop := (i = 1 ∧ r = 0 ∧ c = 0) ∨ (i = 3 ∧ r = 0 ∧ (c = 1 ∨ c = 2)) ∨ (i = 9 ∧ r = 0 ∧ (c = 3 ∨ c = 4)) ∨ (i = 11 ∧ r = 0 ∧ c = 5) ∨ (i = 13 ∧ r = 0 ∧ (c = 6 ∨ c = 7)) ∨ (16 ≤ i ∧ (i - 16) % 5 = 0 ∧ r = 9 + (i - 16) / 5 ∧ (c = 5 ∨ c = 23)) ∨ (aI i ∧ r = aR i ∧ aO i ≤ c ∧ c < aO i + aN i)
theorem aR_pos {k : Nat} (h : aI k) : 1 ≤ aR k := by
  unfold aI at h
  unfold aR
  repeat' split
  all_goals omega
theorem own_as {i i2 r c : Nat} (h : aI i) (hr : r = aR i) (h1 : aO i ≤ c) (h2 : c < aO i + aN i) (g1 : 16 ≤ i2) (g2 : (i2 - 16) % 5 = 0) (g3 : r = 9 + (i2 - 16) / 5) (g4 : c = 5 ∨ c = 23) : False := by
  unfold aI at h
  have e : 16 ≤ i := by
    unfold aR at hr
    by_cases g : 16 ≤ i
    · exact g
    · repeat' split at hr
      all_goals omega
  unfold aO at h1 h2
  unfold aN at h2
  have r1 : ¬ i < 16 := by omega
  have r2 : ¬ i = 2 := by omega
  have r3 : ¬ i < 9 := by omega
  simp only [if_neg r1, if_neg r2, if_neg r3] at h1 h2
  have b1 : (i - 16) % 5 < 5 := Nat.mod_lt _ (by omega)
  have b2 : (i - 16) % 5 ≠ 0 := by omega
  generalize (i - 16) % 5 = u at *
  rcases (show u = 1 ∨ u = 2 ∨ u = 3 ∨ u = 4 by omega) with rfl | rfl | rfl | rfl <;> simp at * <;> omega
theorem own_one {i i2 r c : Nat} (h : own i r c) (h2 : own i2 r c) : i = i2 := by
  unfold own at h h2
  rcases h with h | h | h | h | h | h | ⟨h, hr, ha, hb⟩ <;> rcases h2 with g | g | g | g | g | g | ⟨g, gr, ga, gb⟩
  all_goals first
    | omega
    | (exfalso; have := aR_pos h; omega)
    | (exfalso; have := aR_pos g; omega)
    | (exact (own_as h hr ha hb g.1 g.2.1 g.2.2.1 g.2.2.2).elim)
    | (exact (own_as g gr ga gb h.1 h.2.1 h.2.2.1 h.2.2.2).elim)
    | skip
  by_cases e : i = i2
  · exact e
  · exact (ap_num h g (Ne.symm e) (c - aO i) (c - aO i2) (by omega) (by omega) ⟨by omega, by omega⟩).elim
theorem cC_arr0 {a : Nat → Nat} {cI cS : ClassId} {M : MM} {k : Nat} (h : aI k) : cC a cI cS M k = .inl (cI, aN k, .inl (fun j => M.1 (aR k) (aO k + j))) := cC_arr ⟨h, rfl, rfl, rfl⟩
theorem cC_ve {a : Nat → Nat} {cI cS : ClassId} {M M2 : MM} {i : Nat} (hi : i < 106) (hs : M2.2 = M.2 ∨ i ≠ 0) (h : ∀ r c, own i r c → M2.1 r c = M.1 r c) : ve (cC a cI cS M i) (cC a cI cS M2 i) := by
  by_cases ha : aI i
  · rw [cC_arr0 ha, cC_arr0 ha]
    exact ve_arr (fun j hj => (h _ _ (Or.inr (Or.inr (Or.inr (Or.inr (Or.inr (Or.inr ⟨ha, rfl, by omega, by omega⟩))))))).symm)
  · apply ve_eq
    unfold cC
    by_cases e0 : i = 0
    · rw [if_pos e0, if_pos e0]
      rcases hs with hs | hs
      · rw [hs]
      · exact absurd e0 hs
    rw [if_neg e0, if_neg e0]
    by_cases e1 : i = 1
    · rw [if_pos e1, if_pos e1, h 0 0 (by unfold own; omega)]
    rw [if_neg e1, if_neg e1]
    by_cases e3 : i = 3
    · rw [if_pos e3, if_pos e3, h 0 1 (by unfold own; omega), h 0 2 (by unfold own; omega)]
    rw [if_neg e3, if_neg e3]
    by_cases e9 : i = 9
    · rw [if_pos e9, if_pos e9, h 0 3 (by unfold own; omega), h 0 4 (by unfold own; omega)]
    rw [if_neg e9, if_neg e9]
    by_cases e10 : i = 10
    · rw [if_pos e10, if_pos e10]
    rw [if_neg e10, if_neg e10]
    by_cases e11 : i = 11
    · rw [if_pos e11, if_pos e11, h 0 5 (by unfold own; omega)]
    rw [if_neg e11, if_neg e11]
    by_cases e12 : i = 12
    · rw [if_pos e12, if_pos e12]
    rw [if_neg e12, if_neg e12]
    by_cases e13 : i = 13
    · rw [if_pos e13, if_pos e13, h 0 6 (by unfold own; omega), h 0 7 (by unfold own; omega)]
    rw [if_neg e13, if_neg e13]
    have es : 16 ≤ i ∧ (i - 16) % 5 = 0 := by unfold aI at ha; omega
    rw [if_pos es, if_pos es, h (9 + (i - 16) / 5) 5 (by unfold own; omega), h (9 + (i - 16) / 5) 23 (by unfold own; omega)]
theorem mU_at {M : MM} {r c : Nat} {v : Int32} : (mU M r c v).1 r c = v := if_pos ⟨rfl, rfl⟩
theorem mU_ne {M : MM} {r c r2 c2 : Nat} {v : Int32} (h : ¬ (r2 = r ∧ c2 = c)) : (mU M r c v).1 r2 c2 = M.1 r2 c2 := if_neg h
-- a put of a number into location (r, c) of object k
theorem cC_put {a : Nat → Nat} {cI cS : ClassId} {M : MM} {k r c : Nat} {v : Int32} {e : va_E} (ho : own k r c) (he : ve e (cC a cI cS (mU M r c v) k)) : ∀ i, i < 106 → ve (if i = k then e else cC a cI cS M i) (cC a cI cS (mU M r c v) i) := by
  intro i hi
  by_cases hik : i = k
  · subst hik; rw [if_pos rfl]; exact he
  · rw [if_neg hik]
    exact cC_ve hi (Or.inl rfl) (fun r2 c2 h2 => mU_ne (fun q => hik (own_one h2 (by rw [q.1, q.2]; exact ho))))
theorem cC_putL {a : Nat → Nat} {cI cS : ClassId} {M : MM} {v : Int64} {e : va_E} (he : ve e (cC a cI cS (mL M v) 0)) : ∀ i, i < 106 → ve (if i = 0 then e else cC a cI cS M i) (cC a cI cS (mL M v) i) := by
  intro i hi
  by_cases hik : i = 0
  · subst hik; rw [if_pos rfl]; exact he
  · rw [if_neg hik]
    exact cC_ve hi (Or.inr hik) (fun r2 c2 h2 => rfl)
-- the reference's world
def lnM (k : Nat) : Nat := if k = 1 then 48 else if k = 2 then 5 else if k = 3 then 15 else if k = 4 then 10 else if k = 5 then 15 else if k < 8 then 24 else if k = 8 then 336 else if k = 9 then 48 else if k = 10 then 2 else if k < 14 then 6 else if k = 14 then 8 else 32
def cD (a : Nat → Nat) (cI cZ : ClassId) (M : MM) (k : Nat) : va_E :=
  if k = 0 then .inr (7, [.int (M.1 0 0), .ref (a 1), .int (M.1 0 1), .int (M.1 0 2), .int (M.1 0 3), .ref (a 2), .int (M.1 0 4), .ref (a 3), .int (M.1 0 5), .ref (a 4), .int (M.1 0 6), .ref (a 5), .ref (a 6), .ref (a 7), .ref (a 8), .int (M.1 0 7), .ref (a 9), .ref (a 10), .int (M.1 0 8), .ref (a 11), .ref (a 12), .ref (a 13), .long M.2, .int (M.1 0 9), .int (M.1 0 10), .int (M.1 0 11), .int (M.1 0 12), .int (M.1 0 13), .int (M.1 0 14), .ref (a 14), .ref (a 15)])
  else .inl (if k = 10 then cZ else cI, lnM k, .inl (fun j => M.1 k j))
theorem cD_0 {a : Nat → Nat} {cI cZ : ClassId} {M : MM} : cD a cI cZ M 0 = .inr (7, [.int (M.1 0 0), .ref (a 1), .int (M.1 0 1), .int (M.1 0 2), .int (M.1 0 3), .ref (a 2), .int (M.1 0 4), .ref (a 3), .int (M.1 0 5), .ref (a 4), .int (M.1 0 6), .ref (a 5), .ref (a 6), .ref (a 7), .ref (a 8), .int (M.1 0 7), .ref (a 9), .ref (a 10), .int (M.1 0 8), .ref (a 11), .ref (a 12), .ref (a 13), .long M.2, .int (M.1 0 9), .int (M.1 0 10), .int (M.1 0 11), .int (M.1 0 12), .int (M.1 0 13), .int (M.1 0 14), .ref (a 14), .ref (a 15)]) := rfl
theorem cD_arr {a : Nat → Nat} {cI cZ : ClassId} {M : MM} {k : Nat} (h : 0 < k) (h2 : k ≠ 10) : cD a cI cZ M k = .inl (cI, lnM k, .inl (fun j => M.1 k j)) := by unfold cD; rw [if_neg (by omega), if_neg h2]
theorem cD_arrZ {a : Nat → Nat} {cI cZ : ClassId} {M : MM} : cD a cI cZ M 10 = .inl (cZ, 2, .inl (fun j => M.1 10 j)) := rfl
theorem cD_ve {a : Nat → Nat} {cI cZ : ClassId} {M M2 : MM} {i : Nat} (h0 : i = 0 → M2.2 = M.2 ∧ ∀ c, c < 15 → M2.1 0 c = M.1 0 c) (h : i ≠ 0 → ∀ c, c < lnM i → M2.1 i c = M.1 i c) : ve (cD a cI cZ M i) (cD a cI cZ M2 i) := by
  by_cases e : i = 0
  · subst e
    obtain ⟨h1, h2⟩ := h0 rfl
    apply ve_eq
    rw [cD_0, cD_0, h1, h2 0 (by omega), h2 1 (by omega), h2 2 (by omega), h2 3 (by omega), h2 4 (by omega), h2 5 (by omega), h2 6 (by omega), h2 7 (by omega), h2 8 (by omega), h2 9 (by omega), h2 10 (by omega), h2 11 (by omega), h2 12 (by omega), h2 13 (by omega), h2 14 (by omega)]
  · unfold cD
    rw [if_neg e, if_neg e]
    exact ve_arr (fun j hj => (h e j hj).symm)
theorem cD_put {a : Nat → Nat} {cI cZ : ClassId} {M : MM} {k c : Nat} {v : Int32} {e : va_E} (he : ve e (cD a cI cZ (mU M k c v) k)) : ∀ i, i < 16 → ve (if i = k then e else cD a cI cZ M i) (cD a cI cZ (mU M k c v) i) := by
  intro i hi
  by_cases hik : i = k
  · subst hik; rw [if_pos rfl]; exact he
  · rw [if_neg hik]
    exact cD_ve (fun e0 => ⟨rfl, fun c2 _ => mU_ne (fun q => hik (e0.trans q.1))⟩) (fun _ c2 _ => mU_ne (fun q => hik q.1))
theorem cD_putL {a : Nat → Nat} {cI cZ : ClassId} {M : MM} {v : Int64} {e : va_E} (he : ve e (cD a cI cZ (mL M v) 0)) : ∀ i, i < 16 → ve (if i = 0 then e else cD a cI cZ M i) (cD a cI cZ (mL M v) i) := by
  intro i hi
  by_cases hik : i = 0
  · subst hik; rw [if_pos rfl]; exact he
  · rw [if_neg hik]
    exact cD_ve (fun e0 => absurd e0 hik) (fun _ c2 _ => rfl)
end
section
-- rows over a world of functions; contracts; calls
section
variable {p : Program} {l : Launch} {e : Env} {R : Room} {s : State} {m : MethodId} {args : Array Value} {below : List Frame} {meth : Method} {c : Code} {cells slots : Nat} {Q : State → Prop} {D : va_G} {cl : List vw_C} {tys : List (ClassId × FieldType)} {A0 : Nat → Prop} {H0 : Heap} {cc : ByteArray} {nL : Nat} {ret : Option FieldType} {own : String} {w : va_W} {pc : Nat} {lv : List (Nat × Value)} {st : List Value} {n : Nat} {a : Nat → Nat} {g g2 : Nat → va_E}
theorem g_getf (C : gC p s m args meth c cc nL ret own D cl tys A0 H0) {k ci : Nat} {fs : List Value} (hk : k < n) (hg : g k = .inr (ci, fs)) {Cn : String} {T : u_T} {N : Nat} (hc : cl[ci]? = some (Cn, T, N)) (j : Nat) (hj : j < N) (hin : ∀ w ∈ u_ws Cn T N, w ∈ Wl) {index : Nat} (hlk : Cond.fieldLink own index (T j).1 (T j).2.1 (T j).2.2.1 ∈ Wl) {v : Value} (hv : fs[j]? = some v) (hd : decode cc pc = .ok (.getfield index, 3)) (kk : gG p l e R s m args below meth c nL D cl A0 H0 cells slots Q (wF n a g) (pc + 3) lv (v :: st)) : gG p l e R s m args below meth c nL D cl A0 H0 cells slots Q (wF n a g) pc lv (.ref (a k) :: st) :=
  fun H locs ls hP hD hS hl => va_get C.1 C.2.1 C.2.2.2.1 hin C.2.2.2.2.1 C.2.2.2.2.2.2.2.1.1 hP k (by rw [wF_get hk, hg]) hc j hj (C.2.2.2.1 _ hlk) (fun x hx => hx) hv hd (kk H locs ls hP hD hS hl)
theorem g_putf (C : gC p s m args meth c cc nL ret own D cl tys A0 H0) {k ci : Nat} {fs : List Value} (hk : k < n) (hg : g k = .inr (ci, fs)) {Cn : String} {T : u_T} {N : Nat} (hc : cl[ci]? = some (Cn, T, N)) (ty0 : Nat → FieldType) (hty : ∀ k, k < N → parseFieldDescriptor (T k).2.2.1 = some (ty0 k)) (hnm : ∀ a, a < N → ∀ b, b < N → a ≠ b → (T a).2.1 ≠ (T b).2.1) (j : Nat) (hj : j < N) (hin : ∀ w ∈ u_ws Cn T N, w ∈ Wl) {index : Nat} (hlk : Cond.fieldLink own index (T j).1 (T j).2.1 (T j).2.2.1 ∈ Wl) (hfin : (T j).2.2.2 = false) {ty : FieldType} {v : Value} (hpd : parseFieldDescriptor (T j).2.2.1 = some ty) (hn : narrow ty v = v) (hfit : fits ty v = true) (hlen : j < fs.length) (hu : ∀ i, i < n → ve (if i = k then .inr (ci, fs.set j v) else g i) (g2 i)) (hd : decode cc pc = .ok (.putfield index, 3)) (kk : gG p l e R s m args below meth c nL D cl A0 H0 cells slots Q (wF n a g2) (pc + 3) lv st) : gG p l e R s m args below meth c nL D cl A0 H0 cells slots Q (wF n a g) pc lv (v :: .ref (a k) :: st) :=
  fun H locs ls hP hD hS hl => va_put C.1 C.2.1 C.2.2.2.1 hin ty0 hty hnm C.2.2.2.2.1 C.2.2.2.2.2.2.2.1.1 hP hD hS k (by rw [wF_get hk, hg]) hc j hj (C.2.2.2.1 _ hlk) (fun x hx => hx) hfin hpd hn hfit hlen hd (fun H1 locs1 hP1 _ hS1 => kk H1 locs1 ls (wF_set hP1 hu) (wF_D hD) hS1 hl)
theorem g_iald (C : gC p s m args meth c cc nL ret own D cl tys A0 H0) {k : Nat} {cA : ClassId} {N t0 : Nat} {f : Nat → Int32} (hk : k < n) (hg : g k = .inl (cA, N, .inl f)) (ht : tys[t0]? = some (cA, .int)) {i : Int32} (hi : vp_in i N) (hd : decode cc pc = .ok (.iaload, 1)) (kk : gG p l e R s m args below meth c nL D cl A0 H0 cells slots Q (wF n a g) (pc + 1) lv (.int (f i.toNatClampNeg) :: st)) : gG p l e R s m args below meth c nL D cl A0 H0 cells slots Q (wF n a g) pc lv (.int i :: .ref (a k) :: st) :=
  fun H locs ls hP hD hS hl => va_iald C.1 C.2.1 C.2.2.2.2.2.2.2.1.1 hP k t0 (by rw [wF_get hk, hg]) ht hi hd (kk H locs ls hP hD hS hl)
theorem g_zald (C : gC p s m args meth c cc nL ret own D cl tys A0 H0) {k : Nat} {cA : ClassId} {N t0 : Nat} {f : Nat → Int32} (hk : k < n) (hg : g k = .inl (cA, N, .inl f)) (ht : tys[t0]? = some (cA, .boolean)) {i : Int32} (hi : vp_in i N) (hd : decode cc pc = .ok (.baload, 1)) (kk : gG p l e R s m args below meth c nL D cl A0 H0 cells slots Q (wF n a g) (pc + 1) lv (.int (f i.toNatClampNeg) :: st)) : gG p l e R s m args below meth c nL D cl A0 H0 cells slots Q (wF n a g) pc lv (.int i :: .ref (a k) :: st) :=
  fun H locs ls hP hD hS hl => va_zald C.1 C.2.1 C.2.2.2.2.2.2.2.1.1 hP k t0 (by rw [wF_get hk, hg]) ht hi hd (kk H locs ls hP hD hS hl)
theorem g_iast (C : gC p s m args meth c cc nL ret own D cl tys A0 H0) {k : Nat} {cA : ClassId} {N t0 : Nat} {f : Nat → Int32} (hk : k < n) (hg : g k = .inl (cA, N, .inl f)) (ht : tys[t0]? = some (cA, .int)) {i x : Int32} (hi : vp_in i N) (hu : ∀ j, j < n → ve (if j = k then .inl (cA, N, .inl (upd f i.toNatClampNeg x)) else g j) (g2 j)) (hd : decode cc pc = .ok (.iastore, 1)) (kk : gG p l e R s m args below meth c nL D cl A0 H0 cells slots Q (wF n a g2) (pc + 1) lv st) : gG p l e R s m args below meth c nL D cl A0 H0 cells slots Q (wF n a g) pc lv (.int x :: .int i :: .ref (a k) :: st) :=
  fun H locs ls hP hD hS hl => va_iast C.1 C.2.1 C.2.2.2.2.2.2.2.1.1 hP hD hS k t0 (by rw [wF_get hk, hg]) ht hi hd (fun H1 locs1 hP1 _ hS1 => kk H1 locs1 ls (wF_set hP1 hu) (wF_D hD) hS1 hl)
theorem g_zast (C : gC p s m args meth c cc nL ret own D cl tys A0 H0) {k : Nat} {cA : ClassId} {N t0 : Nat} {f : Nat → Int32} (hk : k < n) (hg : g k = .inl (cA, N, .inl f)) (ht : tys[t0]? = some (cA, .boolean)) {i x : Int32} (hi : vp_in i N) (hu : ∀ j, j < n → ve (if j = k then .inl (cA, N, .inl (upd f i.toNatClampNeg (vp_nar .boolean x))) else g j) (g2 j)) (hd : decode cc pc = .ok (.bastore, 1)) (kk : gG p l e R s m args below meth c nL D cl A0 H0 cells slots Q (wF n a g2) (pc + 1) lv st) : gG p l e R s m args below meth c nL D cl A0 H0 cells slots Q (wF n a g) pc lv (.int x :: .int i :: .ref (a k) :: st) :=
  fun H locs ls hP hD hS hl => va_zast C.1 C.2.1 C.2.2.2.2.2.2.2.1.1 hP hD hS k t0 (by rw [wF_get hk, hg]) ht hi hd (fun H1 locs1 hP1 _ hS1 => kk H1 locs1 ls (wF_set hP1 hu) (wF_D hD) hS1 hl)
theorem g_alen (C : gC p s m args meth c cc nL ret own D cl tys A0 H0) {k : Nat} {cA : ClassId} {x : vp_A} {t0 : Nat} {ty : FieldType} (hk : k < n) (hg : g k = .inl (cA, x)) (ht : tys[t0]? = some (cA, ty)) (hd : decode cc pc = .ok (.arraylength, 1)) (kk : gG p l e R s m args below meth c nL D cl A0 H0 cells slots Q (wF n a g) (pc + 1) lv (.int (nI x.1) :: st)) : gG p l e R s m args below meth c nL D cl A0 H0 cells slots Q (wF n a g) pc lv (.ref (a k) :: st) :=
  fun H locs ls hP hD hS hl => va_alen C.1 C.2.1 C.2.2.2.2.2.2.2.1.1 hP k t0 (by rw [wF_get hk, hg]) ht rfl hd (kk H locs ls hP hD hS hl)
theorem g_aldq (C : gC p s m args meth c cc nL ret own D cl tys A0 H0) {k : Nat} {cA : ClassId} {Cn : String} {N t0 : Nat} {f : Nat → Option Nat} (hk : k < n) (hg : g k = .inl (cA, N, .inr (.inr (.inr (.inr f))))) (ht : tys[t0]? = some (cA, .object Cn)) {i : Int32} (hi : vp_in i N) (hd : decode cc pc = .ok (.aaload, 1)) (kk : gG p l e R s m args below meth c nL D cl A0 H0 cells slots Q (wF n a g) (pc + 1) lv (va_rf (f i.toNatClampNeg) :: st)) : gG p l e R s m args below meth c nL D cl A0 H0 cells slots Q (wF n a g) pc lv (.int i :: .ref (a k) :: st) :=
  fun H locs ls hP hD hS hl => va_aldq C.1 C.2.1 C.2.2.2.2.2.2.2.1.1 hP k t0 (by rw [wF_get hk, hg]) ht hi hd (kk H locs ls hP hD hS hl)
theorem g_copyi (C : gC p s m args meth c cc nL ret own D cl tys A0 H0) {k0 k1 : Nat} {c0 c1 : ClassId} {n0 n1 t0 t1 : Nat} {f f1 : Nat → Int32} {index : Nat} (hlk : Cond.methodLink own index arraycopyName ∈ Wl) (hna : Cond.native arraycopyName ∈ Wl) (hst : Cond.static arraycopyName ∈ Wl) (hini : Cond.initialized "java/lang/System" ∈ Wl) (hk0 : k0 < n) (hk1 : k1 < n) (hg0 : g k0 = .inl (c0, n0, .inl f)) (hg1 : g k1 = .inl (c1, n1, .inl f1)) (ht0 : tys[t0]? = some (c0, .int)) (ht1 : tys[t1]? = some (c1, .int)) {sp dp nn : Int32} (h1 : ¬ sp < 0) (h2 : ¬ dp < 0) (h3 : ¬ nn < 0) (h4 : sp.toNatClampNeg + nn.toNatClampNeg ≤ n0) (h5 : dp.toNatClampNeg + nn.toNatClampNeg ≤ n1) (hR : 1 ≤ R.frames ∧ (st.map fun v => v.category).sum + (nativeFrameWords "java/lang/System" "arraycopy" 5 + 11) ≤ R.locals) (hu : ∀ j, j < n → ve (if j = k1 then .inl (c1, n1, .inl (va_cpy f f1 sp.toNatClampNeg dp.toNatClampNeg nn.toNatClampNeg)) else g j) (g2 j)) (hd : decode cc pc = .ok (.invokestatic index, 3)) (kk : gG p l e R s m args below meth c nL D cl A0 H0 cells slots Q (wF n a g2) (pc + 3) lv st) : gG p l e R s m args below meth c nL D cl A0 H0 cells slots Q (wF n a g) pc lv (.int nn :: .int dp :: .ref (a k1) :: .int sp :: .ref (a k0) :: st) :=
  fun H locs ls hP hD hS hl => va_copyi C.1 C.2.1 (C.2.2.2.2.2.2.1.trans hl.1.symm) C.2.2.2.2.1 (C.2.2.2.1 _ hlk) (C.2.2.2.1 _ hna) (C.2.2.2.1 _ hst) (C.2.2.2.1 _ hini) C.2.2.2.2.2.2.2.1.1 hP hD hS k0 k1 t0 t1 (by rw [wF_get hk0, hg0]) (by rw [wF_get hk1, hg1]) ht0 ht1 rfl h1 h2 h3 h4 h5 (fun _ _ => rfl) hR.1 hR.2 hd (fun H1 locs1 hP1 _ hS1 => kk H1 locs1 ls (wF_set hP1 hu) (wF_D hD) hS1 hl)
theorem g_tsIn (C : gC p s m args meth c cc nL ret own D cl tys A0 H0) {dflt lo hi : Int} {offs : Array Int} {len : Nat} {x : Int32} {off : Int} {tgt : Nat} (v : Int32) (hx : x = v) (hd : decode cc pc = .ok (.tableswitch dflt lo hi offs, len)) (h1 : ¬ v.toInt < lo) (h2 : ¬ hi < v.toInt) (ho : offs[(v.toInt - lo).toNat]? = some off) (ht : (pc : Int) + off = (tgt : Int)) (kk : gG p l e R s m args below meth c nL D cl A0 H0 cells slots Q w tgt lv st) : gG p l e R s m args below meth c nL D cl A0 H0 cells slots Q w pc lv (.int x :: st) :=
  fun H locs ls hP hD hS hl => by subst hx; exact lv_tableIn C.1 C.2.1 hd h1 h2 ho ht (kk H locs ls hP hD hS hl)
theorem g_tsOut (C : gC p s m args meth c cc nL ret own D cl tys A0 H0) {dflt lo hi : Int} {offs : Array Int} {len : Nat} {x : Int32} {tgt : Nat} (hd : decode cc pc = .ok (.tableswitch dflt lo hi offs, len)) (h : x.toInt < lo ∨ hi < x.toInt) (ht : (pc : Int) + dflt = (tgt : Int)) (kk : gG p l e R s m args below meth c nL D cl A0 H0 cells slots Q w tgt lv st) : gG p l e R s m args below meth c nL D cl A0 H0 cells slots Q w pc lv (.int x :: st) :=
  fun H locs ls hP hD hS hl => lv_tableOut C.1 C.2.1 hd h ht (kk H locs ls hP hD hS hl)
theorem g_ifnull (C : gC p s m args meth c cc nL ret own D cl tys A0 H0) {r : Option Nat} {off : Int} {tgt : Nat} (hd : decode cc pc = .ok (.ifnull off, 3)) (ht : (pc : Int) + off = (tgt : Int)) (kt : r = none → gG p l e R s m args below meth c nL D cl A0 H0 cells slots Q w tgt lv st) (kf : ∀ b, r = some b → gG p l e R s m args below meth c nL D cl A0 H0 cells slots Q w (pc + 3) lv st) : gG p l e R s m args below meth c nL D cl A0 H0 cells slots Q w pc lv (va_rf r :: st) :=
  fun H locs ls hP hD hS hl => by
    cases r with
    | none => exact lv_ifnullN C.1 C.2.1 hd ht (kt rfl H locs ls hP hD hS hl)
    | some b => exact lv_ifnull C.1 C.2.1 hd (kf b rfl H locs ls hP hD hS hl)
theorem g_ifnonnull (C : gC p s m args meth c cc nL ret own D cl tys A0 H0) {r : Option Nat} {off : Int} {tgt : Nat} (hd : decode cc pc = .ok (.ifnonnull off, 3)) (ht : (pc : Int) + off = (tgt : Int)) (kt : ∀ b, r = some b → gG p l e R s m args below meth c nL D cl A0 H0 cells slots Q w tgt lv st) (kf : r = none → gG p l e R s m args below meth c nL D cl A0 H0 cells slots Q w (pc + 3) lv st) : gG p l e R s m args below meth c nL D cl A0 H0 cells slots Q w pc lv (va_rf r :: st) :=
  fun H locs ls hP hD hS hl => by
    cases r with
    | none => exact lv_ifnonnullN C.1 C.2.1 hd (kf rfl H locs ls hP hD hS hl)
    | some b => exact lv_ifnonnull C.1 C.2.1 hd ht (kt b rfl H locs ls hP hD hS hl)
theorem g_null (C : gC p s m args meth c cc nL ret own D cl tys A0 H0) (hd : decode cc pc = .ok (.aconst_null, 1)) (kk : gG p l e R s m args below meth c nL D cl A0 H0 cells slots Q w (pc + 1) lv (.null :: st)) : gG p l e R s m args below meth c nL D cl A0 H0 cells slots Q w pc lv st :=
  fun H locs ls hP hD hS hl => lv_null C.1 C.2.1 hd (kk H locs ls hP hD hS hl)
def gPre (D : va_G) (cl : List vw_C) (tys : List (ClassId × FieldType)) (w : va_W) (sz : Nat) (U : State) : Prop := U.heap.size = sz ∧ va_P D cl w U.heap ∧ gK D cl tys U ∧ va_D (fun _ => True) w
def KQ (l : Launch) (D : va_G) (cl : List vw_C) (tys : List (ClassId × FieldType)) (y : MethodName) (cc : ByteArray) (nL : Nat) (ret : Option FieldType) (fr lo : Nat) (av : List Value) (w : va_W) (Qc : (Nat → Prop) → Array Value → State → Outcome → State → Prop) : Prop :=
  ∀ sz : Nat, Met l y (Cond.code y cc nL ret :: Wl) ({ frames := fr, cells := 0, slots := 0, locals := lo }) (va_Pc av (gPre D cl tys w sz)) (Qc (va_A w sz)) 0 0 (va_A w sz)
def qI (D : va_G) (cl : List vw_C) (w2 : va_W) (r : Int32) (A : Nat → Prop) : Array Value → State → Outcome → State → Prop := va_Qi (fun (x : Int32) (_ : Unit) => x = r) (fun _ t => va_P D cl w2 t.heap) A
def qL (D : va_G) (cl : List vw_C) (w2 : va_W) (r : Int64) (A : Nat → Prop) : Array Value → State → Outcome → State → Prop := va_Ql (fun (x : Int64) (_ : Unit) => x = r) (fun _ t => va_P D cl w2 t.heap) A
def qV (D : va_G) (cl : List vw_C) (w2 : va_W) (A : Nat → Prop) : Array Value → State → Outcome → State → Prop := va_Qv (fun (_ : Unit) => True) (fun _ t => va_P D cl w2 t.heap) A
def qR (D : va_G) (cl : List vw_C) (w2 : va_W) (r : Option Nat) (A : Nat → Prop) : Array Value → State → Outcome → State → Prop := va_Qq (fun (x : Option Nat) (_ : Unit) => x = r) (fun _ t => va_P D cl w2 t.heap) A
theorem KQ.of {y : MethodName} {rt : Option FieldType} {fr lo : Nat} {av : List Value} {Qc : (Nat → Prop) → Array Value → State → Outcome → State → Prop} {lv0 : List (Nat × Value)} (hy : plainName y.cls = true) (hlen : (lg_sl av).length ≤ nL) (hlv : lv_args 0 av = lv0)
    (body : ∀ (p : Program) (e : Env) (s : State) (m : MethodId) (args : Array Value) (below : List Frame) (meth : Method) (c : Code) (A0 : Nat → Prop), gC p s m args meth c cc nL rt y.cls D cl tys A0 s.heap → gG p l e ({ frames := fr, cells := 0, slots := 0, locals := lo }) s m args below meth c nL D cl A0 s.heap 0 0 (MQ below (Qc A0) args s 0 0 A0) w 0 lv0 []) : KQ l D cl tys y cc nL rt fr lo av w Qc := by
  intro sz
  refine Met.ofW (cc := cc) (maxL := nL) (ret := rt) hy rfl ?_
  intro p e s m args below meth c s₁ B hml hv
  obtain ⟨rfl, hsz, hP, hK, hD0⟩ := hv
  have hts := atoms_spec (ws := Cond.code y cc nL rt :: Wl) B.pre
  subst hsz
  have hD := hD0.self (sz := s.heap.size)
  have hC : gC p s m av.toArray meth c cc nL rt y.cls D cl tys (va_A w s.heap.size) s.heap := ⟨B.exec, B.bytes, B.returns, fun w hw => hts w (List.mem_cons_of_mem _ hw), findClass_of_methodNamed B.named, B.notSynchronized, hml, hK, fun q h => Or.inr h⟩
  have hb := body p e s m av.toArray below meth c (va_A w s.heap.size) hC
  have hl := lv_entry av (n := nL) hlen
  rw [lg_entry_eq]
  rw [hlv] at hl
  exact hb s.heap [] _ hP hD va_S.rf hl
theorem g_iret (C : gC p s m args meth c cc nL (some .int) own D cl tys A0 s.heap) {v r : Int32} (hd : decode cc pc = .ok (.ireturn, 1)) (hr : v = r) {w2 : va_W} (hw : w = w2) : gG p l e R s m args below meth c nL D cl A0 s.heap 0 0 (MQ below (qI D cl w2 r A0) args s 0 0 A0) w pc lv [.int v] :=
  fun H locs ls hP hD hS hl => W.iret C.1 C.2.1 C.2.2.1 (fun t ht hW => ⟨⟨v, (), rfl, hr, by show va_P D cl w2 t.heap; rw [ht, ← hw]; exact hP⟩, hS.F ht⟩) hS.2.2 hd C.2.2.2.2.2.1
theorem g_zret (C : gC p s m args meth c cc nL (some .boolean) own D cl tys A0 s.heap) {v r : Int32} (hd : decode cc pc = .ok (.ireturn, 1)) (hz : v = 0 ∨ v = 1) (hr : v = r) {w2 : va_W} (hw : w = w2) : gG p l e R s m args below meth c nL D cl A0 s.heap 0 0 (MQ below (qI D cl w2 r A0) args s 0 0 A0) w pc lv [.int v] :=
  fun H locs ls hP hD hS hl => W.zret C.1 C.2.1 C.2.2.1 (by rcases hz with rfl | rfl <;> rfl) (fun t ht hW => ⟨⟨v, (), rfl, hr, by show va_P D cl w2 t.heap; rw [ht, ← hw]; exact hP⟩, hS.F ht⟩) hS.2.2 hd C.2.2.2.2.2.1
theorem g_lret (C : gC p s m args meth c cc nL (some .long) own D cl tys A0 s.heap) {v r : Int64} (hd : decode cc pc = .ok (.lreturn, 1)) (hr : v = r) {w2 : va_W} (hw : w = w2) : gG p l e R s m args below meth c nL D cl A0 s.heap 0 0 (MQ below (qL D cl w2 r A0) args s 0 0 A0) w pc lv [.long v] :=
  fun H locs ls hP hD hS hl => W.lret C.1 C.2.1 C.2.2.1 (fun t ht hW => ⟨⟨v, (), rfl, hr, by show va_P D cl w2 t.heap; rw [ht, ← hw]; exact hP⟩, hS.F ht⟩) hS.2.2 hd C.2.2.2.2.2.1
theorem g_vret (C : gC p s m args meth c cc nL none own D cl tys A0 s.heap)  (hd : decode cc pc = .ok (.return_, 1))  {w2 : va_W} (hw : w = w2) : gG p l e R s m args below meth c nL D cl A0 s.heap 0 0 (MQ below (qV D cl w2 A0) args s 0 0 A0) w pc lv [] :=
  fun H locs ls hP hD hS hl => W.vret C.1 C.2.1 C.2.2.1 (fun t ht hW => ⟨⟨(), rfl, trivial, by show va_P D cl w2 t.heap; rw [ht, ← hw]; exact hP⟩, hS.F ht⟩) hS.2.2 hd C.2.2.2.2.2.1
theorem g_aret {Cn : String} (C : gC p s m args meth c cc nL (some (.object Cn)) own D cl tys A0 s.heap) {v r : Option Nat} (hd : decode cc pc = .ok (.areturn, 1)) (hr : v = r) {w2 : va_W} (hw : w = w2) : gG p l e R s m args below meth c nL D cl A0 s.heap 0 0 (MQ below (qR D cl w2 r A0) args s 0 0 A0) w pc lv [va_rf v] :=
  fun H locs ls hP hD hS hl => W.aret C.1 C.2.1 C.2.2.1 (Or.inl ⟨_, rfl⟩) (by cases v <;> first | exact Or.inl rfl | exact Or.inr ⟨_, rfl⟩) (fun t ht hW => ⟨⟨v, (), rfl, hr, by show va_P D cl w2 t.heap; rw [ht, ← hw]; exact hP⟩, hS.F ht⟩) hS.2.2 hd C.2.2.2.2.2.1
theorem g_free {H : Heap} {locs : List Loc} (C : gC p s m args meth c cc nL ret own D cl tys A0 H0) (hD : va_D A0 w) (hS : va_S A0 H0 H locs) : ∀ q, va_A w H.size q → A0 q := by
  intro q h
  rcases h with ⟨k, e, h⟩ | h
  · exact hD.2 k (q, e) h
  · exact C.2.2.2.2.2.2.2.2 q (Nat.le_trans hS.1 h)
theorem gPre_blind {av : List Value} {sz : Nat} : FrameBlind (va_Pc av (gPre D cl tys w sz)) := fun a U g mk q => ⟨q.1, q.2.1, q.2.2.1, q.2.2.2.1.blind, q.2.2.2.2⟩
theorem gPre_of {H : Heap} {av : List Value} (C : gC p s m args meth c cc nL ret own D cl tys A0 H0) (hP : va_P D cl w H) (hD : va_D A0 w) : ∀ U : State, U.heap = H → s.WarmedH U.vm → va_Pc av (gPre D cl tys w H.size) av.toArray U := fun U hU hW => ⟨rfl, by rw [hU], by rw [hU]; exact hP, C.2.2.2.2.2.2.2.1.warm hW, ⟨hD.1, fun _ _ _ => trivial⟩⟩
theorem gW_good {y : MethodName} {bytes : ByteArray} {maxL : Nat} {rt : Option FieldType} (hco : Cond.code y bytes maxL rt ∈ Wl) : GoodIn Wl (Cond.code y bytes maxL rt :: Wl) := fun w h => wl_good w ((List.mem_cons.mp h).elim (fun e => e ▸ hco) id)
theorem gV_good {own : String} {index : Nat} {y : MethodName} {bytes : ByteArray} {maxL : Nat} {rt : Option FieldType} (hlk : Cond.methodLink own index y ∈ Wl) (hin : Cond.instanceMethod y ∈ Wl) (hse : Cond.selects y.cls y y ∈ Wl) (hini : Cond.initialized y.cls ∈ Wl) (hco : Cond.code y bytes maxL rt ∈ Wl) : GoodIn Wl (wsV own index y.cls y (Cond.code y bytes maxL rt :: Wl)) := by
  intro w h
  unfold wsV at h
  rcases List.mem_append.mp h with h | h
  · refine wl_good w ?_
    simp only [List.mem_cons, List.not_mem_nil, or_false] at h
    rcases h with rfl | rfl | rfl | rfl
    · exact hlk
    · exact hin
    · exact hse
    · exact hini
  · exact gW_good hco w h
theorem gS_good {own : String} {index : Nat} {y : MethodName} {bytes : ByteArray} {maxL : Nat} {rt : Option FieldType} (hlk : Cond.methodLink own index y ∈ Wl) (hsa : Cond.static y ∈ Wl) (hini : Cond.initialized y.cls ∈ Wl) (hco : Cond.code y bytes maxL rt ∈ Wl) : GoodIn Wl (va_wsS own index y (Cond.code y bytes maxL rt :: Wl)) := by
  intro w h
  unfold va_wsS at h
  rcases List.mem_append.mp h with h | h
  · refine wl_good w ?_
    simp only [List.mem_cons, List.not_mem_nil, or_false] at h
    rcases h with rfl | rfl | rfl
    · exact hlk
    · exact hsa
    · exact hini
  · exact gW_good hco w h
theorem g_callV_i (C : gC p s m args meth c cc nL ret own D cl tys A0 H0) {y : MethodName} {bytes : ByteArray} {maxL index fr lo : Nat} {rt : Option FieldType} {rest st0 : List Value} {As : List Value} {b : Nat} {Cn : String} {q0 ci : Nat} {fs : List Value} {rc : vw_C} {r : Int32} (hM : KQ l D cl tys y bytes maxL rt fr lo (.ref b :: As) (wF n a g) (qI D cl (wF n a g2) r)) (hlk : Cond.methodLink own index y ∈ Wl) (hin : Cond.instanceMethod y ∈ Wl) (hse : Cond.selects y.cls y y ∈ Wl) (hini : Cond.initialized y.cls ∈ Wl) (hco : Cond.code y bytes maxL rt ∈ Wl) (hdd : y.cls = y.cls ∧ y.cls ≠ "java/lang/invoke/MethodHandle" ∧ y.cls ≠ "java/lang/invoke/VarHandle" ∧ (parseMethodDescriptor y.desc).map (fun d => d.parameters.length) = some As.length) (hk0 : q0 < n) (hb0 : b = a q0) (hg0 : g q0 = .inr (ci, fs)) (hc0 : cl[ci]? = some rc) (hc1 : rc.1 = y.cls) (hR : fr + 1 ≤ R.frames ∧ 8 + (maxL + 11) + lo ≤ R.locals) (hf : cells + 0 ≤ R.cells ∧ slots + 0 ≤ R.slots) (hst : st0 = As.reverse ++ .ref b :: rest) (hro : (rest.map fun v => v.category).sum ≤ 8) (hd : decode cc pc = .ok (.invokevirtual index, 3)) (kk : gG p l e R s m args below meth c nL D cl A0 H0 cells slots Q (wF n a g2) (pc + 3) lv (.int r :: rest)) : gG p l e R s m args below meth c nL D cl A0 H0 cells slots Q (wF n a g) pc lv st0 :=
  fun H locs ls hP hD hS hl => va_calli (va_runV (As := As) (rest := rest) ⟨C.1, C.2.1, C.2.2.2.2.2.2.1, C.2.2.2.2.1, C.2.2.2.1⟩ (hM H.size) (cwV As.length C.2.2.2.1 (gV_good hlk hin hse hini hco) rfl rfl rfl hdd hR) ⟨gPre_blind, by subst hb0; rw [← hc1]; exact va_recv C.2.2.2.2.2.2.2.1.1 hP hc0 (by rw [wF_get hk0, hg0]), gPre_of C hP hD⟩ rfl rfl hl.1 hst (lv_room hro) hd hf) hS (fun q _ h => g_free C hD hS q h) (g_free C hD hS) (fun r2 u t H1 locs1 ht hvm hw hB hz1 hk1 hS1 => by cases hw; exact kk H1 locs1 ls (by rw [← ht]; exact hB) (wF_D hD) hS1 hl)
theorem g_callV_l (C : gC p s m args meth c cc nL ret own D cl tys A0 H0) {y : MethodName} {bytes : ByteArray} {maxL index fr lo : Nat} {rt : Option FieldType} {rest st0 : List Value} {As : List Value} {b : Nat} {Cn : String} {q0 ci : Nat} {fs : List Value} {rc : vw_C} {r : Int64} (hM : KQ l D cl tys y bytes maxL rt fr lo (.ref b :: As) (wF n a g) (qL D cl (wF n a g2) r)) (hlk : Cond.methodLink own index y ∈ Wl) (hin : Cond.instanceMethod y ∈ Wl) (hse : Cond.selects y.cls y y ∈ Wl) (hini : Cond.initialized y.cls ∈ Wl) (hco : Cond.code y bytes maxL rt ∈ Wl) (hdd : y.cls = y.cls ∧ y.cls ≠ "java/lang/invoke/MethodHandle" ∧ y.cls ≠ "java/lang/invoke/VarHandle" ∧ (parseMethodDescriptor y.desc).map (fun d => d.parameters.length) = some As.length) (hk0 : q0 < n) (hb0 : b = a q0) (hg0 : g q0 = .inr (ci, fs)) (hc0 : cl[ci]? = some rc) (hc1 : rc.1 = y.cls) (hR : fr + 1 ≤ R.frames ∧ 8 + (maxL + 11) + lo ≤ R.locals) (hf : cells + 0 ≤ R.cells ∧ slots + 0 ≤ R.slots) (hst : st0 = As.reverse ++ .ref b :: rest) (hro : (rest.map fun v => v.category).sum ≤ 8) (hd : decode cc pc = .ok (.invokevirtual index, 3)) (kk : gG p l e R s m args below meth c nL D cl A0 H0 cells slots Q (wF n a g2) (pc + 3) lv (.long r :: rest)) : gG p l e R s m args below meth c nL D cl A0 H0 cells slots Q (wF n a g) pc lv st0 :=
  fun H locs ls hP hD hS hl => va_calll (va_runV (As := As) (rest := rest) ⟨C.1, C.2.1, C.2.2.2.2.2.2.1, C.2.2.2.2.1, C.2.2.2.1⟩ (hM H.size) (cwV As.length C.2.2.2.1 (gV_good hlk hin hse hini hco) rfl rfl rfl hdd hR) ⟨gPre_blind, by subst hb0; rw [← hc1]; exact va_recv C.2.2.2.2.2.2.2.1.1 hP hc0 (by rw [wF_get hk0, hg0]), gPre_of C hP hD⟩ rfl rfl hl.1 hst (lv_room hro) hd hf) hS (fun q _ h => g_free C hD hS q h) (g_free C hD hS) (fun r2 u t H1 locs1 ht hvm hw hB hz1 hk1 hS1 => by cases hw; exact kk H1 locs1 ls (by rw [← ht]; exact hB) (wF_D hD) hS1 hl)
theorem g_callV_v (C : gC p s m args meth c cc nL ret own D cl tys A0 H0) {y : MethodName} {bytes : ByteArray} {maxL index fr lo : Nat} {rt : Option FieldType} {rest st0 : List Value} {As : List Value} {b : Nat} {Cn : String} {q0 ci : Nat} {fs : List Value} {rc : vw_C}  (hM : KQ l D cl tys y bytes maxL rt fr lo (.ref b :: As) (wF n a g) (qV D cl (wF n a g2))) (hlk : Cond.methodLink own index y ∈ Wl) (hin : Cond.instanceMethod y ∈ Wl) (hse : Cond.selects y.cls y y ∈ Wl) (hini : Cond.initialized y.cls ∈ Wl) (hco : Cond.code y bytes maxL rt ∈ Wl) (hdd : y.cls = y.cls ∧ y.cls ≠ "java/lang/invoke/MethodHandle" ∧ y.cls ≠ "java/lang/invoke/VarHandle" ∧ (parseMethodDescriptor y.desc).map (fun d => d.parameters.length) = some As.length) (hk0 : q0 < n) (hb0 : b = a q0) (hg0 : g q0 = .inr (ci, fs)) (hc0 : cl[ci]? = some rc) (hc1 : rc.1 = y.cls) (hR : fr + 1 ≤ R.frames ∧ 8 + (maxL + 11) + lo ≤ R.locals) (hf : cells + 0 ≤ R.cells ∧ slots + 0 ≤ R.slots) (hst : st0 = As.reverse ++ .ref b :: rest) (hro : (rest.map fun v => v.category).sum ≤ 8) (hd : decode cc pc = .ok (.invokevirtual index, 3)) (kk : gG p l e R s m args below meth c nL D cl A0 H0 cells slots Q (wF n a g2) (pc + 3) lv rest) : gG p l e R s m args below meth c nL D cl A0 H0 cells slots Q (wF n a g) pc lv st0 :=
  fun H locs ls hP hD hS hl => va_callv (va_runV (As := As) (rest := rest) ⟨C.1, C.2.1, C.2.2.2.2.2.2.1, C.2.2.2.2.1, C.2.2.2.1⟩ (hM H.size) (cwV As.length C.2.2.2.1 (gV_good hlk hin hse hini hco) rfl rfl rfl hdd hR) ⟨gPre_blind, by subst hb0; rw [← hc1]; exact va_recv C.2.2.2.2.2.2.2.1.1 hP hc0 (by rw [wF_get hk0, hg0]), gPre_of C hP hD⟩ rfl rfl hl.1 hst (lv_room hro) hd hf) hS (fun q _ h => g_free C hD hS q h) (g_free C hD hS) (fun u t H1 locs1 ht hvm hw hB hz1 hk1 hS1 => kk H1 locs1 ls (by rw [← ht]; exact hB) (wF_D hD) hS1 hl)
theorem g_callS_i (C : gC p s m args meth c cc nL ret own D cl tys A0 H0) {y : MethodName} {bytes : ByteArray} {maxL index fr lo : Nat} {rt : Option FieldType} {rest st0 : List Value} {As : List Value} {r : Int32} (hM : KQ l D cl tys y bytes maxL rt fr lo As (wF n a g) (qI D cl (wF n a g2) r)) (hlk : Cond.methodLink own index y ∈ Wl) (hsa : Cond.static y ∈ Wl) (hini : Cond.initialized y.cls ∈ Wl) (hco : Cond.code y bytes maxL rt ∈ Wl) (hdd : y.cls ≠ "java/lang/invoke/MethodHandle" ∧ y.cls ≠ "java/lang/invoke/VarHandle" ∧ (parseMethodDescriptor y.desc).map (fun d => d.parameters.length) = some As.length) (hR : fr + 1 ≤ R.frames ∧ 8 + (maxL + 11) + lo ≤ R.locals) (hf : cells + 0 ≤ R.cells ∧ slots + 0 ≤ R.slots) (hst : st0 = As.reverse ++ rest) (hro : (rest.map fun v => v.category).sum ≤ 8) (hd : decode cc pc = .ok (.invokestatic index, 3)) (kk : gG p l e R s m args below meth c nL D cl A0 H0 cells slots Q (wF n a g2) (pc + 3) lv (.int r :: rest)) : gG p l e R s m args below meth c nL D cl A0 H0 cells slots Q (wF n a g) pc lv st0 :=
  fun H locs ls hP hD hS hl => va_calli (va_runS (As := As) (rest := rest) ⟨C.1, C.2.1, C.2.2.2.2.2.2.1, C.2.2.2.2.1, C.2.2.2.1⟩ (hM H.size) (va_cwS As.length C.2.2.2.1 (gS_good hlk hsa hini hco) rfl rfl rfl hdd hR) ⟨gPre_blind, gPre_of C hP hD⟩ rfl rfl hl.1 hst (lv_room hro) hd hf) hS (fun q _ h => g_free C hD hS q h) (g_free C hD hS) (fun r2 u t H1 locs1 ht hvm hw hB hz1 hk1 hS1 => by cases hw; exact kk H1 locs1 ls (by rw [← ht]; exact hB) (wF_D hD) hS1 hl)
theorem g_callS_l (C : gC p s m args meth c cc nL ret own D cl tys A0 H0) {y : MethodName} {bytes : ByteArray} {maxL index fr lo : Nat} {rt : Option FieldType} {rest st0 : List Value} {As : List Value} {r : Int64} (hM : KQ l D cl tys y bytes maxL rt fr lo As (wF n a g) (qL D cl (wF n a g2) r)) (hlk : Cond.methodLink own index y ∈ Wl) (hsa : Cond.static y ∈ Wl) (hini : Cond.initialized y.cls ∈ Wl) (hco : Cond.code y bytes maxL rt ∈ Wl) (hdd : y.cls ≠ "java/lang/invoke/MethodHandle" ∧ y.cls ≠ "java/lang/invoke/VarHandle" ∧ (parseMethodDescriptor y.desc).map (fun d => d.parameters.length) = some As.length) (hR : fr + 1 ≤ R.frames ∧ 8 + (maxL + 11) + lo ≤ R.locals) (hf : cells + 0 ≤ R.cells ∧ slots + 0 ≤ R.slots) (hst : st0 = As.reverse ++ rest) (hro : (rest.map fun v => v.category).sum ≤ 8) (hd : decode cc pc = .ok (.invokestatic index, 3)) (kk : gG p l e R s m args below meth c nL D cl A0 H0 cells slots Q (wF n a g2) (pc + 3) lv (.long r :: rest)) : gG p l e R s m args below meth c nL D cl A0 H0 cells slots Q (wF n a g) pc lv st0 :=
  fun H locs ls hP hD hS hl => va_calll (va_runS (As := As) (rest := rest) ⟨C.1, C.2.1, C.2.2.2.2.2.2.1, C.2.2.2.2.1, C.2.2.2.1⟩ (hM H.size) (va_cwS As.length C.2.2.2.1 (gS_good hlk hsa hini hco) rfl rfl rfl hdd hR) ⟨gPre_blind, gPre_of C hP hD⟩ rfl rfl hl.1 hst (lv_room hro) hd hf) hS (fun q _ h => g_free C hD hS q h) (g_free C hD hS) (fun r2 u t H1 locs1 ht hvm hw hB hz1 hk1 hS1 => by cases hw; exact kk H1 locs1 ls (by rw [← ht]; exact hB) (wF_D hD) hS1 hl)
theorem g_callS_v (C : gC p s m args meth c cc nL ret own D cl tys A0 H0) {y : MethodName} {bytes : ByteArray} {maxL index fr lo : Nat} {rt : Option FieldType} {rest st0 : List Value} {As : List Value}  (hM : KQ l D cl tys y bytes maxL rt fr lo As (wF n a g) (qV D cl (wF n a g2))) (hlk : Cond.methodLink own index y ∈ Wl) (hsa : Cond.static y ∈ Wl) (hini : Cond.initialized y.cls ∈ Wl) (hco : Cond.code y bytes maxL rt ∈ Wl) (hdd : y.cls ≠ "java/lang/invoke/MethodHandle" ∧ y.cls ≠ "java/lang/invoke/VarHandle" ∧ (parseMethodDescriptor y.desc).map (fun d => d.parameters.length) = some As.length) (hR : fr + 1 ≤ R.frames ∧ 8 + (maxL + 11) + lo ≤ R.locals) (hf : cells + 0 ≤ R.cells ∧ slots + 0 ≤ R.slots) (hst : st0 = As.reverse ++ rest) (hro : (rest.map fun v => v.category).sum ≤ 8) (hd : decode cc pc = .ok (.invokestatic index, 3)) (kk : gG p l e R s m args below meth c nL D cl A0 H0 cells slots Q (wF n a g2) (pc + 3) lv rest) : gG p l e R s m args below meth c nL D cl A0 H0 cells slots Q (wF n a g) pc lv st0 :=
  fun H locs ls hP hD hS hl => va_callv (va_runS (As := As) (rest := rest) ⟨C.1, C.2.1, C.2.2.2.2.2.2.1, C.2.2.2.2.1, C.2.2.2.1⟩ (hM H.size) (va_cwS As.length C.2.2.2.1 (gS_good hlk hsa hini hco) rfl rfl rfl hdd hR) ⟨gPre_blind, gPre_of C hP hD⟩ rfl rfl hl.1 hst (lv_room hro) hd hf) hS (fun q _ h => g_free C hD hS q h) (g_free C hD hS) (fun u t H1 locs1 ht hvm hw hB hz1 hk1 hS1 => kk H1 locs1 ls (by rw [← ht]; exact hB) (wF_D hD) hS1 hl)
theorem g_callS_q (C : gC p s m args meth c cc nL ret own D cl tys A0 H0) {y : MethodName} {bytes : ByteArray} {maxL index fr lo : Nat} {rt : Option FieldType} {rest st0 : List Value} {As : List Value} {r : Option Nat} (hM : KQ l D cl tys y bytes maxL rt fr lo As (wF n a g) (qR D cl (wF n a g2) r)) (hlk : Cond.methodLink own index y ∈ Wl) (hsa : Cond.static y ∈ Wl) (hini : Cond.initialized y.cls ∈ Wl) (hco : Cond.code y bytes maxL rt ∈ Wl) (hdd : y.cls ≠ "java/lang/invoke/MethodHandle" ∧ y.cls ≠ "java/lang/invoke/VarHandle" ∧ (parseMethodDescriptor y.desc).map (fun d => d.parameters.length) = some As.length) (hR : fr + 1 ≤ R.frames ∧ 8 + (maxL + 11) + lo ≤ R.locals) (hf : cells + 0 ≤ R.cells ∧ slots + 0 ≤ R.slots) (hst : st0 = As.reverse ++ rest) (hro : (rest.map fun v => v.category).sum ≤ 8) (hd : decode cc pc = .ok (.invokestatic index, 3)) (kk : gG p l e R s m args below meth c nL D cl A0 H0 cells slots Q (wF n a g2) (pc + 3) lv (va_rf r :: rest)) : gG p l e R s m args below meth c nL D cl A0 H0 cells slots Q (wF n a g) pc lv st0 :=
  fun H locs ls hP hD hS hl => va_callq (va_runS (As := As) (rest := rest) ⟨C.1, C.2.1, C.2.2.2.2.2.2.1, C.2.2.2.2.1, C.2.2.2.1⟩ (hM H.size) (va_cwS As.length C.2.2.2.1 (gS_good hlk hsa hini hco) rfl rfl rfl hdd hR) ⟨gPre_blind, gPre_of C hP hD⟩ rfl rfl hl.1 hst (lv_room hro) hd hf) hS (fun q _ h => g_free C hD hS q h) (g_free C hD hS) (fun r2 u t H1 locs1 ht hvm hw hB hz1 hk1 hS1 => by cases hw; exact kk H1 locs1 ls (by rw [← ht]; exact hB) (wF_D hD) hS1 hl)
theorem g_callN_i (C : gC p s m args meth c cc nL ret own D cl tys A0 H0) {y : MethodName} {bytes : ByteArray} {maxL index fr lo : Nat} {rt : Option FieldType} {rest st0 : List Value} {As : List Value} {host : String} {r : Int32} (hM : KQ l D cl tys y bytes maxL rt fr lo As (wF n a g) (qI D cl (wF n a g2) r)) (hnl : Cond.methodLinkNest own index y host ∈ Nl) (hsa : Cond.static y ∈ Wl) (hini : Cond.initialized y.cls ∈ Wl) (hco : Cond.code y bytes maxL rt ∈ Wl) (hdd : y.cls ≠ "java/lang/invoke/MethodHandle" ∧ y.cls ≠ "java/lang/invoke/VarHandle" ∧ (parseMethodDescriptor y.desc).map (fun d => d.parameters.length) = some As.length) (hR : fr + 1 ≤ R.frames ∧ 8 + (maxL + 11) + lo ≤ R.locals) (hf : cells + 0 ≤ R.cells ∧ slots + 0 ≤ R.slots) (hst : st0 = As.reverse ++ rest) (hro : (rest.map fun v => v.category).sum ≤ 8) (hd : decode cc pc = .ok (.invokestatic index, 3)) (kk : gG p l e R s m args below meth c nL D cl A0 H0 cells slots Q (wF n a g2) (pc + 3) lv (.int r :: rest)) : gG p l e R s m args below meth c nL D cl A0 H0 cells slots Q (wF n a g) pc lv st0 :=
  fun H locs ls hP hD hS hl => va_calli (va_runSN (As := As) (rest := rest) ⟨C.1, C.2.1, C.2.2.2.2.2.2.1, C.2.2.2.2.1, C.2.2.2.1⟩ (hM H.size) ⟨va_cnB As.length C.2.2.2.1 (gW_good hco) rfl rfl rfl (C.2.2.2.2.2.2.2.1.2 _ hnl) (C.2.2.2.1 _ hini) hdd hR, C.2.2.2.1 _ hsa, trivial⟩ ⟨gPre_blind, gPre_of C hP hD⟩ rfl rfl hl.1 hst (lv_room hro) hd hf) hS (fun q _ h => g_free C hD hS q h) (g_free C hD hS) (fun r2 u t H1 locs1 ht hvm hw hB hz1 hk1 hS1 => by cases hw; exact kk H1 locs1 ls (by rw [← ht]; exact hB) (wF_D hD) hS1 hl)
theorem g_callN_l (C : gC p s m args meth c cc nL ret own D cl tys A0 H0) {y : MethodName} {bytes : ByteArray} {maxL index fr lo : Nat} {rt : Option FieldType} {rest st0 : List Value} {As : List Value} {host : String} {r : Int64} (hM : KQ l D cl tys y bytes maxL rt fr lo As (wF n a g) (qL D cl (wF n a g2) r)) (hnl : Cond.methodLinkNest own index y host ∈ Nl) (hsa : Cond.static y ∈ Wl) (hini : Cond.initialized y.cls ∈ Wl) (hco : Cond.code y bytes maxL rt ∈ Wl) (hdd : y.cls ≠ "java/lang/invoke/MethodHandle" ∧ y.cls ≠ "java/lang/invoke/VarHandle" ∧ (parseMethodDescriptor y.desc).map (fun d => d.parameters.length) = some As.length) (hR : fr + 1 ≤ R.frames ∧ 8 + (maxL + 11) + lo ≤ R.locals) (hf : cells + 0 ≤ R.cells ∧ slots + 0 ≤ R.slots) (hst : st0 = As.reverse ++ rest) (hro : (rest.map fun v => v.category).sum ≤ 8) (hd : decode cc pc = .ok (.invokestatic index, 3)) (kk : gG p l e R s m args below meth c nL D cl A0 H0 cells slots Q (wF n a g2) (pc + 3) lv (.long r :: rest)) : gG p l e R s m args below meth c nL D cl A0 H0 cells slots Q (wF n a g) pc lv st0 :=
  fun H locs ls hP hD hS hl => va_calll (va_runSN (As := As) (rest := rest) ⟨C.1, C.2.1, C.2.2.2.2.2.2.1, C.2.2.2.2.1, C.2.2.2.1⟩ (hM H.size) ⟨va_cnB As.length C.2.2.2.1 (gW_good hco) rfl rfl rfl (C.2.2.2.2.2.2.2.1.2 _ hnl) (C.2.2.2.1 _ hini) hdd hR, C.2.2.2.1 _ hsa, trivial⟩ ⟨gPre_blind, gPre_of C hP hD⟩ rfl rfl hl.1 hst (lv_room hro) hd hf) hS (fun q _ h => g_free C hD hS q h) (g_free C hD hS) (fun r2 u t H1 locs1 ht hvm hw hB hz1 hk1 hS1 => by cases hw; exact kk H1 locs1 ls (by rw [← ht]; exact hB) (wF_D hD) hS1 hl)
theorem g_callN_v (C : gC p s m args meth c cc nL ret own D cl tys A0 H0) {y : MethodName} {bytes : ByteArray} {maxL index fr lo : Nat} {rt : Option FieldType} {rest st0 : List Value} {As : List Value} {host : String}  (hM : KQ l D cl tys y bytes maxL rt fr lo As (wF n a g) (qV D cl (wF n a g2))) (hnl : Cond.methodLinkNest own index y host ∈ Nl) (hsa : Cond.static y ∈ Wl) (hini : Cond.initialized y.cls ∈ Wl) (hco : Cond.code y bytes maxL rt ∈ Wl) (hdd : y.cls ≠ "java/lang/invoke/MethodHandle" ∧ y.cls ≠ "java/lang/invoke/VarHandle" ∧ (parseMethodDescriptor y.desc).map (fun d => d.parameters.length) = some As.length) (hR : fr + 1 ≤ R.frames ∧ 8 + (maxL + 11) + lo ≤ R.locals) (hf : cells + 0 ≤ R.cells ∧ slots + 0 ≤ R.slots) (hst : st0 = As.reverse ++ rest) (hro : (rest.map fun v => v.category).sum ≤ 8) (hd : decode cc pc = .ok (.invokestatic index, 3)) (kk : gG p l e R s m args below meth c nL D cl A0 H0 cells slots Q (wF n a g2) (pc + 3) lv rest) : gG p l e R s m args below meth c nL D cl A0 H0 cells slots Q (wF n a g) pc lv st0 :=
  fun H locs ls hP hD hS hl => va_callv (va_runSN (As := As) (rest := rest) ⟨C.1, C.2.1, C.2.2.2.2.2.2.1, C.2.2.2.2.1, C.2.2.2.1⟩ (hM H.size) ⟨va_cnB As.length C.2.2.2.1 (gW_good hco) rfl rfl rfl (C.2.2.2.2.2.2.2.1.2 _ hnl) (C.2.2.2.1 _ hini) hdd hR, C.2.2.2.1 _ hsa, trivial⟩ ⟨gPre_blind, gPre_of C hP hD⟩ rfl rfl hl.1 hst (lv_room hro) hd hf) hS (fun q _ h => g_free C hD hS q h) (g_free C hD hS) (fun u t H1 locs1 ht hvm hw hB hz1 hk1 hS1 => kk H1 locs1 ls (by rw [← ht]; exact hB) (wF_D hD) hS1 hl)
theorem g_callN_q (C : gC p s m args meth c cc nL ret own D cl tys A0 H0) {y : MethodName} {bytes : ByteArray} {maxL index fr lo : Nat} {rt : Option FieldType} {rest st0 : List Value} {As : List Value} {host : String} {r : Option Nat} (hM : KQ l D cl tys y bytes maxL rt fr lo As (wF n a g) (qR D cl (wF n a g2) r)) (hnl : Cond.methodLinkNest own index y host ∈ Nl) (hsa : Cond.static y ∈ Wl) (hini : Cond.initialized y.cls ∈ Wl) (hco : Cond.code y bytes maxL rt ∈ Wl) (hdd : y.cls ≠ "java/lang/invoke/MethodHandle" ∧ y.cls ≠ "java/lang/invoke/VarHandle" ∧ (parseMethodDescriptor y.desc).map (fun d => d.parameters.length) = some As.length) (hR : fr + 1 ≤ R.frames ∧ 8 + (maxL + 11) + lo ≤ R.locals) (hf : cells + 0 ≤ R.cells ∧ slots + 0 ≤ R.slots) (hst : st0 = As.reverse ++ rest) (hro : (rest.map fun v => v.category).sum ≤ 8) (hd : decode cc pc = .ok (.invokestatic index, 3)) (kk : gG p l e R s m args below meth c nL D cl A0 H0 cells slots Q (wF n a g2) (pc + 3) lv (va_rf r :: rest)) : gG p l e R s m args below meth c nL D cl A0 H0 cells slots Q (wF n a g) pc lv st0 :=
  fun H locs ls hP hD hS hl => va_callq (va_runSN (As := As) (rest := rest) ⟨C.1, C.2.1, C.2.2.2.2.2.2.1, C.2.2.2.2.1, C.2.2.2.1⟩ (hM H.size) ⟨va_cnB As.length C.2.2.2.1 (gW_good hco) rfl rfl rfl (C.2.2.2.2.2.2.2.1.2 _ hnl) (C.2.2.2.1 _ hini) hdd hR, C.2.2.2.1 _ hsa, trivial⟩ ⟨gPre_blind, gPre_of C hP hD⟩ rfl rfl hl.1 hst (lv_room hro) hd hf) hS (fun q _ h => g_free C hD hS q h) (g_free C hD hS) (fun r2 u t H1 locs1 ht hvm hw hB hz1 hk1 hS1 => by cases hw; exact kk H1 locs1 ls (by rw [← ht]; exact hB) (wF_D hD) hS1 hl)
end
end
