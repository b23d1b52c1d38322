section
-- ===== PART A: goes FIRST, ahead of the names: the tables' words, and 'selects' of the private methods out of them =====
/-- a private method of a class that the tables say can be made, by its rows of tables_1 -/
def lw_okq (q : MethodName × Nat) : Prop := (q.1.cls ≠ "java/lang/invoke/MethodHandle" ∧ q.1.cls ≠ "java/lang/invoke/VarHandle") ∧ Cond.instantiable q.1.cls q.2 ∈ tables_1 ∧ Cond.privateMethod q.1 ∈ tables_1 ∧ Cond.instanceMethod q.1 ∈ tables_1
theorem lw_p0 : lw_okq (⟨"EntryTables", "isTable", "(I)Z"⟩, 9) := ⟨⟨by decide +kernel, by decide +kernel⟩, List.mem_of_getElem? (i := 20) (by decide +kernel), List.mem_of_getElem? (i := 259) (by decide +kernel), List.mem_of_getElem? (i := 260) (by decide +kernel)⟩
theorem lw_p1 : lw_okq (⟨"EntryTables$Table", "isBetter", "(LEntryTables$Entry;LEntryTables$Entry;)Z"⟩, 11) := ⟨⟨by decide +kernel, by decide +kernel⟩, List.mem_of_getElem? (i := 119) (by decide +kernel), List.mem_of_getElem? (i := 272) (by decide +kernel), List.mem_of_getElem? (i := 273) (by decide +kernel)⟩
theorem lw_p2 : lw_okq (⟨"EntryTables$Table", "prefixOnes", "(LEntryTables$Key;)I"⟩, 11) := ⟨⟨by decide +kernel, by decide +kernel⟩, List.mem_of_getElem? (i := 119) (by decide +kernel), List.mem_of_getElem? (i := 276) (by decide +kernel), List.mem_of_getElem? (i := 277) (by decide +kernel)⟩
theorem lw_p3 : lw_okq (⟨"java/lang/Throwable", "fillInStackTrace", "(I)Ljava/lang/Throwable;"⟩, 6) := ⟨⟨by decide +kernel, by decide +kernel⟩, List.mem_of_getElem? (i := 359) (by decide +kernel), List.mem_of_getElem? (i := 357) (by decide +kernel), List.mem_of_getElem? (i := 358) (by decide +kernel)⟩
theorem lw_p4 : lw_okq (⟨"EntryTables", "isAction", "(I)Z"⟩, 9) := ⟨⟨by decide +kernel, by decide +kernel⟩, List.mem_of_getElem? (i := 20) (by decide +kernel), List.mem_of_getElem? (i := 463) (by decide +kernel), List.mem_of_getElem? (i := 464) (by decide +kernel)⟩
theorem lw_p5 : lw_okq (⟨"EntryTables", "areOperands", "(IIII)Z"⟩, 9) := ⟨⟨by decide +kernel, by decide +kernel⟩, List.mem_of_getElem? (i := 20) (by decide +kernel), List.mem_of_getElem? (i := 467) (by decide +kernel), List.mem_of_getElem? (i := 468) (by decide +kernel)⟩
theorem lw_p6 : lw_okq (⟨"EntryTables", "areKeyFields", "(II)Z"⟩, 9) := ⟨⟨by decide +kernel, by decide +kernel⟩, List.mem_of_getElem? (i := 20) (by decide +kernel), List.mem_of_getElem? (i := 493) (by decide +kernel), List.mem_of_getElem? (i := 494) (by decide +kernel)⟩
theorem lw_p7 : lw_okq (⟨"EntryTables", "areActions", "(II)Z"⟩, 9) := ⟨⟨by decide +kernel, by decide +kernel⟩, List.mem_of_getElem? (i := 20) (by decide +kernel), List.mem_of_getElem? (i := 497) (by decide +kernel), List.mem_of_getElem? (i := 498) (by decide +kernel)⟩
theorem lw_p8 : lw_okq (⟨"EntryTables$Table", "seek", "(LEntryTables$Key;)V"⟩, 11) := ⟨⟨by decide +kernel, by decide +kernel⟩, List.mem_of_getElem? (i := 119) (by decide +kernel), List.mem_of_getElem? (i := 535) (by decide +kernel), List.mem_of_getElem? (i := 536) (by decide +kernel)⟩
theorem lw_p9 : lw_okq (⟨"EntryTables$Table", "areMasks", "()Z"⟩, 11) := ⟨⟨by decide +kernel, by decide +kernel⟩, List.mem_of_getElem? (i := 119) (by decide +kernel), List.mem_of_getElem? (i := 540) (by decide +kernel), List.mem_of_getElem? (i := 541) (by decide +kernel)⟩
theorem lw_p10 : lw_okq (⟨"EntryTables$Table", "isAllowed", "(I)Z"⟩, 11) := ⟨⟨by decide +kernel, by decide +kernel⟩, List.mem_of_getElem? (i := 119) (by decide +kernel), List.mem_of_getElem? (i := 547) (by decide +kernel), List.mem_of_getElem? (i := 548) (by decide +kernel)⟩
theorem lw_p11 : lw_okq (⟨"EntryTables$Table", "rowOfSought", "()I"⟩, 11) := ⟨⟨by decide +kernel, by decide +kernel⟩, List.mem_of_getElem? (i := 119) (by decide +kernel), List.mem_of_getElem? (i := 551) (by decide +kernel), List.mem_of_getElem? (i := 552) (by decide +kernel)⟩
theorem lw_p12 : lw_okq (⟨"EntryTables", "doAction", "(III)V"⟩, 9) := ⟨⟨by decide +kernel, by decide +kernel⟩, List.mem_of_getElem? (i := 20) (by decide +kernel), List.mem_of_getElem? (i := 577) (by decide +kernel), List.mem_of_getElem? (i := 578) (by decide +kernel)⟩
theorem lw_p13 : lw_okq (⟨"EntryTables", "doOne", "(LEntryTables$Doing;II)V"⟩, 9) := ⟨⟨by decide +kernel, by decide +kernel⟩, List.mem_of_getElem? (i := 20) (by decide +kernel), List.mem_of_getElem? (i := 581) (by decide +kernel), List.mem_of_getElem? (i := 582) (by decide +kernel)⟩
theorem lw_p14 : lw_okq (⟨"EntryTables", "wordNumber", "(I)I"⟩, 9) := ⟨⟨by decide +kernel, by decide +kernel⟩, List.mem_of_getElem? (i := 20) (by decide +kernel), List.mem_of_getElem? (i := 585) (by decide +kernel), List.mem_of_getElem? (i := 586) (by decide +kernel)⟩
theorem lw_p15 : lw_okq (⟨"EntryTablesModel", "hold", "(II)V"⟩, 20) := ⟨⟨by decide +kernel, by decide +kernel⟩, List.mem_of_getElem? (i := 596) (by decide +kernel), List.mem_of_getElem? (i := 682) (by decide +kernel), List.mem_of_getElem? (i := 683) (by decide +kernel)⟩
def lw_privs_1 : List (MethodName × Nat) := [(⟨"EntryTables", "isTable", "(I)Z"⟩, 9), (⟨"EntryTables$Table", "isBetter", "(LEntryTables$Entry;LEntryTables$Entry;)Z"⟩, 11), (⟨"EntryTables$Table", "prefixOnes", "(LEntryTables$Key;)I"⟩, 11), (⟨"java/lang/Throwable", "fillInStackTrace", "(I)Ljava/lang/Throwable;"⟩, 6), (⟨"EntryTables", "isAction", "(I)Z"⟩, 9), (⟨"EntryTables", "areOperands", "(IIII)Z"⟩, 9), (⟨"EntryTables", "areKeyFields", "(II)Z"⟩, 9), (⟨"EntryTables", "areActions", "(II)Z"⟩, 9), (⟨"EntryTables$Table", "seek", "(LEntryTables$Key;)V"⟩, 11), (⟨"EntryTables$Table", "areMasks", "()Z"⟩, 11), (⟨"EntryTables$Table", "isAllowed", "(I)Z"⟩, 11), (⟨"EntryTables$Table", "rowOfSought", "()I"⟩, 11), (⟨"EntryTables", "doAction", "(III)V"⟩, 9), (⟨"EntryTables", "doOne", "(LEntryTables$Doing;II)V"⟩, 9), (⟨"EntryTables", "wordNumber", "(I)I"⟩, 9), (⟨"EntryTablesModel", "hold", "(II)V"⟩, 20)]
theorem lw_r1 : ∀ q ∈ lw_privs_1, lw_okq q := List.forall_mem_cons.mpr ⟨lw_p0, List.forall_mem_cons.mpr ⟨lw_p1, List.forall_mem_cons.mpr ⟨lw_p2, List.forall_mem_cons.mpr ⟨lw_p3, List.forall_mem_cons.mpr ⟨lw_p4, List.forall_mem_cons.mpr ⟨lw_p5, List.forall_mem_cons.mpr ⟨lw_p6, List.forall_mem_cons.mpr ⟨lw_p7, List.forall_mem_cons.mpr ⟨lw_p8, List.forall_mem_cons.mpr ⟨lw_p9, List.forall_mem_cons.mpr ⟨lw_p10, List.forall_mem_cons.mpr ⟨lw_p11, List.forall_mem_cons.mpr ⟨lw_p12, List.forall_mem_cons.mpr ⟨lw_p13, List.forall_mem_cons.mpr ⟨lw_p14, List.forall_mem_cons.mpr ⟨lw_p15, fun _ h => absurd h List.not_mem_nil⟩⟩⟩⟩⟩⟩⟩⟩⟩⟩⟩⟩⟩⟩⟩⟩
theorem lw_p16 : lw_okq (⟨"EntryTablesModel", "ones", "(I)I"⟩, 20) := ⟨⟨by decide +kernel, by decide +kernel⟩, List.mem_of_getElem? (i := 596) (by decide +kernel), List.mem_of_getElem? (i := 686) (by decide +kernel), List.mem_of_getElem? (i := 687) (by decide +kernel)⟩
theorem lw_p17 : lw_okq (⟨"EntryTablesModel", "unknown", "(IIII)Z"⟩, 20) := ⟨⟨by decide +kernel, by decide +kernel⟩, List.mem_of_getElem? (i := 596) (by decide +kernel), List.mem_of_getElem? (i := 702) (by decide +kernel), List.mem_of_getElem? (i := 703) (by decide +kernel)⟩
theorem lw_p18 : lw_okq (⟨"EntryTablesModel", "find", "(I)I"⟩, 20) := ⟨⟨by decide +kernel, by decide +kernel⟩, List.mem_of_getElem? (i := 596) (by decide +kernel), List.mem_of_getElem? (i := 718) (by decide +kernel), List.mem_of_getElem? (i := 719) (by decide +kernel)⟩
theorem lw_p19 : lw_okq (⟨"EntryTablesModel", "cut", "(I)V"⟩, 20) := ⟨⟨by decide +kernel, by decide +kernel⟩, List.mem_of_getElem? (i := 596) (by decide +kernel), List.mem_of_getElem? (i := 722) (by decide +kernel), List.mem_of_getElem? (i := 723) (by decide +kernel)⟩
theorem lw_p20 : lw_okq (⟨"EntryTablesModel", "isMask", "(III)Z"⟩, 20) := ⟨⟨by decide +kernel, by decide +kernel⟩, List.mem_of_getElem? (i := 596) (by decide +kernel), List.mem_of_getElem? (i := 726) (by decide +kernel), List.mem_of_getElem? (i := 727) (by decide +kernel)⟩
theorem lw_p21 : lw_okq (⟨"EntryTablesModel", "match", "(I)I"⟩, 20) := ⟨⟨by decide +kernel, by decide +kernel⟩, List.mem_of_getElem? (i := 596) (by decide +kernel), List.mem_of_getElem? (i := 738) (by decide +kernel), List.mem_of_getElem? (i := 739) (by decide +kernel)⟩
theorem lw_p22 : lw_okq (⟨"EntryTablesModel", "prefix", "(II)I"⟩, 20) := ⟨⟨by decide +kernel, by decide +kernel⟩, List.mem_of_getElem? (i := 596) (by decide +kernel), List.mem_of_getElem? (i := 742) (by decide +kernel), List.mem_of_getElem? (i := 743) (by decide +kernel)⟩
theorem lw_p23 : lw_okq (⟨"EntryTablesModel", "does", "(IIIII)V"⟩, 20) := ⟨⟨by decide +kernel, by decide +kernel⟩, List.mem_of_getElem? (i := 596) (by decide +kernel), List.mem_of_getElem? (i := 749) (by decide +kernel), List.mem_of_getElem? (i := 750) (by decide +kernel)⟩
def lw_privs_2 : List (MethodName × Nat) := [(⟨"EntryTablesModel", "ones", "(I)I"⟩, 20), (⟨"EntryTablesModel", "unknown", "(IIII)Z"⟩, 20), (⟨"EntryTablesModel", "find", "(I)I"⟩, 20), (⟨"EntryTablesModel", "cut", "(I)V"⟩, 20), (⟨"EntryTablesModel", "isMask", "(III)Z"⟩, 20), (⟨"EntryTablesModel", "match", "(I)I"⟩, 20), (⟨"EntryTablesModel", "prefix", "(II)I"⟩, 20), (⟨"EntryTablesModel", "does", "(IIIII)V"⟩, 20)]
theorem lw_r2 : ∀ q ∈ lw_privs_2, lw_okq q := List.forall_mem_cons.mpr ⟨lw_p16, List.forall_mem_cons.mpr ⟨lw_p17, List.forall_mem_cons.mpr ⟨lw_p18, List.forall_mem_cons.mpr ⟨lw_p19, List.forall_mem_cons.mpr ⟨lw_p20, List.forall_mem_cons.mpr ⟨lw_p21, List.forall_mem_cons.mpr ⟨lw_p22, List.forall_mem_cons.mpr ⟨lw_p23, fun _ h => absurd h List.not_mem_nil⟩⟩⟩⟩⟩⟩⟩⟩
def lw_privs : List (MethodName × Nat) := lw_privs_1 ++ (lw_privs_2)
def lw_tbl : List Cond := k2_sels lw_privs ++ tables_1
theorem lw_privs_ok : ∀ q ∈ lw_privs, lw_okq q := by
  show ∀ q ∈ lw_privs_1 ++ (lw_privs_2), lw_okq q
  exact List.forall_mem_append.mpr ⟨lw_r1, lw_r2⟩
end
section
/-! Names, by program (wip/gen/names.py) out of the Statement: classes and their fields, methods, the words of the tables. -/
def R_A : String := "EntryTables$Action"
def T_A : u_T := fun k => match k with
  | 0 => ("EntryTables$Action", "doings", "[LEntryTables$Doing;", true)
  | _ => ("EntryTables$Action", "count", "I", false)
def ft_A : Nat → FieldType := fun k => match k with
  | 0 => .array (.object "EntryTables$Doing")
  | _ => .int
theorem nm_A : ∀ a, a < 2 → ∀ b, b < 2 → a ≠ b → (T_A a).2.1 ≠ (T_A b).2.1 := by decide +kernel
theorem to_A : ∀ k, k < 2 → parseFieldDescriptor (T_A k).2.2.1 = some (ft_A k) := by decide +kernel
def R_C : String := "EntryTables$Counts"
def T_C : u_T := fun k => match k with
  | _ => ("EntryTables$Counts", "words", "[I", true)
def ft_C : Nat → FieldType := fun k => match k with
  | _ => .array .int
theorem nm_C : ∀ a, a < 1 → ∀ b, b < 1 → a ≠ b → (T_C a).2.1 ≠ (T_C b).2.1 := by decide +kernel
theorem to_C : ∀ k, k < 1 → parseFieldDescriptor (T_C k).2.2.1 = some (ft_C k) := by decide +kernel
def R_D : String := "EntryTables$Doing"
def T_D : u_T := fun k => match k with
  | 0 => ("EntryTables$Doing", "kind", "I", false)
  | 1 => ("EntryTables$Doing", "x", "I", false)
  | 2 => ("EntryTables$Doing", "y", "I", false)
  | _ => ("EntryTables$Doing", "z", "I", false)
def ft_D : Nat → FieldType := fun k => match k with
  | 0 => .int
  | 1 => .int
  | 2 => .int
  | _ => .int
theorem nm_D : ∀ a, a < 4 → ∀ b, b < 4 → a ≠ b → (T_D a).2.1 ≠ (T_D b).2.1 := by decide +kernel
theorem to_D : ∀ k, k < 4 → parseFieldDescriptor (T_D k).2.2.1 = some (ft_D k) := by decide +kernel
def R_E : String := "EntryTables$Entry"
def T_E : u_T := fun k => match k with
  | 0 => ("EntryTables$Entry", "key", "LEntryTables$Key;", true)
  | 1 => ("EntryTables$Entry", "priority", "I", false)
  | 2 => ("EntryTables$Entry", "action", "I", false)
  | 3 => ("EntryTables$Entry", "first", "I", false)
  | _ => ("EntryTables$Entry", "second", "I", false)
def ft_E : Nat → FieldType := fun k => match k with
  | 0 => .object "EntryTables$Key"
  | 1 => .int
  | 2 => .int
  | 3 => .int
  | _ => .int
theorem nm_E : ∀ a, a < 5 → ∀ b, b < 5 → a ≠ b → (T_E a).2.1 ≠ (T_E b).2.1 := by decide +kernel
theorem to_E : ∀ k, k < 5 → parseFieldDescriptor (T_E k).2.2.1 = some (ft_E k) := by decide +kernel
def R_F : String := "EntryTables$Fields"
def T_F : u_T := fun k => match k with
  | 0 => ("EntryTables$Fields", "ones", "[I", true)
  | 1 => ("EntryTables$Fields", "words", "[I", true)
  | _ => ("EntryTables$Fields", "count", "I", false)
def ft_F : Nat → FieldType := fun k => match k with
  | 0 => .array .int
  | 1 => .array .int
  | _ => .int
theorem nm_F : ∀ a, a < 3 → ∀ b, b < 3 → a ≠ b → (T_F a).2.1 ≠ (T_F b).2.1 := by decide +kernel
theorem to_F : ∀ k, k < 3 → parseFieldDescriptor (T_F k).2.2.1 = some (ft_F k) := by decide +kernel
def R_K : String := "EntryTables$Key"
def T_K : u_T := fun k => match k with
  | 0 => ("EntryTables$Key", "a", "I", false)
  | 1 => ("EntryTables$Key", "maskA", "I", false)
  | 2 => ("EntryTables$Key", "b", "I", false)
  | _ => ("EntryTables$Key", "maskB", "I", false)
def ft_K : Nat → FieldType := fun k => match k with
  | 0 => .int
  | 1 => .int
  | 2 => .int
  | _ => .int
theorem nm_K : ∀ a, a < 4 → ∀ b, b < 4 → a ≠ b → (T_K a).2.1 ≠ (T_K b).2.1 := by decide +kernel
theorem to_K : ∀ k, k < 4 → parseFieldDescriptor (T_K k).2.2.1 = some (ft_K k) := by decide +kernel
def R_T : String := "EntryTables$Table"
def T_T : u_T := fun k => match k with
  | 0 => ("EntryTables$Table", "rows", "[LEntryTables$Entry;", true)
  | 1 => ("EntryTables$Table", "count", "I", false)
  | 2 => ("EntryTables$Table", "f", "I", false)
  | 3 => ("EntryTables$Table", "g", "I", false)
  | 4 => ("EntryTables$Table", "howF", "I", false)
  | 5 => ("EntryTables$Table", "howG", "I", false)
  | 6 => ("EntryTables$Table", "onesF", "I", false)
  | 7 => ("EntryTables$Table", "onesG", "I", false)
  | 8 => ("EntryTables$Table", "allowed", "I", false)
  | 9 => ("EntryTables$Table", "miss", "I", false)
  | _ => ("EntryTables$Table", "sought", "LEntryTables$Key;", true)
def ft_T : Nat → FieldType := fun k => match k with
  | 0 => .array (.object "EntryTables$Entry")
  | 1 => .int
  | 2 => .int
  | 3 => .int
  | 4 => .int
  | 5 => .int
  | 6 => .int
  | 7 => .int
  | 8 => .int
  | 9 => .int
  | _ => .object "EntryTables$Key"
theorem nm_T : ∀ a, a < 11 → ∀ b, b < 11 → a ≠ b → (T_T a).2.1 ≠ (T_T b).2.1 := by decide +kernel
theorem to_T : ∀ k, k < 11 → parseFieldDescriptor (T_T k).2.2.1 = some (ft_T k) := by decide +kernel
def R_X : String := "EntryTables"
def T_X : u_T := fun k => match k with
  | 0 => ("EntryTables", "fields", "LEntryTables$Fields;", true)
  | 1 => ("EntryTables", "counts", "LEntryTables$Counts;", true)
  | 2 => ("EntryTables", "actionRows", "[LEntryTables$Action;", true)
  | 3 => ("EntryTables", "actionCount", "I", false)
  | 4 => ("EntryTables", "tableRows", "[LEntryTables$Table;", true)
  | 5 => ("EntryTables", "tableCount", "I", false)
  | 6 => ("EntryTables", "latestKey", "LEntryTables$Key;", true)
  | 7 => ("EntryTables", "latestPort", "I", false)
  | _ => ("EntryTables", "latestDrop", "Z", false)
def ft_X : Nat → FieldType := fun k => match k with
  | 0 => .object "EntryTables$Fields"
  | 1 => .object "EntryTables$Counts"
  | 2 => .array (.object "EntryTables$Action")
  | 3 => .int
  | 4 => .array (.object "EntryTables$Table")
  | 5 => .int
  | 6 => .object "EntryTables$Key"
  | 7 => .int
  | _ => .boolean
theorem nm_X : ∀ a, a < 9 → ∀ b, b < 9 → a ≠ b → (T_X a).2.1 ≠ (T_X b).2.1 := by decide +kernel
theorem to_X : ∀ k, k < 9 → parseFieldDescriptor (T_X k).2.2.1 = some (ft_X k) := by decide +kernel
def R_M : String := "EntryTablesModel"
def T_M : u_T := fun k => match k with
  | 0 => ("EntryTablesModel", "thrownCode", "I", false)
  | 1 => ("EntryTablesModel", "fields", "I", false)
  | 2 => ("EntryTablesModel", "width", "[I", true)
  | 3 => ("EntryTablesModel", "held", "[I", true)
  | 4 => ("EntryTablesModel", "actions", "I", false)
  | 5 => ("EntryTablesModel", "doings", "[I", true)
  | 6 => ("EntryTablesModel", "doing", "[I", true)
  | 7 => ("EntryTablesModel", "array", "[I", true)
  | 8 => ("EntryTablesModel", "tables", "I", false)
  | 9 => ("EntryTablesModel", "one", "[I", true)
  | 10 => ("EntryTablesModel", "two", "[I", true)
  | 11 => ("EntryTablesModel", "how", "[I", true)
  | 12 => ("EntryTablesModel", "may", "[I", true)
  | 13 => ("EntryTablesModel", "miss", "[I", true)
  | 14 => ("EntryTablesModel", "count", "[I", true)
  | 15 => ("EntryTablesModel", "entry", "[I", true)
  | 16 => ("EntryTablesModel", "key", "[I", true)
  | 17 => ("EntryTablesModel", "now", "[I", true)
  | 18 => ("EntryTablesModel", "port", "I", false)
  | _ => ("EntryTablesModel", "dropped", "Z", false)
def ft_M : Nat → FieldType := fun k => match k with
  | 0 => .int
  | 1 => .int
  | 2 => .array .int
  | 3 => .array .int
  | 4 => .int
  | 5 => .array .int
  | 6 => .array .int
  | 7 => .array .int
  | 8 => .int
  | 9 => .array .int
  | 10 => .array .int
  | 11 => .array .int
  | 12 => .array .int
  | 13 => .array .int
  | 14 => .array .int
  | 15 => .array .int
  | 16 => .array .int
  | 17 => .array .int
  | 18 => .int
  | _ => .boolean
theorem nm_M : ∀ a, a < 20 → ∀ b, b < 20 → a ≠ b → (T_M a).2.1 ≠ (T_M b).2.1 := by decide +kernel
theorem to_M : ∀ k, k < 20 → parseFieldDescriptor (T_M k).2.2.1 = some (ft_M k) := by decide +kernel
/-- the classes whose objects the world holds: an object names its class by its place here -/
abbrev CL : List vw_C := [(R_A, T_A, 2), (R_C, T_C, 1), (R_D, T_D, 4), (R_E, T_E, 5), (R_F, T_F, 3), (R_K, T_K, 4), (R_T, T_T, 11), (R_X, T_X, 9), (R_M, T_M, 20)]
abbrev y_X_init : MethodName := ⟨"EntryTables", "<init>", "()V"⟩
abbrev y_JO_init : MethodName := ⟨"java/lang/Object", "<init>", "()V"⟩
abbrev y_F_init : MethodName := ⟨"EntryTables$Fields", "<init>", "()V"⟩
abbrev y_C_init : MethodName := ⟨"EntryTables$Counts", "<init>", "()V"⟩
abbrev y_K_init : MethodName := ⟨"EntryTables$Key", "<init>", "()V"⟩
abbrev y_A_init : MethodName := ⟨"EntryTables$Action", "<init>", "()V"⟩
abbrev y_D_init : MethodName := ⟨"EntryTables$Doing", "<init>", "()V"⟩
abbrev y_T_init : MethodName := ⟨"EntryTables$Table", "<init>", "()V"⟩
abbrev y_E_init : MethodName := ⟨"EntryTables$Entry", "<init>", "()V"⟩
abbrev y_X_clear : MethodName := ⟨"EntryTables", "clear", "()V"⟩
abbrev y_F_forget : MethodName := ⟨"EntryTables$Fields", "forget", "()V"⟩
abbrev y_C_forget : MethodName := ⟨"EntryTables$Counts", "forget", "()V"⟩
abbrev y_JA_fill : MethodName := ⟨"java/util/Arrays", "fill", "([II)V"⟩
abbrev y_K_hold : MethodName := ⟨"EntryTables$Key", "hold", "(IIII)V"⟩
abbrev y_X_get : MethodName := ⟨"EntryTables", "get", "(I)I"⟩
abbrev y_F_read : MethodName := ⟨"EntryTables$Fields", "read", "(I)I"⟩
abbrev y_F_isThere : MethodName := ⟨"EntryTables$Fields", "isThere", "(I)Z"⟩
abbrev y_X_key : MethodName := ⟨"EntryTables", "key", "(IIII)V"⟩
abbrev y_X_matches : MethodName := ⟨"EntryTables", "matches", "(I)I"⟩
abbrev y_X_isTable : MethodName := ⟨"EntryTables", "isTable", "(I)Z"⟩
abbrev y_T_bestMatch : MethodName := ⟨"EntryTables$Table", "bestMatch", "(LEntryTables$Fields;)LEntryTables$Entry;"⟩
abbrev y_K_fits : MethodName := ⟨"EntryTables$Key", "fits", "(II)Z"⟩
abbrev y_T_isBetter : MethodName := ⟨"EntryTables$Table", "isBetter", "(LEntryTables$Entry;LEntryTables$Entry;)Z"⟩
abbrev y_T_prefixOnes : MethodName := ⟨"EntryTables$Table", "prefixOnes", "(LEntryTables$Key;)I"⟩
abbrev y_JI_bitCount : MethodName := ⟨"java/lang/Integer", "bitCount", "(I)I"⟩
abbrev y_X_port : MethodName := ⟨"EntryTables", "port", "()I"⟩
abbrev y_X_isDropped : MethodName := ⟨"EntryTables", "isDropped", "()Z"⟩
abbrev y_X_word : MethodName := ⟨"EntryTables", "word", "(II)I"⟩
abbrev y_C_read : MethodName := ⟨"EntryTables$Counts", "read", "(II)I"⟩
abbrev y_C_isWord : MethodName := ⟨"EntryTables$Counts", "isWord", "(II)Z"⟩
abbrev y_X_isArray : MethodName := ⟨"EntryTables", "isArray", "(I)Z"⟩
abbrev y_X_entries : MethodName := ⟨"EntryTables", "entries", "(I)I"⟩
abbrev y_L_field : MethodName := ⟨"EntryTablesLaw", "field", "(LEntryTables;I[J)I"⟩
abbrev y_X_field : MethodName := ⟨"EntryTables", "field", "(I)I"⟩
abbrev y_JR_init : MethodName := ⟨"java/lang/RuntimeException", "<init>", "()V"⟩
abbrev y_JR_init2 : MethodName := ⟨"java/lang/RuntimeException", "<init>", "(Ljava/lang/String;)V"⟩
abbrev y_JE_init : MethodName := ⟨"java/lang/Exception", "<init>", "()V"⟩
abbrev y_JE_init2 : MethodName := ⟨"java/lang/Exception", "<init>", "(Ljava/lang/String;)V"⟩
abbrev y_JT_init : MethodName := ⟨"java/lang/Throwable", "<init>", "()V"⟩
abbrev y_JT_init2 : MethodName := ⟨"java/lang/Throwable", "<init>", "(Ljava/lang/String;)V"⟩
abbrev y_JT_fillInStackTrace : MethodName := ⟨"java/lang/Throwable", "fillInStackTrace", "(I)Ljava/lang/Throwable;"⟩
abbrev y_JT_fillInStackTrace2 : MethodName := ⟨"java/lang/Throwable", "fillInStackTrace", "()Ljava/lang/Throwable;"⟩
abbrev y_JIA_init : MethodName := ⟨"java/lang/IllegalArgumentException", "<init>", "(Ljava/lang/String;)V"⟩
abbrev y_F_isFull : MethodName := ⟨"EntryTables$Fields", "isFull", "()Z"⟩
abbrev y_JIS_init : MethodName := ⟨"java/lang/IllegalStateException", "<init>", "(Ljava/lang/String;)V"⟩
abbrev y_F_add : MethodName := ⟨"EntryTables$Fields", "add", "(I)I"⟩
abbrev y_L_set : MethodName := ⟨"EntryTablesLaw", "set", "(LEntryTables;II)I"⟩
abbrev y_X_set : MethodName := ⟨"EntryTables", "set", "(II)V"⟩
abbrev y_JIO_init : MethodName := ⟨"java/lang/IndexOutOfBoundsException", "<init>", "(Ljava/lang/String;)V"⟩
abbrev y_F_write : MethodName := ⟨"EntryTables$Fields", "write", "(II)V"⟩
abbrev y_L_action : MethodName := ⟨"EntryTablesLaw", "action", "(LEntryTables;[J)I"⟩
abbrev y_X_action : MethodName := ⟨"EntryTables", "action", "()I"⟩
abbrev y_A_forget : MethodName := ⟨"EntryTables$Action", "forget", "()V"⟩
abbrev y_L_doing : MethodName := ⟨"EntryTablesLaw", "doing", "(LEntryTables;IIIII)I"⟩
abbrev y_X_doing : MethodName := ⟨"EntryTables", "doing", "(IIIII)V"⟩
abbrev y_X_isAction : MethodName := ⟨"EntryTables", "isAction", "(I)Z"⟩
abbrev y_X_areOperands : MethodName := ⟨"EntryTables", "areOperands", "(IIII)Z"⟩
abbrev y_X_isDatum : MethodName := ⟨"EntryTables", "isDatum", "(I)Z"⟩
abbrev y_A_isFull : MethodName := ⟨"EntryTables$Action", "isFull", "()Z"⟩
abbrev y_A_add : MethodName := ⟨"EntryTables$Action", "add", "(IIII)V"⟩
abbrev y_L_table : MethodName := ⟨"EntryTablesLaw", "table", "(LEntryTables;IIIII[J)I"⟩
abbrev y_X_table : MethodName := ⟨"EntryTables", "table", "(IIIII)I"⟩
abbrev y_X_areKeyFields : MethodName := ⟨"EntryTables", "areKeyFields", "(II)Z"⟩
abbrev y_X_areActions : MethodName := ⟨"EntryTables", "areActions", "(II)Z"⟩
abbrev y_X_isHow : MethodName := ⟨"EntryTables", "isHow", "(II)Z"⟩
abbrev y_T_matchKeys : MethodName := ⟨"EntryTables$Table", "matchKeys", "(IIII)V"⟩
abbrev y_F_onesOf : MethodName := ⟨"EntryTables$Fields", "onesOf", "(I)I"⟩
abbrev y_T_cutKeysTo : MethodName := ⟨"EntryTables$Table", "cutKeysTo", "(II)V"⟩
abbrev y_T_allowActions : MethodName := ⟨"EntryTables$Table", "allowActions", "(II)V"⟩
abbrev y_L_insert : MethodName := ⟨"EntryTablesLaw", "insert", "(LEntryTables;IIIII[J)I"⟩
abbrev y_X_insert : MethodName := ⟨"EntryTables", "insert", "(IIIII)Z"⟩
abbrev y_T_takeIn : MethodName := ⟨"EntryTables$Table", "takeIn", "(LEntryTables$Key;IIII)Z"⟩
abbrev y_T_seek : MethodName := ⟨"EntryTables$Table", "seek", "(LEntryTables$Key;)V"⟩
abbrev y_T_areMasks : MethodName := ⟨"EntryTables$Table", "areMasks", "()Z"⟩
abbrev y_T_isMask : MethodName := ⟨"EntryTables$Table", "isMask", "(III)Z"⟩
abbrev y_T_isAllowed : MethodName := ⟨"EntryTables$Table", "isAllowed", "(I)Z"⟩
abbrev y_T_rowOfSought : MethodName := ⟨"EntryTables$Table", "rowOfSought", "()I"⟩
abbrev y_K_isSameAs : MethodName := ⟨"EntryTables$Key", "isSameAs", "(LEntryTables$Key;)Z"⟩
abbrev y_L_remove : MethodName := ⟨"EntryTablesLaw", "remove", "(LEntryTables;I[J)I"⟩
abbrev y_X_remove : MethodName := ⟨"EntryTables", "remove", "(I)Z"⟩
abbrev y_T_takeOut : MethodName := ⟨"EntryTables$Table", "takeOut", "(LEntryTables$Key;)Z"⟩
abbrev y_L_act : MethodName := ⟨"EntryTablesLaw", "act", "(LEntryTables;I[J)I"⟩
abbrev y_X_act : MethodName := ⟨"EntryTables", "act", "(I)Z"⟩
abbrev y_X_doAction : MethodName := ⟨"EntryTables", "doAction", "(III)V"⟩
abbrev y_X_doOne : MethodName := ⟨"EntryTables", "doOne", "(LEntryTables$Doing;II)V"⟩
abbrev y_X_wordNumber : MethodName := ⟨"EntryTables", "wordNumber", "(I)I"⟩
abbrev y_JM_floorMod : MethodName := ⟨"java/lang/Math", "floorMod", "(II)I"⟩
abbrev y_C_grow : MethodName := ⟨"EntryTables$Counts", "grow", "(III)V"⟩
abbrev y_M_init : MethodName := ⟨"EntryTablesModel", "<init>", "()V"⟩
abbrev y_M_thrown : MethodName := ⟨"EntryTablesModel", "thrown", "()I"⟩
abbrev y_M_clear : MethodName := ⟨"EntryTablesModel", "clear", "()V"⟩
abbrev y_M_field : MethodName := ⟨"EntryTablesModel", "field", "(I)I"⟩
abbrev y_M_set : MethodName := ⟨"EntryTablesModel", "set", "(II)V"⟩
abbrev y_M_not : MethodName := ⟨"EntryTablesModel", "not", "(II)Z"⟩
abbrev y_M_hold : MethodName := ⟨"EntryTablesModel", "hold", "(II)V"⟩
abbrev y_M_ones : MethodName := ⟨"EntryTablesModel", "ones", "(I)I"⟩
abbrev y_M_get : MethodName := ⟨"EntryTablesModel", "get", "(I)I"⟩
abbrev y_M_action : MethodName := ⟨"EntryTablesModel", "action", "()I"⟩
abbrev y_M_doing : MethodName := ⟨"EntryTablesModel", "doing", "(IIIII)V"⟩
abbrev y_M_unknown : MethodName := ⟨"EntryTablesModel", "unknown", "(IIII)Z"⟩
abbrev y_M_table : MethodName := ⟨"EntryTablesModel", "table", "(IIIII)I"⟩
abbrev y_M_key : MethodName := ⟨"EntryTablesModel", "key", "(IIII)V"⟩
abbrev y_M_insert : MethodName := ⟨"EntryTablesModel", "insert", "(IIIII)Z"⟩
abbrev y_M_find : MethodName := ⟨"EntryTablesModel", "find", "(I)I"⟩
abbrev y_M_cut : MethodName := ⟨"EntryTablesModel", "cut", "(I)V"⟩
abbrev y_M_isMask : MethodName := ⟨"EntryTablesModel", "isMask", "(III)Z"⟩
abbrev y_M_remove : MethodName := ⟨"EntryTablesModel", "remove", "(I)Z"⟩
abbrev y_M_act : MethodName := ⟨"EntryTablesModel", "act", "(I)Z"⟩
abbrev y_M_match : MethodName := ⟨"EntryTablesModel", "match", "(I)I"⟩
abbrev y_M_prefix : MethodName := ⟨"EntryTablesModel", "prefix", "(II)I"⟩
abbrev y_M_bits : MethodName := ⟨"EntryTablesModel", "bits", "(I)I"⟩
abbrev y_M_does : MethodName := ⟨"EntryTablesModel", "does", "(IIIII)V"⟩
abbrev y_M_matches : MethodName := ⟨"EntryTablesModel", "matches", "(I)I"⟩
abbrev y_M_port : MethodName := ⟨"EntryTablesModel", "port", "()I"⟩
abbrev y_M_isDropped : MethodName := ⟨"EntryTablesModel", "isDropped", "()Z"⟩
abbrev y_M_word : MethodName := ⟨"EntryTablesModel", "word", "(II)I"⟩
abbrev y_M_entries : MethodName := ⟨"EntryTablesModel", "entries", "(I)I"⟩
abbrev y_L_law : MethodName := ⟨"EntryTablesLaw", "law", "([I)Z"⟩
abbrev b_X_init : ByteArray := prog_1_method_1_code
abbrev b_JO_init : ByteArray := object_method_1_code
abbrev b_F_init : ByteArray := prog_6_method_1_code
abbrev b_C_init : ByteArray := prog_3_method_1_code
abbrev b_K_init : ByteArray := prog_7_method_1_code
abbrev b_A_init : ByteArray := prog_2_method_1_code
abbrev b_D_init : ByteArray := prog_4_method_1_code
abbrev b_T_init : ByteArray := prog_8_method_1_code
abbrev b_E_init : ByteArray := prog_5_method_1_code
abbrev b_X_clear : ByteArray := prog_1_method_2_code
abbrev b_F_forget : ByteArray := prog_6_method_2_code
abbrev b_C_forget : ByteArray := prog_3_method_2_code
abbrev b_JA_fill : ByteArray := prog_20_method_103_code
abbrev b_K_hold : ByteArray := prog_7_method_2_code
abbrev b_X_get : ByteArray := prog_1_method_5_code
abbrev b_F_read : ByteArray := prog_6_method_7_code
abbrev b_F_isThere : ByteArray := prog_6_method_4_code
abbrev b_X_key : ByteArray := prog_1_method_9_code
abbrev b_X_matches : ByteArray := prog_1_method_13_code
abbrev b_X_isTable : ByteArray := prog_1_method_19_code
abbrev b_T_bestMatch : ByteArray := prog_8_method_7_code
abbrev b_K_fits : ByteArray := prog_7_method_4_code
abbrev b_T_isBetter : ByteArray := prog_8_method_8_code
abbrev b_T_prefixOnes : ByteArray := prog_8_method_9_code
abbrev b_JI_bitCount : ByteArray := prog_15_method_49_code
abbrev b_X_port : ByteArray := prog_1_method_14_code
abbrev b_X_isDropped : ByteArray := prog_1_method_15_code
abbrev b_X_word : ByteArray := prog_1_method_16_code
abbrev b_C_read : ByteArray := prog_3_method_4_code
abbrev b_C_isWord : ByteArray := prog_3_method_3_code
abbrev b_X_isArray : ByteArray := prog_1_method_20_code
abbrev b_X_entries : ByteArray := prog_1_method_17_code
abbrev b_L_field : ByteArray := method_3_code
abbrev b_X_field : ByteArray := prog_1_method_3_code
abbrev b_JT_init : ByteArray := prog_19_method_1_code
abbrev b_JT_fillInStackTrace2 : ByteArray := prog_19_method_18_code
abbrev b_JIA_init : ByteArray := prog_12_method_2_code
abbrev b_JR_init2 : ByteArray := prog_17_method_2_code
abbrev b_JE_init2 : ByteArray := prog_11_method_2_code
abbrev b_JT_init2 : ByteArray := prog_19_method_2_code
abbrev b_F_isFull : ByteArray := prog_6_method_3_code
abbrev b_JIS_init : ByteArray := prog_13_method_2_code
abbrev b_F_add : ByteArray := prog_6_method_5_code
abbrev b_L_set : ByteArray := method_4_code
abbrev b_X_set : ByteArray := prog_1_method_4_code
abbrev b_JIO_init : ByteArray := prog_14_method_2_code
abbrev b_F_write : ByteArray := prog_6_method_8_code
abbrev b_L_action : ByteArray := method_5_code
abbrev b_X_action : ByteArray := prog_1_method_6_code
abbrev b_A_forget : ByteArray := prog_2_method_2_code
abbrev b_L_doing : ByteArray := method_6_code
abbrev b_X_doing : ByteArray := prog_1_method_7_code
abbrev b_X_isAction : ByteArray := prog_1_method_18_code
abbrev b_X_areOperands : ByteArray := prog_1_method_22_code
abbrev b_X_isDatum : ByteArray := prog_1_method_21_code
abbrev b_A_isFull : ByteArray := prog_2_method_3_code
abbrev b_A_add : ByteArray := prog_2_method_4_code
abbrev b_L_table : ByteArray := method_7_code
abbrev b_X_table : ByteArray := prog_1_method_8_code
abbrev b_X_areKeyFields : ByteArray := prog_1_method_23_code
abbrev b_X_areActions : ByteArray := prog_1_method_24_code
abbrev b_X_isHow : ByteArray := prog_1_method_25_code
abbrev b_T_matchKeys : ByteArray := prog_8_method_2_code
abbrev b_F_onesOf : ByteArray := prog_6_method_6_code
abbrev b_T_cutKeysTo : ByteArray := prog_8_method_3_code
abbrev b_T_allowActions : ByteArray := prog_8_method_4_code
abbrev b_L_insert : ByteArray := method_8_code
abbrev b_X_insert : ByteArray := prog_1_method_10_code
abbrev b_T_takeIn : ByteArray := prog_8_method_5_code
abbrev b_T_seek : ByteArray := prog_8_method_10_code
abbrev b_T_areMasks : ByteArray := prog_8_method_12_code
abbrev b_T_isMask : ByteArray := prog_8_method_13_code
abbrev b_T_isAllowed : ByteArray := prog_8_method_14_code
abbrev b_T_rowOfSought : ByteArray := prog_8_method_11_code
abbrev b_K_isSameAs : ByteArray := prog_7_method_3_code
abbrev b_L_remove : ByteArray := method_9_code
abbrev b_X_remove : ByteArray := prog_1_method_11_code
abbrev b_T_takeOut : ByteArray := prog_8_method_6_code
abbrev b_L_act : ByteArray := method_10_code
abbrev b_X_act : ByteArray := prog_1_method_12_code
abbrev b_X_doAction : ByteArray := prog_1_method_26_code
abbrev b_X_doOne : ByteArray := prog_1_method_27_code
abbrev b_X_wordNumber : ByteArray := prog_1_method_28_code
abbrev b_JM_floorMod : ByteArray := prog_16_method_50_code
abbrev b_C_grow : ByteArray := prog_3_method_5_code
abbrev b_M_init : ByteArray := prog_10_method_1_code
abbrev b_M_thrown : ByteArray := prog_10_method_13_code
abbrev b_M_clear : ByteArray := prog_10_method_14_code
abbrev b_M_field : ByteArray := prog_10_method_15_code
abbrev b_M_set : ByteArray := prog_10_method_16_code
abbrev b_M_not : ByteArray := prog_10_method_3_code
abbrev b_M_hold : ByteArray := prog_10_method_10_code
abbrev b_M_ones : ByteArray := prog_10_method_2_code
abbrev b_M_get : ByteArray := prog_10_method_17_code
abbrev b_M_action : ByteArray := prog_10_method_18_code
abbrev b_M_doing : ByteArray := prog_10_method_19_code
abbrev b_M_unknown : ByteArray := prog_10_method_12_code
abbrev b_M_table : ByteArray := prog_10_method_20_code
abbrev b_M_key : ByteArray := prog_10_method_21_code
abbrev b_M_insert : ByteArray := prog_10_method_22_code
abbrev b_M_find : ByteArray := prog_10_method_7_code
abbrev b_M_cut : ByteArray := prog_10_method_6_code
abbrev b_M_isMask : ByteArray := prog_10_method_5_code
abbrev b_M_remove : ByteArray := prog_10_method_23_code
abbrev b_M_act : ByteArray := prog_10_method_24_code
abbrev b_M_match : ByteArray := prog_10_method_9_code
abbrev b_M_prefix : ByteArray := prog_10_method_8_code
abbrev b_M_bits : ByteArray := prog_10_method_4_code
abbrev b_M_does : ByteArray := prog_10_method_11_code
abbrev b_M_matches : ByteArray := prog_10_method_25_code
abbrev b_M_port : ByteArray := prog_10_method_26_code
abbrev b_M_isDropped : ByteArray := prog_10_method_27_code
abbrev b_M_word : ByteArray := prog_10_method_28_code
abbrev b_M_entries : ByteArray := prog_10_method_29_code
abbrev b_L_law : ByteArray := code
def TG_0 : List Cond := [Cond.laysFinal "EntryTables$Fields" "EntryTables$Fields" "ones" "[I", Cond.laysFinal "EntryTables$Fields" "EntryTables$Fields" "words" "[I", Cond.lays "EntryTables$Fields" "EntryTables$Fields" "count" "I", Cond.laysFinal "EntryTables$Counts" "EntryTables$Counts" "words" "[I", Cond.lays "EntryTables$Key" "EntryTables$Key" "a" "I", Cond.lays "EntryTables$Key" "EntryTables$Key" "maskA" "I", Cond.lays "EntryTables$Key" "EntryTables$Key" "b" "I", Cond.lays "EntryTables$Key" "EntryTables$Key" "maskB" "I", Cond.lays "EntryTables$Doing" "EntryTables$Doing" "kind" "I", Cond.lays "EntryTables$Doing" "EntryTables$Doing" "x" "I", Cond.lays "EntryTables$Doing" "EntryTables$Doing" "y" "I", Cond.lays "EntryTables$Doing" "EntryTables$Doing" "z" "I", Cond.laysFinal "EntryTables$Action" "EntryTables$Action" "doings" "[LEntryTables$Doing;", Cond.lays "EntryTables$Action" "EntryTables$Action" "count" "I", Cond.laysFinal "EntryTables$Entry" "EntryTables$Entry" "key" "LEntryTables$Key;", Cond.lays "EntryTables$Entry" "EntryTables$Entry" "priority" "I", Cond.lays "EntryTables$Entry" "EntryTables$Entry" "action" "I", Cond.lays "EntryTables$Entry" "EntryTables$Entry" "first" "I", Cond.lays "EntryTables$Entry" "EntryTables$Entry" "second" "I", Cond.laysFinal "EntryTables$Table" "EntryTables$Table" "rows" "[LEntryTables$Entry;", Cond.lays "EntryTables$Table" "EntryTables$Table" "count" "I", Cond.lays "EntryTables$Table" "EntryTables$Table" "f" "I", Cond.lays "EntryTables$Table" "EntryTables$Table" "g" "I", Cond.lays "EntryTables$Table" "EntryTables$Table" "howF" "I", Cond.lays "EntryTables$Table" "EntryTables$Table" "howG" "I", Cond.lays "EntryTables$Table" "EntryTables$Table" "onesF" "I", Cond.lays "EntryTables$Table" "EntryTables$Table" "onesG" "I", Cond.lays "EntryTables$Table" "EntryTables$Table" "allowed" "I", Cond.lays "EntryTables$Table" "EntryTables$Table" "miss" "I", Cond.laysFinal "EntryTables$Table" "EntryTables$Table" "sought" "LEntryTables$Key;", Cond.laysFinal "EntryTables" "EntryTables" "fields" "LEntryTables$Fields;", Cond.laysFinal "EntryTables" "EntryTables" "counts" "LEntryTables$Counts;", Cond.laysFinal "EntryTables" "EntryTables" "actionRows" "[LEntryTables$Action;", Cond.lays "EntryTables" "EntryTables" "actionCount" "I", Cond.laysFinal "EntryTables" "EntryTables" "tableRows" "[LEntryTables$Table;", Cond.lays "EntryTables" "EntryTables" "tableCount" "I", Cond.laysFinal "EntryTables" "EntryTables" "latestKey" "LEntryTables$Key;", Cond.lays "EntryTables" "EntryTables" "latestPort" "I", Cond.lays "EntryTables" "EntryTables" "latestDrop" "Z", Cond.lays "EntryTablesModel" "EntryTablesModel" "thrownCode" "I", Cond.lays "EntryTablesModel" "EntryTablesModel" "fields" "I", Cond.laysFinal "EntryTablesModel" "EntryTablesModel" "width" "[I", Cond.laysFinal "EntryTablesModel" "EntryTablesModel" "held" "[I", Cond.lays "EntryTablesModel" "EntryTablesModel" "actions" "I", Cond.laysFinal "EntryTablesModel" "EntryTablesModel" "doings" "[I", Cond.laysFinal "EntryTablesModel" "EntryTablesModel" "doing" "[I", Cond.laysFinal "EntryTablesModel" "EntryTablesModel" "array" "[I", Cond.lays "EntryTablesModel" "EntryTablesModel" "tables" "I", Cond.laysFinal "EntryTablesModel" "EntryTablesModel" "one" "[I", Cond.laysFinal "EntryTablesModel" "EntryTablesModel" "two" "[I", Cond.laysFinal "EntryTablesModel" "EntryTablesModel" "how" "[I", Cond.laysFinal "EntryTablesModel" "EntryTablesModel" "may" "[I", Cond.laysFinal "EntryTablesModel" "EntryTablesModel" "miss" "[I", Cond.laysFinal "EntryTablesModel" "EntryTablesModel" "count" "[I", Cond.laysFinal "EntryTablesModel" "EntryTablesModel" "entry" "[I", Cond.laysFinal "EntryTablesModel" "EntryTablesModel" "key" "[I", Cond.laysFinal "EntryTablesModel" "EntryTablesModel" "now" "[I", Cond.lays "EntryTablesModel" "EntryTablesModel" "port" "I", Cond.lays "EntryTablesModel" "EntryTablesModel" "dropped" "Z", Cond.selects "EntryTables" y_X_isTable y_X_isTable]
def TG_1 : List Cond := [Cond.selects "EntryTables$Table" y_T_isBetter y_T_isBetter, Cond.selects "EntryTables$Table" y_T_prefixOnes y_T_prefixOnes, Cond.selects "java/lang/Throwable" y_JT_fillInStackTrace y_JT_fillInStackTrace, Cond.selects "EntryTables" y_X_isAction y_X_isAction, Cond.selects "EntryTables" y_X_areOperands y_X_areOperands, Cond.selects "EntryTables" y_X_areKeyFields y_X_areKeyFields, Cond.selects "EntryTables" y_X_areActions y_X_areActions, Cond.selects "EntryTables$Table" y_T_seek y_T_seek, Cond.selects "EntryTables$Table" y_T_areMasks y_T_areMasks, Cond.selects "EntryTables$Table" y_T_isAllowed y_T_isAllowed, Cond.selects "EntryTables$Table" y_T_rowOfSought y_T_rowOfSought, Cond.selects "EntryTables" y_X_doAction y_X_doAction, Cond.selects "EntryTables" y_X_doOne y_X_doOne, Cond.selects "EntryTables" y_X_wordNumber y_X_wordNumber, Cond.selects "EntryTablesModel" y_M_hold y_M_hold, Cond.selects "EntryTablesModel" y_M_ones y_M_ones, Cond.selects "EntryTablesModel" y_M_unknown y_M_unknown, Cond.selects "EntryTablesModel" y_M_find y_M_find, Cond.selects "EntryTablesModel" y_M_cut y_M_cut, Cond.selects "EntryTablesModel" y_M_isMask y_M_isMask, Cond.selects "EntryTablesModel" y_M_match y_M_match, Cond.selects "EntryTablesModel" y_M_prefix y_M_prefix, Cond.selects "EntryTablesModel" y_M_does y_M_does, Cond.initialized "EntryTablesLaw", Cond.initialized "EntryTables", Cond.initialized "EntryTables$Fields", Cond.initialized "EntryTables$Counts", Cond.initialized "EntryTables$Key", Cond.initialized "EntryTables$Action", Cond.initialized "EntryTables$Doing", Cond.initialized "EntryTables$Table", Cond.initialized "EntryTables$Entry", Cond.initialized "EntryTablesModel", Cond.initialized "java/util/Arrays", Cond.initialized "java/lang/Throwable", Cond.initialized "java/lang/Exception", Cond.initialized "java/lang/RuntimeException", Cond.initialized "java/lang/IllegalArgumentException", Cond.initialized "java/lang/IllegalStateException", Cond.initialized "java/lang/IndexOutOfBoundsException", Cond.initialized "java/lang/Integer", Cond.initialized "java/lang/Math", Cond.classLink "EntryTablesLaw" 8 "EntryTables", Cond.instantiable "EntryTables" 9, Cond.methodLink "EntryTablesLaw" 46 y_X_init, Cond.instanceMethod y_X_init, Cond.code y_X_init prog_1_method_1_code 2 none, Cond.methodLink "EntryTables" 1 y_JO_init, Cond.instanceMethod y_JO_init, Cond.code y_JO_init object_method_1_code 1 none, Cond.classLink "EntryTables" 7 "EntryTables$Fields", Cond.instantiable "EntryTables$Fields" 3, Cond.instanceMethod y_F_init, Cond.code y_F_init prog_6_method_1_code 1 none, Cond.methodLink "EntryTables$Fields" 3 y_JO_init, Cond.fieldLink "EntryTables$Fields" 9 "EntryTables$Fields" "ones" "[I", Cond.fieldLink "EntryTables$Fields" 15 "EntryTables$Fields" "words" "[I", Cond.fieldLink "EntryTables$Fields" 18 "EntryTables$Fields" "count" "I", Cond.soleField "EntryTables$Fields" "ones", Cond.soleField "EntryTables$Fields" "words"]
def TG_2 : List Cond := [Cond.soleField "EntryTables$Fields" "count", Cond.superclass "EntryTables$Fields" "java/lang/Object", Cond.arrayClass FieldType.int, Cond.classLink "EntryTables" 16 "EntryTables$Counts", Cond.instantiable "EntryTables$Counts" 1, Cond.instanceMethod y_C_init, Cond.code y_C_init prog_3_method_1_code 1 none, Cond.methodLink "EntryTables$Counts" 3 y_JO_init, Cond.fieldLink "EntryTables$Counts" 9 "EntryTables$Counts" "words" "[I", Cond.soleField "EntryTables$Counts" "words", Cond.superclass "EntryTables$Counts" "java/lang/Object", Cond.classLink "EntryTables" 23 "EntryTables$Action", Cond.classLink "EntryTables" 29 "EntryTables$Table", Cond.classLink "EntryTables" 35 "EntryTables$Key", Cond.instantiable "EntryTables$Key" 4, Cond.instanceMethod y_K_init, Cond.code y_K_init prog_7_method_1_code 1 none, Cond.methodLink "EntryTables$Key" 1 y_JO_init, Cond.fieldLink "EntryTables$Key" 7 "EntryTables$Key" "a" "I", Cond.fieldLink "EntryTables$Key" 13 "EntryTables$Key" "maskA" "I", Cond.fieldLink "EntryTables$Key" 16 "EntryTables$Key" "b" "I", Cond.fieldLink "EntryTables$Key" 19 "EntryTables$Key" "maskB" "I", Cond.soleField "EntryTables$Key" "a", Cond.soleField "EntryTables$Key" "maskA", Cond.soleField "EntryTables$Key" "b", Cond.soleField "EntryTables$Key" "maskB", Cond.superclass "EntryTables$Key" "java/lang/Object", Cond.instantiable "EntryTables$Action" 2, Cond.methodLink "EntryTables" 42 y_A_init, Cond.instanceMethod y_A_init, Cond.code y_A_init prog_2_method_1_code 2 none, Cond.methodLink "EntryTables$Action" 3 y_JO_init, Cond.classLink "EntryTables$Action" 9 "EntryTables$Doing", Cond.instantiable "EntryTables$Doing" 4, Cond.instanceMethod y_D_init, Cond.code y_D_init prog_4_method_1_code 1 none, Cond.methodLink "EntryTables$Doing" 1 y_JO_init, Cond.soleField "EntryTables$Doing" "kind", Cond.soleField "EntryTables$Doing" "x", Cond.soleField "EntryTables$Doing" "y", Cond.soleField "EntryTables$Doing" "z", Cond.superclass "EntryTables$Doing" "java/lang/Object", Cond.fieldLink "EntryTables$Action" 11 "EntryTables$Action" "doings" "[LEntryTables$Doing;", Cond.fieldLink "EntryTables$Action" 18 "EntryTables$Action" "count" "I", Cond.soleField "EntryTables$Action" "doings", Cond.soleField "EntryTables$Action" "count", Cond.superclass "EntryTables$Action" "java/lang/Object", Cond.instantiable "EntryTables$Table" 11, Cond.methodLink "EntryTables" 43 y_T_init, Cond.instanceMethod y_T_init, Cond.code y_T_init prog_8_method_1_code 2 none, Cond.methodLink "EntryTables$Table" 3 y_JO_init, Cond.classLink "EntryTables$Table" 9 "EntryTables$Entry", Cond.classLink "EntryTables$Table" 17 "EntryTables$Key", Cond.instantiable "EntryTables$Entry" 5, Cond.instanceMethod y_E_init, Cond.code y_E_init prog_5_method_1_code 1 none, Cond.methodLink "EntryTables$Entry" 1 y_JO_init, Cond.classLink "EntryTables$Entry" 7 "EntryTables$Key", Cond.fieldLink "EntryTables$Entry" 10 "EntryTables$Entry" "key" "LEntryTables$Key;"]
def TG_3 : List Cond := [Cond.soleField "EntryTables$Entry" "key", Cond.soleField "EntryTables$Entry" "priority", Cond.soleField "EntryTables$Entry" "action", Cond.soleField "EntryTables$Entry" "first", Cond.soleField "EntryTables$Entry" "second", Cond.superclass "EntryTables$Entry" "java/lang/Object", Cond.fieldLink "EntryTables$Table" 11 "EntryTables$Table" "rows" "[LEntryTables$Entry;", Cond.fieldLink "EntryTables$Table" 38 "EntryTables$Table" "count" "I", Cond.fieldLink "EntryTables$Table" 25 "EntryTables$Table" "f" "I", Cond.fieldLink "EntryTables$Table" 29 "EntryTables$Table" "g" "I", Cond.fieldLink "EntryTables$Table" 32 "EntryTables$Table" "howF" "I", Cond.fieldLink "EntryTables$Table" 35 "EntryTables$Table" "howG" "I", Cond.fieldLink "EntryTables$Table" 41 "EntryTables$Table" "onesF" "I", Cond.fieldLink "EntryTables$Table" 44 "EntryTables$Table" "onesG" "I", Cond.fieldLink "EntryTables$Table" 47 "EntryTables$Table" "allowed" "I", Cond.fieldLink "EntryTables$Table" 50 "EntryTables$Table" "miss" "I", Cond.fieldLink "EntryTables$Table" 20 "EntryTables$Table" "sought" "LEntryTables$Key;", Cond.soleField "EntryTables$Table" "rows", Cond.soleField "EntryTables$Table" "count", Cond.soleField "EntryTables$Table" "f", Cond.soleField "EntryTables$Table" "g", Cond.soleField "EntryTables$Table" "howF", Cond.soleField "EntryTables$Table" "howG", Cond.soleField "EntryTables$Table" "onesF", Cond.soleField "EntryTables$Table" "onesG", Cond.soleField "EntryTables$Table" "allowed", Cond.soleField "EntryTables$Table" "miss", Cond.soleField "EntryTables$Table" "sought", Cond.superclass "EntryTables$Table" "java/lang/Object", Cond.fieldLink "EntryTables" 10 "EntryTables" "fields" "LEntryTables$Fields;", Cond.fieldLink "EntryTables" 19 "EntryTables" "counts" "LEntryTables$Counts;", Cond.fieldLink "EntryTables" 25 "EntryTables" "actionRows" "[LEntryTables$Action;", Cond.fieldLink "EntryTables" 48 "EntryTables" "actionCount" "I", Cond.fieldLink "EntryTables" 31 "EntryTables" "tableRows" "[LEntryTables$Table;", Cond.fieldLink "EntryTables" 52 "EntryTables" "tableCount" "I", Cond.fieldLink "EntryTables" 38 "EntryTables" "latestKey" "LEntryTables$Key;", Cond.fieldLink "EntryTables" 59 "EntryTables" "latestPort" "I", Cond.fieldLink "EntryTables" 62 "EntryTables" "latestDrop" "Z", Cond.soleField "EntryTables" "fields", Cond.soleField "EntryTables" "counts", Cond.soleField "EntryTables" "actionRows", Cond.soleField "EntryTables" "actionCount", Cond.soleField "EntryTables" "tableRows", Cond.soleField "EntryTables" "tableCount", Cond.soleField "EntryTables" "latestKey", Cond.soleField "EntryTables" "latestPort", Cond.soleField "EntryTables" "latestDrop", Cond.superclass "EntryTables" "java/lang/Object", Cond.methodLink "EntryTablesLaw" 50 y_X_clear, Cond.instanceMethod y_X_clear, Cond.selects "EntryTables" y_X_clear y_X_clear, Cond.code y_X_clear prog_1_method_2_code 1 none, Cond.methodLink "EntryTables" 44 y_F_forget, Cond.instanceMethod y_F_forget, Cond.selects "EntryTables$Fields" y_F_forget y_F_forget, Cond.code y_F_forget prog_6_method_2_code 1 none, Cond.methodLink "EntryTables" 47 y_C_forget, Cond.instanceMethod y_C_forget, Cond.selects "EntryTables$Counts" y_C_forget y_C_forget, Cond.code y_C_forget prog_3_method_2_code 1 none]
def TG_4 : List Cond := [Cond.methodLink "EntryTables$Counts" 15 y_JA_fill, Cond.static y_JA_fill, Cond.code y_JA_fill prog_20_method_103_code 4 none, Cond.methodLink "EntryTables" 55 y_K_hold, Cond.instanceMethod y_K_hold, Cond.selects "EntryTables$Key" y_K_hold y_K_hold, Cond.code y_K_hold prog_7_method_2_code 5 none, Cond.methodLink "EntryTablesLaw" 67 y_X_get, Cond.instanceMethod y_X_get, Cond.selects "EntryTables" y_X_get y_X_get, Cond.code y_X_get prog_1_method_5_code 2 (some FieldType.int), Cond.methodLink "EntryTables" 99 y_F_read, Cond.instanceMethod y_F_read, Cond.selects "EntryTables$Fields" y_F_read y_F_read, Cond.code y_F_read prog_6_method_7_code 2 (some FieldType.int), Cond.methodLink "EntryTables$Fields" 26 y_F_isThere, Cond.instanceMethod y_F_isThere, Cond.selects "EntryTables$Fields" y_F_isThere y_F_isThere, Cond.code y_F_isThere prog_6_method_4_code 2 (some FieldType.boolean), Cond.methodLink "EntryTablesLaw" 83 y_X_key, Cond.instanceMethod y_X_key, Cond.selects "EntryTables" y_X_key y_X_key, Cond.code y_X_key prog_1_method_9_code 5 none, Cond.methodLink "EntryTablesLaw" 97 y_X_matches, Cond.instanceMethod y_X_matches, Cond.selects "EntryTables" y_X_matches y_X_matches, Cond.code y_X_matches prog_1_method_13_code 3 (some FieldType.int), Cond.methodLink "EntryTables" 149 y_X_isTable, Cond.instanceMethod y_X_isTable, Cond.code y_X_isTable prog_1_method_19_code 2 (some FieldType.boolean), Cond.methodLink "EntryTables" 162 y_T_bestMatch, Cond.instanceMethod y_T_bestMatch, Cond.selects "EntryTables$Table" y_T_bestMatch y_T_bestMatch, Cond.code y_T_bestMatch prog_8_method_7_code 7 (some (FieldType.object "EntryTables$Entry")), Cond.methodLink "EntryTables$Table" 100 y_F_read, Cond.methodLink "EntryTables$Table" 106 y_K_fits, Cond.instanceMethod y_K_fits, Cond.selects "EntryTables$Key" y_K_fits y_K_fits, Cond.code y_K_fits prog_7_method_4_code 3 (some FieldType.boolean), Cond.methodLink "EntryTables$Table" 110 y_T_isBetter, Cond.instanceMethod y_T_isBetter, Cond.code y_T_isBetter prog_8_method_8_code 5 (some FieldType.boolean), Cond.methodLink "EntryTables$Table" 114 y_T_prefixOnes, Cond.instanceMethod y_T_prefixOnes, Cond.code y_T_prefixOnes prog_8_method_9_code 2 (some FieldType.int), Cond.methodLink "EntryTables$Table" 118 y_JI_bitCount, Cond.static y_JI_bitCount, Cond.code y_JI_bitCount prog_15_method_49_code 1 (some FieldType.int), Cond.constant "java/lang/Integer" 265 (1431655765 : Int32), Cond.constant "java/lang/Integer" 266 (858993459 : Int32), Cond.constant "java/lang/Integer" 267 (252645135 : Int32), Cond.methodLink "EntryTablesLaw" 101 y_X_port, Cond.instanceMethod y_X_port, Cond.selects "EntryTables" y_X_port y_X_port, Cond.code y_X_port prog_1_method_14_code 1 (some FieldType.int), Cond.methodLink "EntryTablesLaw" 105 y_X_isDropped, Cond.instanceMethod y_X_isDropped, Cond.selects "EntryTables" y_X_isDropped y_X_isDropped, Cond.code y_X_isDropped prog_1_method_15_code 1 (some FieldType.boolean), Cond.methodLink "EntryTablesLaw" 110 y_X_word]
def TG_5 : List Cond := [Cond.instanceMethod y_X_word, Cond.selects "EntryTables" y_X_word y_X_word, Cond.code y_X_word prog_1_method_16_code 3 (some FieldType.int), Cond.methodLink "EntryTables" 184 y_C_read, Cond.instanceMethod y_C_read, Cond.selects "EntryTables$Counts" y_C_read y_C_read, Cond.code y_C_read prog_3_method_4_code 3 (some FieldType.int), Cond.methodLink "EntryTables$Counts" 25 y_C_isWord, Cond.static y_C_isWord, Cond.code y_C_isWord prog_3_method_3_code 2 (some FieldType.boolean), Cond.static y_X_isArray, Cond.code y_X_isArray prog_1_method_20_code 1 (some FieldType.boolean), Cond.methodLink "EntryTablesLaw" 115 y_X_entries, Cond.instanceMethod y_X_entries, Cond.selects "EntryTables" y_X_entries y_X_entries, Cond.code y_X_entries prog_1_method_17_code 2 (some FieldType.int), Cond.methodLink "EntryTablesLaw" 54 y_L_field, Cond.static y_L_field, Cond.codeWith y_L_field method_3_code 4 (some FieldType.int) [(0, 9, 12, 13), (0, 9, 15, 15)], Cond.classLink "EntryTablesLaw" 13 "java/lang/IllegalArgumentException", Cond.classLink "EntryTablesLaw" 15 "java/lang/IllegalStateException", Cond.methodLink "EntryTablesLaw" 7 y_X_field, Cond.instanceMethod y_X_field, Cond.selects "EntryTables" y_X_field y_X_field, Cond.code y_X_field prog_1_method_3_code 2 (some FieldType.int), Cond.classLink "EntryTables" 66 "java/lang/IllegalArgumentException", Cond.instantiable "java/lang/IllegalArgumentException" 6, Cond.selects "java/lang/IllegalArgumentException" y_JT_fillInStackTrace y_JT_fillInStackTrace, Cond.selects "java/lang/IllegalArgumentException" y_JT_fillInStackTrace2 y_JT_fillInStackTrace2, Cond.lays "java/lang/IllegalArgumentException" "java/lang/Throwable" "cause" "Ljava/lang/Throwable;", Cond.lays "java/lang/Throwable" "java/lang/Throwable" "cause" "Ljava/lang/Throwable;", Cond.lays "java/lang/IllegalArgumentException" "java/lang/Throwable" "stackTrace" "[Ljava/lang/StackTraceElement;", Cond.lays "java/lang/Throwable" "java/lang/Throwable" "stackTrace" "[Ljava/lang/StackTraceElement;", Cond.lays "java/lang/IllegalArgumentException" "java/lang/Throwable" "suppressedExceptions" "Ljava/util/List;", Cond.lays "java/lang/Throwable" "java/lang/Throwable" "suppressedExceptions" "Ljava/util/List;", Cond.lays "java/lang/IllegalArgumentException" "java/lang/Throwable" "detailMessage" "Ljava/lang/String;", Cond.lays "java/lang/Throwable" "java/lang/Throwable" "detailMessage" "Ljava/lang/String;", Cond.lays "java/lang/IllegalArgumentException" "java/lang/Throwable" "backtrace" "Ljava/lang/Object;", Cond.lays "java/lang/Throwable" "java/lang/Throwable" "backtrace" "Ljava/lang/Object;", Cond.fieldLink "java/lang/Throwable" 198 "java/lang/Throwable" "backtrace" "Ljava/lang/Object;", Cond.superclass "java/lang/Throwable" "java/lang/Object", Cond.instanceMethod y_JT_init, Cond.code y_JT_init prog_19_method_1_code 1 none, Cond.methodLink "java/lang/Throwable" 1 y_JO_init, Cond.fieldLink "java/lang/Throwable" 13 "java/lang/Throwable" "UNASSIGNED_STACK" "[Ljava/lang/StackTraceElement;", Cond.fieldLink "java/lang/Throwable" 20 "java/lang/Throwable" "SUPPRESSED_SENTINEL" "Ljava/util/List;", Cond.methodLink "java/lang/Throwable" 27 y_JT_fillInStackTrace2, Cond.instanceMethod y_JT_fillInStackTrace2, Cond.sameMethod "java/lang/Throwable" "java/lang/Throwable" "fillInStackTrace" "()Ljava/lang/Throwable;", Cond.selects "java/lang/IllegalStateException" y_JT_fillInStackTrace2 y_JT_fillInStackTrace2, Cond.selects "java/lang/IndexOutOfBoundsException" y_JT_fillInStackTrace2 y_JT_fillInStackTrace2, Cond.codeSync y_JT_fillInStackTrace2 prog_19_method_18_code 1 (some (FieldType.object "java/lang/Throwable")), Cond.methodLink "java/lang/Throwable" 202 y_JT_fillInStackTrace, Cond.instanceMethod y_JT_fillInStackTrace, Cond.instantiable "java/lang/Throwable" 6, Cond.native y_JT_fillInStackTrace, Cond.methodLink "EntryTables" 70 y_JIA_init, Cond.instanceMethod y_JIA_init, Cond.code y_JIA_init prog_12_method_2_code 2 none, Cond.methodLink "java/lang/IllegalArgumentException" 7 y_JR_init2]
def TG_6 : List Cond := [Cond.instanceMethod y_JR_init2, Cond.code y_JR_init2 prog_17_method_2_code 2 none, Cond.methodLink "java/lang/RuntimeException" 7 y_JE_init2, Cond.instanceMethod y_JE_init2, Cond.code y_JE_init2 prog_11_method_2_code 2 none, Cond.methodLink "java/lang/Exception" 7 y_JT_init2, Cond.instanceMethod y_JT_init2, Cond.code y_JT_init2 prog_19_method_2_code 2 none, Cond.fieldLink "java/lang/Throwable" 198 "java/lang/Throwable" "backtrace" "Ljava/lang/Object;", Cond.fieldLink "java/lang/Throwable" 31 "java/lang/Throwable" "detailMessage" "Ljava/lang/String;", Cond.fieldLink "java/lang/Throwable" 7 "java/lang/Throwable" "cause" "Ljava/lang/Throwable;", Cond.fieldLink "java/lang/Throwable" 17 "java/lang/Throwable" "stackTrace" "[Ljava/lang/StackTraceElement;", Cond.fieldLink "java/lang/Throwable" 24 "java/lang/Throwable" "suppressedExceptions" "Ljava/util/List;", Cond.soleField "java/lang/Throwable" "backtrace", Cond.soleField "java/lang/Throwable" "detailMessage", Cond.soleField "java/lang/Throwable" "cause", Cond.soleField "java/lang/Throwable" "stackTrace", Cond.lays "java/lang/IllegalArgumentException" "java/lang/Throwable" "depth" "I", Cond.soleField "java/lang/Throwable" "depth", Cond.soleField "java/lang/Throwable" "suppressedExceptions", Cond.superclass "java/lang/IllegalArgumentException" "java/lang/RuntimeException", Cond.arrayClass FieldType.byte, Cond.methodLink "EntryTables" 73 y_F_isFull, Cond.instanceMethod y_F_isFull, Cond.selects "EntryTables$Fields" y_F_isFull y_F_isFull, Cond.code y_F_isFull prog_6_method_3_code 1 (some FieldType.boolean), Cond.classLink "EntryTables" 77 "java/lang/IllegalStateException", Cond.instantiable "java/lang/IllegalStateException" 6, Cond.selects "java/lang/IllegalStateException" y_JT_fillInStackTrace y_JT_fillInStackTrace, Cond.lays "java/lang/IllegalStateException" "java/lang/Throwable" "cause" "Ljava/lang/Throwable;", Cond.lays "java/lang/IllegalStateException" "java/lang/Throwable" "stackTrace" "[Ljava/lang/StackTraceElement;", Cond.lays "java/lang/IllegalStateException" "java/lang/Throwable" "suppressedExceptions" "Ljava/util/List;", Cond.lays "java/lang/IllegalStateException" "java/lang/Throwable" "detailMessage" "Ljava/lang/String;", Cond.lays "java/lang/IllegalStateException" "java/lang/Throwable" "backtrace" "Ljava/lang/Object;", Cond.methodLink "EntryTables" 81 y_JIS_init, Cond.instanceMethod y_JIS_init, Cond.code y_JIS_init prog_13_method_2_code 2 none, Cond.methodLink "java/lang/IllegalStateException" 7 y_JR_init2, Cond.lays "java/lang/IllegalStateException" "java/lang/Throwable" "depth" "I", Cond.superclass "java/lang/IllegalStateException" "java/lang/RuntimeException", Cond.methodLink "EntryTables" 82 y_F_add, Cond.instanceMethod y_F_add, Cond.selects "EntryTables$Fields" y_F_add y_F_add, Cond.code y_F_add prog_6_method_5_code 3 (some FieldType.int), Cond.methodLink "EntryTables$Fields" 22 y_F_isFull, Cond.methodLink "EntryTablesLaw" 63 y_L_set, Cond.static y_L_set, Cond.codeWith y_L_set method_4_code 4 (some FieldType.int) [(0, 6, 9, 21)], Cond.classLink "EntryTablesLaw" 21 "java/lang/IndexOutOfBoundsException", Cond.methodLink "EntryTablesLaw" 17 y_X_set, Cond.instanceMethod y_X_set, Cond.selects "EntryTables" y_X_set y_X_set, Cond.code y_X_set prog_1_method_4_code 3 none, Cond.methodLink "EntryTables" 86 y_F_isThere, Cond.classLink "EntryTables" 90 "java/lang/IndexOutOfBoundsException", Cond.instantiable "java/lang/IndexOutOfBoundsException" 6, Cond.selects "java/lang/IndexOutOfBoundsException" y_JT_fillInStackTrace y_JT_fillInStackTrace, Cond.lays "java/lang/IndexOutOfBoundsException" "java/lang/Throwable" "cause" "Ljava/lang/Throwable;", Cond.lays "java/lang/IndexOutOfBoundsException" "java/lang/Throwable" "stackTrace" "[Ljava/lang/StackTraceElement;", Cond.lays "java/lang/IndexOutOfBoundsException" "java/lang/Throwable" "suppressedExceptions" "Ljava/util/List;"]
def TG_7 : List Cond := [Cond.lays "java/lang/IndexOutOfBoundsException" "java/lang/Throwable" "detailMessage" "Ljava/lang/String;", Cond.lays "java/lang/IndexOutOfBoundsException" "java/lang/Throwable" "backtrace" "Ljava/lang/Object;", Cond.methodLink "EntryTables" 94 y_JIO_init, Cond.instanceMethod y_JIO_init, Cond.code y_JIO_init prog_14_method_2_code 2 none, Cond.methodLink "java/lang/IndexOutOfBoundsException" 7 y_JR_init2, Cond.lays "java/lang/IndexOutOfBoundsException" "java/lang/Throwable" "depth" "I", Cond.superclass "java/lang/IndexOutOfBoundsException" "java/lang/RuntimeException", Cond.methodLink "EntryTables" 95 y_F_write, Cond.instanceMethod y_F_write, Cond.selects "EntryTables$Fields" y_F_write y_F_write, Cond.code y_F_write prog_6_method_8_code 3 none, Cond.methodLink "EntryTablesLaw" 71 y_L_action, Cond.static y_L_action, Cond.codeWith y_L_action method_5_code 3 (some FieldType.int) [(0, 8, 11, 15)], Cond.methodLink "EntryTablesLaw" 23 y_X_action, Cond.instanceMethod y_X_action, Cond.selects "EntryTables" y_X_action y_X_action, Cond.code y_X_action prog_1_method_6_code 2 (some FieldType.int), Cond.methodLink "EntryTables" 104 y_A_forget, Cond.instanceMethod y_A_forget, Cond.selects "EntryTables$Action" y_A_forget y_A_forget, Cond.code y_A_forget prog_2_method_2_code 1 none, Cond.methodLink "EntryTablesLaw" 75 y_L_doing, Cond.static y_L_doing, Cond.codeWith y_L_doing method_6_code 7 (some FieldType.int) [(0, 11, 14, 21), (0, 11, 18, 13), (0, 11, 22, 15)], Cond.methodLink "EntryTablesLaw" 27 y_X_doing, Cond.instanceMethod y_X_doing, Cond.selects "EntryTables" y_X_doing y_X_doing, Cond.code y_X_doing prog_1_method_7_code 6 none, Cond.methodLink "EntryTables" 107 y_X_isAction, Cond.instanceMethod y_X_isAction, Cond.code y_X_isAction prog_1_method_18_code 2 (some FieldType.boolean), Cond.methodLink "EntryTables" 110 y_X_areOperands, Cond.instanceMethod y_X_areOperands, Cond.code y_X_areOperands prog_1_method_22_code 5 (some FieldType.boolean), Cond.methodLink "EntryTables" 190 y_X_isDatum, Cond.static y_X_isDatum, Cond.code y_X_isDatum prog_1_method_21_code 1 (some FieldType.boolean), Cond.methodLink "EntryTables" 193 y_X_isArray, Cond.methodLink "EntryTables" 116 y_A_isFull, Cond.instanceMethod y_A_isFull, Cond.selects "EntryTables$Action" y_A_isFull y_A_isFull, Cond.code y_A_isFull prog_2_method_3_code 1 (some FieldType.boolean), Cond.methodLink "EntryTables" 119 y_A_add, Cond.instanceMethod y_A_add, Cond.selects "EntryTables$Action" y_A_add y_A_add, Cond.code y_A_add prog_2_method_4_code 6 none, Cond.methodLink "EntryTables$Action" 22 y_A_isFull, Cond.methodLink "EntryTablesLaw" 79 y_L_table, Cond.static y_L_table, Cond.codeWith y_L_table method_7_code 8 (some FieldType.int) [(0, 16, 19, 21), (0, 16, 23, 13), (0, 16, 27, 15)], Cond.methodLink "EntryTablesLaw" 31 y_X_table, Cond.instanceMethod y_X_table, Cond.selects "EntryTables" y_X_table y_X_table, Cond.code y_X_table prog_1_method_8_code 8 (some FieldType.int), Cond.methodLink "EntryTables" 121 y_X_areKeyFields, Cond.instanceMethod y_X_areKeyFields, Cond.code y_X_areKeyFields prog_1_method_23_code 3 (some FieldType.boolean), Cond.methodLink "EntryTables" 125 y_X_areActions]
def TG_8 : List Cond := [Cond.instanceMethod y_X_areActions, Cond.code y_X_areActions prog_1_method_24_code 4 (some FieldType.boolean), Cond.methodLink "EntryTables" 130 y_X_isHow, Cond.static y_X_isHow, Cond.code y_X_isHow prog_1_method_25_code 4 (some FieldType.boolean), Cond.methodLink "EntryTables" 137 y_T_matchKeys, Cond.instanceMethod y_T_matchKeys, Cond.selects "EntryTables$Table" y_T_matchKeys y_T_matchKeys, Cond.code y_T_matchKeys prog_8_method_2_code 5 none, Cond.methodLink "EntryTables" 140 y_F_onesOf, Cond.instanceMethod y_F_onesOf, Cond.selects "EntryTables$Fields" y_F_onesOf y_F_onesOf, Cond.code y_F_onesOf prog_6_method_6_code 2 (some FieldType.int), Cond.methodLink "EntryTables" 143 y_T_cutKeysTo, Cond.instanceMethod y_T_cutKeysTo, Cond.selects "EntryTables$Table" y_T_cutKeysTo y_T_cutKeysTo, Cond.code y_T_cutKeysTo prog_8_method_3_code 3 none, Cond.methodLink "EntryTables" 146 y_T_allowActions, Cond.instanceMethod y_T_allowActions, Cond.selects "EntryTables$Table" y_T_allowActions y_T_allowActions, Cond.code y_T_allowActions prog_8_method_4_code 3 none, Cond.methodLink "EntryTablesLaw" 88 y_L_insert, Cond.static y_L_insert, Cond.codeWith y_L_insert method_8_code 8 (some FieldType.int) [(0, 23, 26, 21)], Cond.methodLink "EntryTablesLaw" 35 y_X_insert, Cond.instanceMethod y_X_insert, Cond.selects "EntryTables" y_X_insert y_X_insert, Cond.code y_X_insert prog_1_method_10_code 6 (some FieldType.boolean), Cond.methodLink "EntryTables" 154 y_T_takeIn, Cond.instanceMethod y_T_takeIn, Cond.selects "EntryTables$Table" y_T_takeIn y_T_takeIn, Cond.code y_T_takeIn prog_8_method_5_code 7 (some FieldType.boolean), Cond.methodLink "EntryTables$Table" 53 y_T_seek, Cond.instanceMethod y_T_seek, Cond.code y_T_seek prog_8_method_10_code 4 none, Cond.methodLink "EntryTables$Table" 84 y_K_hold, Cond.methodLink "EntryTables$Table" 57 y_T_areMasks, Cond.instanceMethod y_T_areMasks, Cond.code y_T_areMasks prog_8_method_12_code 1 (some FieldType.boolean), Cond.methodLink "EntryTables$Table" 127 y_T_isMask, Cond.static y_T_isMask, Cond.code y_T_isMask prog_8_method_13_code 4 (some FieldType.boolean), Cond.methodLink "EntryTables$Table" 61 y_T_isAllowed, Cond.instanceMethod y_T_isAllowed, Cond.code y_T_isAllowed prog_8_method_14_code 2 (some FieldType.boolean), Cond.methodLink "EntryTables$Table" 65 y_T_rowOfSought, Cond.instanceMethod y_T_rowOfSought, Cond.code y_T_rowOfSought prog_8_method_11_code 2 (some FieldType.int), Cond.methodLink "EntryTables$Table" 123 y_K_isSameAs, Cond.instanceMethod y_K_isSameAs, Cond.selects "EntryTables$Key" y_K_isSameAs y_K_isSameAs, Cond.code y_K_isSameAs prog_7_method_3_code 2 (some FieldType.boolean), Cond.methodLink "EntryTablesLaw" 91 y_L_remove, Cond.static y_L_remove, Cond.codeWith y_L_remove method_9_code 4 (some FieldType.int) [(0, 16, 19, 21)], Cond.methodLink "EntryTablesLaw" 39 y_X_remove, Cond.instanceMethod y_X_remove, Cond.selects "EntryTables" y_X_remove y_X_remove, Cond.code y_X_remove prog_1_method_11_code 2 (some FieldType.boolean), Cond.methodLink "EntryTables" 158 y_T_takeOut]
def TG_9 : List Cond := [Cond.instanceMethod y_T_takeOut, Cond.selects "EntryTables$Table" y_T_takeOut y_T_takeOut, Cond.code y_T_takeOut prog_8_method_6_code 5 (some FieldType.boolean), Cond.methodLink "EntryTablesLaw" 94 y_L_act, Cond.static y_L_act, Cond.codeWith y_L_act method_10_code 4 (some FieldType.int) [(0, 16, 19, 21)], Cond.methodLink "EntryTablesLaw" 43 y_X_act, Cond.instanceMethod y_X_act, Cond.selects "EntryTables" y_X_act y_X_act, Cond.code y_X_act prog_1_method_12_code 3 (some FieldType.boolean), Cond.methodLink "EntryTables" 169 y_X_doAction, Cond.instanceMethod y_X_doAction, Cond.code y_X_doAction prog_1_method_26_code 6 none, Cond.methodLink "EntryTables" 201 y_X_doOne, Cond.instanceMethod y_X_doOne, Cond.code y_X_doOne prog_1_method_27_code 4 none, Cond.methodLink "EntryTables" 219 y_X_wordNumber, Cond.instanceMethod y_X_wordNumber, Cond.code y_X_wordNumber prog_1_method_28_code 2 (some FieldType.int), Cond.methodLink "EntryTables" 225 y_JM_floorMod, Cond.static y_JM_floorMod, Cond.code y_JM_floorMod prog_16_method_50_code 3 (some FieldType.int), Cond.methodLink "EntryTables" 222 y_C_grow, Cond.instanceMethod y_C_grow, Cond.selects "EntryTables$Counts" y_C_grow y_C_grow, Cond.code y_C_grow prog_3_method_5_code 4 none, Cond.classLink "EntryTablesLaw" 47 "EntryTablesModel", Cond.instantiable "EntryTablesModel" 20, Cond.methodLink "EntryTablesLaw" 49 y_M_init, Cond.instanceMethod y_M_init, Cond.code y_M_init prog_10_method_1_code 1 none, Cond.methodLink "EntryTablesModel" 1 y_JO_init, Cond.fieldLink "EntryTablesModel" 7 "EntryTablesModel" "thrownCode" "I", Cond.fieldLink "EntryTablesModel" 13 "EntryTablesModel" "fields" "I", Cond.fieldLink "EntryTablesModel" 16 "EntryTablesModel" "width" "[I", Cond.fieldLink "EntryTablesModel" 20 "EntryTablesModel" "held" "[I", Cond.fieldLink "EntryTablesModel" 23 "EntryTablesModel" "actions" "I", Cond.fieldLink "EntryTablesModel" 26 "EntryTablesModel" "doings" "[I", Cond.fieldLink "EntryTablesModel" 29 "EntryTablesModel" "doing" "[I", Cond.fieldLink "EntryTablesModel" 32 "EntryTablesModel" "array" "[I", Cond.fieldLink "EntryTablesModel" 35 "EntryTablesModel" "tables" "I", Cond.fieldLink "EntryTablesModel" 38 "EntryTablesModel" "one" "[I", Cond.fieldLink "EntryTablesModel" 41 "EntryTablesModel" "two" "[I", Cond.fieldLink "EntryTablesModel" 44 "EntryTablesModel" "how" "[I", Cond.fieldLink "EntryTablesModel" 47 "EntryTablesModel" "may" "[I", Cond.fieldLink "EntryTablesModel" 50 "EntryTablesModel" "miss" "[I", Cond.fieldLink "EntryTablesModel" 53 "EntryTablesModel" "count" "[I", Cond.fieldLink "EntryTablesModel" 56 "EntryTablesModel" "entry" "[I", Cond.fieldLink "EntryTablesModel" 59 "EntryTablesModel" "key" "[I", Cond.fieldLink "EntryTablesModel" 62 "EntryTablesModel" "now" "[I", Cond.fieldLink "EntryTablesModel" 65 "EntryTablesModel" "port" "I", Cond.fieldLink "EntryTablesModel" 68 "EntryTablesModel" "dropped" "Z", Cond.soleField "EntryTablesModel" "thrownCode", Cond.soleField "EntryTablesModel" "fields", Cond.soleField "EntryTablesModel" "width", Cond.soleField "EntryTablesModel" "held", Cond.soleField "EntryTablesModel" "actions", Cond.soleField "EntryTablesModel" "doings", Cond.soleField "EntryTablesModel" "doing", Cond.soleField "EntryTablesModel" "array"]
def TG_10 : List Cond := [Cond.soleField "EntryTablesModel" "tables", Cond.soleField "EntryTablesModel" "one", Cond.soleField "EntryTablesModel" "two", Cond.soleField "EntryTablesModel" "how", Cond.soleField "EntryTablesModel" "may", Cond.soleField "EntryTablesModel" "miss", Cond.soleField "EntryTablesModel" "count", Cond.soleField "EntryTablesModel" "entry", Cond.soleField "EntryTablesModel" "key", Cond.soleField "EntryTablesModel" "now", Cond.soleField "EntryTablesModel" "port", Cond.soleField "EntryTablesModel" "dropped", Cond.superclass "EntryTablesModel" "java/lang/Object", Cond.methodLink "EntryTablesLaw" 60 y_M_thrown, Cond.instanceMethod y_M_thrown, Cond.selects "EntryTablesModel" y_M_thrown y_M_thrown, Cond.code y_M_thrown prog_10_method_13_code 1 (some FieldType.int), Cond.methodLink "EntryTablesLaw" 53 y_M_clear, Cond.instanceMethod y_M_clear, Cond.selects "EntryTablesModel" y_M_clear y_M_clear, Cond.code y_M_clear prog_10_method_14_code 2 none, Cond.methodLink "EntryTablesLaw" 59 y_M_field, Cond.instanceMethod y_M_field, Cond.selects "EntryTablesModel" y_M_field y_M_field, Cond.code y_M_field prog_10_method_15_code 2 (some FieldType.int), Cond.methodLink "EntryTablesLaw" 66 y_M_set, Cond.instanceMethod y_M_set, Cond.selects "EntryTablesModel" y_M_set y_M_set, Cond.code y_M_set prog_10_method_16_code 3 none, Cond.methodLink "EntryTablesModel" 91 y_M_not, Cond.static y_M_not, Cond.code y_M_not prog_10_method_3_code 2 (some FieldType.boolean), Cond.methodLink "EntryTablesModel" 87 y_M_hold, Cond.instanceMethod y_M_hold, Cond.code y_M_hold prog_10_method_10_code 3 none, Cond.methodLink "EntryTablesModel" 72 y_M_ones, Cond.instanceMethod y_M_ones, Cond.code y_M_ones prog_10_method_2_code 2 (some FieldType.int), Cond.methodLink "EntryTablesLaw" 70 y_M_get, Cond.instanceMethod y_M_get, Cond.selects "EntryTablesModel" y_M_get y_M_get, Cond.code y_M_get prog_10_method_17_code 2 (some FieldType.int), Cond.methodLink "EntryTablesLaw" 74 y_M_action, Cond.instanceMethod y_M_action, Cond.selects "EntryTablesModel" y_M_action y_M_action, Cond.code y_M_action prog_10_method_18_code 1 (some FieldType.int), Cond.methodLink "EntryTablesLaw" 78 y_M_doing, Cond.instanceMethod y_M_doing, Cond.selects "EntryTablesModel" y_M_doing y_M_doing, Cond.code y_M_doing prog_10_method_19_code 7 none, Cond.methodLink "EntryTablesModel" 95 y_M_unknown, Cond.instanceMethod y_M_unknown, Cond.code y_M_unknown prog_10_method_12_code 8 (some FieldType.boolean), Cond.methodLink "EntryTablesLaw" 82 y_M_table, Cond.instanceMethod y_M_table, Cond.selects "EntryTablesModel" y_M_table y_M_table, Cond.code y_M_table prog_10_method_20_code 8 (some FieldType.int), Cond.methodLink "EntryTablesLaw" 87 y_M_key, Cond.instanceMethod y_M_key, Cond.selects "EntryTablesModel" y_M_key y_M_key]
def TG_11 : List Cond := [Cond.code y_M_key prog_10_method_21_code 5 none, Cond.methodLink "EntryTablesLaw" 90 y_M_insert, Cond.instanceMethod y_M_insert, Cond.selects "EntryTablesModel" y_M_insert y_M_insert, Cond.code y_M_insert prog_10_method_22_code 8 (some FieldType.boolean), Cond.methodLink "EntryTablesModel" 99 y_M_find, Cond.instanceMethod y_M_find, Cond.code y_M_find prog_10_method_7_code 6 (some FieldType.int), Cond.methodLink "EntryTablesModel" 76 y_M_cut, Cond.instanceMethod y_M_cut, Cond.code y_M_cut prog_10_method_6_code 2 none, Cond.methodLink "EntryTablesModel" 102 y_M_isMask, Cond.instanceMethod y_M_isMask, Cond.code y_M_isMask prog_10_method_5_code 7 (some FieldType.boolean), Cond.methodLink "EntryTablesLaw" 93 y_M_remove, Cond.instanceMethod y_M_remove, Cond.selects "EntryTablesModel" y_M_remove y_M_remove, Cond.code y_M_remove prog_10_method_23_code 4 (some FieldType.boolean), Cond.methodLink "EntryTablesLaw" 96 y_M_act, Cond.instanceMethod y_M_act, Cond.selects "EntryTablesModel" y_M_act y_M_act, Cond.code y_M_act prog_10_method_24_code 6 (some FieldType.boolean), Cond.methodLink "EntryTablesModel" 106 y_M_match, Cond.instanceMethod y_M_match, Cond.code y_M_match prog_10_method_9_code 7 (some FieldType.int), Cond.methodLink "EntryTablesModel" 83 y_M_prefix, Cond.instanceMethod y_M_prefix, Cond.code y_M_prefix prog_10_method_8_code 3 (some FieldType.int), Cond.methodLink "EntryTablesModel" 80 y_M_bits, Cond.static y_M_bits, Cond.code y_M_bits prog_10_method_4_code 3 (some FieldType.int), Cond.methodLink "EntryTablesModel" 109 y_M_does, Cond.instanceMethod y_M_does, Cond.code y_M_does prog_10_method_11_code 6 none, Cond.methodLink "EntryTablesLaw" 100 y_M_matches, Cond.instanceMethod y_M_matches, Cond.selects "EntryTablesModel" y_M_matches y_M_matches, Cond.code y_M_matches prog_10_method_25_code 3 (some FieldType.int), Cond.methodLink "EntryTablesLaw" 104 y_M_port, Cond.instanceMethod y_M_port, Cond.selects "EntryTablesModel" y_M_port y_M_port, Cond.code y_M_port prog_10_method_26_code 1 (some FieldType.int), Cond.methodLink "EntryTablesLaw" 109 y_M_isDropped, Cond.instanceMethod y_M_isDropped, Cond.selects "EntryTablesModel" y_M_isDropped y_M_isDropped, Cond.code y_M_isDropped prog_10_method_27_code 1 (some FieldType.boolean), Cond.methodLink "EntryTablesLaw" 114 y_M_word, Cond.instanceMethod y_M_word, Cond.selects "EntryTablesModel" y_M_word y_M_word, Cond.code y_M_word prog_10_method_28_code 3 (some FieldType.int), Cond.methodLink "EntryTablesLaw" 118 y_M_entries, Cond.instanceMethod y_M_entries, Cond.selects "EntryTablesModel" y_M_entries y_M_entries, Cond.code y_M_entries prog_10_method_29_code 2 (some FieldType.int), Cond.arrayClass FieldType.long, Cond.sameMethod "java/lang/Throwable" "java/lang/Throwable" "fillInStackTrace" "(I)Ljava/lang/Throwable;"]
/-- the words that every method gets: those of the tables that stay true while the tables get warm -/
def TG : List Cond := TG_0 ++ (TG_1 ++ (TG_2 ++ (TG_3 ++ (TG_4 ++ (TG_5 ++ (TG_6 ++ (TG_7 ++ (TG_8 ++ (TG_9 ++ (TG_10 ++ (TG_11)))))))))))
theorem tgg_0 : TG_0.all goodWord = true := by decide +kernel
theorem tgg_1 : TG_1.all goodWord = true := by decide +kernel
theorem tgg_2 : TG_2.all goodWord = true := by decide +kernel
theorem tgg_3 : TG_3.all goodWord = true := by decide +kernel
theorem tgg_4 : TG_4.all goodWord = true := by decide +kernel
theorem tgg_5 : TG_5.all goodWord = true := by decide +kernel
theorem tgg_6 : TG_6.all goodWord = true := by decide +kernel
theorem tgg_7 : TG_7.all goodWord = true := by decide +kernel
theorem tgg_8 : TG_8.all goodWord = true := by decide +kernel
theorem tgg_9 : TG_9.all goodWord = true := by decide +kernel
theorem tgg_10 : TG_10.all goodWord = true := by decide +kernel
theorem tgg_11 : TG_11.all goodWord = true := by decide +kernel
theorem w36 : Cond.laysFinal "EntryTables$Fields" "EntryTables$Fields" "ones" "[I" ∈ TG := List.mem_append_left _ (List.mem_of_getElem? (i := 0) rfl)
theorem w38 : Cond.laysFinal "EntryTables$Fields" "EntryTables$Fields" "words" "[I" ∈ TG := List.mem_append_left _ (List.mem_of_getElem? (i := 1) rfl)
theorem w40 : Cond.lays "EntryTables$Fields" "EntryTables$Fields" "count" "I" ∈ TG := List.mem_append_left _ (List.mem_of_getElem? (i := 2) rfl)
theorem w51 : Cond.laysFinal "EntryTables$Counts" "EntryTables$Counts" "words" "[I" ∈ TG := List.mem_append_left _ (List.mem_of_getElem? (i := 3) rfl)
theorem w72 : Cond.lays "EntryTables$Key" "EntryTables$Key" "a" "I" ∈ TG := List.mem_append_left _ (List.mem_of_getElem? (i := 4) rfl)
theorem w74 : Cond.lays "EntryTables$Key" "EntryTables$Key" "maskA" "I" ∈ TG := List.mem_append_left _ (List.mem_of_getElem? (i := 5) rfl)
theorem w76 : Cond.lays "EntryTables$Key" "EntryTables$Key" "b" "I" ∈ TG := List.mem_append_left _ (List.mem_of_getElem? (i := 6) rfl)
theorem w78 : Cond.lays "EntryTables$Key" "EntryTables$Key" "maskB" "I" ∈ TG := List.mem_append_left _ (List.mem_of_getElem? (i := 7) rfl)
theorem w101 : Cond.lays "EntryTables$Doing" "EntryTables$Doing" "kind" "I" ∈ TG := List.mem_append_left _ (List.mem_of_getElem? (i := 8) rfl)
theorem w103 : Cond.lays "EntryTables$Doing" "EntryTables$Doing" "x" "I" ∈ TG := List.mem_append_left _ (List.mem_of_getElem? (i := 9) rfl)
theorem w105 : Cond.lays "EntryTables$Doing" "EntryTables$Doing" "y" "I" ∈ TG := List.mem_append_left _ (List.mem_of_getElem? (i := 10) rfl)
theorem w107 : Cond.lays "EntryTables$Doing" "EntryTables$Doing" "z" "I" ∈ TG := List.mem_append_left _ (List.mem_of_getElem? (i := 11) rfl)
theorem w114 : Cond.laysFinal "EntryTables$Action" "EntryTables$Action" "doings" "[LEntryTables$Doing;" ∈ TG := List.mem_append_left _ (List.mem_of_getElem? (i := 12) rfl)
theorem w116 : Cond.lays "EntryTables$Action" "EntryTables$Action" "count" "I" ∈ TG := List.mem_append_left _ (List.mem_of_getElem? (i := 13) rfl)
theorem w144 : Cond.laysFinal "EntryTables$Entry" "EntryTables$Entry" "key" "LEntryTables$Key;" ∈ TG := List.mem_append_left _ (List.mem_of_getElem? (i := 14) rfl)
theorem w146 : Cond.lays "EntryTables$Entry" "EntryTables$Entry" "priority" "I" ∈ TG := List.mem_append_left _ (List.mem_of_getElem? (i := 15) rfl)
theorem w148 : Cond.lays "EntryTables$Entry" "EntryTables$Entry" "action" "I" ∈ TG := List.mem_append_left _ (List.mem_of_getElem? (i := 16) rfl)
theorem w150 : Cond.lays "EntryTables$Entry" "EntryTables$Entry" "first" "I" ∈ TG := List.mem_append_left _ (List.mem_of_getElem? (i := 17) rfl)
theorem w152 : Cond.lays "EntryTables$Entry" "EntryTables$Entry" "second" "I" ∈ TG := List.mem_append_left _ (List.mem_of_getElem? (i := 18) rfl)
theorem w168 : Cond.laysFinal "EntryTables$Table" "EntryTables$Table" "rows" "[LEntryTables$Entry;" ∈ TG := List.mem_append_left _ (List.mem_of_getElem? (i := 19) rfl)
theorem w170 : Cond.lays "EntryTables$Table" "EntryTables$Table" "count" "I" ∈ TG := List.mem_append_left _ (List.mem_of_getElem? (i := 20) rfl)
theorem w172 : Cond.lays "EntryTables$Table" "EntryTables$Table" "f" "I" ∈ TG := List.mem_append_left _ (List.mem_of_getElem? (i := 21) rfl)
theorem w174 : Cond.lays "EntryTables$Table" "EntryTables$Table" "g" "I" ∈ TG := List.mem_append_left _ (List.mem_of_getElem? (i := 22) rfl)
theorem w176 : Cond.lays "EntryTables$Table" "EntryTables$Table" "howF" "I" ∈ TG := List.mem_append_left _ (List.mem_of_getElem? (i := 23) rfl)
theorem w178 : Cond.lays "EntryTables$Table" "EntryTables$Table" "howG" "I" ∈ TG := List.mem_append_left _ (List.mem_of_getElem? (i := 24) rfl)
theorem w180 : Cond.lays "EntryTables$Table" "EntryTables$Table" "onesF" "I" ∈ TG := List.mem_append_left _ (List.mem_of_getElem? (i := 25) rfl)
theorem w182 : Cond.lays "EntryTables$Table" "EntryTables$Table" "onesG" "I" ∈ TG := List.mem_append_left _ (List.mem_of_getElem? (i := 26) rfl)
theorem w184 : Cond.lays "EntryTables$Table" "EntryTables$Table" "allowed" "I" ∈ TG := List.mem_append_left _ (List.mem_of_getElem? (i := 27) rfl)
theorem w186 : Cond.lays "EntryTables$Table" "EntryTables$Table" "miss" "I" ∈ TG := List.mem_append_left _ (List.mem_of_getElem? (i := 28) rfl)
theorem w188 : Cond.laysFinal "EntryTables$Table" "EntryTables$Table" "sought" "LEntryTables$Key;" ∈ TG := List.mem_append_left _ (List.mem_of_getElem? (i := 29) rfl)
theorem w200 : Cond.laysFinal "EntryTables" "EntryTables" "fields" "LEntryTables$Fields;" ∈ TG := List.mem_append_left _ (List.mem_of_getElem? (i := 30) rfl)
theorem w202 : Cond.laysFinal "EntryTables" "EntryTables" "counts" "LEntryTables$Counts;" ∈ TG := List.mem_append_left _ (List.mem_of_getElem? (i := 31) rfl)
theorem w204 : Cond.laysFinal "EntryTables" "EntryTables" "actionRows" "[LEntryTables$Action;" ∈ TG := List.mem_append_left _ (List.mem_of_getElem? (i := 32) rfl)
theorem w206 : Cond.lays "EntryTables" "EntryTables" "actionCount" "I" ∈ TG := List.mem_append_left _ (List.mem_of_getElem? (i := 33) rfl)
theorem w208 : Cond.laysFinal "EntryTables" "EntryTables" "tableRows" "[LEntryTables$Table;" ∈ TG := List.mem_append_left _ (List.mem_of_getElem? (i := 34) rfl)
theorem w210 : Cond.lays "EntryTables" "EntryTables" "tableCount" "I" ∈ TG := List.mem_append_left _ (List.mem_of_getElem? (i := 35) rfl)
theorem w212 : Cond.laysFinal "EntryTables" "EntryTables" "latestKey" "LEntryTables$Key;" ∈ TG := List.mem_append_left _ (List.mem_of_getElem? (i := 36) rfl)
theorem w214 : Cond.lays "EntryTables" "EntryTables" "latestPort" "I" ∈ TG := List.mem_append_left _ (List.mem_of_getElem? (i := 37) rfl)
theorem w216 : Cond.lays "EntryTables" "EntryTables" "latestDrop" "Z" ∈ TG := List.mem_append_left _ (List.mem_of_getElem? (i := 38) rfl)
theorem w621 : Cond.lays "EntryTablesModel" "EntryTablesModel" "thrownCode" "I" ∈ TG := List.mem_append_left _ (List.mem_of_getElem? (i := 39) rfl)
theorem w623 : Cond.lays "EntryTablesModel" "EntryTablesModel" "fields" "I" ∈ TG := List.mem_append_left _ (List.mem_of_getElem? (i := 40) rfl)
theorem w625 : Cond.laysFinal "EntryTablesModel" "EntryTablesModel" "width" "[I" ∈ TG := List.mem_append_left _ (List.mem_of_getElem? (i := 41) rfl)
theorem w627 : Cond.laysFinal "EntryTablesModel" "EntryTablesModel" "held" "[I" ∈ TG := List.mem_append_left _ (List.mem_of_getElem? (i := 42) rfl)
theorem w629 : Cond.lays "EntryTablesModel" "EntryTablesModel" "actions" "I" ∈ TG := List.mem_append_left _ (List.mem_of_getElem? (i := 43) rfl)
theorem w631 : Cond.laysFinal "EntryTablesModel" "EntryTablesModel" "doings" "[I" ∈ TG := List.mem_append_left _ (List.mem_of_getElem? (i := 44) rfl)
theorem w633 : Cond.laysFinal "EntryTablesModel" "EntryTablesModel" "doing" "[I" ∈ TG := List.mem_append_left _ (List.mem_of_getElem? (i := 45) rfl)
theorem w635 : Cond.laysFinal "EntryTablesModel" "EntryTablesModel" "array" "[I" ∈ TG := List.mem_append_left _ (List.mem_of_getElem? (i := 46) rfl)
theorem w637 : Cond.lays "EntryTablesModel" "EntryTablesModel" "tables" "I" ∈ TG := List.mem_append_left _ (List.mem_of_getElem? (i := 47) rfl)
theorem w639 : Cond.laysFinal "EntryTablesModel" "EntryTablesModel" "one" "[I" ∈ TG := List.mem_append_left _ (List.mem_of_getElem? (i := 48) rfl)
theorem w641 : Cond.laysFinal "EntryTablesModel" "EntryTablesModel" "two" "[I" ∈ TG := List.mem_append_left _ (List.mem_of_getElem? (i := 49) rfl)
theorem w643 : Cond.laysFinal "EntryTablesModel" "EntryTablesModel" "how" "[I" ∈ TG := List.mem_append_left _ (List.mem_of_getElem? (i := 50) rfl)
theorem w645 : Cond.laysFinal "EntryTablesModel" "EntryTablesModel" "may" "[I" ∈ TG := List.mem_append_left _ (List.mem_of_getElem? (i := 51) rfl)
theorem w647 : Cond.laysFinal "EntryTablesModel" "EntryTablesModel" "miss" "[I" ∈ TG := List.mem_append_left _ (List.mem_of_getElem? (i := 52) rfl)
theorem w649 : Cond.laysFinal "EntryTablesModel" "EntryTablesModel" "count" "[I" ∈ TG := List.mem_append_left _ (List.mem_of_getElem? (i := 53) rfl)
theorem w651 : Cond.laysFinal "EntryTablesModel" "EntryTablesModel" "entry" "[I" ∈ TG := List.mem_append_left _ (List.mem_of_getElem? (i := 54) rfl)
theorem w653 : Cond.laysFinal "EntryTablesModel" "EntryTablesModel" "key" "[I" ∈ TG := List.mem_append_left _ (List.mem_of_getElem? (i := 55) rfl)
theorem w655 : Cond.laysFinal "EntryTablesModel" "EntryTablesModel" "now" "[I" ∈ TG := List.mem_append_left _ (List.mem_of_getElem? (i := 56) rfl)
theorem w657 : Cond.lays "EntryTablesModel" "EntryTablesModel" "port" "I" ∈ TG := List.mem_append_left _ (List.mem_of_getElem? (i := 57) rfl)
theorem w659 : Cond.lays "EntryTablesModel" "EntryTablesModel" "dropped" "Z" ∈ TG := List.mem_append_left _ (List.mem_of_getElem? (i := 58) rfl)
theorem wp0 : Cond.selects "EntryTables" y_X_isTable y_X_isTable ∈ TG := List.mem_append_left _ (List.mem_of_getElem? (i := 59) rfl)
theorem wp1 : Cond.selects "EntryTables$Table" y_T_isBetter y_T_isBetter ∈ TG := List.mem_append_right _ (List.mem_append_left _ (List.mem_of_getElem? (i := 0) rfl))
theorem wp2 : Cond.selects "EntryTables$Table" y_T_prefixOnes y_T_prefixOnes ∈ TG := List.mem_append_right _ (List.mem_append_left _ (List.mem_of_getElem? (i := 1) rfl))
theorem wp3 : Cond.selects "java/lang/Throwable" y_JT_fillInStackTrace y_JT_fillInStackTrace ∈ TG := List.mem_append_right _ (List.mem_append_left _ (List.mem_of_getElem? (i := 2) rfl))
theorem wp4 : Cond.selects "EntryTables" y_X_isAction y_X_isAction ∈ TG := List.mem_append_right _ (List.mem_append_left _ (List.mem_of_getElem? (i := 3) rfl))
theorem wp5 : Cond.selects "EntryTables" y_X_areOperands y_X_areOperands ∈ TG := List.mem_append_right _ (List.mem_append_left _ (List.mem_of_getElem? (i := 4) rfl))
theorem wp6 : Cond.selects "EntryTables" y_X_areKeyFields y_X_areKeyFields ∈ TG := List.mem_append_right _ (List.mem_append_left _ (List.mem_of_getElem? (i := 5) rfl))
theorem wp7 : Cond.selects "EntryTables" y_X_areActions y_X_areActions ∈ TG := List.mem_append_right _ (List.mem_append_left _ (List.mem_of_getElem? (i := 6) rfl))
theorem wp8 : Cond.selects "EntryTables$Table" y_T_seek y_T_seek ∈ TG := List.mem_append_right _ (List.mem_append_left _ (List.mem_of_getElem? (i := 7) rfl))
theorem wp9 : Cond.selects "EntryTables$Table" y_T_areMasks y_T_areMasks ∈ TG := List.mem_append_right _ (List.mem_append_left _ (List.mem_of_getElem? (i := 8) rfl))
theorem wp10 : Cond.selects "EntryTables$Table" y_T_isAllowed y_T_isAllowed ∈ TG := List.mem_append_right _ (List.mem_append_left _ (List.mem_of_getElem? (i := 9) rfl))
theorem wp11 : Cond.selects "EntryTables$Table" y_T_rowOfSought y_T_rowOfSought ∈ TG := List.mem_append_right _ (List.mem_append_left _ (List.mem_of_getElem? (i := 10) rfl))
theorem wp12 : Cond.selects "EntryTables" y_X_doAction y_X_doAction ∈ TG := List.mem_append_right _ (List.mem_append_left _ (List.mem_of_getElem? (i := 11) rfl))
theorem wp13 : Cond.selects "EntryTables" y_X_doOne y_X_doOne ∈ TG := List.mem_append_right _ (List.mem_append_left _ (List.mem_of_getElem? (i := 12) rfl))
theorem wp14 : Cond.selects "EntryTables" y_X_wordNumber y_X_wordNumber ∈ TG := List.mem_append_right _ (List.mem_append_left _ (List.mem_of_getElem? (i := 13) rfl))
theorem wp15 : Cond.selects "EntryTablesModel" y_M_hold y_M_hold ∈ TG := List.mem_append_right _ (List.mem_append_left _ (List.mem_of_getElem? (i := 14) rfl))
theorem wp16 : Cond.selects "EntryTablesModel" y_M_ones y_M_ones ∈ TG := List.mem_append_right _ (List.mem_append_left _ (List.mem_of_getElem? (i := 15) rfl))
theorem wp17 : Cond.selects "EntryTablesModel" y_M_unknown y_M_unknown ∈ TG := List.mem_append_right _ (List.mem_append_left _ (List.mem_of_getElem? (i := 16) rfl))
theorem wp18 : Cond.selects "EntryTablesModel" y_M_find y_M_find ∈ TG := List.mem_append_right _ (List.mem_append_left _ (List.mem_of_getElem? (i := 17) rfl))
theorem wp19 : Cond.selects "EntryTablesModel" y_M_cut y_M_cut ∈ TG := List.mem_append_right _ (List.mem_append_left _ (List.mem_of_getElem? (i := 18) rfl))
theorem wp20 : Cond.selects "EntryTablesModel" y_M_isMask y_M_isMask ∈ TG := List.mem_append_right _ (List.mem_append_left _ (List.mem_of_getElem? (i := 19) rfl))
theorem wp21 : Cond.selects "EntryTablesModel" y_M_match y_M_match ∈ TG := List.mem_append_right _ (List.mem_append_left _ (List.mem_of_getElem? (i := 20) rfl))
theorem wp22 : Cond.selects "EntryTablesModel" y_M_prefix y_M_prefix ∈ TG := List.mem_append_right _ (List.mem_append_left _ (List.mem_of_getElem? (i := 21) rfl))
theorem wp23 : Cond.selects "EntryTablesModel" y_M_does y_M_does ∈ TG := List.mem_append_right _ (List.mem_append_left _ (List.mem_of_getElem? (i := 22) rfl))
theorem w0 : Cond.initialized "EntryTablesLaw" ∈ TG := List.mem_append_right _ (List.mem_append_left _ (List.mem_of_getElem? (i := 23) rfl))
theorem w1 : Cond.initialized "EntryTables" ∈ TG := List.mem_append_right _ (List.mem_append_left _ (List.mem_of_getElem? (i := 24) rfl))
theorem w2 : Cond.initialized "EntryTables$Fields" ∈ TG := List.mem_append_right _ (List.mem_append_left _ (List.mem_of_getElem? (i := 25) rfl))
theorem w3 : Cond.initialized "EntryTables$Counts" ∈ TG := List.mem_append_right _ (List.mem_append_left _ (List.mem_of_getElem? (i := 26) rfl))
theorem w4 : Cond.initialized "EntryTables$Key" ∈ TG := List.mem_append_right _ (List.mem_append_left _ (List.mem_of_getElem? (i := 27) rfl))
theorem w5 : Cond.initialized "EntryTables$Action" ∈ TG := List.mem_append_right _ (List.mem_append_left _ (List.mem_of_getElem? (i := 28) rfl))
theorem w6 : Cond.initialized "EntryTables$Doing" ∈ TG := List.mem_append_right _ (List.mem_append_left _ (List.mem_of_getElem? (i := 29) rfl))
theorem w7 : Cond.initialized "EntryTables$Table" ∈ TG := List.mem_append_right _ (List.mem_append_left _ (List.mem_of_getElem? (i := 30) rfl))
theorem w8 : Cond.initialized "EntryTables$Entry" ∈ TG := List.mem_append_right _ (List.mem_append_left _ (List.mem_of_getElem? (i := 31) rfl))
theorem w9 : Cond.initialized "EntryTablesModel" ∈ TG := List.mem_append_right _ (List.mem_append_left _ (List.mem_of_getElem? (i := 32) rfl))
theorem w10 : Cond.initialized "java/util/Arrays" ∈ TG := List.mem_append_right _ (List.mem_append_left _ (List.mem_of_getElem? (i := 33) rfl))
theorem w11 : Cond.initialized "java/lang/Throwable" ∈ TG := List.mem_append_right _ (List.mem_append_left _ (List.mem_of_getElem? (i := 34) rfl))
theorem w12 : Cond.initialized "java/lang/Exception" ∈ TG := List.mem_append_right _ (List.mem_append_left _ (List.mem_of_getElem? (i := 35) rfl))
theorem w13 : Cond.initialized "java/lang/RuntimeException" ∈ TG := List.mem_append_right _ (List.mem_append_left _ (List.mem_of_getElem? (i := 36) rfl))
theorem w14 : Cond.initialized "java/lang/IllegalArgumentException" ∈ TG := List.mem_append_right _ (List.mem_append_left _ (List.mem_of_getElem? (i := 37) rfl))
theorem w15 : Cond.initialized "java/lang/IllegalStateException" ∈ TG := List.mem_append_right _ (List.mem_append_left _ (List.mem_of_getElem? (i := 38) rfl))
theorem w16 : Cond.initialized "java/lang/IndexOutOfBoundsException" ∈ TG := List.mem_append_right _ (List.mem_append_left _ (List.mem_of_getElem? (i := 39) rfl))
theorem w17 : Cond.initialized "java/lang/Integer" ∈ TG := List.mem_append_right _ (List.mem_append_left _ (List.mem_of_getElem? (i := 40) rfl))
theorem w18 : Cond.initialized "java/lang/Math" ∈ TG := List.mem_append_right _ (List.mem_append_left _ (List.mem_of_getElem? (i := 41) rfl))
theorem w19 : Cond.classLink "EntryTablesLaw" 8 "EntryTables" ∈ TG := List.mem_append_right _ (List.mem_append_left _ (List.mem_of_getElem? (i := 42) rfl))
theorem w20 : Cond.instantiable "EntryTables" 9 ∈ TG := List.mem_append_right _ (List.mem_append_left _ (List.mem_of_getElem? (i := 43) rfl))
theorem w21 : Cond.methodLink "EntryTablesLaw" 46 y_X_init ∈ TG := List.mem_append_right _ (List.mem_append_left _ (List.mem_of_getElem? (i := 44) rfl))
theorem w22 : Cond.instanceMethod y_X_init ∈ TG := List.mem_append_right _ (List.mem_append_left _ (List.mem_of_getElem? (i := 45) rfl))
theorem w23 : Cond.code y_X_init prog_1_method_1_code 2 none ∈ TG := List.mem_append_right _ (List.mem_append_left _ (List.mem_of_getElem? (i := 46) rfl))
theorem w24 : Cond.methodLink "EntryTables" 1 y_JO_init ∈ TG := List.mem_append_right _ (List.mem_append_left _ (List.mem_of_getElem? (i := 47) rfl))
theorem w25 : Cond.instanceMethod y_JO_init ∈ TG := List.mem_append_right _ (List.mem_append_left _ (List.mem_of_getElem? (i := 48) rfl))
theorem w26 : Cond.code y_JO_init object_method_1_code 1 none ∈ TG := List.mem_append_right _ (List.mem_append_left _ (List.mem_of_getElem? (i := 49) rfl))
theorem w27 : Cond.classLink "EntryTables" 7 "EntryTables$Fields" ∈ TG := List.mem_append_right _ (List.mem_append_left _ (List.mem_of_getElem? (i := 50) rfl))
theorem w28 : Cond.instantiable "EntryTables$Fields" 3 ∈ TG := List.mem_append_right _ (List.mem_append_left _ (List.mem_of_getElem? (i := 51) rfl))
theorem w30 : Cond.instanceMethod y_F_init ∈ TG := List.mem_append_right _ (List.mem_append_left _ (List.mem_of_getElem? (i := 52) rfl))
theorem w31 : Cond.code y_F_init prog_6_method_1_code 1 none ∈ TG := List.mem_append_right _ (List.mem_append_left _ (List.mem_of_getElem? (i := 53) rfl))
theorem w32 : Cond.methodLink "EntryTables$Fields" 3 y_JO_init ∈ TG := List.mem_append_right _ (List.mem_append_left _ (List.mem_of_getElem? (i := 54) rfl))
theorem w33 : Cond.fieldLink "EntryTables$Fields" 9 "EntryTables$Fields" "ones" "[I" ∈ TG := List.mem_append_right _ (List.mem_append_left _ (List.mem_of_getElem? (i := 55) rfl))
theorem w34 : Cond.fieldLink "EntryTables$Fields" 15 "EntryTables$Fields" "words" "[I" ∈ TG := List.mem_append_right _ (List.mem_append_left _ (List.mem_of_getElem? (i := 56) rfl))
theorem w35 : Cond.fieldLink "EntryTables$Fields" 18 "EntryTables$Fields" "count" "I" ∈ TG := List.mem_append_right _ (List.mem_append_left _ (List.mem_of_getElem? (i := 57) rfl))
theorem w37 : Cond.soleField "EntryTables$Fields" "ones" ∈ TG := List.mem_append_right _ (List.mem_append_left _ (List.mem_of_getElem? (i := 58) rfl))
theorem w39 : Cond.soleField "EntryTables$Fields" "words" ∈ TG := List.mem_append_right _ (List.mem_append_left _ (List.mem_of_getElem? (i := 59) rfl))
theorem w41 : Cond.soleField "EntryTables$Fields" "count" ∈ TG := List.mem_append_right _ (List.mem_append_right _ (List.mem_append_left _ (List.mem_of_getElem? (i := 0) rfl)))
theorem w42 : Cond.superclass "EntryTables$Fields" "java/lang/Object" ∈ TG := List.mem_append_right _ (List.mem_append_right _ (List.mem_append_left _ (List.mem_of_getElem? (i := 1) rfl)))
theorem w43 : Cond.arrayClass FieldType.int ∈ TG := List.mem_append_right _ (List.mem_append_right _ (List.mem_append_left _ (List.mem_of_getElem? (i := 2) rfl)))
theorem w44 : Cond.classLink "EntryTables" 16 "EntryTables$Counts" ∈ TG := List.mem_append_right _ (List.mem_append_right _ (List.mem_append_left _ (List.mem_of_getElem? (i := 3) rfl)))
theorem w45 : Cond.instantiable "EntryTables$Counts" 1 ∈ TG := List.mem_append_right _ (List.mem_append_right _ (List.mem_append_left _ (List.mem_of_getElem? (i := 4) rfl)))
theorem w47 : Cond.instanceMethod y_C_init ∈ TG := List.mem_append_right _ (List.mem_append_right _ (List.mem_append_left _ (List.mem_of_getElem? (i := 5) rfl)))
theorem w48 : Cond.code y_C_init prog_3_method_1_code 1 none ∈ TG := List.mem_append_right _ (List.mem_append_right _ (List.mem_append_left _ (List.mem_of_getElem? (i := 6) rfl)))
theorem w49 : Cond.methodLink "EntryTables$Counts" 3 y_JO_init ∈ TG := List.mem_append_right _ (List.mem_append_right _ (List.mem_append_left _ (List.mem_of_getElem? (i := 7) rfl)))
theorem w50 : Cond.fieldLink "EntryTables$Counts" 9 "EntryTables$Counts" "words" "[I" ∈ TG := List.mem_append_right _ (List.mem_append_right _ (List.mem_append_left _ (List.mem_of_getElem? (i := 8) rfl)))
theorem w52 : Cond.soleField "EntryTables$Counts" "words" ∈ TG := List.mem_append_right _ (List.mem_append_right _ (List.mem_append_left _ (List.mem_of_getElem? (i := 9) rfl)))
theorem w53 : Cond.superclass "EntryTables$Counts" "java/lang/Object" ∈ TG := List.mem_append_right _ (List.mem_append_right _ (List.mem_append_left _ (List.mem_of_getElem? (i := 10) rfl)))
theorem w54 : Cond.classLink "EntryTables" 23 "EntryTables$Action" ∈ TG := List.mem_append_right _ (List.mem_append_right _ (List.mem_append_left _ (List.mem_of_getElem? (i := 11) rfl)))
theorem w56 : Cond.classLink "EntryTables" 29 "EntryTables$Table" ∈ TG := List.mem_append_right _ (List.mem_append_right _ (List.mem_append_left _ (List.mem_of_getElem? (i := 12) rfl)))
theorem w58 : Cond.classLink "EntryTables" 35 "EntryTables$Key" ∈ TG := List.mem_append_right _ (List.mem_append_right _ (List.mem_append_left _ (List.mem_of_getElem? (i := 13) rfl)))
theorem w59 : Cond.instantiable "EntryTables$Key" 4 ∈ TG := List.mem_append_right _ (List.mem_append_right _ (List.mem_append_left _ (List.mem_of_getElem? (i := 14) rfl)))
theorem w61 : Cond.instanceMethod y_K_init ∈ TG := List.mem_append_right _ (List.mem_append_right _ (List.mem_append_left _ (List.mem_of_getElem? (i := 15) rfl)))
theorem w62 : Cond.code y_K_init prog_7_method_1_code 1 none ∈ TG := List.mem_append_right _ (List.mem_append_right _ (List.mem_append_left _ (List.mem_of_getElem? (i := 16) rfl)))
theorem w63 : Cond.methodLink "EntryTables$Key" 1 y_JO_init ∈ TG := List.mem_append_right _ (List.mem_append_right _ (List.mem_append_left _ (List.mem_of_getElem? (i := 17) rfl)))
theorem w64 : Cond.fieldLink "EntryTables$Key" 7 "EntryTables$Key" "a" "I" ∈ TG := List.mem_append_right _ (List.mem_append_right _ (List.mem_append_left _ (List.mem_of_getElem? (i := 18) rfl)))
theorem w66 : Cond.fieldLink "EntryTables$Key" 13 "EntryTables$Key" "maskA" "I" ∈ TG := List.mem_append_right _ (List.mem_append_right _ (List.mem_append_left _ (List.mem_of_getElem? (i := 19) rfl)))
theorem w68 : Cond.fieldLink "EntryTables$Key" 16 "EntryTables$Key" "b" "I" ∈ TG := List.mem_append_right _ (List.mem_append_right _ (List.mem_append_left _ (List.mem_of_getElem? (i := 20) rfl)))
theorem w70 : Cond.fieldLink "EntryTables$Key" 19 "EntryTables$Key" "maskB" "I" ∈ TG := List.mem_append_right _ (List.mem_append_right _ (List.mem_append_left _ (List.mem_of_getElem? (i := 21) rfl)))
theorem w73 : Cond.soleField "EntryTables$Key" "a" ∈ TG := List.mem_append_right _ (List.mem_append_right _ (List.mem_append_left _ (List.mem_of_getElem? (i := 22) rfl)))
theorem w75 : Cond.soleField "EntryTables$Key" "maskA" ∈ TG := List.mem_append_right _ (List.mem_append_right _ (List.mem_append_left _ (List.mem_of_getElem? (i := 23) rfl)))
theorem w77 : Cond.soleField "EntryTables$Key" "b" ∈ TG := List.mem_append_right _ (List.mem_append_right _ (List.mem_append_left _ (List.mem_of_getElem? (i := 24) rfl)))
theorem w79 : Cond.soleField "EntryTables$Key" "maskB" ∈ TG := List.mem_append_right _ (List.mem_append_right _ (List.mem_append_left _ (List.mem_of_getElem? (i := 25) rfl)))
theorem w80 : Cond.superclass "EntryTables$Key" "java/lang/Object" ∈ TG := List.mem_append_right _ (List.mem_append_right _ (List.mem_append_left _ (List.mem_of_getElem? (i := 26) rfl)))
theorem w81 : Cond.instantiable "EntryTables$Action" 2 ∈ TG := List.mem_append_right _ (List.mem_append_right _ (List.mem_append_left _ (List.mem_of_getElem? (i := 27) rfl)))
theorem w82 : Cond.methodLink "EntryTables" 42 y_A_init ∈ TG := List.mem_append_right _ (List.mem_append_right _ (List.mem_append_left _ (List.mem_of_getElem? (i := 28) rfl)))
theorem w83 : Cond.instanceMethod y_A_init ∈ TG := List.mem_append_right _ (List.mem_append_right _ (List.mem_append_left _ (List.mem_of_getElem? (i := 29) rfl)))
theorem w84 : Cond.code y_A_init prog_2_method_1_code 2 none ∈ TG := List.mem_append_right _ (List.mem_append_right _ (List.mem_append_left _ (List.mem_of_getElem? (i := 30) rfl)))
theorem w85 : Cond.methodLink "EntryTables$Action" 3 y_JO_init ∈ TG := List.mem_append_right _ (List.mem_append_right _ (List.mem_append_left _ (List.mem_of_getElem? (i := 31) rfl)))
theorem w86 : Cond.classLink "EntryTables$Action" 9 "EntryTables$Doing" ∈ TG := List.mem_append_right _ (List.mem_append_right _ (List.mem_append_left _ (List.mem_of_getElem? (i := 32) rfl)))
theorem w88 : Cond.instantiable "EntryTables$Doing" 4 ∈ TG := List.mem_append_right _ (List.mem_append_right _ (List.mem_append_left _ (List.mem_of_getElem? (i := 33) rfl)))
theorem w90 : Cond.instanceMethod y_D_init ∈ TG := List.mem_append_right _ (List.mem_append_right _ (List.mem_append_left _ (List.mem_of_getElem? (i := 34) rfl)))
theorem w91 : Cond.code y_D_init prog_4_method_1_code 1 none ∈ TG := List.mem_append_right _ (List.mem_append_right _ (List.mem_append_left _ (List.mem_of_getElem? (i := 35) rfl)))
theorem w92 : Cond.methodLink "EntryTables$Doing" 1 y_JO_init ∈ TG := List.mem_append_right _ (List.mem_append_right _ (List.mem_append_left _ (List.mem_of_getElem? (i := 36) rfl)))
theorem w102 : Cond.soleField "EntryTables$Doing" "kind" ∈ TG := List.mem_append_right _ (List.mem_append_right _ (List.mem_append_left _ (List.mem_of_getElem? (i := 37) rfl)))
theorem w104 : Cond.soleField "EntryTables$Doing" "x" ∈ TG := List.mem_append_right _ (List.mem_append_right _ (List.mem_append_left _ (List.mem_of_getElem? (i := 38) rfl)))
theorem w106 : Cond.soleField "EntryTables$Doing" "y" ∈ TG := List.mem_append_right _ (List.mem_append_right _ (List.mem_append_left _ (List.mem_of_getElem? (i := 39) rfl)))
theorem w108 : Cond.soleField "EntryTables$Doing" "z" ∈ TG := List.mem_append_right _ (List.mem_append_right _ (List.mem_append_left _ (List.mem_of_getElem? (i := 40) rfl)))
theorem w109 : Cond.superclass "EntryTables$Doing" "java/lang/Object" ∈ TG := List.mem_append_right _ (List.mem_append_right _ (List.mem_append_left _ (List.mem_of_getElem? (i := 41) rfl)))
theorem w110 : Cond.fieldLink "EntryTables$Action" 11 "EntryTables$Action" "doings" "[LEntryTables$Doing;" ∈ TG := List.mem_append_right _ (List.mem_append_right _ (List.mem_append_left _ (List.mem_of_getElem? (i := 42) rfl)))
theorem w112 : Cond.fieldLink "EntryTables$Action" 18 "EntryTables$Action" "count" "I" ∈ TG := List.mem_append_right _ (List.mem_append_right _ (List.mem_append_left _ (List.mem_of_getElem? (i := 43) rfl)))
theorem w115 : Cond.soleField "EntryTables$Action" "doings" ∈ TG := List.mem_append_right _ (List.mem_append_right _ (List.mem_append_left _ (List.mem_of_getElem? (i := 44) rfl)))
theorem w117 : Cond.soleField "EntryTables$Action" "count" ∈ TG := List.mem_append_right _ (List.mem_append_right _ (List.mem_append_left _ (List.mem_of_getElem? (i := 45) rfl)))
theorem w118 : Cond.superclass "EntryTables$Action" "java/lang/Object" ∈ TG := List.mem_append_right _ (List.mem_append_right _ (List.mem_append_left _ (List.mem_of_getElem? (i := 46) rfl)))
theorem w119 : Cond.instantiable "EntryTables$Table" 11 ∈ TG := List.mem_append_right _ (List.mem_append_right _ (List.mem_append_left _ (List.mem_of_getElem? (i := 47) rfl)))
theorem w120 : Cond.methodLink "EntryTables" 43 y_T_init ∈ TG := List.mem_append_right _ (List.mem_append_right _ (List.mem_append_left _ (List.mem_of_getElem? (i := 48) rfl)))
theorem w121 : Cond.instanceMethod y_T_init ∈ TG := List.mem_append_right _ (List.mem_append_right _ (List.mem_append_left _ (List.mem_of_getElem? (i := 49) rfl)))
theorem w122 : Cond.code y_T_init prog_8_method_1_code 2 none ∈ TG := List.mem_append_right _ (List.mem_append_right _ (List.mem_append_left _ (List.mem_of_getElem? (i := 50) rfl)))
theorem w123 : Cond.methodLink "EntryTables$Table" 3 y_JO_init ∈ TG := List.mem_append_right _ (List.mem_append_right _ (List.mem_append_left _ (List.mem_of_getElem? (i := 51) rfl)))
theorem w124 : Cond.classLink "EntryTables$Table" 9 "EntryTables$Entry" ∈ TG := List.mem_append_right _ (List.mem_append_right _ (List.mem_append_left _ (List.mem_of_getElem? (i := 52) rfl)))
theorem w126 : Cond.classLink "EntryTables$Table" 17 "EntryTables$Key" ∈ TG := List.mem_append_right _ (List.mem_append_right _ (List.mem_append_left _ (List.mem_of_getElem? (i := 53) rfl)))
theorem w128 : Cond.instantiable "EntryTables$Entry" 5 ∈ TG := List.mem_append_right _ (List.mem_append_right _ (List.mem_append_left _ (List.mem_of_getElem? (i := 54) rfl)))
theorem w130 : Cond.instanceMethod y_E_init ∈ TG := List.mem_append_right _ (List.mem_append_right _ (List.mem_append_left _ (List.mem_of_getElem? (i := 55) rfl)))
theorem w131 : Cond.code y_E_init prog_5_method_1_code 1 none ∈ TG := List.mem_append_right _ (List.mem_append_right _ (List.mem_append_left _ (List.mem_of_getElem? (i := 56) rfl)))
theorem w132 : Cond.methodLink "EntryTables$Entry" 1 y_JO_init ∈ TG := List.mem_append_right _ (List.mem_append_right _ (List.mem_append_left _ (List.mem_of_getElem? (i := 57) rfl)))
theorem w133 : Cond.classLink "EntryTables$Entry" 7 "EntryTables$Key" ∈ TG := List.mem_append_right _ (List.mem_append_right _ (List.mem_append_left _ (List.mem_of_getElem? (i := 58) rfl)))
theorem w135 : Cond.fieldLink "EntryTables$Entry" 10 "EntryTables$Entry" "key" "LEntryTables$Key;" ∈ TG := List.mem_append_right _ (List.mem_append_right _ (List.mem_append_left _ (List.mem_of_getElem? (i := 59) rfl)))
theorem w145 : Cond.soleField "EntryTables$Entry" "key" ∈ TG := List.mem_append_right _ (List.mem_append_right _ (List.mem_append_right _ (List.mem_append_left _ (List.mem_of_getElem? (i := 0) rfl))))
theorem w147 : Cond.soleField "EntryTables$Entry" "priority" ∈ TG := List.mem_append_right _ (List.mem_append_right _ (List.mem_append_right _ (List.mem_append_left _ (List.mem_of_getElem? (i := 1) rfl))))
theorem w149 : Cond.soleField "EntryTables$Entry" "action" ∈ TG := List.mem_append_right _ (List.mem_append_right _ (List.mem_append_right _ (List.mem_append_left _ (List.mem_of_getElem? (i := 2) rfl))))
theorem w151 : Cond.soleField "EntryTables$Entry" "first" ∈ TG := List.mem_append_right _ (List.mem_append_right _ (List.mem_append_right _ (List.mem_append_left _ (List.mem_of_getElem? (i := 3) rfl))))
theorem w153 : Cond.soleField "EntryTables$Entry" "second" ∈ TG := List.mem_append_right _ (List.mem_append_right _ (List.mem_append_right _ (List.mem_append_left _ (List.mem_of_getElem? (i := 4) rfl))))
theorem w154 : Cond.superclass "EntryTables$Entry" "java/lang/Object" ∈ TG := List.mem_append_right _ (List.mem_append_right _ (List.mem_append_right _ (List.mem_append_left _ (List.mem_of_getElem? (i := 5) rfl))))
theorem w155 : Cond.fieldLink "EntryTables$Table" 11 "EntryTables$Table" "rows" "[LEntryTables$Entry;" ∈ TG := List.mem_append_right _ (List.mem_append_right _ (List.mem_append_right _ (List.mem_append_left _ (List.mem_of_getElem? (i := 6) rfl))))
theorem w156 : Cond.fieldLink "EntryTables$Table" 38 "EntryTables$Table" "count" "I" ∈ TG := List.mem_append_right _ (List.mem_append_right _ (List.mem_append_right _ (List.mem_append_left _ (List.mem_of_getElem? (i := 7) rfl))))
theorem w158 : Cond.fieldLink "EntryTables$Table" 25 "EntryTables$Table" "f" "I" ∈ TG := List.mem_append_right _ (List.mem_append_right _ (List.mem_append_right _ (List.mem_append_left _ (List.mem_of_getElem? (i := 8) rfl))))
theorem w159 : Cond.fieldLink "EntryTables$Table" 29 "EntryTables$Table" "g" "I" ∈ TG := List.mem_append_right _ (List.mem_append_right _ (List.mem_append_right _ (List.mem_append_left _ (List.mem_of_getElem? (i := 9) rfl))))
theorem w160 : Cond.fieldLink "EntryTables$Table" 32 "EntryTables$Table" "howF" "I" ∈ TG := List.mem_append_right _ (List.mem_append_right _ (List.mem_append_right _ (List.mem_append_left _ (List.mem_of_getElem? (i := 10) rfl))))
theorem w161 : Cond.fieldLink "EntryTables$Table" 35 "EntryTables$Table" "howG" "I" ∈ TG := List.mem_append_right _ (List.mem_append_right _ (List.mem_append_right _ (List.mem_append_left _ (List.mem_of_getElem? (i := 11) rfl))))
theorem w162 : Cond.fieldLink "EntryTables$Table" 41 "EntryTables$Table" "onesF" "I" ∈ TG := List.mem_append_right _ (List.mem_append_right _ (List.mem_append_right _ (List.mem_append_left _ (List.mem_of_getElem? (i := 12) rfl))))
theorem w163 : Cond.fieldLink "EntryTables$Table" 44 "EntryTables$Table" "onesG" "I" ∈ TG := List.mem_append_right _ (List.mem_append_right _ (List.mem_append_right _ (List.mem_append_left _ (List.mem_of_getElem? (i := 13) rfl))))
theorem w164 : Cond.fieldLink "EntryTables$Table" 47 "EntryTables$Table" "allowed" "I" ∈ TG := List.mem_append_right _ (List.mem_append_right _ (List.mem_append_right _ (List.mem_append_left _ (List.mem_of_getElem? (i := 14) rfl))))
theorem w165 : Cond.fieldLink "EntryTables$Table" 50 "EntryTables$Table" "miss" "I" ∈ TG := List.mem_append_right _ (List.mem_append_right _ (List.mem_append_right _ (List.mem_append_left _ (List.mem_of_getElem? (i := 15) rfl))))
theorem w167 : Cond.fieldLink "EntryTables$Table" 20 "EntryTables$Table" "sought" "LEntryTables$Key;" ∈ TG := List.mem_append_right _ (List.mem_append_right _ (List.mem_append_right _ (List.mem_append_left _ (List.mem_of_getElem? (i := 16) rfl))))
theorem w169 : Cond.soleField "EntryTables$Table" "rows" ∈ TG := List.mem_append_right _ (List.mem_append_right _ (List.mem_append_right _ (List.mem_append_left _ (List.mem_of_getElem? (i := 17) rfl))))
theorem w171 : Cond.soleField "EntryTables$Table" "count" ∈ TG := List.mem_append_right _ (List.mem_append_right _ (List.mem_append_right _ (List.mem_append_left _ (List.mem_of_getElem? (i := 18) rfl))))
theorem w173 : Cond.soleField "EntryTables$Table" "f" ∈ TG := List.mem_append_right _ (List.mem_append_right _ (List.mem_append_right _ (List.mem_append_left _ (List.mem_of_getElem? (i := 19) rfl))))
theorem w175 : Cond.soleField "EntryTables$Table" "g" ∈ TG := List.mem_append_right _ (List.mem_append_right _ (List.mem_append_right _ (List.mem_append_left _ (List.mem_of_getElem? (i := 20) rfl))))
theorem w177 : Cond.soleField "EntryTables$Table" "howF" ∈ TG := List.mem_append_right _ (List.mem_append_right _ (List.mem_append_right _ (List.mem_append_left _ (List.mem_of_getElem? (i := 21) rfl))))
theorem w179 : Cond.soleField "EntryTables$Table" "howG" ∈ TG := List.mem_append_right _ (List.mem_append_right _ (List.mem_append_right _ (List.mem_append_left _ (List.mem_of_getElem? (i := 22) rfl))))
theorem w181 : Cond.soleField "EntryTables$Table" "onesF" ∈ TG := List.mem_append_right _ (List.mem_append_right _ (List.mem_append_right _ (List.mem_append_left _ (List.mem_of_getElem? (i := 23) rfl))))
theorem w183 : Cond.soleField "EntryTables$Table" "onesG" ∈ TG := List.mem_append_right _ (List.mem_append_right _ (List.mem_append_right _ (List.mem_append_left _ (List.mem_of_getElem? (i := 24) rfl))))
theorem w185 : Cond.soleField "EntryTables$Table" "allowed" ∈ TG := List.mem_append_right _ (List.mem_append_right _ (List.mem_append_right _ (List.mem_append_left _ (List.mem_of_getElem? (i := 25) rfl))))
theorem w187 : Cond.soleField "EntryTables$Table" "miss" ∈ TG := List.mem_append_right _ (List.mem_append_right _ (List.mem_append_right _ (List.mem_append_left _ (List.mem_of_getElem? (i := 26) rfl))))
theorem w189 : Cond.soleField "EntryTables$Table" "sought" ∈ TG := List.mem_append_right _ (List.mem_append_right _ (List.mem_append_right _ (List.mem_append_left _ (List.mem_of_getElem? (i := 27) rfl))))
theorem w190 : Cond.superclass "EntryTables$Table" "java/lang/Object" ∈ TG := List.mem_append_right _ (List.mem_append_right _ (List.mem_append_right _ (List.mem_append_left _ (List.mem_of_getElem? (i := 28) rfl))))
theorem w191 : Cond.fieldLink "EntryTables" 10 "EntryTables" "fields" "LEntryTables$Fields;" ∈ TG := List.mem_append_right _ (List.mem_append_right _ (List.mem_append_right _ (List.mem_append_left _ (List.mem_of_getElem? (i := 29) rfl))))
theorem w192 : Cond.fieldLink "EntryTables" 19 "EntryTables" "counts" "LEntryTables$Counts;" ∈ TG := List.mem_append_right _ (List.mem_append_right _ (List.mem_append_right _ (List.mem_append_left _ (List.mem_of_getElem? (i := 30) rfl))))
theorem w193 : Cond.fieldLink "EntryTables" 25 "EntryTables" "actionRows" "[LEntryTables$Action;" ∈ TG := List.mem_append_right _ (List.mem_append_right _ (List.mem_append_right _ (List.mem_append_left _ (List.mem_of_getElem? (i := 31) rfl))))
theorem w194 : Cond.fieldLink "EntryTables" 48 "EntryTables" "actionCount" "I" ∈ TG := List.mem_append_right _ (List.mem_append_right _ (List.mem_append_right _ (List.mem_append_left _ (List.mem_of_getElem? (i := 32) rfl))))
theorem w195 : Cond.fieldLink "EntryTables" 31 "EntryTables" "tableRows" "[LEntryTables$Table;" ∈ TG := List.mem_append_right _ (List.mem_append_right _ (List.mem_append_right _ (List.mem_append_left _ (List.mem_of_getElem? (i := 33) rfl))))
theorem w196 : Cond.fieldLink "EntryTables" 52 "EntryTables" "tableCount" "I" ∈ TG := List.mem_append_right _ (List.mem_append_right _ (List.mem_append_right _ (List.mem_append_left _ (List.mem_of_getElem? (i := 34) rfl))))
theorem w197 : Cond.fieldLink "EntryTables" 38 "EntryTables" "latestKey" "LEntryTables$Key;" ∈ TG := List.mem_append_right _ (List.mem_append_right _ (List.mem_append_right _ (List.mem_append_left _ (List.mem_of_getElem? (i := 35) rfl))))
theorem w198 : Cond.fieldLink "EntryTables" 59 "EntryTables" "latestPort" "I" ∈ TG := List.mem_append_right _ (List.mem_append_right _ (List.mem_append_right _ (List.mem_append_left _ (List.mem_of_getElem? (i := 36) rfl))))
theorem w199 : Cond.fieldLink "EntryTables" 62 "EntryTables" "latestDrop" "Z" ∈ TG := List.mem_append_right _ (List.mem_append_right _ (List.mem_append_right _ (List.mem_append_left _ (List.mem_of_getElem? (i := 37) rfl))))
theorem w201 : Cond.soleField "EntryTables" "fields" ∈ TG := List.mem_append_right _ (List.mem_append_right _ (List.mem_append_right _ (List.mem_append_left _ (List.mem_of_getElem? (i := 38) rfl))))
theorem w203 : Cond.soleField "EntryTables" "counts" ∈ TG := List.mem_append_right _ (List.mem_append_right _ (List.mem_append_right _ (List.mem_append_left _ (List.mem_of_getElem? (i := 39) rfl))))
theorem w205 : Cond.soleField "EntryTables" "actionRows" ∈ TG := List.mem_append_right _ (List.mem_append_right _ (List.mem_append_right _ (List.mem_append_left _ (List.mem_of_getElem? (i := 40) rfl))))
theorem w207 : Cond.soleField "EntryTables" "actionCount" ∈ TG := List.mem_append_right _ (List.mem_append_right _ (List.mem_append_right _ (List.mem_append_left _ (List.mem_of_getElem? (i := 41) rfl))))
theorem w209 : Cond.soleField "EntryTables" "tableRows" ∈ TG := List.mem_append_right _ (List.mem_append_right _ (List.mem_append_right _ (List.mem_append_left _ (List.mem_of_getElem? (i := 42) rfl))))
theorem w211 : Cond.soleField "EntryTables" "tableCount" ∈ TG := List.mem_append_right _ (List.mem_append_right _ (List.mem_append_right _ (List.mem_append_left _ (List.mem_of_getElem? (i := 43) rfl))))
theorem w213 : Cond.soleField "EntryTables" "latestKey" ∈ TG := List.mem_append_right _ (List.mem_append_right _ (List.mem_append_right _ (List.mem_append_left _ (List.mem_of_getElem? (i := 44) rfl))))
theorem w215 : Cond.soleField "EntryTables" "latestPort" ∈ TG := List.mem_append_right _ (List.mem_append_right _ (List.mem_append_right _ (List.mem_append_left _ (List.mem_of_getElem? (i := 45) rfl))))
theorem w217 : Cond.soleField "EntryTables" "latestDrop" ∈ TG := List.mem_append_right _ (List.mem_append_right _ (List.mem_append_right _ (List.mem_append_left _ (List.mem_of_getElem? (i := 46) rfl))))
theorem w218 : Cond.superclass "EntryTables" "java/lang/Object" ∈ TG := List.mem_append_right _ (List.mem_append_right _ (List.mem_append_right _ (List.mem_append_left _ (List.mem_of_getElem? (i := 47) rfl))))
theorem w219 : Cond.methodLink "EntryTablesLaw" 50 y_X_clear ∈ TG := List.mem_append_right _ (List.mem_append_right _ (List.mem_append_right _ (List.mem_append_left _ (List.mem_of_getElem? (i := 48) rfl))))
theorem w220 : Cond.instanceMethod y_X_clear ∈ TG := List.mem_append_right _ (List.mem_append_right _ (List.mem_append_right _ (List.mem_append_left _ (List.mem_of_getElem? (i := 49) rfl))))
theorem w221 : Cond.selects "EntryTables" y_X_clear y_X_clear ∈ TG := List.mem_append_right _ (List.mem_append_right _ (List.mem_append_right _ (List.mem_append_left _ (List.mem_of_getElem? (i := 50) rfl))))
theorem w222 : Cond.code y_X_clear prog_1_method_2_code 1 none ∈ TG := List.mem_append_right _ (List.mem_append_right _ (List.mem_append_right _ (List.mem_append_left _ (List.mem_of_getElem? (i := 51) rfl))))
theorem w223 : Cond.methodLink "EntryTables" 44 y_F_forget ∈ TG := List.mem_append_right _ (List.mem_append_right _ (List.mem_append_right _ (List.mem_append_left _ (List.mem_of_getElem? (i := 52) rfl))))
theorem w224 : Cond.instanceMethod y_F_forget ∈ TG := List.mem_append_right _ (List.mem_append_right _ (List.mem_append_right _ (List.mem_append_left _ (List.mem_of_getElem? (i := 53) rfl))))
theorem w225 : Cond.selects "EntryTables$Fields" y_F_forget y_F_forget ∈ TG := List.mem_append_right _ (List.mem_append_right _ (List.mem_append_right _ (List.mem_append_left _ (List.mem_of_getElem? (i := 54) rfl))))
theorem w226 : Cond.code y_F_forget prog_6_method_2_code 1 none ∈ TG := List.mem_append_right _ (List.mem_append_right _ (List.mem_append_right _ (List.mem_append_left _ (List.mem_of_getElem? (i := 55) rfl))))
theorem w227 : Cond.methodLink "EntryTables" 47 y_C_forget ∈ TG := List.mem_append_right _ (List.mem_append_right _ (List.mem_append_right _ (List.mem_append_left _ (List.mem_of_getElem? (i := 56) rfl))))
theorem w228 : Cond.instanceMethod y_C_forget ∈ TG := List.mem_append_right _ (List.mem_append_right _ (List.mem_append_right _ (List.mem_append_left _ (List.mem_of_getElem? (i := 57) rfl))))
theorem w229 : Cond.selects "EntryTables$Counts" y_C_forget y_C_forget ∈ TG := List.mem_append_right _ (List.mem_append_right _ (List.mem_append_right _ (List.mem_append_left _ (List.mem_of_getElem? (i := 58) rfl))))
theorem w230 : Cond.code y_C_forget prog_3_method_2_code 1 none ∈ TG := List.mem_append_right _ (List.mem_append_right _ (List.mem_append_right _ (List.mem_append_left _ (List.mem_of_getElem? (i := 59) rfl))))
theorem w231 : Cond.methodLink "EntryTables$Counts" 15 y_JA_fill ∈ TG := List.mem_append_right _ (List.mem_append_right _ (List.mem_append_right _ (List.mem_append_right _ (List.mem_append_left _ (List.mem_of_getElem? (i := 0) rfl)))))
theorem w232 : Cond.static y_JA_fill ∈ TG := List.mem_append_right _ (List.mem_append_right _ (List.mem_append_right _ (List.mem_append_right _ (List.mem_append_left _ (List.mem_of_getElem? (i := 1) rfl)))))
theorem w233 : Cond.code y_JA_fill prog_20_method_103_code 4 none ∈ TG := List.mem_append_right _ (List.mem_append_right _ (List.mem_append_right _ (List.mem_append_right _ (List.mem_append_left _ (List.mem_of_getElem? (i := 2) rfl)))))
theorem w234 : Cond.methodLink "EntryTables" 55 y_K_hold ∈ TG := List.mem_append_right _ (List.mem_append_right _ (List.mem_append_right _ (List.mem_append_right _ (List.mem_append_left _ (List.mem_of_getElem? (i := 3) rfl)))))
theorem w235 : Cond.instanceMethod y_K_hold ∈ TG := List.mem_append_right _ (List.mem_append_right _ (List.mem_append_right _ (List.mem_append_right _ (List.mem_append_left _ (List.mem_of_getElem? (i := 4) rfl)))))
theorem w236 : Cond.selects "EntryTables$Key" y_K_hold y_K_hold ∈ TG := List.mem_append_right _ (List.mem_append_right _ (List.mem_append_right _ (List.mem_append_right _ (List.mem_append_left _ (List.mem_of_getElem? (i := 5) rfl)))))
theorem w237 : Cond.code y_K_hold prog_7_method_2_code 5 none ∈ TG := List.mem_append_right _ (List.mem_append_right _ (List.mem_append_right _ (List.mem_append_right _ (List.mem_append_left _ (List.mem_of_getElem? (i := 6) rfl)))))
theorem w238 : Cond.methodLink "EntryTablesLaw" 67 y_X_get ∈ TG := List.mem_append_right _ (List.mem_append_right _ (List.mem_append_right _ (List.mem_append_right _ (List.mem_append_left _ (List.mem_of_getElem? (i := 7) rfl)))))
theorem w239 : Cond.instanceMethod y_X_get ∈ TG := List.mem_append_right _ (List.mem_append_right _ (List.mem_append_right _ (List.mem_append_right _ (List.mem_append_left _ (List.mem_of_getElem? (i := 8) rfl)))))
theorem w240 : Cond.selects "EntryTables" y_X_get y_X_get ∈ TG := List.mem_append_right _ (List.mem_append_right _ (List.mem_append_right _ (List.mem_append_right _ (List.mem_append_left _ (List.mem_of_getElem? (i := 9) rfl)))))
theorem w241 : Cond.code y_X_get prog_1_method_5_code 2 (some FieldType.int) ∈ TG := List.mem_append_right _ (List.mem_append_right _ (List.mem_append_right _ (List.mem_append_right _ (List.mem_append_left _ (List.mem_of_getElem? (i := 10) rfl)))))
theorem w242 : Cond.methodLink "EntryTables" 99 y_F_read ∈ TG := List.mem_append_right _ (List.mem_append_right _ (List.mem_append_right _ (List.mem_append_right _ (List.mem_append_left _ (List.mem_of_getElem? (i := 11) rfl)))))
theorem w243 : Cond.instanceMethod y_F_read ∈ TG := List.mem_append_right _ (List.mem_append_right _ (List.mem_append_right _ (List.mem_append_right _ (List.mem_append_left _ (List.mem_of_getElem? (i := 12) rfl)))))
theorem w244 : Cond.selects "EntryTables$Fields" y_F_read y_F_read ∈ TG := List.mem_append_right _ (List.mem_append_right _ (List.mem_append_right _ (List.mem_append_right _ (List.mem_append_left _ (List.mem_of_getElem? (i := 13) rfl)))))
theorem w245 : Cond.code y_F_read prog_6_method_7_code 2 (some FieldType.int) ∈ TG := List.mem_append_right _ (List.mem_append_right _ (List.mem_append_right _ (List.mem_append_right _ (List.mem_append_left _ (List.mem_of_getElem? (i := 14) rfl)))))
theorem w246 : Cond.methodLink "EntryTables$Fields" 26 y_F_isThere ∈ TG := List.mem_append_right _ (List.mem_append_right _ (List.mem_append_right _ (List.mem_append_right _ (List.mem_append_left _ (List.mem_of_getElem? (i := 15) rfl)))))
theorem w247 : Cond.instanceMethod y_F_isThere ∈ TG := List.mem_append_right _ (List.mem_append_right _ (List.mem_append_right _ (List.mem_append_right _ (List.mem_append_left _ (List.mem_of_getElem? (i := 16) rfl)))))
theorem w248 : Cond.selects "EntryTables$Fields" y_F_isThere y_F_isThere ∈ TG := List.mem_append_right _ (List.mem_append_right _ (List.mem_append_right _ (List.mem_append_right _ (List.mem_append_left _ (List.mem_of_getElem? (i := 17) rfl)))))
theorem w249 : Cond.code y_F_isThere prog_6_method_4_code 2 (some FieldType.boolean) ∈ TG := List.mem_append_right _ (List.mem_append_right _ (List.mem_append_right _ (List.mem_append_right _ (List.mem_append_left _ (List.mem_of_getElem? (i := 18) rfl)))))
theorem w250 : Cond.methodLink "EntryTablesLaw" 83 y_X_key ∈ TG := List.mem_append_right _ (List.mem_append_right _ (List.mem_append_right _ (List.mem_append_right _ (List.mem_append_left _ (List.mem_of_getElem? (i := 19) rfl)))))
theorem w251 : Cond.instanceMethod y_X_key ∈ TG := List.mem_append_right _ (List.mem_append_right _ (List.mem_append_right _ (List.mem_append_right _ (List.mem_append_left _ (List.mem_of_getElem? (i := 20) rfl)))))
theorem w252 : Cond.selects "EntryTables" y_X_key y_X_key ∈ TG := List.mem_append_right _ (List.mem_append_right _ (List.mem_append_right _ (List.mem_append_right _ (List.mem_append_left _ (List.mem_of_getElem? (i := 21) rfl)))))
theorem w253 : Cond.code y_X_key prog_1_method_9_code 5 none ∈ TG := List.mem_append_right _ (List.mem_append_right _ (List.mem_append_right _ (List.mem_append_right _ (List.mem_append_left _ (List.mem_of_getElem? (i := 22) rfl)))))
theorem w254 : Cond.methodLink "EntryTablesLaw" 97 y_X_matches ∈ TG := List.mem_append_right _ (List.mem_append_right _ (List.mem_append_right _ (List.mem_append_right _ (List.mem_append_left _ (List.mem_of_getElem? (i := 23) rfl)))))
theorem w255 : Cond.instanceMethod y_X_matches ∈ TG := List.mem_append_right _ (List.mem_append_right _ (List.mem_append_right _ (List.mem_append_right _ (List.mem_append_left _ (List.mem_of_getElem? (i := 24) rfl)))))
theorem w256 : Cond.selects "EntryTables" y_X_matches y_X_matches ∈ TG := List.mem_append_right _ (List.mem_append_right _ (List.mem_append_right _ (List.mem_append_right _ (List.mem_append_left _ (List.mem_of_getElem? (i := 25) rfl)))))
theorem w257 : Cond.code y_X_matches prog_1_method_13_code 3 (some FieldType.int) ∈ TG := List.mem_append_right _ (List.mem_append_right _ (List.mem_append_right _ (List.mem_append_right _ (List.mem_append_left _ (List.mem_of_getElem? (i := 26) rfl)))))
theorem w258 : Cond.methodLink "EntryTables" 149 y_X_isTable ∈ TG := List.mem_append_right _ (List.mem_append_right _ (List.mem_append_right _ (List.mem_append_right _ (List.mem_append_left _ (List.mem_of_getElem? (i := 27) rfl)))))
theorem w260 : Cond.instanceMethod y_X_isTable ∈ TG := List.mem_append_right _ (List.mem_append_right _ (List.mem_append_right _ (List.mem_append_right _ (List.mem_append_left _ (List.mem_of_getElem? (i := 28) rfl)))))
theorem w261 : Cond.code y_X_isTable prog_1_method_19_code 2 (some FieldType.boolean) ∈ TG := List.mem_append_right _ (List.mem_append_right _ (List.mem_append_right _ (List.mem_append_right _ (List.mem_append_left _ (List.mem_of_getElem? (i := 29) rfl)))))
theorem w262 : Cond.methodLink "EntryTables" 162 y_T_bestMatch ∈ TG := List.mem_append_right _ (List.mem_append_right _ (List.mem_append_right _ (List.mem_append_right _ (List.mem_append_left _ (List.mem_of_getElem? (i := 30) rfl)))))
theorem w263 : Cond.instanceMethod y_T_bestMatch ∈ TG := List.mem_append_right _ (List.mem_append_right _ (List.mem_append_right _ (List.mem_append_right _ (List.mem_append_left _ (List.mem_of_getElem? (i := 31) rfl)))))
theorem w264 : Cond.selects "EntryTables$Table" y_T_bestMatch y_T_bestMatch ∈ TG := List.mem_append_right _ (List.mem_append_right _ (List.mem_append_right _ (List.mem_append_right _ (List.mem_append_left _ (List.mem_of_getElem? (i := 32) rfl)))))
theorem w265 : Cond.code y_T_bestMatch prog_8_method_7_code 7 (some (FieldType.object "EntryTables$Entry")) ∈ TG := List.mem_append_right _ (List.mem_append_right _ (List.mem_append_right _ (List.mem_append_right _ (List.mem_append_left _ (List.mem_of_getElem? (i := 33) rfl)))))
theorem w266 : Cond.methodLink "EntryTables$Table" 100 y_F_read ∈ TG := List.mem_append_right _ (List.mem_append_right _ (List.mem_append_right _ (List.mem_append_right _ (List.mem_append_left _ (List.mem_of_getElem? (i := 34) rfl)))))
theorem w267 : Cond.methodLink "EntryTables$Table" 106 y_K_fits ∈ TG := List.mem_append_right _ (List.mem_append_right _ (List.mem_append_right _ (List.mem_append_right _ (List.mem_append_left _ (List.mem_of_getElem? (i := 35) rfl)))))
theorem w268 : Cond.instanceMethod y_K_fits ∈ TG := List.mem_append_right _ (List.mem_append_right _ (List.mem_append_right _ (List.mem_append_right _ (List.mem_append_left _ (List.mem_of_getElem? (i := 36) rfl)))))
theorem w269 : Cond.selects "EntryTables$Key" y_K_fits y_K_fits ∈ TG := List.mem_append_right _ (List.mem_append_right _ (List.mem_append_right _ (List.mem_append_right _ (List.mem_append_left _ (List.mem_of_getElem? (i := 37) rfl)))))
theorem w270 : Cond.code y_K_fits prog_7_method_4_code 3 (some FieldType.boolean) ∈ TG := List.mem_append_right _ (List.mem_append_right _ (List.mem_append_right _ (List.mem_append_right _ (List.mem_append_left _ (List.mem_of_getElem? (i := 38) rfl)))))
theorem w271 : Cond.methodLink "EntryTables$Table" 110 y_T_isBetter ∈ TG := List.mem_append_right _ (List.mem_append_right _ (List.mem_append_right _ (List.mem_append_right _ (List.mem_append_left _ (List.mem_of_getElem? (i := 39) rfl)))))
theorem w273 : Cond.instanceMethod y_T_isBetter ∈ TG := List.mem_append_right _ (List.mem_append_right _ (List.mem_append_right _ (List.mem_append_right _ (List.mem_append_left _ (List.mem_of_getElem? (i := 40) rfl)))))
theorem w274 : Cond.code y_T_isBetter prog_8_method_8_code 5 (some FieldType.boolean) ∈ TG := List.mem_append_right _ (List.mem_append_right _ (List.mem_append_right _ (List.mem_append_right _ (List.mem_append_left _ (List.mem_of_getElem? (i := 41) rfl)))))
theorem w275 : Cond.methodLink "EntryTables$Table" 114 y_T_prefixOnes ∈ TG := List.mem_append_right _ (List.mem_append_right _ (List.mem_append_right _ (List.mem_append_right _ (List.mem_append_left _ (List.mem_of_getElem? (i := 42) rfl)))))
theorem w277 : Cond.instanceMethod y_T_prefixOnes ∈ TG := List.mem_append_right _ (List.mem_append_right _ (List.mem_append_right _ (List.mem_append_right _ (List.mem_append_left _ (List.mem_of_getElem? (i := 43) rfl)))))
theorem w278 : Cond.code y_T_prefixOnes prog_8_method_9_code 2 (some FieldType.int) ∈ TG := List.mem_append_right _ (List.mem_append_right _ (List.mem_append_right _ (List.mem_append_right _ (List.mem_append_left _ (List.mem_of_getElem? (i := 44) rfl)))))
theorem w279 : Cond.methodLink "EntryTables$Table" 118 y_JI_bitCount ∈ TG := List.mem_append_right _ (List.mem_append_right _ (List.mem_append_right _ (List.mem_append_right _ (List.mem_append_left _ (List.mem_of_getElem? (i := 45) rfl)))))
theorem w280 : Cond.static y_JI_bitCount ∈ TG := List.mem_append_right _ (List.mem_append_right _ (List.mem_append_right _ (List.mem_append_right _ (List.mem_append_left _ (List.mem_of_getElem? (i := 46) rfl)))))
theorem w281 : Cond.code y_JI_bitCount prog_15_method_49_code 1 (some FieldType.int) ∈ TG := List.mem_append_right _ (List.mem_append_right _ (List.mem_append_right _ (List.mem_append_right _ (List.mem_append_left _ (List.mem_of_getElem? (i := 47) rfl)))))
theorem w282 : Cond.constant "java/lang/Integer" 265 (1431655765 : Int32) ∈ TG := List.mem_append_right _ (List.mem_append_right _ (List.mem_append_right _ (List.mem_append_right _ (List.mem_append_left _ (List.mem_of_getElem? (i := 48) rfl)))))
theorem w283 : Cond.constant "java/lang/Integer" 266 (858993459 : Int32) ∈ TG := List.mem_append_right _ (List.mem_append_right _ (List.mem_append_right _ (List.mem_append_right _ (List.mem_append_left _ (List.mem_of_getElem? (i := 49) rfl)))))
theorem w284 : Cond.constant "java/lang/Integer" 267 (252645135 : Int32) ∈ TG := List.mem_append_right _ (List.mem_append_right _ (List.mem_append_right _ (List.mem_append_right _ (List.mem_append_left _ (List.mem_of_getElem? (i := 50) rfl)))))
theorem w285 : Cond.methodLink "EntryTablesLaw" 101 y_X_port ∈ TG := List.mem_append_right _ (List.mem_append_right _ (List.mem_append_right _ (List.mem_append_right _ (List.mem_append_left _ (List.mem_of_getElem? (i := 51) rfl)))))
theorem w286 : Cond.instanceMethod y_X_port ∈ TG := List.mem_append_right _ (List.mem_append_right _ (List.mem_append_right _ (List.mem_append_right _ (List.mem_append_left _ (List.mem_of_getElem? (i := 52) rfl)))))
theorem w287 : Cond.selects "EntryTables" y_X_port y_X_port ∈ TG := List.mem_append_right _ (List.mem_append_right _ (List.mem_append_right _ (List.mem_append_right _ (List.mem_append_left _ (List.mem_of_getElem? (i := 53) rfl)))))
theorem w288 : Cond.code y_X_port prog_1_method_14_code 1 (some FieldType.int) ∈ TG := List.mem_append_right _ (List.mem_append_right _ (List.mem_append_right _ (List.mem_append_right _ (List.mem_append_left _ (List.mem_of_getElem? (i := 54) rfl)))))
theorem w289 : Cond.methodLink "EntryTablesLaw" 105 y_X_isDropped ∈ TG := List.mem_append_right _ (List.mem_append_right _ (List.mem_append_right _ (List.mem_append_right _ (List.mem_append_left _ (List.mem_of_getElem? (i := 55) rfl)))))
theorem w290 : Cond.instanceMethod y_X_isDropped ∈ TG := List.mem_append_right _ (List.mem_append_right _ (List.mem_append_right _ (List.mem_append_right _ (List.mem_append_left _ (List.mem_of_getElem? (i := 56) rfl)))))
theorem w291 : Cond.selects "EntryTables" y_X_isDropped y_X_isDropped ∈ TG := List.mem_append_right _ (List.mem_append_right _ (List.mem_append_right _ (List.mem_append_right _ (List.mem_append_left _ (List.mem_of_getElem? (i := 57) rfl)))))
theorem w292 : Cond.code y_X_isDropped prog_1_method_15_code 1 (some FieldType.boolean) ∈ TG := List.mem_append_right _ (List.mem_append_right _ (List.mem_append_right _ (List.mem_append_right _ (List.mem_append_left _ (List.mem_of_getElem? (i := 58) rfl)))))
theorem w293 : Cond.methodLink "EntryTablesLaw" 110 y_X_word ∈ TG := List.mem_append_right _ (List.mem_append_right _ (List.mem_append_right _ (List.mem_append_right _ (List.mem_append_left _ (List.mem_of_getElem? (i := 59) rfl)))))
theorem w294 : Cond.instanceMethod y_X_word ∈ TG := List.mem_append_right _ (List.mem_append_right _ (List.mem_append_right _ (List.mem_append_right _ (List.mem_append_right _ (List.mem_append_left _ (List.mem_of_getElem? (i := 0) rfl))))))
theorem w295 : Cond.selects "EntryTables" y_X_word y_X_word ∈ TG := List.mem_append_right _ (List.mem_append_right _ (List.mem_append_right _ (List.mem_append_right _ (List.mem_append_right _ (List.mem_append_left _ (List.mem_of_getElem? (i := 1) rfl))))))
theorem w296 : Cond.code y_X_word prog_1_method_16_code 3 (some FieldType.int) ∈ TG := List.mem_append_right _ (List.mem_append_right _ (List.mem_append_right _ (List.mem_append_right _ (List.mem_append_right _ (List.mem_append_left _ (List.mem_of_getElem? (i := 2) rfl))))))
theorem w297 : Cond.methodLink "EntryTables" 184 y_C_read ∈ TG := List.mem_append_right _ (List.mem_append_right _ (List.mem_append_right _ (List.mem_append_right _ (List.mem_append_right _ (List.mem_append_left _ (List.mem_of_getElem? (i := 3) rfl))))))
theorem w298 : Cond.instanceMethod y_C_read ∈ TG := List.mem_append_right _ (List.mem_append_right _ (List.mem_append_right _ (List.mem_append_right _ (List.mem_append_right _ (List.mem_append_left _ (List.mem_of_getElem? (i := 4) rfl))))))
theorem w299 : Cond.selects "EntryTables$Counts" y_C_read y_C_read ∈ TG := List.mem_append_right _ (List.mem_append_right _ (List.mem_append_right _ (List.mem_append_right _ (List.mem_append_right _ (List.mem_append_left _ (List.mem_of_getElem? (i := 5) rfl))))))
theorem w300 : Cond.code y_C_read prog_3_method_4_code 3 (some FieldType.int) ∈ TG := List.mem_append_right _ (List.mem_append_right _ (List.mem_append_right _ (List.mem_append_right _ (List.mem_append_right _ (List.mem_append_left _ (List.mem_of_getElem? (i := 6) rfl))))))
theorem w301 : Cond.methodLink "EntryTables$Counts" 25 y_C_isWord ∈ TG := List.mem_append_right _ (List.mem_append_right _ (List.mem_append_right _ (List.mem_append_right _ (List.mem_append_right _ (List.mem_append_left _ (List.mem_of_getElem? (i := 7) rfl))))))
theorem w302 : Cond.static y_C_isWord ∈ TG := List.mem_append_right _ (List.mem_append_right _ (List.mem_append_right _ (List.mem_append_right _ (List.mem_append_right _ (List.mem_append_left _ (List.mem_of_getElem? (i := 8) rfl))))))
theorem w303 : Cond.code y_C_isWord prog_3_method_3_code 2 (some FieldType.boolean) ∈ TG := List.mem_append_right _ (List.mem_append_right _ (List.mem_append_right _ (List.mem_append_right _ (List.mem_append_right _ (List.mem_append_left _ (List.mem_of_getElem? (i := 9) rfl))))))
theorem w305 : Cond.static y_X_isArray ∈ TG := List.mem_append_right _ (List.mem_append_right _ (List.mem_append_right _ (List.mem_append_right _ (List.mem_append_right _ (List.mem_append_left _ (List.mem_of_getElem? (i := 10) rfl))))))
theorem w306 : Cond.code y_X_isArray prog_1_method_20_code 1 (some FieldType.boolean) ∈ TG := List.mem_append_right _ (List.mem_append_right _ (List.mem_append_right _ (List.mem_append_right _ (List.mem_append_right _ (List.mem_append_left _ (List.mem_of_getElem? (i := 11) rfl))))))
theorem w307 : Cond.methodLink "EntryTablesLaw" 115 y_X_entries ∈ TG := List.mem_append_right _ (List.mem_append_right _ (List.mem_append_right _ (List.mem_append_right _ (List.mem_append_right _ (List.mem_append_left _ (List.mem_of_getElem? (i := 12) rfl))))))
theorem w308 : Cond.instanceMethod y_X_entries ∈ TG := List.mem_append_right _ (List.mem_append_right _ (List.mem_append_right _ (List.mem_append_right _ (List.mem_append_right _ (List.mem_append_left _ (List.mem_of_getElem? (i := 13) rfl))))))
theorem w309 : Cond.selects "EntryTables" y_X_entries y_X_entries ∈ TG := List.mem_append_right _ (List.mem_append_right _ (List.mem_append_right _ (List.mem_append_right _ (List.mem_append_right _ (List.mem_append_left _ (List.mem_of_getElem? (i := 14) rfl))))))
theorem w310 : Cond.code y_X_entries prog_1_method_17_code 2 (some FieldType.int) ∈ TG := List.mem_append_right _ (List.mem_append_right _ (List.mem_append_right _ (List.mem_append_right _ (List.mem_append_right _ (List.mem_append_left _ (List.mem_of_getElem? (i := 15) rfl))))))
theorem w311 : Cond.methodLink "EntryTablesLaw" 54 y_L_field ∈ TG := List.mem_append_right _ (List.mem_append_right _ (List.mem_append_right _ (List.mem_append_right _ (List.mem_append_right _ (List.mem_append_left _ (List.mem_of_getElem? (i := 16) rfl))))))
theorem w312 : Cond.static y_L_field ∈ TG := List.mem_append_right _ (List.mem_append_right _ (List.mem_append_right _ (List.mem_append_right _ (List.mem_append_right _ (List.mem_append_left _ (List.mem_of_getElem? (i := 17) rfl))))))
theorem w313 : Cond.codeWith y_L_field method_3_code 4 (some FieldType.int) [(0, 9, 12, 13), (0, 9, 15, 15)] ∈ TG := List.mem_append_right _ (List.mem_append_right _ (List.mem_append_right _ (List.mem_append_right _ (List.mem_append_right _ (List.mem_append_left _ (List.mem_of_getElem? (i := 18) rfl))))))
theorem w314 : Cond.classLink "EntryTablesLaw" 13 "java/lang/IllegalArgumentException" ∈ TG := List.mem_append_right _ (List.mem_append_right _ (List.mem_append_right _ (List.mem_append_right _ (List.mem_append_right _ (List.mem_append_left _ (List.mem_of_getElem? (i := 19) rfl))))))
theorem w315 : Cond.classLink "EntryTablesLaw" 15 "java/lang/IllegalStateException" ∈ TG := List.mem_append_right _ (List.mem_append_right _ (List.mem_append_right _ (List.mem_append_right _ (List.mem_append_right _ (List.mem_append_left _ (List.mem_of_getElem? (i := 20) rfl))))))
theorem w316 : Cond.methodLink "EntryTablesLaw" 7 y_X_field ∈ TG := List.mem_append_right _ (List.mem_append_right _ (List.mem_append_right _ (List.mem_append_right _ (List.mem_append_right _ (List.mem_append_left _ (List.mem_of_getElem? (i := 21) rfl))))))
theorem w317 : Cond.instanceMethod y_X_field ∈ TG := List.mem_append_right _ (List.mem_append_right _ (List.mem_append_right _ (List.mem_append_right _ (List.mem_append_right _ (List.mem_append_left _ (List.mem_of_getElem? (i := 22) rfl))))))
theorem w318 : Cond.selects "EntryTables" y_X_field y_X_field ∈ TG := List.mem_append_right _ (List.mem_append_right _ (List.mem_append_right _ (List.mem_append_right _ (List.mem_append_right _ (List.mem_append_left _ (List.mem_of_getElem? (i := 23) rfl))))))
theorem w319 : Cond.code y_X_field prog_1_method_3_code 2 (some FieldType.int) ∈ TG := List.mem_append_right _ (List.mem_append_right _ (List.mem_append_right _ (List.mem_append_right _ (List.mem_append_right _ (List.mem_append_left _ (List.mem_of_getElem? (i := 24) rfl))))))
theorem w320 : Cond.classLink "EntryTables" 66 "java/lang/IllegalArgumentException" ∈ TG := List.mem_append_right _ (List.mem_append_right _ (List.mem_append_right _ (List.mem_append_right _ (List.mem_append_right _ (List.mem_append_left _ (List.mem_of_getElem? (i := 25) rfl))))))
theorem w321 : Cond.instantiable "java/lang/IllegalArgumentException" 6 ∈ TG := List.mem_append_right _ (List.mem_append_right _ (List.mem_append_right _ (List.mem_append_right _ (List.mem_append_right _ (List.mem_append_left _ (List.mem_of_getElem? (i := 26) rfl))))))
theorem w329 : Cond.selects "java/lang/IllegalArgumentException" y_JT_fillInStackTrace y_JT_fillInStackTrace ∈ TG := List.mem_append_right _ (List.mem_append_right _ (List.mem_append_right _ (List.mem_append_right _ (List.mem_append_right _ (List.mem_append_left _ (List.mem_of_getElem? (i := 27) rfl))))))
theorem w330 : Cond.selects "java/lang/IllegalArgumentException" y_JT_fillInStackTrace2 y_JT_fillInStackTrace2 ∈ TG := List.mem_append_right _ (List.mem_append_right _ (List.mem_append_right _ (List.mem_append_right _ (List.mem_append_right _ (List.mem_append_left _ (List.mem_of_getElem? (i := 28) rfl))))))
theorem w331 : Cond.lays "java/lang/IllegalArgumentException" "java/lang/Throwable" "cause" "Ljava/lang/Throwable;" ∈ TG := List.mem_append_right _ (List.mem_append_right _ (List.mem_append_right _ (List.mem_append_right _ (List.mem_append_right _ (List.mem_append_left _ (List.mem_of_getElem? (i := 29) rfl))))))
theorem w332 : Cond.lays "java/lang/Throwable" "java/lang/Throwable" "cause" "Ljava/lang/Throwable;" ∈ TG := List.mem_append_right _ (List.mem_append_right _ (List.mem_append_right _ (List.mem_append_right _ (List.mem_append_right _ (List.mem_append_left _ (List.mem_of_getElem? (i := 30) rfl))))))
theorem w333 : Cond.lays "java/lang/IllegalArgumentException" "java/lang/Throwable" "stackTrace" "[Ljava/lang/StackTraceElement;" ∈ TG := List.mem_append_right _ (List.mem_append_right _ (List.mem_append_right _ (List.mem_append_right _ (List.mem_append_right _ (List.mem_append_left _ (List.mem_of_getElem? (i := 31) rfl))))))
theorem w334 : Cond.lays "java/lang/Throwable" "java/lang/Throwable" "stackTrace" "[Ljava/lang/StackTraceElement;" ∈ TG := List.mem_append_right _ (List.mem_append_right _ (List.mem_append_right _ (List.mem_append_right _ (List.mem_append_right _ (List.mem_append_left _ (List.mem_of_getElem? (i := 32) rfl))))))
theorem w335 : Cond.lays "java/lang/IllegalArgumentException" "java/lang/Throwable" "suppressedExceptions" "Ljava/util/List;" ∈ TG := List.mem_append_right _ (List.mem_append_right _ (List.mem_append_right _ (List.mem_append_right _ (List.mem_append_right _ (List.mem_append_left _ (List.mem_of_getElem? (i := 33) rfl))))))
theorem w336 : Cond.lays "java/lang/Throwable" "java/lang/Throwable" "suppressedExceptions" "Ljava/util/List;" ∈ TG := List.mem_append_right _ (List.mem_append_right _ (List.mem_append_right _ (List.mem_append_right _ (List.mem_append_right _ (List.mem_append_left _ (List.mem_of_getElem? (i := 34) rfl))))))
theorem w337 : Cond.lays "java/lang/IllegalArgumentException" "java/lang/Throwable" "detailMessage" "Ljava/lang/String;" ∈ TG := List.mem_append_right _ (List.mem_append_right _ (List.mem_append_right _ (List.mem_append_right _ (List.mem_append_right _ (List.mem_append_left _ (List.mem_of_getElem? (i := 35) rfl))))))
theorem w338 : Cond.lays "java/lang/Throwable" "java/lang/Throwable" "detailMessage" "Ljava/lang/String;" ∈ TG := List.mem_append_right _ (List.mem_append_right _ (List.mem_append_right _ (List.mem_append_right _ (List.mem_append_right _ (List.mem_append_left _ (List.mem_of_getElem? (i := 36) rfl))))))
theorem w339 : Cond.lays "java/lang/IllegalArgumentException" "java/lang/Throwable" "backtrace" "Ljava/lang/Object;" ∈ TG := List.mem_append_right _ (List.mem_append_right _ (List.mem_append_right _ (List.mem_append_right _ (List.mem_append_right _ (List.mem_append_left _ (List.mem_of_getElem? (i := 37) rfl))))))
theorem w340 : Cond.lays "java/lang/Throwable" "java/lang/Throwable" "backtrace" "Ljava/lang/Object;" ∈ TG := List.mem_append_right _ (List.mem_append_right _ (List.mem_append_right _ (List.mem_append_right _ (List.mem_append_right _ (List.mem_append_left _ (List.mem_of_getElem? (i := 38) rfl))))))
theorem w341 : Cond.fieldLink "java/lang/Throwable" 198 "java/lang/Throwable" "backtrace" "Ljava/lang/Object;" ∈ TG := List.mem_append_right _ (List.mem_append_right _ (List.mem_append_right _ (List.mem_append_right _ (List.mem_append_right _ (List.mem_append_left _ (List.mem_of_getElem? (i := 39) rfl))))))
theorem w342 : Cond.superclass "java/lang/Throwable" "java/lang/Object" ∈ TG := List.mem_append_right _ (List.mem_append_right _ (List.mem_append_right _ (List.mem_append_right _ (List.mem_append_right _ (List.mem_append_left _ (List.mem_of_getElem? (i := 40) rfl))))))
theorem w343 : Cond.instanceMethod y_JT_init ∈ TG := List.mem_append_right _ (List.mem_append_right _ (List.mem_append_right _ (List.mem_append_right _ (List.mem_append_right _ (List.mem_append_left _ (List.mem_of_getElem? (i := 41) rfl))))))
theorem w344 : Cond.code y_JT_init prog_19_method_1_code 1 none ∈ TG := List.mem_append_right _ (List.mem_append_right _ (List.mem_append_right _ (List.mem_append_right _ (List.mem_append_right _ (List.mem_append_left _ (List.mem_of_getElem? (i := 42) rfl))))))
theorem w345 : Cond.methodLink "java/lang/Throwable" 1 y_JO_init ∈ TG := List.mem_append_right _ (List.mem_append_right _ (List.mem_append_right _ (List.mem_append_right _ (List.mem_append_right _ (List.mem_append_left _ (List.mem_of_getElem? (i := 43) rfl))))))
theorem w346 : Cond.fieldLink "java/lang/Throwable" 13 "java/lang/Throwable" "UNASSIGNED_STACK" "[Ljava/lang/StackTraceElement;" ∈ TG := List.mem_append_right _ (List.mem_append_right _ (List.mem_append_right _ (List.mem_append_right _ (List.mem_append_right _ (List.mem_append_left _ (List.mem_of_getElem? (i := 44) rfl))))))
theorem w348 : Cond.fieldLink "java/lang/Throwable" 20 "java/lang/Throwable" "SUPPRESSED_SENTINEL" "Ljava/util/List;" ∈ TG := List.mem_append_right _ (List.mem_append_right _ (List.mem_append_right _ (List.mem_append_right _ (List.mem_append_right _ (List.mem_append_left _ (List.mem_of_getElem? (i := 45) rfl))))))
theorem w350 : Cond.methodLink "java/lang/Throwable" 27 y_JT_fillInStackTrace2 ∈ TG := List.mem_append_right _ (List.mem_append_right _ (List.mem_append_right _ (List.mem_append_right _ (List.mem_append_right _ (List.mem_append_left _ (List.mem_of_getElem? (i := 46) rfl))))))
theorem w351 : Cond.instanceMethod y_JT_fillInStackTrace2 ∈ TG := List.mem_append_right _ (List.mem_append_right _ (List.mem_append_right _ (List.mem_append_right _ (List.mem_append_right _ (List.mem_append_left _ (List.mem_of_getElem? (i := 47) rfl))))))
theorem w352 : Cond.sameMethod "java/lang/Throwable" "java/lang/Throwable" "fillInStackTrace" "()Ljava/lang/Throwable;" ∈ TG := List.mem_append_right _ (List.mem_append_right _ (List.mem_append_right _ (List.mem_append_right _ (List.mem_append_right _ (List.mem_append_left _ (List.mem_of_getElem? (i := 48) rfl))))))
theorem w353 : Cond.selects "java/lang/IllegalStateException" y_JT_fillInStackTrace2 y_JT_fillInStackTrace2 ∈ TG := List.mem_append_right _ (List.mem_append_right _ (List.mem_append_right _ (List.mem_append_right _ (List.mem_append_right _ (List.mem_append_left _ (List.mem_of_getElem? (i := 49) rfl))))))
theorem w354 : Cond.selects "java/lang/IndexOutOfBoundsException" y_JT_fillInStackTrace2 y_JT_fillInStackTrace2 ∈ TG := List.mem_append_right _ (List.mem_append_right _ (List.mem_append_right _ (List.mem_append_right _ (List.mem_append_right _ (List.mem_append_left _ (List.mem_of_getElem? (i := 50) rfl))))))
theorem w355 : Cond.codeSync y_JT_fillInStackTrace2 prog_19_method_18_code 1 (some (FieldType.object "java/lang/Throwable")) ∈ TG := List.mem_append_right _ (List.mem_append_right _ (List.mem_append_right _ (List.mem_append_right _ (List.mem_append_right _ (List.mem_append_left _ (List.mem_of_getElem? (i := 51) rfl))))))
theorem w356 : Cond.methodLink "java/lang/Throwable" 202 y_JT_fillInStackTrace ∈ TG := List.mem_append_right _ (List.mem_append_right _ (List.mem_append_right _ (List.mem_append_right _ (List.mem_append_right _ (List.mem_append_left _ (List.mem_of_getElem? (i := 52) rfl))))))
theorem w358 : Cond.instanceMethod y_JT_fillInStackTrace ∈ TG := List.mem_append_right _ (List.mem_append_right _ (List.mem_append_right _ (List.mem_append_right _ (List.mem_append_right _ (List.mem_append_left _ (List.mem_of_getElem? (i := 53) rfl))))))
theorem w359 : Cond.instantiable "java/lang/Throwable" 6 ∈ TG := List.mem_append_right _ (List.mem_append_right _ (List.mem_append_right _ (List.mem_append_right _ (List.mem_append_right _ (List.mem_append_left _ (List.mem_of_getElem? (i := 54) rfl))))))
theorem w360 : Cond.native y_JT_fillInStackTrace ∈ TG := List.mem_append_right _ (List.mem_append_right _ (List.mem_append_right _ (List.mem_append_right _ (List.mem_append_right _ (List.mem_append_left _ (List.mem_of_getElem? (i := 55) rfl))))))
theorem w362 : Cond.methodLink "EntryTables" 70 y_JIA_init ∈ TG := List.mem_append_right _ (List.mem_append_right _ (List.mem_append_right _ (List.mem_append_right _ (List.mem_append_right _ (List.mem_append_left _ (List.mem_of_getElem? (i := 56) rfl))))))
theorem w363 : Cond.instanceMethod y_JIA_init ∈ TG := List.mem_append_right _ (List.mem_append_right _ (List.mem_append_right _ (List.mem_append_right _ (List.mem_append_right _ (List.mem_append_left _ (List.mem_of_getElem? (i := 57) rfl))))))
theorem w364 : Cond.code y_JIA_init prog_12_method_2_code 2 none ∈ TG := List.mem_append_right _ (List.mem_append_right _ (List.mem_append_right _ (List.mem_append_right _ (List.mem_append_right _ (List.mem_append_left _ (List.mem_of_getElem? (i := 58) rfl))))))
theorem w365 : Cond.methodLink "java/lang/IllegalArgumentException" 7 y_JR_init2 ∈ TG := List.mem_append_right _ (List.mem_append_right _ (List.mem_append_right _ (List.mem_append_right _ (List.mem_append_right _ (List.mem_append_left _ (List.mem_of_getElem? (i := 59) rfl))))))
theorem w366 : Cond.instanceMethod y_JR_init2 ∈ TG := List.mem_append_right _ (List.mem_append_right _ (List.mem_append_right _ (List.mem_append_right _ (List.mem_append_right _ (List.mem_append_right _ (List.mem_append_left _ (List.mem_of_getElem? (i := 0) rfl)))))))
theorem w367 : Cond.code y_JR_init2 prog_17_method_2_code 2 none ∈ TG := List.mem_append_right _ (List.mem_append_right _ (List.mem_append_right _ (List.mem_append_right _ (List.mem_append_right _ (List.mem_append_right _ (List.mem_append_left _ (List.mem_of_getElem? (i := 1) rfl)))))))
theorem w368 : Cond.methodLink "java/lang/RuntimeException" 7 y_JE_init2 ∈ TG := List.mem_append_right _ (List.mem_append_right _ (List.mem_append_right _ (List.mem_append_right _ (List.mem_append_right _ (List.mem_append_right _ (List.mem_append_left _ (List.mem_of_getElem? (i := 2) rfl)))))))
theorem w369 : Cond.instanceMethod y_JE_init2 ∈ TG := List.mem_append_right _ (List.mem_append_right _ (List.mem_append_right _ (List.mem_append_right _ (List.mem_append_right _ (List.mem_append_right _ (List.mem_append_left _ (List.mem_of_getElem? (i := 3) rfl)))))))
theorem w370 : Cond.code y_JE_init2 prog_11_method_2_code 2 none ∈ TG := List.mem_append_right _ (List.mem_append_right _ (List.mem_append_right _ (List.mem_append_right _ (List.mem_append_right _ (List.mem_append_right _ (List.mem_append_left _ (List.mem_of_getElem? (i := 4) rfl)))))))
theorem w371 : Cond.methodLink "java/lang/Exception" 7 y_JT_init2 ∈ TG := List.mem_append_right _ (List.mem_append_right _ (List.mem_append_right _ (List.mem_append_right _ (List.mem_append_right _ (List.mem_append_right _ (List.mem_append_left _ (List.mem_of_getElem? (i := 5) rfl)))))))
theorem w372 : Cond.instanceMethod y_JT_init2 ∈ TG := List.mem_append_right _ (List.mem_append_right _ (List.mem_append_right _ (List.mem_append_right _ (List.mem_append_right _ (List.mem_append_right _ (List.mem_append_left _ (List.mem_of_getElem? (i := 6) rfl)))))))
theorem w373 : Cond.code y_JT_init2 prog_19_method_2_code 2 none ∈ TG := List.mem_append_right _ (List.mem_append_right _ (List.mem_append_right _ (List.mem_append_right _ (List.mem_append_right _ (List.mem_append_right _ (List.mem_append_left _ (List.mem_of_getElem? (i := 7) rfl)))))))
theorem w374 : Cond.fieldLink "java/lang/Throwable" 198 "java/lang/Throwable" "backtrace" "Ljava/lang/Object;" ∈ TG := List.mem_append_right _ (List.mem_append_right _ (List.mem_append_right _ (List.mem_append_right _ (List.mem_append_right _ (List.mem_append_right _ (List.mem_append_left _ (List.mem_of_getElem? (i := 8) rfl)))))))
theorem w375 : Cond.fieldLink "java/lang/Throwable" 31 "java/lang/Throwable" "detailMessage" "Ljava/lang/String;" ∈ TG := List.mem_append_right _ (List.mem_append_right _ (List.mem_append_right _ (List.mem_append_right _ (List.mem_append_right _ (List.mem_append_right _ (List.mem_append_left _ (List.mem_of_getElem? (i := 9) rfl)))))))
theorem w376 : Cond.fieldLink "java/lang/Throwable" 7 "java/lang/Throwable" "cause" "Ljava/lang/Throwable;" ∈ TG := List.mem_append_right _ (List.mem_append_right _ (List.mem_append_right _ (List.mem_append_right _ (List.mem_append_right _ (List.mem_append_right _ (List.mem_append_left _ (List.mem_of_getElem? (i := 10) rfl)))))))
theorem w377 : Cond.fieldLink "java/lang/Throwable" 17 "java/lang/Throwable" "stackTrace" "[Ljava/lang/StackTraceElement;" ∈ TG := List.mem_append_right _ (List.mem_append_right _ (List.mem_append_right _ (List.mem_append_right _ (List.mem_append_right _ (List.mem_append_right _ (List.mem_append_left _ (List.mem_of_getElem? (i := 11) rfl)))))))
theorem w378 : Cond.fieldLink "java/lang/Throwable" 24 "java/lang/Throwable" "suppressedExceptions" "Ljava/util/List;" ∈ TG := List.mem_append_right _ (List.mem_append_right _ (List.mem_append_right _ (List.mem_append_right _ (List.mem_append_right _ (List.mem_append_right _ (List.mem_append_left _ (List.mem_of_getElem? (i := 12) rfl)))))))
theorem w379 : Cond.soleField "java/lang/Throwable" "backtrace" ∈ TG := List.mem_append_right _ (List.mem_append_right _ (List.mem_append_right _ (List.mem_append_right _ (List.mem_append_right _ (List.mem_append_right _ (List.mem_append_left _ (List.mem_of_getElem? (i := 13) rfl)))))))
theorem w380 : Cond.soleField "java/lang/Throwable" "detailMessage" ∈ TG := List.mem_append_right _ (List.mem_append_right _ (List.mem_append_right _ (List.mem_append_right _ (List.mem_append_right _ (List.mem_append_right _ (List.mem_append_left _ (List.mem_of_getElem? (i := 14) rfl)))))))
theorem w381 : Cond.soleField "java/lang/Throwable" "cause" ∈ TG := List.mem_append_right _ (List.mem_append_right _ (List.mem_append_right _ (List.mem_append_right _ (List.mem_append_right _ (List.mem_append_right _ (List.mem_append_left _ (List.mem_of_getElem? (i := 15) rfl)))))))
theorem w382 : Cond.soleField "java/lang/Throwable" "stackTrace" ∈ TG := List.mem_append_right _ (List.mem_append_right _ (List.mem_append_right _ (List.mem_append_right _ (List.mem_append_right _ (List.mem_append_right _ (List.mem_append_left _ (List.mem_of_getElem? (i := 16) rfl)))))))
theorem w383 : Cond.lays "java/lang/IllegalArgumentException" "java/lang/Throwable" "depth" "I" ∈ TG := List.mem_append_right _ (List.mem_append_right _ (List.mem_append_right _ (List.mem_append_right _ (List.mem_append_right _ (List.mem_append_right _ (List.mem_append_left _ (List.mem_of_getElem? (i := 17) rfl)))))))
theorem w384 : Cond.soleField "java/lang/Throwable" "depth" ∈ TG := List.mem_append_right _ (List.mem_append_right _ (List.mem_append_right _ (List.mem_append_right _ (List.mem_append_right _ (List.mem_append_right _ (List.mem_append_left _ (List.mem_of_getElem? (i := 18) rfl)))))))
theorem w385 : Cond.soleField "java/lang/Throwable" "suppressedExceptions" ∈ TG := List.mem_append_right _ (List.mem_append_right _ (List.mem_append_right _ (List.mem_append_right _ (List.mem_append_right _ (List.mem_append_right _ (List.mem_append_left _ (List.mem_of_getElem? (i := 19) rfl)))))))
theorem w386 : Cond.superclass "java/lang/IllegalArgumentException" "java/lang/RuntimeException" ∈ TG := List.mem_append_right _ (List.mem_append_right _ (List.mem_append_right _ (List.mem_append_right _ (List.mem_append_right _ (List.mem_append_right _ (List.mem_append_left _ (List.mem_of_getElem? (i := 20) rfl)))))))
theorem w387 : Cond.arrayClass FieldType.byte ∈ TG := List.mem_append_right _ (List.mem_append_right _ (List.mem_append_right _ (List.mem_append_right _ (List.mem_append_right _ (List.mem_append_right _ (List.mem_append_left _ (List.mem_of_getElem? (i := 21) rfl)))))))
theorem w388 : Cond.methodLink "EntryTables" 73 y_F_isFull ∈ TG := List.mem_append_right _ (List.mem_append_right _ (List.mem_append_right _ (List.mem_append_right _ (List.mem_append_right _ (List.mem_append_right _ (List.mem_append_left _ (List.mem_of_getElem? (i := 22) rfl)))))))
theorem w389 : Cond.instanceMethod y_F_isFull ∈ TG := List.mem_append_right _ (List.mem_append_right _ (List.mem_append_right _ (List.mem_append_right _ (List.mem_append_right _ (List.mem_append_right _ (List.mem_append_left _ (List.mem_of_getElem? (i := 23) rfl)))))))
theorem w390 : Cond.selects "EntryTables$Fields" y_F_isFull y_F_isFull ∈ TG := List.mem_append_right _ (List.mem_append_right _ (List.mem_append_right _ (List.mem_append_right _ (List.mem_append_right _ (List.mem_append_right _ (List.mem_append_left _ (List.mem_of_getElem? (i := 24) rfl)))))))
theorem w391 : Cond.code y_F_isFull prog_6_method_3_code 1 (some FieldType.boolean) ∈ TG := List.mem_append_right _ (List.mem_append_right _ (List.mem_append_right _ (List.mem_append_right _ (List.mem_append_right _ (List.mem_append_right _ (List.mem_append_left _ (List.mem_of_getElem? (i := 25) rfl)))))))
theorem w392 : Cond.classLink "EntryTables" 77 "java/lang/IllegalStateException" ∈ TG := List.mem_append_right _ (List.mem_append_right _ (List.mem_append_right _ (List.mem_append_right _ (List.mem_append_right _ (List.mem_append_right _ (List.mem_append_left _ (List.mem_of_getElem? (i := 26) rfl)))))))
theorem w393 : Cond.instantiable "java/lang/IllegalStateException" 6 ∈ TG := List.mem_append_right _ (List.mem_append_right _ (List.mem_append_right _ (List.mem_append_right _ (List.mem_append_right _ (List.mem_append_right _ (List.mem_append_left _ (List.mem_of_getElem? (i := 27) rfl)))))))
theorem w395 : Cond.selects "java/lang/IllegalStateException" y_JT_fillInStackTrace y_JT_fillInStackTrace ∈ TG := List.mem_append_right _ (List.mem_append_right _ (List.mem_append_right _ (List.mem_append_right _ (List.mem_append_right _ (List.mem_append_right _ (List.mem_append_left _ (List.mem_of_getElem? (i := 28) rfl)))))))
theorem w396 : Cond.lays "java/lang/IllegalStateException" "java/lang/Throwable" "cause" "Ljava/lang/Throwable;" ∈ TG := List.mem_append_right _ (List.mem_append_right _ (List.mem_append_right _ (List.mem_append_right _ (List.mem_append_right _ (List.mem_append_right _ (List.mem_append_left _ (List.mem_of_getElem? (i := 29) rfl)))))))
theorem w397 : Cond.lays "java/lang/IllegalStateException" "java/lang/Throwable" "stackTrace" "[Ljava/lang/StackTraceElement;" ∈ TG := List.mem_append_right _ (List.mem_append_right _ (List.mem_append_right _ (List.mem_append_right _ (List.mem_append_right _ (List.mem_append_right _ (List.mem_append_left _ (List.mem_of_getElem? (i := 30) rfl)))))))
theorem w398 : Cond.lays "java/lang/IllegalStateException" "java/lang/Throwable" "suppressedExceptions" "Ljava/util/List;" ∈ TG := List.mem_append_right _ (List.mem_append_right _ (List.mem_append_right _ (List.mem_append_right _ (List.mem_append_right _ (List.mem_append_right _ (List.mem_append_left _ (List.mem_of_getElem? (i := 31) rfl)))))))
theorem w399 : Cond.lays "java/lang/IllegalStateException" "java/lang/Throwable" "detailMessage" "Ljava/lang/String;" ∈ TG := List.mem_append_right _ (List.mem_append_right _ (List.mem_append_right _ (List.mem_append_right _ (List.mem_append_right _ (List.mem_append_right _ (List.mem_append_left _ (List.mem_of_getElem? (i := 32) rfl)))))))
theorem w400 : Cond.lays "java/lang/IllegalStateException" "java/lang/Throwable" "backtrace" "Ljava/lang/Object;" ∈ TG := List.mem_append_right _ (List.mem_append_right _ (List.mem_append_right _ (List.mem_append_right _ (List.mem_append_right _ (List.mem_append_right _ (List.mem_append_left _ (List.mem_of_getElem? (i := 33) rfl)))))))
theorem w402 : Cond.methodLink "EntryTables" 81 y_JIS_init ∈ TG := List.mem_append_right _ (List.mem_append_right _ (List.mem_append_right _ (List.mem_append_right _ (List.mem_append_right _ (List.mem_append_right _ (List.mem_append_left _ (List.mem_of_getElem? (i := 34) rfl)))))))
theorem w403 : Cond.instanceMethod y_JIS_init ∈ TG := List.mem_append_right _ (List.mem_append_right _ (List.mem_append_right _ (List.mem_append_right _ (List.mem_append_right _ (List.mem_append_right _ (List.mem_append_left _ (List.mem_of_getElem? (i := 35) rfl)))))))
theorem w404 : Cond.code y_JIS_init prog_13_method_2_code 2 none ∈ TG := List.mem_append_right _ (List.mem_append_right _ (List.mem_append_right _ (List.mem_append_right _ (List.mem_append_right _ (List.mem_append_right _ (List.mem_append_left _ (List.mem_of_getElem? (i := 36) rfl)))))))
theorem w405 : Cond.methodLink "java/lang/IllegalStateException" 7 y_JR_init2 ∈ TG := List.mem_append_right _ (List.mem_append_right _ (List.mem_append_right _ (List.mem_append_right _ (List.mem_append_right _ (List.mem_append_right _ (List.mem_append_left _ (List.mem_of_getElem? (i := 37) rfl)))))))
theorem w406 : Cond.lays "java/lang/IllegalStateException" "java/lang/Throwable" "depth" "I" ∈ TG := List.mem_append_right _ (List.mem_append_right _ (List.mem_append_right _ (List.mem_append_right _ (List.mem_append_right _ (List.mem_append_right _ (List.mem_append_left _ (List.mem_of_getElem? (i := 38) rfl)))))))
theorem w407 : Cond.superclass "java/lang/IllegalStateException" "java/lang/RuntimeException" ∈ TG := List.mem_append_right _ (List.mem_append_right _ (List.mem_append_right _ (List.mem_append_right _ (List.mem_append_right _ (List.mem_append_right _ (List.mem_append_left _ (List.mem_of_getElem? (i := 39) rfl)))))))
theorem w408 : Cond.methodLink "EntryTables" 82 y_F_add ∈ TG := List.mem_append_right _ (List.mem_append_right _ (List.mem_append_right _ (List.mem_append_right _ (List.mem_append_right _ (List.mem_append_right _ (List.mem_append_left _ (List.mem_of_getElem? (i := 40) rfl)))))))
theorem w409 : Cond.instanceMethod y_F_add ∈ TG := List.mem_append_right _ (List.mem_append_right _ (List.mem_append_right _ (List.mem_append_right _ (List.mem_append_right _ (List.mem_append_right _ (List.mem_append_left _ (List.mem_of_getElem? (i := 41) rfl)))))))
theorem w410 : Cond.selects "EntryTables$Fields" y_F_add y_F_add ∈ TG := List.mem_append_right _ (List.mem_append_right _ (List.mem_append_right _ (List.mem_append_right _ (List.mem_append_right _ (List.mem_append_right _ (List.mem_append_left _ (List.mem_of_getElem? (i := 42) rfl)))))))
theorem w411 : Cond.code y_F_add prog_6_method_5_code 3 (some FieldType.int) ∈ TG := List.mem_append_right _ (List.mem_append_right _ (List.mem_append_right _ (List.mem_append_right _ (List.mem_append_right _ (List.mem_append_right _ (List.mem_append_left _ (List.mem_of_getElem? (i := 43) rfl)))))))
theorem w412 : Cond.methodLink "EntryTables$Fields" 22 y_F_isFull ∈ TG := List.mem_append_right _ (List.mem_append_right _ (List.mem_append_right _ (List.mem_append_right _ (List.mem_append_right _ (List.mem_append_right _ (List.mem_append_left _ (List.mem_of_getElem? (i := 44) rfl)))))))
theorem w413 : Cond.methodLink "EntryTablesLaw" 63 y_L_set ∈ TG := List.mem_append_right _ (List.mem_append_right _ (List.mem_append_right _ (List.mem_append_right _ (List.mem_append_right _ (List.mem_append_right _ (List.mem_append_left _ (List.mem_of_getElem? (i := 45) rfl)))))))
theorem w414 : Cond.static y_L_set ∈ TG := List.mem_append_right _ (List.mem_append_right _ (List.mem_append_right _ (List.mem_append_right _ (List.mem_append_right _ (List.mem_append_right _ (List.mem_append_left _ (List.mem_of_getElem? (i := 46) rfl)))))))
theorem w415 : Cond.codeWith y_L_set method_4_code 4 (some FieldType.int) [(0, 6, 9, 21)] ∈ TG := List.mem_append_right _ (List.mem_append_right _ (List.mem_append_right _ (List.mem_append_right _ (List.mem_append_right _ (List.mem_append_right _ (List.mem_append_left _ (List.mem_of_getElem? (i := 47) rfl)))))))
theorem w416 : Cond.classLink "EntryTablesLaw" 21 "java/lang/IndexOutOfBoundsException" ∈ TG := List.mem_append_right _ (List.mem_append_right _ (List.mem_append_right _ (List.mem_append_right _ (List.mem_append_right _ (List.mem_append_right _ (List.mem_append_left _ (List.mem_of_getElem? (i := 48) rfl)))))))
theorem w417 : Cond.methodLink "EntryTablesLaw" 17 y_X_set ∈ TG := List.mem_append_right _ (List.mem_append_right _ (List.mem_append_right _ (List.mem_append_right _ (List.mem_append_right _ (List.mem_append_right _ (List.mem_append_left _ (List.mem_of_getElem? (i := 49) rfl)))))))
theorem w418 : Cond.instanceMethod y_X_set ∈ TG := List.mem_append_right _ (List.mem_append_right _ (List.mem_append_right _ (List.mem_append_right _ (List.mem_append_right _ (List.mem_append_right _ (List.mem_append_left _ (List.mem_of_getElem? (i := 50) rfl)))))))
theorem w419 : Cond.selects "EntryTables" y_X_set y_X_set ∈ TG := List.mem_append_right _ (List.mem_append_right _ (List.mem_append_right _ (List.mem_append_right _ (List.mem_append_right _ (List.mem_append_right _ (List.mem_append_left _ (List.mem_of_getElem? (i := 51) rfl)))))))
theorem w420 : Cond.code y_X_set prog_1_method_4_code 3 none ∈ TG := List.mem_append_right _ (List.mem_append_right _ (List.mem_append_right _ (List.mem_append_right _ (List.mem_append_right _ (List.mem_append_right _ (List.mem_append_left _ (List.mem_of_getElem? (i := 52) rfl)))))))
theorem w421 : Cond.methodLink "EntryTables" 86 y_F_isThere ∈ TG := List.mem_append_right _ (List.mem_append_right _ (List.mem_append_right _ (List.mem_append_right _ (List.mem_append_right _ (List.mem_append_right _ (List.mem_append_left _ (List.mem_of_getElem? (i := 53) rfl)))))))
theorem w422 : Cond.classLink "EntryTables" 90 "java/lang/IndexOutOfBoundsException" ∈ TG := List.mem_append_right _ (List.mem_append_right _ (List.mem_append_right _ (List.mem_append_right _ (List.mem_append_right _ (List.mem_append_right _ (List.mem_append_left _ (List.mem_of_getElem? (i := 54) rfl)))))))
theorem w423 : Cond.instantiable "java/lang/IndexOutOfBoundsException" 6 ∈ TG := List.mem_append_right _ (List.mem_append_right _ (List.mem_append_right _ (List.mem_append_right _ (List.mem_append_right _ (List.mem_append_right _ (List.mem_append_left _ (List.mem_of_getElem? (i := 55) rfl)))))))
theorem w425 : Cond.selects "java/lang/IndexOutOfBoundsException" y_JT_fillInStackTrace y_JT_fillInStackTrace ∈ TG := List.mem_append_right _ (List.mem_append_right _ (List.mem_append_right _ (List.mem_append_right _ (List.mem_append_right _ (List.mem_append_right _ (List.mem_append_left _ (List.mem_of_getElem? (i := 56) rfl)))))))
theorem w426 : Cond.lays "java/lang/IndexOutOfBoundsException" "java/lang/Throwable" "cause" "Ljava/lang/Throwable;" ∈ TG := List.mem_append_right _ (List.mem_append_right _ (List.mem_append_right _ (List.mem_append_right _ (List.mem_append_right _ (List.mem_append_right _ (List.mem_append_left _ (List.mem_of_getElem? (i := 57) rfl)))))))
theorem w427 : Cond.lays "java/lang/IndexOutOfBoundsException" "java/lang/Throwable" "stackTrace" "[Ljava/lang/StackTraceElement;" ∈ TG := List.mem_append_right _ (List.mem_append_right _ (List.mem_append_right _ (List.mem_append_right _ (List.mem_append_right _ (List.mem_append_right _ (List.mem_append_left _ (List.mem_of_getElem? (i := 58) rfl)))))))
theorem w428 : Cond.lays "java/lang/IndexOutOfBoundsException" "java/lang/Throwable" "suppressedExceptions" "Ljava/util/List;" ∈ TG := List.mem_append_right _ (List.mem_append_right _ (List.mem_append_right _ (List.mem_append_right _ (List.mem_append_right _ (List.mem_append_right _ (List.mem_append_left _ (List.mem_of_getElem? (i := 59) rfl)))))))
theorem w429 : Cond.lays "java/lang/IndexOutOfBoundsException" "java/lang/Throwable" "detailMessage" "Ljava/lang/String;" ∈ TG := List.mem_append_right _ (List.mem_append_right _ (List.mem_append_right _ (List.mem_append_right _ (List.mem_append_right _ (List.mem_append_right _ (List.mem_append_right _ (List.mem_append_left _ (List.mem_of_getElem? (i := 0) rfl))))))))
theorem w430 : Cond.lays "java/lang/IndexOutOfBoundsException" "java/lang/Throwable" "backtrace" "Ljava/lang/Object;" ∈ TG := List.mem_append_right _ (List.mem_append_right _ (List.mem_append_right _ (List.mem_append_right _ (List.mem_append_right _ (List.mem_append_right _ (List.mem_append_right _ (List.mem_append_left _ (List.mem_of_getElem? (i := 1) rfl))))))))
theorem w432 : Cond.methodLink "EntryTables" 94 y_JIO_init ∈ TG := List.mem_append_right _ (List.mem_append_right _ (List.mem_append_right _ (List.mem_append_right _ (List.mem_append_right _ (List.mem_append_right _ (List.mem_append_right _ (List.mem_append_left _ (List.mem_of_getElem? (i := 2) rfl))))))))
theorem w433 : Cond.instanceMethod y_JIO_init ∈ TG := List.mem_append_right _ (List.mem_append_right _ (List.mem_append_right _ (List.mem_append_right _ (List.mem_append_right _ (List.mem_append_right _ (List.mem_append_right _ (List.mem_append_left _ (List.mem_of_getElem? (i := 3) rfl))))))))
theorem w434 : Cond.code y_JIO_init prog_14_method_2_code 2 none ∈ TG := List.mem_append_right _ (List.mem_append_right _ (List.mem_append_right _ (List.mem_append_right _ (List.mem_append_right _ (List.mem_append_right _ (List.mem_append_right _ (List.mem_append_left _ (List.mem_of_getElem? (i := 4) rfl))))))))
theorem w435 : Cond.methodLink "java/lang/IndexOutOfBoundsException" 7 y_JR_init2 ∈ TG := List.mem_append_right _ (List.mem_append_right _ (List.mem_append_right _ (List.mem_append_right _ (List.mem_append_right _ (List.mem_append_right _ (List.mem_append_right _ (List.mem_append_left _ (List.mem_of_getElem? (i := 5) rfl))))))))
theorem w436 : Cond.lays "java/lang/IndexOutOfBoundsException" "java/lang/Throwable" "depth" "I" ∈ TG := List.mem_append_right _ (List.mem_append_right _ (List.mem_append_right _ (List.mem_append_right _ (List.mem_append_right _ (List.mem_append_right _ (List.mem_append_right _ (List.mem_append_left _ (List.mem_of_getElem? (i := 6) rfl))))))))
theorem w437 : Cond.superclass "java/lang/IndexOutOfBoundsException" "java/lang/RuntimeException" ∈ TG := List.mem_append_right _ (List.mem_append_right _ (List.mem_append_right _ (List.mem_append_right _ (List.mem_append_right _ (List.mem_append_right _ (List.mem_append_right _ (List.mem_append_left _ (List.mem_of_getElem? (i := 7) rfl))))))))
theorem w438 : Cond.methodLink "EntryTables" 95 y_F_write ∈ TG := List.mem_append_right _ (List.mem_append_right _ (List.mem_append_right _ (List.mem_append_right _ (List.mem_append_right _ (List.mem_append_right _ (List.mem_append_right _ (List.mem_append_left _ (List.mem_of_getElem? (i := 8) rfl))))))))
theorem w439 : Cond.instanceMethod y_F_write ∈ TG := List.mem_append_right _ (List.mem_append_right _ (List.mem_append_right _ (List.mem_append_right _ (List.mem_append_right _ (List.mem_append_right _ (List.mem_append_right _ (List.mem_append_left _ (List.mem_of_getElem? (i := 9) rfl))))))))
theorem w440 : Cond.selects "EntryTables$Fields" y_F_write y_F_write ∈ TG := List.mem_append_right _ (List.mem_append_right _ (List.mem_append_right _ (List.mem_append_right _ (List.mem_append_right _ (List.mem_append_right _ (List.mem_append_right _ (List.mem_append_left _ (List.mem_of_getElem? (i := 10) rfl))))))))
theorem w441 : Cond.code y_F_write prog_6_method_8_code 3 none ∈ TG := List.mem_append_right _ (List.mem_append_right _ (List.mem_append_right _ (List.mem_append_right _ (List.mem_append_right _ (List.mem_append_right _ (List.mem_append_right _ (List.mem_append_left _ (List.mem_of_getElem? (i := 11) rfl))))))))
theorem w442 : Cond.methodLink "EntryTablesLaw" 71 y_L_action ∈ TG := List.mem_append_right _ (List.mem_append_right _ (List.mem_append_right _ (List.mem_append_right _ (List.mem_append_right _ (List.mem_append_right _ (List.mem_append_right _ (List.mem_append_left _ (List.mem_of_getElem? (i := 12) rfl))))))))
theorem w443 : Cond.static y_L_action ∈ TG := List.mem_append_right _ (List.mem_append_right _ (List.mem_append_right _ (List.mem_append_right _ (List.mem_append_right _ (List.mem_append_right _ (List.mem_append_right _ (List.mem_append_left _ (List.mem_of_getElem? (i := 13) rfl))))))))
theorem w444 : Cond.codeWith y_L_action method_5_code 3 (some FieldType.int) [(0, 8, 11, 15)] ∈ TG := List.mem_append_right _ (List.mem_append_right _ (List.mem_append_right _ (List.mem_append_right _ (List.mem_append_right _ (List.mem_append_right _ (List.mem_append_right _ (List.mem_append_left _ (List.mem_of_getElem? (i := 14) rfl))))))))
theorem w445 : Cond.methodLink "EntryTablesLaw" 23 y_X_action ∈ TG := List.mem_append_right _ (List.mem_append_right _ (List.mem_append_right _ (List.mem_append_right _ (List.mem_append_right _ (List.mem_append_right _ (List.mem_append_right _ (List.mem_append_left _ (List.mem_of_getElem? (i := 15) rfl))))))))
theorem w446 : Cond.instanceMethod y_X_action ∈ TG := List.mem_append_right _ (List.mem_append_right _ (List.mem_append_right _ (List.mem_append_right _ (List.mem_append_right _ (List.mem_append_right _ (List.mem_append_right _ (List.mem_append_left _ (List.mem_of_getElem? (i := 16) rfl))))))))
theorem w447 : Cond.selects "EntryTables" y_X_action y_X_action ∈ TG := List.mem_append_right _ (List.mem_append_right _ (List.mem_append_right _ (List.mem_append_right _ (List.mem_append_right _ (List.mem_append_right _ (List.mem_append_right _ (List.mem_append_left _ (List.mem_of_getElem? (i := 17) rfl))))))))
theorem w448 : Cond.code y_X_action prog_1_method_6_code 2 (some FieldType.int) ∈ TG := List.mem_append_right _ (List.mem_append_right _ (List.mem_append_right _ (List.mem_append_right _ (List.mem_append_right _ (List.mem_append_right _ (List.mem_append_right _ (List.mem_append_left _ (List.mem_of_getElem? (i := 18) rfl))))))))
theorem w450 : Cond.methodLink "EntryTables" 104 y_A_forget ∈ TG := List.mem_append_right _ (List.mem_append_right _ (List.mem_append_right _ (List.mem_append_right _ (List.mem_append_right _ (List.mem_append_right _ (List.mem_append_right _ (List.mem_append_left _ (List.mem_of_getElem? (i := 19) rfl))))))))
theorem w451 : Cond.instanceMethod y_A_forget ∈ TG := List.mem_append_right _ (List.mem_append_right _ (List.mem_append_right _ (List.mem_append_right _ (List.mem_append_right _ (List.mem_append_right _ (List.mem_append_right _ (List.mem_append_left _ (List.mem_of_getElem? (i := 20) rfl))))))))
theorem w452 : Cond.selects "EntryTables$Action" y_A_forget y_A_forget ∈ TG := List.mem_append_right _ (List.mem_append_right _ (List.mem_append_right _ (List.mem_append_right _ (List.mem_append_right _ (List.mem_append_right _ (List.mem_append_right _ (List.mem_append_left _ (List.mem_of_getElem? (i := 21) rfl))))))))
theorem w453 : Cond.code y_A_forget prog_2_method_2_code 1 none ∈ TG := List.mem_append_right _ (List.mem_append_right _ (List.mem_append_right _ (List.mem_append_right _ (List.mem_append_right _ (List.mem_append_right _ (List.mem_append_right _ (List.mem_append_left _ (List.mem_of_getElem? (i := 22) rfl))))))))
theorem w454 : Cond.methodLink "EntryTablesLaw" 75 y_L_doing ∈ TG := List.mem_append_right _ (List.mem_append_right _ (List.mem_append_right _ (List.mem_append_right _ (List.mem_append_right _ (List.mem_append_right _ (List.mem_append_right _ (List.mem_append_left _ (List.mem_of_getElem? (i := 23) rfl))))))))
theorem w455 : Cond.static y_L_doing ∈ TG := List.mem_append_right _ (List.mem_append_right _ (List.mem_append_right _ (List.mem_append_right _ (List.mem_append_right _ (List.mem_append_right _ (List.mem_append_right _ (List.mem_append_left _ (List.mem_of_getElem? (i := 24) rfl))))))))
theorem w456 : Cond.codeWith y_L_doing method_6_code 7 (some FieldType.int) [(0, 11, 14, 21), (0, 11, 18, 13), (0, 11, 22, 15)] ∈ TG := List.mem_append_right _ (List.mem_append_right _ (List.mem_append_right _ (List.mem_append_right _ (List.mem_append_right _ (List.mem_append_right _ (List.mem_append_right _ (List.mem_append_left _ (List.mem_of_getElem? (i := 25) rfl))))))))
theorem w457 : Cond.methodLink "EntryTablesLaw" 27 y_X_doing ∈ TG := List.mem_append_right _ (List.mem_append_right _ (List.mem_append_right _ (List.mem_append_right _ (List.mem_append_right _ (List.mem_append_right _ (List.mem_append_right _ (List.mem_append_left _ (List.mem_of_getElem? (i := 26) rfl))))))))
theorem w458 : Cond.instanceMethod y_X_doing ∈ TG := List.mem_append_right _ (List.mem_append_right _ (List.mem_append_right _ (List.mem_append_right _ (List.mem_append_right _ (List.mem_append_right _ (List.mem_append_right _ (List.mem_append_left _ (List.mem_of_getElem? (i := 27) rfl))))))))
theorem w459 : Cond.selects "EntryTables" y_X_doing y_X_doing ∈ TG := List.mem_append_right _ (List.mem_append_right _ (List.mem_append_right _ (List.mem_append_right _ (List.mem_append_right _ (List.mem_append_right _ (List.mem_append_right _ (List.mem_append_left _ (List.mem_of_getElem? (i := 28) rfl))))))))
theorem w460 : Cond.code y_X_doing prog_1_method_7_code 6 none ∈ TG := List.mem_append_right _ (List.mem_append_right _ (List.mem_append_right _ (List.mem_append_right _ (List.mem_append_right _ (List.mem_append_right _ (List.mem_append_right _ (List.mem_append_left _ (List.mem_of_getElem? (i := 29) rfl))))))))
theorem w462 : Cond.methodLink "EntryTables" 107 y_X_isAction ∈ TG := List.mem_append_right _ (List.mem_append_right _ (List.mem_append_right _ (List.mem_append_right _ (List.mem_append_right _ (List.mem_append_right _ (List.mem_append_right _ (List.mem_append_left _ (List.mem_of_getElem? (i := 30) rfl))))))))
theorem w464 : Cond.instanceMethod y_X_isAction ∈ TG := List.mem_append_right _ (List.mem_append_right _ (List.mem_append_right _ (List.mem_append_right _ (List.mem_append_right _ (List.mem_append_right _ (List.mem_append_right _ (List.mem_append_left _ (List.mem_of_getElem? (i := 31) rfl))))))))
theorem w465 : Cond.code y_X_isAction prog_1_method_18_code 2 (some FieldType.boolean) ∈ TG := List.mem_append_right _ (List.mem_append_right _ (List.mem_append_right _ (List.mem_append_right _ (List.mem_append_right _ (List.mem_append_right _ (List.mem_append_right _ (List.mem_append_left _ (List.mem_of_getElem? (i := 32) rfl))))))))
theorem w466 : Cond.methodLink "EntryTables" 110 y_X_areOperands ∈ TG := List.mem_append_right _ (List.mem_append_right _ (List.mem_append_right _ (List.mem_append_right _ (List.mem_append_right _ (List.mem_append_right _ (List.mem_append_right _ (List.mem_append_left _ (List.mem_of_getElem? (i := 33) rfl))))))))
theorem w468 : Cond.instanceMethod y_X_areOperands ∈ TG := List.mem_append_right _ (List.mem_append_right _ (List.mem_append_right _ (List.mem_append_right _ (List.mem_append_right _ (List.mem_append_right _ (List.mem_append_right _ (List.mem_append_left _ (List.mem_of_getElem? (i := 34) rfl))))))))
theorem w469 : Cond.code y_X_areOperands prog_1_method_22_code 5 (some FieldType.boolean) ∈ TG := List.mem_append_right _ (List.mem_append_right _ (List.mem_append_right _ (List.mem_append_right _ (List.mem_append_right _ (List.mem_append_right _ (List.mem_append_right _ (List.mem_append_left _ (List.mem_of_getElem? (i := 35) rfl))))))))
theorem w470 : Cond.methodLink "EntryTables" 190 y_X_isDatum ∈ TG := List.mem_append_right _ (List.mem_append_right _ (List.mem_append_right _ (List.mem_append_right _ (List.mem_append_right _ (List.mem_append_right _ (List.mem_append_right _ (List.mem_append_left _ (List.mem_of_getElem? (i := 36) rfl))))))))
theorem w471 : Cond.static y_X_isDatum ∈ TG := List.mem_append_right _ (List.mem_append_right _ (List.mem_append_right _ (List.mem_append_right _ (List.mem_append_right _ (List.mem_append_right _ (List.mem_append_right _ (List.mem_append_left _ (List.mem_of_getElem? (i := 37) rfl))))))))
theorem w472 : Cond.code y_X_isDatum prog_1_method_21_code 1 (some FieldType.boolean) ∈ TG := List.mem_append_right _ (List.mem_append_right _ (List.mem_append_right _ (List.mem_append_right _ (List.mem_append_right _ (List.mem_append_right _ (List.mem_append_right _ (List.mem_append_left _ (List.mem_of_getElem? (i := 38) rfl))))))))
theorem w473 : Cond.methodLink "EntryTables" 193 y_X_isArray ∈ TG := List.mem_append_right _ (List.mem_append_right _ (List.mem_append_right _ (List.mem_append_right _ (List.mem_append_right _ (List.mem_append_right _ (List.mem_append_right _ (List.mem_append_left _ (List.mem_of_getElem? (i := 39) rfl))))))))
theorem w475 : Cond.methodLink "EntryTables" 116 y_A_isFull ∈ TG := List.mem_append_right _ (List.mem_append_right _ (List.mem_append_right _ (List.mem_append_right _ (List.mem_append_right _ (List.mem_append_right _ (List.mem_append_right _ (List.mem_append_left _ (List.mem_of_getElem? (i := 40) rfl))))))))
theorem w476 : Cond.instanceMethod y_A_isFull ∈ TG := List.mem_append_right _ (List.mem_append_right _ (List.mem_append_right _ (List.mem_append_right _ (List.mem_append_right _ (List.mem_append_right _ (List.mem_append_right _ (List.mem_append_left _ (List.mem_of_getElem? (i := 41) rfl))))))))
theorem w477 : Cond.selects "EntryTables$Action" y_A_isFull y_A_isFull ∈ TG := List.mem_append_right _ (List.mem_append_right _ (List.mem_append_right _ (List.mem_append_right _ (List.mem_append_right _ (List.mem_append_right _ (List.mem_append_right _ (List.mem_append_left _ (List.mem_of_getElem? (i := 42) rfl))))))))
theorem w478 : Cond.code y_A_isFull prog_2_method_3_code 1 (some FieldType.boolean) ∈ TG := List.mem_append_right _ (List.mem_append_right _ (List.mem_append_right _ (List.mem_append_right _ (List.mem_append_right _ (List.mem_append_right _ (List.mem_append_right _ (List.mem_append_left _ (List.mem_of_getElem? (i := 43) rfl))))))))
theorem w480 : Cond.methodLink "EntryTables" 119 y_A_add ∈ TG := List.mem_append_right _ (List.mem_append_right _ (List.mem_append_right _ (List.mem_append_right _ (List.mem_append_right _ (List.mem_append_right _ (List.mem_append_right _ (List.mem_append_left _ (List.mem_of_getElem? (i := 44) rfl))))))))
theorem w481 : Cond.instanceMethod y_A_add ∈ TG := List.mem_append_right _ (List.mem_append_right _ (List.mem_append_right _ (List.mem_append_right _ (List.mem_append_right _ (List.mem_append_right _ (List.mem_append_right _ (List.mem_append_left _ (List.mem_of_getElem? (i := 45) rfl))))))))
theorem w482 : Cond.selects "EntryTables$Action" y_A_add y_A_add ∈ TG := List.mem_append_right _ (List.mem_append_right _ (List.mem_append_right _ (List.mem_append_right _ (List.mem_append_right _ (List.mem_append_right _ (List.mem_append_right _ (List.mem_append_left _ (List.mem_of_getElem? (i := 46) rfl))))))))
theorem w483 : Cond.code y_A_add prog_2_method_4_code 6 none ∈ TG := List.mem_append_right _ (List.mem_append_right _ (List.mem_append_right _ (List.mem_append_right _ (List.mem_append_right _ (List.mem_append_right _ (List.mem_append_right _ (List.mem_append_left _ (List.mem_of_getElem? (i := 47) rfl))))))))
theorem w484 : Cond.methodLink "EntryTables$Action" 22 y_A_isFull ∈ TG := List.mem_append_right _ (List.mem_append_right _ (List.mem_append_right _ (List.mem_append_right _ (List.mem_append_right _ (List.mem_append_right _ (List.mem_append_right _ (List.mem_append_left _ (List.mem_of_getElem? (i := 48) rfl))))))))
theorem w485 : Cond.methodLink "EntryTablesLaw" 79 y_L_table ∈ TG := List.mem_append_right _ (List.mem_append_right _ (List.mem_append_right _ (List.mem_append_right _ (List.mem_append_right _ (List.mem_append_right _ (List.mem_append_right _ (List.mem_append_left _ (List.mem_of_getElem? (i := 49) rfl))))))))
theorem w486 : Cond.static y_L_table ∈ TG := List.mem_append_right _ (List.mem_append_right _ (List.mem_append_right _ (List.mem_append_right _ (List.mem_append_right _ (List.mem_append_right _ (List.mem_append_right _ (List.mem_append_left _ (List.mem_of_getElem? (i := 50) rfl))))))))
theorem w487 : Cond.codeWith y_L_table method_7_code 8 (some FieldType.int) [(0, 16, 19, 21), (0, 16, 23, 13), (0, 16, 27, 15)] ∈ TG := List.mem_append_right _ (List.mem_append_right _ (List.mem_append_right _ (List.mem_append_right _ (List.mem_append_right _ (List.mem_append_right _ (List.mem_append_right _ (List.mem_append_left _ (List.mem_of_getElem? (i := 51) rfl))))))))
theorem w488 : Cond.methodLink "EntryTablesLaw" 31 y_X_table ∈ TG := List.mem_append_right _ (List.mem_append_right _ (List.mem_append_right _ (List.mem_append_right _ (List.mem_append_right _ (List.mem_append_right _ (List.mem_append_right _ (List.mem_append_left _ (List.mem_of_getElem? (i := 52) rfl))))))))
theorem w489 : Cond.instanceMethod y_X_table ∈ TG := List.mem_append_right _ (List.mem_append_right _ (List.mem_append_right _ (List.mem_append_right _ (List.mem_append_right _ (List.mem_append_right _ (List.mem_append_right _ (List.mem_append_left _ (List.mem_of_getElem? (i := 53) rfl))))))))
theorem w490 : Cond.selects "EntryTables" y_X_table y_X_table ∈ TG := List.mem_append_right _ (List.mem_append_right _ (List.mem_append_right _ (List.mem_append_right _ (List.mem_append_right _ (List.mem_append_right _ (List.mem_append_right _ (List.mem_append_left _ (List.mem_of_getElem? (i := 54) rfl))))))))
theorem w491 : Cond.code y_X_table prog_1_method_8_code 8 (some FieldType.int) ∈ TG := List.mem_append_right _ (List.mem_append_right _ (List.mem_append_right _ (List.mem_append_right _ (List.mem_append_right _ (List.mem_append_right _ (List.mem_append_right _ (List.mem_append_left _ (List.mem_of_getElem? (i := 55) rfl))))))))
theorem w492 : Cond.methodLink "EntryTables" 121 y_X_areKeyFields ∈ TG := List.mem_append_right _ (List.mem_append_right _ (List.mem_append_right _ (List.mem_append_right _ (List.mem_append_right _ (List.mem_append_right _ (List.mem_append_right _ (List.mem_append_left _ (List.mem_of_getElem? (i := 56) rfl))))))))
theorem w494 : Cond.instanceMethod y_X_areKeyFields ∈ TG := List.mem_append_right _ (List.mem_append_right _ (List.mem_append_right _ (List.mem_append_right _ (List.mem_append_right _ (List.mem_append_right _ (List.mem_append_right _ (List.mem_append_left _ (List.mem_of_getElem? (i := 57) rfl))))))))
theorem w495 : Cond.code y_X_areKeyFields prog_1_method_23_code 3 (some FieldType.boolean) ∈ TG := List.mem_append_right _ (List.mem_append_right _ (List.mem_append_right _ (List.mem_append_right _ (List.mem_append_right _ (List.mem_append_right _ (List.mem_append_right _ (List.mem_append_left _ (List.mem_of_getElem? (i := 58) rfl))))))))
theorem w496 : Cond.methodLink "EntryTables" 125 y_X_areActions ∈ TG := List.mem_append_right _ (List.mem_append_right _ (List.mem_append_right _ (List.mem_append_right _ (List.mem_append_right _ (List.mem_append_right _ (List.mem_append_right _ (List.mem_append_left _ (List.mem_of_getElem? (i := 59) rfl))))))))
theorem w498 : Cond.instanceMethod y_X_areActions ∈ TG := List.mem_append_right _ (List.mem_append_right _ (List.mem_append_right _ (List.mem_append_right _ (List.mem_append_right _ (List.mem_append_right _ (List.mem_append_right _ (List.mem_append_right _ (List.mem_append_left _ (List.mem_of_getElem? (i := 0) rfl)))))))))
theorem w499 : Cond.code y_X_areActions prog_1_method_24_code 4 (some FieldType.boolean) ∈ TG := List.mem_append_right _ (List.mem_append_right _ (List.mem_append_right _ (List.mem_append_right _ (List.mem_append_right _ (List.mem_append_right _ (List.mem_append_right _ (List.mem_append_right _ (List.mem_append_left _ (List.mem_of_getElem? (i := 1) rfl)))))))))
theorem w501 : Cond.methodLink "EntryTables" 130 y_X_isHow ∈ TG := List.mem_append_right _ (List.mem_append_right _ (List.mem_append_right _ (List.mem_append_right _ (List.mem_append_right _ (List.mem_append_right _ (List.mem_append_right _ (List.mem_append_right _ (List.mem_append_left _ (List.mem_of_getElem? (i := 2) rfl)))))))))
theorem w502 : Cond.static y_X_isHow ∈ TG := List.mem_append_right _ (List.mem_append_right _ (List.mem_append_right _ (List.mem_append_right _ (List.mem_append_right _ (List.mem_append_right _ (List.mem_append_right _ (List.mem_append_right _ (List.mem_append_left _ (List.mem_of_getElem? (i := 3) rfl)))))))))
theorem w503 : Cond.code y_X_isHow prog_1_method_25_code 4 (some FieldType.boolean) ∈ TG := List.mem_append_right _ (List.mem_append_right _ (List.mem_append_right _ (List.mem_append_right _ (List.mem_append_right _ (List.mem_append_right _ (List.mem_append_right _ (List.mem_append_right _ (List.mem_append_left _ (List.mem_of_getElem? (i := 4) rfl)))))))))
theorem w506 : Cond.methodLink "EntryTables" 137 y_T_matchKeys ∈ TG := List.mem_append_right _ (List.mem_append_right _ (List.mem_append_right _ (List.mem_append_right _ (List.mem_append_right _ (List.mem_append_right _ (List.mem_append_right _ (List.mem_append_right _ (List.mem_append_left _ (List.mem_of_getElem? (i := 5) rfl)))))))))
theorem w507 : Cond.instanceMethod y_T_matchKeys ∈ TG := List.mem_append_right _ (List.mem_append_right _ (List.mem_append_right _ (List.mem_append_right _ (List.mem_append_right _ (List.mem_append_right _ (List.mem_append_right _ (List.mem_append_right _ (List.mem_append_left _ (List.mem_of_getElem? (i := 6) rfl)))))))))
theorem w508 : Cond.selects "EntryTables$Table" y_T_matchKeys y_T_matchKeys ∈ TG := List.mem_append_right _ (List.mem_append_right _ (List.mem_append_right _ (List.mem_append_right _ (List.mem_append_right _ (List.mem_append_right _ (List.mem_append_right _ (List.mem_append_right _ (List.mem_append_left _ (List.mem_of_getElem? (i := 7) rfl)))))))))
theorem w509 : Cond.code y_T_matchKeys prog_8_method_2_code 5 none ∈ TG := List.mem_append_right _ (List.mem_append_right _ (List.mem_append_right _ (List.mem_append_right _ (List.mem_append_right _ (List.mem_append_right _ (List.mem_append_right _ (List.mem_append_right _ (List.mem_append_left _ (List.mem_of_getElem? (i := 8) rfl)))))))))
theorem w510 : Cond.methodLink "EntryTables" 140 y_F_onesOf ∈ TG := List.mem_append_right _ (List.mem_append_right _ (List.mem_append_right _ (List.mem_append_right _ (List.mem_append_right _ (List.mem_append_right _ (List.mem_append_right _ (List.mem_append_right _ (List.mem_append_left _ (List.mem_of_getElem? (i := 9) rfl)))))))))
theorem w511 : Cond.instanceMethod y_F_onesOf ∈ TG := List.mem_append_right _ (List.mem_append_right _ (List.mem_append_right _ (List.mem_append_right _ (List.mem_append_right _ (List.mem_append_right _ (List.mem_append_right _ (List.mem_append_right _ (List.mem_append_left _ (List.mem_of_getElem? (i := 10) rfl)))))))))
theorem w512 : Cond.selects "EntryTables$Fields" y_F_onesOf y_F_onesOf ∈ TG := List.mem_append_right _ (List.mem_append_right _ (List.mem_append_right _ (List.mem_append_right _ (List.mem_append_right _ (List.mem_append_right _ (List.mem_append_right _ (List.mem_append_right _ (List.mem_append_left _ (List.mem_of_getElem? (i := 11) rfl)))))))))
theorem w513 : Cond.code y_F_onesOf prog_6_method_6_code 2 (some FieldType.int) ∈ TG := List.mem_append_right _ (List.mem_append_right _ (List.mem_append_right _ (List.mem_append_right _ (List.mem_append_right _ (List.mem_append_right _ (List.mem_append_right _ (List.mem_append_right _ (List.mem_append_left _ (List.mem_of_getElem? (i := 12) rfl)))))))))
theorem w514 : Cond.methodLink "EntryTables" 143 y_T_cutKeysTo ∈ TG := List.mem_append_right _ (List.mem_append_right _ (List.mem_append_right _ (List.mem_append_right _ (List.mem_append_right _ (List.mem_append_right _ (List.mem_append_right _ (List.mem_append_right _ (List.mem_append_left _ (List.mem_of_getElem? (i := 13) rfl)))))))))
theorem w515 : Cond.instanceMethod y_T_cutKeysTo ∈ TG := List.mem_append_right _ (List.mem_append_right _ (List.mem_append_right _ (List.mem_append_right _ (List.mem_append_right _ (List.mem_append_right _ (List.mem_append_right _ (List.mem_append_right _ (List.mem_append_left _ (List.mem_of_getElem? (i := 14) rfl)))))))))
theorem w516 : Cond.selects "EntryTables$Table" y_T_cutKeysTo y_T_cutKeysTo ∈ TG := List.mem_append_right _ (List.mem_append_right _ (List.mem_append_right _ (List.mem_append_right _ (List.mem_append_right _ (List.mem_append_right _ (List.mem_append_right _ (List.mem_append_right _ (List.mem_append_left _ (List.mem_of_getElem? (i := 15) rfl)))))))))
theorem w517 : Cond.code y_T_cutKeysTo prog_8_method_3_code 3 none ∈ TG := List.mem_append_right _ (List.mem_append_right _ (List.mem_append_right _ (List.mem_append_right _ (List.mem_append_right _ (List.mem_append_right _ (List.mem_append_right _ (List.mem_append_right _ (List.mem_append_left _ (List.mem_of_getElem? (i := 16) rfl)))))))))
theorem w518 : Cond.methodLink "EntryTables" 146 y_T_allowActions ∈ TG := List.mem_append_right _ (List.mem_append_right _ (List.mem_append_right _ (List.mem_append_right _ (List.mem_append_right _ (List.mem_append_right _ (List.mem_append_right _ (List.mem_append_right _ (List.mem_append_left _ (List.mem_of_getElem? (i := 17) rfl)))))))))
theorem w519 : Cond.instanceMethod y_T_allowActions ∈ TG := List.mem_append_right _ (List.mem_append_right _ (List.mem_append_right _ (List.mem_append_right _ (List.mem_append_right _ (List.mem_append_right _ (List.mem_append_right _ (List.mem_append_right _ (List.mem_append_left _ (List.mem_of_getElem? (i := 18) rfl)))))))))
theorem w520 : Cond.selects "EntryTables$Table" y_T_allowActions y_T_allowActions ∈ TG := List.mem_append_right _ (List.mem_append_right _ (List.mem_append_right _ (List.mem_append_right _ (List.mem_append_right _ (List.mem_append_right _ (List.mem_append_right _ (List.mem_append_right _ (List.mem_append_left _ (List.mem_of_getElem? (i := 19) rfl)))))))))
theorem w521 : Cond.code y_T_allowActions prog_8_method_4_code 3 none ∈ TG := List.mem_append_right _ (List.mem_append_right _ (List.mem_append_right _ (List.mem_append_right _ (List.mem_append_right _ (List.mem_append_right _ (List.mem_append_right _ (List.mem_append_right _ (List.mem_append_left _ (List.mem_of_getElem? (i := 20) rfl)))))))))
theorem w522 : Cond.methodLink "EntryTablesLaw" 88 y_L_insert ∈ TG := List.mem_append_right _ (List.mem_append_right _ (List.mem_append_right _ (List.mem_append_right _ (List.mem_append_right _ (List.mem_append_right _ (List.mem_append_right _ (List.mem_append_right _ (List.mem_append_left _ (List.mem_of_getElem? (i := 21) rfl)))))))))
theorem w523 : Cond.static y_L_insert ∈ TG := List.mem_append_right _ (List.mem_append_right _ (List.mem_append_right _ (List.mem_append_right _ (List.mem_append_right _ (List.mem_append_right _ (List.mem_append_right _ (List.mem_append_right _ (List.mem_append_left _ (List.mem_of_getElem? (i := 22) rfl)))))))))
theorem w524 : Cond.codeWith y_L_insert method_8_code 8 (some FieldType.int) [(0, 23, 26, 21)] ∈ TG := List.mem_append_right _ (List.mem_append_right _ (List.mem_append_right _ (List.mem_append_right _ (List.mem_append_right _ (List.mem_append_right _ (List.mem_append_right _ (List.mem_append_right _ (List.mem_append_left _ (List.mem_of_getElem? (i := 23) rfl)))))))))
theorem w525 : Cond.methodLink "EntryTablesLaw" 35 y_X_insert ∈ TG := List.mem_append_right _ (List.mem_append_right _ (List.mem_append_right _ (List.mem_append_right _ (List.mem_append_right _ (List.mem_append_right _ (List.mem_append_right _ (List.mem_append_right _ (List.mem_append_left _ (List.mem_of_getElem? (i := 24) rfl)))))))))
theorem w526 : Cond.instanceMethod y_X_insert ∈ TG := List.mem_append_right _ (List.mem_append_right _ (List.mem_append_right _ (List.mem_append_right _ (List.mem_append_right _ (List.mem_append_right _ (List.mem_append_right _ (List.mem_append_right _ (List.mem_append_left _ (List.mem_of_getElem? (i := 25) rfl)))))))))
theorem w527 : Cond.selects "EntryTables" y_X_insert y_X_insert ∈ TG := List.mem_append_right _ (List.mem_append_right _ (List.mem_append_right _ (List.mem_append_right _ (List.mem_append_right _ (List.mem_append_right _ (List.mem_append_right _ (List.mem_append_right _ (List.mem_append_left _ (List.mem_of_getElem? (i := 26) rfl)))))))))
theorem w528 : Cond.code y_X_insert prog_1_method_10_code 6 (some FieldType.boolean) ∈ TG := List.mem_append_right _ (List.mem_append_right _ (List.mem_append_right _ (List.mem_append_right _ (List.mem_append_right _ (List.mem_append_right _ (List.mem_append_right _ (List.mem_append_right _ (List.mem_append_left _ (List.mem_of_getElem? (i := 27) rfl)))))))))
theorem w530 : Cond.methodLink "EntryTables" 154 y_T_takeIn ∈ TG := List.mem_append_right _ (List.mem_append_right _ (List.mem_append_right _ (List.mem_append_right _ (List.mem_append_right _ (List.mem_append_right _ (List.mem_append_right _ (List.mem_append_right _ (List.mem_append_left _ (List.mem_of_getElem? (i := 28) rfl)))))))))
theorem w531 : Cond.instanceMethod y_T_takeIn ∈ TG := List.mem_append_right _ (List.mem_append_right _ (List.mem_append_right _ (List.mem_append_right _ (List.mem_append_right _ (List.mem_append_right _ (List.mem_append_right _ (List.mem_append_right _ (List.mem_append_left _ (List.mem_of_getElem? (i := 29) rfl)))))))))
theorem w532 : Cond.selects "EntryTables$Table" y_T_takeIn y_T_takeIn ∈ TG := List.mem_append_right _ (List.mem_append_right _ (List.mem_append_right _ (List.mem_append_right _ (List.mem_append_right _ (List.mem_append_right _ (List.mem_append_right _ (List.mem_append_right _ (List.mem_append_left _ (List.mem_of_getElem? (i := 30) rfl)))))))))
theorem w533 : Cond.code y_T_takeIn prog_8_method_5_code 7 (some FieldType.boolean) ∈ TG := List.mem_append_right _ (List.mem_append_right _ (List.mem_append_right _ (List.mem_append_right _ (List.mem_append_right _ (List.mem_append_right _ (List.mem_append_right _ (List.mem_append_right _ (List.mem_append_left _ (List.mem_of_getElem? (i := 31) rfl)))))))))
theorem w534 : Cond.methodLink "EntryTables$Table" 53 y_T_seek ∈ TG := List.mem_append_right _ (List.mem_append_right _ (List.mem_append_right _ (List.mem_append_right _ (List.mem_append_right _ (List.mem_append_right _ (List.mem_append_right _ (List.mem_append_right _ (List.mem_append_left _ (List.mem_of_getElem? (i := 32) rfl)))))))))
theorem w536 : Cond.instanceMethod y_T_seek ∈ TG := List.mem_append_right _ (List.mem_append_right _ (List.mem_append_right _ (List.mem_append_right _ (List.mem_append_right _ (List.mem_append_right _ (List.mem_append_right _ (List.mem_append_right _ (List.mem_append_left _ (List.mem_of_getElem? (i := 33) rfl)))))))))
theorem w537 : Cond.code y_T_seek prog_8_method_10_code 4 none ∈ TG := List.mem_append_right _ (List.mem_append_right _ (List.mem_append_right _ (List.mem_append_right _ (List.mem_append_right _ (List.mem_append_right _ (List.mem_append_right _ (List.mem_append_right _ (List.mem_append_left _ (List.mem_of_getElem? (i := 34) rfl)))))))))
theorem w538 : Cond.methodLink "EntryTables$Table" 84 y_K_hold ∈ TG := List.mem_append_right _ (List.mem_append_right _ (List.mem_append_right _ (List.mem_append_right _ (List.mem_append_right _ (List.mem_append_right _ (List.mem_append_right _ (List.mem_append_right _ (List.mem_append_left _ (List.mem_of_getElem? (i := 35) rfl)))))))))
theorem w539 : Cond.methodLink "EntryTables$Table" 57 y_T_areMasks ∈ TG := List.mem_append_right _ (List.mem_append_right _ (List.mem_append_right _ (List.mem_append_right _ (List.mem_append_right _ (List.mem_append_right _ (List.mem_append_right _ (List.mem_append_right _ (List.mem_append_left _ (List.mem_of_getElem? (i := 36) rfl)))))))))
theorem w541 : Cond.instanceMethod y_T_areMasks ∈ TG := List.mem_append_right _ (List.mem_append_right _ (List.mem_append_right _ (List.mem_append_right _ (List.mem_append_right _ (List.mem_append_right _ (List.mem_append_right _ (List.mem_append_right _ (List.mem_append_left _ (List.mem_of_getElem? (i := 37) rfl)))))))))
theorem w542 : Cond.code y_T_areMasks prog_8_method_12_code 1 (some FieldType.boolean) ∈ TG := List.mem_append_right _ (List.mem_append_right _ (List.mem_append_right _ (List.mem_append_right _ (List.mem_append_right _ (List.mem_append_right _ (List.mem_append_right _ (List.mem_append_right _ (List.mem_append_left _ (List.mem_of_getElem? (i := 38) rfl)))))))))
theorem w543 : Cond.methodLink "EntryTables$Table" 127 y_T_isMask ∈ TG := List.mem_append_right _ (List.mem_append_right _ (List.mem_append_right _ (List.mem_append_right _ (List.mem_append_right _ (List.mem_append_right _ (List.mem_append_right _ (List.mem_append_right _ (List.mem_append_left _ (List.mem_of_getElem? (i := 39) rfl)))))))))
theorem w544 : Cond.static y_T_isMask ∈ TG := List.mem_append_right _ (List.mem_append_right _ (List.mem_append_right _ (List.mem_append_right _ (List.mem_append_right _ (List.mem_append_right _ (List.mem_append_right _ (List.mem_append_right _ (List.mem_append_left _ (List.mem_of_getElem? (i := 40) rfl)))))))))
theorem w545 : Cond.code y_T_isMask prog_8_method_13_code 4 (some FieldType.boolean) ∈ TG := List.mem_append_right _ (List.mem_append_right _ (List.mem_append_right _ (List.mem_append_right _ (List.mem_append_right _ (List.mem_append_right _ (List.mem_append_right _ (List.mem_append_right _ (List.mem_append_left _ (List.mem_of_getElem? (i := 41) rfl)))))))))
theorem w546 : Cond.methodLink "EntryTables$Table" 61 y_T_isAllowed ∈ TG := List.mem_append_right _ (List.mem_append_right _ (List.mem_append_right _ (List.mem_append_right _ (List.mem_append_right _ (List.mem_append_right _ (List.mem_append_right _ (List.mem_append_right _ (List.mem_append_left _ (List.mem_of_getElem? (i := 42) rfl)))))))))
theorem w548 : Cond.instanceMethod y_T_isAllowed ∈ TG := List.mem_append_right _ (List.mem_append_right _ (List.mem_append_right _ (List.mem_append_right _ (List.mem_append_right _ (List.mem_append_right _ (List.mem_append_right _ (List.mem_append_right _ (List.mem_append_left _ (List.mem_of_getElem? (i := 43) rfl)))))))))
theorem w549 : Cond.code y_T_isAllowed prog_8_method_14_code 2 (some FieldType.boolean) ∈ TG := List.mem_append_right _ (List.mem_append_right _ (List.mem_append_right _ (List.mem_append_right _ (List.mem_append_right _ (List.mem_append_right _ (List.mem_append_right _ (List.mem_append_right _ (List.mem_append_left _ (List.mem_of_getElem? (i := 44) rfl)))))))))
theorem w550 : Cond.methodLink "EntryTables$Table" 65 y_T_rowOfSought ∈ TG := List.mem_append_right _ (List.mem_append_right _ (List.mem_append_right _ (List.mem_append_right _ (List.mem_append_right _ (List.mem_append_right _ (List.mem_append_right _ (List.mem_append_right _ (List.mem_append_left _ (List.mem_of_getElem? (i := 45) rfl)))))))))
theorem w552 : Cond.instanceMethod y_T_rowOfSought ∈ TG := List.mem_append_right _ (List.mem_append_right _ (List.mem_append_right _ (List.mem_append_right _ (List.mem_append_right _ (List.mem_append_right _ (List.mem_append_right _ (List.mem_append_right _ (List.mem_append_left _ (List.mem_of_getElem? (i := 46) rfl)))))))))
theorem w553 : Cond.code y_T_rowOfSought prog_8_method_11_code 2 (some FieldType.int) ∈ TG := List.mem_append_right _ (List.mem_append_right _ (List.mem_append_right _ (List.mem_append_right _ (List.mem_append_right _ (List.mem_append_right _ (List.mem_append_right _ (List.mem_append_right _ (List.mem_append_left _ (List.mem_of_getElem? (i := 47) rfl)))))))))
theorem w554 : Cond.methodLink "EntryTables$Table" 123 y_K_isSameAs ∈ TG := List.mem_append_right _ (List.mem_append_right _ (List.mem_append_right _ (List.mem_append_right _ (List.mem_append_right _ (List.mem_append_right _ (List.mem_append_right _ (List.mem_append_right _ (List.mem_append_left _ (List.mem_of_getElem? (i := 48) rfl)))))))))
theorem w555 : Cond.instanceMethod y_K_isSameAs ∈ TG := List.mem_append_right _ (List.mem_append_right _ (List.mem_append_right _ (List.mem_append_right _ (List.mem_append_right _ (List.mem_append_right _ (List.mem_append_right _ (List.mem_append_right _ (List.mem_append_left _ (List.mem_of_getElem? (i := 49) rfl)))))))))
theorem w556 : Cond.selects "EntryTables$Key" y_K_isSameAs y_K_isSameAs ∈ TG := List.mem_append_right _ (List.mem_append_right _ (List.mem_append_right _ (List.mem_append_right _ (List.mem_append_right _ (List.mem_append_right _ (List.mem_append_right _ (List.mem_append_right _ (List.mem_append_left _ (List.mem_of_getElem? (i := 50) rfl)))))))))
theorem w557 : Cond.code y_K_isSameAs prog_7_method_3_code 2 (some FieldType.boolean) ∈ TG := List.mem_append_right _ (List.mem_append_right _ (List.mem_append_right _ (List.mem_append_right _ (List.mem_append_right _ (List.mem_append_right _ (List.mem_append_right _ (List.mem_append_right _ (List.mem_append_left _ (List.mem_of_getElem? (i := 51) rfl)))))))))
theorem w558 : Cond.methodLink "EntryTablesLaw" 91 y_L_remove ∈ TG := List.mem_append_right _ (List.mem_append_right _ (List.mem_append_right _ (List.mem_append_right _ (List.mem_append_right _ (List.mem_append_right _ (List.mem_append_right _ (List.mem_append_right _ (List.mem_append_left _ (List.mem_of_getElem? (i := 52) rfl)))))))))
theorem w559 : Cond.static y_L_remove ∈ TG := List.mem_append_right _ (List.mem_append_right _ (List.mem_append_right _ (List.mem_append_right _ (List.mem_append_right _ (List.mem_append_right _ (List.mem_append_right _ (List.mem_append_right _ (List.mem_append_left _ (List.mem_of_getElem? (i := 53) rfl)))))))))
theorem w560 : Cond.codeWith y_L_remove method_9_code 4 (some FieldType.int) [(0, 16, 19, 21)] ∈ TG := List.mem_append_right _ (List.mem_append_right _ (List.mem_append_right _ (List.mem_append_right _ (List.mem_append_right _ (List.mem_append_right _ (List.mem_append_right _ (List.mem_append_right _ (List.mem_append_left _ (List.mem_of_getElem? (i := 54) rfl)))))))))
theorem w561 : Cond.methodLink "EntryTablesLaw" 39 y_X_remove ∈ TG := List.mem_append_right _ (List.mem_append_right _ (List.mem_append_right _ (List.mem_append_right _ (List.mem_append_right _ (List.mem_append_right _ (List.mem_append_right _ (List.mem_append_right _ (List.mem_append_left _ (List.mem_of_getElem? (i := 55) rfl)))))))))
theorem w562 : Cond.instanceMethod y_X_remove ∈ TG := List.mem_append_right _ (List.mem_append_right _ (List.mem_append_right _ (List.mem_append_right _ (List.mem_append_right _ (List.mem_append_right _ (List.mem_append_right _ (List.mem_append_right _ (List.mem_append_left _ (List.mem_of_getElem? (i := 56) rfl)))))))))
theorem w563 : Cond.selects "EntryTables" y_X_remove y_X_remove ∈ TG := List.mem_append_right _ (List.mem_append_right _ (List.mem_append_right _ (List.mem_append_right _ (List.mem_append_right _ (List.mem_append_right _ (List.mem_append_right _ (List.mem_append_right _ (List.mem_append_left _ (List.mem_of_getElem? (i := 57) rfl)))))))))
theorem w564 : Cond.code y_X_remove prog_1_method_11_code 2 (some FieldType.boolean) ∈ TG := List.mem_append_right _ (List.mem_append_right _ (List.mem_append_right _ (List.mem_append_right _ (List.mem_append_right _ (List.mem_append_right _ (List.mem_append_right _ (List.mem_append_right _ (List.mem_append_left _ (List.mem_of_getElem? (i := 58) rfl)))))))))
theorem w565 : Cond.methodLink "EntryTables" 158 y_T_takeOut ∈ TG := List.mem_append_right _ (List.mem_append_right _ (List.mem_append_right _ (List.mem_append_right _ (List.mem_append_right _ (List.mem_append_right _ (List.mem_append_right _ (List.mem_append_right _ (List.mem_append_left _ (List.mem_of_getElem? (i := 59) rfl)))))))))
theorem w566 : Cond.instanceMethod y_T_takeOut ∈ TG := List.mem_append_right _ (List.mem_append_right _ (List.mem_append_right _ (List.mem_append_right _ (List.mem_append_right _ (List.mem_append_right _ (List.mem_append_right _ (List.mem_append_right _ (List.mem_append_right _ (List.mem_append_left _ (List.mem_of_getElem? (i := 0) rfl))))))))))
theorem w567 : Cond.selects "EntryTables$Table" y_T_takeOut y_T_takeOut ∈ TG := List.mem_append_right _ (List.mem_append_right _ (List.mem_append_right _ (List.mem_append_right _ (List.mem_append_right _ (List.mem_append_right _ (List.mem_append_right _ (List.mem_append_right _ (List.mem_append_right _ (List.mem_append_left _ (List.mem_of_getElem? (i := 1) rfl))))))))))
theorem w568 : Cond.code y_T_takeOut prog_8_method_6_code 5 (some FieldType.boolean) ∈ TG := List.mem_append_right _ (List.mem_append_right _ (List.mem_append_right _ (List.mem_append_right _ (List.mem_append_right _ (List.mem_append_right _ (List.mem_append_right _ (List.mem_append_right _ (List.mem_append_right _ (List.mem_append_left _ (List.mem_of_getElem? (i := 2) rfl))))))))))
theorem w569 : Cond.methodLink "EntryTablesLaw" 94 y_L_act ∈ TG := List.mem_append_right _ (List.mem_append_right _ (List.mem_append_right _ (List.mem_append_right _ (List.mem_append_right _ (List.mem_append_right _ (List.mem_append_right _ (List.mem_append_right _ (List.mem_append_right _ (List.mem_append_left _ (List.mem_of_getElem? (i := 3) rfl))))))))))
theorem w570 : Cond.static y_L_act ∈ TG := List.mem_append_right _ (List.mem_append_right _ (List.mem_append_right _ (List.mem_append_right _ (List.mem_append_right _ (List.mem_append_right _ (List.mem_append_right _ (List.mem_append_right _ (List.mem_append_right _ (List.mem_append_left _ (List.mem_of_getElem? (i := 4) rfl))))))))))
theorem w571 : Cond.codeWith y_L_act method_10_code 4 (some FieldType.int) [(0, 16, 19, 21)] ∈ TG := List.mem_append_right _ (List.mem_append_right _ (List.mem_append_right _ (List.mem_append_right _ (List.mem_append_right _ (List.mem_append_right _ (List.mem_append_right _ (List.mem_append_right _ (List.mem_append_right _ (List.mem_append_left _ (List.mem_of_getElem? (i := 5) rfl))))))))))
theorem w572 : Cond.methodLink "EntryTablesLaw" 43 y_X_act ∈ TG := List.mem_append_right _ (List.mem_append_right _ (List.mem_append_right _ (List.mem_append_right _ (List.mem_append_right _ (List.mem_append_right _ (List.mem_append_right _ (List.mem_append_right _ (List.mem_append_right _ (List.mem_append_left _ (List.mem_of_getElem? (i := 6) rfl))))))))))
theorem w573 : Cond.instanceMethod y_X_act ∈ TG := List.mem_append_right _ (List.mem_append_right _ (List.mem_append_right _ (List.mem_append_right _ (List.mem_append_right _ (List.mem_append_right _ (List.mem_append_right _ (List.mem_append_right _ (List.mem_append_right _ (List.mem_append_left _ (List.mem_of_getElem? (i := 7) rfl))))))))))
theorem w574 : Cond.selects "EntryTables" y_X_act y_X_act ∈ TG := List.mem_append_right _ (List.mem_append_right _ (List.mem_append_right _ (List.mem_append_right _ (List.mem_append_right _ (List.mem_append_right _ (List.mem_append_right _ (List.mem_append_right _ (List.mem_append_right _ (List.mem_append_left _ (List.mem_of_getElem? (i := 8) rfl))))))))))
theorem w575 : Cond.code y_X_act prog_1_method_12_code 3 (some FieldType.boolean) ∈ TG := List.mem_append_right _ (List.mem_append_right _ (List.mem_append_right _ (List.mem_append_right _ (List.mem_append_right _ (List.mem_append_right _ (List.mem_append_right _ (List.mem_append_right _ (List.mem_append_right _ (List.mem_append_left _ (List.mem_of_getElem? (i := 9) rfl))))))))))
theorem w576 : Cond.methodLink "EntryTables" 169 y_X_doAction ∈ TG := List.mem_append_right _ (List.mem_append_right _ (List.mem_append_right _ (List.mem_append_right _ (List.mem_append_right _ (List.mem_append_right _ (List.mem_append_right _ (List.mem_append_right _ (List.mem_append_right _ (List.mem_append_left _ (List.mem_of_getElem? (i := 10) rfl))))))))))
theorem w578 : Cond.instanceMethod y_X_doAction ∈ TG := List.mem_append_right _ (List.mem_append_right _ (List.mem_append_right _ (List.mem_append_right _ (List.mem_append_right _ (List.mem_append_right _ (List.mem_append_right _ (List.mem_append_right _ (List.mem_append_right _ (List.mem_append_left _ (List.mem_of_getElem? (i := 11) rfl))))))))))
theorem w579 : Cond.code y_X_doAction prog_1_method_26_code 6 none ∈ TG := List.mem_append_right _ (List.mem_append_right _ (List.mem_append_right _ (List.mem_append_right _ (List.mem_append_right _ (List.mem_append_right _ (List.mem_append_right _ (List.mem_append_right _ (List.mem_append_right _ (List.mem_append_left _ (List.mem_of_getElem? (i := 12) rfl))))))))))
theorem w580 : Cond.methodLink "EntryTables" 201 y_X_doOne ∈ TG := List.mem_append_right _ (List.mem_append_right _ (List.mem_append_right _ (List.mem_append_right _ (List.mem_append_right _ (List.mem_append_right _ (List.mem_append_right _ (List.mem_append_right _ (List.mem_append_right _ (List.mem_append_left _ (List.mem_of_getElem? (i := 13) rfl))))))))))
theorem w582 : Cond.instanceMethod y_X_doOne ∈ TG := List.mem_append_right _ (List.mem_append_right _ (List.mem_append_right _ (List.mem_append_right _ (List.mem_append_right _ (List.mem_append_right _ (List.mem_append_right _ (List.mem_append_right _ (List.mem_append_right _ (List.mem_append_left _ (List.mem_of_getElem? (i := 14) rfl))))))))))
theorem w583 : Cond.code y_X_doOne prog_1_method_27_code 4 none ∈ TG := List.mem_append_right _ (List.mem_append_right _ (List.mem_append_right _ (List.mem_append_right _ (List.mem_append_right _ (List.mem_append_right _ (List.mem_append_right _ (List.mem_append_right _ (List.mem_append_right _ (List.mem_append_left _ (List.mem_of_getElem? (i := 15) rfl))))))))))
theorem w584 : Cond.methodLink "EntryTables" 219 y_X_wordNumber ∈ TG := List.mem_append_right _ (List.mem_append_right _ (List.mem_append_right _ (List.mem_append_right _ (List.mem_append_right _ (List.mem_append_right _ (List.mem_append_right _ (List.mem_append_right _ (List.mem_append_right _ (List.mem_append_left _ (List.mem_of_getElem? (i := 16) rfl))))))))))
theorem w586 : Cond.instanceMethod y_X_wordNumber ∈ TG := List.mem_append_right _ (List.mem_append_right _ (List.mem_append_right _ (List.mem_append_right _ (List.mem_append_right _ (List.mem_append_right _ (List.mem_append_right _ (List.mem_append_right _ (List.mem_append_right _ (List.mem_append_left _ (List.mem_of_getElem? (i := 17) rfl))))))))))
theorem w587 : Cond.code y_X_wordNumber prog_1_method_28_code 2 (some FieldType.int) ∈ TG := List.mem_append_right _ (List.mem_append_right _ (List.mem_append_right _ (List.mem_append_right _ (List.mem_append_right _ (List.mem_append_right _ (List.mem_append_right _ (List.mem_append_right _ (List.mem_append_right _ (List.mem_append_left _ (List.mem_of_getElem? (i := 18) rfl))))))))))
theorem w588 : Cond.methodLink "EntryTables" 225 y_JM_floorMod ∈ TG := List.mem_append_right _ (List.mem_append_right _ (List.mem_append_right _ (List.mem_append_right _ (List.mem_append_right _ (List.mem_append_right _ (List.mem_append_right _ (List.mem_append_right _ (List.mem_append_right _ (List.mem_append_left _ (List.mem_of_getElem? (i := 19) rfl))))))))))
theorem w589 : Cond.static y_JM_floorMod ∈ TG := List.mem_append_right _ (List.mem_append_right _ (List.mem_append_right _ (List.mem_append_right _ (List.mem_append_right _ (List.mem_append_right _ (List.mem_append_right _ (List.mem_append_right _ (List.mem_append_right _ (List.mem_append_left _ (List.mem_of_getElem? (i := 20) rfl))))))))))
theorem w590 : Cond.code y_JM_floorMod prog_16_method_50_code 3 (some FieldType.int) ∈ TG := List.mem_append_right _ (List.mem_append_right _ (List.mem_append_right _ (List.mem_append_right _ (List.mem_append_right _ (List.mem_append_right _ (List.mem_append_right _ (List.mem_append_right _ (List.mem_append_right _ (List.mem_append_left _ (List.mem_of_getElem? (i := 21) rfl))))))))))
theorem w591 : Cond.methodLink "EntryTables" 222 y_C_grow ∈ TG := List.mem_append_right _ (List.mem_append_right _ (List.mem_append_right _ (List.mem_append_right _ (List.mem_append_right _ (List.mem_append_right _ (List.mem_append_right _ (List.mem_append_right _ (List.mem_append_right _ (List.mem_append_left _ (List.mem_of_getElem? (i := 22) rfl))))))))))
theorem w592 : Cond.instanceMethod y_C_grow ∈ TG := List.mem_append_right _ (List.mem_append_right _ (List.mem_append_right _ (List.mem_append_right _ (List.mem_append_right _ (List.mem_append_right _ (List.mem_append_right _ (List.mem_append_right _ (List.mem_append_right _ (List.mem_append_left _ (List.mem_of_getElem? (i := 23) rfl))))))))))
theorem w593 : Cond.selects "EntryTables$Counts" y_C_grow y_C_grow ∈ TG := List.mem_append_right _ (List.mem_append_right _ (List.mem_append_right _ (List.mem_append_right _ (List.mem_append_right _ (List.mem_append_right _ (List.mem_append_right _ (List.mem_append_right _ (List.mem_append_right _ (List.mem_append_left _ (List.mem_of_getElem? (i := 24) rfl))))))))))
theorem w594 : Cond.code y_C_grow prog_3_method_5_code 4 none ∈ TG := List.mem_append_right _ (List.mem_append_right _ (List.mem_append_right _ (List.mem_append_right _ (List.mem_append_right _ (List.mem_append_right _ (List.mem_append_right _ (List.mem_append_right _ (List.mem_append_right _ (List.mem_append_left _ (List.mem_of_getElem? (i := 25) rfl))))))))))
theorem w595 : Cond.classLink "EntryTablesLaw" 47 "EntryTablesModel" ∈ TG := List.mem_append_right _ (List.mem_append_right _ (List.mem_append_right _ (List.mem_append_right _ (List.mem_append_right _ (List.mem_append_right _ (List.mem_append_right _ (List.mem_append_right _ (List.mem_append_right _ (List.mem_append_left _ (List.mem_of_getElem? (i := 26) rfl))))))))))
theorem w596 : Cond.instantiable "EntryTablesModel" 20 ∈ TG := List.mem_append_right _ (List.mem_append_right _ (List.mem_append_right _ (List.mem_append_right _ (List.mem_append_right _ (List.mem_append_right _ (List.mem_append_right _ (List.mem_append_right _ (List.mem_append_right _ (List.mem_append_left _ (List.mem_of_getElem? (i := 27) rfl))))))))))
theorem w597 : Cond.methodLink "EntryTablesLaw" 49 y_M_init ∈ TG := List.mem_append_right _ (List.mem_append_right _ (List.mem_append_right _ (List.mem_append_right _ (List.mem_append_right _ (List.mem_append_right _ (List.mem_append_right _ (List.mem_append_right _ (List.mem_append_right _ (List.mem_append_left _ (List.mem_of_getElem? (i := 28) rfl))))))))))
theorem w598 : Cond.instanceMethod y_M_init ∈ TG := List.mem_append_right _ (List.mem_append_right _ (List.mem_append_right _ (List.mem_append_right _ (List.mem_append_right _ (List.mem_append_right _ (List.mem_append_right _ (List.mem_append_right _ (List.mem_append_right _ (List.mem_append_left _ (List.mem_of_getElem? (i := 29) rfl))))))))))
theorem w599 : Cond.code y_M_init prog_10_method_1_code 1 none ∈ TG := List.mem_append_right _ (List.mem_append_right _ (List.mem_append_right _ (List.mem_append_right _ (List.mem_append_right _ (List.mem_append_right _ (List.mem_append_right _ (List.mem_append_right _ (List.mem_append_right _ (List.mem_append_left _ (List.mem_of_getElem? (i := 30) rfl))))))))))
theorem w600 : Cond.methodLink "EntryTablesModel" 1 y_JO_init ∈ TG := List.mem_append_right _ (List.mem_append_right _ (List.mem_append_right _ (List.mem_append_right _ (List.mem_append_right _ (List.mem_append_right _ (List.mem_append_right _ (List.mem_append_right _ (List.mem_append_right _ (List.mem_append_left _ (List.mem_of_getElem? (i := 31) rfl))))))))))
theorem w601 : Cond.fieldLink "EntryTablesModel" 7 "EntryTablesModel" "thrownCode" "I" ∈ TG := List.mem_append_right _ (List.mem_append_right _ (List.mem_append_right _ (List.mem_append_right _ (List.mem_append_right _ (List.mem_append_right _ (List.mem_append_right _ (List.mem_append_right _ (List.mem_append_right _ (List.mem_append_left _ (List.mem_of_getElem? (i := 32) rfl))))))))))
theorem w602 : Cond.fieldLink "EntryTablesModel" 13 "EntryTablesModel" "fields" "I" ∈ TG := List.mem_append_right _ (List.mem_append_right _ (List.mem_append_right _ (List.mem_append_right _ (List.mem_append_right _ (List.mem_append_right _ (List.mem_append_right _ (List.mem_append_right _ (List.mem_append_right _ (List.mem_append_left _ (List.mem_of_getElem? (i := 33) rfl))))))))))
theorem w603 : Cond.fieldLink "EntryTablesModel" 16 "EntryTablesModel" "width" "[I" ∈ TG := List.mem_append_right _ (List.mem_append_right _ (List.mem_append_right _ (List.mem_append_right _ (List.mem_append_right _ (List.mem_append_right _ (List.mem_append_right _ (List.mem_append_right _ (List.mem_append_right _ (List.mem_append_left _ (List.mem_of_getElem? (i := 34) rfl))))))))))
theorem w604 : Cond.fieldLink "EntryTablesModel" 20 "EntryTablesModel" "held" "[I" ∈ TG := List.mem_append_right _ (List.mem_append_right _ (List.mem_append_right _ (List.mem_append_right _ (List.mem_append_right _ (List.mem_append_right _ (List.mem_append_right _ (List.mem_append_right _ (List.mem_append_right _ (List.mem_append_left _ (List.mem_of_getElem? (i := 35) rfl))))))))))
theorem w605 : Cond.fieldLink "EntryTablesModel" 23 "EntryTablesModel" "actions" "I" ∈ TG := List.mem_append_right _ (List.mem_append_right _ (List.mem_append_right _ (List.mem_append_right _ (List.mem_append_right _ (List.mem_append_right _ (List.mem_append_right _ (List.mem_append_right _ (List.mem_append_right _ (List.mem_append_left _ (List.mem_of_getElem? (i := 36) rfl))))))))))
theorem w606 : Cond.fieldLink "EntryTablesModel" 26 "EntryTablesModel" "doings" "[I" ∈ TG := List.mem_append_right _ (List.mem_append_right _ (List.mem_append_right _ (List.mem_append_right _ (List.mem_append_right _ (List.mem_append_right _ (List.mem_append_right _ (List.mem_append_right _ (List.mem_append_right _ (List.mem_append_left _ (List.mem_of_getElem? (i := 37) rfl))))))))))
theorem w607 : Cond.fieldLink "EntryTablesModel" 29 "EntryTablesModel" "doing" "[I" ∈ TG := List.mem_append_right _ (List.mem_append_right _ (List.mem_append_right _ (List.mem_append_right _ (List.mem_append_right _ (List.mem_append_right _ (List.mem_append_right _ (List.mem_append_right _ (List.mem_append_right _ (List.mem_append_left _ (List.mem_of_getElem? (i := 38) rfl))))))))))
theorem w608 : Cond.fieldLink "EntryTablesModel" 32 "EntryTablesModel" "array" "[I" ∈ TG := List.mem_append_right _ (List.mem_append_right _ (List.mem_append_right _ (List.mem_append_right _ (List.mem_append_right _ (List.mem_append_right _ (List.mem_append_right _ (List.mem_append_right _ (List.mem_append_right _ (List.mem_append_left _ (List.mem_of_getElem? (i := 39) rfl))))))))))
theorem w609 : Cond.fieldLink "EntryTablesModel" 35 "EntryTablesModel" "tables" "I" ∈ TG := List.mem_append_right _ (List.mem_append_right _ (List.mem_append_right _ (List.mem_append_right _ (List.mem_append_right _ (List.mem_append_right _ (List.mem_append_right _ (List.mem_append_right _ (List.mem_append_right _ (List.mem_append_left _ (List.mem_of_getElem? (i := 40) rfl))))))))))
theorem w610 : Cond.fieldLink "EntryTablesModel" 38 "EntryTablesModel" "one" "[I" ∈ TG := List.mem_append_right _ (List.mem_append_right _ (List.mem_append_right _ (List.mem_append_right _ (List.mem_append_right _ (List.mem_append_right _ (List.mem_append_right _ (List.mem_append_right _ (List.mem_append_right _ (List.mem_append_left _ (List.mem_of_getElem? (i := 41) rfl))))))))))
theorem w611 : Cond.fieldLink "EntryTablesModel" 41 "EntryTablesModel" "two" "[I" ∈ TG := List.mem_append_right _ (List.mem_append_right _ (List.mem_append_right _ (List.mem_append_right _ (List.mem_append_right _ (List.mem_append_right _ (List.mem_append_right _ (List.mem_append_right _ (List.mem_append_right _ (List.mem_append_left _ (List.mem_of_getElem? (i := 42) rfl))))))))))
theorem w612 : Cond.fieldLink "EntryTablesModel" 44 "EntryTablesModel" "how" "[I" ∈ TG := List.mem_append_right _ (List.mem_append_right _ (List.mem_append_right _ (List.mem_append_right _ (List.mem_append_right _ (List.mem_append_right _ (List.mem_append_right _ (List.mem_append_right _ (List.mem_append_right _ (List.mem_append_left _ (List.mem_of_getElem? (i := 43) rfl))))))))))
theorem w613 : Cond.fieldLink "EntryTablesModel" 47 "EntryTablesModel" "may" "[I" ∈ TG := List.mem_append_right _ (List.mem_append_right _ (List.mem_append_right _ (List.mem_append_right _ (List.mem_append_right _ (List.mem_append_right _ (List.mem_append_right _ (List.mem_append_right _ (List.mem_append_right _ (List.mem_append_left _ (List.mem_of_getElem? (i := 44) rfl))))))))))
theorem w614 : Cond.fieldLink "EntryTablesModel" 50 "EntryTablesModel" "miss" "[I" ∈ TG := List.mem_append_right _ (List.mem_append_right _ (List.mem_append_right _ (List.mem_append_right _ (List.mem_append_right _ (List.mem_append_right _ (List.mem_append_right _ (List.mem_append_right _ (List.mem_append_right _ (List.mem_append_left _ (List.mem_of_getElem? (i := 45) rfl))))))))))
theorem w615 : Cond.fieldLink "EntryTablesModel" 53 "EntryTablesModel" "count" "[I" ∈ TG := List.mem_append_right _ (List.mem_append_right _ (List.mem_append_right _ (List.mem_append_right _ (List.mem_append_right _ (List.mem_append_right _ (List.mem_append_right _ (List.mem_append_right _ (List.mem_append_right _ (List.mem_append_left _ (List.mem_of_getElem? (i := 46) rfl))))))))))
theorem w616 : Cond.fieldLink "EntryTablesModel" 56 "EntryTablesModel" "entry" "[I" ∈ TG := List.mem_append_right _ (List.mem_append_right _ (List.mem_append_right _ (List.mem_append_right _ (List.mem_append_right _ (List.mem_append_right _ (List.mem_append_right _ (List.mem_append_right _ (List.mem_append_right _ (List.mem_append_left _ (List.mem_of_getElem? (i := 47) rfl))))))))))
theorem w617 : Cond.fieldLink "EntryTablesModel" 59 "EntryTablesModel" "key" "[I" ∈ TG := List.mem_append_right _ (List.mem_append_right _ (List.mem_append_right _ (List.mem_append_right _ (List.mem_append_right _ (List.mem_append_right _ (List.mem_append_right _ (List.mem_append_right _ (List.mem_append_right _ (List.mem_append_left _ (List.mem_of_getElem? (i := 48) rfl))))))))))
theorem w618 : Cond.fieldLink "EntryTablesModel" 62 "EntryTablesModel" "now" "[I" ∈ TG := List.mem_append_right _ (List.mem_append_right _ (List.mem_append_right _ (List.mem_append_right _ (List.mem_append_right _ (List.mem_append_right _ (List.mem_append_right _ (List.mem_append_right _ (List.mem_append_right _ (List.mem_append_left _ (List.mem_of_getElem? (i := 49) rfl))))))))))
theorem w619 : Cond.fieldLink "EntryTablesModel" 65 "EntryTablesModel" "port" "I" ∈ TG := List.mem_append_right _ (List.mem_append_right _ (List.mem_append_right _ (List.mem_append_right _ (List.mem_append_right _ (List.mem_append_right _ (List.mem_append_right _ (List.mem_append_right _ (List.mem_append_right _ (List.mem_append_left _ (List.mem_of_getElem? (i := 50) rfl))))))))))
theorem w620 : Cond.fieldLink "EntryTablesModel" 68 "EntryTablesModel" "dropped" "Z" ∈ TG := List.mem_append_right _ (List.mem_append_right _ (List.mem_append_right _ (List.mem_append_right _ (List.mem_append_right _ (List.mem_append_right _ (List.mem_append_right _ (List.mem_append_right _ (List.mem_append_right _ (List.mem_append_left _ (List.mem_of_getElem? (i := 51) rfl))))))))))
theorem w622 : Cond.soleField "EntryTablesModel" "thrownCode" ∈ TG := List.mem_append_right _ (List.mem_append_right _ (List.mem_append_right _ (List.mem_append_right _ (List.mem_append_right _ (List.mem_append_right _ (List.mem_append_right _ (List.mem_append_right _ (List.mem_append_right _ (List.mem_append_left _ (List.mem_of_getElem? (i := 52) rfl))))))))))
theorem w624 : Cond.soleField "EntryTablesModel" "fields" ∈ TG := List.mem_append_right _ (List.mem_append_right _ (List.mem_append_right _ (List.mem_append_right _ (List.mem_append_right _ (List.mem_append_right _ (List.mem_append_right _ (List.mem_append_right _ (List.mem_append_right _ (List.mem_append_left _ (List.mem_of_getElem? (i := 53) rfl))))))))))
theorem w626 : Cond.soleField "EntryTablesModel" "width" ∈ TG := List.mem_append_right _ (List.mem_append_right _ (List.mem_append_right _ (List.mem_append_right _ (List.mem_append_right _ (List.mem_append_right _ (List.mem_append_right _ (List.mem_append_right _ (List.mem_append_right _ (List.mem_append_left _ (List.mem_of_getElem? (i := 54) rfl))))))))))
theorem w628 : Cond.soleField "EntryTablesModel" "held" ∈ TG := List.mem_append_right _ (List.mem_append_right _ (List.mem_append_right _ (List.mem_append_right _ (List.mem_append_right _ (List.mem_append_right _ (List.mem_append_right _ (List.mem_append_right _ (List.mem_append_right _ (List.mem_append_left _ (List.mem_of_getElem? (i := 55) rfl))))))))))
theorem w630 : Cond.soleField "EntryTablesModel" "actions" ∈ TG := List.mem_append_right _ (List.mem_append_right _ (List.mem_append_right _ (List.mem_append_right _ (List.mem_append_right _ (List.mem_append_right _ (List.mem_append_right _ (List.mem_append_right _ (List.mem_append_right _ (List.mem_append_left _ (List.mem_of_getElem? (i := 56) rfl))))))))))
theorem w632 : Cond.soleField "EntryTablesModel" "doings" ∈ TG := List.mem_append_right _ (List.mem_append_right _ (List.mem_append_right _ (List.mem_append_right _ (List.mem_append_right _ (List.mem_append_right _ (List.mem_append_right _ (List.mem_append_right _ (List.mem_append_right _ (List.mem_append_left _ (List.mem_of_getElem? (i := 57) rfl))))))))))
theorem w634 : Cond.soleField "EntryTablesModel" "doing" ∈ TG := List.mem_append_right _ (List.mem_append_right _ (List.mem_append_right _ (List.mem_append_right _ (List.mem_append_right _ (List.mem_append_right _ (List.mem_append_right _ (List.mem_append_right _ (List.mem_append_right _ (List.mem_append_left _ (List.mem_of_getElem? (i := 58) rfl))))))))))
theorem w636 : Cond.soleField "EntryTablesModel" "array" ∈ TG := List.mem_append_right _ (List.mem_append_right _ (List.mem_append_right _ (List.mem_append_right _ (List.mem_append_right _ (List.mem_append_right _ (List.mem_append_right _ (List.mem_append_right _ (List.mem_append_right _ (List.mem_append_left _ (List.mem_of_getElem? (i := 59) rfl))))))))))
theorem w638 : Cond.soleField "EntryTablesModel" "tables" ∈ TG := List.mem_append_right _ (List.mem_append_right _ (List.mem_append_right _ (List.mem_append_right _ (List.mem_append_right _ (List.mem_append_right _ (List.mem_append_right _ (List.mem_append_right _ (List.mem_append_right _ (List.mem_append_right _ (List.mem_append_left _ (List.mem_of_getElem? (i := 0) rfl)))))))))))
theorem w640 : Cond.soleField "EntryTablesModel" "one" ∈ TG := List.mem_append_right _ (List.mem_append_right _ (List.mem_append_right _ (List.mem_append_right _ (List.mem_append_right _ (List.mem_append_right _ (List.mem_append_right _ (List.mem_append_right _ (List.mem_append_right _ (List.mem_append_right _ (List.mem_append_left _ (List.mem_of_getElem? (i := 1) rfl)))))))))))
theorem w642 : Cond.soleField "EntryTablesModel" "two" ∈ TG := List.mem_append_right _ (List.mem_append_right _ (List.mem_append_right _ (List.mem_append_right _ (List.mem_append_right _ (List.mem_append_right _ (List.mem_append_right _ (List.mem_append_right _ (List.mem_append_right _ (List.mem_append_right _ (List.mem_append_left _ (List.mem_of_getElem? (i := 2) rfl)))))))))))
theorem w644 : Cond.soleField "EntryTablesModel" "how" ∈ TG := List.mem_append_right _ (List.mem_append_right _ (List.mem_append_right _ (List.mem_append_right _ (List.mem_append_right _ (List.mem_append_right _ (List.mem_append_right _ (List.mem_append_right _ (List.mem_append_right _ (List.mem_append_right _ (List.mem_append_left _ (List.mem_of_getElem? (i := 3) rfl)))))))))))
theorem w646 : Cond.soleField "EntryTablesModel" "may" ∈ TG := List.mem_append_right _ (List.mem_append_right _ (List.mem_append_right _ (List.mem_append_right _ (List.mem_append_right _ (List.mem_append_right _ (List.mem_append_right _ (List.mem_append_right _ (List.mem_append_right _ (List.mem_append_right _ (List.mem_append_left _ (List.mem_of_getElem? (i := 4) rfl)))))))))))
theorem w648 : Cond.soleField "EntryTablesModel" "miss" ∈ TG := List.mem_append_right _ (List.mem_append_right _ (List.mem_append_right _ (List.mem_append_right _ (List.mem_append_right _ (List.mem_append_right _ (List.mem_append_right _ (List.mem_append_right _ (List.mem_append_right _ (List.mem_append_right _ (List.mem_append_left _ (List.mem_of_getElem? (i := 5) rfl)))))))))))
theorem w650 : Cond.soleField "EntryTablesModel" "count" ∈ TG := List.mem_append_right _ (List.mem_append_right _ (List.mem_append_right _ (List.mem_append_right _ (List.mem_append_right _ (List.mem_append_right _ (List.mem_append_right _ (List.mem_append_right _ (List.mem_append_right _ (List.mem_append_right _ (List.mem_append_left _ (List.mem_of_getElem? (i := 6) rfl)))))))))))
theorem w652 : Cond.soleField "EntryTablesModel" "entry" ∈ TG := List.mem_append_right _ (List.mem_append_right _ (List.mem_append_right _ (List.mem_append_right _ (List.mem_append_right _ (List.mem_append_right _ (List.mem_append_right _ (List.mem_append_right _ (List.mem_append_right _ (List.mem_append_right _ (List.mem_append_left _ (List.mem_of_getElem? (i := 7) rfl)))))))))))
theorem w654 : Cond.soleField "EntryTablesModel" "key" ∈ TG := List.mem_append_right _ (List.mem_append_right _ (List.mem_append_right _ (List.mem_append_right _ (List.mem_append_right _ (List.mem_append_right _ (List.mem_append_right _ (List.mem_append_right _ (List.mem_append_right _ (List.mem_append_right _ (List.mem_append_left _ (List.mem_of_getElem? (i := 8) rfl)))))))))))
theorem w656 : Cond.soleField "EntryTablesModel" "now" ∈ TG := List.mem_append_right _ (List.mem_append_right _ (List.mem_append_right _ (List.mem_append_right _ (List.mem_append_right _ (List.mem_append_right _ (List.mem_append_right _ (List.mem_append_right _ (List.mem_append_right _ (List.mem_append_right _ (List.mem_append_left _ (List.mem_of_getElem? (i := 9) rfl)))))))))))
theorem w658 : Cond.soleField "EntryTablesModel" "port" ∈ TG := List.mem_append_right _ (List.mem_append_right _ (List.mem_append_right _ (List.mem_append_right _ (List.mem_append_right _ (List.mem_append_right _ (List.mem_append_right _ (List.mem_append_right _ (List.mem_append_right _ (List.mem_append_right _ (List.mem_append_left _ (List.mem_of_getElem? (i := 10) rfl)))))))))))
theorem w660 : Cond.soleField "EntryTablesModel" "dropped" ∈ TG := List.mem_append_right _ (List.mem_append_right _ (List.mem_append_right _ (List.mem_append_right _ (List.mem_append_right _ (List.mem_append_right _ (List.mem_append_right _ (List.mem_append_right _ (List.mem_append_right _ (List.mem_append_right _ (List.mem_append_left _ (List.mem_of_getElem? (i := 11) rfl)))))))))))
theorem w661 : Cond.superclass "EntryTablesModel" "java/lang/Object" ∈ TG := List.mem_append_right _ (List.mem_append_right _ (List.mem_append_right _ (List.mem_append_right _ (List.mem_append_right _ (List.mem_append_right _ (List.mem_append_right _ (List.mem_append_right _ (List.mem_append_right _ (List.mem_append_right _ (List.mem_append_left _ (List.mem_of_getElem? (i := 12) rfl)))))))))))
theorem w662 : Cond.methodLink "EntryTablesLaw" 60 y_M_thrown ∈ TG := List.mem_append_right _ (List.mem_append_right _ (List.mem_append_right _ (List.mem_append_right _ (List.mem_append_right _ (List.mem_append_right _ (List.mem_append_right _ (List.mem_append_right _ (List.mem_append_right _ (List.mem_append_right _ (List.mem_append_left _ (List.mem_of_getElem? (i := 13) rfl)))))))))))
theorem w663 : Cond.instanceMethod y_M_thrown ∈ TG := List.mem_append_right _ (List.mem_append_right _ (List.mem_append_right _ (List.mem_append_right _ (List.mem_append_right _ (List.mem_append_right _ (List.mem_append_right _ (List.mem_append_right _ (List.mem_append_right _ (List.mem_append_right _ (List.mem_append_left _ (List.mem_of_getElem? (i := 14) rfl)))))))))))
theorem w664 : Cond.selects "EntryTablesModel" y_M_thrown y_M_thrown ∈ TG := List.mem_append_right _ (List.mem_append_right _ (List.mem_append_right _ (List.mem_append_right _ (List.mem_append_right _ (List.mem_append_right _ (List.mem_append_right _ (List.mem_append_right _ (List.mem_append_right _ (List.mem_append_right _ (List.mem_append_left _ (List.mem_of_getElem? (i := 15) rfl)))))))))))
theorem w665 : Cond.code y_M_thrown prog_10_method_13_code 1 (some FieldType.int) ∈ TG := List.mem_append_right _ (List.mem_append_right _ (List.mem_append_right _ (List.mem_append_right _ (List.mem_append_right _ (List.mem_append_right _ (List.mem_append_right _ (List.mem_append_right _ (List.mem_append_right _ (List.mem_append_right _ (List.mem_append_left _ (List.mem_of_getElem? (i := 16) rfl)))))))))))
theorem w666 : Cond.methodLink "EntryTablesLaw" 53 y_M_clear ∈ TG := List.mem_append_right _ (List.mem_append_right _ (List.mem_append_right _ (List.mem_append_right _ (List.mem_append_right _ (List.mem_append_right _ (List.mem_append_right _ (List.mem_append_right _ (List.mem_append_right _ (List.mem_append_right _ (List.mem_append_left _ (List.mem_of_getElem? (i := 17) rfl)))))))))))
theorem w667 : Cond.instanceMethod y_M_clear ∈ TG := List.mem_append_right _ (List.mem_append_right _ (List.mem_append_right _ (List.mem_append_right _ (List.mem_append_right _ (List.mem_append_right _ (List.mem_append_right _ (List.mem_append_right _ (List.mem_append_right _ (List.mem_append_right _ (List.mem_append_left _ (List.mem_of_getElem? (i := 18) rfl)))))))))))
theorem w668 : Cond.selects "EntryTablesModel" y_M_clear y_M_clear ∈ TG := List.mem_append_right _ (List.mem_append_right _ (List.mem_append_right _ (List.mem_append_right _ (List.mem_append_right _ (List.mem_append_right _ (List.mem_append_right _ (List.mem_append_right _ (List.mem_append_right _ (List.mem_append_right _ (List.mem_append_left _ (List.mem_of_getElem? (i := 19) rfl)))))))))))
theorem w669 : Cond.code y_M_clear prog_10_method_14_code 2 none ∈ TG := List.mem_append_right _ (List.mem_append_right _ (List.mem_append_right _ (List.mem_append_right _ (List.mem_append_right _ (List.mem_append_right _ (List.mem_append_right _ (List.mem_append_right _ (List.mem_append_right _ (List.mem_append_right _ (List.mem_append_left _ (List.mem_of_getElem? (i := 20) rfl)))))))))))
theorem w670 : Cond.methodLink "EntryTablesLaw" 59 y_M_field ∈ TG := List.mem_append_right _ (List.mem_append_right _ (List.mem_append_right _ (List.mem_append_right _ (List.mem_append_right _ (List.mem_append_right _ (List.mem_append_right _ (List.mem_append_right _ (List.mem_append_right _ (List.mem_append_right _ (List.mem_append_left _ (List.mem_of_getElem? (i := 21) rfl)))))))))))
theorem w671 : Cond.instanceMethod y_M_field ∈ TG := List.mem_append_right _ (List.mem_append_right _ (List.mem_append_right _ (List.mem_append_right _ (List.mem_append_right _ (List.mem_append_right _ (List.mem_append_right _ (List.mem_append_right _ (List.mem_append_right _ (List.mem_append_right _ (List.mem_append_left _ (List.mem_of_getElem? (i := 22) rfl)))))))))))
theorem w672 : Cond.selects "EntryTablesModel" y_M_field y_M_field ∈ TG := List.mem_append_right _ (List.mem_append_right _ (List.mem_append_right _ (List.mem_append_right _ (List.mem_append_right _ (List.mem_append_right _ (List.mem_append_right _ (List.mem_append_right _ (List.mem_append_right _ (List.mem_append_right _ (List.mem_append_left _ (List.mem_of_getElem? (i := 23) rfl)))))))))))
theorem w673 : Cond.code y_M_field prog_10_method_15_code 2 (some FieldType.int) ∈ TG := List.mem_append_right _ (List.mem_append_right _ (List.mem_append_right _ (List.mem_append_right _ (List.mem_append_right _ (List.mem_append_right _ (List.mem_append_right _ (List.mem_append_right _ (List.mem_append_right _ (List.mem_append_right _ (List.mem_append_left _ (List.mem_of_getElem? (i := 24) rfl)))))))))))
theorem w674 : Cond.methodLink "EntryTablesLaw" 66 y_M_set ∈ TG := List.mem_append_right _ (List.mem_append_right _ (List.mem_append_right _ (List.mem_append_right _ (List.mem_append_right _ (List.mem_append_right _ (List.mem_append_right _ (List.mem_append_right _ (List.mem_append_right _ (List.mem_append_right _ (List.mem_append_left _ (List.mem_of_getElem? (i := 25) rfl)))))))))))
theorem w675 : Cond.instanceMethod y_M_set ∈ TG := List.mem_append_right _ (List.mem_append_right _ (List.mem_append_right _ (List.mem_append_right _ (List.mem_append_right _ (List.mem_append_right _ (List.mem_append_right _ (List.mem_append_right _ (List.mem_append_right _ (List.mem_append_right _ (List.mem_append_left _ (List.mem_of_getElem? (i := 26) rfl)))))))))))
theorem w676 : Cond.selects "EntryTablesModel" y_M_set y_M_set ∈ TG := List.mem_append_right _ (List.mem_append_right _ (List.mem_append_right _ (List.mem_append_right _ (List.mem_append_right _ (List.mem_append_right _ (List.mem_append_right _ (List.mem_append_right _ (List.mem_append_right _ (List.mem_append_right _ (List.mem_append_left _ (List.mem_of_getElem? (i := 27) rfl)))))))))))
theorem w677 : Cond.code y_M_set prog_10_method_16_code 3 none ∈ TG := List.mem_append_right _ (List.mem_append_right _ (List.mem_append_right _ (List.mem_append_right _ (List.mem_append_right _ (List.mem_append_right _ (List.mem_append_right _ (List.mem_append_right _ (List.mem_append_right _ (List.mem_append_right _ (List.mem_append_left _ (List.mem_of_getElem? (i := 28) rfl)))))))))))
theorem w678 : Cond.methodLink "EntryTablesModel" 91 y_M_not ∈ TG := List.mem_append_right _ (List.mem_append_right _ (List.mem_append_right _ (List.mem_append_right _ (List.mem_append_right _ (List.mem_append_right _ (List.mem_append_right _ (List.mem_append_right _ (List.mem_append_right _ (List.mem_append_right _ (List.mem_append_left _ (List.mem_of_getElem? (i := 29) rfl)))))))))))
theorem w679 : Cond.static y_M_not ∈ TG := List.mem_append_right _ (List.mem_append_right _ (List.mem_append_right _ (List.mem_append_right _ (List.mem_append_right _ (List.mem_append_right _ (List.mem_append_right _ (List.mem_append_right _ (List.mem_append_right _ (List.mem_append_right _ (List.mem_append_left _ (List.mem_of_getElem? (i := 30) rfl)))))))))))
theorem w680 : Cond.code y_M_not prog_10_method_3_code 2 (some FieldType.boolean) ∈ TG := List.mem_append_right _ (List.mem_append_right _ (List.mem_append_right _ (List.mem_append_right _ (List.mem_append_right _ (List.mem_append_right _ (List.mem_append_right _ (List.mem_append_right _ (List.mem_append_right _ (List.mem_append_right _ (List.mem_append_left _ (List.mem_of_getElem? (i := 31) rfl)))))))))))
theorem w681 : Cond.methodLink "EntryTablesModel" 87 y_M_hold ∈ TG := List.mem_append_right _ (List.mem_append_right _ (List.mem_append_right _ (List.mem_append_right _ (List.mem_append_right _ (List.mem_append_right _ (List.mem_append_right _ (List.mem_append_right _ (List.mem_append_right _ (List.mem_append_right _ (List.mem_append_left _ (List.mem_of_getElem? (i := 32) rfl)))))))))))
theorem w683 : Cond.instanceMethod y_M_hold ∈ TG := List.mem_append_right _ (List.mem_append_right _ (List.mem_append_right _ (List.mem_append_right _ (List.mem_append_right _ (List.mem_append_right _ (List.mem_append_right _ (List.mem_append_right _ (List.mem_append_right _ (List.mem_append_right _ (List.mem_append_left _ (List.mem_of_getElem? (i := 33) rfl)))))))))))
theorem w684 : Cond.code y_M_hold prog_10_method_10_code 3 none ∈ TG := List.mem_append_right _ (List.mem_append_right _ (List.mem_append_right _ (List.mem_append_right _ (List.mem_append_right _ (List.mem_append_right _ (List.mem_append_right _ (List.mem_append_right _ (List.mem_append_right _ (List.mem_append_right _ (List.mem_append_left _ (List.mem_of_getElem? (i := 34) rfl)))))))))))
theorem w685 : Cond.methodLink "EntryTablesModel" 72 y_M_ones ∈ TG := List.mem_append_right _ (List.mem_append_right _ (List.mem_append_right _ (List.mem_append_right _ (List.mem_append_right _ (List.mem_append_right _ (List.mem_append_right _ (List.mem_append_right _ (List.mem_append_right _ (List.mem_append_right _ (List.mem_append_left _ (List.mem_of_getElem? (i := 35) rfl)))))))))))
theorem w687 : Cond.instanceMethod y_M_ones ∈ TG := List.mem_append_right _ (List.mem_append_right _ (List.mem_append_right _ (List.mem_append_right _ (List.mem_append_right _ (List.mem_append_right _ (List.mem_append_right _ (List.mem_append_right _ (List.mem_append_right _ (List.mem_append_right _ (List.mem_append_left _ (List.mem_of_getElem? (i := 36) rfl)))))))))))
theorem w688 : Cond.code y_M_ones prog_10_method_2_code 2 (some FieldType.int) ∈ TG := List.mem_append_right _ (List.mem_append_right _ (List.mem_append_right _ (List.mem_append_right _ (List.mem_append_right _ (List.mem_append_right _ (List.mem_append_right _ (List.mem_append_right _ (List.mem_append_right _ (List.mem_append_right _ (List.mem_append_left _ (List.mem_of_getElem? (i := 37) rfl)))))))))))
theorem w689 : Cond.methodLink "EntryTablesLaw" 70 y_M_get ∈ TG := List.mem_append_right _ (List.mem_append_right _ (List.mem_append_right _ (List.mem_append_right _ (List.mem_append_right _ (List.mem_append_right _ (List.mem_append_right _ (List.mem_append_right _ (List.mem_append_right _ (List.mem_append_right _ (List.mem_append_left _ (List.mem_of_getElem? (i := 38) rfl)))))))))))
theorem w690 : Cond.instanceMethod y_M_get ∈ TG := List.mem_append_right _ (List.mem_append_right _ (List.mem_append_right _ (List.mem_append_right _ (List.mem_append_right _ (List.mem_append_right _ (List.mem_append_right _ (List.mem_append_right _ (List.mem_append_right _ (List.mem_append_right _ (List.mem_append_left _ (List.mem_of_getElem? (i := 39) rfl)))))))))))
theorem w691 : Cond.selects "EntryTablesModel" y_M_get y_M_get ∈ TG := List.mem_append_right _ (List.mem_append_right _ (List.mem_append_right _ (List.mem_append_right _ (List.mem_append_right _ (List.mem_append_right _ (List.mem_append_right _ (List.mem_append_right _ (List.mem_append_right _ (List.mem_append_right _ (List.mem_append_left _ (List.mem_of_getElem? (i := 40) rfl)))))))))))
theorem w692 : Cond.code y_M_get prog_10_method_17_code 2 (some FieldType.int) ∈ TG := List.mem_append_right _ (List.mem_append_right _ (List.mem_append_right _ (List.mem_append_right _ (List.mem_append_right _ (List.mem_append_right _ (List.mem_append_right _ (List.mem_append_right _ (List.mem_append_right _ (List.mem_append_right _ (List.mem_append_left _ (List.mem_of_getElem? (i := 41) rfl)))))))))))
theorem w693 : Cond.methodLink "EntryTablesLaw" 74 y_M_action ∈ TG := List.mem_append_right _ (List.mem_append_right _ (List.mem_append_right _ (List.mem_append_right _ (List.mem_append_right _ (List.mem_append_right _ (List.mem_append_right _ (List.mem_append_right _ (List.mem_append_right _ (List.mem_append_right _ (List.mem_append_left _ (List.mem_of_getElem? (i := 42) rfl)))))))))))
theorem w694 : Cond.instanceMethod y_M_action ∈ TG := List.mem_append_right _ (List.mem_append_right _ (List.mem_append_right _ (List.mem_append_right _ (List.mem_append_right _ (List.mem_append_right _ (List.mem_append_right _ (List.mem_append_right _ (List.mem_append_right _ (List.mem_append_right _ (List.mem_append_left _ (List.mem_of_getElem? (i := 43) rfl)))))))))))
theorem w695 : Cond.selects "EntryTablesModel" y_M_action y_M_action ∈ TG := List.mem_append_right _ (List.mem_append_right _ (List.mem_append_right _ (List.mem_append_right _ (List.mem_append_right _ (List.mem_append_right _ (List.mem_append_right _ (List.mem_append_right _ (List.mem_append_right _ (List.mem_append_right _ (List.mem_append_left _ (List.mem_of_getElem? (i := 44) rfl)))))))))))
theorem w696 : Cond.code y_M_action prog_10_method_18_code 1 (some FieldType.int) ∈ TG := List.mem_append_right _ (List.mem_append_right _ (List.mem_append_right _ (List.mem_append_right _ (List.mem_append_right _ (List.mem_append_right _ (List.mem_append_right _ (List.mem_append_right _ (List.mem_append_right _ (List.mem_append_right _ (List.mem_append_left _ (List.mem_of_getElem? (i := 45) rfl)))))))))))
theorem w697 : Cond.methodLink "EntryTablesLaw" 78 y_M_doing ∈ TG := List.mem_append_right _ (List.mem_append_right _ (List.mem_append_right _ (List.mem_append_right _ (List.mem_append_right _ (List.mem_append_right _ (List.mem_append_right _ (List.mem_append_right _ (List.mem_append_right _ (List.mem_append_right _ (List.mem_append_left _ (List.mem_of_getElem? (i := 46) rfl)))))))))))
theorem w698 : Cond.instanceMethod y_M_doing ∈ TG := List.mem_append_right _ (List.mem_append_right _ (List.mem_append_right _ (List.mem_append_right _ (List.mem_append_right _ (List.mem_append_right _ (List.mem_append_right _ (List.mem_append_right _ (List.mem_append_right _ (List.mem_append_right _ (List.mem_append_left _ (List.mem_of_getElem? (i := 47) rfl)))))))))))
theorem w699 : Cond.selects "EntryTablesModel" y_M_doing y_M_doing ∈ TG := List.mem_append_right _ (List.mem_append_right _ (List.mem_append_right _ (List.mem_append_right _ (List.mem_append_right _ (List.mem_append_right _ (List.mem_append_right _ (List.mem_append_right _ (List.mem_append_right _ (List.mem_append_right _ (List.mem_append_left _ (List.mem_of_getElem? (i := 48) rfl)))))))))))
theorem w700 : Cond.code y_M_doing prog_10_method_19_code 7 none ∈ TG := List.mem_append_right _ (List.mem_append_right _ (List.mem_append_right _ (List.mem_append_right _ (List.mem_append_right _ (List.mem_append_right _ (List.mem_append_right _ (List.mem_append_right _ (List.mem_append_right _ (List.mem_append_right _ (List.mem_append_left _ (List.mem_of_getElem? (i := 49) rfl)))))))))))
theorem w701 : Cond.methodLink "EntryTablesModel" 95 y_M_unknown ∈ TG := List.mem_append_right _ (List.mem_append_right _ (List.mem_append_right _ (List.mem_append_right _ (List.mem_append_right _ (List.mem_append_right _ (List.mem_append_right _ (List.mem_append_right _ (List.mem_append_right _ (List.mem_append_right _ (List.mem_append_left _ (List.mem_of_getElem? (i := 50) rfl)))))))))))
theorem w703 : Cond.instanceMethod y_M_unknown ∈ TG := List.mem_append_right _ (List.mem_append_right _ (List.mem_append_right _ (List.mem_append_right _ (List.mem_append_right _ (List.mem_append_right _ (List.mem_append_right _ (List.mem_append_right _ (List.mem_append_right _ (List.mem_append_right _ (List.mem_append_left _ (List.mem_of_getElem? (i := 51) rfl)))))))))))
theorem w704 : Cond.code y_M_unknown prog_10_method_12_code 8 (some FieldType.boolean) ∈ TG := List.mem_append_right _ (List.mem_append_right _ (List.mem_append_right _ (List.mem_append_right _ (List.mem_append_right _ (List.mem_append_right _ (List.mem_append_right _ (List.mem_append_right _ (List.mem_append_right _ (List.mem_append_right _ (List.mem_append_left _ (List.mem_of_getElem? (i := 52) rfl)))))))))))
theorem w705 : Cond.methodLink "EntryTablesLaw" 82 y_M_table ∈ TG := List.mem_append_right _ (List.mem_append_right _ (List.mem_append_right _ (List.mem_append_right _ (List.mem_append_right _ (List.mem_append_right _ (List.mem_append_right _ (List.mem_append_right _ (List.mem_append_right _ (List.mem_append_right _ (List.mem_append_left _ (List.mem_of_getElem? (i := 53) rfl)))))))))))
theorem w706 : Cond.instanceMethod y_M_table ∈ TG := List.mem_append_right _ (List.mem_append_right _ (List.mem_append_right _ (List.mem_append_right _ (List.mem_append_right _ (List.mem_append_right _ (List.mem_append_right _ (List.mem_append_right _ (List.mem_append_right _ (List.mem_append_right _ (List.mem_append_left _ (List.mem_of_getElem? (i := 54) rfl)))))))))))
theorem w707 : Cond.selects "EntryTablesModel" y_M_table y_M_table ∈ TG := List.mem_append_right _ (List.mem_append_right _ (List.mem_append_right _ (List.mem_append_right _ (List.mem_append_right _ (List.mem_append_right _ (List.mem_append_right _ (List.mem_append_right _ (List.mem_append_right _ (List.mem_append_right _ (List.mem_append_left _ (List.mem_of_getElem? (i := 55) rfl)))))))))))
theorem w708 : Cond.code y_M_table prog_10_method_20_code 8 (some FieldType.int) ∈ TG := List.mem_append_right _ (List.mem_append_right _ (List.mem_append_right _ (List.mem_append_right _ (List.mem_append_right _ (List.mem_append_right _ (List.mem_append_right _ (List.mem_append_right _ (List.mem_append_right _ (List.mem_append_right _ (List.mem_append_left _ (List.mem_of_getElem? (i := 56) rfl)))))))))))
theorem w709 : Cond.methodLink "EntryTablesLaw" 87 y_M_key ∈ TG := List.mem_append_right _ (List.mem_append_right _ (List.mem_append_right _ (List.mem_append_right _ (List.mem_append_right _ (List.mem_append_right _ (List.mem_append_right _ (List.mem_append_right _ (List.mem_append_right _ (List.mem_append_right _ (List.mem_append_left _ (List.mem_of_getElem? (i := 57) rfl)))))))))))
theorem w710 : Cond.instanceMethod y_M_key ∈ TG := List.mem_append_right _ (List.mem_append_right _ (List.mem_append_right _ (List.mem_append_right _ (List.mem_append_right _ (List.mem_append_right _ (List.mem_append_right _ (List.mem_append_right _ (List.mem_append_right _ (List.mem_append_right _ (List.mem_append_left _ (List.mem_of_getElem? (i := 58) rfl)))))))))))
theorem w711 : Cond.selects "EntryTablesModel" y_M_key y_M_key ∈ TG := List.mem_append_right _ (List.mem_append_right _ (List.mem_append_right _ (List.mem_append_right _ (List.mem_append_right _ (List.mem_append_right _ (List.mem_append_right _ (List.mem_append_right _ (List.mem_append_right _ (List.mem_append_right _ (List.mem_append_left _ (List.mem_of_getElem? (i := 59) rfl)))))))))))
theorem w712 : Cond.code y_M_key prog_10_method_21_code 5 none ∈ TG := List.mem_append_right _ (List.mem_append_right _ (List.mem_append_right _ (List.mem_append_right _ (List.mem_append_right _ (List.mem_append_right _ (List.mem_append_right _ (List.mem_append_right _ (List.mem_append_right _ (List.mem_append_right _ (List.mem_append_right _ (List.mem_of_getElem? (i := 0) rfl)))))))))))
theorem w713 : Cond.methodLink "EntryTablesLaw" 90 y_M_insert ∈ TG := List.mem_append_right _ (List.mem_append_right _ (List.mem_append_right _ (List.mem_append_right _ (List.mem_append_right _ (List.mem_append_right _ (List.mem_append_right _ (List.mem_append_right _ (List.mem_append_right _ (List.mem_append_right _ (List.mem_append_right _ (List.mem_of_getElem? (i := 1) rfl)))))))))))
theorem w714 : Cond.instanceMethod y_M_insert ∈ TG := List.mem_append_right _ (List.mem_append_right _ (List.mem_append_right _ (List.mem_append_right _ (List.mem_append_right _ (List.mem_append_right _ (List.mem_append_right _ (List.mem_append_right _ (List.mem_append_right _ (List.mem_append_right _ (List.mem_append_right _ (List.mem_of_getElem? (i := 2) rfl)))))))))))
theorem w715 : Cond.selects "EntryTablesModel" y_M_insert y_M_insert ∈ TG := List.mem_append_right _ (List.mem_append_right _ (List.mem_append_right _ (List.mem_append_right _ (List.mem_append_right _ (List.mem_append_right _ (List.mem_append_right _ (List.mem_append_right _ (List.mem_append_right _ (List.mem_append_right _ (List.mem_append_right _ (List.mem_of_getElem? (i := 3) rfl)))))))))))
theorem w716 : Cond.code y_M_insert prog_10_method_22_code 8 (some FieldType.boolean) ∈ TG := List.mem_append_right _ (List.mem_append_right _ (List.mem_append_right _ (List.mem_append_right _ (List.mem_append_right _ (List.mem_append_right _ (List.mem_append_right _ (List.mem_append_right _ (List.mem_append_right _ (List.mem_append_right _ (List.mem_append_right _ (List.mem_of_getElem? (i := 4) rfl)))))))))))
theorem w717 : Cond.methodLink "EntryTablesModel" 99 y_M_find ∈ TG := List.mem_append_right _ (List.mem_append_right _ (List.mem_append_right _ (List.mem_append_right _ (List.mem_append_right _ (List.mem_append_right _ (List.mem_append_right _ (List.mem_append_right _ (List.mem_append_right _ (List.mem_append_right _ (List.mem_append_right _ (List.mem_of_getElem? (i := 5) rfl)))))))))))
theorem w719 : Cond.instanceMethod y_M_find ∈ TG := List.mem_append_right _ (List.mem_append_right _ (List.mem_append_right _ (List.mem_append_right _ (List.mem_append_right _ (List.mem_append_right _ (List.mem_append_right _ (List.mem_append_right _ (List.mem_append_right _ (List.mem_append_right _ (List.mem_append_right _ (List.mem_of_getElem? (i := 6) rfl)))))))))))
theorem w720 : Cond.code y_M_find prog_10_method_7_code 6 (some FieldType.int) ∈ TG := List.mem_append_right _ (List.mem_append_right _ (List.mem_append_right _ (List.mem_append_right _ (List.mem_append_right _ (List.mem_append_right _ (List.mem_append_right _ (List.mem_append_right _ (List.mem_append_right _ (List.mem_append_right _ (List.mem_append_right _ (List.mem_of_getElem? (i := 7) rfl)))))))))))
theorem w721 : Cond.methodLink "EntryTablesModel" 76 y_M_cut ∈ TG := List.mem_append_right _ (List.mem_append_right _ (List.mem_append_right _ (List.mem_append_right _ (List.mem_append_right _ (List.mem_append_right _ (List.mem_append_right _ (List.mem_append_right _ (List.mem_append_right _ (List.mem_append_right _ (List.mem_append_right _ (List.mem_of_getElem? (i := 8) rfl)))))))))))
theorem w723 : Cond.instanceMethod y_M_cut ∈ TG := List.mem_append_right _ (List.mem_append_right _ (List.mem_append_right _ (List.mem_append_right _ (List.mem_append_right _ (List.mem_append_right _ (List.mem_append_right _ (List.mem_append_right _ (List.mem_append_right _ (List.mem_append_right _ (List.mem_append_right _ (List.mem_of_getElem? (i := 9) rfl)))))))))))
theorem w724 : Cond.code y_M_cut prog_10_method_6_code 2 none ∈ TG := List.mem_append_right _ (List.mem_append_right _ (List.mem_append_right _ (List.mem_append_right _ (List.mem_append_right _ (List.mem_append_right _ (List.mem_append_right _ (List.mem_append_right _ (List.mem_append_right _ (List.mem_append_right _ (List.mem_append_right _ (List.mem_of_getElem? (i := 10) rfl)))))))))))
theorem w725 : Cond.methodLink "EntryTablesModel" 102 y_M_isMask ∈ TG := List.mem_append_right _ (List.mem_append_right _ (List.mem_append_right _ (List.mem_append_right _ (List.mem_append_right _ (List.mem_append_right _ (List.mem_append_right _ (List.mem_append_right _ (List.mem_append_right _ (List.mem_append_right _ (List.mem_append_right _ (List.mem_of_getElem? (i := 11) rfl)))))))))))
theorem w727 : Cond.instanceMethod y_M_isMask ∈ TG := List.mem_append_right _ (List.mem_append_right _ (List.mem_append_right _ (List.mem_append_right _ (List.mem_append_right _ (List.mem_append_right _ (List.mem_append_right _ (List.mem_append_right _ (List.mem_append_right _ (List.mem_append_right _ (List.mem_append_right _ (List.mem_of_getElem? (i := 12) rfl)))))))))))
theorem w728 : Cond.code y_M_isMask prog_10_method_5_code 7 (some FieldType.boolean) ∈ TG := List.mem_append_right _ (List.mem_append_right _ (List.mem_append_right _ (List.mem_append_right _ (List.mem_append_right _ (List.mem_append_right _ (List.mem_append_right _ (List.mem_append_right _ (List.mem_append_right _ (List.mem_append_right _ (List.mem_append_right _ (List.mem_of_getElem? (i := 13) rfl)))))))))))
theorem w729 : Cond.methodLink "EntryTablesLaw" 93 y_M_remove ∈ TG := List.mem_append_right _ (List.mem_append_right _ (List.mem_append_right _ (List.mem_append_right _ (List.mem_append_right _ (List.mem_append_right _ (List.mem_append_right _ (List.mem_append_right _ (List.mem_append_right _ (List.mem_append_right _ (List.mem_append_right _ (List.mem_of_getElem? (i := 14) rfl)))))))))))
theorem w730 : Cond.instanceMethod y_M_remove ∈ TG := List.mem_append_right _ (List.mem_append_right _ (List.mem_append_right _ (List.mem_append_right _ (List.mem_append_right _ (List.mem_append_right _ (List.mem_append_right _ (List.mem_append_right _ (List.mem_append_right _ (List.mem_append_right _ (List.mem_append_right _ (List.mem_of_getElem? (i := 15) rfl)))))))))))
theorem w731 : Cond.selects "EntryTablesModel" y_M_remove y_M_remove ∈ TG := List.mem_append_right _ (List.mem_append_right _ (List.mem_append_right _ (List.mem_append_right _ (List.mem_append_right _ (List.mem_append_right _ (List.mem_append_right _ (List.mem_append_right _ (List.mem_append_right _ (List.mem_append_right _ (List.mem_append_right _ (List.mem_of_getElem? (i := 16) rfl)))))))))))
theorem w732 : Cond.code y_M_remove prog_10_method_23_code 4 (some FieldType.boolean) ∈ TG := List.mem_append_right _ (List.mem_append_right _ (List.mem_append_right _ (List.mem_append_right _ (List.mem_append_right _ (List.mem_append_right _ (List.mem_append_right _ (List.mem_append_right _ (List.mem_append_right _ (List.mem_append_right _ (List.mem_append_right _ (List.mem_of_getElem? (i := 17) rfl)))))))))))
theorem w733 : Cond.methodLink "EntryTablesLaw" 96 y_M_act ∈ TG := List.mem_append_right _ (List.mem_append_right _ (List.mem_append_right _ (List.mem_append_right _ (List.mem_append_right _ (List.mem_append_right _ (List.mem_append_right _ (List.mem_append_right _ (List.mem_append_right _ (List.mem_append_right _ (List.mem_append_right _ (List.mem_of_getElem? (i := 18) rfl)))))))))))
theorem w734 : Cond.instanceMethod y_M_act ∈ TG := List.mem_append_right _ (List.mem_append_right _ (List.mem_append_right _ (List.mem_append_right _ (List.mem_append_right _ (List.mem_append_right _ (List.mem_append_right _ (List.mem_append_right _ (List.mem_append_right _ (List.mem_append_right _ (List.mem_append_right _ (List.mem_of_getElem? (i := 19) rfl)))))))))))
theorem w735 : Cond.selects "EntryTablesModel" y_M_act y_M_act ∈ TG := List.mem_append_right _ (List.mem_append_right _ (List.mem_append_right _ (List.mem_append_right _ (List.mem_append_right _ (List.mem_append_right _ (List.mem_append_right _ (List.mem_append_right _ (List.mem_append_right _ (List.mem_append_right _ (List.mem_append_right _ (List.mem_of_getElem? (i := 20) rfl)))))))))))
theorem w736 : Cond.code y_M_act prog_10_method_24_code 6 (some FieldType.boolean) ∈ TG := List.mem_append_right _ (List.mem_append_right _ (List.mem_append_right _ (List.mem_append_right _ (List.mem_append_right _ (List.mem_append_right _ (List.mem_append_right _ (List.mem_append_right _ (List.mem_append_right _ (List.mem_append_right _ (List.mem_append_right _ (List.mem_of_getElem? (i := 21) rfl)))))))))))
theorem w737 : Cond.methodLink "EntryTablesModel" 106 y_M_match ∈ TG := List.mem_append_right _ (List.mem_append_right _ (List.mem_append_right _ (List.mem_append_right _ (List.mem_append_right _ (List.mem_append_right _ (List.mem_append_right _ (List.mem_append_right _ (List.mem_append_right _ (List.mem_append_right _ (List.mem_append_right _ (List.mem_of_getElem? (i := 22) rfl)))))))))))
theorem w739 : Cond.instanceMethod y_M_match ∈ TG := List.mem_append_right _ (List.mem_append_right _ (List.mem_append_right _ (List.mem_append_right _ (List.mem_append_right _ (List.mem_append_right _ (List.mem_append_right _ (List.mem_append_right _ (List.mem_append_right _ (List.mem_append_right _ (List.mem_append_right _ (List.mem_of_getElem? (i := 23) rfl)))))))))))
theorem w740 : Cond.code y_M_match prog_10_method_9_code 7 (some FieldType.int) ∈ TG := List.mem_append_right _ (List.mem_append_right _ (List.mem_append_right _ (List.mem_append_right _ (List.mem_append_right _ (List.mem_append_right _ (List.mem_append_right _ (List.mem_append_right _ (List.mem_append_right _ (List.mem_append_right _ (List.mem_append_right _ (List.mem_of_getElem? (i := 24) rfl)))))))))))
theorem w741 : Cond.methodLink "EntryTablesModel" 83 y_M_prefix ∈ TG := List.mem_append_right _ (List.mem_append_right _ (List.mem_append_right _ (List.mem_append_right _ (List.mem_append_right _ (List.mem_append_right _ (List.mem_append_right _ (List.mem_append_right _ (List.mem_append_right _ (List.mem_append_right _ (List.mem_append_right _ (List.mem_of_getElem? (i := 25) rfl)))))))))))
theorem w743 : Cond.instanceMethod y_M_prefix ∈ TG := List.mem_append_right _ (List.mem_append_right _ (List.mem_append_right _ (List.mem_append_right _ (List.mem_append_right _ (List.mem_append_right _ (List.mem_append_right _ (List.mem_append_right _ (List.mem_append_right _ (List.mem_append_right _ (List.mem_append_right _ (List.mem_of_getElem? (i := 26) rfl)))))))))))
theorem w744 : Cond.code y_M_prefix prog_10_method_8_code 3 (some FieldType.int) ∈ TG := List.mem_append_right _ (List.mem_append_right _ (List.mem_append_right _ (List.mem_append_right _ (List.mem_append_right _ (List.mem_append_right _ (List.mem_append_right _ (List.mem_append_right _ (List.mem_append_right _ (List.mem_append_right _ (List.mem_append_right _ (List.mem_of_getElem? (i := 27) rfl)))))))))))
theorem w745 : Cond.methodLink "EntryTablesModel" 80 y_M_bits ∈ TG := List.mem_append_right _ (List.mem_append_right _ (List.mem_append_right _ (List.mem_append_right _ (List.mem_append_right _ (List.mem_append_right _ (List.mem_append_right _ (List.mem_append_right _ (List.mem_append_right _ (List.mem_append_right _ (List.mem_append_right _ (List.mem_of_getElem? (i := 28) rfl)))))))))))
theorem w746 : Cond.static y_M_bits ∈ TG := List.mem_append_right _ (List.mem_append_right _ (List.mem_append_right _ (List.mem_append_right _ (List.mem_append_right _ (List.mem_append_right _ (List.mem_append_right _ (List.mem_append_right _ (List.mem_append_right _ (List.mem_append_right _ (List.mem_append_right _ (List.mem_of_getElem? (i := 29) rfl)))))))))))
theorem w747 : Cond.code y_M_bits prog_10_method_4_code 3 (some FieldType.int) ∈ TG := List.mem_append_right _ (List.mem_append_right _ (List.mem_append_right _ (List.mem_append_right _ (List.mem_append_right _ (List.mem_append_right _ (List.mem_append_right _ (List.mem_append_right _ (List.mem_append_right _ (List.mem_append_right _ (List.mem_append_right _ (List.mem_of_getElem? (i := 30) rfl)))))))))))
theorem w748 : Cond.methodLink "EntryTablesModel" 109 y_M_does ∈ TG := List.mem_append_right _ (List.mem_append_right _ (List.mem_append_right _ (List.mem_append_right _ (List.mem_append_right _ (List.mem_append_right _ (List.mem_append_right _ (List.mem_append_right _ (List.mem_append_right _ (List.mem_append_right _ (List.mem_append_right _ (List.mem_of_getElem? (i := 31) rfl)))))))))))
theorem w750 : Cond.instanceMethod y_M_does ∈ TG := List.mem_append_right _ (List.mem_append_right _ (List.mem_append_right _ (List.mem_append_right _ (List.mem_append_right _ (List.mem_append_right _ (List.mem_append_right _ (List.mem_append_right _ (List.mem_append_right _ (List.mem_append_right _ (List.mem_append_right _ (List.mem_of_getElem? (i := 32) rfl)))))))))))
theorem w751 : Cond.code y_M_does prog_10_method_11_code 6 none ∈ TG := List.mem_append_right _ (List.mem_append_right _ (List.mem_append_right _ (List.mem_append_right _ (List.mem_append_right _ (List.mem_append_right _ (List.mem_append_right _ (List.mem_append_right _ (List.mem_append_right _ (List.mem_append_right _ (List.mem_append_right _ (List.mem_of_getElem? (i := 33) rfl)))))))))))
theorem w752 : Cond.methodLink "EntryTablesLaw" 100 y_M_matches ∈ TG := List.mem_append_right _ (List.mem_append_right _ (List.mem_append_right _ (List.mem_append_right _ (List.mem_append_right _ (List.mem_append_right _ (List.mem_append_right _ (List.mem_append_right _ (List.mem_append_right _ (List.mem_append_right _ (List.mem_append_right _ (List.mem_of_getElem? (i := 34) rfl)))))))))))
theorem w753 : Cond.instanceMethod y_M_matches ∈ TG := List.mem_append_right _ (List.mem_append_right _ (List.mem_append_right _ (List.mem_append_right _ (List.mem_append_right _ (List.mem_append_right _ (List.mem_append_right _ (List.mem_append_right _ (List.mem_append_right _ (List.mem_append_right _ (List.mem_append_right _ (List.mem_of_getElem? (i := 35) rfl)))))))))))
theorem w754 : Cond.selects "EntryTablesModel" y_M_matches y_M_matches ∈ TG := List.mem_append_right _ (List.mem_append_right _ (List.mem_append_right _ (List.mem_append_right _ (List.mem_append_right _ (List.mem_append_right _ (List.mem_append_right _ (List.mem_append_right _ (List.mem_append_right _ (List.mem_append_right _ (List.mem_append_right _ (List.mem_of_getElem? (i := 36) rfl)))))))))))
theorem w755 : Cond.code y_M_matches prog_10_method_25_code 3 (some FieldType.int) ∈ TG := List.mem_append_right _ (List.mem_append_right _ (List.mem_append_right _ (List.mem_append_right _ (List.mem_append_right _ (List.mem_append_right _ (List.mem_append_right _ (List.mem_append_right _ (List.mem_append_right _ (List.mem_append_right _ (List.mem_append_right _ (List.mem_of_getElem? (i := 37) rfl)))))))))))
theorem w756 : Cond.methodLink "EntryTablesLaw" 104 y_M_port ∈ TG := List.mem_append_right _ (List.mem_append_right _ (List.mem_append_right _ (List.mem_append_right _ (List.mem_append_right _ (List.mem_append_right _ (List.mem_append_right _ (List.mem_append_right _ (List.mem_append_right _ (List.mem_append_right _ (List.mem_append_right _ (List.mem_of_getElem? (i := 38) rfl)))))))))))
theorem w757 : Cond.instanceMethod y_M_port ∈ TG := List.mem_append_right _ (List.mem_append_right _ (List.mem_append_right _ (List.mem_append_right _ (List.mem_append_right _ (List.mem_append_right _ (List.mem_append_right _ (List.mem_append_right _ (List.mem_append_right _ (List.mem_append_right _ (List.mem_append_right _ (List.mem_of_getElem? (i := 39) rfl)))))))))))
theorem w758 : Cond.selects "EntryTablesModel" y_M_port y_M_port ∈ TG := List.mem_append_right _ (List.mem_append_right _ (List.mem_append_right _ (List.mem_append_right _ (List.mem_append_right _ (List.mem_append_right _ (List.mem_append_right _ (List.mem_append_right _ (List.mem_append_right _ (List.mem_append_right _ (List.mem_append_right _ (List.mem_of_getElem? (i := 40) rfl)))))))))))
theorem w759 : Cond.code y_M_port prog_10_method_26_code 1 (some FieldType.int) ∈ TG := List.mem_append_right _ (List.mem_append_right _ (List.mem_append_right _ (List.mem_append_right _ (List.mem_append_right _ (List.mem_append_right _ (List.mem_append_right _ (List.mem_append_right _ (List.mem_append_right _ (List.mem_append_right _ (List.mem_append_right _ (List.mem_of_getElem? (i := 41) rfl)))))))))))
theorem w760 : Cond.methodLink "EntryTablesLaw" 109 y_M_isDropped ∈ TG := List.mem_append_right _ (List.mem_append_right _ (List.mem_append_right _ (List.mem_append_right _ (List.mem_append_right _ (List.mem_append_right _ (List.mem_append_right _ (List.mem_append_right _ (List.mem_append_right _ (List.mem_append_right _ (List.mem_append_right _ (List.mem_of_getElem? (i := 42) rfl)))))))))))
theorem w761 : Cond.instanceMethod y_M_isDropped ∈ TG := List.mem_append_right _ (List.mem_append_right _ (List.mem_append_right _ (List.mem_append_right _ (List.mem_append_right _ (List.mem_append_right _ (List.mem_append_right _ (List.mem_append_right _ (List.mem_append_right _ (List.mem_append_right _ (List.mem_append_right _ (List.mem_of_getElem? (i := 43) rfl)))))))))))
theorem w762 : Cond.selects "EntryTablesModel" y_M_isDropped y_M_isDropped ∈ TG := List.mem_append_right _ (List.mem_append_right _ (List.mem_append_right _ (List.mem_append_right _ (List.mem_append_right _ (List.mem_append_right _ (List.mem_append_right _ (List.mem_append_right _ (List.mem_append_right _ (List.mem_append_right _ (List.mem_append_right _ (List.mem_of_getElem? (i := 44) rfl)))))))))))
theorem w763 : Cond.code y_M_isDropped prog_10_method_27_code 1 (some FieldType.boolean) ∈ TG := List.mem_append_right _ (List.mem_append_right _ (List.mem_append_right _ (List.mem_append_right _ (List.mem_append_right _ (List.mem_append_right _ (List.mem_append_right _ (List.mem_append_right _ (List.mem_append_right _ (List.mem_append_right _ (List.mem_append_right _ (List.mem_of_getElem? (i := 45) rfl)))))))))))
theorem w764 : Cond.methodLink "EntryTablesLaw" 114 y_M_word ∈ TG := List.mem_append_right _ (List.mem_append_right _ (List.mem_append_right _ (List.mem_append_right _ (List.mem_append_right _ (List.mem_append_right _ (List.mem_append_right _ (List.mem_append_right _ (List.mem_append_right _ (List.mem_append_right _ (List.mem_append_right _ (List.mem_of_getElem? (i := 46) rfl)))))))))))
theorem w765 : Cond.instanceMethod y_M_word ∈ TG := List.mem_append_right _ (List.mem_append_right _ (List.mem_append_right _ (List.mem_append_right _ (List.mem_append_right _ (List.mem_append_right _ (List.mem_append_right _ (List.mem_append_right _ (List.mem_append_right _ (List.mem_append_right _ (List.mem_append_right _ (List.mem_of_getElem? (i := 47) rfl)))))))))))
theorem w766 : Cond.selects "EntryTablesModel" y_M_word y_M_word ∈ TG := List.mem_append_right _ (List.mem_append_right _ (List.mem_append_right _ (List.mem_append_right _ (List.mem_append_right _ (List.mem_append_right _ (List.mem_append_right _ (List.mem_append_right _ (List.mem_append_right _ (List.mem_append_right _ (List.mem_append_right _ (List.mem_of_getElem? (i := 48) rfl)))))))))))
theorem w767 : Cond.code y_M_word prog_10_method_28_code 3 (some FieldType.int) ∈ TG := List.mem_append_right _ (List.mem_append_right _ (List.mem_append_right _ (List.mem_append_right _ (List.mem_append_right _ (List.mem_append_right _ (List.mem_append_right _ (List.mem_append_right _ (List.mem_append_right _ (List.mem_append_right _ (List.mem_append_right _ (List.mem_of_getElem? (i := 49) rfl)))))))))))
theorem w768 : Cond.methodLink "EntryTablesLaw" 118 y_M_entries ∈ TG := List.mem_append_right _ (List.mem_append_right _ (List.mem_append_right _ (List.mem_append_right _ (List.mem_append_right _ (List.mem_append_right _ (List.mem_append_right _ (List.mem_append_right _ (List.mem_append_right _ (List.mem_append_right _ (List.mem_append_right _ (List.mem_of_getElem? (i := 50) rfl)))))))))))
theorem w769 : Cond.instanceMethod y_M_entries ∈ TG := List.mem_append_right _ (List.mem_append_right _ (List.mem_append_right _ (List.mem_append_right _ (List.mem_append_right _ (List.mem_append_right _ (List.mem_append_right _ (List.mem_append_right _ (List.mem_append_right _ (List.mem_append_right _ (List.mem_append_right _ (List.mem_of_getElem? (i := 51) rfl)))))))))))
theorem w770 : Cond.selects "EntryTablesModel" y_M_entries y_M_entries ∈ TG := List.mem_append_right _ (List.mem_append_right _ (List.mem_append_right _ (List.mem_append_right _ (List.mem_append_right _ (List.mem_append_right _ (List.mem_append_right _ (List.mem_append_right _ (List.mem_append_right _ (List.mem_append_right _ (List.mem_append_right _ (List.mem_of_getElem? (i := 52) rfl)))))))))))
theorem w771 : Cond.code y_M_entries prog_10_method_29_code 2 (some FieldType.int) ∈ TG := List.mem_append_right _ (List.mem_append_right _ (List.mem_append_right _ (List.mem_append_right _ (List.mem_append_right _ (List.mem_append_right _ (List.mem_append_right _ (List.mem_append_right _ (List.mem_append_right _ (List.mem_append_right _ (List.mem_append_right _ (List.mem_of_getElem? (i := 53) rfl)))))))))))
theorem w772 : Cond.arrayClass FieldType.long ∈ TG := List.mem_append_right _ (List.mem_append_right _ (List.mem_append_right _ (List.mem_append_right _ (List.mem_append_right _ (List.mem_append_right _ (List.mem_append_right _ (List.mem_append_right _ (List.mem_append_right _ (List.mem_append_right _ (List.mem_append_right _ (List.mem_of_getElem? (i := 54) rfl)))))))))))
theorem w773 : Cond.sameMethod "java/lang/Throwable" "java/lang/Throwable" "fillInStackTrace" "(I)Ljava/lang/Throwable;" ∈ TG := List.mem_append_right _ (List.mem_append_right _ (List.mem_append_right _ (List.mem_append_right _ (List.mem_append_right _ (List.mem_append_right _ (List.mem_append_right _ (List.mem_append_right _ (List.mem_append_right _ (List.mem_append_right _ (List.mem_append_right _ (List.mem_of_getElem? (i := 55) rfl)))))))))))
theorem TG_good : ∀ w ∈ TG, goodWord w = true := by
  intro w hw
  simp only [TG, List.mem_append] at hw
  rcases hw with h | h | h | h | h | h | h | h | h | h | h | h
  · exact List.all_eq_true.mp tgg_0 w h
  · exact List.all_eq_true.mp tgg_1 w h
  · exact List.all_eq_true.mp tgg_2 w h
  · exact List.all_eq_true.mp tgg_3 w h
  · exact List.all_eq_true.mp tgg_4 w h
  · exact List.all_eq_true.mp tgg_5 w h
  · exact List.all_eq_true.mp tgg_6 w h
  · exact List.all_eq_true.mp tgg_7 w h
  · exact List.all_eq_true.mp tgg_8 w h
  · exact List.all_eq_true.mp tgg_9 w h
  · exact List.all_eq_true.mp tgg_10 w h
  · exact List.all_eq_true.mp tgg_11 w h
/-- the words on private members of nest mates -/
def NWs : List Cond := [Cond.methodLinkNest "EntryTables" 9 y_F_init "EntryTables", Cond.methodLinkNest "EntryTables" 18 y_C_init "EntryTables", Cond.methodLinkNest "EntryTables" 37 y_K_init "EntryTables", Cond.fieldLinkNest "EntryTables$Table" 72 "EntryTables$Key" "a" "I" "EntryTables", Cond.fieldLinkNest "EntryTables$Table" 75 "EntryTables$Key" "maskA" "I" "EntryTables", Cond.fieldLinkNest "EntryTables$Table" 78 "EntryTables$Key" "b" "I" "EntryTables", Cond.fieldLinkNest "EntryTables$Table" 81 "EntryTables$Key" "maskB" "I" "EntryTables", Cond.methodLinkNest "EntryTables$Action" 17 y_D_init "EntryTables", Cond.fieldLinkNest "EntryTables$Action" 26 "EntryTables$Doing" "kind" "I" "EntryTables", Cond.fieldLinkNest "EntryTables" 205 "EntryTables$Doing" "kind" "I" "EntryTables", Cond.fieldLinkNest "EntryTables$Action" 29 "EntryTables$Doing" "x" "I" "EntryTables", Cond.fieldLinkNest "EntryTables" 210 "EntryTables$Doing" "x" "I" "EntryTables", Cond.fieldLinkNest "EntryTables$Action" 32 "EntryTables$Doing" "y" "I" "EntryTables", Cond.fieldLinkNest "EntryTables" 213 "EntryTables$Doing" "y" "I" "EntryTables", Cond.fieldLinkNest "EntryTables$Action" 35 "EntryTables$Doing" "z" "I" "EntryTables", Cond.fieldLinkNest "EntryTables" 216 "EntryTables$Doing" "z" "I" "EntryTables", Cond.fieldLinkNest "EntryTables" 197 "EntryTables$Action" "doings" "[LEntryTables$Doing;" "EntryTables", Cond.fieldLinkNest "EntryTables" 196 "EntryTables$Action" "count" "I" "EntryTables", Cond.methodLinkNest "EntryTables$Table" 19 y_K_init "EntryTables", Cond.methodLinkNest "EntryTables$Table" 24 y_E_init "EntryTables", Cond.methodLinkNest "EntryTables$Entry" 9 y_K_init "EntryTables", Cond.fieldLinkNest "EntryTables$Table" 69 "EntryTables$Entry" "key" "LEntryTables$Key;" "EntryTables", Cond.fieldLinkNest "EntryTables$Table" 88 "EntryTables$Entry" "priority" "I" "EntryTables", Cond.fieldLinkNest "EntryTables$Table" 91 "EntryTables$Entry" "action" "I" "EntryTables", Cond.fieldLinkNest "EntryTables" 173 "EntryTables$Entry" "action" "I" "EntryTables", Cond.fieldLinkNest "EntryTables$Table" 94 "EntryTables$Entry" "first" "I" "EntryTables", Cond.fieldLinkNest "EntryTables" 178 "EntryTables$Entry" "first" "I" "EntryTables", Cond.fieldLinkNest "EntryTables$Table" 97 "EntryTables$Entry" "second" "I" "EntryTables", Cond.fieldLinkNest "EntryTables" 181 "EntryTables$Entry" "second" "I" "EntryTables", Cond.fieldLinkNest "EntryTables" 187 "EntryTables$Table" "count" "I" "EntryTables", Cond.fieldLinkNest "EntryTables" 166 "EntryTables$Table" "miss" "I" "EntryTables", Cond.methodLinkNest "EntryTables$Counts" 21 y_X_isArray "EntryTables"]
theorem nw29 : Cond.methodLinkNest "EntryTables" 9 y_F_init "EntryTables" ∈ NWs := List.mem_of_getElem? (i := 0) rfl
theorem nw46 : Cond.methodLinkNest "EntryTables" 18 y_C_init "EntryTables" ∈ NWs := List.mem_of_getElem? (i := 1) rfl
theorem nw60 : Cond.methodLinkNest "EntryTables" 37 y_K_init "EntryTables" ∈ NWs := List.mem_of_getElem? (i := 2) rfl
theorem nw65 : Cond.fieldLinkNest "EntryTables$Table" 72 "EntryTables$Key" "a" "I" "EntryTables" ∈ NWs := List.mem_of_getElem? (i := 3) rfl
theorem nw67 : Cond.fieldLinkNest "EntryTables$Table" 75 "EntryTables$Key" "maskA" "I" "EntryTables" ∈ NWs := List.mem_of_getElem? (i := 4) rfl
theorem nw69 : Cond.fieldLinkNest "EntryTables$Table" 78 "EntryTables$Key" "b" "I" "EntryTables" ∈ NWs := List.mem_of_getElem? (i := 5) rfl
theorem nw71 : Cond.fieldLinkNest "EntryTables$Table" 81 "EntryTables$Key" "maskB" "I" "EntryTables" ∈ NWs := List.mem_of_getElem? (i := 6) rfl
theorem nw89 : Cond.methodLinkNest "EntryTables$Action" 17 y_D_init "EntryTables" ∈ NWs := List.mem_of_getElem? (i := 7) rfl
theorem nw93 : Cond.fieldLinkNest "EntryTables$Action" 26 "EntryTables$Doing" "kind" "I" "EntryTables" ∈ NWs := List.mem_of_getElem? (i := 8) rfl
theorem nw94 : Cond.fieldLinkNest "EntryTables" 205 "EntryTables$Doing" "kind" "I" "EntryTables" ∈ NWs := List.mem_of_getElem? (i := 9) rfl
theorem nw95 : Cond.fieldLinkNest "EntryTables$Action" 29 "EntryTables$Doing" "x" "I" "EntryTables" ∈ NWs := List.mem_of_getElem? (i := 10) rfl
theorem nw96 : Cond.fieldLinkNest "EntryTables" 210 "EntryTables$Doing" "x" "I" "EntryTables" ∈ NWs := List.mem_of_getElem? (i := 11) rfl
theorem nw97 : Cond.fieldLinkNest "EntryTables$Action" 32 "EntryTables$Doing" "y" "I" "EntryTables" ∈ NWs := List.mem_of_getElem? (i := 12) rfl
theorem nw98 : Cond.fieldLinkNest "EntryTables" 213 "EntryTables$Doing" "y" "I" "EntryTables" ∈ NWs := List.mem_of_getElem? (i := 13) rfl
theorem nw99 : Cond.fieldLinkNest "EntryTables$Action" 35 "EntryTables$Doing" "z" "I" "EntryTables" ∈ NWs := List.mem_of_getElem? (i := 14) rfl
theorem nw100 : Cond.fieldLinkNest "EntryTables" 216 "EntryTables$Doing" "z" "I" "EntryTables" ∈ NWs := List.mem_of_getElem? (i := 15) rfl
theorem nw111 : Cond.fieldLinkNest "EntryTables" 197 "EntryTables$Action" "doings" "[LEntryTables$Doing;" "EntryTables" ∈ NWs := List.mem_of_getElem? (i := 16) rfl
theorem nw113 : Cond.fieldLinkNest "EntryTables" 196 "EntryTables$Action" "count" "I" "EntryTables" ∈ NWs := List.mem_of_getElem? (i := 17) rfl
theorem nw127 : Cond.methodLinkNest "EntryTables$Table" 19 y_K_init "EntryTables" ∈ NWs := List.mem_of_getElem? (i := 18) rfl
theorem nw129 : Cond.methodLinkNest "EntryTables$Table" 24 y_E_init "EntryTables" ∈ NWs := List.mem_of_getElem? (i := 19) rfl
theorem nw134 : Cond.methodLinkNest "EntryTables$Entry" 9 y_K_init "EntryTables" ∈ NWs := List.mem_of_getElem? (i := 20) rfl
theorem nw136 : Cond.fieldLinkNest "EntryTables$Table" 69 "EntryTables$Entry" "key" "LEntryTables$Key;" "EntryTables" ∈ NWs := List.mem_of_getElem? (i := 21) rfl
theorem nw137 : Cond.fieldLinkNest "EntryTables$Table" 88 "EntryTables$Entry" "priority" "I" "EntryTables" ∈ NWs := List.mem_of_getElem? (i := 22) rfl
theorem nw138 : Cond.fieldLinkNest "EntryTables$Table" 91 "EntryTables$Entry" "action" "I" "EntryTables" ∈ NWs := List.mem_of_getElem? (i := 23) rfl
theorem nw139 : Cond.fieldLinkNest "EntryTables" 173 "EntryTables$Entry" "action" "I" "EntryTables" ∈ NWs := List.mem_of_getElem? (i := 24) rfl
theorem nw140 : Cond.fieldLinkNest "EntryTables$Table" 94 "EntryTables$Entry" "first" "I" "EntryTables" ∈ NWs := List.mem_of_getElem? (i := 25) rfl
theorem nw141 : Cond.fieldLinkNest "EntryTables" 178 "EntryTables$Entry" "first" "I" "EntryTables" ∈ NWs := List.mem_of_getElem? (i := 26) rfl
theorem nw142 : Cond.fieldLinkNest "EntryTables$Table" 97 "EntryTables$Entry" "second" "I" "EntryTables" ∈ NWs := List.mem_of_getElem? (i := 27) rfl
theorem nw143 : Cond.fieldLinkNest "EntryTables" 181 "EntryTables$Entry" "second" "I" "EntryTables" ∈ NWs := List.mem_of_getElem? (i := 28) rfl
theorem nw157 : Cond.fieldLinkNest "EntryTables" 187 "EntryTables$Table" "count" "I" "EntryTables" ∈ NWs := List.mem_of_getElem? (i := 29) rfl
theorem nw166 : Cond.fieldLinkNest "EntryTables" 166 "EntryTables$Table" "miss" "I" "EntryTables" ∈ NWs := List.mem_of_getElem? (i := 30) rfl
theorem nw304 : Cond.methodLinkNest "EntryTables$Counts" 21 y_X_isArray "EntryTables" ∈ NWs := List.mem_of_getElem? (i := 31) rfl
theorem in_A : ∀ w ∈ u_ws R_A T_A 2, w ∈ TG := by
  intro w hw
  obtain ⟨k, hk, rfl⟩ := List.mem_map.mp hw
  have hk := List.mem_range.mp hk
  match k, hk with
  | 0, _ => exact w114
  | 1, _ => exact w116
  | k + 2, h => exact absurd h (by omega)
theorem in_C : ∀ w ∈ u_ws R_C T_C 1, w ∈ TG := by
  intro w hw
  obtain ⟨k, hk, rfl⟩ := List.mem_map.mp hw
  have hk := List.mem_range.mp hk
  match k, hk with
  | 0, _ => exact w51
  | k + 1, h => exact absurd h (by omega)
theorem in_D : ∀ w ∈ u_ws R_D T_D 4, w ∈ TG := by
  intro w hw
  obtain ⟨k, hk, rfl⟩ := List.mem_map.mp hw
  have hk := List.mem_range.mp hk
  match k, hk with
  | 0, _ => exact w101
  | 1, _ => exact w103
  | 2, _ => exact w105
  | 3, _ => exact w107
  | k + 4, h => exact absurd h (by omega)
theorem in_E : ∀ w ∈ u_ws R_E T_E 5, w ∈ TG := by
  intro w hw
  obtain ⟨k, hk, rfl⟩ := List.mem_map.mp hw
  have hk := List.mem_range.mp hk
  match k, hk with
  | 0, _ => exact w144
  | 1, _ => exact w146
  | 2, _ => exact w148
  | 3, _ => exact w150
  | 4, _ => exact w152
  | k + 5, h => exact absurd h (by omega)
theorem in_F : ∀ w ∈ u_ws R_F T_F 3, w ∈ TG := by
  intro w hw
  obtain ⟨k, hk, rfl⟩ := List.mem_map.mp hw
  have hk := List.mem_range.mp hk
  match k, hk with
  | 0, _ => exact w36
  | 1, _ => exact w38
  | 2, _ => exact w40
  | k + 3, h => exact absurd h (by omega)
theorem in_K : ∀ w ∈ u_ws R_K T_K 4, w ∈ TG := by
  intro w hw
  obtain ⟨k, hk, rfl⟩ := List.mem_map.mp hw
  have hk := List.mem_range.mp hk
  match k, hk with
  | 0, _ => exact w72
  | 1, _ => exact w74
  | 2, _ => exact w76
  | 3, _ => exact w78
  | k + 4, h => exact absurd h (by omega)
theorem in_T : ∀ w ∈ u_ws R_T T_T 11, w ∈ TG := by
  intro w hw
  obtain ⟨k, hk, rfl⟩ := List.mem_map.mp hw
  have hk := List.mem_range.mp hk
  match k, hk with
  | 0, _ => exact w168
  | 1, _ => exact w170
  | 2, _ => exact w172
  | 3, _ => exact w174
  | 4, _ => exact w176
  | 5, _ => exact w178
  | 6, _ => exact w180
  | 7, _ => exact w182
  | 8, _ => exact w184
  | 9, _ => exact w186
  | 10, _ => exact w188
  | k + 11, h => exact absurd h (by omega)
theorem in_X : ∀ w ∈ u_ws R_X T_X 9, w ∈ TG := by
  intro w hw
  obtain ⟨k, hk, rfl⟩ := List.mem_map.mp hw
  have hk := List.mem_range.mp hk
  match k, hk with
  | 0, _ => exact w200
  | 1, _ => exact w202
  | 2, _ => exact w204
  | 3, _ => exact w206
  | 4, _ => exact w208
  | 5, _ => exact w210
  | 6, _ => exact w212
  | 7, _ => exact w214
  | 8, _ => exact w216
  | k + 9, h => exact absurd h (by omega)
theorem in_M : ∀ w ∈ u_ws R_M T_M 20, w ∈ TG := by
  intro w hw
  obtain ⟨k, hk, rfl⟩ := List.mem_map.mp hw
  have hk := List.mem_range.mp hk
  match k, hk with
  | 0, _ => exact w621
  | 1, _ => exact w623
  | 2, _ => exact w625
  | 3, _ => exact w627
  | 4, _ => exact w629
  | 5, _ => exact w631
  | 6, _ => exact w633
  | 7, _ => exact w635
  | 8, _ => exact w637
  | 9, _ => exact w639
  | 10, _ => exact w641
  | 11, _ => exact w643
  | 12, _ => exact w645
  | 13, _ => exact w647
  | 14, _ => exact w649
  | 15, _ => exact w651
  | 16, _ => exact w653
  | 17, _ => exact w655
  | 18, _ => exact w657
  | 19, _ => exact w659
  | k + 20, h => exact absurd h (by omega)
end
section
/-! Decoded instructions, by program (wip/gen/names.py). -/
theorem d_X_init_0 : decode b_X_init 0 = .ok (.aload_n 0, 1) := by decide +kernel
theorem d_X_init_1 : decode b_X_init 1 = .ok (.invokespecial 1, 3) := by decide +kernel
theorem d_X_init_4 : decode b_X_init 4 = .ok (.aload_n 0, 1) := by decide +kernel
theorem d_X_init_5 : decode b_X_init 5 = .ok (.new 7, 3) := by decide +kernel
theorem d_X_init_8 : decode b_X_init 8 = .ok (.dup, 1) := by decide +kernel
theorem d_X_init_9 : decode b_X_init 9 = .ok (.invokespecial 9, 3) := by decide +kernel
theorem d_X_init_12 : decode b_X_init 12 = .ok (.putfield 10, 3) := by decide +kernel
theorem d_X_init_15 : decode b_X_init 15 = .ok (.aload_n 0, 1) := by decide +kernel
theorem d_X_init_16 : decode b_X_init 16 = .ok (.new 16, 3) := by decide +kernel
theorem d_X_init_19 : decode b_X_init 19 = .ok (.dup, 1) := by decide +kernel
theorem d_X_init_20 : decode b_X_init 20 = .ok (.invokespecial 18, 3) := by decide +kernel
theorem d_X_init_23 : decode b_X_init 23 = .ok (.putfield 19, 3) := by decide +kernel
theorem d_X_init_26 : decode b_X_init 26 = .ok (.aload_n 0, 1) := by decide +kernel
theorem d_X_init_27 : decode b_X_init 27 = .ok (.bipush 16, 2) := by decide +kernel
theorem d_X_init_29 : decode b_X_init 29 = .ok (.anewarray 23, 3) := by decide +kernel
theorem d_X_init_32 : decode b_X_init 32 = .ok (.putfield 25, 3) := by decide +kernel
theorem d_X_init_35 : decode b_X_init 35 = .ok (.aload_n 0, 1) := by decide +kernel
theorem d_X_init_36 : decode b_X_init 36 = .ok (.bipush 8, 2) := by decide +kernel
theorem d_X_init_38 : decode b_X_init 38 = .ok (.anewarray 29, 3) := by decide +kernel
theorem d_X_init_41 : decode b_X_init 41 = .ok (.putfield 31, 3) := by decide +kernel
theorem d_X_init_44 : decode b_X_init 44 = .ok (.aload_n 0, 1) := by decide +kernel
theorem d_X_init_45 : decode b_X_init 45 = .ok (.new 35, 3) := by decide +kernel
theorem d_X_init_48 : decode b_X_init 48 = .ok (.dup, 1) := by decide +kernel
theorem d_X_init_49 : decode b_X_init 49 = .ok (.invokespecial 37, 3) := by decide +kernel
theorem d_X_init_52 : decode b_X_init 52 = .ok (.putfield 38, 3) := by decide +kernel
theorem d_X_init_55 : decode b_X_init 55 = .ok (.iconst 0, 1) := by decide +kernel
theorem d_X_init_56 : decode b_X_init 56 = .ok (.istore_n 1, 1) := by decide +kernel
theorem d_X_init_57 : decode b_X_init 57 = .ok (.iload_n 1, 1) := by decide +kernel
theorem d_X_init_58 : decode b_X_init 58 = .ok (.bipush 16, 2) := by decide +kernel
theorem d_X_init_60 : decode b_X_init 60 = .ok (.if_icmp .ge 22, 3) := by decide +kernel
theorem d_X_init_63 : decode b_X_init 63 = .ok (.aload_n 0, 1) := by decide +kernel
theorem d_X_init_64 : decode b_X_init 64 = .ok (.getfield 25, 3) := by decide +kernel
theorem d_X_init_67 : decode b_X_init 67 = .ok (.iload_n 1, 1) := by decide +kernel
theorem d_X_init_68 : decode b_X_init 68 = .ok (.new 23, 3) := by decide +kernel
theorem d_X_init_71 : decode b_X_init 71 = .ok (.dup, 1) := by decide +kernel
theorem d_X_init_72 : decode b_X_init 72 = .ok (.invokespecial 42, 3) := by decide +kernel
theorem d_X_init_75 : decode b_X_init 75 = .ok (.aastore, 1) := by decide +kernel
theorem d_X_init_76 : decode b_X_init 76 = .ok (.iinc 1 1, 3) := by decide +kernel
theorem d_X_init_79 : decode b_X_init 79 = .ok (.goto (-22), 3) := by decide +kernel
theorem d_X_init_82 : decode b_X_init 82 = .ok (.iconst 0, 1) := by decide +kernel
theorem d_X_init_83 : decode b_X_init 83 = .ok (.istore_n 1, 1) := by decide +kernel
theorem d_X_init_84 : decode b_X_init 84 = .ok (.iload_n 1, 1) := by decide +kernel
theorem d_X_init_85 : decode b_X_init 85 = .ok (.bipush 8, 2) := by decide +kernel
theorem d_X_init_87 : decode b_X_init 87 = .ok (.if_icmp .ge 22, 3) := by decide +kernel
theorem d_X_init_90 : decode b_X_init 90 = .ok (.aload_n 0, 1) := by decide +kernel
theorem d_X_init_91 : decode b_X_init 91 = .ok (.getfield 31, 3) := by decide +kernel
theorem d_X_init_94 : decode b_X_init 94 = .ok (.iload_n 1, 1) := by decide +kernel
theorem d_X_init_95 : decode b_X_init 95 = .ok (.new 29, 3) := by decide +kernel
theorem d_X_init_98 : decode b_X_init 98 = .ok (.dup, 1) := by decide +kernel
theorem d_X_init_99 : decode b_X_init 99 = .ok (.invokespecial 43, 3) := by decide +kernel
theorem d_X_init_102 : decode b_X_init 102 = .ok (.aastore, 1) := by decide +kernel
theorem d_X_init_103 : decode b_X_init 103 = .ok (.iinc 1 1, 3) := by decide +kernel
theorem d_X_init_106 : decode b_X_init 106 = .ok (.goto (-22), 3) := by decide +kernel
theorem d_X_init_109 : decode b_X_init 109 = .ok (.return_, 1) := by decide +kernel
theorem d_F_init_0 : decode b_F_init 0 = .ok (.aload_n 0, 1) := by decide +kernel
theorem d_F_init_1 : decode b_F_init 1 = .ok (.invokespecial 3, 3) := by decide +kernel
theorem d_F_init_4 : decode b_F_init 4 = .ok (.aload_n 0, 1) := by decide +kernel
theorem d_F_init_5 : decode b_F_init 5 = .ok (.bipush 16, 2) := by decide +kernel
theorem d_F_init_7 : decode b_F_init 7 = .ok (.newarray .int, 2) := by decide +kernel
theorem d_F_init_9 : decode b_F_init 9 = .ok (.putfield 9, 3) := by decide +kernel
theorem d_F_init_12 : decode b_F_init 12 = .ok (.aload_n 0, 1) := by decide +kernel
theorem d_F_init_13 : decode b_F_init 13 = .ok (.bipush 16, 2) := by decide +kernel
theorem d_F_init_15 : decode b_F_init 15 = .ok (.newarray .int, 2) := by decide +kernel
theorem d_F_init_17 : decode b_F_init 17 = .ok (.putfield 15, 3) := by decide +kernel
theorem d_F_init_20 : decode b_F_init 20 = .ok (.return_, 1) := by decide +kernel
theorem d_C_init_0 : decode b_C_init 0 = .ok (.aload_n 0, 1) := by decide +kernel
theorem d_C_init_1 : decode b_C_init 1 = .ok (.invokespecial 3, 3) := by decide +kernel
theorem d_C_init_4 : decode b_C_init 4 = .ok (.aload_n 0, 1) := by decide +kernel
theorem d_C_init_5 : decode b_C_init 5 = .ok (.bipush 64, 2) := by decide +kernel
theorem d_C_init_7 : decode b_C_init 7 = .ok (.newarray .int, 2) := by decide +kernel
theorem d_C_init_9 : decode b_C_init 9 = .ok (.putfield 9, 3) := by decide +kernel
theorem d_C_init_12 : decode b_C_init 12 = .ok (.return_, 1) := by decide +kernel
theorem d_K_init_0 : decode b_K_init 0 = .ok (.aload_n 0, 1) := by decide +kernel
theorem d_K_init_1 : decode b_K_init 1 = .ok (.invokespecial 1, 3) := by decide +kernel
theorem d_K_init_4 : decode b_K_init 4 = .ok (.return_, 1) := by decide +kernel
theorem d_A_init_0 : decode b_A_init 0 = .ok (.aload_n 0, 1) := by decide +kernel
theorem d_A_init_1 : decode b_A_init 1 = .ok (.invokespecial 3, 3) := by decide +kernel
theorem d_A_init_4 : decode b_A_init 4 = .ok (.aload_n 0, 1) := by decide +kernel
theorem d_A_init_5 : decode b_A_init 5 = .ok (.iconst 4, 1) := by decide +kernel
theorem d_A_init_6 : decode b_A_init 6 = .ok (.anewarray 9, 3) := by decide +kernel
theorem d_A_init_9 : decode b_A_init 9 = .ok (.putfield 11, 3) := by decide +kernel
theorem d_A_init_12 : decode b_A_init 12 = .ok (.iconst 0, 1) := by decide +kernel
theorem d_A_init_13 : decode b_A_init 13 = .ok (.istore_n 1, 1) := by decide +kernel
theorem d_A_init_14 : decode b_A_init 14 = .ok (.iload_n 1, 1) := by decide +kernel
theorem d_A_init_15 : decode b_A_init 15 = .ok (.iconst 4, 1) := by decide +kernel
theorem d_A_init_16 : decode b_A_init 16 = .ok (.if_icmp .ge 22, 3) := by decide +kernel
theorem d_A_init_19 : decode b_A_init 19 = .ok (.aload_n 0, 1) := by decide +kernel
theorem d_A_init_20 : decode b_A_init 20 = .ok (.getfield 11, 3) := by decide +kernel
theorem d_A_init_23 : decode b_A_init 23 = .ok (.iload_n 1, 1) := by decide +kernel
theorem d_A_init_24 : decode b_A_init 24 = .ok (.new 9, 3) := by decide +kernel
theorem d_A_init_27 : decode b_A_init 27 = .ok (.dup, 1) := by decide +kernel
theorem d_A_init_28 : decode b_A_init 28 = .ok (.invokespecial 17, 3) := by decide +kernel
theorem d_A_init_31 : decode b_A_init 31 = .ok (.aastore, 1) := by decide +kernel
theorem d_A_init_32 : decode b_A_init 32 = .ok (.iinc 1 1, 3) := by decide +kernel
theorem d_A_init_35 : decode b_A_init 35 = .ok (.goto (-21), 3) := by decide +kernel
theorem d_A_init_38 : decode b_A_init 38 = .ok (.return_, 1) := by decide +kernel
theorem d_D_init_0 : decode b_D_init 0 = .ok (.aload_n 0, 1) := by decide +kernel
theorem d_D_init_1 : decode b_D_init 1 = .ok (.invokespecial 1, 3) := by decide +kernel
theorem d_D_init_4 : decode b_D_init 4 = .ok (.return_, 1) := by decide +kernel
theorem d_T_init_0 : decode b_T_init 0 = .ok (.aload_n 0, 1) := by decide +kernel
theorem d_T_init_1 : decode b_T_init 1 = .ok (.invokespecial 3, 3) := by decide +kernel
theorem d_T_init_4 : decode b_T_init 4 = .ok (.aload_n 0, 1) := by decide +kernel
theorem d_T_init_5 : decode b_T_init 5 = .ok (.bipush 20, 2) := by decide +kernel
theorem d_T_init_7 : decode b_T_init 7 = .ok (.anewarray 9, 3) := by decide +kernel
theorem d_T_init_10 : decode b_T_init 10 = .ok (.putfield 11, 3) := by decide +kernel
theorem d_T_init_13 : decode b_T_init 13 = .ok (.aload_n 0, 1) := by decide +kernel
theorem d_T_init_14 : decode b_T_init 14 = .ok (.new 17, 3) := by decide +kernel
theorem d_T_init_17 : decode b_T_init 17 = .ok (.dup, 1) := by decide +kernel
theorem d_T_init_18 : decode b_T_init 18 = .ok (.invokespecial 19, 3) := by decide +kernel
theorem d_T_init_21 : decode b_T_init 21 = .ok (.putfield 20, 3) := by decide +kernel
theorem d_T_init_24 : decode b_T_init 24 = .ok (.iconst 0, 1) := by decide +kernel
theorem d_T_init_25 : decode b_T_init 25 = .ok (.istore_n 1, 1) := by decide +kernel
theorem d_T_init_26 : decode b_T_init 26 = .ok (.iload_n 1, 1) := by decide +kernel
theorem d_T_init_27 : decode b_T_init 27 = .ok (.bipush 20, 2) := by decide +kernel
theorem d_T_init_29 : decode b_T_init 29 = .ok (.if_icmp .ge 22, 3) := by decide +kernel
theorem d_T_init_32 : decode b_T_init 32 = .ok (.aload_n 0, 1) := by decide +kernel
theorem d_T_init_33 : decode b_T_init 33 = .ok (.getfield 11, 3) := by decide +kernel
theorem d_T_init_36 : decode b_T_init 36 = .ok (.iload_n 1, 1) := by decide +kernel
theorem d_T_init_37 : decode b_T_init 37 = .ok (.new 9, 3) := by decide +kernel
theorem d_T_init_40 : decode b_T_init 40 = .ok (.dup, 1) := by decide +kernel
theorem d_T_init_41 : decode b_T_init 41 = .ok (.invokespecial 24, 3) := by decide +kernel
theorem d_T_init_44 : decode b_T_init 44 = .ok (.aastore, 1) := by decide +kernel
theorem d_T_init_45 : decode b_T_init 45 = .ok (.iinc 1 1, 3) := by decide +kernel
theorem d_T_init_48 : decode b_T_init 48 = .ok (.goto (-22), 3) := by decide +kernel
theorem d_T_init_51 : decode b_T_init 51 = .ok (.return_, 1) := by decide +kernel
theorem d_E_init_0 : decode b_E_init 0 = .ok (.aload_n 0, 1) := by decide +kernel
theorem d_E_init_1 : decode b_E_init 1 = .ok (.invokespecial 1, 3) := by decide +kernel
theorem d_E_init_4 : decode b_E_init 4 = .ok (.aload_n 0, 1) := by decide +kernel
theorem d_E_init_5 : decode b_E_init 5 = .ok (.new 7, 3) := by decide +kernel
theorem d_E_init_8 : decode b_E_init 8 = .ok (.dup, 1) := by decide +kernel
theorem d_E_init_9 : decode b_E_init 9 = .ok (.invokespecial 9, 3) := by decide +kernel
theorem d_E_init_12 : decode b_E_init 12 = .ok (.putfield 10, 3) := by decide +kernel
theorem d_E_init_15 : decode b_E_init 15 = .ok (.return_, 1) := by decide +kernel
theorem d_X_clear_0 : decode b_X_clear 0 = .ok (.aload_n 0, 1) := by decide +kernel
theorem d_X_clear_1 : decode b_X_clear 1 = .ok (.getfield 10, 3) := by decide +kernel
theorem d_X_clear_4 : decode b_X_clear 4 = .ok (.invokevirtual 44, 3) := by decide +kernel
theorem d_X_clear_7 : decode b_X_clear 7 = .ok (.aload_n 0, 1) := by decide +kernel
theorem d_X_clear_8 : decode b_X_clear 8 = .ok (.getfield 19, 3) := by decide +kernel
theorem d_X_clear_11 : decode b_X_clear 11 = .ok (.invokevirtual 47, 3) := by decide +kernel
theorem d_X_clear_14 : decode b_X_clear 14 = .ok (.aload_n 0, 1) := by decide +kernel
theorem d_X_clear_15 : decode b_X_clear 15 = .ok (.iconst 0, 1) := by decide +kernel
theorem d_X_clear_16 : decode b_X_clear 16 = .ok (.putfield 48, 3) := by decide +kernel
theorem d_X_clear_19 : decode b_X_clear 19 = .ok (.aload_n 0, 1) := by decide +kernel
theorem d_X_clear_20 : decode b_X_clear 20 = .ok (.iconst 0, 1) := by decide +kernel
theorem d_X_clear_21 : decode b_X_clear 21 = .ok (.putfield 52, 3) := by decide +kernel
theorem d_X_clear_24 : decode b_X_clear 24 = .ok (.aload_n 0, 1) := by decide +kernel
theorem d_X_clear_25 : decode b_X_clear 25 = .ok (.getfield 38, 3) := by decide +kernel
theorem d_X_clear_28 : decode b_X_clear 28 = .ok (.iconst 0, 1) := by decide +kernel
theorem d_X_clear_29 : decode b_X_clear 29 = .ok (.iconst 0, 1) := by decide +kernel
theorem d_X_clear_30 : decode b_X_clear 30 = .ok (.iconst 0, 1) := by decide +kernel
theorem d_X_clear_31 : decode b_X_clear 31 = .ok (.iconst 0, 1) := by decide +kernel
theorem d_X_clear_32 : decode b_X_clear 32 = .ok (.invokevirtual 55, 3) := by decide +kernel
theorem d_X_clear_35 : decode b_X_clear 35 = .ok (.aload_n 0, 1) := by decide +kernel
theorem d_X_clear_36 : decode b_X_clear 36 = .ok (.iconst 0, 1) := by decide +kernel
theorem d_X_clear_37 : decode b_X_clear 37 = .ok (.putfield 59, 3) := by decide +kernel
theorem d_X_clear_40 : decode b_X_clear 40 = .ok (.aload_n 0, 1) := by decide +kernel
theorem d_X_clear_41 : decode b_X_clear 41 = .ok (.iconst 0, 1) := by decide +kernel
theorem d_X_clear_42 : decode b_X_clear 42 = .ok (.putfield 62, 3) := by decide +kernel
theorem d_X_clear_45 : decode b_X_clear 45 = .ok (.return_, 1) := by decide +kernel
theorem d_F_forget_0 : decode b_F_forget 0 = .ok (.aload_n 0, 1) := by decide +kernel
theorem d_F_forget_1 : decode b_F_forget 1 = .ok (.iconst 0, 1) := by decide +kernel
theorem d_F_forget_2 : decode b_F_forget 2 = .ok (.putfield 18, 3) := by decide +kernel
theorem d_F_forget_5 : decode b_F_forget 5 = .ok (.return_, 1) := by decide +kernel
theorem d_C_forget_0 : decode b_C_forget 0 = .ok (.aload_n 0, 1) := by decide +kernel
theorem d_C_forget_1 : decode b_C_forget 1 = .ok (.getfield 9, 3) := by decide +kernel
theorem d_C_forget_4 : decode b_C_forget 4 = .ok (.iconst 0, 1) := by decide +kernel
theorem d_C_forget_5 : decode b_C_forget 5 = .ok (.invokestatic 15, 3) := by decide +kernel
theorem d_C_forget_8 : decode b_C_forget 8 = .ok (.return_, 1) := by decide +kernel
theorem d_JA_fill_0 : decode b_JA_fill 0 = .ok (.iconst 0, 1) := by decide +kernel
theorem d_JA_fill_1 : decode b_JA_fill 1 = .ok (.istore_n 2, 1) := by decide +kernel
theorem d_JA_fill_2 : decode b_JA_fill 2 = .ok (.aload_n 0, 1) := by decide +kernel
theorem d_JA_fill_3 : decode b_JA_fill 3 = .ok (.arraylength, 1) := by decide +kernel
theorem d_JA_fill_4 : decode b_JA_fill 4 = .ok (.istore_n 3, 1) := by decide +kernel
theorem d_JA_fill_5 : decode b_JA_fill 5 = .ok (.iload_n 2, 1) := by decide +kernel
theorem d_JA_fill_6 : decode b_JA_fill 6 = .ok (.iload_n 3, 1) := by decide +kernel
theorem d_JA_fill_7 : decode b_JA_fill 7 = .ok (.if_icmp .ge 13, 3) := by decide +kernel
theorem d_JA_fill_10 : decode b_JA_fill 10 = .ok (.aload_n 0, 1) := by decide +kernel
theorem d_JA_fill_11 : decode b_JA_fill 11 = .ok (.iload_n 2, 1) := by decide +kernel
theorem d_JA_fill_12 : decode b_JA_fill 12 = .ok (.iload_n 1, 1) := by decide +kernel
theorem d_JA_fill_13 : decode b_JA_fill 13 = .ok (.iastore, 1) := by decide +kernel
theorem d_JA_fill_14 : decode b_JA_fill 14 = .ok (.iinc 2 1, 3) := by decide +kernel
theorem d_JA_fill_17 : decode b_JA_fill 17 = .ok (.goto (-12), 3) := by decide +kernel
theorem d_JA_fill_20 : decode b_JA_fill 20 = .ok (.return_, 1) := by decide +kernel
theorem d_K_hold_0 : decode b_K_hold 0 = .ok (.aload_n 0, 1) := by decide +kernel
theorem d_K_hold_1 : decode b_K_hold 1 = .ok (.iload_n 1, 1) := by decide +kernel
theorem d_K_hold_2 : decode b_K_hold 2 = .ok (.putfield 7, 3) := by decide +kernel
theorem d_K_hold_5 : decode b_K_hold 5 = .ok (.aload_n 0, 1) := by decide +kernel
theorem d_K_hold_6 : decode b_K_hold 6 = .ok (.iload_n 2, 1) := by decide +kernel
theorem d_K_hold_7 : decode b_K_hold 7 = .ok (.putfield 13, 3) := by decide +kernel
theorem d_K_hold_10 : decode b_K_hold 10 = .ok (.aload_n 0, 1) := by decide +kernel
theorem d_K_hold_11 : decode b_K_hold 11 = .ok (.iload_n 3, 1) := by decide +kernel
theorem d_K_hold_12 : decode b_K_hold 12 = .ok (.putfield 16, 3) := by decide +kernel
theorem d_K_hold_15 : decode b_K_hold 15 = .ok (.aload_n 0, 1) := by decide +kernel
theorem d_K_hold_16 : decode b_K_hold 16 = .ok (.iload 4, 2) := by decide +kernel
theorem d_K_hold_18 : decode b_K_hold 18 = .ok (.putfield 19, 3) := by decide +kernel
theorem d_K_hold_21 : decode b_K_hold 21 = .ok (.return_, 1) := by decide +kernel
theorem d_X_get_0 : decode b_X_get 0 = .ok (.aload_n 0, 1) := by decide +kernel
theorem d_X_get_1 : decode b_X_get 1 = .ok (.getfield 10, 3) := by decide +kernel
theorem d_X_get_4 : decode b_X_get 4 = .ok (.iload_n 1, 1) := by decide +kernel
theorem d_X_get_5 : decode b_X_get 5 = .ok (.invokevirtual 99, 3) := by decide +kernel
theorem d_X_get_8 : decode b_X_get 8 = .ok (.ireturn, 1) := by decide +kernel
theorem d_F_read_0 : decode b_F_read 0 = .ok (.aload_n 0, 1) := by decide +kernel
theorem d_F_read_1 : decode b_F_read 1 = .ok (.iload_n 1, 1) := by decide +kernel
theorem d_F_read_2 : decode b_F_read 2 = .ok (.invokevirtual 26, 3) := by decide +kernel
theorem d_F_read_5 : decode b_F_read 5 = .ok (.ifCond .eq 12, 3) := by decide +kernel
theorem d_F_read_8 : decode b_F_read 8 = .ok (.aload_n 0, 1) := by decide +kernel
theorem d_F_read_9 : decode b_F_read 9 = .ok (.getfield 15, 3) := by decide +kernel
theorem d_F_read_12 : decode b_F_read 12 = .ok (.iload_n 1, 1) := by decide +kernel
theorem d_F_read_13 : decode b_F_read 13 = .ok (.iaload, 1) := by decide +kernel
theorem d_F_read_14 : decode b_F_read 14 = .ok (.goto 4, 3) := by decide +kernel
theorem d_F_read_17 : decode b_F_read 17 = .ok (.iconst 0, 1) := by decide +kernel
theorem d_F_read_18 : decode b_F_read 18 = .ok (.ireturn, 1) := by decide +kernel
theorem d_F_isThere_0 : decode b_F_isThere 0 = .ok (.iload_n 1, 1) := by decide +kernel
theorem d_F_isThere_1 : decode b_F_isThere 1 = .ok (.ifCond .lt 15, 3) := by decide +kernel
theorem d_F_isThere_4 : decode b_F_isThere 4 = .ok (.iload_n 1, 1) := by decide +kernel
theorem d_F_isThere_5 : decode b_F_isThere 5 = .ok (.aload_n 0, 1) := by decide +kernel
theorem d_F_isThere_6 : decode b_F_isThere 6 = .ok (.getfield 18, 3) := by decide +kernel
theorem d_F_isThere_9 : decode b_F_isThere 9 = .ok (.if_icmp .ge 7, 3) := by decide +kernel
theorem d_F_isThere_12 : decode b_F_isThere 12 = .ok (.iconst 1, 1) := by decide +kernel
theorem d_F_isThere_13 : decode b_F_isThere 13 = .ok (.goto 4, 3) := by decide +kernel
theorem d_F_isThere_16 : decode b_F_isThere 16 = .ok (.iconst 0, 1) := by decide +kernel
theorem d_F_isThere_17 : decode b_F_isThere 17 = .ok (.ireturn, 1) := by decide +kernel
theorem d_X_key_0 : decode b_X_key 0 = .ok (.aload_n 0, 1) := by decide +kernel
theorem d_X_key_1 : decode b_X_key 1 = .ok (.getfield 38, 3) := by decide +kernel
theorem d_X_key_4 : decode b_X_key 4 = .ok (.iload_n 1, 1) := by decide +kernel
theorem d_X_key_5 : decode b_X_key 5 = .ok (.iload_n 2, 1) := by decide +kernel
theorem d_X_key_6 : decode b_X_key 6 = .ok (.iload_n 3, 1) := by decide +kernel
theorem d_X_key_7 : decode b_X_key 7 = .ok (.iload 4, 2) := by decide +kernel
theorem d_X_key_9 : decode b_X_key 9 = .ok (.invokevirtual 55, 3) := by decide +kernel
theorem d_X_key_12 : decode b_X_key 12 = .ok (.return_, 1) := by decide +kernel
theorem d_X_matches_0 : decode b_X_matches 0 = .ok (.aload_n 0, 1) := by decide +kernel
theorem d_X_matches_1 : decode b_X_matches 1 = .ok (.iload_n 1, 1) := by decide +kernel
theorem d_X_matches_2 : decode b_X_matches 2 = .ok (.invokevirtual 149, 3) := by decide +kernel
theorem d_X_matches_5 : decode b_X_matches 5 = .ok (.ifCond .ne 5, 3) := by decide +kernel
theorem d_X_matches_8 : decode b_X_matches 8 = .ok (.iconst (-1), 1) := by decide +kernel
theorem d_X_matches_9 : decode b_X_matches 9 = .ok (.ireturn, 1) := by decide +kernel
theorem d_X_matches_10 : decode b_X_matches 10 = .ok (.aload_n 0, 1) := by decide +kernel
theorem d_X_matches_11 : decode b_X_matches 11 = .ok (.getfield 31, 3) := by decide +kernel
theorem d_X_matches_14 : decode b_X_matches 14 = .ok (.iload_n 1, 1) := by decide +kernel
theorem d_X_matches_15 : decode b_X_matches 15 = .ok (.aaload, 1) := by decide +kernel
theorem d_X_matches_16 : decode b_X_matches 16 = .ok (.aload_n 0, 1) := by decide +kernel
theorem d_X_matches_17 : decode b_X_matches 17 = .ok (.getfield 10, 3) := by decide +kernel
theorem d_X_matches_20 : decode b_X_matches 20 = .ok (.invokevirtual 162, 3) := by decide +kernel
theorem d_X_matches_23 : decode b_X_matches 23 = .ok (.astore_n 2, 1) := by decide +kernel
theorem d_X_matches_24 : decode b_X_matches 24 = .ok (.aload_n 2, 1) := by decide +kernel
theorem d_X_matches_25 : decode b_X_matches 25 = .ok (.ifnonnull 7, 3) := by decide +kernel
theorem d_X_matches_28 : decode b_X_matches 28 = .ok (.iconst (-1), 1) := by decide +kernel
theorem d_X_matches_29 : decode b_X_matches 29 = .ok (.goto 7, 3) := by decide +kernel
theorem d_X_matches_32 : decode b_X_matches 32 = .ok (.aload_n 2, 1) := by decide +kernel
theorem d_X_matches_33 : decode b_X_matches 33 = .ok (.getfield 173, 3) := by decide +kernel
theorem d_X_matches_36 : decode b_X_matches 36 = .ok (.ireturn, 1) := by decide +kernel
theorem d_X_isTable_0 : decode b_X_isTable 0 = .ok (.iload_n 1, 1) := by decide +kernel
theorem d_X_isTable_1 : decode b_X_isTable 1 = .ok (.ifCond .lt 15, 3) := by decide +kernel
theorem d_X_isTable_4 : decode b_X_isTable 4 = .ok (.iload_n 1, 1) := by decide +kernel
theorem d_X_isTable_5 : decode b_X_isTable 5 = .ok (.aload_n 0, 1) := by decide +kernel
theorem d_X_isTable_6 : decode b_X_isTable 6 = .ok (.getfield 52, 3) := by decide +kernel
theorem d_X_isTable_9 : decode b_X_isTable 9 = .ok (.if_icmp .ge 7, 3) := by decide +kernel
theorem d_X_isTable_12 : decode b_X_isTable 12 = .ok (.iconst 1, 1) := by decide +kernel
theorem d_X_isTable_13 : decode b_X_isTable 13 = .ok (.goto 4, 3) := by decide +kernel
theorem d_X_isTable_16 : decode b_X_isTable 16 = .ok (.iconst 0, 1) := by decide +kernel
theorem d_X_isTable_17 : decode b_X_isTable 17 = .ok (.ireturn, 1) := by decide +kernel
theorem d_T_bestMatch_0 : decode b_T_bestMatch 0 = .ok (.aload_n 1, 1) := by decide +kernel
theorem d_T_bestMatch_1 : decode b_T_bestMatch 1 = .ok (.aload_n 0, 1) := by decide +kernel
theorem d_T_bestMatch_2 : decode b_T_bestMatch 2 = .ok (.getfield 25, 3) := by decide +kernel
theorem d_T_bestMatch_5 : decode b_T_bestMatch 5 = .ok (.invokevirtual 100, 3) := by decide +kernel
theorem d_T_bestMatch_8 : decode b_T_bestMatch 8 = .ok (.istore_n 2, 1) := by decide +kernel
theorem d_T_bestMatch_9 : decode b_T_bestMatch 9 = .ok (.aload_n 1, 1) := by decide +kernel
theorem d_T_bestMatch_10 : decode b_T_bestMatch 10 = .ok (.aload_n 0, 1) := by decide +kernel
theorem d_T_bestMatch_11 : decode b_T_bestMatch 11 = .ok (.getfield 29, 3) := by decide +kernel
theorem d_T_bestMatch_14 : decode b_T_bestMatch 14 = .ok (.invokevirtual 100, 3) := by decide +kernel
theorem d_T_bestMatch_17 : decode b_T_bestMatch 17 = .ok (.istore_n 3, 1) := by decide +kernel
theorem d_T_bestMatch_18 : decode b_T_bestMatch 18 = .ok (.aconst_null, 1) := by decide +kernel
theorem d_T_bestMatch_19 : decode b_T_bestMatch 19 = .ok (.astore 4, 2) := by decide +kernel
theorem d_T_bestMatch_21 : decode b_T_bestMatch 21 = .ok (.iconst 0, 1) := by decide +kernel
theorem d_T_bestMatch_22 : decode b_T_bestMatch 22 = .ok (.istore 5, 2) := by decide +kernel
theorem d_T_bestMatch_24 : decode b_T_bestMatch 24 = .ok (.iload 5, 2) := by decide +kernel
theorem d_T_bestMatch_26 : decode b_T_bestMatch 26 = .ok (.aload_n 0, 1) := by decide +kernel
theorem d_T_bestMatch_27 : decode b_T_bestMatch 27 = .ok (.getfield 38, 3) := by decide +kernel
theorem d_T_bestMatch_30 : decode b_T_bestMatch 30 = .ok (.if_icmp .ge 51, 3) := by decide +kernel
theorem d_T_bestMatch_33 : decode b_T_bestMatch 33 = .ok (.aload_n 0, 1) := by decide +kernel
theorem d_T_bestMatch_34 : decode b_T_bestMatch 34 = .ok (.getfield 11, 3) := by decide +kernel
theorem d_T_bestMatch_37 : decode b_T_bestMatch 37 = .ok (.iload 5, 2) := by decide +kernel
theorem d_T_bestMatch_39 : decode b_T_bestMatch 39 = .ok (.aaload, 1) := by decide +kernel
theorem d_T_bestMatch_40 : decode b_T_bestMatch 40 = .ok (.astore 6, 2) := by decide +kernel
theorem d_T_bestMatch_42 : decode b_T_bestMatch 42 = .ok (.aload 6, 2) := by decide +kernel
theorem d_T_bestMatch_44 : decode b_T_bestMatch 44 = .ok (.getfield 69, 3) := by decide +kernel
theorem d_T_bestMatch_47 : decode b_T_bestMatch 47 = .ok (.iload_n 2, 1) := by decide +kernel
theorem d_T_bestMatch_48 : decode b_T_bestMatch 48 = .ok (.iload_n 3, 1) := by decide +kernel
theorem d_T_bestMatch_49 : decode b_T_bestMatch 49 = .ok (.invokevirtual 106, 3) := by decide +kernel
theorem d_T_bestMatch_52 : decode b_T_bestMatch 52 = .ok (.ifCond .eq 23, 3) := by decide +kernel
theorem d_T_bestMatch_55 : decode b_T_bestMatch 55 = .ok (.aload 4, 2) := by decide +kernel
theorem d_T_bestMatch_57 : decode b_T_bestMatch 57 = .ok (.ifnull 14, 3) := by decide +kernel
theorem d_T_bestMatch_60 : decode b_T_bestMatch 60 = .ok (.aload_n 0, 1) := by decide +kernel
theorem d_T_bestMatch_61 : decode b_T_bestMatch 61 = .ok (.aload 6, 2) := by decide +kernel
theorem d_T_bestMatch_63 : decode b_T_bestMatch 63 = .ok (.aload 4, 2) := by decide +kernel
theorem d_T_bestMatch_65 : decode b_T_bestMatch 65 = .ok (.invokevirtual 110, 3) := by decide +kernel
theorem d_T_bestMatch_68 : decode b_T_bestMatch 68 = .ok (.ifCond .eq 7, 3) := by decide +kernel
theorem d_T_bestMatch_71 : decode b_T_bestMatch 71 = .ok (.aload 6, 2) := by decide +kernel
theorem d_T_bestMatch_73 : decode b_T_bestMatch 73 = .ok (.astore 4, 2) := by decide +kernel
theorem d_T_bestMatch_75 : decode b_T_bestMatch 75 = .ok (.iinc 5 1, 3) := by decide +kernel
theorem d_T_bestMatch_78 : decode b_T_bestMatch 78 = .ok (.goto (-54), 3) := by decide +kernel
theorem d_T_bestMatch_81 : decode b_T_bestMatch 81 = .ok (.aload 4, 2) := by decide +kernel
theorem d_T_bestMatch_83 : decode b_T_bestMatch 83 = .ok (.areturn, 1) := by decide +kernel
theorem d_K_fits_0 : decode b_K_fits 0 = .ok (.iload_n 1, 1) := by decide +kernel
theorem d_K_fits_1 : decode b_K_fits 1 = .ok (.aload_n 0, 1) := by decide +kernel
theorem d_K_fits_2 : decode b_K_fits 2 = .ok (.getfield 13, 3) := by decide +kernel
theorem d_K_fits_5 : decode b_K_fits 5 = .ok (.iand, 1) := by decide +kernel
theorem d_K_fits_6 : decode b_K_fits 6 = .ok (.aload_n 0, 1) := by decide +kernel
theorem d_K_fits_7 : decode b_K_fits 7 = .ok (.getfield 7, 3) := by decide +kernel
theorem d_K_fits_10 : decode b_K_fits 10 = .ok (.if_icmp .ne 20, 3) := by decide +kernel
theorem d_K_fits_13 : decode b_K_fits 13 = .ok (.iload_n 2, 1) := by decide +kernel
theorem d_K_fits_14 : decode b_K_fits 14 = .ok (.aload_n 0, 1) := by decide +kernel
theorem d_K_fits_15 : decode b_K_fits 15 = .ok (.getfield 19, 3) := by decide +kernel
theorem d_K_fits_18 : decode b_K_fits 18 = .ok (.iand, 1) := by decide +kernel
theorem d_K_fits_19 : decode b_K_fits 19 = .ok (.aload_n 0, 1) := by decide +kernel
theorem d_K_fits_20 : decode b_K_fits 20 = .ok (.getfield 16, 3) := by decide +kernel
theorem d_K_fits_23 : decode b_K_fits 23 = .ok (.if_icmp .ne 7, 3) := by decide +kernel
theorem d_K_fits_26 : decode b_K_fits 26 = .ok (.iconst 1, 1) := by decide +kernel
theorem d_K_fits_27 : decode b_K_fits 27 = .ok (.goto 4, 3) := by decide +kernel
theorem d_K_fits_30 : decode b_K_fits 30 = .ok (.iconst 0, 1) := by decide +kernel
theorem d_K_fits_31 : decode b_K_fits 31 = .ok (.ireturn, 1) := by decide +kernel
theorem d_T_isBetter_0 : decode b_T_isBetter 0 = .ok (.aload_n 0, 1) := by decide +kernel
theorem d_T_isBetter_1 : decode b_T_isBetter 1 = .ok (.aload_n 1, 1) := by decide +kernel
theorem d_T_isBetter_2 : decode b_T_isBetter 2 = .ok (.getfield 69, 3) := by decide +kernel
theorem d_T_isBetter_5 : decode b_T_isBetter 5 = .ok (.invokevirtual 114, 3) := by decide +kernel
theorem d_T_isBetter_8 : decode b_T_isBetter 8 = .ok (.istore_n 3, 1) := by decide +kernel
theorem d_T_isBetter_9 : decode b_T_isBetter 9 = .ok (.aload_n 0, 1) := by decide +kernel
theorem d_T_isBetter_10 : decode b_T_isBetter 10 = .ok (.aload_n 2, 1) := by decide +kernel
theorem d_T_isBetter_11 : decode b_T_isBetter 11 = .ok (.getfield 69, 3) := by decide +kernel
theorem d_T_isBetter_14 : decode b_T_isBetter 14 = .ok (.invokevirtual 114, 3) := by decide +kernel
theorem d_T_isBetter_17 : decode b_T_isBetter 17 = .ok (.istore 4, 2) := by decide +kernel
theorem d_T_isBetter_19 : decode b_T_isBetter 19 = .ok (.iload_n 3, 1) := by decide +kernel
theorem d_T_isBetter_20 : decode b_T_isBetter 20 = .ok (.iload 4, 2) := by decide +kernel
theorem d_T_isBetter_22 : decode b_T_isBetter 22 = .ok (.if_icmp .eq 15, 3) := by decide +kernel
theorem d_T_isBetter_25 : decode b_T_isBetter 25 = .ok (.iload_n 3, 1) := by decide +kernel
theorem d_T_isBetter_26 : decode b_T_isBetter 26 = .ok (.iload 4, 2) := by decide +kernel
theorem d_T_isBetter_28 : decode b_T_isBetter 28 = .ok (.if_icmp .le 7, 3) := by decide +kernel
theorem d_T_isBetter_31 : decode b_T_isBetter 31 = .ok (.iconst 1, 1) := by decide +kernel
theorem d_T_isBetter_32 : decode b_T_isBetter 32 = .ok (.goto 4, 3) := by decide +kernel
theorem d_T_isBetter_35 : decode b_T_isBetter 35 = .ok (.iconst 0, 1) := by decide +kernel
theorem d_T_isBetter_36 : decode b_T_isBetter 36 = .ok (.ireturn, 1) := by decide +kernel
theorem d_T_isBetter_37 : decode b_T_isBetter 37 = .ok (.aload_n 1, 1) := by decide +kernel
theorem d_T_isBetter_38 : decode b_T_isBetter 38 = .ok (.getfield 88, 3) := by decide +kernel
theorem d_T_isBetter_41 : decode b_T_isBetter 41 = .ok (.aload_n 2, 1) := by decide +kernel
theorem d_T_isBetter_42 : decode b_T_isBetter 42 = .ok (.getfield 88, 3) := by decide +kernel
theorem d_T_isBetter_45 : decode b_T_isBetter 45 = .ok (.if_icmp .le 7, 3) := by decide +kernel
theorem d_T_isBetter_48 : decode b_T_isBetter 48 = .ok (.iconst 1, 1) := by decide +kernel
theorem d_T_isBetter_49 : decode b_T_isBetter 49 = .ok (.goto 4, 3) := by decide +kernel
theorem d_T_isBetter_52 : decode b_T_isBetter 52 = .ok (.iconst 0, 1) := by decide +kernel
theorem d_T_isBetter_53 : decode b_T_isBetter 53 = .ok (.ireturn, 1) := by decide +kernel
theorem d_T_prefixOnes_0 : decode b_T_prefixOnes 0 = .ok (.aload_n 0, 1) := by decide +kernel
theorem d_T_prefixOnes_1 : decode b_T_prefixOnes 1 = .ok (.getfield 32, 3) := by decide +kernel
theorem d_T_prefixOnes_4 : decode b_T_prefixOnes 4 = .ok (.iconst 1, 1) := by decide +kernel
theorem d_T_prefixOnes_5 : decode b_T_prefixOnes 5 = .ok (.if_icmp .ne 11, 3) := by decide +kernel
theorem d_T_prefixOnes_8 : decode b_T_prefixOnes 8 = .ok (.aload_n 1, 1) := by decide +kernel
theorem d_T_prefixOnes_9 : decode b_T_prefixOnes 9 = .ok (.getfield 75, 3) := by decide +kernel
theorem d_T_prefixOnes_12 : decode b_T_prefixOnes 12 = .ok (.invokestatic 118, 3) := by decide +kernel
theorem d_T_prefixOnes_15 : decode b_T_prefixOnes 15 = .ok (.ireturn, 1) := by decide +kernel
theorem d_T_prefixOnes_16 : decode b_T_prefixOnes 16 = .ok (.aload_n 0, 1) := by decide +kernel
theorem d_T_prefixOnes_17 : decode b_T_prefixOnes 17 = .ok (.getfield 35, 3) := by decide +kernel
theorem d_T_prefixOnes_20 : decode b_T_prefixOnes 20 = .ok (.iconst 1, 1) := by decide +kernel
theorem d_T_prefixOnes_21 : decode b_T_prefixOnes 21 = .ok (.if_icmp .ne 13, 3) := by decide +kernel
theorem d_T_prefixOnes_24 : decode b_T_prefixOnes 24 = .ok (.aload_n 1, 1) := by decide +kernel
theorem d_T_prefixOnes_25 : decode b_T_prefixOnes 25 = .ok (.getfield 81, 3) := by decide +kernel
theorem d_T_prefixOnes_28 : decode b_T_prefixOnes 28 = .ok (.invokestatic 118, 3) := by decide +kernel
theorem d_T_prefixOnes_31 : decode b_T_prefixOnes 31 = .ok (.goto 4, 3) := by decide +kernel
theorem d_T_prefixOnes_34 : decode b_T_prefixOnes 34 = .ok (.iconst 0, 1) := by decide +kernel
theorem d_T_prefixOnes_35 : decode b_T_prefixOnes 35 = .ok (.ireturn, 1) := by decide +kernel
theorem d_JI_bitCount_0 : decode b_JI_bitCount 0 = .ok (.iload_n 0, 1) := by decide +kernel
theorem d_JI_bitCount_1 : decode b_JI_bitCount 1 = .ok (.iload_n 0, 1) := by decide +kernel
theorem d_JI_bitCount_2 : decode b_JI_bitCount 2 = .ok (.iconst 1, 1) := by decide +kernel
theorem d_JI_bitCount_3 : decode b_JI_bitCount 3 = .ok (.iushr, 1) := by decide +kernel
theorem d_JI_bitCount_4 : decode b_JI_bitCount 4 = .ok (.ldc_w 265, 3) := by decide +kernel
theorem d_JI_bitCount_7 : decode b_JI_bitCount 7 = .ok (.iand, 1) := by decide +kernel
theorem d_JI_bitCount_8 : decode b_JI_bitCount 8 = .ok (.isub, 1) := by decide +kernel
theorem d_JI_bitCount_9 : decode b_JI_bitCount 9 = .ok (.istore_n 0, 1) := by decide +kernel
theorem d_JI_bitCount_10 : decode b_JI_bitCount 10 = .ok (.iload_n 0, 1) := by decide +kernel
theorem d_JI_bitCount_11 : decode b_JI_bitCount 11 = .ok (.ldc_w 266, 3) := by decide +kernel
theorem d_JI_bitCount_14 : decode b_JI_bitCount 14 = .ok (.iand, 1) := by decide +kernel
theorem d_JI_bitCount_15 : decode b_JI_bitCount 15 = .ok (.iload_n 0, 1) := by decide +kernel
theorem d_JI_bitCount_16 : decode b_JI_bitCount 16 = .ok (.iconst 2, 1) := by decide +kernel
theorem d_JI_bitCount_17 : decode b_JI_bitCount 17 = .ok (.iushr, 1) := by decide +kernel
theorem d_JI_bitCount_18 : decode b_JI_bitCount 18 = .ok (.ldc_w 266, 3) := by decide +kernel
theorem d_JI_bitCount_21 : decode b_JI_bitCount 21 = .ok (.iand, 1) := by decide +kernel
theorem d_JI_bitCount_22 : decode b_JI_bitCount 22 = .ok (.iadd, 1) := by decide +kernel
theorem d_JI_bitCount_23 : decode b_JI_bitCount 23 = .ok (.istore_n 0, 1) := by decide +kernel
theorem d_JI_bitCount_24 : decode b_JI_bitCount 24 = .ok (.iload_n 0, 1) := by decide +kernel
theorem d_JI_bitCount_25 : decode b_JI_bitCount 25 = .ok (.iload_n 0, 1) := by decide +kernel
theorem d_JI_bitCount_26 : decode b_JI_bitCount 26 = .ok (.iconst 4, 1) := by decide +kernel
theorem d_JI_bitCount_27 : decode b_JI_bitCount 27 = .ok (.iushr, 1) := by decide +kernel
theorem d_JI_bitCount_28 : decode b_JI_bitCount 28 = .ok (.iadd, 1) := by decide +kernel
theorem d_JI_bitCount_29 : decode b_JI_bitCount 29 = .ok (.ldc_w 267, 3) := by decide +kernel
theorem d_JI_bitCount_32 : decode b_JI_bitCount 32 = .ok (.iand, 1) := by decide +kernel
theorem d_JI_bitCount_33 : decode b_JI_bitCount 33 = .ok (.istore_n 0, 1) := by decide +kernel
theorem d_JI_bitCount_34 : decode b_JI_bitCount 34 = .ok (.iload_n 0, 1) := by decide +kernel
theorem d_JI_bitCount_35 : decode b_JI_bitCount 35 = .ok (.iload_n 0, 1) := by decide +kernel
theorem d_JI_bitCount_36 : decode b_JI_bitCount 36 = .ok (.bipush 8, 2) := by decide +kernel
theorem d_JI_bitCount_38 : decode b_JI_bitCount 38 = .ok (.iushr, 1) := by decide +kernel
theorem d_JI_bitCount_39 : decode b_JI_bitCount 39 = .ok (.iadd, 1) := by decide +kernel
theorem d_JI_bitCount_40 : decode b_JI_bitCount 40 = .ok (.istore_n 0, 1) := by decide +kernel
theorem d_JI_bitCount_41 : decode b_JI_bitCount 41 = .ok (.iload_n 0, 1) := by decide +kernel
theorem d_JI_bitCount_42 : decode b_JI_bitCount 42 = .ok (.iload_n 0, 1) := by decide +kernel
theorem d_JI_bitCount_43 : decode b_JI_bitCount 43 = .ok (.bipush 16, 2) := by decide +kernel
theorem d_JI_bitCount_45 : decode b_JI_bitCount 45 = .ok (.iushr, 1) := by decide +kernel
theorem d_JI_bitCount_46 : decode b_JI_bitCount 46 = .ok (.iadd, 1) := by decide +kernel
theorem d_JI_bitCount_47 : decode b_JI_bitCount 47 = .ok (.istore_n 0, 1) := by decide +kernel
theorem d_JI_bitCount_48 : decode b_JI_bitCount 48 = .ok (.iload_n 0, 1) := by decide +kernel
theorem d_JI_bitCount_49 : decode b_JI_bitCount 49 = .ok (.bipush 63, 2) := by decide +kernel
theorem d_JI_bitCount_51 : decode b_JI_bitCount 51 = .ok (.iand, 1) := by decide +kernel
theorem d_JI_bitCount_52 : decode b_JI_bitCount 52 = .ok (.ireturn, 1) := by decide +kernel
theorem d_X_port_0 : decode b_X_port 0 = .ok (.aload_n 0, 1) := by decide +kernel
theorem d_X_port_1 : decode b_X_port 1 = .ok (.getfield 59, 3) := by decide +kernel
theorem d_X_port_4 : decode b_X_port 4 = .ok (.ireturn, 1) := by decide +kernel
theorem d_X_isDropped_0 : decode b_X_isDropped 0 = .ok (.aload_n 0, 1) := by decide +kernel
theorem d_X_isDropped_1 : decode b_X_isDropped 1 = .ok (.getfield 62, 3) := by decide +kernel
theorem d_X_isDropped_4 : decode b_X_isDropped 4 = .ok (.ireturn, 1) := by decide +kernel
theorem d_X_word_0 : decode b_X_word 0 = .ok (.aload_n 0, 1) := by decide +kernel
theorem d_X_word_1 : decode b_X_word 1 = .ok (.getfield 19, 3) := by decide +kernel
theorem d_X_word_4 : decode b_X_word 4 = .ok (.iload_n 1, 1) := by decide +kernel
theorem d_X_word_5 : decode b_X_word 5 = .ok (.iload_n 2, 1) := by decide +kernel
theorem d_X_word_6 : decode b_X_word 6 = .ok (.invokevirtual 184, 3) := by decide +kernel
theorem d_X_word_9 : decode b_X_word 9 = .ok (.ireturn, 1) := by decide +kernel
theorem d_C_read_0 : decode b_C_read 0 = .ok (.iload_n 1, 1) := by decide +kernel
theorem d_C_read_1 : decode b_C_read 1 = .ok (.iload_n 2, 1) := by decide +kernel
theorem d_C_read_2 : decode b_C_read 2 = .ok (.invokestatic 25, 3) := by decide +kernel
theorem d_C_read_5 : decode b_C_read 5 = .ok (.ifCond .eq 17, 3) := by decide +kernel
theorem d_C_read_8 : decode b_C_read 8 = .ok (.aload_n 0, 1) := by decide +kernel
theorem d_C_read_9 : decode b_C_read 9 = .ok (.getfield 9, 3) := by decide +kernel
theorem d_C_read_12 : decode b_C_read 12 = .ok (.iload_n 1, 1) := by decide +kernel
theorem d_C_read_13 : decode b_C_read 13 = .ok (.bipush 16, 2) := by decide +kernel
theorem d_C_read_15 : decode b_C_read 15 = .ok (.imul, 1) := by decide +kernel
theorem d_C_read_16 : decode b_C_read 16 = .ok (.iload_n 2, 1) := by decide +kernel
theorem d_C_read_17 : decode b_C_read 17 = .ok (.iadd, 1) := by decide +kernel
theorem d_C_read_18 : decode b_C_read 18 = .ok (.iaload, 1) := by decide +kernel
theorem d_C_read_19 : decode b_C_read 19 = .ok (.goto 4, 3) := by decide +kernel
theorem d_C_read_22 : decode b_C_read 22 = .ok (.iconst 0, 1) := by decide +kernel
theorem d_C_read_23 : decode b_C_read 23 = .ok (.ireturn, 1) := by decide +kernel
theorem d_C_isWord_0 : decode b_C_isWord 0 = .ok (.iload_n 0, 1) := by decide +kernel
theorem d_C_isWord_1 : decode b_C_isWord 1 = .ok (.invokestatic 21, 3) := by decide +kernel
theorem d_C_isWord_4 : decode b_C_isWord 4 = .ok (.ifCond .eq 17, 3) := by decide +kernel
theorem d_C_isWord_7 : decode b_C_isWord 7 = .ok (.iload_n 1, 1) := by decide +kernel
theorem d_C_isWord_8 : decode b_C_isWord 8 = .ok (.ifCond .lt 13, 3) := by decide +kernel
theorem d_C_isWord_11 : decode b_C_isWord 11 = .ok (.iload_n 1, 1) := by decide +kernel
theorem d_C_isWord_12 : decode b_C_isWord 12 = .ok (.bipush 16, 2) := by decide +kernel
theorem d_C_isWord_14 : decode b_C_isWord 14 = .ok (.if_icmp .ge 7, 3) := by decide +kernel
theorem d_C_isWord_17 : decode b_C_isWord 17 = .ok (.iconst 1, 1) := by decide +kernel
theorem d_C_isWord_18 : decode b_C_isWord 18 = .ok (.goto 4, 3) := by decide +kernel
theorem d_C_isWord_21 : decode b_C_isWord 21 = .ok (.iconst 0, 1) := by decide +kernel
theorem d_C_isWord_22 : decode b_C_isWord 22 = .ok (.ireturn, 1) := by decide +kernel
theorem d_X_isArray_0 : decode b_X_isArray 0 = .ok (.iload_n 0, 1) := by decide +kernel
theorem d_X_isArray_1 : decode b_X_isArray 1 = .ok (.ifCond .lt 12, 3) := by decide +kernel
theorem d_X_isArray_4 : decode b_X_isArray 4 = .ok (.iload_n 0, 1) := by decide +kernel
theorem d_X_isArray_5 : decode b_X_isArray 5 = .ok (.iconst 4, 1) := by decide +kernel
theorem d_X_isArray_6 : decode b_X_isArray 6 = .ok (.if_icmp .ge 7, 3) := by decide +kernel
theorem d_X_isArray_9 : decode b_X_isArray 9 = .ok (.iconst 1, 1) := by decide +kernel
theorem d_X_isArray_10 : decode b_X_isArray 10 = .ok (.goto 4, 3) := by decide +kernel
theorem d_X_isArray_13 : decode b_X_isArray 13 = .ok (.iconst 0, 1) := by decide +kernel
theorem d_X_isArray_14 : decode b_X_isArray 14 = .ok (.ireturn, 1) := by decide +kernel
theorem d_X_entries_0 : decode b_X_entries 0 = .ok (.aload_n 0, 1) := by decide +kernel
theorem d_X_entries_1 : decode b_X_entries 1 = .ok (.iload_n 1, 1) := by decide +kernel
theorem d_X_entries_2 : decode b_X_entries 2 = .ok (.invokevirtual 149, 3) := by decide +kernel
theorem d_X_entries_5 : decode b_X_entries 5 = .ok (.ifCond .eq 15, 3) := by decide +kernel
theorem d_X_entries_8 : decode b_X_entries 8 = .ok (.aload_n 0, 1) := by decide +kernel
theorem d_X_entries_9 : decode b_X_entries 9 = .ok (.getfield 31, 3) := by decide +kernel
theorem d_X_entries_12 : decode b_X_entries 12 = .ok (.iload_n 1, 1) := by decide +kernel
theorem d_X_entries_13 : decode b_X_entries 13 = .ok (.aaload, 1) := by decide +kernel
theorem d_X_entries_14 : decode b_X_entries 14 = .ok (.getfield 187, 3) := by decide +kernel
theorem d_X_entries_17 : decode b_X_entries 17 = .ok (.goto 4, 3) := by decide +kernel
theorem d_X_entries_20 : decode b_X_entries 20 = .ok (.iconst (-1), 1) := by decide +kernel
theorem d_X_entries_21 : decode b_X_entries 21 = .ok (.ireturn, 1) := by decide +kernel
theorem d_X_field_0 : decode b_X_field 0 = .ok (.iload_n 1, 1) := by decide +kernel
theorem d_X_field_1 : decode b_X_field 1 = .ok (.iconst 1, 1) := by decide +kernel
theorem d_X_field_2 : decode b_X_field 2 = .ok (.if_icmp .lt 9, 3) := by decide +kernel
theorem d_X_field_5 : decode b_X_field 5 = .ok (.iload_n 1, 1) := by decide +kernel
theorem d_X_field_6 : decode b_X_field 6 = .ok (.bipush 32, 2) := by decide +kernel
theorem d_X_field_8 : decode b_X_field 8 = .ok (.if_icmp .le 13, 3) := by decide +kernel
theorem d_X_field_11 : decode b_X_field 11 = .ok (.new 66, 3) := by decide +kernel
theorem d_X_field_14 : decode b_X_field 14 = .ok (.dup, 1) := by decide +kernel
theorem d_X_field_15 : decode b_X_field 15 = .ok (.ldc 68, 2) := by decide +kernel
theorem d_X_field_17 : decode b_X_field 17 = .ok (.invokespecial 70, 3) := by decide +kernel
theorem d_X_field_20 : decode b_X_field 20 = .ok (.athrow, 1) := by decide +kernel
theorem d_X_field_21 : decode b_X_field 21 = .ok (.aload_n 0, 1) := by decide +kernel
theorem d_X_field_22 : decode b_X_field 22 = .ok (.getfield 10, 3) := by decide +kernel
theorem d_X_field_25 : decode b_X_field 25 = .ok (.invokevirtual 73, 3) := by decide +kernel
theorem d_X_field_28 : decode b_X_field 28 = .ok (.ifCond .eq 13, 3) := by decide +kernel
theorem d_X_field_31 : decode b_X_field 31 = .ok (.new 77, 3) := by decide +kernel
theorem d_X_field_34 : decode b_X_field 34 = .ok (.dup, 1) := by decide +kernel
theorem d_X_field_35 : decode b_X_field 35 = .ok (.ldc 79, 2) := by decide +kernel
theorem d_X_field_37 : decode b_X_field 37 = .ok (.invokespecial 81, 3) := by decide +kernel
theorem d_X_field_40 : decode b_X_field 40 = .ok (.athrow, 1) := by decide +kernel
theorem d_X_field_41 : decode b_X_field 41 = .ok (.aload_n 0, 1) := by decide +kernel
theorem d_X_field_42 : decode b_X_field 42 = .ok (.getfield 10, 3) := by decide +kernel
theorem d_X_field_45 : decode b_X_field 45 = .ok (.iload_n 1, 1) := by decide +kernel
theorem d_X_field_46 : decode b_X_field 46 = .ok (.invokevirtual 82, 3) := by decide +kernel
theorem d_X_field_49 : decode b_X_field 49 = .ok (.ireturn, 1) := by decide +kernel
theorem d_F_isFull_0 : decode b_F_isFull 0 = .ok (.aload_n 0, 1) := by decide +kernel
theorem d_F_isFull_1 : decode b_F_isFull 1 = .ok (.getfield 18, 3) := by decide +kernel
theorem d_F_isFull_4 : decode b_F_isFull 4 = .ok (.bipush 16, 2) := by decide +kernel
theorem d_F_isFull_6 : decode b_F_isFull 6 = .ok (.if_icmp .lt 7, 3) := by decide +kernel
theorem d_F_isFull_9 : decode b_F_isFull 9 = .ok (.iconst 1, 1) := by decide +kernel
theorem d_F_isFull_10 : decode b_F_isFull 10 = .ok (.goto 4, 3) := by decide +kernel
theorem d_F_isFull_13 : decode b_F_isFull 13 = .ok (.iconst 0, 1) := by decide +kernel
theorem d_F_isFull_14 : decode b_F_isFull 14 = .ok (.ireturn, 1) := by decide +kernel
theorem d_F_add_0 : decode b_F_add 0 = .ok (.aload_n 0, 1) := by decide +kernel
theorem d_F_add_1 : decode b_F_add 1 = .ok (.invokevirtual 22, 3) := by decide +kernel
theorem d_F_add_4 : decode b_F_add 4 = .ok (.ifCond .eq 5, 3) := by decide +kernel
theorem d_F_add_7 : decode b_F_add 7 = .ok (.iconst (-1), 1) := by decide +kernel
theorem d_F_add_8 : decode b_F_add 8 = .ok (.ireturn, 1) := by decide +kernel
theorem d_F_add_9 : decode b_F_add 9 = .ok (.aload_n 0, 1) := by decide +kernel
theorem d_F_add_10 : decode b_F_add 10 = .ok (.getfield 18, 3) := by decide +kernel
theorem d_F_add_13 : decode b_F_add 13 = .ok (.istore_n 2, 1) := by decide +kernel
theorem d_F_add_14 : decode b_F_add 14 = .ok (.aload_n 0, 1) := by decide +kernel
theorem d_F_add_15 : decode b_F_add 15 = .ok (.getfield 9, 3) := by decide +kernel
theorem d_F_add_18 : decode b_F_add 18 = .ok (.iload_n 2, 1) := by decide +kernel
theorem d_F_add_19 : decode b_F_add 19 = .ok (.iconst (-1), 1) := by decide +kernel
theorem d_F_add_20 : decode b_F_add 20 = .ok (.bipush 32, 2) := by decide +kernel
theorem d_F_add_22 : decode b_F_add 22 = .ok (.iload_n 1, 1) := by decide +kernel
theorem d_F_add_23 : decode b_F_add 23 = .ok (.isub, 1) := by decide +kernel
theorem d_F_add_24 : decode b_F_add 24 = .ok (.iushr, 1) := by decide +kernel
theorem d_F_add_25 : decode b_F_add 25 = .ok (.iastore, 1) := by decide +kernel
theorem d_F_add_26 : decode b_F_add 26 = .ok (.aload_n 0, 1) := by decide +kernel
theorem d_F_add_27 : decode b_F_add 27 = .ok (.getfield 15, 3) := by decide +kernel
theorem d_F_add_30 : decode b_F_add 30 = .ok (.iload_n 2, 1) := by decide +kernel
theorem d_F_add_31 : decode b_F_add 31 = .ok (.iconst 0, 1) := by decide +kernel
theorem d_F_add_32 : decode b_F_add 32 = .ok (.iastore, 1) := by decide +kernel
theorem d_F_add_33 : decode b_F_add 33 = .ok (.aload_n 0, 1) := by decide +kernel
theorem d_F_add_34 : decode b_F_add 34 = .ok (.dup, 1) := by decide +kernel
theorem d_F_add_35 : decode b_F_add 35 = .ok (.getfield 18, 3) := by decide +kernel
theorem d_F_add_38 : decode b_F_add 38 = .ok (.iconst 1, 1) := by decide +kernel
theorem d_F_add_39 : decode b_F_add 39 = .ok (.iadd, 1) := by decide +kernel
theorem d_F_add_40 : decode b_F_add 40 = .ok (.putfield 18, 3) := by decide +kernel
theorem d_F_add_43 : decode b_F_add 43 = .ok (.iload_n 2, 1) := by decide +kernel
theorem d_F_add_44 : decode b_F_add 44 = .ok (.ireturn, 1) := by decide +kernel
theorem d_X_set_0 : decode b_X_set 0 = .ok (.aload_n 0, 1) := by decide +kernel
theorem d_X_set_1 : decode b_X_set 1 = .ok (.getfield 10, 3) := by decide +kernel
theorem d_X_set_4 : decode b_X_set 4 = .ok (.iload_n 1, 1) := by decide +kernel
theorem d_X_set_5 : decode b_X_set 5 = .ok (.invokevirtual 86, 3) := by decide +kernel
theorem d_X_set_8 : decode b_X_set 8 = .ok (.ifCond .ne 13, 3) := by decide +kernel
theorem d_X_set_11 : decode b_X_set 11 = .ok (.new 90, 3) := by decide +kernel
theorem d_X_set_14 : decode b_X_set 14 = .ok (.dup, 1) := by decide +kernel
theorem d_X_set_15 : decode b_X_set 15 = .ok (.ldc 92, 2) := by decide +kernel
theorem d_X_set_17 : decode b_X_set 17 = .ok (.invokespecial 94, 3) := by decide +kernel
theorem d_X_set_20 : decode b_X_set 20 = .ok (.athrow, 1) := by decide +kernel
theorem d_X_set_21 : decode b_X_set 21 = .ok (.aload_n 0, 1) := by decide +kernel
theorem d_X_set_22 : decode b_X_set 22 = .ok (.getfield 10, 3) := by decide +kernel
theorem d_X_set_25 : decode b_X_set 25 = .ok (.iload_n 1, 1) := by decide +kernel
theorem d_X_set_26 : decode b_X_set 26 = .ok (.iload_n 2, 1) := by decide +kernel
theorem d_X_set_27 : decode b_X_set 27 = .ok (.invokevirtual 95, 3) := by decide +kernel
theorem d_X_set_30 : decode b_X_set 30 = .ok (.return_, 1) := by decide +kernel
theorem d_F_write_0 : decode b_F_write 0 = .ok (.aload_n 0, 1) := by decide +kernel
theorem d_F_write_1 : decode b_F_write 1 = .ok (.iload_n 1, 1) := by decide +kernel
theorem d_F_write_2 : decode b_F_write 2 = .ok (.invokevirtual 26, 3) := by decide +kernel
theorem d_F_write_5 : decode b_F_write 5 = .ok (.ifCond .eq 17, 3) := by decide +kernel
theorem d_F_write_8 : decode b_F_write 8 = .ok (.aload_n 0, 1) := by decide +kernel
theorem d_F_write_9 : decode b_F_write 9 = .ok (.getfield 15, 3) := by decide +kernel
theorem d_F_write_12 : decode b_F_write 12 = .ok (.iload_n 1, 1) := by decide +kernel
theorem d_F_write_13 : decode b_F_write 13 = .ok (.iload_n 2, 1) := by decide +kernel
theorem d_F_write_14 : decode b_F_write 14 = .ok (.aload_n 0, 1) := by decide +kernel
theorem d_F_write_15 : decode b_F_write 15 = .ok (.getfield 9, 3) := by decide +kernel
theorem d_F_write_18 : decode b_F_write 18 = .ok (.iload_n 1, 1) := by decide +kernel
theorem d_F_write_19 : decode b_F_write 19 = .ok (.iaload, 1) := by decide +kernel
theorem d_F_write_20 : decode b_F_write 20 = .ok (.iand, 1) := by decide +kernel
theorem d_F_write_21 : decode b_F_write 21 = .ok (.iastore, 1) := by decide +kernel
theorem d_F_write_22 : decode b_F_write 22 = .ok (.return_, 1) := by decide +kernel
theorem d_X_action_0 : decode b_X_action 0 = .ok (.aload_n 0, 1) := by decide +kernel
theorem d_X_action_1 : decode b_X_action 1 = .ok (.getfield 48, 3) := by decide +kernel
theorem d_X_action_4 : decode b_X_action 4 = .ok (.bipush 16, 2) := by decide +kernel
theorem d_X_action_6 : decode b_X_action 6 = .ok (.if_icmp .lt 13, 3) := by decide +kernel
theorem d_X_action_9 : decode b_X_action 9 = .ok (.new 77, 3) := by decide +kernel
theorem d_X_action_12 : decode b_X_action 12 = .ok (.dup, 1) := by decide +kernel
theorem d_X_action_13 : decode b_X_action 13 = .ok (.ldc 102, 2) := by decide +kernel
theorem d_X_action_15 : decode b_X_action 15 = .ok (.invokespecial 81, 3) := by decide +kernel
theorem d_X_action_18 : decode b_X_action 18 = .ok (.athrow, 1) := by decide +kernel
theorem d_X_action_19 : decode b_X_action 19 = .ok (.aload_n 0, 1) := by decide +kernel
theorem d_X_action_20 : decode b_X_action 20 = .ok (.getfield 48, 3) := by decide +kernel
theorem d_X_action_23 : decode b_X_action 23 = .ok (.istore_n 1, 1) := by decide +kernel
theorem d_X_action_24 : decode b_X_action 24 = .ok (.aload_n 0, 1) := by decide +kernel
theorem d_X_action_25 : decode b_X_action 25 = .ok (.getfield 25, 3) := by decide +kernel
theorem d_X_action_28 : decode b_X_action 28 = .ok (.iload_n 1, 1) := by decide +kernel
theorem d_X_action_29 : decode b_X_action 29 = .ok (.aaload, 1) := by decide +kernel
theorem d_X_action_30 : decode b_X_action 30 = .ok (.invokevirtual 104, 3) := by decide +kernel
theorem d_X_action_33 : decode b_X_action 33 = .ok (.aload_n 0, 1) := by decide +kernel
theorem d_X_action_34 : decode b_X_action 34 = .ok (.dup, 1) := by decide +kernel
theorem d_X_action_35 : decode b_X_action 35 = .ok (.getfield 48, 3) := by decide +kernel
theorem d_X_action_38 : decode b_X_action 38 = .ok (.iconst 1, 1) := by decide +kernel
theorem d_X_action_39 : decode b_X_action 39 = .ok (.iadd, 1) := by decide +kernel
theorem d_X_action_40 : decode b_X_action 40 = .ok (.putfield 48, 3) := by decide +kernel
theorem d_X_action_43 : decode b_X_action 43 = .ok (.iload_n 1, 1) := by decide +kernel
theorem d_X_action_44 : decode b_X_action 44 = .ok (.ireturn, 1) := by decide +kernel
theorem d_A_forget_0 : decode b_A_forget 0 = .ok (.aload_n 0, 1) := by decide +kernel
theorem d_A_forget_1 : decode b_A_forget 1 = .ok (.iconst 0, 1) := by decide +kernel
theorem d_A_forget_2 : decode b_A_forget 2 = .ok (.putfield 18, 3) := by decide +kernel
theorem d_A_forget_5 : decode b_A_forget 5 = .ok (.return_, 1) := by decide +kernel
theorem d_X_doing_0 : decode b_X_doing 0 = .ok (.iload_n 2, 1) := by decide +kernel
theorem d_X_doing_1 : decode b_X_doing 1 = .ok (.ifCond .lt 9, 3) := by decide +kernel
theorem d_X_doing_4 : decode b_X_doing 4 = .ok (.iload_n 2, 1) := by decide +kernel
theorem d_X_doing_5 : decode b_X_doing 5 = .ok (.bipush 8, 2) := by decide +kernel
theorem d_X_doing_7 : decode b_X_doing 7 = .ok (.if_icmp .le 13, 3) := by decide +kernel
theorem d_X_doing_10 : decode b_X_doing 10 = .ok (.new 66, 3) := by decide +kernel
theorem d_X_doing_13 : decode b_X_doing 13 = .ok (.dup, 1) := by decide +kernel
theorem d_X_doing_14 : decode b_X_doing 14 = .ok (.ldc 105, 2) := by decide +kernel
theorem d_X_doing_16 : decode b_X_doing 16 = .ok (.invokespecial 70, 3) := by decide +kernel
theorem d_X_doing_19 : decode b_X_doing 19 = .ok (.athrow, 1) := by decide +kernel
theorem d_X_doing_20 : decode b_X_doing 20 = .ok (.aload_n 0, 1) := by decide +kernel
theorem d_X_doing_21 : decode b_X_doing 21 = .ok (.iload_n 1, 1) := by decide +kernel
theorem d_X_doing_22 : decode b_X_doing 22 = .ok (.invokevirtual 107, 3) := by decide +kernel
theorem d_X_doing_25 : decode b_X_doing 25 = .ok (.ifCond .eq 16, 3) := by decide +kernel
theorem d_X_doing_28 : decode b_X_doing 28 = .ok (.aload_n 0, 1) := by decide +kernel
theorem d_X_doing_29 : decode b_X_doing 29 = .ok (.iload_n 2, 1) := by decide +kernel
theorem d_X_doing_30 : decode b_X_doing 30 = .ok (.iload_n 3, 1) := by decide +kernel
theorem d_X_doing_31 : decode b_X_doing 31 = .ok (.iload 4, 2) := by decide +kernel
theorem d_X_doing_33 : decode b_X_doing 33 = .ok (.iload 5, 2) := by decide +kernel
theorem d_X_doing_35 : decode b_X_doing 35 = .ok (.invokevirtual 110, 3) := by decide +kernel
theorem d_X_doing_38 : decode b_X_doing 38 = .ok (.ifCond .ne 13, 3) := by decide +kernel
theorem d_X_doing_41 : decode b_X_doing 41 = .ok (.new 90, 3) := by decide +kernel
theorem d_X_doing_44 : decode b_X_doing 44 = .ok (.dup, 1) := by decide +kernel
theorem d_X_doing_45 : decode b_X_doing 45 = .ok (.ldc 114, 2) := by decide +kernel
theorem d_X_doing_47 : decode b_X_doing 47 = .ok (.invokespecial 94, 3) := by decide +kernel
theorem d_X_doing_50 : decode b_X_doing 50 = .ok (.athrow, 1) := by decide +kernel
theorem d_X_doing_51 : decode b_X_doing 51 = .ok (.aload_n 0, 1) := by decide +kernel
theorem d_X_doing_52 : decode b_X_doing 52 = .ok (.getfield 25, 3) := by decide +kernel
theorem d_X_doing_55 : decode b_X_doing 55 = .ok (.iload_n 1, 1) := by decide +kernel
theorem d_X_doing_56 : decode b_X_doing 56 = .ok (.aaload, 1) := by decide +kernel
theorem d_X_doing_57 : decode b_X_doing 57 = .ok (.invokevirtual 116, 3) := by decide +kernel
theorem d_X_doing_60 : decode b_X_doing 60 = .ok (.ifCond .eq 13, 3) := by decide +kernel
theorem d_X_doing_63 : decode b_X_doing 63 = .ok (.new 77, 3) := by decide +kernel
theorem d_X_doing_66 : decode b_X_doing 66 = .ok (.dup, 1) := by decide +kernel
theorem d_X_doing_67 : decode b_X_doing 67 = .ok (.ldc 117, 2) := by decide +kernel
theorem d_X_doing_69 : decode b_X_doing 69 = .ok (.invokespecial 81, 3) := by decide +kernel
theorem d_X_doing_72 : decode b_X_doing 72 = .ok (.athrow, 1) := by decide +kernel
theorem d_X_doing_73 : decode b_X_doing 73 = .ok (.aload_n 0, 1) := by decide +kernel
theorem d_X_doing_74 : decode b_X_doing 74 = .ok (.getfield 25, 3) := by decide +kernel
theorem d_X_doing_77 : decode b_X_doing 77 = .ok (.iload_n 1, 1) := by decide +kernel
theorem d_X_doing_78 : decode b_X_doing 78 = .ok (.aaload, 1) := by decide +kernel
theorem d_X_doing_79 : decode b_X_doing 79 = .ok (.iload_n 2, 1) := by decide +kernel
theorem d_X_doing_80 : decode b_X_doing 80 = .ok (.iload_n 3, 1) := by decide +kernel
theorem d_X_doing_81 : decode b_X_doing 81 = .ok (.iload 4, 2) := by decide +kernel
theorem d_X_doing_83 : decode b_X_doing 83 = .ok (.iload 5, 2) := by decide +kernel
theorem d_X_doing_85 : decode b_X_doing 85 = .ok (.invokevirtual 119, 3) := by decide +kernel
theorem d_X_doing_88 : decode b_X_doing 88 = .ok (.return_, 1) := by decide +kernel
theorem d_X_isAction_0 : decode b_X_isAction 0 = .ok (.iload_n 1, 1) := by decide +kernel
theorem d_X_isAction_1 : decode b_X_isAction 1 = .ok (.ifCond .lt 15, 3) := by decide +kernel
theorem d_X_isAction_4 : decode b_X_isAction 4 = .ok (.iload_n 1, 1) := by decide +kernel
theorem d_X_isAction_5 : decode b_X_isAction 5 = .ok (.aload_n 0, 1) := by decide +kernel
theorem d_X_isAction_6 : decode b_X_isAction 6 = .ok (.getfield 48, 3) := by decide +kernel
theorem d_X_isAction_9 : decode b_X_isAction 9 = .ok (.if_icmp .ge 7, 3) := by decide +kernel
theorem d_X_isAction_12 : decode b_X_isAction 12 = .ok (.iconst 1, 1) := by decide +kernel
theorem d_X_isAction_13 : decode b_X_isAction 13 = .ok (.goto 4, 3) := by decide +kernel
theorem d_X_isAction_16 : decode b_X_isAction 16 = .ok (.iconst 0, 1) := by decide +kernel
theorem d_X_isAction_17 : decode b_X_isAction 17 = .ok (.ireturn, 1) := by decide +kernel
theorem d_X_areOperands_0 : decode b_X_areOperands 0 = .ok (.iload_n 1, 1) := by decide +kernel
theorem d_X_areOperands_1 : decode b_X_areOperands 1 = .ok (.tableswitch 177 0 8 #[51, 60, 60, 88, 177, 112, 177, 117, 141], 51) := by decide +kernel
theorem d_X_areOperands_52 : decode b_X_areOperands 52 = .ok (.aload_n 0, 1) := by decide +kernel
theorem d_X_areOperands_53 : decode b_X_areOperands 53 = .ok (.getfield 10, 3) := by decide +kernel
theorem d_X_areOperands_56 : decode b_X_areOperands 56 = .ok (.iload_n 2, 1) := by decide +kernel
theorem d_X_areOperands_57 : decode b_X_areOperands 57 = .ok (.invokevirtual 86, 3) := by decide +kernel
theorem d_X_areOperands_60 : decode b_X_areOperands 60 = .ok (.ireturn, 1) := by decide +kernel
theorem d_X_areOperands_61 : decode b_X_areOperands 61 = .ok (.aload_n 0, 1) := by decide +kernel
theorem d_X_areOperands_62 : decode b_X_areOperands 62 = .ok (.getfield 10, 3) := by decide +kernel
theorem d_X_areOperands_65 : decode b_X_areOperands 65 = .ok (.iload_n 2, 1) := by decide +kernel
theorem d_X_areOperands_66 : decode b_X_areOperands 66 = .ok (.invokevirtual 86, 3) := by decide +kernel
theorem d_X_areOperands_69 : decode b_X_areOperands 69 = .ok (.ifCond .eq 18, 3) := by decide +kernel
theorem d_X_areOperands_72 : decode b_X_areOperands 72 = .ok (.aload_n 0, 1) := by decide +kernel
theorem d_X_areOperands_73 : decode b_X_areOperands 73 = .ok (.getfield 10, 3) := by decide +kernel
theorem d_X_areOperands_76 : decode b_X_areOperands 76 = .ok (.iload_n 3, 1) := by decide +kernel
theorem d_X_areOperands_77 : decode b_X_areOperands 77 = .ok (.invokevirtual 86, 3) := by decide +kernel
theorem d_X_areOperands_80 : decode b_X_areOperands 80 = .ok (.ifCond .eq 7, 3) := by decide +kernel
theorem d_X_areOperands_83 : decode b_X_areOperands 83 = .ok (.iconst 1, 1) := by decide +kernel
theorem d_X_areOperands_84 : decode b_X_areOperands 84 = .ok (.goto 4, 3) := by decide +kernel
theorem d_X_areOperands_87 : decode b_X_areOperands 87 = .ok (.iconst 0, 1) := by decide +kernel
theorem d_X_areOperands_88 : decode b_X_areOperands 88 = .ok (.ireturn, 1) := by decide +kernel
theorem d_X_areOperands_89 : decode b_X_areOperands 89 = .ok (.aload_n 0, 1) := by decide +kernel
theorem d_X_areOperands_90 : decode b_X_areOperands 90 = .ok (.getfield 10, 3) := by decide +kernel
theorem d_X_areOperands_93 : decode b_X_areOperands 93 = .ok (.iload_n 2, 1) := by decide +kernel
theorem d_X_areOperands_94 : decode b_X_areOperands 94 = .ok (.invokevirtual 86, 3) := by decide +kernel
theorem d_X_areOperands_97 : decode b_X_areOperands 97 = .ok (.ifCond .eq 14, 3) := by decide +kernel
theorem d_X_areOperands_100 : decode b_X_areOperands 100 = .ok (.iload_n 3, 1) := by decide +kernel
theorem d_X_areOperands_101 : decode b_X_areOperands 101 = .ok (.invokestatic 190, 3) := by decide +kernel
theorem d_X_areOperands_104 : decode b_X_areOperands 104 = .ok (.ifCond .eq 7, 3) := by decide +kernel
theorem d_X_areOperands_107 : decode b_X_areOperands 107 = .ok (.iconst 1, 1) := by decide +kernel
theorem d_X_areOperands_108 : decode b_X_areOperands 108 = .ok (.goto 4, 3) := by decide +kernel
theorem d_X_areOperands_111 : decode b_X_areOperands 111 = .ok (.iconst 0, 1) := by decide +kernel
theorem d_X_areOperands_112 : decode b_X_areOperands 112 = .ok (.ireturn, 1) := by decide +kernel
theorem d_X_areOperands_113 : decode b_X_areOperands 113 = .ok (.iload_n 3, 1) := by decide +kernel
theorem d_X_areOperands_114 : decode b_X_areOperands 114 = .ok (.invokestatic 190, 3) := by decide +kernel
theorem d_X_areOperands_117 : decode b_X_areOperands 117 = .ok (.ireturn, 1) := by decide +kernel
theorem d_X_areOperands_118 : decode b_X_areOperands 118 = .ok (.iload_n 2, 1) := by decide +kernel
theorem d_X_areOperands_119 : decode b_X_areOperands 119 = .ok (.invokestatic 193, 3) := by decide +kernel
theorem d_X_areOperands_122 : decode b_X_areOperands 122 = .ok (.ifCond .eq 18, 3) := by decide +kernel
theorem d_X_areOperands_125 : decode b_X_areOperands 125 = .ok (.aload_n 0, 1) := by decide +kernel
theorem d_X_areOperands_126 : decode b_X_areOperands 126 = .ok (.getfield 10, 3) := by decide +kernel
theorem d_X_areOperands_129 : decode b_X_areOperands 129 = .ok (.iload_n 3, 1) := by decide +kernel
theorem d_X_areOperands_130 : decode b_X_areOperands 130 = .ok (.invokevirtual 86, 3) := by decide +kernel
theorem d_X_areOperands_133 : decode b_X_areOperands 133 = .ok (.ifCond .eq 7, 3) := by decide +kernel
theorem d_X_areOperands_136 : decode b_X_areOperands 136 = .ok (.iconst 1, 1) := by decide +kernel
theorem d_X_areOperands_137 : decode b_X_areOperands 137 = .ok (.goto 4, 3) := by decide +kernel
theorem d_X_areOperands_140 : decode b_X_areOperands 140 = .ok (.iconst 0, 1) := by decide +kernel
theorem d_X_areOperands_141 : decode b_X_areOperands 141 = .ok (.ireturn, 1) := by decide +kernel
theorem d_X_areOperands_142 : decode b_X_areOperands 142 = .ok (.aload_n 0, 1) := by decide +kernel
theorem d_X_areOperands_143 : decode b_X_areOperands 143 = .ok (.getfield 10, 3) := by decide +kernel
theorem d_X_areOperands_146 : decode b_X_areOperands 146 = .ok (.iload_n 2, 1) := by decide +kernel
theorem d_X_areOperands_147 : decode b_X_areOperands 147 = .ok (.invokevirtual 86, 3) := by decide +kernel
theorem d_X_areOperands_150 : decode b_X_areOperands 150 = .ok (.ifCond .eq 26, 3) := by decide +kernel
theorem d_X_areOperands_153 : decode b_X_areOperands 153 = .ok (.aload_n 0, 1) := by decide +kernel
theorem d_X_areOperands_154 : decode b_X_areOperands 154 = .ok (.getfield 10, 3) := by decide +kernel
theorem d_X_areOperands_157 : decode b_X_areOperands 157 = .ok (.iload_n 3, 1) := by decide +kernel
theorem d_X_areOperands_158 : decode b_X_areOperands 158 = .ok (.invokevirtual 86, 3) := by decide +kernel
theorem d_X_areOperands_161 : decode b_X_areOperands 161 = .ok (.ifCond .eq 15, 3) := by decide +kernel
theorem d_X_areOperands_164 : decode b_X_areOperands 164 = .ok (.iload 4, 2) := by decide +kernel
theorem d_X_areOperands_166 : decode b_X_areOperands 166 = .ok (.invokestatic 193, 3) := by decide +kernel
theorem d_X_areOperands_169 : decode b_X_areOperands 169 = .ok (.ifCond .eq 7, 3) := by decide +kernel
theorem d_X_areOperands_172 : decode b_X_areOperands 172 = .ok (.iconst 1, 1) := by decide +kernel
theorem d_X_areOperands_173 : decode b_X_areOperands 173 = .ok (.goto 4, 3) := by decide +kernel
theorem d_X_areOperands_176 : decode b_X_areOperands 176 = .ok (.iconst 0, 1) := by decide +kernel
theorem d_X_areOperands_177 : decode b_X_areOperands 177 = .ok (.ireturn, 1) := by decide +kernel
theorem d_X_areOperands_178 : decode b_X_areOperands 178 = .ok (.iconst 1, 1) := by decide +kernel
theorem d_X_areOperands_179 : decode b_X_areOperands 179 = .ok (.ireturn, 1) := by decide +kernel
theorem d_X_isDatum_0 : decode b_X_isDatum 0 = .ok (.iload_n 0, 1) := by decide +kernel
theorem d_X_isDatum_1 : decode b_X_isDatum 1 = .ok (.ifCond .lt 12, 3) := by decide +kernel
theorem d_X_isDatum_4 : decode b_X_isDatum 4 = .ok (.iload_n 0, 1) := by decide +kernel
theorem d_X_isDatum_5 : decode b_X_isDatum 5 = .ok (.iconst 2, 1) := by decide +kernel
theorem d_X_isDatum_6 : decode b_X_isDatum 6 = .ok (.if_icmp .ge 7, 3) := by decide +kernel
theorem d_X_isDatum_9 : decode b_X_isDatum 9 = .ok (.iconst 1, 1) := by decide +kernel
theorem d_X_isDatum_10 : decode b_X_isDatum 10 = .ok (.goto 4, 3) := by decide +kernel
theorem d_X_isDatum_13 : decode b_X_isDatum 13 = .ok (.iconst 0, 1) := by decide +kernel
theorem d_X_isDatum_14 : decode b_X_isDatum 14 = .ok (.ireturn, 1) := by decide +kernel
theorem d_A_isFull_0 : decode b_A_isFull 0 = .ok (.aload_n 0, 1) := by decide +kernel
theorem d_A_isFull_1 : decode b_A_isFull 1 = .ok (.getfield 18, 3) := by decide +kernel
theorem d_A_isFull_4 : decode b_A_isFull 4 = .ok (.iconst 4, 1) := by decide +kernel
theorem d_A_isFull_5 : decode b_A_isFull 5 = .ok (.if_icmp .lt 7, 3) := by decide +kernel
theorem d_A_isFull_8 : decode b_A_isFull 8 = .ok (.iconst 1, 1) := by decide +kernel
theorem d_A_isFull_9 : decode b_A_isFull 9 = .ok (.goto 4, 3) := by decide +kernel
theorem d_A_isFull_12 : decode b_A_isFull 12 = .ok (.iconst 0, 1) := by decide +kernel
theorem d_A_isFull_13 : decode b_A_isFull 13 = .ok (.ireturn, 1) := by decide +kernel
theorem d_A_add_0 : decode b_A_add 0 = .ok (.aload_n 0, 1) := by decide +kernel
theorem d_A_add_1 : decode b_A_add 1 = .ok (.invokevirtual 22, 3) := by decide +kernel
theorem d_A_add_4 : decode b_A_add 4 = .ok (.ifCond .eq 4, 3) := by decide +kernel
theorem d_A_add_7 : decode b_A_add 7 = .ok (.return_, 1) := by decide +kernel
theorem d_A_add_8 : decode b_A_add 8 = .ok (.aload_n 0, 1) := by decide +kernel
theorem d_A_add_9 : decode b_A_add 9 = .ok (.getfield 11, 3) := by decide +kernel
theorem d_A_add_12 : decode b_A_add 12 = .ok (.aload_n 0, 1) := by decide +kernel
theorem d_A_add_13 : decode b_A_add 13 = .ok (.getfield 18, 3) := by decide +kernel
theorem d_A_add_16 : decode b_A_add 16 = .ok (.aaload, 1) := by decide +kernel
theorem d_A_add_17 : decode b_A_add 17 = .ok (.astore 5, 2) := by decide +kernel
theorem d_A_add_19 : decode b_A_add 19 = .ok (.aload 5, 2) := by decide +kernel
theorem d_A_add_21 : decode b_A_add 21 = .ok (.iload_n 1, 1) := by decide +kernel
theorem d_A_add_22 : decode b_A_add 22 = .ok (.putfield 26, 3) := by decide +kernel
theorem d_A_add_25 : decode b_A_add 25 = .ok (.aload 5, 2) := by decide +kernel
theorem d_A_add_27 : decode b_A_add 27 = .ok (.iload_n 2, 1) := by decide +kernel
theorem d_A_add_28 : decode b_A_add 28 = .ok (.putfield 29, 3) := by decide +kernel
theorem d_A_add_31 : decode b_A_add 31 = .ok (.aload 5, 2) := by decide +kernel
theorem d_A_add_33 : decode b_A_add 33 = .ok (.iload_n 3, 1) := by decide +kernel
theorem d_A_add_34 : decode b_A_add 34 = .ok (.putfield 32, 3) := by decide +kernel
theorem d_A_add_37 : decode b_A_add 37 = .ok (.aload 5, 2) := by decide +kernel
theorem d_A_add_39 : decode b_A_add 39 = .ok (.iload 4, 2) := by decide +kernel
theorem d_A_add_41 : decode b_A_add 41 = .ok (.putfield 35, 3) := by decide +kernel
theorem d_A_add_44 : decode b_A_add 44 = .ok (.aload_n 0, 1) := by decide +kernel
theorem d_A_add_45 : decode b_A_add 45 = .ok (.dup, 1) := by decide +kernel
theorem d_A_add_46 : decode b_A_add 46 = .ok (.getfield 18, 3) := by decide +kernel
theorem d_A_add_49 : decode b_A_add 49 = .ok (.iconst 1, 1) := by decide +kernel
theorem d_A_add_50 : decode b_A_add 50 = .ok (.iadd, 1) := by decide +kernel
theorem d_A_add_51 : decode b_A_add 51 = .ok (.putfield 18, 3) := by decide +kernel
theorem d_A_add_54 : decode b_A_add 54 = .ok (.return_, 1) := by decide +kernel
theorem d_X_table_0 : decode b_X_table 0 = .ok (.aload_n 0, 1) := by decide +kernel
theorem d_X_table_1 : decode b_X_table 1 = .ok (.iload_n 1, 1) := by decide +kernel
theorem d_X_table_2 : decode b_X_table 2 = .ok (.iload_n 2, 1) := by decide +kernel
theorem d_X_table_3 : decode b_X_table 3 = .ok (.invokevirtual 121, 3) := by decide +kernel
theorem d_X_table_6 : decode b_X_table 6 = .ok (.ifCond .eq 14, 3) := by decide +kernel
theorem d_X_table_9 : decode b_X_table 9 = .ok (.aload_n 0, 1) := by decide +kernel
theorem d_X_table_10 : decode b_X_table 10 = .ok (.iload 4, 2) := by decide +kernel
theorem d_X_table_12 : decode b_X_table 12 = .ok (.iload 5, 2) := by decide +kernel
theorem d_X_table_14 : decode b_X_table 14 = .ok (.invokevirtual 125, 3) := by decide +kernel
theorem d_X_table_17 : decode b_X_table 17 = .ok (.ifCond .ne 13, 3) := by decide +kernel
theorem d_X_table_20 : decode b_X_table 20 = .ok (.new 90, 3) := by decide +kernel
theorem d_X_table_23 : decode b_X_table 23 = .ok (.dup, 1) := by decide +kernel
theorem d_X_table_24 : decode b_X_table 24 = .ok (.ldc 128, 2) := by decide +kernel
theorem d_X_table_26 : decode b_X_table 26 = .ok (.invokespecial 94, 3) := by decide +kernel
theorem d_X_table_29 : decode b_X_table 29 = .ok (.athrow, 1) := by decide +kernel
theorem d_X_table_30 : decode b_X_table 30 = .ok (.iload_n 3, 1) := by decide +kernel
theorem d_X_table_31 : decode b_X_table 31 = .ok (.iload_n 2, 1) := by decide +kernel
theorem d_X_table_32 : decode b_X_table 32 = .ok (.invokestatic 130, 3) := by decide +kernel
theorem d_X_table_35 : decode b_X_table 35 = .ok (.ifCond .ne 13, 3) := by decide +kernel
theorem d_X_table_38 : decode b_X_table 38 = .ok (.new 66, 3) := by decide +kernel
theorem d_X_table_41 : decode b_X_table 41 = .ok (.dup, 1) := by decide +kernel
theorem d_X_table_42 : decode b_X_table 42 = .ok (.ldc 133, 2) := by decide +kernel
theorem d_X_table_44 : decode b_X_table 44 = .ok (.invokespecial 70, 3) := by decide +kernel
theorem d_X_table_47 : decode b_X_table 47 = .ok (.athrow, 1) := by decide +kernel
theorem d_X_table_48 : decode b_X_table 48 = .ok (.aload_n 0, 1) := by decide +kernel
theorem d_X_table_49 : decode b_X_table 49 = .ok (.getfield 52, 3) := by decide +kernel
theorem d_X_table_52 : decode b_X_table 52 = .ok (.bipush 8, 2) := by decide +kernel
theorem d_X_table_54 : decode b_X_table 54 = .ok (.if_icmp .lt 13, 3) := by decide +kernel
theorem d_X_table_57 : decode b_X_table 57 = .ok (.new 77, 3) := by decide +kernel
theorem d_X_table_60 : decode b_X_table 60 = .ok (.dup, 1) := by decide +kernel
theorem d_X_table_61 : decode b_X_table 61 = .ok (.ldc 135, 2) := by decide +kernel
theorem d_X_table_63 : decode b_X_table 63 = .ok (.invokespecial 81, 3) := by decide +kernel
theorem d_X_table_66 : decode b_X_table 66 = .ok (.athrow, 1) := by decide +kernel
theorem d_X_table_67 : decode b_X_table 67 = .ok (.aload_n 0, 1) := by decide +kernel
theorem d_X_table_68 : decode b_X_table 68 = .ok (.getfield 52, 3) := by decide +kernel
theorem d_X_table_71 : decode b_X_table 71 = .ok (.istore 6, 2) := by decide +kernel
theorem d_X_table_73 : decode b_X_table 73 = .ok (.aload_n 0, 1) := by decide +kernel
theorem d_X_table_74 : decode b_X_table 74 = .ok (.getfield 31, 3) := by decide +kernel
theorem d_X_table_77 : decode b_X_table 77 = .ok (.iload 6, 2) := by decide +kernel
theorem d_X_table_79 : decode b_X_table 79 = .ok (.aaload, 1) := by decide +kernel
theorem d_X_table_80 : decode b_X_table 80 = .ok (.astore 7, 2) := by decide +kernel
theorem d_X_table_82 : decode b_X_table 82 = .ok (.aload 7, 2) := by decide +kernel
theorem d_X_table_84 : decode b_X_table 84 = .ok (.iload_n 1, 1) := by decide +kernel
theorem d_X_table_85 : decode b_X_table 85 = .ok (.iload_n 2, 1) := by decide +kernel
theorem d_X_table_86 : decode b_X_table 86 = .ok (.iload_n 3, 1) := by decide +kernel
theorem d_X_table_87 : decode b_X_table 87 = .ok (.iconst 3, 1) := by decide +kernel
theorem d_X_table_88 : decode b_X_table 88 = .ok (.iand, 1) := by decide +kernel
theorem d_X_table_89 : decode b_X_table 89 = .ok (.iload_n 3, 1) := by decide +kernel
theorem d_X_table_90 : decode b_X_table 90 = .ok (.iconst 2, 1) := by decide +kernel
theorem d_X_table_91 : decode b_X_table 91 = .ok (.ishr, 1) := by decide +kernel
theorem d_X_table_92 : decode b_X_table 92 = .ok (.invokevirtual 137, 3) := by decide +kernel
theorem d_X_table_95 : decode b_X_table 95 = .ok (.aload 7, 2) := by decide +kernel
theorem d_X_table_97 : decode b_X_table 97 = .ok (.aload_n 0, 1) := by decide +kernel
theorem d_X_table_98 : decode b_X_table 98 = .ok (.getfield 10, 3) := by decide +kernel
theorem d_X_table_101 : decode b_X_table 101 = .ok (.iload_n 1, 1) := by decide +kernel
theorem d_X_table_102 : decode b_X_table 102 = .ok (.invokevirtual 140, 3) := by decide +kernel
theorem d_X_table_105 : decode b_X_table 105 = .ok (.aload_n 0, 1) := by decide +kernel
theorem d_X_table_106 : decode b_X_table 106 = .ok (.getfield 10, 3) := by decide +kernel
theorem d_X_table_109 : decode b_X_table 109 = .ok (.iload_n 2, 1) := by decide +kernel
theorem d_X_table_110 : decode b_X_table 110 = .ok (.invokevirtual 140, 3) := by decide +kernel
theorem d_X_table_113 : decode b_X_table 113 = .ok (.invokevirtual 143, 3) := by decide +kernel
theorem d_X_table_116 : decode b_X_table 116 = .ok (.aload 7, 2) := by decide +kernel
theorem d_X_table_118 : decode b_X_table 118 = .ok (.iload 4, 2) := by decide +kernel
theorem d_X_table_120 : decode b_X_table 120 = .ok (.iload 5, 2) := by decide +kernel
theorem d_X_table_122 : decode b_X_table 122 = .ok (.invokevirtual 146, 3) := by decide +kernel
theorem d_X_table_125 : decode b_X_table 125 = .ok (.aload_n 0, 1) := by decide +kernel
theorem d_X_table_126 : decode b_X_table 126 = .ok (.dup, 1) := by decide +kernel
theorem d_X_table_127 : decode b_X_table 127 = .ok (.getfield 52, 3) := by decide +kernel
theorem d_X_table_130 : decode b_X_table 130 = .ok (.iconst 1, 1) := by decide +kernel
theorem d_X_table_131 : decode b_X_table 131 = .ok (.iadd, 1) := by decide +kernel
theorem d_X_table_132 : decode b_X_table 132 = .ok (.putfield 52, 3) := by decide +kernel
theorem d_X_table_135 : decode b_X_table 135 = .ok (.iload 6, 2) := by decide +kernel
theorem d_X_table_137 : decode b_X_table 137 = .ok (.ireturn, 1) := by decide +kernel
theorem d_X_areKeyFields_0 : decode b_X_areKeyFields 0 = .ok (.aload_n 0, 1) := by decide +kernel
theorem d_X_areKeyFields_1 : decode b_X_areKeyFields 1 = .ok (.getfield 10, 3) := by decide +kernel
theorem d_X_areKeyFields_4 : decode b_X_areKeyFields 4 = .ok (.iload_n 1, 1) := by decide +kernel
theorem d_X_areKeyFields_5 : decode b_X_areKeyFields 5 = .ok (.invokevirtual 86, 3) := by decide +kernel
theorem d_X_areKeyFields_8 : decode b_X_areKeyFields 8 = .ok (.ifCond .eq 28, 3) := by decide +kernel
theorem d_X_areKeyFields_11 : decode b_X_areKeyFields 11 = .ok (.iload_n 2, 1) := by decide +kernel
theorem d_X_areKeyFields_12 : decode b_X_areKeyFields 12 = .ok (.iconst (-1), 1) := by decide +kernel
theorem d_X_areKeyFields_13 : decode b_X_areKeyFields 13 = .ok (.if_icmp .eq 19, 3) := by decide +kernel
theorem d_X_areKeyFields_16 : decode b_X_areKeyFields 16 = .ok (.aload_n 0, 1) := by decide +kernel
theorem d_X_areKeyFields_17 : decode b_X_areKeyFields 17 = .ok (.getfield 10, 3) := by decide +kernel
theorem d_X_areKeyFields_20 : decode b_X_areKeyFields 20 = .ok (.iload_n 2, 1) := by decide +kernel
theorem d_X_areKeyFields_21 : decode b_X_areKeyFields 21 = .ok (.invokevirtual 86, 3) := by decide +kernel
theorem d_X_areKeyFields_24 : decode b_X_areKeyFields 24 = .ok (.ifCond .eq 12, 3) := by decide +kernel
theorem d_X_areKeyFields_27 : decode b_X_areKeyFields 27 = .ok (.iload_n 1, 1) := by decide +kernel
theorem d_X_areKeyFields_28 : decode b_X_areKeyFields 28 = .ok (.iload_n 2, 1) := by decide +kernel
theorem d_X_areKeyFields_29 : decode b_X_areKeyFields 29 = .ok (.if_icmp .eq 7, 3) := by decide +kernel
theorem d_X_areKeyFields_32 : decode b_X_areKeyFields 32 = .ok (.iconst 1, 1) := by decide +kernel
theorem d_X_areKeyFields_33 : decode b_X_areKeyFields 33 = .ok (.goto 4, 3) := by decide +kernel
theorem d_X_areKeyFields_36 : decode b_X_areKeyFields 36 = .ok (.iconst 0, 1) := by decide +kernel
theorem d_X_areKeyFields_37 : decode b_X_areKeyFields 37 = .ok (.ireturn, 1) := by decide +kernel
theorem d_X_areActions_0 : decode b_X_areActions 0 = .ok (.iconst 1, 1) := by decide +kernel
theorem d_X_areActions_1 : decode b_X_areActions 1 = .ok (.aload_n 0, 1) := by decide +kernel
theorem d_X_areActions_2 : decode b_X_areActions 2 = .ok (.getfield 48, 3) := by decide +kernel
theorem d_X_areActions_5 : decode b_X_areActions 5 = .ok (.ishl, 1) := by decide +kernel
theorem d_X_areActions_6 : decode b_X_areActions 6 = .ok (.iconst 1, 1) := by decide +kernel
theorem d_X_areActions_7 : decode b_X_areActions 7 = .ok (.isub, 1) := by decide +kernel
theorem d_X_areActions_8 : decode b_X_areActions 8 = .ok (.istore_n 3, 1) := by decide +kernel
theorem d_X_areActions_9 : decode b_X_areActions 9 = .ok (.iload_n 1, 1) := by decide +kernel
theorem d_X_areActions_10 : decode b_X_areActions 10 = .ok (.iload_n 3, 1) := by decide +kernel
theorem d_X_areActions_11 : decode b_X_areActions 11 = .ok (.iconst (-1), 1) := by decide +kernel
theorem d_X_areActions_12 : decode b_X_areActions 12 = .ok (.ixor, 1) := by decide +kernel
theorem d_X_areActions_13 : decode b_X_areActions 13 = .ok (.iand, 1) := by decide +kernel
theorem d_X_areActions_14 : decode b_X_areActions 14 = .ok (.ifCond .ne 23, 3) := by decide +kernel
theorem d_X_areActions_17 : decode b_X_areActions 17 = .ok (.aload_n 0, 1) := by decide +kernel
theorem d_X_areActions_18 : decode b_X_areActions 18 = .ok (.iload_n 2, 1) := by decide +kernel
theorem d_X_areActions_19 : decode b_X_areActions 19 = .ok (.invokevirtual 107, 3) := by decide +kernel
theorem d_X_areActions_22 : decode b_X_areActions 22 = .ok (.ifCond .eq 15, 3) := by decide +kernel
theorem d_X_areActions_25 : decode b_X_areActions 25 = .ok (.iload_n 1, 1) := by decide +kernel
theorem d_X_areActions_26 : decode b_X_areActions 26 = .ok (.iload_n 2, 1) := by decide +kernel
theorem d_X_areActions_27 : decode b_X_areActions 27 = .ok (.ishr, 1) := by decide +kernel
theorem d_X_areActions_28 : decode b_X_areActions 28 = .ok (.iconst 1, 1) := by decide +kernel
theorem d_X_areActions_29 : decode b_X_areActions 29 = .ok (.iand, 1) := by decide +kernel
theorem d_X_areActions_30 : decode b_X_areActions 30 = .ok (.ifCond .eq 7, 3) := by decide +kernel
theorem d_X_areActions_33 : decode b_X_areActions 33 = .ok (.iconst 1, 1) := by decide +kernel
theorem d_X_areActions_34 : decode b_X_areActions 34 = .ok (.goto 4, 3) := by decide +kernel
theorem d_X_areActions_37 : decode b_X_areActions 37 = .ok (.iconst 0, 1) := by decide +kernel
theorem d_X_areActions_38 : decode b_X_areActions 38 = .ok (.ireturn, 1) := by decide +kernel
theorem d_X_isHow_0 : decode b_X_isHow 0 = .ok (.iload_n 0, 1) := by decide +kernel
theorem d_X_isHow_1 : decode b_X_isHow 1 = .ok (.iconst 3, 1) := by decide +kernel
theorem d_X_isHow_2 : decode b_X_isHow 2 = .ok (.iand, 1) := by decide +kernel
theorem d_X_isHow_3 : decode b_X_isHow 3 = .ok (.istore_n 2, 1) := by decide +kernel
theorem d_X_isHow_4 : decode b_X_isHow 4 = .ok (.iload_n 0, 1) := by decide +kernel
theorem d_X_isHow_5 : decode b_X_isHow 5 = .ok (.iconst 2, 1) := by decide +kernel
theorem d_X_isHow_6 : decode b_X_isHow 6 = .ok (.ishr, 1) := by decide +kernel
theorem d_X_isHow_7 : decode b_X_isHow 7 = .ok (.istore_n 3, 1) := by decide +kernel
theorem d_X_isHow_8 : decode b_X_isHow 8 = .ok (.iload_n 2, 1) := by decide +kernel
theorem d_X_isHow_9 : decode b_X_isHow 9 = .ok (.iconst 2, 1) := by decide +kernel
theorem d_X_isHow_10 : decode b_X_isHow 10 = .ok (.if_icmp .gt 12, 3) := by decide +kernel
theorem d_X_isHow_13 : decode b_X_isHow 13 = .ok (.iload_n 3, 1) := by decide +kernel
theorem d_X_isHow_14 : decode b_X_isHow 14 = .ok (.ifCond .lt 8, 3) := by decide +kernel
theorem d_X_isHow_17 : decode b_X_isHow 17 = .ok (.iload_n 3, 1) := by decide +kernel
theorem d_X_isHow_18 : decode b_X_isHow 18 = .ok (.iconst 2, 1) := by decide +kernel
theorem d_X_isHow_19 : decode b_X_isHow 19 = .ok (.if_icmp .le 5, 3) := by decide +kernel
theorem d_X_isHow_22 : decode b_X_isHow 22 = .ok (.iconst 0, 1) := by decide +kernel
theorem d_X_isHow_23 : decode b_X_isHow 23 = .ok (.ireturn, 1) := by decide +kernel
theorem d_X_isHow_24 : decode b_X_isHow 24 = .ok (.iload_n 1, 1) := by decide +kernel
theorem d_X_isHow_25 : decode b_X_isHow 25 = .ok (.iconst (-1), 1) := by decide +kernel
theorem d_X_isHow_26 : decode b_X_isHow 26 = .ok (.if_icmp .ne 13, 3) := by decide +kernel
theorem d_X_isHow_29 : decode b_X_isHow 29 = .ok (.iload_n 3, 1) := by decide +kernel
theorem d_X_isHow_30 : decode b_X_isHow 30 = .ok (.ifCond .ne 7, 3) := by decide +kernel
theorem d_X_isHow_33 : decode b_X_isHow 33 = .ok (.iconst 1, 1) := by decide +kernel
theorem d_X_isHow_34 : decode b_X_isHow 34 = .ok (.goto 4, 3) := by decide +kernel
theorem d_X_isHow_37 : decode b_X_isHow 37 = .ok (.iconst 0, 1) := by decide +kernel
theorem d_X_isHow_38 : decode b_X_isHow 38 = .ok (.ireturn, 1) := by decide +kernel
theorem d_X_isHow_39 : decode b_X_isHow 39 = .ok (.iload_n 2, 1) := by decide +kernel
theorem d_X_isHow_40 : decode b_X_isHow 40 = .ok (.iconst 1, 1) := by decide +kernel
theorem d_X_isHow_41 : decode b_X_isHow 41 = .ok (.if_icmp .ne 8, 3) := by decide +kernel
theorem d_X_isHow_44 : decode b_X_isHow 44 = .ok (.iload_n 3, 1) := by decide +kernel
theorem d_X_isHow_45 : decode b_X_isHow 45 = .ok (.iconst 1, 1) := by decide +kernel
theorem d_X_isHow_46 : decode b_X_isHow 46 = .ok (.if_icmp .eq 7, 3) := by decide +kernel
theorem d_X_isHow_49 : decode b_X_isHow 49 = .ok (.iconst 1, 1) := by decide +kernel
theorem d_X_isHow_50 : decode b_X_isHow 50 = .ok (.goto 4, 3) := by decide +kernel
theorem d_X_isHow_53 : decode b_X_isHow 53 = .ok (.iconst 0, 1) := by decide +kernel
theorem d_X_isHow_54 : decode b_X_isHow 54 = .ok (.ireturn, 1) := by decide +kernel
theorem d_T_matchKeys_0 : decode b_T_matchKeys 0 = .ok (.aload_n 0, 1) := by decide +kernel
theorem d_T_matchKeys_1 : decode b_T_matchKeys 1 = .ok (.iload_n 1, 1) := by decide +kernel
theorem d_T_matchKeys_2 : decode b_T_matchKeys 2 = .ok (.putfield 25, 3) := by decide +kernel
theorem d_T_matchKeys_5 : decode b_T_matchKeys 5 = .ok (.aload_n 0, 1) := by decide +kernel
theorem d_T_matchKeys_6 : decode b_T_matchKeys 6 = .ok (.iload_n 2, 1) := by decide +kernel
theorem d_T_matchKeys_7 : decode b_T_matchKeys 7 = .ok (.putfield 29, 3) := by decide +kernel
theorem d_T_matchKeys_10 : decode b_T_matchKeys 10 = .ok (.aload_n 0, 1) := by decide +kernel
theorem d_T_matchKeys_11 : decode b_T_matchKeys 11 = .ok (.iload_n 3, 1) := by decide +kernel
theorem d_T_matchKeys_12 : decode b_T_matchKeys 12 = .ok (.putfield 32, 3) := by decide +kernel
theorem d_T_matchKeys_15 : decode b_T_matchKeys 15 = .ok (.aload_n 0, 1) := by decide +kernel
theorem d_T_matchKeys_16 : decode b_T_matchKeys 16 = .ok (.iload 4, 2) := by decide +kernel
theorem d_T_matchKeys_18 : decode b_T_matchKeys 18 = .ok (.putfield 35, 3) := by decide +kernel
theorem d_T_matchKeys_21 : decode b_T_matchKeys 21 = .ok (.aload_n 0, 1) := by decide +kernel
theorem d_T_matchKeys_22 : decode b_T_matchKeys 22 = .ok (.iconst 0, 1) := by decide +kernel
theorem d_T_matchKeys_23 : decode b_T_matchKeys 23 = .ok (.putfield 38, 3) := by decide +kernel
theorem d_T_matchKeys_26 : decode b_T_matchKeys 26 = .ok (.return_, 1) := by decide +kernel
theorem d_F_onesOf_0 : decode b_F_onesOf 0 = .ok (.aload_n 0, 1) := by decide +kernel
theorem d_F_onesOf_1 : decode b_F_onesOf 1 = .ok (.iload_n 1, 1) := by decide +kernel
theorem d_F_onesOf_2 : decode b_F_onesOf 2 = .ok (.invokevirtual 26, 3) := by decide +kernel
theorem d_F_onesOf_5 : decode b_F_onesOf 5 = .ok (.ifCond .eq 12, 3) := by decide +kernel
theorem d_F_onesOf_8 : decode b_F_onesOf 8 = .ok (.aload_n 0, 1) := by decide +kernel
theorem d_F_onesOf_9 : decode b_F_onesOf 9 = .ok (.getfield 9, 3) := by decide +kernel
theorem d_F_onesOf_12 : decode b_F_onesOf 12 = .ok (.iload_n 1, 1) := by decide +kernel
theorem d_F_onesOf_13 : decode b_F_onesOf 13 = .ok (.iaload, 1) := by decide +kernel
theorem d_F_onesOf_14 : decode b_F_onesOf 14 = .ok (.goto 4, 3) := by decide +kernel
theorem d_F_onesOf_17 : decode b_F_onesOf 17 = .ok (.iconst 0, 1) := by decide +kernel
theorem d_F_onesOf_18 : decode b_F_onesOf 18 = .ok (.ireturn, 1) := by decide +kernel
theorem d_T_cutKeysTo_0 : decode b_T_cutKeysTo 0 = .ok (.aload_n 0, 1) := by decide +kernel
theorem d_T_cutKeysTo_1 : decode b_T_cutKeysTo 1 = .ok (.iload_n 1, 1) := by decide +kernel
theorem d_T_cutKeysTo_2 : decode b_T_cutKeysTo 2 = .ok (.putfield 41, 3) := by decide +kernel
theorem d_T_cutKeysTo_5 : decode b_T_cutKeysTo 5 = .ok (.aload_n 0, 1) := by decide +kernel
theorem d_T_cutKeysTo_6 : decode b_T_cutKeysTo 6 = .ok (.iload_n 2, 1) := by decide +kernel
theorem d_T_cutKeysTo_7 : decode b_T_cutKeysTo 7 = .ok (.putfield 44, 3) := by decide +kernel
theorem d_T_cutKeysTo_10 : decode b_T_cutKeysTo 10 = .ok (.return_, 1) := by decide +kernel
theorem d_T_allowActions_0 : decode b_T_allowActions 0 = .ok (.aload_n 0, 1) := by decide +kernel
theorem d_T_allowActions_1 : decode b_T_allowActions 1 = .ok (.iload_n 1, 1) := by decide +kernel
theorem d_T_allowActions_2 : decode b_T_allowActions 2 = .ok (.putfield 47, 3) := by decide +kernel
theorem d_T_allowActions_5 : decode b_T_allowActions 5 = .ok (.aload_n 0, 1) := by decide +kernel
theorem d_T_allowActions_6 : decode b_T_allowActions 6 = .ok (.iload_n 2, 1) := by decide +kernel
theorem d_T_allowActions_7 : decode b_T_allowActions 7 = .ok (.putfield 50, 3) := by decide +kernel
theorem d_T_allowActions_10 : decode b_T_allowActions 10 = .ok (.return_, 1) := by decide +kernel
theorem d_X_insert_0 : decode b_X_insert 0 = .ok (.aload_n 0, 1) := by decide +kernel
theorem d_X_insert_1 : decode b_X_insert 1 = .ok (.iload_n 1, 1) := by decide +kernel
theorem d_X_insert_2 : decode b_X_insert 2 = .ok (.invokevirtual 149, 3) := by decide +kernel
theorem d_X_insert_5 : decode b_X_insert 5 = .ok (.ifCond .ne 13, 3) := by decide +kernel
theorem d_X_insert_8 : decode b_X_insert 8 = .ok (.new 90, 3) := by decide +kernel
theorem d_X_insert_11 : decode b_X_insert 11 = .ok (.dup, 1) := by decide +kernel
theorem d_X_insert_12 : decode b_X_insert 12 = .ok (.ldc 152, 2) := by decide +kernel
theorem d_X_insert_14 : decode b_X_insert 14 = .ok (.invokespecial 94, 3) := by decide +kernel
theorem d_X_insert_17 : decode b_X_insert 17 = .ok (.athrow, 1) := by decide +kernel
theorem d_X_insert_18 : decode b_X_insert 18 = .ok (.aload_n 0, 1) := by decide +kernel
theorem d_X_insert_19 : decode b_X_insert 19 = .ok (.getfield 31, 3) := by decide +kernel
theorem d_X_insert_22 : decode b_X_insert 22 = .ok (.iload_n 1, 1) := by decide +kernel
theorem d_X_insert_23 : decode b_X_insert 23 = .ok (.aaload, 1) := by decide +kernel
theorem d_X_insert_24 : decode b_X_insert 24 = .ok (.aload_n 0, 1) := by decide +kernel
theorem d_X_insert_25 : decode b_X_insert 25 = .ok (.getfield 38, 3) := by decide +kernel
theorem d_X_insert_28 : decode b_X_insert 28 = .ok (.iload_n 2, 1) := by decide +kernel
theorem d_X_insert_29 : decode b_X_insert 29 = .ok (.iload_n 3, 1) := by decide +kernel
theorem d_X_insert_30 : decode b_X_insert 30 = .ok (.iload 4, 2) := by decide +kernel
theorem d_X_insert_32 : decode b_X_insert 32 = .ok (.iload 5, 2) := by decide +kernel
theorem d_X_insert_34 : decode b_X_insert 34 = .ok (.invokevirtual 154, 3) := by decide +kernel
theorem d_X_insert_37 : decode b_X_insert 37 = .ok (.ireturn, 1) := by decide +kernel
theorem d_T_takeIn_0 : decode b_T_takeIn 0 = .ok (.aload_n 0, 1) := by decide +kernel
theorem d_T_takeIn_1 : decode b_T_takeIn 1 = .ok (.aload_n 1, 1) := by decide +kernel
theorem d_T_takeIn_2 : decode b_T_takeIn 2 = .ok (.invokevirtual 53, 3) := by decide +kernel
theorem d_T_takeIn_5 : decode b_T_takeIn 5 = .ok (.aload_n 0, 1) := by decide +kernel
theorem d_T_takeIn_6 : decode b_T_takeIn 6 = .ok (.invokevirtual 57, 3) := by decide +kernel
theorem d_T_takeIn_9 : decode b_T_takeIn 9 = .ok (.ifCond .eq 28, 3) := by decide +kernel
theorem d_T_takeIn_12 : decode b_T_takeIn 12 = .ok (.aload_n 0, 1) := by decide +kernel
theorem d_T_takeIn_13 : decode b_T_takeIn 13 = .ok (.iload_n 3, 1) := by decide +kernel
theorem d_T_takeIn_14 : decode b_T_takeIn 14 = .ok (.invokevirtual 61, 3) := by decide +kernel
theorem d_T_takeIn_17 : decode b_T_takeIn 17 = .ok (.ifCond .eq 20, 3) := by decide +kernel
theorem d_T_takeIn_20 : decode b_T_takeIn 20 = .ok (.aload_n 0, 1) := by decide +kernel
theorem d_T_takeIn_21 : decode b_T_takeIn 21 = .ok (.invokevirtual 65, 3) := by decide +kernel
theorem d_T_takeIn_24 : decode b_T_takeIn 24 = .ok (.iconst (-1), 1) := by decide +kernel
theorem d_T_takeIn_25 : decode b_T_takeIn 25 = .ok (.if_icmp .ne 12, 3) := by decide +kernel
theorem d_T_takeIn_28 : decode b_T_takeIn 28 = .ok (.aload_n 0, 1) := by decide +kernel
theorem d_T_takeIn_29 : decode b_T_takeIn 29 = .ok (.getfield 38, 3) := by decide +kernel
theorem d_T_takeIn_32 : decode b_T_takeIn 32 = .ok (.bipush 20, 2) := by decide +kernel
theorem d_T_takeIn_34 : decode b_T_takeIn 34 = .ok (.if_icmp .lt 5, 3) := by decide +kernel
theorem d_T_takeIn_37 : decode b_T_takeIn 37 = .ok (.iconst 0, 1) := by decide +kernel
theorem d_T_takeIn_38 : decode b_T_takeIn 38 = .ok (.ireturn, 1) := by decide +kernel
theorem d_T_takeIn_39 : decode b_T_takeIn 39 = .ok (.aload_n 0, 1) := by decide +kernel
theorem d_T_takeIn_40 : decode b_T_takeIn 40 = .ok (.getfield 11, 3) := by decide +kernel
theorem d_T_takeIn_43 : decode b_T_takeIn 43 = .ok (.aload_n 0, 1) := by decide +kernel
theorem d_T_takeIn_44 : decode b_T_takeIn 44 = .ok (.getfield 38, 3) := by decide +kernel
theorem d_T_takeIn_47 : decode b_T_takeIn 47 = .ok (.aaload, 1) := by decide +kernel
theorem d_T_takeIn_48 : decode b_T_takeIn 48 = .ok (.astore 6, 2) := by decide +kernel
theorem d_T_takeIn_50 : decode b_T_takeIn 50 = .ok (.aload 6, 2) := by decide +kernel
theorem d_T_takeIn_52 : decode b_T_takeIn 52 = .ok (.getfield 69, 3) := by decide +kernel
theorem d_T_takeIn_55 : decode b_T_takeIn 55 = .ok (.aload_n 0, 1) := by decide +kernel
theorem d_T_takeIn_56 : decode b_T_takeIn 56 = .ok (.getfield 20, 3) := by decide +kernel
theorem d_T_takeIn_59 : decode b_T_takeIn 59 = .ok (.getfield 72, 3) := by decide +kernel
theorem d_T_takeIn_62 : decode b_T_takeIn 62 = .ok (.aload_n 0, 1) := by decide +kernel
theorem d_T_takeIn_63 : decode b_T_takeIn 63 = .ok (.getfield 20, 3) := by decide +kernel
theorem d_T_takeIn_66 : decode b_T_takeIn 66 = .ok (.getfield 75, 3) := by decide +kernel
theorem d_T_takeIn_69 : decode b_T_takeIn 69 = .ok (.aload_n 0, 1) := by decide +kernel
theorem d_T_takeIn_70 : decode b_T_takeIn 70 = .ok (.getfield 20, 3) := by decide +kernel
theorem d_T_takeIn_73 : decode b_T_takeIn 73 = .ok (.getfield 78, 3) := by decide +kernel
theorem d_T_takeIn_76 : decode b_T_takeIn 76 = .ok (.aload_n 0, 1) := by decide +kernel
theorem d_T_takeIn_77 : decode b_T_takeIn 77 = .ok (.getfield 20, 3) := by decide +kernel
theorem d_T_takeIn_80 : decode b_T_takeIn 80 = .ok (.getfield 81, 3) := by decide +kernel
theorem d_T_takeIn_83 : decode b_T_takeIn 83 = .ok (.invokevirtual 84, 3) := by decide +kernel
theorem d_T_takeIn_86 : decode b_T_takeIn 86 = .ok (.aload 6, 2) := by decide +kernel
theorem d_T_takeIn_88 : decode b_T_takeIn 88 = .ok (.iload_n 2, 1) := by decide +kernel
theorem d_T_takeIn_89 : decode b_T_takeIn 89 = .ok (.putfield 88, 3) := by decide +kernel
theorem d_T_takeIn_92 : decode b_T_takeIn 92 = .ok (.aload 6, 2) := by decide +kernel
theorem d_T_takeIn_94 : decode b_T_takeIn 94 = .ok (.iload_n 3, 1) := by decide +kernel
theorem d_T_takeIn_95 : decode b_T_takeIn 95 = .ok (.putfield 91, 3) := by decide +kernel
theorem d_T_takeIn_98 : decode b_T_takeIn 98 = .ok (.aload 6, 2) := by decide +kernel
theorem d_T_takeIn_100 : decode b_T_takeIn 100 = .ok (.iload 4, 2) := by decide +kernel
theorem d_T_takeIn_102 : decode b_T_takeIn 102 = .ok (.putfield 94, 3) := by decide +kernel
theorem d_T_takeIn_105 : decode b_T_takeIn 105 = .ok (.aload 6, 2) := by decide +kernel
theorem d_T_takeIn_107 : decode b_T_takeIn 107 = .ok (.iload 5, 2) := by decide +kernel
theorem d_T_takeIn_109 : decode b_T_takeIn 109 = .ok (.putfield 97, 3) := by decide +kernel
theorem d_T_takeIn_112 : decode b_T_takeIn 112 = .ok (.aload_n 0, 1) := by decide +kernel
theorem d_T_takeIn_113 : decode b_T_takeIn 113 = .ok (.dup, 1) := by decide +kernel
theorem d_T_takeIn_114 : decode b_T_takeIn 114 = .ok (.getfield 38, 3) := by decide +kernel
theorem d_T_takeIn_117 : decode b_T_takeIn 117 = .ok (.iconst 1, 1) := by decide +kernel
theorem d_T_takeIn_118 : decode b_T_takeIn 118 = .ok (.iadd, 1) := by decide +kernel
theorem d_T_takeIn_119 : decode b_T_takeIn 119 = .ok (.putfield 38, 3) := by decide +kernel
theorem d_T_takeIn_122 : decode b_T_takeIn 122 = .ok (.iconst 1, 1) := by decide +kernel
theorem d_T_takeIn_123 : decode b_T_takeIn 123 = .ok (.ireturn, 1) := by decide +kernel
theorem d_T_seek_0 : decode b_T_seek 0 = .ok (.aload_n 1, 1) := by decide +kernel
theorem d_T_seek_1 : decode b_T_seek 1 = .ok (.getfield 75, 3) := by decide +kernel
theorem d_T_seek_4 : decode b_T_seek 4 = .ok (.aload_n 0, 1) := by decide +kernel
theorem d_T_seek_5 : decode b_T_seek 5 = .ok (.getfield 41, 3) := by decide +kernel
theorem d_T_seek_8 : decode b_T_seek 8 = .ok (.iand, 1) := by decide +kernel
theorem d_T_seek_9 : decode b_T_seek 9 = .ok (.istore_n 2, 1) := by decide +kernel
theorem d_T_seek_10 : decode b_T_seek 10 = .ok (.aload_n 1, 1) := by decide +kernel
theorem d_T_seek_11 : decode b_T_seek 11 = .ok (.getfield 81, 3) := by decide +kernel
theorem d_T_seek_14 : decode b_T_seek 14 = .ok (.aload_n 0, 1) := by decide +kernel
theorem d_T_seek_15 : decode b_T_seek 15 = .ok (.getfield 44, 3) := by decide +kernel
theorem d_T_seek_18 : decode b_T_seek 18 = .ok (.iand, 1) := by decide +kernel
theorem d_T_seek_19 : decode b_T_seek 19 = .ok (.istore_n 3, 1) := by decide +kernel
theorem d_T_seek_20 : decode b_T_seek 20 = .ok (.aload_n 0, 1) := by decide +kernel
theorem d_T_seek_21 : decode b_T_seek 21 = .ok (.getfield 20, 3) := by decide +kernel
theorem d_T_seek_24 : decode b_T_seek 24 = .ok (.aload_n 1, 1) := by decide +kernel
theorem d_T_seek_25 : decode b_T_seek 25 = .ok (.getfield 72, 3) := by decide +kernel
theorem d_T_seek_28 : decode b_T_seek 28 = .ok (.iload_n 2, 1) := by decide +kernel
theorem d_T_seek_29 : decode b_T_seek 29 = .ok (.iand, 1) := by decide +kernel
theorem d_T_seek_30 : decode b_T_seek 30 = .ok (.iload_n 2, 1) := by decide +kernel
theorem d_T_seek_31 : decode b_T_seek 31 = .ok (.aload_n 1, 1) := by decide +kernel
theorem d_T_seek_32 : decode b_T_seek 32 = .ok (.getfield 78, 3) := by decide +kernel
theorem d_T_seek_35 : decode b_T_seek 35 = .ok (.iload_n 3, 1) := by decide +kernel
theorem d_T_seek_36 : decode b_T_seek 36 = .ok (.iand, 1) := by decide +kernel
theorem d_T_seek_37 : decode b_T_seek 37 = .ok (.iload_n 3, 1) := by decide +kernel
theorem d_T_seek_38 : decode b_T_seek 38 = .ok (.invokevirtual 84, 3) := by decide +kernel
theorem d_T_seek_41 : decode b_T_seek 41 = .ok (.return_, 1) := by decide +kernel
theorem d_T_areMasks_0 : decode b_T_areMasks 0 = .ok (.aload_n 0, 1) := by decide +kernel
theorem d_T_areMasks_1 : decode b_T_areMasks 1 = .ok (.getfield 32, 3) := by decide +kernel
theorem d_T_areMasks_4 : decode b_T_areMasks 4 = .ok (.aload_n 0, 1) := by decide +kernel
theorem d_T_areMasks_5 : decode b_T_areMasks 5 = .ok (.getfield 20, 3) := by decide +kernel
theorem d_T_areMasks_8 : decode b_T_areMasks 8 = .ok (.getfield 75, 3) := by decide +kernel
theorem d_T_areMasks_11 : decode b_T_areMasks 11 = .ok (.aload_n 0, 1) := by decide +kernel
theorem d_T_areMasks_12 : decode b_T_areMasks 12 = .ok (.getfield 41, 3) := by decide +kernel
theorem d_T_areMasks_15 : decode b_T_areMasks 15 = .ok (.invokestatic 127, 3) := by decide +kernel
theorem d_T_areMasks_18 : decode b_T_areMasks 18 = .ok (.ifCond .eq 28, 3) := by decide +kernel
theorem d_T_areMasks_21 : decode b_T_areMasks 21 = .ok (.aload_n 0, 1) := by decide +kernel
theorem d_T_areMasks_22 : decode b_T_areMasks 22 = .ok (.getfield 35, 3) := by decide +kernel
theorem d_T_areMasks_25 : decode b_T_areMasks 25 = .ok (.aload_n 0, 1) := by decide +kernel
theorem d_T_areMasks_26 : decode b_T_areMasks 26 = .ok (.getfield 20, 3) := by decide +kernel
theorem d_T_areMasks_29 : decode b_T_areMasks 29 = .ok (.getfield 81, 3) := by decide +kernel
theorem d_T_areMasks_32 : decode b_T_areMasks 32 = .ok (.aload_n 0, 1) := by decide +kernel
theorem d_T_areMasks_33 : decode b_T_areMasks 33 = .ok (.getfield 44, 3) := by decide +kernel
theorem d_T_areMasks_36 : decode b_T_areMasks 36 = .ok (.invokestatic 127, 3) := by decide +kernel
theorem d_T_areMasks_39 : decode b_T_areMasks 39 = .ok (.ifCond .eq 7, 3) := by decide +kernel
theorem d_T_areMasks_42 : decode b_T_areMasks 42 = .ok (.iconst 1, 1) := by decide +kernel
theorem d_T_areMasks_43 : decode b_T_areMasks 43 = .ok (.goto 4, 3) := by decide +kernel
theorem d_T_areMasks_46 : decode b_T_areMasks 46 = .ok (.iconst 0, 1) := by decide +kernel
theorem d_T_areMasks_47 : decode b_T_areMasks 47 = .ok (.ireturn, 1) := by decide +kernel
theorem d_T_isMask_0 : decode b_T_isMask 0 = .ok (.iload_n 1, 1) := by decide +kernel
theorem d_T_isMask_1 : decode b_T_isMask 1 = .ok (.iload_n 2, 1) := by decide +kernel
theorem d_T_isMask_2 : decode b_T_isMask 2 = .ok (.ixor, 1) := by decide +kernel
theorem d_T_isMask_3 : decode b_T_isMask 3 = .ok (.istore_n 3, 1) := by decide +kernel
theorem d_T_isMask_4 : decode b_T_isMask 4 = .ok (.iload_n 0, 1) := by decide +kernel
theorem d_T_isMask_5 : decode b_T_isMask 5 = .ok (.ifCond .ne 13, 3) := by decide +kernel
theorem d_T_isMask_8 : decode b_T_isMask 8 = .ok (.iload_n 3, 1) := by decide +kernel
theorem d_T_isMask_9 : decode b_T_isMask 9 = .ok (.ifCond .ne 7, 3) := by decide +kernel
theorem d_T_isMask_12 : decode b_T_isMask 12 = .ok (.iconst 1, 1) := by decide +kernel
theorem d_T_isMask_13 : decode b_T_isMask 13 = .ok (.goto 4, 3) := by decide +kernel
theorem d_T_isMask_16 : decode b_T_isMask 16 = .ok (.iconst 0, 1) := by decide +kernel
theorem d_T_isMask_17 : decode b_T_isMask 17 = .ok (.ireturn, 1) := by decide +kernel
theorem d_T_isMask_18 : decode b_T_isMask 18 = .ok (.iload_n 0, 1) := by decide +kernel
theorem d_T_isMask_19 : decode b_T_isMask 19 = .ok (.iconst 1, 1) := by decide +kernel
theorem d_T_isMask_20 : decode b_T_isMask 20 = .ok (.if_icmp .ne 11, 3) := by decide +kernel
theorem d_T_isMask_23 : decode b_T_isMask 23 = .ok (.iload_n 3, 1) := by decide +kernel
theorem d_T_isMask_24 : decode b_T_isMask 24 = .ok (.iload_n 3, 1) := by decide +kernel
theorem d_T_isMask_25 : decode b_T_isMask 25 = .ok (.iconst 1, 1) := by decide +kernel
theorem d_T_isMask_26 : decode b_T_isMask 26 = .ok (.iadd, 1) := by decide +kernel
theorem d_T_isMask_27 : decode b_T_isMask 27 = .ok (.iand, 1) := by decide +kernel
theorem d_T_isMask_28 : decode b_T_isMask 28 = .ok (.ifCond .ne 7, 3) := by decide +kernel
theorem d_T_isMask_31 : decode b_T_isMask 31 = .ok (.iconst 1, 1) := by decide +kernel
theorem d_T_isMask_32 : decode b_T_isMask 32 = .ok (.goto 4, 3) := by decide +kernel
theorem d_T_isMask_35 : decode b_T_isMask 35 = .ok (.iconst 0, 1) := by decide +kernel
theorem d_T_isMask_36 : decode b_T_isMask 36 = .ok (.ireturn, 1) := by decide +kernel
theorem d_T_isAllowed_0 : decode b_T_isAllowed 0 = .ok (.iload_n 1, 1) := by decide +kernel
theorem d_T_isAllowed_1 : decode b_T_isAllowed 1 = .ok (.ifCond .lt 24, 3) := by decide +kernel
theorem d_T_isAllowed_4 : decode b_T_isAllowed 4 = .ok (.iload_n 1, 1) := by decide +kernel
theorem d_T_isAllowed_5 : decode b_T_isAllowed 5 = .ok (.bipush 16, 2) := by decide +kernel
theorem d_T_isAllowed_7 : decode b_T_isAllowed 7 = .ok (.if_icmp .ge 18, 3) := by decide +kernel
theorem d_T_isAllowed_10 : decode b_T_isAllowed 10 = .ok (.aload_n 0, 1) := by decide +kernel
theorem d_T_isAllowed_11 : decode b_T_isAllowed 11 = .ok (.getfield 47, 3) := by decide +kernel
theorem d_T_isAllowed_14 : decode b_T_isAllowed 14 = .ok (.iload_n 1, 1) := by decide +kernel
theorem d_T_isAllowed_15 : decode b_T_isAllowed 15 = .ok (.ishr, 1) := by decide +kernel
theorem d_T_isAllowed_16 : decode b_T_isAllowed 16 = .ok (.iconst 1, 1) := by decide +kernel
theorem d_T_isAllowed_17 : decode b_T_isAllowed 17 = .ok (.iand, 1) := by decide +kernel
theorem d_T_isAllowed_18 : decode b_T_isAllowed 18 = .ok (.ifCond .eq 7, 3) := by decide +kernel
theorem d_T_isAllowed_21 : decode b_T_isAllowed 21 = .ok (.iconst 1, 1) := by decide +kernel
theorem d_T_isAllowed_22 : decode b_T_isAllowed 22 = .ok (.goto 4, 3) := by decide +kernel
theorem d_T_isAllowed_25 : decode b_T_isAllowed 25 = .ok (.iconst 0, 1) := by decide +kernel
theorem d_T_isAllowed_26 : decode b_T_isAllowed 26 = .ok (.ireturn, 1) := by decide +kernel
theorem d_T_rowOfSought_0 : decode b_T_rowOfSought 0 = .ok (.iconst 0, 1) := by decide +kernel
theorem d_T_rowOfSought_1 : decode b_T_rowOfSought 1 = .ok (.istore_n 1, 1) := by decide +kernel
theorem d_T_rowOfSought_2 : decode b_T_rowOfSought 2 = .ok (.iload_n 1, 1) := by decide +kernel
theorem d_T_rowOfSought_3 : decode b_T_rowOfSought 3 = .ok (.aload_n 0, 1) := by decide +kernel
theorem d_T_rowOfSought_4 : decode b_T_rowOfSought 4 = .ok (.getfield 38, 3) := by decide +kernel
theorem d_T_rowOfSought_7 : decode b_T_rowOfSought 7 = .ok (.if_icmp .ge 30, 3) := by decide +kernel
theorem d_T_rowOfSought_10 : decode b_T_rowOfSought 10 = .ok (.aload_n 0, 1) := by decide +kernel
theorem d_T_rowOfSought_11 : decode b_T_rowOfSought 11 = .ok (.getfield 11, 3) := by decide +kernel
theorem d_T_rowOfSought_14 : decode b_T_rowOfSought 14 = .ok (.iload_n 1, 1) := by decide +kernel
theorem d_T_rowOfSought_15 : decode b_T_rowOfSought 15 = .ok (.aaload, 1) := by decide +kernel
theorem d_T_rowOfSought_16 : decode b_T_rowOfSought 16 = .ok (.getfield 69, 3) := by decide +kernel
theorem d_T_rowOfSought_19 : decode b_T_rowOfSought 19 = .ok (.aload_n 0, 1) := by decide +kernel
theorem d_T_rowOfSought_20 : decode b_T_rowOfSought 20 = .ok (.getfield 20, 3) := by decide +kernel
theorem d_T_rowOfSought_23 : decode b_T_rowOfSought 23 = .ok (.invokevirtual 123, 3) := by decide +kernel
theorem d_T_rowOfSought_26 : decode b_T_rowOfSought 26 = .ok (.ifCond .eq 5, 3) := by decide +kernel
theorem d_T_rowOfSought_29 : decode b_T_rowOfSought 29 = .ok (.iload_n 1, 1) := by decide +kernel
theorem d_T_rowOfSought_30 : decode b_T_rowOfSought 30 = .ok (.ireturn, 1) := by decide +kernel
theorem d_T_rowOfSought_31 : decode b_T_rowOfSought 31 = .ok (.iinc 1 1, 3) := by decide +kernel
theorem d_T_rowOfSought_34 : decode b_T_rowOfSought 34 = .ok (.goto (-32), 3) := by decide +kernel
theorem d_T_rowOfSought_37 : decode b_T_rowOfSought 37 = .ok (.iconst (-1), 1) := by decide +kernel
theorem d_T_rowOfSought_38 : decode b_T_rowOfSought 38 = .ok (.ireturn, 1) := by decide +kernel
theorem d_K_isSameAs_0 : decode b_K_isSameAs 0 = .ok (.aload_n 0, 1) := by decide +kernel
theorem d_K_isSameAs_1 : decode b_K_isSameAs 1 = .ok (.getfield 7, 3) := by decide +kernel
theorem d_K_isSameAs_4 : decode b_K_isSameAs 4 = .ok (.aload_n 1, 1) := by decide +kernel
theorem d_K_isSameAs_5 : decode b_K_isSameAs 5 = .ok (.getfield 7, 3) := by decide +kernel
theorem d_K_isSameAs_8 : decode b_K_isSameAs 8 = .ok (.if_icmp .ne 40, 3) := by decide +kernel
theorem d_K_isSameAs_11 : decode b_K_isSameAs 11 = .ok (.aload_n 0, 1) := by decide +kernel
theorem d_K_isSameAs_12 : decode b_K_isSameAs 12 = .ok (.getfield 13, 3) := by decide +kernel
theorem d_K_isSameAs_15 : decode b_K_isSameAs 15 = .ok (.aload_n 1, 1) := by decide +kernel
theorem d_K_isSameAs_16 : decode b_K_isSameAs 16 = .ok (.getfield 13, 3) := by decide +kernel
theorem d_K_isSameAs_19 : decode b_K_isSameAs 19 = .ok (.if_icmp .ne 29, 3) := by decide +kernel
theorem d_K_isSameAs_22 : decode b_K_isSameAs 22 = .ok (.aload_n 0, 1) := by decide +kernel
theorem d_K_isSameAs_23 : decode b_K_isSameAs 23 = .ok (.getfield 16, 3) := by decide +kernel
theorem d_K_isSameAs_26 : decode b_K_isSameAs 26 = .ok (.aload_n 1, 1) := by decide +kernel
theorem d_K_isSameAs_27 : decode b_K_isSameAs 27 = .ok (.getfield 16, 3) := by decide +kernel
theorem d_K_isSameAs_30 : decode b_K_isSameAs 30 = .ok (.if_icmp .ne 18, 3) := by decide +kernel
theorem d_K_isSameAs_33 : decode b_K_isSameAs 33 = .ok (.aload_n 0, 1) := by decide +kernel
theorem d_K_isSameAs_34 : decode b_K_isSameAs 34 = .ok (.getfield 19, 3) := by decide +kernel
theorem d_K_isSameAs_37 : decode b_K_isSameAs 37 = .ok (.aload_n 1, 1) := by decide +kernel
theorem d_K_isSameAs_38 : decode b_K_isSameAs 38 = .ok (.getfield 19, 3) := by decide +kernel
theorem d_K_isSameAs_41 : decode b_K_isSameAs 41 = .ok (.if_icmp .ne 7, 3) := by decide +kernel
theorem d_K_isSameAs_44 : decode b_K_isSameAs 44 = .ok (.iconst 1, 1) := by decide +kernel
theorem d_K_isSameAs_45 : decode b_K_isSameAs 45 = .ok (.goto 4, 3) := by decide +kernel
theorem d_K_isSameAs_48 : decode b_K_isSameAs 48 = .ok (.iconst 0, 1) := by decide +kernel
theorem d_K_isSameAs_49 : decode b_K_isSameAs 49 = .ok (.ireturn, 1) := by decide +kernel
theorem d_X_remove_0 : decode b_X_remove 0 = .ok (.aload_n 0, 1) := by decide +kernel
theorem d_X_remove_1 : decode b_X_remove 1 = .ok (.iload_n 1, 1) := by decide +kernel
theorem d_X_remove_2 : decode b_X_remove 2 = .ok (.invokevirtual 149, 3) := by decide +kernel
theorem d_X_remove_5 : decode b_X_remove 5 = .ok (.ifCond .ne 13, 3) := by decide +kernel
theorem d_X_remove_8 : decode b_X_remove 8 = .ok (.new 90, 3) := by decide +kernel
theorem d_X_remove_11 : decode b_X_remove 11 = .ok (.dup, 1) := by decide +kernel
theorem d_X_remove_12 : decode b_X_remove 12 = .ok (.ldc 152, 2) := by decide +kernel
theorem d_X_remove_14 : decode b_X_remove 14 = .ok (.invokespecial 94, 3) := by decide +kernel
theorem d_X_remove_17 : decode b_X_remove 17 = .ok (.athrow, 1) := by decide +kernel
theorem d_X_remove_18 : decode b_X_remove 18 = .ok (.aload_n 0, 1) := by decide +kernel
theorem d_X_remove_19 : decode b_X_remove 19 = .ok (.getfield 31, 3) := by decide +kernel
theorem d_X_remove_22 : decode b_X_remove 22 = .ok (.iload_n 1, 1) := by decide +kernel
theorem d_X_remove_23 : decode b_X_remove 23 = .ok (.aaload, 1) := by decide +kernel
theorem d_X_remove_24 : decode b_X_remove 24 = .ok (.aload_n 0, 1) := by decide +kernel
theorem d_X_remove_25 : decode b_X_remove 25 = .ok (.getfield 38, 3) := by decide +kernel
theorem d_X_remove_28 : decode b_X_remove 28 = .ok (.invokevirtual 158, 3) := by decide +kernel
theorem d_X_remove_31 : decode b_X_remove 31 = .ok (.ireturn, 1) := by decide +kernel
theorem d_T_takeOut_0 : decode b_T_takeOut 0 = .ok (.aload_n 0, 1) := by decide +kernel
theorem d_T_takeOut_1 : decode b_T_takeOut 1 = .ok (.aload_n 1, 1) := by decide +kernel
theorem d_T_takeOut_2 : decode b_T_takeOut 2 = .ok (.invokevirtual 53, 3) := by decide +kernel
theorem d_T_takeOut_5 : decode b_T_takeOut 5 = .ok (.aload_n 0, 1) := by decide +kernel
theorem d_T_takeOut_6 : decode b_T_takeOut 6 = .ok (.invokevirtual 65, 3) := by decide +kernel
theorem d_T_takeOut_9 : decode b_T_takeOut 9 = .ok (.istore_n 2, 1) := by decide +kernel
theorem d_T_takeOut_10 : decode b_T_takeOut 10 = .ok (.iload_n 2, 1) := by decide +kernel
theorem d_T_takeOut_11 : decode b_T_takeOut 11 = .ok (.ifCond .lt 11, 3) := by decide +kernel
theorem d_T_takeOut_14 : decode b_T_takeOut 14 = .ok (.iload_n 2, 1) := by decide +kernel
theorem d_T_takeOut_15 : decode b_T_takeOut 15 = .ok (.aload_n 0, 1) := by decide +kernel
theorem d_T_takeOut_16 : decode b_T_takeOut 16 = .ok (.getfield 38, 3) := by decide +kernel
theorem d_T_takeOut_19 : decode b_T_takeOut 19 = .ok (.if_icmp .lt 5, 3) := by decide +kernel
theorem d_T_takeOut_22 : decode b_T_takeOut 22 = .ok (.iconst 0, 1) := by decide +kernel
theorem d_T_takeOut_23 : decode b_T_takeOut 23 = .ok (.ireturn, 1) := by decide +kernel
theorem d_T_takeOut_24 : decode b_T_takeOut 24 = .ok (.aload_n 0, 1) := by decide +kernel
theorem d_T_takeOut_25 : decode b_T_takeOut 25 = .ok (.getfield 11, 3) := by decide +kernel
theorem d_T_takeOut_28 : decode b_T_takeOut 28 = .ok (.iload_n 2, 1) := by decide +kernel
theorem d_T_takeOut_29 : decode b_T_takeOut 29 = .ok (.aaload, 1) := by decide +kernel
theorem d_T_takeOut_30 : decode b_T_takeOut 30 = .ok (.astore_n 3, 1) := by decide +kernel
theorem d_T_takeOut_31 : decode b_T_takeOut 31 = .ok (.iload_n 2, 1) := by decide +kernel
theorem d_T_takeOut_32 : decode b_T_takeOut 32 = .ok (.iconst 1, 1) := by decide +kernel
theorem d_T_takeOut_33 : decode b_T_takeOut 33 = .ok (.iadd, 1) := by decide +kernel
theorem d_T_takeOut_34 : decode b_T_takeOut 34 = .ok (.istore 4, 2) := by decide +kernel
theorem d_T_takeOut_36 : decode b_T_takeOut 36 = .ok (.iload 4, 2) := by decide +kernel
theorem d_T_takeOut_38 : decode b_T_takeOut 38 = .ok (.aload_n 0, 1) := by decide +kernel
theorem d_T_takeOut_39 : decode b_T_takeOut 39 = .ok (.getfield 38, 3) := by decide +kernel
theorem d_T_takeOut_42 : decode b_T_takeOut 42 = .ok (.if_icmp .ge 25, 3) := by decide +kernel
theorem d_T_takeOut_45 : decode b_T_takeOut 45 = .ok (.aload_n 0, 1) := by decide +kernel
theorem d_T_takeOut_46 : decode b_T_takeOut 46 = .ok (.getfield 11, 3) := by decide +kernel
theorem d_T_takeOut_49 : decode b_T_takeOut 49 = .ok (.iload 4, 2) := by decide +kernel
theorem d_T_takeOut_51 : decode b_T_takeOut 51 = .ok (.iconst 1, 1) := by decide +kernel
theorem d_T_takeOut_52 : decode b_T_takeOut 52 = .ok (.isub, 1) := by decide +kernel
theorem d_T_takeOut_53 : decode b_T_takeOut 53 = .ok (.aload_n 0, 1) := by decide +kernel
theorem d_T_takeOut_54 : decode b_T_takeOut 54 = .ok (.getfield 11, 3) := by decide +kernel
theorem d_T_takeOut_57 : decode b_T_takeOut 57 = .ok (.iload 4, 2) := by decide +kernel
theorem d_T_takeOut_59 : decode b_T_takeOut 59 = .ok (.aaload, 1) := by decide +kernel
theorem d_T_takeOut_60 : decode b_T_takeOut 60 = .ok (.aastore, 1) := by decide +kernel
theorem d_T_takeOut_61 : decode b_T_takeOut 61 = .ok (.iinc 4 1, 3) := by decide +kernel
theorem d_T_takeOut_64 : decode b_T_takeOut 64 = .ok (.goto (-28), 3) := by decide +kernel
theorem d_T_takeOut_67 : decode b_T_takeOut 67 = .ok (.aload_n 0, 1) := by decide +kernel
theorem d_T_takeOut_68 : decode b_T_takeOut 68 = .ok (.dup, 1) := by decide +kernel
theorem d_T_takeOut_69 : decode b_T_takeOut 69 = .ok (.getfield 38, 3) := by decide +kernel
theorem d_T_takeOut_72 : decode b_T_takeOut 72 = .ok (.iconst 1, 1) := by decide +kernel
theorem d_T_takeOut_73 : decode b_T_takeOut 73 = .ok (.isub, 1) := by decide +kernel
theorem d_T_takeOut_74 : decode b_T_takeOut 74 = .ok (.putfield 38, 3) := by decide +kernel
theorem d_T_takeOut_77 : decode b_T_takeOut 77 = .ok (.aload_n 0, 1) := by decide +kernel
theorem d_T_takeOut_78 : decode b_T_takeOut 78 = .ok (.getfield 11, 3) := by decide +kernel
theorem d_T_takeOut_81 : decode b_T_takeOut 81 = .ok (.aload_n 0, 1) := by decide +kernel
theorem d_T_takeOut_82 : decode b_T_takeOut 82 = .ok (.getfield 38, 3) := by decide +kernel
theorem d_T_takeOut_85 : decode b_T_takeOut 85 = .ok (.aload_n 3, 1) := by decide +kernel
theorem d_T_takeOut_86 : decode b_T_takeOut 86 = .ok (.aastore, 1) := by decide +kernel
theorem d_T_takeOut_87 : decode b_T_takeOut 87 = .ok (.iconst 1, 1) := by decide +kernel
theorem d_T_takeOut_88 : decode b_T_takeOut 88 = .ok (.ireturn, 1) := by decide +kernel
theorem d_X_act_0 : decode b_X_act 0 = .ok (.aload_n 0, 1) := by decide +kernel
theorem d_X_act_1 : decode b_X_act 1 = .ok (.iload_n 1, 1) := by decide +kernel
theorem d_X_act_2 : decode b_X_act 2 = .ok (.invokevirtual 149, 3) := by decide +kernel
theorem d_X_act_5 : decode b_X_act 5 = .ok (.ifCond .ne 13, 3) := by decide +kernel
theorem d_X_act_8 : decode b_X_act 8 = .ok (.new 90, 3) := by decide +kernel
theorem d_X_act_11 : decode b_X_act 11 = .ok (.dup, 1) := by decide +kernel
theorem d_X_act_12 : decode b_X_act 12 = .ok (.ldc 152, 2) := by decide +kernel
theorem d_X_act_14 : decode b_X_act 14 = .ok (.invokespecial 94, 3) := by decide +kernel
theorem d_X_act_17 : decode b_X_act 17 = .ok (.athrow, 1) := by decide +kernel
theorem d_X_act_18 : decode b_X_act 18 = .ok (.aload_n 0, 1) := by decide +kernel
theorem d_X_act_19 : decode b_X_act 19 = .ok (.iconst 0, 1) := by decide +kernel
theorem d_X_act_20 : decode b_X_act 20 = .ok (.putfield 59, 3) := by decide +kernel
theorem d_X_act_23 : decode b_X_act 23 = .ok (.aload_n 0, 1) := by decide +kernel
theorem d_X_act_24 : decode b_X_act 24 = .ok (.iconst 0, 1) := by decide +kernel
theorem d_X_act_25 : decode b_X_act 25 = .ok (.putfield 62, 3) := by decide +kernel
theorem d_X_act_28 : decode b_X_act 28 = .ok (.aload_n 0, 1) := by decide +kernel
theorem d_X_act_29 : decode b_X_act 29 = .ok (.getfield 31, 3) := by decide +kernel
theorem d_X_act_32 : decode b_X_act 32 = .ok (.iload_n 1, 1) := by decide +kernel
theorem d_X_act_33 : decode b_X_act 33 = .ok (.aaload, 1) := by decide +kernel
theorem d_X_act_34 : decode b_X_act 34 = .ok (.aload_n 0, 1) := by decide +kernel
theorem d_X_act_35 : decode b_X_act 35 = .ok (.getfield 10, 3) := by decide +kernel
theorem d_X_act_38 : decode b_X_act 38 = .ok (.invokevirtual 162, 3) := by decide +kernel
theorem d_X_act_41 : decode b_X_act 41 = .ok (.astore_n 2, 1) := by decide +kernel
theorem d_X_act_42 : decode b_X_act 42 = .ok (.aload_n 2, 1) := by decide +kernel
theorem d_X_act_43 : decode b_X_act 43 = .ok (.ifnonnull 20, 3) := by decide +kernel
theorem d_X_act_46 : decode b_X_act 46 = .ok (.aload_n 0, 1) := by decide +kernel
theorem d_X_act_47 : decode b_X_act 47 = .ok (.aload_n 0, 1) := by decide +kernel
theorem d_X_act_48 : decode b_X_act 48 = .ok (.getfield 31, 3) := by decide +kernel
theorem d_X_act_51 : decode b_X_act 51 = .ok (.iload_n 1, 1) := by decide +kernel
theorem d_X_act_52 : decode b_X_act 52 = .ok (.aaload, 1) := by decide +kernel
theorem d_X_act_53 : decode b_X_act 53 = .ok (.getfield 166, 3) := by decide +kernel
theorem d_X_act_56 : decode b_X_act 56 = .ok (.iconst 0, 1) := by decide +kernel
theorem d_X_act_57 : decode b_X_act 57 = .ok (.iconst 0, 1) := by decide +kernel
theorem d_X_act_58 : decode b_X_act 58 = .ok (.invokevirtual 169, 3) := by decide +kernel
theorem d_X_act_61 : decode b_X_act 61 = .ok (.iconst 0, 1) := by decide +kernel
theorem d_X_act_62 : decode b_X_act 62 = .ok (.ireturn, 1) := by decide +kernel
theorem d_X_act_63 : decode b_X_act 63 = .ok (.aload_n 0, 1) := by decide +kernel
theorem d_X_act_64 : decode b_X_act 64 = .ok (.aload_n 2, 1) := by decide +kernel
theorem d_X_act_65 : decode b_X_act 65 = .ok (.getfield 173, 3) := by decide +kernel
theorem d_X_act_68 : decode b_X_act 68 = .ok (.aload_n 2, 1) := by decide +kernel
theorem d_X_act_69 : decode b_X_act 69 = .ok (.getfield 178, 3) := by decide +kernel
theorem d_X_act_72 : decode b_X_act 72 = .ok (.aload_n 2, 1) := by decide +kernel
theorem d_X_act_73 : decode b_X_act 73 = .ok (.getfield 181, 3) := by decide +kernel
theorem d_X_act_76 : decode b_X_act 76 = .ok (.invokevirtual 169, 3) := by decide +kernel
theorem d_X_act_79 : decode b_X_act 79 = .ok (.iconst 1, 1) := by decide +kernel
theorem d_X_act_80 : decode b_X_act 80 = .ok (.ireturn, 1) := by decide +kernel
theorem d_X_doAction_0 : decode b_X_doAction 0 = .ok (.aload_n 0, 1) := by decide +kernel
theorem d_X_doAction_1 : decode b_X_doAction 1 = .ok (.iload_n 1, 1) := by decide +kernel
theorem d_X_doAction_2 : decode b_X_doAction 2 = .ok (.invokevirtual 107, 3) := by decide +kernel
theorem d_X_doAction_5 : decode b_X_doAction 5 = .ok (.ifCond .ne 4, 3) := by decide +kernel
theorem d_X_doAction_8 : decode b_X_doAction 8 = .ok (.return_, 1) := by decide +kernel
theorem d_X_doAction_9 : decode b_X_doAction 9 = .ok (.aload_n 0, 1) := by decide +kernel
theorem d_X_doAction_10 : decode b_X_doAction 10 = .ok (.getfield 25, 3) := by decide +kernel
theorem d_X_doAction_13 : decode b_X_doAction 13 = .ok (.iload_n 1, 1) := by decide +kernel
theorem d_X_doAction_14 : decode b_X_doAction 14 = .ok (.aaload, 1) := by decide +kernel
theorem d_X_doAction_15 : decode b_X_doAction 15 = .ok (.astore 4, 2) := by decide +kernel
theorem d_X_doAction_17 : decode b_X_doAction 17 = .ok (.iconst 0, 1) := by decide +kernel
theorem d_X_doAction_18 : decode b_X_doAction 18 = .ok (.istore 5, 2) := by decide +kernel
theorem d_X_doAction_20 : decode b_X_doAction 20 = .ok (.iload 5, 2) := by decide +kernel
theorem d_X_doAction_22 : decode b_X_doAction 22 = .ok (.aload 4, 2) := by decide +kernel
theorem d_X_doAction_24 : decode b_X_doAction 24 = .ok (.getfield 196, 3) := by decide +kernel
theorem d_X_doAction_27 : decode b_X_doAction 27 = .ok (.if_icmp .ge 29, 3) := by decide +kernel
theorem d_X_doAction_30 : decode b_X_doAction 30 = .ok (.iload 5, 2) := by decide +kernel
theorem d_X_doAction_32 : decode b_X_doAction 32 = .ok (.iconst 4, 1) := by decide +kernel
theorem d_X_doAction_33 : decode b_X_doAction 33 = .ok (.if_icmp .ge 23, 3) := by decide +kernel
theorem d_X_doAction_36 : decode b_X_doAction 36 = .ok (.aload_n 0, 1) := by decide +kernel
theorem d_X_doAction_37 : decode b_X_doAction 37 = .ok (.aload 4, 2) := by decide +kernel
theorem d_X_doAction_39 : decode b_X_doAction 39 = .ok (.getfield 197, 3) := by decide +kernel
theorem d_X_doAction_42 : decode b_X_doAction 42 = .ok (.iload 5, 2) := by decide +kernel
theorem d_X_doAction_44 : decode b_X_doAction 44 = .ok (.aaload, 1) := by decide +kernel
theorem d_X_doAction_45 : decode b_X_doAction 45 = .ok (.iload_n 2, 1) := by decide +kernel
theorem d_X_doAction_46 : decode b_X_doAction 46 = .ok (.iload_n 3, 1) := by decide +kernel
theorem d_X_doAction_47 : decode b_X_doAction 47 = .ok (.invokevirtual 201, 3) := by decide +kernel
theorem d_X_doAction_50 : decode b_X_doAction 50 = .ok (.iinc 5 1, 3) := by decide +kernel
theorem d_X_doAction_53 : decode b_X_doAction 53 = .ok (.goto (-33), 3) := by decide +kernel
theorem d_X_doAction_56 : decode b_X_doAction 56 = .ok (.return_, 1) := by decide +kernel
theorem d_X_doOne_0 : decode b_X_doOne 0 = .ok (.aload_n 1, 1) := by decide +kernel
theorem d_X_doOne_1 : decode b_X_doOne 1 = .ok (.getfield 205, 3) := by decide +kernel
theorem d_X_doOne_4 : decode b_X_doOne 4 = .ok (.tableswitch 260 0 8 #[52, 70, 95, 137, 163, 174, 193, 201, 227], 52) := by decide +kernel
theorem d_X_doOne_56 : decode b_X_doOne 56 = .ok (.aload_n 0, 1) := by decide +kernel
theorem d_X_doOne_57 : decode b_X_doOne 57 = .ok (.getfield 10, 3) := by decide +kernel
theorem d_X_doOne_60 : decode b_X_doOne 60 = .ok (.aload_n 1, 1) := by decide +kernel
theorem d_X_doOne_61 : decode b_X_doOne 61 = .ok (.getfield 210, 3) := by decide +kernel
theorem d_X_doOne_64 : decode b_X_doOne 64 = .ok (.aload_n 1, 1) := by decide +kernel
theorem d_X_doOne_65 : decode b_X_doOne 65 = .ok (.getfield 213, 3) := by decide +kernel
theorem d_X_doOne_68 : decode b_X_doOne 68 = .ok (.invokevirtual 95, 3) := by decide +kernel
theorem d_X_doOne_71 : decode b_X_doOne 71 = .ok (.goto 193, 3) := by decide +kernel
theorem d_X_doOne_74 : decode b_X_doOne 74 = .ok (.aload_n 0, 1) := by decide +kernel
theorem d_X_doOne_75 : decode b_X_doOne 75 = .ok (.getfield 10, 3) := by decide +kernel
theorem d_X_doOne_78 : decode b_X_doOne 78 = .ok (.aload_n 1, 1) := by decide +kernel
theorem d_X_doOne_79 : decode b_X_doOne 79 = .ok (.getfield 210, 3) := by decide +kernel
theorem d_X_doOne_82 : decode b_X_doOne 82 = .ok (.aload_n 0, 1) := by decide +kernel
theorem d_X_doOne_83 : decode b_X_doOne 83 = .ok (.getfield 10, 3) := by decide +kernel
theorem d_X_doOne_86 : decode b_X_doOne 86 = .ok (.aload_n 1, 1) := by decide +kernel
theorem d_X_doOne_87 : decode b_X_doOne 87 = .ok (.getfield 213, 3) := by decide +kernel
theorem d_X_doOne_90 : decode b_X_doOne 90 = .ok (.invokevirtual 99, 3) := by decide +kernel
theorem d_X_doOne_93 : decode b_X_doOne 93 = .ok (.invokevirtual 95, 3) := by decide +kernel
theorem d_X_doOne_96 : decode b_X_doOne 96 = .ok (.goto 168, 3) := by decide +kernel
theorem d_X_doOne_99 : decode b_X_doOne 99 = .ok (.aload_n 0, 1) := by decide +kernel
theorem d_X_doOne_100 : decode b_X_doOne 100 = .ok (.getfield 10, 3) := by decide +kernel
theorem d_X_doOne_103 : decode b_X_doOne 103 = .ok (.aload_n 1, 1) := by decide +kernel
theorem d_X_doOne_104 : decode b_X_doOne 104 = .ok (.getfield 210, 3) := by decide +kernel
theorem d_X_doOne_107 : decode b_X_doOne 107 = .ok (.aload_n 0, 1) := by decide +kernel
theorem d_X_doOne_108 : decode b_X_doOne 108 = .ok (.getfield 10, 3) := by decide +kernel
theorem d_X_doOne_111 : decode b_X_doOne 111 = .ok (.aload_n 1, 1) := by decide +kernel
theorem d_X_doOne_112 : decode b_X_doOne 112 = .ok (.getfield 210, 3) := by decide +kernel
theorem d_X_doOne_115 : decode b_X_doOne 115 = .ok (.invokevirtual 99, 3) := by decide +kernel
theorem d_X_doOne_118 : decode b_X_doOne 118 = .ok (.aload_n 0, 1) := by decide +kernel
theorem d_X_doOne_119 : decode b_X_doOne 119 = .ok (.getfield 10, 3) := by decide +kernel
theorem d_X_doOne_122 : decode b_X_doOne 122 = .ok (.aload_n 1, 1) := by decide +kernel
theorem d_X_doOne_123 : decode b_X_doOne 123 = .ok (.getfield 213, 3) := by decide +kernel
theorem d_X_doOne_126 : decode b_X_doOne 126 = .ok (.invokevirtual 99, 3) := by decide +kernel
theorem d_X_doOne_129 : decode b_X_doOne 129 = .ok (.iadd, 1) := by decide +kernel
theorem d_X_doOne_130 : decode b_X_doOne 130 = .ok (.aload_n 1, 1) := by decide +kernel
theorem d_X_doOne_131 : decode b_X_doOne 131 = .ok (.getfield 216, 3) := by decide +kernel
theorem d_X_doOne_134 : decode b_X_doOne 134 = .ok (.iadd, 1) := by decide +kernel
theorem d_X_doOne_135 : decode b_X_doOne 135 = .ok (.invokevirtual 95, 3) := by decide +kernel
theorem d_X_doOne_138 : decode b_X_doOne 138 = .ok (.goto 126, 3) := by decide +kernel
theorem d_X_doOne_141 : decode b_X_doOne 141 = .ok (.aload_n 0, 1) := by decide +kernel
theorem d_X_doOne_142 : decode b_X_doOne 142 = .ok (.getfield 10, 3) := by decide +kernel
theorem d_X_doOne_145 : decode b_X_doOne 145 = .ok (.aload_n 1, 1) := by decide +kernel
theorem d_X_doOne_146 : decode b_X_doOne 146 = .ok (.getfield 210, 3) := by decide +kernel
theorem d_X_doOne_149 : decode b_X_doOne 149 = .ok (.aload_n 1, 1) := by decide +kernel
theorem d_X_doOne_150 : decode b_X_doOne 150 = .ok (.getfield 213, 3) := by decide +kernel
theorem d_X_doOne_153 : decode b_X_doOne 153 = .ok (.ifCond .ne 7, 3) := by decide +kernel
theorem d_X_doOne_156 : decode b_X_doOne 156 = .ok (.iload_n 2, 1) := by decide +kernel
theorem d_X_doOne_157 : decode b_X_doOne 157 = .ok (.goto 4, 3) := by decide +kernel
theorem d_X_doOne_160 : decode b_X_doOne 160 = .ok (.iload_n 3, 1) := by decide +kernel
theorem d_X_doOne_161 : decode b_X_doOne 161 = .ok (.invokevirtual 95, 3) := by decide +kernel
theorem d_X_doOne_164 : decode b_X_doOne 164 = .ok (.goto 100, 3) := by decide +kernel
theorem d_X_doOne_167 : decode b_X_doOne 167 = .ok (.aload_n 0, 1) := by decide +kernel
theorem d_X_doOne_168 : decode b_X_doOne 168 = .ok (.aload_n 1, 1) := by decide +kernel
theorem d_X_doOne_169 : decode b_X_doOne 169 = .ok (.getfield 213, 3) := by decide +kernel
theorem d_X_doOne_172 : decode b_X_doOne 172 = .ok (.putfield 59, 3) := by decide +kernel
theorem d_X_doOne_175 : decode b_X_doOne 175 = .ok (.goto 89, 3) := by decide +kernel
theorem d_X_doOne_178 : decode b_X_doOne 178 = .ok (.aload_n 0, 1) := by decide +kernel
theorem d_X_doOne_179 : decode b_X_doOne 179 = .ok (.aload_n 1, 1) := by decide +kernel
theorem d_X_doOne_180 : decode b_X_doOne 180 = .ok (.getfield 213, 3) := by decide +kernel
theorem d_X_doOne_183 : decode b_X_doOne 183 = .ok (.ifCond .ne 7, 3) := by decide +kernel
theorem d_X_doOne_186 : decode b_X_doOne 186 = .ok (.iload_n 2, 1) := by decide +kernel
theorem d_X_doOne_187 : decode b_X_doOne 187 = .ok (.goto 4, 3) := by decide +kernel
theorem d_X_doOne_190 : decode b_X_doOne 190 = .ok (.iload_n 3, 1) := by decide +kernel
theorem d_X_doOne_191 : decode b_X_doOne 191 = .ok (.putfield 59, 3) := by decide +kernel
theorem d_X_doOne_194 : decode b_X_doOne 194 = .ok (.goto 70, 3) := by decide +kernel
theorem d_X_doOne_197 : decode b_X_doOne 197 = .ok (.aload_n 0, 1) := by decide +kernel
theorem d_X_doOne_198 : decode b_X_doOne 198 = .ok (.iconst 1, 1) := by decide +kernel
theorem d_X_doOne_199 : decode b_X_doOne 199 = .ok (.putfield 62, 3) := by decide +kernel
theorem d_X_doOne_202 : decode b_X_doOne 202 = .ok (.goto 62, 3) := by decide +kernel
theorem d_X_doOne_205 : decode b_X_doOne 205 = .ok (.aload_n 0, 1) := by decide +kernel
theorem d_X_doOne_206 : decode b_X_doOne 206 = .ok (.getfield 19, 3) := by decide +kernel
theorem d_X_doOne_209 : decode b_X_doOne 209 = .ok (.aload_n 1, 1) := by decide +kernel
theorem d_X_doOne_210 : decode b_X_doOne 210 = .ok (.getfield 210, 3) := by decide +kernel
theorem d_X_doOne_213 : decode b_X_doOne 213 = .ok (.aload_n 0, 1) := by decide +kernel
theorem d_X_doOne_214 : decode b_X_doOne 214 = .ok (.aload_n 1, 1) := by decide +kernel
theorem d_X_doOne_215 : decode b_X_doOne 215 = .ok (.getfield 213, 3) := by decide +kernel
theorem d_X_doOne_218 : decode b_X_doOne 218 = .ok (.invokevirtual 219, 3) := by decide +kernel
theorem d_X_doOne_221 : decode b_X_doOne 221 = .ok (.aload_n 1, 1) := by decide +kernel
theorem d_X_doOne_222 : decode b_X_doOne 222 = .ok (.getfield 216, 3) := by decide +kernel
theorem d_X_doOne_225 : decode b_X_doOne 225 = .ok (.invokevirtual 222, 3) := by decide +kernel
theorem d_X_doOne_228 : decode b_X_doOne 228 = .ok (.goto 36, 3) := by decide +kernel
theorem d_X_doOne_231 : decode b_X_doOne 231 = .ok (.aload_n 0, 1) := by decide +kernel
theorem d_X_doOne_232 : decode b_X_doOne 232 = .ok (.getfield 10, 3) := by decide +kernel
theorem d_X_doOne_235 : decode b_X_doOne 235 = .ok (.aload_n 1, 1) := by decide +kernel
theorem d_X_doOne_236 : decode b_X_doOne 236 = .ok (.getfield 210, 3) := by decide +kernel
theorem d_X_doOne_239 : decode b_X_doOne 239 = .ok (.aload_n 0, 1) := by decide +kernel
theorem d_X_doOne_240 : decode b_X_doOne 240 = .ok (.getfield 19, 3) := by decide +kernel
theorem d_X_doOne_243 : decode b_X_doOne 243 = .ok (.aload_n 1, 1) := by decide +kernel
theorem d_X_doOne_244 : decode b_X_doOne 244 = .ok (.getfield 216, 3) := by decide +kernel
theorem d_X_doOne_247 : decode b_X_doOne 247 = .ok (.aload_n 0, 1) := by decide +kernel
theorem d_X_doOne_248 : decode b_X_doOne 248 = .ok (.aload_n 1, 1) := by decide +kernel
theorem d_X_doOne_249 : decode b_X_doOne 249 = .ok (.getfield 213, 3) := by decide +kernel
theorem d_X_doOne_252 : decode b_X_doOne 252 = .ok (.invokevirtual 219, 3) := by decide +kernel
theorem d_X_doOne_255 : decode b_X_doOne 255 = .ok (.invokevirtual 184, 3) := by decide +kernel
theorem d_X_doOne_258 : decode b_X_doOne 258 = .ok (.invokevirtual 95, 3) := by decide +kernel
theorem d_X_doOne_261 : decode b_X_doOne 261 = .ok (.goto 3, 3) := by decide +kernel
theorem d_X_doOne_264 : decode b_X_doOne 264 = .ok (.return_, 1) := by decide +kernel
theorem d_X_wordNumber_0 : decode b_X_wordNumber 0 = .ok (.aload_n 0, 1) := by decide +kernel
theorem d_X_wordNumber_1 : decode b_X_wordNumber 1 = .ok (.getfield 10, 3) := by decide +kernel
theorem d_X_wordNumber_4 : decode b_X_wordNumber 4 = .ok (.iload_n 1, 1) := by decide +kernel
theorem d_X_wordNumber_5 : decode b_X_wordNumber 5 = .ok (.invokevirtual 99, 3) := by decide +kernel
theorem d_X_wordNumber_8 : decode b_X_wordNumber 8 = .ok (.bipush 16, 2) := by decide +kernel
theorem d_X_wordNumber_10 : decode b_X_wordNumber 10 = .ok (.invokestatic 225, 3) := by decide +kernel
theorem d_X_wordNumber_13 : decode b_X_wordNumber 13 = .ok (.ireturn, 1) := by decide +kernel
theorem d_JM_floorMod_0 : decode b_JM_floorMod 0 = .ok (.iload_n 0, 1) := by decide +kernel
theorem d_JM_floorMod_1 : decode b_JM_floorMod 1 = .ok (.iload_n 1, 1) := by decide +kernel
theorem d_JM_floorMod_2 : decode b_JM_floorMod 2 = .ok (.irem, 1) := by decide +kernel
theorem d_JM_floorMod_3 : decode b_JM_floorMod 3 = .ok (.istore_n 2, 1) := by decide +kernel
theorem d_JM_floorMod_4 : decode b_JM_floorMod 4 = .ok (.iload_n 0, 1) := by decide +kernel
theorem d_JM_floorMod_5 : decode b_JM_floorMod 5 = .ok (.iload_n 1, 1) := by decide +kernel
theorem d_JM_floorMod_6 : decode b_JM_floorMod 6 = .ok (.ixor, 1) := by decide +kernel
theorem d_JM_floorMod_7 : decode b_JM_floorMod 7 = .ok (.ifCond .ge 11, 3) := by decide +kernel
theorem d_JM_floorMod_10 : decode b_JM_floorMod 10 = .ok (.iload_n 2, 1) := by decide +kernel
theorem d_JM_floorMod_11 : decode b_JM_floorMod 11 = .ok (.ifCond .eq 7, 3) := by decide +kernel
theorem d_JM_floorMod_14 : decode b_JM_floorMod 14 = .ok (.iload_n 2, 1) := by decide +kernel
theorem d_JM_floorMod_15 : decode b_JM_floorMod 15 = .ok (.iload_n 1, 1) := by decide +kernel
theorem d_JM_floorMod_16 : decode b_JM_floorMod 16 = .ok (.iadd, 1) := by decide +kernel
theorem d_JM_floorMod_17 : decode b_JM_floorMod 17 = .ok (.ireturn, 1) := by decide +kernel
theorem d_JM_floorMod_18 : decode b_JM_floorMod 18 = .ok (.iload_n 2, 1) := by decide +kernel
theorem d_JM_floorMod_19 : decode b_JM_floorMod 19 = .ok (.ireturn, 1) := by decide +kernel
theorem d_C_grow_0 : decode b_C_grow 0 = .ok (.iload_n 1, 1) := by decide +kernel
theorem d_C_grow_1 : decode b_C_grow 1 = .ok (.iload_n 2, 1) := by decide +kernel
theorem d_C_grow_2 : decode b_C_grow 2 = .ok (.invokestatic 25, 3) := by decide +kernel
theorem d_C_grow_5 : decode b_C_grow 5 = .ok (.ifCond .eq 18, 3) := by decide +kernel
theorem d_C_grow_8 : decode b_C_grow 8 = .ok (.aload_n 0, 1) := by decide +kernel
theorem d_C_grow_9 : decode b_C_grow 9 = .ok (.getfield 9, 3) := by decide +kernel
theorem d_C_grow_12 : decode b_C_grow 12 = .ok (.iload_n 1, 1) := by decide +kernel
theorem d_C_grow_13 : decode b_C_grow 13 = .ok (.bipush 16, 2) := by decide +kernel
theorem d_C_grow_15 : decode b_C_grow 15 = .ok (.imul, 1) := by decide +kernel
theorem d_C_grow_16 : decode b_C_grow 16 = .ok (.iload_n 2, 1) := by decide +kernel
theorem d_C_grow_17 : decode b_C_grow 17 = .ok (.iadd, 1) := by decide +kernel
theorem d_C_grow_18 : decode b_C_grow 18 = .ok (.dup2, 1) := by decide +kernel
theorem d_C_grow_19 : decode b_C_grow 19 = .ok (.iaload, 1) := by decide +kernel
theorem d_C_grow_20 : decode b_C_grow 20 = .ok (.iload_n 3, 1) := by decide +kernel
theorem d_C_grow_21 : decode b_C_grow 21 = .ok (.iadd, 1) := by decide +kernel
theorem d_C_grow_22 : decode b_C_grow 22 = .ok (.iastore, 1) := by decide +kernel
theorem d_C_grow_23 : decode b_C_grow 23 = .ok (.return_, 1) := by decide +kernel
end
section
/-! Decoded instructions, by program (wip/gen/names.py). -/
theorem d_M_init_0 : decode b_M_init 0 = .ok (.aload_n 0, 1) := by decide +kernel
theorem d_M_init_1 : decode b_M_init 1 = .ok (.invokespecial 1, 3) := by decide +kernel
theorem d_M_init_4 : decode b_M_init 4 = .ok (.aload_n 0, 1) := by decide +kernel
theorem d_M_init_5 : decode b_M_init 5 = .ok (.iconst 0, 1) := by decide +kernel
theorem d_M_init_6 : decode b_M_init 6 = .ok (.putfield 7, 3) := by decide +kernel
theorem d_M_init_9 : decode b_M_init 9 = .ok (.aload_n 0, 1) := by decide +kernel
theorem d_M_init_10 : decode b_M_init 10 = .ok (.iconst 0, 1) := by decide +kernel
theorem d_M_init_11 : decode b_M_init 11 = .ok (.putfield 13, 3) := by decide +kernel
theorem d_M_init_14 : decode b_M_init 14 = .ok (.aload_n 0, 1) := by decide +kernel
theorem d_M_init_15 : decode b_M_init 15 = .ok (.bipush 16, 2) := by decide +kernel
theorem d_M_init_17 : decode b_M_init 17 = .ok (.newarray .int, 2) := by decide +kernel
theorem d_M_init_19 : decode b_M_init 19 = .ok (.putfield 16, 3) := by decide +kernel
theorem d_M_init_22 : decode b_M_init 22 = .ok (.aload_n 0, 1) := by decide +kernel
theorem d_M_init_23 : decode b_M_init 23 = .ok (.bipush 16, 2) := by decide +kernel
theorem d_M_init_25 : decode b_M_init 25 = .ok (.newarray .int, 2) := by decide +kernel
theorem d_M_init_27 : decode b_M_init 27 = .ok (.putfield 20, 3) := by decide +kernel
theorem d_M_init_30 : decode b_M_init 30 = .ok (.aload_n 0, 1) := by decide +kernel
theorem d_M_init_31 : decode b_M_init 31 = .ok (.iconst 0, 1) := by decide +kernel
theorem d_M_init_32 : decode b_M_init 32 = .ok (.putfield 23, 3) := by decide +kernel
theorem d_M_init_35 : decode b_M_init 35 = .ok (.aload_n 0, 1) := by decide +kernel
theorem d_M_init_36 : decode b_M_init 36 = .ok (.bipush 16, 2) := by decide +kernel
theorem d_M_init_38 : decode b_M_init 38 = .ok (.newarray .int, 2) := by decide +kernel
theorem d_M_init_40 : decode b_M_init 40 = .ok (.putfield 26, 3) := by decide +kernel
theorem d_M_init_43 : decode b_M_init 43 = .ok (.aload_n 0, 1) := by decide +kernel
theorem d_M_init_44 : decode b_M_init 44 = .ok (.sipush 256, 3) := by decide +kernel
theorem d_M_init_47 : decode b_M_init 47 = .ok (.newarray .int, 2) := by decide +kernel
theorem d_M_init_49 : decode b_M_init 49 = .ok (.putfield 29, 3) := by decide +kernel
theorem d_M_init_52 : decode b_M_init 52 = .ok (.aload_n 0, 1) := by decide +kernel
theorem d_M_init_53 : decode b_M_init 53 = .ok (.bipush 64, 2) := by decide +kernel
theorem d_M_init_55 : decode b_M_init 55 = .ok (.newarray .int, 2) := by decide +kernel
theorem d_M_init_57 : decode b_M_init 57 = .ok (.putfield 32, 3) := by decide +kernel
theorem d_M_init_60 : decode b_M_init 60 = .ok (.aload_n 0, 1) := by decide +kernel
theorem d_M_init_61 : decode b_M_init 61 = .ok (.iconst 0, 1) := by decide +kernel
theorem d_M_init_62 : decode b_M_init 62 = .ok (.putfield 35, 3) := by decide +kernel
theorem d_M_init_65 : decode b_M_init 65 = .ok (.aload_n 0, 1) := by decide +kernel
theorem d_M_init_66 : decode b_M_init 66 = .ok (.bipush 8, 2) := by decide +kernel
theorem d_M_init_68 : decode b_M_init 68 = .ok (.newarray .int, 2) := by decide +kernel
theorem d_M_init_70 : decode b_M_init 70 = .ok (.putfield 38, 3) := by decide +kernel
theorem d_M_init_73 : decode b_M_init 73 = .ok (.aload_n 0, 1) := by decide +kernel
theorem d_M_init_74 : decode b_M_init 74 = .ok (.bipush 8, 2) := by decide +kernel
theorem d_M_init_76 : decode b_M_init 76 = .ok (.newarray .int, 2) := by decide +kernel
theorem d_M_init_78 : decode b_M_init 78 = .ok (.putfield 41, 3) := by decide +kernel
theorem d_M_init_81 : decode b_M_init 81 = .ok (.aload_n 0, 1) := by decide +kernel
theorem d_M_init_82 : decode b_M_init 82 = .ok (.bipush 8, 2) := by decide +kernel
theorem d_M_init_84 : decode b_M_init 84 = .ok (.newarray .int, 2) := by decide +kernel
theorem d_M_init_86 : decode b_M_init 86 = .ok (.putfield 44, 3) := by decide +kernel
theorem d_M_init_89 : decode b_M_init 89 = .ok (.aload_n 0, 1) := by decide +kernel
theorem d_M_init_90 : decode b_M_init 90 = .ok (.bipush 8, 2) := by decide +kernel
theorem d_M_init_92 : decode b_M_init 92 = .ok (.newarray .int, 2) := by decide +kernel
theorem d_M_init_94 : decode b_M_init 94 = .ok (.putfield 47, 3) := by decide +kernel
theorem d_M_init_97 : decode b_M_init 97 = .ok (.aload_n 0, 1) := by decide +kernel
theorem d_M_init_98 : decode b_M_init 98 = .ok (.bipush 8, 2) := by decide +kernel
theorem d_M_init_100 : decode b_M_init 100 = .ok (.newarray .int, 2) := by decide +kernel
theorem d_M_init_102 : decode b_M_init 102 = .ok (.putfield 50, 3) := by decide +kernel
theorem d_M_init_105 : decode b_M_init 105 = .ok (.aload_n 0, 1) := by decide +kernel
theorem d_M_init_106 : decode b_M_init 106 = .ok (.bipush 8, 2) := by decide +kernel
theorem d_M_init_108 : decode b_M_init 108 = .ok (.newarray .int, 2) := by decide +kernel
theorem d_M_init_110 : decode b_M_init 110 = .ok (.putfield 53, 3) := by decide +kernel
theorem d_M_init_113 : decode b_M_init 113 = .ok (.aload_n 0, 1) := by decide +kernel
theorem d_M_init_114 : decode b_M_init 114 = .ok (.sipush 1280, 3) := by decide +kernel
theorem d_M_init_117 : decode b_M_init 117 = .ok (.newarray .int, 2) := by decide +kernel
theorem d_M_init_119 : decode b_M_init 119 = .ok (.putfield 56, 3) := by decide +kernel
theorem d_M_init_122 : decode b_M_init 122 = .ok (.aload_n 0, 1) := by decide +kernel
theorem d_M_init_123 : decode b_M_init 123 = .ok (.iconst 4, 1) := by decide +kernel
theorem d_M_init_124 : decode b_M_init 124 = .ok (.newarray .int, 2) := by decide +kernel
theorem d_M_init_126 : decode b_M_init 126 = .ok (.putfield 59, 3) := by decide +kernel
theorem d_M_init_129 : decode b_M_init 129 = .ok (.aload_n 0, 1) := by decide +kernel
theorem d_M_init_130 : decode b_M_init 130 = .ok (.bipush 8, 2) := by decide +kernel
theorem d_M_init_132 : decode b_M_init 132 = .ok (.newarray .int, 2) := by decide +kernel
theorem d_M_init_134 : decode b_M_init 134 = .ok (.putfield 62, 3) := by decide +kernel
theorem d_M_init_137 : decode b_M_init 137 = .ok (.aload_n 0, 1) := by decide +kernel
theorem d_M_init_138 : decode b_M_init 138 = .ok (.iconst 0, 1) := by decide +kernel
theorem d_M_init_139 : decode b_M_init 139 = .ok (.putfield 65, 3) := by decide +kernel
theorem d_M_init_142 : decode b_M_init 142 = .ok (.aload_n 0, 1) := by decide +kernel
theorem d_M_init_143 : decode b_M_init 143 = .ok (.iconst 0, 1) := by decide +kernel
theorem d_M_init_144 : decode b_M_init 144 = .ok (.putfield 68, 3) := by decide +kernel
theorem d_M_init_147 : decode b_M_init 147 = .ok (.return_, 1) := by decide +kernel
theorem d_M_thrown_0 : decode b_M_thrown 0 = .ok (.aload_n 0, 1) := by decide +kernel
theorem d_M_thrown_1 : decode b_M_thrown 1 = .ok (.getfield 7, 3) := by decide +kernel
theorem d_M_thrown_4 : decode b_M_thrown 4 = .ok (.ireturn, 1) := by decide +kernel
theorem d_M_clear_0 : decode b_M_clear 0 = .ok (.aload_n 0, 1) := by decide +kernel
theorem d_M_clear_1 : decode b_M_clear 1 = .ok (.iconst 0, 1) := by decide +kernel
theorem d_M_clear_2 : decode b_M_clear 2 = .ok (.putfield 7, 3) := by decide +kernel
theorem d_M_clear_5 : decode b_M_clear 5 = .ok (.aload_n 0, 1) := by decide +kernel
theorem d_M_clear_6 : decode b_M_clear 6 = .ok (.iconst 0, 1) := by decide +kernel
theorem d_M_clear_7 : decode b_M_clear 7 = .ok (.putfield 13, 3) := by decide +kernel
theorem d_M_clear_10 : decode b_M_clear 10 = .ok (.aload_n 0, 1) := by decide +kernel
theorem d_M_clear_11 : decode b_M_clear 11 = .ok (.iconst 0, 1) := by decide +kernel
theorem d_M_clear_12 : decode b_M_clear 12 = .ok (.putfield 23, 3) := by decide +kernel
theorem d_M_clear_15 : decode b_M_clear 15 = .ok (.aload_n 0, 1) := by decide +kernel
theorem d_M_clear_16 : decode b_M_clear 16 = .ok (.iconst 0, 1) := by decide +kernel
theorem d_M_clear_17 : decode b_M_clear 17 = .ok (.putfield 35, 3) := by decide +kernel
theorem d_M_clear_20 : decode b_M_clear 20 = .ok (.iconst 0, 1) := by decide +kernel
theorem d_M_clear_21 : decode b_M_clear 21 = .ok (.istore_n 1, 1) := by decide +kernel
theorem d_M_clear_22 : decode b_M_clear 22 = .ok (.iload_n 1, 1) := by decide +kernel
theorem d_M_clear_23 : decode b_M_clear 23 = .ok (.bipush 64, 2) := by decide +kernel
theorem d_M_clear_25 : decode b_M_clear 25 = .ok (.if_icmp .ge 16, 3) := by decide +kernel
theorem d_M_clear_28 : decode b_M_clear 28 = .ok (.aload_n 0, 1) := by decide +kernel
theorem d_M_clear_29 : decode b_M_clear 29 = .ok (.getfield 32, 3) := by decide +kernel
theorem d_M_clear_32 : decode b_M_clear 32 = .ok (.iload_n 1, 1) := by decide +kernel
theorem d_M_clear_33 : decode b_M_clear 33 = .ok (.iconst 0, 1) := by decide +kernel
theorem d_M_clear_34 : decode b_M_clear 34 = .ok (.iastore, 1) := by decide +kernel
theorem d_M_clear_35 : decode b_M_clear 35 = .ok (.iinc 1 1, 3) := by decide +kernel
theorem d_M_clear_38 : decode b_M_clear 38 = .ok (.goto (-16), 3) := by decide +kernel
theorem d_M_clear_41 : decode b_M_clear 41 = .ok (.iconst 0, 1) := by decide +kernel
theorem d_M_clear_42 : decode b_M_clear 42 = .ok (.istore_n 1, 1) := by decide +kernel
theorem d_M_clear_43 : decode b_M_clear 43 = .ok (.iload_n 1, 1) := by decide +kernel
theorem d_M_clear_44 : decode b_M_clear 44 = .ok (.iconst 4, 1) := by decide +kernel
theorem d_M_clear_45 : decode b_M_clear 45 = .ok (.if_icmp .ge 16, 3) := by decide +kernel
theorem d_M_clear_48 : decode b_M_clear 48 = .ok (.aload_n 0, 1) := by decide +kernel
theorem d_M_clear_49 : decode b_M_clear 49 = .ok (.getfield 59, 3) := by decide +kernel
theorem d_M_clear_52 : decode b_M_clear 52 = .ok (.iload_n 1, 1) := by decide +kernel
theorem d_M_clear_53 : decode b_M_clear 53 = .ok (.iconst 0, 1) := by decide +kernel
theorem d_M_clear_54 : decode b_M_clear 54 = .ok (.iastore, 1) := by decide +kernel
theorem d_M_clear_55 : decode b_M_clear 55 = .ok (.iinc 1 1, 3) := by decide +kernel
theorem d_M_clear_58 : decode b_M_clear 58 = .ok (.goto (-15), 3) := by decide +kernel
theorem d_M_clear_61 : decode b_M_clear 61 = .ok (.aload_n 0, 1) := by decide +kernel
theorem d_M_clear_62 : decode b_M_clear 62 = .ok (.iconst 0, 1) := by decide +kernel
theorem d_M_clear_63 : decode b_M_clear 63 = .ok (.putfield 65, 3) := by decide +kernel
theorem d_M_clear_66 : decode b_M_clear 66 = .ok (.aload_n 0, 1) := by decide +kernel
theorem d_M_clear_67 : decode b_M_clear 67 = .ok (.iconst 0, 1) := by decide +kernel
theorem d_M_clear_68 : decode b_M_clear 68 = .ok (.putfield 68, 3) := by decide +kernel
theorem d_M_clear_71 : decode b_M_clear 71 = .ok (.return_, 1) := by decide +kernel
theorem d_M_field_0 : decode b_M_field 0 = .ok (.aload_n 0, 1) := by decide +kernel
theorem d_M_field_1 : decode b_M_field 1 = .ok (.iload_n 1, 1) := by decide +kernel
theorem d_M_field_2 : decode b_M_field 2 = .ok (.iconst 1, 1) := by decide +kernel
theorem d_M_field_3 : decode b_M_field 3 = .ok (.if_icmp .lt 9, 3) := by decide +kernel
theorem d_M_field_6 : decode b_M_field 6 = .ok (.iload_n 1, 1) := by decide +kernel
theorem d_M_field_7 : decode b_M_field 7 = .ok (.bipush 32, 2) := by decide +kernel
theorem d_M_field_9 : decode b_M_field 9 = .ok (.if_icmp .le 7, 3) := by decide +kernel
theorem d_M_field_12 : decode b_M_field 12 = .ok (.iconst 1, 1) := by decide +kernel
theorem d_M_field_13 : decode b_M_field 13 = .ok (.goto 17, 3) := by decide +kernel
theorem d_M_field_16 : decode b_M_field 16 = .ok (.aload_n 0, 1) := by decide +kernel
theorem d_M_field_17 : decode b_M_field 17 = .ok (.getfield 13, 3) := by decide +kernel
theorem d_M_field_20 : decode b_M_field 20 = .ok (.bipush 16, 2) := by decide +kernel
theorem d_M_field_22 : decode b_M_field 22 = .ok (.if_icmp .ne 7, 3) := by decide +kernel
theorem d_M_field_25 : decode b_M_field 25 = .ok (.iconst 2, 1) := by decide +kernel
theorem d_M_field_26 : decode b_M_field 26 = .ok (.goto 4, 3) := by decide +kernel
theorem d_M_field_29 : decode b_M_field 29 = .ok (.iconst 0, 1) := by decide +kernel
theorem d_M_field_30 : decode b_M_field 30 = .ok (.putfield 7, 3) := by decide +kernel
theorem d_M_field_33 : decode b_M_field 33 = .ok (.aload_n 0, 1) := by decide +kernel
theorem d_M_field_34 : decode b_M_field 34 = .ok (.getfield 7, 3) := by decide +kernel
theorem d_M_field_37 : decode b_M_field 37 = .ok (.ifCond .eq 5, 3) := by decide +kernel
theorem d_M_field_40 : decode b_M_field 40 = .ok (.iconst 0, 1) := by decide +kernel
theorem d_M_field_41 : decode b_M_field 41 = .ok (.ireturn, 1) := by decide +kernel
theorem d_M_field_42 : decode b_M_field 42 = .ok (.aload_n 0, 1) := by decide +kernel
theorem d_M_field_43 : decode b_M_field 43 = .ok (.getfield 16, 3) := by decide +kernel
theorem d_M_field_46 : decode b_M_field 46 = .ok (.aload_n 0, 1) := by decide +kernel
theorem d_M_field_47 : decode b_M_field 47 = .ok (.getfield 13, 3) := by decide +kernel
theorem d_M_field_50 : decode b_M_field 50 = .ok (.iload_n 1, 1) := by decide +kernel
theorem d_M_field_51 : decode b_M_field 51 = .ok (.iastore, 1) := by decide +kernel
theorem d_M_field_52 : decode b_M_field 52 = .ok (.aload_n 0, 1) := by decide +kernel
theorem d_M_field_53 : decode b_M_field 53 = .ok (.getfield 20, 3) := by decide +kernel
theorem d_M_field_56 : decode b_M_field 56 = .ok (.aload_n 0, 1) := by decide +kernel
theorem d_M_field_57 : decode b_M_field 57 = .ok (.getfield 13, 3) := by decide +kernel
theorem d_M_field_60 : decode b_M_field 60 = .ok (.iconst 0, 1) := by decide +kernel
theorem d_M_field_61 : decode b_M_field 61 = .ok (.iastore, 1) := by decide +kernel
theorem d_M_field_62 : decode b_M_field 62 = .ok (.aload_n 0, 1) := by decide +kernel
theorem d_M_field_63 : decode b_M_field 63 = .ok (.dup, 1) := by decide +kernel
theorem d_M_field_64 : decode b_M_field 64 = .ok (.getfield 13, 3) := by decide +kernel
theorem d_M_field_67 : decode b_M_field 67 = .ok (.iconst 1, 1) := by decide +kernel
theorem d_M_field_68 : decode b_M_field 68 = .ok (.iadd, 1) := by decide +kernel
theorem d_M_field_69 : decode b_M_field 69 = .ok (.putfield 13, 3) := by decide +kernel
theorem d_M_field_72 : decode b_M_field 72 = .ok (.aload_n 0, 1) := by decide +kernel
theorem d_M_field_73 : decode b_M_field 73 = .ok (.getfield 13, 3) := by decide +kernel
theorem d_M_field_76 : decode b_M_field 76 = .ok (.iconst 1, 1) := by decide +kernel
theorem d_M_field_77 : decode b_M_field 77 = .ok (.isub, 1) := by decide +kernel
theorem d_M_field_78 : decode b_M_field 78 = .ok (.ireturn, 1) := by decide +kernel
theorem d_M_set_0 : decode b_M_set 0 = .ok (.aload_n 0, 1) := by decide +kernel
theorem d_M_set_1 : decode b_M_set 1 = .ok (.iload_n 1, 1) := by decide +kernel
theorem d_M_set_2 : decode b_M_set 2 = .ok (.aload_n 0, 1) := by decide +kernel
theorem d_M_set_3 : decode b_M_set 3 = .ok (.getfield 13, 3) := by decide +kernel
theorem d_M_set_6 : decode b_M_set 6 = .ok (.invokestatic 91, 3) := by decide +kernel
theorem d_M_set_9 : decode b_M_set 9 = .ok (.ifCond .eq 7, 3) := by decide +kernel
theorem d_M_set_12 : decode b_M_set 12 = .ok (.iconst 1, 1) := by decide +kernel
theorem d_M_set_13 : decode b_M_set 13 = .ok (.goto 4, 3) := by decide +kernel
theorem d_M_set_16 : decode b_M_set 16 = .ok (.iconst 0, 1) := by decide +kernel
theorem d_M_set_17 : decode b_M_set 17 = .ok (.putfield 7, 3) := by decide +kernel
theorem d_M_set_20 : decode b_M_set 20 = .ok (.aload_n 0, 1) := by decide +kernel
theorem d_M_set_21 : decode b_M_set 21 = .ok (.getfield 7, 3) := by decide +kernel
theorem d_M_set_24 : decode b_M_set 24 = .ok (.ifCond .ne 9, 3) := by decide +kernel
theorem d_M_set_27 : decode b_M_set 27 = .ok (.aload_n 0, 1) := by decide +kernel
theorem d_M_set_28 : decode b_M_set 28 = .ok (.iload_n 1, 1) := by decide +kernel
theorem d_M_set_29 : decode b_M_set 29 = .ok (.iload_n 2, 1) := by decide +kernel
theorem d_M_set_30 : decode b_M_set 30 = .ok (.invokevirtual 87, 3) := by decide +kernel
theorem d_M_set_33 : decode b_M_set 33 = .ok (.return_, 1) := by decide +kernel
theorem d_M_not_0 : decode b_M_not 0 = .ok (.iload_n 0, 1) := by decide +kernel
theorem d_M_not_1 : decode b_M_not 1 = .ok (.ifCond .lt 8, 3) := by decide +kernel
theorem d_M_not_4 : decode b_M_not 4 = .ok (.iload_n 0, 1) := by decide +kernel
theorem d_M_not_5 : decode b_M_not 5 = .ok (.iload_n 1, 1) := by decide +kernel
theorem d_M_not_6 : decode b_M_not 6 = .ok (.if_icmp .lt 7, 3) := by decide +kernel
theorem d_M_not_9 : decode b_M_not 9 = .ok (.iconst 1, 1) := by decide +kernel
theorem d_M_not_10 : decode b_M_not 10 = .ok (.goto 4, 3) := by decide +kernel
theorem d_M_not_13 : decode b_M_not 13 = .ok (.iconst 0, 1) := by decide +kernel
theorem d_M_not_14 : decode b_M_not 14 = .ok (.ireturn, 1) := by decide +kernel
theorem d_M_hold_0 : decode b_M_hold 0 = .ok (.aload_n 0, 1) := by decide +kernel
theorem d_M_hold_1 : decode b_M_hold 1 = .ok (.getfield 20, 3) := by decide +kernel
theorem d_M_hold_4 : decode b_M_hold 4 = .ok (.iload_n 1, 1) := by decide +kernel
theorem d_M_hold_5 : decode b_M_hold 5 = .ok (.iload_n 2, 1) := by decide +kernel
theorem d_M_hold_6 : decode b_M_hold 6 = .ok (.aload_n 0, 1) := by decide +kernel
theorem d_M_hold_7 : decode b_M_hold 7 = .ok (.iload_n 1, 1) := by decide +kernel
theorem d_M_hold_8 : decode b_M_hold 8 = .ok (.invokevirtual 72, 3) := by decide +kernel
theorem d_M_hold_11 : decode b_M_hold 11 = .ok (.iand, 1) := by decide +kernel
theorem d_M_hold_12 : decode b_M_hold 12 = .ok (.iastore, 1) := by decide +kernel
theorem d_M_hold_13 : decode b_M_hold 13 = .ok (.return_, 1) := by decide +kernel
theorem d_M_ones_0 : decode b_M_ones 0 = .ok (.aload_n 0, 1) := by decide +kernel
theorem d_M_ones_1 : decode b_M_ones 1 = .ok (.getfield 16, 3) := by decide +kernel
theorem d_M_ones_4 : decode b_M_ones 4 = .ok (.iload_n 1, 1) := by decide +kernel
theorem d_M_ones_5 : decode b_M_ones 5 = .ok (.iaload, 1) := by decide +kernel
theorem d_M_ones_6 : decode b_M_ones 6 = .ok (.bipush 32, 2) := by decide +kernel
theorem d_M_ones_8 : decode b_M_ones 8 = .ok (.if_icmp .ne 7, 3) := by decide +kernel
theorem d_M_ones_11 : decode b_M_ones 11 = .ok (.iconst (-1), 1) := by decide +kernel
theorem d_M_ones_12 : decode b_M_ones 12 = .ok (.goto 13, 3) := by decide +kernel
theorem d_M_ones_15 : decode b_M_ones 15 = .ok (.iconst 1, 1) := by decide +kernel
theorem d_M_ones_16 : decode b_M_ones 16 = .ok (.aload_n 0, 1) := by decide +kernel
theorem d_M_ones_17 : decode b_M_ones 17 = .ok (.getfield 16, 3) := by decide +kernel
theorem d_M_ones_20 : decode b_M_ones 20 = .ok (.iload_n 1, 1) := by decide +kernel
theorem d_M_ones_21 : decode b_M_ones 21 = .ok (.iaload, 1) := by decide +kernel
theorem d_M_ones_22 : decode b_M_ones 22 = .ok (.ishl, 1) := by decide +kernel
theorem d_M_ones_23 : decode b_M_ones 23 = .ok (.iconst 1, 1) := by decide +kernel
theorem d_M_ones_24 : decode b_M_ones 24 = .ok (.isub, 1) := by decide +kernel
theorem d_M_ones_25 : decode b_M_ones 25 = .ok (.ireturn, 1) := by decide +kernel
theorem d_M_get_0 : decode b_M_get 0 = .ok (.aload_n 0, 1) := by decide +kernel
theorem d_M_get_1 : decode b_M_get 1 = .ok (.iconst 0, 1) := by decide +kernel
theorem d_M_get_2 : decode b_M_get 2 = .ok (.putfield 7, 3) := by decide +kernel
theorem d_M_get_5 : decode b_M_get 5 = .ok (.iload_n 1, 1) := by decide +kernel
theorem d_M_get_6 : decode b_M_get 6 = .ok (.aload_n 0, 1) := by decide +kernel
theorem d_M_get_7 : decode b_M_get 7 = .ok (.getfield 13, 3) := by decide +kernel
theorem d_M_get_10 : decode b_M_get 10 = .ok (.invokestatic 91, 3) := by decide +kernel
theorem d_M_get_13 : decode b_M_get 13 = .ok (.ifCond .eq 7, 3) := by decide +kernel
theorem d_M_get_16 : decode b_M_get 16 = .ok (.iconst 0, 1) := by decide +kernel
theorem d_M_get_17 : decode b_M_get 17 = .ok (.goto 9, 3) := by decide +kernel
theorem d_M_get_20 : decode b_M_get 20 = .ok (.aload_n 0, 1) := by decide +kernel
theorem d_M_get_21 : decode b_M_get 21 = .ok (.getfield 20, 3) := by decide +kernel
theorem d_M_get_24 : decode b_M_get 24 = .ok (.iload_n 1, 1) := by decide +kernel
theorem d_M_get_25 : decode b_M_get 25 = .ok (.iaload, 1) := by decide +kernel
theorem d_M_get_26 : decode b_M_get 26 = .ok (.ireturn, 1) := by decide +kernel
theorem d_M_action_0 : decode b_M_action 0 = .ok (.aload_n 0, 1) := by decide +kernel
theorem d_M_action_1 : decode b_M_action 1 = .ok (.aload_n 0, 1) := by decide +kernel
theorem d_M_action_2 : decode b_M_action 2 = .ok (.getfield 23, 3) := by decide +kernel
theorem d_M_action_5 : decode b_M_action 5 = .ok (.bipush 16, 2) := by decide +kernel
theorem d_M_action_7 : decode b_M_action 7 = .ok (.if_icmp .ne 7, 3) := by decide +kernel
theorem d_M_action_10 : decode b_M_action 10 = .ok (.iconst 1, 1) := by decide +kernel
theorem d_M_action_11 : decode b_M_action 11 = .ok (.goto 4, 3) := by decide +kernel
theorem d_M_action_14 : decode b_M_action 14 = .ok (.iconst 0, 1) := by decide +kernel
theorem d_M_action_15 : decode b_M_action 15 = .ok (.putfield 7, 3) := by decide +kernel
theorem d_M_action_18 : decode b_M_action 18 = .ok (.aload_n 0, 1) := by decide +kernel
theorem d_M_action_19 : decode b_M_action 19 = .ok (.getfield 7, 3) := by decide +kernel
theorem d_M_action_22 : decode b_M_action 22 = .ok (.ifCond .eq 5, 3) := by decide +kernel
theorem d_M_action_25 : decode b_M_action 25 = .ok (.iconst 0, 1) := by decide +kernel
theorem d_M_action_26 : decode b_M_action 26 = .ok (.ireturn, 1) := by decide +kernel
theorem d_M_action_27 : decode b_M_action 27 = .ok (.aload_n 0, 1) := by decide +kernel
theorem d_M_action_28 : decode b_M_action 28 = .ok (.getfield 26, 3) := by decide +kernel
theorem d_M_action_31 : decode b_M_action 31 = .ok (.aload_n 0, 1) := by decide +kernel
theorem d_M_action_32 : decode b_M_action 32 = .ok (.getfield 23, 3) := by decide +kernel
theorem d_M_action_35 : decode b_M_action 35 = .ok (.iconst 0, 1) := by decide +kernel
theorem d_M_action_36 : decode b_M_action 36 = .ok (.iastore, 1) := by decide +kernel
theorem d_M_action_37 : decode b_M_action 37 = .ok (.aload_n 0, 1) := by decide +kernel
theorem d_M_action_38 : decode b_M_action 38 = .ok (.dup, 1) := by decide +kernel
theorem d_M_action_39 : decode b_M_action 39 = .ok (.getfield 23, 3) := by decide +kernel
theorem d_M_action_42 : decode b_M_action 42 = .ok (.iconst 1, 1) := by decide +kernel
theorem d_M_action_43 : decode b_M_action 43 = .ok (.iadd, 1) := by decide +kernel
theorem d_M_action_44 : decode b_M_action 44 = .ok (.putfield 23, 3) := by decide +kernel
theorem d_M_action_47 : decode b_M_action 47 = .ok (.aload_n 0, 1) := by decide +kernel
theorem d_M_action_48 : decode b_M_action 48 = .ok (.getfield 23, 3) := by decide +kernel
theorem d_M_action_51 : decode b_M_action 51 = .ok (.iconst 1, 1) := by decide +kernel
theorem d_M_action_52 : decode b_M_action 52 = .ok (.isub, 1) := by decide +kernel
theorem d_M_action_53 : decode b_M_action 53 = .ok (.ireturn, 1) := by decide +kernel
theorem d_M_doing_0 : decode b_M_doing 0 = .ok (.aload_n 0, 1) := by decide +kernel
theorem d_M_doing_1 : decode b_M_doing 1 = .ok (.iload_n 2, 1) := by decide +kernel
theorem d_M_doing_2 : decode b_M_doing 2 = .ok (.bipush 9, 2) := by decide +kernel
theorem d_M_doing_4 : decode b_M_doing 4 = .ok (.invokestatic 91, 3) := by decide +kernel
theorem d_M_doing_7 : decode b_M_doing 7 = .ok (.ifCond .eq 7, 3) := by decide +kernel
theorem d_M_doing_10 : decode b_M_doing 10 = .ok (.iconst 2, 1) := by decide +kernel
theorem d_M_doing_11 : decode b_M_doing 11 = .ok (.goto 46, 3) := by decide +kernel
theorem d_M_doing_14 : decode b_M_doing 14 = .ok (.iload_n 1, 1) := by decide +kernel
theorem d_M_doing_15 : decode b_M_doing 15 = .ok (.aload_n 0, 1) := by decide +kernel
theorem d_M_doing_16 : decode b_M_doing 16 = .ok (.getfield 23, 3) := by decide +kernel
theorem d_M_doing_19 : decode b_M_doing 19 = .ok (.invokestatic 91, 3) := by decide +kernel
theorem d_M_doing_22 : decode b_M_doing 22 = .ok (.ifCond .ne 16, 3) := by decide +kernel
theorem d_M_doing_25 : decode b_M_doing 25 = .ok (.aload_n 0, 1) := by decide +kernel
theorem d_M_doing_26 : decode b_M_doing 26 = .ok (.iload_n 2, 1) := by decide +kernel
theorem d_M_doing_27 : decode b_M_doing 27 = .ok (.iload_n 3, 1) := by decide +kernel
theorem d_M_doing_28 : decode b_M_doing 28 = .ok (.iload 4, 2) := by decide +kernel
theorem d_M_doing_30 : decode b_M_doing 30 = .ok (.iload 5, 2) := by decide +kernel
theorem d_M_doing_32 : decode b_M_doing 32 = .ok (.invokevirtual 95, 3) := by decide +kernel
theorem d_M_doing_35 : decode b_M_doing 35 = .ok (.ifCond .eq 7, 3) := by decide +kernel
theorem d_M_doing_38 : decode b_M_doing 38 = .ok (.iconst 1, 1) := by decide +kernel
theorem d_M_doing_39 : decode b_M_doing 39 = .ok (.goto 18, 3) := by decide +kernel
theorem d_M_doing_42 : decode b_M_doing 42 = .ok (.aload_n 0, 1) := by decide +kernel
theorem d_M_doing_43 : decode b_M_doing 43 = .ok (.getfield 26, 3) := by decide +kernel
theorem d_M_doing_46 : decode b_M_doing 46 = .ok (.iload_n 1, 1) := by decide +kernel
theorem d_M_doing_47 : decode b_M_doing 47 = .ok (.iaload, 1) := by decide +kernel
theorem d_M_doing_48 : decode b_M_doing 48 = .ok (.iconst 4, 1) := by decide +kernel
theorem d_M_doing_49 : decode b_M_doing 49 = .ok (.if_icmp .ne 7, 3) := by decide +kernel
theorem d_M_doing_52 : decode b_M_doing 52 = .ok (.iconst 3, 1) := by decide +kernel
theorem d_M_doing_53 : decode b_M_doing 53 = .ok (.goto 4, 3) := by decide +kernel
theorem d_M_doing_56 : decode b_M_doing 56 = .ok (.iconst 0, 1) := by decide +kernel
theorem d_M_doing_57 : decode b_M_doing 57 = .ok (.putfield 7, 3) := by decide +kernel
theorem d_M_doing_60 : decode b_M_doing 60 = .ok (.aload_n 0, 1) := by decide +kernel
theorem d_M_doing_61 : decode b_M_doing 61 = .ok (.getfield 7, 3) := by decide +kernel
theorem d_M_doing_64 : decode b_M_doing 64 = .ok (.ifCond .eq 4, 3) := by decide +kernel
theorem d_M_doing_67 : decode b_M_doing 67 = .ok (.return_, 1) := by decide +kernel
theorem d_M_doing_68 : decode b_M_doing 68 = .ok (.bipush 16, 2) := by decide +kernel
theorem d_M_doing_70 : decode b_M_doing 70 = .ok (.iload_n 1, 1) := by decide +kernel
theorem d_M_doing_71 : decode b_M_doing 71 = .ok (.imul, 1) := by decide +kernel
theorem d_M_doing_72 : decode b_M_doing 72 = .ok (.iconst 4, 1) := by decide +kernel
theorem d_M_doing_73 : decode b_M_doing 73 = .ok (.aload_n 0, 1) := by decide +kernel
theorem d_M_doing_74 : decode b_M_doing 74 = .ok (.getfield 26, 3) := by decide +kernel
theorem d_M_doing_77 : decode b_M_doing 77 = .ok (.iload_n 1, 1) := by decide +kernel
theorem d_M_doing_78 : decode b_M_doing 78 = .ok (.iaload, 1) := by decide +kernel
theorem d_M_doing_79 : decode b_M_doing 79 = .ok (.imul, 1) := by decide +kernel
theorem d_M_doing_80 : decode b_M_doing 80 = .ok (.iadd, 1) := by decide +kernel
theorem d_M_doing_81 : decode b_M_doing 81 = .ok (.istore 6, 2) := by decide +kernel
theorem d_M_doing_83 : decode b_M_doing 83 = .ok (.aload_n 0, 1) := by decide +kernel
theorem d_M_doing_84 : decode b_M_doing 84 = .ok (.getfield 29, 3) := by decide +kernel
theorem d_M_doing_87 : decode b_M_doing 87 = .ok (.iload 6, 2) := by decide +kernel
theorem d_M_doing_89 : decode b_M_doing 89 = .ok (.iload_n 2, 1) := by decide +kernel
theorem d_M_doing_90 : decode b_M_doing 90 = .ok (.iastore, 1) := by decide +kernel
theorem d_M_doing_91 : decode b_M_doing 91 = .ok (.aload_n 0, 1) := by decide +kernel
theorem d_M_doing_92 : decode b_M_doing 92 = .ok (.getfield 29, 3) := by decide +kernel
theorem d_M_doing_95 : decode b_M_doing 95 = .ok (.iload 6, 2) := by decide +kernel
theorem d_M_doing_97 : decode b_M_doing 97 = .ok (.iconst 1, 1) := by decide +kernel
theorem d_M_doing_98 : decode b_M_doing 98 = .ok (.iadd, 1) := by decide +kernel
theorem d_M_doing_99 : decode b_M_doing 99 = .ok (.iload_n 3, 1) := by decide +kernel
theorem d_M_doing_100 : decode b_M_doing 100 = .ok (.iastore, 1) := by decide +kernel
theorem d_M_doing_101 : decode b_M_doing 101 = .ok (.aload_n 0, 1) := by decide +kernel
theorem d_M_doing_102 : decode b_M_doing 102 = .ok (.getfield 29, 3) := by decide +kernel
theorem d_M_doing_105 : decode b_M_doing 105 = .ok (.iload 6, 2) := by decide +kernel
theorem d_M_doing_107 : decode b_M_doing 107 = .ok (.iconst 2, 1) := by decide +kernel
theorem d_M_doing_108 : decode b_M_doing 108 = .ok (.iadd, 1) := by decide +kernel
theorem d_M_doing_109 : decode b_M_doing 109 = .ok (.iload 4, 2) := by decide +kernel
theorem d_M_doing_111 : decode b_M_doing 111 = .ok (.iastore, 1) := by decide +kernel
theorem d_M_doing_112 : decode b_M_doing 112 = .ok (.aload_n 0, 1) := by decide +kernel
theorem d_M_doing_113 : decode b_M_doing 113 = .ok (.getfield 29, 3) := by decide +kernel
theorem d_M_doing_116 : decode b_M_doing 116 = .ok (.iload 6, 2) := by decide +kernel
theorem d_M_doing_118 : decode b_M_doing 118 = .ok (.iconst 3, 1) := by decide +kernel
theorem d_M_doing_119 : decode b_M_doing 119 = .ok (.iadd, 1) := by decide +kernel
theorem d_M_doing_120 : decode b_M_doing 120 = .ok (.iload 5, 2) := by decide +kernel
theorem d_M_doing_122 : decode b_M_doing 122 = .ok (.iastore, 1) := by decide +kernel
theorem d_M_doing_123 : decode b_M_doing 123 = .ok (.aload_n 0, 1) := by decide +kernel
theorem d_M_doing_124 : decode b_M_doing 124 = .ok (.getfield 26, 3) := by decide +kernel
theorem d_M_doing_127 : decode b_M_doing 127 = .ok (.iload_n 1, 1) := by decide +kernel
theorem d_M_doing_128 : decode b_M_doing 128 = .ok (.aload_n 0, 1) := by decide +kernel
theorem d_M_doing_129 : decode b_M_doing 129 = .ok (.getfield 26, 3) := by decide +kernel
theorem d_M_doing_132 : decode b_M_doing 132 = .ok (.iload_n 1, 1) := by decide +kernel
theorem d_M_doing_133 : decode b_M_doing 133 = .ok (.iaload, 1) := by decide +kernel
theorem d_M_doing_134 : decode b_M_doing 134 = .ok (.iconst 1, 1) := by decide +kernel
theorem d_M_doing_135 : decode b_M_doing 135 = .ok (.iadd, 1) := by decide +kernel
theorem d_M_doing_136 : decode b_M_doing 136 = .ok (.iastore, 1) := by decide +kernel
theorem d_M_doing_137 : decode b_M_doing 137 = .ok (.return_, 1) := by decide +kernel
theorem d_M_unknown_0 : decode b_M_unknown 0 = .ok (.iload_n 1, 1) := by decide +kernel
theorem d_M_unknown_1 : decode b_M_unknown 1 = .ok (.iconst 4, 1) := by decide +kernel
theorem d_M_unknown_2 : decode b_M_unknown 2 = .ok (.if_icmp .lt 9, 3) := by decide +kernel
theorem d_M_unknown_5 : decode b_M_unknown 5 = .ok (.iload_n 1, 1) := by decide +kernel
theorem d_M_unknown_6 : decode b_M_unknown 6 = .ok (.bipush 8, 2) := by decide +kernel
theorem d_M_unknown_8 : decode b_M_unknown 8 = .ok (.if_icmp .ne 7, 3) := by decide +kernel
theorem d_M_unknown_11 : decode b_M_unknown 11 = .ok (.iconst 1, 1) := by decide +kernel
theorem d_M_unknown_12 : decode b_M_unknown 12 = .ok (.goto 4, 3) := by decide +kernel
theorem d_M_unknown_15 : decode b_M_unknown 15 = .ok (.iconst 0, 1) := by decide +kernel
theorem d_M_unknown_16 : decode b_M_unknown 16 = .ok (.istore 5, 2) := by decide +kernel
theorem d_M_unknown_18 : decode b_M_unknown 18 = .ok (.iload_n 1, 1) := by decide +kernel
theorem d_M_unknown_19 : decode b_M_unknown 19 = .ok (.iconst 1, 1) := by decide +kernel
theorem d_M_unknown_20 : decode b_M_unknown 20 = .ok (.if_icmp .eq 14, 3) := by decide +kernel
theorem d_M_unknown_23 : decode b_M_unknown 23 = .ok (.iload_n 1, 1) := by decide +kernel
theorem d_M_unknown_24 : decode b_M_unknown 24 = .ok (.iconst 2, 1) := by decide +kernel
theorem d_M_unknown_25 : decode b_M_unknown 25 = .ok (.if_icmp .eq 9, 3) := by decide +kernel
theorem d_M_unknown_28 : decode b_M_unknown 28 = .ok (.iload_n 1, 1) := by decide +kernel
theorem d_M_unknown_29 : decode b_M_unknown 29 = .ok (.bipush 6, 2) := by decide +kernel
theorem d_M_unknown_31 : decode b_M_unknown 31 = .ok (.if_icmp .le 7, 3) := by decide +kernel
theorem d_M_unknown_34 : decode b_M_unknown 34 = .ok (.iconst 1, 1) := by decide +kernel
theorem d_M_unknown_35 : decode b_M_unknown 35 = .ok (.goto 4, 3) := by decide +kernel
theorem d_M_unknown_38 : decode b_M_unknown 38 = .ok (.iconst 0, 1) := by decide +kernel
theorem d_M_unknown_39 : decode b_M_unknown 39 = .ok (.istore 6, 2) := by decide +kernel
theorem d_M_unknown_41 : decode b_M_unknown 41 = .ok (.iload_n 1, 1) := by decide +kernel
theorem d_M_unknown_42 : decode b_M_unknown 42 = .ok (.iconst 3, 1) := by decide +kernel
theorem d_M_unknown_43 : decode b_M_unknown 43 = .ok (.if_icmp .eq 8, 3) := by decide +kernel
theorem d_M_unknown_46 : decode b_M_unknown 46 = .ok (.iload_n 1, 1) := by decide +kernel
theorem d_M_unknown_47 : decode b_M_unknown 47 = .ok (.iconst 5, 1) := by decide +kernel
theorem d_M_unknown_48 : decode b_M_unknown 48 = .ok (.if_icmp .ne 7, 3) := by decide +kernel
theorem d_M_unknown_51 : decode b_M_unknown 51 = .ok (.iconst 1, 1) := by decide +kernel
theorem d_M_unknown_52 : decode b_M_unknown 52 = .ok (.goto 4, 3) := by decide +kernel
theorem d_M_unknown_55 : decode b_M_unknown 55 = .ok (.iconst 0, 1) := by decide +kernel
theorem d_M_unknown_56 : decode b_M_unknown 56 = .ok (.istore 7, 2) := by decide +kernel
theorem d_M_unknown_58 : decode b_M_unknown 58 = .ok (.iload 5, 2) := by decide +kernel
theorem d_M_unknown_60 : decode b_M_unknown 60 = .ok (.ifCond .eq 14, 3) := by decide +kernel
theorem d_M_unknown_63 : decode b_M_unknown 63 = .ok (.iload_n 2, 1) := by decide +kernel
theorem d_M_unknown_64 : decode b_M_unknown 64 = .ok (.aload_n 0, 1) := by decide +kernel
theorem d_M_unknown_65 : decode b_M_unknown 65 = .ok (.getfield 13, 3) := by decide +kernel
theorem d_M_unknown_68 : decode b_M_unknown 68 = .ok (.invokestatic 91, 3) := by decide +kernel
theorem d_M_unknown_71 : decode b_M_unknown 71 = .ok (.ifCond .ne 32, 3) := by decide +kernel
theorem d_M_unknown_74 : decode b_M_unknown 74 = .ok (.iload 6, 2) := by decide +kernel
theorem d_M_unknown_76 : decode b_M_unknown 76 = .ok (.ifCond .eq 14, 3) := by decide +kernel
theorem d_M_unknown_79 : decode b_M_unknown 79 = .ok (.iload_n 3, 1) := by decide +kernel
theorem d_M_unknown_80 : decode b_M_unknown 80 = .ok (.aload_n 0, 1) := by decide +kernel
theorem d_M_unknown_81 : decode b_M_unknown 81 = .ok (.getfield 13, 3) := by decide +kernel
theorem d_M_unknown_84 : decode b_M_unknown 84 = .ok (.invokestatic 91, 3) := by decide +kernel
theorem d_M_unknown_87 : decode b_M_unknown 87 = .ok (.ifCond .ne 16, 3) := by decide +kernel
theorem d_M_unknown_90 : decode b_M_unknown 90 = .ok (.iload 7, 2) := by decide +kernel
theorem d_M_unknown_92 : decode b_M_unknown 92 = .ok (.ifCond .eq 13, 3) := by decide +kernel
theorem d_M_unknown_95 : decode b_M_unknown 95 = .ok (.iload_n 3, 1) := by decide +kernel
theorem d_M_unknown_96 : decode b_M_unknown 96 = .ok (.iconst 2, 1) := by decide +kernel
theorem d_M_unknown_97 : decode b_M_unknown 97 = .ok (.invokestatic 91, 3) := by decide +kernel
theorem d_M_unknown_100 : decode b_M_unknown 100 = .ok (.ifCond .eq 5, 3) := by decide +kernel
theorem d_M_unknown_103 : decode b_M_unknown 103 = .ok (.iconst 1, 1) := by decide +kernel
theorem d_M_unknown_104 : decode b_M_unknown 104 = .ok (.ireturn, 1) := by decide +kernel
theorem d_M_unknown_105 : decode b_M_unknown 105 = .ok (.iload_n 1, 1) := by decide +kernel
theorem d_M_unknown_106 : decode b_M_unknown 106 = .ok (.bipush 7, 2) := by decide +kernel
theorem d_M_unknown_108 : decode b_M_unknown 108 = .ok (.if_icmp .ne 11, 3) := by decide +kernel
theorem d_M_unknown_111 : decode b_M_unknown 111 = .ok (.iload_n 2, 1) := by decide +kernel
theorem d_M_unknown_112 : decode b_M_unknown 112 = .ok (.iconst 4, 1) := by decide +kernel
theorem d_M_unknown_113 : decode b_M_unknown 113 = .ok (.invokestatic 91, 3) := by decide +kernel
theorem d_M_unknown_116 : decode b_M_unknown 116 = .ok (.ifCond .ne 18, 3) := by decide +kernel
theorem d_M_unknown_119 : decode b_M_unknown 119 = .ok (.iload_n 1, 1) := by decide +kernel
theorem d_M_unknown_120 : decode b_M_unknown 120 = .ok (.bipush 8, 2) := by decide +kernel
theorem d_M_unknown_122 : decode b_M_unknown 122 = .ok (.if_icmp .ne 16, 3) := by decide +kernel
theorem d_M_unknown_125 : decode b_M_unknown 125 = .ok (.iload 4, 2) := by decide +kernel
theorem d_M_unknown_127 : decode b_M_unknown 127 = .ok (.iconst 4, 1) := by decide +kernel
theorem d_M_unknown_128 : decode b_M_unknown 128 = .ok (.invokestatic 91, 3) := by decide +kernel
theorem d_M_unknown_131 : decode b_M_unknown 131 = .ok (.ifCond .eq 7, 3) := by decide +kernel
theorem d_M_unknown_134 : decode b_M_unknown 134 = .ok (.iconst 1, 1) := by decide +kernel
theorem d_M_unknown_135 : decode b_M_unknown 135 = .ok (.goto 4, 3) := by decide +kernel
theorem d_M_unknown_138 : decode b_M_unknown 138 = .ok (.iconst 0, 1) := by decide +kernel
theorem d_M_unknown_139 : decode b_M_unknown 139 = .ok (.ireturn, 1) := by decide +kernel
theorem d_M_table_0 : decode b_M_table 0 = .ok (.iload_n 1, 1) := by decide +kernel
theorem d_M_table_1 : decode b_M_table 1 = .ok (.aload_n 0, 1) := by decide +kernel
theorem d_M_table_2 : decode b_M_table 2 = .ok (.getfield 13, 3) := by decide +kernel
theorem d_M_table_5 : decode b_M_table 5 = .ok (.invokestatic 91, 3) := by decide +kernel
theorem d_M_table_8 : decode b_M_table 8 = .ok (.ifCond .ne 46, 3) := by decide +kernel
theorem d_M_table_11 : decode b_M_table 11 = .ok (.iload_n 2, 1) := by decide +kernel
theorem d_M_table_12 : decode b_M_table 12 = .ok (.iconst (-1), 1) := by decide +kernel
theorem d_M_table_13 : decode b_M_table 13 = .ok (.if_icmp .eq 14, 3) := by decide +kernel
theorem d_M_table_16 : decode b_M_table 16 = .ok (.iload_n 2, 1) := by decide +kernel
theorem d_M_table_17 : decode b_M_table 17 = .ok (.aload_n 0, 1) := by decide +kernel
theorem d_M_table_18 : decode b_M_table 18 = .ok (.getfield 13, 3) := by decide +kernel
theorem d_M_table_21 : decode b_M_table 21 = .ok (.invokestatic 91, 3) := by decide +kernel
theorem d_M_table_24 : decode b_M_table 24 = .ok (.ifCond .ne 30, 3) := by decide +kernel
theorem d_M_table_27 : decode b_M_table 27 = .ok (.iload_n 1, 1) := by decide +kernel
theorem d_M_table_28 : decode b_M_table 28 = .ok (.iload_n 2, 1) := by decide +kernel
theorem d_M_table_29 : decode b_M_table 29 = .ok (.if_icmp .eq 25, 3) := by decide +kernel
theorem d_M_table_32 : decode b_M_table 32 = .ok (.iload 4, 2) := by decide +kernel
theorem d_M_table_34 : decode b_M_table 34 = .ok (.aload_n 0, 1) := by decide +kernel
theorem d_M_table_35 : decode b_M_table 35 = .ok (.getfield 23, 3) := by decide +kernel
theorem d_M_table_38 : decode b_M_table 38 = .ok (.iushr, 1) := by decide +kernel
theorem d_M_table_39 : decode b_M_table 39 = .ok (.ifCond .ne 15, 3) := by decide +kernel
theorem d_M_table_42 : decode b_M_table 42 = .ok (.iload 5, 2) := by decide +kernel
theorem d_M_table_44 : decode b_M_table 44 = .ok (.aload_n 0, 1) := by decide +kernel
theorem d_M_table_45 : decode b_M_table 45 = .ok (.getfield 23, 3) := by decide +kernel
theorem d_M_table_48 : decode b_M_table 48 = .ok (.invokestatic 91, 3) := by decide +kernel
theorem d_M_table_51 : decode b_M_table 51 = .ok (.ifCond .eq 7, 3) := by decide +kernel
theorem d_M_table_54 : decode b_M_table 54 = .ok (.iconst 1, 1) := by decide +kernel
theorem d_M_table_55 : decode b_M_table 55 = .ok (.goto 4, 3) := by decide +kernel
theorem d_M_table_58 : decode b_M_table 58 = .ok (.iconst 0, 1) := by decide +kernel
theorem d_M_table_59 : decode b_M_table 59 = .ok (.istore 6, 2) := by decide +kernel
theorem d_M_table_61 : decode b_M_table 61 = .ok (.iload 6, 2) := by decide +kernel
theorem d_M_table_63 : decode b_M_table 63 = .ok (.ifCond .ne 20, 3) := by decide +kernel
theorem d_M_table_66 : decode b_M_table 66 = .ok (.iload 4, 2) := by decide +kernel
theorem d_M_table_68 : decode b_M_table 68 = .ok (.iload 5, 2) := by decide +kernel
theorem d_M_table_70 : decode b_M_table 70 = .ok (.ishr, 1) := by decide +kernel
theorem d_M_table_71 : decode b_M_table 71 = .ok (.iconst 1, 1) := by decide +kernel
theorem d_M_table_72 : decode b_M_table 72 = .ok (.iand, 1) := by decide +kernel
theorem d_M_table_73 : decode b_M_table 73 = .ok (.ifCond .ne 7, 3) := by decide +kernel
theorem d_M_table_76 : decode b_M_table 76 = .ok (.iconst 1, 1) := by decide +kernel
theorem d_M_table_77 : decode b_M_table 77 = .ok (.goto 4, 3) := by decide +kernel
theorem d_M_table_80 : decode b_M_table 80 = .ok (.iconst 0, 1) := by decide +kernel
theorem d_M_table_81 : decode b_M_table 81 = .ok (.istore 6, 2) := by decide +kernel
theorem d_M_table_83 : decode b_M_table 83 = .ok (.iload_n 3, 1) := by decide +kernel
theorem d_M_table_84 : decode b_M_table 84 = .ok (.ifCond .lt 31, 3) := by decide +kernel
theorem d_M_table_87 : decode b_M_table 87 = .ok (.iload_n 3, 1) := by decide +kernel
theorem d_M_table_88 : decode b_M_table 88 = .ok (.bipush 10, 2) := by decide +kernel
theorem d_M_table_90 : decode b_M_table 90 = .ok (.if_icmp .gt 25, 3) := by decide +kernel
theorem d_M_table_93 : decode b_M_table 93 = .ok (.iload_n 3, 1) := by decide +kernel
theorem d_M_table_94 : decode b_M_table 94 = .ok (.iconst 4, 1) := by decide +kernel
theorem d_M_table_95 : decode b_M_table 95 = .ok (.irem, 1) := by decide +kernel
theorem d_M_table_96 : decode b_M_table 96 = .ok (.iconst 3, 1) := by decide +kernel
theorem d_M_table_97 : decode b_M_table 97 = .ok (.if_icmp .eq 18, 3) := by decide +kernel
theorem d_M_table_100 : decode b_M_table 100 = .ok (.iload_n 2, 1) := by decide +kernel
theorem d_M_table_101 : decode b_M_table 101 = .ok (.iconst (-1), 1) := by decide +kernel
theorem d_M_table_102 : decode b_M_table 102 = .ok (.if_icmp .ne 8, 3) := by decide +kernel
theorem d_M_table_105 : decode b_M_table 105 = .ok (.iload_n 3, 1) := by decide +kernel
theorem d_M_table_106 : decode b_M_table 106 = .ok (.iconst 2, 1) := by decide +kernel
theorem d_M_table_107 : decode b_M_table 107 = .ok (.if_icmp .gt 8, 3) := by decide +kernel
theorem d_M_table_110 : decode b_M_table 110 = .ok (.iload_n 3, 1) := by decide +kernel
theorem d_M_table_111 : decode b_M_table 111 = .ok (.iconst 5, 1) := by decide +kernel
theorem d_M_table_112 : decode b_M_table 112 = .ok (.if_icmp .ne 7, 3) := by decide +kernel
theorem d_M_table_115 : decode b_M_table 115 = .ok (.iconst 1, 1) := by decide +kernel
theorem d_M_table_116 : decode b_M_table 116 = .ok (.goto 4, 3) := by decide +kernel
theorem d_M_table_119 : decode b_M_table 119 = .ok (.iconst 0, 1) := by decide +kernel
theorem d_M_table_120 : decode b_M_table 120 = .ok (.istore 7, 2) := by decide +kernel
theorem d_M_table_122 : decode b_M_table 122 = .ok (.aload_n 0, 1) := by decide +kernel
theorem d_M_table_123 : decode b_M_table 123 = .ok (.iload 6, 2) := by decide +kernel
theorem d_M_table_125 : decode b_M_table 125 = .ok (.ifCond .eq 7, 3) := by decide +kernel
theorem d_M_table_128 : decode b_M_table 128 = .ok (.iconst 1, 1) := by decide +kernel
theorem d_M_table_129 : decode b_M_table 129 = .ok (.goto 26, 3) := by decide +kernel
theorem d_M_table_132 : decode b_M_table 132 = .ok (.iload 7, 2) := by decide +kernel
theorem d_M_table_134 : decode b_M_table 134 = .ok (.ifCond .eq 7, 3) := by decide +kernel
theorem d_M_table_137 : decode b_M_table 137 = .ok (.iconst 2, 1) := by decide +kernel
theorem d_M_table_138 : decode b_M_table 138 = .ok (.goto 17, 3) := by decide +kernel
theorem d_M_table_141 : decode b_M_table 141 = .ok (.aload_n 0, 1) := by decide +kernel
theorem d_M_table_142 : decode b_M_table 142 = .ok (.getfield 35, 3) := by decide +kernel
theorem d_M_table_145 : decode b_M_table 145 = .ok (.bipush 8, 2) := by decide +kernel
theorem d_M_table_147 : decode b_M_table 147 = .ok (.if_icmp .ne 7, 3) := by decide +kernel
theorem d_M_table_150 : decode b_M_table 150 = .ok (.iconst 3, 1) := by decide +kernel
theorem d_M_table_151 : decode b_M_table 151 = .ok (.goto 4, 3) := by decide +kernel
theorem d_M_table_154 : decode b_M_table 154 = .ok (.iconst 0, 1) := by decide +kernel
theorem d_M_table_155 : decode b_M_table 155 = .ok (.putfield 7, 3) := by decide +kernel
theorem d_M_table_158 : decode b_M_table 158 = .ok (.aload_n 0, 1) := by decide +kernel
theorem d_M_table_159 : decode b_M_table 159 = .ok (.getfield 7, 3) := by decide +kernel
theorem d_M_table_162 : decode b_M_table 162 = .ok (.ifCond .eq 5, 3) := by decide +kernel
theorem d_M_table_165 : decode b_M_table 165 = .ok (.iconst 0, 1) := by decide +kernel
theorem d_M_table_166 : decode b_M_table 166 = .ok (.ireturn, 1) := by decide +kernel
theorem d_M_table_167 : decode b_M_table 167 = .ok (.aload_n 0, 1) := by decide +kernel
theorem d_M_table_168 : decode b_M_table 168 = .ok (.getfield 38, 3) := by decide +kernel
theorem d_M_table_171 : decode b_M_table 171 = .ok (.aload_n 0, 1) := by decide +kernel
theorem d_M_table_172 : decode b_M_table 172 = .ok (.getfield 35, 3) := by decide +kernel
theorem d_M_table_175 : decode b_M_table 175 = .ok (.iload_n 1, 1) := by decide +kernel
theorem d_M_table_176 : decode b_M_table 176 = .ok (.iastore, 1) := by decide +kernel
theorem d_M_table_177 : decode b_M_table 177 = .ok (.aload_n 0, 1) := by decide +kernel
theorem d_M_table_178 : decode b_M_table 178 = .ok (.getfield 41, 3) := by decide +kernel
theorem d_M_table_181 : decode b_M_table 181 = .ok (.aload_n 0, 1) := by decide +kernel
theorem d_M_table_182 : decode b_M_table 182 = .ok (.getfield 35, 3) := by decide +kernel
theorem d_M_table_185 : decode b_M_table 185 = .ok (.iload_n 2, 1) := by decide +kernel
theorem d_M_table_186 : decode b_M_table 186 = .ok (.iastore, 1) := by decide +kernel
theorem d_M_table_187 : decode b_M_table 187 = .ok (.aload_n 0, 1) := by decide +kernel
theorem d_M_table_188 : decode b_M_table 188 = .ok (.getfield 44, 3) := by decide +kernel
theorem d_M_table_191 : decode b_M_table 191 = .ok (.aload_n 0, 1) := by decide +kernel
theorem d_M_table_192 : decode b_M_table 192 = .ok (.getfield 35, 3) := by decide +kernel
theorem d_M_table_195 : decode b_M_table 195 = .ok (.iload_n 3, 1) := by decide +kernel
theorem d_M_table_196 : decode b_M_table 196 = .ok (.iastore, 1) := by decide +kernel
theorem d_M_table_197 : decode b_M_table 197 = .ok (.aload_n 0, 1) := by decide +kernel
theorem d_M_table_198 : decode b_M_table 198 = .ok (.getfield 47, 3) := by decide +kernel
theorem d_M_table_201 : decode b_M_table 201 = .ok (.aload_n 0, 1) := by decide +kernel
theorem d_M_table_202 : decode b_M_table 202 = .ok (.getfield 35, 3) := by decide +kernel
theorem d_M_table_205 : decode b_M_table 205 = .ok (.iload 4, 2) := by decide +kernel
theorem d_M_table_207 : decode b_M_table 207 = .ok (.iastore, 1) := by decide +kernel
theorem d_M_table_208 : decode b_M_table 208 = .ok (.aload_n 0, 1) := by decide +kernel
theorem d_M_table_209 : decode b_M_table 209 = .ok (.getfield 50, 3) := by decide +kernel
theorem d_M_table_212 : decode b_M_table 212 = .ok (.aload_n 0, 1) := by decide +kernel
theorem d_M_table_213 : decode b_M_table 213 = .ok (.getfield 35, 3) := by decide +kernel
theorem d_M_table_216 : decode b_M_table 216 = .ok (.iload 5, 2) := by decide +kernel
theorem d_M_table_218 : decode b_M_table 218 = .ok (.iastore, 1) := by decide +kernel
theorem d_M_table_219 : decode b_M_table 219 = .ok (.aload_n 0, 1) := by decide +kernel
theorem d_M_table_220 : decode b_M_table 220 = .ok (.getfield 53, 3) := by decide +kernel
theorem d_M_table_223 : decode b_M_table 223 = .ok (.aload_n 0, 1) := by decide +kernel
theorem d_M_table_224 : decode b_M_table 224 = .ok (.getfield 35, 3) := by decide +kernel
theorem d_M_table_227 : decode b_M_table 227 = .ok (.iconst 0, 1) := by decide +kernel
theorem d_M_table_228 : decode b_M_table 228 = .ok (.iastore, 1) := by decide +kernel
theorem d_M_table_229 : decode b_M_table 229 = .ok (.aload_n 0, 1) := by decide +kernel
theorem d_M_table_230 : decode b_M_table 230 = .ok (.dup, 1) := by decide +kernel
theorem d_M_table_231 : decode b_M_table 231 = .ok (.getfield 35, 3) := by decide +kernel
theorem d_M_table_234 : decode b_M_table 234 = .ok (.iconst 1, 1) := by decide +kernel
theorem d_M_table_235 : decode b_M_table 235 = .ok (.iadd, 1) := by decide +kernel
theorem d_M_table_236 : decode b_M_table 236 = .ok (.putfield 35, 3) := by decide +kernel
theorem d_M_table_239 : decode b_M_table 239 = .ok (.aload_n 0, 1) := by decide +kernel
theorem d_M_table_240 : decode b_M_table 240 = .ok (.getfield 35, 3) := by decide +kernel
theorem d_M_table_243 : decode b_M_table 243 = .ok (.iconst 1, 1) := by decide +kernel
theorem d_M_table_244 : decode b_M_table 244 = .ok (.isub, 1) := by decide +kernel
theorem d_M_table_245 : decode b_M_table 245 = .ok (.ireturn, 1) := by decide +kernel
theorem d_M_key_0 : decode b_M_key 0 = .ok (.aload_n 0, 1) := by decide +kernel
theorem d_M_key_1 : decode b_M_key 1 = .ok (.iconst 0, 1) := by decide +kernel
theorem d_M_key_2 : decode b_M_key 2 = .ok (.putfield 7, 3) := by decide +kernel
theorem d_M_key_5 : decode b_M_key 5 = .ok (.aload_n 0, 1) := by decide +kernel
theorem d_M_key_6 : decode b_M_key 6 = .ok (.getfield 59, 3) := by decide +kernel
theorem d_M_key_9 : decode b_M_key 9 = .ok (.iconst 0, 1) := by decide +kernel
theorem d_M_key_10 : decode b_M_key 10 = .ok (.iload_n 1, 1) := by decide +kernel
theorem d_M_key_11 : decode b_M_key 11 = .ok (.iastore, 1) := by decide +kernel
theorem d_M_key_12 : decode b_M_key 12 = .ok (.aload_n 0, 1) := by decide +kernel
theorem d_M_key_13 : decode b_M_key 13 = .ok (.getfield 59, 3) := by decide +kernel
theorem d_M_key_16 : decode b_M_key 16 = .ok (.iconst 1, 1) := by decide +kernel
theorem d_M_key_17 : decode b_M_key 17 = .ok (.iload_n 2, 1) := by decide +kernel
theorem d_M_key_18 : decode b_M_key 18 = .ok (.iastore, 1) := by decide +kernel
theorem d_M_key_19 : decode b_M_key 19 = .ok (.aload_n 0, 1) := by decide +kernel
theorem d_M_key_20 : decode b_M_key 20 = .ok (.getfield 59, 3) := by decide +kernel
theorem d_M_key_23 : decode b_M_key 23 = .ok (.iconst 2, 1) := by decide +kernel
theorem d_M_key_24 : decode b_M_key 24 = .ok (.iload_n 3, 1) := by decide +kernel
theorem d_M_key_25 : decode b_M_key 25 = .ok (.iastore, 1) := by decide +kernel
theorem d_M_key_26 : decode b_M_key 26 = .ok (.aload_n 0, 1) := by decide +kernel
theorem d_M_key_27 : decode b_M_key 27 = .ok (.getfield 59, 3) := by decide +kernel
theorem d_M_key_30 : decode b_M_key 30 = .ok (.iconst 3, 1) := by decide +kernel
theorem d_M_key_31 : decode b_M_key 31 = .ok (.iload 4, 2) := by decide +kernel
theorem d_M_key_33 : decode b_M_key 33 = .ok (.iastore, 1) := by decide +kernel
theorem d_M_key_34 : decode b_M_key 34 = .ok (.return_, 1) := by decide +kernel
theorem d_M_insert_0 : decode b_M_insert 0 = .ok (.aload_n 0, 1) := by decide +kernel
theorem d_M_insert_1 : decode b_M_insert 1 = .ok (.iload_n 1, 1) := by decide +kernel
theorem d_M_insert_2 : decode b_M_insert 2 = .ok (.aload_n 0, 1) := by decide +kernel
theorem d_M_insert_3 : decode b_M_insert 3 = .ok (.getfield 35, 3) := by decide +kernel
theorem d_M_insert_6 : decode b_M_insert 6 = .ok (.invokestatic 91, 3) := by decide +kernel
theorem d_M_insert_9 : decode b_M_insert 9 = .ok (.ifCond .eq 7, 3) := by decide +kernel
theorem d_M_insert_12 : decode b_M_insert 12 = .ok (.iconst 1, 1) := by decide +kernel
theorem d_M_insert_13 : decode b_M_insert 13 = .ok (.goto 4, 3) := by decide +kernel
theorem d_M_insert_16 : decode b_M_insert 16 = .ok (.iconst 0, 1) := by decide +kernel
theorem d_M_insert_17 : decode b_M_insert 17 = .ok (.putfield 7, 3) := by decide +kernel
theorem d_M_insert_20 : decode b_M_insert 20 = .ok (.aload_n 0, 1) := by decide +kernel
theorem d_M_insert_21 : decode b_M_insert 21 = .ok (.getfield 7, 3) := by decide +kernel
theorem d_M_insert_24 : decode b_M_insert 24 = .ok (.ifCond .eq 5, 3) := by decide +kernel
theorem d_M_insert_27 : decode b_M_insert 27 = .ok (.iconst 0, 1) := by decide +kernel
theorem d_M_insert_28 : decode b_M_insert 28 = .ok (.ireturn, 1) := by decide +kernel
theorem d_M_insert_29 : decode b_M_insert 29 = .ok (.aload_n 0, 1) := by decide +kernel
theorem d_M_insert_30 : decode b_M_insert 30 = .ok (.iload_n 1, 1) := by decide +kernel
theorem d_M_insert_31 : decode b_M_insert 31 = .ok (.invokevirtual 99, 3) := by decide +kernel
theorem d_M_insert_34 : decode b_M_insert 34 = .ok (.ifCond .ge 25, 3) := by decide +kernel
theorem d_M_insert_37 : decode b_M_insert 37 = .ok (.aload_n 0, 1) := by decide +kernel
theorem d_M_insert_38 : decode b_M_insert 38 = .ok (.getfield 53, 3) := by decide +kernel
theorem d_M_insert_41 : decode b_M_insert 41 = .ok (.iload_n 1, 1) := by decide +kernel
theorem d_M_insert_42 : decode b_M_insert 42 = .ok (.iaload, 1) := by decide +kernel
theorem d_M_insert_43 : decode b_M_insert 43 = .ok (.bipush 20, 2) := by decide +kernel
theorem d_M_insert_45 : decode b_M_insert 45 = .ok (.if_icmp .eq 14, 3) := by decide +kernel
theorem d_M_insert_48 : decode b_M_insert 48 = .ok (.iload_n 3, 1) := by decide +kernel
theorem d_M_insert_49 : decode b_M_insert 49 = .ok (.aload_n 0, 1) := by decide +kernel
theorem d_M_insert_50 : decode b_M_insert 50 = .ok (.getfield 23, 3) := by decide +kernel
theorem d_M_insert_53 : decode b_M_insert 53 = .ok (.invokestatic 91, 3) := by decide +kernel
theorem d_M_insert_56 : decode b_M_insert 56 = .ok (.ifCond .eq 5, 3) := by decide +kernel
theorem d_M_insert_59 : decode b_M_insert 59 = .ok (.iconst 0, 1) := by decide +kernel
theorem d_M_insert_60 : decode b_M_insert 60 = .ok (.ireturn, 1) := by decide +kernel
theorem d_M_insert_61 : decode b_M_insert 61 = .ok (.aload_n 0, 1) := by decide +kernel
theorem d_M_insert_62 : decode b_M_insert 62 = .ok (.getfield 47, 3) := by decide +kernel
theorem d_M_insert_65 : decode b_M_insert 65 = .ok (.iload_n 1, 1) := by decide +kernel
theorem d_M_insert_66 : decode b_M_insert 66 = .ok (.iaload, 1) := by decide +kernel
theorem d_M_insert_67 : decode b_M_insert 67 = .ok (.iload_n 3, 1) := by decide +kernel
theorem d_M_insert_68 : decode b_M_insert 68 = .ok (.ishr, 1) := by decide +kernel
theorem d_M_insert_69 : decode b_M_insert 69 = .ok (.iconst 1, 1) := by decide +kernel
theorem d_M_insert_70 : decode b_M_insert 70 = .ok (.iand, 1) := by decide +kernel
theorem d_M_insert_71 : decode b_M_insert 71 = .ok (.ifCond .eq 30, 3) := by decide +kernel
theorem d_M_insert_74 : decode b_M_insert 74 = .ok (.aload_n 0, 1) := by decide +kernel
theorem d_M_insert_75 : decode b_M_insert 75 = .ok (.aload_n 0, 1) := by decide +kernel
theorem d_M_insert_76 : decode b_M_insert 76 = .ok (.getfield 38, 3) := by decide +kernel
theorem d_M_insert_79 : decode b_M_insert 79 = .ok (.iload_n 1, 1) := by decide +kernel
theorem d_M_insert_80 : decode b_M_insert 80 = .ok (.iaload, 1) := by decide +kernel
theorem d_M_insert_81 : decode b_M_insert 81 = .ok (.aload_n 0, 1) := by decide +kernel
theorem d_M_insert_82 : decode b_M_insert 82 = .ok (.getfield 44, 3) := by decide +kernel
theorem d_M_insert_85 : decode b_M_insert 85 = .ok (.iload_n 1, 1) := by decide +kernel
theorem d_M_insert_86 : decode b_M_insert 86 = .ok (.iaload, 1) := by decide +kernel
theorem d_M_insert_87 : decode b_M_insert 87 = .ok (.iconst 4, 1) := by decide +kernel
theorem d_M_insert_88 : decode b_M_insert 88 = .ok (.irem, 1) := by decide +kernel
theorem d_M_insert_89 : decode b_M_insert 89 = .ok (.aload_n 0, 1) := by decide +kernel
theorem d_M_insert_90 : decode b_M_insert 90 = .ok (.getfield 62, 3) := by decide +kernel
theorem d_M_insert_93 : decode b_M_insert 93 = .ok (.iconst 1, 1) := by decide +kernel
theorem d_M_insert_94 : decode b_M_insert 94 = .ok (.iaload, 1) := by decide +kernel
theorem d_M_insert_95 : decode b_M_insert 95 = .ok (.invokevirtual 102, 3) := by decide +kernel
theorem d_M_insert_98 : decode b_M_insert 98 = .ok (.ifCond .ne 5, 3) := by decide +kernel
theorem d_M_insert_101 : decode b_M_insert 101 = .ok (.iconst 0, 1) := by decide +kernel
theorem d_M_insert_102 : decode b_M_insert 102 = .ok (.ireturn, 1) := by decide +kernel
theorem d_M_insert_103 : decode b_M_insert 103 = .ok (.aload_n 0, 1) := by decide +kernel
theorem d_M_insert_104 : decode b_M_insert 104 = .ok (.getfield 41, 3) := by decide +kernel
theorem d_M_insert_107 : decode b_M_insert 107 = .ok (.iload_n 1, 1) := by decide +kernel
theorem d_M_insert_108 : decode b_M_insert 108 = .ok (.iaload, 1) := by decide +kernel
theorem d_M_insert_109 : decode b_M_insert 109 = .ok (.ifCond .lt 32, 3) := by decide +kernel
theorem d_M_insert_112 : decode b_M_insert 112 = .ok (.aload_n 0, 1) := by decide +kernel
theorem d_M_insert_113 : decode b_M_insert 113 = .ok (.aload_n 0, 1) := by decide +kernel
theorem d_M_insert_114 : decode b_M_insert 114 = .ok (.getfield 41, 3) := by decide +kernel
theorem d_M_insert_117 : decode b_M_insert 117 = .ok (.iload_n 1, 1) := by decide +kernel
theorem d_M_insert_118 : decode b_M_insert 118 = .ok (.iaload, 1) := by decide +kernel
theorem d_M_insert_119 : decode b_M_insert 119 = .ok (.aload_n 0, 1) := by decide +kernel
theorem d_M_insert_120 : decode b_M_insert 120 = .ok (.getfield 44, 3) := by decide +kernel
theorem d_M_insert_123 : decode b_M_insert 123 = .ok (.iload_n 1, 1) := by decide +kernel
theorem d_M_insert_124 : decode b_M_insert 124 = .ok (.iaload, 1) := by decide +kernel
theorem d_M_insert_125 : decode b_M_insert 125 = .ok (.iconst 4, 1) := by decide +kernel
theorem d_M_insert_126 : decode b_M_insert 126 = .ok (.idiv, 1) := by decide +kernel
theorem d_M_insert_127 : decode b_M_insert 127 = .ok (.aload_n 0, 1) := by decide +kernel
theorem d_M_insert_128 : decode b_M_insert 128 = .ok (.getfield 62, 3) := by decide +kernel
theorem d_M_insert_131 : decode b_M_insert 131 = .ok (.iconst 3, 1) := by decide +kernel
theorem d_M_insert_132 : decode b_M_insert 132 = .ok (.iaload, 1) := by decide +kernel
theorem d_M_insert_133 : decode b_M_insert 133 = .ok (.invokevirtual 102, 3) := by decide +kernel
theorem d_M_insert_136 : decode b_M_insert 136 = .ok (.ifCond .ne 5, 3) := by decide +kernel
theorem d_M_insert_139 : decode b_M_insert 139 = .ok (.iconst 0, 1) := by decide +kernel
theorem d_M_insert_140 : decode b_M_insert 140 = .ok (.ireturn, 1) := by decide +kernel
theorem d_M_insert_141 : decode b_M_insert 141 = .ok (.sipush 160, 3) := by decide +kernel
theorem d_M_insert_144 : decode b_M_insert 144 = .ok (.iload_n 1, 1) := by decide +kernel
theorem d_M_insert_145 : decode b_M_insert 145 = .ok (.imul, 1) := by decide +kernel
theorem d_M_insert_146 : decode b_M_insert 146 = .ok (.bipush 8, 2) := by decide +kernel
theorem d_M_insert_148 : decode b_M_insert 148 = .ok (.aload_n 0, 1) := by decide +kernel
theorem d_M_insert_149 : decode b_M_insert 149 = .ok (.getfield 53, 3) := by decide +kernel
theorem d_M_insert_152 : decode b_M_insert 152 = .ok (.iload_n 1, 1) := by decide +kernel
theorem d_M_insert_153 : decode b_M_insert 153 = .ok (.iaload, 1) := by decide +kernel
theorem d_M_insert_154 : decode b_M_insert 154 = .ok (.imul, 1) := by decide +kernel
theorem d_M_insert_155 : decode b_M_insert 155 = .ok (.iadd, 1) := by decide +kernel
theorem d_M_insert_156 : decode b_M_insert 156 = .ok (.istore 6, 2) := by decide +kernel
theorem d_M_insert_158 : decode b_M_insert 158 = .ok (.iconst 0, 1) := by decide +kernel
theorem d_M_insert_159 : decode b_M_insert 159 = .ok (.istore 7, 2) := by decide +kernel
theorem d_M_insert_161 : decode b_M_insert 161 = .ok (.iload 7, 2) := by decide +kernel
theorem d_M_insert_163 : decode b_M_insert 163 = .ok (.iconst 4, 1) := by decide +kernel
theorem d_M_insert_164 : decode b_M_insert 164 = .ok (.if_icmp .ge 26, 3) := by decide +kernel
theorem d_M_insert_167 : decode b_M_insert 167 = .ok (.aload_n 0, 1) := by decide +kernel
theorem d_M_insert_168 : decode b_M_insert 168 = .ok (.getfield 56, 3) := by decide +kernel
theorem d_M_insert_171 : decode b_M_insert 171 = .ok (.iload 6, 2) := by decide +kernel
theorem d_M_insert_173 : decode b_M_insert 173 = .ok (.iload 7, 2) := by decide +kernel
theorem d_M_insert_175 : decode b_M_insert 175 = .ok (.iadd, 1) := by decide +kernel
theorem d_M_insert_176 : decode b_M_insert 176 = .ok (.aload_n 0, 1) := by decide +kernel
theorem d_M_insert_177 : decode b_M_insert 177 = .ok (.getfield 62, 3) := by decide +kernel
theorem d_M_insert_180 : decode b_M_insert 180 = .ok (.iload 7, 2) := by decide +kernel
theorem d_M_insert_182 : decode b_M_insert 182 = .ok (.iaload, 1) := by decide +kernel
theorem d_M_insert_183 : decode b_M_insert 183 = .ok (.iastore, 1) := by decide +kernel
theorem d_M_insert_184 : decode b_M_insert 184 = .ok (.iinc 7 1, 3) := by decide +kernel
theorem d_M_insert_187 : decode b_M_insert 187 = .ok (.goto (-26), 3) := by decide +kernel
theorem d_M_insert_190 : decode b_M_insert 190 = .ok (.aload_n 0, 1) := by decide +kernel
theorem d_M_insert_191 : decode b_M_insert 191 = .ok (.getfield 56, 3) := by decide +kernel
theorem d_M_insert_194 : decode b_M_insert 194 = .ok (.iload 6, 2) := by decide +kernel
theorem d_M_insert_196 : decode b_M_insert 196 = .ok (.iconst 4, 1) := by decide +kernel
theorem d_M_insert_197 : decode b_M_insert 197 = .ok (.iadd, 1) := by decide +kernel
theorem d_M_insert_198 : decode b_M_insert 198 = .ok (.iload_n 2, 1) := by decide +kernel
theorem d_M_insert_199 : decode b_M_insert 199 = .ok (.iastore, 1) := by decide +kernel
theorem d_M_insert_200 : decode b_M_insert 200 = .ok (.aload_n 0, 1) := by decide +kernel
theorem d_M_insert_201 : decode b_M_insert 201 = .ok (.getfield 56, 3) := by decide +kernel
theorem d_M_insert_204 : decode b_M_insert 204 = .ok (.iload 6, 2) := by decide +kernel
theorem d_M_insert_206 : decode b_M_insert 206 = .ok (.iconst 5, 1) := by decide +kernel
theorem d_M_insert_207 : decode b_M_insert 207 = .ok (.iadd, 1) := by decide +kernel
theorem d_M_insert_208 : decode b_M_insert 208 = .ok (.iload_n 3, 1) := by decide +kernel
theorem d_M_insert_209 : decode b_M_insert 209 = .ok (.iastore, 1) := by decide +kernel
theorem d_M_insert_210 : decode b_M_insert 210 = .ok (.aload_n 0, 1) := by decide +kernel
theorem d_M_insert_211 : decode b_M_insert 211 = .ok (.getfield 56, 3) := by decide +kernel
theorem d_M_insert_214 : decode b_M_insert 214 = .ok (.iload 6, 2) := by decide +kernel
theorem d_M_insert_216 : decode b_M_insert 216 = .ok (.bipush 6, 2) := by decide +kernel
theorem d_M_insert_218 : decode b_M_insert 218 = .ok (.iadd, 1) := by decide +kernel
theorem d_M_insert_219 : decode b_M_insert 219 = .ok (.iload 4, 2) := by decide +kernel
theorem d_M_insert_221 : decode b_M_insert 221 = .ok (.iastore, 1) := by decide +kernel
theorem d_M_insert_222 : decode b_M_insert 222 = .ok (.aload_n 0, 1) := by decide +kernel
theorem d_M_insert_223 : decode b_M_insert 223 = .ok (.getfield 56, 3) := by decide +kernel
theorem d_M_insert_226 : decode b_M_insert 226 = .ok (.iload 6, 2) := by decide +kernel
theorem d_M_insert_228 : decode b_M_insert 228 = .ok (.bipush 7, 2) := by decide +kernel
theorem d_M_insert_230 : decode b_M_insert 230 = .ok (.iadd, 1) := by decide +kernel
theorem d_M_insert_231 : decode b_M_insert 231 = .ok (.iload 5, 2) := by decide +kernel
theorem d_M_insert_233 : decode b_M_insert 233 = .ok (.iastore, 1) := by decide +kernel
theorem d_M_insert_234 : decode b_M_insert 234 = .ok (.aload_n 0, 1) := by decide +kernel
theorem d_M_insert_235 : decode b_M_insert 235 = .ok (.getfield 53, 3) := by decide +kernel
theorem d_M_insert_238 : decode b_M_insert 238 = .ok (.iload_n 1, 1) := by decide +kernel
theorem d_M_insert_239 : decode b_M_insert 239 = .ok (.aload_n 0, 1) := by decide +kernel
theorem d_M_insert_240 : decode b_M_insert 240 = .ok (.getfield 53, 3) := by decide +kernel
theorem d_M_insert_243 : decode b_M_insert 243 = .ok (.iload_n 1, 1) := by decide +kernel
theorem d_M_insert_244 : decode b_M_insert 244 = .ok (.iaload, 1) := by decide +kernel
theorem d_M_insert_245 : decode b_M_insert 245 = .ok (.iconst 1, 1) := by decide +kernel
theorem d_M_insert_246 : decode b_M_insert 246 = .ok (.iadd, 1) := by decide +kernel
theorem d_M_insert_247 : decode b_M_insert 247 = .ok (.iastore, 1) := by decide +kernel
theorem d_M_insert_248 : decode b_M_insert 248 = .ok (.iconst 1, 1) := by decide +kernel
theorem d_M_insert_249 : decode b_M_insert 249 = .ok (.ireturn, 1) := by decide +kernel
theorem d_M_find_0 : decode b_M_find 0 = .ok (.aload_n 0, 1) := by decide +kernel
theorem d_M_find_1 : decode b_M_find 1 = .ok (.iload_n 1, 1) := by decide +kernel
theorem d_M_find_2 : decode b_M_find 2 = .ok (.invokevirtual 76, 3) := by decide +kernel
theorem d_M_find_5 : decode b_M_find 5 = .ok (.iconst 0, 1) := by decide +kernel
theorem d_M_find_6 : decode b_M_find 6 = .ok (.istore_n 2, 1) := by decide +kernel
theorem d_M_find_7 : decode b_M_find 7 = .ok (.iload_n 2, 1) := by decide +kernel
theorem d_M_find_8 : decode b_M_find 8 = .ok (.aload_n 0, 1) := by decide +kernel
theorem d_M_find_9 : decode b_M_find 9 = .ok (.getfield 53, 3) := by decide +kernel
theorem d_M_find_12 : decode b_M_find 12 = .ok (.iload_n 1, 1) := by decide +kernel
theorem d_M_find_13 : decode b_M_find 13 = .ok (.iaload, 1) := by decide +kernel
theorem d_M_find_14 : decode b_M_find 14 = .ok (.if_icmp .ge 76, 3) := by decide +kernel
theorem d_M_find_17 : decode b_M_find 17 = .ok (.sipush 160, 3) := by decide +kernel
theorem d_M_find_20 : decode b_M_find 20 = .ok (.iload_n 1, 1) := by decide +kernel
theorem d_M_find_21 : decode b_M_find 21 = .ok (.imul, 1) := by decide +kernel
theorem d_M_find_22 : decode b_M_find 22 = .ok (.bipush 8, 2) := by decide +kernel
theorem d_M_find_24 : decode b_M_find 24 = .ok (.iload_n 2, 1) := by decide +kernel
theorem d_M_find_25 : decode b_M_find 25 = .ok (.imul, 1) := by decide +kernel
theorem d_M_find_26 : decode b_M_find 26 = .ok (.iadd, 1) := by decide +kernel
theorem d_M_find_27 : decode b_M_find 27 = .ok (.istore_n 3, 1) := by decide +kernel
theorem d_M_find_28 : decode b_M_find 28 = .ok (.iconst 1, 1) := by decide +kernel
theorem d_M_find_29 : decode b_M_find 29 = .ok (.istore 4, 2) := by decide +kernel
theorem d_M_find_31 : decode b_M_find 31 = .ok (.iconst 0, 1) := by decide +kernel
theorem d_M_find_32 : decode b_M_find 32 = .ok (.istore 5, 2) := by decide +kernel
theorem d_M_find_34 : decode b_M_find 34 = .ok (.iload 5, 2) := by decide +kernel
theorem d_M_find_36 : decode b_M_find 36 = .ok (.iconst 4, 1) := by decide +kernel
theorem d_M_find_37 : decode b_M_find 37 = .ok (.if_icmp .ge 40, 3) := by decide +kernel
theorem d_M_find_40 : decode b_M_find 40 = .ok (.iload 4, 2) := by decide +kernel
theorem d_M_find_42 : decode b_M_find 42 = .ok (.ifCond .eq 26, 3) := by decide +kernel
theorem d_M_find_45 : decode b_M_find 45 = .ok (.aload_n 0, 1) := by decide +kernel
theorem d_M_find_46 : decode b_M_find 46 = .ok (.getfield 56, 3) := by decide +kernel
theorem d_M_find_49 : decode b_M_find 49 = .ok (.iload_n 3, 1) := by decide +kernel
theorem d_M_find_50 : decode b_M_find 50 = .ok (.iload 5, 2) := by decide +kernel
theorem d_M_find_52 : decode b_M_find 52 = .ok (.iadd, 1) := by decide +kernel
theorem d_M_find_53 : decode b_M_find 53 = .ok (.iaload, 1) := by decide +kernel
theorem d_M_find_54 : decode b_M_find 54 = .ok (.aload_n 0, 1) := by decide +kernel
theorem d_M_find_55 : decode b_M_find 55 = .ok (.getfield 62, 3) := by decide +kernel
theorem d_M_find_58 : decode b_M_find 58 = .ok (.iload 5, 2) := by decide +kernel
theorem d_M_find_60 : decode b_M_find 60 = .ok (.iaload, 1) := by decide +kernel
theorem d_M_find_61 : decode b_M_find 61 = .ok (.if_icmp .ne 7, 3) := by decide +kernel
theorem d_M_find_64 : decode b_M_find 64 = .ok (.iconst 1, 1) := by decide +kernel
theorem d_M_find_65 : decode b_M_find 65 = .ok (.goto 4, 3) := by decide +kernel
theorem d_M_find_68 : decode b_M_find 68 = .ok (.iconst 0, 1) := by decide +kernel
theorem d_M_find_69 : decode b_M_find 69 = .ok (.istore 4, 2) := by decide +kernel
theorem d_M_find_71 : decode b_M_find 71 = .ok (.iinc 5 1, 3) := by decide +kernel
theorem d_M_find_74 : decode b_M_find 74 = .ok (.goto (-40), 3) := by decide +kernel
theorem d_M_find_77 : decode b_M_find 77 = .ok (.iload 4, 2) := by decide +kernel
theorem d_M_find_79 : decode b_M_find 79 = .ok (.ifCond .eq 5, 3) := by decide +kernel
theorem d_M_find_82 : decode b_M_find 82 = .ok (.iload_n 2, 1) := by decide +kernel
theorem d_M_find_83 : decode b_M_find 83 = .ok (.ireturn, 1) := by decide +kernel
theorem d_M_find_84 : decode b_M_find 84 = .ok (.iinc 2 1, 3) := by decide +kernel
theorem d_M_find_87 : decode b_M_find 87 = .ok (.goto (-80), 3) := by decide +kernel
theorem d_M_find_90 : decode b_M_find 90 = .ok (.iconst (-1), 1) := by decide +kernel
theorem d_M_find_91 : decode b_M_find 91 = .ok (.ireturn, 1) := by decide +kernel
theorem d_M_cut_0 : decode b_M_cut 0 = .ok (.aload_n 0, 1) := by decide +kernel
theorem d_M_cut_1 : decode b_M_cut 1 = .ok (.getfield 62, 3) := by decide +kernel
theorem d_M_cut_4 : decode b_M_cut 4 = .ok (.iconst 1, 1) := by decide +kernel
theorem d_M_cut_5 : decode b_M_cut 5 = .ok (.aload_n 0, 1) := by decide +kernel
theorem d_M_cut_6 : decode b_M_cut 6 = .ok (.getfield 59, 3) := by decide +kernel
theorem d_M_cut_9 : decode b_M_cut 9 = .ok (.iconst 1, 1) := by decide +kernel
theorem d_M_cut_10 : decode b_M_cut 10 = .ok (.iaload, 1) := by decide +kernel
theorem d_M_cut_11 : decode b_M_cut 11 = .ok (.aload_n 0, 1) := by decide +kernel
theorem d_M_cut_12 : decode b_M_cut 12 = .ok (.aload_n 0, 1) := by decide +kernel
theorem d_M_cut_13 : decode b_M_cut 13 = .ok (.getfield 38, 3) := by decide +kernel
theorem d_M_cut_16 : decode b_M_cut 16 = .ok (.iload_n 1, 1) := by decide +kernel
theorem d_M_cut_17 : decode b_M_cut 17 = .ok (.iaload, 1) := by decide +kernel
theorem d_M_cut_18 : decode b_M_cut 18 = .ok (.invokevirtual 72, 3) := by decide +kernel
theorem d_M_cut_21 : decode b_M_cut 21 = .ok (.iand, 1) := by decide +kernel
theorem d_M_cut_22 : decode b_M_cut 22 = .ok (.iastore, 1) := by decide +kernel
theorem d_M_cut_23 : decode b_M_cut 23 = .ok (.aload_n 0, 1) := by decide +kernel
theorem d_M_cut_24 : decode b_M_cut 24 = .ok (.getfield 62, 3) := by decide +kernel
theorem d_M_cut_27 : decode b_M_cut 27 = .ok (.iconst 0, 1) := by decide +kernel
theorem d_M_cut_28 : decode b_M_cut 28 = .ok (.aload_n 0, 1) := by decide +kernel
theorem d_M_cut_29 : decode b_M_cut 29 = .ok (.getfield 59, 3) := by decide +kernel
theorem d_M_cut_32 : decode b_M_cut 32 = .ok (.iconst 0, 1) := by decide +kernel
theorem d_M_cut_33 : decode b_M_cut 33 = .ok (.iaload, 1) := by decide +kernel
theorem d_M_cut_34 : decode b_M_cut 34 = .ok (.aload_n 0, 1) := by decide +kernel
theorem d_M_cut_35 : decode b_M_cut 35 = .ok (.getfield 62, 3) := by decide +kernel
theorem d_M_cut_38 : decode b_M_cut 38 = .ok (.iconst 1, 1) := by decide +kernel
theorem d_M_cut_39 : decode b_M_cut 39 = .ok (.iaload, 1) := by decide +kernel
theorem d_M_cut_40 : decode b_M_cut 40 = .ok (.iand, 1) := by decide +kernel
theorem d_M_cut_41 : decode b_M_cut 41 = .ok (.iastore, 1) := by decide +kernel
theorem d_M_cut_42 : decode b_M_cut 42 = .ok (.aload_n 0, 1) := by decide +kernel
theorem d_M_cut_43 : decode b_M_cut 43 = .ok (.getfield 62, 3) := by decide +kernel
theorem d_M_cut_46 : decode b_M_cut 46 = .ok (.iconst 3, 1) := by decide +kernel
theorem d_M_cut_47 : decode b_M_cut 47 = .ok (.aload_n 0, 1) := by decide +kernel
theorem d_M_cut_48 : decode b_M_cut 48 = .ok (.getfield 41, 3) := by decide +kernel
theorem d_M_cut_51 : decode b_M_cut 51 = .ok (.iload_n 1, 1) := by decide +kernel
theorem d_M_cut_52 : decode b_M_cut 52 = .ok (.iaload, 1) := by decide +kernel
theorem d_M_cut_53 : decode b_M_cut 53 = .ok (.ifCond .ge 7, 3) := by decide +kernel
theorem d_M_cut_56 : decode b_M_cut 56 = .ok (.iconst 0, 1) := by decide +kernel
theorem d_M_cut_57 : decode b_M_cut 57 = .ok (.goto 20, 3) := by decide +kernel
theorem d_M_cut_60 : decode b_M_cut 60 = .ok (.aload_n 0, 1) := by decide +kernel
theorem d_M_cut_61 : decode b_M_cut 61 = .ok (.getfield 59, 3) := by decide +kernel
theorem d_M_cut_64 : decode b_M_cut 64 = .ok (.iconst 3, 1) := by decide +kernel
theorem d_M_cut_65 : decode b_M_cut 65 = .ok (.iaload, 1) := by decide +kernel
theorem d_M_cut_66 : decode b_M_cut 66 = .ok (.aload_n 0, 1) := by decide +kernel
theorem d_M_cut_67 : decode b_M_cut 67 = .ok (.aload_n 0, 1) := by decide +kernel
theorem d_M_cut_68 : decode b_M_cut 68 = .ok (.getfield 41, 3) := by decide +kernel
theorem d_M_cut_71 : decode b_M_cut 71 = .ok (.iload_n 1, 1) := by decide +kernel
theorem d_M_cut_72 : decode b_M_cut 72 = .ok (.iaload, 1) := by decide +kernel
theorem d_M_cut_73 : decode b_M_cut 73 = .ok (.invokevirtual 72, 3) := by decide +kernel
theorem d_M_cut_76 : decode b_M_cut 76 = .ok (.iand, 1) := by decide +kernel
theorem d_M_cut_77 : decode b_M_cut 77 = .ok (.iastore, 1) := by decide +kernel
theorem d_M_cut_78 : decode b_M_cut 78 = .ok (.aload_n 0, 1) := by decide +kernel
theorem d_M_cut_79 : decode b_M_cut 79 = .ok (.getfield 62, 3) := by decide +kernel
theorem d_M_cut_82 : decode b_M_cut 82 = .ok (.iconst 2, 1) := by decide +kernel
theorem d_M_cut_83 : decode b_M_cut 83 = .ok (.aload_n 0, 1) := by decide +kernel
theorem d_M_cut_84 : decode b_M_cut 84 = .ok (.getfield 59, 3) := by decide +kernel
theorem d_M_cut_87 : decode b_M_cut 87 = .ok (.iconst 2, 1) := by decide +kernel
theorem d_M_cut_88 : decode b_M_cut 88 = .ok (.iaload, 1) := by decide +kernel
theorem d_M_cut_89 : decode b_M_cut 89 = .ok (.aload_n 0, 1) := by decide +kernel
theorem d_M_cut_90 : decode b_M_cut 90 = .ok (.getfield 62, 3) := by decide +kernel
theorem d_M_cut_93 : decode b_M_cut 93 = .ok (.iconst 3, 1) := by decide +kernel
theorem d_M_cut_94 : decode b_M_cut 94 = .ok (.iaload, 1) := by decide +kernel
theorem d_M_cut_95 : decode b_M_cut 95 = .ok (.iand, 1) := by decide +kernel
theorem d_M_cut_96 : decode b_M_cut 96 = .ok (.iastore, 1) := by decide +kernel
theorem d_M_cut_97 : decode b_M_cut 97 = .ok (.return_, 1) := by decide +kernel
theorem d_M_isMask_0 : decode b_M_isMask 0 = .ok (.aload_n 0, 1) := by decide +kernel
theorem d_M_isMask_1 : decode b_M_isMask 1 = .ok (.iload_n 1, 1) := by decide +kernel
theorem d_M_isMask_2 : decode b_M_isMask 2 = .ok (.invokevirtual 72, 3) := by decide +kernel
theorem d_M_isMask_5 : decode b_M_isMask 5 = .ok (.istore 4, 2) := by decide +kernel
theorem d_M_isMask_7 : decode b_M_isMask 7 = .ok (.iload_n 2, 1) := by decide +kernel
theorem d_M_isMask_8 : decode b_M_isMask 8 = .ok (.ifCond .ne 15, 3) := by decide +kernel
theorem d_M_isMask_11 : decode b_M_isMask 11 = .ok (.iload_n 3, 1) := by decide +kernel
theorem d_M_isMask_12 : decode b_M_isMask 12 = .ok (.iload 4, 2) := by decide +kernel
theorem d_M_isMask_14 : decode b_M_isMask 14 = .ok (.if_icmp .ne 7, 3) := by decide +kernel
theorem d_M_isMask_17 : decode b_M_isMask 17 = .ok (.iconst 1, 1) := by decide +kernel
theorem d_M_isMask_18 : decode b_M_isMask 18 = .ok (.goto 4, 3) := by decide +kernel
theorem d_M_isMask_21 : decode b_M_isMask 21 = .ok (.iconst 0, 1) := by decide +kernel
theorem d_M_isMask_22 : decode b_M_isMask 22 = .ok (.ireturn, 1) := by decide +kernel
theorem d_M_isMask_23 : decode b_M_isMask 23 = .ok (.iload_n 2, 1) := by decide +kernel
theorem d_M_isMask_24 : decode b_M_isMask 24 = .ok (.iconst 2, 1) := by decide +kernel
theorem d_M_isMask_25 : decode b_M_isMask 25 = .ok (.if_icmp .ne 5, 3) := by decide +kernel
theorem d_M_isMask_28 : decode b_M_isMask 28 = .ok (.iconst 1, 1) := by decide +kernel
theorem d_M_isMask_29 : decode b_M_isMask 29 = .ok (.ireturn, 1) := by decide +kernel
theorem d_M_isMask_30 : decode b_M_isMask 30 = .ok (.iload 4, 2) := by decide +kernel
theorem d_M_isMask_32 : decode b_M_isMask 32 = .ok (.istore 5, 2) := by decide +kernel
theorem d_M_isMask_34 : decode b_M_isMask 34 = .ok (.iconst 0, 1) := by decide +kernel
theorem d_M_isMask_35 : decode b_M_isMask 35 = .ok (.istore 6, 2) := by decide +kernel
theorem d_M_isMask_37 : decode b_M_isMask 37 = .ok (.iload 6, 2) := by decide +kernel
theorem d_M_isMask_39 : decode b_M_isMask 39 = .ok (.aload_n 0, 1) := by decide +kernel
theorem d_M_isMask_40 : decode b_M_isMask 40 = .ok (.getfield 16, 3) := by decide +kernel
theorem d_M_isMask_43 : decode b_M_isMask 43 = .ok (.iload_n 1, 1) := by decide +kernel
theorem d_M_isMask_44 : decode b_M_isMask 44 = .ok (.iaload, 1) := by decide +kernel
theorem d_M_isMask_45 : decode b_M_isMask 45 = .ok (.if_icmp .ge 28, 3) := by decide +kernel
theorem d_M_isMask_48 : decode b_M_isMask 48 = .ok (.iload_n 3, 1) := by decide +kernel
theorem d_M_isMask_49 : decode b_M_isMask 49 = .ok (.iload 5, 2) := by decide +kernel
theorem d_M_isMask_51 : decode b_M_isMask 51 = .ok (.if_icmp .ne 5, 3) := by decide +kernel
theorem d_M_isMask_54 : decode b_M_isMask 54 = .ok (.iconst 1, 1) := by decide +kernel
theorem d_M_isMask_55 : decode b_M_isMask 55 = .ok (.ireturn, 1) := by decide +kernel
theorem d_M_isMask_56 : decode b_M_isMask 56 = .ok (.iload 5, 2) := by decide +kernel
theorem d_M_isMask_58 : decode b_M_isMask 58 = .ok (.iconst 1, 1) := by decide +kernel
theorem d_M_isMask_59 : decode b_M_isMask 59 = .ok (.iload 6, 2) := by decide +kernel
theorem d_M_isMask_61 : decode b_M_isMask 61 = .ok (.ishl, 1) := by decide +kernel
theorem d_M_isMask_62 : decode b_M_isMask 62 = .ok (.iconst (-1), 1) := by decide +kernel
theorem d_M_isMask_63 : decode b_M_isMask 63 = .ok (.ixor, 1) := by decide +kernel
theorem d_M_isMask_64 : decode b_M_isMask 64 = .ok (.iand, 1) := by decide +kernel
theorem d_M_isMask_65 : decode b_M_isMask 65 = .ok (.istore 5, 2) := by decide +kernel
theorem d_M_isMask_67 : decode b_M_isMask 67 = .ok (.iinc 6 1, 3) := by decide +kernel
theorem d_M_isMask_70 : decode b_M_isMask 70 = .ok (.goto (-33), 3) := by decide +kernel
theorem d_M_isMask_73 : decode b_M_isMask 73 = .ok (.iload_n 3, 1) := by decide +kernel
theorem d_M_isMask_74 : decode b_M_isMask 74 = .ok (.ifCond .ne 7, 3) := by decide +kernel
theorem d_M_isMask_77 : decode b_M_isMask 77 = .ok (.iconst 1, 1) := by decide +kernel
theorem d_M_isMask_78 : decode b_M_isMask 78 = .ok (.goto 4, 3) := by decide +kernel
theorem d_M_isMask_81 : decode b_M_isMask 81 = .ok (.iconst 0, 1) := by decide +kernel
theorem d_M_isMask_82 : decode b_M_isMask 82 = .ok (.ireturn, 1) := by decide +kernel
theorem d_M_remove_0 : decode b_M_remove 0 = .ok (.aload_n 0, 1) := by decide +kernel
theorem d_M_remove_1 : decode b_M_remove 1 = .ok (.iload_n 1, 1) := by decide +kernel
theorem d_M_remove_2 : decode b_M_remove 2 = .ok (.aload_n 0, 1) := by decide +kernel
theorem d_M_remove_3 : decode b_M_remove 3 = .ok (.getfield 35, 3) := by decide +kernel
theorem d_M_remove_6 : decode b_M_remove 6 = .ok (.invokestatic 91, 3) := by decide +kernel
theorem d_M_remove_9 : decode b_M_remove 9 = .ok (.ifCond .eq 7, 3) := by decide +kernel
theorem d_M_remove_12 : decode b_M_remove 12 = .ok (.iconst 1, 1) := by decide +kernel
theorem d_M_remove_13 : decode b_M_remove 13 = .ok (.goto 4, 3) := by decide +kernel
theorem d_M_remove_16 : decode b_M_remove 16 = .ok (.iconst 0, 1) := by decide +kernel
theorem d_M_remove_17 : decode b_M_remove 17 = .ok (.putfield 7, 3) := by decide +kernel
theorem d_M_remove_20 : decode b_M_remove 20 = .ok (.aload_n 0, 1) := by decide +kernel
theorem d_M_remove_21 : decode b_M_remove 21 = .ok (.getfield 7, 3) := by decide +kernel
theorem d_M_remove_24 : decode b_M_remove 24 = .ok (.ifCond .eq 5, 3) := by decide +kernel
theorem d_M_remove_27 : decode b_M_remove 27 = .ok (.iconst 0, 1) := by decide +kernel
theorem d_M_remove_28 : decode b_M_remove 28 = .ok (.ireturn, 1) := by decide +kernel
theorem d_M_remove_29 : decode b_M_remove 29 = .ok (.aload_n 0, 1) := by decide +kernel
theorem d_M_remove_30 : decode b_M_remove 30 = .ok (.iload_n 1, 1) := by decide +kernel
theorem d_M_remove_31 : decode b_M_remove 31 = .ok (.invokevirtual 99, 3) := by decide +kernel
theorem d_M_remove_34 : decode b_M_remove 34 = .ok (.istore_n 2, 1) := by decide +kernel
theorem d_M_remove_35 : decode b_M_remove 35 = .ok (.iload_n 2, 1) := by decide +kernel
theorem d_M_remove_36 : decode b_M_remove 36 = .ok (.ifCond .ge 5, 3) := by decide +kernel
theorem d_M_remove_39 : decode b_M_remove 39 = .ok (.iconst 0, 1) := by decide +kernel
theorem d_M_remove_40 : decode b_M_remove 40 = .ok (.ireturn, 1) := by decide +kernel
theorem d_M_remove_41 : decode b_M_remove 41 = .ok (.aload_n 0, 1) := by decide +kernel
theorem d_M_remove_42 : decode b_M_remove 42 = .ok (.getfield 53, 3) := by decide +kernel
theorem d_M_remove_45 : decode b_M_remove 45 = .ok (.iload_n 1, 1) := by decide +kernel
theorem d_M_remove_46 : decode b_M_remove 46 = .ok (.aload_n 0, 1) := by decide +kernel
theorem d_M_remove_47 : decode b_M_remove 47 = .ok (.getfield 53, 3) := by decide +kernel
theorem d_M_remove_50 : decode b_M_remove 50 = .ok (.iload_n 1, 1) := by decide +kernel
theorem d_M_remove_51 : decode b_M_remove 51 = .ok (.iaload, 1) := by decide +kernel
theorem d_M_remove_52 : decode b_M_remove 52 = .ok (.iconst 1, 1) := by decide +kernel
theorem d_M_remove_53 : decode b_M_remove 53 = .ok (.isub, 1) := by decide +kernel
theorem d_M_remove_54 : decode b_M_remove 54 = .ok (.iastore, 1) := by decide +kernel
theorem d_M_remove_55 : decode b_M_remove 55 = .ok (.sipush 160, 3) := by decide +kernel
theorem d_M_remove_58 : decode b_M_remove 58 = .ok (.iload_n 1, 1) := by decide +kernel
theorem d_M_remove_59 : decode b_M_remove 59 = .ok (.imul, 1) := by decide +kernel
theorem d_M_remove_60 : decode b_M_remove 60 = .ok (.bipush 8, 2) := by decide +kernel
theorem d_M_remove_62 : decode b_M_remove 62 = .ok (.iload_n 2, 1) := by decide +kernel
theorem d_M_remove_63 : decode b_M_remove 63 = .ok (.imul, 1) := by decide +kernel
theorem d_M_remove_64 : decode b_M_remove 64 = .ok (.iadd, 1) := by decide +kernel
theorem d_M_remove_65 : decode b_M_remove 65 = .ok (.istore_n 3, 1) := by decide +kernel
theorem d_M_remove_66 : decode b_M_remove 66 = .ok (.iload_n 3, 1) := by decide +kernel
theorem d_M_remove_67 : decode b_M_remove 67 = .ok (.sipush 160, 3) := by decide +kernel
theorem d_M_remove_70 : decode b_M_remove 70 = .ok (.iload_n 1, 1) := by decide +kernel
theorem d_M_remove_71 : decode b_M_remove 71 = .ok (.imul, 1) := by decide +kernel
theorem d_M_remove_72 : decode b_M_remove 72 = .ok (.bipush 8, 2) := by decide +kernel
theorem d_M_remove_74 : decode b_M_remove 74 = .ok (.aload_n 0, 1) := by decide +kernel
theorem d_M_remove_75 : decode b_M_remove 75 = .ok (.getfield 53, 3) := by decide +kernel
theorem d_M_remove_78 : decode b_M_remove 78 = .ok (.iload_n 1, 1) := by decide +kernel
theorem d_M_remove_79 : decode b_M_remove 79 = .ok (.iaload, 1) := by decide +kernel
theorem d_M_remove_80 : decode b_M_remove 80 = .ok (.imul, 1) := by decide +kernel
theorem d_M_remove_81 : decode b_M_remove 81 = .ok (.iadd, 1) := by decide +kernel
theorem d_M_remove_82 : decode b_M_remove 82 = .ok (.if_icmp .ge 24, 3) := by decide +kernel
theorem d_M_remove_85 : decode b_M_remove 85 = .ok (.aload_n 0, 1) := by decide +kernel
theorem d_M_remove_86 : decode b_M_remove 86 = .ok (.getfield 56, 3) := by decide +kernel
theorem d_M_remove_89 : decode b_M_remove 89 = .ok (.iload_n 3, 1) := by decide +kernel
theorem d_M_remove_90 : decode b_M_remove 90 = .ok (.aload_n 0, 1) := by decide +kernel
theorem d_M_remove_91 : decode b_M_remove 91 = .ok (.getfield 56, 3) := by decide +kernel
theorem d_M_remove_94 : decode b_M_remove 94 = .ok (.iload_n 3, 1) := by decide +kernel
theorem d_M_remove_95 : decode b_M_remove 95 = .ok (.bipush 8, 2) := by decide +kernel
theorem d_M_remove_97 : decode b_M_remove 97 = .ok (.iadd, 1) := by decide +kernel
theorem d_M_remove_98 : decode b_M_remove 98 = .ok (.iaload, 1) := by decide +kernel
theorem d_M_remove_99 : decode b_M_remove 99 = .ok (.iastore, 1) := by decide +kernel
theorem d_M_remove_100 : decode b_M_remove 100 = .ok (.iinc 3 1, 3) := by decide +kernel
theorem d_M_remove_103 : decode b_M_remove 103 = .ok (.goto (-37), 3) := by decide +kernel
theorem d_M_remove_106 : decode b_M_remove 106 = .ok (.iconst 1, 1) := by decide +kernel
theorem d_M_remove_107 : decode b_M_remove 107 = .ok (.ireturn, 1) := by decide +kernel
theorem d_M_act_0 : decode b_M_act 0 = .ok (.aload_n 0, 1) := by decide +kernel
theorem d_M_act_1 : decode b_M_act 1 = .ok (.iload_n 1, 1) := by decide +kernel
theorem d_M_act_2 : decode b_M_act 2 = .ok (.aload_n 0, 1) := by decide +kernel
theorem d_M_act_3 : decode b_M_act 3 = .ok (.getfield 35, 3) := by decide +kernel
theorem d_M_act_6 : decode b_M_act 6 = .ok (.invokestatic 91, 3) := by decide +kernel
theorem d_M_act_9 : decode b_M_act 9 = .ok (.ifCond .eq 7, 3) := by decide +kernel
theorem d_M_act_12 : decode b_M_act 12 = .ok (.iconst 1, 1) := by decide +kernel
theorem d_M_act_13 : decode b_M_act 13 = .ok (.goto 4, 3) := by decide +kernel
theorem d_M_act_16 : decode b_M_act 16 = .ok (.iconst 0, 1) := by decide +kernel
theorem d_M_act_17 : decode b_M_act 17 = .ok (.putfield 7, 3) := by decide +kernel
theorem d_M_act_20 : decode b_M_act 20 = .ok (.aload_n 0, 1) := by decide +kernel
theorem d_M_act_21 : decode b_M_act 21 = .ok (.getfield 7, 3) := by decide +kernel
theorem d_M_act_24 : decode b_M_act 24 = .ok (.ifCond .eq 5, 3) := by decide +kernel
theorem d_M_act_27 : decode b_M_act 27 = .ok (.iconst 0, 1) := by decide +kernel
theorem d_M_act_28 : decode b_M_act 28 = .ok (.ireturn, 1) := by decide +kernel
theorem d_M_act_29 : decode b_M_act 29 = .ok (.aload_n 0, 1) := by decide +kernel
theorem d_M_act_30 : decode b_M_act 30 = .ok (.iload_n 1, 1) := by decide +kernel
theorem d_M_act_31 : decode b_M_act 31 = .ok (.invokevirtual 106, 3) := by decide +kernel
theorem d_M_act_34 : decode b_M_act 34 = .ok (.istore_n 2, 1) := by decide +kernel
theorem d_M_act_35 : decode b_M_act 35 = .ok (.iload_n 2, 1) := by decide +kernel
theorem d_M_act_36 : decode b_M_act 36 = .ok (.ifCond .ge 12, 3) := by decide +kernel
theorem d_M_act_39 : decode b_M_act 39 = .ok (.aload_n 0, 1) := by decide +kernel
theorem d_M_act_40 : decode b_M_act 40 = .ok (.getfield 50, 3) := by decide +kernel
theorem d_M_act_43 : decode b_M_act 43 = .ok (.iload_n 1, 1) := by decide +kernel
theorem d_M_act_44 : decode b_M_act 44 = .ok (.iaload, 1) := by decide +kernel
theorem d_M_act_45 : decode b_M_act 45 = .ok (.goto 11, 3) := by decide +kernel
theorem d_M_act_48 : decode b_M_act 48 = .ok (.aload_n 0, 1) := by decide +kernel
theorem d_M_act_49 : decode b_M_act 49 = .ok (.getfield 56, 3) := by decide +kernel
theorem d_M_act_52 : decode b_M_act 52 = .ok (.iload_n 2, 1) := by decide +kernel
theorem d_M_act_53 : decode b_M_act 53 = .ok (.iconst 5, 1) := by decide +kernel
theorem d_M_act_54 : decode b_M_act 54 = .ok (.iadd, 1) := by decide +kernel
theorem d_M_act_55 : decode b_M_act 55 = .ok (.iaload, 1) := by decide +kernel
theorem d_M_act_56 : decode b_M_act 56 = .ok (.istore_n 3, 1) := by decide +kernel
theorem d_M_act_57 : decode b_M_act 57 = .ok (.aload_n 0, 1) := by decide +kernel
theorem d_M_act_58 : decode b_M_act 58 = .ok (.iconst 0, 1) := by decide +kernel
theorem d_M_act_59 : decode b_M_act 59 = .ok (.putfield 65, 3) := by decide +kernel
theorem d_M_act_62 : decode b_M_act 62 = .ok (.aload_n 0, 1) := by decide +kernel
theorem d_M_act_63 : decode b_M_act 63 = .ok (.iconst 0, 1) := by decide +kernel
theorem d_M_act_64 : decode b_M_act 64 = .ok (.putfield 68, 3) := by decide +kernel
theorem d_M_act_67 : decode b_M_act 67 = .ok (.iconst 0, 1) := by decide +kernel
theorem d_M_act_68 : decode b_M_act 68 = .ok (.istore 4, 2) := by decide +kernel
theorem d_M_act_70 : decode b_M_act 70 = .ok (.iload 4, 2) := by decide +kernel
theorem d_M_act_72 : decode b_M_act 72 = .ok (.aload_n 0, 1) := by decide +kernel
theorem d_M_act_73 : decode b_M_act 73 = .ok (.getfield 26, 3) := by decide +kernel
theorem d_M_act_76 : decode b_M_act 76 = .ok (.iload_n 3, 1) := by decide +kernel
theorem d_M_act_77 : decode b_M_act 77 = .ok (.iaload, 1) := by decide +kernel
theorem d_M_act_78 : decode b_M_act 78 = .ok (.if_icmp .ge 59, 3) := by decide +kernel
theorem d_M_act_81 : decode b_M_act 81 = .ok (.bipush 16, 2) := by decide +kernel
theorem d_M_act_83 : decode b_M_act 83 = .ok (.iload_n 3, 1) := by decide +kernel
theorem d_M_act_84 : decode b_M_act 84 = .ok (.imul, 1) := by decide +kernel
theorem d_M_act_85 : decode b_M_act 85 = .ok (.iconst 4, 1) := by decide +kernel
theorem d_M_act_86 : decode b_M_act 86 = .ok (.iload 4, 2) := by decide +kernel
theorem d_M_act_88 : decode b_M_act 88 = .ok (.imul, 1) := by decide +kernel
theorem d_M_act_89 : decode b_M_act 89 = .ok (.iadd, 1) := by decide +kernel
theorem d_M_act_90 : decode b_M_act 90 = .ok (.istore 5, 2) := by decide +kernel
theorem d_M_act_92 : decode b_M_act 92 = .ok (.aload_n 0, 1) := by decide +kernel
theorem d_M_act_93 : decode b_M_act 93 = .ok (.aload_n 0, 1) := by decide +kernel
theorem d_M_act_94 : decode b_M_act 94 = .ok (.getfield 29, 3) := by decide +kernel
theorem d_M_act_97 : decode b_M_act 97 = .ok (.iload 5, 2) := by decide +kernel
theorem d_M_act_99 : decode b_M_act 99 = .ok (.iaload, 1) := by decide +kernel
theorem d_M_act_100 : decode b_M_act 100 = .ok (.aload_n 0, 1) := by decide +kernel
theorem d_M_act_101 : decode b_M_act 101 = .ok (.getfield 29, 3) := by decide +kernel
theorem d_M_act_104 : decode b_M_act 104 = .ok (.iload 5, 2) := by decide +kernel
theorem d_M_act_106 : decode b_M_act 106 = .ok (.iconst 1, 1) := by decide +kernel
theorem d_M_act_107 : decode b_M_act 107 = .ok (.iadd, 1) := by decide +kernel
theorem d_M_act_108 : decode b_M_act 108 = .ok (.iaload, 1) := by decide +kernel
theorem d_M_act_109 : decode b_M_act 109 = .ok (.aload_n 0, 1) := by decide +kernel
theorem d_M_act_110 : decode b_M_act 110 = .ok (.getfield 29, 3) := by decide +kernel
theorem d_M_act_113 : decode b_M_act 113 = .ok (.iload 5, 2) := by decide +kernel
theorem d_M_act_115 : decode b_M_act 115 = .ok (.iconst 2, 1) := by decide +kernel
theorem d_M_act_116 : decode b_M_act 116 = .ok (.iadd, 1) := by decide +kernel
theorem d_M_act_117 : decode b_M_act 117 = .ok (.iaload, 1) := by decide +kernel
theorem d_M_act_118 : decode b_M_act 118 = .ok (.aload_n 0, 1) := by decide +kernel
theorem d_M_act_119 : decode b_M_act 119 = .ok (.getfield 29, 3) := by decide +kernel
theorem d_M_act_122 : decode b_M_act 122 = .ok (.iload 5, 2) := by decide +kernel
theorem d_M_act_124 : decode b_M_act 124 = .ok (.iconst 3, 1) := by decide +kernel
theorem d_M_act_125 : decode b_M_act 125 = .ok (.iadd, 1) := by decide +kernel
theorem d_M_act_126 : decode b_M_act 126 = .ok (.iaload, 1) := by decide +kernel
theorem d_M_act_127 : decode b_M_act 127 = .ok (.iload_n 2, 1) := by decide +kernel
theorem d_M_act_128 : decode b_M_act 128 = .ok (.invokevirtual 109, 3) := by decide +kernel
theorem d_M_act_131 : decode b_M_act 131 = .ok (.iinc 4 1, 3) := by decide +kernel
theorem d_M_act_134 : decode b_M_act 134 = .ok (.goto (-64), 3) := by decide +kernel
theorem d_M_act_137 : decode b_M_act 137 = .ok (.iload_n 2, 1) := by decide +kernel
theorem d_M_act_138 : decode b_M_act 138 = .ok (.ifCond .lt 7, 3) := by decide +kernel
theorem d_M_act_141 : decode b_M_act 141 = .ok (.iconst 1, 1) := by decide +kernel
theorem d_M_act_142 : decode b_M_act 142 = .ok (.goto 4, 3) := by decide +kernel
theorem d_M_act_145 : decode b_M_act 145 = .ok (.iconst 0, 1) := by decide +kernel
theorem d_M_act_146 : decode b_M_act 146 = .ok (.ireturn, 1) := by decide +kernel
theorem d_M_match_0 : decode b_M_match 0 = .ok (.iconst (-1), 1) := by decide +kernel
theorem d_M_match_1 : decode b_M_match 1 = .ok (.istore_n 2, 1) := by decide +kernel
theorem d_M_match_2 : decode b_M_match 2 = .ok (.iconst 0, 1) := by decide +kernel
theorem d_M_match_3 : decode b_M_match 3 = .ok (.istore_n 3, 1) := by decide +kernel
theorem d_M_match_4 : decode b_M_match 4 = .ok (.iload_n 3, 1) := by decide +kernel
theorem d_M_match_5 : decode b_M_match 5 = .ok (.aload_n 0, 1) := by decide +kernel
theorem d_M_match_6 : decode b_M_match 6 = .ok (.getfield 53, 3) := by decide +kernel
theorem d_M_match_9 : decode b_M_match 9 = .ok (.iload_n 1, 1) := by decide +kernel
theorem d_M_match_10 : decode b_M_match 10 = .ok (.iaload, 1) := by decide +kernel
theorem d_M_match_11 : decode b_M_match 11 = .ok (.if_icmp .ge 172, 3) := by decide +kernel
theorem d_M_match_14 : decode b_M_match 14 = .ok (.sipush 160, 3) := by decide +kernel
theorem d_M_match_17 : decode b_M_match 17 = .ok (.iload_n 1, 1) := by decide +kernel
theorem d_M_match_18 : decode b_M_match 18 = .ok (.imul, 1) := by decide +kernel
theorem d_M_match_19 : decode b_M_match 19 = .ok (.bipush 8, 2) := by decide +kernel
theorem d_M_match_21 : decode b_M_match 21 = .ok (.iload_n 3, 1) := by decide +kernel
theorem d_M_match_22 : decode b_M_match 22 = .ok (.imul, 1) := by decide +kernel
theorem d_M_match_23 : decode b_M_match 23 = .ok (.iadd, 1) := by decide +kernel
theorem d_M_match_24 : decode b_M_match 24 = .ok (.istore 4, 2) := by decide +kernel
theorem d_M_match_26 : decode b_M_match 26 = .ok (.aload_n 0, 1) := by decide +kernel
theorem d_M_match_27 : decode b_M_match 27 = .ok (.getfield 20, 3) := by decide +kernel
theorem d_M_match_30 : decode b_M_match 30 = .ok (.aload_n 0, 1) := by decide +kernel
theorem d_M_match_31 : decode b_M_match 31 = .ok (.getfield 38, 3) := by decide +kernel
theorem d_M_match_34 : decode b_M_match 34 = .ok (.iload_n 1, 1) := by decide +kernel
theorem d_M_match_35 : decode b_M_match 35 = .ok (.iaload, 1) := by decide +kernel
theorem d_M_match_36 : decode b_M_match 36 = .ok (.iaload, 1) := by decide +kernel
theorem d_M_match_37 : decode b_M_match 37 = .ok (.aload_n 0, 1) := by decide +kernel
theorem d_M_match_38 : decode b_M_match 38 = .ok (.getfield 56, 3) := by decide +kernel
theorem d_M_match_41 : decode b_M_match 41 = .ok (.iload 4, 2) := by decide +kernel
theorem d_M_match_43 : decode b_M_match 43 = .ok (.iaload, 1) := by decide +kernel
theorem d_M_match_44 : decode b_M_match 44 = .ok (.ixor, 1) := by decide +kernel
theorem d_M_match_45 : decode b_M_match 45 = .ok (.aload_n 0, 1) := by decide +kernel
theorem d_M_match_46 : decode b_M_match 46 = .ok (.getfield 56, 3) := by decide +kernel
theorem d_M_match_49 : decode b_M_match 49 = .ok (.iload 4, 2) := by decide +kernel
theorem d_M_match_51 : decode b_M_match 51 = .ok (.iconst 1, 1) := by decide +kernel
theorem d_M_match_52 : decode b_M_match 52 = .ok (.iadd, 1) := by decide +kernel
theorem d_M_match_53 : decode b_M_match 53 = .ok (.iaload, 1) := by decide +kernel
theorem d_M_match_54 : decode b_M_match 54 = .ok (.iand, 1) := by decide +kernel
theorem d_M_match_55 : decode b_M_match 55 = .ok (.ifCond .ne 50, 3) := by decide +kernel
theorem d_M_match_58 : decode b_M_match 58 = .ok (.aload_n 0, 1) := by decide +kernel
theorem d_M_match_59 : decode b_M_match 59 = .ok (.getfield 41, 3) := by decide +kernel
theorem d_M_match_62 : decode b_M_match 62 = .ok (.iload_n 1, 1) := by decide +kernel
theorem d_M_match_63 : decode b_M_match 63 = .ok (.iaload, 1) := by decide +kernel
theorem d_M_match_64 : decode b_M_match 64 = .ok (.ifCond .lt 37, 3) := by decide +kernel
theorem d_M_match_67 : decode b_M_match 67 = .ok (.aload_n 0, 1) := by decide +kernel
theorem d_M_match_68 : decode b_M_match 68 = .ok (.getfield 20, 3) := by decide +kernel
theorem d_M_match_71 : decode b_M_match 71 = .ok (.aload_n 0, 1) := by decide +kernel
theorem d_M_match_72 : decode b_M_match 72 = .ok (.getfield 41, 3) := by decide +kernel
theorem d_M_match_75 : decode b_M_match 75 = .ok (.iload_n 1, 1) := by decide +kernel
theorem d_M_match_76 : decode b_M_match 76 = .ok (.iaload, 1) := by decide +kernel
theorem d_M_match_77 : decode b_M_match 77 = .ok (.iaload, 1) := by decide +kernel
theorem d_M_match_78 : decode b_M_match 78 = .ok (.aload_n 0, 1) := by decide +kernel
theorem d_M_match_79 : decode b_M_match 79 = .ok (.getfield 56, 3) := by decide +kernel
theorem d_M_match_82 : decode b_M_match 82 = .ok (.iload 4, 2) := by decide +kernel
theorem d_M_match_84 : decode b_M_match 84 = .ok (.iconst 2, 1) := by decide +kernel
theorem d_M_match_85 : decode b_M_match 85 = .ok (.iadd, 1) := by decide +kernel
theorem d_M_match_86 : decode b_M_match 86 = .ok (.iaload, 1) := by decide +kernel
theorem d_M_match_87 : decode b_M_match 87 = .ok (.ixor, 1) := by decide +kernel
theorem d_M_match_88 : decode b_M_match 88 = .ok (.aload_n 0, 1) := by decide +kernel
theorem d_M_match_89 : decode b_M_match 89 = .ok (.getfield 56, 3) := by decide +kernel
theorem d_M_match_92 : decode b_M_match 92 = .ok (.iload 4, 2) := by decide +kernel
theorem d_M_match_94 : decode b_M_match 94 = .ok (.iconst 3, 1) := by decide +kernel
theorem d_M_match_95 : decode b_M_match 95 = .ok (.iadd, 1) := by decide +kernel
theorem d_M_match_96 : decode b_M_match 96 = .ok (.iaload, 1) := by decide +kernel
theorem d_M_match_97 : decode b_M_match 97 = .ok (.iand, 1) := by decide +kernel
theorem d_M_match_98 : decode b_M_match 98 = .ok (.ifCond .ne 7, 3) := by decide +kernel
theorem d_M_match_101 : decode b_M_match 101 = .ok (.iconst 1, 1) := by decide +kernel
theorem d_M_match_102 : decode b_M_match 102 = .ok (.goto 4, 3) := by decide +kernel
theorem d_M_match_105 : decode b_M_match 105 = .ok (.iconst 0, 1) := by decide +kernel
theorem d_M_match_106 : decode b_M_match 106 = .ok (.istore 5, 2) := by decide +kernel
theorem d_M_match_108 : decode b_M_match 108 = .ok (.iload 5, 2) := by decide +kernel
theorem d_M_match_110 : decode b_M_match 110 = .ok (.ifCond .eq 13, 3) := by decide +kernel
theorem d_M_match_113 : decode b_M_match 113 = .ok (.iload_n 2, 1) := by decide +kernel
theorem d_M_match_114 : decode b_M_match 114 = .ok (.ifCond .ge 9, 3) := by decide +kernel
theorem d_M_match_117 : decode b_M_match 117 = .ok (.iload 4, 2) := by decide +kernel
theorem d_M_match_119 : decode b_M_match 119 = .ok (.istore_n 2, 1) := by decide +kernel
theorem d_M_match_120 : decode b_M_match 120 = .ok (.goto 57, 3) := by decide +kernel
theorem d_M_match_123 : decode b_M_match 123 = .ok (.iload 5, 2) := by decide +kernel
theorem d_M_match_125 : decode b_M_match 125 = .ok (.ifCond .eq 52, 3) := by decide +kernel
theorem d_M_match_128 : decode b_M_match 128 = .ok (.aload_n 0, 1) := by decide +kernel
theorem d_M_match_129 : decode b_M_match 129 = .ok (.iload_n 1, 1) := by decide +kernel
theorem d_M_match_130 : decode b_M_match 130 = .ok (.iload 4, 2) := by decide +kernel
theorem d_M_match_132 : decode b_M_match 132 = .ok (.invokevirtual 83, 3) := by decide +kernel
theorem d_M_match_135 : decode b_M_match 135 = .ok (.aload_n 0, 1) := by decide +kernel
theorem d_M_match_136 : decode b_M_match 136 = .ok (.iload_n 1, 1) := by decide +kernel
theorem d_M_match_137 : decode b_M_match 137 = .ok (.iload_n 2, 1) := by decide +kernel
theorem d_M_match_138 : decode b_M_match 138 = .ok (.invokevirtual 83, 3) := by decide +kernel
theorem d_M_match_141 : decode b_M_match 141 = .ok (.isub, 1) := by decide +kernel
theorem d_M_match_142 : decode b_M_match 142 = .ok (.istore 6, 2) := by decide +kernel
theorem d_M_match_144 : decode b_M_match 144 = .ok (.iload 6, 2) := by decide +kernel
theorem d_M_match_146 : decode b_M_match 146 = .ok (.ifCond .gt 28, 3) := by decide +kernel
theorem d_M_match_149 : decode b_M_match 149 = .ok (.iload 6, 2) := by decide +kernel
theorem d_M_match_151 : decode b_M_match 151 = .ok (.ifCond .ne 26, 3) := by decide +kernel
theorem d_M_match_154 : decode b_M_match 154 = .ok (.aload_n 0, 1) := by decide +kernel
theorem d_M_match_155 : decode b_M_match 155 = .ok (.getfield 56, 3) := by decide +kernel
theorem d_M_match_158 : decode b_M_match 158 = .ok (.iload 4, 2) := by decide +kernel
theorem d_M_match_160 : decode b_M_match 160 = .ok (.iconst 4, 1) := by decide +kernel
theorem d_M_match_161 : decode b_M_match 161 = .ok (.iadd, 1) := by decide +kernel
theorem d_M_match_162 : decode b_M_match 162 = .ok (.iaload, 1) := by decide +kernel
theorem d_M_match_163 : decode b_M_match 163 = .ok (.aload_n 0, 1) := by decide +kernel
theorem d_M_match_164 : decode b_M_match 164 = .ok (.getfield 56, 3) := by decide +kernel
theorem d_M_match_167 : decode b_M_match 167 = .ok (.iload_n 2, 1) := by decide +kernel
theorem d_M_match_168 : decode b_M_match 168 = .ok (.iconst 4, 1) := by decide +kernel
theorem d_M_match_169 : decode b_M_match 169 = .ok (.iadd, 1) := by decide +kernel
theorem d_M_match_170 : decode b_M_match 170 = .ok (.iaload, 1) := by decide +kernel
theorem d_M_match_171 : decode b_M_match 171 = .ok (.if_icmp .le 6, 3) := by decide +kernel
theorem d_M_match_174 : decode b_M_match 174 = .ok (.iload 4, 2) := by decide +kernel
theorem d_M_match_176 : decode b_M_match 176 = .ok (.istore_n 2, 1) := by decide +kernel
theorem d_M_match_177 : decode b_M_match 177 = .ok (.iinc 3 1, 3) := by decide +kernel
theorem d_M_match_180 : decode b_M_match 180 = .ok (.goto (-176), 3) := by decide +kernel
theorem d_M_match_183 : decode b_M_match 183 = .ok (.iload_n 2, 1) := by decide +kernel
theorem d_M_match_184 : decode b_M_match 184 = .ok (.ireturn, 1) := by decide +kernel
theorem d_M_prefix_0 : decode b_M_prefix 0 = .ok (.aload_n 0, 1) := by decide +kernel
theorem d_M_prefix_1 : decode b_M_prefix 1 = .ok (.getfield 44, 3) := by decide +kernel
theorem d_M_prefix_4 : decode b_M_prefix 4 = .ok (.iload_n 1, 1) := by decide +kernel
theorem d_M_prefix_5 : decode b_M_prefix 5 = .ok (.iaload, 1) := by decide +kernel
theorem d_M_prefix_6 : decode b_M_prefix 6 = .ok (.iconst 4, 1) := by decide +kernel
theorem d_M_prefix_7 : decode b_M_prefix 7 = .ok (.irem, 1) := by decide +kernel
theorem d_M_prefix_8 : decode b_M_prefix 8 = .ok (.iconst 1, 1) := by decide +kernel
theorem d_M_prefix_9 : decode b_M_prefix 9 = .ok (.if_icmp .ne 17, 3) := by decide +kernel
theorem d_M_prefix_12 : decode b_M_prefix 12 = .ok (.aload_n 0, 1) := by decide +kernel
theorem d_M_prefix_13 : decode b_M_prefix 13 = .ok (.getfield 56, 3) := by decide +kernel
theorem d_M_prefix_16 : decode b_M_prefix 16 = .ok (.iload_n 2, 1) := by decide +kernel
theorem d_M_prefix_17 : decode b_M_prefix 17 = .ok (.iconst 1, 1) := by decide +kernel
theorem d_M_prefix_18 : decode b_M_prefix 18 = .ok (.iadd, 1) := by decide +kernel
theorem d_M_prefix_19 : decode b_M_prefix 19 = .ok (.iaload, 1) := by decide +kernel
theorem d_M_prefix_20 : decode b_M_prefix 20 = .ok (.invokestatic 80, 3) := by decide +kernel
theorem d_M_prefix_23 : decode b_M_prefix 23 = .ok (.goto 30, 3) := by decide +kernel
theorem d_M_prefix_26 : decode b_M_prefix 26 = .ok (.aload_n 0, 1) := by decide +kernel
theorem d_M_prefix_27 : decode b_M_prefix 27 = .ok (.getfield 44, 3) := by decide +kernel
theorem d_M_prefix_30 : decode b_M_prefix 30 = .ok (.iload_n 1, 1) := by decide +kernel
theorem d_M_prefix_31 : decode b_M_prefix 31 = .ok (.iaload, 1) := by decide +kernel
theorem d_M_prefix_32 : decode b_M_prefix 32 = .ok (.iconst 4, 1) := by decide +kernel
theorem d_M_prefix_33 : decode b_M_prefix 33 = .ok (.idiv, 1) := by decide +kernel
theorem d_M_prefix_34 : decode b_M_prefix 34 = .ok (.iconst 1, 1) := by decide +kernel
theorem d_M_prefix_35 : decode b_M_prefix 35 = .ok (.if_icmp .ne 17, 3) := by decide +kernel
theorem d_M_prefix_38 : decode b_M_prefix 38 = .ok (.aload_n 0, 1) := by decide +kernel
theorem d_M_prefix_39 : decode b_M_prefix 39 = .ok (.getfield 56, 3) := by decide +kernel
theorem d_M_prefix_42 : decode b_M_prefix 42 = .ok (.iload_n 2, 1) := by decide +kernel
theorem d_M_prefix_43 : decode b_M_prefix 43 = .ok (.iconst 3, 1) := by decide +kernel
theorem d_M_prefix_44 : decode b_M_prefix 44 = .ok (.iadd, 1) := by decide +kernel
theorem d_M_prefix_45 : decode b_M_prefix 45 = .ok (.iaload, 1) := by decide +kernel
theorem d_M_prefix_46 : decode b_M_prefix 46 = .ok (.invokestatic 80, 3) := by decide +kernel
theorem d_M_prefix_49 : decode b_M_prefix 49 = .ok (.goto 4, 3) := by decide +kernel
theorem d_M_prefix_52 : decode b_M_prefix 52 = .ok (.iconst 0, 1) := by decide +kernel
theorem d_M_prefix_53 : decode b_M_prefix 53 = .ok (.ireturn, 1) := by decide +kernel
theorem d_M_bits_0 : decode b_M_bits 0 = .ok (.iconst 0, 1) := by decide +kernel
theorem d_M_bits_1 : decode b_M_bits 1 = .ok (.istore_n 1, 1) := by decide +kernel
theorem d_M_bits_2 : decode b_M_bits 2 = .ok (.iconst 0, 1) := by decide +kernel
theorem d_M_bits_3 : decode b_M_bits 3 = .ok (.istore_n 2, 1) := by decide +kernel
theorem d_M_bits_4 : decode b_M_bits 4 = .ok (.iload_n 2, 1) := by decide +kernel
theorem d_M_bits_5 : decode b_M_bits 5 = .ok (.bipush 32, 2) := by decide +kernel
theorem d_M_bits_7 : decode b_M_bits 7 = .ok (.if_icmp .ge 17, 3) := by decide +kernel
theorem d_M_bits_10 : decode b_M_bits 10 = .ok (.iload_n 1, 1) := by decide +kernel
theorem d_M_bits_11 : decode b_M_bits 11 = .ok (.iload_n 0, 1) := by decide +kernel
theorem d_M_bits_12 : decode b_M_bits 12 = .ok (.iload_n 2, 1) := by decide +kernel
theorem d_M_bits_13 : decode b_M_bits 13 = .ok (.iushr, 1) := by decide +kernel
theorem d_M_bits_14 : decode b_M_bits 14 = .ok (.iconst 1, 1) := by decide +kernel
theorem d_M_bits_15 : decode b_M_bits 15 = .ok (.iand, 1) := by decide +kernel
theorem d_M_bits_16 : decode b_M_bits 16 = .ok (.iadd, 1) := by decide +kernel
theorem d_M_bits_17 : decode b_M_bits 17 = .ok (.istore_n 1, 1) := by decide +kernel
theorem d_M_bits_18 : decode b_M_bits 18 = .ok (.iinc 2 1, 3) := by decide +kernel
theorem d_M_bits_21 : decode b_M_bits 21 = .ok (.goto (-17), 3) := by decide +kernel
theorem d_M_bits_24 : decode b_M_bits 24 = .ok (.iload_n 1, 1) := by decide +kernel
theorem d_M_bits_25 : decode b_M_bits 25 = .ok (.ireturn, 1) := by decide +kernel
theorem d_M_does_0 : decode b_M_does 0 = .ok (.iload_n 1, 1) := by decide +kernel
theorem d_M_does_1 : decode b_M_does 1 = .ok (.ifCond .ne 9, 3) := by decide +kernel
theorem d_M_does_4 : decode b_M_does 4 = .ok (.aload_n 0, 1) := by decide +kernel
theorem d_M_does_5 : decode b_M_does 5 = .ok (.iload_n 2, 1) := by decide +kernel
theorem d_M_does_6 : decode b_M_does 6 = .ok (.iload_n 3, 1) := by decide +kernel
theorem d_M_does_7 : decode b_M_does 7 = .ok (.invokevirtual 87, 3) := by decide +kernel
theorem d_M_does_10 : decode b_M_does 10 = .ok (.iload_n 1, 1) := by decide +kernel
theorem d_M_does_11 : decode b_M_does 11 = .ok (.iconst 1, 1) := by decide +kernel
theorem d_M_does_12 : decode b_M_does 12 = .ok (.if_icmp .ne 14, 3) := by decide +kernel
theorem d_M_does_15 : decode b_M_does 15 = .ok (.aload_n 0, 1) := by decide +kernel
theorem d_M_does_16 : decode b_M_does 16 = .ok (.iload_n 2, 1) := by decide +kernel
theorem d_M_does_17 : decode b_M_does 17 = .ok (.aload_n 0, 1) := by decide +kernel
theorem d_M_does_18 : decode b_M_does 18 = .ok (.getfield 20, 3) := by decide +kernel
theorem d_M_does_21 : decode b_M_does 21 = .ok (.iload_n 3, 1) := by decide +kernel
theorem d_M_does_22 : decode b_M_does 22 = .ok (.iaload, 1) := by decide +kernel
theorem d_M_does_23 : decode b_M_does 23 = .ok (.invokevirtual 87, 3) := by decide +kernel
theorem d_M_does_26 : decode b_M_does 26 = .ok (.iload_n 1, 1) := by decide +kernel
theorem d_M_does_27 : decode b_M_does 27 = .ok (.iconst 2, 1) := by decide +kernel
theorem d_M_does_28 : decode b_M_does 28 = .ok (.if_icmp .ne 24, 3) := by decide +kernel
theorem d_M_does_31 : decode b_M_does 31 = .ok (.aload_n 0, 1) := by decide +kernel
theorem d_M_does_32 : decode b_M_does 32 = .ok (.iload_n 2, 1) := by decide +kernel
theorem d_M_does_33 : decode b_M_does 33 = .ok (.aload_n 0, 1) := by decide +kernel
theorem d_M_does_34 : decode b_M_does 34 = .ok (.getfield 20, 3) := by decide +kernel
theorem d_M_does_37 : decode b_M_does 37 = .ok (.iload_n 2, 1) := by decide +kernel
theorem d_M_does_38 : decode b_M_does 38 = .ok (.iaload, 1) := by decide +kernel
theorem d_M_does_39 : decode b_M_does 39 = .ok (.aload_n 0, 1) := by decide +kernel
theorem d_M_does_40 : decode b_M_does 40 = .ok (.getfield 20, 3) := by decide +kernel
theorem d_M_does_43 : decode b_M_does 43 = .ok (.iload_n 3, 1) := by decide +kernel
theorem d_M_does_44 : decode b_M_does 44 = .ok (.iaload, 1) := by decide +kernel
theorem d_M_does_45 : decode b_M_does 45 = .ok (.iadd, 1) := by decide +kernel
theorem d_M_does_46 : decode b_M_does 46 = .ok (.iload 4, 2) := by decide +kernel
theorem d_M_does_48 : decode b_M_does 48 = .ok (.iadd, 1) := by decide +kernel
theorem d_M_does_49 : decode b_M_does 49 = .ok (.invokevirtual 87, 3) := by decide +kernel
theorem d_M_does_52 : decode b_M_does 52 = .ok (.iload_n 1, 1) := by decide +kernel
theorem d_M_does_53 : decode b_M_does 53 = .ok (.iconst 3, 1) := by decide +kernel
theorem d_M_does_54 : decode b_M_does 54 = .ok (.if_icmp .ne 29, 3) := by decide +kernel
theorem d_M_does_57 : decode b_M_does 57 = .ok (.aload_n 0, 1) := by decide +kernel
theorem d_M_does_58 : decode b_M_does 58 = .ok (.iload_n 2, 1) := by decide +kernel
theorem d_M_does_59 : decode b_M_does 59 = .ok (.iload 5, 2) := by decide +kernel
theorem d_M_does_61 : decode b_M_does 61 = .ok (.ifCond .ge 7, 3) := by decide +kernel
theorem d_M_does_64 : decode b_M_does 64 = .ok (.iconst 0, 1) := by decide +kernel
theorem d_M_does_65 : decode b_M_does 65 = .ok (.goto 15, 3) := by decide +kernel
theorem d_M_does_68 : decode b_M_does 68 = .ok (.aload_n 0, 1) := by decide +kernel
theorem d_M_does_69 : decode b_M_does 69 = .ok (.getfield 56, 3) := by decide +kernel
theorem d_M_does_72 : decode b_M_does 72 = .ok (.iload 5, 2) := by decide +kernel
theorem d_M_does_74 : decode b_M_does 74 = .ok (.bipush 6, 2) := by decide +kernel
theorem d_M_does_76 : decode b_M_does 76 = .ok (.iadd, 1) := by decide +kernel
theorem d_M_does_77 : decode b_M_does 77 = .ok (.iload_n 3, 1) := by decide +kernel
theorem d_M_does_78 : decode b_M_does 78 = .ok (.iadd, 1) := by decide +kernel
theorem d_M_does_79 : decode b_M_does 79 = .ok (.iaload, 1) := by decide +kernel
theorem d_M_does_80 : decode b_M_does 80 = .ok (.invokevirtual 87, 3) := by decide +kernel
theorem d_M_does_83 : decode b_M_does 83 = .ok (.iload_n 1, 1) := by decide +kernel
theorem d_M_does_84 : decode b_M_does 84 = .ok (.iconst 4, 1) := by decide +kernel
theorem d_M_does_85 : decode b_M_does 85 = .ok (.if_icmp .ne 8, 3) := by decide +kernel
theorem d_M_does_88 : decode b_M_does 88 = .ok (.aload_n 0, 1) := by decide +kernel
theorem d_M_does_89 : decode b_M_does 89 = .ok (.iload_n 3, 1) := by decide +kernel
theorem d_M_does_90 : decode b_M_does 90 = .ok (.putfield 65, 3) := by decide +kernel
theorem d_M_does_93 : decode b_M_does 93 = .ok (.iload_n 1, 1) := by decide +kernel
theorem d_M_does_94 : decode b_M_does 94 = .ok (.iconst 5, 1) := by decide +kernel
theorem d_M_does_95 : decode b_M_does 95 = .ok (.if_icmp .ne 28, 3) := by decide +kernel
theorem d_M_does_98 : decode b_M_does 98 = .ok (.aload_n 0, 1) := by decide +kernel
theorem d_M_does_99 : decode b_M_does 99 = .ok (.iload 5, 2) := by decide +kernel
theorem d_M_does_101 : decode b_M_does 101 = .ok (.ifCond .ge 7, 3) := by decide +kernel
theorem d_M_does_104 : decode b_M_does 104 = .ok (.iconst 0, 1) := by decide +kernel
theorem d_M_does_105 : decode b_M_does 105 = .ok (.goto 15, 3) := by decide +kernel
theorem d_M_does_108 : decode b_M_does 108 = .ok (.aload_n 0, 1) := by decide +kernel
theorem d_M_does_109 : decode b_M_does 109 = .ok (.getfield 56, 3) := by decide +kernel
theorem d_M_does_112 : decode b_M_does 112 = .ok (.iload 5, 2) := by decide +kernel
theorem d_M_does_114 : decode b_M_does 114 = .ok (.bipush 6, 2) := by decide +kernel
theorem d_M_does_116 : decode b_M_does 116 = .ok (.iadd, 1) := by decide +kernel
theorem d_M_does_117 : decode b_M_does 117 = .ok (.iload_n 3, 1) := by decide +kernel
theorem d_M_does_118 : decode b_M_does 118 = .ok (.iadd, 1) := by decide +kernel
theorem d_M_does_119 : decode b_M_does 119 = .ok (.iaload, 1) := by decide +kernel
theorem d_M_does_120 : decode b_M_does 120 = .ok (.putfield 65, 3) := by decide +kernel
theorem d_M_does_123 : decode b_M_does 123 = .ok (.iload_n 1, 1) := by decide +kernel
theorem d_M_does_124 : decode b_M_does 124 = .ok (.bipush 6, 2) := by decide +kernel
theorem d_M_does_126 : decode b_M_does 126 = .ok (.if_icmp .ne 8, 3) := by decide +kernel
theorem d_M_does_129 : decode b_M_does 129 = .ok (.aload_n 0, 1) := by decide +kernel
theorem d_M_does_130 : decode b_M_does 130 = .ok (.iconst 1, 1) := by decide +kernel
theorem d_M_does_131 : decode b_M_does 131 = .ok (.putfield 68, 3) := by decide +kernel
theorem d_M_does_134 : decode b_M_does 134 = .ok (.iload_n 1, 1) := by decide +kernel
theorem d_M_does_135 : decode b_M_does 135 = .ok (.bipush 7, 2) := by decide +kernel
theorem d_M_does_137 : decode b_M_does 137 = .ok (.if_icmp .ne 44, 3) := by decide +kernel
theorem d_M_does_140 : decode b_M_does 140 = .ok (.aload_n 0, 1) := by decide +kernel
theorem d_M_does_141 : decode b_M_does 141 = .ok (.getfield 32, 3) := by decide +kernel
theorem d_M_does_144 : decode b_M_does 144 = .ok (.bipush 16, 2) := by decide +kernel
theorem d_M_does_146 : decode b_M_does 146 = .ok (.iload_n 2, 1) := by decide +kernel
theorem d_M_does_147 : decode b_M_does 147 = .ok (.imul, 1) := by decide +kernel
theorem d_M_does_148 : decode b_M_does 148 = .ok (.aload_n 0, 1) := by decide +kernel
theorem d_M_does_149 : decode b_M_does 149 = .ok (.getfield 20, 3) := by decide +kernel
theorem d_M_does_152 : decode b_M_does 152 = .ok (.iload_n 3, 1) := by decide +kernel
theorem d_M_does_153 : decode b_M_does 153 = .ok (.iaload, 1) := by decide +kernel
theorem d_M_does_154 : decode b_M_does 154 = .ok (.bipush 15, 2) := by decide +kernel
theorem d_M_does_156 : decode b_M_does 156 = .ok (.iand, 1) := by decide +kernel
theorem d_M_does_157 : decode b_M_does 157 = .ok (.iadd, 1) := by decide +kernel
theorem d_M_does_158 : decode b_M_does 158 = .ok (.aload_n 0, 1) := by decide +kernel
theorem d_M_does_159 : decode b_M_does 159 = .ok (.getfield 32, 3) := by decide +kernel
theorem d_M_does_162 : decode b_M_does 162 = .ok (.bipush 16, 2) := by decide +kernel
theorem d_M_does_164 : decode b_M_does 164 = .ok (.iload_n 2, 1) := by decide +kernel
theorem d_M_does_165 : decode b_M_does 165 = .ok (.imul, 1) := by decide +kernel
theorem d_M_does_166 : decode b_M_does 166 = .ok (.aload_n 0, 1) := by decide +kernel
theorem d_M_does_167 : decode b_M_does 167 = .ok (.getfield 20, 3) := by decide +kernel
theorem d_M_does_170 : decode b_M_does 170 = .ok (.iload_n 3, 1) := by decide +kernel
theorem d_M_does_171 : decode b_M_does 171 = .ok (.iaload, 1) := by decide +kernel
theorem d_M_does_172 : decode b_M_does 172 = .ok (.bipush 15, 2) := by decide +kernel
theorem d_M_does_174 : decode b_M_does 174 = .ok (.iand, 1) := by decide +kernel
theorem d_M_does_175 : decode b_M_does 175 = .ok (.iadd, 1) := by decide +kernel
theorem d_M_does_176 : decode b_M_does 176 = .ok (.iaload, 1) := by decide +kernel
theorem d_M_does_177 : decode b_M_does 177 = .ok (.iload 4, 2) := by decide +kernel
theorem d_M_does_179 : decode b_M_does 179 = .ok (.iadd, 1) := by decide +kernel
theorem d_M_does_180 : decode b_M_does 180 = .ok (.iastore, 1) := by decide +kernel
theorem d_M_does_181 : decode b_M_does 181 = .ok (.iload_n 1, 1) := by decide +kernel
theorem d_M_does_182 : decode b_M_does 182 = .ok (.bipush 8, 2) := by decide +kernel
theorem d_M_does_184 : decode b_M_does 184 = .ok (.if_icmp .ne 28, 3) := by decide +kernel
theorem d_M_does_187 : decode b_M_does 187 = .ok (.aload_n 0, 1) := by decide +kernel
theorem d_M_does_188 : decode b_M_does 188 = .ok (.iload_n 2, 1) := by decide +kernel
theorem d_M_does_189 : decode b_M_does 189 = .ok (.aload_n 0, 1) := by decide +kernel
theorem d_M_does_190 : decode b_M_does 190 = .ok (.getfield 32, 3) := by decide +kernel
theorem d_M_does_193 : decode b_M_does 193 = .ok (.bipush 16, 2) := by decide +kernel
theorem d_M_does_195 : decode b_M_does 195 = .ok (.iload 4, 2) := by decide +kernel
theorem d_M_does_197 : decode b_M_does 197 = .ok (.imul, 1) := by decide +kernel
theorem d_M_does_198 : decode b_M_does 198 = .ok (.aload_n 0, 1) := by decide +kernel
theorem d_M_does_199 : decode b_M_does 199 = .ok (.getfield 20, 3) := by decide +kernel
theorem d_M_does_202 : decode b_M_does 202 = .ok (.iload_n 3, 1) := by decide +kernel
theorem d_M_does_203 : decode b_M_does 203 = .ok (.iaload, 1) := by decide +kernel
theorem d_M_does_204 : decode b_M_does 204 = .ok (.bipush 15, 2) := by decide +kernel
theorem d_M_does_206 : decode b_M_does 206 = .ok (.iand, 1) := by decide +kernel
theorem d_M_does_207 : decode b_M_does 207 = .ok (.iadd, 1) := by decide +kernel
theorem d_M_does_208 : decode b_M_does 208 = .ok (.iaload, 1) := by decide +kernel
theorem d_M_does_209 : decode b_M_does 209 = .ok (.invokevirtual 87, 3) := by decide +kernel
theorem d_M_does_212 : decode b_M_does 212 = .ok (.return_, 1) := by decide +kernel
theorem d_M_matches_0 : decode b_M_matches 0 = .ok (.aload_n 0, 1) := by decide +kernel
theorem d_M_matches_1 : decode b_M_matches 1 = .ok (.iconst 0, 1) := by decide +kernel
theorem d_M_matches_2 : decode b_M_matches 2 = .ok (.putfield 7, 3) := by decide +kernel
theorem d_M_matches_5 : decode b_M_matches 5 = .ok (.iload_n 1, 1) := by decide +kernel
theorem d_M_matches_6 : decode b_M_matches 6 = .ok (.aload_n 0, 1) := by decide +kernel
theorem d_M_matches_7 : decode b_M_matches 7 = .ok (.getfield 35, 3) := by decide +kernel
theorem d_M_matches_10 : decode b_M_matches 10 = .ok (.invokestatic 91, 3) := by decide +kernel
theorem d_M_matches_13 : decode b_M_matches 13 = .ok (.ifCond .eq 5, 3) := by decide +kernel
theorem d_M_matches_16 : decode b_M_matches 16 = .ok (.iconst (-1), 1) := by decide +kernel
theorem d_M_matches_17 : decode b_M_matches 17 = .ok (.ireturn, 1) := by decide +kernel
theorem d_M_matches_18 : decode b_M_matches 18 = .ok (.aload_n 0, 1) := by decide +kernel
theorem d_M_matches_19 : decode b_M_matches 19 = .ok (.iload_n 1, 1) := by decide +kernel
theorem d_M_matches_20 : decode b_M_matches 20 = .ok (.invokevirtual 106, 3) := by decide +kernel
theorem d_M_matches_23 : decode b_M_matches 23 = .ok (.istore_n 2, 1) := by decide +kernel
theorem d_M_matches_24 : decode b_M_matches 24 = .ok (.iload_n 2, 1) := by decide +kernel
theorem d_M_matches_25 : decode b_M_matches 25 = .ok (.ifCond .ge 7, 3) := by decide +kernel
theorem d_M_matches_28 : decode b_M_matches 28 = .ok (.iconst (-1), 1) := by decide +kernel
theorem d_M_matches_29 : decode b_M_matches 29 = .ok (.goto 11, 3) := by decide +kernel
theorem d_M_matches_32 : decode b_M_matches 32 = .ok (.aload_n 0, 1) := by decide +kernel
theorem d_M_matches_33 : decode b_M_matches 33 = .ok (.getfield 56, 3) := by decide +kernel
theorem d_M_matches_36 : decode b_M_matches 36 = .ok (.iload_n 2, 1) := by decide +kernel
theorem d_M_matches_37 : decode b_M_matches 37 = .ok (.iconst 5, 1) := by decide +kernel
theorem d_M_matches_38 : decode b_M_matches 38 = .ok (.iadd, 1) := by decide +kernel
theorem d_M_matches_39 : decode b_M_matches 39 = .ok (.iaload, 1) := by decide +kernel
theorem d_M_matches_40 : decode b_M_matches 40 = .ok (.ireturn, 1) := by decide +kernel
theorem d_M_port_0 : decode b_M_port 0 = .ok (.aload_n 0, 1) := by decide +kernel
theorem d_M_port_1 : decode b_M_port 1 = .ok (.iconst 0, 1) := by decide +kernel
theorem d_M_port_2 : decode b_M_port 2 = .ok (.putfield 7, 3) := by decide +kernel
theorem d_M_port_5 : decode b_M_port 5 = .ok (.aload_n 0, 1) := by decide +kernel
theorem d_M_port_6 : decode b_M_port 6 = .ok (.getfield 65, 3) := by decide +kernel
theorem d_M_port_9 : decode b_M_port 9 = .ok (.ireturn, 1) := by decide +kernel
theorem d_M_isDropped_0 : decode b_M_isDropped 0 = .ok (.aload_n 0, 1) := by decide +kernel
theorem d_M_isDropped_1 : decode b_M_isDropped 1 = .ok (.iconst 0, 1) := by decide +kernel
theorem d_M_isDropped_2 : decode b_M_isDropped 2 = .ok (.putfield 7, 3) := by decide +kernel
theorem d_M_isDropped_5 : decode b_M_isDropped 5 = .ok (.aload_n 0, 1) := by decide +kernel
theorem d_M_isDropped_6 : decode b_M_isDropped 6 = .ok (.getfield 68, 3) := by decide +kernel
theorem d_M_isDropped_9 : decode b_M_isDropped 9 = .ok (.ireturn, 1) := by decide +kernel
theorem d_M_word_0 : decode b_M_word 0 = .ok (.aload_n 0, 1) := by decide +kernel
theorem d_M_word_1 : decode b_M_word 1 = .ok (.iconst 0, 1) := by decide +kernel
theorem d_M_word_2 : decode b_M_word 2 = .ok (.putfield 7, 3) := by decide +kernel
theorem d_M_word_5 : decode b_M_word 5 = .ok (.iload_n 1, 1) := by decide +kernel
theorem d_M_word_6 : decode b_M_word 6 = .ok (.iconst 4, 1) := by decide +kernel
theorem d_M_word_7 : decode b_M_word 7 = .ok (.invokestatic 91, 3) := by decide +kernel
theorem d_M_word_10 : decode b_M_word 10 = .ok (.ifCond .ne 12, 3) := by decide +kernel
theorem d_M_word_13 : decode b_M_word 13 = .ok (.iload_n 2, 1) := by decide +kernel
theorem d_M_word_14 : decode b_M_word 14 = .ok (.bipush 16, 2) := by decide +kernel
theorem d_M_word_16 : decode b_M_word 16 = .ok (.invokestatic 91, 3) := by decide +kernel
theorem d_M_word_19 : decode b_M_word 19 = .ok (.ifCond .eq 7, 3) := by decide +kernel
theorem d_M_word_22 : decode b_M_word 22 = .ok (.iconst 0, 1) := by decide +kernel
theorem d_M_word_23 : decode b_M_word 23 = .ok (.goto 14, 3) := by decide +kernel
theorem d_M_word_26 : decode b_M_word 26 = .ok (.aload_n 0, 1) := by decide +kernel
theorem d_M_word_27 : decode b_M_word 27 = .ok (.getfield 32, 3) := by decide +kernel
theorem d_M_word_30 : decode b_M_word 30 = .ok (.bipush 16, 2) := by decide +kernel
theorem d_M_word_32 : decode b_M_word 32 = .ok (.iload_n 1, 1) := by decide +kernel
theorem d_M_word_33 : decode b_M_word 33 = .ok (.imul, 1) := by decide +kernel
theorem d_M_word_34 : decode b_M_word 34 = .ok (.iload_n 2, 1) := by decide +kernel
theorem d_M_word_35 : decode b_M_word 35 = .ok (.iadd, 1) := by decide +kernel
theorem d_M_word_36 : decode b_M_word 36 = .ok (.iaload, 1) := by decide +kernel
theorem d_M_word_37 : decode b_M_word 37 = .ok (.ireturn, 1) := by decide +kernel
theorem d_M_entries_0 : decode b_M_entries 0 = .ok (.aload_n 0, 1) := by decide +kernel
theorem d_M_entries_1 : decode b_M_entries 1 = .ok (.iconst 0, 1) := by decide +kernel
theorem d_M_entries_2 : decode b_M_entries 2 = .ok (.putfield 7, 3) := by decide +kernel
theorem d_M_entries_5 : decode b_M_entries 5 = .ok (.iload_n 1, 1) := by decide +kernel
theorem d_M_entries_6 : decode b_M_entries 6 = .ok (.aload_n 0, 1) := by decide +kernel
theorem d_M_entries_7 : decode b_M_entries 7 = .ok (.getfield 35, 3) := by decide +kernel
theorem d_M_entries_10 : decode b_M_entries 10 = .ok (.invokestatic 91, 3) := by decide +kernel
theorem d_M_entries_13 : decode b_M_entries 13 = .ok (.ifCond .eq 7, 3) := by decide +kernel
theorem d_M_entries_16 : decode b_M_entries 16 = .ok (.iconst (-1), 1) := by decide +kernel
theorem d_M_entries_17 : decode b_M_entries 17 = .ok (.goto 9, 3) := by decide +kernel
theorem d_M_entries_20 : decode b_M_entries 20 = .ok (.aload_n 0, 1) := by decide +kernel
theorem d_M_entries_21 : decode b_M_entries 21 = .ok (.getfield 53, 3) := by decide +kernel
theorem d_M_entries_24 : decode b_M_entries 24 = .ok (.iload_n 1, 1) := by decide +kernel
theorem d_M_entries_25 : decode b_M_entries 25 = .ok (.iaload, 1) := by decide +kernel
theorem d_M_entries_26 : decode b_M_entries 26 = .ok (.ireturn, 1) := by decide +kernel
end
section
/-! Decoded instructions, by program (wip/gen/names.py). -/
theorem d_L_field_0 : decode b_L_field 0 = .ok (.aload_n 2, 1) := by decide +kernel
theorem d_L_field_1 : decode b_L_field 1 = .ok (.iconst 0, 1) := by decide +kernel
theorem d_L_field_2 : decode b_L_field 2 = .ok (.aload_n 0, 1) := by decide +kernel
theorem d_L_field_3 : decode b_L_field 3 = .ok (.iload_n 1, 1) := by decide +kernel
theorem d_L_field_4 : decode b_L_field 4 = .ok (.invokevirtual 7, 3) := by decide +kernel
theorem d_L_field_7 : decode b_L_field 7 = .ok (.i2l, 1) := by decide +kernel
theorem d_L_field_8 : decode b_L_field 8 = .ok (.lastore, 1) := by decide +kernel
theorem d_L_field_9 : decode b_L_field 9 = .ok (.goto 9, 3) := by decide +kernel
theorem d_L_field_12 : decode b_L_field 12 = .ok (.astore_n 3, 1) := by decide +kernel
theorem d_L_field_13 : decode b_L_field 13 = .ok (.iconst 1, 1) := by decide +kernel
theorem d_L_field_14 : decode b_L_field 14 = .ok (.ireturn, 1) := by decide +kernel
theorem d_L_field_15 : decode b_L_field 15 = .ok (.astore_n 3, 1) := by decide +kernel
theorem d_L_field_16 : decode b_L_field 16 = .ok (.iconst 2, 1) := by decide +kernel
theorem d_L_field_17 : decode b_L_field 17 = .ok (.ireturn, 1) := by decide +kernel
theorem d_L_field_18 : decode b_L_field 18 = .ok (.iconst 0, 1) := by decide +kernel
theorem d_L_field_19 : decode b_L_field 19 = .ok (.ireturn, 1) := by decide +kernel
theorem d_L_set_0 : decode b_L_set 0 = .ok (.aload_n 0, 1) := by decide +kernel
theorem d_L_set_1 : decode b_L_set 1 = .ok (.iload_n 1, 1) := by decide +kernel
theorem d_L_set_2 : decode b_L_set 2 = .ok (.iload_n 2, 1) := by decide +kernel
theorem d_L_set_3 : decode b_L_set 3 = .ok (.invokevirtual 17, 3) := by decide +kernel
theorem d_L_set_6 : decode b_L_set 6 = .ok (.goto 6, 3) := by decide +kernel
theorem d_L_set_9 : decode b_L_set 9 = .ok (.astore_n 3, 1) := by decide +kernel
theorem d_L_set_10 : decode b_L_set 10 = .ok (.iconst 1, 1) := by decide +kernel
theorem d_L_set_11 : decode b_L_set 11 = .ok (.ireturn, 1) := by decide +kernel
theorem d_L_set_12 : decode b_L_set 12 = .ok (.iconst 0, 1) := by decide +kernel
theorem d_L_set_13 : decode b_L_set 13 = .ok (.ireturn, 1) := by decide +kernel
theorem d_L_action_0 : decode b_L_action 0 = .ok (.aload_n 1, 1) := by decide +kernel
theorem d_L_action_1 : decode b_L_action 1 = .ok (.iconst 0, 1) := by decide +kernel
theorem d_L_action_2 : decode b_L_action 2 = .ok (.aload_n 0, 1) := by decide +kernel
theorem d_L_action_3 : decode b_L_action 3 = .ok (.invokevirtual 23, 3) := by decide +kernel
theorem d_L_action_6 : decode b_L_action 6 = .ok (.i2l, 1) := by decide +kernel
theorem d_L_action_7 : decode b_L_action 7 = .ok (.lastore, 1) := by decide +kernel
theorem d_L_action_8 : decode b_L_action 8 = .ok (.goto 6, 3) := by decide +kernel
theorem d_L_action_11 : decode b_L_action 11 = .ok (.astore_n 2, 1) := by decide +kernel
theorem d_L_action_12 : decode b_L_action 12 = .ok (.iconst 1, 1) := by decide +kernel
theorem d_L_action_13 : decode b_L_action 13 = .ok (.ireturn, 1) := by decide +kernel
theorem d_L_action_14 : decode b_L_action 14 = .ok (.iconst 0, 1) := by decide +kernel
theorem d_L_action_15 : decode b_L_action 15 = .ok (.ireturn, 1) := by decide +kernel
theorem d_L_doing_0 : decode b_L_doing 0 = .ok (.aload_n 0, 1) := by decide +kernel
theorem d_L_doing_1 : decode b_L_doing 1 = .ok (.iload_n 1, 1) := by decide +kernel
theorem d_L_doing_2 : decode b_L_doing 2 = .ok (.iload_n 2, 1) := by decide +kernel
theorem d_L_doing_3 : decode b_L_doing 3 = .ok (.iload_n 3, 1) := by decide +kernel
theorem d_L_doing_4 : decode b_L_doing 4 = .ok (.iload 4, 2) := by decide +kernel
theorem d_L_doing_6 : decode b_L_doing 6 = .ok (.iload 5, 2) := by decide +kernel
theorem d_L_doing_8 : decode b_L_doing 8 = .ok (.invokevirtual 27, 3) := by decide +kernel
theorem d_L_doing_11 : decode b_L_doing 11 = .ok (.goto 15, 3) := by decide +kernel
theorem d_L_doing_14 : decode b_L_doing 14 = .ok (.astore 6, 2) := by decide +kernel
theorem d_L_doing_16 : decode b_L_doing 16 = .ok (.iconst 1, 1) := by decide +kernel
theorem d_L_doing_17 : decode b_L_doing 17 = .ok (.ireturn, 1) := by decide +kernel
theorem d_L_doing_18 : decode b_L_doing 18 = .ok (.astore 6, 2) := by decide +kernel
theorem d_L_doing_20 : decode b_L_doing 20 = .ok (.iconst 2, 1) := by decide +kernel
theorem d_L_doing_21 : decode b_L_doing 21 = .ok (.ireturn, 1) := by decide +kernel
theorem d_L_doing_22 : decode b_L_doing 22 = .ok (.astore 6, 2) := by decide +kernel
theorem d_L_doing_24 : decode b_L_doing 24 = .ok (.iconst 3, 1) := by decide +kernel
theorem d_L_doing_25 : decode b_L_doing 25 = .ok (.ireturn, 1) := by decide +kernel
theorem d_L_doing_26 : decode b_L_doing 26 = .ok (.iconst 0, 1) := by decide +kernel
theorem d_L_doing_27 : decode b_L_doing 27 = .ok (.ireturn, 1) := by decide +kernel
theorem d_L_table_0 : decode b_L_table 0 = .ok (.aload 6, 2) := by decide +kernel
theorem d_L_table_2 : decode b_L_table 2 = .ok (.iconst 0, 1) := by decide +kernel
theorem d_L_table_3 : decode b_L_table 3 = .ok (.aload_n 0, 1) := by decide +kernel
theorem d_L_table_4 : decode b_L_table 4 = .ok (.iload_n 1, 1) := by decide +kernel
theorem d_L_table_5 : decode b_L_table 5 = .ok (.iload_n 2, 1) := by decide +kernel
theorem d_L_table_6 : decode b_L_table 6 = .ok (.iload_n 3, 1) := by decide +kernel
theorem d_L_table_7 : decode b_L_table 7 = .ok (.iload 4, 2) := by decide +kernel
theorem d_L_table_9 : decode b_L_table 9 = .ok (.iload 5, 2) := by decide +kernel
theorem d_L_table_11 : decode b_L_table 11 = .ok (.invokevirtual 31, 3) := by decide +kernel
theorem d_L_table_14 : decode b_L_table 14 = .ok (.i2l, 1) := by decide +kernel
theorem d_L_table_15 : decode b_L_table 15 = .ok (.lastore, 1) := by decide +kernel
theorem d_L_table_16 : decode b_L_table 16 = .ok (.goto 15, 3) := by decide +kernel
theorem d_L_table_19 : decode b_L_table 19 = .ok (.astore 7, 2) := by decide +kernel
theorem d_L_table_21 : decode b_L_table 21 = .ok (.iconst 1, 1) := by decide +kernel
theorem d_L_table_22 : decode b_L_table 22 = .ok (.ireturn, 1) := by decide +kernel
theorem d_L_table_23 : decode b_L_table 23 = .ok (.astore 7, 2) := by decide +kernel
theorem d_L_table_25 : decode b_L_table 25 = .ok (.iconst 2, 1) := by decide +kernel
theorem d_L_table_26 : decode b_L_table 26 = .ok (.ireturn, 1) := by decide +kernel
theorem d_L_table_27 : decode b_L_table 27 = .ok (.astore 7, 2) := by decide +kernel
theorem d_L_table_29 : decode b_L_table 29 = .ok (.iconst 3, 1) := by decide +kernel
theorem d_L_table_30 : decode b_L_table 30 = .ok (.ireturn, 1) := by decide +kernel
theorem d_L_table_31 : decode b_L_table 31 = .ok (.iconst 0, 1) := by decide +kernel
theorem d_L_table_32 : decode b_L_table 32 = .ok (.ireturn, 1) := by decide +kernel
theorem d_L_insert_0 : decode b_L_insert 0 = .ok (.aload 6, 2) := by decide +kernel
theorem d_L_insert_2 : decode b_L_insert 2 = .ok (.iconst 0, 1) := by decide +kernel
theorem d_L_insert_3 : decode b_L_insert 3 = .ok (.aload_n 0, 1) := by decide +kernel
theorem d_L_insert_4 : decode b_L_insert 4 = .ok (.iload_n 1, 1) := by decide +kernel
theorem d_L_insert_5 : decode b_L_insert 5 = .ok (.iload_n 2, 1) := by decide +kernel
theorem d_L_insert_6 : decode b_L_insert 6 = .ok (.iload_n 3, 1) := by decide +kernel
theorem d_L_insert_7 : decode b_L_insert 7 = .ok (.iload 4, 2) := by decide +kernel
theorem d_L_insert_9 : decode b_L_insert 9 = .ok (.iload 5, 2) := by decide +kernel
theorem d_L_insert_11 : decode b_L_insert 11 = .ok (.invokevirtual 35, 3) := by decide +kernel
theorem d_L_insert_14 : decode b_L_insert 14 = .ok (.ifCond .eq 7, 3) := by decide +kernel
theorem d_L_insert_17 : decode b_L_insert 17 = .ok (.lconst 1, 1) := by decide +kernel
theorem d_L_insert_18 : decode b_L_insert 18 = .ok (.goto 4, 3) := by decide +kernel
theorem d_L_insert_21 : decode b_L_insert 21 = .ok (.lconst 0, 1) := by decide +kernel
theorem d_L_insert_22 : decode b_L_insert 22 = .ok (.lastore, 1) := by decide +kernel
theorem d_L_insert_23 : decode b_L_insert 23 = .ok (.goto 7, 3) := by decide +kernel
theorem d_L_insert_26 : decode b_L_insert 26 = .ok (.astore 7, 2) := by decide +kernel
theorem d_L_insert_28 : decode b_L_insert 28 = .ok (.iconst 1, 1) := by decide +kernel
theorem d_L_insert_29 : decode b_L_insert 29 = .ok (.ireturn, 1) := by decide +kernel
theorem d_L_insert_30 : decode b_L_insert 30 = .ok (.iconst 0, 1) := by decide +kernel
theorem d_L_insert_31 : decode b_L_insert 31 = .ok (.ireturn, 1) := by decide +kernel
theorem d_L_remove_0 : decode b_L_remove 0 = .ok (.aload_n 2, 1) := by decide +kernel
theorem d_L_remove_1 : decode b_L_remove 1 = .ok (.iconst 0, 1) := by decide +kernel
theorem d_L_remove_2 : decode b_L_remove 2 = .ok (.aload_n 0, 1) := by decide +kernel
theorem d_L_remove_3 : decode b_L_remove 3 = .ok (.iload_n 1, 1) := by decide +kernel
theorem d_L_remove_4 : decode b_L_remove 4 = .ok (.invokevirtual 39, 3) := by decide +kernel
theorem d_L_remove_7 : decode b_L_remove 7 = .ok (.ifCond .eq 7, 3) := by decide +kernel
theorem d_L_remove_10 : decode b_L_remove 10 = .ok (.lconst 1, 1) := by decide +kernel
theorem d_L_remove_11 : decode b_L_remove 11 = .ok (.goto 4, 3) := by decide +kernel
theorem d_L_remove_14 : decode b_L_remove 14 = .ok (.lconst 0, 1) := by decide +kernel
theorem d_L_remove_15 : decode b_L_remove 15 = .ok (.lastore, 1) := by decide +kernel
theorem d_L_remove_16 : decode b_L_remove 16 = .ok (.goto 6, 3) := by decide +kernel
theorem d_L_remove_19 : decode b_L_remove 19 = .ok (.astore_n 3, 1) := by decide +kernel
theorem d_L_remove_20 : decode b_L_remove 20 = .ok (.iconst 1, 1) := by decide +kernel
theorem d_L_remove_21 : decode b_L_remove 21 = .ok (.ireturn, 1) := by decide +kernel
theorem d_L_remove_22 : decode b_L_remove 22 = .ok (.iconst 0, 1) := by decide +kernel
theorem d_L_remove_23 : decode b_L_remove 23 = .ok (.ireturn, 1) := by decide +kernel
theorem d_L_act_0 : decode b_L_act 0 = .ok (.aload_n 2, 1) := by decide +kernel
theorem d_L_act_1 : decode b_L_act 1 = .ok (.iconst 0, 1) := by decide +kernel
theorem d_L_act_2 : decode b_L_act 2 = .ok (.aload_n 0, 1) := by decide +kernel
theorem d_L_act_3 : decode b_L_act 3 = .ok (.iload_n 1, 1) := by decide +kernel
theorem d_L_act_4 : decode b_L_act 4 = .ok (.invokevirtual 43, 3) := by decide +kernel
theorem d_L_act_7 : decode b_L_act 7 = .ok (.ifCond .eq 7, 3) := by decide +kernel
theorem d_L_act_10 : decode b_L_act 10 = .ok (.lconst 1, 1) := by decide +kernel
theorem d_L_act_11 : decode b_L_act 11 = .ok (.goto 4, 3) := by decide +kernel
theorem d_L_act_14 : decode b_L_act 14 = .ok (.lconst 0, 1) := by decide +kernel
theorem d_L_act_15 : decode b_L_act 15 = .ok (.lastore, 1) := by decide +kernel
theorem d_L_act_16 : decode b_L_act 16 = .ok (.goto 6, 3) := by decide +kernel
theorem d_L_act_19 : decode b_L_act 19 = .ok (.astore_n 3, 1) := by decide +kernel
theorem d_L_act_20 : decode b_L_act 20 = .ok (.iconst 1, 1) := by decide +kernel
theorem d_L_act_21 : decode b_L_act 21 = .ok (.ireturn, 1) := by decide +kernel
theorem d_L_act_22 : decode b_L_act 22 = .ok (.iconst 0, 1) := by decide +kernel
theorem d_L_act_23 : decode b_L_act 23 = .ok (.ireturn, 1) := by decide +kernel
theorem d_L_law_0 : decode b_L_law 0 = .ok (.new 8, 3) := by decide +kernel
theorem d_L_law_3 : decode b_L_law 3 = .ok (.dup, 1) := by decide +kernel
theorem d_L_law_4 : decode b_L_law 4 = .ok (.invokespecial 46, 3) := by decide +kernel
theorem d_L_law_7 : decode b_L_law 7 = .ok (.astore_n 1, 1) := by decide +kernel
theorem d_L_law_8 : decode b_L_law 8 = .ok (.new 47, 3) := by decide +kernel
theorem d_L_law_11 : decode b_L_law 11 = .ok (.dup, 1) := by decide +kernel
theorem d_L_law_12 : decode b_L_law 12 = .ok (.invokespecial 49, 3) := by decide +kernel
theorem d_L_law_15 : decode b_L_law 15 = .ok (.astore_n 2, 1) := by decide +kernel
theorem d_L_law_16 : decode b_L_law 16 = .ok (.iconst 1, 1) := by decide +kernel
theorem d_L_law_17 : decode b_L_law 17 = .ok (.newarray .long, 2) := by decide +kernel
theorem d_L_law_19 : decode b_L_law 19 = .ok (.astore_n 3, 1) := by decide +kernel
theorem d_L_law_20 : decode b_L_law 20 = .ok (.iconst 0, 1) := by decide +kernel
theorem d_L_law_21 : decode b_L_law 21 = .ok (.istore 4, 2) := by decide +kernel
theorem d_L_law_23 : decode b_L_law 23 = .ok (.iload 4, 2) := by decide +kernel
theorem d_L_law_25 : decode b_L_law 25 = .ok (.aload_n 0, 1) := by decide +kernel
theorem d_L_law_26 : decode b_L_law 26 = .ok (.arraylength, 1) := by decide +kernel
theorem d_L_law_27 : decode b_L_law 27 = .ok (.bipush 6, 2) := by decide +kernel
theorem d_L_law_29 : decode b_L_law 29 = .ok (.isub, 1) := by decide +kernel
theorem d_L_law_30 : decode b_L_law 30 = .ok (.if_icmp .gt 877, 3) := by decide +kernel
theorem d_L_law_33 : decode b_L_law 33 = .ok (.aload_n 0, 1) := by decide +kernel
theorem d_L_law_34 : decode b_L_law 34 = .ok (.iload 4, 2) := by decide +kernel
theorem d_L_law_36 : decode b_L_law 36 = .ok (.iaload, 1) := by decide +kernel
theorem d_L_law_37 : decode b_L_law 37 = .ok (.bipush 15, 2) := by decide +kernel
theorem d_L_law_39 : decode b_L_law 39 = .ok (.iand, 1) := by decide +kernel
theorem d_L_law_40 : decode b_L_law 40 = .ok (.tableswitch 861 0 15 #[80, 91, 147, 195, 220, 264, 348, 452, 511, 622, 685, 748, 773, 786, 799, 836], 80) := by decide +kernel
theorem d_L_law_120 : decode b_L_law 120 = .ok (.aload_n 1, 1) := by decide +kernel
theorem d_L_law_121 : decode b_L_law 121 = .ok (.invokevirtual 50, 3) := by decide +kernel
theorem d_L_law_124 : decode b_L_law 124 = .ok (.aload_n 2, 1) := by decide +kernel
theorem d_L_law_125 : decode b_L_law 125 = .ok (.invokevirtual 53, 3) := by decide +kernel
theorem d_L_law_128 : decode b_L_law 128 = .ok (.goto 773, 3) := by decide +kernel
theorem d_L_law_131 : decode b_L_law 131 = .ok (.aload_n 1, 1) := by decide +kernel
theorem d_L_law_132 : decode b_L_law 132 = .ok (.aload_n 0, 1) := by decide +kernel
theorem d_L_law_133 : decode b_L_law 133 = .ok (.iload 4, 2) := by decide +kernel
theorem d_L_law_135 : decode b_L_law 135 = .ok (.iconst 1, 1) := by decide +kernel
theorem d_L_law_136 : decode b_L_law 136 = .ok (.iadd, 1) := by decide +kernel
theorem d_L_law_137 : decode b_L_law 137 = .ok (.iaload, 1) := by decide +kernel
theorem d_L_law_138 : decode b_L_law 138 = .ok (.aload_n 3, 1) := by decide +kernel
theorem d_L_law_139 : decode b_L_law 139 = .ok (.invokestatic 54, 3) := by decide +kernel
theorem d_L_law_142 : decode b_L_law 142 = .ok (.istore 5, 2) := by decide +kernel
theorem d_L_law_144 : decode b_L_law 144 = .ok (.aload_n 2, 1) := by decide +kernel
theorem d_L_law_145 : decode b_L_law 145 = .ok (.aload_n 0, 1) := by decide +kernel
theorem d_L_law_146 : decode b_L_law 146 = .ok (.iload 4, 2) := by decide +kernel
theorem d_L_law_148 : decode b_L_law 148 = .ok (.iconst 1, 1) := by decide +kernel
theorem d_L_law_149 : decode b_L_law 149 = .ok (.iadd, 1) := by decide +kernel
theorem d_L_law_150 : decode b_L_law 150 = .ok (.iaload, 1) := by decide +kernel
theorem d_L_law_151 : decode b_L_law 151 = .ok (.invokevirtual 59, 3) := by decide +kernel
theorem d_L_law_154 : decode b_L_law 154 = .ok (.istore 6, 2) := by decide +kernel
theorem d_L_law_156 : decode b_L_law 156 = .ok (.aload_n 2, 1) := by decide +kernel
theorem d_L_law_157 : decode b_L_law 157 = .ok (.invokevirtual 60, 3) := by decide +kernel
theorem d_L_law_160 : decode b_L_law 160 = .ok (.iload 5, 2) := by decide +kernel
theorem d_L_law_162 : decode b_L_law 162 = .ok (.if_icmp .eq 5, 3) := by decide +kernel
theorem d_L_law_165 : decode b_L_law 165 = .ok (.iconst 0, 1) := by decide +kernel
theorem d_L_law_166 : decode b_L_law 166 = .ok (.ireturn, 1) := by decide +kernel
theorem d_L_law_167 : decode b_L_law 167 = .ok (.iload 5, 2) := by decide +kernel
theorem d_L_law_169 : decode b_L_law 169 = .ok (.ifCond .ne 15, 3) := by decide +kernel
theorem d_L_law_172 : decode b_L_law 172 = .ok (.aload_n 3, 1) := by decide +kernel
theorem d_L_law_173 : decode b_L_law 173 = .ok (.iconst 0, 1) := by decide +kernel
theorem d_L_law_174 : decode b_L_law 174 = .ok (.laload, 1) := by decide +kernel
theorem d_L_law_175 : decode b_L_law 175 = .ok (.iload 6, 2) := by decide +kernel
theorem d_L_law_177 : decode b_L_law 177 = .ok (.i2l, 1) := by decide +kernel
theorem d_L_law_178 : decode b_L_law 178 = .ok (.lcmp, 1) := by decide +kernel
theorem d_L_law_179 : decode b_L_law 179 = .ok (.ifCond .eq 5, 3) := by decide +kernel
theorem d_L_law_182 : decode b_L_law 182 = .ok (.iconst 0, 1) := by decide +kernel
theorem d_L_law_183 : decode b_L_law 183 = .ok (.ireturn, 1) := by decide +kernel
theorem d_L_law_184 : decode b_L_law 184 = .ok (.goto 717, 3) := by decide +kernel
theorem d_L_law_187 : decode b_L_law 187 = .ok (.aload_n 1, 1) := by decide +kernel
theorem d_L_law_188 : decode b_L_law 188 = .ok (.aload_n 0, 1) := by decide +kernel
theorem d_L_law_189 : decode b_L_law 189 = .ok (.iload 4, 2) := by decide +kernel
theorem d_L_law_191 : decode b_L_law 191 = .ok (.iconst 1, 1) := by decide +kernel
theorem d_L_law_192 : decode b_L_law 192 = .ok (.iadd, 1) := by decide +kernel
theorem d_L_law_193 : decode b_L_law 193 = .ok (.iaload, 1) := by decide +kernel
theorem d_L_law_194 : decode b_L_law 194 = .ok (.aload_n 0, 1) := by decide +kernel
theorem d_L_law_195 : decode b_L_law 195 = .ok (.iload 4, 2) := by decide +kernel
theorem d_L_law_197 : decode b_L_law 197 = .ok (.iconst 2, 1) := by decide +kernel
theorem d_L_law_198 : decode b_L_law 198 = .ok (.iadd, 1) := by decide +kernel
theorem d_L_law_199 : decode b_L_law 199 = .ok (.iaload, 1) := by decide +kernel
theorem d_L_law_200 : decode b_L_law 200 = .ok (.invokestatic 63, 3) := by decide +kernel
theorem d_L_law_203 : decode b_L_law 203 = .ok (.istore 5, 2) := by decide +kernel
theorem d_L_law_205 : decode b_L_law 205 = .ok (.aload_n 2, 1) := by decide +kernel
theorem d_L_law_206 : decode b_L_law 206 = .ok (.aload_n 0, 1) := by decide +kernel
theorem d_L_law_207 : decode b_L_law 207 = .ok (.iload 4, 2) := by decide +kernel
theorem d_L_law_209 : decode b_L_law 209 = .ok (.iconst 1, 1) := by decide +kernel
theorem d_L_law_210 : decode b_L_law 210 = .ok (.iadd, 1) := by decide +kernel
theorem d_L_law_211 : decode b_L_law 211 = .ok (.iaload, 1) := by decide +kernel
theorem d_L_law_212 : decode b_L_law 212 = .ok (.aload_n 0, 1) := by decide +kernel
theorem d_L_law_213 : decode b_L_law 213 = .ok (.iload 4, 2) := by decide +kernel
theorem d_L_law_215 : decode b_L_law 215 = .ok (.iconst 2, 1) := by decide +kernel
theorem d_L_law_216 : decode b_L_law 216 = .ok (.iadd, 1) := by decide +kernel
theorem d_L_law_217 : decode b_L_law 217 = .ok (.iaload, 1) := by decide +kernel
theorem d_L_law_218 : decode b_L_law 218 = .ok (.invokevirtual 66, 3) := by decide +kernel
theorem d_L_law_221 : decode b_L_law 221 = .ok (.aload_n 2, 1) := by decide +kernel
theorem d_L_law_222 : decode b_L_law 222 = .ok (.invokevirtual 60, 3) := by decide +kernel
theorem d_L_law_225 : decode b_L_law 225 = .ok (.iload 5, 2) := by decide +kernel
theorem d_L_law_227 : decode b_L_law 227 = .ok (.if_icmp .eq 5, 3) := by decide +kernel
theorem d_L_law_230 : decode b_L_law 230 = .ok (.iconst 0, 1) := by decide +kernel
theorem d_L_law_231 : decode b_L_law 231 = .ok (.ireturn, 1) := by decide +kernel
theorem d_L_law_232 : decode b_L_law 232 = .ok (.goto 669, 3) := by decide +kernel
theorem d_L_law_235 : decode b_L_law 235 = .ok (.aload_n 1, 1) := by decide +kernel
theorem d_L_law_236 : decode b_L_law 236 = .ok (.aload_n 0, 1) := by decide +kernel
theorem d_L_law_237 : decode b_L_law 237 = .ok (.iload 4, 2) := by decide +kernel
theorem d_L_law_239 : decode b_L_law 239 = .ok (.iconst 1, 1) := by decide +kernel
theorem d_L_law_240 : decode b_L_law 240 = .ok (.iadd, 1) := by decide +kernel
theorem d_L_law_241 : decode b_L_law 241 = .ok (.iaload, 1) := by decide +kernel
theorem d_L_law_242 : decode b_L_law 242 = .ok (.invokevirtual 67, 3) := by decide +kernel
theorem d_L_law_245 : decode b_L_law 245 = .ok (.aload_n 2, 1) := by decide +kernel
theorem d_L_law_246 : decode b_L_law 246 = .ok (.aload_n 0, 1) := by decide +kernel
theorem d_L_law_247 : decode b_L_law 247 = .ok (.iload 4, 2) := by decide +kernel
theorem d_L_law_249 : decode b_L_law 249 = .ok (.iconst 1, 1) := by decide +kernel
theorem d_L_law_250 : decode b_L_law 250 = .ok (.iadd, 1) := by decide +kernel
theorem d_L_law_251 : decode b_L_law 251 = .ok (.iaload, 1) := by decide +kernel
theorem d_L_law_252 : decode b_L_law 252 = .ok (.invokevirtual 70, 3) := by decide +kernel
theorem d_L_law_255 : decode b_L_law 255 = .ok (.if_icmp .eq 646, 3) := by decide +kernel
theorem d_L_law_258 : decode b_L_law 258 = .ok (.iconst 0, 1) := by decide +kernel
theorem d_L_law_259 : decode b_L_law 259 = .ok (.ireturn, 1) := by decide +kernel
theorem d_L_law_260 : decode b_L_law 260 = .ok (.aload_n 1, 1) := by decide +kernel
theorem d_L_law_261 : decode b_L_law 261 = .ok (.aload_n 3, 1) := by decide +kernel
theorem d_L_law_262 : decode b_L_law 262 = .ok (.invokestatic 71, 3) := by decide +kernel
theorem d_L_law_265 : decode b_L_law 265 = .ok (.istore 5, 2) := by decide +kernel
theorem d_L_law_267 : decode b_L_law 267 = .ok (.aload_n 2, 1) := by decide +kernel
theorem d_L_law_268 : decode b_L_law 268 = .ok (.invokevirtual 74, 3) := by decide +kernel
theorem d_L_law_271 : decode b_L_law 271 = .ok (.istore 6, 2) := by decide +kernel
theorem d_L_law_273 : decode b_L_law 273 = .ok (.aload_n 2, 1) := by decide +kernel
theorem d_L_law_274 : decode b_L_law 274 = .ok (.invokevirtual 60, 3) := by decide +kernel
theorem d_L_law_277 : decode b_L_law 277 = .ok (.iload 5, 2) := by decide +kernel
theorem d_L_law_279 : decode b_L_law 279 = .ok (.if_icmp .eq 5, 3) := by decide +kernel
theorem d_L_law_282 : decode b_L_law 282 = .ok (.iconst 0, 1) := by decide +kernel
theorem d_L_law_283 : decode b_L_law 283 = .ok (.ireturn, 1) := by decide +kernel
theorem d_L_law_284 : decode b_L_law 284 = .ok (.iload 5, 2) := by decide +kernel
theorem d_L_law_286 : decode b_L_law 286 = .ok (.ifCond .ne 15, 3) := by decide +kernel
theorem d_L_law_289 : decode b_L_law 289 = .ok (.aload_n 3, 1) := by decide +kernel
theorem d_L_law_290 : decode b_L_law 290 = .ok (.iconst 0, 1) := by decide +kernel
theorem d_L_law_291 : decode b_L_law 291 = .ok (.laload, 1) := by decide +kernel
theorem d_L_law_292 : decode b_L_law 292 = .ok (.iload 6, 2) := by decide +kernel
theorem d_L_law_294 : decode b_L_law 294 = .ok (.i2l, 1) := by decide +kernel
theorem d_L_law_295 : decode b_L_law 295 = .ok (.lcmp, 1) := by decide +kernel
theorem d_L_law_296 : decode b_L_law 296 = .ok (.ifCond .eq 5, 3) := by decide +kernel
theorem d_L_law_299 : decode b_L_law 299 = .ok (.iconst 0, 1) := by decide +kernel
theorem d_L_law_300 : decode b_L_law 300 = .ok (.ireturn, 1) := by decide +kernel
theorem d_L_law_301 : decode b_L_law 301 = .ok (.goto 600, 3) := by decide +kernel
theorem d_L_law_304 : decode b_L_law 304 = .ok (.aload_n 1, 1) := by decide +kernel
theorem d_L_law_305 : decode b_L_law 305 = .ok (.aload_n 0, 1) := by decide +kernel
theorem d_L_law_306 : decode b_L_law 306 = .ok (.iload 4, 2) := by decide +kernel
theorem d_L_law_308 : decode b_L_law 308 = .ok (.iconst 1, 1) := by decide +kernel
theorem d_L_law_309 : decode b_L_law 309 = .ok (.iadd, 1) := by decide +kernel
theorem d_L_law_310 : decode b_L_law 310 = .ok (.iaload, 1) := by decide +kernel
theorem d_L_law_311 : decode b_L_law 311 = .ok (.aload_n 0, 1) := by decide +kernel
theorem d_L_law_312 : decode b_L_law 312 = .ok (.iload 4, 2) := by decide +kernel
theorem d_L_law_314 : decode b_L_law 314 = .ok (.iconst 2, 1) := by decide +kernel
theorem d_L_law_315 : decode b_L_law 315 = .ok (.iadd, 1) := by decide +kernel
theorem d_L_law_316 : decode b_L_law 316 = .ok (.iaload, 1) := by decide +kernel
theorem d_L_law_317 : decode b_L_law 317 = .ok (.aload_n 0, 1) := by decide +kernel
theorem d_L_law_318 : decode b_L_law 318 = .ok (.iload 4, 2) := by decide +kernel
theorem d_L_law_320 : decode b_L_law 320 = .ok (.iconst 3, 1) := by decide +kernel
theorem d_L_law_321 : decode b_L_law 321 = .ok (.iadd, 1) := by decide +kernel
theorem d_L_law_322 : decode b_L_law 322 = .ok (.iaload, 1) := by decide +kernel
theorem d_L_law_323 : decode b_L_law 323 = .ok (.aload_n 0, 1) := by decide +kernel
theorem d_L_law_324 : decode b_L_law 324 = .ok (.iload 4, 2) := by decide +kernel
theorem d_L_law_326 : decode b_L_law 326 = .ok (.iconst 4, 1) := by decide +kernel
theorem d_L_law_327 : decode b_L_law 327 = .ok (.iadd, 1) := by decide +kernel
theorem d_L_law_328 : decode b_L_law 328 = .ok (.iaload, 1) := by decide +kernel
theorem d_L_law_329 : decode b_L_law 329 = .ok (.aload_n 0, 1) := by decide +kernel
theorem d_L_law_330 : decode b_L_law 330 = .ok (.iload 4, 2) := by decide +kernel
theorem d_L_law_332 : decode b_L_law 332 = .ok (.iconst 5, 1) := by decide +kernel
theorem d_L_law_333 : decode b_L_law 333 = .ok (.iadd, 1) := by decide +kernel
theorem d_L_law_334 : decode b_L_law 334 = .ok (.iaload, 1) := by decide +kernel
theorem d_L_law_335 : decode b_L_law 335 = .ok (.invokestatic 75, 3) := by decide +kernel
theorem d_L_law_338 : decode b_L_law 338 = .ok (.istore 5, 2) := by decide +kernel
theorem d_L_law_340 : decode b_L_law 340 = .ok (.aload_n 2, 1) := by decide +kernel
theorem d_L_law_341 : decode b_L_law 341 = .ok (.aload_n 0, 1) := by decide +kernel
theorem d_L_law_342 : decode b_L_law 342 = .ok (.iload 4, 2) := by decide +kernel
theorem d_L_law_344 : decode b_L_law 344 = .ok (.iconst 1, 1) := by decide +kernel
theorem d_L_law_345 : decode b_L_law 345 = .ok (.iadd, 1) := by decide +kernel
theorem d_L_law_346 : decode b_L_law 346 = .ok (.iaload, 1) := by decide +kernel
theorem d_L_law_347 : decode b_L_law 347 = .ok (.aload_n 0, 1) := by decide +kernel
theorem d_L_law_348 : decode b_L_law 348 = .ok (.iload 4, 2) := by decide +kernel
theorem d_L_law_350 : decode b_L_law 350 = .ok (.iconst 2, 1) := by decide +kernel
theorem d_L_law_351 : decode b_L_law 351 = .ok (.iadd, 1) := by decide +kernel
theorem d_L_law_352 : decode b_L_law 352 = .ok (.iaload, 1) := by decide +kernel
theorem d_L_law_353 : decode b_L_law 353 = .ok (.aload_n 0, 1) := by decide +kernel
theorem d_L_law_354 : decode b_L_law 354 = .ok (.iload 4, 2) := by decide +kernel
theorem d_L_law_356 : decode b_L_law 356 = .ok (.iconst 3, 1) := by decide +kernel
theorem d_L_law_357 : decode b_L_law 357 = .ok (.iadd, 1) := by decide +kernel
theorem d_L_law_358 : decode b_L_law 358 = .ok (.iaload, 1) := by decide +kernel
theorem d_L_law_359 : decode b_L_law 359 = .ok (.aload_n 0, 1) := by decide +kernel
theorem d_L_law_360 : decode b_L_law 360 = .ok (.iload 4, 2) := by decide +kernel
theorem d_L_law_362 : decode b_L_law 362 = .ok (.iconst 4, 1) := by decide +kernel
theorem d_L_law_363 : decode b_L_law 363 = .ok (.iadd, 1) := by decide +kernel
theorem d_L_law_364 : decode b_L_law 364 = .ok (.iaload, 1) := by decide +kernel
theorem d_L_law_365 : decode b_L_law 365 = .ok (.aload_n 0, 1) := by decide +kernel
theorem d_L_law_366 : decode b_L_law 366 = .ok (.iload 4, 2) := by decide +kernel
theorem d_L_law_368 : decode b_L_law 368 = .ok (.iconst 5, 1) := by decide +kernel
theorem d_L_law_369 : decode b_L_law 369 = .ok (.iadd, 1) := by decide +kernel
theorem d_L_law_370 : decode b_L_law 370 = .ok (.iaload, 1) := by decide +kernel
theorem d_L_law_371 : decode b_L_law 371 = .ok (.invokevirtual 78, 3) := by decide +kernel
theorem d_L_law_374 : decode b_L_law 374 = .ok (.aload_n 2, 1) := by decide +kernel
theorem d_L_law_375 : decode b_L_law 375 = .ok (.invokevirtual 60, 3) := by decide +kernel
theorem d_L_law_378 : decode b_L_law 378 = .ok (.iload 5, 2) := by decide +kernel
theorem d_L_law_380 : decode b_L_law 380 = .ok (.if_icmp .eq 5, 3) := by decide +kernel
theorem d_L_law_383 : decode b_L_law 383 = .ok (.iconst 0, 1) := by decide +kernel
theorem d_L_law_384 : decode b_L_law 384 = .ok (.ireturn, 1) := by decide +kernel
theorem d_L_law_385 : decode b_L_law 385 = .ok (.goto 516, 3) := by decide +kernel
theorem d_L_law_388 : decode b_L_law 388 = .ok (.aload_n 1, 1) := by decide +kernel
theorem d_L_law_389 : decode b_L_law 389 = .ok (.aload_n 0, 1) := by decide +kernel
theorem d_L_law_390 : decode b_L_law 390 = .ok (.iload 4, 2) := by decide +kernel
theorem d_L_law_392 : decode b_L_law 392 = .ok (.iconst 1, 1) := by decide +kernel
theorem d_L_law_393 : decode b_L_law 393 = .ok (.iadd, 1) := by decide +kernel
theorem d_L_law_394 : decode b_L_law 394 = .ok (.iaload, 1) := by decide +kernel
theorem d_L_law_395 : decode b_L_law 395 = .ok (.aload_n 0, 1) := by decide +kernel
theorem d_L_law_396 : decode b_L_law 396 = .ok (.iload 4, 2) := by decide +kernel
theorem d_L_law_398 : decode b_L_law 398 = .ok (.iconst 2, 1) := by decide +kernel
theorem d_L_law_399 : decode b_L_law 399 = .ok (.iadd, 1) := by decide +kernel
theorem d_L_law_400 : decode b_L_law 400 = .ok (.iaload, 1) := by decide +kernel
theorem d_L_law_401 : decode b_L_law 401 = .ok (.aload_n 0, 1) := by decide +kernel
theorem d_L_law_402 : decode b_L_law 402 = .ok (.iload 4, 2) := by decide +kernel
theorem d_L_law_404 : decode b_L_law 404 = .ok (.iconst 3, 1) := by decide +kernel
theorem d_L_law_405 : decode b_L_law 405 = .ok (.iadd, 1) := by decide +kernel
theorem d_L_law_406 : decode b_L_law 406 = .ok (.iaload, 1) := by decide +kernel
theorem d_L_law_407 : decode b_L_law 407 = .ok (.aload_n 0, 1) := by decide +kernel
theorem d_L_law_408 : decode b_L_law 408 = .ok (.iload 4, 2) := by decide +kernel
theorem d_L_law_410 : decode b_L_law 410 = .ok (.iconst 4, 1) := by decide +kernel
theorem d_L_law_411 : decode b_L_law 411 = .ok (.iadd, 1) := by decide +kernel
theorem d_L_law_412 : decode b_L_law 412 = .ok (.iaload, 1) := by decide +kernel
theorem d_L_law_413 : decode b_L_law 413 = .ok (.aload_n 0, 1) := by decide +kernel
theorem d_L_law_414 : decode b_L_law 414 = .ok (.iload 4, 2) := by decide +kernel
theorem d_L_law_416 : decode b_L_law 416 = .ok (.iconst 5, 1) := by decide +kernel
theorem d_L_law_417 : decode b_L_law 417 = .ok (.iadd, 1) := by decide +kernel
theorem d_L_law_418 : decode b_L_law 418 = .ok (.iaload, 1) := by decide +kernel
theorem d_L_law_419 : decode b_L_law 419 = .ok (.aload_n 3, 1) := by decide +kernel
theorem d_L_law_420 : decode b_L_law 420 = .ok (.invokestatic 79, 3) := by decide +kernel
theorem d_L_law_423 : decode b_L_law 423 = .ok (.istore 5, 2) := by decide +kernel
theorem d_L_law_425 : decode b_L_law 425 = .ok (.aload_n 2, 1) := by decide +kernel
theorem d_L_law_426 : decode b_L_law 426 = .ok (.aload_n 0, 1) := by decide +kernel
theorem d_L_law_427 : decode b_L_law 427 = .ok (.iload 4, 2) := by decide +kernel
theorem d_L_law_429 : decode b_L_law 429 = .ok (.iconst 1, 1) := by decide +kernel
theorem d_L_law_430 : decode b_L_law 430 = .ok (.iadd, 1) := by decide +kernel
theorem d_L_law_431 : decode b_L_law 431 = .ok (.iaload, 1) := by decide +kernel
theorem d_L_law_432 : decode b_L_law 432 = .ok (.aload_n 0, 1) := by decide +kernel
theorem d_L_law_433 : decode b_L_law 433 = .ok (.iload 4, 2) := by decide +kernel
theorem d_L_law_435 : decode b_L_law 435 = .ok (.iconst 2, 1) := by decide +kernel
theorem d_L_law_436 : decode b_L_law 436 = .ok (.iadd, 1) := by decide +kernel
theorem d_L_law_437 : decode b_L_law 437 = .ok (.iaload, 1) := by decide +kernel
theorem d_L_law_438 : decode b_L_law 438 = .ok (.aload_n 0, 1) := by decide +kernel
theorem d_L_law_439 : decode b_L_law 439 = .ok (.iload 4, 2) := by decide +kernel
theorem d_L_law_441 : decode b_L_law 441 = .ok (.iconst 3, 1) := by decide +kernel
theorem d_L_law_442 : decode b_L_law 442 = .ok (.iadd, 1) := by decide +kernel
theorem d_L_law_443 : decode b_L_law 443 = .ok (.iaload, 1) := by decide +kernel
theorem d_L_law_444 : decode b_L_law 444 = .ok (.aload_n 0, 1) := by decide +kernel
theorem d_L_law_445 : decode b_L_law 445 = .ok (.iload 4, 2) := by decide +kernel
theorem d_L_law_447 : decode b_L_law 447 = .ok (.iconst 4, 1) := by decide +kernel
theorem d_L_law_448 : decode b_L_law 448 = .ok (.iadd, 1) := by decide +kernel
theorem d_L_law_449 : decode b_L_law 449 = .ok (.iaload, 1) := by decide +kernel
theorem d_L_law_450 : decode b_L_law 450 = .ok (.aload_n 0, 1) := by decide +kernel
theorem d_L_law_451 : decode b_L_law 451 = .ok (.iload 4, 2) := by decide +kernel
theorem d_L_law_453 : decode b_L_law 453 = .ok (.iconst 5, 1) := by decide +kernel
theorem d_L_law_454 : decode b_L_law 454 = .ok (.iadd, 1) := by decide +kernel
theorem d_L_law_455 : decode b_L_law 455 = .ok (.iaload, 1) := by decide +kernel
theorem d_L_law_456 : decode b_L_law 456 = .ok (.invokevirtual 82, 3) := by decide +kernel
theorem d_L_law_459 : decode b_L_law 459 = .ok (.istore 6, 2) := by decide +kernel
theorem d_L_law_461 : decode b_L_law 461 = .ok (.aload_n 2, 1) := by decide +kernel
theorem d_L_law_462 : decode b_L_law 462 = .ok (.invokevirtual 60, 3) := by decide +kernel
theorem d_L_law_465 : decode b_L_law 465 = .ok (.iload 5, 2) := by decide +kernel
theorem d_L_law_467 : decode b_L_law 467 = .ok (.if_icmp .eq 5, 3) := by decide +kernel
theorem d_L_law_470 : decode b_L_law 470 = .ok (.iconst 0, 1) := by decide +kernel
theorem d_L_law_471 : decode b_L_law 471 = .ok (.ireturn, 1) := by decide +kernel
theorem d_L_law_472 : decode b_L_law 472 = .ok (.iload 5, 2) := by decide +kernel
theorem d_L_law_474 : decode b_L_law 474 = .ok (.ifCond .ne 15, 3) := by decide +kernel
theorem d_L_law_477 : decode b_L_law 477 = .ok (.aload_n 3, 1) := by decide +kernel
theorem d_L_law_478 : decode b_L_law 478 = .ok (.iconst 0, 1) := by decide +kernel
theorem d_L_law_479 : decode b_L_law 479 = .ok (.laload, 1) := by decide +kernel
theorem d_L_law_480 : decode b_L_law 480 = .ok (.iload 6, 2) := by decide +kernel
theorem d_L_law_482 : decode b_L_law 482 = .ok (.i2l, 1) := by decide +kernel
theorem d_L_law_483 : decode b_L_law 483 = .ok (.lcmp, 1) := by decide +kernel
theorem d_L_law_484 : decode b_L_law 484 = .ok (.ifCond .eq 5, 3) := by decide +kernel
theorem d_L_law_487 : decode b_L_law 487 = .ok (.iconst 0, 1) := by decide +kernel
theorem d_L_law_488 : decode b_L_law 488 = .ok (.ireturn, 1) := by decide +kernel
theorem d_L_law_489 : decode b_L_law 489 = .ok (.goto 412, 3) := by decide +kernel
theorem d_L_law_492 : decode b_L_law 492 = .ok (.aload_n 1, 1) := by decide +kernel
theorem d_L_law_493 : decode b_L_law 493 = .ok (.aload_n 0, 1) := by decide +kernel
theorem d_L_law_494 : decode b_L_law 494 = .ok (.iload 4, 2) := by decide +kernel
theorem d_L_law_496 : decode b_L_law 496 = .ok (.iconst 1, 1) := by decide +kernel
theorem d_L_law_497 : decode b_L_law 497 = .ok (.iadd, 1) := by decide +kernel
theorem d_L_law_498 : decode b_L_law 498 = .ok (.iaload, 1) := by decide +kernel
theorem d_L_law_499 : decode b_L_law 499 = .ok (.aload_n 0, 1) := by decide +kernel
theorem d_L_law_500 : decode b_L_law 500 = .ok (.iload 4, 2) := by decide +kernel
theorem d_L_law_502 : decode b_L_law 502 = .ok (.iconst 2, 1) := by decide +kernel
theorem d_L_law_503 : decode b_L_law 503 = .ok (.iadd, 1) := by decide +kernel
theorem d_L_law_504 : decode b_L_law 504 = .ok (.iaload, 1) := by decide +kernel
theorem d_L_law_505 : decode b_L_law 505 = .ok (.aload_n 0, 1) := by decide +kernel
theorem d_L_law_506 : decode b_L_law 506 = .ok (.iload 4, 2) := by decide +kernel
theorem d_L_law_508 : decode b_L_law 508 = .ok (.iconst 3, 1) := by decide +kernel
theorem d_L_law_509 : decode b_L_law 509 = .ok (.iadd, 1) := by decide +kernel
theorem d_L_law_510 : decode b_L_law 510 = .ok (.iaload, 1) := by decide +kernel
theorem d_L_law_511 : decode b_L_law 511 = .ok (.aload_n 0, 1) := by decide +kernel
theorem d_L_law_512 : decode b_L_law 512 = .ok (.iload 4, 2) := by decide +kernel
theorem d_L_law_514 : decode b_L_law 514 = .ok (.iconst 4, 1) := by decide +kernel
theorem d_L_law_515 : decode b_L_law 515 = .ok (.iadd, 1) := by decide +kernel
theorem d_L_law_516 : decode b_L_law 516 = .ok (.iaload, 1) := by decide +kernel
theorem d_L_law_517 : decode b_L_law 517 = .ok (.invokevirtual 83, 3) := by decide +kernel
theorem d_L_law_520 : decode b_L_law 520 = .ok (.aload_n 2, 1) := by decide +kernel
theorem d_L_law_521 : decode b_L_law 521 = .ok (.aload_n 0, 1) := by decide +kernel
theorem d_L_law_522 : decode b_L_law 522 = .ok (.iload 4, 2) := by decide +kernel
theorem d_L_law_524 : decode b_L_law 524 = .ok (.iconst 1, 1) := by decide +kernel
theorem d_L_law_525 : decode b_L_law 525 = .ok (.iadd, 1) := by decide +kernel
theorem d_L_law_526 : decode b_L_law 526 = .ok (.iaload, 1) := by decide +kernel
theorem d_L_law_527 : decode b_L_law 527 = .ok (.aload_n 0, 1) := by decide +kernel
theorem d_L_law_528 : decode b_L_law 528 = .ok (.iload 4, 2) := by decide +kernel
theorem d_L_law_530 : decode b_L_law 530 = .ok (.iconst 2, 1) := by decide +kernel
theorem d_L_law_531 : decode b_L_law 531 = .ok (.iadd, 1) := by decide +kernel
theorem d_L_law_532 : decode b_L_law 532 = .ok (.iaload, 1) := by decide +kernel
theorem d_L_law_533 : decode b_L_law 533 = .ok (.aload_n 0, 1) := by decide +kernel
theorem d_L_law_534 : decode b_L_law 534 = .ok (.iload 4, 2) := by decide +kernel
theorem d_L_law_536 : decode b_L_law 536 = .ok (.iconst 3, 1) := by decide +kernel
theorem d_L_law_537 : decode b_L_law 537 = .ok (.iadd, 1) := by decide +kernel
theorem d_L_law_538 : decode b_L_law 538 = .ok (.iaload, 1) := by decide +kernel
theorem d_L_law_539 : decode b_L_law 539 = .ok (.aload_n 0, 1) := by decide +kernel
theorem d_L_law_540 : decode b_L_law 540 = .ok (.iload 4, 2) := by decide +kernel
theorem d_L_law_542 : decode b_L_law 542 = .ok (.iconst 4, 1) := by decide +kernel
theorem d_L_law_543 : decode b_L_law 543 = .ok (.iadd, 1) := by decide +kernel
theorem d_L_law_544 : decode b_L_law 544 = .ok (.iaload, 1) := by decide +kernel
theorem d_L_law_545 : decode b_L_law 545 = .ok (.invokevirtual 87, 3) := by decide +kernel
theorem d_L_law_548 : decode b_L_law 548 = .ok (.goto 353, 3) := by decide +kernel
theorem d_L_law_551 : decode b_L_law 551 = .ok (.aload_n 1, 1) := by decide +kernel
theorem d_L_law_552 : decode b_L_law 552 = .ok (.aload_n 0, 1) := by decide +kernel
theorem d_L_law_553 : decode b_L_law 553 = .ok (.iload 4, 2) := by decide +kernel
theorem d_L_law_555 : decode b_L_law 555 = .ok (.iconst 1, 1) := by decide +kernel
theorem d_L_law_556 : decode b_L_law 556 = .ok (.iadd, 1) := by decide +kernel
theorem d_L_law_557 : decode b_L_law 557 = .ok (.iaload, 1) := by decide +kernel
theorem d_L_law_558 : decode b_L_law 558 = .ok (.aload_n 0, 1) := by decide +kernel
theorem d_L_law_559 : decode b_L_law 559 = .ok (.iload 4, 2) := by decide +kernel
theorem d_L_law_561 : decode b_L_law 561 = .ok (.iconst 2, 1) := by decide +kernel
theorem d_L_law_562 : decode b_L_law 562 = .ok (.iadd, 1) := by decide +kernel
theorem d_L_law_563 : decode b_L_law 563 = .ok (.iaload, 1) := by decide +kernel
theorem d_L_law_564 : decode b_L_law 564 = .ok (.aload_n 0, 1) := by decide +kernel
theorem d_L_law_565 : decode b_L_law 565 = .ok (.iload 4, 2) := by decide +kernel
theorem d_L_law_567 : decode b_L_law 567 = .ok (.iconst 3, 1) := by decide +kernel
theorem d_L_law_568 : decode b_L_law 568 = .ok (.iadd, 1) := by decide +kernel
theorem d_L_law_569 : decode b_L_law 569 = .ok (.iaload, 1) := by decide +kernel
theorem d_L_law_570 : decode b_L_law 570 = .ok (.aload_n 0, 1) := by decide +kernel
theorem d_L_law_571 : decode b_L_law 571 = .ok (.iload 4, 2) := by decide +kernel
theorem d_L_law_573 : decode b_L_law 573 = .ok (.iconst 4, 1) := by decide +kernel
theorem d_L_law_574 : decode b_L_law 574 = .ok (.iadd, 1) := by decide +kernel
theorem d_L_law_575 : decode b_L_law 575 = .ok (.iaload, 1) := by decide +kernel
theorem d_L_law_576 : decode b_L_law 576 = .ok (.aload_n 0, 1) := by decide +kernel
theorem d_L_law_577 : decode b_L_law 577 = .ok (.iload 4, 2) := by decide +kernel
theorem d_L_law_579 : decode b_L_law 579 = .ok (.iconst 5, 1) := by decide +kernel
theorem d_L_law_580 : decode b_L_law 580 = .ok (.iadd, 1) := by decide +kernel
theorem d_L_law_581 : decode b_L_law 581 = .ok (.iaload, 1) := by decide +kernel
theorem d_L_law_582 : decode b_L_law 582 = .ok (.aload_n 3, 1) := by decide +kernel
theorem d_L_law_583 : decode b_L_law 583 = .ok (.invokestatic 88, 3) := by decide +kernel
theorem d_L_law_586 : decode b_L_law 586 = .ok (.istore 5, 2) := by decide +kernel
theorem d_L_law_588 : decode b_L_law 588 = .ok (.aload_n 2, 1) := by decide +kernel
theorem d_L_law_589 : decode b_L_law 589 = .ok (.aload_n 0, 1) := by decide +kernel
theorem d_L_law_590 : decode b_L_law 590 = .ok (.iload 4, 2) := by decide +kernel
theorem d_L_law_592 : decode b_L_law 592 = .ok (.iconst 1, 1) := by decide +kernel
theorem d_L_law_593 : decode b_L_law 593 = .ok (.iadd, 1) := by decide +kernel
theorem d_L_law_594 : decode b_L_law 594 = .ok (.iaload, 1) := by decide +kernel
theorem d_L_law_595 : decode b_L_law 595 = .ok (.aload_n 0, 1) := by decide +kernel
theorem d_L_law_596 : decode b_L_law 596 = .ok (.iload 4, 2) := by decide +kernel
theorem d_L_law_598 : decode b_L_law 598 = .ok (.iconst 2, 1) := by decide +kernel
theorem d_L_law_599 : decode b_L_law 599 = .ok (.iadd, 1) := by decide +kernel
theorem d_L_law_600 : decode b_L_law 600 = .ok (.iaload, 1) := by decide +kernel
theorem d_L_law_601 : decode b_L_law 601 = .ok (.aload_n 0, 1) := by decide +kernel
theorem d_L_law_602 : decode b_L_law 602 = .ok (.iload 4, 2) := by decide +kernel
theorem d_L_law_604 : decode b_L_law 604 = .ok (.iconst 3, 1) := by decide +kernel
theorem d_L_law_605 : decode b_L_law 605 = .ok (.iadd, 1) := by decide +kernel
theorem d_L_law_606 : decode b_L_law 606 = .ok (.iaload, 1) := by decide +kernel
theorem d_L_law_607 : decode b_L_law 607 = .ok (.aload_n 0, 1) := by decide +kernel
theorem d_L_law_608 : decode b_L_law 608 = .ok (.iload 4, 2) := by decide +kernel
theorem d_L_law_610 : decode b_L_law 610 = .ok (.iconst 4, 1) := by decide +kernel
theorem d_L_law_611 : decode b_L_law 611 = .ok (.iadd, 1) := by decide +kernel
theorem d_L_law_612 : decode b_L_law 612 = .ok (.iaload, 1) := by decide +kernel
theorem d_L_law_613 : decode b_L_law 613 = .ok (.aload_n 0, 1) := by decide +kernel
theorem d_L_law_614 : decode b_L_law 614 = .ok (.iload 4, 2) := by decide +kernel
theorem d_L_law_616 : decode b_L_law 616 = .ok (.iconst 5, 1) := by decide +kernel
theorem d_L_law_617 : decode b_L_law 617 = .ok (.iadd, 1) := by decide +kernel
theorem d_L_law_618 : decode b_L_law 618 = .ok (.iaload, 1) := by decide +kernel
theorem d_L_law_619 : decode b_L_law 619 = .ok (.invokevirtual 90, 3) := by decide +kernel
theorem d_L_law_622 : decode b_L_law 622 = .ok (.istore 6, 2) := by decide +kernel
theorem d_L_law_624 : decode b_L_law 624 = .ok (.aload_n 2, 1) := by decide +kernel
theorem d_L_law_625 : decode b_L_law 625 = .ok (.invokevirtual 60, 3) := by decide +kernel
theorem d_L_law_628 : decode b_L_law 628 = .ok (.iload 5, 2) := by decide +kernel
theorem d_L_law_630 : decode b_L_law 630 = .ok (.if_icmp .eq 5, 3) := by decide +kernel
theorem d_L_law_633 : decode b_L_law 633 = .ok (.iconst 0, 1) := by decide +kernel
theorem d_L_law_634 : decode b_L_law 634 = .ok (.ireturn, 1) := by decide +kernel
theorem d_L_law_635 : decode b_L_law 635 = .ok (.iload 5, 2) := by decide +kernel
theorem d_L_law_637 : decode b_L_law 637 = .ok (.ifCond .ne 22, 3) := by decide +kernel
theorem d_L_law_640 : decode b_L_law 640 = .ok (.aload_n 3, 1) := by decide +kernel
theorem d_L_law_641 : decode b_L_law 641 = .ok (.iconst 0, 1) := by decide +kernel
theorem d_L_law_642 : decode b_L_law 642 = .ok (.laload, 1) := by decide +kernel
theorem d_L_law_643 : decode b_L_law 643 = .ok (.iload 6, 2) := by decide +kernel
theorem d_L_law_645 : decode b_L_law 645 = .ok (.ifCond .eq 7, 3) := by decide +kernel
theorem d_L_law_648 : decode b_L_law 648 = .ok (.lconst 1, 1) := by decide +kernel
theorem d_L_law_649 : decode b_L_law 649 = .ok (.goto 4, 3) := by decide +kernel
theorem d_L_law_652 : decode b_L_law 652 = .ok (.lconst 0, 1) := by decide +kernel
theorem d_L_law_653 : decode b_L_law 653 = .ok (.lcmp, 1) := by decide +kernel
theorem d_L_law_654 : decode b_L_law 654 = .ok (.ifCond .eq 5, 3) := by decide +kernel
theorem d_L_law_657 : decode b_L_law 657 = .ok (.iconst 0, 1) := by decide +kernel
theorem d_L_law_658 : decode b_L_law 658 = .ok (.ireturn, 1) := by decide +kernel
theorem d_L_law_659 : decode b_L_law 659 = .ok (.goto 242, 3) := by decide +kernel
theorem d_L_law_662 : decode b_L_law 662 = .ok (.aload_n 1, 1) := by decide +kernel
theorem d_L_law_663 : decode b_L_law 663 = .ok (.aload_n 0, 1) := by decide +kernel
theorem d_L_law_664 : decode b_L_law 664 = .ok (.iload 4, 2) := by decide +kernel
theorem d_L_law_666 : decode b_L_law 666 = .ok (.iconst 1, 1) := by decide +kernel
theorem d_L_law_667 : decode b_L_law 667 = .ok (.iadd, 1) := by decide +kernel
theorem d_L_law_668 : decode b_L_law 668 = .ok (.iaload, 1) := by decide +kernel
theorem d_L_law_669 : decode b_L_law 669 = .ok (.aload_n 3, 1) := by decide +kernel
theorem d_L_law_670 : decode b_L_law 670 = .ok (.invokestatic 91, 3) := by decide +kernel
theorem d_L_law_673 : decode b_L_law 673 = .ok (.istore 5, 2) := by decide +kernel
theorem d_L_law_675 : decode b_L_law 675 = .ok (.aload_n 2, 1) := by decide +kernel
theorem d_L_law_676 : decode b_L_law 676 = .ok (.aload_n 0, 1) := by decide +kernel
theorem d_L_law_677 : decode b_L_law 677 = .ok (.iload 4, 2) := by decide +kernel
theorem d_L_law_679 : decode b_L_law 679 = .ok (.iconst 1, 1) := by decide +kernel
theorem d_L_law_680 : decode b_L_law 680 = .ok (.iadd, 1) := by decide +kernel
theorem d_L_law_681 : decode b_L_law 681 = .ok (.iaload, 1) := by decide +kernel
theorem d_L_law_682 : decode b_L_law 682 = .ok (.invokevirtual 93, 3) := by decide +kernel
theorem d_L_law_685 : decode b_L_law 685 = .ok (.istore 6, 2) := by decide +kernel
theorem d_L_law_687 : decode b_L_law 687 = .ok (.aload_n 2, 1) := by decide +kernel
theorem d_L_law_688 : decode b_L_law 688 = .ok (.invokevirtual 60, 3) := by decide +kernel
theorem d_L_law_691 : decode b_L_law 691 = .ok (.iload 5, 2) := by decide +kernel
theorem d_L_law_693 : decode b_L_law 693 = .ok (.if_icmp .eq 5, 3) := by decide +kernel
theorem d_L_law_696 : decode b_L_law 696 = .ok (.iconst 0, 1) := by decide +kernel
theorem d_L_law_697 : decode b_L_law 697 = .ok (.ireturn, 1) := by decide +kernel
theorem d_L_law_698 : decode b_L_law 698 = .ok (.iload 5, 2) := by decide +kernel
theorem d_L_law_700 : decode b_L_law 700 = .ok (.ifCond .ne 22, 3) := by decide +kernel
theorem d_L_law_703 : decode b_L_law 703 = .ok (.aload_n 3, 1) := by decide +kernel
theorem d_L_law_704 : decode b_L_law 704 = .ok (.iconst 0, 1) := by decide +kernel
theorem d_L_law_705 : decode b_L_law 705 = .ok (.laload, 1) := by decide +kernel
theorem d_L_law_706 : decode b_L_law 706 = .ok (.iload 6, 2) := by decide +kernel
theorem d_L_law_708 : decode b_L_law 708 = .ok (.ifCond .eq 7, 3) := by decide +kernel
theorem d_L_law_711 : decode b_L_law 711 = .ok (.lconst 1, 1) := by decide +kernel
theorem d_L_law_712 : decode b_L_law 712 = .ok (.goto 4, 3) := by decide +kernel
theorem d_L_law_715 : decode b_L_law 715 = .ok (.lconst 0, 1) := by decide +kernel
theorem d_L_law_716 : decode b_L_law 716 = .ok (.lcmp, 1) := by decide +kernel
theorem d_L_law_717 : decode b_L_law 717 = .ok (.ifCond .eq 5, 3) := by decide +kernel
theorem d_L_law_720 : decode b_L_law 720 = .ok (.iconst 0, 1) := by decide +kernel
theorem d_L_law_721 : decode b_L_law 721 = .ok (.ireturn, 1) := by decide +kernel
theorem d_L_law_722 : decode b_L_law 722 = .ok (.goto 179, 3) := by decide +kernel
theorem d_L_law_725 : decode b_L_law 725 = .ok (.aload_n 1, 1) := by decide +kernel
theorem d_L_law_726 : decode b_L_law 726 = .ok (.aload_n 0, 1) := by decide +kernel
theorem d_L_law_727 : decode b_L_law 727 = .ok (.iload 4, 2) := by decide +kernel
theorem d_L_law_729 : decode b_L_law 729 = .ok (.iconst 1, 1) := by decide +kernel
theorem d_L_law_730 : decode b_L_law 730 = .ok (.iadd, 1) := by decide +kernel
theorem d_L_law_731 : decode b_L_law 731 = .ok (.iaload, 1) := by decide +kernel
theorem d_L_law_732 : decode b_L_law 732 = .ok (.aload_n 3, 1) := by decide +kernel
theorem d_L_law_733 : decode b_L_law 733 = .ok (.invokestatic 94, 3) := by decide +kernel
theorem d_L_law_736 : decode b_L_law 736 = .ok (.istore 5, 2) := by decide +kernel
theorem d_L_law_738 : decode b_L_law 738 = .ok (.aload_n 2, 1) := by decide +kernel
theorem d_L_law_739 : decode b_L_law 739 = .ok (.aload_n 0, 1) := by decide +kernel
theorem d_L_law_740 : decode b_L_law 740 = .ok (.iload 4, 2) := by decide +kernel
theorem d_L_law_742 : decode b_L_law 742 = .ok (.iconst 1, 1) := by decide +kernel
theorem d_L_law_743 : decode b_L_law 743 = .ok (.iadd, 1) := by decide +kernel
theorem d_L_law_744 : decode b_L_law 744 = .ok (.iaload, 1) := by decide +kernel
theorem d_L_law_745 : decode b_L_law 745 = .ok (.invokevirtual 96, 3) := by decide +kernel
theorem d_L_law_748 : decode b_L_law 748 = .ok (.istore 6, 2) := by decide +kernel
theorem d_L_law_750 : decode b_L_law 750 = .ok (.aload_n 2, 1) := by decide +kernel
theorem d_L_law_751 : decode b_L_law 751 = .ok (.invokevirtual 60, 3) := by decide +kernel
theorem d_L_law_754 : decode b_L_law 754 = .ok (.iload 5, 2) := by decide +kernel
theorem d_L_law_756 : decode b_L_law 756 = .ok (.if_icmp .eq 5, 3) := by decide +kernel
theorem d_L_law_759 : decode b_L_law 759 = .ok (.iconst 0, 1) := by decide +kernel
theorem d_L_law_760 : decode b_L_law 760 = .ok (.ireturn, 1) := by decide +kernel
theorem d_L_law_761 : decode b_L_law 761 = .ok (.iload 5, 2) := by decide +kernel
theorem d_L_law_763 : decode b_L_law 763 = .ok (.ifCond .ne 22, 3) := by decide +kernel
theorem d_L_law_766 : decode b_L_law 766 = .ok (.aload_n 3, 1) := by decide +kernel
theorem d_L_law_767 : decode b_L_law 767 = .ok (.iconst 0, 1) := by decide +kernel
theorem d_L_law_768 : decode b_L_law 768 = .ok (.laload, 1) := by decide +kernel
theorem d_L_law_769 : decode b_L_law 769 = .ok (.iload 6, 2) := by decide +kernel
theorem d_L_law_771 : decode b_L_law 771 = .ok (.ifCond .eq 7, 3) := by decide +kernel
theorem d_L_law_774 : decode b_L_law 774 = .ok (.lconst 1, 1) := by decide +kernel
theorem d_L_law_775 : decode b_L_law 775 = .ok (.goto 4, 3) := by decide +kernel
theorem d_L_law_778 : decode b_L_law 778 = .ok (.lconst 0, 1) := by decide +kernel
theorem d_L_law_779 : decode b_L_law 779 = .ok (.lcmp, 1) := by decide +kernel
theorem d_L_law_780 : decode b_L_law 780 = .ok (.ifCond .eq 5, 3) := by decide +kernel
theorem d_L_law_783 : decode b_L_law 783 = .ok (.iconst 0, 1) := by decide +kernel
theorem d_L_law_784 : decode b_L_law 784 = .ok (.ireturn, 1) := by decide +kernel
theorem d_L_law_785 : decode b_L_law 785 = .ok (.goto 116, 3) := by decide +kernel
theorem d_L_law_788 : decode b_L_law 788 = .ok (.aload_n 1, 1) := by decide +kernel
theorem d_L_law_789 : decode b_L_law 789 = .ok (.aload_n 0, 1) := by decide +kernel
theorem d_L_law_790 : decode b_L_law 790 = .ok (.iload 4, 2) := by decide +kernel
theorem d_L_law_792 : decode b_L_law 792 = .ok (.iconst 1, 1) := by decide +kernel
theorem d_L_law_793 : decode b_L_law 793 = .ok (.iadd, 1) := by decide +kernel
theorem d_L_law_794 : decode b_L_law 794 = .ok (.iaload, 1) := by decide +kernel
theorem d_L_law_795 : decode b_L_law 795 = .ok (.invokevirtual 97, 3) := by decide +kernel
theorem d_L_law_798 : decode b_L_law 798 = .ok (.aload_n 2, 1) := by decide +kernel
theorem d_L_law_799 : decode b_L_law 799 = .ok (.aload_n 0, 1) := by decide +kernel
theorem d_L_law_800 : decode b_L_law 800 = .ok (.iload 4, 2) := by decide +kernel
theorem d_L_law_802 : decode b_L_law 802 = .ok (.iconst 1, 1) := by decide +kernel
theorem d_L_law_803 : decode b_L_law 803 = .ok (.iadd, 1) := by decide +kernel
theorem d_L_law_804 : decode b_L_law 804 = .ok (.iaload, 1) := by decide +kernel
theorem d_L_law_805 : decode b_L_law 805 = .ok (.invokevirtual 100, 3) := by decide +kernel
theorem d_L_law_808 : decode b_L_law 808 = .ok (.if_icmp .eq 93, 3) := by decide +kernel
theorem d_L_law_811 : decode b_L_law 811 = .ok (.iconst 0, 1) := by decide +kernel
theorem d_L_law_812 : decode b_L_law 812 = .ok (.ireturn, 1) := by decide +kernel
theorem d_L_law_813 : decode b_L_law 813 = .ok (.aload_n 1, 1) := by decide +kernel
theorem d_L_law_814 : decode b_L_law 814 = .ok (.invokevirtual 101, 3) := by decide +kernel
theorem d_L_law_817 : decode b_L_law 817 = .ok (.aload_n 2, 1) := by decide +kernel
theorem d_L_law_818 : decode b_L_law 818 = .ok (.invokevirtual 104, 3) := by decide +kernel
theorem d_L_law_821 : decode b_L_law 821 = .ok (.if_icmp .eq 80, 3) := by decide +kernel
theorem d_L_law_824 : decode b_L_law 824 = .ok (.iconst 0, 1) := by decide +kernel
theorem d_L_law_825 : decode b_L_law 825 = .ok (.ireturn, 1) := by decide +kernel
theorem d_L_law_826 : decode b_L_law 826 = .ok (.aload_n 1, 1) := by decide +kernel
theorem d_L_law_827 : decode b_L_law 827 = .ok (.invokevirtual 105, 3) := by decide +kernel
theorem d_L_law_830 : decode b_L_law 830 = .ok (.aload_n 2, 1) := by decide +kernel
theorem d_L_law_831 : decode b_L_law 831 = .ok (.invokevirtual 109, 3) := by decide +kernel
theorem d_L_law_834 : decode b_L_law 834 = .ok (.if_icmp .eq 67, 3) := by decide +kernel
theorem d_L_law_837 : decode b_L_law 837 = .ok (.iconst 0, 1) := by decide +kernel
theorem d_L_law_838 : decode b_L_law 838 = .ok (.ireturn, 1) := by decide +kernel
theorem d_L_law_839 : decode b_L_law 839 = .ok (.aload_n 1, 1) := by decide +kernel
theorem d_L_law_840 : decode b_L_law 840 = .ok (.aload_n 0, 1) := by decide +kernel
theorem d_L_law_841 : decode b_L_law 841 = .ok (.iload 4, 2) := by decide +kernel
theorem d_L_law_843 : decode b_L_law 843 = .ok (.iconst 1, 1) := by decide +kernel
theorem d_L_law_844 : decode b_L_law 844 = .ok (.iadd, 1) := by decide +kernel
theorem d_L_law_845 : decode b_L_law 845 = .ok (.iaload, 1) := by decide +kernel
theorem d_L_law_846 : decode b_L_law 846 = .ok (.aload_n 0, 1) := by decide +kernel
theorem d_L_law_847 : decode b_L_law 847 = .ok (.iload 4, 2) := by decide +kernel
theorem d_L_law_849 : decode b_L_law 849 = .ok (.iconst 2, 1) := by decide +kernel
theorem d_L_law_850 : decode b_L_law 850 = .ok (.iadd, 1) := by decide +kernel
theorem d_L_law_851 : decode b_L_law 851 = .ok (.iaload, 1) := by decide +kernel
theorem d_L_law_852 : decode b_L_law 852 = .ok (.invokevirtual 110, 3) := by decide +kernel
theorem d_L_law_855 : decode b_L_law 855 = .ok (.aload_n 2, 1) := by decide +kernel
theorem d_L_law_856 : decode b_L_law 856 = .ok (.aload_n 0, 1) := by decide +kernel
theorem d_L_law_857 : decode b_L_law 857 = .ok (.iload 4, 2) := by decide +kernel
theorem d_L_law_859 : decode b_L_law 859 = .ok (.iconst 1, 1) := by decide +kernel
theorem d_L_law_860 : decode b_L_law 860 = .ok (.iadd, 1) := by decide +kernel
theorem d_L_law_861 : decode b_L_law 861 = .ok (.iaload, 1) := by decide +kernel
theorem d_L_law_862 : decode b_L_law 862 = .ok (.aload_n 0, 1) := by decide +kernel
theorem d_L_law_863 : decode b_L_law 863 = .ok (.iload 4, 2) := by decide +kernel
theorem d_L_law_865 : decode b_L_law 865 = .ok (.iconst 2, 1) := by decide +kernel
theorem d_L_law_866 : decode b_L_law 866 = .ok (.iadd, 1) := by decide +kernel
theorem d_L_law_867 : decode b_L_law 867 = .ok (.iaload, 1) := by decide +kernel
theorem d_L_law_868 : decode b_L_law 868 = .ok (.invokevirtual 114, 3) := by decide +kernel
theorem d_L_law_871 : decode b_L_law 871 = .ok (.if_icmp .eq 30, 3) := by decide +kernel
theorem d_L_law_874 : decode b_L_law 874 = .ok (.iconst 0, 1) := by decide +kernel
theorem d_L_law_875 : decode b_L_law 875 = .ok (.ireturn, 1) := by decide +kernel
theorem d_L_law_876 : decode b_L_law 876 = .ok (.aload_n 1, 1) := by decide +kernel
theorem d_L_law_877 : decode b_L_law 877 = .ok (.aload_n 0, 1) := by decide +kernel
theorem d_L_law_878 : decode b_L_law 878 = .ok (.iload 4, 2) := by decide +kernel
theorem d_L_law_880 : decode b_L_law 880 = .ok (.iconst 1, 1) := by decide +kernel
theorem d_L_law_881 : decode b_L_law 881 = .ok (.iadd, 1) := by decide +kernel
theorem d_L_law_882 : decode b_L_law 882 = .ok (.iaload, 1) := by decide +kernel
theorem d_L_law_883 : decode b_L_law 883 = .ok (.invokevirtual 115, 3) := by decide +kernel
theorem d_L_law_886 : decode b_L_law 886 = .ok (.aload_n 2, 1) := by decide +kernel
theorem d_L_law_887 : decode b_L_law 887 = .ok (.aload_n 0, 1) := by decide +kernel
theorem d_L_law_888 : decode b_L_law 888 = .ok (.iload 4, 2) := by decide +kernel
theorem d_L_law_890 : decode b_L_law 890 = .ok (.iconst 1, 1) := by decide +kernel
theorem d_L_law_891 : decode b_L_law 891 = .ok (.iadd, 1) := by decide +kernel
theorem d_L_law_892 : decode b_L_law 892 = .ok (.iaload, 1) := by decide +kernel
theorem d_L_law_893 : decode b_L_law 893 = .ok (.invokevirtual 118, 3) := by decide +kernel
theorem d_L_law_896 : decode b_L_law 896 = .ok (.if_icmp .eq 5, 3) := by decide +kernel
theorem d_L_law_899 : decode b_L_law 899 = .ok (.iconst 0, 1) := by decide +kernel
theorem d_L_law_900 : decode b_L_law 900 = .ok (.ireturn, 1) := by decide +kernel
theorem d_L_law_901 : decode b_L_law 901 = .ok (.iinc 4 6, 3) := by decide +kernel
theorem d_L_law_904 : decode b_L_law 904 = .ok (.goto (-881), 3) := by decide +kernel
theorem d_L_law_907 : decode b_L_law 907 = .ok (.iconst 1, 1) := by decide +kernel
theorem d_L_law_908 : decode b_L_law 908 = .ok (.ireturn, 1) := by decide +kernel
end
section
/-! The world as a function: the cells from address b on, n of them, each as f says of its address; no cell below b ever changes. Rows for one instruction and one call over such a world. -/
def fp_P (D : va_G) (b n : Nat) (f : Nat → va_E) (H : Heap) : Prop := ∀ a : Nat, b ≤ a → a < b + n → va_at D CL (a, f a) H
/-- a set of addresses that has the whole world -/
def fp_W (b n : Nat) (A : Nat → Prop) : Prop := ∀ q : Nat, b ≤ q → q < b + n → A q
/-- the world, and that since H0 nothing outside A has changed -/
def fp_H (D : va_G) (b n : Nat) (A : Nat → Prop) (f : Nat → va_E) (H0 H : Heap) (locs : List Loc) : Prop := fp_P D b n f H ∧ va_S A H0 H locs ∧ b ≤ H0.size
/-- the words on nest mates -/
def fp_N (U : State) : Prop := ∀ w ∈ NWs, va_Nw w U
def fp_X (p : Program) (s : State) (m : MethodId) (args : Array Value) (c : Code) (cc : ByteArray) (nL : Nat) (own : String) (D : va_G) (tys : List (ClassId × FieldType)) : Prop := CallFix p m c cc nL s args TG own ∧ va_K D CL tys s ∧ fp_N s
def fp_o (b n : Nat) (f : Nat → va_E) (a : Nat) (e : va_E) : Prop := b ≤ a ∧ a < b + n ∧ f a = e
theorem fp_o.up {b n : Nat} {f : Nat → va_E} {a : Nat} {e e' : va_E} (o : fp_o b n f a e) : fp_o b n (va_up f a e') a e' := ⟨o.1, o.2.1, va_up_self _ _ _⟩
theorem fp_o.ne {b n : Nat} {f : Nat → va_E} {a x : Nat} {e e' : va_E} (o : fp_o b n f a e) (h : a ≠ x) : fp_o b n (va_up f x e') a e := ⟨o.1, o.2.1, by rw [va_up_ne _ _ h]; exact o.2.2⟩
/-- cells of two kinds lie at two addresses -/
theorem fp_o.nf {b n : Nat} {f : Nat → va_E} {a x : Nat} {e e' : va_E} (o : fp_o b n f a e) (o' : fp_o b n f x e') (h : e ≠ e') : a ≠ x := fun q => h (by rw [← o.2.2, ← o'.2.2, q])
theorem fp_in {b n a : Nat} : a ∈ List.range' b n ↔ b ≤ a ∧ a < b + n := by simp [List.mem_range'_1]
theorem fp_P.w {D : va_G} {b n : Nat} {f : Nat → va_E} {H : Heap} (h : fp_P D b n f H) : va_P D CL (va_pl (List.range' b n) f) H := by
  intro k q hk
  obtain ⟨a, ha, rfl⟩ := List.mem_map.mp (List.mem_of_getElem? hk)
  obtain ⟨h1, h2⟩ := fp_in.mp ha
  exact h a h1 h2
theorem fp_P.of {D : va_G} {b n : Nat} {f : Nat → va_E} {H : Heap} (h : va_P D CL (va_pl (List.range' b n) f) H) : fp_P D b n f H := by
  intro a h1 h2
  obtain ⟨k, hk⟩ := va_pl_get (X := []) (f := f) (fp_in.mpr ⟨h1, h2⟩)
  exact h k _ hk
theorem fp_P.d {b n : Nat} {A : Nat → Prop} {f : Nat → va_E} (hA : fp_W b n A) : va_D A (va_pl (List.range' b n) f) := by
  have key : ∀ (i : Nat) (p : Nat × va_E), (va_pl (List.range' b n) f)[i]? = some p → p.1 = b + i ∧ i < n := by
    intro i p hi
    have hl : i < n := by
      have := (List.getElem?_eq_some_iff.mp hi).1
      simpa [va_pl] using this
    simp only [va_pl, List.getElem?_map] at hi
    rw [List.getElem?_range' hl] at hi
    simp only [Option.map_some, Option.some.injEq] at hi
    rw [← hi]
    exact ⟨by simp, hl⟩
  refine ⟨fun i j p q hi hj e => ?_, fun k q hk => ?_⟩
  · have h1 := key i p hi
    have h2 := key j q hj
    omega
  · have := key k q hk
    exact hA _ (by omega) (by omega)
theorem fp_N.warm {s U : State} (hW : s.WarmedH U.vm) (h : fp_N s) : fp_N U := by
  intro w hw
  have hs := h w hw
  simp only [NWs, List.mem_cons, List.not_mem_nil, or_false] at hw
  rcases hw with rfl | rfl | rfl | rfl | rfl | rfl | rfl | rfl | rfl | rfl | rfl | rfl | rfl | rfl | rfl | rfl | rfl | rfl | rfl | rfl | rfl | rfl | rfl | rfl | rfl | rfl | rfl | rfl | rfl | rfl | rfl | rfl <;> first | exact va_Nw.warmF hW hs | exact va_Nw.warmM hW hs
theorem fp_N.same {u U : State} (hv : u.vm = U.vm) (h : fp_N u) : fp_N U := by
  intro w hw
  have hs := h w hw
  refine va_Nw.same ?_ hv hs
  simp only [NWs, List.mem_cons, List.not_mem_nil, or_false] at hw
  rcases hw with rfl | rfl | rfl | rfl | rfl | rfl | rfl | rfl | rfl | rfl | rfl | rfl | rfl | rfl | rfl | rfl | rfl | rfl | rfl | rfl | rfl | rfl | rfl | rfl | rfl | rfl | rfl | rfl | rfl | rfl | rfl | rfl <;> rfl
section FPR
variable {p : Program} {l : Launch} {e : Env} {R : Room} {s : State} {m : MethodId} {args : Array Value} {below : List Frame} {meth : Method} {c : Code} {H : Heap} {locs : List Loc} {cells slots : Nat} {Q : State → Prop}
variable {cc : ByteArray} {pc nL : Nat} {ls : Array Slot} {rest : List Value} {D : va_G} {a : Nat} {tys : List (ClassId × FieldType)} {b n : Nat} {A : Nat → Prop} {f : Nat → va_E} {own : String}
theorem fp_X.nest (X : fp_X p s m args c cc nL own D tys) {w : Cond} (hw : w ∈ NWs) (ht : w.onTables = true) : w.before args s = true := va_Nw.use ht (X.2.2 w hw)
theorem fp_one {ci : Nat} {fs : List Value} (Y : fp_P D b n f H) (o : fp_o b n f a (.inr (ci, fs))) : va_P D CL [(a, .inr (ci, fs))] H := by
  intro k q hk
  have hz : k < 1 := (List.getElem?_eq_some_iff.mp hk).1
  rw [show k = 0 by omega] at hk
  cases hk
  rw [← o.2.2]
  exact Y a o.1 o.2.1
theorem fp_oneA {x : ClassId × vp_A} (Y : fp_P D b n f H) (o : fp_o b n f a (.inl x)) : va_P D CL [(a, .inl x)] H := by
  intro k q hk
  have hz : k < 1 := (List.getElem?_eq_some_iff.mp hk).1
  rw [show k = 0 by omega] at hk
  cases hk
  rw [← o.2.2]
  exact Y a o.1 o.2.1
theorem fp_get {C : String} {T : u_T} {N ci index : Nat} {fs : List Value} {v : Value} (X : fp_X p s m args c cc nL own D tys) (Y : fp_H D b n A f s.heap H locs) (o : fp_o b n f a (.inr (ci, fs))) (hc : CL[ci]? = some (C, T, N)) (hin : ∀ w ∈ u_ws C T N, w ∈ TG) (k : Nat) (hk : k < N) (hl : Cond.fieldLink own index (T k).1 (T k).2.1 (T k).2.2.1 ∈ TG) (hv : fs[k]? = some v) (hdg : decode cc pc = .ok (.getfield index, 3))
    (kk : W p l e R s m args below meth c H locs cells slots Q (F0 m (pc + 3) ls (v :: rest))) : W p l e R s m args below meth c H locs cells slots Q (F0 m pc ls (.ref a :: rest)) := by
  obtain ⟨⟨hx, hb, hml, hown, hts⟩, hK, hN⟩ := X
  exact va_get hx hb hts hin hown hK (fp_one Y.1 o) 0 rfl hc k hk (hts _ hl) (fun _ h => h) hv hdg kk
theorem fp_getN {C host : String} {T : u_T} {N ci index : Nat} {fs : List Value} {v : Value} (X : fp_X p s m args c cc nL own D tys) (Y : fp_H D b n A f s.heap H locs) (o : fp_o b n f a (.inr (ci, fs))) (hc : CL[ci]? = some (C, T, N)) (hin : ∀ w ∈ u_ws C T N, w ∈ TG) (k : Nat) (hk : k < N) (hl : Cond.fieldLinkNest own index (T k).1 (T k).2.1 (T k).2.2.1 host ∈ NWs) (hv : fs[k]? = some v) (hdg : decode cc pc = .ok (.getfield index, 3))
    (kk : W p l e R s m args below meth c H locs cells slots Q (F0 m (pc + 3) ls (v :: rest))) : W p l e R s m args below meth c H locs cells slots Q (F0 m pc ls (.ref a :: rest)) := by
  have hw := X.nest hl rfl
  obtain ⟨⟨hx, hb, hml, hown, hts⟩, hK, hN⟩ := X
  exact va_getN hx hb hts hin hown hK (fp_one Y.1 o) 0 rfl hc k hk hw (fun _ h => h) hv hdg kk
theorem fp_H.up {H1 : Heap} {locs1 : List Loc} {k : Nat} {e0 : va_E} (Y : fp_H D b n A f s.heap H locs) (h1 : b ≤ a) (h2 : a < b + n) (hk : (va_pl (List.range' b n) f)[k]? = some (a, f a)) (hP : va_P D CL ((va_pl (List.range' b n) f).set k (a, e0)) H1) (hA : fp_W b n A) (hS : va_S A s.heap H1 locs1) : fp_H D b n A (va_up f a e0) s.heap H1 locs1 := by
  have e := va_pl_set (X := []) (e := e0) (show va_D A ([] ++ va_pl (List.range' b n) f) from fp_P.d hA) (fp_in.mpr ⟨h1, h2⟩) hk
  refine ⟨fp_P.of ?_, hS, Y.2.2⟩
  simp only [List.nil_append] at e
  rw [← e]
  exact hP
theorem fp_put {C : String} {T : u_T} {N ci index : Nat} {fs : List Value} {v : Value} (X : fp_X p s m args c cc nL own D tys) (Y : fp_H D b n A f s.heap H locs) (o : fp_o b n f a (.inr (ci, fs))) (hc : CL[ci]? = some (C, T, N)) (hin : ∀ w ∈ u_ws C T N, w ∈ TG) {ty0 : Nat → FieldType} (hty : ∀ k, k < N → parseFieldDescriptor (T k).2.2.1 = some (ty0 k)) (hnm : ∀ a, a < N → ∀ b, b < N → a ≠ b → (T a).2.1 ≠ (T b).2.1) (k : Nat) (hk : k < N) (hl : Cond.fieldLink own index (T k).1 (T k).2.1 (T k).2.2.1 ∈ TG) (hfin : (T k).2.2.2 = false) (hn : narrow (ty0 k) v = v) (hfit : fits (ty0 k) v = true) (hlen : k < fs.length) (hdg : decode cc pc = .ok (.putfield index, 3))
    (kk : ∀ (H1 : Heap) (locs1 : List Loc), fp_H D b n A (va_up f a (.inr (ci, fs.set k v))) s.heap H1 locs1 → W p l e R s m args below meth c H1 locs1 cells slots Q (F0 m (pc + 3) ls rest)) (hA : fp_W b n A := by assumption) : W p l e R s m args below meth c H locs cells slots Q (F0 m pc ls (v :: .ref a :: rest)) := by
  obtain ⟨⟨hx, hb, hml, hown, hts⟩, hK, hN⟩ := X
  obtain ⟨q0, hq⟩ := va_pl_get (X := []) (f := f) (fp_in.mpr ⟨o.1, o.2.1⟩)
  rw [List.nil_append] at hq
  refine va_put hx hb hts hin ty0 hty hnm hown hK Y.1.w (fp_P.d hA) Y.2.1 q0 (by rw [hq, o.2.2]) hc k hk (hts _ hl) (fun _ h => h) hfin (hty k hk) hn hfit hlen hdg (fun H1 locs1 hP hD hS => kk H1 locs1 (Y.up o.1 o.2.1 hq hP hA hS))
theorem fp_putN {C host : String} {T : u_T} {N ci index : Nat} {fs : List Value} {v : Value} (X : fp_X p s m args c cc nL own D tys) (Y : fp_H D b n A f s.heap H locs) (o : fp_o b n f a (.inr (ci, fs))) (hc : CL[ci]? = some (C, T, N)) (hin : ∀ w ∈ u_ws C T N, w ∈ TG) {ty0 : Nat → FieldType} (hty : ∀ k, k < N → parseFieldDescriptor (T k).2.2.1 = some (ty0 k)) (hnm : ∀ a, a < N → ∀ b, b < N → a ≠ b → (T a).2.1 ≠ (T b).2.1) (k : Nat) (hk : k < N) (hl : Cond.fieldLinkNest own index (T k).1 (T k).2.1 (T k).2.2.1 host ∈ NWs) (hfin : (T k).2.2.2 = false) (hn : narrow (ty0 k) v = v) (hfit : fits (ty0 k) v = true) (hlen : k < fs.length) (hdg : decode cc pc = .ok (.putfield index, 3))
    (kk : ∀ (H1 : Heap) (locs1 : List Loc), fp_H D b n A (va_up f a (.inr (ci, fs.set k v))) s.heap H1 locs1 → W p l e R s m args below meth c H1 locs1 cells slots Q (F0 m (pc + 3) ls rest)) (hA : fp_W b n A := by assumption) : W p l e R s m args below meth c H locs cells slots Q (F0 m pc ls (v :: .ref a :: rest)) := by
  have hw := X.nest hl rfl
  obtain ⟨⟨hx, hb, hml, hown, hts⟩, hK, hN⟩ := X
  obtain ⟨q0, hq⟩ := va_pl_get (X := []) (f := f) (fp_in.mpr ⟨o.1, o.2.1⟩)
  rw [List.nil_append] at hq
  refine va_putN hx hb hts hin ty0 hty hnm hown hK Y.1.w (fp_P.d hA) Y.2.1 q0 (by rw [hq, o.2.2]) hc k hk hw (fun _ h => h) hfin (hty k hk) hn hfit hlen hdg (fun H1 locs1 hP hD hS => kk H1 locs1 (Y.up o.1 o.2.1 hq hP hA hS))
theorem fp_putF {C : String} {T : u_T} {N ci index : Nat} {fs : List Value} {v : Value} (X : fp_X p s m args c cc nL own D tys) (Y : fp_H D b n A f s.heap H locs) (o : fp_o b n f a (.inr (ci, fs))) (hc : CL[ci]? = some (C, T, N)) (hin : ∀ w ∈ u_ws C T N, w ∈ TG) {ty0 : Nat → FieldType} (hty : ∀ k, k < N → parseFieldDescriptor (T k).2.2.1 = some (ty0 k)) (hnm : ∀ a, a < N → ∀ b, b < N → a ≠ b → (T a).2.1 ≠ (T b).2.1) (k : Nat) (hk : k < N) (hl : Cond.fieldLink own index (T k).1 (T k).2.1 (T k).2.2.1 ∈ TG) (hfin : (T k).2.2.2 = true) (hin2 : meth.name = "<init>") (hdecl : (T k).1 = own) (hn : narrow (ty0 k) v = v) (hfit : fits (ty0 k) v = true) (hlen : k < fs.length) (hdg : decode cc pc = .ok (.putfield index, 3))
    (kk : ∀ (H1 : Heap) (locs1 : List Loc), fp_H D b n A (va_up f a (.inr (ci, fs.set k v))) s.heap H1 locs1 → W p l e R s m args below meth c H1 locs1 cells slots Q (F0 m (pc + 3) ls rest)) (hA : fp_W b n A := by assumption) : W p l e R s m args below meth c H locs cells slots Q (F0 m pc ls (v :: .ref a :: rest)) := by
  obtain ⟨⟨hx, hb, hml, hown, hts⟩, hK, hN⟩ := X
  obtain ⟨q0, hq⟩ := va_pl_get (X := []) (f := f) (fp_in.mpr ⟨o.1, o.2.1⟩)
  rw [List.nil_append] at hq
  refine va_putF hx hb hts hin ty0 hty hnm hown hK Y.1.w (fp_P.d hA) Y.2.1 q0 (by rw [hq, o.2.2]) hc k hk (hts _ hl) (fun _ h => h) hfin hin2 hdecl (hty k hk) hn hfit hlen hdg (fun H1 locs1 hP hD hS => kk H1 locs1 (Y.up o.1 o.2.1 hq hP hA hS))
theorem fp_iald {cA : ClassId} {N : Nat} {z : Nat → Int32} {i : Int32} (X : fp_X p s m args c cc nL own D tys) (Y : fp_H D b n A f s.heap H locs) (o : fp_o b n f a (.inl (cA, N, .inl z))) (t0 : Nat) (ht : tys[t0]? = some (cA, .int)) (hi : vp_in i N) (hdg : decode cc pc = .ok (.iaload, 1))
    (kk : W p l e R s m args below meth c H locs cells slots Q (F0 m (pc + 1) ls (.int (z i.toNatClampNeg) :: rest))) : W p l e R s m args below meth c H locs cells slots Q (F0 m pc ls (.int i :: .ref a :: rest)) :=
  va_iald X.1.1 X.1.2.1 X.2.1 (fp_oneA Y.1 o) 0 t0 rfl ht hi hdg kk
theorem fp_iast {cA : ClassId} {N : Nat} {z : Nat → Int32} {i x : Int32} (X : fp_X p s m args c cc nL own D tys) (Y : fp_H D b n A f s.heap H locs) (o : fp_o b n f a (.inl (cA, N, .inl z))) (t0 : Nat) (ht : tys[t0]? = some (cA, .int)) (hi : vp_in i N) (hdg : decode cc pc = .ok (.iastore, 1))
    (kk : ∀ (H1 : Heap) (locs1 : List Loc), fp_H D b n A (va_up f a (.inl (cA, N, .inl (upd z i.toNatClampNeg x)))) s.heap H1 locs1 → W p l e R s m args below meth c H1 locs1 cells slots Q (F0 m (pc + 1) ls rest)) (hA : fp_W b n A := by assumption) : W p l e R s m args below meth c H locs cells slots Q (F0 m pc ls (.int x :: .int i :: .ref a :: rest)) := by
  obtain ⟨q0, hq⟩ := va_pl_get (X := []) (f := f) (fp_in.mpr ⟨o.1, o.2.1⟩)
  rw [List.nil_append] at hq
  exact va_iast X.1.1 X.1.2.1 X.2.1 Y.1.w (fp_P.d hA) Y.2.1 q0 t0 (by rw [hq, o.2.2]) ht hi hdg (fun H1 locs1 hP hD hS => kk H1 locs1 (Y.up o.1 o.2.1 hq hP hA hS))
theorem fp_lald {cA : ClassId} {N : Nat} {z : Nat → Int64} {i : Int32} (X : fp_X p s m args c cc nL own D tys) (Y : fp_H D b n A f s.heap H locs) (o : fp_o b n f a (.inl (cA, N, .inr (.inl z)))) (t0 : Nat) (ht : tys[t0]? = some (cA, .long)) (hi : vp_in i N) (hdg : decode cc pc = .ok (.laload, 1))
    (kk : W p l e R s m args below meth c H locs cells slots Q (F0 m (pc + 1) ls (.long (z i.toNatClampNeg) :: rest))) : W p l e R s m args below meth c H locs cells slots Q (F0 m pc ls (.int i :: .ref a :: rest)) :=
  va_lald X.1.1 X.1.2.1 X.2.1 (fp_oneA Y.1 o) 0 t0 rfl ht hi hdg kk
theorem fp_last {cA : ClassId} {N : Nat} {z : Nat → Int64} {i : Int32} {x : Int64} (X : fp_X p s m args c cc nL own D tys) (Y : fp_H D b n A f s.heap H locs) (o : fp_o b n f a (.inl (cA, N, .inr (.inl z)))) (t0 : Nat) (ht : tys[t0]? = some (cA, .long)) (hi : vp_in i N) (hdg : decode cc pc = .ok (.lastore, 1))
    (kk : ∀ (H1 : Heap) (locs1 : List Loc), fp_H D b n A (va_up f a (.inl (cA, N, .inr (.inl (vp_updL z i.toNatClampNeg x))))) s.heap H1 locs1 → W p l e R s m args below meth c H1 locs1 cells slots Q (F0 m (pc + 1) ls rest)) (hA : fp_W b n A := by assumption) : W p l e R s m args below meth c H locs cells slots Q (F0 m pc ls (.long x :: .int i :: .ref a :: rest)) := by
  obtain ⟨q0, hq⟩ := va_pl_get (X := []) (f := f) (fp_in.mpr ⟨o.1, o.2.1⟩)
  rw [List.nil_append] at hq
  exact va_last X.1.1 X.1.2.1 X.2.1 Y.1.w (fp_P.d hA) Y.2.1 q0 t0 (by rw [hq, o.2.2]) ht hi hdg (fun H1 locs1 hP hD hS => kk H1 locs1 (Y.up o.1 o.2.1 hq hP hA hS))
theorem fp_aald {cA : ClassId} {C : String} {N : Nat} {z : Nat → Option Nat} {i : Int32} {q : Nat} (X : fp_X p s m args c cc nL own D tys) (Y : fp_H D b n A f s.heap H locs) (o : fp_o b n f a (.inl (cA, N, .inr (.inr (.inr (.inr z)))))) (t0 : Nat) (ht : tys[t0]? = some (cA, .object C)) (hi : vp_in i N) (hq : z i.toNatClampNeg = some q) (hdg : decode cc pc = .ok (.aaload, 1))
    (kk : W p l e R s m args below meth c H locs cells slots Q (F0 m (pc + 1) ls (.ref q :: rest))) : W p l e R s m args below meth c H locs cells slots Q (F0 m pc ls (.int i :: .ref a :: rest)) :=
  va_aldq X.1.1 X.1.2.1 X.2.1 (fp_oneA Y.1 o) 0 t0 rfl ht hi hdg (by rw [hq]; exact kk)
theorem fp_aast {cA : ClassId} {r : vw_C} {N ci v : Nat} {vs : List Value} {z : Nat → Option Nat} {i : Int32} (X : fp_X p s m args c cc nL own D tys) (Y : fp_H D b n A f s.heap H locs) (o : fp_o b n f a (.inl (cA, N, .inr (.inr (.inr (.inr z)))))) (t0 : Nat) (ht : tys[t0]? = some (cA, .object r.1)) (ov : fp_o b n f v (.inr (ci, vs))) (hc : CL[ci]? = some r) (hi : vp_in i N) (hdg : decode cc pc = .ok (.aastore, 1))
    (kk : ∀ (H1 : Heap) (locs1 : List Loc), fp_H D b n A (va_up f a (.inl (cA, N, .inr (.inr (.inr (.inr (va_up z i.toNatClampNeg (some v)))))))) s.heap H1 locs1 → W p l e R s m args below meth c H1 locs1 cells slots Q (F0 m (pc + 1) ls rest)) (hA : fp_W b n A := by assumption) : W p l e R s m args below meth c H locs cells slots Q (F0 m pc ls (.ref v :: .int i :: .ref a :: rest)) := by
  obtain ⟨q0, hq⟩ := va_pl_get (X := []) (f := f) (fp_in.mpr ⟨o.1, o.2.1⟩)
  obtain ⟨q1, hq1⟩ := va_pl_get (X := []) (f := f) (fp_in.mpr ⟨ov.1, ov.2.1⟩)
  rw [List.nil_append] at hq hq1
  exact va_astq X.1.1 X.1.2.1 X.2.1 Y.1.w (fp_P.d hA) Y.2.1 q0 t0 q1 ci (by rw [hq, o.2.2]) ht (by rw [hq1, ov.2.2]) hc hi hdg (fun H1 locs1 hP hD hS => kk H1 locs1 (Y.up o.1 o.2.1 hq hP hA hS))
/-- a method's start over the whole world -/
def fp_B (D : va_G) (tys : List (ClassId × FieldType)) (b n : Nat) (f : Nat → va_E) (U : State) : Prop := fp_P D b n f U.heap ∧ va_K D CL tys U ∧ fp_N U ∧ b ≤ U.heap.size
/-- a method's end over the whole world -/
def fp_E (D : va_G) (b n : Nat) (A : Nat → Prop) (post : Option Value → (Nat → va_E) → Prop) (st : State) (oc : Outcome) (t : State) : Prop := (∃ (v : Option Value) (f' : Nat → va_E), oc = .returned v ∧ post v f' ∧ fp_P D b n f' t.heap) ∧ va_F A st t
/-- a contract over the whole world: of a method that makes nothing -/
def fp_M (l : Launch) (D : va_G) (tys : List (ClassId × FieldType)) (b n : Nat) (A : Nat → Prop) (y : MethodName) (ws : List Cond) (rm : Room) (As : List Value) (f : Nat → va_E) (post : Option Value → (Nat → va_E) → Prop) : Prop :=
  Met l y ws rm (va_Pc As (fp_B D tys b n f)) (fun _ => fp_E D b n A post) 0 0 A
theorem fp_call {post : Option Value → (Nat → va_E) → Prop} {st0 : List Value} (Y : fp_H D b n A f s.heap H locs)
    (hr : va_Run p l e R s m args below meth c H locs cells slots 0 0 (F0 m pc ls st0) rest (fp_E D b n A post) A)
    (kk : ∀ (v : Option Value) (f' : Nat → va_E) (H1 : Heap) (locs1 : List Loc), post v f' → fp_H D b n A f' s.heap H1 locs1 → W p l e R s m args below meth c H1 locs1 cells slots Q (F0 m (pc + 3) ls (v.toList ++ rest))) : W p l e R s m args below meth c H locs cells slots Q (F0 m pc ls st0) := by
  intro T hT X
  obtain ⟨v, st₀, t, T', L, h0, X', hL, e1, e2, ⟨⟨v', f', hv, hp, hb⟩, hz, hk⟩, st⟩ := hr T hT X
  cases hv
  rw [h0] at hz hk
  obtain ⟨hP, hS, hb0⟩ := Y
  obtain ⟨t2, a1, b1⟩ := kk v f' T'.heap (locs ++ L) hp ⟨by rw [e1]; exact hb, ⟨Nat.le_trans hS.1 (by rw [e1]; exact hz), fun q h1 h2 => by rw [e1, hk q (Nat.lt_of_lt_of_le h1 hS.1) h2]; exact hS.2.1 q h1 h2, fun q hq => by
      rcases List.mem_append.mp hq with h | h
      · exact hS.2.2 q h
      · exact hL q h⟩, hb0⟩ T' rfl X'
  exact ⟨t2, st t2 a1, b1⟩
theorem fp_blind {As : List Value} : FrameBlind (va_Pc As (fp_B D tys b n f)) := fun a U g mk q => by
  obtain ⟨q0, q1, qK, qN, q2⟩ := q
  exact ⟨q0, q1, va_K.moved (u := U) (U := U.calling g mk a) (Vm.Alike.refl U.vm) qK, fp_N.same (u := U) (U := U.calling g mk a) rfl qN, q2⟩
theorem fp_preS {As : List Value} (X : fp_X p s m args c cc nL own D tys) (Y : fp_H D b n A f s.heap H locs) : PreS s H (va_Pc As (fp_B D tys b n f)) As :=
  ⟨fp_blind, fun U hU hW => ⟨rfl, by rw [hU]; exact Y.1, va_K.moved hW.alike X.2.1, X.2.2.warm hW, by rw [hU]; exact Nat.le_trans Y.2.2 Y.2.1.1⟩⟩
theorem fp_preV {As : List Value} {ci : Nat} {fs : List Value} {q : vw_C} (X : fp_X p s m args c cc nL own D tys) (Y : fp_H D b n A f s.heap H locs) (o : fp_o b n f a (.inr (ci, fs))) (hc : CL[ci]? = some q) : PreV s H q.1 a (va_Pc (.ref a :: As) (fp_B D tys b n f)) As :=
  ⟨fp_blind, va_recv X.2.1 (fp_one Y.1 o) hc (q0 := 0) rfl, fun U hU hW => ⟨rfl, by rw [hU]; exact Y.1, va_K.moved hW.alike X.2.1, X.2.2.warm hW, by rw [hU]; exact Nat.le_trans Y.2.2 Y.2.1.1⟩⟩
/-- the words of a callee: its code, and TG -/
abbrev fp_ws (y : MethodName) (cc : ByteArray) (maxL : Nat) (ret : Option FieldType) : List Cond := Cond.code y cc maxL ret :: TG
theorem fp_good : ∀ w ∈ TG, w ∈ TG ∧ ((w.onTables && w.keeps) = true ∨ ∃ ty, w = .arrayClass ty) := fun w h => ⟨h, good_of_word (TG_good w h)⟩
theorem fp_goodW {y : MethodName} {cc : ByteArray} {maxL : Nat} {ret : Option FieldType} (h : Cond.code y cc maxL ret ∈ TG) : GoodIn TG (fp_ws y cc maxL ret) := fun w hw => by
  rcases List.mem_cons.mp hw with rfl | hw
  · exact fp_good _ h
  · exact fp_good _ hw
theorem fp_goodL {pre ws : List Cond} (h1 : ∀ w ∈ pre, w ∈ TG) (h2 : GoodIn TG ws) : GoodIn TG (pre ++ ws) := fun w hw => by
  rcases List.mem_append.mp hw with hw | hw
  · exact fp_good _ (h1 w hw)
  · exact h2 w hw
theorem fp_callV {post : Option Value → (Nat → va_E) → Prop} {st0 : List Value} {y : MethodName} {bytes : ByteArray} {maxL index ci nA : Nat} {ret : Option FieldType} {rm : Room} {As : List Value} {fs : List Value} {q : vw_C} (X : fp_X p s m args c cc nL own D tys) (Y : fp_H D b n A f s.heap H locs)
    (hM : fp_M l D tys b n A y (fp_ws y bytes maxL ret) rm (.ref a :: As) f post) (o : fp_o b n f a (.inr (ci, fs))) (hc : CL[ci]? = some q)
    (w1 : Cond.code y bytes maxL ret ∈ TG) (w2 : Cond.methodLink own index y ∈ TG) (w3 : Cond.instanceMethod y ∈ TG) (w4 : Cond.selects q.1 y y ∈ TG) (w5 : Cond.initialized q.1 ∈ TG)
    (hd : y.cls = q.1 ∧ y.cls ≠ "java/lang/invoke/MethodHandle" ∧ y.cls ≠ "java/lang/invoke/VarHandle" ∧ (parseMethodDescriptor y.desc).map (fun d => d.parameters.length) = some nA) (hrc : rm.cells = 0 ∧ rm.slots = 0) (hR : rm.frames + 1 ≤ R.frames ∧ 8 + (maxL + 11) + rm.locals ≤ R.locals)
    (hn : As.length = nA) (hsz : ls.size = nL) (hst : st0 = As.reverse ++ .ref a :: rest) (hroom : (rest.map fun v => v.category).sum ≤ 8) (hdg : decode cc pc = .ok (.invokevirtual index, 3)) (hcs : cells ≤ R.cells ∧ slots ≤ R.slots)
    (kk : ∀ (v : Option Value) (f' : Nat → va_E) (H1 : Heap) (locs1 : List Loc), post v f' → fp_H D b n A f' s.heap H1 locs1 → W p l e R s m args below meth c H1 locs1 cells slots Q (F0 m (pc + 3) ls (v.toList ++ rest))) : W p l e R s m args below meth c H locs cells slots Q (F0 m pc ls st0) := by
  subst hst
  refine fp_call (rest := rest) Y (va_runV (C := q.1) (As := As) (rest := rest) X.1 hM (cwV nA X.1.2.2.2.2 (fp_goodL (fun w hw => ?_) (fp_goodW w1)) rfl hrc.1 hrc.2 hd hR) (fp_preV X Y o hc) rfl hn hsz rfl (lv_room hroom) hdg hcs) kk
  simp only [List.mem_cons, List.not_mem_nil, or_false] at hw
  rcases hw with rfl | rfl | rfl | rfl
  · exact w2
  · exact w3
  · exact w4
  · exact w5
theorem fp_callS {post : Option Value → (Nat → va_E) → Prop} {st0 : List Value} {y : MethodName} {bytes : ByteArray} {maxL index nA : Nat} {ret : Option FieldType} {rm : Room} {As : List Value} (X : fp_X p s m args c cc nL own D tys) (Y : fp_H D b n A f s.heap H locs)
    (hM : fp_M l D tys b n A y (fp_ws y bytes maxL ret) rm As f post)
    (w1 : Cond.code y bytes maxL ret ∈ TG) (w2 : Cond.methodLink own index y ∈ TG) (w3 : Cond.static y ∈ TG) (w4 : Cond.initialized y.cls ∈ TG)
    (hd : y.cls ≠ "java/lang/invoke/MethodHandle" ∧ y.cls ≠ "java/lang/invoke/VarHandle" ∧ (parseMethodDescriptor y.desc).map (fun d => d.parameters.length) = some nA) (hrc : rm.cells = 0 ∧ rm.slots = 0) (hR : rm.frames + 1 ≤ R.frames ∧ 8 + (maxL + 11) + rm.locals ≤ R.locals)
    (hn : As.length = nA) (hsz : ls.size = nL) (hst : st0 = As.reverse ++ rest) (hroom : (rest.map fun v => v.category).sum ≤ 8) (hdg : decode cc pc = .ok (.invokestatic index, 3)) (hcs : cells ≤ R.cells ∧ slots ≤ R.slots)
    (kk : ∀ (v : Option Value) (f' : Nat → va_E) (H1 : Heap) (locs1 : List Loc), post v f' → fp_H D b n A f' s.heap H1 locs1 → W p l e R s m args below meth c H1 locs1 cells slots Q (F0 m (pc + 3) ls (v.toList ++ rest))) : W p l e R s m args below meth c H locs cells slots Q (F0 m pc ls st0) := by
  subst hst
  have hts := X.1.2.2.2.2
  exact fp_call (rest := rest) Y (va_runS (As := As) (rest := rest) X.1 hM ⟨callB_of nA hts (fp_goodW w1) rfl hrc.1 hrc.2 (hts _ w4) (hts _ w2) hd hR, hts _ w3⟩ (fp_preS X Y) rfl hn hsz rfl (lv_room hroom) hdg hcs) kk
theorem fp_callVN {post : Option Value → (Nat → va_E) → Prop} {st0 : List Value} {y : MethodName} {bytes : ByteArray} {maxL index ci nA : Nat} {ret : Option FieldType} {rm : Room} {As : List Value} {fs : List Value} {q : vw_C} {host : String} (X : fp_X p s m args c cc nL own D tys) (Y : fp_H D b n A f s.heap H locs)
    (hM : fp_M l D tys b n A y (fp_ws y bytes maxL ret) rm (.ref a :: As) f post) (o : fp_o b n f a (.inr (ci, fs))) (hc : CL[ci]? = some q)
    (w1 : Cond.code y bytes maxL ret ∈ TG) (w2 : Cond.methodLinkNest own index y host ∈ NWs) (w3 : Cond.instanceMethod y ∈ TG) (w4 : Cond.selects q.1 y y ∈ TG) (w5 : Cond.initialized y.cls ∈ TG)
    (hd : y.cls ≠ "java/lang/invoke/MethodHandle" ∧ y.cls ≠ "java/lang/invoke/VarHandle" ∧ (parseMethodDescriptor y.desc).map (fun d => d.parameters.length) = some nA) (hrc : rm.cells = 0 ∧ rm.slots = 0) (hR : rm.frames + 1 ≤ R.frames ∧ 8 + (maxL + 11) + rm.locals ≤ R.locals)
    (hn : As.length = nA) (hsz : ls.size = nL) (hst : st0 = As.reverse ++ .ref a :: rest) (hroom : (rest.map fun v => v.category).sum ≤ 8) (hdg : decode cc pc = .ok (.invokevirtual index, 3)) (hcs : cells ≤ R.cells ∧ slots ≤ R.slots)
    (kk : ∀ (v : Option Value) (f' : Nat → va_E) (H1 : Heap) (locs1 : List Loc), post v f' → fp_H D b n A f' s.heap H1 locs1 → W p l e R s m args below meth c H1 locs1 cells slots Q (F0 m (pc + 3) ls (v.toList ++ rest))) : W p l e R s m args below meth c H locs cells slots Q (F0 m pc ls st0) := by
  subst hst
  have hts := X.1.2.2.2.2
  exact fp_call (rest := rest) Y (va_runVN (C := q.1) (As := As) (rest := rest) X.1 hM ⟨va_cnB nA hts (fp_goodW w1) rfl hrc.1 hrc.2 (X.2.2 _ w2) (hts _ w5) hd hR, hts _ w3, hts _ w4⟩ (fp_preV X Y o hc) rfl hn hsz rfl (lv_room hroom) hdg hcs) kk
theorem fp_callSN {post : Option Value → (Nat → va_E) → Prop} {st0 : List Value} {y : MethodName} {bytes : ByteArray} {maxL index nA : Nat} {ret : Option FieldType} {rm : Room} {As : List Value} {host : String} (X : fp_X p s m args c cc nL own D tys) (Y : fp_H D b n A f s.heap H locs)
    (hM : fp_M l D tys b n A y (fp_ws y bytes maxL ret) rm As f post)
    (w1 : Cond.code y bytes maxL ret ∈ TG) (w2 : Cond.methodLinkNest own index y host ∈ NWs) (w3 : Cond.static y ∈ TG) (w4 : Cond.initialized y.cls ∈ TG)
    (hd : y.cls ≠ "java/lang/invoke/MethodHandle" ∧ y.cls ≠ "java/lang/invoke/VarHandle" ∧ (parseMethodDescriptor y.desc).map (fun d => d.parameters.length) = some nA) (hrc : rm.cells = 0 ∧ rm.slots = 0) (hR : rm.frames + 1 ≤ R.frames ∧ 8 + (maxL + 11) + rm.locals ≤ R.locals)
    (hn : As.length = nA) (hsz : ls.size = nL) (hst : st0 = As.reverse ++ rest) (hroom : (rest.map fun v => v.category).sum ≤ 8) (hdg : decode cc pc = .ok (.invokestatic index, 3)) (hcs : cells ≤ R.cells ∧ slots ≤ R.slots)
    (kk : ∀ (v : Option Value) (f' : Nat → va_E) (H1 : Heap) (locs1 : List Loc), post v f' → fp_H D b n A f' s.heap H1 locs1 → W p l e R s m args below meth c H1 locs1 cells slots Q (F0 m (pc + 3) ls (v.toList ++ rest))) : W p l e R s m args below meth c H locs cells slots Q (F0 m pc ls st0) := by
  subst hst
  have hts := X.1.2.2.2.2
  exact fp_call (rest := rest) Y (va_runSN (As := As) (rest := rest) X.1 hM ⟨va_cnB nA hts (fp_goodW w1) rfl hrc.1 hrc.2 (X.2.2 _ w2) (hts _ w4) hd hR, hts _ w3, trivial⟩ (fp_preS X Y) rfl hn hsz rfl (lv_room hroom) hdg hcs) kk
end FPR
section FPE
variable {l : Launch} {D : va_G} {tys : List (ClassId × FieldType)} {b n : Nat} {A : Nat → Prop} {y : MethodName} {ws ws' : List Cond} {rm : Room} {As : List Value} {f : Nat → va_E} {post : Option Value → (Nat → va_E) → Prop} {cc : ByteArray} {maxL : Nat}
/-- the end of a method, by an answer or without one -/
abbrev fp_Ret (l : Launch) (D : va_G) (b n : Nat) (A : Nat → Prop) (rm : Room) (post : Option Value → (Nat → va_E) → Prop) (cc : ByteArray) (p : Program) (e : Env) (s : State) (m : MethodId) (args : Array Value) (below : List Frame) (meth : Method) (c : Code) (Q : State → Prop) (i : Instr) (ok : Value → Prop) : Prop :=
  ∀ (pc : Nat) (ls : Array Slot) (v : Value) (f' : Nat → va_E) (H : Heap) (locs : List Loc), decode cc pc = .ok (i, 1) → ok v → post (some v) f' → fp_H D b n A f' s.heap H locs → W p l e rm s m args below meth c H locs 0 0 Q (F0 m pc ls [v])
abbrev fp_RetV (l : Launch) (D : va_G) (b n : Nat) (A : Nat → Prop) (rm : Room) (post : Option Value → (Nat → va_E) → Prop) (cc : ByteArray) (p : Program) (e : Env) (s : State) (m : MethodId) (args : Array Value) (below : List Frame) (meth : Method) (c : Code) (Q : State → Prop) : Prop :=
  ∀ (pc : Nat) (ls : Array Slot) (f' : Nat → va_E) (H : Heap) (locs : List Loc), decode cc pc = .ok (.return_, 1) → post none f' → fp_H D b n A f' s.heap H locs → W p l e rm s m args below meth c H locs 0 0 Q (F0 m pc ls [])
theorem fp_ofI {ty : FieldType} (hy : plainFor y = true) (hlen : (lg_sl As).length ≤ maxL)
    (body : ∀ (p : Program) (e : Env) (s : State) (m : MethodId) (args : Array Value) (below : List Frame) (meth : Method) (c : Code) (Q : State → Prop) (ls : Array Slot) (H : Heap) (locs : List Loc), fp_X p s m args c cc maxL y.cls D tys → fp_H D b n A f s.heap H locs → lv_has ls maxL (lv_args 0 As) →
      fp_Ret l D b n A rm post cc p e s m args below meth c Q .ireturn (fun v => ∃ x : Int32, v = .int x ∧ narrow ty (.int x) = .int x) → W p l e rm s m args below meth c H locs 0 0 Q (F0 m 0 ls [])) : fp_M l D tys b n A y (fp_ws y cc maxL (some ty)) rm As f post := by
  refine va_MetF (cc := cc) (maxL := maxL) (ret := some ty) hy rfl ?_
  intro p e s m args below meth c s₁ B hml hv
  obtain ⟨rfl, hP, hK, hN, hb0⟩ := hv
  have hl := lv_entry As (n := maxL) hlen
  rw [lg_entry_eq]
  generalize (lg_sl As ++ List.replicate (maxL - (lg_sl As).length) Slot.unset).toArray = ls at hl ⊢
  have hts := atoms_spec (ws := fp_ws y cc maxL (some ty)) B.pre
  refine body p e s m _ below meth c _ ls s.heap [] ⟨⟨B.exec, B.bytes, hml, findClass_of_methodNamed B.named, fun w hw => hts w (List.mem_cons_of_mem _ hw)⟩, hK, hN⟩ ⟨hP, va_S.rf, hb0⟩ hl ?_
  intro pc ls v f' H locs hd ⟨x, hx, hnar⟩ hp Y
  subst hx
  exact W.zret B.exec B.bytes B.returns hnar (fun t ht hW => ⟨⟨_, f', rfl, hp, by rw [ht]; exact Y.1⟩, Y.2.1.F ht⟩) Y.2.1.2.2 hd (hlocks := B.notSynchronized)
theorem fp_ofA {ty : FieldType} (hrt : (∃ n, ty = .object n) ∨ ∃ t, ty = .array t) (hy : plainFor y = true) (hlen : (lg_sl As).length ≤ maxL)
    (body : ∀ (p : Program) (e : Env) (s : State) (m : MethodId) (args : Array Value) (below : List Frame) (meth : Method) (c : Code) (Q : State → Prop) (ls : Array Slot) (H : Heap) (locs : List Loc), fp_X p s m args c cc maxL y.cls D tys → fp_H D b n A f s.heap H locs → lv_has ls maxL (lv_args 0 As) →
      fp_Ret l D b n A rm post cc p e s m args below meth c Q .areturn (fun v => v = .null ∨ ∃ a, v = .ref a) → W p l e rm s m args below meth c H locs 0 0 Q (F0 m 0 ls [])) : fp_M l D tys b n A y (fp_ws y cc maxL (some ty)) rm As f post := by
  refine va_MetF (cc := cc) (maxL := maxL) (ret := some ty) hy rfl ?_
  intro p e s m args below meth c s₁ B hml hv
  obtain ⟨rfl, hP, hK, hN, hb0⟩ := hv
  have hl := lv_entry As (n := maxL) hlen
  rw [lg_entry_eq]
  generalize (lg_sl As ++ List.replicate (maxL - (lg_sl As).length) Slot.unset).toArray = ls at hl ⊢
  have hts := atoms_spec (ws := fp_ws y cc maxL (some ty)) B.pre
  refine body p e s m _ below meth c _ ls s.heap [] ⟨⟨B.exec, B.bytes, hml, findClass_of_methodNamed B.named, fun w hw => hts w (List.mem_cons_of_mem _ hw)⟩, hK, hN⟩ ⟨hP, va_S.rf, hb0⟩ hl ?_
  intro pc ls v f' H locs hd hok hp Y
  exact W.aret B.exec B.bytes B.returns hrt hok (fun t ht hW => ⟨⟨_, f', rfl, hp, by rw [ht]; exact Y.1⟩, Y.2.1.F ht⟩) Y.2.1.2.2 hd (hlocks := B.notSynchronized)
theorem fp_ofV (hy : plainFor y = true) (hlen : (lg_sl As).length ≤ maxL)
    (body : ∀ (p : Program) (e : Env) (s : State) (m : MethodId) (args : Array Value) (below : List Frame) (meth : Method) (c : Code) (Q : State → Prop) (ls : Array Slot) (H : Heap) (locs : List Loc), fp_X p s m args c cc maxL y.cls D tys → fp_H D b n A f s.heap H locs → lv_has ls maxL (lv_args 0 As) →
      fp_RetV l D b n A rm post cc p e s m args below meth c Q → W p l e rm s m args below meth c H locs 0 0 Q (F0 m 0 ls [])) : fp_M l D tys b n A y (fp_ws y cc maxL none) rm As f post := by
  refine va_MetF (cc := cc) (maxL := maxL) (ret := none) hy rfl ?_
  intro p e s m args below meth c s₁ B hml hv
  obtain ⟨rfl, hP, hK, hN, hb0⟩ := hv
  have hl := lv_entry As (n := maxL) hlen
  rw [lg_entry_eq]
  generalize (lg_sl As ++ List.replicate (maxL - (lg_sl As).length) Slot.unset).toArray = ls at hl ⊢
  have hts := atoms_spec (ws := fp_ws y cc maxL none) B.pre
  refine body p e s m _ below meth c _ ls s.heap [] ⟨⟨B.exec, B.bytes, hml, findClass_of_methodNamed B.named, fun w hw => hts w (List.mem_cons_of_mem _ hw)⟩, hK, hN⟩ ⟨hP, va_S.rf, hb0⟩ hl ?_
  intro pc ls f' H locs hd hp Y
  exact W.vret B.exec B.bytes B.returns (fun t ht hW => ⟨⟨_, f', rfl, hp, by rw [ht]; exact Y.1⟩, Y.2.1.F ht⟩) Y.2.1.2.2 hd (hlocks := B.notSynchronized)
end FPE
end
section
/-! The kinds of arrays, the rooms by depth, repeated stores to one cell. -/
abbrev TY (g : Nat → ClassId) : List (ClassId × FieldType) := [(g 0, .int), (g 1, .object "EntryTables$Action"), (g 2, .object "EntryTables$Doing"), (g 3, .object "EntryTables$Entry"), (g 4, .object "EntryTables$Table"), (g 5, .long)]
abbrev aI (g : Nat → ClassId) (N : Nat) (z : Nat → Int32) : va_E := .inl (g 0, N, .inl z)
abbrev aL (g : Nat → ClassId) (N : Nat) (z : Nat → Int64) : va_E := .inl (g 5, N, .inr (.inl z))
abbrev aR (g : Nat → ClassId) (k N : Nat) (z : Nat → Option Nat) : va_E := .inl (g k, N, .inr (.inr (.inr (.inr z))))
abbrev ob (ci : Nat) (fs : List Value) : va_E := .inr (ci, fs)
abbrev rmD (d : Nat) : Room := { frames := d, cells := 0, slots := 0, locals := 40 * d }
theorem fp_o.re {b n : Nat} {f : Nat → va_E} {a x : Nat} {e e1 e2 : va_E} (o : fp_o b n (va_up f a e1) x e) (h : x ≠ a) : fp_o b n (va_up f a e2) x e := ⟨o.1, o.2.1, by rw [va_up_ne _ _ h, ← va_up_ne f e1 h]; exact o.2.2⟩
theorem fp_o.rs {b n : Nat} {f : Nat → va_E} {a : Nat} {e e1 e2 : va_E} (o : fp_o b n (va_up f a e1) a e) : fp_o b n (va_up f a e2) a e2 := ⟨o.1, o.2.1, va_up_self _ _ _⟩
theorem fp_H.re {D : va_G} {b n : Nat} {A : Nat → Prop} {f : Nat → va_E} {a : Nat} {e1 e2 : va_E} {H0 H : Heap} {locs : List Loc} (Y : fp_H D b n A (va_up (va_up f a e1) a e2) H0 H locs) : fp_H D b n A (va_up f a e2) H0 H locs := by rw [bx_uu] at Y; exact Y
theorem va_up_same {f : Nat → va_E} {a : Nat} {e : va_E} (h : f a = e) : va_up f a e = f := by
  funext j
  by_cases hj : j = a
  · subst hj; rw [va_up_self, h]
  · rw [va_up_ne _ _ hj]
section FPA
variable {p : Program} {l : Launch} {e : Env} {R : Room} {s : State} {m : MethodId} {args : Array Value} {below : List Frame} {meth : Method} {c : Code} {H : Heap} {locs : List Loc} {cells slots : Nat} {Q : State → Prop}
variable {cc : ByteArray} {pc nL : Nat} {ls : Array Slot} {rest : List Value} {D : va_G} {a : Nat} {g : Nat → ClassId} {b n : Nat} {A : Nat → Prop} {f : Nat → va_E} {own : String} {N : Nat} {i : Int32}
theorem fp_ild {z : Nat → Int32} (X : fp_X p s m args c cc nL own D (TY g)) (Y : fp_H D b n A f s.heap H locs) (o : fp_o b n f a (aI g N z)) (k : Nat) (hi : i = nI k) (hk : k < N) (hN : N < 2 ^ 31) (hdg : decode cc pc = .ok (.iaload, 1))
    (kk : W p l e R s m args below meth c H locs cells slots Q (F0 m (pc + 1) ls (.int (z k) :: rest))) : W p l e R s m args below meth c H locs cells slots Q (F0 m pc ls (.int i :: .ref a :: rest)) := by
  subst hi
  refine fp_iald X Y o 0 rfl (vp_in_nI hk hN) hdg ?_
  rw [nI_clamp (Nat.lt_trans hk hN)]
  exact kk
theorem fp_ist {z : Nat → Int32} {x : Int32} (X : fp_X p s m args c cc nL own D (TY g)) (Y : fp_H D b n A f s.heap H locs) (o : fp_o b n f a (aI g N z)) (k : Nat) (hi : i = nI k) (hk : k < N) (hN : N < 2 ^ 31) (hdg : decode cc pc = .ok (.iastore, 1))
    (kk : ∀ (H1 : Heap) (locs1 : List Loc), fp_H D b n A (va_up f a (aI g N (upd z k x))) s.heap H1 locs1 → W p l e R s m args below meth c H1 locs1 cells slots Q (F0 m (pc + 1) ls rest)) (hA : fp_W b n A := by assumption) : W p l e R s m args below meth c H locs cells slots Q (F0 m pc ls (.int x :: .int i :: .ref a :: rest)) := by
  subst hi
  refine fp_iast X Y o 0 rfl (vp_in_nI hk hN) hdg (fun H1 locs1 Y1 => ?_)
  rw [nI_clamp (Nat.lt_trans hk hN)] at Y1
  exact kk H1 locs1 Y1
theorem fp_lld {z : Nat → Int64} (X : fp_X p s m args c cc nL own D (TY g)) (Y : fp_H D b n A f s.heap H locs) (o : fp_o b n f a (aL g N z)) (k : Nat) (hi : i = nI k) (hk : k < N) (hN : N < 2 ^ 31) (hdg : decode cc pc = .ok (.laload, 1))
    (kk : W p l e R s m args below meth c H locs cells slots Q (F0 m (pc + 1) ls (.long (z k) :: rest))) : W p l e R s m args below meth c H locs cells slots Q (F0 m pc ls (.int i :: .ref a :: rest)) := by
  subst hi
  refine fp_lald X Y o 5 rfl (vp_in_nI hk hN) hdg ?_
  rw [nI_clamp (Nat.lt_trans hk hN)]
  exact kk
theorem fp_lst {z : Nat → Int64} {x : Int64} (X : fp_X p s m args c cc nL own D (TY g)) (Y : fp_H D b n A f s.heap H locs) (o : fp_o b n f a (aL g N z)) (k : Nat) (hi : i = nI k) (hk : k < N) (hN : N < 2 ^ 31) (hdg : decode cc pc = .ok (.lastore, 1))
    (kk : ∀ (H1 : Heap) (locs1 : List Loc), fp_H D b n A (va_up f a (aL g N (vp_updL z k x))) s.heap H1 locs1 → W p l e R s m args below meth c H1 locs1 cells slots Q (F0 m (pc + 1) ls rest)) (hA : fp_W b n A := by assumption) : W p l e R s m args below meth c H locs cells slots Q (F0 m pc ls (.long x :: .int i :: .ref a :: rest)) := by
  subst hi
  refine fp_last X Y o 5 rfl (vp_in_nI hk hN) hdg (fun H1 locs1 Y1 => ?_)
  rw [nI_clamp (Nat.lt_trans hk hN)] at Y1
  exact kk H1 locs1 Y1
theorem fp_ald {z : Nat → Option Nat} {C : String} {q : Nat} (t0 : Nat) (ht : (TY g)[t0]? = some (g t0, .object C)) (X : fp_X p s m args c cc nL own D (TY g)) (Y : fp_H D b n A f s.heap H locs) (o : fp_o b n f a (aR g t0 N z)) (k : Nat) (hi : i = nI k) (hk : k < N) (hN : N < 2 ^ 31) (hq : z k = some q) (hdg : decode cc pc = .ok (.aaload, 1))
    (kk : W p l e R s m args below meth c H locs cells slots Q (F0 m (pc + 1) ls (.ref q :: rest))) : W p l e R s m args below meth c H locs cells slots Q (F0 m pc ls (.int i :: .ref a :: rest)) := by
  subst hi
  exact fp_aald X Y o t0 ht (vp_in_nI hk hN) (by rw [nI_clamp (Nat.lt_trans hk hN)]; exact hq) hdg kk
theorem fp_ast {z : Nat → Option Nat} {r : vw_C} {v ci : Nat} {vs : List Value} (t0 : Nat) (ht : (TY g)[t0]? = some (g t0, .object r.1)) (X : fp_X p s m args c cc nL own D (TY g)) (Y : fp_H D b n A f s.heap H locs) (o : fp_o b n f a (aR g t0 N z)) (k : Nat) (hi : i = nI k) (hk : k < N) (hN : N < 2 ^ 31) (ov : fp_o b n f v (ob ci vs)) (hc : CL[ci]? = some r) (hdg : decode cc pc = .ok (.aastore, 1))
    (kk : ∀ (H1 : Heap) (locs1 : List Loc), fp_H D b n A (va_up f a (aR g t0 N (va_up z k (some v)))) s.heap H1 locs1 → W p l e R s m args below meth c H1 locs1 cells slots Q (F0 m (pc + 1) ls rest)) (hA : fp_W b n A := by assumption) : W p l e R s m args below meth c H locs cells slots Q (F0 m pc ls (.ref v :: .int i :: .ref a :: rest)) := by
  subst hi
  refine fp_aast X Y o t0 ht ov hc (vp_in_nI hk hN) hdg (fun H1 locs1 Y1 => ?_)
  rw [nI_clamp (Nat.lt_trans hk hN)] at Y1
  exact kk H1 locs1 Y1
theorem fp_alen {x : ClassId × vp_A} {ty : FieldType} (X : fp_X p s m args c cc nL own D (TY g)) (Y : fp_H D b n A f s.heap H locs) (t0 : Nat) (o : fp_o b n f a (.inl x)) (ht : (TY g)[t0]? = some (x.1, ty)) (hdg : decode cc pc = .ok (.arraylength, 1))
    (kk : W p l e R s m args below meth c H locs cells slots Q (F0 m (pc + 1) ls (.int (nI x.2.1) :: rest))) : W p l e R s m args below meth c H locs cells slots Q (F0 m pc ls (.ref a :: rest)) :=
  va_alen X.1.1 X.1.2.1 X.2.1 (fp_oneA Y.1 o) 0 t0 rfl ht rfl hdg kk
end FPA
end
section
/-! Contracts: Key, Fields, Counts, Action: what makes nothing (by wip/gen/k1.py). -/
def q_same (k1 k2 k3 k4 j1 j2 j3 j4 : Int32) : Int32 := if k1 = j1 ∧ k2 = j2 ∧ k3 = j3 ∧ k4 = j4 then 1 else 0
def q_fits (k1 k2 k3 k4 x y : Int32) : Int32 := if x &&& k2 = k1 ∧ y &&& k4 = k3 then 1 else 0
/-- whether a number is one of the first k -/
def q_in (x k : Int32) : Int32 := if x < 0 ∨ k ≤ x then 0 else 1
def q_full (N k : Int32) : Int32 := if k < N then 0 else 1
theorem q_in_of {x : Int32} {k : Nat} (hk : k < 2 ^ 31) (h : ¬ q_in x (nI k) = 0) : ∃ j : Nat, j < k ∧ x = nI j := by
  rcases pk_ix x hk with h1 | h1 | h1
  · exact absurd (by simp [q_in, h1]) h
  · exact absurd (by simp [q_in, h1]) h
  · exact h1
theorem q_in_lt {j k : Nat} (h : j < k) (hk : k < 2 ^ 31) : q_in (nI j) (nI k) = 1 := by
  have h1 : ¬ nI j < 0 := nI_pos (by omega)
  have h2 : ¬ nI k ≤ nI j := nI_ge h hk
  simp [q_in, h1, h2]
theorem q_full_lt {k N : Nat} (h : k < N) (hN : N < 2 ^ 31) : q_full (nI N) (nI k) = 0 := by
  have h1 : nI k < nI N := nI_lt h hN
  simp [q_full, h1]
/-- what the place x of a row of k holds, 0 for none such -/
def q_at (z : Nat → Int32) (x k : Int32) : Int32 := if q_in x k = 0 then 0 else z x.toNatClampNeg
def q_wr (z1 z2 : Nat → Int32) (x k w : Int32) : Nat → Int32 := if q_in x k = 0 then z2 else upd z2 x.toNatClampNeg (w &&& z1 x.toNatClampNeg)
def q_isw (x i : Int32) : Int32 := if q_in x 4 = 0 then 0 else if i < 0 ∨ 16 ≤ i then 0 else 1
def q_cr (z : Nat → Int32) (x i : Int32) : Int32 := if q_isw x i = 0 then 0 else z (x * 16 + i).toNatClampNeg
def q_cg (z : Nat → Int32) (x i y : Int32) : Nat → Int32 := if q_isw x i = 0 then z else upd z (x * 16 + i).toNatClampNeg (z (x * 16 + i).toNatClampNeg + y)
theorem q_isw_of {x i : Int32} (h : ¬ q_isw x i = 0) : ∃ p r : Nat, p < 4 ∧ r < 16 ∧ x = nI p ∧ i = nI r ∧ x * 16 + i = nI (p * 16 + r) ∧ (x * 16 + i).toNatClampNeg = p * 16 + r := by
  unfold q_isw at h
  by_cases h1 : q_in x 4 = 0
  · rw [if_pos h1] at h; exact absurd rfl h
  · rw [if_neg h1] at h
    obtain ⟨p, hp, rfl⟩ := q_in_of (k := 4) (by decide) h1
    have h2 : ¬ q_in i (nI 16) = 0 := fun q => h (by unfold q_in at q; exact q)
    obtain ⟨r, hr, rfl⟩ := q_in_of (k := 16) (by decide) h2
    have e : nI p * 16 + nI r = nI (p * 16 + r) := by
      rw [show (16 : Int32) = nI 16 from rfl, pk_mul, nI_add]
    exact ⟨p, r, hp, hr, rfl, rfl, e, by rw [e, nI_clamp (by omega)]⟩
set_option maxHeartbeats 4000000 in
set_option maxRecDepth 100000 in
theorem c_K_hold {l : Launch} {D : va_G} {g : Nat → ClassId} {b n : Nat} {A : Nat → Prop} {f : Nat → va_E} {a : Nat} {k1 k2 k3 k4 : Int32} (x1 x2 x3 x4 : Int32) (oa : fp_o b n f a (ob 5 [.int k1, .int k2, .int k3, .int k4]))  (hA : fp_W b n A := by assumption) : fp_M l D (TY g) b n A y_K_hold (fp_ws y_K_hold b_K_hold 5 none) (rmD 0) [.ref a, .int x1, .int x2, .int x3, .int x4] f (fun v f' => v = none ∧ f' = va_up f a (ob 5 [.int x1, .int x2, .int x3, .int x4])) := by
  refine fp_ofV (plainFor_of_name (by decide)) (Nat.le_of_ble_eq_true rfl) ?_
  intro p e s m args below meth c Q ls H locs X Y hl ret
  have hx := X.1.1
  have hb := X.1.2.1
  have hl : lv_has ls 5 [(0, .ref a), (1, .int x1), (2, .int x2), (3, .int x3), (4, .int x4)] := hl
  refine lv_aload_n hx hb d_K_hold_0 rfl (lv_at hl 0 rfl) ?_
  refine lv_iload_n hx hb d_K_hold_1 rfl (lv_at hl 1 rfl) ?_
  refine fp_put X Y oa rfl in_K to_K nm_K 0 (by decide) w64 rfl rfl rfl (Nat.le_of_ble_eq_true rfl) d_K_hold_2 (fun H locs Y => ?_)
  have Y : fp_H D b n A (va_up f a (ob 5 [.int x1, .int k2, .int k3, .int k4])) s.heap H locs := Y
  have oa : fp_o b n (va_up f a (ob 5 [.int x1, .int k2, .int k3, .int k4])) a (ob 5 [.int x1, .int k2, .int k3, .int k4]) := fp_o.up oa
  refine lv_aload_n hx hb d_K_hold_5 rfl (lv_at hl 0 rfl) ?_
  refine lv_iload_n hx hb d_K_hold_6 rfl (lv_at hl 2 rfl) ?_
  refine fp_put X Y oa rfl in_K to_K nm_K 1 (by decide) w66 rfl rfl rfl (Nat.le_of_ble_eq_true rfl) d_K_hold_7 (fun H locs Y => ?_)
  have Y := Y.re
  have Y : fp_H D b n A (va_up f a (ob 5 [.int x1, .int x2, .int k3, .int k4])) s.heap H locs := Y
  have oa : fp_o b n (va_up f a (ob 5 [.int x1, .int x2, .int k3, .int k4])) a (ob 5 [.int x1, .int x2, .int k3, .int k4]) := fp_o.rs oa
  refine lv_aload_n hx hb d_K_hold_10 rfl (lv_at hl 0 rfl) ?_
  refine lv_iload_n hx hb d_K_hold_11 rfl (lv_at hl 3 rfl) ?_
  refine fp_put X Y oa rfl in_K to_K nm_K 2 (by decide) w68 rfl rfl rfl (Nat.le_of_ble_eq_true rfl) d_K_hold_12 (fun H locs Y => ?_)
  have Y := Y.re
  have Y : fp_H D b n A (va_up f a (ob 5 [.int x1, .int x2, .int x3, .int k4])) s.heap H locs := Y
  have oa : fp_o b n (va_up f a (ob 5 [.int x1, .int x2, .int x3, .int k4])) a (ob 5 [.int x1, .int x2, .int x3, .int k4]) := fp_o.rs oa
  refine lv_aload_n hx hb d_K_hold_15 rfl (lv_at hl 0 rfl) ?_
  refine lv_iload hx hb d_K_hold_16 (lv_at hl 4 rfl) ?_
  refine fp_put X Y oa rfl in_K to_K nm_K 3 (by decide) w70 rfl rfl rfl (Nat.le_of_ble_eq_true rfl) d_K_hold_18 (fun H locs Y => ?_)
  have Y := Y.re
  have Y : fp_H D b n A (va_up f a (ob 5 [.int x1, .int x2, .int x3, .int x4])) s.heap H locs := Y
  have oa : fp_o b n (va_up f a (ob 5 [.int x1, .int x2, .int x3, .int x4])) a (ob 5 [.int x1, .int x2, .int x3, .int x4]) := fp_o.rs oa
  exact ret _ _ _ _ _ d_K_hold_21 ⟨rfl, rfl⟩ Y
set_option maxHeartbeats 4000000 in
set_option maxRecDepth 100000 in
theorem c_K_isSameAs {l : Launch} {D : va_G} {g : Nat → ClassId} {b n : Nat} {A : Nat → Prop} {f : Nat → va_E} {a a2 : Nat} {k1 k2 k3 k4 j1 j2 j3 j4 : Int32} (oa : fp_o b n f a (ob 5 [.int k1, .int k2, .int k3, .int k4])) (oj : fp_o b n f a2 (ob 5 [.int j1, .int j2, .int j3, .int j4]))  : fp_M l D (TY g) b n A y_K_isSameAs (fp_ws y_K_isSameAs b_K_isSameAs 2 (some FieldType.boolean)) (rmD 0) [.ref a, .ref a2] f (fun v f' => v = some (.int (q_same k1 k2 k3 k4 j1 j2 j3 j4)) ∧ f' = f) := by
  refine fp_ofI (plainFor_of_name (by decide)) (Nat.le_of_ble_eq_true rfl) ?_
  intro p e s m args below meth c Q ls H locs X Y hl ret
  have hx := X.1.1
  have hb := X.1.2.1
  have hl : lv_has ls 2 [(0, .ref a), (1, .ref a2)] := hl
  refine lv_aload_n hx hb d_K_isSameAs_0 rfl (lv_at hl 0 rfl) ?_
  refine fp_get X Y oa rfl in_K 0 (by decide) w64 rfl d_K_isSameAs_1 ?_
  refine lv_aload_n hx hb d_K_isSameAs_4 rfl (lv_at hl 1 rfl) ?_
  refine fp_get X Y oj rfl in_K 0 (by decide) w64 rfl d_K_isSameAs_5 ?_
  refine lv_icmp_ne (tgt := 48) hx hb d_K_isSameAs_8 (by decide) (fun c_8 => ?_) (fun c_8 => ?_)
  · refine lv_iconst (v := 0) hx hb d_K_isSameAs_48 (by decide) ?_
    exact ret _ _ _ _ _ _ d_K_isSameAs_49 ⟨_, rfl, rfl⟩ ⟨by simp [q_same, c_8], rfl⟩ Y
  · refine lv_aload_n hx hb d_K_isSameAs_11 rfl (lv_at hl 0 rfl) ?_
    refine fp_get X Y oa rfl in_K 1 (by decide) w66 rfl d_K_isSameAs_12 ?_
    refine lv_aload_n hx hb d_K_isSameAs_15 rfl (lv_at hl 1 rfl) ?_
    refine fp_get X Y oj rfl in_K 1 (by decide) w66 rfl d_K_isSameAs_16 ?_
    refine lv_icmp_ne (tgt := 48) hx hb d_K_isSameAs_19 (by decide) (fun c_19 => ?_) (fun c_19 => ?_)
    · refine lv_iconst (v := 0) hx hb d_K_isSameAs_48 (by decide) ?_
      exact ret _ _ _ _ _ _ d_K_isSameAs_49 ⟨_, rfl, rfl⟩ ⟨by simp [q_same, c_8, c_19], rfl⟩ Y
    · refine lv_aload_n hx hb d_K_isSameAs_22 rfl (lv_at hl 0 rfl) ?_
      refine fp_get X Y oa rfl in_K 2 (by decide) w68 rfl d_K_isSameAs_23 ?_
      refine lv_aload_n hx hb d_K_isSameAs_26 rfl (lv_at hl 1 rfl) ?_
      refine fp_get X Y oj rfl in_K 2 (by decide) w68 rfl d_K_isSameAs_27 ?_
      refine lv_icmp_ne (tgt := 48) hx hb d_K_isSameAs_30 (by decide) (fun c_30 => ?_) (fun c_30 => ?_)
      · refine lv_iconst (v := 0) hx hb d_K_isSameAs_48 (by decide) ?_
        exact ret _ _ _ _ _ _ d_K_isSameAs_49 ⟨_, rfl, rfl⟩ ⟨by simp [q_same, c_8, c_19, c_30], rfl⟩ Y
      · refine lv_aload_n hx hb d_K_isSameAs_33 rfl (lv_at hl 0 rfl) ?_
        refine fp_get X Y oa rfl in_K 3 (by decide) w70 rfl d_K_isSameAs_34 ?_
        refine lv_aload_n hx hb d_K_isSameAs_37 rfl (lv_at hl 1 rfl) ?_
        refine fp_get X Y oj rfl in_K 3 (by decide) w70 rfl d_K_isSameAs_38 ?_
        refine lv_icmp_ne (tgt := 48) hx hb d_K_isSameAs_41 (by decide) (fun c_41 => ?_) (fun c_41 => ?_)
        · refine lv_iconst (v := 0) hx hb d_K_isSameAs_48 (by decide) ?_
          exact ret _ _ _ _ _ _ d_K_isSameAs_49 ⟨_, rfl, rfl⟩ ⟨by simp [q_same, c_8, c_19, c_30, c_41], rfl⟩ Y
        · refine lv_iconst (v := 1) hx hb d_K_isSameAs_44 (by decide) ?_
          refine lv_goto (tgt := 49) hx hb d_K_isSameAs_45 (by decide) ?_
          exact ret _ _ _ _ _ _ d_K_isSameAs_49 ⟨_, rfl, rfl⟩ ⟨by simp [q_same, c_8, c_19, c_30, c_41], rfl⟩ Y
set_option maxHeartbeats 4000000 in
set_option maxRecDepth 100000 in
theorem c_K_fits {l : Launch} {D : va_G} {g : Nat → ClassId} {b n : Nat} {A : Nat → Prop} {f : Nat → va_E} {a : Nat} {k1 k2 k3 k4 : Int32} (x y : Int32) (oa : fp_o b n f a (ob 5 [.int k1, .int k2, .int k3, .int k4]))  : fp_M l D (TY g) b n A y_K_fits (fp_ws y_K_fits b_K_fits 3 (some FieldType.boolean)) (rmD 0) [.ref a, .int x, .int y] f (fun v f' => v = some (.int (q_fits k1 k2 k3 k4 x y)) ∧ f' = f) := by
  refine fp_ofI (plainFor_of_name (by decide)) (Nat.le_of_ble_eq_true rfl) ?_
  intro p e s m args below meth c Q ls H locs X Y hl ret
  have hx := X.1.1
  have hb := X.1.2.1
  have hl : lv_has ls 3 [(0, .ref a), (1, .int x), (2, .int y)] := hl
  refine lv_iload_n hx hb d_K_fits_0 rfl (lv_at hl 1 rfl) ?_
  refine lv_aload_n hx hb d_K_fits_1 rfl (lv_at hl 0 rfl) ?_
  refine fp_get X Y oa rfl in_K 1 (by decide) w66 rfl d_K_fits_2 ?_
  refine lv_iand hx hb d_K_fits_5 ?_
  refine lv_aload_n hx hb d_K_fits_6 rfl (lv_at hl 0 rfl) ?_
  refine fp_get X Y oa rfl in_K 0 (by decide) w64 rfl d_K_fits_7 ?_
  refine lv_icmp_ne (tgt := 30) hx hb d_K_fits_10 (by decide) (fun c_10 => ?_) (fun c_10 => ?_)
  · refine lv_iconst (v := 0) hx hb d_K_fits_30 (by decide) ?_
    exact ret _ _ _ _ _ _ d_K_fits_31 ⟨_, rfl, rfl⟩ ⟨by simp [q_fits, c_10], rfl⟩ Y
  · refine lv_iload_n hx hb d_K_fits_13 rfl (lv_at hl 2 rfl) ?_
    refine lv_aload_n hx hb d_K_fits_14 rfl (lv_at hl 0 rfl) ?_
    refine fp_get X Y oa rfl in_K 3 (by decide) w70 rfl d_K_fits_15 ?_
    refine lv_iand hx hb d_K_fits_18 ?_
    refine lv_aload_n hx hb d_K_fits_19 rfl (lv_at hl 0 rfl) ?_
    refine fp_get X Y oa rfl in_K 2 (by decide) w68 rfl d_K_fits_20 ?_
    refine lv_icmp_ne (tgt := 30) hx hb d_K_fits_23 (by decide) (fun c_23 => ?_) (fun c_23 => ?_)
    · refine lv_iconst (v := 0) hx hb d_K_fits_30 (by decide) ?_
      exact ret _ _ _ _ _ _ d_K_fits_31 ⟨_, rfl, rfl⟩ ⟨by simp [q_fits, c_10, c_23], rfl⟩ Y
    · refine lv_iconst (v := 1) hx hb d_K_fits_26 (by decide) ?_
      refine lv_goto (tgt := 31) hx hb d_K_fits_27 (by decide) ?_
      exact ret _ _ _ _ _ _ d_K_fits_31 ⟨_, rfl, rfl⟩ ⟨by simp [q_fits, c_10, c_23], rfl⟩ Y
set_option maxHeartbeats 4000000 in
set_option maxRecDepth 100000 in
theorem c_F_forget {l : Launch} {D : va_G} {g : Nat → ClassId} {b n : Nat} {A : Nat → Prop} {f : Nat → va_E} {a q1 q2 : Nat} {k : Int32} (oa : fp_o b n f a (ob 4 [.ref q1, .ref q2, .int k]))  (hA : fp_W b n A := by assumption) : fp_M l D (TY g) b n A y_F_forget (fp_ws y_F_forget b_F_forget 1 none) (rmD 0) [.ref a] f (fun v f' => v = none ∧ f' = va_up f a (ob 4 [.ref q1, .ref q2, .int 0])) := by
  refine fp_ofV (plainFor_of_name (by decide)) (Nat.le_of_ble_eq_true rfl) ?_
  intro p e s m args below meth c Q ls H locs X Y hl ret
  have hx := X.1.1
  have hb := X.1.2.1
  have hl : lv_has ls 1 [(0, .ref a)] := hl
  refine lv_aload_n hx hb d_F_forget_0 rfl (lv_at hl 0 rfl) ?_
  refine lv_iconst (v := 0) hx hb d_F_forget_1 (by decide) ?_
  refine fp_put X Y oa rfl in_F to_F nm_F 2 (by decide) w35 rfl rfl rfl (Nat.le_of_ble_eq_true rfl) d_F_forget_2 (fun H locs Y => ?_)
  have Y : fp_H D b n A (va_up f a (ob 4 [.ref q1, .ref q2, .int 0])) s.heap H locs := Y
  have oa : fp_o b n (va_up f a (ob 4 [.ref q1, .ref q2, .int 0])) a (ob 4 [.ref q1, .ref q2, .int 0]) := fp_o.up oa
  exact ret _ _ _ _ _ d_F_forget_5 ⟨rfl, rfl⟩ Y
set_option maxHeartbeats 4000000 in
set_option maxRecDepth 100000 in
theorem c_F_isFull {l : Launch} {D : va_G} {g : Nat → ClassId} {b n : Nat} {A : Nat → Prop} {f : Nat → va_E} {a q1 q2 : Nat} {k : Int32} (oa : fp_o b n f a (ob 4 [.ref q1, .ref q2, .int k]))  : fp_M l D (TY g) b n A y_F_isFull (fp_ws y_F_isFull b_F_isFull 1 (some FieldType.boolean)) (rmD 0) [.ref a] f (fun v f' => v = some (.int (q_full 16 k)) ∧ f' = f) := by
  refine fp_ofI (plainFor_of_name (by decide)) (Nat.le_of_ble_eq_true rfl) ?_
  intro p e s m args below meth c Q ls H locs X Y hl ret
  have hx := X.1.1
  have hb := X.1.2.1
  have hl : lv_has ls 1 [(0, .ref a)] := hl
  refine lv_aload_n hx hb d_F_isFull_0 rfl (lv_at hl 0 rfl) ?_
  refine fp_get X Y oa rfl in_F 2 (by decide) w35 rfl d_F_isFull_1 ?_
  refine lv_bipush (v := 16) hx hb d_F_isFull_4 (by decide) ?_
  refine lv_icmp_lt (tgt := 13) hx hb d_F_isFull_6 (by decide) (fun c_6 => ?_) (fun c_6 => ?_)
  · refine lv_iconst (v := 0) hx hb d_F_isFull_13 (by decide) ?_
    exact ret _ _ _ _ _ _ d_F_isFull_14 ⟨_, rfl, rfl⟩ ⟨by simp [q_full, c_6], rfl⟩ Y
  · refine lv_iconst (v := 1) hx hb d_F_isFull_9 (by decide) ?_
    refine lv_goto (tgt := 14) hx hb d_F_isFull_10 (by decide) ?_
    exact ret _ _ _ _ _ _ d_F_isFull_14 ⟨_, rfl, rfl⟩ ⟨by simp [q_full, c_6], rfl⟩ Y
set_option maxHeartbeats 4000000 in
set_option maxRecDepth 100000 in
theorem c_F_isThere {l : Launch} {D : va_G} {g : Nat → ClassId} {b n : Nat} {A : Nat → Prop} {f : Nat → va_E} {a q1 q2 : Nat} {k : Int32} (x : Int32) (oa : fp_o b n f a (ob 4 [.ref q1, .ref q2, .int k]))  : fp_M l D (TY g) b n A y_F_isThere (fp_ws y_F_isThere b_F_isThere 2 (some FieldType.boolean)) (rmD 0) [.ref a, .int x] f (fun v f' => v = some (.int (q_in x k)) ∧ f' = f) := by
  refine fp_ofI (plainFor_of_name (by decide)) (Nat.le_of_ble_eq_true rfl) ?_
  intro p e s m args below meth c Q ls H locs X Y hl ret
  have hx := X.1.1
  have hb := X.1.2.1
  have hl : lv_has ls 2 [(0, .ref a), (1, .int x)] := hl
  refine lv_iload_n hx hb d_F_isThere_0 rfl (lv_at hl 1 rfl) ?_
  refine lv_if_lt (tgt := 16) hx hb d_F_isThere_1 (by decide) (fun c_1 => ?_) (fun c_1 => ?_)
  · refine lv_iconst (v := 0) hx hb d_F_isThere_16 (by decide) ?_
    exact ret _ _ _ _ _ _ d_F_isThere_17 ⟨_, rfl, rfl⟩ ⟨by simp [q_in, c_1], rfl⟩ Y
  · refine lv_iload_n hx hb d_F_isThere_4 rfl (lv_at hl 1 rfl) ?_
    refine lv_aload_n hx hb d_F_isThere_5 rfl (lv_at hl 0 rfl) ?_
    refine fp_get X Y oa rfl in_F 2 (by decide) w35 rfl d_F_isThere_6 ?_
    refine lv_icmp_ge (tgt := 16) hx hb d_F_isThere_9 (by decide) (fun c_9 => ?_) (fun c_9 => ?_)
    · refine lv_iconst (v := 0) hx hb d_F_isThere_16 (by decide) ?_
      exact ret _ _ _ _ _ _ d_F_isThere_17 ⟨_, rfl, rfl⟩ ⟨by simp [q_in, c_1, c_9], rfl⟩ Y
    · refine lv_iconst (v := 1) hx hb d_F_isThere_12 (by decide) ?_
      refine lv_goto (tgt := 17) hx hb d_F_isThere_13 (by decide) ?_
      exact ret _ _ _ _ _ _ d_F_isThere_17 ⟨_, rfl, rfl⟩ ⟨by simp [q_in, c_1, c_9], rfl⟩ Y
/-- all ones of a width, as Fields has them -/
def q_on (x : Int32) : Int32 := ((-1 : Int32).toUInt32 >>> ((32 - x).toUInt32 &&& Int32.toUInt32 31)).toInt32
set_option maxHeartbeats 4000000 in
set_option maxRecDepth 100000 in
theorem c_F_add {l : Launch} {D : va_G} {g : Nat → ClassId} {b n : Nat} {A : Nat → Prop} {f : Nat → va_E} {a q1 q2 : Nat} {z1 z2 : Nat → Int32} {k : Nat} (x : Int32) (hk : k < 16) (oa : fp_o b n f a (ob 4 [.ref q1, .ref q2, .int (nI k)])) (o1 : fp_o b n f q1 (aI g 16 z1)) (o2 : fp_o b n f q2 (aI g 16 z2)) (hne : q1 ≠ q2) (hA : fp_W b n A := by assumption) : fp_M l D (TY g) b n A y_F_add (fp_ws y_F_add b_F_add 3 (some FieldType.int)) (rmD 1) [.ref a, .int x] f (fun v f' => v = some (.int (nI k)) ∧ f' = va_up (va_up (va_up f q1 (aI g 16 (upd z1 k (q_on x)))) q2 (aI g 16 (upd z2 k 0))) a (ob 4 [.ref q1, .ref q2, .int (nI (k + 1))])) := by
  refine fp_ofI (plainFor_of_name (by decide)) (Nat.le_of_ble_eq_true rfl) ?_
  intro p e s m args below meth c Q ls H locs X Y hl ret
  have hx := X.1.1
  have hb := X.1.2.1
  have hl : lv_has ls 3 [(0, .ref a), (1, .int x)] := hl
  refine lv_aload_n hx hb d_F_add_0 rfl (lv_at hl 0 rfl) ?_
  refine fp_callV (nA := 0) (As := []) (rest := []) X Y (c_F_isFull oa) oa rfl w391 w412 w389 w390 w2 (by decide +kernel) ⟨rfl, rfl⟩ ⟨Nat.le_of_ble_eq_true rfl, Nat.le_of_ble_eq_true rfl⟩ rfl hl.1 rfl (Nat.le_of_ble_eq_true rfl) d_F_add_1 ⟨Nat.zero_le _, Nat.zero_le _⟩ (fun v9 f9 H locs hp9 Y => ?_)
  obtain ⟨e8, e9⟩ := hp9
  subst e8
  rw [e9] at Y
  refine W.eq (g2 := F0 m 4 ls [.int (q_full 16 (nI k))]) rfl ?_
  refine lv_if_eq (tgt := 9) hx hb d_F_add_4 (by decide) (fun c_4 => ?_) (fun c_4 => absurd (q_full_lt hk (by decide)) c_4)
  refine lv_aload_n hx hb d_F_add_9 rfl (lv_at hl 0 rfl) ?_
  refine fp_get X Y oa rfl in_F 2 (by decide) w35 rfl d_F_add_10 ?_
  refine lv_istore_n (lv' := [(2, .int (nI k)), (0, .ref a), (1, .int x)]) hx hb d_F_add_13 rfl hl (by decide) rfl (fun ls hl => ?_)
  refine lv_aload_n hx hb d_F_add_14 rfl (lv_at hl 1 rfl) ?_
  refine fp_get X Y oa rfl in_F 0 (by decide) w33 rfl d_F_add_15 ?_
  refine lv_iload_n hx hb d_F_add_18 rfl (lv_at hl 0 rfl) ?_
  refine lv_iconst (v := -1) hx hb d_F_add_19 (by decide) ?_
  refine lv_bipush (v := 32) hx hb d_F_add_20 (by decide) ?_
  refine lv_iload_n hx hb d_F_add_22 rfl (lv_at hl 2 rfl) ?_
  refine lv_isub hx hb d_F_add_23 ?_
  refine lv_iushr hx hb d_F_add_24 rfl ?_
  refine fp_ist X Y o1 k rfl hk (by decide) d_F_add_25 (fun H locs Y => ?_)
  have ne_1 : a ≠ q1 := (fp_o.nf oa o1 (by simp))
  have ne_2 : q2 ≠ q1 := (Ne.symm hne)
  have Y : fp_H D b n A (va_up f q1 (aI g 16 (upd z1 k ((((-1) : Int32).toUInt32 >>> ((32 - x).toUInt32 &&& Int32.toUInt32 31)).toInt32)))) s.heap H locs := Y
  have oa : fp_o b n (va_up f q1 (aI g 16 (upd z1 k ((((-1) : Int32).toUInt32 >>> ((32 - x).toUInt32 &&& Int32.toUInt32 31)).toInt32)))) a (ob 4 [.ref q1, .ref q2, .int (nI k)]) := fp_o.ne oa ne_1
  have o2 : fp_o b n (va_up f q1 (aI g 16 (upd z1 k ((((-1) : Int32).toUInt32 >>> ((32 - x).toUInt32 &&& Int32.toUInt32 31)).toInt32)))) q2 (aI g 16 z2) := fp_o.ne o2 ne_2
  have o1 : fp_o b n (va_up f q1 (aI g 16 (upd z1 k ((((-1) : Int32).toUInt32 >>> ((32 - x).toUInt32 &&& Int32.toUInt32 31)).toInt32)))) q1 (aI g 16 (upd z1 k ((((-1) : Int32).toUInt32 >>> ((32 - x).toUInt32 &&& Int32.toUInt32 31)).toInt32))) := fp_o.up o1
  refine lv_aload_n hx hb d_F_add_26 rfl (lv_at hl 1 rfl) ?_
  refine fp_get X Y oa rfl in_F 1 (by decide) w34 rfl d_F_add_27 ?_
  refine lv_iload_n hx hb d_F_add_30 rfl (lv_at hl 0 rfl) ?_
  refine lv_iconst (v := 0) hx hb d_F_add_31 (by decide) ?_
  refine fp_ist X Y o2 k rfl hk (by decide) d_F_add_32 (fun H locs Y => ?_)
  have ne_3 : a ≠ q2 := (fp_o.nf oa o2 (by simp))
  have ne_4 : q1 ≠ q2 := hne
  have Y : fp_H D b n A (va_up (va_up f q1 (aI g 16 (upd z1 k ((((-1) : Int32).toUInt32 >>> ((32 - x).toUInt32 &&& Int32.toUInt32 31)).toInt32)))) q2 (aI g 16 (upd z2 k 0))) s.heap H locs := Y
  have oa : fp_o b n (va_up (va_up f q1 (aI g 16 (upd z1 k ((((-1) : Int32).toUInt32 >>> ((32 - x).toUInt32 &&& Int32.toUInt32 31)).toInt32)))) q2 (aI g 16 (upd z2 k 0))) a (ob 4 [.ref q1, .ref q2, .int (nI k)]) := fp_o.ne oa ne_3
  have o1 : fp_o b n (va_up (va_up f q1 (aI g 16 (upd z1 k ((((-1) : Int32).toUInt32 >>> ((32 - x).toUInt32 &&& Int32.toUInt32 31)).toInt32)))) q2 (aI g 16 (upd z2 k 0))) q1 (aI g 16 (upd z1 k ((((-1) : Int32).toUInt32 >>> ((32 - x).toUInt32 &&& Int32.toUInt32 31)).toInt32))) := fp_o.ne o1 ne_4
  have o2 : fp_o b n (va_up (va_up f q1 (aI g 16 (upd z1 k ((((-1) : Int32).toUInt32 >>> ((32 - x).toUInt32 &&& Int32.toUInt32 31)).toInt32)))) q2 (aI g 16 (upd z2 k 0))) q2 (aI g 16 (upd z2 k 0)) := fp_o.up o2
  refine lv_aload_n hx hb d_F_add_33 rfl (lv_at hl 1 rfl) ?_
  refine lv_dup hx hb d_F_add_34 rfl ?_
  refine fp_get X Y oa rfl in_F 2 (by decide) w35 rfl d_F_add_35 ?_
  refine lv_iconst (v := 1) hx hb d_F_add_38 (by decide) ?_
  refine lv_iadd hx hb d_F_add_39 ?_
  refine fp_put X Y oa rfl in_F to_F nm_F 2 (by decide) w35 rfl rfl rfl (Nat.le_of_ble_eq_true rfl) d_F_add_40 (fun H locs Y => ?_)
  have ne_5 : q1 ≠ a := (fp_o.nf o1 oa (by simp))
  have ne_6 : q2 ≠ a := (fp_o.nf o2 oa (by simp))
  have Y : fp_H D b n A (va_up (va_up (va_up f q1 (aI g 16 (upd z1 k ((((-1) : Int32).toUInt32 >>> ((32 - x).toUInt32 &&& Int32.toUInt32 31)).toInt32)))) q2 (aI g 16 (upd z2 k 0))) a (ob 4 [.ref q1, .ref q2, .int ((nI k) + 1)])) s.heap H locs := Y
  have o1 : fp_o b n (va_up (va_up (va_up f q1 (aI g 16 (upd z1 k ((((-1) : Int32).toUInt32 >>> ((32 - x).toUInt32 &&& Int32.toUInt32 31)).toInt32)))) q2 (aI g 16 (upd z2 k 0))) a (ob 4 [.ref q1, .ref q2, .int ((nI k) + 1)])) q1 (aI g 16 (upd z1 k ((((-1) : Int32).toUInt32 >>> ((32 - x).toUInt32 &&& Int32.toUInt32 31)).toInt32))) := fp_o.ne o1 ne_5
  have o2 : fp_o b n (va_up (va_up (va_up f q1 (aI g 16 (upd z1 k ((((-1) : Int32).toUInt32 >>> ((32 - x).toUInt32 &&& Int32.toUInt32 31)).toInt32)))) q2 (aI g 16 (upd z2 k 0))) a (ob 4 [.ref q1, .ref q2, .int ((nI k) + 1)])) q2 (aI g 16 (upd z2 k 0)) := fp_o.ne o2 ne_6
  have oa : fp_o b n (va_up (va_up (va_up f q1 (aI g 16 (upd z1 k ((((-1) : Int32).toUInt32 >>> ((32 - x).toUInt32 &&& Int32.toUInt32 31)).toInt32)))) q2 (aI g 16 (upd z2 k 0))) a (ob 4 [.ref q1, .ref q2, .int ((nI k) + 1)])) a (ob 4 [.ref q1, .ref q2, .int ((nI k) + 1)]) := fp_o.up oa
  refine lv_iload_n hx hb d_F_add_43 rfl (lv_at hl 0 rfl) ?_
  exact ret _ _ _ _ _ _ d_F_add_44 ⟨_, rfl, rfl⟩ ⟨rfl, by rw [← nI_1]; rfl⟩ Y
set_option maxHeartbeats 4000000 in
set_option maxRecDepth 100000 in
theorem c_F_read {l : Launch} {D : va_G} {g : Nat → ClassId} {b n : Nat} {A : Nat → Prop} {f : Nat → va_E} {a q1 q2 : Nat} {z1 z2 : Nat → Int32} {k : Nat} (x : Int32) (hk : k ≤ 16) (oa : fp_o b n f a (ob 4 [.ref q1, .ref q2, .int (nI k)])) (o1 : fp_o b n f q1 (aI g 16 z1)) (o2 : fp_o b n f q2 (aI g 16 z2))  : fp_M l D (TY g) b n A y_F_read (fp_ws y_F_read b_F_read 2 (some FieldType.int)) (rmD 1) [.ref a, .int x] f (fun v f' => v = some (.int (q_at z2 x (nI k))) ∧ f' = f) := by
  refine fp_ofI (plainFor_of_name (by decide)) (Nat.le_of_ble_eq_true rfl) ?_
  intro p e s m args below meth c Q ls H locs X Y hl ret
  have hx := X.1.1
  have hb := X.1.2.1
  have hl : lv_has ls 2 [(0, .ref a), (1, .int x)] := hl
  refine lv_aload_n hx hb d_F_read_0 rfl (lv_at hl 0 rfl) ?_
  refine lv_iload_n hx hb d_F_read_1 rfl (lv_at hl 1 rfl) ?_
  refine fp_callV (nA := 1) (As := [.int x]) (rest := []) X Y (c_F_isThere x oa) oa rfl w249 w246 w247 w248 w2 (by decide +kernel) ⟨rfl, rfl⟩ ⟨Nat.le_of_ble_eq_true rfl, Nat.le_of_ble_eq_true rfl⟩ rfl hl.1 rfl (Nat.le_of_ble_eq_true rfl) d_F_read_2 ⟨Nat.zero_le _, Nat.zero_le _⟩ (fun v9 f9 H locs hp9 Y => ?_)
  obtain ⟨e8, e9⟩ := hp9
  subst e8
  rw [e9] at Y
  refine W.eq (g2 := F0 m 5 ls [.int (q_in x (nI k))]) rfl ?_
  refine lv_if_eq (tgt := 17) hx hb d_F_read_5 (by decide) (fun c_5 => ?_) (fun c_5 => ?_)
  · refine lv_iconst (v := 0) hx hb d_F_read_17 (by decide) ?_
    exact ret _ _ _ _ _ _ d_F_read_18 ⟨_, rfl, rfl⟩ ⟨by simp [q_at, c_5], rfl⟩ Y
  · obtain ⟨j, hj, ej⟩ := q_in_of (by omega) c_5
    refine lv_aload_n hx hb d_F_read_8 rfl (lv_at hl 0 rfl) ?_
    refine fp_get X Y oa rfl in_F 1 (by decide) w34 rfl d_F_read_9 ?_
    refine lv_iload_n hx hb d_F_read_12 rfl (lv_at hl 1 rfl) ?_
    refine fp_ild X Y o2 j ej (by omega) (by decide) d_F_read_13 ?_
    refine lv_goto (tgt := 18) hx hb d_F_read_14 (by decide) ?_
    exact ret _ _ _ _ _ _ d_F_read_18 ⟨_, rfl, rfl⟩ ⟨by rw [q_at, if_neg c_5, ej, nI_clamp (by omega)], rfl⟩ Y
set_option maxHeartbeats 4000000 in
set_option maxRecDepth 100000 in
theorem c_F_onesOf {l : Launch} {D : va_G} {g : Nat → ClassId} {b n : Nat} {A : Nat → Prop} {f : Nat → va_E} {a q1 q2 : Nat} {z1 z2 : Nat → Int32} {k : Nat} (x : Int32) (hk : k ≤ 16) (oa : fp_o b n f a (ob 4 [.ref q1, .ref q2, .int (nI k)])) (o1 : fp_o b n f q1 (aI g 16 z1)) (o2 : fp_o b n f q2 (aI g 16 z2))  : fp_M l D (TY g) b n A y_F_onesOf (fp_ws y_F_onesOf b_F_onesOf 2 (some FieldType.int)) (rmD 1) [.ref a, .int x] f (fun v f' => v = some (.int (q_at z1 x (nI k))) ∧ f' = f) := by
  refine fp_ofI (plainFor_of_name (by decide)) (Nat.le_of_ble_eq_true rfl) ?_
  intro p e s m args below meth c Q ls H locs X Y hl ret
  have hx := X.1.1
  have hb := X.1.2.1
  have hl : lv_has ls 2 [(0, .ref a), (1, .int x)] := hl
  refine lv_aload_n hx hb d_F_onesOf_0 rfl (lv_at hl 0 rfl) ?_
  refine lv_iload_n hx hb d_F_onesOf_1 rfl (lv_at hl 1 rfl) ?_
  refine fp_callV (nA := 1) (As := [.int x]) (rest := []) X Y (c_F_isThere x oa) oa rfl w249 w246 w247 w248 w2 (by decide +kernel) ⟨rfl, rfl⟩ ⟨Nat.le_of_ble_eq_true rfl, Nat.le_of_ble_eq_true rfl⟩ rfl hl.1 rfl (Nat.le_of_ble_eq_true rfl) d_F_onesOf_2 ⟨Nat.zero_le _, Nat.zero_le _⟩ (fun v9 f9 H locs hp9 Y => ?_)
  obtain ⟨e8, e9⟩ := hp9
  subst e8
  rw [e9] at Y
  refine W.eq (g2 := F0 m 5 ls [.int (q_in x (nI k))]) rfl ?_
  refine lv_if_eq (tgt := 17) hx hb d_F_onesOf_5 (by decide) (fun c_5 => ?_) (fun c_5 => ?_)
  · refine lv_iconst (v := 0) hx hb d_F_onesOf_17 (by decide) ?_
    exact ret _ _ _ _ _ _ d_F_onesOf_18 ⟨_, rfl, rfl⟩ ⟨by simp [q_at, c_5], rfl⟩ Y
  · obtain ⟨j, hj, ej⟩ := q_in_of (by omega) c_5
    refine lv_aload_n hx hb d_F_onesOf_8 rfl (lv_at hl 0 rfl) ?_
    refine fp_get X Y oa rfl in_F 0 (by decide) w33 rfl d_F_onesOf_9 ?_
    refine lv_iload_n hx hb d_F_onesOf_12 rfl (lv_at hl 1 rfl) ?_
    refine fp_ild X Y o1 j ej (by omega) (by decide) d_F_onesOf_13 ?_
    refine lv_goto (tgt := 18) hx hb d_F_onesOf_14 (by decide) ?_
    exact ret _ _ _ _ _ _ d_F_onesOf_18 ⟨_, rfl, rfl⟩ ⟨by rw [q_at, if_neg c_5, ej, nI_clamp (by omega)], rfl⟩ Y
set_option maxHeartbeats 4000000 in
set_option maxRecDepth 100000 in
theorem c_F_write {l : Launch} {D : va_G} {g : Nat → ClassId} {b n : Nat} {A : Nat → Prop} {f : Nat → va_E} {a q1 q2 : Nat} {z1 z2 : Nat → Int32} {k : Nat} (x y : Int32) (hk : k ≤ 16) (oa : fp_o b n f a (ob 4 [.ref q1, .ref q2, .int (nI k)])) (o1 : fp_o b n f q1 (aI g 16 z1)) (o2 : fp_o b n f q2 (aI g 16 z2)) (hne : q1 ≠ q2) (hA : fp_W b n A := by assumption) : fp_M l D (TY g) b n A y_F_write (fp_ws y_F_write b_F_write 3 none) (rmD 1) [.ref a, .int x, .int y] f (fun v f' => v = none ∧ f' = va_up f q2 (aI g 16 (q_wr z1 z2 x (nI k) y))) := by
  refine fp_ofV (plainFor_of_name (by decide)) (Nat.le_of_ble_eq_true rfl) ?_
  intro p e s m args below meth c Q ls H locs X Y hl ret
  have hx := X.1.1
  have hb := X.1.2.1
  have hl : lv_has ls 3 [(0, .ref a), (1, .int x), (2, .int y)] := hl
  refine lv_aload_n hx hb d_F_write_0 rfl (lv_at hl 0 rfl) ?_
  refine lv_iload_n hx hb d_F_write_1 rfl (lv_at hl 1 rfl) ?_
  refine fp_callV (nA := 1) (As := [.int x]) (rest := []) X Y (c_F_isThere x oa) oa rfl w249 w246 w247 w248 w2 (by decide +kernel) ⟨rfl, rfl⟩ ⟨Nat.le_of_ble_eq_true rfl, Nat.le_of_ble_eq_true rfl⟩ rfl hl.1 rfl (Nat.le_of_ble_eq_true rfl) d_F_write_2 ⟨Nat.zero_le _, Nat.zero_le _⟩ (fun v9 f9 H locs hp9 Y => ?_)
  obtain ⟨e8, e9⟩ := hp9
  subst e8
  rw [e9] at Y
  refine W.eq (g2 := F0 m 5 ls [.int (q_in x (nI k))]) rfl ?_
  refine lv_if_eq (tgt := 22) hx hb d_F_write_5 (by decide) (fun c_5 => ?_) (fun c_5 => ?_)
  · exact ret _ _ _ _ _ d_F_write_22 ⟨rfl, by rw [q_wr, if_pos c_5]; exact (va_up_same o2.2.2).symm⟩ Y
  · obtain ⟨j, hj, ej⟩ := q_in_of (by omega) c_5
    refine lv_aload_n hx hb d_F_write_8 rfl (lv_at hl 0 rfl) ?_
    refine fp_get X Y oa rfl in_F 1 (by decide) w34 rfl d_F_write_9 ?_
    refine lv_iload_n hx hb d_F_write_12 rfl (lv_at hl 1 rfl) ?_
    refine lv_iload_n hx hb d_F_write_13 rfl (lv_at hl 2 rfl) ?_
    refine lv_aload_n hx hb d_F_write_14 rfl (lv_at hl 0 rfl) ?_
    refine fp_get X Y oa rfl in_F 0 (by decide) w33 rfl d_F_write_15 ?_
    refine lv_iload_n hx hb d_F_write_18 rfl (lv_at hl 1 rfl) ?_
    refine fp_ild X Y o1 j ej (by omega) (by decide) d_F_write_19 ?_
    refine lv_iand hx hb d_F_write_20 ?_
    refine fp_ist X Y o2 j ej (by omega) (by decide) d_F_write_21 (fun H locs Y => ?_)
    have ne_1 : a ≠ q2 := (fp_o.nf oa o2 (by simp))
    have ne_2 : q1 ≠ q2 := hne
    have Y : fp_H D b n A (va_up f q2 (aI g 16 (upd z2 j (y &&& (z1 j))))) s.heap H locs := Y
    have oa : fp_o b n (va_up f q2 (aI g 16 (upd z2 j (y &&& (z1 j))))) a (ob 4 [.ref q1, .ref q2, .int (nI k)]) := fp_o.ne oa ne_1
    have o1 : fp_o b n (va_up f q2 (aI g 16 (upd z2 j (y &&& (z1 j))))) q1 (aI g 16 z1) := fp_o.ne o1 ne_2
    have o2 : fp_o b n (va_up f q2 (aI g 16 (upd z2 j (y &&& (z1 j))))) q2 (aI g 16 (upd z2 j (y &&& (z1 j)))) := fp_o.up o2
    exact ret _ _ _ _ _ d_F_write_22 ⟨rfl, by rw [q_wr, if_neg c_5, ej, nI_clamp (by omega)]⟩ Y
set_option maxHeartbeats 4000000 in
set_option maxRecDepth 100000 in
theorem c_X_isArray {l : Launch} {D : va_G} {g : Nat → ClassId} {b n : Nat} {A : Nat → Prop} {f : Nat → va_E} (x : Int32)   : fp_M l D (TY g) b n A y_X_isArray (fp_ws y_X_isArray b_X_isArray 1 (some FieldType.boolean)) (rmD 0) [.int x] f (fun v f' => v = some (.int (q_in x 4)) ∧ f' = f) := by
  refine fp_ofI (plainFor_of_name (by decide)) (Nat.le_of_ble_eq_true rfl) ?_
  intro p e s m args below meth c Q ls H locs X Y hl ret
  have hx := X.1.1
  have hb := X.1.2.1
  have hl : lv_has ls 1 [(0, .int x)] := hl
  refine lv_iload_n hx hb d_X_isArray_0 rfl (lv_at hl 0 rfl) ?_
  refine lv_if_lt (tgt := 13) hx hb d_X_isArray_1 (by decide) (fun c_1 => ?_) (fun c_1 => ?_)
  · refine lv_iconst (v := 0) hx hb d_X_isArray_13 (by decide) ?_
    exact ret _ _ _ _ _ _ d_X_isArray_14 ⟨_, rfl, rfl⟩ ⟨by simp [q_in, c_1], rfl⟩ Y
  · refine lv_iload_n hx hb d_X_isArray_4 rfl (lv_at hl 0 rfl) ?_
    refine lv_iconst (v := 4) hx hb d_X_isArray_5 (by decide) ?_
    refine lv_icmp_ge (tgt := 13) hx hb d_X_isArray_6 (by decide) (fun c_6 => ?_) (fun c_6 => ?_)
    · refine lv_iconst (v := 0) hx hb d_X_isArray_13 (by decide) ?_
      exact ret _ _ _ _ _ _ d_X_isArray_14 ⟨_, rfl, rfl⟩ ⟨by simp [q_in, c_1, c_6], rfl⟩ Y
    · refine lv_iconst (v := 1) hx hb d_X_isArray_9 (by decide) ?_
      refine lv_goto (tgt := 14) hx hb d_X_isArray_10 (by decide) ?_
      exact ret _ _ _ _ _ _ d_X_isArray_14 ⟨_, rfl, rfl⟩ ⟨by simp [q_in, c_1, c_6], rfl⟩ Y
set_option maxHeartbeats 4000000 in
set_option maxRecDepth 100000 in
theorem c_X_isDatum {l : Launch} {D : va_G} {g : Nat → ClassId} {b n : Nat} {A : Nat → Prop} {f : Nat → va_E} (x : Int32)   : fp_M l D (TY g) b n A y_X_isDatum (fp_ws y_X_isDatum b_X_isDatum 1 (some FieldType.boolean)) (rmD 0) [.int x] f (fun v f' => v = some (.int (q_in x 2)) ∧ f' = f) := by
  refine fp_ofI (plainFor_of_name (by decide)) (Nat.le_of_ble_eq_true rfl) ?_
  intro p e s m args below meth c Q ls H locs X Y hl ret
  have hx := X.1.1
  have hb := X.1.2.1
  have hl : lv_has ls 1 [(0, .int x)] := hl
  refine lv_iload_n hx hb d_X_isDatum_0 rfl (lv_at hl 0 rfl) ?_
  refine lv_if_lt (tgt := 13) hx hb d_X_isDatum_1 (by decide) (fun c_1 => ?_) (fun c_1 => ?_)
  · refine lv_iconst (v := 0) hx hb d_X_isDatum_13 (by decide) ?_
    exact ret _ _ _ _ _ _ d_X_isDatum_14 ⟨_, rfl, rfl⟩ ⟨by simp [q_in, c_1], rfl⟩ Y
  · refine lv_iload_n hx hb d_X_isDatum_4 rfl (lv_at hl 0 rfl) ?_
    refine lv_iconst (v := 2) hx hb d_X_isDatum_5 (by decide) ?_
    refine lv_icmp_ge (tgt := 13) hx hb d_X_isDatum_6 (by decide) (fun c_6 => ?_) (fun c_6 => ?_)
    · refine lv_iconst (v := 0) hx hb d_X_isDatum_13 (by decide) ?_
      exact ret _ _ _ _ _ _ d_X_isDatum_14 ⟨_, rfl, rfl⟩ ⟨by simp [q_in, c_1, c_6], rfl⟩ Y
    · refine lv_iconst (v := 1) hx hb d_X_isDatum_9 (by decide) ?_
      refine lv_goto (tgt := 14) hx hb d_X_isDatum_10 (by decide) ?_
      exact ret _ _ _ _ _ _ d_X_isDatum_14 ⟨_, rfl, rfl⟩ ⟨by simp [q_in, c_1, c_6], rfl⟩ Y
set_option maxHeartbeats 4000000 in
set_option maxRecDepth 100000 in
theorem c_C_isWord {l : Launch} {D : va_G} {g : Nat → ClassId} {b n : Nat} {A : Nat → Prop} {f : Nat → va_E} (x y : Int32)   : fp_M l D (TY g) b n A y_C_isWord (fp_ws y_C_isWord b_C_isWord 2 (some FieldType.boolean)) (rmD 1) [.int x, .int y] f (fun v f' => v = some (.int (q_isw x y)) ∧ f' = f) := by
  refine fp_ofI (plainFor_of_name (by decide)) (Nat.le_of_ble_eq_true rfl) ?_
  intro p e s m args below meth c Q ls H locs X Y hl ret
  have hx := X.1.1
  have hb := X.1.2.1
  have hl : lv_has ls 2 [(0, .int x), (1, .int y)] := hl
  refine lv_iload_n hx hb d_C_isWord_0 rfl (lv_at hl 0 rfl) ?_
  refine fp_callSN (nA := 1) (As := [.int x]) (rest := []) X Y (c_X_isArray x) w306 nw304 w305 w1 (by decide +kernel) ⟨rfl, rfl⟩ ⟨Nat.le_of_ble_eq_true rfl, Nat.le_of_ble_eq_true rfl⟩ rfl hl.1 rfl (Nat.le_of_ble_eq_true rfl) d_C_isWord_1 ⟨Nat.zero_le _, Nat.zero_le _⟩ (fun v9 f9 H locs hp9 Y => ?_)
  obtain ⟨e8, e9⟩ := hp9
  subst e8
  rw [e9] at Y
  refine W.eq (g2 := F0 m 4 ls [.int (q_in x 4)]) rfl ?_
  refine lv_if_eq (tgt := 21) hx hb d_C_isWord_4 (by decide) (fun c_4 => ?_) (fun c_4 => ?_)
  · refine lv_iconst (v := 0) hx hb d_C_isWord_21 (by decide) ?_
    exact ret _ _ _ _ _ _ d_C_isWord_22 ⟨_, rfl, rfl⟩ ⟨by simp [q_isw, c_4], rfl⟩ Y
  · refine lv_iload_n hx hb d_C_isWord_7 rfl (lv_at hl 1 rfl) ?_
    refine lv_if_lt (tgt := 21) hx hb d_C_isWord_8 (by decide) (fun c_8 => ?_) (fun c_8 => ?_)
    · refine lv_iconst (v := 0) hx hb d_C_isWord_21 (by decide) ?_
      exact ret _ _ _ _ _ _ d_C_isWord_22 ⟨_, rfl, rfl⟩ ⟨by simp [q_isw, c_4, c_8], rfl⟩ Y
    · refine lv_iload_n hx hb d_C_isWord_11 rfl (lv_at hl 1 rfl) ?_
      refine lv_bipush (v := 16) hx hb d_C_isWord_12 (by decide) ?_
      refine lv_icmp_ge (tgt := 21) hx hb d_C_isWord_14 (by decide) (fun c_14 => ?_) (fun c_14 => ?_)
      · refine lv_iconst (v := 0) hx hb d_C_isWord_21 (by decide) ?_
        exact ret _ _ _ _ _ _ d_C_isWord_22 ⟨_, rfl, rfl⟩ ⟨by simp [q_isw, c_4, c_8, c_14], rfl⟩ Y
      · refine lv_iconst (v := 1) hx hb d_C_isWord_17 (by decide) ?_
        refine lv_goto (tgt := 22) hx hb d_C_isWord_18 (by decide) ?_
        exact ret _ _ _ _ _ _ d_C_isWord_22 ⟨_, rfl, rfl⟩ ⟨by simp [q_isw, c_4, c_8, c_14], rfl⟩ Y
set_option maxHeartbeats 4000000 in
set_option maxRecDepth 100000 in
theorem c_C_read {l : Launch} {D : va_G} {g : Nat → ClassId} {b n : Nat} {A : Nat → Prop} {f : Nat → va_E} {a q : Nat} {z : Nat → Int32} (x y : Int32) (oa : fp_o b n f a (ob 1 [.ref q])) (o1 : fp_o b n f q (aI g 64 z))  : fp_M l D (TY g) b n A y_C_read (fp_ws y_C_read b_C_read 3 (some FieldType.int)) (rmD 2) [.ref a, .int x, .int y] f (fun v f' => v = some (.int (q_cr z x y)) ∧ f' = f) := by
  refine fp_ofI (plainFor_of_name (by decide)) (Nat.le_of_ble_eq_true rfl) ?_
  intro p e s m args below meth c Q ls H locs X Y hl ret
  have hx := X.1.1
  have hb := X.1.2.1
  have hl : lv_has ls 3 [(0, .ref a), (1, .int x), (2, .int y)] := hl
  refine lv_iload_n hx hb d_C_read_0 rfl (lv_at hl 1 rfl) ?_
  refine lv_iload_n hx hb d_C_read_1 rfl (lv_at hl 2 rfl) ?_
  refine fp_callS (nA := 2) (As := [.int x, .int y]) (rest := []) X Y (c_C_isWord x y) w303 w301 w302 w3 (by decide +kernel) ⟨rfl, rfl⟩ ⟨Nat.le_of_ble_eq_true rfl, Nat.le_of_ble_eq_true rfl⟩ rfl hl.1 rfl (Nat.le_of_ble_eq_true rfl) d_C_read_2 ⟨Nat.zero_le _, Nat.zero_le _⟩ (fun v9 f9 H locs hp9 Y => ?_)
  obtain ⟨e8, e9⟩ := hp9
  subst e8
  rw [e9] at Y
  refine W.eq (g2 := F0 m 5 ls [.int (q_isw x y)]) rfl ?_
  refine lv_if_eq (tgt := 22) hx hb d_C_read_5 (by decide) (fun c_5 => ?_) (fun c_5 => ?_)
  · refine lv_iconst (v := 0) hx hb d_C_read_22 (by decide) ?_
    exact ret _ _ _ _ _ _ d_C_read_23 ⟨_, rfl, rfl⟩ ⟨by simp [q_cr, c_5], rfl⟩ Y
  · obtain ⟨p0, r0, hp0, hr0, -, -, e0, e1⟩ := q_isw_of c_5
    refine lv_aload_n hx hb d_C_read_8 rfl (lv_at hl 0 rfl) ?_
    refine fp_get X Y oa rfl in_C 0 (by decide) w50 rfl d_C_read_9 ?_
    refine lv_iload_n hx hb d_C_read_12 rfl (lv_at hl 1 rfl) ?_
    refine lv_bipush (v := 16) hx hb d_C_read_13 (by decide) ?_
    refine lv_imul hx hb d_C_read_15 ?_
    refine lv_iload_n hx hb d_C_read_16 rfl (lv_at hl 2 rfl) ?_
    refine lv_iadd hx hb d_C_read_17 ?_
    refine fp_ild X Y o1 (p0 * 16 + r0) e0 (by omega) (by decide) d_C_read_18 ?_
    refine lv_goto (tgt := 23) hx hb d_C_read_19 (by decide) ?_
    exact ret _ _ _ _ _ _ d_C_read_23 ⟨_, rfl, rfl⟩ ⟨by rw [q_cr, if_neg c_5, e1], rfl⟩ Y
set_option maxHeartbeats 4000000 in
set_option maxRecDepth 100000 in
theorem c_C_grow {l : Launch} {D : va_G} {g : Nat → ClassId} {b n : Nat} {A : Nat → Prop} {f : Nat → va_E} {a q : Nat} {z : Nat → Int32} (x y w : Int32) (oa : fp_o b n f a (ob 1 [.ref q])) (o1 : fp_o b n f q (aI g 64 z))  (hA : fp_W b n A := by assumption) : fp_M l D (TY g) b n A y_C_grow (fp_ws y_C_grow b_C_grow 4 none) (rmD 2) [.ref a, .int x, .int y, .int w] f (fun v f' => v = none ∧ f' = va_up f q (aI g 64 (q_cg z x y w))) := by
  refine fp_ofV (plainFor_of_name (by decide)) (Nat.le_of_ble_eq_true rfl) ?_
  intro p e s m args below meth c Q ls H locs X Y hl ret
  have hx := X.1.1
  have hb := X.1.2.1
  have hl : lv_has ls 4 [(0, .ref a), (1, .int x), (2, .int y), (3, .int w)] := hl
  refine lv_iload_n hx hb d_C_grow_0 rfl (lv_at hl 1 rfl) ?_
  refine lv_iload_n hx hb d_C_grow_1 rfl (lv_at hl 2 rfl) ?_
  refine fp_callS (nA := 2) (As := [.int x, .int y]) (rest := []) X Y (c_C_isWord x y) w303 w301 w302 w3 (by decide +kernel) ⟨rfl, rfl⟩ ⟨Nat.le_of_ble_eq_true rfl, Nat.le_of_ble_eq_true rfl⟩ rfl hl.1 rfl (Nat.le_of_ble_eq_true rfl) d_C_grow_2 ⟨Nat.zero_le _, Nat.zero_le _⟩ (fun v9 f9 H locs hp9 Y => ?_)
  obtain ⟨e8, e9⟩ := hp9
  subst e8
  rw [e9] at Y
  refine W.eq (g2 := F0 m 5 ls [.int (q_isw x y)]) rfl ?_
  refine lv_if_eq (tgt := 23) hx hb d_C_grow_5 (by decide) (fun c_5 => ?_) (fun c_5 => ?_)
  · exact ret _ _ _ _ _ d_C_grow_23 ⟨rfl, by rw [q_cg, if_pos c_5]; exact (va_up_same o1.2.2).symm⟩ Y
  · obtain ⟨p0, r0, hp0, hr0, -, -, e0, e1⟩ := q_isw_of c_5
    refine lv_aload_n hx hb d_C_grow_8 rfl (lv_at hl 0 rfl) ?_
    refine fp_get X Y oa rfl in_C 0 (by decide) w50 rfl d_C_grow_9 ?_
    refine lv_iload_n hx hb d_C_grow_12 rfl (lv_at hl 1 rfl) ?_
    refine lv_bipush (v := 16) hx hb d_C_grow_13 (by decide) ?_
    refine lv_imul hx hb d_C_grow_15 ?_
    refine lv_iload_n hx hb d_C_grow_16 rfl (lv_at hl 2 rfl) ?_
    refine lv_iadd hx hb d_C_grow_17 ?_
    refine lv_dup2_11 hx hb d_C_grow_18 rfl rfl ?_
    refine fp_ild X Y o1 (p0 * 16 + r0) e0 (by omega) (by decide) d_C_grow_19 ?_
    refine lv_iload_n hx hb d_C_grow_20 rfl (lv_at hl 3 rfl) ?_
    refine lv_iadd hx hb d_C_grow_21 ?_
    refine fp_ist X Y o1 (p0 * 16 + r0) e0 (by omega) (by decide) d_C_grow_22 (fun H locs Y => ?_)
    have ne_1 : a ≠ q := (fp_o.nf oa o1 (by simp))
    have Y : fp_H D b n A (va_up f q (aI g 64 (upd z (p0 * 16 + r0) ((z (p0 * 16 + r0)) + w)))) s.heap H locs := Y
    have oa : fp_o b n (va_up f q (aI g 64 (upd z (p0 * 16 + r0) ((z (p0 * 16 + r0)) + w)))) a (ob 1 [.ref q]) := fp_o.ne oa ne_1
    have o1 : fp_o b n (va_up f q (aI g 64 (upd z (p0 * 16 + r0) ((z (p0 * 16 + r0)) + w)))) q (aI g 64 (upd z (p0 * 16 + r0) ((z (p0 * 16 + r0)) + w))) := fp_o.up o1
    exact ret _ _ _ _ _ d_C_grow_23 ⟨rfl, by rw [q_cg, if_neg c_5, e1]⟩ Y
set_option maxHeartbeats 4000000 in
set_option maxRecDepth 100000 in
theorem c_A_forget {l : Launch} {D : va_G} {g : Nat → ClassId} {b n : Nat} {A : Nat → Prop} {f : Nat → va_E} {a q : Nat} {k : Int32} (oa : fp_o b n f a (ob 0 [.ref q, .int k]))  (hA : fp_W b n A := by assumption) : fp_M l D (TY g) b n A y_A_forget (fp_ws y_A_forget b_A_forget 1 none) (rmD 0) [.ref a] f (fun v f' => v = none ∧ f' = va_up f a (ob 0 [.ref q, .int 0])) := by
  refine fp_ofV (plainFor_of_name (by decide)) (Nat.le_of_ble_eq_true rfl) ?_
  intro p e s m args below meth c Q ls H locs X Y hl ret
  have hx := X.1.1
  have hb := X.1.2.1
  have hl : lv_has ls 1 [(0, .ref a)] := hl
  refine lv_aload_n hx hb d_A_forget_0 rfl (lv_at hl 0 rfl) ?_
  refine lv_iconst (v := 0) hx hb d_A_forget_1 (by decide) ?_
  refine fp_put X Y oa rfl in_A to_A nm_A 1 (by decide) w112 rfl rfl rfl (Nat.le_of_ble_eq_true rfl) d_A_forget_2 (fun H locs Y => ?_)
  have Y : fp_H D b n A (va_up f a (ob 0 [.ref q, .int 0])) s.heap H locs := Y
  have oa : fp_o b n (va_up f a (ob 0 [.ref q, .int 0])) a (ob 0 [.ref q, .int 0]) := fp_o.up oa
  exact ret _ _ _ _ _ d_A_forget_5 ⟨rfl, rfl⟩ Y
set_option maxHeartbeats 4000000 in
set_option maxRecDepth 100000 in
theorem c_A_isFull {l : Launch} {D : va_G} {g : Nat → ClassId} {b n : Nat} {A : Nat → Prop} {f : Nat → va_E} {a q : Nat} {k : Int32} (oa : fp_o b n f a (ob 0 [.ref q, .int k]))  : fp_M l D (TY g) b n A y_A_isFull (fp_ws y_A_isFull b_A_isFull 1 (some FieldType.boolean)) (rmD 0) [.ref a] f (fun v f' => v = some (.int (q_full 4 k)) ∧ f' = f) := by
  refine fp_ofI (plainFor_of_name (by decide)) (Nat.le_of_ble_eq_true rfl) ?_
  intro p e s m args below meth c Q ls H locs X Y hl ret
  have hx := X.1.1
  have hb := X.1.2.1
  have hl : lv_has ls 1 [(0, .ref a)] := hl
  refine lv_aload_n hx hb d_A_isFull_0 rfl (lv_at hl 0 rfl) ?_
  refine fp_get X Y oa rfl in_A 1 (by decide) w112 rfl d_A_isFull_1 ?_
  refine lv_iconst (v := 4) hx hb d_A_isFull_4 (by decide) ?_
  refine lv_icmp_lt (tgt := 12) hx hb d_A_isFull_5 (by decide) (fun c_5 => ?_) (fun c_5 => ?_)
  · refine lv_iconst (v := 0) hx hb d_A_isFull_12 (by decide) ?_
    exact ret _ _ _ _ _ _ d_A_isFull_13 ⟨_, rfl, rfl⟩ ⟨by simp [q_full, c_5], rfl⟩ Y
  · refine lv_iconst (v := 1) hx hb d_A_isFull_8 (by decide) ?_
    refine lv_goto (tgt := 13) hx hb d_A_isFull_9 (by decide) ?_
    exact ret _ _ _ _ _ _ d_A_isFull_13 ⟨_, rfl, rfl⟩ ⟨by simp [q_full, c_5], rfl⟩ Y
set_option maxHeartbeats 4000000 in
set_option maxRecDepth 100000 in
theorem c_A_add {l : Launch} {D : va_G} {g : Nat → ClassId} {b n : Nat} {A : Nat → Prop} {f : Nat → va_E} {a q d : Nat} {zr : Nat → Option Nat} {k : Nat} {d1 d2 d3 d4 : Int32} (x1 x2 x3 x4 : Int32) (hk : k < 4) (hd : zr k = some d) (oa : fp_o b n f a (ob 0 [.ref q, .int (nI k)])) (oq : fp_o b n f q (aR g 2 4 zr)) (od : fp_o b n f d (ob 2 [.int d1, .int d2, .int d3, .int d4]))  (hA : fp_W b n A := by assumption) : fp_M l D (TY g) b n A y_A_add (fp_ws y_A_add b_A_add 6 none) (rmD 1) [.ref a, .int x1, .int x2, .int x3, .int x4] f (fun v f' => v = none ∧ f' = va_up (va_up f d (ob 2 [.int x1, .int x2, .int x3, .int x4])) a (ob 0 [.ref q, .int (nI (k + 1))])) := by
  refine fp_ofV (plainFor_of_name (by decide)) (Nat.le_of_ble_eq_true rfl) ?_
  intro p e s m args below meth c Q ls H locs X Y hl ret
  have hx := X.1.1
  have hb := X.1.2.1
  have hl : lv_has ls 6 [(0, .ref a), (1, .int x1), (2, .int x2), (3, .int x3), (4, .int x4)] := hl
  refine lv_aload_n hx hb d_A_add_0 rfl (lv_at hl 0 rfl) ?_
  refine fp_callV (nA := 0) (As := []) (rest := []) X Y (c_A_isFull oa) oa rfl w478 w484 w476 w477 w5 (by decide +kernel) ⟨rfl, rfl⟩ ⟨Nat.le_of_ble_eq_true rfl, Nat.le_of_ble_eq_true rfl⟩ rfl hl.1 rfl (Nat.le_of_ble_eq_true rfl) d_A_add_1 ⟨Nat.zero_le _, Nat.zero_le _⟩ (fun v9 f9 H locs hp9 Y => ?_)
  obtain ⟨e8, e9⟩ := hp9
  subst e8
  rw [e9] at Y
  refine W.eq (g2 := F0 m 4 ls [.int (q_full 4 (nI k))]) rfl ?_
  refine lv_if_eq (tgt := 8) hx hb d_A_add_4 (by decide) (fun c_4 => ?_) (fun c_4 => absurd (q_full_lt hk (by decide)) c_4)
  refine lv_aload_n hx hb d_A_add_8 rfl (lv_at hl 0 rfl) ?_
  refine fp_get X Y oa rfl in_A 0 (by decide) w110 rfl d_A_add_9 ?_
  refine lv_aload_n hx hb d_A_add_12 rfl (lv_at hl 0 rfl) ?_
  refine fp_get X Y oa rfl in_A 1 (by decide) w112 rfl d_A_add_13 ?_
  refine fp_ald 2 rfl X Y oq k rfl hk (by decide) hd d_A_add_16 ?_
  refine lv_astore (lv' := [(5, .ref d), (0, .ref a), (1, .int x1), (2, .int x2), (3, .int x3), (4, .int x4)]) hx hb d_A_add_17 hl (by decide) rfl (fun ls hl => ?_)
  refine lv_aload hx hb d_A_add_19 (lv_at hl 0 rfl) ?_
  refine lv_iload_n hx hb d_A_add_21 rfl (lv_at hl 2 rfl) ?_
  refine fp_putN X Y od rfl in_D to_D nm_D 0 (by decide) nw93 rfl rfl rfl (Nat.le_of_ble_eq_true rfl) d_A_add_22 (fun H locs Y => ?_)
  have ne_1 : a ≠ d := (fp_o.nf oa od (by simp))
  have ne_2 : q ≠ d := (fp_o.nf oq od (by simp))
  have Y : fp_H D b n A (va_up f d (ob 2 [.int x1, .int d2, .int d3, .int d4])) s.heap H locs := Y
  have oa : fp_o b n (va_up f d (ob 2 [.int x1, .int d2, .int d3, .int d4])) a (ob 0 [.ref q, .int (nI k)]) := fp_o.ne oa ne_1
  have oq : fp_o b n (va_up f d (ob 2 [.int x1, .int d2, .int d3, .int d4])) q (aR g 2 4 zr) := fp_o.ne oq ne_2
  have od : fp_o b n (va_up f d (ob 2 [.int x1, .int d2, .int d3, .int d4])) d (ob 2 [.int x1, .int d2, .int d3, .int d4]) := fp_o.up od
  refine lv_aload hx hb d_A_add_25 (lv_at hl 0 rfl) ?_
  refine lv_iload_n hx hb d_A_add_27 rfl (lv_at hl 3 rfl) ?_
  refine fp_putN X Y od rfl in_D to_D nm_D 1 (by decide) nw95 rfl rfl rfl (Nat.le_of_ble_eq_true rfl) d_A_add_28 (fun H locs Y => ?_)
  have ne_3 : a ≠ d := (fp_o.nf oa od (by simp))
  have ne_4 : q ≠ d := (fp_o.nf oq od (by simp))
  have Y := Y.re
  have Y : fp_H D b n A (va_up f d (ob 2 [.int x1, .int x2, .int d3, .int d4])) s.heap H locs := Y
  have oa : fp_o b n (va_up f d (ob 2 [.int x1, .int x2, .int d3, .int d4])) a (ob 0 [.ref q, .int (nI k)]) := fp_o.re oa ne_3
  have oq : fp_o b n (va_up f d (ob 2 [.int x1, .int x2, .int d3, .int d4])) q (aR g 2 4 zr) := fp_o.re oq ne_4
  have od : fp_o b n (va_up f d (ob 2 [.int x1, .int x2, .int d3, .int d4])) d (ob 2 [.int x1, .int x2, .int d3, .int d4]) := fp_o.rs od
  refine lv_aload hx hb d_A_add_31 (lv_at hl 0 rfl) ?_
  refine lv_iload_n hx hb d_A_add_33 rfl (lv_at hl 4 rfl) ?_
  refine fp_putN X Y od rfl in_D to_D nm_D 2 (by decide) nw97 rfl rfl rfl (Nat.le_of_ble_eq_true rfl) d_A_add_34 (fun H locs Y => ?_)
  have ne_5 : a ≠ d := (fp_o.nf oa od (by simp))
  have ne_6 : q ≠ d := (fp_o.nf oq od (by simp))
  have Y := Y.re
  have Y : fp_H D b n A (va_up f d (ob 2 [.int x1, .int x2, .int x3, .int d4])) s.heap H locs := Y
  have oa : fp_o b n (va_up f d (ob 2 [.int x1, .int x2, .int x3, .int d4])) a (ob 0 [.ref q, .int (nI k)]) := fp_o.re oa ne_5
  have oq : fp_o b n (va_up f d (ob 2 [.int x1, .int x2, .int x3, .int d4])) q (aR g 2 4 zr) := fp_o.re oq ne_6
  have od : fp_o b n (va_up f d (ob 2 [.int x1, .int x2, .int x3, .int d4])) d (ob 2 [.int x1, .int x2, .int x3, .int d4]) := fp_o.rs od
  refine lv_aload hx hb d_A_add_37 (lv_at hl 0 rfl) ?_
  refine lv_iload hx hb d_A_add_39 (lv_at hl 5 rfl) ?_
  refine fp_putN X Y od rfl in_D to_D nm_D 3 (by decide) nw99 rfl rfl rfl (Nat.le_of_ble_eq_true rfl) d_A_add_41 (fun H locs Y => ?_)
  have ne_7 : a ≠ d := (fp_o.nf oa od (by simp))
  have ne_8 : q ≠ d := (fp_o.nf oq od (by simp))
  have Y := Y.re
  have Y : fp_H D b n A (va_up f d (ob 2 [.int x1, .int x2, .int x3, .int x4])) s.heap H locs := Y
  have oa : fp_o b n (va_up f d (ob 2 [.int x1, .int x2, .int x3, .int x4])) a (ob 0 [.ref q, .int (nI k)]) := fp_o.re oa ne_7
  have oq : fp_o b n (va_up f d (ob 2 [.int x1, .int x2, .int x3, .int x4])) q (aR g 2 4 zr) := fp_o.re oq ne_8
  have od : fp_o b n (va_up f d (ob 2 [.int x1, .int x2, .int x3, .int x4])) d (ob 2 [.int x1, .int x2, .int x3, .int x4]) := fp_o.rs od
  refine lv_aload_n hx hb d_A_add_44 rfl (lv_at hl 1 rfl) ?_
  refine lv_dup hx hb d_A_add_45 rfl ?_
  refine fp_get X Y oa rfl in_A 1 (by decide) w112 rfl d_A_add_46 ?_
  refine lv_iconst (v := 1) hx hb d_A_add_49 (by decide) ?_
  refine lv_iadd hx hb d_A_add_50 ?_
  refine fp_put X Y oa rfl in_A to_A nm_A 1 (by decide) w112 rfl rfl rfl (Nat.le_of_ble_eq_true rfl) d_A_add_51 (fun H locs Y => ?_)
  have ne_9 : q ≠ a := (fp_o.nf oq oa (by simp))
  have ne_10 : d ≠ a := (fp_o.nf od oa (by simp))
  have Y : fp_H D b n A (va_up (va_up f d (ob 2 [.int x1, .int x2, .int x3, .int x4])) a (ob 0 [.ref q, .int ((nI k) + 1)])) s.heap H locs := Y
  have oq : fp_o b n (va_up (va_up f d (ob 2 [.int x1, .int x2, .int x3, .int x4])) a (ob 0 [.ref q, .int ((nI k) + 1)])) q (aR g 2 4 zr) := fp_o.ne oq ne_9
  have od : fp_o b n (va_up (va_up f d (ob 2 [.int x1, .int x2, .int x3, .int x4])) a (ob 0 [.ref q, .int ((nI k) + 1)])) d (ob 2 [.int x1, .int x2, .int x3, .int x4]) := fp_o.ne od ne_10
  have oa : fp_o b n (va_up (va_up f d (ob 2 [.int x1, .int x2, .int x3, .int x4])) a (ob 0 [.ref q, .int ((nI k) + 1)])) a (ob 0 [.ref q, .int ((nI k) + 1)]) := fp_o.up oa
  exact ret _ _ _ _ _ d_A_add_54 ⟨rfl, by rw [← nI_1]⟩ Y
set_option maxHeartbeats 4000000 in
set_option maxRecDepth 100000 in
theorem c_JM_floorMod {l : Launch} {D : va_G} {g : Nat → ClassId} {b n : Nat} {A : Nat → Prop} {f : Nat → va_E} (x : Int32)   : fp_M l D (TY g) b n A y_JM_floorMod (fp_ws y_JM_floorMod b_JM_floorMod 3 (some FieldType.int)) (rmD 0) [.int x, .int 16] f (fun v f' => v = some (.int (if (x ^^^ 16) < 0 ∧ ¬ x - x / 16 * 16 = 0 then x - x / 16 * 16 + 16 else x - x / 16 * 16)) ∧ f' = f) := by
  refine fp_ofI (by decide +kernel) (Nat.le_of_ble_eq_true rfl) ?_
  intro p e s m args below meth c Q ls H locs X Y hl ret
  have hx := X.1.1
  have hb := X.1.2.1
  have hl : lv_has ls 3 [(0, .int x), (1, .int 16)] := hl
  refine lv_iload_n hx hb d_JM_floorMod_0 rfl (lv_at hl 0 rfl) ?_
  refine lv_iload_n hx hb d_JM_floorMod_1 rfl (lv_at hl 1 rfl) ?_
  refine lv_irem hx hb d_JM_floorMod_2 (by decide) ?_
  refine lv_istore_n (lv' := [(2, .int (x - x / 16 * 16)), (0, .int x), (1, .int 16)]) hx hb d_JM_floorMod_3 rfl hl (by decide) rfl (fun ls hl => ?_)
  refine lv_iload_n hx hb d_JM_floorMod_4 rfl (lv_at hl 1 rfl) ?_
  refine lv_iload_n hx hb d_JM_floorMod_5 rfl (lv_at hl 2 rfl) ?_
  refine lv_ixor hx hb d_JM_floorMod_6 ?_
  refine lv_if_ge (tgt := 18) hx hb d_JM_floorMod_7 (by decide) (fun c_7 => ?_) (fun c_7 => ?_)
  · refine lv_iload_n hx hb d_JM_floorMod_18 rfl (lv_at hl 0 rfl) ?_
    exact ret _ _ _ _ _ _ d_JM_floorMod_19 ⟨_, rfl, rfl⟩ ⟨by have h9 : ¬ (x ^^^ 16) < 0 := Int32.not_lt.mpr c_7; simp [h9], rfl⟩ Y
  · refine lv_iload_n hx hb d_JM_floorMod_10 rfl (lv_at hl 0 rfl) ?_
    refine lv_if_eq (tgt := 18) hx hb d_JM_floorMod_11 (by decide) (fun c_11 => ?_) (fun c_11 => ?_)
    · refine lv_iload_n hx hb d_JM_floorMod_18 rfl (lv_at hl 0 rfl) ?_
      exact ret _ _ _ _ _ _ d_JM_floorMod_19 ⟨_, rfl, rfl⟩ ⟨by have h9 : (x ^^^ 16) < 0 := Int32.not_le.mp c_7; simp [h9, c_11], rfl⟩ Y
    · refine lv_iload_n hx hb d_JM_floorMod_14 rfl (lv_at hl 0 rfl) ?_
      refine lv_iload_n hx hb d_JM_floorMod_15 rfl (lv_at hl 2 rfl) ?_
      refine lv_iadd hx hb d_JM_floorMod_16 ?_
      exact ret _ _ _ _ _ _ d_JM_floorMod_17 ⟨_, rfl, rfl⟩ ⟨by have h9 : (x ^^^ 16) < 0 := Int32.not_le.mp c_7; simp [h9, c_11], rfl⟩ Y
/-- Integer.bitCount, as the JDK has it -/
def q_b1 (x : Int32) : Int32 := x - ((x.toUInt32 >>> ((1 : Int32).toUInt32 &&& Int32.toUInt32 31)).toInt32 &&& 1431655765)
def q_b2 (x : Int32) : Int32 := (x &&& 858993459) + ((x.toUInt32 >>> ((2 : Int32).toUInt32 &&& Int32.toUInt32 31)).toInt32 &&& 858993459)
def q_b3 (x : Int32) : Int32 := (x + (x.toUInt32 >>> ((4 : Int32).toUInt32 &&& Int32.toUInt32 31)).toInt32) &&& 252645135
def q_b4 (x : Int32) : Int32 := x + (x.toUInt32 >>> ((8 : Int32).toUInt32 &&& Int32.toUInt32 31)).toInt32
def q_b5 (x : Int32) : Int32 := x + (x.toUInt32 >>> ((16 : Int32).toUInt32 &&& Int32.toUInt32 31)).toInt32
def q_bc (x : Int32) : Int32 := q_b5 (q_b4 (q_b3 (q_b2 (q_b1 x)))) &&& 63
set_option maxHeartbeats 4000000 in
set_option maxRecDepth 100000 in
theorem c_JI_bitCount {l : Launch} {D : va_G} {g : Nat → ClassId} {b n : Nat} {A : Nat → Prop} {f : Nat → va_E} (x : Int32)   : fp_M l D (TY g) b n A y_JI_bitCount (fp_ws y_JI_bitCount b_JI_bitCount 1 (some FieldType.int)) (rmD 0) [.int x] f (fun v f' => v = some (.int (q_bc x)) ∧ f' = f) := by
  refine fp_ofI (by decide +kernel) (Nat.le_of_ble_eq_true rfl) ?_
  intro p e s m args below meth c Q ls H locs X Y hl ret
  have hx := X.1.1
  have hb := X.1.2.1
  have hl : lv_has ls 1 [(0, .int x)] := hl
  refine lv_iload_n hx hb d_JI_bitCount_0 rfl (lv_at hl 0 rfl) ?_
  refine lv_iload_n hx hb d_JI_bitCount_1 rfl (lv_at hl 0 rfl) ?_
  refine lv_iconst (v := 1) hx hb d_JI_bitCount_2 (by decide) ?_
  refine lv_iushr hx hb d_JI_bitCount_3 rfl ?_
  refine lv_ldcw (v := 1431655765) hx hb X.1.2.2.2.1 (X.1.2.2.2.2 _ w282) d_JI_bitCount_4 ?_
  refine lv_iand hx hb d_JI_bitCount_7 ?_
  refine lv_isub hx hb d_JI_bitCount_8 ?_
  refine lv_topi (fun y9 ey9 => ?_)
  refine lv_istore_n (lv' := [(0, .int y9)]) hx hb d_JI_bitCount_9 rfl hl (by decide) rfl (fun ls hl => ?_)
  refine lv_iload_n hx hb d_JI_bitCount_10 rfl (lv_at hl 0 rfl) ?_
  refine lv_ldcw (v := 858993459) hx hb X.1.2.2.2.1 (X.1.2.2.2.2 _ w283) d_JI_bitCount_11 ?_
  refine lv_iand hx hb d_JI_bitCount_14 ?_
  refine lv_iload_n hx hb d_JI_bitCount_15 rfl (lv_at hl 0 rfl) ?_
  refine lv_iconst (v := 2) hx hb d_JI_bitCount_16 (by decide) ?_
  refine lv_iushr hx hb d_JI_bitCount_17 rfl ?_
  refine lv_ldcw (v := 858993459) hx hb X.1.2.2.2.1 (X.1.2.2.2.2 _ w283) d_JI_bitCount_18 ?_
  refine lv_iand hx hb d_JI_bitCount_21 ?_
  refine lv_iadd hx hb d_JI_bitCount_22 ?_
  refine lv_topi (fun y23 ey23 => ?_)
  refine lv_istore_n (lv' := [(0, .int y23)]) hx hb d_JI_bitCount_23 rfl hl (by decide) rfl (fun ls hl => ?_)
  refine lv_iload_n hx hb d_JI_bitCount_24 rfl (lv_at hl 0 rfl) ?_
  refine lv_iload_n hx hb d_JI_bitCount_25 rfl (lv_at hl 0 rfl) ?_
  refine lv_iconst (v := 4) hx hb d_JI_bitCount_26 (by decide) ?_
  refine lv_iushr hx hb d_JI_bitCount_27 rfl ?_
  refine lv_iadd hx hb d_JI_bitCount_28 ?_
  refine lv_ldcw (v := 252645135) hx hb X.1.2.2.2.1 (X.1.2.2.2.2 _ w284) d_JI_bitCount_29 ?_
  refine lv_iand hx hb d_JI_bitCount_32 ?_
  refine lv_topi (fun y33 ey33 => ?_)
  refine lv_istore_n (lv' := [(0, .int y33)]) hx hb d_JI_bitCount_33 rfl hl (by decide) rfl (fun ls hl => ?_)
  refine lv_iload_n hx hb d_JI_bitCount_34 rfl (lv_at hl 0 rfl) ?_
  refine lv_iload_n hx hb d_JI_bitCount_35 rfl (lv_at hl 0 rfl) ?_
  refine lv_bipush (v := 8) hx hb d_JI_bitCount_36 (by decide) ?_
  refine lv_iushr hx hb d_JI_bitCount_38 rfl ?_
  refine lv_iadd hx hb d_JI_bitCount_39 ?_
  refine lv_topi (fun y40 ey40 => ?_)
  refine lv_istore_n (lv' := [(0, .int y40)]) hx hb d_JI_bitCount_40 rfl hl (by decide) rfl (fun ls hl => ?_)
  refine lv_iload_n hx hb d_JI_bitCount_41 rfl (lv_at hl 0 rfl) ?_
  refine lv_iload_n hx hb d_JI_bitCount_42 rfl (lv_at hl 0 rfl) ?_
  refine lv_bipush (v := 16) hx hb d_JI_bitCount_43 (by decide) ?_
  refine lv_iushr hx hb d_JI_bitCount_45 rfl ?_
  refine lv_iadd hx hb d_JI_bitCount_46 ?_
  refine lv_topi (fun y47 ey47 => ?_)
  refine lv_istore_n (lv' := [(0, .int y47)]) hx hb d_JI_bitCount_47 rfl hl (by decide) rfl (fun ls hl => ?_)
  refine lv_iload_n hx hb d_JI_bitCount_48 rfl (lv_at hl 0 rfl) ?_
  refine lv_bipush (v := 63) hx hb d_JI_bitCount_49 (by decide) ?_
  refine lv_iand hx hb d_JI_bitCount_51 ?_
  exact ret _ _ _ _ _ _ d_JI_bitCount_52 ⟨_, rfl, rfl⟩ ⟨by rw [ey47, ey40, ey33, ey23, ey9]; rfl, rfl⟩ Y
end
section
/-! Contracts: Table, what makes nothing and has no loop (by wip/gen/k2.py). -/
def q_isMask (x y z : Int32) : Int32 := if x = 0 then (if y ^^^ z = 0 then 1 else 0) else if x = 1 then (if (y ^^^ z) &&& ((y ^^^ z) + 1) = 0 then 1 else 0) else 1
def q_masks (hF hG oF oG s2 s4 : Int32) : Int32 := if q_isMask hF s2 oF = 0 then 0 else if q_isMask hG s4 oG = 0 then 0 else 1
def q_alw (al x : Int32) : Int32 := if x < 0 ∨ 16 ≤ x then 0 else if (al >>> (x &&& 31)) &&& 1 = 0 then 0 else 1
def q_pre (hF hG k2 k4 : Int32) : Int32 := if hF = 1 then q_bc k2 else if hG = 1 then q_bc k4 else 0
def q_bet (p1 p2 r1 r2 : Int32) : Int32 := if p1 = p2 then (if r1 ≤ r2 then 0 else 1) else (if p1 ≤ p2 then 0 else 1)
set_option maxHeartbeats 4000000 in
set_option maxRecDepth 100000 in
theorem c_T_matchKeys {l : Launch} {D : va_G} {g : Nat → ClassId} {b n : Nat} {A : Nat → Prop} {f : Nat → va_E} {t r sq : Nat} {cn xf xg hF hG oF oG al ms : Int32} (x1 x2 x3 x4 : Int32) (ot : fp_o b n f t (ob 6 [.ref r, .int cn, .int xf, .int xg, .int hF, .int hG, .int oF, .int oG, .int al, .int ms, .ref sq]))  (hA : fp_W b n A := by assumption) : fp_M l D (TY g) b n A y_T_matchKeys (fp_ws y_T_matchKeys b_T_matchKeys 5 none) (rmD 0) [.ref t, .int x1, .int x2, .int x3, .int x4] f (fun v f' => v = none ∧ f' = va_up f t (ob 6 [.ref r, .int 0, .int x1, .int x2, .int x3, .int x4, .int oF, .int oG, .int al, .int ms, .ref sq])) := by
  refine fp_ofV (plainFor_of_name (by decide)) (Nat.le_of_ble_eq_true rfl) ?_
  intro p e s m args below meth c Q ls H locs X Y hl ret
  have hx := X.1.1
  have hb := X.1.2.1
  have hl : lv_has ls 5 [(0, .ref t), (1, .int x1), (2, .int x2), (3, .int x3), (4, .int x4)] := hl
  refine lv_aload_n hx hb d_T_matchKeys_0 rfl (lv_at hl 0 rfl) ?_
  refine lv_iload_n hx hb d_T_matchKeys_1 rfl (lv_at hl 1 rfl) ?_
  refine fp_put X Y ot rfl in_T to_T nm_T 2 (by decide) w158 rfl rfl rfl (Nat.le_of_ble_eq_true rfl) d_T_matchKeys_2 (fun H locs Y => ?_)
  have Y : fp_H D b n A (va_up f t (ob 6 [.ref r, .int cn, .int x1, .int xg, .int hF, .int hG, .int oF, .int oG, .int al, .int ms, .ref sq])) s.heap H locs := Y
  have ot : fp_o b n (va_up f t (ob 6 [.ref r, .int cn, .int x1, .int xg, .int hF, .int hG, .int oF, .int oG, .int al, .int ms, .ref sq])) t (ob 6 [.ref r, .int cn, .int x1, .int xg, .int hF, .int hG, .int oF, .int oG, .int al, .int ms, .ref sq]) := fp_o.up ot
  refine lv_aload_n hx hb d_T_matchKeys_5 rfl (lv_at hl 0 rfl) ?_
  refine lv_iload_n hx hb d_T_matchKeys_6 rfl (lv_at hl 2 rfl) ?_
  refine fp_put X Y ot rfl in_T to_T nm_T 3 (by decide) w159 rfl rfl rfl (Nat.le_of_ble_eq_true rfl) d_T_matchKeys_7 (fun H locs Y => ?_)
  have Y := Y.re
  have Y : fp_H D b n A (va_up f t (ob 6 [.ref r, .int cn, .int x1, .int x2, .int hF, .int hG, .int oF, .int oG, .int al, .int ms, .ref sq])) s.heap H locs := Y
  have ot : fp_o b n (va_up f t (ob 6 [.ref r, .int cn, .int x1, .int x2, .int hF, .int hG, .int oF, .int oG, .int al, .int ms, .ref sq])) t (ob 6 [.ref r, .int cn, .int x1, .int x2, .int hF, .int hG, .int oF, .int oG, .int al, .int ms, .ref sq]) := fp_o.rs ot
  refine lv_aload_n hx hb d_T_matchKeys_10 rfl (lv_at hl 0 rfl) ?_
  refine lv_iload_n hx hb d_T_matchKeys_11 rfl (lv_at hl 3 rfl) ?_
  refine fp_put X Y ot rfl in_T to_T nm_T 4 (by decide) w160 rfl rfl rfl (Nat.le_of_ble_eq_true rfl) d_T_matchKeys_12 (fun H locs Y => ?_)
  have Y := Y.re
  have Y : fp_H D b n A (va_up f t (ob 6 [.ref r, .int cn, .int x1, .int x2, .int x3, .int hG, .int oF, .int oG, .int al, .int ms, .ref sq])) s.heap H locs := Y
  have ot : fp_o b n (va_up f t (ob 6 [.ref r, .int cn, .int x1, .int x2, .int x3, .int hG, .int oF, .int oG, .int al, .int ms, .ref sq])) t (ob 6 [.ref r, .int cn, .int x1, .int x2, .int x3, .int hG, .int oF, .int oG, .int al, .int ms, .ref sq]) := fp_o.rs ot
  refine lv_aload_n hx hb d_T_matchKeys_15 rfl (lv_at hl 0 rfl) ?_
  refine lv_iload hx hb d_T_matchKeys_16 (lv_at hl 4 rfl) ?_
  refine fp_put X Y ot rfl in_T to_T nm_T 5 (by decide) w161 rfl rfl rfl (Nat.le_of_ble_eq_true rfl) d_T_matchKeys_18 (fun H locs Y => ?_)
  have Y := Y.re
  have Y : fp_H D b n A (va_up f t (ob 6 [.ref r, .int cn, .int x1, .int x2, .int x3, .int x4, .int oF, .int oG, .int al, .int ms, .ref sq])) s.heap H locs := Y
  have ot : fp_o b n (va_up f t (ob 6 [.ref r, .int cn, .int x1, .int x2, .int x3, .int x4, .int oF, .int oG, .int al, .int ms, .ref sq])) t (ob 6 [.ref r, .int cn, .int x1, .int x2, .int x3, .int x4, .int oF, .int oG, .int al, .int ms, .ref sq]) := fp_o.rs ot
  refine lv_aload_n hx hb d_T_matchKeys_21 rfl (lv_at hl 0 rfl) ?_
  refine lv_iconst (v := 0) hx hb d_T_matchKeys_22 (by decide) ?_
  refine fp_put X Y ot rfl in_T to_T nm_T 1 (by decide) w156 rfl rfl rfl (Nat.le_of_ble_eq_true rfl) d_T_matchKeys_23 (fun H locs Y => ?_)
  have Y := Y.re
  have Y : fp_H D b n A (va_up f t (ob 6 [.ref r, .int 0, .int x1, .int x2, .int x3, .int x4, .int oF, .int oG, .int al, .int ms, .ref sq])) s.heap H locs := Y
  have ot : fp_o b n (va_up f t (ob 6 [.ref r, .int 0, .int x1, .int x2, .int x3, .int x4, .int oF, .int oG, .int al, .int ms, .ref sq])) t (ob 6 [.ref r, .int 0, .int x1, .int x2, .int x3, .int x4, .int oF, .int oG, .int al, .int ms, .ref sq]) := fp_o.rs ot
  exact ret _ _ _ _ _ d_T_matchKeys_26 ⟨rfl, rfl⟩ Y
set_option maxHeartbeats 4000000 in
set_option maxRecDepth 100000 in
theorem c_T_cutKeysTo {l : Launch} {D : va_G} {g : Nat → ClassId} {b n : Nat} {A : Nat → Prop} {f : Nat → va_E} {t r sq : Nat} {cn xf xg hF hG oF oG al ms : Int32} (x1 x2 : Int32) (ot : fp_o b n f t (ob 6 [.ref r, .int cn, .int xf, .int xg, .int hF, .int hG, .int oF, .int oG, .int al, .int ms, .ref sq]))  (hA : fp_W b n A := by assumption) : fp_M l D (TY g) b n A y_T_cutKeysTo (fp_ws y_T_cutKeysTo b_T_cutKeysTo 3 none) (rmD 0) [.ref t, .int x1, .int x2] f (fun v f' => v = none ∧ f' = va_up f t (ob 6 [.ref r, .int cn, .int xf, .int xg, .int hF, .int hG, .int x1, .int x2, .int al, .int ms, .ref sq])) := by
  refine fp_ofV (plainFor_of_name (by decide)) (Nat.le_of_ble_eq_true rfl) ?_
  intro p e s m args below meth c Q ls H locs X Y hl ret
  have hx := X.1.1
  have hb := X.1.2.1
  have hl : lv_has ls 3 [(0, .ref t), (1, .int x1), (2, .int x2)] := hl
  refine lv_aload_n hx hb d_T_cutKeysTo_0 rfl (lv_at hl 0 rfl) ?_
  refine lv_iload_n hx hb d_T_cutKeysTo_1 rfl (lv_at hl 1 rfl) ?_
  refine fp_put X Y ot rfl in_T to_T nm_T 6 (by decide) w162 rfl rfl rfl (Nat.le_of_ble_eq_true rfl) d_T_cutKeysTo_2 (fun H locs Y => ?_)
  have Y : fp_H D b n A (va_up f t (ob 6 [.ref r, .int cn, .int xf, .int xg, .int hF, .int hG, .int x1, .int oG, .int al, .int ms, .ref sq])) s.heap H locs := Y
  have ot : fp_o b n (va_up f t (ob 6 [.ref r, .int cn, .int xf, .int xg, .int hF, .int hG, .int x1, .int oG, .int al, .int ms, .ref sq])) t (ob 6 [.ref r, .int cn, .int xf, .int xg, .int hF, .int hG, .int x1, .int oG, .int al, .int ms, .ref sq]) := fp_o.up ot
  refine lv_aload_n hx hb d_T_cutKeysTo_5 rfl (lv_at hl 0 rfl) ?_
  refine lv_iload_n hx hb d_T_cutKeysTo_6 rfl (lv_at hl 2 rfl) ?_
  refine fp_put X Y ot rfl in_T to_T nm_T 7 (by decide) w163 rfl rfl rfl (Nat.le_of_ble_eq_true rfl) d_T_cutKeysTo_7 (fun H locs Y => ?_)
  have Y := Y.re
  have Y : fp_H D b n A (va_up f t (ob 6 [.ref r, .int cn, .int xf, .int xg, .int hF, .int hG, .int x1, .int x2, .int al, .int ms, .ref sq])) s.heap H locs := Y
  have ot : fp_o b n (va_up f t (ob 6 [.ref r, .int cn, .int xf, .int xg, .int hF, .int hG, .int x1, .int x2, .int al, .int ms, .ref sq])) t (ob 6 [.ref r, .int cn, .int xf, .int xg, .int hF, .int hG, .int x1, .int x2, .int al, .int ms, .ref sq]) := fp_o.rs ot
  exact ret _ _ _ _ _ d_T_cutKeysTo_10 ⟨rfl, rfl⟩ Y
set_option maxHeartbeats 4000000 in
set_option maxRecDepth 100000 in
theorem c_T_allowActions {l : Launch} {D : va_G} {g : Nat → ClassId} {b n : Nat} {A : Nat → Prop} {f : Nat → va_E} {t r sq : Nat} {cn xf xg hF hG oF oG al ms : Int32} (x1 x2 : Int32) (ot : fp_o b n f t (ob 6 [.ref r, .int cn, .int xf, .int xg, .int hF, .int hG, .int oF, .int oG, .int al, .int ms, .ref sq]))  (hA : fp_W b n A := by assumption) : fp_M l D (TY g) b n A y_T_allowActions (fp_ws y_T_allowActions b_T_allowActions 3 none) (rmD 0) [.ref t, .int x1, .int x2] f (fun v f' => v = none ∧ f' = va_up f t (ob 6 [.ref r, .int cn, .int xf, .int xg, .int hF, .int hG, .int oF, .int oG, .int x1, .int x2, .ref sq])) := by
  refine fp_ofV (plainFor_of_name (by decide)) (Nat.le_of_ble_eq_true rfl) ?_
  intro p e s m args below meth c Q ls H locs X Y hl ret
  have hx := X.1.1
  have hb := X.1.2.1
  have hl : lv_has ls 3 [(0, .ref t), (1, .int x1), (2, .int x2)] := hl
  refine lv_aload_n hx hb d_T_allowActions_0 rfl (lv_at hl 0 rfl) ?_
  refine lv_iload_n hx hb d_T_allowActions_1 rfl (lv_at hl 1 rfl) ?_
  refine fp_put X Y ot rfl in_T to_T nm_T 8 (by decide) w164 rfl rfl rfl (Nat.le_of_ble_eq_true rfl) d_T_allowActions_2 (fun H locs Y => ?_)
  have Y : fp_H D b n A (va_up f t (ob 6 [.ref r, .int cn, .int xf, .int xg, .int hF, .int hG, .int oF, .int oG, .int x1, .int ms, .ref sq])) s.heap H locs := Y
  have ot : fp_o b n (va_up f t (ob 6 [.ref r, .int cn, .int xf, .int xg, .int hF, .int hG, .int oF, .int oG, .int x1, .int ms, .ref sq])) t (ob 6 [.ref r, .int cn, .int xf, .int xg, .int hF, .int hG, .int oF, .int oG, .int x1, .int ms, .ref sq]) := fp_o.up ot
  refine lv_aload_n hx hb d_T_allowActions_5 rfl (lv_at hl 0 rfl) ?_
  refine lv_iload_n hx hb d_T_allowActions_6 rfl (lv_at hl 2 rfl) ?_
  refine fp_put X Y ot rfl in_T to_T nm_T 9 (by decide) w165 rfl rfl rfl (Nat.le_of_ble_eq_true rfl) d_T_allowActions_7 (fun H locs Y => ?_)
  have Y := Y.re
  have Y : fp_H D b n A (va_up f t (ob 6 [.ref r, .int cn, .int xf, .int xg, .int hF, .int hG, .int oF, .int oG, .int x1, .int x2, .ref sq])) s.heap H locs := Y
  have ot : fp_o b n (va_up f t (ob 6 [.ref r, .int cn, .int xf, .int xg, .int hF, .int hG, .int oF, .int oG, .int x1, .int x2, .ref sq])) t (ob 6 [.ref r, .int cn, .int xf, .int xg, .int hF, .int hG, .int oF, .int oG, .int x1, .int x2, .ref sq]) := fp_o.rs ot
  exact ret _ _ _ _ _ d_T_allowActions_10 ⟨rfl, rfl⟩ Y
set_option maxHeartbeats 4000000 in
set_option maxRecDepth 100000 in
theorem c_T_isMask {l : Launch} {D : va_G} {g : Nat → ClassId} {b n : Nat} {A : Nat → Prop} {f : Nat → va_E} (x y z : Int32)   : fp_M l D (TY g) b n A y_T_isMask (fp_ws y_T_isMask b_T_isMask 4 (some FieldType.boolean)) (rmD 0) [.int x, .int y, .int z] f (fun v f' => v = some (.int (q_isMask x y z)) ∧ f' = f) := by
  refine fp_ofI (plainFor_of_name (by decide)) (Nat.le_of_ble_eq_true rfl) ?_
  intro p e s m args below meth c Q ls H locs X Y hl ret
  have hx := X.1.1
  have hb := X.1.2.1
  have hl : lv_has ls 4 [(0, .int x), (1, .int y), (2, .int z)] := hl
  refine lv_iload_n hx hb d_T_isMask_0 rfl (lv_at hl 1 rfl) ?_
  refine lv_iload_n hx hb d_T_isMask_1 rfl (lv_at hl 2 rfl) ?_
  refine lv_ixor hx hb d_T_isMask_2 ?_
  refine lv_istore_n (lv' := [(3, .int (y ^^^ z)), (0, .int x), (1, .int y), (2, .int z)]) hx hb d_T_isMask_3 rfl hl (by decide) rfl (fun ls hl => ?_)
  refine lv_iload_n hx hb d_T_isMask_4 rfl (lv_at hl 1 rfl) ?_
  refine lv_if_ne (tgt := 18) hx hb d_T_isMask_5 (by decide) (fun c_5 => ?_) (fun c_5 => ?_)
  · refine lv_iload_n hx hb d_T_isMask_18 rfl (lv_at hl 1 rfl) ?_
    refine lv_iconst (v := 1) hx hb d_T_isMask_19 (by decide) ?_
    refine lv_icmp_ne (tgt := 31) hx hb d_T_isMask_20 (by decide) (fun c_20 => ?_) (fun c_20 => ?_)
    · refine lv_iconst (v := 1) hx hb d_T_isMask_31 (by decide) ?_
      refine lv_goto (tgt := 36) hx hb d_T_isMask_32 (by decide) ?_
      exact ret _ _ _ _ _ _ d_T_isMask_36 ⟨_, rfl, rfl⟩ ⟨by simp [q_isMask, c_5, c_20], rfl⟩ Y
    · refine lv_iload_n hx hb d_T_isMask_23 rfl (lv_at hl 0 rfl) ?_
      refine lv_iload_n hx hb d_T_isMask_24 rfl (lv_at hl 0 rfl) ?_
      refine lv_iconst (v := 1) hx hb d_T_isMask_25 (by decide) ?_
      refine lv_iadd hx hb d_T_isMask_26 ?_
      refine lv_iand hx hb d_T_isMask_27 ?_
      refine lv_if_ne (tgt := 35) hx hb d_T_isMask_28 (by decide) (fun c_28 => ?_) (fun c_28 => ?_)
      · refine lv_iconst (v := 0) hx hb d_T_isMask_35 (by decide) ?_
        exact ret _ _ _ _ _ _ d_T_isMask_36 ⟨_, rfl, rfl⟩ ⟨by simp [q_isMask, c_5, c_20, c_28], rfl⟩ Y
      · refine lv_iconst (v := 1) hx hb d_T_isMask_31 (by decide) ?_
        refine lv_goto (tgt := 36) hx hb d_T_isMask_32 (by decide) ?_
        exact ret _ _ _ _ _ _ d_T_isMask_36 ⟨_, rfl, rfl⟩ ⟨by simp [q_isMask, c_5, c_20, c_28], rfl⟩ Y
  · refine lv_iload_n hx hb d_T_isMask_8 rfl (lv_at hl 0 rfl) ?_
    refine lv_if_ne (tgt := 16) hx hb d_T_isMask_9 (by decide) (fun c_9 => ?_) (fun c_9 => ?_)
    · refine lv_iconst (v := 0) hx hb d_T_isMask_16 (by decide) ?_
      exact ret _ _ _ _ _ _ d_T_isMask_17 ⟨_, rfl, rfl⟩ ⟨by simp [q_isMask, c_5, c_9], rfl⟩ Y
    · refine lv_iconst (v := 1) hx hb d_T_isMask_12 (by decide) ?_
      refine lv_goto (tgt := 17) hx hb d_T_isMask_13 (by decide) ?_
      exact ret _ _ _ _ _ _ d_T_isMask_17 ⟨_, rfl, rfl⟩ ⟨by simp [q_isMask, c_5, c_9], rfl⟩ Y
set_option maxHeartbeats 4000000 in
set_option maxRecDepth 100000 in
theorem c_T_isAllowed {l : Launch} {D : va_G} {g : Nat → ClassId} {b n : Nat} {A : Nat → Prop} {f : Nat → va_E} {t r sq : Nat} {cn xf xg hF hG oF oG al ms : Int32} (x : Int32) (ot : fp_o b n f t (ob 6 [.ref r, .int cn, .int xf, .int xg, .int hF, .int hG, .int oF, .int oG, .int al, .int ms, .ref sq]))  : fp_M l D (TY g) b n A y_T_isAllowed (fp_ws y_T_isAllowed b_T_isAllowed 2 (some FieldType.boolean)) (rmD 0) [.ref t, .int x] f (fun v f' => v = some (.int (q_alw al x)) ∧ f' = f) := by
  refine fp_ofI (plainFor_of_name (by decide)) (Nat.le_of_ble_eq_true rfl) ?_
  intro p e s m args below meth c Q ls H locs X Y hl ret
  have hx := X.1.1
  have hb := X.1.2.1
  have hl : lv_has ls 2 [(0, .ref t), (1, .int x)] := hl
  refine lv_iload_n hx hb d_T_isAllowed_0 rfl (lv_at hl 1 rfl) ?_
  refine lv_if_lt (tgt := 25) hx hb d_T_isAllowed_1 (by decide) (fun c_1 => ?_) (fun c_1 => ?_)
  · refine lv_iconst (v := 0) hx hb d_T_isAllowed_25 (by decide) ?_
    exact ret _ _ _ _ _ _ d_T_isAllowed_26 ⟨_, rfl, rfl⟩ ⟨by simp [q_alw, c_1], rfl⟩ Y
  · refine lv_iload_n hx hb d_T_isAllowed_4 rfl (lv_at hl 1 rfl) ?_
    refine lv_bipush (v := 16) hx hb d_T_isAllowed_5 (by decide) ?_
    refine lv_icmp_ge (tgt := 25) hx hb d_T_isAllowed_7 (by decide) (fun c_7 => ?_) (fun c_7 => ?_)
    · refine lv_iconst (v := 0) hx hb d_T_isAllowed_25 (by decide) ?_
      exact ret _ _ _ _ _ _ d_T_isAllowed_26 ⟨_, rfl, rfl⟩ ⟨by simp [q_alw, c_1, c_7], rfl⟩ Y
    · refine lv_aload_n hx hb d_T_isAllowed_10 rfl (lv_at hl 0 rfl) ?_
      refine fp_get X Y ot rfl in_T 8 (by decide) w164 rfl d_T_isAllowed_11 ?_
      refine lv_iload_n hx hb d_T_isAllowed_14 rfl (lv_at hl 1 rfl) ?_
      refine lv_ishr hx hb d_T_isAllowed_15 ?_
      refine lv_iconst (v := 1) hx hb d_T_isAllowed_16 (by decide) ?_
      refine lv_iand hx hb d_T_isAllowed_17 ?_
      refine lv_if_eq (tgt := 25) hx hb d_T_isAllowed_18 (by decide) (fun c_18 => ?_) (fun c_18 => ?_)
      · refine lv_iconst (v := 0) hx hb d_T_isAllowed_25 (by decide) ?_
        exact ret _ _ _ _ _ _ d_T_isAllowed_26 ⟨_, rfl, rfl⟩ ⟨by simp [q_alw, c_1, c_7, c_18], rfl⟩ Y
      · refine lv_iconst (v := 1) hx hb d_T_isAllowed_21 (by decide) ?_
        refine lv_goto (tgt := 26) hx hb d_T_isAllowed_22 (by decide) ?_
        exact ret _ _ _ _ _ _ d_T_isAllowed_26 ⟨_, rfl, rfl⟩ ⟨by simp [q_alw, c_1, c_7, c_18], rfl⟩ Y
set_option maxHeartbeats 4000000 in
set_option maxRecDepth 100000 in
theorem c_T_areMasks {l : Launch} {D : va_G} {g : Nat → ClassId} {b n : Nat} {A : Nat → Prop} {f : Nat → va_E} {t r sq : Nat} {cn xf xg hF hG oF oG al ms : Int32} {s1 s2 s3 s4 : Int32} (ot : fp_o b n f t (ob 6 [.ref r, .int cn, .int xf, .int xg, .int hF, .int hG, .int oF, .int oG, .int al, .int ms, .ref sq])) (os : fp_o b n f sq (ob 5 [.int s1, .int s2, .int s3, .int s4]))  : fp_M l D (TY g) b n A y_T_areMasks (fp_ws y_T_areMasks b_T_areMasks 1 (some FieldType.boolean)) (rmD 1) [.ref t] f (fun v f' => v = some (.int (q_masks hF hG oF oG s2 s4)) ∧ f' = f) := by
  refine fp_ofI (plainFor_of_name (by decide)) (Nat.le_of_ble_eq_true rfl) ?_
  intro p e s m args below meth c Q ls H locs X Y hl ret
  have hx := X.1.1
  have hb := X.1.2.1
  have hl : lv_has ls 1 [(0, .ref t)] := hl
  refine lv_aload_n hx hb d_T_areMasks_0 rfl (lv_at hl 0 rfl) ?_
  refine fp_get X Y ot rfl in_T 4 (by decide) w160 rfl d_T_areMasks_1 ?_
  refine lv_aload_n hx hb d_T_areMasks_4 rfl (lv_at hl 0 rfl) ?_
  refine fp_get X Y ot rfl in_T 10 (by decide) w167 rfl d_T_areMasks_5 ?_
  refine fp_getN X Y os rfl in_K 1 (by decide) nw67 rfl d_T_areMasks_8 ?_
  refine lv_aload_n hx hb d_T_areMasks_11 rfl (lv_at hl 0 rfl) ?_
  refine fp_get X Y ot rfl in_T 6 (by decide) w162 rfl d_T_areMasks_12 ?_
  refine fp_callS (nA := 3) (As := [.int hF, .int s2, .int oF]) (rest := []) X Y (c_T_isMask hF s2 oF) w545 w543 w544 w7 (by decide +kernel) ⟨rfl, rfl⟩ ⟨Nat.le_of_ble_eq_true rfl, Nat.le_of_ble_eq_true rfl⟩ rfl hl.1 rfl (Nat.le_of_ble_eq_true rfl) d_T_areMasks_15 ⟨Nat.zero_le _, Nat.zero_le _⟩ (fun v9 f9 H locs hp9 Y => ?_)
  obtain ⟨e8, e9⟩ := hp9
  subst e8
  rw [e9] at Y
  refine W.eq (g2 := F0 m 18 ls [.int (q_isMask hF s2 oF)]) rfl ?_
  refine lv_if_eq (tgt := 46) hx hb d_T_areMasks_18 (by decide) (fun c_18 => ?_) (fun c_18 => ?_)
  · refine lv_iconst (v := 0) hx hb d_T_areMasks_46 (by decide) ?_
    exact ret _ _ _ _ _ _ d_T_areMasks_47 ⟨_, rfl, rfl⟩ ⟨by simp [q_masks, c_18], rfl⟩ Y
  · refine lv_aload_n hx hb d_T_areMasks_21 rfl (lv_at hl 0 rfl) ?_
    refine fp_get X Y ot rfl in_T 5 (by decide) w161 rfl d_T_areMasks_22 ?_
    refine lv_aload_n hx hb d_T_areMasks_25 rfl (lv_at hl 0 rfl) ?_
    refine fp_get X Y ot rfl in_T 10 (by decide) w167 rfl d_T_areMasks_26 ?_
    refine fp_getN X Y os rfl in_K 3 (by decide) nw71 rfl d_T_areMasks_29 ?_
    refine lv_aload_n hx hb d_T_areMasks_32 rfl (lv_at hl 0 rfl) ?_
    refine fp_get X Y ot rfl in_T 7 (by decide) w163 rfl d_T_areMasks_33 ?_
    refine fp_callS (nA := 3) (As := [.int hG, .int s4, .int oG]) (rest := []) X Y (c_T_isMask hG s4 oG) w545 w543 w544 w7 (by decide +kernel) ⟨rfl, rfl⟩ ⟨Nat.le_of_ble_eq_true rfl, Nat.le_of_ble_eq_true rfl⟩ rfl hl.1 rfl (Nat.le_of_ble_eq_true rfl) d_T_areMasks_36 ⟨Nat.zero_le _, Nat.zero_le _⟩ (fun v9 f9 H locs hp9 Y => ?_)
    obtain ⟨e8, e9⟩ := hp9
    subst e8
    rw [e9] at Y
    refine W.eq (g2 := F0 m 39 ls [.int (q_isMask hG s4 oG)]) rfl ?_
    refine lv_if_eq (tgt := 46) hx hb d_T_areMasks_39 (by decide) (fun c_39 => ?_) (fun c_39 => ?_)
    · refine lv_iconst (v := 0) hx hb d_T_areMasks_46 (by decide) ?_
      exact ret _ _ _ _ _ _ d_T_areMasks_47 ⟨_, rfl, rfl⟩ ⟨by simp [q_masks, c_18, c_39], rfl⟩ Y
    · refine lv_iconst (v := 1) hx hb d_T_areMasks_42 (by decide) ?_
      refine lv_goto (tgt := 47) hx hb d_T_areMasks_43 (by decide) ?_
      exact ret _ _ _ _ _ _ d_T_areMasks_47 ⟨_, rfl, rfl⟩ ⟨by simp [q_masks, c_18, c_39], rfl⟩ Y
set_option maxHeartbeats 4000000 in
set_option maxRecDepth 100000 in
theorem c_T_prefixOnes {l : Launch} {D : va_G} {g : Nat → ClassId} {b n : Nat} {A : Nat → Prop} {f : Nat → va_E} {t r sq : Nat} {cn xf xg hF hG oF oG al ms : Int32} {kq : Nat} {k1 k2 k3 k4 : Int32} (ot : fp_o b n f t (ob 6 [.ref r, .int cn, .int xf, .int xg, .int hF, .int hG, .int oF, .int oG, .int al, .int ms, .ref sq])) (ok : fp_o b n f kq (ob 5 [.int k1, .int k2, .int k3, .int k4]))  : fp_M l D (TY g) b n A y_T_prefixOnes (fp_ws y_T_prefixOnes b_T_prefixOnes 2 (some FieldType.int)) (rmD 1) [.ref t, .ref kq] f (fun v f' => v = some (.int (q_pre hF hG k2 k4)) ∧ f' = f) := by
  refine fp_ofI (plainFor_of_name (by decide)) (Nat.le_of_ble_eq_true rfl) ?_
  intro p e s m args below meth c Q ls H locs X Y hl ret
  have hx := X.1.1
  have hb := X.1.2.1
  have hl : lv_has ls 2 [(0, .ref t), (1, .ref kq)] := hl
  refine lv_aload_n hx hb d_T_prefixOnes_0 rfl (lv_at hl 0 rfl) ?_
  refine fp_get X Y ot rfl in_T 4 (by decide) w160 rfl d_T_prefixOnes_1 ?_
  refine lv_iconst (v := 1) hx hb d_T_prefixOnes_4 (by decide) ?_
  refine lv_icmp_ne (tgt := 16) hx hb d_T_prefixOnes_5 (by decide) (fun c_5 => ?_) (fun c_5 => ?_)
  · refine lv_aload_n hx hb d_T_prefixOnes_16 rfl (lv_at hl 0 rfl) ?_
    refine fp_get X Y ot rfl in_T 5 (by decide) w161 rfl d_T_prefixOnes_17 ?_
    refine lv_iconst (v := 1) hx hb d_T_prefixOnes_20 (by decide) ?_
    refine lv_icmp_ne (tgt := 34) hx hb d_T_prefixOnes_21 (by decide) (fun c_21 => ?_) (fun c_21 => ?_)
    · refine lv_iconst (v := 0) hx hb d_T_prefixOnes_34 (by decide) ?_
      exact ret _ _ _ _ _ _ d_T_prefixOnes_35 ⟨_, rfl, rfl⟩ ⟨by simp [q_pre, c_5, c_21], rfl⟩ Y
    · refine lv_aload_n hx hb d_T_prefixOnes_24 rfl (lv_at hl 1 rfl) ?_
      refine fp_getN X Y ok rfl in_K 3 (by decide) nw71 rfl d_T_prefixOnes_25 ?_
      refine fp_callS (nA := 1) (As := [.int k4]) (rest := []) X Y (c_JI_bitCount k4) w281 w279 w280 w17 (by decide +kernel) ⟨rfl, rfl⟩ ⟨Nat.le_of_ble_eq_true rfl, Nat.le_of_ble_eq_true rfl⟩ rfl hl.1 rfl (Nat.le_of_ble_eq_true rfl) d_T_prefixOnes_28 ⟨Nat.zero_le _, Nat.zero_le _⟩ (fun v9 f9 H locs hp9 Y => ?_)
      obtain ⟨e8, e9⟩ := hp9
      subst e8
      rw [e9] at Y
      refine W.eq (g2 := F0 m 31 ls [.int (q_bc k4)]) rfl ?_
      refine lv_goto (tgt := 35) hx hb d_T_prefixOnes_31 (by decide) ?_
      exact ret _ _ _ _ _ _ d_T_prefixOnes_35 ⟨_, rfl, rfl⟩ ⟨by simp [q_pre, c_5, c_21], rfl⟩ Y
  · refine lv_aload_n hx hb d_T_prefixOnes_8 rfl (lv_at hl 1 rfl) ?_
    refine fp_getN X Y ok rfl in_K 1 (by decide) nw67 rfl d_T_prefixOnes_9 ?_
    refine fp_callS (nA := 1) (As := [.int k2]) (rest := []) X Y (c_JI_bitCount k2) w281 w279 w280 w17 (by decide +kernel) ⟨rfl, rfl⟩ ⟨Nat.le_of_ble_eq_true rfl, Nat.le_of_ble_eq_true rfl⟩ rfl hl.1 rfl (Nat.le_of_ble_eq_true rfl) d_T_prefixOnes_12 ⟨Nat.zero_le _, Nat.zero_le _⟩ (fun v9 f9 H locs hp9 Y => ?_)
    obtain ⟨e8, e9⟩ := hp9
    subst e8
    rw [e9] at Y
    refine W.eq (g2 := F0 m 15 ls [.int (q_bc k2)]) rfl ?_
    exact ret _ _ _ _ _ _ d_T_prefixOnes_15 ⟨_, rfl, rfl⟩ ⟨by simp [q_pre, c_5], rfl⟩ Y
set_option maxHeartbeats 4000000 in
set_option maxRecDepth 100000 in
theorem c_T_isBetter {l : Launch} {D : va_G} {g : Nat → ClassId} {b n : Nat} {A : Nat → Prop} {f : Nat → va_E} {t r sq : Nat} {cn xf xg hF hG oF oG al ms : Int32} {e1 e2 kq jq : Nat} {k1 k2 k3 k4 j1 j2 j3 j4 p1 p2 p3 p4 r1 r2 r3 r4 : Int32} (ot : fp_o b n f t (ob 6 [.ref r, .int cn, .int xf, .int xg, .int hF, .int hG, .int oF, .int oG, .int al, .int ms, .ref sq])) (oe1 : fp_o b n f e1 (ob 3 [.ref kq, .int p1, .int p2, .int p3, .int p4])) (ok : fp_o b n f kq (ob 5 [.int k1, .int k2, .int k3, .int k4])) (oe2 : fp_o b n f e2 (ob 3 [.ref jq, .int r1, .int r2, .int r3, .int r4])) (oj : fp_o b n f jq (ob 5 [.int j1, .int j2, .int j3, .int j4]))  : fp_M l D (TY g) b n A y_T_isBetter (fp_ws y_T_isBetter b_T_isBetter 5 (some FieldType.boolean)) (rmD 2) [.ref t, .ref e1, .ref e2] f (fun v f' => v = some (.int (q_bet (q_pre hF hG k2 k4) (q_pre hF hG j2 j4) p1 r1)) ∧ f' = f) := by
  refine fp_ofI (plainFor_of_name (by decide)) (Nat.le_of_ble_eq_true rfl) ?_
  intro p e s m args below meth c Q ls H locs X Y hl ret
  have hx := X.1.1
  have hb := X.1.2.1
  have hl : lv_has ls 5 [(0, .ref t), (1, .ref e1), (2, .ref e2)] := hl
  refine lv_aload_n hx hb d_T_isBetter_0 rfl (lv_at hl 0 rfl) ?_
  refine lv_aload_n hx hb d_T_isBetter_1 rfl (lv_at hl 1 rfl) ?_
  refine fp_getN X Y oe1 rfl in_E 0 (by decide) nw136 rfl d_T_isBetter_2 ?_
  refine fp_callV (nA := 1) (As := [.ref kq]) (rest := []) X Y (c_T_prefixOnes ot ok) ot rfl w278 w275 w277 wp2 w7 (by decide +kernel) ⟨rfl, rfl⟩ ⟨Nat.le_of_ble_eq_true rfl, Nat.le_of_ble_eq_true rfl⟩ rfl hl.1 rfl (Nat.le_of_ble_eq_true rfl) d_T_isBetter_5 ⟨Nat.zero_le _, Nat.zero_le _⟩ (fun v9 f9 H locs hp9 Y => ?_)
  obtain ⟨e8, e9⟩ := hp9
  subst e8
  rw [e9] at Y
  refine W.eq (g2 := F0 m 8 ls [.int (q_pre hF hG k2 k4)]) rfl ?_
  refine lv_istore_n (lv' := [(3, .int (q_pre hF hG k2 k4)), (0, .ref t), (1, .ref e1), (2, .ref e2)]) hx hb d_T_isBetter_8 rfl hl (by decide) rfl (fun ls hl => ?_)
  refine lv_aload_n hx hb d_T_isBetter_9 rfl (lv_at hl 1 rfl) ?_
  refine lv_aload_n hx hb d_T_isBetter_10 rfl (lv_at hl 3 rfl) ?_
  refine fp_getN X Y oe2 rfl in_E 0 (by decide) nw136 rfl d_T_isBetter_11 ?_
  refine fp_callV (nA := 1) (As := [.ref jq]) (rest := []) X Y (c_T_prefixOnes ot oj) ot rfl w278 w275 w277 wp2 w7 (by decide +kernel) ⟨rfl, rfl⟩ ⟨Nat.le_of_ble_eq_true rfl, Nat.le_of_ble_eq_true rfl⟩ rfl hl.1 rfl (Nat.le_of_ble_eq_true rfl) d_T_isBetter_14 ⟨Nat.zero_le _, Nat.zero_le _⟩ (fun v9 f9 H locs hp9 Y => ?_)
  obtain ⟨e8, e9⟩ := hp9
  subst e8
  rw [e9] at Y
  refine W.eq (g2 := F0 m 17 ls [.int (q_pre hF hG j2 j4)]) rfl ?_
  refine lv_istore (lv' := [(4, .int (q_pre hF hG j2 j4)), (3, .int (q_pre hF hG k2 k4)), (0, .ref t), (1, .ref e1), (2, .ref e2)]) hx hb d_T_isBetter_17 hl (by decide) rfl (fun ls hl => ?_)
  refine lv_iload_n hx hb d_T_isBetter_19 rfl (lv_at hl 1 rfl) ?_
  refine lv_iload hx hb d_T_isBetter_20 (lv_at hl 0 rfl) ?_
  refine lv_icmp_eq (tgt := 37) hx hb d_T_isBetter_22 (by decide) (fun c_22 => ?_) (fun c_22 => ?_)
  · refine lv_aload_n hx hb d_T_isBetter_37 rfl (lv_at hl 3 rfl) ?_
    refine fp_getN X Y oe1 rfl in_E 1 (by decide) nw137 rfl d_T_isBetter_38 ?_
    refine lv_aload_n hx hb d_T_isBetter_41 rfl (lv_at hl 4 rfl) ?_
    refine fp_getN X Y oe2 rfl in_E 1 (by decide) nw137 rfl d_T_isBetter_42 ?_
    refine lv_icmp_le (tgt := 52) hx hb d_T_isBetter_45 (by decide) (fun c_45 => ?_) (fun c_45 => ?_)
    · refine lv_iconst (v := 0) hx hb d_T_isBetter_52 (by decide) ?_
      exact ret _ _ _ _ _ _ d_T_isBetter_53 ⟨_, rfl, rfl⟩ ⟨by simp [q_bet, c_22, c_45], rfl⟩ Y
    · refine lv_iconst (v := 1) hx hb d_T_isBetter_48 (by decide) ?_
      refine lv_goto (tgt := 53) hx hb d_T_isBetter_49 (by decide) ?_
      exact ret _ _ _ _ _ _ d_T_isBetter_53 ⟨_, rfl, rfl⟩ ⟨by simp [q_bet, c_22, c_45], rfl⟩ Y
  · refine lv_iload_n hx hb d_T_isBetter_25 rfl (lv_at hl 1 rfl) ?_
    refine lv_iload hx hb d_T_isBetter_26 (lv_at hl 0 rfl) ?_
    refine lv_icmp_le (tgt := 35) hx hb d_T_isBetter_28 (by decide) (fun c_28 => ?_) (fun c_28 => ?_)
    · refine lv_iconst (v := 0) hx hb d_T_isBetter_35 (by decide) ?_
      exact ret _ _ _ _ _ _ d_T_isBetter_36 ⟨_, rfl, rfl⟩ ⟨by simp [q_bet, c_22, c_28], rfl⟩ Y
    · refine lv_iconst (v := 1) hx hb d_T_isBetter_31 (by decide) ?_
      refine lv_goto (tgt := 36) hx hb d_T_isBetter_32 (by decide) ?_
      exact ret _ _ _ _ _ _ d_T_isBetter_36 ⟨_, rfl, rfl⟩ ⟨by simp [q_bet, c_22, c_28], rfl⟩ Y
set_option maxHeartbeats 4000000 in
set_option maxRecDepth 100000 in
theorem c_T_seek {l : Launch} {D : va_G} {g : Nat → ClassId} {b n : Nat} {A : Nat → Prop} {f : Nat → va_E} {t r sq : Nat} {cn xf xg hF hG oF oG al ms : Int32} {kq : Nat} {k1 k2 k3 k4 s1 s2 s3 s4 : Int32} (ot : fp_o b n f t (ob 6 [.ref r, .int cn, .int xf, .int xg, .int hF, .int hG, .int oF, .int oG, .int al, .int ms, .ref sq])) (os : fp_o b n f sq (ob 5 [.int s1, .int s2, .int s3, .int s4])) (ok : fp_o b n f kq (ob 5 [.int k1, .int k2, .int k3, .int k4]))  (hA : fp_W b n A := by assumption) : fp_M l D (TY g) b n A y_T_seek (fp_ws y_T_seek b_T_seek 4 none) (rmD 1) [.ref t, .ref kq] f (fun v f' => v = none ∧ f' = va_up f sq (ob 5 [.int (k1 &&& (k2 &&& oF)), .int (k2 &&& oF), .int (k3 &&& (k4 &&& oG)), .int (k4 &&& oG)])) := by
  refine fp_ofV (plainFor_of_name (by decide)) (Nat.le_of_ble_eq_true rfl) ?_
  intro p e s m args below meth c Q ls H locs X Y hl ret
  have hx := X.1.1
  have hb := X.1.2.1
  have hl : lv_has ls 4 [(0, .ref t), (1, .ref kq)] := hl
  refine lv_aload_n hx hb d_T_seek_0 rfl (lv_at hl 1 rfl) ?_
  refine fp_getN X Y ok rfl in_K 1 (by decide) nw67 rfl d_T_seek_1 ?_
  refine lv_aload_n hx hb d_T_seek_4 rfl (lv_at hl 0 rfl) ?_
  refine fp_get X Y ot rfl in_T 6 (by decide) w162 rfl d_T_seek_5 ?_
  refine lv_iand hx hb d_T_seek_8 ?_
  refine lv_istore_n (lv' := [(2, .int (k2 &&& oF)), (0, .ref t), (1, .ref kq)]) hx hb d_T_seek_9 rfl hl (by decide) rfl (fun ls hl => ?_)
  refine lv_aload_n hx hb d_T_seek_10 rfl (lv_at hl 2 rfl) ?_
  refine fp_getN X Y ok rfl in_K 3 (by decide) nw71 rfl d_T_seek_11 ?_
  refine lv_aload_n hx hb d_T_seek_14 rfl (lv_at hl 1 rfl) ?_
  refine fp_get X Y ot rfl in_T 7 (by decide) w163 rfl d_T_seek_15 ?_
  refine lv_iand hx hb d_T_seek_18 ?_
  refine lv_istore_n (lv' := [(3, .int (k4 &&& oG)), (2, .int (k2 &&& oF)), (0, .ref t), (1, .ref kq)]) hx hb d_T_seek_19 rfl hl (by decide) rfl (fun ls hl => ?_)
  refine lv_aload_n hx hb d_T_seek_20 rfl (lv_at hl 2 rfl) ?_
  refine fp_get X Y ot rfl in_T 10 (by decide) w167 rfl d_T_seek_21 ?_
  refine lv_aload_n hx hb d_T_seek_24 rfl (lv_at hl 3 rfl) ?_
  refine fp_getN X Y ok rfl in_K 0 (by decide) nw65 rfl d_T_seek_25 ?_
  refine lv_iload_n hx hb d_T_seek_28 rfl (lv_at hl 1 rfl) ?_
  refine lv_iand hx hb d_T_seek_29 ?_
  refine lv_iload_n hx hb d_T_seek_30 rfl (lv_at hl 1 rfl) ?_
  refine lv_aload_n hx hb d_T_seek_31 rfl (lv_at hl 3 rfl) ?_
  refine fp_getN X Y ok rfl in_K 2 (by decide) nw69 rfl d_T_seek_32 ?_
  refine lv_iload_n hx hb d_T_seek_35 rfl (lv_at hl 0 rfl) ?_
  refine lv_iand hx hb d_T_seek_36 ?_
  refine lv_iload_n hx hb d_T_seek_37 rfl (lv_at hl 0 rfl) ?_
  refine fp_callV (nA := 4) (As := [.int (k1 &&& (k2 &&& oF)), .int (k2 &&& oF), .int (k3 &&& (k4 &&& oG)), .int (k4 &&& oG)]) (rest := []) X Y (c_K_hold (k1 &&& (k2 &&& oF)) (k2 &&& oF) (k3 &&& (k4 &&& oG)) (k4 &&& oG) os) os rfl w237 w538 w235 w236 w4 (by decide +kernel) ⟨rfl, rfl⟩ ⟨Nat.le_of_ble_eq_true rfl, Nat.le_of_ble_eq_true rfl⟩ rfl hl.1 rfl (Nat.le_of_ble_eq_true rfl) d_T_seek_38 ⟨Nat.zero_le _, Nat.zero_le _⟩ (fun v9 f9 H locs hp9 Y => ?_)
  obtain ⟨e8, e9⟩ := hp9
  subst e8
  rw [e9] at Y
  have ne_1 : t ≠ sq := (fp_o.nf ot os (by simp))
  have Y : fp_H D b n A (va_up f sq (ob 5 [.int (k1 &&& (k2 &&& oF)), .int (k2 &&& oF), .int (k3 &&& (k4 &&& oG)), .int (k4 &&& oG)])) s.heap H locs := Y
  have ot : fp_o b n (va_up f sq (ob 5 [.int (k1 &&& (k2 &&& oF)), .int (k2 &&& oF), .int (k3 &&& (k4 &&& oG)), .int (k4 &&& oG)])) t (ob 6 [.ref r, .int cn, .int xf, .int xg, .int hF, .int hG, .int oF, .int oG, .int al, .int ms, .ref sq]) := fp_o.ne ot ne_1
  have os : fp_o b n (va_up f sq (ob 5 [.int (k1 &&& (k2 &&& oF)), .int (k2 &&& oF), .int (k3 &&& (k4 &&& oG)), .int (k4 &&& oG)])) sq (ob 5 [.int (k1 &&& (k2 &&& oF)), .int (k2 &&& oF), .int (k3 &&& (k4 &&& oG)), .int (k4 &&& oG)]) := fp_o.up os
  refine W.eq (g2 := F0 m 41 ls []) rfl ?_
  exact ret _ _ _ _ _ d_T_seek_41 ⟨rfl, rfl⟩ Y
end
section
/-! Contracts: Table, its loops, takeIn, takeOut, bestMatch (by wip/gen/k3.py). -/
/-- the first row from i on, of k, that is so; -1 for none -/
def q_row (S : Nat → Int32) : Nat → Nat → Int32
  | 0, _ => -1
  | k + 1, i => if S i = 0 then q_row S k (i + 1) else nI i
/-- the best of the first rows: those that fit; a later one that is better takes the place -/
def q_best (S : Nat → Int32) (B : Nat → Nat → Int32) : Nat → Option Nat
  | 0 => none
  | i + 1 => match q_best S B i with
    | none => if S i = 0 then none else some i
    | some j => if S i = 0 then some j else if B i j = 0 then some j else some i
theorem q_row_or (S : Nat → Int32) : ∀ (k i : Nat), q_row S k i = -1 ∨ ∃ j : Nat, i ≤ j ∧ j < k + i ∧ q_row S k i = nI j ∧ ¬ S j = 0
  | 0, i => Or.inl rfl
  | k + 1, i => by
    by_cases h : S i = 0
    · rcases q_row_or S k (i + 1) with h1 | ⟨j, h1, h2, h3, h4⟩
      · exact Or.inl (by simp only [q_row, if_pos h]; exact h1)
      · exact Or.inr ⟨j, by omega, by omega, by simp only [q_row, if_pos h]; exact h3, h4⟩
    · exact Or.inr ⟨i, by omega, by omega, by simp only [q_row, if_neg h], h⟩
def q_tk (a b r c : Int32) : Int32 := if a = 0 then 0 else if b = 0 then 0 else if r = -1 then (if c < 20 then 1 else 0) else 0
/-- rows from row on have moved up, as far as i -/
def q_sh (z : Nat → Option Nat) (row i : Nat) : Nat → Option Nat := fun j => if row ≤ j ∧ j + 1 < i then z (j + 1) else z j
theorem q_sh_0 (z : Nat → Option Nat) (row : Nat) : q_sh z row (row + 1) = z := by
  funext j
  have h : ¬ (row ≤ j ∧ j + 1 < row + 1) := by omega
  simp only [q_sh, if_neg h]
theorem q_sh_s (z : Nat → Option Nat) {row i : Nat} (h : row < i) : va_up (q_sh z row i) (i - 1) (z i) = q_sh z row (i + 1) := by
  funext j
  by_cases hj : j = i - 1
  · subst hj
    have h1 : row ≤ i - 1 ∧ i - 1 + 1 < i + 1 := by omega
    rw [va_up_self]
    simp only [q_sh, if_pos h1]
    rw [show i - 1 + 1 = i by omega]
  · rw [va_up_ne _ _ hj]
    by_cases h1 : row ≤ j ∧ j + 1 < i
    · have h2 : row ≤ j ∧ j + 1 < i + 1 := by omega
      simp only [q_sh, if_pos h1, if_pos h2]
    · have h2 : ¬ (row ≤ j ∧ j + 1 < i + 1) := by omega
      simp only [q_sh, if_neg h1, if_neg h2]
set_option maxHeartbeats 4000000 in
set_option maxRecDepth 100000 in
theorem c_T_rowOfSought {l : Launch} {D : va_G} {g : Nat → ClassId} {b n : Nat} {A : Nat → Prop} {f : Nat → va_E} {t r sq cn : Nat} {xf xg hF hG oF oG al ms : Int32} {zr : Nat → Option Nat} {er ek : Nat → Nat} {u1 u2 u3 u4 y1 y2 y3 y4 : Nat → Int32} {s1 s2 s3 s4 : Int32} (hcn : cn ≤ 20) (hr : ∀ i : Nat, i < cn → zr i = some (er i)) (ot : fp_o b n f t (ob 6 [.ref r, .int (nI cn), .int xf, .int xg, .int hF, .int hG, .int oF, .int oG, .int al, .int ms, .ref sq])) (orr : fp_o b n f r (aR g 3 20 zr)) (os : fp_o b n f sq (ob 5 [.int s1, .int s2, .int s3, .int s4])) (he : ∀ i9 : Nat, i9 < cn → fp_o b n f (er i9) (ob 3 [.ref (ek i9), .int (u1 i9), .int (u2 i9), .int (u3 i9), .int (u4 i9)])) (hk : ∀ i9 : Nat, i9 < cn → fp_o b n f (ek i9) (ob 5 [.int (y1 i9), .int (y2 i9), .int (y3 i9), .int (y4 i9)]))  : fp_M l D (TY g) b n A y_T_rowOfSought (fp_ws y_T_rowOfSought b_T_rowOfSought 2 (some FieldType.int)) (rmD 1) [.ref t] f (fun v f' => v = some (.int (q_row (fun i => q_same (y1 i) (y2 i) (y3 i) (y4 i) s1 s2 s3 s4) cn 0)) ∧ f' = f) := by
  refine fp_ofI (plainFor_of_name (by decide)) (Nat.le_of_ble_eq_true rfl) ?_
  intro p e s m args below meth c Q ls H locs X Y hl ret
  have hx := X.1.1
  have hb := X.1.2.1
  have hl : lv_has ls 2 [(0, .ref t)] := hl
  refine lv_iconst (v := 0) hx hb d_T_rowOfSought_0 (by decide) ?_
  refine lv_istore_n (lv' := [(1, .int 0), (0, .ref t)]) hx hb d_T_rowOfSought_1 rfl hl (by decide) rfl (fun ls hl => ?_)
  have loop : ∀ (k i : Nat), k + i = cn → q_row (fun i => q_same (y1 i) (y2 i) (y3 i) (y4 i) s1 s2 s3 s4) k i = q_row (fun i => q_same (y1 i) (y2 i) (y3 i) (y4 i) s1 s2 s3 s4) cn 0 → ∀ (H : Heap) (locs : List Loc), fp_H D b n A f s.heap H locs → ∀ (ls : Array Slot), lv_has ls 2 [(1, .int (nI i)), (0, .ref t)] → W p l e (rmD 1) s m args below meth c H locs 0 0 Q (F0 m 2 ls []) := by
    intro k
    induction k with
    | zero =>
      intro i hi hq H locs Y ls hl
      refine lv_iload_n hx hb d_T_rowOfSought_2 rfl (lv_at hl 0 rfl) ?_
      refine lv_aload_n hx hb d_T_rowOfSought_3 rfl (lv_at hl 1 rfl) ?_
      refine fp_get X Y ot rfl in_T 1 (by decide) w156 rfl d_T_rowOfSought_4 ?_
      refine lv_icmp_ge (tgt := 37) hx hb d_T_rowOfSought_7 (by decide) (fun c_7 => ?_) (fun c_7 => absurd (by rw [show i = cn by omega]; exact Int32.le_refl _) c_7)
      refine lv_iconst (v := -1) hx hb d_T_rowOfSought_37 (by decide) ?_
      exact ret _ _ _ _ _ _ d_T_rowOfSought_38 ⟨_, rfl, rfl⟩ ⟨by rw [← hq]; rfl, rfl⟩ Y
    | succ k ih =>
      intro i hi hq H locs Y ls hl
      refine lv_iload_n hx hb d_T_rowOfSought_2 rfl (lv_at hl 0 rfl) ?_
      refine lv_aload_n hx hb d_T_rowOfSought_3 rfl (lv_at hl 1 rfl) ?_
      refine fp_get X Y ot rfl in_T 1 (by decide) w156 rfl d_T_rowOfSought_4 ?_
      refine lv_icmp_ge (tgt := 37) hx hb d_T_rowOfSought_7 (by decide) (fun c_7 => absurd c_7 (nI_ge (by omega) (by omega))) (fun c_7 => ?_)
      refine lv_aload_n hx hb d_T_rowOfSought_10 rfl (lv_at hl 1 rfl) ?_
      refine fp_get X Y ot rfl in_T 0 (by decide) w155 rfl d_T_rowOfSought_11 ?_
      refine lv_iload_n hx hb d_T_rowOfSought_14 rfl (lv_at hl 0 rfl) ?_
      have oe : fp_o b n f (er i) (ob 3 [.ref (ek i), .int (u1 i), .int (u2 i), .int (u3 i), .int (u4 i)]) := he i (by omega)
      have ok : fp_o b n f (ek i) (ob 5 [.int (y1 i), .int (y2 i), .int (y3 i), .int (y4 i)]) := hk i (by omega)
      refine fp_ald 3 rfl X Y orr i rfl (by omega) (by decide) (hr i (by omega)) d_T_rowOfSought_15 ?_
      refine fp_getN X Y oe rfl in_E 0 (by decide) nw136 rfl d_T_rowOfSought_16 ?_
      refine lv_aload_n hx hb d_T_rowOfSought_19 rfl (lv_at hl 1 rfl) ?_
      refine fp_get X Y ot rfl in_T 10 (by decide) w167 rfl d_T_rowOfSought_20 ?_
      refine fp_callV (nA := 1) (As := [.ref sq]) (rest := []) X Y (c_K_isSameAs ok os) ok rfl w557 w554 w555 w556 w4 (by decide +kernel) ⟨rfl, rfl⟩ ⟨Nat.le_of_ble_eq_true rfl, Nat.le_of_ble_eq_true rfl⟩ rfl hl.1 rfl (Nat.le_of_ble_eq_true rfl) d_T_rowOfSought_23 ⟨Nat.zero_le _, Nat.zero_le _⟩ (fun v9 f9 H locs hp9 Y => ?_)
      obtain ⟨e8, e9⟩ := hp9
      subst e8
      rw [e9] at Y
      refine W.eq (g2 := F0 m 26 ls [.int (q_same (y1 i) (y2 i) (y3 i) (y4 i) s1 s2 s3 s4)]) rfl ?_
      refine lv_if_eq (tgt := 31) hx hb d_T_rowOfSought_26 (by decide) (fun c_26 => ?_) (fun c_26 => ?_)
      · refine lv_iinc (v := nI (i + 1)) (lv' := [(1, .int (nI (i + 1))), (0, .ref t)]) hx hb d_T_rowOfSought_31 hl (k := 0) rfl (nI_1 i) (by decide) rfl (fun ls hl => ?_)
        refine lv_goto (tgt := 2) hx hb d_T_rowOfSought_34 (by decide) ?_
        exact ih (i + 1) (by omega) (by rw [← hq]; simp [q_row, c_26]) _ _ Y ls (lv_sub hl [0, 1] rfl)
      · refine lv_iload_n hx hb d_T_rowOfSought_29 rfl (lv_at hl 0 rfl) ?_
        exact ret _ _ _ _ _ _ d_T_rowOfSought_30 ⟨_, rfl, rfl⟩ ⟨by rw [← hq]; simp [q_row, c_26], rfl⟩ Y
  exact loop cn 0 (by omega) rfl _ _ Y ls (lv_sub hl [0, 1] rfl)
set_option maxHeartbeats 4000000 in
set_option maxRecDepth 100000 in
theorem c_T_bestMatch {l : Launch} {D : va_G} {g : Nat → ClassId} {b n : Nat} {A : Nat → Prop} {f : Nat → va_E} {t r sq cn : Nat} {xf xg hF hG oF oG al ms : Int32} {zr : Nat → Option Nat} {er ek : Nat → Nat} {u1 u2 u3 u4 y1 y2 y3 y4 : Nat → Int32} {a q1 q2 kf : Nat} {z1 z2 : Nat → Int32} (hcn : cn ≤ 20) (hr : ∀ i : Nat, i < cn → zr i = some (er i)) (hkf : kf ≤ 16) (ot : fp_o b n f t (ob 6 [.ref r, .int (nI cn), .int xf, .int xg, .int hF, .int hG, .int oF, .int oG, .int al, .int ms, .ref sq])) (orr : fp_o b n f r (aR g 3 20 zr)) (oa : fp_o b n f a (ob 4 [.ref q1, .ref q2, .int (nI kf)])) (o1 : fp_o b n f q1 (aI g 16 z1)) (o2 : fp_o b n f q2 (aI g 16 z2)) (he : ∀ i9 : Nat, i9 < cn → fp_o b n f (er i9) (ob 3 [.ref (ek i9), .int (u1 i9), .int (u2 i9), .int (u3 i9), .int (u4 i9)])) (hk : ∀ i9 : Nat, i9 < cn → fp_o b n f (ek i9) (ob 5 [.int (y1 i9), .int (y2 i9), .int (y3 i9), .int (y4 i9)]))  : fp_M l D (TY g) b n A y_T_bestMatch (fp_ws y_T_bestMatch b_T_bestMatch 7 (some (FieldType.object "EntryTables$Entry"))) (rmD 3) [.ref t, .ref a] f (fun v f' => v = some (va_rf ((q_best (fun i => q_fits (y1 i) (y2 i) (y3 i) (y4 i) (q_at z2 xf (nI kf)) (q_at z2 xg (nI kf))) (fun i j => q_bet (q_pre hF hG (y2 i) (y4 i)) (q_pre hF hG (y2 j) (y4 j)) (u1 i) (u1 j)) cn).map er)) ∧ f' = f) := by
  refine fp_ofA (Or.inl ⟨_, rfl⟩) (plainFor_of_name (by decide)) (Nat.le_of_ble_eq_true rfl) ?_
  intro p e s m args below meth c Q ls H locs X Y hl ret
  have hx := X.1.1
  have hb := X.1.2.1
  have hl : lv_has ls 7 [(0, .ref t), (1, .ref a)] := hl
  refine lv_aload_n hx hb d_T_bestMatch_0 rfl (lv_at hl 1 rfl) ?_
  refine lv_aload_n hx hb d_T_bestMatch_1 rfl (lv_at hl 0 rfl) ?_
  refine fp_get X Y ot rfl in_T 2 (by decide) w158 rfl d_T_bestMatch_2 ?_
  refine fp_callV (nA := 1) (As := [.int xf]) (rest := []) X Y (c_F_read xf hkf oa o1 o2) oa rfl w245 w266 w243 w244 w2 (by decide +kernel) ⟨rfl, rfl⟩ ⟨Nat.le_of_ble_eq_true rfl, Nat.le_of_ble_eq_true rfl⟩ rfl hl.1 rfl (Nat.le_of_ble_eq_true rfl) d_T_bestMatch_5 ⟨Nat.zero_le _, Nat.zero_le _⟩ (fun v9 f9 H locs hp9 Y => ?_)
  obtain ⟨e8, e9⟩ := hp9
  subst e8
  rw [e9] at Y
  refine W.eq (g2 := F0 m 8 ls [.int (q_at z2 xf (nI kf))]) rfl ?_
  refine lv_istore_n (lv' := [(2, .int (q_at z2 xf (nI kf))), (0, .ref t), (1, .ref a)]) hx hb d_T_bestMatch_8 rfl hl (by decide) rfl (fun ls hl => ?_)
  refine lv_aload_n hx hb d_T_bestMatch_9 rfl (lv_at hl 2 rfl) ?_
  refine lv_aload_n hx hb d_T_bestMatch_10 rfl (lv_at hl 1 rfl) ?_
  refine fp_get X Y ot rfl in_T 3 (by decide) w159 rfl d_T_bestMatch_11 ?_
  refine fp_callV (nA := 1) (As := [.int xg]) (rest := []) X Y (c_F_read xg hkf oa o1 o2) oa rfl w245 w266 w243 w244 w2 (by decide +kernel) ⟨rfl, rfl⟩ ⟨Nat.le_of_ble_eq_true rfl, Nat.le_of_ble_eq_true rfl⟩ rfl hl.1 rfl (Nat.le_of_ble_eq_true rfl) d_T_bestMatch_14 ⟨Nat.zero_le _, Nat.zero_le _⟩ (fun v9 f9 H locs hp9 Y => ?_)
  obtain ⟨e8, e9⟩ := hp9
  subst e8
  rw [e9] at Y
  refine W.eq (g2 := F0 m 17 ls [.int (q_at z2 xg (nI kf))]) rfl ?_
  refine lv_istore_n (lv' := [(3, .int (q_at z2 xg (nI kf))), (2, .int (q_at z2 xf (nI kf))), (0, .ref t), (1, .ref a)]) hx hb d_T_bestMatch_17 rfl hl (by decide) rfl (fun ls hl => ?_)
  refine lv_null hx hb d_T_bestMatch_18 ?_
  refine lv_astoreN (lv' := [(4, .null), (3, .int (q_at z2 xg (nI kf))), (2, .int (q_at z2 xf (nI kf))), (0, .ref t), (1, .ref a)]) hx hb d_T_bestMatch_19 hl (by decide) rfl (fun ls hl => ?_)
  refine lv_iconst (v := 0) hx hb d_T_bestMatch_21 (by decide) ?_
  refine lv_istore (lv' := [(5, .int 0), (4, .null), (3, .int (q_at z2 xg (nI kf))), (2, .int (q_at z2 xf (nI kf))), (0, .ref t), (1, .ref a)]) hx hb d_T_bestMatch_22 hl (by decide) rfl (fun ls hl => ?_)
  have loop : ∀ (k i : Nat) (B : Option Nat), k + i = cn → B = q_best (fun i => q_fits (y1 i) (y2 i) (y3 i) (y4 i) (q_at z2 xf (nI kf)) (q_at z2 xg (nI kf))) (fun i j => q_bet (q_pre hF hG (y2 i) (y4 i)) (q_pre hF hG (y2 j) (y4 j)) (u1 i) (u1 j)) i → (∀ j : Nat, B = some j → j < i) → ∀ (H : Heap) (locs : List Loc), fp_H D b n A f s.heap H locs → ∀ (ls : Array Slot), lv_has ls 7 [(5, .int (nI i)), (4, va_rf (B.map er)), (3, .int (q_at z2 xg (nI kf))), (2, .int (q_at z2 xf (nI kf))), (1, .ref a), (0, .ref t)] → W p l e (rmD 3) s m args below meth c H locs 0 0 Q (F0 m 24 ls []) := by
    intro k
    induction k with
    | zero =>
      intro i B hi hB hj H locs Y ls hl
      cases B with
      | none =>
        have hl : lv_has ls 7 [(5, .int (nI i)), (4, .null), (3, .int (q_at z2 xg (nI kf))), (2, .int (q_at z2 xf (nI kf))), (1, .ref a), (0, .ref t)] := hl
        refine lv_iload hx hb d_T_bestMatch_24 (lv_at hl 0 rfl) ?_
        refine lv_aload_n hx hb d_T_bestMatch_26 rfl (lv_at hl 5 rfl) ?_
        refine fp_get X Y ot rfl in_T 1 (by decide) w156 rfl d_T_bestMatch_27 ?_
        refine lv_icmp_ge (tgt := 81) hx hb d_T_bestMatch_30 (by decide) (fun c_30 => ?_) (fun c_30 => absurd (by rw [show i = cn by omega]; exact Int32.le_refl _) c_30)
        refine lv_aloadN hx hb d_T_bestMatch_81 (lv_at hl 1 rfl) ?_
        exact ret _ _ _ _ _ _ d_T_bestMatch_83 (Or.inl rfl) ⟨by rw [show cn = i by omega, ← hB]; rfl, rfl⟩ Y
      | some j =>
        have hj : j < i := hj j rfl
        have hl : lv_has ls 7 [(5, .int (nI i)), (4, .ref (er j)), (3, .int (q_at z2 xg (nI kf))), (2, .int (q_at z2 xf (nI kf))), (1, .ref a), (0, .ref t)] := hl
        refine lv_iload hx hb d_T_bestMatch_24 (lv_at hl 0 rfl) ?_
        refine lv_aload_n hx hb d_T_bestMatch_26 rfl (lv_at hl 5 rfl) ?_
        refine fp_get X Y ot rfl in_T 1 (by decide) w156 rfl d_T_bestMatch_27 ?_
        refine lv_icmp_ge (tgt := 81) hx hb d_T_bestMatch_30 (by decide) (fun c_30 => ?_) (fun c_30 => absurd (by rw [show i = cn by omega]; exact Int32.le_refl _) c_30)
        refine lv_aload hx hb d_T_bestMatch_81 (lv_at hl 1 rfl) ?_
        exact ret _ _ _ _ _ _ d_T_bestMatch_83 (Or.inr ⟨_, rfl⟩) ⟨by rw [show cn = i by omega, ← hB]; rfl, rfl⟩ Y
    | succ k ih =>
      intro i B hi hB hj H locs Y ls hl
      cases B with
      | none =>
        have hl : lv_has ls 7 [(5, .int (nI i)), (4, .null), (3, .int (q_at z2 xg (nI kf))), (2, .int (q_at z2 xf (nI kf))), (1, .ref a), (0, .ref t)] := hl
        refine lv_iload hx hb d_T_bestMatch_24 (lv_at hl 0 rfl) ?_
        refine lv_aload_n hx hb d_T_bestMatch_26 rfl (lv_at hl 5 rfl) ?_
        refine fp_get X Y ot rfl in_T 1 (by decide) w156 rfl d_T_bestMatch_27 ?_
        refine lv_icmp_ge (tgt := 81) hx hb d_T_bestMatch_30 (by decide) (fun c_30 => absurd c_30 (nI_ge (by omega) (by omega))) (fun c_30 => ?_)
        refine lv_aload_n hx hb d_T_bestMatch_33 rfl (lv_at hl 5 rfl) ?_
        refine fp_get X Y ot rfl in_T 0 (by decide) w155 rfl d_T_bestMatch_34 ?_
        refine lv_iload hx hb d_T_bestMatch_37 (lv_at hl 0 rfl) ?_
        have oe : fp_o b n f (er i) (ob 3 [.ref (ek i), .int (u1 i), .int (u2 i), .int (u3 i), .int (u4 i)]) := he i (by omega)
        have ok : fp_o b n f (ek i) (ob 5 [.int (y1 i), .int (y2 i), .int (y3 i), .int (y4 i)]) := hk i (by omega)
        refine fp_ald 3 rfl X Y orr i rfl (by omega) (by decide) (hr i (by omega)) d_T_bestMatch_39 ?_
        refine lv_astore (lv' := [(6, .ref (er i)), (5, .int (nI i)), (4, .null), (3, .int (q_at z2 xg (nI kf))), (2, .int (q_at z2 xf (nI kf))), (1, .ref a), (0, .ref t)]) hx hb d_T_bestMatch_40 hl (by decide) rfl (fun ls hl => ?_)
        refine lv_aload hx hb d_T_bestMatch_42 (lv_at hl 0 rfl) ?_
        refine fp_getN X Y oe rfl in_E 0 (by decide) nw136 rfl d_T_bestMatch_44 ?_
        refine lv_iload_n hx hb d_T_bestMatch_47 rfl (lv_at hl 4 rfl) ?_
        refine lv_iload_n hx hb d_T_bestMatch_48 rfl (lv_at hl 3 rfl) ?_
        refine fp_callV (nA := 2) (As := [.int (q_at z2 xf (nI kf)), .int (q_at z2 xg (nI kf))]) (rest := []) X Y (c_K_fits (q_at z2 xf (nI kf)) (q_at z2 xg (nI kf)) ok) ok rfl w270 w267 w268 w269 w4 (by decide +kernel) ⟨rfl, rfl⟩ ⟨Nat.le_of_ble_eq_true rfl, Nat.le_of_ble_eq_true rfl⟩ rfl hl.1 rfl (Nat.le_of_ble_eq_true rfl) d_T_bestMatch_49 ⟨Nat.zero_le _, Nat.zero_le _⟩ (fun v9 f9 H locs hp9 Y => ?_)
        obtain ⟨e8, e9⟩ := hp9
        subst e8
        rw [e9] at Y
        refine W.eq (g2 := F0 m 52 ls [.int (q_fits (y1 i) (y2 i) (y3 i) (y4 i) (q_at z2 xf (nI kf)) (q_at z2 xg (nI kf)))]) rfl ?_
        refine lv_if_eq (tgt := 75) hx hb d_T_bestMatch_52 (by decide) (fun c_52 => ?_) (fun c_52 => ?_)
        · refine lv_iinc (v := nI (i + 1)) (lv' := [(5, .int (nI (i + 1))), (6, .ref (er i)), (4, .null), (3, .int (q_at z2 xg (nI kf))), (2, .int (q_at z2 xf (nI kf))), (1, .ref a), (0, .ref t)]) hx hb d_T_bestMatch_75 hl (k := 1) rfl (nI_1 i) (by decide) rfl (fun ls hl => ?_)
          refine lv_goto (tgt := 24) hx hb d_T_bestMatch_78 (by decide) ?_
          exact ih (i + 1) none (by omega) (by simp [q_best, ← hB, c_52]) (fun j9 h9 => by simp at h9) _ _ Y ls (lv_sub hl [0, 2, 3, 4, 5, 6] rfl)
        · refine lv_aloadN hx hb d_T_bestMatch_55 (lv_at hl 2 rfl) ?_
          refine lv_ifnullN (tgt := 71) hx hb d_T_bestMatch_57 (by decide) ?_
          refine lv_aload hx hb d_T_bestMatch_71 (lv_at hl 0 rfl) ?_
          refine lv_astore (lv' := [(4, .ref (er i)), (6, .ref (er i)), (5, .int (nI i)), (3, .int (q_at z2 xg (nI kf))), (2, .int (q_at z2 xf (nI kf))), (1, .ref a), (0, .ref t)]) hx hb d_T_bestMatch_73 hl (by decide) rfl (fun ls hl => ?_)
          refine lv_iinc (v := nI (i + 1)) (lv' := [(5, .int (nI (i + 1))), (4, .ref (er i)), (6, .ref (er i)), (3, .int (q_at z2 xg (nI kf))), (2, .int (q_at z2 xf (nI kf))), (1, .ref a), (0, .ref t)]) hx hb d_T_bestMatch_75 hl (k := 2) rfl (nI_1 i) (by decide) rfl (fun ls hl => ?_)
          refine lv_goto (tgt := 24) hx hb d_T_bestMatch_78 (by decide) ?_
          exact ih (i + 1) (some i) (by omega) (by simp [q_best, ← hB, c_52]) (fun j9 h9 => by simp at h9; omega) _ _ Y ls (lv_sub hl [0, 1, 3, 4, 5, 6] rfl)
      | some j =>
        have hj : j < i := hj j rfl
        have hl : lv_has ls 7 [(5, .int (nI i)), (4, .ref (er j)), (3, .int (q_at z2 xg (nI kf))), (2, .int (q_at z2 xf (nI kf))), (1, .ref a), (0, .ref t)] := hl
        refine lv_iload hx hb d_T_bestMatch_24 (lv_at hl 0 rfl) ?_
        refine lv_aload_n hx hb d_T_bestMatch_26 rfl (lv_at hl 5 rfl) ?_
        refine fp_get X Y ot rfl in_T 1 (by decide) w156 rfl d_T_bestMatch_27 ?_
        refine lv_icmp_ge (tgt := 81) hx hb d_T_bestMatch_30 (by decide) (fun c_30 => absurd c_30 (nI_ge (by omega) (by omega))) (fun c_30 => ?_)
        refine lv_aload_n hx hb d_T_bestMatch_33 rfl (lv_at hl 5 rfl) ?_
        refine fp_get X Y ot rfl in_T 0 (by decide) w155 rfl d_T_bestMatch_34 ?_
        refine lv_iload hx hb d_T_bestMatch_37 (lv_at hl 0 rfl) ?_
        have oe : fp_o b n f (er i) (ob 3 [.ref (ek i), .int (u1 i), .int (u2 i), .int (u3 i), .int (u4 i)]) := he i (by omega)
        have ok : fp_o b n f (ek i) (ob 5 [.int (y1 i), .int (y2 i), .int (y3 i), .int (y4 i)]) := hk i (by omega)
        refine fp_ald 3 rfl X Y orr i rfl (by omega) (by decide) (hr i (by omega)) d_T_bestMatch_39 ?_
        refine lv_astore (lv' := [(6, .ref (er i)), (5, .int (nI i)), (4, .ref (er j)), (3, .int (q_at z2 xg (nI kf))), (2, .int (q_at z2 xf (nI kf))), (1, .ref a), (0, .ref t)]) hx hb d_T_bestMatch_40 hl (by decide) rfl (fun ls hl => ?_)
        refine lv_aload hx hb d_T_bestMatch_42 (lv_at hl 0 rfl) ?_
        refine fp_getN X Y oe rfl in_E 0 (by decide) nw136 rfl d_T_bestMatch_44 ?_
        refine lv_iload_n hx hb d_T_bestMatch_47 rfl (lv_at hl 4 rfl) ?_
        refine lv_iload_n hx hb d_T_bestMatch_48 rfl (lv_at hl 3 rfl) ?_
        refine fp_callV (nA := 2) (As := [.int (q_at z2 xf (nI kf)), .int (q_at z2 xg (nI kf))]) (rest := []) X Y (c_K_fits (q_at z2 xf (nI kf)) (q_at z2 xg (nI kf)) ok) ok rfl w270 w267 w268 w269 w4 (by decide +kernel) ⟨rfl, rfl⟩ ⟨Nat.le_of_ble_eq_true rfl, Nat.le_of_ble_eq_true rfl⟩ rfl hl.1 rfl (Nat.le_of_ble_eq_true rfl) d_T_bestMatch_49 ⟨Nat.zero_le _, Nat.zero_le _⟩ (fun v9 f9 H locs hp9 Y => ?_)
        obtain ⟨e8, e9⟩ := hp9
        subst e8
        rw [e9] at Y
        refine W.eq (g2 := F0 m 52 ls [.int (q_fits (y1 i) (y2 i) (y3 i) (y4 i) (q_at z2 xf (nI kf)) (q_at z2 xg (nI kf)))]) rfl ?_
        refine lv_if_eq (tgt := 75) hx hb d_T_bestMatch_52 (by decide) (fun c_52 => ?_) (fun c_52 => ?_)
        · refine lv_iinc (v := nI (i + 1)) (lv' := [(5, .int (nI (i + 1))), (6, .ref (er i)), (4, .ref (er j)), (3, .int (q_at z2 xg (nI kf))), (2, .int (q_at z2 xf (nI kf))), (1, .ref a), (0, .ref t)]) hx hb d_T_bestMatch_75 hl (k := 1) rfl (nI_1 i) (by decide) rfl (fun ls hl => ?_)
          refine lv_goto (tgt := 24) hx hb d_T_bestMatch_78 (by decide) ?_
          exact ih (i + 1) (some j) (by omega) (by simp [q_best, ← hB, c_52]) (fun j9 h9 => by simp at h9; omega) _ _ Y ls (lv_sub hl [0, 2, 3, 4, 5, 6] rfl)
        · refine lv_aload hx hb d_T_bestMatch_55 (lv_at hl 2 rfl) ?_
          refine lv_ifnull hx hb d_T_bestMatch_57 ?_
          have oe2 : fp_o b n f (er j) (ob 3 [.ref (ek j), .int (u1 j), .int (u2 j), .int (u3 j), .int (u4 j)]) := he j (by omega)
          have ok2 : fp_o b n f (ek j) (ob 5 [.int (y1 j), .int (y2 j), .int (y3 j), .int (y4 j)]) := hk j (by omega)
          refine lv_aload_n hx hb d_T_bestMatch_60 rfl (lv_at hl 6 rfl) ?_
          refine lv_aload hx hb d_T_bestMatch_61 (lv_at hl 0 rfl) ?_
          refine lv_aload hx hb d_T_bestMatch_63 (lv_at hl 2 rfl) ?_
          refine fp_callV (nA := 2) (As := [.ref (er i), .ref (er j)]) (rest := []) X Y (c_T_isBetter ot oe ok oe2 ok2) ot rfl w274 w271 w273 wp1 w7 (by decide +kernel) ⟨rfl, rfl⟩ ⟨Nat.le_of_ble_eq_true rfl, Nat.le_of_ble_eq_true rfl⟩ rfl hl.1 rfl (Nat.le_of_ble_eq_true rfl) d_T_bestMatch_65 ⟨Nat.zero_le _, Nat.zero_le _⟩ (fun v9 f9 H locs hp9 Y => ?_)
          obtain ⟨e8, e9⟩ := hp9
          subst e8
          rw [e9] at Y
          refine W.eq (g2 := F0 m 68 ls [.int (q_bet (q_pre hF hG (y2 i) (y4 i)) (q_pre hF hG (y2 j) (y4 j)) (u1 i) (u1 j))]) rfl ?_
          refine lv_if_eq (tgt := 75) hx hb d_T_bestMatch_68 (by decide) (fun c_68 => ?_) (fun c_68 => ?_)
          · refine lv_iinc (v := nI (i + 1)) (lv' := [(5, .int (nI (i + 1))), (6, .ref (er i)), (4, .ref (er j)), (3, .int (q_at z2 xg (nI kf))), (2, .int (q_at z2 xf (nI kf))), (1, .ref a), (0, .ref t)]) hx hb d_T_bestMatch_75 hl (k := 1) rfl (nI_1 i) (by decide) rfl (fun ls hl => ?_)
            refine lv_goto (tgt := 24) hx hb d_T_bestMatch_78 (by decide) ?_
            exact ih (i + 1) (some j) (by omega) (by simp [q_best, ← hB, c_52, c_68]) (fun j9 h9 => by simp at h9; omega) _ _ Y ls (lv_sub hl [0, 2, 3, 4, 5, 6] rfl)
          · refine lv_aload hx hb d_T_bestMatch_71 (lv_at hl 0 rfl) ?_
            refine lv_astore (lv' := [(4, .ref (er i)), (6, .ref (er i)), (5, .int (nI i)), (3, .int (q_at z2 xg (nI kf))), (2, .int (q_at z2 xf (nI kf))), (1, .ref a), (0, .ref t)]) hx hb d_T_bestMatch_73 hl (by decide) rfl (fun ls hl => ?_)
            refine lv_iinc (v := nI (i + 1)) (lv' := [(5, .int (nI (i + 1))), (4, .ref (er i)), (6, .ref (er i)), (3, .int (q_at z2 xg (nI kf))), (2, .int (q_at z2 xf (nI kf))), (1, .ref a), (0, .ref t)]) hx hb d_T_bestMatch_75 hl (k := 2) rfl (nI_1 i) (by decide) rfl (fun ls hl => ?_)
            refine lv_goto (tgt := 24) hx hb d_T_bestMatch_78 (by decide) ?_
            exact ih (i + 1) (some i) (by omega) (by simp [q_best, ← hB, c_52, c_68]) (fun j9 h9 => by simp at h9; omega) _ _ Y ls (lv_sub hl [0, 1, 3, 4, 5, 6] rfl)
  exact loop cn 0 none (by omega) rfl (fun j9 h9 => by simp at h9) _ _ Y ls (lv_sub hl [0, 1, 2, 3, 5, 4] rfl)
set_option maxHeartbeats 4000000 in
set_option maxRecDepth 100000 in
theorem c_T_takeIn {l : Launch} {D : va_G} {g : Nat → ClassId} {b n : Nat} {A : Nat → Prop} {f : Nat → va_E} {t r sq cn : Nat} {xf xg hF hG oF oG al ms : Int32} {zr : Nat → Option Nat} {er ek : Nat → Nat} {u1 u2 u3 u4 y1 y2 y3 y4 : Nat → Int32} {kq : Nat} {k1 k2 k3 k4 s1 s2 s3 s4 : Int32} (x1 x2 x3 x4 : Int32) (hcn : cn ≤ 20) (hr : ∀ i : Nat, i < 20 → zr i = some (er i)) (hsk : ∀ i : Nat, i < 20 → ek i ≠ sq) (ot : fp_o b n f t (ob 6 [.ref r, .int (nI cn), .int xf, .int xg, .int hF, .int hG, .int oF, .int oG, .int al, .int ms, .ref sq])) (orr : fp_o b n f r (aR g 3 20 zr)) (os : fp_o b n f sq (ob 5 [.int s1, .int s2, .int s3, .int s4])) (oq : fp_o b n f kq (ob 5 [.int k1, .int k2, .int k3, .int k4])) (he : ∀ i9 : Nat, i9 < 20 → fp_o b n f (er i9) (ob 3 [.ref (ek i9), .int (u1 i9), .int (u2 i9), .int (u3 i9), .int (u4 i9)])) (hk : ∀ i9 : Nat, i9 < 20 → fp_o b n f (ek i9) (ob 5 [.int (y1 i9), .int (y2 i9), .int (y3 i9), .int (y4 i9)]))  (hA : fp_W b n A := by assumption) : fp_M l D (TY g) b n A y_T_takeIn (fp_ws y_T_takeIn b_T_takeIn 7 (some FieldType.boolean)) (rmD 2) [.ref t, .ref kq, .int x1, .int x2, .int x3, .int x4] f (fun v f' => v = some (.int (q_tk (q_masks hF hG oF oG (k2 &&& oF) (k4 &&& oG)) (q_alw al x2) (q_row (fun i => q_same (y1 i) (y2 i) (y3 i) (y4 i) (k1 &&& (k2 &&& oF)) (k2 &&& oF) (k3 &&& (k4 &&& oG)) (k4 &&& oG)) cn 0) (nI cn))) ∧ f' = if q_tk (q_masks hF hG oF oG (k2 &&& oF) (k4 &&& oG)) (q_alw al x2) (q_row (fun i => q_same (y1 i) (y2 i) (y3 i) (y4 i) (k1 &&& (k2 &&& oF)) (k2 &&& oF) (k3 &&& (k4 &&& oG)) (k4 &&& oG)) cn 0) (nI cn) = 0 then (va_up f sq (ob 5 [.int (k1 &&& (k2 &&& oF)), .int (k2 &&& oF), .int (k3 &&& (k4 &&& oG)), .int (k4 &&& oG)])) else (va_up (va_up (va_up (va_up f sq (ob 5 [.int (k1 &&& (k2 &&& oF)), .int (k2 &&& oF), .int (k3 &&& (k4 &&& oG)), .int (k4 &&& oG)])) (ek cn) (ob 5 [.int (k1 &&& (k2 &&& oF)), .int (k2 &&& oF), .int (k3 &&& (k4 &&& oG)), .int (k4 &&& oG)])) (er cn) (ob 3 [.ref (ek cn), .int x1, .int x2, .int x3, .int x4])) t (ob 6 [.ref r, .int (nI (cn + 1)), .int xf, .int xg, .int hF, .int hG, .int oF, .int oG, .int al, .int ms, .ref sq]))) := by
  refine fp_ofI (plainFor_of_name (by decide)) (Nat.le_of_ble_eq_true rfl) ?_
  intro p e s m args below meth c Q ls H locs X Y hl ret
  have hx := X.1.1
  have hb := X.1.2.1
  have hl : lv_has ls 7 [(0, .ref t), (1, .ref kq), (2, .int x1), (3, .int x2), (4, .int x3), (5, .int x4)] := hl
  refine lv_aload_n hx hb d_T_takeIn_0 rfl (lv_at hl 0 rfl) ?_
  refine lv_aload_n hx hb d_T_takeIn_1 rfl (lv_at hl 1 rfl) ?_
  refine fp_callV (nA := 1) (As := [.ref kq]) (rest := []) X Y (c_T_seek ot os oq) ot rfl w537 w534 w536 wp8 w7 (by decide +kernel) ⟨rfl, rfl⟩ ⟨Nat.le_of_ble_eq_true rfl, Nat.le_of_ble_eq_true rfl⟩ rfl hl.1 rfl (Nat.le_of_ble_eq_true rfl) d_T_takeIn_2 ⟨Nat.zero_le _, Nat.zero_le _⟩ (fun v9 f9 H locs hp9 Y => ?_)
  obtain ⟨e8, e9⟩ := hp9
  subst e8
  rw [e9] at Y
  have ne_1 : t ≠ sq := (fp_o.nf ot os (by simp))
  have ne_2 : r ≠ sq := (fp_o.nf orr os (by simp))
  have Y : fp_H D b n A (va_up f sq (ob 5 [.int (k1 &&& (k2 &&& oF)), .int (k2 &&& oF), .int (k3 &&& (k4 &&& oG)), .int (k4 &&& oG)])) s.heap H locs := Y
  have ot : fp_o b n (va_up f sq (ob 5 [.int (k1 &&& (k2 &&& oF)), .int (k2 &&& oF), .int (k3 &&& (k4 &&& oG)), .int (k4 &&& oG)])) t (ob 6 [.ref r, .int (nI cn), .int xf, .int xg, .int hF, .int hG, .int oF, .int oG, .int al, .int ms, .ref sq]) := fp_o.ne ot ne_1
  have orr : fp_o b n (va_up f sq (ob 5 [.int (k1 &&& (k2 &&& oF)), .int (k2 &&& oF), .int (k3 &&& (k4 &&& oG)), .int (k4 &&& oG)])) r (aR g 3 20 zr) := fp_o.ne orr ne_2
  have he : ∀ i9 : Nat, i9 < 20 → fp_o b n (va_up f sq (ob 5 [.int (k1 &&& (k2 &&& oF)), .int (k2 &&& oF), .int (k3 &&& (k4 &&& oG)), .int (k4 &&& oG)])) (er i9) (ob 3 [.ref (ek i9), .int (u1 i9), .int (u2 i9), .int (u3 i9), .int (u4 i9)]) := fun i9 hi9 => fp_o.ne (he i9 hi9) (fp_o.nf (he i9 hi9) os (by simp))
  have hk : ∀ i9 : Nat, i9 < 20 → fp_o b n (va_up f sq (ob 5 [.int (k1 &&& (k2 &&& oF)), .int (k2 &&& oF), .int (k3 &&& (k4 &&& oG)), .int (k4 &&& oG)])) (ek i9) (ob 5 [.int (y1 i9), .int (y2 i9), .int (y3 i9), .int (y4 i9)]) := fun i9 hi9 => fp_o.ne (hk i9 hi9) (hsk i9 hi9)
  have os : fp_o b n (va_up f sq (ob 5 [.int (k1 &&& (k2 &&& oF)), .int (k2 &&& oF), .int (k3 &&& (k4 &&& oG)), .int (k4 &&& oG)])) sq (ob 5 [.int (k1 &&& (k2 &&& oF)), .int (k2 &&& oF), .int (k3 &&& (k4 &&& oG)), .int (k4 &&& oG)]) := fp_o.up os
  refine W.eq (g2 := F0 m 5 ls []) rfl ?_
  refine lv_aload_n hx hb d_T_takeIn_5 rfl (lv_at hl 0 rfl) ?_
  refine fp_callV (nA := 0) (As := []) (rest := []) X Y (c_T_areMasks ot os) ot rfl w542 w539 w541 wp9 w7 (by decide +kernel) ⟨rfl, rfl⟩ ⟨Nat.le_of_ble_eq_true rfl, Nat.le_of_ble_eq_true rfl⟩ rfl hl.1 rfl (Nat.le_of_ble_eq_true rfl) d_T_takeIn_6 ⟨Nat.zero_le _, Nat.zero_le _⟩ (fun v9 f9 H locs hp9 Y => ?_)
  obtain ⟨e8, e9⟩ := hp9
  subst e8
  rw [e9] at Y
  refine W.eq (g2 := F0 m 9 ls [.int (q_masks hF hG oF oG (k2 &&& oF) (k4 &&& oG))]) rfl ?_
  refine lv_if_eq (tgt := 37) hx hb d_T_takeIn_9 (by decide) (fun c_9 => ?_) (fun c_9 => ?_)
  · refine lv_iconst (v := 0) hx hb d_T_takeIn_37 (by decide) ?_
    exact ret _ _ _ _ _ _ d_T_takeIn_38 ⟨_, rfl, rfl⟩ ⟨by simp [q_tk, c_9], by simp [q_tk, c_9]⟩ Y
  · refine lv_aload_n hx hb d_T_takeIn_12 rfl (lv_at hl 0 rfl) ?_
    refine lv_iload_n hx hb d_T_takeIn_13 rfl (lv_at hl 3 rfl) ?_
    refine fp_callV (nA := 1) (As := [.int x2]) (rest := []) X Y (c_T_isAllowed x2 ot) ot rfl w549 w546 w548 wp10 w7 (by decide +kernel) ⟨rfl, rfl⟩ ⟨Nat.le_of_ble_eq_true rfl, Nat.le_of_ble_eq_true rfl⟩ rfl hl.1 rfl (Nat.le_of_ble_eq_true rfl) d_T_takeIn_14 ⟨Nat.zero_le _, Nat.zero_le _⟩ (fun v9 f9 H locs hp9 Y => ?_)
    obtain ⟨e8, e9⟩ := hp9
    subst e8
    rw [e9] at Y
    refine W.eq (g2 := F0 m 17 ls [.int (q_alw al x2)]) rfl ?_
    refine lv_if_eq (tgt := 37) hx hb d_T_takeIn_17 (by decide) (fun c_17 => ?_) (fun c_17 => ?_)
    · refine lv_iconst (v := 0) hx hb d_T_takeIn_37 (by decide) ?_
      exact ret _ _ _ _ _ _ d_T_takeIn_38 ⟨_, rfl, rfl⟩ ⟨by simp [q_tk, c_9, c_17], by simp [q_tk, c_9, c_17]⟩ Y
    · refine lv_aload_n hx hb d_T_takeIn_20 rfl (lv_at hl 0 rfl) ?_
      refine fp_callV (nA := 0) (As := []) (rest := []) X Y (c_T_rowOfSought hcn (fun i hi => hr i (by omega)) ot orr os (fun i hi => he i (by omega)) (fun i hi => hk i (by omega))) ot rfl w553 w550 w552 wp11 w7 (by decide +kernel) ⟨rfl, rfl⟩ ⟨Nat.le_of_ble_eq_true rfl, Nat.le_of_ble_eq_true rfl⟩ rfl hl.1 rfl (Nat.le_of_ble_eq_true rfl) d_T_takeIn_21 ⟨Nat.zero_le _, Nat.zero_le _⟩ (fun v9 f9 H locs hp9 Y => ?_)
      obtain ⟨e8, e9⟩ := hp9
      subst e8
      rw [e9] at Y
      refine W.eq (g2 := F0 m 24 ls [.int (q_row (fun i => q_same (y1 i) (y2 i) (y3 i) (y4 i) (k1 &&& (k2 &&& oF)) (k2 &&& oF) (k3 &&& (k4 &&& oG)) (k4 &&& oG)) cn 0)]) rfl ?_
      refine lv_iconst (v := -1) hx hb d_T_takeIn_24 (by decide) ?_
      refine lv_icmp_ne (tgt := 37) hx hb d_T_takeIn_25 (by decide) (fun c_25 => ?_) (fun c_25 => ?_)
      · refine lv_iconst (v := 0) hx hb d_T_takeIn_37 (by decide) ?_
        exact ret _ _ _ _ _ _ d_T_takeIn_38 ⟨_, rfl, rfl⟩ ⟨by simp [q_tk, c_9, c_17, c_25], by simp [q_tk, c_9, c_17, c_25]⟩ Y
      · refine lv_aload_n hx hb d_T_takeIn_28 rfl (lv_at hl 0 rfl) ?_
        refine fp_get X Y ot rfl in_T 1 (by decide) w156 rfl d_T_takeIn_29 ?_
        refine lv_bipush (v := 20) hx hb d_T_takeIn_32 (by decide) ?_
        refine lv_icmp_lt (tgt := 39) hx hb d_T_takeIn_34 (by decide) (fun c_34 => ?_) (fun c_34 => ?_)
        · have hc20 : cn < 20 := (nI_ltI (by omega) (by decide)).mp (show nI cn < nI 20 from c_34)
          refine lv_aload_n hx hb d_T_takeIn_39 rfl (lv_at hl 0 rfl) ?_
          refine fp_get X Y ot rfl in_T 0 (by decide) w155 rfl d_T_takeIn_40 ?_
          refine lv_aload_n hx hb d_T_takeIn_43 rfl (lv_at hl 0 rfl) ?_
          refine fp_get X Y ot rfl in_T 1 (by decide) w156 rfl d_T_takeIn_44 ?_
          have oe : fp_o b n (va_up f sq (ob 5 [.int (k1 &&& (k2 &&& oF)), .int (k2 &&& oF), .int (k3 &&& (k4 &&& oG)), .int (k4 &&& oG)])) (er cn) (ob 3 [.ref (ek cn), .int (u1 cn), .int (u2 cn), .int (u3 cn), .int (u4 cn)]) := he cn hc20
          have ok : fp_o b n (va_up f sq (ob 5 [.int (k1 &&& (k2 &&& oF)), .int (k2 &&& oF), .int (k3 &&& (k4 &&& oG)), .int (k4 &&& oG)])) (ek cn) (ob 5 [.int (y1 cn), .int (y2 cn), .int (y3 cn), .int (y4 cn)]) := hk cn hc20
          refine fp_ald 3 rfl X Y orr cn rfl hc20 (by decide) (hr cn hc20) d_T_takeIn_47 ?_
          refine lv_astore (lv' := [(6, .ref (er cn)), (0, .ref t), (1, .ref kq), (2, .int x1), (3, .int x2), (4, .int x3), (5, .int x4)]) hx hb d_T_takeIn_48 hl (by decide) rfl (fun ls hl => ?_)
          refine lv_aload hx hb d_T_takeIn_50 (lv_at hl 0 rfl) ?_
          refine fp_getN X Y oe rfl in_E 0 (by decide) nw136 rfl d_T_takeIn_52 ?_
          refine lv_aload_n hx hb d_T_takeIn_55 rfl (lv_at hl 1 rfl) ?_
          refine fp_get X Y ot rfl in_T 10 (by decide) w167 rfl d_T_takeIn_56 ?_
          refine fp_getN X Y os rfl in_K 0 (by decide) nw65 rfl d_T_takeIn_59 ?_
          refine lv_aload_n hx hb d_T_takeIn_62 rfl (lv_at hl 1 rfl) ?_
          refine fp_get X Y ot rfl in_T 10 (by decide) w167 rfl d_T_takeIn_63 ?_
          refine fp_getN X Y os rfl in_K 1 (by decide) nw67 rfl d_T_takeIn_66 ?_
          refine lv_aload_n hx hb d_T_takeIn_69 rfl (lv_at hl 1 rfl) ?_
          refine fp_get X Y ot rfl in_T 10 (by decide) w167 rfl d_T_takeIn_70 ?_
          refine fp_getN X Y os rfl in_K 2 (by decide) nw69 rfl d_T_takeIn_73 ?_
          refine lv_aload_n hx hb d_T_takeIn_76 rfl (lv_at hl 1 rfl) ?_
          refine fp_get X Y ot rfl in_T 10 (by decide) w167 rfl d_T_takeIn_77 ?_
          refine fp_getN X Y os rfl in_K 3 (by decide) nw71 rfl d_T_takeIn_80 ?_
          refine fp_callV (nA := 4) (As := [.int (k1 &&& (k2 &&& oF)), .int (k2 &&& oF), .int (k3 &&& (k4 &&& oG)), .int (k4 &&& oG)]) (rest := []) X Y (c_K_hold (k1 &&& (k2 &&& oF)) (k2 &&& oF) (k3 &&& (k4 &&& oG)) (k4 &&& oG) ok) ok rfl w237 w538 w235 w236 w4 (by decide +kernel) ⟨rfl, rfl⟩ ⟨Nat.le_of_ble_eq_true rfl, Nat.le_of_ble_eq_true rfl⟩ rfl hl.1 rfl (Nat.le_of_ble_eq_true rfl) d_T_takeIn_83 ⟨Nat.zero_le _, Nat.zero_le _⟩ (fun v9 f9 H locs hp9 Y => ?_)
          obtain ⟨e8, e9⟩ := hp9
          subst e8
          rw [e9] at Y
          have ne_3 : t ≠ ek cn := (fp_o.nf ot ok (by simp))
          have ne_4 : r ≠ ek cn := (fp_o.nf orr ok (by simp))
          have ne_5 : sq ≠ ek cn := (Ne.symm (hsk cn hc20))
          have ne_6 : er cn ≠ ek cn := (fp_o.nf oe ok (by simp))
          have Y : fp_H D b n A (va_up (va_up f sq (ob 5 [.int (k1 &&& (k2 &&& oF)), .int (k2 &&& oF), .int (k3 &&& (k4 &&& oG)), .int (k4 &&& oG)])) (ek cn) (ob 5 [.int (k1 &&& (k2 &&& oF)), .int (k2 &&& oF), .int (k3 &&& (k4 &&& oG)), .int (k4 &&& oG)])) s.heap H locs := Y
          have ot : fp_o b n (va_up (va_up f sq (ob 5 [.int (k1 &&& (k2 &&& oF)), .int (k2 &&& oF), .int (k3 &&& (k4 &&& oG)), .int (k4 &&& oG)])) (ek cn) (ob 5 [.int (k1 &&& (k2 &&& oF)), .int (k2 &&& oF), .int (k3 &&& (k4 &&& oG)), .int (k4 &&& oG)])) t (ob 6 [.ref r, .int (nI cn), .int xf, .int xg, .int hF, .int hG, .int oF, .int oG, .int al, .int ms, .ref sq]) := fp_o.ne ot ne_3
          have orr : fp_o b n (va_up (va_up f sq (ob 5 [.int (k1 &&& (k2 &&& oF)), .int (k2 &&& oF), .int (k3 &&& (k4 &&& oG)), .int (k4 &&& oG)])) (ek cn) (ob 5 [.int (k1 &&& (k2 &&& oF)), .int (k2 &&& oF), .int (k3 &&& (k4 &&& oG)), .int (k4 &&& oG)])) r (aR g 3 20 zr) := fp_o.ne orr ne_4
          have os : fp_o b n (va_up (va_up f sq (ob 5 [.int (k1 &&& (k2 &&& oF)), .int (k2 &&& oF), .int (k3 &&& (k4 &&& oG)), .int (k4 &&& oG)])) (ek cn) (ob 5 [.int (k1 &&& (k2 &&& oF)), .int (k2 &&& oF), .int (k3 &&& (k4 &&& oG)), .int (k4 &&& oG)])) sq (ob 5 [.int (k1 &&& (k2 &&& oF)), .int (k2 &&& oF), .int (k3 &&& (k4 &&& oG)), .int (k4 &&& oG)]) := fp_o.ne os ne_5
          have oe : fp_o b n (va_up (va_up f sq (ob 5 [.int (k1 &&& (k2 &&& oF)), .int (k2 &&& oF), .int (k3 &&& (k4 &&& oG)), .int (k4 &&& oG)])) (ek cn) (ob 5 [.int (k1 &&& (k2 &&& oF)), .int (k2 &&& oF), .int (k3 &&& (k4 &&& oG)), .int (k4 &&& oG)])) (er cn) (ob 3 [.ref (ek cn), .int (u1 cn), .int (u2 cn), .int (u3 cn), .int (u4 cn)]) := fp_o.ne oe ne_6
          have ok : fp_o b n (va_up (va_up f sq (ob 5 [.int (k1 &&& (k2 &&& oF)), .int (k2 &&& oF), .int (k3 &&& (k4 &&& oG)), .int (k4 &&& oG)])) (ek cn) (ob 5 [.int (k1 &&& (k2 &&& oF)), .int (k2 &&& oF), .int (k3 &&& (k4 &&& oG)), .int (k4 &&& oG)])) (ek cn) (ob 5 [.int (k1 &&& (k2 &&& oF)), .int (k2 &&& oF), .int (k3 &&& (k4 &&& oG)), .int (k4 &&& oG)]) := fp_o.up ok
          refine W.eq (g2 := F0 m 86 ls []) rfl ?_
          refine lv_aload hx hb d_T_takeIn_86 (lv_at hl 0 rfl) ?_
          refine lv_iload_n hx hb d_T_takeIn_88 rfl (lv_at hl 3 rfl) ?_
          refine fp_putN X Y oe rfl in_E to_E nm_E 1 (by decide) nw137 rfl rfl rfl (Nat.le_of_ble_eq_true rfl) d_T_takeIn_89 (fun H locs Y => ?_)
          have ne_7 : t ≠ er cn := (fp_o.nf ot oe (by simp))
          have ne_8 : r ≠ er cn := (fp_o.nf orr oe (by simp))
          have ne_9 : sq ≠ er cn := (fp_o.nf os oe (by simp))
          have ne_10 : ek cn ≠ er cn := (fp_o.nf ok oe (by simp))
          have Y : fp_H D b n A (va_up (va_up (va_up f sq (ob 5 [.int (k1 &&& (k2 &&& oF)), .int (k2 &&& oF), .int (k3 &&& (k4 &&& oG)), .int (k4 &&& oG)])) (ek cn) (ob 5 [.int (k1 &&& (k2 &&& oF)), .int (k2 &&& oF), .int (k3 &&& (k4 &&& oG)), .int (k4 &&& oG)])) (er cn) (ob 3 [.ref (ek cn), .int x1, .int (u2 cn), .int (u3 cn), .int (u4 cn)])) s.heap H locs := Y
          have ot : fp_o b n (va_up (va_up (va_up f sq (ob 5 [.int (k1 &&& (k2 &&& oF)), .int (k2 &&& oF), .int (k3 &&& (k4 &&& oG)), .int (k4 &&& oG)])) (ek cn) (ob 5 [.int (k1 &&& (k2 &&& oF)), .int (k2 &&& oF), .int (k3 &&& (k4 &&& oG)), .int (k4 &&& oG)])) (er cn) (ob 3 [.ref (ek cn), .int x1, .int (u2 cn), .int (u3 cn), .int (u4 cn)])) t (ob 6 [.ref r, .int (nI cn), .int xf, .int xg, .int hF, .int hG, .int oF, .int oG, .int al, .int ms, .ref sq]) := fp_o.ne ot ne_7
          have orr : fp_o b n (va_up (va_up (va_up f sq (ob 5 [.int (k1 &&& (k2 &&& oF)), .int (k2 &&& oF), .int (k3 &&& (k4 &&& oG)), .int (k4 &&& oG)])) (ek cn) (ob 5 [.int (k1 &&& (k2 &&& oF)), .int (k2 &&& oF), .int (k3 &&& (k4 &&& oG)), .int (k4 &&& oG)])) (er cn) (ob 3 [.ref (ek cn), .int x1, .int (u2 cn), .int (u3 cn), .int (u4 cn)])) r (aR g 3 20 zr) := fp_o.ne orr ne_8
          have os : fp_o b n (va_up (va_up (va_up f sq (ob 5 [.int (k1 &&& (k2 &&& oF)), .int (k2 &&& oF), .int (k3 &&& (k4 &&& oG)), .int (k4 &&& oG)])) (ek cn) (ob 5 [.int (k1 &&& (k2 &&& oF)), .int (k2 &&& oF), .int (k3 &&& (k4 &&& oG)), .int (k4 &&& oG)])) (er cn) (ob 3 [.ref (ek cn), .int x1, .int (u2 cn), .int (u3 cn), .int (u4 cn)])) sq (ob 5 [.int (k1 &&& (k2 &&& oF)), .int (k2 &&& oF), .int (k3 &&& (k4 &&& oG)), .int (k4 &&& oG)]) := fp_o.ne os ne_9
          have ok : fp_o b n (va_up (va_up (va_up f sq (ob 5 [.int (k1 &&& (k2 &&& oF)), .int (k2 &&& oF), .int (k3 &&& (k4 &&& oG)), .int (k4 &&& oG)])) (ek cn) (ob 5 [.int (k1 &&& (k2 &&& oF)), .int (k2 &&& oF), .int (k3 &&& (k4 &&& oG)), .int (k4 &&& oG)])) (er cn) (ob 3 [.ref (ek cn), .int x1, .int (u2 cn), .int (u3 cn), .int (u4 cn)])) (ek cn) (ob 5 [.int (k1 &&& (k2 &&& oF)), .int (k2 &&& oF), .int (k3 &&& (k4 &&& oG)), .int (k4 &&& oG)]) := fp_o.ne ok ne_10
          have oe : fp_o b n (va_up (va_up (va_up f sq (ob 5 [.int (k1 &&& (k2 &&& oF)), .int (k2 &&& oF), .int (k3 &&& (k4 &&& oG)), .int (k4 &&& oG)])) (ek cn) (ob 5 [.int (k1 &&& (k2 &&& oF)), .int (k2 &&& oF), .int (k3 &&& (k4 &&& oG)), .int (k4 &&& oG)])) (er cn) (ob 3 [.ref (ek cn), .int x1, .int (u2 cn), .int (u3 cn), .int (u4 cn)])) (er cn) (ob 3 [.ref (ek cn), .int x1, .int (u2 cn), .int (u3 cn), .int (u4 cn)]) := fp_o.up oe
          refine lv_aload hx hb d_T_takeIn_92 (lv_at hl 0 rfl) ?_
          refine lv_iload_n hx hb d_T_takeIn_94 rfl (lv_at hl 4 rfl) ?_
          refine fp_putN X Y oe rfl in_E to_E nm_E 2 (by decide) nw138 rfl rfl rfl (Nat.le_of_ble_eq_true rfl) d_T_takeIn_95 (fun H locs Y => ?_)
          have ne_11 : t ≠ er cn := (fp_o.nf ot oe (by simp))
          have ne_12 : r ≠ er cn := (fp_o.nf orr oe (by simp))
          have ne_13 : sq ≠ er cn := (fp_o.nf os oe (by simp))
          have ne_14 : ek cn ≠ er cn := (fp_o.nf ok oe (by simp))
          have Y := Y.re
          have Y : fp_H D b n A (va_up (va_up (va_up f sq (ob 5 [.int (k1 &&& (k2 &&& oF)), .int (k2 &&& oF), .int (k3 &&& (k4 &&& oG)), .int (k4 &&& oG)])) (ek cn) (ob 5 [.int (k1 &&& (k2 &&& oF)), .int (k2 &&& oF), .int (k3 &&& (k4 &&& oG)), .int (k4 &&& oG)])) (er cn) (ob 3 [.ref (ek cn), .int x1, .int x2, .int (u3 cn), .int (u4 cn)])) s.heap H locs := Y
          have ot : fp_o b n (va_up (va_up (va_up f sq (ob 5 [.int (k1 &&& (k2 &&& oF)), .int (k2 &&& oF), .int (k3 &&& (k4 &&& oG)), .int (k4 &&& oG)])) (ek cn) (ob 5 [.int (k1 &&& (k2 &&& oF)), .int (k2 &&& oF), .int (k3 &&& (k4 &&& oG)), .int (k4 &&& oG)])) (er cn) (ob 3 [.ref (ek cn), .int x1, .int x2, .int (u3 cn), .int (u4 cn)])) t (ob 6 [.ref r, .int (nI cn), .int xf, .int xg, .int hF, .int hG, .int oF, .int oG, .int al, .int ms, .ref sq]) := fp_o.re ot ne_11
          have orr : fp_o b n (va_up (va_up (va_up f sq (ob 5 [.int (k1 &&& (k2 &&& oF)), .int (k2 &&& oF), .int (k3 &&& (k4 &&& oG)), .int (k4 &&& oG)])) (ek cn) (ob 5 [.int (k1 &&& (k2 &&& oF)), .int (k2 &&& oF), .int (k3 &&& (k4 &&& oG)), .int (k4 &&& oG)])) (er cn) (ob 3 [.ref (ek cn), .int x1, .int x2, .int (u3 cn), .int (u4 cn)])) r (aR g 3 20 zr) := fp_o.re orr ne_12
          have os : fp_o b n (va_up (va_up (va_up f sq (ob 5 [.int (k1 &&& (k2 &&& oF)), .int (k2 &&& oF), .int (k3 &&& (k4 &&& oG)), .int (k4 &&& oG)])) (ek cn) (ob 5 [.int (k1 &&& (k2 &&& oF)), .int (k2 &&& oF), .int (k3 &&& (k4 &&& oG)), .int (k4 &&& oG)])) (er cn) (ob 3 [.ref (ek cn), .int x1, .int x2, .int (u3 cn), .int (u4 cn)])) sq (ob 5 [.int (k1 &&& (k2 &&& oF)), .int (k2 &&& oF), .int (k3 &&& (k4 &&& oG)), .int (k4 &&& oG)]) := fp_o.re os ne_13
          have ok : fp_o b n (va_up (va_up (va_up f sq (ob 5 [.int (k1 &&& (k2 &&& oF)), .int (k2 &&& oF), .int (k3 &&& (k4 &&& oG)), .int (k4 &&& oG)])) (ek cn) (ob 5 [.int (k1 &&& (k2 &&& oF)), .int (k2 &&& oF), .int (k3 &&& (k4 &&& oG)), .int (k4 &&& oG)])) (er cn) (ob 3 [.ref (ek cn), .int x1, .int x2, .int (u3 cn), .int (u4 cn)])) (ek cn) (ob 5 [.int (k1 &&& (k2 &&& oF)), .int (k2 &&& oF), .int (k3 &&& (k4 &&& oG)), .int (k4 &&& oG)]) := fp_o.re ok ne_14
          have oe : fp_o b n (va_up (va_up (va_up f sq (ob 5 [.int (k1 &&& (k2 &&& oF)), .int (k2 &&& oF), .int (k3 &&& (k4 &&& oG)), .int (k4 &&& oG)])) (ek cn) (ob 5 [.int (k1 &&& (k2 &&& oF)), .int (k2 &&& oF), .int (k3 &&& (k4 &&& oG)), .int (k4 &&& oG)])) (er cn) (ob 3 [.ref (ek cn), .int x1, .int x2, .int (u3 cn), .int (u4 cn)])) (er cn) (ob 3 [.ref (ek cn), .int x1, .int x2, .int (u3 cn), .int (u4 cn)]) := fp_o.rs oe
          refine lv_aload hx hb d_T_takeIn_98 (lv_at hl 0 rfl) ?_
          refine lv_iload hx hb d_T_takeIn_100 (lv_at hl 5 rfl) ?_
          refine fp_putN X Y oe rfl in_E to_E nm_E 3 (by decide) nw140 rfl rfl rfl (Nat.le_of_ble_eq_true rfl) d_T_takeIn_102 (fun H locs Y => ?_)
          have ne_15 : t ≠ er cn := (fp_o.nf ot oe (by simp))
          have ne_16 : r ≠ er cn := (fp_o.nf orr oe (by simp))
          have ne_17 : sq ≠ er cn := (fp_o.nf os oe (by simp))
          have ne_18 : ek cn ≠ er cn := (fp_o.nf ok oe (by simp))
          have Y := Y.re
          have Y : fp_H D b n A (va_up (va_up (va_up f sq (ob 5 [.int (k1 &&& (k2 &&& oF)), .int (k2 &&& oF), .int (k3 &&& (k4 &&& oG)), .int (k4 &&& oG)])) (ek cn) (ob 5 [.int (k1 &&& (k2 &&& oF)), .int (k2 &&& oF), .int (k3 &&& (k4 &&& oG)), .int (k4 &&& oG)])) (er cn) (ob 3 [.ref (ek cn), .int x1, .int x2, .int x3, .int (u4 cn)])) s.heap H locs := Y
          have ot : fp_o b n (va_up (va_up (va_up f sq (ob 5 [.int (k1 &&& (k2 &&& oF)), .int (k2 &&& oF), .int (k3 &&& (k4 &&& oG)), .int (k4 &&& oG)])) (ek cn) (ob 5 [.int (k1 &&& (k2 &&& oF)), .int (k2 &&& oF), .int (k3 &&& (k4 &&& oG)), .int (k4 &&& oG)])) (er cn) (ob 3 [.ref (ek cn), .int x1, .int x2, .int x3, .int (u4 cn)])) t (ob 6 [.ref r, .int (nI cn), .int xf, .int xg, .int hF, .int hG, .int oF, .int oG, .int al, .int ms, .ref sq]) := fp_o.re ot ne_15
          have orr : fp_o b n (va_up (va_up (va_up f sq (ob 5 [.int (k1 &&& (k2 &&& oF)), .int (k2 &&& oF), .int (k3 &&& (k4 &&& oG)), .int (k4 &&& oG)])) (ek cn) (ob 5 [.int (k1 &&& (k2 &&& oF)), .int (k2 &&& oF), .int (k3 &&& (k4 &&& oG)), .int (k4 &&& oG)])) (er cn) (ob 3 [.ref (ek cn), .int x1, .int x2, .int x3, .int (u4 cn)])) r (aR g 3 20 zr) := fp_o.re orr ne_16
          have os : fp_o b n (va_up (va_up (va_up f sq (ob 5 [.int (k1 &&& (k2 &&& oF)), .int (k2 &&& oF), .int (k3 &&& (k4 &&& oG)), .int (k4 &&& oG)])) (ek cn) (ob 5 [.int (k1 &&& (k2 &&& oF)), .int (k2 &&& oF), .int (k3 &&& (k4 &&& oG)), .int (k4 &&& oG)])) (er cn) (ob 3 [.ref (ek cn), .int x1, .int x2, .int x3, .int (u4 cn)])) sq (ob 5 [.int (k1 &&& (k2 &&& oF)), .int (k2 &&& oF), .int (k3 &&& (k4 &&& oG)), .int (k4 &&& oG)]) := fp_o.re os ne_17
          have ok : fp_o b n (va_up (va_up (va_up f sq (ob 5 [.int (k1 &&& (k2 &&& oF)), .int (k2 &&& oF), .int (k3 &&& (k4 &&& oG)), .int (k4 &&& oG)])) (ek cn) (ob 5 [.int (k1 &&& (k2 &&& oF)), .int (k2 &&& oF), .int (k3 &&& (k4 &&& oG)), .int (k4 &&& oG)])) (er cn) (ob 3 [.ref (ek cn), .int x1, .int x2, .int x3, .int (u4 cn)])) (ek cn) (ob 5 [.int (k1 &&& (k2 &&& oF)), .int (k2 &&& oF), .int (k3 &&& (k4 &&& oG)), .int (k4 &&& oG)]) := fp_o.re ok ne_18
          have oe : fp_o b n (va_up (va_up (va_up f sq (ob 5 [.int (k1 &&& (k2 &&& oF)), .int (k2 &&& oF), .int (k3 &&& (k4 &&& oG)), .int (k4 &&& oG)])) (ek cn) (ob 5 [.int (k1 &&& (k2 &&& oF)), .int (k2 &&& oF), .int (k3 &&& (k4 &&& oG)), .int (k4 &&& oG)])) (er cn) (ob 3 [.ref (ek cn), .int x1, .int x2, .int x3, .int (u4 cn)])) (er cn) (ob 3 [.ref (ek cn), .int x1, .int x2, .int x3, .int (u4 cn)]) := fp_o.rs oe
          refine lv_aload hx hb d_T_takeIn_105 (lv_at hl 0 rfl) ?_
          refine lv_iload hx hb d_T_takeIn_107 (lv_at hl 6 rfl) ?_
          refine fp_putN X Y oe rfl in_E to_E nm_E 4 (by decide) nw142 rfl rfl rfl (Nat.le_of_ble_eq_true rfl) d_T_takeIn_109 (fun H locs Y => ?_)
          have ne_19 : t ≠ er cn := (fp_o.nf ot oe (by simp))
          have ne_20 : r ≠ er cn := (fp_o.nf orr oe (by simp))
          have ne_21 : sq ≠ er cn := (fp_o.nf os oe (by simp))
          have ne_22 : ek cn ≠ er cn := (fp_o.nf ok oe (by simp))
          have Y := Y.re
          have Y : fp_H D b n A (va_up (va_up (va_up f sq (ob 5 [.int (k1 &&& (k2 &&& oF)), .int (k2 &&& oF), .int (k3 &&& (k4 &&& oG)), .int (k4 &&& oG)])) (ek cn) (ob 5 [.int (k1 &&& (k2 &&& oF)), .int (k2 &&& oF), .int (k3 &&& (k4 &&& oG)), .int (k4 &&& oG)])) (er cn) (ob 3 [.ref (ek cn), .int x1, .int x2, .int x3, .int x4])) s.heap H locs := Y
          have ot : fp_o b n (va_up (va_up (va_up f sq (ob 5 [.int (k1 &&& (k2 &&& oF)), .int (k2 &&& oF), .int (k3 &&& (k4 &&& oG)), .int (k4 &&& oG)])) (ek cn) (ob 5 [.int (k1 &&& (k2 &&& oF)), .int (k2 &&& oF), .int (k3 &&& (k4 &&& oG)), .int (k4 &&& oG)])) (er cn) (ob 3 [.ref (ek cn), .int x1, .int x2, .int x3, .int x4])) t (ob 6 [.ref r, .int (nI cn), .int xf, .int xg, .int hF, .int hG, .int oF, .int oG, .int al, .int ms, .ref sq]) := fp_o.re ot ne_19
          have orr : fp_o b n (va_up (va_up (va_up f sq (ob 5 [.int (k1 &&& (k2 &&& oF)), .int (k2 &&& oF), .int (k3 &&& (k4 &&& oG)), .int (k4 &&& oG)])) (ek cn) (ob 5 [.int (k1 &&& (k2 &&& oF)), .int (k2 &&& oF), .int (k3 &&& (k4 &&& oG)), .int (k4 &&& oG)])) (er cn) (ob 3 [.ref (ek cn), .int x1, .int x2, .int x3, .int x4])) r (aR g 3 20 zr) := fp_o.re orr ne_20
          have os : fp_o b n (va_up (va_up (va_up f sq (ob 5 [.int (k1 &&& (k2 &&& oF)), .int (k2 &&& oF), .int (k3 &&& (k4 &&& oG)), .int (k4 &&& oG)])) (ek cn) (ob 5 [.int (k1 &&& (k2 &&& oF)), .int (k2 &&& oF), .int (k3 &&& (k4 &&& oG)), .int (k4 &&& oG)])) (er cn) (ob 3 [.ref (ek cn), .int x1, .int x2, .int x3, .int x4])) sq (ob 5 [.int (k1 &&& (k2 &&& oF)), .int (k2 &&& oF), .int (k3 &&& (k4 &&& oG)), .int (k4 &&& oG)]) := fp_o.re os ne_21
          have ok : fp_o b n (va_up (va_up (va_up f sq (ob 5 [.int (k1 &&& (k2 &&& oF)), .int (k2 &&& oF), .int (k3 &&& (k4 &&& oG)), .int (k4 &&& oG)])) (ek cn) (ob 5 [.int (k1 &&& (k2 &&& oF)), .int (k2 &&& oF), .int (k3 &&& (k4 &&& oG)), .int (k4 &&& oG)])) (er cn) (ob 3 [.ref (ek cn), .int x1, .int x2, .int x3, .int x4])) (ek cn) (ob 5 [.int (k1 &&& (k2 &&& oF)), .int (k2 &&& oF), .int (k3 &&& (k4 &&& oG)), .int (k4 &&& oG)]) := fp_o.re ok ne_22
          have oe : fp_o b n (va_up (va_up (va_up f sq (ob 5 [.int (k1 &&& (k2 &&& oF)), .int (k2 &&& oF), .int (k3 &&& (k4 &&& oG)), .int (k4 &&& oG)])) (ek cn) (ob 5 [.int (k1 &&& (k2 &&& oF)), .int (k2 &&& oF), .int (k3 &&& (k4 &&& oG)), .int (k4 &&& oG)])) (er cn) (ob 3 [.ref (ek cn), .int x1, .int x2, .int x3, .int x4])) (er cn) (ob 3 [.ref (ek cn), .int x1, .int x2, .int x3, .int x4]) := fp_o.rs oe
          refine lv_aload_n hx hb d_T_takeIn_112 rfl (lv_at hl 1 rfl) ?_
          refine lv_dup hx hb d_T_takeIn_113 rfl ?_
          refine fp_get X Y ot rfl in_T 1 (by decide) w156 rfl d_T_takeIn_114 ?_
          refine lv_iconst (v := 1) hx hb d_T_takeIn_117 (by decide) ?_
          refine lv_iadd hx hb d_T_takeIn_118 ?_
          refine fp_put X Y ot rfl in_T to_T nm_T 1 (by decide) w156 rfl rfl rfl (Nat.le_of_ble_eq_true rfl) d_T_takeIn_119 (fun H locs Y => ?_)
          have ne_23 : r ≠ t := (fp_o.nf orr ot (by simp))
          have ne_24 : sq ≠ t := (fp_o.nf os ot (by simp))
          have ne_25 : er cn ≠ t := (fp_o.nf oe ot (by simp))
          have ne_26 : ek cn ≠ t := (fp_o.nf ok ot (by simp))
          have Y : fp_H D b n A (va_up (va_up (va_up (va_up f sq (ob 5 [.int (k1 &&& (k2 &&& oF)), .int (k2 &&& oF), .int (k3 &&& (k4 &&& oG)), .int (k4 &&& oG)])) (ek cn) (ob 5 [.int (k1 &&& (k2 &&& oF)), .int (k2 &&& oF), .int (k3 &&& (k4 &&& oG)), .int (k4 &&& oG)])) (er cn) (ob 3 [.ref (ek cn), .int x1, .int x2, .int x3, .int x4])) t (ob 6 [.ref r, .int ((nI cn) + 1), .int xf, .int xg, .int hF, .int hG, .int oF, .int oG, .int al, .int ms, .ref sq])) s.heap H locs := Y
          have orr : fp_o b n (va_up (va_up (va_up (va_up f sq (ob 5 [.int (k1 &&& (k2 &&& oF)), .int (k2 &&& oF), .int (k3 &&& (k4 &&& oG)), .int (k4 &&& oG)])) (ek cn) (ob 5 [.int (k1 &&& (k2 &&& oF)), .int (k2 &&& oF), .int (k3 &&& (k4 &&& oG)), .int (k4 &&& oG)])) (er cn) (ob 3 [.ref (ek cn), .int x1, .int x2, .int x3, .int x4])) t (ob 6 [.ref r, .int ((nI cn) + 1), .int xf, .int xg, .int hF, .int hG, .int oF, .int oG, .int al, .int ms, .ref sq])) r (aR g 3 20 zr) := fp_o.ne orr ne_23
          have os : fp_o b n (va_up (va_up (va_up (va_up f sq (ob 5 [.int (k1 &&& (k2 &&& oF)), .int (k2 &&& oF), .int (k3 &&& (k4 &&& oG)), .int (k4 &&& oG)])) (ek cn) (ob 5 [.int (k1 &&& (k2 &&& oF)), .int (k2 &&& oF), .int (k3 &&& (k4 &&& oG)), .int (k4 &&& oG)])) (er cn) (ob 3 [.ref (ek cn), .int x1, .int x2, .int x3, .int x4])) t (ob 6 [.ref r, .int ((nI cn) + 1), .int xf, .int xg, .int hF, .int hG, .int oF, .int oG, .int al, .int ms, .ref sq])) sq (ob 5 [.int (k1 &&& (k2 &&& oF)), .int (k2 &&& oF), .int (k3 &&& (k4 &&& oG)), .int (k4 &&& oG)]) := fp_o.ne os ne_24
          have oe : fp_o b n (va_up (va_up (va_up (va_up f sq (ob 5 [.int (k1 &&& (k2 &&& oF)), .int (k2 &&& oF), .int (k3 &&& (k4 &&& oG)), .int (k4 &&& oG)])) (ek cn) (ob 5 [.int (k1 &&& (k2 &&& oF)), .int (k2 &&& oF), .int (k3 &&& (k4 &&& oG)), .int (k4 &&& oG)])) (er cn) (ob 3 [.ref (ek cn), .int x1, .int x2, .int x3, .int x4])) t (ob 6 [.ref r, .int ((nI cn) + 1), .int xf, .int xg, .int hF, .int hG, .int oF, .int oG, .int al, .int ms, .ref sq])) (er cn) (ob 3 [.ref (ek cn), .int x1, .int x2, .int x3, .int x4]) := fp_o.ne oe ne_25
          have ok : fp_o b n (va_up (va_up (va_up (va_up f sq (ob 5 [.int (k1 &&& (k2 &&& oF)), .int (k2 &&& oF), .int (k3 &&& (k4 &&& oG)), .int (k4 &&& oG)])) (ek cn) (ob 5 [.int (k1 &&& (k2 &&& oF)), .int (k2 &&& oF), .int (k3 &&& (k4 &&& oG)), .int (k4 &&& oG)])) (er cn) (ob 3 [.ref (ek cn), .int x1, .int x2, .int x3, .int x4])) t (ob 6 [.ref r, .int ((nI cn) + 1), .int xf, .int xg, .int hF, .int hG, .int oF, .int oG, .int al, .int ms, .ref sq])) (ek cn) (ob 5 [.int (k1 &&& (k2 &&& oF)), .int (k2 &&& oF), .int (k3 &&& (k4 &&& oG)), .int (k4 &&& oG)]) := fp_o.ne ok ne_26
          have ot : fp_o b n (va_up (va_up (va_up (va_up f sq (ob 5 [.int (k1 &&& (k2 &&& oF)), .int (k2 &&& oF), .int (k3 &&& (k4 &&& oG)), .int (k4 &&& oG)])) (ek cn) (ob 5 [.int (k1 &&& (k2 &&& oF)), .int (k2 &&& oF), .int (k3 &&& (k4 &&& oG)), .int (k4 &&& oG)])) (er cn) (ob 3 [.ref (ek cn), .int x1, .int x2, .int x3, .int x4])) t (ob 6 [.ref r, .int ((nI cn) + 1), .int xf, .int xg, .int hF, .int hG, .int oF, .int oG, .int al, .int ms, .ref sq])) t (ob 6 [.ref r, .int ((nI cn) + 1), .int xf, .int xg, .int hF, .int hG, .int oF, .int oG, .int al, .int ms, .ref sq]) := fp_o.up ot
          refine lv_iconst (v := 1) hx hb d_T_takeIn_122 (by decide) ?_
          exact ret _ _ _ _ _ _ d_T_takeIn_123 ⟨_, rfl, rfl⟩ ⟨by simp [q_tk, c_9, c_17, c_25, c_34], by rw [if_neg (by simp [q_tk, c_9, c_17, c_25, c_34]), ← nI_1]⟩ Y
        · refine lv_iconst (v := 0) hx hb d_T_takeIn_37 (by decide) ?_
          exact ret _ _ _ _ _ _ d_T_takeIn_38 ⟨_, rfl, rfl⟩ ⟨by simp [q_tk, c_9, c_17, c_25, c_34], by simp [q_tk, c_9, c_17, c_25, c_34]⟩ Y
end
section
/-! Contracts: Table.takeOut, Arrays.fill, Counts.forget (by wip/gen/k4.py). -/
theorem nI_m1 {k : Nat} (h : 0 < k) : nI k - 1 = nI (k - 1) := by
  rw [show (1 : Int32) = nI 1 from rfl, pk_sub (by omega)]
theorem m1_ne {k : Nat} (h : k < 2 ^ 31) : (-1 : Int32) ≠ nI k := fun e => nI_pos h (by rw [← e]; decide)
def q_fill (z : Nat → Int32) (x : Int32) (i : Nat) : Nat → Int32 := fun j => if j < i then x else z j
theorem q_fill_0 (z : Nat → Int32) (x : Int32) : q_fill z x 0 = z := by funext j; simp [q_fill]
theorem q_fill_s (z : Nat → Int32) (x : Int32) (i : Nat) : upd (q_fill z x i) i x = q_fill z x (i + 1) := by
  funext j
  by_cases hj : j = i
  · subst hj; rw [pk_us]; simp [q_fill]
  · rw [pk_un hj]
    by_cases h : j < i
    · have h2 : j < i + 1 := by omega
      simp only [q_fill, if_pos h, if_pos h2]
    · have h2 : ¬ j < i + 1 := by omega
      simp only [q_fill, if_neg h, if_neg h2]
set_option maxHeartbeats 4000000 in
set_option maxRecDepth 100000 in
theorem c_T_takeOut {l : Launch} {D : va_G} {g : Nat → ClassId} {b n : Nat} {A : Nat → Prop} {f : Nat → va_E} {t r sq cn : Nat} {xf xg hF hG oF oG al ms : Int32} {zr : Nat → Option Nat} {er ek : Nat → Nat} {u1 u2 u3 u4 y1 y2 y3 y4 : Nat → Int32} {kq : Nat} {k1 k2 k3 k4 s1 s2 s3 s4 : Int32} (hcn : cn ≤ 20) (hr : ∀ i : Nat, i < 20 → zr i = some (er i)) (hsk : ∀ i : Nat, i < 20 → ek i ≠ sq) (ot : fp_o b n f t (ob 6 [.ref r, .int (nI cn), .int xf, .int xg, .int hF, .int hG, .int oF, .int oG, .int al, .int ms, .ref sq])) (orr : fp_o b n f r (aR g 3 20 zr)) (os : fp_o b n f sq (ob 5 [.int s1, .int s2, .int s3, .int s4])) (oq : fp_o b n f kq (ob 5 [.int k1, .int k2, .int k3, .int k4])) (he : ∀ i9 : Nat, i9 < 20 → fp_o b n f (er i9) (ob 3 [.ref (ek i9), .int (u1 i9), .int (u2 i9), .int (u3 i9), .int (u4 i9)])) (hk : ∀ i9 : Nat, i9 < 20 → fp_o b n f (ek i9) (ob 5 [.int (y1 i9), .int (y2 i9), .int (y3 i9), .int (y4 i9)]))  (hA : fp_W b n A := by assumption) : fp_M l D (TY g) b n A y_T_takeOut (fp_ws y_T_takeOut b_T_takeOut 5 (some FieldType.boolean)) (rmD 2) [.ref t, .ref kq] f (fun v f' => (q_row (fun i => q_same (y1 i) (y2 i) (y3 i) (y4 i) (k1 &&& (k2 &&& oF)) (k2 &&& oF) (k3 &&& (k4 &&& oG)) (k4 &&& oG)) cn 0 = -1 → v = some (.int 0) ∧ f' = (va_up f sq (ob 5 [.int (k1 &&& (k2 &&& oF)), .int (k2 &&& oF), .int (k3 &&& (k4 &&& oG)), .int (k4 &&& oG)]))) ∧ ∀ row : Nat, row < cn → q_row (fun i => q_same (y1 i) (y2 i) (y3 i) (y4 i) (k1 &&& (k2 &&& oF)) (k2 &&& oF) (k3 &&& (k4 &&& oG)) (k4 &&& oG)) cn 0 = nI row → v = some (.int 1) ∧ f' = (va_up (va_up (va_up (va_up f sq (ob 5 [.int (k1 &&& (k2 &&& oF)), .int (k2 &&& oF), .int (k3 &&& (k4 &&& oG)), .int (k4 &&& oG)])) r (aR g 3 20 (q_sh zr row cn))) t (ob 6 [.ref r, .int (nI (cn - 1)), .int xf, .int xg, .int hF, .int hG, .int oF, .int oG, .int al, .int ms, .ref sq])) r (aR g 3 20 (va_up (q_sh zr row cn) (cn - 1) (some (er row)))))) := by
  refine fp_ofI (plainFor_of_name (by decide)) (Nat.le_of_ble_eq_true rfl) ?_
  intro p e s m args below meth c Q ls H locs X Y hl ret
  have hx := X.1.1
  have hb := X.1.2.1
  have hl : lv_has ls 5 [(0, .ref t), (1, .ref kq)] := hl
  refine lv_aload_n hx hb d_T_takeOut_0 rfl (lv_at hl 0 rfl) ?_
  refine lv_aload_n hx hb d_T_takeOut_1 rfl (lv_at hl 1 rfl) ?_
  refine fp_callV (nA := 1) (As := [.ref kq]) (rest := []) X Y (c_T_seek ot os oq) ot rfl w537 w534 w536 wp8 w7 (by decide +kernel) ⟨rfl, rfl⟩ ⟨Nat.le_of_ble_eq_true rfl, Nat.le_of_ble_eq_true rfl⟩ rfl hl.1 rfl (Nat.le_of_ble_eq_true rfl) d_T_takeOut_2 ⟨Nat.zero_le _, Nat.zero_le _⟩ (fun v9 f9 H locs hp9 Y => ?_)
  obtain ⟨e8, e9⟩ := hp9
  subst e8
  rw [e9] at Y
  have ne_1 : t ≠ sq := (fp_o.nf ot os (by simp))
  have ne_2 : r ≠ sq := (fp_o.nf orr os (by simp))
  have Y : fp_H D b n A (va_up f sq (ob 5 [.int (k1 &&& (k2 &&& oF)), .int (k2 &&& oF), .int (k3 &&& (k4 &&& oG)), .int (k4 &&& oG)])) s.heap H locs := Y
  have ot : fp_o b n (va_up f sq (ob 5 [.int (k1 &&& (k2 &&& oF)), .int (k2 &&& oF), .int (k3 &&& (k4 &&& oG)), .int (k4 &&& oG)])) t (ob 6 [.ref r, .int (nI cn), .int xf, .int xg, .int hF, .int hG, .int oF, .int oG, .int al, .int ms, .ref sq]) := fp_o.ne ot ne_1
  have orr : fp_o b n (va_up f sq (ob 5 [.int (k1 &&& (k2 &&& oF)), .int (k2 &&& oF), .int (k3 &&& (k4 &&& oG)), .int (k4 &&& oG)])) r (aR g 3 20 zr) := fp_o.ne orr ne_2
  have he : ∀ i9 : Nat, i9 < 20 → fp_o b n (va_up f sq (ob 5 [.int (k1 &&& (k2 &&& oF)), .int (k2 &&& oF), .int (k3 &&& (k4 &&& oG)), .int (k4 &&& oG)])) (er i9) (ob 3 [.ref (ek i9), .int (u1 i9), .int (u2 i9), .int (u3 i9), .int (u4 i9)]) := fun i9 hi9 => fp_o.ne (he i9 hi9) (fp_o.nf (he i9 hi9) os (by simp))
  have hk : ∀ i9 : Nat, i9 < 20 → fp_o b n (va_up f sq (ob 5 [.int (k1 &&& (k2 &&& oF)), .int (k2 &&& oF), .int (k3 &&& (k4 &&& oG)), .int (k4 &&& oG)])) (ek i9) (ob 5 [.int (y1 i9), .int (y2 i9), .int (y3 i9), .int (y4 i9)]) := fun i9 hi9 => fp_o.ne (hk i9 hi9) (hsk i9 hi9)
  have os : fp_o b n (va_up f sq (ob 5 [.int (k1 &&& (k2 &&& oF)), .int (k2 &&& oF), .int (k3 &&& (k4 &&& oG)), .int (k4 &&& oG)])) sq (ob 5 [.int (k1 &&& (k2 &&& oF)), .int (k2 &&& oF), .int (k3 &&& (k4 &&& oG)), .int (k4 &&& oG)]) := fp_o.up os
  refine W.eq (g2 := F0 m 5 ls []) rfl ?_
  refine lv_aload_n hx hb d_T_takeOut_5 rfl (lv_at hl 0 rfl) ?_
  refine fp_callV (nA := 0) (As := []) (rest := []) X Y (c_T_rowOfSought hcn (fun i hi => hr i (by omega)) ot orr os (fun i hi => he i (by omega)) (fun i hi => hk i (by omega))) ot rfl w553 w550 w552 wp11 w7 (by decide +kernel) ⟨rfl, rfl⟩ ⟨Nat.le_of_ble_eq_true rfl, Nat.le_of_ble_eq_true rfl⟩ rfl hl.1 rfl (Nat.le_of_ble_eq_true rfl) d_T_takeOut_6 ⟨Nat.zero_le _, Nat.zero_le _⟩ (fun v9 f9 H locs hp9 Y => ?_)
  obtain ⟨e8, e9⟩ := hp9
  subst e8
  rw [e9] at Y
  refine W.eq (g2 := F0 m 9 ls [.int (q_row (fun i => q_same (y1 i) (y2 i) (y3 i) (y4 i) (k1 &&& (k2 &&& oF)) (k2 &&& oF) (k3 &&& (k4 &&& oG)) (k4 &&& oG)) cn 0)]) rfl ?_
  refine lv_istore_n (lv' := [(2, .int (q_row (fun i => q_same (y1 i) (y2 i) (y3 i) (y4 i) (k1 &&& (k2 &&& oF)) (k2 &&& oF) (k3 &&& (k4 &&& oG)) (k4 &&& oG)) cn 0)), (0, .ref t), (1, .ref kq)]) hx hb d_T_takeOut_9 rfl hl (by decide) rfl (fun ls hl => ?_)
  rcases q_row_or (fun i => q_same (y1 i) (y2 i) (y3 i) (y4 i) (k1 &&& (k2 &&& oF)) (k2 &&& oF) (k3 &&& (k4 &&& oG)) (k4 &&& oG)) cn 0 with hq | ⟨row, -, hrow, hq, -⟩
  · have hl : lv_has ls 5 [(2, .int (-1)), (0, .ref t), (1, .ref kq)] := by rw [hq] at hl; exact hl
    refine lv_iload_n hx hb d_T_takeOut_10 rfl (lv_at hl 0 rfl) ?_
    refine lv_if_lt (tgt := 22) hx hb d_T_takeOut_11 (by decide) (fun c_11 => ?_) (fun c_11 => absurd (by decide) c_11)
    refine lv_iconst (v := 0) hx hb d_T_takeOut_22 (by decide) ?_
    exact ret _ _ _ _ _ _ d_T_takeOut_23 ⟨_, rfl, rfl⟩ ⟨fun _ => ⟨rfl, rfl⟩, fun row h1 h2 => absurd (hq.symm.trans h2) (m1_ne (by omega))⟩ Y
  · have hl : lv_has ls 5 [(2, .int (nI row)), (0, .ref t), (1, .ref kq)] := by rw [hq] at hl; exact hl
    refine lv_iload_n hx hb d_T_takeOut_10 rfl (lv_at hl 0 rfl) ?_
    refine lv_if_lt (tgt := 22) hx hb d_T_takeOut_11 (by decide) (fun c_11 => absurd c_11 (nI_pos (by omega))) (fun c_11 => ?_)
    refine lv_iload_n hx hb d_T_takeOut_14 rfl (lv_at hl 0 rfl) ?_
    refine lv_aload_n hx hb d_T_takeOut_15 rfl (lv_at hl 1 rfl) ?_
    refine fp_get X Y ot rfl in_T 1 (by decide) w156 rfl d_T_takeOut_16 ?_
    refine lv_icmp_lt (tgt := 24) hx hb d_T_takeOut_19 (by decide) (fun c_19 => ?_) (fun c_19 => absurd (nI_lt (by omega) (by omega)) c_19)
    refine lv_aload_n hx hb d_T_takeOut_24 rfl (lv_at hl 1 rfl) ?_
    refine fp_get X Y ot rfl in_T 0 (by decide) w155 rfl d_T_takeOut_25 ?_
    refine lv_iload_n hx hb d_T_takeOut_28 rfl (lv_at hl 0 rfl) ?_
    have oe : fp_o b n (va_up f sq (ob 5 [.int (k1 &&& (k2 &&& oF)), .int (k2 &&& oF), .int (k3 &&& (k4 &&& oG)), .int (k4 &&& oG)])) (er row) (ob 3 [.ref (ek row), .int (u1 row), .int (u2 row), .int (u3 row), .int (u4 row)]) := he row (by omega)
    refine fp_ald 3 rfl X Y orr row rfl (by omega) (by decide) (hr row (by omega)) d_T_takeOut_29 ?_
    refine lv_astore_n (lv' := [(3, .ref (er row)), (2, .int (nI row)), (0, .ref t), (1, .ref kq)]) hx hb d_T_takeOut_30 rfl hl (by decide) rfl (fun ls hl => ?_)
    refine lv_iload_n hx hb d_T_takeOut_31 rfl (lv_at hl 1 rfl) ?_
    refine lv_iconst (v := 1) hx hb d_T_takeOut_32 (by decide) ?_
    refine lv_iadd hx hb d_T_takeOut_33 ?_
    rw [nI_1]
    refine lv_istore (lv' := [(4, .int (nI (row + 1))), (3, .ref (er row)), (2, .int (nI row)), (0, .ref t), (1, .ref kq)]) hx hb d_T_takeOut_34 hl (by decide) rfl (fun ls hl => ?_)
    have loop : ∀ (k i : Nat), k + i = cn → row < i → ∀ (H : Heap) (locs : List Loc), fp_H D b n A (va_up (va_up f sq (ob 5 [.int (k1 &&& (k2 &&& oF)), .int (k2 &&& oF), .int (k3 &&& (k4 &&& oG)), .int (k4 &&& oG)])) r (aR g 3 20 (q_sh zr row i))) s.heap H locs → ∀ (ls : Array Slot), lv_has ls 5 [(4, .int (nI i)), (3, .ref (er row)), (2, .int (nI row)), (1, .ref kq), (0, .ref t)] → W p l e (rmD 2) s m args below meth c H locs 0 0 Q (F0 m 36 ls []) := by
      intro k
      induction k with
      | zero =>
        intro i hi hri H locs Y ls hl
        have e0 : i = cn := by omega
        rw [e0] at Y hl
        have ne_3 : t ≠ r := (fp_o.nf ot orr (by simp))
        have ne_4 : sq ≠ r := (fp_o.nf os orr (by simp))
        have ne_5 : er row ≠ r := (fp_o.nf oe orr (by simp))
        have Y : fp_H D b n A (va_up (va_up f sq (ob 5 [.int (k1 &&& (k2 &&& oF)), .int (k2 &&& oF), .int (k3 &&& (k4 &&& oG)), .int (k4 &&& oG)])) r (aR g 3 20 (q_sh zr row cn))) s.heap H locs := Y
        have ot : fp_o b n (va_up (va_up f sq (ob 5 [.int (k1 &&& (k2 &&& oF)), .int (k2 &&& oF), .int (k3 &&& (k4 &&& oG)), .int (k4 &&& oG)])) r (aR g 3 20 (q_sh zr row cn))) t (ob 6 [.ref r, .int (nI cn), .int xf, .int xg, .int hF, .int hG, .int oF, .int oG, .int al, .int ms, .ref sq]) := fp_o.ne ot ne_3
        have os : fp_o b n (va_up (va_up f sq (ob 5 [.int (k1 &&& (k2 &&& oF)), .int (k2 &&& oF), .int (k3 &&& (k4 &&& oG)), .int (k4 &&& oG)])) r (aR g 3 20 (q_sh zr row cn))) sq (ob 5 [.int (k1 &&& (k2 &&& oF)), .int (k2 &&& oF), .int (k3 &&& (k4 &&& oG)), .int (k4 &&& oG)]) := fp_o.ne os ne_4
        have oe : fp_o b n (va_up (va_up f sq (ob 5 [.int (k1 &&& (k2 &&& oF)), .int (k2 &&& oF), .int (k3 &&& (k4 &&& oG)), .int (k4 &&& oG)])) r (aR g 3 20 (q_sh zr row cn))) (er row) (ob 3 [.ref (ek row), .int (u1 row), .int (u2 row), .int (u3 row), .int (u4 row)]) := fp_o.ne oe ne_5
        have he : ∀ i9 : Nat, i9 < 20 → fp_o b n (va_up (va_up f sq (ob 5 [.int (k1 &&& (k2 &&& oF)), .int (k2 &&& oF), .int (k3 &&& (k4 &&& oG)), .int (k4 &&& oG)])) r (aR g 3 20 (q_sh zr row cn))) (er i9) (ob 3 [.ref (ek i9), .int (u1 i9), .int (u2 i9), .int (u3 i9), .int (u4 i9)]) := fun i9 hi9 => fp_o.ne (he i9 hi9) (fp_o.nf (he i9 hi9) orr (by simp))
        have hk : ∀ i9 : Nat, i9 < 20 → fp_o b n (va_up (va_up f sq (ob 5 [.int (k1 &&& (k2 &&& oF)), .int (k2 &&& oF), .int (k3 &&& (k4 &&& oG)), .int (k4 &&& oG)])) r (aR g 3 20 (q_sh zr row cn))) (ek i9) (ob 5 [.int (y1 i9), .int (y2 i9), .int (y3 i9), .int (y4 i9)]) := fun i9 hi9 => fp_o.ne (hk i9 hi9) (fp_o.nf (hk i9 hi9) orr (by simp))
        have orr : fp_o b n (va_up (va_up f sq (ob 5 [.int (k1 &&& (k2 &&& oF)), .int (k2 &&& oF), .int (k3 &&& (k4 &&& oG)), .int (k4 &&& oG)])) r (aR g 3 20 (q_sh zr row cn))) r (aR g 3 20 (q_sh zr row cn)) := fp_o.up orr
        refine lv_iload hx hb d_T_takeOut_36 (lv_at hl 0 rfl) ?_
        refine lv_aload_n hx hb d_T_takeOut_38 rfl (lv_at hl 4 rfl) ?_
        refine fp_get X Y ot rfl in_T 1 (by decide) w156 rfl d_T_takeOut_39 ?_
        refine lv_icmp_ge (tgt := 67) hx hb d_T_takeOut_42 (by decide) (fun c_42 => ?_) (fun c_42 => absurd (Int32.le_refl _) c_42)
        refine lv_aload_n hx hb d_T_takeOut_67 rfl (lv_at hl 4 rfl) ?_
        refine lv_dup hx hb d_T_takeOut_68 rfl ?_
        refine fp_get X Y ot rfl in_T 1 (by decide) w156 rfl d_T_takeOut_69 ?_
        refine lv_iconst (v := 1) hx hb d_T_takeOut_72 (by decide) ?_
        refine lv_isub hx hb d_T_takeOut_73 ?_
        refine fp_put X Y ot rfl in_T to_T nm_T 1 (by decide) w156 rfl rfl rfl (Nat.le_of_ble_eq_true rfl) d_T_takeOut_74 (fun H locs Y => ?_)
        have ne_6 : r ≠ t := (fp_o.nf orr ot (by simp))
        have ne_7 : sq ≠ t := (fp_o.nf os ot (by simp))
        have ne_8 : er row ≠ t := (fp_o.nf oe ot (by simp))
        have Y : fp_H D b n A (va_up (va_up (va_up f sq (ob 5 [.int (k1 &&& (k2 &&& oF)), .int (k2 &&& oF), .int (k3 &&& (k4 &&& oG)), .int (k4 &&& oG)])) r (aR g 3 20 (q_sh zr row cn))) t (ob 6 [.ref r, .int ((nI cn) - 1), .int xf, .int xg, .int hF, .int hG, .int oF, .int oG, .int al, .int ms, .ref sq])) s.heap H locs := Y
        have orr : fp_o b n (va_up (va_up (va_up f sq (ob 5 [.int (k1 &&& (k2 &&& oF)), .int (k2 &&& oF), .int (k3 &&& (k4 &&& oG)), .int (k4 &&& oG)])) r (aR g 3 20 (q_sh zr row cn))) t (ob 6 [.ref r, .int ((nI cn) - 1), .int xf, .int xg, .int hF, .int hG, .int oF, .int oG, .int al, .int ms, .ref sq])) r (aR g 3 20 (q_sh zr row cn)) := fp_o.ne orr ne_6
        have os : fp_o b n (va_up (va_up (va_up f sq (ob 5 [.int (k1 &&& (k2 &&& oF)), .int (k2 &&& oF), .int (k3 &&& (k4 &&& oG)), .int (k4 &&& oG)])) r (aR g 3 20 (q_sh zr row cn))) t (ob 6 [.ref r, .int ((nI cn) - 1), .int xf, .int xg, .int hF, .int hG, .int oF, .int oG, .int al, .int ms, .ref sq])) sq (ob 5 [.int (k1 &&& (k2 &&& oF)), .int (k2 &&& oF), .int (k3 &&& (k4 &&& oG)), .int (k4 &&& oG)]) := fp_o.ne os ne_7
        have oe : fp_o b n (va_up (va_up (va_up f sq (ob 5 [.int (k1 &&& (k2 &&& oF)), .int (k2 &&& oF), .int (k3 &&& (k4 &&& oG)), .int (k4 &&& oG)])) r (aR g 3 20 (q_sh zr row cn))) t (ob 6 [.ref r, .int ((nI cn) - 1), .int xf, .int xg, .int hF, .int hG, .int oF, .int oG, .int al, .int ms, .ref sq])) (er row) (ob 3 [.ref (ek row), .int (u1 row), .int (u2 row), .int (u3 row), .int (u4 row)]) := fp_o.ne oe ne_8
        have he : ∀ i9 : Nat, i9 < 20 → fp_o b n (va_up (va_up (va_up f sq (ob 5 [.int (k1 &&& (k2 &&& oF)), .int (k2 &&& oF), .int (k3 &&& (k4 &&& oG)), .int (k4 &&& oG)])) r (aR g 3 20 (q_sh zr row cn))) t (ob 6 [.ref r, .int ((nI cn) - 1), .int xf, .int xg, .int hF, .int hG, .int oF, .int oG, .int al, .int ms, .ref sq])) (er i9) (ob 3 [.ref (ek i9), .int (u1 i9), .int (u2 i9), .int (u3 i9), .int (u4 i9)]) := fun i9 hi9 => fp_o.ne (he i9 hi9) (fp_o.nf (he i9 hi9) ot (by simp))
        have hk : ∀ i9 : Nat, i9 < 20 → fp_o b n (va_up (va_up (va_up f sq (ob 5 [.int (k1 &&& (k2 &&& oF)), .int (k2 &&& oF), .int (k3 &&& (k4 &&& oG)), .int (k4 &&& oG)])) r (aR g 3 20 (q_sh zr row cn))) t (ob 6 [.ref r, .int ((nI cn) - 1), .int xf, .int xg, .int hF, .int hG, .int oF, .int oG, .int al, .int ms, .ref sq])) (ek i9) (ob 5 [.int (y1 i9), .int (y2 i9), .int (y3 i9), .int (y4 i9)]) := fun i9 hi9 => fp_o.ne (hk i9 hi9) (fp_o.nf (hk i9 hi9) ot (by simp))
        have ot : fp_o b n (va_up (va_up (va_up f sq (ob 5 [.int (k1 &&& (k2 &&& oF)), .int (k2 &&& oF), .int (k3 &&& (k4 &&& oG)), .int (k4 &&& oG)])) r (aR g 3 20 (q_sh zr row cn))) t (ob 6 [.ref r, .int ((nI cn) - 1), .int xf, .int xg, .int hF, .int hG, .int oF, .int oG, .int al, .int ms, .ref sq])) t (ob 6 [.ref r, .int ((nI cn) - 1), .int xf, .int xg, .int hF, .int hG, .int oF, .int oG, .int al, .int ms, .ref sq]) := fp_o.up ot
        refine lv_aload_n hx hb d_T_takeOut_77 rfl (lv_at hl 4 rfl) ?_
        refine fp_get X Y ot rfl in_T 0 (by decide) w155 rfl d_T_takeOut_78 ?_
        refine lv_aload_n hx hb d_T_takeOut_81 rfl (lv_at hl 4 rfl) ?_
        refine fp_get X Y ot rfl in_T 1 (by decide) w156 rfl d_T_takeOut_82 ?_
        refine lv_aload_n hx hb d_T_takeOut_85 rfl (lv_at hl 1 rfl) ?_
        refine fp_ast 3 rfl X Y orr (cn - 1) (nI_m1 (by omega)) (by omega) (by decide) oe rfl d_T_takeOut_86 (fun H locs Y => ?_)
        have ne_9 : t ≠ r := (fp_o.nf ot orr (by simp))
        have ne_10 : sq ≠ r := (fp_o.nf os orr (by simp))
        have ne_11 : er row ≠ r := (fp_o.nf oe orr (by simp))
        have Y : fp_H D b n A (va_up (va_up (va_up (va_up f sq (ob 5 [.int (k1 &&& (k2 &&& oF)), .int (k2 &&& oF), .int (k3 &&& (k4 &&& oG)), .int (k4 &&& oG)])) r (aR g 3 20 (q_sh zr row cn))) t (ob 6 [.ref r, .int ((nI cn) - 1), .int xf, .int xg, .int hF, .int hG, .int oF, .int oG, .int al, .int ms, .ref sq])) r (aR g 3 20 (va_up (q_sh zr row cn) (cn - 1) (some (er row))))) s.heap H locs := Y
        have ot : fp_o b n (va_up (va_up (va_up (va_up f sq (ob 5 [.int (k1 &&& (k2 &&& oF)), .int (k2 &&& oF), .int (k3 &&& (k4 &&& oG)), .int (k4 &&& oG)])) r (aR g 3 20 (q_sh zr row cn))) t (ob 6 [.ref r, .int ((nI cn) - 1), .int xf, .int xg, .int hF, .int hG, .int oF, .int oG, .int al, .int ms, .ref sq])) r (aR g 3 20 (va_up (q_sh zr row cn) (cn - 1) (some (er row))))) t (ob 6 [.ref r, .int ((nI cn) - 1), .int xf, .int xg, .int hF, .int hG, .int oF, .int oG, .int al, .int ms, .ref sq]) := fp_o.ne ot ne_9
        have os : fp_o b n (va_up (va_up (va_up (va_up f sq (ob 5 [.int (k1 &&& (k2 &&& oF)), .int (k2 &&& oF), .int (k3 &&& (k4 &&& oG)), .int (k4 &&& oG)])) r (aR g 3 20 (q_sh zr row cn))) t (ob 6 [.ref r, .int ((nI cn) - 1), .int xf, .int xg, .int hF, .int hG, .int oF, .int oG, .int al, .int ms, .ref sq])) r (aR g 3 20 (va_up (q_sh zr row cn) (cn - 1) (some (er row))))) sq (ob 5 [.int (k1 &&& (k2 &&& oF)), .int (k2 &&& oF), .int (k3 &&& (k4 &&& oG)), .int (k4 &&& oG)]) := fp_o.ne os ne_10
        have oe : fp_o b n (va_up (va_up (va_up (va_up f sq (ob 5 [.int (k1 &&& (k2 &&& oF)), .int (k2 &&& oF), .int (k3 &&& (k4 &&& oG)), .int (k4 &&& oG)])) r (aR g 3 20 (q_sh zr row cn))) t (ob 6 [.ref r, .int ((nI cn) - 1), .int xf, .int xg, .int hF, .int hG, .int oF, .int oG, .int al, .int ms, .ref sq])) r (aR g 3 20 (va_up (q_sh zr row cn) (cn - 1) (some (er row))))) (er row) (ob 3 [.ref (ek row), .int (u1 row), .int (u2 row), .int (u3 row), .int (u4 row)]) := fp_o.ne oe ne_11
        have he : ∀ i9 : Nat, i9 < 20 → fp_o b n (va_up (va_up (va_up (va_up f sq (ob 5 [.int (k1 &&& (k2 &&& oF)), .int (k2 &&& oF), .int (k3 &&& (k4 &&& oG)), .int (k4 &&& oG)])) r (aR g 3 20 (q_sh zr row cn))) t (ob 6 [.ref r, .int ((nI cn) - 1), .int xf, .int xg, .int hF, .int hG, .int oF, .int oG, .int al, .int ms, .ref sq])) r (aR g 3 20 (va_up (q_sh zr row cn) (cn - 1) (some (er row))))) (er i9) (ob 3 [.ref (ek i9), .int (u1 i9), .int (u2 i9), .int (u3 i9), .int (u4 i9)]) := fun i9 hi9 => fp_o.ne (he i9 hi9) (fp_o.nf (he i9 hi9) orr (by simp))
        have hk : ∀ i9 : Nat, i9 < 20 → fp_o b n (va_up (va_up (va_up (va_up f sq (ob 5 [.int (k1 &&& (k2 &&& oF)), .int (k2 &&& oF), .int (k3 &&& (k4 &&& oG)), .int (k4 &&& oG)])) r (aR g 3 20 (q_sh zr row cn))) t (ob 6 [.ref r, .int ((nI cn) - 1), .int xf, .int xg, .int hF, .int hG, .int oF, .int oG, .int al, .int ms, .ref sq])) r (aR g 3 20 (va_up (q_sh zr row cn) (cn - 1) (some (er row))))) (ek i9) (ob 5 [.int (y1 i9), .int (y2 i9), .int (y3 i9), .int (y4 i9)]) := fun i9 hi9 => fp_o.ne (hk i9 hi9) (fp_o.nf (hk i9 hi9) orr (by simp))
        have orr : fp_o b n (va_up (va_up (va_up (va_up f sq (ob 5 [.int (k1 &&& (k2 &&& oF)), .int (k2 &&& oF), .int (k3 &&& (k4 &&& oG)), .int (k4 &&& oG)])) r (aR g 3 20 (q_sh zr row cn))) t (ob 6 [.ref r, .int ((nI cn) - 1), .int xf, .int xg, .int hF, .int hG, .int oF, .int oG, .int al, .int ms, .ref sq])) r (aR g 3 20 (va_up (q_sh zr row cn) (cn - 1) (some (er row))))) r (aR g 3 20 (va_up (q_sh zr row cn) (cn - 1) (some (er row)))) := fp_o.up orr
        refine lv_iconst (v := 1) hx hb d_T_takeOut_87 (by decide) ?_
        exact ret _ _ _ _ _ _ d_T_takeOut_88 ⟨_, rfl, rfl⟩ ⟨fun h9 => absurd (h9.symm.trans hq) (m1_ne (by omega)), fun row9 h1 h2 => by
      have e9 : row9 = row := (nI_eq (by omega) (by omega)).mp (h2.symm.trans hq)
      subst e9
      exact ⟨rfl, by rw [← nI_m1 (show 0 < cn by omega)]⟩⟩ Y
      | succ k ih =>
        intro i hi hri H locs Y ls hl
        have ne_12 : t ≠ r := (fp_o.nf ot orr (by simp))
        have ne_13 : sq ≠ r := (fp_o.nf os orr (by simp))
        have ne_14 : er row ≠ r := (fp_o.nf oe orr (by simp))
        have Y : fp_H D b n A (va_up (va_up f sq (ob 5 [.int (k1 &&& (k2 &&& oF)), .int (k2 &&& oF), .int (k3 &&& (k4 &&& oG)), .int (k4 &&& oG)])) r (aR g 3 20 (q_sh zr row i))) s.heap H locs := Y
        have ot : fp_o b n (va_up (va_up f sq (ob 5 [.int (k1 &&& (k2 &&& oF)), .int (k2 &&& oF), .int (k3 &&& (k4 &&& oG)), .int (k4 &&& oG)])) r (aR g 3 20 (q_sh zr row i))) t (ob 6 [.ref r, .int (nI cn), .int xf, .int xg, .int hF, .int hG, .int oF, .int oG, .int al, .int ms, .ref sq]) := fp_o.ne ot ne_12
        have os : fp_o b n (va_up (va_up f sq (ob 5 [.int (k1 &&& (k2 &&& oF)), .int (k2 &&& oF), .int (k3 &&& (k4 &&& oG)), .int (k4 &&& oG)])) r (aR g 3 20 (q_sh zr row i))) sq (ob 5 [.int (k1 &&& (k2 &&& oF)), .int (k2 &&& oF), .int (k3 &&& (k4 &&& oG)), .int (k4 &&& oG)]) := fp_o.ne os ne_13
        have oe : fp_o b n (va_up (va_up f sq (ob 5 [.int (k1 &&& (k2 &&& oF)), .int (k2 &&& oF), .int (k3 &&& (k4 &&& oG)), .int (k4 &&& oG)])) r (aR g 3 20 (q_sh zr row i))) (er row) (ob 3 [.ref (ek row), .int (u1 row), .int (u2 row), .int (u3 row), .int (u4 row)]) := fp_o.ne oe ne_14
        have he : ∀ i9 : Nat, i9 < 20 → fp_o b n (va_up (va_up f sq (ob 5 [.int (k1 &&& (k2 &&& oF)), .int (k2 &&& oF), .int (k3 &&& (k4 &&& oG)), .int (k4 &&& oG)])) r (aR g 3 20 (q_sh zr row i))) (er i9) (ob 3 [.ref (ek i9), .int (u1 i9), .int (u2 i9), .int (u3 i9), .int (u4 i9)]) := fun i9 hi9 => fp_o.ne (he i9 hi9) (fp_o.nf (he i9 hi9) orr (by simp))
        have hk : ∀ i9 : Nat, i9 < 20 → fp_o b n (va_up (va_up f sq (ob 5 [.int (k1 &&& (k2 &&& oF)), .int (k2 &&& oF), .int (k3 &&& (k4 &&& oG)), .int (k4 &&& oG)])) r (aR g 3 20 (q_sh zr row i))) (ek i9) (ob 5 [.int (y1 i9), .int (y2 i9), .int (y3 i9), .int (y4 i9)]) := fun i9 hi9 => fp_o.ne (hk i9 hi9) (fp_o.nf (hk i9 hi9) orr (by simp))
        have orr : fp_o b n (va_up (va_up f sq (ob 5 [.int (k1 &&& (k2 &&& oF)), .int (k2 &&& oF), .int (k3 &&& (k4 &&& oG)), .int (k4 &&& oG)])) r (aR g 3 20 (q_sh zr row i))) r (aR g 3 20 (q_sh zr row i)) := fp_o.up orr
        refine lv_iload hx hb d_T_takeOut_36 (lv_at hl 0 rfl) ?_
        refine lv_aload_n hx hb d_T_takeOut_38 rfl (lv_at hl 4 rfl) ?_
        refine fp_get X Y ot rfl in_T 1 (by decide) w156 rfl d_T_takeOut_39 ?_
        refine lv_icmp_ge (tgt := 67) hx hb d_T_takeOut_42 (by decide) (fun c_42 => absurd c_42 (nI_ge (by omega) (by omega))) (fun c_42 => ?_)
        refine lv_aload_n hx hb d_T_takeOut_45 rfl (lv_at hl 4 rfl) ?_
        refine fp_get X Y ot rfl in_T 0 (by decide) w155 rfl d_T_takeOut_46 ?_
        refine lv_iload hx hb d_T_takeOut_49 (lv_at hl 0 rfl) ?_
        refine lv_iconst (v := 1) hx hb d_T_takeOut_51 (by decide) ?_
        refine lv_isub hx hb d_T_takeOut_52 ?_
        refine lv_aload_n hx hb d_T_takeOut_53 rfl (lv_at hl 4 rfl) ?_
        refine fp_get X Y ot rfl in_T 0 (by decide) w155 rfl d_T_takeOut_54 ?_
        refine lv_iload hx hb d_T_takeOut_57 (lv_at hl 0 rfl) ?_
        have oe2 : fp_o b n (va_up (va_up f sq (ob 5 [.int (k1 &&& (k2 &&& oF)), .int (k2 &&& oF), .int (k3 &&& (k4 &&& oG)), .int (k4 &&& oG)])) r (aR g 3 20 (q_sh zr row i))) (er i) (ob 3 [.ref (ek i), .int (u1 i), .int (u2 i), .int (u3 i), .int (u4 i)]) := he i (by omega)
        refine fp_ald 3 rfl X Y orr i rfl (by omega) (by decide) (by simp only [q_sh, if_neg (show ¬ (row ≤ i ∧ i + 1 < i) by omega)]; exact hr i (by omega)) d_T_takeOut_59 ?_
        refine fp_ast 3 rfl X Y orr (i - 1) (nI_m1 (by omega)) (by omega) (by decide) oe2 rfl d_T_takeOut_60 (fun H locs Y => ?_)
        have ne_15 : t ≠ r := (fp_o.nf ot orr (by simp))
        have ne_16 : sq ≠ r := (fp_o.nf os orr (by simp))
        have ne_17 : er row ≠ r := (fp_o.nf oe orr (by simp))
        have ne_18 : er i ≠ r := (fp_o.nf oe2 orr (by simp))
        have Y := Y.re
        have Y : fp_H D b n A (va_up (va_up f sq (ob 5 [.int (k1 &&& (k2 &&& oF)), .int (k2 &&& oF), .int (k3 &&& (k4 &&& oG)), .int (k4 &&& oG)])) r (aR g 3 20 (va_up (q_sh zr row i) (i - 1) (some (er i))))) s.heap H locs := Y
        have ot : fp_o b n (va_up (va_up f sq (ob 5 [.int (k1 &&& (k2 &&& oF)), .int (k2 &&& oF), .int (k3 &&& (k4 &&& oG)), .int (k4 &&& oG)])) r (aR g 3 20 (va_up (q_sh zr row i) (i - 1) (some (er i))))) t (ob 6 [.ref r, .int (nI cn), .int xf, .int xg, .int hF, .int hG, .int oF, .int oG, .int al, .int ms, .ref sq]) := fp_o.re ot ne_15
        have os : fp_o b n (va_up (va_up f sq (ob 5 [.int (k1 &&& (k2 &&& oF)), .int (k2 &&& oF), .int (k3 &&& (k4 &&& oG)), .int (k4 &&& oG)])) r (aR g 3 20 (va_up (q_sh zr row i) (i - 1) (some (er i))))) sq (ob 5 [.int (k1 &&& (k2 &&& oF)), .int (k2 &&& oF), .int (k3 &&& (k4 &&& oG)), .int (k4 &&& oG)]) := fp_o.re os ne_16
        have oe : fp_o b n (va_up (va_up f sq (ob 5 [.int (k1 &&& (k2 &&& oF)), .int (k2 &&& oF), .int (k3 &&& (k4 &&& oG)), .int (k4 &&& oG)])) r (aR g 3 20 (va_up (q_sh zr row i) (i - 1) (some (er i))))) (er row) (ob 3 [.ref (ek row), .int (u1 row), .int (u2 row), .int (u3 row), .int (u4 row)]) := fp_o.re oe ne_17
        have oe2 : fp_o b n (va_up (va_up f sq (ob 5 [.int (k1 &&& (k2 &&& oF)), .int (k2 &&& oF), .int (k3 &&& (k4 &&& oG)), .int (k4 &&& oG)])) r (aR g 3 20 (va_up (q_sh zr row i) (i - 1) (some (er i))))) (er i) (ob 3 [.ref (ek i), .int (u1 i), .int (u2 i), .int (u3 i), .int (u4 i)]) := fp_o.re oe2 ne_18
        have he : ∀ i9 : Nat, i9 < 20 → fp_o b n (va_up (va_up f sq (ob 5 [.int (k1 &&& (k2 &&& oF)), .int (k2 &&& oF), .int (k3 &&& (k4 &&& oG)), .int (k4 &&& oG)])) r (aR g 3 20 (va_up (q_sh zr row i) (i - 1) (some (er i))))) (er i9) (ob 3 [.ref (ek i9), .int (u1 i9), .int (u2 i9), .int (u3 i9), .int (u4 i9)]) := fun i9 hi9 => fp_o.re (he i9 hi9) (fp_o.nf (he i9 hi9) orr (by simp))
        have hk : ∀ i9 : Nat, i9 < 20 → fp_o b n (va_up (va_up f sq (ob 5 [.int (k1 &&& (k2 &&& oF)), .int (k2 &&& oF), .int (k3 &&& (k4 &&& oG)), .int (k4 &&& oG)])) r (aR g 3 20 (va_up (q_sh zr row i) (i - 1) (some (er i))))) (ek i9) (ob 5 [.int (y1 i9), .int (y2 i9), .int (y3 i9), .int (y4 i9)]) := fun i9 hi9 => fp_o.re (hk i9 hi9) (fp_o.nf (hk i9 hi9) orr (by simp))
        have orr : fp_o b n (va_up (va_up f sq (ob 5 [.int (k1 &&& (k2 &&& oF)), .int (k2 &&& oF), .int (k3 &&& (k4 &&& oG)), .int (k4 &&& oG)])) r (aR g 3 20 (va_up (q_sh zr row i) (i - 1) (some (er i))))) r (aR g 3 20 (va_up (q_sh zr row i) (i - 1) (some (er i)))) := fp_o.rs orr
        refine lv_iinc (v := nI (i + 1)) (lv' := [(4, .int (nI (i + 1))), (3, .ref (er row)), (2, .int (nI row)), (1, .ref kq), (0, .ref t)]) hx hb d_T_takeOut_61 hl (k := 0) rfl (nI_1 i) (by decide) rfl (fun ls hl => ?_)
        refine lv_goto (tgt := 36) hx hb d_T_takeOut_64 (by decide) ?_
        exact ih (i + 1) (by omega) (by omega) _ _ (by rw [← q_sh_s zr (by omega), hr i (by omega)]; exact Y) ls (lv_sub hl [0, 1, 2, 3, 4] rfl)
    exact loop (cn - (row + 1)) (row + 1) (by omega) (by omega) _ _ (by rw [q_sh_0, va_up_same orr.2.2]; exact Y) ls (lv_sub hl [0, 1, 2, 4, 3] rfl)
set_option maxHeartbeats 4000000 in
set_option maxRecDepth 100000 in
theorem c_JA_fill {l : Launch} {D : va_G} {g : Nat → ClassId} {b n : Nat} {A : Nat → Prop} {f : Nat → va_E} {q N : Nat} {z : Nat → Int32} (x : Int32) (hN : N < 2 ^ 31) (oq : fp_o b n f q (aI g N z))  (hA : fp_W b n A := by assumption) : fp_M l D (TY g) b n A y_JA_fill (fp_ws y_JA_fill b_JA_fill 4 none) (rmD 0) [.ref q, .int x] f (fun v f' => v = none ∧ f' = va_up f q (aI g N (q_fill z x N))) := by
  refine fp_ofV (by decide +kernel) (Nat.le_of_ble_eq_true rfl) ?_
  intro p e s m args below meth c Q ls H locs X Y hl ret
  have hx := X.1.1
  have hb := X.1.2.1
  have hl : lv_has ls 4 [(0, .ref q), (1, .int x)] := hl
  refine lv_iconst (v := 0) hx hb d_JA_fill_0 (by decide) ?_
  refine lv_istore_n (lv' := [(2, .int 0), (0, .ref q), (1, .int x)]) hx hb d_JA_fill_1 rfl hl (by decide) rfl (fun ls hl => ?_)
  refine lv_aload_n hx hb d_JA_fill_2 rfl (lv_at hl 1 rfl) ?_
  refine fp_alen X Y 0 oq rfl d_JA_fill_3 ?_
  refine lv_istore_n (lv' := [(3, .int (nI N)), (2, .int 0), (0, .ref q), (1, .int x)]) hx hb d_JA_fill_4 rfl hl (by decide) rfl (fun ls hl => ?_)
  have loop : ∀ (k i : Nat), k + i = N → ∀ (H : Heap) (locs : List Loc), fp_H D b n A (va_up f q (aI g N (q_fill z x i))) s.heap H locs → ∀ (ls : Array Slot), lv_has ls 4 [(3, .int (nI N)), (2, .int (nI i)), (1, .int x), (0, .ref q)] → W p l e (rmD 0) s m args below meth c H locs 0 0 Q (F0 m 5 ls []) := by
    intro k
    induction k with
    | zero =>
      intro i hi H locs Y ls hl
      have e0 : i = N := by omega
      rw [e0] at Y hl
      have Y : fp_H D b n A (va_up f q (aI g N (q_fill z x N))) s.heap H locs := Y
      have oq : fp_o b n (va_up f q (aI g N (q_fill z x N))) q (aI g N (q_fill z x N)) := fp_o.up oq
      refine lv_iload_n hx hb d_JA_fill_5 rfl (lv_at hl 1 rfl) ?_
      refine lv_iload_n hx hb d_JA_fill_6 rfl (lv_at hl 0 rfl) ?_
      refine lv_icmp_ge (tgt := 20) hx hb d_JA_fill_7 (by decide) (fun c_7 => ?_) (fun c_7 => absurd (Int32.le_refl _) c_7)
      exact ret _ _ _ _ _ d_JA_fill_20 ⟨rfl, rfl⟩ Y
    | succ k ih =>
      intro i hi H locs Y ls hl
      have Y : fp_H D b n A (va_up f q (aI g N (q_fill z x i))) s.heap H locs := Y
      have oq : fp_o b n (va_up f q (aI g N (q_fill z x i))) q (aI g N (q_fill z x i)) := fp_o.up oq
      refine lv_iload_n hx hb d_JA_fill_5 rfl (lv_at hl 1 rfl) ?_
      refine lv_iload_n hx hb d_JA_fill_6 rfl (lv_at hl 0 rfl) ?_
      refine lv_icmp_ge (tgt := 20) hx hb d_JA_fill_7 (by decide) (fun c_7 => absurd c_7 (nI_ge (by omega) hN)) (fun c_7 => ?_)
      refine lv_aload_n hx hb d_JA_fill_10 rfl (lv_at hl 3 rfl) ?_
      refine lv_iload_n hx hb d_JA_fill_11 rfl (lv_at hl 1 rfl) ?_
      refine lv_iload_n hx hb d_JA_fill_12 rfl (lv_at hl 2 rfl) ?_
      refine fp_ist X Y oq i rfl (by omega) hN d_JA_fill_13 (fun H locs Y => ?_)
      have Y := Y.re
      have Y : fp_H D b n A (va_up f q (aI g N (upd (q_fill z x i) i x))) s.heap H locs := Y
      have oq : fp_o b n (va_up f q (aI g N (upd (q_fill z x i) i x))) q (aI g N (upd (q_fill z x i) i x)) := fp_o.rs oq
      refine lv_iinc (v := nI (i + 1)) (lv' := [(2, .int (nI (i + 1))), (3, .int (nI N)), (1, .int x), (0, .ref q)]) hx hb d_JA_fill_14 hl (k := 1) rfl (nI_1 i) (by decide) rfl (fun ls hl => ?_)
      refine lv_goto (tgt := 5) hx hb d_JA_fill_17 (by decide) ?_
      exact ih (i + 1) (by omega) _ _ (by rw [← q_fill_s]; exact Y) ls (lv_sub hl [1, 0, 2, 3] rfl)
  exact loop N 0 (by omega) _ _ (by rw [q_fill_0, va_up_same oq.2.2]; exact Y) ls (lv_sub hl [0, 1, 3, 2] rfl)
set_option maxHeartbeats 4000000 in
set_option maxRecDepth 100000 in
theorem c_C_forget {l : Launch} {D : va_G} {g : Nat → ClassId} {b n : Nat} {A : Nat → Prop} {f : Nat → va_E} {a q : Nat} {z : Nat → Int32} (oa : fp_o b n f a (ob 1 [.ref q])) (o1 : fp_o b n f q (aI g 64 z))  (hA : fp_W b n A := by assumption) : fp_M l D (TY g) b n A y_C_forget (fp_ws y_C_forget b_C_forget 1 none) (rmD 1) [.ref a] f (fun v f' => v = none ∧ f' = va_up f q (aI g 64 (q_fill z 0 64))) := by
  refine fp_ofV (plainFor_of_name (by decide)) (Nat.le_of_ble_eq_true rfl) ?_
  intro p e s m args below meth c Q ls H locs X Y hl ret
  have hx := X.1.1
  have hb := X.1.2.1
  have hl : lv_has ls 1 [(0, .ref a)] := hl
  refine lv_aload_n hx hb d_C_forget_0 rfl (lv_at hl 0 rfl) ?_
  refine fp_get X Y oa rfl in_C 0 (by decide) w50 rfl d_C_forget_1 ?_
  refine lv_iconst (v := 0) hx hb d_C_forget_4 (by decide) ?_
  refine fp_callS (nA := 2) (As := [.ref q, .int 0]) (rest := []) X Y (c_JA_fill 0 (by decide) o1) w233 w231 w232 w10 (by decide +kernel) ⟨rfl, rfl⟩ ⟨Nat.le_of_ble_eq_true rfl, Nat.le_of_ble_eq_true rfl⟩ rfl hl.1 rfl (Nat.le_of_ble_eq_true rfl) d_C_forget_5 ⟨Nat.zero_le _, Nat.zero_le _⟩ (fun v9 f9 H locs hp9 Y => ?_)
  obtain ⟨e8, e9⟩ := hp9
  subst e8
  rw [e9] at Y
  have ne_1 : a ≠ q := (fp_o.nf oa o1 (by simp))
  have Y : fp_H D b n A (va_up f q (aI g 64 (q_fill z 0 64))) s.heap H locs := Y
  have oa : fp_o b n (va_up f q (aI g 64 (q_fill z 0 64))) a (ob 1 [.ref q]) := fp_o.ne oa ne_1
  have o1 : fp_o b n (va_up f q (aI g 64 (q_fill z 0 64))) q (aI g 64 (q_fill z 0 64)) := fp_o.up o1
  refine W.eq (g2 := F0 m 8 ls []) rfl ?_
  exact ret _ _ _ _ _ d_C_forget_8 ⟨rfl, rfl⟩ Y
end
section
/-! Contracts: EntryTables, what makes and throws nothing (by wip/gen/k5.py). -/
theorem nar_in (x k : Int32) : narrow .boolean (.int (q_in x k)) = .int (q_in x k) := by unfold q_in; split <;> rfl
/-- Math.floorMod(x, 16), as the JDK has it -/
def q_fm (x : Int32) : Int32 := if (x ^^^ 16) < 0 ∧ ¬ x - x / 16 * 16 = 0 then x - x / 16 * 16 + 16 else x - x / 16 * 16
/-- whether what a doing of a kind uses is there -/
def q_ops (kj : Nat) (x y z kf : Int32) : Int32 := match kj with
  | 0 => q_in x kf
  | 1 => if q_in x kf = 0 then 0 else if q_in y kf = 0 then 0 else 1
  | 2 => if q_in x kf = 0 then 0 else if q_in y kf = 0 then 0 else 1
  | 3 => if q_in x kf = 0 then 0 else if q_in y 2 = 0 then 0 else 1
  | 5 => q_in y 2
  | 7 => if q_in x 4 = 0 then 0 else if q_in y kf = 0 then 0 else 1
  | 8 => if q_in x kf = 0 then 0 else if q_in y kf = 0 then 0 else if q_in z 4 = 0 then 0 else 1
  | _ => 1
def q_kf (x y kf : Int32) : Int32 := if q_in x kf = 0 then 0 else if y = -1 then 1 else if q_in y kf = 0 then 0 else if x = y then 0 else 1
def q_acb (w : Int32) (y ac x : Int32) : Int32 := if w = 0 then (if q_in y ac = 0 then 0 else if (x >>> (y &&& 31)) &&& 1 = 0 then 0 else 1) else 0
def q_ac (x y ac : Int32) : Int32 := q_acb (x &&& ((((1 : Int32) <<< (ac &&& 31)) - 1) ^^^ (-1))) y ac x
def q_hwb (u v y : Int32) : Int32 := if 2 < u then 0 else if v < 0 then 0 else if v ≤ 2 then (if y = -1 then (if v = 0 then 1 else 0) else if u = 1 then (if v = 1 then 0 else 1) else 1) else 0
def q_hw (x y : Int32) : Int32 := q_hwb (x &&& 3) (x >>> ((2 : Int32) &&& 31)) y
set_option maxHeartbeats 4000000 in
set_option maxRecDepth 100000 in
theorem c_X_isAction {l : Launch} {D : va_G} {g : Nat → ClassId} {b n : Nat} {A : Nat → Prop} {f : Nat → va_E} {a fo co qa qt kq : Nat} {ac tc po dr : Int32} (x : Int32) (oa : fp_o b n f a (ob 7 [.ref fo, .ref co, .ref qa, .int ac, .ref qt, .int tc, .ref kq, .int po, .int dr]))  : fp_M l D (TY g) b n A y_X_isAction (fp_ws y_X_isAction b_X_isAction 2 (some FieldType.boolean)) (rmD 0) [.ref a, .int x] f (fun v f' => v = some (.int (q_in x ac)) ∧ f' = f) := by
  refine fp_ofI (plainFor_of_name (by decide)) (Nat.le_of_ble_eq_true rfl) ?_
  intro p e s m args below meth c Q ls H locs X Y hl ret
  have hx := X.1.1
  have hb := X.1.2.1
  have hl : lv_has ls 2 [(0, .ref a), (1, .int x)] := hl
  refine lv_iload_n hx hb d_X_isAction_0 rfl (lv_at hl 1 rfl) ?_
  refine lv_if_lt (tgt := 16) hx hb d_X_isAction_1 (by decide) (fun c_1 => ?_) (fun c_1 => ?_)
  · refine lv_iconst (v := 0) hx hb d_X_isAction_16 (by decide) ?_
    exact ret _ _ _ _ _ _ d_X_isAction_17 ⟨_, rfl, rfl⟩ ⟨by simp [q_in, c_1], rfl⟩ Y
  · refine lv_iload_n hx hb d_X_isAction_4 rfl (lv_at hl 1 rfl) ?_
    refine lv_aload_n hx hb d_X_isAction_5 rfl (lv_at hl 0 rfl) ?_
    refine fp_get X Y oa rfl in_X 3 (by decide) w194 rfl d_X_isAction_6 ?_
    refine lv_icmp_ge (tgt := 16) hx hb d_X_isAction_9 (by decide) (fun c_9 => ?_) (fun c_9 => ?_)
    · refine lv_iconst (v := 0) hx hb d_X_isAction_16 (by decide) ?_
      exact ret _ _ _ _ _ _ d_X_isAction_17 ⟨_, rfl, rfl⟩ ⟨by simp [q_in, c_1, c_9], rfl⟩ Y
    · refine lv_iconst (v := 1) hx hb d_X_isAction_12 (by decide) ?_
      refine lv_goto (tgt := 17) hx hb d_X_isAction_13 (by decide) ?_
      exact ret _ _ _ _ _ _ d_X_isAction_17 ⟨_, rfl, rfl⟩ ⟨by simp [q_in, c_1, c_9], rfl⟩ Y
set_option maxHeartbeats 4000000 in
set_option maxRecDepth 100000 in
theorem c_X_isTable {l : Launch} {D : va_G} {g : Nat → ClassId} {b n : Nat} {A : Nat → Prop} {f : Nat → va_E} {a fo co qa qt kq : Nat} {ac tc po dr : Int32} (x : Int32) (oa : fp_o b n f a (ob 7 [.ref fo, .ref co, .ref qa, .int ac, .ref qt, .int tc, .ref kq, .int po, .int dr]))  : fp_M l D (TY g) b n A y_X_isTable (fp_ws y_X_isTable b_X_isTable 2 (some FieldType.boolean)) (rmD 0) [.ref a, .int x] f (fun v f' => v = some (.int (q_in x tc)) ∧ f' = f) := by
  refine fp_ofI (plainFor_of_name (by decide)) (Nat.le_of_ble_eq_true rfl) ?_
  intro p e s m args below meth c Q ls H locs X Y hl ret
  have hx := X.1.1
  have hb := X.1.2.1
  have hl : lv_has ls 2 [(0, .ref a), (1, .int x)] := hl
  refine lv_iload_n hx hb d_X_isTable_0 rfl (lv_at hl 1 rfl) ?_
  refine lv_if_lt (tgt := 16) hx hb d_X_isTable_1 (by decide) (fun c_1 => ?_) (fun c_1 => ?_)
  · refine lv_iconst (v := 0) hx hb d_X_isTable_16 (by decide) ?_
    exact ret _ _ _ _ _ _ d_X_isTable_17 ⟨_, rfl, rfl⟩ ⟨by simp [q_in, c_1], rfl⟩ Y
  · refine lv_iload_n hx hb d_X_isTable_4 rfl (lv_at hl 1 rfl) ?_
    refine lv_aload_n hx hb d_X_isTable_5 rfl (lv_at hl 0 rfl) ?_
    refine fp_get X Y oa rfl in_X 5 (by decide) w196 rfl d_X_isTable_6 ?_
    refine lv_icmp_ge (tgt := 16) hx hb d_X_isTable_9 (by decide) (fun c_9 => ?_) (fun c_9 => ?_)
    · refine lv_iconst (v := 0) hx hb d_X_isTable_16 (by decide) ?_
      exact ret _ _ _ _ _ _ d_X_isTable_17 ⟨_, rfl, rfl⟩ ⟨by simp [q_in, c_1, c_9], rfl⟩ Y
    · refine lv_iconst (v := 1) hx hb d_X_isTable_12 (by decide) ?_
      refine lv_goto (tgt := 17) hx hb d_X_isTable_13 (by decide) ?_
      exact ret _ _ _ _ _ _ d_X_isTable_17 ⟨_, rfl, rfl⟩ ⟨by simp [q_in, c_1, c_9], rfl⟩ Y
set_option maxHeartbeats 4000000 in
set_option maxRecDepth 100000 in
theorem c_X_port {l : Launch} {D : va_G} {g : Nat → ClassId} {b n : Nat} {A : Nat → Prop} {f : Nat → va_E} {a fo co qa qt kq : Nat} {ac tc po dr : Int32} (oa : fp_o b n f a (ob 7 [.ref fo, .ref co, .ref qa, .int ac, .ref qt, .int tc, .ref kq, .int po, .int dr]))  : fp_M l D (TY g) b n A y_X_port (fp_ws y_X_port b_X_port 1 (some FieldType.int)) (rmD 0) [.ref a] f (fun v f' => v = some (.int po) ∧ f' = f) := by
  refine fp_ofI (plainFor_of_name (by decide)) (Nat.le_of_ble_eq_true rfl) ?_
  intro p e s m args below meth c Q ls H locs X Y hl ret
  have hx := X.1.1
  have hb := X.1.2.1
  have hl : lv_has ls 1 [(0, .ref a)] := hl
  refine lv_aload_n hx hb d_X_port_0 rfl (lv_at hl 0 rfl) ?_
  refine fp_get X Y oa rfl in_X 7 (by decide) w198 rfl d_X_port_1 ?_
  exact ret _ _ _ _ _ _ d_X_port_4 ⟨_, rfl, rfl⟩ ⟨rfl, rfl⟩ Y
set_option maxHeartbeats 4000000 in
set_option maxRecDepth 100000 in
theorem c_X_isDropped {l : Launch} {D : va_G} {g : Nat → ClassId} {b n : Nat} {A : Nat → Prop} {f : Nat → va_E} {a fo co qa qt kq : Nat} {ac tc po dr : Int32} (hdr : dr = 0 ∨ dr = 1) (oa : fp_o b n f a (ob 7 [.ref fo, .ref co, .ref qa, .int ac, .ref qt, .int tc, .ref kq, .int po, .int dr]))  : fp_M l D (TY g) b n A y_X_isDropped (fp_ws y_X_isDropped b_X_isDropped 1 (some FieldType.boolean)) (rmD 0) [.ref a] f (fun v f' => v = some (.int dr) ∧ f' = f) := by
  refine fp_ofI (plainFor_of_name (by decide)) (Nat.le_of_ble_eq_true rfl) ?_
  intro p e s m args below meth c Q ls H locs X Y hl ret
  have hx := X.1.1
  have hb := X.1.2.1
  have hl : lv_has ls 1 [(0, .ref a)] := hl
  refine lv_aload_n hx hb d_X_isDropped_0 rfl (lv_at hl 0 rfl) ?_
  refine fp_get X Y oa rfl in_X 8 (by decide) w199 rfl d_X_isDropped_1 ?_
  exact ret _ _ _ _ _ _ d_X_isDropped_4 ⟨_, rfl, (by rcases hdr with h | h <;> subst h <;> rfl)⟩ ⟨rfl, rfl⟩ Y
set_option maxHeartbeats 4000000 in
set_option maxRecDepth 100000 in
theorem c_X_get {l : Launch} {D : va_G} {g : Nat → ClassId} {b n : Nat} {A : Nat → Prop} {f : Nat → va_E} {a fo co qa qt kq : Nat} {ac tc po dr : Int32} {q1 q2 kf : Nat} {z1 z2 : Nat → Int32} (x : Int32) (hk : kf ≤ 16) (oa : fp_o b n f a (ob 7 [.ref fo, .ref co, .ref qa, .int ac, .ref qt, .int tc, .ref kq, .int po, .int dr])) (of : fp_o b n f fo (ob 4 [.ref q1, .ref q2, .int (nI kf)])) (o1 : fp_o b n f q1 (aI g 16 z1)) (o2 : fp_o b n f q2 (aI g 16 z2))  : fp_M l D (TY g) b n A y_X_get (fp_ws y_X_get b_X_get 2 (some FieldType.int)) (rmD 2) [.ref a, .int x] f (fun v f' => v = some (.int (q_at z2 x (nI kf))) ∧ f' = f) := by
  refine fp_ofI (plainFor_of_name (by decide)) (Nat.le_of_ble_eq_true rfl) ?_
  intro p e s m args below meth c Q ls H locs X Y hl ret
  have hx := X.1.1
  have hb := X.1.2.1
  have hl : lv_has ls 2 [(0, .ref a), (1, .int x)] := hl
  refine lv_aload_n hx hb d_X_get_0 rfl (lv_at hl 0 rfl) ?_
  refine fp_get X Y oa rfl in_X 0 (by decide) w191 rfl d_X_get_1 ?_
  refine lv_iload_n hx hb d_X_get_4 rfl (lv_at hl 1 rfl) ?_
  refine fp_callV (nA := 1) (As := [.int x]) (rest := []) X Y (c_F_read x hk of o1 o2) of rfl w245 w242 w243 w244 w2 (by decide +kernel) ⟨rfl, rfl⟩ ⟨Nat.le_of_ble_eq_true rfl, Nat.le_of_ble_eq_true rfl⟩ rfl hl.1 rfl (Nat.le_of_ble_eq_true rfl) d_X_get_5 ⟨Nat.zero_le _, Nat.zero_le _⟩ (fun v9 f9 H locs hp9 Y => ?_)
  obtain ⟨e8, e9⟩ := hp9
  subst e8
  rw [e9] at Y
  refine W.eq (g2 := F0 m 8 ls [.int (q_at z2 x (nI kf))]) rfl ?_
  exact ret _ _ _ _ _ _ d_X_get_8 ⟨_, rfl, rfl⟩ ⟨rfl, rfl⟩ Y
set_option maxHeartbeats 4000000 in
set_option maxRecDepth 100000 in
theorem c_X_word {l : Launch} {D : va_G} {g : Nat → ClassId} {b n : Nat} {A : Nat → Prop} {f : Nat → va_E} {a fo co qa qt kq : Nat} {ac tc po dr : Int32} {qc : Nat} {zc : Nat → Int32} (x y : Int32) (oa : fp_o b n f a (ob 7 [.ref fo, .ref co, .ref qa, .int ac, .ref qt, .int tc, .ref kq, .int po, .int dr])) (oc : fp_o b n f co (ob 1 [.ref qc])) (oqc : fp_o b n f qc (aI g 64 zc))  : fp_M l D (TY g) b n A y_X_word (fp_ws y_X_word b_X_word 3 (some FieldType.int)) (rmD 3) [.ref a, .int x, .int y] f (fun v f' => v = some (.int (q_cr zc x y)) ∧ f' = f) := by
  refine fp_ofI (plainFor_of_name (by decide)) (Nat.le_of_ble_eq_true rfl) ?_
  intro p e s m args below meth c Q ls H locs X Y hl ret
  have hx := X.1.1
  have hb := X.1.2.1
  have hl : lv_has ls 3 [(0, .ref a), (1, .int x), (2, .int y)] := hl
  refine lv_aload_n hx hb d_X_word_0 rfl (lv_at hl 0 rfl) ?_
  refine fp_get X Y oa rfl in_X 1 (by decide) w192 rfl d_X_word_1 ?_
  refine lv_iload_n hx hb d_X_word_4 rfl (lv_at hl 1 rfl) ?_
  refine lv_iload_n hx hb d_X_word_5 rfl (lv_at hl 2 rfl) ?_
  refine fp_callV (nA := 2) (As := [.int x, .int y]) (rest := []) X Y (c_C_read x y oc oqc) oc rfl w300 w297 w298 w299 w3 (by decide +kernel) ⟨rfl, rfl⟩ ⟨Nat.le_of_ble_eq_true rfl, Nat.le_of_ble_eq_true rfl⟩ rfl hl.1 rfl (Nat.le_of_ble_eq_true rfl) d_X_word_6 ⟨Nat.zero_le _, Nat.zero_le _⟩ (fun v9 f9 H locs hp9 Y => ?_)
  obtain ⟨e8, e9⟩ := hp9
  subst e8
  rw [e9] at Y
  refine W.eq (g2 := F0 m 9 ls [.int (q_cr zc x y)]) rfl ?_
  exact ret _ _ _ _ _ _ d_X_word_9 ⟨_, rfl, rfl⟩ ⟨rfl, rfl⟩ Y
set_option maxHeartbeats 4000000 in
set_option maxRecDepth 100000 in
theorem c_X_key {l : Launch} {D : va_G} {g : Nat → ClassId} {b n : Nat} {A : Nat → Prop} {f : Nat → va_E} {a fo co qa qt kq : Nat} {ac tc po dr : Int32} {k1 k2 k3 k4 : Int32} (x1 x2 x3 x4 : Int32) (oa : fp_o b n f a (ob 7 [.ref fo, .ref co, .ref qa, .int ac, .ref qt, .int tc, .ref kq, .int po, .int dr])) (ok : fp_o b n f kq (ob 5 [.int k1, .int k2, .int k3, .int k4]))  (hA : fp_W b n A := by assumption) : fp_M l D (TY g) b n A y_X_key (fp_ws y_X_key b_X_key 5 none) (rmD 1) [.ref a, .int x1, .int x2, .int x3, .int x4] f (fun v f' => v = none ∧ f' = va_up f kq (ob 5 [.int x1, .int x2, .int x3, .int x4])) := by
  refine fp_ofV (plainFor_of_name (by decide)) (Nat.le_of_ble_eq_true rfl) ?_
  intro p e s m args below meth c Q ls H locs X Y hl ret
  have hx := X.1.1
  have hb := X.1.2.1
  have hl : lv_has ls 5 [(0, .ref a), (1, .int x1), (2, .int x2), (3, .int x3), (4, .int x4)] := hl
  refine lv_aload_n hx hb d_X_key_0 rfl (lv_at hl 0 rfl) ?_
  refine fp_get X Y oa rfl in_X 6 (by decide) w197 rfl d_X_key_1 ?_
  refine lv_iload_n hx hb d_X_key_4 rfl (lv_at hl 1 rfl) ?_
  refine lv_iload_n hx hb d_X_key_5 rfl (lv_at hl 2 rfl) ?_
  refine lv_iload_n hx hb d_X_key_6 rfl (lv_at hl 3 rfl) ?_
  refine lv_iload hx hb d_X_key_7 (lv_at hl 4 rfl) ?_
  refine fp_callV (nA := 4) (As := [.int x1, .int x2, .int x3, .int x4]) (rest := []) X Y (c_K_hold x1 x2 x3 x4 ok) ok rfl w237 w234 w235 w236 w4 (by decide +kernel) ⟨rfl, rfl⟩ ⟨Nat.le_of_ble_eq_true rfl, Nat.le_of_ble_eq_true rfl⟩ rfl hl.1 rfl (Nat.le_of_ble_eq_true rfl) d_X_key_9 ⟨Nat.zero_le _, Nat.zero_le _⟩ (fun v9 f9 H locs hp9 Y => ?_)
  obtain ⟨e8, e9⟩ := hp9
  subst e8
  rw [e9] at Y
  have ne_1 : a ≠ kq := (fp_o.nf oa ok (by simp))
  have Y : fp_H D b n A (va_up f kq (ob 5 [.int x1, .int x2, .int x3, .int x4])) s.heap H locs := Y
  have oa : fp_o b n (va_up f kq (ob 5 [.int x1, .int x2, .int x3, .int x4])) a (ob 7 [.ref fo, .ref co, .ref qa, .int ac, .ref qt, .int tc, .ref kq, .int po, .int dr]) := fp_o.ne oa ne_1
  have ok : fp_o b n (va_up f kq (ob 5 [.int x1, .int x2, .int x3, .int x4])) kq (ob 5 [.int x1, .int x2, .int x3, .int x4]) := fp_o.up ok
  refine W.eq (g2 := F0 m 12 ls []) rfl ?_
  exact ret _ _ _ _ _ d_X_key_12 ⟨rfl, rfl⟩ Y
set_option maxHeartbeats 4000000 in
set_option maxRecDepth 100000 in
theorem c_X_wordNumber {l : Launch} {D : va_G} {g : Nat → ClassId} {b n : Nat} {A : Nat → Prop} {f : Nat → va_E} {a fo co qa qt kq : Nat} {ac tc po dr : Int32} {q1 q2 kf : Nat} {z1 z2 : Nat → Int32} (x : Int32) (hk : kf ≤ 16) (oa : fp_o b n f a (ob 7 [.ref fo, .ref co, .ref qa, .int ac, .ref qt, .int tc, .ref kq, .int po, .int dr])) (of : fp_o b n f fo (ob 4 [.ref q1, .ref q2, .int (nI kf)])) (o1 : fp_o b n f q1 (aI g 16 z1)) (o2 : fp_o b n f q2 (aI g 16 z2))  : fp_M l D (TY g) b n A y_X_wordNumber (fp_ws y_X_wordNumber b_X_wordNumber 2 (some FieldType.int)) (rmD 2) [.ref a, .int x] f (fun v f' => v = some (.int (q_fm (q_at z2 x (nI kf)))) ∧ f' = f) := by
  refine fp_ofI (plainFor_of_name (by decide)) (Nat.le_of_ble_eq_true rfl) ?_
  intro p e s m args below meth c Q ls H locs X Y hl ret
  have hx := X.1.1
  have hb := X.1.2.1
  have hl : lv_has ls 2 [(0, .ref a), (1, .int x)] := hl
  refine lv_aload_n hx hb d_X_wordNumber_0 rfl (lv_at hl 0 rfl) ?_
  refine fp_get X Y oa rfl in_X 0 (by decide) w191 rfl d_X_wordNumber_1 ?_
  refine lv_iload_n hx hb d_X_wordNumber_4 rfl (lv_at hl 1 rfl) ?_
  refine fp_callV (nA := 1) (As := [.int x]) (rest := []) X Y (c_F_read x hk of o1 o2) of rfl w245 w242 w243 w244 w2 (by decide +kernel) ⟨rfl, rfl⟩ ⟨Nat.le_of_ble_eq_true rfl, Nat.le_of_ble_eq_true rfl⟩ rfl hl.1 rfl (Nat.le_of_ble_eq_true rfl) d_X_wordNumber_5 ⟨Nat.zero_le _, Nat.zero_le _⟩ (fun v9 f9 H locs hp9 Y => ?_)
  obtain ⟨e8, e9⟩ := hp9
  subst e8
  rw [e9] at Y
  refine W.eq (g2 := F0 m 8 ls [.int (q_at z2 x (nI kf))]) rfl ?_
  refine lv_bipush (v := 16) hx hb d_X_wordNumber_8 (by decide) ?_
  refine fp_callS (nA := 2) (As := [.int (q_at z2 x (nI kf)), .int 16]) (rest := []) X Y (c_JM_floorMod (q_at z2 x (nI kf))) w590 w588 w589 w18 (by decide +kernel) ⟨rfl, rfl⟩ ⟨Nat.le_of_ble_eq_true rfl, Nat.le_of_ble_eq_true rfl⟩ rfl hl.1 rfl (Nat.le_of_ble_eq_true rfl) d_X_wordNumber_10 ⟨Nat.zero_le _, Nat.zero_le _⟩ (fun v9 f9 H locs hp9 Y => ?_)
  obtain ⟨e8, e9⟩ := hp9
  subst e8
  rw [e9] at Y
  refine W.eq (g2 := F0 m 13 ls [.int (q_fm (q_at z2 x (nI kf)))]) rfl ?_
  exact ret _ _ _ _ _ _ d_X_wordNumber_13 ⟨_, rfl, rfl⟩ ⟨rfl, rfl⟩ Y
set_option maxHeartbeats 4000000 in
set_option maxRecDepth 100000 in
theorem c_X_clear {l : Launch} {D : va_G} {g : Nat → ClassId} {b n : Nat} {A : Nat → Prop} {f : Nat → va_E} {a fo co qa qt kq : Nat} {ac tc po dr : Int32} {q1 q2 kf : Nat} {z1 z2 : Nat → Int32} {qc : Nat} {zc : Nat → Int32} {k1 k2 k3 k4 : Int32} (oa : fp_o b n f a (ob 7 [.ref fo, .ref co, .ref qa, .int ac, .ref qt, .int tc, .ref kq, .int po, .int dr])) (of : fp_o b n f fo (ob 4 [.ref q1, .ref q2, .int (nI kf)])) (o1 : fp_o b n f q1 (aI g 16 z1)) (o2 : fp_o b n f q2 (aI g 16 z2)) (oc : fp_o b n f co (ob 1 [.ref qc])) (oqc : fp_o b n f qc (aI g 64 zc)) (ok : fp_o b n f kq (ob 5 [.int k1, .int k2, .int k3, .int k4])) (n1 : q1 ≠ q2) (n2 : q1 ≠ qc) (n3 : q2 ≠ qc) (hA : fp_W b n A := by assumption) : fp_M l D (TY g) b n A y_X_clear (fp_ws y_X_clear b_X_clear 1 none) (rmD 2) [.ref a] f (fun v f' => v = none ∧ f' = va_up (va_up (va_up (va_up (va_up f fo (ob 4 [.ref q1, .ref q2, .int 0])) qc (aI g 64 (q_fill zc 0 64))) a (ob 7 [.ref fo, .ref co, .ref qa, .int 0, .ref qt, .int 0, .ref kq, .int po, .int dr])) kq (ob 5 [.int 0, .int 0, .int 0, .int 0])) a (ob 7 [.ref fo, .ref co, .ref qa, .int 0, .ref qt, .int 0, .ref kq, .int 0, .int 0])) := by
  refine fp_ofV (plainFor_of_name (by decide)) (Nat.le_of_ble_eq_true rfl) ?_
  intro p e s m args below meth c Q ls H locs X Y hl ret
  have hx := X.1.1
  have hb := X.1.2.1
  have hl : lv_has ls 1 [(0, .ref a)] := hl
  refine lv_aload_n hx hb d_X_clear_0 rfl (lv_at hl 0 rfl) ?_
  refine fp_get X Y oa rfl in_X 0 (by decide) w191 rfl d_X_clear_1 ?_
  refine fp_callV (nA := 0) (As := []) (rest := []) X Y (c_F_forget of) of rfl w226 w223 w224 w225 w2 (by decide +kernel) ⟨rfl, rfl⟩ ⟨Nat.le_of_ble_eq_true rfl, Nat.le_of_ble_eq_true rfl⟩ rfl hl.1 rfl (Nat.le_of_ble_eq_true rfl) d_X_clear_4 ⟨Nat.zero_le _, Nat.zero_le _⟩ (fun v9 f9 H locs hp9 Y => ?_)
  obtain ⟨e8, e9⟩ := hp9
  subst e8
  rw [e9] at Y
  have ne_1 : a ≠ fo := (fp_o.nf oa of (by simp))
  have ne_2 : q1 ≠ fo := (fp_o.nf o1 of (by simp))
  have ne_3 : q2 ≠ fo := (fp_o.nf o2 of (by simp))
  have ne_4 : co ≠ fo := (fp_o.nf oc of (by simp))
  have ne_5 : qc ≠ fo := (fp_o.nf oqc of (by simp))
  have ne_6 : kq ≠ fo := (fp_o.nf ok of (by simp))
  have Y : fp_H D b n A (va_up f fo (ob 4 [.ref q1, .ref q2, .int 0])) s.heap H locs := Y
  have oa : fp_o b n (va_up f fo (ob 4 [.ref q1, .ref q2, .int 0])) a (ob 7 [.ref fo, .ref co, .ref qa, .int ac, .ref qt, .int tc, .ref kq, .int po, .int dr]) := fp_o.ne oa ne_1
  have o1 : fp_o b n (va_up f fo (ob 4 [.ref q1, .ref q2, .int 0])) q1 (aI g 16 z1) := fp_o.ne o1 ne_2
  have o2 : fp_o b n (va_up f fo (ob 4 [.ref q1, .ref q2, .int 0])) q2 (aI g 16 z2) := fp_o.ne o2 ne_3
  have oc : fp_o b n (va_up f fo (ob 4 [.ref q1, .ref q2, .int 0])) co (ob 1 [.ref qc]) := fp_o.ne oc ne_4
  have oqc : fp_o b n (va_up f fo (ob 4 [.ref q1, .ref q2, .int 0])) qc (aI g 64 zc) := fp_o.ne oqc ne_5
  have ok : fp_o b n (va_up f fo (ob 4 [.ref q1, .ref q2, .int 0])) kq (ob 5 [.int k1, .int k2, .int k3, .int k4]) := fp_o.ne ok ne_6
  have of : fp_o b n (va_up f fo (ob 4 [.ref q1, .ref q2, .int 0])) fo (ob 4 [.ref q1, .ref q2, .int 0]) := fp_o.up of
  refine W.eq (g2 := F0 m 7 ls []) rfl ?_
  refine lv_aload_n hx hb d_X_clear_7 rfl (lv_at hl 0 rfl) ?_
  refine fp_get X Y oa rfl in_X 1 (by decide) w192 rfl d_X_clear_8 ?_
  refine fp_callV (nA := 0) (As := []) (rest := []) X Y (c_C_forget oc oqc) oc rfl w230 w227 w228 w229 w3 (by decide +kernel) ⟨rfl, rfl⟩ ⟨Nat.le_of_ble_eq_true rfl, Nat.le_of_ble_eq_true rfl⟩ rfl hl.1 rfl (Nat.le_of_ble_eq_true rfl) d_X_clear_11 ⟨Nat.zero_le _, Nat.zero_le _⟩ (fun v9 f9 H locs hp9 Y => ?_)
  obtain ⟨e8, e9⟩ := hp9
  subst e8
  rw [e9] at Y
  have ne_7 : a ≠ qc := (fp_o.nf oa oqc (by simp))
  have ne_8 : fo ≠ qc := (fp_o.nf of oqc (by simp))
  have ne_9 : q1 ≠ qc := n2
  have ne_10 : q2 ≠ qc := n3
  have ne_11 : co ≠ qc := (fp_o.nf oc oqc (by simp))
  have ne_12 : kq ≠ qc := (fp_o.nf ok oqc (by simp))
  have Y : fp_H D b n A (va_up (va_up f fo (ob 4 [.ref q1, .ref q2, .int 0])) qc (aI g 64 (q_fill zc 0 64))) s.heap H locs := Y
  have oa : fp_o b n (va_up (va_up f fo (ob 4 [.ref q1, .ref q2, .int 0])) qc (aI g 64 (q_fill zc 0 64))) a (ob 7 [.ref fo, .ref co, .ref qa, .int ac, .ref qt, .int tc, .ref kq, .int po, .int dr]) := fp_o.ne oa ne_7
  have of : fp_o b n (va_up (va_up f fo (ob 4 [.ref q1, .ref q2, .int 0])) qc (aI g 64 (q_fill zc 0 64))) fo (ob 4 [.ref q1, .ref q2, .int 0]) := fp_o.ne of ne_8
  have o1 : fp_o b n (va_up (va_up f fo (ob 4 [.ref q1, .ref q2, .int 0])) qc (aI g 64 (q_fill zc 0 64))) q1 (aI g 16 z1) := fp_o.ne o1 ne_9
  have o2 : fp_o b n (va_up (va_up f fo (ob 4 [.ref q1, .ref q2, .int 0])) qc (aI g 64 (q_fill zc 0 64))) q2 (aI g 16 z2) := fp_o.ne o2 ne_10
  have oc : fp_o b n (va_up (va_up f fo (ob 4 [.ref q1, .ref q2, .int 0])) qc (aI g 64 (q_fill zc 0 64))) co (ob 1 [.ref qc]) := fp_o.ne oc ne_11
  have ok : fp_o b n (va_up (va_up f fo (ob 4 [.ref q1, .ref q2, .int 0])) qc (aI g 64 (q_fill zc 0 64))) kq (ob 5 [.int k1, .int k2, .int k3, .int k4]) := fp_o.ne ok ne_12
  have oqc : fp_o b n (va_up (va_up f fo (ob 4 [.ref q1, .ref q2, .int 0])) qc (aI g 64 (q_fill zc 0 64))) qc (aI g 64 (q_fill zc 0 64)) := fp_o.up oqc
  refine W.eq (g2 := F0 m 14 ls []) rfl ?_
  refine lv_aload_n hx hb d_X_clear_14 rfl (lv_at hl 0 rfl) ?_
  refine lv_iconst (v := 0) hx hb d_X_clear_15 (by decide) ?_
  refine fp_put X Y oa rfl in_X to_X nm_X 3 (by decide) w194 rfl rfl rfl (Nat.le_of_ble_eq_true rfl) d_X_clear_16 (fun H locs Y => ?_)
  have ne_13 : fo ≠ a := (fp_o.nf of oa (by simp))
  have ne_14 : q1 ≠ a := (fp_o.nf o1 oa (by simp))
  have ne_15 : q2 ≠ a := (fp_o.nf o2 oa (by simp))
  have ne_16 : co ≠ a := (fp_o.nf oc oa (by simp))
  have ne_17 : qc ≠ a := (fp_o.nf oqc oa (by simp))
  have ne_18 : kq ≠ a := (fp_o.nf ok oa (by simp))
  have Y : fp_H D b n A (va_up (va_up (va_up f fo (ob 4 [.ref q1, .ref q2, .int 0])) qc (aI g 64 (q_fill zc 0 64))) a (ob 7 [.ref fo, .ref co, .ref qa, .int 0, .ref qt, .int tc, .ref kq, .int po, .int dr])) s.heap H locs := Y
  have of : fp_o b n (va_up (va_up (va_up f fo (ob 4 [.ref q1, .ref q2, .int 0])) qc (aI g 64 (q_fill zc 0 64))) a (ob 7 [.ref fo, .ref co, .ref qa, .int 0, .ref qt, .int tc, .ref kq, .int po, .int dr])) fo (ob 4 [.ref q1, .ref q2, .int 0]) := fp_o.ne of ne_13
  have o1 : fp_o b n (va_up (va_up (va_up f fo (ob 4 [.ref q1, .ref q2, .int 0])) qc (aI g 64 (q_fill zc 0 64))) a (ob 7 [.ref fo, .ref co, .ref qa, .int 0, .ref qt, .int tc, .ref kq, .int po, .int dr])) q1 (aI g 16 z1) := fp_o.ne o1 ne_14
  have o2 : fp_o b n (va_up (va_up (va_up f fo (ob 4 [.ref q1, .ref q2, .int 0])) qc (aI g 64 (q_fill zc 0 64))) a (ob 7 [.ref fo, .ref co, .ref qa, .int 0, .ref qt, .int tc, .ref kq, .int po, .int dr])) q2 (aI g 16 z2) := fp_o.ne o2 ne_15
  have oc : fp_o b n (va_up (va_up (va_up f fo (ob 4 [.ref q1, .ref q2, .int 0])) qc (aI g 64 (q_fill zc 0 64))) a (ob 7 [.ref fo, .ref co, .ref qa, .int 0, .ref qt, .int tc, .ref kq, .int po, .int dr])) co (ob 1 [.ref qc]) := fp_o.ne oc ne_16
  have oqc : fp_o b n (va_up (va_up (va_up f fo (ob 4 [.ref q1, .ref q2, .int 0])) qc (aI g 64 (q_fill zc 0 64))) a (ob 7 [.ref fo, .ref co, .ref qa, .int 0, .ref qt, .int tc, .ref kq, .int po, .int dr])) qc (aI g 64 (q_fill zc 0 64)) := fp_o.ne oqc ne_17
  have ok : fp_o b n (va_up (va_up (va_up f fo (ob 4 [.ref q1, .ref q2, .int 0])) qc (aI g 64 (q_fill zc 0 64))) a (ob 7 [.ref fo, .ref co, .ref qa, .int 0, .ref qt, .int tc, .ref kq, .int po, .int dr])) kq (ob 5 [.int k1, .int k2, .int k3, .int k4]) := fp_o.ne ok ne_18
  have oa : fp_o b n (va_up (va_up (va_up f fo (ob 4 [.ref q1, .ref q2, .int 0])) qc (aI g 64 (q_fill zc 0 64))) a (ob 7 [.ref fo, .ref co, .ref qa, .int 0, .ref qt, .int tc, .ref kq, .int po, .int dr])) a (ob 7 [.ref fo, .ref co, .ref qa, .int 0, .ref qt, .int tc, .ref kq, .int po, .int dr]) := fp_o.up oa
  refine lv_aload_n hx hb d_X_clear_19 rfl (lv_at hl 0 rfl) ?_
  refine lv_iconst (v := 0) hx hb d_X_clear_20 (by decide) ?_
  refine fp_put X Y oa rfl in_X to_X nm_X 5 (by decide) w196 rfl rfl rfl (Nat.le_of_ble_eq_true rfl) d_X_clear_21 (fun H locs Y => ?_)
  have ne_19 : fo ≠ a := (fp_o.nf of oa (by simp))
  have ne_20 : q1 ≠ a := (fp_o.nf o1 oa (by simp))
  have ne_21 : q2 ≠ a := (fp_o.nf o2 oa (by simp))
  have ne_22 : co ≠ a := (fp_o.nf oc oa (by simp))
  have ne_23 : qc ≠ a := (fp_o.nf oqc oa (by simp))
  have ne_24 : kq ≠ a := (fp_o.nf ok oa (by simp))
  have Y := Y.re
  have Y : fp_H D b n A (va_up (va_up (va_up f fo (ob 4 [.ref q1, .ref q2, .int 0])) qc (aI g 64 (q_fill zc 0 64))) a (ob 7 [.ref fo, .ref co, .ref qa, .int 0, .ref qt, .int 0, .ref kq, .int po, .int dr])) s.heap H locs := Y
  have of : fp_o b n (va_up (va_up (va_up f fo (ob 4 [.ref q1, .ref q2, .int 0])) qc (aI g 64 (q_fill zc 0 64))) a (ob 7 [.ref fo, .ref co, .ref qa, .int 0, .ref qt, .int 0, .ref kq, .int po, .int dr])) fo (ob 4 [.ref q1, .ref q2, .int 0]) := fp_o.re of ne_19
  have o1 : fp_o b n (va_up (va_up (va_up f fo (ob 4 [.ref q1, .ref q2, .int 0])) qc (aI g 64 (q_fill zc 0 64))) a (ob 7 [.ref fo, .ref co, .ref qa, .int 0, .ref qt, .int 0, .ref kq, .int po, .int dr])) q1 (aI g 16 z1) := fp_o.re o1 ne_20
  have o2 : fp_o b n (va_up (va_up (va_up f fo (ob 4 [.ref q1, .ref q2, .int 0])) qc (aI g 64 (q_fill zc 0 64))) a (ob 7 [.ref fo, .ref co, .ref qa, .int 0, .ref qt, .int 0, .ref kq, .int po, .int dr])) q2 (aI g 16 z2) := fp_o.re o2 ne_21
  have oc : fp_o b n (va_up (va_up (va_up f fo (ob 4 [.ref q1, .ref q2, .int 0])) qc (aI g 64 (q_fill zc 0 64))) a (ob 7 [.ref fo, .ref co, .ref qa, .int 0, .ref qt, .int 0, .ref kq, .int po, .int dr])) co (ob 1 [.ref qc]) := fp_o.re oc ne_22
  have oqc : fp_o b n (va_up (va_up (va_up f fo (ob 4 [.ref q1, .ref q2, .int 0])) qc (aI g 64 (q_fill zc 0 64))) a (ob 7 [.ref fo, .ref co, .ref qa, .int 0, .ref qt, .int 0, .ref kq, .int po, .int dr])) qc (aI g 64 (q_fill zc 0 64)) := fp_o.re oqc ne_23
  have ok : fp_o b n (va_up (va_up (va_up f fo (ob 4 [.ref q1, .ref q2, .int 0])) qc (aI g 64 (q_fill zc 0 64))) a (ob 7 [.ref fo, .ref co, .ref qa, .int 0, .ref qt, .int 0, .ref kq, .int po, .int dr])) kq (ob 5 [.int k1, .int k2, .int k3, .int k4]) := fp_o.re ok ne_24
  have oa : fp_o b n (va_up (va_up (va_up f fo (ob 4 [.ref q1, .ref q2, .int 0])) qc (aI g 64 (q_fill zc 0 64))) a (ob 7 [.ref fo, .ref co, .ref qa, .int 0, .ref qt, .int 0, .ref kq, .int po, .int dr])) a (ob 7 [.ref fo, .ref co, .ref qa, .int 0, .ref qt, .int 0, .ref kq, .int po, .int dr]) := fp_o.rs oa
  refine lv_aload_n hx hb d_X_clear_24 rfl (lv_at hl 0 rfl) ?_
  refine fp_get X Y oa rfl in_X 6 (by decide) w197 rfl d_X_clear_25 ?_
  refine lv_iconst (v := 0) hx hb d_X_clear_28 (by decide) ?_
  refine lv_iconst (v := 0) hx hb d_X_clear_29 (by decide) ?_
  refine lv_iconst (v := 0) hx hb d_X_clear_30 (by decide) ?_
  refine lv_iconst (v := 0) hx hb d_X_clear_31 (by decide) ?_
  refine fp_callV (nA := 4) (As := [.int 0, .int 0, .int 0, .int 0]) (rest := []) X Y (c_K_hold 0 0 0 0 ok) ok rfl w237 w234 w235 w236 w4 (by decide +kernel) ⟨rfl, rfl⟩ ⟨Nat.le_of_ble_eq_true rfl, Nat.le_of_ble_eq_true rfl⟩ rfl hl.1 rfl (Nat.le_of_ble_eq_true rfl) d_X_clear_32 ⟨Nat.zero_le _, Nat.zero_le _⟩ (fun v9 f9 H locs hp9 Y => ?_)
  obtain ⟨e8, e9⟩ := hp9
  subst e8
  rw [e9] at Y
  have ne_25 : a ≠ kq := (fp_o.nf oa ok (by simp))
  have ne_26 : fo ≠ kq := (fp_o.nf of ok (by simp))
  have ne_27 : q1 ≠ kq := (fp_o.nf o1 ok (by simp))
  have ne_28 : q2 ≠ kq := (fp_o.nf o2 ok (by simp))
  have ne_29 : co ≠ kq := (fp_o.nf oc ok (by simp))
  have ne_30 : qc ≠ kq := (fp_o.nf oqc ok (by simp))
  have Y : fp_H D b n A (va_up (va_up (va_up (va_up f fo (ob 4 [.ref q1, .ref q2, .int 0])) qc (aI g 64 (q_fill zc 0 64))) a (ob 7 [.ref fo, .ref co, .ref qa, .int 0, .ref qt, .int 0, .ref kq, .int po, .int dr])) kq (ob 5 [.int 0, .int 0, .int 0, .int 0])) s.heap H locs := Y
  have oa : fp_o b n (va_up (va_up (va_up (va_up f fo (ob 4 [.ref q1, .ref q2, .int 0])) qc (aI g 64 (q_fill zc 0 64))) a (ob 7 [.ref fo, .ref co, .ref qa, .int 0, .ref qt, .int 0, .ref kq, .int po, .int dr])) kq (ob 5 [.int 0, .int 0, .int 0, .int 0])) a (ob 7 [.ref fo, .ref co, .ref qa, .int 0, .ref qt, .int 0, .ref kq, .int po, .int dr]) := fp_o.ne oa ne_25
  have of : fp_o b n (va_up (va_up (va_up (va_up f fo (ob 4 [.ref q1, .ref q2, .int 0])) qc (aI g 64 (q_fill zc 0 64))) a (ob 7 [.ref fo, .ref co, .ref qa, .int 0, .ref qt, .int 0, .ref kq, .int po, .int dr])) kq (ob 5 [.int 0, .int 0, .int 0, .int 0])) fo (ob 4 [.ref q1, .ref q2, .int 0]) := fp_o.ne of ne_26
  have o1 : fp_o b n (va_up (va_up (va_up (va_up f fo (ob 4 [.ref q1, .ref q2, .int 0])) qc (aI g 64 (q_fill zc 0 64))) a (ob 7 [.ref fo, .ref co, .ref qa, .int 0, .ref qt, .int 0, .ref kq, .int po, .int dr])) kq (ob 5 [.int 0, .int 0, .int 0, .int 0])) q1 (aI g 16 z1) := fp_o.ne o1 ne_27
  have o2 : fp_o b n (va_up (va_up (va_up (va_up f fo (ob 4 [.ref q1, .ref q2, .int 0])) qc (aI g 64 (q_fill zc 0 64))) a (ob 7 [.ref fo, .ref co, .ref qa, .int 0, .ref qt, .int 0, .ref kq, .int po, .int dr])) kq (ob 5 [.int 0, .int 0, .int 0, .int 0])) q2 (aI g 16 z2) := fp_o.ne o2 ne_28
  have oc : fp_o b n (va_up (va_up (va_up (va_up f fo (ob 4 [.ref q1, .ref q2, .int 0])) qc (aI g 64 (q_fill zc 0 64))) a (ob 7 [.ref fo, .ref co, .ref qa, .int 0, .ref qt, .int 0, .ref kq, .int po, .int dr])) kq (ob 5 [.int 0, .int 0, .int 0, .int 0])) co (ob 1 [.ref qc]) := fp_o.ne oc ne_29
  have oqc : fp_o b n (va_up (va_up (va_up (va_up f fo (ob 4 [.ref q1, .ref q2, .int 0])) qc (aI g 64 (q_fill zc 0 64))) a (ob 7 [.ref fo, .ref co, .ref qa, .int 0, .ref qt, .int 0, .ref kq, .int po, .int dr])) kq (ob 5 [.int 0, .int 0, .int 0, .int 0])) qc (aI g 64 (q_fill zc 0 64)) := fp_o.ne oqc ne_30
  have ok : fp_o b n (va_up (va_up (va_up (va_up f fo (ob 4 [.ref q1, .ref q2, .int 0])) qc (aI g 64 (q_fill zc 0 64))) a (ob 7 [.ref fo, .ref co, .ref qa, .int 0, .ref qt, .int 0, .ref kq, .int po, .int dr])) kq (ob 5 [.int 0, .int 0, .int 0, .int 0])) kq (ob 5 [.int 0, .int 0, .int 0, .int 0]) := fp_o.up ok
  refine W.eq (g2 := F0 m 35 ls []) rfl ?_
  refine lv_aload_n hx hb d_X_clear_35 rfl (lv_at hl 0 rfl) ?_
  refine lv_iconst (v := 0) hx hb d_X_clear_36 (by decide) ?_
  refine fp_put X Y oa rfl in_X to_X nm_X 7 (by decide) w198 rfl rfl rfl (Nat.le_of_ble_eq_true rfl) d_X_clear_37 (fun H locs Y => ?_)
  have ne_31 : fo ≠ a := (fp_o.nf of oa (by simp))
  have ne_32 : q1 ≠ a := (fp_o.nf o1 oa (by simp))
  have ne_33 : q2 ≠ a := (fp_o.nf o2 oa (by simp))
  have ne_34 : co ≠ a := (fp_o.nf oc oa (by simp))
  have ne_35 : qc ≠ a := (fp_o.nf oqc oa (by simp))
  have ne_36 : kq ≠ a := (fp_o.nf ok oa (by simp))
  have Y : fp_H D b n A (va_up (va_up (va_up (va_up (va_up f fo (ob 4 [.ref q1, .ref q2, .int 0])) qc (aI g 64 (q_fill zc 0 64))) a (ob 7 [.ref fo, .ref co, .ref qa, .int 0, .ref qt, .int 0, .ref kq, .int po, .int dr])) kq (ob 5 [.int 0, .int 0, .int 0, .int 0])) a (ob 7 [.ref fo, .ref co, .ref qa, .int 0, .ref qt, .int 0, .ref kq, .int 0, .int dr])) s.heap H locs := Y
  have of : fp_o b n (va_up (va_up (va_up (va_up (va_up f fo (ob 4 [.ref q1, .ref q2, .int 0])) qc (aI g 64 (q_fill zc 0 64))) a (ob 7 [.ref fo, .ref co, .ref qa, .int 0, .ref qt, .int 0, .ref kq, .int po, .int dr])) kq (ob 5 [.int 0, .int 0, .int 0, .int 0])) a (ob 7 [.ref fo, .ref co, .ref qa, .int 0, .ref qt, .int 0, .ref kq, .int 0, .int dr])) fo (ob 4 [.ref q1, .ref q2, .int 0]) := fp_o.ne of ne_31
  have o1 : fp_o b n (va_up (va_up (va_up (va_up (va_up f fo (ob 4 [.ref q1, .ref q2, .int 0])) qc (aI g 64 (q_fill zc 0 64))) a (ob 7 [.ref fo, .ref co, .ref qa, .int 0, .ref qt, .int 0, .ref kq, .int po, .int dr])) kq (ob 5 [.int 0, .int 0, .int 0, .int 0])) a (ob 7 [.ref fo, .ref co, .ref qa, .int 0, .ref qt, .int 0, .ref kq, .int 0, .int dr])) q1 (aI g 16 z1) := fp_o.ne o1 ne_32
  have o2 : fp_o b n (va_up (va_up (va_up (va_up (va_up f fo (ob 4 [.ref q1, .ref q2, .int 0])) qc (aI g 64 (q_fill zc 0 64))) a (ob 7 [.ref fo, .ref co, .ref qa, .int 0, .ref qt, .int 0, .ref kq, .int po, .int dr])) kq (ob 5 [.int 0, .int 0, .int 0, .int 0])) a (ob 7 [.ref fo, .ref co, .ref qa, .int 0, .ref qt, .int 0, .ref kq, .int 0, .int dr])) q2 (aI g 16 z2) := fp_o.ne o2 ne_33
  have oc : fp_o b n (va_up (va_up (va_up (va_up (va_up f fo (ob 4 [.ref q1, .ref q2, .int 0])) qc (aI g 64 (q_fill zc 0 64))) a (ob 7 [.ref fo, .ref co, .ref qa, .int 0, .ref qt, .int 0, .ref kq, .int po, .int dr])) kq (ob 5 [.int 0, .int 0, .int 0, .int 0])) a (ob 7 [.ref fo, .ref co, .ref qa, .int 0, .ref qt, .int 0, .ref kq, .int 0, .int dr])) co (ob 1 [.ref qc]) := fp_o.ne oc ne_34
  have oqc : fp_o b n (va_up (va_up (va_up (va_up (va_up f fo (ob 4 [.ref q1, .ref q2, .int 0])) qc (aI g 64 (q_fill zc 0 64))) a (ob 7 [.ref fo, .ref co, .ref qa, .int 0, .ref qt, .int 0, .ref kq, .int po, .int dr])) kq (ob 5 [.int 0, .int 0, .int 0, .int 0])) a (ob 7 [.ref fo, .ref co, .ref qa, .int 0, .ref qt, .int 0, .ref kq, .int 0, .int dr])) qc (aI g 64 (q_fill zc 0 64)) := fp_o.ne oqc ne_35
  have ok : fp_o b n (va_up (va_up (va_up (va_up (va_up f fo (ob 4 [.ref q1, .ref q2, .int 0])) qc (aI g 64 (q_fill zc 0 64))) a (ob 7 [.ref fo, .ref co, .ref qa, .int 0, .ref qt, .int 0, .ref kq, .int po, .int dr])) kq (ob 5 [.int 0, .int 0, .int 0, .int 0])) a (ob 7 [.ref fo, .ref co, .ref qa, .int 0, .ref qt, .int 0, .ref kq, .int 0, .int dr])) kq (ob 5 [.int 0, .int 0, .int 0, .int 0]) := fp_o.ne ok ne_36
  have oa : fp_o b n (va_up (va_up (va_up (va_up (va_up f fo (ob 4 [.ref q1, .ref q2, .int 0])) qc (aI g 64 (q_fill zc 0 64))) a (ob 7 [.ref fo, .ref co, .ref qa, .int 0, .ref qt, .int 0, .ref kq, .int po, .int dr])) kq (ob 5 [.int 0, .int 0, .int 0, .int 0])) a (ob 7 [.ref fo, .ref co, .ref qa, .int 0, .ref qt, .int 0, .ref kq, .int 0, .int dr])) a (ob 7 [.ref fo, .ref co, .ref qa, .int 0, .ref qt, .int 0, .ref kq, .int 0, .int dr]) := fp_o.up oa
  refine lv_aload_n hx hb d_X_clear_40 rfl (lv_at hl 0 rfl) ?_
  refine lv_iconst (v := 0) hx hb d_X_clear_41 (by decide) ?_
  refine fp_put X Y oa rfl in_X to_X nm_X 8 (by decide) w199 rfl rfl rfl (Nat.le_of_ble_eq_true rfl) d_X_clear_42 (fun H locs Y => ?_)
  have ne_37 : fo ≠ a := (fp_o.nf of oa (by simp))
  have ne_38 : q1 ≠ a := (fp_o.nf o1 oa (by simp))
  have ne_39 : q2 ≠ a := (fp_o.nf o2 oa (by simp))
  have ne_40 : co ≠ a := (fp_o.nf oc oa (by simp))
  have ne_41 : qc ≠ a := (fp_o.nf oqc oa (by simp))
  have ne_42 : kq ≠ a := (fp_o.nf ok oa (by simp))
  have Y := Y.re
  have Y : fp_H D b n A (va_up (va_up (va_up (va_up (va_up f fo (ob 4 [.ref q1, .ref q2, .int 0])) qc (aI g 64 (q_fill zc 0 64))) a (ob 7 [.ref fo, .ref co, .ref qa, .int 0, .ref qt, .int 0, .ref kq, .int po, .int dr])) kq (ob 5 [.int 0, .int 0, .int 0, .int 0])) a (ob 7 [.ref fo, .ref co, .ref qa, .int 0, .ref qt, .int 0, .ref kq, .int 0, .int 0])) s.heap H locs := Y
  have of : fp_o b n (va_up (va_up (va_up (va_up (va_up f fo (ob 4 [.ref q1, .ref q2, .int 0])) qc (aI g 64 (q_fill zc 0 64))) a (ob 7 [.ref fo, .ref co, .ref qa, .int 0, .ref qt, .int 0, .ref kq, .int po, .int dr])) kq (ob 5 [.int 0, .int 0, .int 0, .int 0])) a (ob 7 [.ref fo, .ref co, .ref qa, .int 0, .ref qt, .int 0, .ref kq, .int 0, .int 0])) fo (ob 4 [.ref q1, .ref q2, .int 0]) := fp_o.re of ne_37
  have o1 : fp_o b n (va_up (va_up (va_up (va_up (va_up f fo (ob 4 [.ref q1, .ref q2, .int 0])) qc (aI g 64 (q_fill zc 0 64))) a (ob 7 [.ref fo, .ref co, .ref qa, .int 0, .ref qt, .int 0, .ref kq, .int po, .int dr])) kq (ob 5 [.int 0, .int 0, .int 0, .int 0])) a (ob 7 [.ref fo, .ref co, .ref qa, .int 0, .ref qt, .int 0, .ref kq, .int 0, .int 0])) q1 (aI g 16 z1) := fp_o.re o1 ne_38
  have o2 : fp_o b n (va_up (va_up (va_up (va_up (va_up f fo (ob 4 [.ref q1, .ref q2, .int 0])) qc (aI g 64 (q_fill zc 0 64))) a (ob 7 [.ref fo, .ref co, .ref qa, .int 0, .ref qt, .int 0, .ref kq, .int po, .int dr])) kq (ob 5 [.int 0, .int 0, .int 0, .int 0])) a (ob 7 [.ref fo, .ref co, .ref qa, .int 0, .ref qt, .int 0, .ref kq, .int 0, .int 0])) q2 (aI g 16 z2) := fp_o.re o2 ne_39
  have oc : fp_o b n (va_up (va_up (va_up (va_up (va_up f fo (ob 4 [.ref q1, .ref q2, .int 0])) qc (aI g 64 (q_fill zc 0 64))) a (ob 7 [.ref fo, .ref co, .ref qa, .int 0, .ref qt, .int 0, .ref kq, .int po, .int dr])) kq (ob 5 [.int 0, .int 0, .int 0, .int 0])) a (ob 7 [.ref fo, .ref co, .ref qa, .int 0, .ref qt, .int 0, .ref kq, .int 0, .int 0])) co (ob 1 [.ref qc]) := fp_o.re oc ne_40
  have oqc : fp_o b n (va_up (va_up (va_up (va_up (va_up f fo (ob 4 [.ref q1, .ref q2, .int 0])) qc (aI g 64 (q_fill zc 0 64))) a (ob 7 [.ref fo, .ref co, .ref qa, .int 0, .ref qt, .int 0, .ref kq, .int po, .int dr])) kq (ob 5 [.int 0, .int 0, .int 0, .int 0])) a (ob 7 [.ref fo, .ref co, .ref qa, .int 0, .ref qt, .int 0, .ref kq, .int 0, .int 0])) qc (aI g 64 (q_fill zc 0 64)) := fp_o.re oqc ne_41
  have ok : fp_o b n (va_up (va_up (va_up (va_up (va_up f fo (ob 4 [.ref q1, .ref q2, .int 0])) qc (aI g 64 (q_fill zc 0 64))) a (ob 7 [.ref fo, .ref co, .ref qa, .int 0, .ref qt, .int 0, .ref kq, .int po, .int dr])) kq (ob 5 [.int 0, .int 0, .int 0, .int 0])) a (ob 7 [.ref fo, .ref co, .ref qa, .int 0, .ref qt, .int 0, .ref kq, .int 0, .int 0])) kq (ob 5 [.int 0, .int 0, .int 0, .int 0]) := fp_o.re ok ne_42
  have oa : fp_o b n (va_up (va_up (va_up (va_up (va_up f fo (ob 4 [.ref q1, .ref q2, .int 0])) qc (aI g 64 (q_fill zc 0 64))) a (ob 7 [.ref fo, .ref co, .ref qa, .int 0, .ref qt, .int 0, .ref kq, .int po, .int dr])) kq (ob 5 [.int 0, .int 0, .int 0, .int 0])) a (ob 7 [.ref fo, .ref co, .ref qa, .int 0, .ref qt, .int 0, .ref kq, .int 0, .int 0])) a (ob 7 [.ref fo, .ref co, .ref qa, .int 0, .ref qt, .int 0, .ref kq, .int 0, .int 0]) := fp_o.rs oa
  exact ret _ _ _ _ _ d_X_clear_45 ⟨rfl, rfl⟩ Y
set_option maxHeartbeats 4000000 in
set_option maxRecDepth 100000 in
theorem c_X_areOperands {l : Launch} {D : va_G} {g : Nat → ClassId} {b n : Nat} {A : Nat → Prop} {f : Nat → va_E} {a fo co qa qt kq : Nat} {ac tc po dr : Int32} {q1 q2 kf : Nat} {z1 z2 : Nat → Int32} {kj : Nat} (x y z : Int32) (hkj : kj < 9) (oa : fp_o b n f a (ob 7 [.ref fo, .ref co, .ref qa, .int ac, .ref qt, .int tc, .ref kq, .int po, .int dr])) (of : fp_o b n f fo (ob 4 [.ref q1, .ref q2, .int (nI kf)])) (o1 : fp_o b n f q1 (aI g 16 z1)) (o2 : fp_o b n f q2 (aI g 16 z2))  : fp_M l D (TY g) b n A y_X_areOperands (fp_ws y_X_areOperands b_X_areOperands 5 (some FieldType.boolean)) (rmD 1) [.ref a, .int (nI kj), .int x, .int y, .int z] f (fun v f' => v = some (.int (q_ops kj x y z (nI kf))) ∧ f' = f) := by
  refine fp_ofI (plainFor_of_name (by decide)) (Nat.le_of_ble_eq_true rfl) ?_
  intro p e s m args below meth c Q ls H locs X Y hl ret
  have hx := X.1.1
  have hb := X.1.2.1
  have hl : lv_has ls 5 [(0, .ref a), (1, .int (nI kj)), (2, .int x), (3, .int y), (4, .int z)] := hl
  refine lv_iload_n hx hb d_X_areOperands_0 rfl (lv_at hl 1 rfl) ?_
  rcases (show kj = 0 ∨ kj = 1 ∨ kj = 2 ∨ kj = 3 ∨ kj = 4 ∨ kj = 5 ∨ kj = 6 ∨ kj = 7 ∨ kj = 8 by omega) with h9 | h9 | h9 | h9 | h9 | h9 | h9 | h9 | h9
  · subst h9
    refine lv_tableIn (tgt := 52) (off := 51) hx hb d_X_areOperands_1 (by decide) (by decide) (by decide) (by decide) ?_
    refine lv_aload_n hx hb d_X_areOperands_52 rfl (lv_at hl 0 rfl) ?_
    refine fp_get X Y oa rfl in_X 0 (by decide) w191 rfl d_X_areOperands_53 ?_
    refine lv_iload_n hx hb d_X_areOperands_56 rfl (lv_at hl 2 rfl) ?_
    refine fp_callV (nA := 1) (As := [.int x]) (rest := []) X Y (c_F_isThere x of) of rfl w249 w421 w247 w248 w2 (by decide +kernel) ⟨rfl, rfl⟩ ⟨Nat.le_of_ble_eq_true rfl, Nat.le_of_ble_eq_true rfl⟩ rfl hl.1 rfl (Nat.le_of_ble_eq_true rfl) d_X_areOperands_57 ⟨Nat.zero_le _, Nat.zero_le _⟩ (fun v9 f9 H locs hp9 Y => ?_)
    obtain ⟨e8, e9⟩ := hp9
    subst e8
    rw [e9] at Y
    refine W.eq (g2 := F0 m 60 ls [.int (q_in x (nI kf))]) rfl ?_
    exact ret _ _ _ _ _ _ d_X_areOperands_60 ⟨_, rfl, (nar_in _ _)⟩ ⟨by simp [q_ops], rfl⟩ Y
  · subst h9
    refine lv_tableIn (tgt := 61) (off := 60) hx hb d_X_areOperands_1 (by decide) (by decide) (by decide) (by decide) ?_
    refine lv_aload_n hx hb d_X_areOperands_61 rfl (lv_at hl 0 rfl) ?_
    refine fp_get X Y oa rfl in_X 0 (by decide) w191 rfl d_X_areOperands_62 ?_
    refine lv_iload_n hx hb d_X_areOperands_65 rfl (lv_at hl 2 rfl) ?_
    refine fp_callV (nA := 1) (As := [.int x]) (rest := []) X Y (c_F_isThere x of) of rfl w249 w421 w247 w248 w2 (by decide +kernel) ⟨rfl, rfl⟩ ⟨Nat.le_of_ble_eq_true rfl, Nat.le_of_ble_eq_true rfl⟩ rfl hl.1 rfl (Nat.le_of_ble_eq_true rfl) d_X_areOperands_66 ⟨Nat.zero_le _, Nat.zero_le _⟩ (fun v9 f9 H locs hp9 Y => ?_)
    obtain ⟨e8, e9⟩ := hp9
    subst e8
    rw [e9] at Y
    refine W.eq (g2 := F0 m 69 ls [.int (q_in x (nI kf))]) rfl ?_
    refine lv_if_eq (tgt := 87) hx hb d_X_areOperands_69 (by decide) (fun c_69 => ?_) (fun c_69 => ?_)
    · refine lv_iconst (v := 0) hx hb d_X_areOperands_87 (by decide) ?_
      exact ret _ _ _ _ _ _ d_X_areOperands_88 ⟨_, rfl, rfl⟩ ⟨by simp [q_ops, c_69], rfl⟩ Y
    · refine lv_aload_n hx hb d_X_areOperands_72 rfl (lv_at hl 0 rfl) ?_
      refine fp_get X Y oa rfl in_X 0 (by decide) w191 rfl d_X_areOperands_73 ?_
      refine lv_iload_n hx hb d_X_areOperands_76 rfl (lv_at hl 3 rfl) ?_
      refine fp_callV (nA := 1) (As := [.int y]) (rest := []) X Y (c_F_isThere y of) of rfl w249 w421 w247 w248 w2 (by decide +kernel) ⟨rfl, rfl⟩ ⟨Nat.le_of_ble_eq_true rfl, Nat.le_of_ble_eq_true rfl⟩ rfl hl.1 rfl (Nat.le_of_ble_eq_true rfl) d_X_areOperands_77 ⟨Nat.zero_le _, Nat.zero_le _⟩ (fun v9 f9 H locs hp9 Y => ?_)
      obtain ⟨e8, e9⟩ := hp9
      subst e8
      rw [e9] at Y
      refine W.eq (g2 := F0 m 80 ls [.int (q_in y (nI kf))]) rfl ?_
      refine lv_if_eq (tgt := 87) hx hb d_X_areOperands_80 (by decide) (fun c_80 => ?_) (fun c_80 => ?_)
      · refine lv_iconst (v := 0) hx hb d_X_areOperands_87 (by decide) ?_
        exact ret _ _ _ _ _ _ d_X_areOperands_88 ⟨_, rfl, rfl⟩ ⟨by simp [q_ops, c_69, c_80], rfl⟩ Y
      · refine lv_iconst (v := 1) hx hb d_X_areOperands_83 (by decide) ?_
        refine lv_goto (tgt := 88) hx hb d_X_areOperands_84 (by decide) ?_
        exact ret _ _ _ _ _ _ d_X_areOperands_88 ⟨_, rfl, rfl⟩ ⟨by simp [q_ops, c_69, c_80], rfl⟩ Y
  · subst h9
    refine lv_tableIn (tgt := 61) (off := 60) hx hb d_X_areOperands_1 (by decide) (by decide) (by decide) (by decide) ?_
    refine lv_aload_n hx hb d_X_areOperands_61 rfl (lv_at hl 0 rfl) ?_
    refine fp_get X Y oa rfl in_X 0 (by decide) w191 rfl d_X_areOperands_62 ?_
    refine lv_iload_n hx hb d_X_areOperands_65 rfl (lv_at hl 2 rfl) ?_
    refine fp_callV (nA := 1) (As := [.int x]) (rest := []) X Y (c_F_isThere x of) of rfl w249 w421 w247 w248 w2 (by decide +kernel) ⟨rfl, rfl⟩ ⟨Nat.le_of_ble_eq_true rfl, Nat.le_of_ble_eq_true rfl⟩ rfl hl.1 rfl (Nat.le_of_ble_eq_true rfl) d_X_areOperands_66 ⟨Nat.zero_le _, Nat.zero_le _⟩ (fun v9 f9 H locs hp9 Y => ?_)
    obtain ⟨e8, e9⟩ := hp9
    subst e8
    rw [e9] at Y
    refine W.eq (g2 := F0 m 69 ls [.int (q_in x (nI kf))]) rfl ?_
    refine lv_if_eq (tgt := 87) hx hb d_X_areOperands_69 (by decide) (fun c_69 => ?_) (fun c_69 => ?_)
    · refine lv_iconst (v := 0) hx hb d_X_areOperands_87 (by decide) ?_
      exact ret _ _ _ _ _ _ d_X_areOperands_88 ⟨_, rfl, rfl⟩ ⟨by simp [q_ops, c_69], rfl⟩ Y
    · refine lv_aload_n hx hb d_X_areOperands_72 rfl (lv_at hl 0 rfl) ?_
      refine fp_get X Y oa rfl in_X 0 (by decide) w191 rfl d_X_areOperands_73 ?_
      refine lv_iload_n hx hb d_X_areOperands_76 rfl (lv_at hl 3 rfl) ?_
      refine fp_callV (nA := 1) (As := [.int y]) (rest := []) X Y (c_F_isThere y of) of rfl w249 w421 w247 w248 w2 (by decide +kernel) ⟨rfl, rfl⟩ ⟨Nat.le_of_ble_eq_true rfl, Nat.le_of_ble_eq_true rfl⟩ rfl hl.1 rfl (Nat.le_of_ble_eq_true rfl) d_X_areOperands_77 ⟨Nat.zero_le _, Nat.zero_le _⟩ (fun v9 f9 H locs hp9 Y => ?_)
      obtain ⟨e8, e9⟩ := hp9
      subst e8
      rw [e9] at Y
      refine W.eq (g2 := F0 m 80 ls [.int (q_in y (nI kf))]) rfl ?_
      refine lv_if_eq (tgt := 87) hx hb d_X_areOperands_80 (by decide) (fun c_80 => ?_) (fun c_80 => ?_)
      · refine lv_iconst (v := 0) hx hb d_X_areOperands_87 (by decide) ?_
        exact ret _ _ _ _ _ _ d_X_areOperands_88 ⟨_, rfl, rfl⟩ ⟨by simp [q_ops, c_69, c_80], rfl⟩ Y
      · refine lv_iconst (v := 1) hx hb d_X_areOperands_83 (by decide) ?_
        refine lv_goto (tgt := 88) hx hb d_X_areOperands_84 (by decide) ?_
        exact ret _ _ _ _ _ _ d_X_areOperands_88 ⟨_, rfl, rfl⟩ ⟨by simp [q_ops, c_69, c_80], rfl⟩ Y
  · subst h9
    refine lv_tableIn (tgt := 89) (off := 88) hx hb d_X_areOperands_1 (by decide) (by decide) (by decide) (by decide) ?_
    refine lv_aload_n hx hb d_X_areOperands_89 rfl (lv_at hl 0 rfl) ?_
    refine fp_get X Y oa rfl in_X 0 (by decide) w191 rfl d_X_areOperands_90 ?_
    refine lv_iload_n hx hb d_X_areOperands_93 rfl (lv_at hl 2 rfl) ?_
    refine fp_callV (nA := 1) (As := [.int x]) (rest := []) X Y (c_F_isThere x of) of rfl w249 w421 w247 w248 w2 (by decide +kernel) ⟨rfl, rfl⟩ ⟨Nat.le_of_ble_eq_true rfl, Nat.le_of_ble_eq_true rfl⟩ rfl hl.1 rfl (Nat.le_of_ble_eq_true rfl) d_X_areOperands_94 ⟨Nat.zero_le _, Nat.zero_le _⟩ (fun v9 f9 H locs hp9 Y => ?_)
    obtain ⟨e8, e9⟩ := hp9
    subst e8
    rw [e9] at Y
    refine W.eq (g2 := F0 m 97 ls [.int (q_in x (nI kf))]) rfl ?_
    refine lv_if_eq (tgt := 111) hx hb d_X_areOperands_97 (by decide) (fun c_97 => ?_) (fun c_97 => ?_)
    · refine lv_iconst (v := 0) hx hb d_X_areOperands_111 (by decide) ?_
      exact ret _ _ _ _ _ _ d_X_areOperands_112 ⟨_, rfl, rfl⟩ ⟨by simp [q_ops, c_97], rfl⟩ Y
    · refine lv_iload_n hx hb d_X_areOperands_100 rfl (lv_at hl 3 rfl) ?_
      refine fp_callS (nA := 1) (As := [.int y]) (rest := []) X Y (c_X_isDatum y) w472 w470 w471 w1 (by decide +kernel) ⟨rfl, rfl⟩ ⟨Nat.le_of_ble_eq_true rfl, Nat.le_of_ble_eq_true rfl⟩ rfl hl.1 rfl (Nat.le_of_ble_eq_true rfl) d_X_areOperands_101 ⟨Nat.zero_le _, Nat.zero_le _⟩ (fun v9 f9 H locs hp9 Y => ?_)
      obtain ⟨e8, e9⟩ := hp9
      subst e8
      rw [e9] at Y
      refine W.eq (g2 := F0 m 104 ls [.int (q_in y 2)]) rfl ?_
      refine lv_if_eq (tgt := 111) hx hb d_X_areOperands_104 (by decide) (fun c_104 => ?_) (fun c_104 => ?_)
      · refine lv_iconst (v := 0) hx hb d_X_areOperands_111 (by decide) ?_
        exact ret _ _ _ _ _ _ d_X_areOperands_112 ⟨_, rfl, rfl⟩ ⟨by simp [q_ops, c_97, c_104], rfl⟩ Y
      · refine lv_iconst (v := 1) hx hb d_X_areOperands_107 (by decide) ?_
        refine lv_goto (tgt := 112) hx hb d_X_areOperands_108 (by decide) ?_
        exact ret _ _ _ _ _ _ d_X_areOperands_112 ⟨_, rfl, rfl⟩ ⟨by simp [q_ops, c_97, c_104], rfl⟩ Y
  · subst h9
    refine lv_tableIn (tgt := 178) (off := 177) hx hb d_X_areOperands_1 (by decide) (by decide) (by decide) (by decide) ?_
    refine lv_iconst (v := 1) hx hb d_X_areOperands_178 (by decide) ?_
    exact ret _ _ _ _ _ _ d_X_areOperands_179 ⟨_, rfl, rfl⟩ ⟨by simp [q_ops], rfl⟩ Y
  · subst h9
    refine lv_tableIn (tgt := 113) (off := 112) hx hb d_X_areOperands_1 (by decide) (by decide) (by decide) (by decide) ?_
    refine lv_iload_n hx hb d_X_areOperands_113 rfl (lv_at hl 3 rfl) ?_
    refine fp_callS (nA := 1) (As := [.int y]) (rest := []) X Y (c_X_isDatum y) w472 w470 w471 w1 (by decide +kernel) ⟨rfl, rfl⟩ ⟨Nat.le_of_ble_eq_true rfl, Nat.le_of_ble_eq_true rfl⟩ rfl hl.1 rfl (Nat.le_of_ble_eq_true rfl) d_X_areOperands_114 ⟨Nat.zero_le _, Nat.zero_le _⟩ (fun v9 f9 H locs hp9 Y => ?_)
    obtain ⟨e8, e9⟩ := hp9
    subst e8
    rw [e9] at Y
    refine W.eq (g2 := F0 m 117 ls [.int (q_in y 2)]) rfl ?_
    exact ret _ _ _ _ _ _ d_X_areOperands_117 ⟨_, rfl, (nar_in _ _)⟩ ⟨by simp [q_ops], rfl⟩ Y
  · subst h9
    refine lv_tableIn (tgt := 178) (off := 177) hx hb d_X_areOperands_1 (by decide) (by decide) (by decide) (by decide) ?_
    refine lv_iconst (v := 1) hx hb d_X_areOperands_178 (by decide) ?_
    exact ret _ _ _ _ _ _ d_X_areOperands_179 ⟨_, rfl, rfl⟩ ⟨by simp [q_ops], rfl⟩ Y
  · subst h9
    refine lv_tableIn (tgt := 118) (off := 117) hx hb d_X_areOperands_1 (by decide) (by decide) (by decide) (by decide) ?_
    refine lv_iload_n hx hb d_X_areOperands_118 rfl (lv_at hl 2 rfl) ?_
    refine fp_callS (nA := 1) (As := [.int x]) (rest := []) X Y (c_X_isArray x) w306 w473 w305 w1 (by decide +kernel) ⟨rfl, rfl⟩ ⟨Nat.le_of_ble_eq_true rfl, Nat.le_of_ble_eq_true rfl⟩ rfl hl.1 rfl (Nat.le_of_ble_eq_true rfl) d_X_areOperands_119 ⟨Nat.zero_le _, Nat.zero_le _⟩ (fun v9 f9 H locs hp9 Y => ?_)
    obtain ⟨e8, e9⟩ := hp9
    subst e8
    rw [e9] at Y
    refine W.eq (g2 := F0 m 122 ls [.int (q_in x 4)]) rfl ?_
    refine lv_if_eq (tgt := 140) hx hb d_X_areOperands_122 (by decide) (fun c_122 => ?_) (fun c_122 => ?_)
    · refine lv_iconst (v := 0) hx hb d_X_areOperands_140 (by decide) ?_
      exact ret _ _ _ _ _ _ d_X_areOperands_141 ⟨_, rfl, rfl⟩ ⟨by simp [q_ops, c_122], rfl⟩ Y
    · refine lv_aload_n hx hb d_X_areOperands_125 rfl (lv_at hl 0 rfl) ?_
      refine fp_get X Y oa rfl in_X 0 (by decide) w191 rfl d_X_areOperands_126 ?_
      refine lv_iload_n hx hb d_X_areOperands_129 rfl (lv_at hl 3 rfl) ?_
      refine fp_callV (nA := 1) (As := [.int y]) (rest := []) X Y (c_F_isThere y of) of rfl w249 w421 w247 w248 w2 (by decide +kernel) ⟨rfl, rfl⟩ ⟨Nat.le_of_ble_eq_true rfl, Nat.le_of_ble_eq_true rfl⟩ rfl hl.1 rfl (Nat.le_of_ble_eq_true rfl) d_X_areOperands_130 ⟨Nat.zero_le _, Nat.zero_le _⟩ (fun v9 f9 H locs hp9 Y => ?_)
      obtain ⟨e8, e9⟩ := hp9
      subst e8
      rw [e9] at Y
      refine W.eq (g2 := F0 m 133 ls [.int (q_in y (nI kf))]) rfl ?_
      refine lv_if_eq (tgt := 140) hx hb d_X_areOperands_133 (by decide) (fun c_133 => ?_) (fun c_133 => ?_)
      · refine lv_iconst (v := 0) hx hb d_X_areOperands_140 (by decide) ?_
        exact ret _ _ _ _ _ _ d_X_areOperands_141 ⟨_, rfl, rfl⟩ ⟨by simp [q_ops, c_122, c_133], rfl⟩ Y
      · refine lv_iconst (v := 1) hx hb d_X_areOperands_136 (by decide) ?_
        refine lv_goto (tgt := 141) hx hb d_X_areOperands_137 (by decide) ?_
        exact ret _ _ _ _ _ _ d_X_areOperands_141 ⟨_, rfl, rfl⟩ ⟨by simp [q_ops, c_122, c_133], rfl⟩ Y
  · subst h9
    refine lv_tableIn (tgt := 142) (off := 141) hx hb d_X_areOperands_1 (by decide) (by decide) (by decide) (by decide) ?_
    refine lv_aload_n hx hb d_X_areOperands_142 rfl (lv_at hl 0 rfl) ?_
    refine fp_get X Y oa rfl in_X 0 (by decide) w191 rfl d_X_areOperands_143 ?_
    refine lv_iload_n hx hb d_X_areOperands_146 rfl (lv_at hl 2 rfl) ?_
    refine fp_callV (nA := 1) (As := [.int x]) (rest := []) X Y (c_F_isThere x of) of rfl w249 w421 w247 w248 w2 (by decide +kernel) ⟨rfl, rfl⟩ ⟨Nat.le_of_ble_eq_true rfl, Nat.le_of_ble_eq_true rfl⟩ rfl hl.1 rfl (Nat.le_of_ble_eq_true rfl) d_X_areOperands_147 ⟨Nat.zero_le _, Nat.zero_le _⟩ (fun v9 f9 H locs hp9 Y => ?_)
    obtain ⟨e8, e9⟩ := hp9
    subst e8
    rw [e9] at Y
    refine W.eq (g2 := F0 m 150 ls [.int (q_in x (nI kf))]) rfl ?_
    refine lv_if_eq (tgt := 176) hx hb d_X_areOperands_150 (by decide) (fun c_150 => ?_) (fun c_150 => ?_)
    · refine lv_iconst (v := 0) hx hb d_X_areOperands_176 (by decide) ?_
      exact ret _ _ _ _ _ _ d_X_areOperands_177 ⟨_, rfl, rfl⟩ ⟨by simp [q_ops, c_150], rfl⟩ Y
    · refine lv_aload_n hx hb d_X_areOperands_153 rfl (lv_at hl 0 rfl) ?_
      refine fp_get X Y oa rfl in_X 0 (by decide) w191 rfl d_X_areOperands_154 ?_
      refine lv_iload_n hx hb d_X_areOperands_157 rfl (lv_at hl 3 rfl) ?_
      refine fp_callV (nA := 1) (As := [.int y]) (rest := []) X Y (c_F_isThere y of) of rfl w249 w421 w247 w248 w2 (by decide +kernel) ⟨rfl, rfl⟩ ⟨Nat.le_of_ble_eq_true rfl, Nat.le_of_ble_eq_true rfl⟩ rfl hl.1 rfl (Nat.le_of_ble_eq_true rfl) d_X_areOperands_158 ⟨Nat.zero_le _, Nat.zero_le _⟩ (fun v9 f9 H locs hp9 Y => ?_)
      obtain ⟨e8, e9⟩ := hp9
      subst e8
      rw [e9] at Y
      refine W.eq (g2 := F0 m 161 ls [.int (q_in y (nI kf))]) rfl ?_
      refine lv_if_eq (tgt := 176) hx hb d_X_areOperands_161 (by decide) (fun c_161 => ?_) (fun c_161 => ?_)
      · refine lv_iconst (v := 0) hx hb d_X_areOperands_176 (by decide) ?_
        exact ret _ _ _ _ _ _ d_X_areOperands_177 ⟨_, rfl, rfl⟩ ⟨by simp [q_ops, c_150, c_161], rfl⟩ Y
      · refine lv_iload hx hb d_X_areOperands_164 (lv_at hl 4 rfl) ?_
        refine fp_callS (nA := 1) (As := [.int z]) (rest := []) X Y (c_X_isArray z) w306 w473 w305 w1 (by decide +kernel) ⟨rfl, rfl⟩ ⟨Nat.le_of_ble_eq_true rfl, Nat.le_of_ble_eq_true rfl⟩ rfl hl.1 rfl (Nat.le_of_ble_eq_true rfl) d_X_areOperands_166 ⟨Nat.zero_le _, Nat.zero_le _⟩ (fun v9 f9 H locs hp9 Y => ?_)
        obtain ⟨e8, e9⟩ := hp9
        subst e8
        rw [e9] at Y
        refine W.eq (g2 := F0 m 169 ls [.int (q_in z 4)]) rfl ?_
        refine lv_if_eq (tgt := 176) hx hb d_X_areOperands_169 (by decide) (fun c_169 => ?_) (fun c_169 => ?_)
        · refine lv_iconst (v := 0) hx hb d_X_areOperands_176 (by decide) ?_
          exact ret _ _ _ _ _ _ d_X_areOperands_177 ⟨_, rfl, rfl⟩ ⟨by simp [q_ops, c_150, c_161, c_169], rfl⟩ Y
        · refine lv_iconst (v := 1) hx hb d_X_areOperands_172 (by decide) ?_
          refine lv_goto (tgt := 177) hx hb d_X_areOperands_173 (by decide) ?_
          exact ret _ _ _ _ _ _ d_X_areOperands_177 ⟨_, rfl, rfl⟩ ⟨by simp [q_ops, c_150, c_161, c_169], rfl⟩ Y
set_option maxHeartbeats 4000000 in
set_option maxRecDepth 100000 in
theorem c_X_areKeyFields {l : Launch} {D : va_G} {g : Nat → ClassId} {b n : Nat} {A : Nat → Prop} {f : Nat → va_E} {a fo co qa qt kq : Nat} {ac tc po dr : Int32} {q1 q2 kf : Nat} {z1 z2 : Nat → Int32} (x y : Int32) (oa : fp_o b n f a (ob 7 [.ref fo, .ref co, .ref qa, .int ac, .ref qt, .int tc, .ref kq, .int po, .int dr])) (of : fp_o b n f fo (ob 4 [.ref q1, .ref q2, .int (nI kf)])) (o1 : fp_o b n f q1 (aI g 16 z1)) (o2 : fp_o b n f q2 (aI g 16 z2))  : fp_M l D (TY g) b n A y_X_areKeyFields (fp_ws y_X_areKeyFields b_X_areKeyFields 3 (some FieldType.boolean)) (rmD 1) [.ref a, .int x, .int y] f (fun v f' => v = some (.int (q_kf x y (nI kf))) ∧ f' = f) := by
  refine fp_ofI (plainFor_of_name (by decide)) (Nat.le_of_ble_eq_true rfl) ?_
  intro p e s m args below meth c Q ls H locs X Y hl ret
  have hx := X.1.1
  have hb := X.1.2.1
  have hl : lv_has ls 3 [(0, .ref a), (1, .int x), (2, .int y)] := hl
  refine lv_aload_n hx hb d_X_areKeyFields_0 rfl (lv_at hl 0 rfl) ?_
  refine fp_get X Y oa rfl in_X 0 (by decide) w191 rfl d_X_areKeyFields_1 ?_
  refine lv_iload_n hx hb d_X_areKeyFields_4 rfl (lv_at hl 1 rfl) ?_
  refine fp_callV (nA := 1) (As := [.int x]) (rest := []) X Y (c_F_isThere x of) of rfl w249 w421 w247 w248 w2 (by decide +kernel) ⟨rfl, rfl⟩ ⟨Nat.le_of_ble_eq_true rfl, Nat.le_of_ble_eq_true rfl⟩ rfl hl.1 rfl (Nat.le_of_ble_eq_true rfl) d_X_areKeyFields_5 ⟨Nat.zero_le _, Nat.zero_le _⟩ (fun v9 f9 H locs hp9 Y => ?_)
  obtain ⟨e8, e9⟩ := hp9
  subst e8
  rw [e9] at Y
  refine W.eq (g2 := F0 m 8 ls [.int (q_in x (nI kf))]) rfl ?_
  refine lv_if_eq (tgt := 36) hx hb d_X_areKeyFields_8 (by decide) (fun c_8 => ?_) (fun c_8 => ?_)
  · refine lv_iconst (v := 0) hx hb d_X_areKeyFields_36 (by decide) ?_
    exact ret _ _ _ _ _ _ d_X_areKeyFields_37 ⟨_, rfl, rfl⟩ ⟨by simp [q_kf, c_8], rfl⟩ Y
  · refine lv_iload_n hx hb d_X_areKeyFields_11 rfl (lv_at hl 2 rfl) ?_
    refine lv_iconst (v := -1) hx hb d_X_areKeyFields_12 (by decide) ?_
    refine lv_icmp_eq (tgt := 32) hx hb d_X_areKeyFields_13 (by decide) (fun c_13 => ?_) (fun c_13 => ?_)
    · refine lv_iconst (v := 1) hx hb d_X_areKeyFields_32 (by decide) ?_
      refine lv_goto (tgt := 37) hx hb d_X_areKeyFields_33 (by decide) ?_
      exact ret _ _ _ _ _ _ d_X_areKeyFields_37 ⟨_, rfl, rfl⟩ ⟨by simp [q_kf, c_8, c_13], rfl⟩ Y
    · refine lv_aload_n hx hb d_X_areKeyFields_16 rfl (lv_at hl 0 rfl) ?_
      refine fp_get X Y oa rfl in_X 0 (by decide) w191 rfl d_X_areKeyFields_17 ?_
      refine lv_iload_n hx hb d_X_areKeyFields_20 rfl (lv_at hl 2 rfl) ?_
      refine fp_callV (nA := 1) (As := [.int y]) (rest := []) X Y (c_F_isThere y of) of rfl w249 w421 w247 w248 w2 (by decide +kernel) ⟨rfl, rfl⟩ ⟨Nat.le_of_ble_eq_true rfl, Nat.le_of_ble_eq_true rfl⟩ rfl hl.1 rfl (Nat.le_of_ble_eq_true rfl) d_X_areKeyFields_21 ⟨Nat.zero_le _, Nat.zero_le _⟩ (fun v9 f9 H locs hp9 Y => ?_)
      obtain ⟨e8, e9⟩ := hp9
      subst e8
      rw [e9] at Y
      refine W.eq (g2 := F0 m 24 ls [.int (q_in y (nI kf))]) rfl ?_
      refine lv_if_eq (tgt := 36) hx hb d_X_areKeyFields_24 (by decide) (fun c_24 => ?_) (fun c_24 => ?_)
      · refine lv_iconst (v := 0) hx hb d_X_areKeyFields_36 (by decide) ?_
        exact ret _ _ _ _ _ _ d_X_areKeyFields_37 ⟨_, rfl, rfl⟩ ⟨by simp [q_kf, c_8, c_13, c_24], rfl⟩ Y
      · refine lv_iload_n hx hb d_X_areKeyFields_27 rfl (lv_at hl 1 rfl) ?_
        refine lv_iload_n hx hb d_X_areKeyFields_28 rfl (lv_at hl 2 rfl) ?_
        refine lv_icmp_eq (tgt := 36) hx hb d_X_areKeyFields_29 (by decide) (fun c_29 => ?_) (fun c_29 => ?_)
        · refine lv_iconst (v := 0) hx hb d_X_areKeyFields_36 (by decide) ?_
          exact ret _ _ _ _ _ _ d_X_areKeyFields_37 ⟨_, rfl, rfl⟩ ⟨by simp [q_kf, c_8, c_13, c_24, c_29], rfl⟩ Y
        · refine lv_iconst (v := 1) hx hb d_X_areKeyFields_32 (by decide) ?_
          refine lv_goto (tgt := 37) hx hb d_X_areKeyFields_33 (by decide) ?_
          exact ret _ _ _ _ _ _ d_X_areKeyFields_37 ⟨_, rfl, rfl⟩ ⟨by simp [q_kf, c_8, c_13, c_24, c_29], rfl⟩ Y
set_option maxHeartbeats 4000000 in
set_option maxRecDepth 100000 in
theorem c_X_areActions {l : Launch} {D : va_G} {g : Nat → ClassId} {b n : Nat} {A : Nat → Prop} {f : Nat → va_E} {a fo co qa qt kq : Nat} {ac tc po dr : Int32} (x y : Int32) (oa : fp_o b n f a (ob 7 [.ref fo, .ref co, .ref qa, .int ac, .ref qt, .int tc, .ref kq, .int po, .int dr]))  : fp_M l D (TY g) b n A y_X_areActions (fp_ws y_X_areActions b_X_areActions 4 (some FieldType.boolean)) (rmD 1) [.ref a, .int x, .int y] f (fun v f' => v = some (.int (q_ac x y ac)) ∧ f' = f) := by
  refine fp_ofI (plainFor_of_name (by decide)) (Nat.le_of_ble_eq_true rfl) ?_
  intro p e s m args below meth c Q ls H locs X Y hl ret
  have hx := X.1.1
  have hb := X.1.2.1
  have hl : lv_has ls 4 [(0, .ref a), (1, .int x), (2, .int y)] := hl
  refine lv_iconst (v := 1) hx hb d_X_areActions_0 (by decide) ?_
  refine lv_aload_n hx hb d_X_areActions_1 rfl (lv_at hl 0 rfl) ?_
  refine fp_get X Y oa rfl in_X 3 (by decide) w194 rfl d_X_areActions_2 ?_
  refine lv_ishl hx hb d_X_areActions_5 ?_
  refine lv_iconst (v := 1) hx hb d_X_areActions_6 (by decide) ?_
  refine lv_isub hx hb d_X_areActions_7 ?_
  refine lv_istore_n (lv' := [(3, .int ((1 <<< (ac &&& 31)) - 1)), (0, .ref a), (1, .int x), (2, .int y)]) hx hb d_X_areActions_8 rfl hl (by decide) rfl (fun ls hl => ?_)
  refine lv_iload_n hx hb d_X_areActions_9 rfl (lv_at hl 2 rfl) ?_
  refine lv_iload_n hx hb d_X_areActions_10 rfl (lv_at hl 0 rfl) ?_
  refine lv_iconst (v := -1) hx hb d_X_areActions_11 (by decide) ?_
  refine lv_ixor hx hb d_X_areActions_12 ?_
  refine lv_iand hx hb d_X_areActions_13 ?_
  refine lv_topi (fun w14 ew14 => ?_)
  refine lv_if_ne (tgt := 37) hx hb d_X_areActions_14 (by decide) (fun c_14 => ?_) (fun c_14 => ?_)
  · refine lv_iconst (v := 0) hx hb d_X_areActions_37 (by decide) ?_
    exact ret _ _ _ _ _ _ d_X_areActions_38 ⟨_, rfl, rfl⟩ ⟨by rw [q_ac, ← ew14]; simp only [q_acb, if_neg c_14], rfl⟩ Y
  · refine lv_aload_n hx hb d_X_areActions_17 rfl (lv_at hl 1 rfl) ?_
    refine lv_iload_n hx hb d_X_areActions_18 rfl (lv_at hl 3 rfl) ?_
    refine fp_callV (nA := 1) (As := [.int y]) (rest := []) X Y (c_X_isAction y oa) oa rfl w465 w462 w464 wp4 w1 (by decide +kernel) ⟨rfl, rfl⟩ ⟨Nat.le_of_ble_eq_true rfl, Nat.le_of_ble_eq_true rfl⟩ rfl hl.1 rfl (Nat.le_of_ble_eq_true rfl) d_X_areActions_19 ⟨Nat.zero_le _, Nat.zero_le _⟩ (fun v9 f9 H locs hp9 Y => ?_)
    obtain ⟨e8, e9⟩ := hp9
    subst e8
    rw [e9] at Y
    refine W.eq (g2 := F0 m 22 ls [.int (q_in y ac)]) rfl ?_
    refine lv_if_eq (tgt := 37) hx hb d_X_areActions_22 (by decide) (fun c_22 => ?_) (fun c_22 => ?_)
    · refine lv_iconst (v := 0) hx hb d_X_areActions_37 (by decide) ?_
      exact ret _ _ _ _ _ _ d_X_areActions_38 ⟨_, rfl, rfl⟩ ⟨by rw [q_ac, ← ew14]; simp only [q_acb, if_pos c_14, if_pos c_22], rfl⟩ Y
    · refine lv_iload_n hx hb d_X_areActions_25 rfl (lv_at hl 2 rfl) ?_
      refine lv_iload_n hx hb d_X_areActions_26 rfl (lv_at hl 3 rfl) ?_
      refine lv_ishr hx hb d_X_areActions_27 ?_
      refine lv_iconst (v := 1) hx hb d_X_areActions_28 (by decide) ?_
      refine lv_iand hx hb d_X_areActions_29 ?_
      refine lv_if_eq (tgt := 37) hx hb d_X_areActions_30 (by decide) (fun c_30 => ?_) (fun c_30 => ?_)
      · refine lv_iconst (v := 0) hx hb d_X_areActions_37 (by decide) ?_
        exact ret _ _ _ _ _ _ d_X_areActions_38 ⟨_, rfl, rfl⟩ ⟨by rw [q_ac, ← ew14]; simp only [q_acb, if_pos c_14, if_neg c_22, if_pos c_30], rfl⟩ Y
      · refine lv_iconst (v := 1) hx hb d_X_areActions_33 (by decide) ?_
        refine lv_goto (tgt := 38) hx hb d_X_areActions_34 (by decide) ?_
        exact ret _ _ _ _ _ _ d_X_areActions_38 ⟨_, rfl, rfl⟩ ⟨by rw [q_ac, ← ew14]; simp only [q_acb, if_pos c_14, if_neg c_22, if_neg c_30], rfl⟩ Y
set_option maxHeartbeats 4000000 in
set_option maxRecDepth 100000 in
theorem c_X_isHow {l : Launch} {D : va_G} {g : Nat → ClassId} {b n : Nat} {A : Nat → Prop} {f : Nat → va_E} (x y : Int32)   : fp_M l D (TY g) b n A y_X_isHow (fp_ws y_X_isHow b_X_isHow 4 (some FieldType.boolean)) (rmD 0) [.int x, .int y] f (fun v f' => v = some (.int (q_hw x y)) ∧ f' = f) := by
  refine fp_ofI (plainFor_of_name (by decide)) (Nat.le_of_ble_eq_true rfl) ?_
  intro p e s m args below meth c Q ls H locs X Y hl ret
  have hx := X.1.1
  have hb := X.1.2.1
  have hl : lv_has ls 4 [(0, .int x), (1, .int y)] := hl
  refine lv_iload_n hx hb d_X_isHow_0 rfl (lv_at hl 0 rfl) ?_
  refine lv_iconst (v := 3) hx hb d_X_isHow_1 (by decide) ?_
  refine lv_iand hx hb d_X_isHow_2 ?_
  refine lv_topi (fun w3 ew3 => ?_)
  refine lv_istore_n (lv' := [(2, .int w3), (0, .int x), (1, .int y)]) hx hb d_X_isHow_3 rfl hl (by decide) rfl (fun ls hl => ?_)
  refine lv_iload_n hx hb d_X_isHow_4 rfl (lv_at hl 1 rfl) ?_
  refine lv_iconst (v := 2) hx hb d_X_isHow_5 (by decide) ?_
  refine lv_ishr hx hb d_X_isHow_6 ?_
  refine lv_topi (fun w7 ew7 => ?_)
  refine lv_istore_n (lv' := [(3, .int w7), (2, .int w3), (0, .int x), (1, .int y)]) hx hb d_X_isHow_7 rfl hl (by decide) rfl (fun ls hl => ?_)
  refine lv_iload_n hx hb d_X_isHow_8 rfl (lv_at hl 1 rfl) ?_
  refine lv_iconst (v := 2) hx hb d_X_isHow_9 (by decide) ?_
  refine lv_icmp_gt (tgt := 22) hx hb d_X_isHow_10 (by decide) (fun c_10 => ?_) (fun c_10 => ?_)
  · refine lv_iconst (v := 0) hx hb d_X_isHow_22 (by decide) ?_
    exact ret _ _ _ _ _ _ d_X_isHow_23 ⟨_, rfl, rfl⟩ ⟨by rw [q_hw, ← ew3, ← ew7]; simp [q_hwb, c_10], rfl⟩ Y
  · refine lv_iload_n hx hb d_X_isHow_13 rfl (lv_at hl 0 rfl) ?_
    refine lv_if_lt (tgt := 22) hx hb d_X_isHow_14 (by decide) (fun c_14 => ?_) (fun c_14 => ?_)
    · refine lv_iconst (v := 0) hx hb d_X_isHow_22 (by decide) ?_
      exact ret _ _ _ _ _ _ d_X_isHow_23 ⟨_, rfl, rfl⟩ ⟨by rw [q_hw, ← ew3, ← ew7]; simp [q_hwb, c_10, c_14], rfl⟩ Y
    · refine lv_iload_n hx hb d_X_isHow_17 rfl (lv_at hl 0 rfl) ?_
      refine lv_iconst (v := 2) hx hb d_X_isHow_18 (by decide) ?_
      refine lv_icmp_le (tgt := 24) hx hb d_X_isHow_19 (by decide) (fun c_19 => ?_) (fun c_19 => ?_)
      · refine lv_iload_n hx hb d_X_isHow_24 rfl (lv_at hl 3 rfl) ?_
        refine lv_iconst (v := -1) hx hb d_X_isHow_25 (by decide) ?_
        refine lv_icmp_ne (tgt := 39) hx hb d_X_isHow_26 (by decide) (fun c_26 => ?_) (fun c_26 => ?_)
        · refine lv_iload_n hx hb d_X_isHow_39 rfl (lv_at hl 1 rfl) ?_
          refine lv_iconst (v := 1) hx hb d_X_isHow_40 (by decide) ?_
          refine lv_icmp_ne (tgt := 49) hx hb d_X_isHow_41 (by decide) (fun c_41 => ?_) (fun c_41 => ?_)
          · refine lv_iconst (v := 1) hx hb d_X_isHow_49 (by decide) ?_
            refine lv_goto (tgt := 54) hx hb d_X_isHow_50 (by decide) ?_
            exact ret _ _ _ _ _ _ d_X_isHow_54 ⟨_, rfl, rfl⟩ ⟨by rw [q_hw, ← ew3, ← ew7]; simp [q_hwb, c_10, c_14, c_19, c_26, c_41], rfl⟩ Y
          · refine lv_iload_n hx hb d_X_isHow_44 rfl (lv_at hl 0 rfl) ?_
            refine lv_iconst (v := 1) hx hb d_X_isHow_45 (by decide) ?_
            refine lv_icmp_eq (tgt := 53) hx hb d_X_isHow_46 (by decide) (fun c_46 => ?_) (fun c_46 => ?_)
            · refine lv_iconst (v := 0) hx hb d_X_isHow_53 (by decide) ?_
              exact ret _ _ _ _ _ _ d_X_isHow_54 ⟨_, rfl, rfl⟩ ⟨by rw [q_hw, ← ew3, ← ew7]; simp [q_hwb, c_10, c_14, c_19, c_26, c_41, c_46], rfl⟩ Y
            · refine lv_iconst (v := 1) hx hb d_X_isHow_49 (by decide) ?_
              refine lv_goto (tgt := 54) hx hb d_X_isHow_50 (by decide) ?_
              exact ret _ _ _ _ _ _ d_X_isHow_54 ⟨_, rfl, rfl⟩ ⟨by rw [q_hw, ← ew3, ← ew7]; simp [q_hwb, c_10, c_14, c_19, c_26, c_41, c_46], rfl⟩ Y
        · refine lv_iload_n hx hb d_X_isHow_29 rfl (lv_at hl 0 rfl) ?_
          refine lv_if_ne (tgt := 37) hx hb d_X_isHow_30 (by decide) (fun c_30 => ?_) (fun c_30 => ?_)
          · refine lv_iconst (v := 0) hx hb d_X_isHow_37 (by decide) ?_
            exact ret _ _ _ _ _ _ d_X_isHow_38 ⟨_, rfl, rfl⟩ ⟨by rw [q_hw, ← ew3, ← ew7]; simp [q_hwb, c_10, c_14, c_19, c_26, c_30], rfl⟩ Y
          · refine lv_iconst (v := 1) hx hb d_X_isHow_33 (by decide) ?_
            refine lv_goto (tgt := 38) hx hb d_X_isHow_34 (by decide) ?_
            exact ret _ _ _ _ _ _ d_X_isHow_38 ⟨_, rfl, rfl⟩ ⟨by rw [q_hw, ← ew3, ← ew7]; simp [q_hwb, c_10, c_14, c_19, c_26, c_30], rfl⟩ Y
      · refine lv_iconst (v := 0) hx hb d_X_isHow_22 (by decide) ?_
        exact ret _ _ _ _ _ _ d_X_isHow_23 ⟨_, rfl, rfl⟩ ⟨by rw [q_hw, ← ew3, ← ew7]; simp [q_hwb, c_10, c_14, c_19], rfl⟩ Y
end
section
/-! Contracts: EntryTables.doOne, doAction, entries, matches (by wip/gen/k6.py). -/
/-- what the doings change: the fields' words, the counts, the port, the drop -/
abbrev q_S : Type := (Nat → Int32) × (Nat → Int32) × Int32 × Int32
def q_dat (y i1 i2 : Int32) : Int32 := if y = 0 then i1 else i2
/-- one doing -/
def q_do (kf : Int32) (z1 : Nat → Int32) (kj : Nat) (x y z i1 i2 : Int32) (s : q_S) : q_S := match kj with
  | 0 => (q_wr z1 s.1 x kf y, s.2)
  | 1 => (q_wr z1 s.1 x kf (q_at s.1 y kf), s.2)
  | 2 => (q_wr z1 s.1 x kf (q_at s.1 x kf + q_at s.1 y kf + z), s.2)
  | 3 => (q_wr z1 s.1 x kf (q_dat y i1 i2), s.2)
  | 4 => (s.1, s.2.1, y, s.2.2.2)
  | 5 => (s.1, s.2.1, q_dat y i1 i2, s.2.2.2)
  | 6 => (s.1, s.2.1, s.2.2.1, 1)
  | 7 => (s.1, q_cg s.2.1 x (q_fm (q_at s.1 y kf)) z, s.2.2)
  | 8 => (q_wr z1 s.1 x kf (q_cr s.2.1 z (q_fm (q_at s.1 y kf))), s.2)
  | _ => s
/-- the world with these -/
def q_put (g : Nat → ClassId) (f : Nat → va_E) (q2 qc a fo co qa qt kq : Nat) (ac tc : Int32) (s : q_S) : Nat → va_E := va_up (va_up (va_up f q2 (aI g 16 s.1)) qc (aI g 64 s.2.1)) a (ob 7 [.ref fo, .ref co, .ref qa, .int ac, .ref qt, .int tc, .ref kq, .int s.2.2.1, .int s.2.2.2])
theorem q_put_put {g : Nat → ClassId} {f : Nat → va_E} {q2 qc a fo co qa qt kq : Nat} {ac tc : Int32} {s s' : q_S} (h1 : q2 ≠ qc) (h2 : q2 ≠ a) (h3 : qc ≠ a) : q_put g (q_put g f q2 qc a fo co qa qt kq ac tc s) q2 qc a fo co qa qt kq ac tc s' = q_put g f q2 qc a fo co qa qt kq ac tc s' := by
  funext j
  simp only [q_put, va_up]
  by_cases e1 : j = a
  · simp [e1]
  · by_cases e2 : j = qc
    · simp [e1, e2]
    · by_cases e3 : j = q2
      · simp [e1, e2, e3]
      · simp [e1, e2, e3]
theorem q_put_0 {g : Nat → ClassId} {f : Nat → va_E} {q2 qc a fo co qa qt kq : Nat} {ac tc po dr : Int32} {z2 zc : Nat → Int32} {b n : Nat} (o2 : fp_o b n f q2 (aI g 16 z2)) (oc : fp_o b n f qc (aI g 64 zc)) (oa : fp_o b n f a (ob 7 [.ref fo, .ref co, .ref qa, .int ac, .ref qt, .int tc, .ref kq, .int po, .int dr])) : q_put g f q2 qc a fo co qa qt kq ac tc (z2, zc, po, dr) = f := by
  unfold q_put
  rw [va_up_same o2.2.2, va_up_same oc.2.2, va_up_same oa.2.2]
/-- the first k doings -/
def q_run (kf : Int32) (z1 : Nat → Int32) (dk : Nat → Nat) (dx dy dz : Nat → Int32) (i1 i2 : Int32) (s : q_S) : Nat → q_S
  | 0 => s
  | k + 1 => q_do kf z1 (dk k) (dx k) (dy k) (dz k) i1 i2 (q_run kf z1 dk dx dy dz i1 i2 s k)
set_option maxHeartbeats 4000000 in
set_option maxRecDepth 100000 in
theorem c_X_doOne {l : Launch} {D : va_G} {g : Nat → ClassId} {b n : Nat} {A : Nat → Prop} {f : Nat → va_E} {a fo co qa qt kq : Nat} {ac tc po dr : Int32} {q1 q2 kf : Nat} {z1 z2 : Nat → Int32} {qc : Nat} {zc : Nat → Int32} {dq kj : Nat} {x y z : Int32} (i1 i2 : Int32) (hk : kf ≤ 16) (hkj : kj < 9) (oa : fp_o b n f a (ob 7 [.ref fo, .ref co, .ref qa, .int ac, .ref qt, .int tc, .ref kq, .int po, .int dr])) (of : fp_o b n f fo (ob 4 [.ref q1, .ref q2, .int (nI kf)])) (o1 : fp_o b n f q1 (aI g 16 z1)) (o2 : fp_o b n f q2 (aI g 16 z2)) (oc : fp_o b n f co (ob 1 [.ref qc])) (oqc : fp_o b n f qc (aI g 64 zc)) (od : fp_o b n f dq (ob 2 [.int (nI kj), .int x, .int y, .int z])) (hne : q1 ≠ q2) (n2 : q1 ≠ qc) (n3 : q2 ≠ qc) (hA : fp_W b n A := by assumption) : fp_M l D (TY g) b n A y_X_doOne (fp_ws y_X_doOne b_X_doOne 4 none) (rmD 3) [.ref a, .ref dq, .int i1, .int i2] f (fun v f' => v = none ∧ f' = q_put g f q2 qc a fo co qa qt kq ac tc (q_do (nI kf) z1 kj x y z i1 i2 (z2, zc, po, dr))) := by
  refine fp_ofV (plainFor_of_name (by decide)) (Nat.le_of_ble_eq_true rfl) ?_
  intro p e s m args below meth c Q ls H locs X Y hl ret
  have hx := X.1.1
  have hb := X.1.2.1
  have hl : lv_has ls 4 [(0, .ref a), (1, .ref dq), (2, .int i1), (3, .int i2)] := hl
  have o2i := o2
  have oci := oqc
  refine lv_aload_n hx hb d_X_doOne_0 rfl (lv_at hl 1 rfl) ?_
  refine fp_getN X Y od rfl in_D 0 (by decide) nw94 rfl d_X_doOne_1 ?_
  rcases (show kj = 0 ∨ kj = 1 ∨ kj = 2 ∨ kj = 3 ∨ kj = 4 ∨ kj = 5 ∨ kj = 6 ∨ kj = 7 ∨ kj = 8 by omega) with h9 | h9 | h9 | h9 | h9 | h9 | h9 | h9 | h9
  · subst h9
    refine lv_tableIn (tgt := 56) (off := 52) hx hb d_X_doOne_4 (by decide) (by decide) (by decide) (by decide) ?_
    refine lv_aload_n hx hb d_X_doOne_56 rfl (lv_at hl 0 rfl) ?_
    refine fp_get X Y oa rfl in_X 0 (by decide) w191 rfl d_X_doOne_57 ?_
    refine lv_aload_n hx hb d_X_doOne_60 rfl (lv_at hl 1 rfl) ?_
    refine fp_getN X Y od rfl in_D 1 (by decide) nw96 rfl d_X_doOne_61 ?_
    refine lv_aload_n hx hb d_X_doOne_64 rfl (lv_at hl 1 rfl) ?_
    refine fp_getN X Y od rfl in_D 2 (by decide) nw98 rfl d_X_doOne_65 ?_
    refine fp_callV (nA := 2) (As := [.int x, .int y]) (rest := []) X Y (c_F_write x y hk of o1 o2 hne) of rfl w441 w438 w439 w440 w2 (by decide +kernel) ⟨rfl, rfl⟩ ⟨Nat.le_of_ble_eq_true rfl, Nat.le_of_ble_eq_true rfl⟩ rfl hl.1 rfl (Nat.le_of_ble_eq_true rfl) d_X_doOne_68 ⟨Nat.zero_le _, Nat.zero_le _⟩ (fun v9 f9 H locs hp9 Y => ?_)
    obtain ⟨e8, e9⟩ := hp9
    subst e8
    rw [e9] at Y
    have ne_1 : a ≠ q2 := (fp_o.nf oa o2 (by simp))
    have ne_2 : fo ≠ q2 := (fp_o.nf of o2 (by simp))
    have ne_3 : q1 ≠ q2 := hne
    have ne_4 : co ≠ q2 := (fp_o.nf oc o2 (by simp))
    have ne_5 : qc ≠ q2 := (Ne.symm n3)
    have ne_6 : dq ≠ q2 := (fp_o.nf od o2 (by simp))
    have Y : fp_H D b n A (va_up f q2 (aI g 16 (q_wr z1 z2 x (nI kf) y))) s.heap H locs := Y
    have oa : fp_o b n (va_up f q2 (aI g 16 (q_wr z1 z2 x (nI kf) y))) a (ob 7 [.ref fo, .ref co, .ref qa, .int ac, .ref qt, .int tc, .ref kq, .int po, .int dr]) := fp_o.ne oa ne_1
    have of : fp_o b n (va_up f q2 (aI g 16 (q_wr z1 z2 x (nI kf) y))) fo (ob 4 [.ref q1, .ref q2, .int (nI kf)]) := fp_o.ne of ne_2
    have o1 : fp_o b n (va_up f q2 (aI g 16 (q_wr z1 z2 x (nI kf) y))) q1 (aI g 16 z1) := fp_o.ne o1 ne_3
    have oc : fp_o b n (va_up f q2 (aI g 16 (q_wr z1 z2 x (nI kf) y))) co (ob 1 [.ref qc]) := fp_o.ne oc ne_4
    have oqc : fp_o b n (va_up f q2 (aI g 16 (q_wr z1 z2 x (nI kf) y))) qc (aI g 64 zc) := fp_o.ne oqc ne_5
    have od : fp_o b n (va_up f q2 (aI g 16 (q_wr z1 z2 x (nI kf) y))) dq (ob 2 [.int (nI 0), .int x, .int y, .int z]) := fp_o.ne od ne_6
    have o2 : fp_o b n (va_up f q2 (aI g 16 (q_wr z1 z2 x (nI kf) y))) q2 (aI g 16 (q_wr z1 z2 x (nI kf) y)) := fp_o.up o2
    refine W.eq (g2 := F0 m 71 ls []) rfl ?_
    refine lv_goto (tgt := 264) hx hb d_X_doOne_71 (by decide) ?_
    exact ret _ _ _ _ _ d_X_doOne_264 ⟨rfl, by simp only [q_put, q_do]; rw [va_up_same oqc.2.2, va_up_same oa.2.2]⟩ Y
  · subst h9
    refine lv_tableIn (tgt := 74) (off := 70) hx hb d_X_doOne_4 (by decide) (by decide) (by decide) (by decide) ?_
    refine lv_aload_n hx hb d_X_doOne_74 rfl (lv_at hl 0 rfl) ?_
    refine fp_get X Y oa rfl in_X 0 (by decide) w191 rfl d_X_doOne_75 ?_
    refine lv_aload_n hx hb d_X_doOne_78 rfl (lv_at hl 1 rfl) ?_
    refine fp_getN X Y od rfl in_D 1 (by decide) nw96 rfl d_X_doOne_79 ?_
    refine lv_aload_n hx hb d_X_doOne_82 rfl (lv_at hl 0 rfl) ?_
    refine fp_get X Y oa rfl in_X 0 (by decide) w191 rfl d_X_doOne_83 ?_
    refine lv_aload_n hx hb d_X_doOne_86 rfl (lv_at hl 1 rfl) ?_
    refine fp_getN X Y od rfl in_D 2 (by decide) nw98 rfl d_X_doOne_87 ?_
    refine fp_callV (nA := 1) (As := [.int y]) (rest := [.int x, .ref fo]) X Y (c_F_read y hk of o1 o2) of rfl w245 w242 w243 w244 w2 (by decide +kernel) ⟨rfl, rfl⟩ ⟨Nat.le_of_ble_eq_true rfl, Nat.le_of_ble_eq_true rfl⟩ rfl hl.1 rfl (Nat.le_of_ble_eq_true rfl) d_X_doOne_90 ⟨Nat.zero_le _, Nat.zero_le _⟩ (fun v9 f9 H locs hp9 Y => ?_)
    obtain ⟨e8, e9⟩ := hp9
    subst e8
    rw [e9] at Y
    refine W.eq (g2 := F0 m 93 ls [.int (q_at z2 y (nI kf)), .int x, .ref fo]) rfl ?_
    refine fp_callV (nA := 2) (As := [.int x, .int (q_at z2 y (nI kf))]) (rest := []) X Y (c_F_write x (q_at z2 y (nI kf)) hk of o1 o2 hne) of rfl w441 w438 w439 w440 w2 (by decide +kernel) ⟨rfl, rfl⟩ ⟨Nat.le_of_ble_eq_true rfl, Nat.le_of_ble_eq_true rfl⟩ rfl hl.1 rfl (Nat.le_of_ble_eq_true rfl) d_X_doOne_93 ⟨Nat.zero_le _, Nat.zero_le _⟩ (fun v9 f9 H locs hp9 Y => ?_)
    obtain ⟨e8, e9⟩ := hp9
    subst e8
    rw [e9] at Y
    have ne_7 : a ≠ q2 := (fp_o.nf oa o2 (by simp))
    have ne_8 : fo ≠ q2 := (fp_o.nf of o2 (by simp))
    have ne_9 : q1 ≠ q2 := hne
    have ne_10 : co ≠ q2 := (fp_o.nf oc o2 (by simp))
    have ne_11 : qc ≠ q2 := (Ne.symm n3)
    have ne_12 : dq ≠ q2 := (fp_o.nf od o2 (by simp))
    have Y : fp_H D b n A (va_up f q2 (aI g 16 (q_wr z1 z2 x (nI kf) (q_at z2 y (nI kf))))) s.heap H locs := Y
    have oa : fp_o b n (va_up f q2 (aI g 16 (q_wr z1 z2 x (nI kf) (q_at z2 y (nI kf))))) a (ob 7 [.ref fo, .ref co, .ref qa, .int ac, .ref qt, .int tc, .ref kq, .int po, .int dr]) := fp_o.ne oa ne_7
    have of : fp_o b n (va_up f q2 (aI g 16 (q_wr z1 z2 x (nI kf) (q_at z2 y (nI kf))))) fo (ob 4 [.ref q1, .ref q2, .int (nI kf)]) := fp_o.ne of ne_8
    have o1 : fp_o b n (va_up f q2 (aI g 16 (q_wr z1 z2 x (nI kf) (q_at z2 y (nI kf))))) q1 (aI g 16 z1) := fp_o.ne o1 ne_9
    have oc : fp_o b n (va_up f q2 (aI g 16 (q_wr z1 z2 x (nI kf) (q_at z2 y (nI kf))))) co (ob 1 [.ref qc]) := fp_o.ne oc ne_10
    have oqc : fp_o b n (va_up f q2 (aI g 16 (q_wr z1 z2 x (nI kf) (q_at z2 y (nI kf))))) qc (aI g 64 zc) := fp_o.ne oqc ne_11
    have od : fp_o b n (va_up f q2 (aI g 16 (q_wr z1 z2 x (nI kf) (q_at z2 y (nI kf))))) dq (ob 2 [.int (nI 1), .int x, .int y, .int z]) := fp_o.ne od ne_12
    have o2 : fp_o b n (va_up f q2 (aI g 16 (q_wr z1 z2 x (nI kf) (q_at z2 y (nI kf))))) q2 (aI g 16 (q_wr z1 z2 x (nI kf) (q_at z2 y (nI kf)))) := fp_o.up o2
    refine W.eq (g2 := F0 m 96 ls []) rfl ?_
    refine lv_goto (tgt := 264) hx hb d_X_doOne_96 (by decide) ?_
    exact ret _ _ _ _ _ d_X_doOne_264 ⟨rfl, by simp only [q_put, q_do]; rw [va_up_same oqc.2.2, va_up_same oa.2.2]⟩ Y
  · subst h9
    refine lv_tableIn (tgt := 99) (off := 95) hx hb d_X_doOne_4 (by decide) (by decide) (by decide) (by decide) ?_
    refine lv_aload_n hx hb d_X_doOne_99 rfl (lv_at hl 0 rfl) ?_
    refine fp_get X Y oa rfl in_X 0 (by decide) w191 rfl d_X_doOne_100 ?_
    refine lv_aload_n hx hb d_X_doOne_103 rfl (lv_at hl 1 rfl) ?_
    refine fp_getN X Y od rfl in_D 1 (by decide) nw96 rfl d_X_doOne_104 ?_
    refine lv_aload_n hx hb d_X_doOne_107 rfl (lv_at hl 0 rfl) ?_
    refine fp_get X Y oa rfl in_X 0 (by decide) w191 rfl d_X_doOne_108 ?_
    refine lv_aload_n hx hb d_X_doOne_111 rfl (lv_at hl 1 rfl) ?_
    refine fp_getN X Y od rfl in_D 1 (by decide) nw96 rfl d_X_doOne_112 ?_
    refine fp_callV (nA := 1) (As := [.int x]) (rest := [.int x, .ref fo]) X Y (c_F_read x hk of o1 o2) of rfl w245 w242 w243 w244 w2 (by decide +kernel) ⟨rfl, rfl⟩ ⟨Nat.le_of_ble_eq_true rfl, Nat.le_of_ble_eq_true rfl⟩ rfl hl.1 rfl (Nat.le_of_ble_eq_true rfl) d_X_doOne_115 ⟨Nat.zero_le _, Nat.zero_le _⟩ (fun v9 f9 H locs hp9 Y => ?_)
    obtain ⟨e8, e9⟩ := hp9
    subst e8
    rw [e9] at Y
    refine W.eq (g2 := F0 m 118 ls [.int (q_at z2 x (nI kf)), .int x, .ref fo]) rfl ?_
    refine lv_aload_n hx hb d_X_doOne_118 rfl (lv_at hl 0 rfl) ?_
    refine fp_get X Y oa rfl in_X 0 (by decide) w191 rfl d_X_doOne_119 ?_
    refine lv_aload_n hx hb d_X_doOne_122 rfl (lv_at hl 1 rfl) ?_
    refine fp_getN X Y od rfl in_D 2 (by decide) nw98 rfl d_X_doOne_123 ?_
    refine fp_callV (nA := 1) (As := [.int y]) (rest := [.int (q_at z2 x (nI kf)), .int x, .ref fo]) X Y (c_F_read y hk of o1 o2) of rfl w245 w242 w243 w244 w2 (by decide +kernel) ⟨rfl, rfl⟩ ⟨Nat.le_of_ble_eq_true rfl, Nat.le_of_ble_eq_true rfl⟩ rfl hl.1 rfl (Nat.le_of_ble_eq_true rfl) d_X_doOne_126 ⟨Nat.zero_le _, Nat.zero_le _⟩ (fun v9 f9 H locs hp9 Y => ?_)
    obtain ⟨e8, e9⟩ := hp9
    subst e8
    rw [e9] at Y
    refine W.eq (g2 := F0 m 129 ls [.int (q_at z2 y (nI kf)), .int (q_at z2 x (nI kf)), .int x, .ref fo]) rfl ?_
    refine lv_iadd hx hb d_X_doOne_129 ?_
    refine lv_aload_n hx hb d_X_doOne_130 rfl (lv_at hl 1 rfl) ?_
    refine fp_getN X Y od rfl in_D 3 (by decide) nw100 rfl d_X_doOne_131 ?_
    refine lv_iadd hx hb d_X_doOne_134 ?_
    refine fp_callV (nA := 2) (As := [.int x, .int (((q_at z2 x (nI kf)) + (q_at z2 y (nI kf))) + z)]) (rest := []) X Y (c_F_write x (((q_at z2 x (nI kf)) + (q_at z2 y (nI kf))) + z) hk of o1 o2 hne) of rfl w441 w438 w439 w440 w2 (by decide +kernel) ⟨rfl, rfl⟩ ⟨Nat.le_of_ble_eq_true rfl, Nat.le_of_ble_eq_true rfl⟩ rfl hl.1 rfl (Nat.le_of_ble_eq_true rfl) d_X_doOne_135 ⟨Nat.zero_le _, Nat.zero_le _⟩ (fun v9 f9 H locs hp9 Y => ?_)
    obtain ⟨e8, e9⟩ := hp9
    subst e8
    rw [e9] at Y
    have ne_13 : a ≠ q2 := (fp_o.nf oa o2 (by simp))
    have ne_14 : fo ≠ q2 := (fp_o.nf of o2 (by simp))
    have ne_15 : q1 ≠ q2 := hne
    have ne_16 : co ≠ q2 := (fp_o.nf oc o2 (by simp))
    have ne_17 : qc ≠ q2 := (Ne.symm n3)
    have ne_18 : dq ≠ q2 := (fp_o.nf od o2 (by simp))
    have Y : fp_H D b n A (va_up f q2 (aI g 16 (q_wr z1 z2 x (nI kf) (((q_at z2 x (nI kf)) + (q_at z2 y (nI kf))) + z)))) s.heap H locs := Y
    have oa : fp_o b n (va_up f q2 (aI g 16 (q_wr z1 z2 x (nI kf) (((q_at z2 x (nI kf)) + (q_at z2 y (nI kf))) + z)))) a (ob 7 [.ref fo, .ref co, .ref qa, .int ac, .ref qt, .int tc, .ref kq, .int po, .int dr]) := fp_o.ne oa ne_13
    have of : fp_o b n (va_up f q2 (aI g 16 (q_wr z1 z2 x (nI kf) (((q_at z2 x (nI kf)) + (q_at z2 y (nI kf))) + z)))) fo (ob 4 [.ref q1, .ref q2, .int (nI kf)]) := fp_o.ne of ne_14
    have o1 : fp_o b n (va_up f q2 (aI g 16 (q_wr z1 z2 x (nI kf) (((q_at z2 x (nI kf)) + (q_at z2 y (nI kf))) + z)))) q1 (aI g 16 z1) := fp_o.ne o1 ne_15
    have oc : fp_o b n (va_up f q2 (aI g 16 (q_wr z1 z2 x (nI kf) (((q_at z2 x (nI kf)) + (q_at z2 y (nI kf))) + z)))) co (ob 1 [.ref qc]) := fp_o.ne oc ne_16
    have oqc : fp_o b n (va_up f q2 (aI g 16 (q_wr z1 z2 x (nI kf) (((q_at z2 x (nI kf)) + (q_at z2 y (nI kf))) + z)))) qc (aI g 64 zc) := fp_o.ne oqc ne_17
    have od : fp_o b n (va_up f q2 (aI g 16 (q_wr z1 z2 x (nI kf) (((q_at z2 x (nI kf)) + (q_at z2 y (nI kf))) + z)))) dq (ob 2 [.int (nI 2), .int x, .int y, .int z]) := fp_o.ne od ne_18
    have o2 : fp_o b n (va_up f q2 (aI g 16 (q_wr z1 z2 x (nI kf) (((q_at z2 x (nI kf)) + (q_at z2 y (nI kf))) + z)))) q2 (aI g 16 (q_wr z1 z2 x (nI kf) (((q_at z2 x (nI kf)) + (q_at z2 y (nI kf))) + z))) := fp_o.up o2
    refine W.eq (g2 := F0 m 138 ls []) rfl ?_
    refine lv_goto (tgt := 264) hx hb d_X_doOne_138 (by decide) ?_
    exact ret _ _ _ _ _ d_X_doOne_264 ⟨rfl, by simp only [q_put, q_do]; rw [va_up_same oqc.2.2, va_up_same oa.2.2]⟩ Y
  · subst h9
    refine lv_tableIn (tgt := 141) (off := 137) hx hb d_X_doOne_4 (by decide) (by decide) (by decide) (by decide) ?_
    refine lv_aload_n hx hb d_X_doOne_141 rfl (lv_at hl 0 rfl) ?_
    refine fp_get X Y oa rfl in_X 0 (by decide) w191 rfl d_X_doOne_142 ?_
    refine lv_aload_n hx hb d_X_doOne_145 rfl (lv_at hl 1 rfl) ?_
    refine fp_getN X Y od rfl in_D 1 (by decide) nw96 rfl d_X_doOne_146 ?_
    refine lv_aload_n hx hb d_X_doOne_149 rfl (lv_at hl 1 rfl) ?_
    refine fp_getN X Y od rfl in_D 2 (by decide) nw98 rfl d_X_doOne_150 ?_
    refine lv_if_ne (tgt := 160) hx hb d_X_doOne_153 (by decide) (fun c_153 => ?_) (fun c_153 => ?_)
    · refine lv_iload_n hx hb d_X_doOne_160 rfl (lv_at hl 3 rfl) ?_
      refine fp_callV (nA := 2) (As := [.int x, .int i2]) (rest := []) X Y (c_F_write x i2 hk of o1 o2 hne) of rfl w441 w438 w439 w440 w2 (by decide +kernel) ⟨rfl, rfl⟩ ⟨Nat.le_of_ble_eq_true rfl, Nat.le_of_ble_eq_true rfl⟩ rfl hl.1 rfl (Nat.le_of_ble_eq_true rfl) d_X_doOne_161 ⟨Nat.zero_le _, Nat.zero_le _⟩ (fun v9 f9 H locs hp9 Y => ?_)
      obtain ⟨e8, e9⟩ := hp9
      subst e8
      rw [e9] at Y
      have ne_19 : a ≠ q2 := (fp_o.nf oa o2 (by simp))
      have ne_20 : fo ≠ q2 := (fp_o.nf of o2 (by simp))
      have ne_21 : q1 ≠ q2 := hne
      have ne_22 : co ≠ q2 := (fp_o.nf oc o2 (by simp))
      have ne_23 : qc ≠ q2 := (Ne.symm n3)
      have ne_24 : dq ≠ q2 := (fp_o.nf od o2 (by simp))
      have Y : fp_H D b n A (va_up f q2 (aI g 16 (q_wr z1 z2 x (nI kf) i2))) s.heap H locs := Y
      have oa : fp_o b n (va_up f q2 (aI g 16 (q_wr z1 z2 x (nI kf) i2))) a (ob 7 [.ref fo, .ref co, .ref qa, .int ac, .ref qt, .int tc, .ref kq, .int po, .int dr]) := fp_o.ne oa ne_19
      have of : fp_o b n (va_up f q2 (aI g 16 (q_wr z1 z2 x (nI kf) i2))) fo (ob 4 [.ref q1, .ref q2, .int (nI kf)]) := fp_o.ne of ne_20
      have o1 : fp_o b n (va_up f q2 (aI g 16 (q_wr z1 z2 x (nI kf) i2))) q1 (aI g 16 z1) := fp_o.ne o1 ne_21
      have oc : fp_o b n (va_up f q2 (aI g 16 (q_wr z1 z2 x (nI kf) i2))) co (ob 1 [.ref qc]) := fp_o.ne oc ne_22
      have oqc : fp_o b n (va_up f q2 (aI g 16 (q_wr z1 z2 x (nI kf) i2))) qc (aI g 64 zc) := fp_o.ne oqc ne_23
      have od : fp_o b n (va_up f q2 (aI g 16 (q_wr z1 z2 x (nI kf) i2))) dq (ob 2 [.int (nI 3), .int x, .int y, .int z]) := fp_o.ne od ne_24
      have o2 : fp_o b n (va_up f q2 (aI g 16 (q_wr z1 z2 x (nI kf) i2))) q2 (aI g 16 (q_wr z1 z2 x (nI kf) i2)) := fp_o.up o2
      refine W.eq (g2 := F0 m 164 ls []) rfl ?_
      refine lv_goto (tgt := 264) hx hb d_X_doOne_164 (by decide) ?_
      exact ret _ _ _ _ _ d_X_doOne_264 ⟨rfl, by simp only [q_put, q_do]; simp only [q_dat, if_neg c_153]; rw [va_up_same oqc.2.2, va_up_same oa.2.2]⟩ Y
    · refine lv_iload_n hx hb d_X_doOne_156 rfl (lv_at hl 2 rfl) ?_
      refine lv_goto (tgt := 161) hx hb d_X_doOne_157 (by decide) ?_
      refine fp_callV (nA := 2) (As := [.int x, .int i1]) (rest := []) X Y (c_F_write x i1 hk of o1 o2 hne) of rfl w441 w438 w439 w440 w2 (by decide +kernel) ⟨rfl, rfl⟩ ⟨Nat.le_of_ble_eq_true rfl, Nat.le_of_ble_eq_true rfl⟩ rfl hl.1 rfl (Nat.le_of_ble_eq_true rfl) d_X_doOne_161 ⟨Nat.zero_le _, Nat.zero_le _⟩ (fun v9 f9 H locs hp9 Y => ?_)
      obtain ⟨e8, e9⟩ := hp9
      subst e8
      rw [e9] at Y
      have ne_25 : a ≠ q2 := (fp_o.nf oa o2 (by simp))
      have ne_26 : fo ≠ q2 := (fp_o.nf of o2 (by simp))
      have ne_27 : q1 ≠ q2 := hne
      have ne_28 : co ≠ q2 := (fp_o.nf oc o2 (by simp))
      have ne_29 : qc ≠ q2 := (Ne.symm n3)
      have ne_30 : dq ≠ q2 := (fp_o.nf od o2 (by simp))
      have Y : fp_H D b n A (va_up f q2 (aI g 16 (q_wr z1 z2 x (nI kf) i1))) s.heap H locs := Y
      have oa : fp_o b n (va_up f q2 (aI g 16 (q_wr z1 z2 x (nI kf) i1))) a (ob 7 [.ref fo, .ref co, .ref qa, .int ac, .ref qt, .int tc, .ref kq, .int po, .int dr]) := fp_o.ne oa ne_25
      have of : fp_o b n (va_up f q2 (aI g 16 (q_wr z1 z2 x (nI kf) i1))) fo (ob 4 [.ref q1, .ref q2, .int (nI kf)]) := fp_o.ne of ne_26
      have o1 : fp_o b n (va_up f q2 (aI g 16 (q_wr z1 z2 x (nI kf) i1))) q1 (aI g 16 z1) := fp_o.ne o1 ne_27
      have oc : fp_o b n (va_up f q2 (aI g 16 (q_wr z1 z2 x (nI kf) i1))) co (ob 1 [.ref qc]) := fp_o.ne oc ne_28
      have oqc : fp_o b n (va_up f q2 (aI g 16 (q_wr z1 z2 x (nI kf) i1))) qc (aI g 64 zc) := fp_o.ne oqc ne_29
      have od : fp_o b n (va_up f q2 (aI g 16 (q_wr z1 z2 x (nI kf) i1))) dq (ob 2 [.int (nI 3), .int x, .int y, .int z]) := fp_o.ne od ne_30
      have o2 : fp_o b n (va_up f q2 (aI g 16 (q_wr z1 z2 x (nI kf) i1))) q2 (aI g 16 (q_wr z1 z2 x (nI kf) i1)) := fp_o.up o2
      refine W.eq (g2 := F0 m 164 ls []) rfl ?_
      refine lv_goto (tgt := 264) hx hb d_X_doOne_164 (by decide) ?_
      exact ret _ _ _ _ _ d_X_doOne_264 ⟨rfl, by simp only [q_put, q_do]; simp only [q_dat, if_pos c_153]; rw [va_up_same oqc.2.2, va_up_same oa.2.2]⟩ Y
  · subst h9
    refine lv_tableIn (tgt := 167) (off := 163) hx hb d_X_doOne_4 (by decide) (by decide) (by decide) (by decide) ?_
    refine lv_aload_n hx hb d_X_doOne_167 rfl (lv_at hl 0 rfl) ?_
    refine lv_aload_n hx hb d_X_doOne_168 rfl (lv_at hl 1 rfl) ?_
    refine fp_getN X Y od rfl in_D 2 (by decide) nw98 rfl d_X_doOne_169 ?_
    refine fp_put X Y oa rfl in_X to_X nm_X 7 (by decide) w198 rfl rfl rfl (Nat.le_of_ble_eq_true rfl) d_X_doOne_172 (fun H locs Y => ?_)
    have ne_31 : fo ≠ a := (fp_o.nf of oa (by simp))
    have ne_32 : q1 ≠ a := (fp_o.nf o1 oa (by simp))
    have ne_33 : q2 ≠ a := (fp_o.nf o2 oa (by simp))
    have ne_34 : co ≠ a := (fp_o.nf oc oa (by simp))
    have ne_35 : qc ≠ a := (fp_o.nf oqc oa (by simp))
    have ne_36 : dq ≠ a := (fp_o.nf od oa (by simp))
    have Y : fp_H D b n A (va_up f a (ob 7 [.ref fo, .ref co, .ref qa, .int ac, .ref qt, .int tc, .ref kq, .int y, .int dr])) s.heap H locs := Y
    have of : fp_o b n (va_up f a (ob 7 [.ref fo, .ref co, .ref qa, .int ac, .ref qt, .int tc, .ref kq, .int y, .int dr])) fo (ob 4 [.ref q1, .ref q2, .int (nI kf)]) := fp_o.ne of ne_31
    have o1 : fp_o b n (va_up f a (ob 7 [.ref fo, .ref co, .ref qa, .int ac, .ref qt, .int tc, .ref kq, .int y, .int dr])) q1 (aI g 16 z1) := fp_o.ne o1 ne_32
    have o2 : fp_o b n (va_up f a (ob 7 [.ref fo, .ref co, .ref qa, .int ac, .ref qt, .int tc, .ref kq, .int y, .int dr])) q2 (aI g 16 z2) := fp_o.ne o2 ne_33
    have oc : fp_o b n (va_up f a (ob 7 [.ref fo, .ref co, .ref qa, .int ac, .ref qt, .int tc, .ref kq, .int y, .int dr])) co (ob 1 [.ref qc]) := fp_o.ne oc ne_34
    have oqc : fp_o b n (va_up f a (ob 7 [.ref fo, .ref co, .ref qa, .int ac, .ref qt, .int tc, .ref kq, .int y, .int dr])) qc (aI g 64 zc) := fp_o.ne oqc ne_35
    have od : fp_o b n (va_up f a (ob 7 [.ref fo, .ref co, .ref qa, .int ac, .ref qt, .int tc, .ref kq, .int y, .int dr])) dq (ob 2 [.int (nI 4), .int x, .int y, .int z]) := fp_o.ne od ne_36
    have oa : fp_o b n (va_up f a (ob 7 [.ref fo, .ref co, .ref qa, .int ac, .ref qt, .int tc, .ref kq, .int y, .int dr])) a (ob 7 [.ref fo, .ref co, .ref qa, .int ac, .ref qt, .int tc, .ref kq, .int y, .int dr]) := fp_o.up oa
    refine lv_goto (tgt := 264) hx hb d_X_doOne_175 (by decide) ?_
    exact ret _ _ _ _ _ d_X_doOne_264 ⟨rfl, by simp only [q_put, q_do]; rw [va_up_same o2i.2.2, va_up_same oci.2.2]⟩ Y
  · subst h9
    refine lv_tableIn (tgt := 178) (off := 174) hx hb d_X_doOne_4 (by decide) (by decide) (by decide) (by decide) ?_
    refine lv_aload_n hx hb d_X_doOne_178 rfl (lv_at hl 0 rfl) ?_
    refine lv_aload_n hx hb d_X_doOne_179 rfl (lv_at hl 1 rfl) ?_
    refine fp_getN X Y od rfl in_D 2 (by decide) nw98 rfl d_X_doOne_180 ?_
    refine lv_if_ne (tgt := 190) hx hb d_X_doOne_183 (by decide) (fun c_183 => ?_) (fun c_183 => ?_)
    · refine lv_iload_n hx hb d_X_doOne_190 rfl (lv_at hl 3 rfl) ?_
      refine fp_put X Y oa rfl in_X to_X nm_X 7 (by decide) w198 rfl rfl rfl (Nat.le_of_ble_eq_true rfl) d_X_doOne_191 (fun H locs Y => ?_)
      have ne_37 : fo ≠ a := (fp_o.nf of oa (by simp))
      have ne_38 : q1 ≠ a := (fp_o.nf o1 oa (by simp))
      have ne_39 : q2 ≠ a := (fp_o.nf o2 oa (by simp))
      have ne_40 : co ≠ a := (fp_o.nf oc oa (by simp))
      have ne_41 : qc ≠ a := (fp_o.nf oqc oa (by simp))
      have ne_42 : dq ≠ a := (fp_o.nf od oa (by simp))
      have Y : fp_H D b n A (va_up f a (ob 7 [.ref fo, .ref co, .ref qa, .int ac, .ref qt, .int tc, .ref kq, .int i2, .int dr])) s.heap H locs := Y
      have of : fp_o b n (va_up f a (ob 7 [.ref fo, .ref co, .ref qa, .int ac, .ref qt, .int tc, .ref kq, .int i2, .int dr])) fo (ob 4 [.ref q1, .ref q2, .int (nI kf)]) := fp_o.ne of ne_37
      have o1 : fp_o b n (va_up f a (ob 7 [.ref fo, .ref co, .ref qa, .int ac, .ref qt, .int tc, .ref kq, .int i2, .int dr])) q1 (aI g 16 z1) := fp_o.ne o1 ne_38
      have o2 : fp_o b n (va_up f a (ob 7 [.ref fo, .ref co, .ref qa, .int ac, .ref qt, .int tc, .ref kq, .int i2, .int dr])) q2 (aI g 16 z2) := fp_o.ne o2 ne_39
      have oc : fp_o b n (va_up f a (ob 7 [.ref fo, .ref co, .ref qa, .int ac, .ref qt, .int tc, .ref kq, .int i2, .int dr])) co (ob 1 [.ref qc]) := fp_o.ne oc ne_40
      have oqc : fp_o b n (va_up f a (ob 7 [.ref fo, .ref co, .ref qa, .int ac, .ref qt, .int tc, .ref kq, .int i2, .int dr])) qc (aI g 64 zc) := fp_o.ne oqc ne_41
      have od : fp_o b n (va_up f a (ob 7 [.ref fo, .ref co, .ref qa, .int ac, .ref qt, .int tc, .ref kq, .int i2, .int dr])) dq (ob 2 [.int (nI 5), .int x, .int y, .int z]) := fp_o.ne od ne_42
      have oa : fp_o b n (va_up f a (ob 7 [.ref fo, .ref co, .ref qa, .int ac, .ref qt, .int tc, .ref kq, .int i2, .int dr])) a (ob 7 [.ref fo, .ref co, .ref qa, .int ac, .ref qt, .int tc, .ref kq, .int i2, .int dr]) := fp_o.up oa
      refine lv_goto (tgt := 264) hx hb d_X_doOne_194 (by decide) ?_
      exact ret _ _ _ _ _ d_X_doOne_264 ⟨rfl, by simp only [q_put, q_do]; simp only [q_dat, if_neg c_183]; rw [va_up_same o2i.2.2, va_up_same oci.2.2]⟩ Y
    · refine lv_iload_n hx hb d_X_doOne_186 rfl (lv_at hl 2 rfl) ?_
      refine lv_goto (tgt := 191) hx hb d_X_doOne_187 (by decide) ?_
      refine fp_put X Y oa rfl in_X to_X nm_X 7 (by decide) w198 rfl rfl rfl (Nat.le_of_ble_eq_true rfl) d_X_doOne_191 (fun H locs Y => ?_)
      have ne_43 : fo ≠ a := (fp_o.nf of oa (by simp))
      have ne_44 : q1 ≠ a := (fp_o.nf o1 oa (by simp))
      have ne_45 : q2 ≠ a := (fp_o.nf o2 oa (by simp))
      have ne_46 : co ≠ a := (fp_o.nf oc oa (by simp))
      have ne_47 : qc ≠ a := (fp_o.nf oqc oa (by simp))
      have ne_48 : dq ≠ a := (fp_o.nf od oa (by simp))
      have Y : fp_H D b n A (va_up f a (ob 7 [.ref fo, .ref co, .ref qa, .int ac, .ref qt, .int tc, .ref kq, .int i1, .int dr])) s.heap H locs := Y
      have of : fp_o b n (va_up f a (ob 7 [.ref fo, .ref co, .ref qa, .int ac, .ref qt, .int tc, .ref kq, .int i1, .int dr])) fo (ob 4 [.ref q1, .ref q2, .int (nI kf)]) := fp_o.ne of ne_43
      have o1 : fp_o b n (va_up f a (ob 7 [.ref fo, .ref co, .ref qa, .int ac, .ref qt, .int tc, .ref kq, .int i1, .int dr])) q1 (aI g 16 z1) := fp_o.ne o1 ne_44
      have o2 : fp_o b n (va_up f a (ob 7 [.ref fo, .ref co, .ref qa, .int ac, .ref qt, .int tc, .ref kq, .int i1, .int dr])) q2 (aI g 16 z2) := fp_o.ne o2 ne_45
      have oc : fp_o b n (va_up f a (ob 7 [.ref fo, .ref co, .ref qa, .int ac, .ref qt, .int tc, .ref kq, .int i1, .int dr])) co (ob 1 [.ref qc]) := fp_o.ne oc ne_46
      have oqc : fp_o b n (va_up f a (ob 7 [.ref fo, .ref co, .ref qa, .int ac, .ref qt, .int tc, .ref kq, .int i1, .int dr])) qc (aI g 64 zc) := fp_o.ne oqc ne_47
      have od : fp_o b n (va_up f a (ob 7 [.ref fo, .ref co, .ref qa, .int ac, .ref qt, .int tc, .ref kq, .int i1, .int dr])) dq (ob 2 [.int (nI 5), .int x, .int y, .int z]) := fp_o.ne od ne_48
      have oa : fp_o b n (va_up f a (ob 7 [.ref fo, .ref co, .ref qa, .int ac, .ref qt, .int tc, .ref kq, .int i1, .int dr])) a (ob 7 [.ref fo, .ref co, .ref qa, .int ac, .ref qt, .int tc, .ref kq, .int i1, .int dr]) := fp_o.up oa
      refine lv_goto (tgt := 264) hx hb d_X_doOne_194 (by decide) ?_
      exact ret _ _ _ _ _ d_X_doOne_264 ⟨rfl, by simp only [q_put, q_do]; simp only [q_dat, if_pos c_183]; rw [va_up_same o2i.2.2, va_up_same oci.2.2]⟩ Y
  · subst h9
    refine lv_tableIn (tgt := 197) (off := 193) hx hb d_X_doOne_4 (by decide) (by decide) (by decide) (by decide) ?_
    refine lv_aload_n hx hb d_X_doOne_197 rfl (lv_at hl 0 rfl) ?_
    refine lv_iconst (v := 1) hx hb d_X_doOne_198 (by decide) ?_
    refine fp_put X Y oa rfl in_X to_X nm_X 8 (by decide) w199 rfl rfl rfl (Nat.le_of_ble_eq_true rfl) d_X_doOne_199 (fun H locs Y => ?_)
    have ne_49 : fo ≠ a := (fp_o.nf of oa (by simp))
    have ne_50 : q1 ≠ a := (fp_o.nf o1 oa (by simp))
    have ne_51 : q2 ≠ a := (fp_o.nf o2 oa (by simp))
    have ne_52 : co ≠ a := (fp_o.nf oc oa (by simp))
    have ne_53 : qc ≠ a := (fp_o.nf oqc oa (by simp))
    have ne_54 : dq ≠ a := (fp_o.nf od oa (by simp))
    have Y : fp_H D b n A (va_up f a (ob 7 [.ref fo, .ref co, .ref qa, .int ac, .ref qt, .int tc, .ref kq, .int po, .int 1])) s.heap H locs := Y
    have of : fp_o b n (va_up f a (ob 7 [.ref fo, .ref co, .ref qa, .int ac, .ref qt, .int tc, .ref kq, .int po, .int 1])) fo (ob 4 [.ref q1, .ref q2, .int (nI kf)]) := fp_o.ne of ne_49
    have o1 : fp_o b n (va_up f a (ob 7 [.ref fo, .ref co, .ref qa, .int ac, .ref qt, .int tc, .ref kq, .int po, .int 1])) q1 (aI g 16 z1) := fp_o.ne o1 ne_50
    have o2 : fp_o b n (va_up f a (ob 7 [.ref fo, .ref co, .ref qa, .int ac, .ref qt, .int tc, .ref kq, .int po, .int 1])) q2 (aI g 16 z2) := fp_o.ne o2 ne_51
    have oc : fp_o b n (va_up f a (ob 7 [.ref fo, .ref co, .ref qa, .int ac, .ref qt, .int tc, .ref kq, .int po, .int 1])) co (ob 1 [.ref qc]) := fp_o.ne oc ne_52
    have oqc : fp_o b n (va_up f a (ob 7 [.ref fo, .ref co, .ref qa, .int ac, .ref qt, .int tc, .ref kq, .int po, .int 1])) qc (aI g 64 zc) := fp_o.ne oqc ne_53
    have od : fp_o b n (va_up f a (ob 7 [.ref fo, .ref co, .ref qa, .int ac, .ref qt, .int tc, .ref kq, .int po, .int 1])) dq (ob 2 [.int (nI 6), .int x, .int y, .int z]) := fp_o.ne od ne_54
    have oa : fp_o b n (va_up f a (ob 7 [.ref fo, .ref co, .ref qa, .int ac, .ref qt, .int tc, .ref kq, .int po, .int 1])) a (ob 7 [.ref fo, .ref co, .ref qa, .int ac, .ref qt, .int tc, .ref kq, .int po, .int 1]) := fp_o.up oa
    refine lv_goto (tgt := 264) hx hb d_X_doOne_202 (by decide) ?_
    exact ret _ _ _ _ _ d_X_doOne_264 ⟨rfl, by simp only [q_put, q_do]; rw [va_up_same o2i.2.2, va_up_same oci.2.2]⟩ Y
  · subst h9
    refine lv_tableIn (tgt := 205) (off := 201) hx hb d_X_doOne_4 (by decide) (by decide) (by decide) (by decide) ?_
    refine lv_aload_n hx hb d_X_doOne_205 rfl (lv_at hl 0 rfl) ?_
    refine fp_get X Y oa rfl in_X 1 (by decide) w192 rfl d_X_doOne_206 ?_
    refine lv_aload_n hx hb d_X_doOne_209 rfl (lv_at hl 1 rfl) ?_
    refine fp_getN X Y od rfl in_D 1 (by decide) nw96 rfl d_X_doOne_210 ?_
    refine lv_aload_n hx hb d_X_doOne_213 rfl (lv_at hl 0 rfl) ?_
    refine lv_aload_n hx hb d_X_doOne_214 rfl (lv_at hl 1 rfl) ?_
    refine fp_getN X Y od rfl in_D 2 (by decide) nw98 rfl d_X_doOne_215 ?_
    refine fp_callV (nA := 1) (As := [.int y]) (rest := [.int x, .ref co]) X Y (c_X_wordNumber y hk oa of o1 o2) oa rfl w587 w584 w586 wp14 w1 (by decide +kernel) ⟨rfl, rfl⟩ ⟨Nat.le_of_ble_eq_true rfl, Nat.le_of_ble_eq_true rfl⟩ rfl hl.1 rfl (Nat.le_of_ble_eq_true rfl) d_X_doOne_218 ⟨Nat.zero_le _, Nat.zero_le _⟩ (fun v9 f9 H locs hp9 Y => ?_)
    obtain ⟨e8, e9⟩ := hp9
    subst e8
    rw [e9] at Y
    refine W.eq (g2 := F0 m 221 ls [.int (q_fm (q_at z2 y (nI kf))), .int x, .ref co]) rfl ?_
    refine lv_aload_n hx hb d_X_doOne_221 rfl (lv_at hl 1 rfl) ?_
    refine fp_getN X Y od rfl in_D 3 (by decide) nw100 rfl d_X_doOne_222 ?_
    refine fp_callV (nA := 3) (As := [.int x, .int (q_fm (q_at z2 y (nI kf))), .int z]) (rest := []) X Y (c_C_grow x (q_fm (q_at z2 y (nI kf))) z oc oqc) oc rfl w594 w591 w592 w593 w3 (by decide +kernel) ⟨rfl, rfl⟩ ⟨Nat.le_of_ble_eq_true rfl, Nat.le_of_ble_eq_true rfl⟩ rfl hl.1 rfl (Nat.le_of_ble_eq_true rfl) d_X_doOne_225 ⟨Nat.zero_le _, Nat.zero_le _⟩ (fun v9 f9 H locs hp9 Y => ?_)
    obtain ⟨e8, e9⟩ := hp9
    subst e8
    rw [e9] at Y
    have ne_55 : a ≠ qc := (fp_o.nf oa oqc (by simp))
    have ne_56 : fo ≠ qc := (fp_o.nf of oqc (by simp))
    have ne_57 : q1 ≠ qc := n2
    have ne_58 : q2 ≠ qc := n3
    have ne_59 : co ≠ qc := (fp_o.nf oc oqc (by simp))
    have ne_60 : dq ≠ qc := (fp_o.nf od oqc (by simp))
    have Y : fp_H D b n A (va_up f qc (aI g 64 (q_cg zc x (q_fm (q_at z2 y (nI kf))) z))) s.heap H locs := Y
    have oa : fp_o b n (va_up f qc (aI g 64 (q_cg zc x (q_fm (q_at z2 y (nI kf))) z))) a (ob 7 [.ref fo, .ref co, .ref qa, .int ac, .ref qt, .int tc, .ref kq, .int po, .int dr]) := fp_o.ne oa ne_55
    have of : fp_o b n (va_up f qc (aI g 64 (q_cg zc x (q_fm (q_at z2 y (nI kf))) z))) fo (ob 4 [.ref q1, .ref q2, .int (nI kf)]) := fp_o.ne of ne_56
    have o1 : fp_o b n (va_up f qc (aI g 64 (q_cg zc x (q_fm (q_at z2 y (nI kf))) z))) q1 (aI g 16 z1) := fp_o.ne o1 ne_57
    have o2 : fp_o b n (va_up f qc (aI g 64 (q_cg zc x (q_fm (q_at z2 y (nI kf))) z))) q2 (aI g 16 z2) := fp_o.ne o2 ne_58
    have oc : fp_o b n (va_up f qc (aI g 64 (q_cg zc x (q_fm (q_at z2 y (nI kf))) z))) co (ob 1 [.ref qc]) := fp_o.ne oc ne_59
    have od : fp_o b n (va_up f qc (aI g 64 (q_cg zc x (q_fm (q_at z2 y (nI kf))) z))) dq (ob 2 [.int (nI 7), .int x, .int y, .int z]) := fp_o.ne od ne_60
    have oqc : fp_o b n (va_up f qc (aI g 64 (q_cg zc x (q_fm (q_at z2 y (nI kf))) z))) qc (aI g 64 (q_cg zc x (q_fm (q_at z2 y (nI kf))) z)) := fp_o.up oqc
    refine W.eq (g2 := F0 m 228 ls []) rfl ?_
    refine lv_goto (tgt := 264) hx hb d_X_doOne_228 (by decide) ?_
    exact ret _ _ _ _ _ d_X_doOne_264 ⟨rfl, by simp only [q_put, q_do]; rw [va_up_same o2i.2.2, va_up_same oa.2.2]⟩ Y
  · subst h9
    refine lv_tableIn (tgt := 231) (off := 227) hx hb d_X_doOne_4 (by decide) (by decide) (by decide) (by decide) ?_
    refine lv_aload_n hx hb d_X_doOne_231 rfl (lv_at hl 0 rfl) ?_
    refine fp_get X Y oa rfl in_X 0 (by decide) w191 rfl d_X_doOne_232 ?_
    refine lv_aload_n hx hb d_X_doOne_235 rfl (lv_at hl 1 rfl) ?_
    refine fp_getN X Y od rfl in_D 1 (by decide) nw96 rfl d_X_doOne_236 ?_
    refine lv_aload_n hx hb d_X_doOne_239 rfl (lv_at hl 0 rfl) ?_
    refine fp_get X Y oa rfl in_X 1 (by decide) w192 rfl d_X_doOne_240 ?_
    refine lv_aload_n hx hb d_X_doOne_243 rfl (lv_at hl 1 rfl) ?_
    refine fp_getN X Y od rfl in_D 3 (by decide) nw100 rfl d_X_doOne_244 ?_
    refine lv_aload_n hx hb d_X_doOne_247 rfl (lv_at hl 0 rfl) ?_
    refine lv_aload_n hx hb d_X_doOne_248 rfl (lv_at hl 1 rfl) ?_
    refine fp_getN X Y od rfl in_D 2 (by decide) nw98 rfl d_X_doOne_249 ?_
    refine fp_callV (nA := 1) (As := [.int y]) (rest := [.int z, .ref co, .int x, .ref fo]) X Y (c_X_wordNumber y hk oa of o1 o2) oa rfl w587 w584 w586 wp14 w1 (by decide +kernel) ⟨rfl, rfl⟩ ⟨Nat.le_of_ble_eq_true rfl, Nat.le_of_ble_eq_true rfl⟩ rfl hl.1 rfl (Nat.le_of_ble_eq_true rfl) d_X_doOne_252 ⟨Nat.zero_le _, Nat.zero_le _⟩ (fun v9 f9 H locs hp9 Y => ?_)
    obtain ⟨e8, e9⟩ := hp9
    subst e8
    rw [e9] at Y
    refine W.eq (g2 := F0 m 255 ls [.int (q_fm (q_at z2 y (nI kf))), .int z, .ref co, .int x, .ref fo]) rfl ?_
    refine fp_callV (nA := 2) (As := [.int z, .int (q_fm (q_at z2 y (nI kf)))]) (rest := [.int x, .ref fo]) X Y (c_C_read z (q_fm (q_at z2 y (nI kf))) oc oqc) oc rfl w300 w297 w298 w299 w3 (by decide +kernel) ⟨rfl, rfl⟩ ⟨Nat.le_of_ble_eq_true rfl, Nat.le_of_ble_eq_true rfl⟩ rfl hl.1 rfl (Nat.le_of_ble_eq_true rfl) d_X_doOne_255 ⟨Nat.zero_le _, Nat.zero_le _⟩ (fun v9 f9 H locs hp9 Y => ?_)
    obtain ⟨e8, e9⟩ := hp9
    subst e8
    rw [e9] at Y
    refine W.eq (g2 := F0 m 258 ls [.int (q_cr zc z (q_fm (q_at z2 y (nI kf)))), .int x, .ref fo]) rfl ?_
    refine fp_callV (nA := 2) (As := [.int x, .int (q_cr zc z (q_fm (q_at z2 y (nI kf))))]) (rest := []) X Y (c_F_write x (q_cr zc z (q_fm (q_at z2 y (nI kf)))) hk of o1 o2 hne) of rfl w441 w438 w439 w440 w2 (by decide +kernel) ⟨rfl, rfl⟩ ⟨Nat.le_of_ble_eq_true rfl, Nat.le_of_ble_eq_true rfl⟩ rfl hl.1 rfl (Nat.le_of_ble_eq_true rfl) d_X_doOne_258 ⟨Nat.zero_le _, Nat.zero_le _⟩ (fun v9 f9 H locs hp9 Y => ?_)
    obtain ⟨e8, e9⟩ := hp9
    subst e8
    rw [e9] at Y
    have ne_61 : a ≠ q2 := (fp_o.nf oa o2 (by simp))
    have ne_62 : fo ≠ q2 := (fp_o.nf of o2 (by simp))
    have ne_63 : q1 ≠ q2 := hne
    have ne_64 : co ≠ q2 := (fp_o.nf oc o2 (by simp))
    have ne_65 : qc ≠ q2 := (Ne.symm n3)
    have ne_66 : dq ≠ q2 := (fp_o.nf od o2 (by simp))
    have Y : fp_H D b n A (va_up f q2 (aI g 16 (q_wr z1 z2 x (nI kf) (q_cr zc z (q_fm (q_at z2 y (nI kf))))))) s.heap H locs := Y
    have oa : fp_o b n (va_up f q2 (aI g 16 (q_wr z1 z2 x (nI kf) (q_cr zc z (q_fm (q_at z2 y (nI kf))))))) a (ob 7 [.ref fo, .ref co, .ref qa, .int ac, .ref qt, .int tc, .ref kq, .int po, .int dr]) := fp_o.ne oa ne_61
    have of : fp_o b n (va_up f q2 (aI g 16 (q_wr z1 z2 x (nI kf) (q_cr zc z (q_fm (q_at z2 y (nI kf))))))) fo (ob 4 [.ref q1, .ref q2, .int (nI kf)]) := fp_o.ne of ne_62
    have o1 : fp_o b n (va_up f q2 (aI g 16 (q_wr z1 z2 x (nI kf) (q_cr zc z (q_fm (q_at z2 y (nI kf))))))) q1 (aI g 16 z1) := fp_o.ne o1 ne_63
    have oc : fp_o b n (va_up f q2 (aI g 16 (q_wr z1 z2 x (nI kf) (q_cr zc z (q_fm (q_at z2 y (nI kf))))))) co (ob 1 [.ref qc]) := fp_o.ne oc ne_64
    have oqc : fp_o b n (va_up f q2 (aI g 16 (q_wr z1 z2 x (nI kf) (q_cr zc z (q_fm (q_at z2 y (nI kf))))))) qc (aI g 64 zc) := fp_o.ne oqc ne_65
    have od : fp_o b n (va_up f q2 (aI g 16 (q_wr z1 z2 x (nI kf) (q_cr zc z (q_fm (q_at z2 y (nI kf))))))) dq (ob 2 [.int (nI 8), .int x, .int y, .int z]) := fp_o.ne od ne_66
    have o2 : fp_o b n (va_up f q2 (aI g 16 (q_wr z1 z2 x (nI kf) (q_cr zc z (q_fm (q_at z2 y (nI kf))))))) q2 (aI g 16 (q_wr z1 z2 x (nI kf) (q_cr zc z (q_fm (q_at z2 y (nI kf)))))) := fp_o.up o2
    refine W.eq (g2 := F0 m 261 ls []) rfl ?_
    refine lv_goto (tgt := 264) hx hb d_X_doOne_261 (by decide) ?_
    exact ret _ _ _ _ _ d_X_doOne_264 ⟨rfl, by simp only [q_put, q_do]; rw [va_up_same oqc.2.2, va_up_same oa.2.2]⟩ Y
set_option maxHeartbeats 4000000 in
set_option maxRecDepth 100000 in
theorem c_X_doAction {l : Launch} {D : va_G} {g : Nat → ClassId} {b n : Nat} {A : Nat → Prop} {f : Nat → va_E} {a fo co qa qt kq acn : Nat} {tc po dr : Int32} {q1 q2 kf : Nat} {z1 z2 : Nat → Int32} {qc : Nat} {zc : Nat → Int32} {ax dq aj dn : Nat} {za zd : Nat → Option Nat} {da dk : Nat → Nat} {dx dy dz : Nat → Int32} (i1 i2 : Int32) (hk : kf ≤ 16) (haj : aj < acn) (hac : acn ≤ 16) (hza : za aj = some ax) (hdn : dn ≤ 4) (hz : ∀ i : Nat, i < dn → zd i = some (da i)) (hdk : ∀ i : Nat, i < dn → dk i < 9) (oa : fp_o b n f a (ob 7 [.ref fo, .ref co, .ref qa, .int (nI acn), .ref qt, .int tc, .ref kq, .int po, .int dr])) (of : fp_o b n f fo (ob 4 [.ref q1, .ref q2, .int (nI kf)])) (o1 : fp_o b n f q1 (aI g 16 z1)) (o2 : fp_o b n f q2 (aI g 16 z2)) (oc : fp_o b n f co (ob 1 [.ref qc])) (oqc : fp_o b n f qc (aI g 64 zc)) (oqa : fp_o b n f qa (aR g 1 16 za)) (oax : fp_o b n f ax (ob 0 [.ref dq, .int (nI dn)])) (odq : fp_o b n f dq (aR g 2 4 zd)) (hd : ∀ i9 : Nat, i9 < dn → fp_o b n f (da i9) (ob 2 [.int (nI (dk i9)), .int (dx i9), .int (dy i9), .int (dz i9)])) (hne : q1 ≠ q2) (n2 : q1 ≠ qc) (n3 : q2 ≠ qc) (hA : fp_W b n A := by assumption) : fp_M l D (TY g) b n A y_X_doAction (fp_ws y_X_doAction b_X_doAction 6 none) (rmD 4) [.ref a, .int (nI aj), .int i1, .int i2] f (fun v f' => v = none ∧ f' = q_put g f q2 qc a fo co qa qt kq (nI acn) tc (q_run (nI kf) z1 dk dx dy dz i1 i2 (z2, zc, po, dr) dn)) := by
  refine fp_ofV (plainFor_of_name (by decide)) (Nat.le_of_ble_eq_true rfl) ?_
  intro p e s m args below meth c Q ls H locs X Y hl ret
  have hx := X.1.1
  have hb := X.1.2.1
  have hl : lv_has ls 6 [(0, .ref a), (1, .int (nI aj)), (2, .int i1), (3, .int i2)] := hl
  refine lv_aload_n hx hb d_X_doAction_0 rfl (lv_at hl 0 rfl) ?_
  refine lv_iload_n hx hb d_X_doAction_1 rfl (lv_at hl 1 rfl) ?_
  refine fp_callV (nA := 1) (As := [.int (nI aj)]) (rest := []) X Y (c_X_isAction (nI aj) oa) oa rfl w465 w462 w464 wp4 w1 (by decide +kernel) ⟨rfl, rfl⟩ ⟨Nat.le_of_ble_eq_true rfl, Nat.le_of_ble_eq_true rfl⟩ rfl hl.1 rfl (Nat.le_of_ble_eq_true rfl) d_X_doAction_2 ⟨Nat.zero_le _, Nat.zero_le _⟩ (fun v9 f9 H locs hp9 Y => ?_)
  obtain ⟨e8, e9⟩ := hp9
  subst e8
  rw [e9] at Y
  refine W.eq (g2 := F0 m 5 ls [.int (q_in (nI aj) (nI acn))]) rfl ?_
  refine lv_if_ne (tgt := 9) hx hb d_X_doAction_5 (by decide) (fun c_5 => ?_) (fun c_5 => absurd c_5 (by rw [q_in_lt haj (by omega)]; decide))
  refine lv_aload_n hx hb d_X_doAction_9 rfl (lv_at hl 0 rfl) ?_
  refine fp_get X Y oa rfl in_X 2 (by decide) w193 rfl d_X_doAction_10 ?_
  refine lv_iload_n hx hb d_X_doAction_13 rfl (lv_at hl 1 rfl) ?_
  refine fp_ald 1 rfl X Y oqa aj rfl (by omega) (by decide) hza d_X_doAction_14 ?_
  refine lv_astore (lv' := [(4, .ref ax), (0, .ref a), (1, .int (nI aj)), (2, .int i1), (3, .int i2)]) hx hb d_X_doAction_15 hl (by decide) rfl (fun ls hl => ?_)
  refine lv_iconst (v := 0) hx hb d_X_doAction_17 (by decide) ?_
  refine lv_istore (lv' := [(5, .int 0), (4, .ref ax), (0, .ref a), (1, .int (nI aj)), (2, .int i1), (3, .int i2)]) hx hb d_X_doAction_18 hl (by decide) rfl (fun ls hl => ?_)
  have loop : ∀ (k i : Nat), k + i = dn → ∀ (H : Heap) (locs : List Loc), fp_H D b n A (q_put g f q2 qc a fo co qa qt kq (nI acn) tc (q_run (nI kf) z1 dk dx dy dz i1 i2 (z2, zc, po, dr) i)) s.heap H locs → ∀ (ls : Array Slot), lv_has ls 6 [(5, .int (nI i)), (4, .ref ax), (3, .int i2), (2, .int i1), (1, .int (nI aj)), (0, .ref a)] → W p l e (rmD 4) s m args below meth c H locs 0 0 Q (F0 m 20 ls []) := by
    intro k
    induction k with
    | zero =>
      intro i hi H locs Y ls hl
      have e0 : i = dn := by omega
      rw [e0] at Y hl
      have n4 : q2 ≠ a := fp_o.nf o2 oa (by simp)
      have n5 : qc ≠ a := fp_o.nf oqc oa (by simp)
      have Y9 := Y
      have ne_1 : a ≠ q2 := (fp_o.nf oa o2 (by simp))
      have ne_2 : fo ≠ q2 := (fp_o.nf of o2 (by simp))
      have ne_3 : q1 ≠ q2 := hne
      have ne_4 : co ≠ q2 := (fp_o.nf oc o2 (by simp))
      have ne_5 : qc ≠ q2 := (Ne.symm n3)
      have ne_6 : qa ≠ q2 := (fp_o.nf oqa o2 (by simp))
      have ne_7 : ax ≠ q2 := (fp_o.nf oax o2 (by simp))
      have ne_8 : dq ≠ q2 := (fp_o.nf odq o2 (by simp))
      have oa : fp_o b n (va_up f q2 (aI g 16 (q_run (nI kf) z1 dk dx dy dz i1 i2 (z2, zc, po, dr) dn).1)) a (ob 7 [.ref fo, .ref co, .ref qa, .int (nI acn), .ref qt, .int tc, .ref kq, .int po, .int dr]) := fp_o.ne oa ne_1
      have of : fp_o b n (va_up f q2 (aI g 16 (q_run (nI kf) z1 dk dx dy dz i1 i2 (z2, zc, po, dr) dn).1)) fo (ob 4 [.ref q1, .ref q2, .int (nI kf)]) := fp_o.ne of ne_2
      have o1 : fp_o b n (va_up f q2 (aI g 16 (q_run (nI kf) z1 dk dx dy dz i1 i2 (z2, zc, po, dr) dn).1)) q1 (aI g 16 z1) := fp_o.ne o1 ne_3
      have oc : fp_o b n (va_up f q2 (aI g 16 (q_run (nI kf) z1 dk dx dy dz i1 i2 (z2, zc, po, dr) dn).1)) co (ob 1 [.ref qc]) := fp_o.ne oc ne_4
      have oqc : fp_o b n (va_up f q2 (aI g 16 (q_run (nI kf) z1 dk dx dy dz i1 i2 (z2, zc, po, dr) dn).1)) qc (aI g 64 zc) := fp_o.ne oqc ne_5
      have oqa : fp_o b n (va_up f q2 (aI g 16 (q_run (nI kf) z1 dk dx dy dz i1 i2 (z2, zc, po, dr) dn).1)) qa (aR g 1 16 za) := fp_o.ne oqa ne_6
      have oax : fp_o b n (va_up f q2 (aI g 16 (q_run (nI kf) z1 dk dx dy dz i1 i2 (z2, zc, po, dr) dn).1)) ax (ob 0 [.ref dq, .int (nI dn)]) := fp_o.ne oax ne_7
      have odq : fp_o b n (va_up f q2 (aI g 16 (q_run (nI kf) z1 dk dx dy dz i1 i2 (z2, zc, po, dr) dn).1)) dq (aR g 2 4 zd) := fp_o.ne odq ne_8
      have hd : ∀ i9 : Nat, i9 < dn → fp_o b n (va_up f q2 (aI g 16 (q_run (nI kf) z1 dk dx dy dz i1 i2 (z2, zc, po, dr) dn).1)) (da i9) (ob 2 [.int (nI (dk i9)), .int (dx i9), .int (dy i9), .int (dz i9)]) := fun i9 hi9 => fp_o.ne (hd i9 hi9) (fp_o.nf (hd i9 hi9) o2 (by simp))
      have o2 : fp_o b n (va_up f q2 (aI g 16 (q_run (nI kf) z1 dk dx dy dz i1 i2 (z2, zc, po, dr) dn).1)) q2 (aI g 16 (q_run (nI kf) z1 dk dx dy dz i1 i2 (z2, zc, po, dr) dn).1) := fp_o.up o2
      have ne_9 : a ≠ qc := (fp_o.nf oa oqc (by simp))
      have ne_10 : fo ≠ qc := (fp_o.nf of oqc (by simp))
      have ne_11 : q1 ≠ qc := n2
      have ne_12 : q2 ≠ qc := n3
      have ne_13 : co ≠ qc := (fp_o.nf oc oqc (by simp))
      have ne_14 : qa ≠ qc := (fp_o.nf oqa oqc (by simp))
      have ne_15 : ax ≠ qc := (fp_o.nf oax oqc (by simp))
      have ne_16 : dq ≠ qc := (fp_o.nf odq oqc (by simp))
      have oa : fp_o b n (va_up (va_up f q2 (aI g 16 (q_run (nI kf) z1 dk dx dy dz i1 i2 (z2, zc, po, dr) dn).1)) qc (aI g 64 (q_run (nI kf) z1 dk dx dy dz i1 i2 (z2, zc, po, dr) dn).2.1)) a (ob 7 [.ref fo, .ref co, .ref qa, .int (nI acn), .ref qt, .int tc, .ref kq, .int po, .int dr]) := fp_o.ne oa ne_9
      have of : fp_o b n (va_up (va_up f q2 (aI g 16 (q_run (nI kf) z1 dk dx dy dz i1 i2 (z2, zc, po, dr) dn).1)) qc (aI g 64 (q_run (nI kf) z1 dk dx dy dz i1 i2 (z2, zc, po, dr) dn).2.1)) fo (ob 4 [.ref q1, .ref q2, .int (nI kf)]) := fp_o.ne of ne_10
      have o1 : fp_o b n (va_up (va_up f q2 (aI g 16 (q_run (nI kf) z1 dk dx dy dz i1 i2 (z2, zc, po, dr) dn).1)) qc (aI g 64 (q_run (nI kf) z1 dk dx dy dz i1 i2 (z2, zc, po, dr) dn).2.1)) q1 (aI g 16 z1) := fp_o.ne o1 ne_11
      have o2 : fp_o b n (va_up (va_up f q2 (aI g 16 (q_run (nI kf) z1 dk dx dy dz i1 i2 (z2, zc, po, dr) dn).1)) qc (aI g 64 (q_run (nI kf) z1 dk dx dy dz i1 i2 (z2, zc, po, dr) dn).2.1)) q2 (aI g 16 ((q_run (nI kf) z1 dk dx dy dz i1 i2 (z2, zc, po, dr) dn).1)) := fp_o.ne o2 ne_12
      have oc : fp_o b n (va_up (va_up f q2 (aI g 16 (q_run (nI kf) z1 dk dx dy dz i1 i2 (z2, zc, po, dr) dn).1)) qc (aI g 64 (q_run (nI kf) z1 dk dx dy dz i1 i2 (z2, zc, po, dr) dn).2.1)) co (ob 1 [.ref qc]) := fp_o.ne oc ne_13
      have oqa : fp_o b n (va_up (va_up f q2 (aI g 16 (q_run (nI kf) z1 dk dx dy dz i1 i2 (z2, zc, po, dr) dn).1)) qc (aI g 64 (q_run (nI kf) z1 dk dx dy dz i1 i2 (z2, zc, po, dr) dn).2.1)) qa (aR g 1 16 za) := fp_o.ne oqa ne_14
      have oax : fp_o b n (va_up (va_up f q2 (aI g 16 (q_run (nI kf) z1 dk dx dy dz i1 i2 (z2, zc, po, dr) dn).1)) qc (aI g 64 (q_run (nI kf) z1 dk dx dy dz i1 i2 (z2, zc, po, dr) dn).2.1)) ax (ob 0 [.ref dq, .int (nI dn)]) := fp_o.ne oax ne_15
      have odq : fp_o b n (va_up (va_up f q2 (aI g 16 (q_run (nI kf) z1 dk dx dy dz i1 i2 (z2, zc, po, dr) dn).1)) qc (aI g 64 (q_run (nI kf) z1 dk dx dy dz i1 i2 (z2, zc, po, dr) dn).2.1)) dq (aR g 2 4 zd) := fp_o.ne odq ne_16
      have hd : ∀ i9 : Nat, i9 < dn → fp_o b n (va_up (va_up f q2 (aI g 16 (q_run (nI kf) z1 dk dx dy dz i1 i2 (z2, zc, po, dr) dn).1)) qc (aI g 64 (q_run (nI kf) z1 dk dx dy dz i1 i2 (z2, zc, po, dr) dn).2.1)) (da i9) (ob 2 [.int (nI (dk i9)), .int (dx i9), .int (dy i9), .int (dz i9)]) := fun i9 hi9 => fp_o.ne (hd i9 hi9) (fp_o.nf (hd i9 hi9) oqc (by simp))
      have oqc : fp_o b n (va_up (va_up f q2 (aI g 16 (q_run (nI kf) z1 dk dx dy dz i1 i2 (z2, zc, po, dr) dn).1)) qc (aI g 64 (q_run (nI kf) z1 dk dx dy dz i1 i2 (z2, zc, po, dr) dn).2.1)) qc (aI g 64 (q_run (nI kf) z1 dk dx dy dz i1 i2 (z2, zc, po, dr) dn).2.1) := fp_o.up oqc
      have ne_17 : fo ≠ a := (fp_o.nf of oa (by simp))
      have ne_18 : q1 ≠ a := (fp_o.nf o1 oa (by simp))
      have ne_19 : q2 ≠ a := (fp_o.nf o2 oa (by simp))
      have ne_20 : co ≠ a := (fp_o.nf oc oa (by simp))
      have ne_21 : qc ≠ a := (fp_o.nf oqc oa (by simp))
      have ne_22 : qa ≠ a := (fp_o.nf oqa oa (by simp))
      have ne_23 : ax ≠ a := (fp_o.nf oax oa (by simp))
      have ne_24 : dq ≠ a := (fp_o.nf odq oa (by simp))
      have of : fp_o b n (va_up (va_up (va_up f q2 (aI g 16 (q_run (nI kf) z1 dk dx dy dz i1 i2 (z2, zc, po, dr) dn).1)) qc (aI g 64 (q_run (nI kf) z1 dk dx dy dz i1 i2 (z2, zc, po, dr) dn).2.1)) a (ob 7 [.ref fo, .ref co, .ref qa, .int (nI acn), .ref qt, .int tc, .ref kq, .int ((q_run (nI kf) z1 dk dx dy dz i1 i2 (z2, zc, po, dr) dn).2.2.1), .int ((q_run (nI kf) z1 dk dx dy dz i1 i2 (z2, zc, po, dr) dn).2.2.2)])) fo (ob 4 [.ref q1, .ref q2, .int (nI kf)]) := fp_o.ne of ne_17
      have o1 : fp_o b n (va_up (va_up (va_up f q2 (aI g 16 (q_run (nI kf) z1 dk dx dy dz i1 i2 (z2, zc, po, dr) dn).1)) qc (aI g 64 (q_run (nI kf) z1 dk dx dy dz i1 i2 (z2, zc, po, dr) dn).2.1)) a (ob 7 [.ref fo, .ref co, .ref qa, .int (nI acn), .ref qt, .int tc, .ref kq, .int ((q_run (nI kf) z1 dk dx dy dz i1 i2 (z2, zc, po, dr) dn).2.2.1), .int ((q_run (nI kf) z1 dk dx dy dz i1 i2 (z2, zc, po, dr) dn).2.2.2)])) q1 (aI g 16 z1) := fp_o.ne o1 ne_18
      have o2 : fp_o b n (va_up (va_up (va_up f q2 (aI g 16 (q_run (nI kf) z1 dk dx dy dz i1 i2 (z2, zc, po, dr) dn).1)) qc (aI g 64 (q_run (nI kf) z1 dk dx dy dz i1 i2 (z2, zc, po, dr) dn).2.1)) a (ob 7 [.ref fo, .ref co, .ref qa, .int (nI acn), .ref qt, .int tc, .ref kq, .int ((q_run (nI kf) z1 dk dx dy dz i1 i2 (z2, zc, po, dr) dn).2.2.1), .int ((q_run (nI kf) z1 dk dx dy dz i1 i2 (z2, zc, po, dr) dn).2.2.2)])) q2 (aI g 16 ((q_run (nI kf) z1 dk dx dy dz i1 i2 (z2, zc, po, dr) dn).1)) := fp_o.ne o2 ne_19
      have oc : fp_o b n (va_up (va_up (va_up f q2 (aI g 16 (q_run (nI kf) z1 dk dx dy dz i1 i2 (z2, zc, po, dr) dn).1)) qc (aI g 64 (q_run (nI kf) z1 dk dx dy dz i1 i2 (z2, zc, po, dr) dn).2.1)) a (ob 7 [.ref fo, .ref co, .ref qa, .int (nI acn), .ref qt, .int tc, .ref kq, .int ((q_run (nI kf) z1 dk dx dy dz i1 i2 (z2, zc, po, dr) dn).2.2.1), .int ((q_run (nI kf) z1 dk dx dy dz i1 i2 (z2, zc, po, dr) dn).2.2.2)])) co (ob 1 [.ref qc]) := fp_o.ne oc ne_20
      have oqc : fp_o b n (va_up (va_up (va_up f q2 (aI g 16 (q_run (nI kf) z1 dk dx dy dz i1 i2 (z2, zc, po, dr) dn).1)) qc (aI g 64 (q_run (nI kf) z1 dk dx dy dz i1 i2 (z2, zc, po, dr) dn).2.1)) a (ob 7 [.ref fo, .ref co, .ref qa, .int (nI acn), .ref qt, .int tc, .ref kq, .int ((q_run (nI kf) z1 dk dx dy dz i1 i2 (z2, zc, po, dr) dn).2.2.1), .int ((q_run (nI kf) z1 dk dx dy dz i1 i2 (z2, zc, po, dr) dn).2.2.2)])) qc (aI g 64 ((q_run (nI kf) z1 dk dx dy dz i1 i2 (z2, zc, po, dr) dn).2.1)) := fp_o.ne oqc ne_21
      have oqa : fp_o b n (va_up (va_up (va_up f q2 (aI g 16 (q_run (nI kf) z1 dk dx dy dz i1 i2 (z2, zc, po, dr) dn).1)) qc (aI g 64 (q_run (nI kf) z1 dk dx dy dz i1 i2 (z2, zc, po, dr) dn).2.1)) a (ob 7 [.ref fo, .ref co, .ref qa, .int (nI acn), .ref qt, .int tc, .ref kq, .int ((q_run (nI kf) z1 dk dx dy dz i1 i2 (z2, zc, po, dr) dn).2.2.1), .int ((q_run (nI kf) z1 dk dx dy dz i1 i2 (z2, zc, po, dr) dn).2.2.2)])) qa (aR g 1 16 za) := fp_o.ne oqa ne_22
      have oax : fp_o b n (va_up (va_up (va_up f q2 (aI g 16 (q_run (nI kf) z1 dk dx dy dz i1 i2 (z2, zc, po, dr) dn).1)) qc (aI g 64 (q_run (nI kf) z1 dk dx dy dz i1 i2 (z2, zc, po, dr) dn).2.1)) a (ob 7 [.ref fo, .ref co, .ref qa, .int (nI acn), .ref qt, .int tc, .ref kq, .int ((q_run (nI kf) z1 dk dx dy dz i1 i2 (z2, zc, po, dr) dn).2.2.1), .int ((q_run (nI kf) z1 dk dx dy dz i1 i2 (z2, zc, po, dr) dn).2.2.2)])) ax (ob 0 [.ref dq, .int (nI dn)]) := fp_o.ne oax ne_23
      have odq : fp_o b n (va_up (va_up (va_up f q2 (aI g 16 (q_run (nI kf) z1 dk dx dy dz i1 i2 (z2, zc, po, dr) dn).1)) qc (aI g 64 (q_run (nI kf) z1 dk dx dy dz i1 i2 (z2, zc, po, dr) dn).2.1)) a (ob 7 [.ref fo, .ref co, .ref qa, .int (nI acn), .ref qt, .int tc, .ref kq, .int ((q_run (nI kf) z1 dk dx dy dz i1 i2 (z2, zc, po, dr) dn).2.2.1), .int ((q_run (nI kf) z1 dk dx dy dz i1 i2 (z2, zc, po, dr) dn).2.2.2)])) dq (aR g 2 4 zd) := fp_o.ne odq ne_24
      have hd : ∀ i9 : Nat, i9 < dn → fp_o b n (va_up (va_up (va_up f q2 (aI g 16 (q_run (nI kf) z1 dk dx dy dz i1 i2 (z2, zc, po, dr) dn).1)) qc (aI g 64 (q_run (nI kf) z1 dk dx dy dz i1 i2 (z2, zc, po, dr) dn).2.1)) a (ob 7 [.ref fo, .ref co, .ref qa, .int (nI acn), .ref qt, .int tc, .ref kq, .int ((q_run (nI kf) z1 dk dx dy dz i1 i2 (z2, zc, po, dr) dn).2.2.1), .int ((q_run (nI kf) z1 dk dx dy dz i1 i2 (z2, zc, po, dr) dn).2.2.2)])) (da i9) (ob 2 [.int (nI (dk i9)), .int (dx i9), .int (dy i9), .int (dz i9)]) := fun i9 hi9 => fp_o.ne (hd i9 hi9) (fp_o.nf (hd i9 hi9) oa (by simp))
      have oa : fp_o b n (va_up (va_up (va_up f q2 (aI g 16 (q_run (nI kf) z1 dk dx dy dz i1 i2 (z2, zc, po, dr) dn).1)) qc (aI g 64 (q_run (nI kf) z1 dk dx dy dz i1 i2 (z2, zc, po, dr) dn).2.1)) a (ob 7 [.ref fo, .ref co, .ref qa, .int (nI acn), .ref qt, .int tc, .ref kq, .int ((q_run (nI kf) z1 dk dx dy dz i1 i2 (z2, zc, po, dr) dn).2.2.1), .int ((q_run (nI kf) z1 dk dx dy dz i1 i2 (z2, zc, po, dr) dn).2.2.2)])) a (ob 7 [.ref fo, .ref co, .ref qa, .int (nI acn), .ref qt, .int tc, .ref kq, .int ((q_run (nI kf) z1 dk dx dy dz i1 i2 (z2, zc, po, dr) dn).2.2.1), .int ((q_run (nI kf) z1 dk dx dy dz i1 i2 (z2, zc, po, dr) dn).2.2.2)]) := fp_o.up oa
      have Y : fp_H D b n A (va_up (va_up (va_up f q2 (aI g 16 (q_run (nI kf) z1 dk dx dy dz i1 i2 (z2, zc, po, dr) dn).1)) qc (aI g 64 (q_run (nI kf) z1 dk dx dy dz i1 i2 (z2, zc, po, dr) dn).2.1)) a (ob 7 [.ref fo, .ref co, .ref qa, .int (nI acn), .ref qt, .int tc, .ref kq, .int ((q_run (nI kf) z1 dk dx dy dz i1 i2 (z2, zc, po, dr) dn).2.2.1), .int ((q_run (nI kf) z1 dk dx dy dz i1 i2 (z2, zc, po, dr) dn).2.2.2)])) s.heap H locs := Y9
      refine lv_iload hx hb d_X_doAction_20 (lv_at hl 0 rfl) ?_
      refine lv_aload hx hb d_X_doAction_22 (lv_at hl 1 rfl) ?_
      refine fp_getN X Y oax rfl in_A 1 (by decide) nw113 rfl d_X_doAction_24 ?_
      refine lv_icmp_ge (tgt := 56) hx hb d_X_doAction_27 (by decide) (fun c_27 => ?_) (fun c_27 => absurd (Int32.le_refl _) c_27)
      exact ret _ _ _ _ _ d_X_doAction_56 ⟨rfl, rfl⟩ Y
    | succ k ih =>
      intro i hi H locs Y ls hl
      have n4 : q2 ≠ a := fp_o.nf o2 oa (by simp)
      have n5 : qc ≠ a := fp_o.nf oqc oa (by simp)
      have Y9 := Y
      have ne_25 : a ≠ q2 := (fp_o.nf oa o2 (by simp))
      have ne_26 : fo ≠ q2 := (fp_o.nf of o2 (by simp))
      have ne_27 : q1 ≠ q2 := hne
      have ne_28 : co ≠ q2 := (fp_o.nf oc o2 (by simp))
      have ne_29 : qc ≠ q2 := (Ne.symm n3)
      have ne_30 : qa ≠ q2 := (fp_o.nf oqa o2 (by simp))
      have ne_31 : ax ≠ q2 := (fp_o.nf oax o2 (by simp))
      have ne_32 : dq ≠ q2 := (fp_o.nf odq o2 (by simp))
      have oa : fp_o b n (va_up f q2 (aI g 16 (q_run (nI kf) z1 dk dx dy dz i1 i2 (z2, zc, po, dr) i).1)) a (ob 7 [.ref fo, .ref co, .ref qa, .int (nI acn), .ref qt, .int tc, .ref kq, .int po, .int dr]) := fp_o.ne oa ne_25
      have of : fp_o b n (va_up f q2 (aI g 16 (q_run (nI kf) z1 dk dx dy dz i1 i2 (z2, zc, po, dr) i).1)) fo (ob 4 [.ref q1, .ref q2, .int (nI kf)]) := fp_o.ne of ne_26
      have o1 : fp_o b n (va_up f q2 (aI g 16 (q_run (nI kf) z1 dk dx dy dz i1 i2 (z2, zc, po, dr) i).1)) q1 (aI g 16 z1) := fp_o.ne o1 ne_27
      have oc : fp_o b n (va_up f q2 (aI g 16 (q_run (nI kf) z1 dk dx dy dz i1 i2 (z2, zc, po, dr) i).1)) co (ob 1 [.ref qc]) := fp_o.ne oc ne_28
      have oqc : fp_o b n (va_up f q2 (aI g 16 (q_run (nI kf) z1 dk dx dy dz i1 i2 (z2, zc, po, dr) i).1)) qc (aI g 64 zc) := fp_o.ne oqc ne_29
      have oqa : fp_o b n (va_up f q2 (aI g 16 (q_run (nI kf) z1 dk dx dy dz i1 i2 (z2, zc, po, dr) i).1)) qa (aR g 1 16 za) := fp_o.ne oqa ne_30
      have oax : fp_o b n (va_up f q2 (aI g 16 (q_run (nI kf) z1 dk dx dy dz i1 i2 (z2, zc, po, dr) i).1)) ax (ob 0 [.ref dq, .int (nI dn)]) := fp_o.ne oax ne_31
      have odq : fp_o b n (va_up f q2 (aI g 16 (q_run (nI kf) z1 dk dx dy dz i1 i2 (z2, zc, po, dr) i).1)) dq (aR g 2 4 zd) := fp_o.ne odq ne_32
      have hd : ∀ i9 : Nat, i9 < dn → fp_o b n (va_up f q2 (aI g 16 (q_run (nI kf) z1 dk dx dy dz i1 i2 (z2, zc, po, dr) i).1)) (da i9) (ob 2 [.int (nI (dk i9)), .int (dx i9), .int (dy i9), .int (dz i9)]) := fun i9 hi9 => fp_o.ne (hd i9 hi9) (fp_o.nf (hd i9 hi9) o2 (by simp))
      have o2 : fp_o b n (va_up f q2 (aI g 16 (q_run (nI kf) z1 dk dx dy dz i1 i2 (z2, zc, po, dr) i).1)) q2 (aI g 16 (q_run (nI kf) z1 dk dx dy dz i1 i2 (z2, zc, po, dr) i).1) := fp_o.up o2
      have ne_33 : a ≠ qc := (fp_o.nf oa oqc (by simp))
      have ne_34 : fo ≠ qc := (fp_o.nf of oqc (by simp))
      have ne_35 : q1 ≠ qc := n2
      have ne_36 : q2 ≠ qc := n3
      have ne_37 : co ≠ qc := (fp_o.nf oc oqc (by simp))
      have ne_38 : qa ≠ qc := (fp_o.nf oqa oqc (by simp))
      have ne_39 : ax ≠ qc := (fp_o.nf oax oqc (by simp))
      have ne_40 : dq ≠ qc := (fp_o.nf odq oqc (by simp))
      have oa : fp_o b n (va_up (va_up f q2 (aI g 16 (q_run (nI kf) z1 dk dx dy dz i1 i2 (z2, zc, po, dr) i).1)) qc (aI g 64 (q_run (nI kf) z1 dk dx dy dz i1 i2 (z2, zc, po, dr) i).2.1)) a (ob 7 [.ref fo, .ref co, .ref qa, .int (nI acn), .ref qt, .int tc, .ref kq, .int po, .int dr]) := fp_o.ne oa ne_33
      have of : fp_o b n (va_up (va_up f q2 (aI g 16 (q_run (nI kf) z1 dk dx dy dz i1 i2 (z2, zc, po, dr) i).1)) qc (aI g 64 (q_run (nI kf) z1 dk dx dy dz i1 i2 (z2, zc, po, dr) i).2.1)) fo (ob 4 [.ref q1, .ref q2, .int (nI kf)]) := fp_o.ne of ne_34
      have o1 : fp_o b n (va_up (va_up f q2 (aI g 16 (q_run (nI kf) z1 dk dx dy dz i1 i2 (z2, zc, po, dr) i).1)) qc (aI g 64 (q_run (nI kf) z1 dk dx dy dz i1 i2 (z2, zc, po, dr) i).2.1)) q1 (aI g 16 z1) := fp_o.ne o1 ne_35
      have o2 : fp_o b n (va_up (va_up f q2 (aI g 16 (q_run (nI kf) z1 dk dx dy dz i1 i2 (z2, zc, po, dr) i).1)) qc (aI g 64 (q_run (nI kf) z1 dk dx dy dz i1 i2 (z2, zc, po, dr) i).2.1)) q2 (aI g 16 ((q_run (nI kf) z1 dk dx dy dz i1 i2 (z2, zc, po, dr) i).1)) := fp_o.ne o2 ne_36
      have oc : fp_o b n (va_up (va_up f q2 (aI g 16 (q_run (nI kf) z1 dk dx dy dz i1 i2 (z2, zc, po, dr) i).1)) qc (aI g 64 (q_run (nI kf) z1 dk dx dy dz i1 i2 (z2, zc, po, dr) i).2.1)) co (ob 1 [.ref qc]) := fp_o.ne oc ne_37
      have oqa : fp_o b n (va_up (va_up f q2 (aI g 16 (q_run (nI kf) z1 dk dx dy dz i1 i2 (z2, zc, po, dr) i).1)) qc (aI g 64 (q_run (nI kf) z1 dk dx dy dz i1 i2 (z2, zc, po, dr) i).2.1)) qa (aR g 1 16 za) := fp_o.ne oqa ne_38
      have oax : fp_o b n (va_up (va_up f q2 (aI g 16 (q_run (nI kf) z1 dk dx dy dz i1 i2 (z2, zc, po, dr) i).1)) qc (aI g 64 (q_run (nI kf) z1 dk dx dy dz i1 i2 (z2, zc, po, dr) i).2.1)) ax (ob 0 [.ref dq, .int (nI dn)]) := fp_o.ne oax ne_39
      have odq : fp_o b n (va_up (va_up f q2 (aI g 16 (q_run (nI kf) z1 dk dx dy dz i1 i2 (z2, zc, po, dr) i).1)) qc (aI g 64 (q_run (nI kf) z1 dk dx dy dz i1 i2 (z2, zc, po, dr) i).2.1)) dq (aR g 2 4 zd) := fp_o.ne odq ne_40
      have hd : ∀ i9 : Nat, i9 < dn → fp_o b n (va_up (va_up f q2 (aI g 16 (q_run (nI kf) z1 dk dx dy dz i1 i2 (z2, zc, po, dr) i).1)) qc (aI g 64 (q_run (nI kf) z1 dk dx dy dz i1 i2 (z2, zc, po, dr) i).2.1)) (da i9) (ob 2 [.int (nI (dk i9)), .int (dx i9), .int (dy i9), .int (dz i9)]) := fun i9 hi9 => fp_o.ne (hd i9 hi9) (fp_o.nf (hd i9 hi9) oqc (by simp))
      have oqc : fp_o b n (va_up (va_up f q2 (aI g 16 (q_run (nI kf) z1 dk dx dy dz i1 i2 (z2, zc, po, dr) i).1)) qc (aI g 64 (q_run (nI kf) z1 dk dx dy dz i1 i2 (z2, zc, po, dr) i).2.1)) qc (aI g 64 (q_run (nI kf) z1 dk dx dy dz i1 i2 (z2, zc, po, dr) i).2.1) := fp_o.up oqc
      have ne_41 : fo ≠ a := (fp_o.nf of oa (by simp))
      have ne_42 : q1 ≠ a := (fp_o.nf o1 oa (by simp))
      have ne_43 : q2 ≠ a := (fp_o.nf o2 oa (by simp))
      have ne_44 : co ≠ a := (fp_o.nf oc oa (by simp))
      have ne_45 : qc ≠ a := (fp_o.nf oqc oa (by simp))
      have ne_46 : qa ≠ a := (fp_o.nf oqa oa (by simp))
      have ne_47 : ax ≠ a := (fp_o.nf oax oa (by simp))
      have ne_48 : dq ≠ a := (fp_o.nf odq oa (by simp))
      have of : fp_o b n (va_up (va_up (va_up f q2 (aI g 16 (q_run (nI kf) z1 dk dx dy dz i1 i2 (z2, zc, po, dr) i).1)) qc (aI g 64 (q_run (nI kf) z1 dk dx dy dz i1 i2 (z2, zc, po, dr) i).2.1)) a (ob 7 [.ref fo, .ref co, .ref qa, .int (nI acn), .ref qt, .int tc, .ref kq, .int ((q_run (nI kf) z1 dk dx dy dz i1 i2 (z2, zc, po, dr) i).2.2.1), .int ((q_run (nI kf) z1 dk dx dy dz i1 i2 (z2, zc, po, dr) i).2.2.2)])) fo (ob 4 [.ref q1, .ref q2, .int (nI kf)]) := fp_o.ne of ne_41
      have o1 : fp_o b n (va_up (va_up (va_up f q2 (aI g 16 (q_run (nI kf) z1 dk dx dy dz i1 i2 (z2, zc, po, dr) i).1)) qc (aI g 64 (q_run (nI kf) z1 dk dx dy dz i1 i2 (z2, zc, po, dr) i).2.1)) a (ob 7 [.ref fo, .ref co, .ref qa, .int (nI acn), .ref qt, .int tc, .ref kq, .int ((q_run (nI kf) z1 dk dx dy dz i1 i2 (z2, zc, po, dr) i).2.2.1), .int ((q_run (nI kf) z1 dk dx dy dz i1 i2 (z2, zc, po, dr) i).2.2.2)])) q1 (aI g 16 z1) := fp_o.ne o1 ne_42
      have o2 : fp_o b n (va_up (va_up (va_up f q2 (aI g 16 (q_run (nI kf) z1 dk dx dy dz i1 i2 (z2, zc, po, dr) i).1)) qc (aI g 64 (q_run (nI kf) z1 dk dx dy dz i1 i2 (z2, zc, po, dr) i).2.1)) a (ob 7 [.ref fo, .ref co, .ref qa, .int (nI acn), .ref qt, .int tc, .ref kq, .int ((q_run (nI kf) z1 dk dx dy dz i1 i2 (z2, zc, po, dr) i).2.2.1), .int ((q_run (nI kf) z1 dk dx dy dz i1 i2 (z2, zc, po, dr) i).2.2.2)])) q2 (aI g 16 ((q_run (nI kf) z1 dk dx dy dz i1 i2 (z2, zc, po, dr) i).1)) := fp_o.ne o2 ne_43
      have oc : fp_o b n (va_up (va_up (va_up f q2 (aI g 16 (q_run (nI kf) z1 dk dx dy dz i1 i2 (z2, zc, po, dr) i).1)) qc (aI g 64 (q_run (nI kf) z1 dk dx dy dz i1 i2 (z2, zc, po, dr) i).2.1)) a (ob 7 [.ref fo, .ref co, .ref qa, .int (nI acn), .ref qt, .int tc, .ref kq, .int ((q_run (nI kf) z1 dk dx dy dz i1 i2 (z2, zc, po, dr) i).2.2.1), .int ((q_run (nI kf) z1 dk dx dy dz i1 i2 (z2, zc, po, dr) i).2.2.2)])) co (ob 1 [.ref qc]) := fp_o.ne oc ne_44
      have oqc : fp_o b n (va_up (va_up (va_up f q2 (aI g 16 (q_run (nI kf) z1 dk dx dy dz i1 i2 (z2, zc, po, dr) i).1)) qc (aI g 64 (q_run (nI kf) z1 dk dx dy dz i1 i2 (z2, zc, po, dr) i).2.1)) a (ob 7 [.ref fo, .ref co, .ref qa, .int (nI acn), .ref qt, .int tc, .ref kq, .int ((q_run (nI kf) z1 dk dx dy dz i1 i2 (z2, zc, po, dr) i).2.2.1), .int ((q_run (nI kf) z1 dk dx dy dz i1 i2 (z2, zc, po, dr) i).2.2.2)])) qc (aI g 64 ((q_run (nI kf) z1 dk dx dy dz i1 i2 (z2, zc, po, dr) i).2.1)) := fp_o.ne oqc ne_45
      have oqa : fp_o b n (va_up (va_up (va_up f q2 (aI g 16 (q_run (nI kf) z1 dk dx dy dz i1 i2 (z2, zc, po, dr) i).1)) qc (aI g 64 (q_run (nI kf) z1 dk dx dy dz i1 i2 (z2, zc, po, dr) i).2.1)) a (ob 7 [.ref fo, .ref co, .ref qa, .int (nI acn), .ref qt, .int tc, .ref kq, .int ((q_run (nI kf) z1 dk dx dy dz i1 i2 (z2, zc, po, dr) i).2.2.1), .int ((q_run (nI kf) z1 dk dx dy dz i1 i2 (z2, zc, po, dr) i).2.2.2)])) qa (aR g 1 16 za) := fp_o.ne oqa ne_46
      have oax : fp_o b n (va_up (va_up (va_up f q2 (aI g 16 (q_run (nI kf) z1 dk dx dy dz i1 i2 (z2, zc, po, dr) i).1)) qc (aI g 64 (q_run (nI kf) z1 dk dx dy dz i1 i2 (z2, zc, po, dr) i).2.1)) a (ob 7 [.ref fo, .ref co, .ref qa, .int (nI acn), .ref qt, .int tc, .ref kq, .int ((q_run (nI kf) z1 dk dx dy dz i1 i2 (z2, zc, po, dr) i).2.2.1), .int ((q_run (nI kf) z1 dk dx dy dz i1 i2 (z2, zc, po, dr) i).2.2.2)])) ax (ob 0 [.ref dq, .int (nI dn)]) := fp_o.ne oax ne_47
      have odq : fp_o b n (va_up (va_up (va_up f q2 (aI g 16 (q_run (nI kf) z1 dk dx dy dz i1 i2 (z2, zc, po, dr) i).1)) qc (aI g 64 (q_run (nI kf) z1 dk dx dy dz i1 i2 (z2, zc, po, dr) i).2.1)) a (ob 7 [.ref fo, .ref co, .ref qa, .int (nI acn), .ref qt, .int tc, .ref kq, .int ((q_run (nI kf) z1 dk dx dy dz i1 i2 (z2, zc, po, dr) i).2.2.1), .int ((q_run (nI kf) z1 dk dx dy dz i1 i2 (z2, zc, po, dr) i).2.2.2)])) dq (aR g 2 4 zd) := fp_o.ne odq ne_48
      have hd : ∀ i9 : Nat, i9 < dn → fp_o b n (va_up (va_up (va_up f q2 (aI g 16 (q_run (nI kf) z1 dk dx dy dz i1 i2 (z2, zc, po, dr) i).1)) qc (aI g 64 (q_run (nI kf) z1 dk dx dy dz i1 i2 (z2, zc, po, dr) i).2.1)) a (ob 7 [.ref fo, .ref co, .ref qa, .int (nI acn), .ref qt, .int tc, .ref kq, .int ((q_run (nI kf) z1 dk dx dy dz i1 i2 (z2, zc, po, dr) i).2.2.1), .int ((q_run (nI kf) z1 dk dx dy dz i1 i2 (z2, zc, po, dr) i).2.2.2)])) (da i9) (ob 2 [.int (nI (dk i9)), .int (dx i9), .int (dy i9), .int (dz i9)]) := fun i9 hi9 => fp_o.ne (hd i9 hi9) (fp_o.nf (hd i9 hi9) oa (by simp))
      have oa : fp_o b n (va_up (va_up (va_up f q2 (aI g 16 (q_run (nI kf) z1 dk dx dy dz i1 i2 (z2, zc, po, dr) i).1)) qc (aI g 64 (q_run (nI kf) z1 dk dx dy dz i1 i2 (z2, zc, po, dr) i).2.1)) a (ob 7 [.ref fo, .ref co, .ref qa, .int (nI acn), .ref qt, .int tc, .ref kq, .int ((q_run (nI kf) z1 dk dx dy dz i1 i2 (z2, zc, po, dr) i).2.2.1), .int ((q_run (nI kf) z1 dk dx dy dz i1 i2 (z2, zc, po, dr) i).2.2.2)])) a (ob 7 [.ref fo, .ref co, .ref qa, .int (nI acn), .ref qt, .int tc, .ref kq, .int ((q_run (nI kf) z1 dk dx dy dz i1 i2 (z2, zc, po, dr) i).2.2.1), .int ((q_run (nI kf) z1 dk dx dy dz i1 i2 (z2, zc, po, dr) i).2.2.2)]) := fp_o.up oa
      have Y : fp_H D b n A (va_up (va_up (va_up f q2 (aI g 16 (q_run (nI kf) z1 dk dx dy dz i1 i2 (z2, zc, po, dr) i).1)) qc (aI g 64 (q_run (nI kf) z1 dk dx dy dz i1 i2 (z2, zc, po, dr) i).2.1)) a (ob 7 [.ref fo, .ref co, .ref qa, .int (nI acn), .ref qt, .int tc, .ref kq, .int ((q_run (nI kf) z1 dk dx dy dz i1 i2 (z2, zc, po, dr) i).2.2.1), .int ((q_run (nI kf) z1 dk dx dy dz i1 i2 (z2, zc, po, dr) i).2.2.2)])) s.heap H locs := Y9
      refine lv_iload hx hb d_X_doAction_20 (lv_at hl 0 rfl) ?_
      refine lv_aload hx hb d_X_doAction_22 (lv_at hl 1 rfl) ?_
      refine fp_getN X Y oax rfl in_A 1 (by decide) nw113 rfl d_X_doAction_24 ?_
      refine lv_icmp_ge (tgt := 56) hx hb d_X_doAction_27 (by decide) (fun c_27 => absurd c_27 (nI_ge (by omega) (by omega))) (fun c_27 => ?_)
      refine lv_iload hx hb d_X_doAction_30 (lv_at hl 0 rfl) ?_
      refine lv_iconst (v := 4) hx hb d_X_doAction_32 (by decide) ?_
      refine lv_icmp_ge (tgt := 56) hx hb d_X_doAction_33 (by decide) (fun c_33 => absurd c_33 (nI_ge (b := 4) (by omega) (by decide))) (fun c_33 => ?_)
      refine lv_aload_n hx hb d_X_doAction_36 rfl (lv_at hl 5 rfl) ?_
      refine lv_aload hx hb d_X_doAction_37 (lv_at hl 1 rfl) ?_
      refine fp_getN X Y oax rfl in_A 0 (by decide) nw111 rfl d_X_doAction_39 ?_
      refine lv_iload hx hb d_X_doAction_42 (lv_at hl 0 rfl) ?_
      have od : fp_o b n (va_up (va_up (va_up f q2 (aI g 16 (q_run (nI kf) z1 dk dx dy dz i1 i2 (z2, zc, po, dr) i).1)) qc (aI g 64 (q_run (nI kf) z1 dk dx dy dz i1 i2 (z2, zc, po, dr) i).2.1)) a (ob 7 [.ref fo, .ref co, .ref qa, .int (nI acn), .ref qt, .int tc, .ref kq, .int ((q_run (nI kf) z1 dk dx dy dz i1 i2 (z2, zc, po, dr) i).2.2.1), .int ((q_run (nI kf) z1 dk dx dy dz i1 i2 (z2, zc, po, dr) i).2.2.2)])) (da i) (ob 2 [.int (nI (dk i)), .int (dx i), .int (dy i), .int (dz i)]) := hd i (by omega)
      refine fp_ald 2 rfl X Y odq i rfl (by omega) (by decide) (hz i (by omega)) d_X_doAction_44 ?_
      refine lv_iload_n hx hb d_X_doAction_45 rfl (lv_at hl 3 rfl) ?_
      refine lv_iload_n hx hb d_X_doAction_46 rfl (lv_at hl 2 rfl) ?_
      refine fp_callV (nA := 3) (As := [.ref (da i), .int i1, .int i2]) (rest := []) X Y (c_X_doOne i1 i2 hk (hdk i (by omega)) oa of o1 o2 oc oqc od hne n2 n3) oa rfl w583 w580 w582 wp13 w1 (by decide +kernel) ⟨rfl, rfl⟩ ⟨Nat.le_of_ble_eq_true rfl, Nat.le_of_ble_eq_true rfl⟩ rfl hl.1 rfl (Nat.le_of_ble_eq_true rfl) d_X_doAction_47 ⟨Nat.zero_le _, Nat.zero_le _⟩ (fun v9 f9 H locs hp9 Y => ?_)
      obtain ⟨e8, e9⟩ := hp9
      subst e8
      rw [e9] at Y
      refine W.eq (g2 := F0 m 50 ls []) rfl ?_
      refine lv_iinc (v := nI (i + 1)) (lv' := [(5, .int (nI (i + 1))), (4, .ref ax), (3, .int i2), (2, .int i1), (1, .int (nI aj)), (0, .ref a)]) hx hb d_X_doAction_50 hl (k := 0) rfl (nI_1 i) (by decide) rfl (fun ls hl => ?_)
      refine lv_goto (tgt := 20) hx hb d_X_doAction_53 (by decide) ?_
      exact ih (i + 1) (by omega) _ _ (by rw [show q_run (nI kf) z1 dk dx dy dz i1 i2 (z2, zc, po, dr) (i + 1) = q_do (nI kf) z1 (dk i) (dx i) (dy i) (dz i) i1 i2 (q_run (nI kf) z1 dk dx dy dz i1 i2 (z2, zc, po, dr) i) from rfl, ← q_put_put n3 (fp_o.nf o2 oa (by simp)) (fp_o.nf oqc oa (by simp))]; exact Y) ls (lv_sub hl [0, 1, 2, 3, 4, 5] rfl)
  exact loop dn 0 (by omega) _ _ (by rw [show q_run (nI kf) z1 dk dx dy dz i1 i2 (z2, zc, po, dr) 0 = (z2, zc, po, dr) from rfl, q_put_0 o2 oqc oa]; exact Y) ls (lv_sub hl [0, 1, 5, 4, 3, 2] rfl)
end
section
/-! Throwing and catching: a handler's class may be resolved by the search itself ("cold"); a call of a method that throws; 'throw new X("text")' under a launch without stack traces. -/
theorem fh_transfer {Q : Handler → Pre} {E : CtlPost} {e : Env} {d : Bool} {acts : List Action} {s : State} {f : JFrame} {a : Addr} {x : ExceptionTableEntry} {t : List ExceptionTableEntry} {c : Nat} {vm' : Vm}
    (hx : covers x f.pc = true) (h0 : x.catchType ≠ 0) (hg : (Jvm.resolveClass f.method.cls x.catchType).Gives e.toSetting s.vm (.ok c) vm') (hr : vm'.classReady f.method.cls x.catchType c) (hsz : vm'.classes.size ≤ s.vm.classes.size) :
    wp (findHandler.go f a (x :: t)) Q E e d acts s ↔ wp (findHandler.go f a (x :: t)) Q E e d acts (s.setVm vm') := by
  obtain ⟨ha, ht⟩ := hg.op (op := VmOp.resolveClass f.method.cls x.catchType) rfl
  obtain ⟨k, hkd, hres⟩ := hr
  simp only [covers] at hx
  simp [findHandler.go, hx, h0, ha, ht, hsz, resolveClass_memo e hkd hres, VmOp.dirties, VmOp.acts]
  exact Iff.rfl
/-- one entry of the handler table: its class is resolved, if it wasn't; then it takes the exception, or doesn't -/
theorem fh_entry {e : Env} {s S : State} {args : Array Value} {g : JFrame} {x : Addr} {own name : String} {st en hp ct : Nat} {cell : Cell} {ks : Class} {cT : ClassId} (hpl : e.platform.magicAccessors = ({} : Platform).magicAccessors) (hW : s.WarmedH S.vm)
    (hown : s.vm.findClass own = some g.method.cls) (hlink : (Cond.classLink own ct name).before args s = true) (hcov : covers ⟨st, en, hp, ct⟩ g.pc = true) (h0 : ct ≠ 0)
    (hcell : S.heap[x]? = some cell) (hobj : ∀ k, cell.vm ≠ .statics k) (hks : s.vm.classes[cell.cls]? = some ks) (hcT : s.vm.findClass name = some cT) :
    ∃ vm', s.WarmedH vm' ∧ ∀ (t : List ExceptionTableEntry) (Q : Handler → Pre) (E : CtlPost) (d : Bool) (acts : List Action), wp (findHandler.go g x (⟨st, en, hp, ct⟩ :: t)) Q E e d acts S ↔
      if s.vm.assignable cell.cls cT = true then Q (.found hp) d acts (S.setVm vm') else wp (findHandler.go g x t) Q E e d acts (S.setVm vm') := by
  obtain ⟨c', hc', hcl⟩ := Cond.classLink_spec hown hlink e.platform hpl
  cases hcT.symm.trans hc'
  obtain ⟨dk, _, _, kt, hd, _, _, _, _, hkt, _, hopen⟩ := hcl.here
  have hcl₀ := hW.classLinks hcl
  have hW' : s.WarmedH (S.vm.noted g.method.cls ct (.cls cT)) := hW.noted hd hopen (State.rightAt_cls hcl)
  obtain ⟨ks', hks', -⟩ := hW'.alike.2.2 _ _ hks
  obtain ⟨kt', hkt', -⟩ := hW'.alike.2.2 _ _ hkt
  refine ⟨_, hW', fun t Q E d acts => ?_⟩
  rw [fh_transfer (x := ⟨st, en, hp, ct⟩) hcov h0 (resolveClass_links e.toSetting hcl₀) hcl₀.ready (by rw [hW'.2.1, hW.2.1]; exact Nat.le_refl _)]
  rw [W.findHandler_go_class (s := S.setVm (S.vm.noted g.method.cls ct (.cls cT))) (x := ⟨st, en, hp, ct⟩) (c := cT) (cell := cell) hcov h0 hcl₀.ready hcell hobj ⟨ks', hks'⟩ ⟨kt', hkt'⟩]
  show (if (S.vm.noted g.method.cls ct (.cls cT)).assignable cell.cls cT = true then _ else _) ↔ _
  rw [hW'.alike.assignable]
/-- the search ends at a handler: the walk goes on there -/
theorem fh_caught {p : Program} {l : Launch} {e : Env} {R : Room} {s : State} {m : MethodId} {args : Array Value} {below : List Frame} {meth : Method} {c : Code} {T : State} {locs : List Loc} {cells slots : Nat}
    (X : Stand p l e R s m args below meth c T locs cells slots) {g : JFrame} (hg : g.method = m) {x : Addr} {hp : Nat} {vm' : Vm} (hW : s.WarmedH vm')
    (hf : ∀ (Q : Handler → Pre) (E : CtlPost) (d : Bool) (acts : List Action), wp (findHandler.go g x c.exceptionTable.toList) Q E e d acts ((T.setTop g).pushFrame (.throwing x)) ↔ Q (.found hp) d acts (((T.setTop g).pushFrame (.throwing x)).setVm vm')) :
    Stand p l e R s m args below meth c (T.setVm vm') locs cells slots ∧ ∀ target, Steps p.tables e below ((T.setVm vm').setTop { g with pc := hp, stack := [.ref x] }) target → Steps p.tables e below ((T.setTop g).pushFrame (.throwing x)) target := by
  refine ⟨X.noted hW, fun target hrest => ?_⟩
  subst hg
  have h : At T g.method c below := X.here
  obtain ⟨hgo, hw⟩ := h.throwing x
  refine Steps.head hgo hw ?_
  have hm : ((T.setTop g).pushFrame (.throwing x)).vm.method? g.method = some meth := by rw [Stand.throwing_vm]; exact X.method'
  have key : (stepThrowing e ((T.setTop g).pushFrame (.throwing x)) x (.java g :: T.frames.tail)).Is ((((T.setTop g).pushFrame (.throwing x)).setVm vm').setFrames (.java { g with pc := hp, stack := [.ref x] } :: T.frames.tail)) [] := by
    simp only [stepThrowing, searchFrame, vmDo]
    generalize hr : Sem.go _ e false [] ((T.setTop g).pushFrame (.throwing x)) = res
    obtain ⟨as, rfl, ha⟩ := Sem.eq_ok_of hr (a := Handler.found hp) (s' := ((T.setTop g).pushFrame (.throwing x)).setVm vm') (acts' := []) (by simp [W.findHandler_eq hm X.code, hf])
    exact ⟨rfl, ha⟩
  rw [stepThread_throwing (frames_entered h.top _), key.1]
  obtain ⟨g₀, hg⟩ := Option.isSome_iff_exists.mp h.top
  obtain ⟨r, hr⟩ := State.topJava?_eq_some.mp hg
  have hr' : (T.setVm vm').frames = .java g₀ :: r := hr
  rw [State.setTop_of_frames _ hr'] at hrest
  rw [State.setTop_of_frames _ hr, State.pushFrame, State.setFrames_setFrames, hr]
  show Steps p.tables e below (((T.setVm vm').setFrames _).setFrames _) target
  rw [State.setFrames_setFrames]
  exact hrest
/-- the end of a method that threw a new C: nothing that was there has changed -/
def fp_TQ (C : String) (s : State) (o : Outcome) (t : State) : Prop := ∃ (x : Addr) (cell : Cell), o = .threw x ∧ t.heap[x]? = some cell ∧ cell.vm = .none ∧ t.vm.findClass C = some cell.cls ∧ s.WarmedH t.vm ∧ s.sameButNew ({ t with vm := s.vm } : State) [] 1 6
def fp_up : List String := ["java/lang/RuntimeException", "java/lang/Exception"]
set_option maxHeartbeats 1000000 in
theorem fp_throw {p : Program} {l : Launch} {e : Env} {R : Room} {s : State} {m : MethodId} {args : Array Value} {below : List Frame} {meth : Method} {c : Code} {H : Heap} {locs : List Loc} {Q : State → Prop} {cc : ByteArray} {pc nL : Nat} {ls : Array Slot} {D : va_G} {g : Nat → ClassId} {b n : Nat} {f : Nat → va_E}
    {cls text : String} {ik is ic : Nat} (X : fp_X p s m args c cc nL "EntryTables" D (TY g)) (Y : fp_H D b n (fun _ => False) f s.heap H locs) (htr : e.platform.stackTraces = false)
    (hE : ∀ a ∈ Bundle.ownAtoms "EntryTables" ic cls fp_up, a.before args s = true) (hk : Cond.classLink "EntryTables" ik cls ∈ TG) (hi : Cond.initialized cls ∈ TG) (hs : (Cond.stringRef "EntryTables" is text).before args s = true) (hcls : Bundle.fit cls = true)
    (hno : ∀ (pc : Nat), ∀ x ∈ c.exceptionTable.toList, covers x pc = false) (hlocks : meth.locks = false) (hR : 6 ≤ R.frames ∧ 140 ≤ R.locals ∧ 1 ≤ R.cells ∧ 6 ≤ R.slots) (hsz : ls.size = nL)
    (d0 : decode cc pc = .ok (.new ik, 3)) (d3 : decode cc (pc + 3) = .ok (.dup, 1)) (d4 : decode cc (pc + 4) = .ok (.ldc is, 2)) (d6 : decode cc (pc + 6) = .ok (.invokespecial ic, 3)) (d9 : decode cc (pc + 9) = .ok (.athrow, 1))
    (hq : ∀ t : State, (∃ o, t.status = .running ∧ Ended t below o ∧ fp_TQ cls s o t) → Q t) : W p l e R s m args below meth c H locs 0 0 Q (F0 m pc ls []) := by
  obtain ⟨⟨hx, hb, hml, hown, hts⟩, hK, hN⟩ := X
  have hl0 : locs = [] := List.eq_nil_iff_forall_not_mem.mpr (fun q hq => Y.2.1.2.2 q hq)
  subst hl0
  intro T hT X0
  have hsT : s.heap.size ≤ T.heap.size := by rw [hT]; exact Y.2.1.1
  obtain ⟨vm₁, cX, kX, hfX, hkX, -, -, X₁, st1⟩ := X0.newCold hx (own := "EntryTables") (C := cls) (index := ik) (n := 6) hown (hts _ hk) (hE (.instantiable cls 6) (by simp [Bundle.ownAtoms])) (hts _ hi) (g := F0 m pc ls []) rfl (by rw [hb]; exact d0) (by omega) (by omega)
  generalize hT1 : (T.setVm vm₁).pushCell { cls := cX, slots := kX.instanceTypes.map defaultValue, vm := .none } = T1 at X₁ st1
  have hcellA : T1.heap[T.heap.size]? = some (freshCell cX kX) := by rw [← hT1]; exact State.heap_pushCell_size _ _
  obtain ⟨-, -, -, sa, -, -, -, -, -, hev⟩ := Cond.stringRef_spec hown hs
  obtain ⟨U, hsteps, hrun, hend, hW, hsame, ce, hce, K⟩ := X₁.ctorThrowS hx htr (own := "EntryTables") (cls := cls) (names := fp_up) (ic := ic) hown hcls (by decide +kernel) hE (fun y hy => by cases hy) hfX hkX hcellA hsT (msg := .ref sa) rfl
    (g := { method := m, pc := pc + 6, locals := ls, stack := [.ref sa, .ref T.heap.size, .ref T.heap.size], locked := none }) rfl (hsz.trans hml.symm) rfl rfl (rest := []) rfl (by rw [hb]; exact d6) (by rw [hb]; exact d9) (hno _) (by simp [fp_up]; omega) (by simp [fp_up, Value.category, JFrame.monitorRoom]; omega)
  refine ⟨U, ?_, hq U ⟨.threw T.heap.size, hrun, hend, T.heap.size, ce, rfl, hce, K.vm, by rw [hW.alike.findClass]; exact K.cls, hW, hsame⟩⟩
  refine st1 _ ?_
  show Steps p.tables e below (T1.setTop { method := m, pc := pc + 3, locals := ls, stack := [.ref T.heap.size], locked := none }) _
  jvm_step X₁.here [X₁.here.top, hx, hb, d3, Value.category]
  exact X₁.ldcString hx (own := "EntryTables") (text := text) (index := is) (a := sa) hown hs hev (g := { method := m, pc := pc + 4, locals := ls, stack := [.ref T.heap.size, .ref T.heap.size], locked := none }) rfl (by rw [hb]; exact d4) _ hsteps
end
section
/-! What a method that throws needs of the state: the words on exceptions, the String constants, which of the three classes isn't which; and that this stays while nothing below b changes. -/
def fp_IA : String := "java/lang/IllegalArgumentException"
def fp_IS : String := "java/lang/IllegalStateException"
def fp_IO : String := "java/lang/IndexOutOfBoundsException"
def EXL : List (Nat × String) := [(70, "java/lang/IllegalArgumentException"), (81, "java/lang/IllegalStateException"), (94, "java/lang/IndexOutOfBoundsException")]
def EXS : List (Nat × String) := [(68, "a width is 1 to 32 bits"), (79, "there are 16 fields"), (92, "no such field"), (102, "there are 16 actions"), (105, "no such kind of doing"), (114, "no such action, field, array or datum"), (117, "the action has four doings"), (128, "no such fields or actions"), (133, "no such way to match the keys"), (135, "there are 8 tables"), (152, "no such table")]
def EXN : List (String × String) := [("java/lang/IllegalStateException", "java/lang/IllegalArgumentException"), ("java/lang/IllegalArgumentException", "java/lang/IndexOutOfBoundsException"), ("java/lang/IllegalStateException", "java/lang/IndexOutOfBoundsException"), ("java/lang/IllegalArgumentException", "java/lang/IllegalStateException"), ("java/lang/IndexOutOfBoundsException", "java/lang/IllegalArgumentException"), ("java/lang/IndexOutOfBoundsException", "java/lang/IllegalStateException")]
/-- Throwable's statics lie below b -/
def fp_Z (b : Nat) (U : State) : Prop := ∀ (c : ClassId) (k : Class) (i : Nat), U.vm.findClass "java/lang/Throwable" = some c → U.vm.classes[c]? = some k → k.statics = some i → i < b
def fp_Ex (b : Nat) (U : State) : Prop := fp_Z b U ∧ (∀ q ∈ EXL, ∀ a ∈ Bundle.ownAtoms "EntryTables" q.1 q.2 fp_up, a.before #[] U = true) ∧ (∀ q ∈ EXS, (Cond.stringRef "EntryTables" q.1 q.2).before #[] U = true) ∧ ∀ q ∈ EXN, va_Nc q.1 q.2 U
/-- the four words on Throwable's statics -/
def fp_st (a : Cond) : Bool := a == .laysStatic "java/lang/Throwable" "UNASSIGNED_STACK" "[Ljava/lang/StackTraceElement;" || a == .laysStatic "java/lang/Throwable" "SUPPRESSED_SENTINEL" "Ljava/util/List;" || a == .isRef (.static "java/lang/Throwable" "UNASSIGNED_STACK" "[Ljava/lang/StackTraceElement;") || a == .isRef (.static "java/lang/Throwable" "SUPPRESSED_SENTINEL" "Ljava/util/List;")
theorem fp_own_kinds : ∀ q ∈ EXL, ∀ a ∈ Bundle.ownAtoms "EntryTables" q.1 q.2 fp_up, a.onTables = true ∨ fp_st a = true := by
  have h : EXL.all (fun q => (Bundle.ownAtoms "EntryTables" q.1 q.2 fp_up).all (fun a => a.onTables || fp_st a)) = true := by decide +kernel
  intro q hq a ha
  have := List.all_eq_true.mp (List.all_eq_true.mp h q hq) a ha
  simpa using this
theorem fp_ff_eq {A U : State} (hv : A.vm = U.vm) (C n d : String) : A.fieldFound? C n d = U.fieldFound? C n d := by unfold State.fieldFound?; rw [hv]
theorem fp_ls_move {A U : State} {o n d : String} (hv : A.vm = U.vm) (hb : ∀ (c : ClassId) (k : Class) (i : Nat), U.vm.findClass o = some c → U.vm.classes[c]? = some k → k.statics = some i → U.heap[i]? = A.heap[i]?) (h : (Cond.laysStatic o n d).before #[] A = true) : (Cond.laysStatic o n d).before #[] U = true := by
  obtain ⟨c, k, i, f, a, cell, h1, h2, h3, h4, h5, h6, h7, h8, h9⟩ := Cond.laysStatic_spec h
  rw [hv] at h1
  rw [fp_ff_eq hv] at h2
  obtain ⟨hk, -⟩ : U.vm.classes[c]? = some k ∧ True := ⟨(State.fieldFound?_spec h2).1, trivial⟩
  have hc : U.heap[a]? = some cell := by rw [hb c k a h1 hk h4]; exact h5
  simp [Cond.before, Cond.holds, Cond.value, h1, h2, h3, h4, hc, h6, h7, h8, h9]
theorem fp_rs_move {A U : State} {o n d : String} (hv : A.vm = U.vm) (hb : ∀ (c : ClassId) (k : Class) (i : Nat), U.vm.findClass o = some c → U.vm.classes[c]? = some k → k.statics = some i → U.heap[i]? = A.heap[i]?) (hl : (Cond.laysStatic o n d).before #[] A = true) (h : (Cond.isRef (.static o n d)).before #[] A = true) : (Cond.isRef (.static o n d)).before #[] U = true := by
  obtain ⟨c, k, i, f, a, cell, h1, h2, h3, h4, h5, h6, h7, h8, h9⟩ := Cond.laysStatic_spec hl
  have h2' := h2
  rw [hv] at h1
  rw [fp_ff_eq hv] at h2
  obtain ⟨hk, -⟩ : U.vm.classes[c]? = some k ∧ True := ⟨(State.fieldFound?_spec h2).1, trivial⟩
  have hc : U.heap[a]? = some cell := by rw [hb c k a h1 hk h4]; exact h5
  have e : (Term.static o n d).eval #[] U none [] U = (Term.static o n d).eval #[] A none [] A := by simp [Term.eval, State.fieldNamed?, h2, h2', h3, h4, hc, h5]
  simp only [Cond.before, Cond.holds, Cond.value] at h ⊢
  rw [e]
  exact h
theorem fp_st_or {a : Cond} (h : fp_st a = true) : a = .laysStatic "java/lang/Throwable" "UNASSIGNED_STACK" "[Ljava/lang/StackTraceElement;" ∨ a = .laysStatic "java/lang/Throwable" "SUPPRESSED_SENTINEL" "Ljava/util/List;" ∨ a = .isRef (.static "java/lang/Throwable" "UNASSIGNED_STACK" "[Ljava/lang/StackTraceElement;") ∨ a = .isRef (.static "java/lang/Throwable" "SUPPRESSED_SENTINEL" "Ljava/util/List;") := by
  simp only [fp_st, Bool.or_eq_true, beq_iff_eq] at h
  rcases h with ((h | h) | h) | h
  · exact Or.inl h
  · exact Or.inr (Or.inl h)
  · exact Or.inr (Or.inr (Or.inl h))
  · exact Or.inr (Or.inr (Or.inr h))
theorem fp_Z.move {b : Nat} {s U : State} (hW : s.WarmedH U.vm) (h : fp_Z b s) : fp_Z b U := by
  intro c k i h1 h2 h3
  rw [hW.alike.findClass] at h1
  obtain ⟨k0, hk0⟩ := Vm.classAt_of_findClass h1
  obtain ⟨k', hk', he⟩ := hW.alike.2.2 _ _ hk0
  cases Option.some.inj (h2.symm.trans hk')
  rw [he] at h3
  exact h c k0 i h1 hk0 h3
theorem fp_Ex.move {b : Nat} {s U : State} (hW : s.WarmedH U.vm) (hH : ∀ q : Nat, q < b → U.heap[q]? = s.heap[q]?) (h : fp_Ex b s) : fp_Ex b U := by
  obtain ⟨hz, ha, hs, hn⟩ := h
  have hz' := fp_Z.move hW hz
  have hb : ∀ (c : ClassId) (k : Class) (i : Nat), U.vm.findClass "java/lang/Throwable" = some c → U.vm.classes[c]? = some k → k.statics = some i → U.heap[i]? = (s.setVm U.vm).heap[i]? := fun c k i h1 h2 h3 => hH i (hz' c k i h1 h2 h3)
  have sh : ∀ q ∈ EXL, ∀ a ∈ Bundle.ownAtoms "EntryTables" q.1 q.2 fp_up, a.before #[] (s.setVm U.vm) = true := fun q hq a hm => Cond.before_shiftedFace (State.Shifted.of_warmed hW) a (Bundle.ownAtoms_keepsFace a hm) (ha q hq a hm)
  refine ⟨hz', fun q hq a hm => ?_, fun q hq => ?_, fun q hq => (hn q hq).moved hW.alike⟩
  · rcases fp_own_kinds q hq a hm with h1 | h1
    · exact va_tabs h1 (show (s.setVm U.vm).vm = U.vm from rfl) (sh q hq a hm)
    · rcases fp_st_or h1 with rfl | rfl | rfl | rfl
      · exact fp_ls_move (A := s.setVm U.vm) rfl hb (sh q hq _ hm)
      · exact fp_ls_move (A := s.setVm U.vm) rfl hb (sh q hq _ hm)
      · exact fp_rs_move (A := s.setVm U.vm) rfl hb (sh q hq (.laysStatic "java/lang/Throwable" "UNASSIGNED_STACK" "[Ljava/lang/StackTraceElement;") (by simp [Bundle.ownAtoms, Bundle.throwableAtoms, Bundle.tN, Bundle.steD, Bundle.listD])) (sh q hq _ hm)
      · exact fp_rs_move (A := s.setVm U.vm) rfl hb (sh q hq (.laysStatic "java/lang/Throwable" "SUPPRESSED_SENTINEL" "Ljava/util/List;") (by simp [Bundle.ownAtoms, Bundle.throwableAtoms, Bundle.tN, Bundle.steD, Bundle.listD])) (sh q hq _ hm)
  · exact Cond.stringRef_warmed hW (hs q hq)
theorem fp_Ex.own {b : Nat} {s : State} (h : fp_Ex b s) {args : Array Value} {ic : Nat} {cls : String} (hq : (ic, cls) ∈ EXL) : ∀ a ∈ Bundle.ownAtoms "EntryTables" ic cls fp_up, a.before args s = true := by
  intro a hm
  have h0 := h.2.1 (ic, cls) hq a hm
  rcases fp_own_kinds (ic, cls) hq a hm with h1 | h1
  · exact va_tabs h1 rfl h0
  · rcases fp_st_or h1 with rfl | rfl | rfl | rfl <;> exact h0
/-- where no slot was named, every old cell is as it was -/
theorem fp_same {s s' : State} {k n : Nat} (h : s.sameButNew s' [] k n) : ∀ q : Nat, q < s.heap.size → s'.heap[q]? = s.heap[q]? := by
  intro q hq
  obtain ⟨c, hc⟩ : ∃ c, s.heap[q]? = some c := ⟨_, Array.getElem?_eq_getElem hq⟩
  obtain ⟨c', h1, h2, h3, h4⟩ := h.2.2.2.2.2 q c hc
  have e : c'.slots = c.slots := Array.ext_getElem? (fun i => h4 i (by simp))
  rw [h1, hc, h2, e]
def fp_BX (D : va_G) (tys : List (ClassId × FieldType)) (b n : Nat) (f : Nat → va_E) (U : State) : Prop := fp_B D tys b n f U ∧ fp_Ex b U
/-- a contract: the method throws a new C, nothing changes -/
def fp_T (l : Launch) (D : va_G) (tys : List (ClassId × FieldType)) (b n : Nat) (y : MethodName) (ws : List Cond) (rm : Room) (As : List Value) (f : Nat → va_E) (C : String) : Prop :=
  MetFree l y (headSpec ws rm) (va_Pc As (fp_BX D tys b n f)) (fun _ _ _ _ _ => True) (fun _ st o t => fp_TQ C st o t)
theorem fp_ofT {l : Launch} {D : va_G} {tys : List (ClassId × FieldType)} {b n : Nat} {y : MethodName} {rm : Room} {As : List Value} {f : Nat → va_E} {C : String} {cc : ByteArray} {maxL : Nat} {ret : Option FieldType} (hy : plainFor y = true) (hlen : (lg_sl As).length ≤ maxL) (hfl : l.flags = flags0)
    (body : ∀ (p : Program) (e : Env) (s : State) (m : MethodId) (args : Array Value) (below : List Frame) (meth : Method) (c : Code) (Q : State → Prop) (ls : Array Slot) (H : Heap) (locs : List Loc), fp_X p s m args c cc maxL y.cls D tys → fp_H D b n (fun _ => False) f s.heap H locs → lv_has ls maxL (lv_args 0 As) →
      fp_Ex b s → e.platform.stackTraces = false → (∀ pc : Nat, ∀ x ∈ c.exceptionTable.toList, covers x pc = false) → meth.locks = false → (∀ t : State, (∃ o, t.status = .running ∧ Ended t below o ∧ fp_TQ C s o t) → Q t) → W p l e rm s m args below meth c H locs 0 0 Q (F0 m 0 ls [])) : fp_T l D tys b n y (fp_ws y cc maxL ret) rm As f C := by
  refine MetFree.of_bodySF (code := cc) (maxLocals := maxL) (ret := ret) hy ?_ ?_
  · intro args s m h hn
    obtain ⟨meth, c, h1, h2, h3, h4, h5, h6, -, -⟩ := Cond.code_spec hn (atoms_spec (ws := fp_ws y cc maxL ret) h _ List.mem_cons_self)
    exact ⟨meth, c, h1, h2, h3, h4, h5, h6⟩
  · intro p e s m args below meth c s₁ B hml hP _
    have hh0 : s₁.heap = s.heap := by rw [B.state]; rfl
    have hts := atoms_spec (ws := fp_ws y cc maxL ret) B.pre
    obtain ⟨meth', c', hm', hc', -, -, -, -, hempty, -⟩ := Cond.code_spec B.named (hts _ List.mem_cons_self)
    cases B.method.symm.trans hm'
    have X₀ := Stand.of_body B
    cases X₀.code.symm.trans hc'
    obtain ⟨rfl, ⟨hP, hK, hN, hb0⟩, hEx⟩ := hP
    have hl := lv_entry As (n := maxL) hlen
    rw [lg_entry_eq]
    generalize (lg_sl As ++ List.replicate (maxL - (lg_sl As).length) Slot.unset).toArray = ls at hl ⊢
    obtain ⟨t, a1, o, b1, b2, b3⟩ := body p e s m _ below meth c (fun t => ∃ o, t.status = .running ∧ Ended t below o ∧ fp_TQ C s o t) ls s.heap [] ⟨⟨B.exec, B.bytes, hml, findClass_of_methodNamed B.named, fun w hw => hts w (List.mem_cons_of_mem _ hw)⟩, hK, hN⟩ ⟨hP, va_S.rf, hb0⟩ hl hEx (Launch.traces_off hfl X₀.admits) (fun pc => covers_of_empty hempty pc) B.notSynchronized (fun t h => h) s₁ hh0 X₀
    exact ⟨t, o, a1, b1, b2, b3⟩
end
section
/-! A call of a method that throws, and its handler; methods with handlers. -/
set_option maxHeartbeats 1000000 in
theorem fp_callT {p : Program} {l : Launch} {e : Env} {R : Room} {s : State} {m : MethodId} {args : Array Value} {below : List Frame} {meth : Method} {c : Code} {H : Heap} {locs : List Loc} {cells slots : Nat} {Q : State → Prop}
    {cc : ByteArray} {pc nL : Nat} {ls : Array Slot} {rest : List Value} {D : va_G} {a : Nat} {tys : List (ClassId × FieldType)} {b n : Nat} {A : Nat → Prop} {f : Nat → va_E} {own : String}
    {st0 : List Value} {y : MethodName} {bytes : ByteArray} {maxL index ci nA hp : Nat} {ret : Option FieldType} {rm : Room} {As : List Value} {fs : List Value} {q : vw_C} {C : String} (X : fp_X p s m args c cc nL own D tys) (Y : fp_H D b n A f s.heap H locs) (hEx : fp_Ex b s) (hbA : ∀ q : Nat, A q → b ≤ q)
    (hM : fp_T l D tys b n y (fp_ws y bytes maxL ret) rm (.ref a :: As) f C) (o : fp_o b n f a (.inr (ci, fs))) (hc : CL[ci]? = some q)
    (w1 : Cond.code y bytes maxL ret ∈ TG) (w2 : Cond.methodLink own index y ∈ TG) (w3 : Cond.instanceMethod y ∈ TG) (w4 : Cond.selects q.1 y y ∈ TG) (w5 : Cond.initialized y.cls ∈ TG)
    (hd : y.cls = q.1 ∧ y.cls ≠ "java/lang/invoke/MethodHandle" ∧ y.cls ≠ "java/lang/invoke/VarHandle" ∧ (parseMethodDescriptor y.desc).map (fun d => d.parameters.length) = some nA) (hrc : rm.cells = 1 ∧ rm.slots = 6) (hR : rm.frames + 1 ≤ R.frames ∧ 8 + (maxL + 11) + rm.locals ≤ R.locals)
    (hn : As.length = nA) (hsz : ls.size = nL) (hst : st0 = As.reverse ++ .ref a :: rest) (hroom : (rest.map fun v => v.category).sum ≤ 8) (hdg : decode cc pc = .ok (.invokevirtual index, 3)) (hcs : cells + 1 ≤ R.cells ∧ slots + 6 ≤ R.slots)
    (hfind : ∀ (S : State) (x : Addr) (cell : Cell), s.WarmedH S.vm → S.heap[x]? = some cell → cell.vm = .none → s.vm.findClass C = some cell.cls → e.platform.magicAccessors = ({} : Platform).magicAccessors →
      ∃ vm', s.WarmedH vm' ∧ ∀ (Q : Handler → Pre) (E : CtlPost) (d : Bool) (acts : List Action), wp (findHandler.go (F0 m pc ls rest) x c.exceptionTable.toList) Q E e d acts S ↔ Q (.found hp) d acts (S.setVm vm'))
    (kk : ∀ (x : Addr) (H1 : Heap) (locs1 : List Loc), fp_H D b n A f s.heap H1 locs1 → W p l e R s m args below meth c H1 locs1 (cells + 1) (slots + 6) Q (F0 m hp ls [.ref x])) : W p l e R s m args below meth c H locs cells slots Q (F0 m pc ls st0) := by
  subst hst
  obtain ⟨⟨hx, hb, hml, hown, hts⟩, hK, hN⟩ := X
  intro T hT X0
  obtain ⟨cellB, hcB, hoB, hclB⟩ := va_recv (H := H) hK (fp_one Y.1 o) hc (q0 := 0) rfl
  obtain ⟨mk, methM, hnamed, hmethM, hstM, habM⟩ := Cond.instanceMethod_spec (hts _ w3)
  obtain ⟨methM', cM, hmethM', hcodeM, -, hlocM, -, -, -, hsigM⟩ := Cond.code_spec hnamed (hts _ w1)
  cases hmethM.symm.trans hmethM'
  obtain ⟨c2, r2, m2, q1, q2, q3, q4, kP, hkP, hkPi⟩ := Cond.selects_spec (hts _ w4)
  cases hclB.symm.trans q1
  cases (State.methodFound?_of_named hnamed ⟨hd.2.1, hd.2.2.1⟩).symm.trans q2
  cases hnamed.symm.trans q3
  have hselP : selectMethod e.platform s.vm cellB.cls mk = .method mk := by rw [Launch.admits_selectMethod X0.admits]; exact q4
  have hlenA : As.length = methM.sig.parameters.length := by
    have h2 := hd.2.2.2
    rw [hsigM] at h2
    exact hn.trans (Option.some.inj h2).symm
  obtain ⟨vm₁, X₁, hstep₁⟩ := X0.invokevirtual hx hown (hts _ w2) hnamed hmethM hstM hkP hkPi ⟨hd.2.1, hd.2.2.1⟩ (a := a) (cell := cellB) (by rw [hT]; exact hcB) (fun z h => by rw [h] at hoB; cases hoB) hselP hmethM habM hkP hkPi (g := F0 m pc ls (As.reverse ++ .ref a :: rest)) rfl (argsL := As) (rest := rest) hlenA rfl (by rw [hb]; exact hdg)
  have hn₁ : (T.setVm vm₁).methodNamed? y = some mk := X₁.named hnamed
  have hws : ∀ w ∈ fp_ws y bytes maxL ret, ∀ (a' : Array Value) (U : State), s.WarmedH U.vm → w.before a' U = true := pay_in hts (fp_goodW w1)
  have hW₁ : s.WarmedH (T.setVm vm₁).vm := X₁.warmed
  obtain ⟨methY, cY, hmY, hcY, -, hlY, -, -, -, -⟩ := Cond.code_spec hn₁ (hws _ List.mem_cons_self (Value.ref a :: As).toArray (T.setVm vm₁) hW₁)
  obtain ⟨kY, hkY, -⟩ := className_of_methodNamed hn₁
  have hinitY : kY.init = .initialized := Cond.initialized_spec (findClass_of_methodNamed hn₁) hkY (hws _ (List.mem_cons_of_mem _ w5) (Value.ref a :: As).toArray (T.setVm vm₁) hW₁)
  have hsize : (F0 m pc ls rest).locals.size = c.maxLocals := hsz.trans hml.symm
  have h : At (T.setVm vm₁) (F0 m pc ls rest).method c below := X₁.here
  have hdg' : decode c.code (F0 m pc ls rest).pc = .ok (.invokevirtual index, 3) := by rw [hb]; exact hdg
  have hroom' : 2 * (F0 m pc ls rest).monitorRoom + ((F0 m pc ls rest).stack.map fun v => v.category).sum ≤ 8 := lv_room (m := m) (pc := pc) (ls := ls) (rest := rest) hroom
  have happ : (headSpec (fp_ws y bytes maxL ret) rm).appliesLoose y e.platform ((T.setVm vm₁).calling (F0 m pc ls rest) mk (Value.ref a :: As).toArray) = true :=
    Spec.appliesLoose_calling (g := F0 m pc ls rest) h hdg' hn₁ hkY hinitY
      (X₁.room_calling (g := F0 m pc ls rest) (R' := rm) hsize hmY hcY hR.1 (by rw [hlY]; have h9 := hR.2; omega) (by rw [hrc.1]; exact hcs.1) (by rw [hrc.2]; exact hcs.2)) (atoms_intro fun w hw => hws w hw _ _ hW₁)
  obtain ⟨mid, hmid⟩ := h.above
  have hfr : ((T.setVm vm₁).setTop (F0 m pc ls rest)).frames = (.java (F0 m pc ls rest) :: mid) ++ below := by rw [State.frames_setTop' (F0 m pc ls rest) h.top, hmid]; rfl
  have hheap : (T.setVm vm₁).heap = H := hT
  have hpre : va_Pc (.ref a :: As) (fp_BX D tys b n f) (Value.ref a :: As).toArray ((T.setVm vm₁).calling (F0 m pc ls rest) mk (Value.ref a :: As).toArray) := by
    refine ⟨rfl, ⟨?_, ?_, ?_, ?_⟩, ?_⟩
    · show fp_P D b n f (T.setVm vm₁).heap
      rw [hheap]; exact Y.1
    · exact va_K.moved (u := s) (U := (T.setVm vm₁).calling (F0 m pc ls rest) mk (Value.ref a :: As).toArray) hW₁.alike hK
    · exact fp_N.same (u := T.setVm vm₁) (U := (T.setVm vm₁).calling (F0 m pc ls rest) mk (Value.ref a :: As).toArray) rfl (hN.warm hW₁)
    · show b ≤ (T.setVm vm₁).heap.size
      rw [hheap]; exact Nat.le_trans Y.2.2 Y.2.1.1
    · refine fp_Ex.move (U := (T.setVm vm₁).calling (F0 m pc ls rest) mk (Value.ref a :: As).toArray) hW₁ (fun z hz => ?_) hEx
      show (T.setVm vm₁).heap[z]? = _
      rw [hheap]
      exact Y.2.1.2.1 z (Nat.lt_of_lt_of_le hz Y.2.2) (fun hA => absurd (hbA z hA) (by omega))
  obtain ⟨o2, s₂, hsteps, -, hend, hq⟩ := Steps.callFree hM p X₁.admits X₁.cas X₁.clock (acts := []) hfr happ hpre trivial
  obtain ⟨x, cell, rfl, hce, hcv, hcl, hWx, hsame⟩ := hq
  rw [State.frames_setTop' (F0 m pc ls rest) h.top, X₁.tail] at hend
  obtain ⟨T', X', hWT, hsameT, ht⟩ := X₁.outOfThrown (g := F0 m pc ls rest) rfl hend hWx hsame
  have hh' : T'.heap = s₂.heap := by rw [ht, Stand.throwing_heap]
  have hv' : T'.vm = s₂.vm := by rw [ht, Stand.throwing_vm]
  obtain ⟨vm', hW', hf⟩ := hfind ((T'.setTop (F0 m pc ls rest)).pushFrame (.throwing x)) x cell (by rw [Stand.throwing_vm]; exact X'.warmed) (by rw [Stand.throwing_heap, hh']; exact hce) hcv (by rw [← X'.warmed.alike.findClass, hv']; exact hcl) (by rw [X'.admits.platform])
  obtain ⟨X'', hst''⟩ := fh_caught X' rfl hW' hf
  rw [List.append_nil] at X''
  have hold : ∀ z : Nat, z < H.size → T'.heap[z]? = H[z]? := fun z hz => by
    have := fp_same hsameT z (by rw [hheap]; exact hz)
    rw [hheap] at this
    exact this
  have hszT : H.size ≤ T'.heap.size := by
    have := hsameT.2.1
    rw [hheap] at this
    exact this
  have Y' : fp_H D b n A f s.heap T'.heap locs := by
    refine ⟨fun z h1 h2 => ?_, ⟨Nat.le_trans Y.2.1.1 hszT, fun z h1 h2 => ?_, Y.2.1.2.2⟩, Y.2.2⟩
    · have hz := Y.1 z h1 h2
      exact hz.kept (hold z hz.lt)
    · rw [hold z (Nat.lt_of_lt_of_le h1 Y.2.1.1)]; exact Y.2.1.2.1 z h1 h2
  obtain ⟨t, a1, b1⟩ := kk x T'.heap locs Y' (T'.setVm vm') rfl X''
  refine ⟨t, hstep₁ _ (fun acts => ?_), b1⟩
  rw [doInvoke_state]
  refine hsteps.trans ?_
  rw [ht]
  exact hst'' t a1
/-- a contract of a method that may make a cell (an exception), over the whole world -/
def fp_MX (l : Launch) (D : va_G) (tys : List (ClassId × FieldType)) (b n : Nat) (A : Nat → Prop) (y : MethodName) (ws : List Cond) (rm : Room) (mc ms : Nat) (As : List Value) (f : Nat → va_E) (post : Option Value → (Nat → va_E) → Prop) : Prop :=
  Met l y ws rm (va_Pc As (fp_BX D tys b n f)) (fun _ => fp_E D b n A post) mc ms A
theorem fp_ofX {l : Launch} {D : va_G} {tys : List (ClassId × FieldType)} {b n : Nat} {A : Nat → Prop} {y : MethodName} {rm : Room} {mc ms : Nat} {As : List Value} {f : Nat → va_E} {post : Option Value → (Nat → va_E) → Prop} {cc : ByteArray} {maxL : Nat} {ty : FieldType} {hh : List (Nat × Nat × Nat × Nat)}
    (hy : plainName y.cls = true) (hlen : (lg_sl As).length ≤ maxL)
    (body : ∀ (p : Program) (e : Env) (s : State) (m : MethodId) (args : Array Value) (below : List Frame) (meth : Method) (c : Code) (Q : State → Prop) (ls : Array Slot) (H : Heap) (locs : List Loc), fp_X p s m args c cc maxL y.cls D tys → fp_H D b n A f s.heap H locs → lv_has ls maxL (lv_args 0 As) →
      fp_Ex b s → c.exceptionTable.toList = tableOf hh →
      (∀ (pc : Nat) (ls : Array Slot) (x : Int32) (f' : Nat → va_E) (H : Heap) (locs : List Loc) (cells slots : Nat), decode cc pc = .ok (.ireturn, 1) → narrow ty (.int x) = .int x → post (some (.int x)) f' → fp_H D b n A f' s.heap H locs → cells ≤ mc → slots ≤ ms → W p l e rm s m args below meth c H locs cells slots Q (F0 m pc ls [.int x])) →
      W p l e rm s m args below meth c H locs 0 0 Q (F0 m 0 ls [])) : fp_MX l D tys b n A y (Cond.codeWith y cc maxL (some ty) hh :: TG) rm mc ms As f post := by
  refine va_MetW (cc := cc) (maxL := maxL) (ret := some ty) (hh := hh) hy rfl ?_
  intro p e s m args below meth c s₁ B hml hv
  obtain ⟨rfl, ⟨hP, hK, hN, hb0⟩, hEx⟩ := hv
  have hl := lv_entry As (n := maxL) hlen
  rw [lg_entry_eq]
  generalize (lg_sl As ++ List.replicate (maxL - (lg_sl As).length) Slot.unset).toArray = ls at hl ⊢
  have hts := atoms_spec (ws := Cond.codeWith y cc maxL (some ty) hh :: TG) B.pre
  obtain ⟨m9, meth', c', hn9, hm', hc', -, -, htab, -, -, -⟩ := Cond.codeWith_spec (hts _ List.mem_cons_self)
  cases B.named.symm.trans hn9
  cases B.method.symm.trans hm'
  have X₀ := Stand.of_body B
  cases X₀.code.symm.trans hc'
  refine body p e s m _ below meth c _ ls s.heap [] ⟨⟨B.exec, B.bytes, hml, findClass_of_methodNamed B.named, fun w hw => hts w (List.mem_cons_of_mem _ hw)⟩, hK, hN⟩ ⟨hP, va_S.rf, hb0⟩ hl hEx (by rw [← htab]; exact (table_eq _).symm) ?_
  intro pc ls x f' H locs cells slots hd hnar hp Y h1 h2
  refine W.widen h1 h2 ?_
  exact W.zret B.exec B.bytes B.returns hnar (fun t ht hW => ⟨⟨_, f', rfl, hp, by rw [ht]; exact Y.1⟩, Y.2.1.F ht⟩) Y.2.1.2.2 hd (hlocks := B.notSynchronized)
end
