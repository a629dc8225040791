-- ===== PART A: goes FIRST, ahead of the names: the tables' words, and 'selects' of the private methods out of them =====
/-- a private method of a class that the tables say can be made, by its rows of tables_1 -/
def lw_okq (q : MethodName × Nat) : Prop := (q.1.cls ≠ "java/lang/invoke/MethodHandle" ∧ q.1.cls ≠ "java/lang/invoke/VarHandle") ∧ Cond.instantiable q.1.cls q.2 ∈ tables_1 ∧ Cond.privateMethod q.1 ∈ tables_1 ∧ Cond.instanceMethod q.1 ∈ tables_1
theorem lw_p0 : lw_okq (⟨"CellTransactions", "commandSucceeds", "(III)Z"⟩, 9) := ⟨⟨by decide +kernel, by decide +kernel⟩, List.mem_of_getElem? (i := 18) (by decide +kernel), List.mem_of_getElem? (i := 748) (by decide +kernel), List.mem_of_getElem? (i := 749) (by decide +kernel)⟩
theorem lw_p1 : lw_okq (⟨"CellTransactions", "stepsThrough", "(LCellTransactions$Worker;I)Z"⟩, 9) := ⟨⟨by decide +kernel, by decide +kernel⟩, List.mem_of_getElem? (i := 18) (by decide +kernel), List.mem_of_getElem? (i := 752) (by decide +kernel), List.mem_of_getElem? (i := 753) (by decide +kernel)⟩
theorem lw_p2 : lw_okq (⟨"CellTransactionsModel", "number", "(II)I"⟩, 34) := ⟨⟨by decide +kernel, by decide +kernel⟩, List.mem_of_getElem? (i := 777) (by decide +kernel), List.mem_of_getElem? (i := 902) (by decide +kernel), List.mem_of_getElem? (i := 903) (by decide +kernel)⟩
theorem lw_p3 : lw_okq (⟨"CellTransactionsModel", "parseThread", "()Z"⟩, 34) := ⟨⟨by decide +kernel, by decide +kernel⟩, List.mem_of_getElem? (i := 777) (by decide +kernel), List.mem_of_getElem? (i := 906) (by decide +kernel), List.mem_of_getElem? (i := 907) (by decide +kernel)⟩
theorem lw_p4 : lw_okq (⟨"CellTransactionsModel", "parseToken", "()Z"⟩, 34) := ⟨⟨by decide +kernel, by decide +kernel⟩, List.mem_of_getElem? (i := 777) (by decide +kernel), List.mem_of_getElem? (i := 910) (by decide +kernel), List.mem_of_getElem? (i := 911) (by decide +kernel)⟩
theorem lw_p5 : lw_okq (⟨"CellTransactionsModel", "put", "(II)V"⟩, 34) := ⟨⟨by decide +kernel, by decide +kernel⟩, List.mem_of_getElem? (i := 777) (by decide +kernel), List.mem_of_getElem? (i := 914) (by decide +kernel), List.mem_of_getElem? (i := 915) (by decide +kernel)⟩
theorem lw_p6 : lw_okq (⟨"CellTransactionsModel", "isInner", "(I)Z"⟩, 34) := ⟨⟨by decide +kernel, by decide +kernel⟩, List.mem_of_getElem? (i := 777) (by decide +kernel), List.mem_of_getElem? (i := 918) (by decide +kernel), List.mem_of_getElem? (i := 919) (by decide +kernel)⟩
theorem lw_p7 : lw_okq (⟨"CellTransactionsModel", "noThread", "(I)Z"⟩, 34) := ⟨⟨by decide +kernel, by decide +kernel⟩, List.mem_of_getElem? (i := 777) (by decide +kernel), List.mem_of_getElem? (i := 950) (by decide +kernel), List.mem_of_getElem? (i := 951) (by decide +kernel)⟩
theorem lw_p8 : lw_okq (⟨"CellTransactionsModel", "remember", "()V"⟩, 34) := ⟨⟨by decide +kernel, by decide +kernel⟩, List.mem_of_getElem? (i := 777) (by decide +kernel), List.mem_of_getElem? (i := 996) (by decide +kernel), List.mem_of_getElem? (i := 997) (by decide +kernel)⟩
theorem lw_p9 : lw_okq (⟨"CellTransactionsModel", "stepOn", "([II)I"⟩, 34) := ⟨⟨by decide +kernel, by decide +kernel⟩, List.mem_of_getElem? (i := 777) (by decide +kernel), List.mem_of_getElem? (i := 1000) (by decide +kernel), List.mem_of_getElem? (i := 1001) (by decide +kernel)⟩
theorem lw_p10 : lw_okq (⟨"CellTransactionsModel", "token", "([II)I"⟩, 34) := ⟨⟨by decide +kernel, by decide +kernel⟩, List.mem_of_getElem? (i := 777) (by decide +kernel), List.mem_of_getElem? (i := 1004) (by decide +kernel), List.mem_of_getElem? (i := 1005) (by decide +kernel)⟩
theorem lw_p11 : lw_okq (⟨"CellTransactionsModel", "retry", "([II)I"⟩, 34) := ⟨⟨by decide +kernel, by decide +kernel⟩, List.mem_of_getElem? (i := 777) (by decide +kernel), List.mem_of_getElem? (i := 1008) (by decide +kernel), List.mem_of_getElem? (i := 1009) (by decide +kernel)⟩
theorem lw_p12 : lw_okq (⟨"CellTransactionsModel", "abandon", "([II)I"⟩, 34) := ⟨⟨by decide +kernel, by decide +kernel⟩, List.mem_of_getElem? (i := 777) (by decide +kernel), List.mem_of_getElem? (i := 1027) (by decide +kernel), List.mem_of_getElem? (i := 1028) (by decide +kernel)⟩
theorem lw_p13 : lw_okq (⟨"CellTransactionsModel", "commit", "([II)I"⟩, 34) := ⟨⟨by decide +kernel, by decide +kernel⟩, List.mem_of_getElem? (i := 777) (by decide +kernel), List.mem_of_getElem? (i := 1040) (by decide +kernel), List.mem_of_getElem? (i := 1041) (by decide +kernel)⟩
theorem lw_p14 : lw_okq (⟨"CellTransactionsModel", "grow", "([II)V"⟩, 34) := ⟨⟨by decide +kernel, by decide +kernel⟩, List.mem_of_getElem? (i := 777) (by decide +kernel), List.mem_of_getElem? (i := 1044) (by decide +kernel), List.mem_of_getElem? (i := 1045) (by decide +kernel)⟩
theorem lw_p15 : lw_okq (⟨"CellTransactionsModel", "explore", "()V"⟩, 34) := ⟨⟨by decide +kernel, by decide +kernel⟩, List.mem_of_getElem? (i := 777) (by decide +kernel), List.mem_of_getElem? (i := 1070) (by decide +kernel), List.mem_of_getElem? (i := 1071) (by decide +kernel)⟩
def lw_privs_1 : List (MethodName × Nat) := [(⟨"CellTransactions", "commandSucceeds", "(III)Z"⟩, 9), (⟨"CellTransactions", "stepsThrough", "(LCellTransactions$Worker;I)Z"⟩, 9), (⟨"CellTransactionsModel", "number", "(II)I"⟩, 34), (⟨"CellTransactionsModel", "parseThread", "()Z"⟩, 34), (⟨"CellTransactionsModel", "parseToken", "()Z"⟩, 34), (⟨"CellTransactionsModel", "put", "(II)V"⟩, 34), (⟨"CellTransactionsModel", "isInner", "(I)Z"⟩, 34), (⟨"CellTransactionsModel", "noThread", "(I)Z"⟩, 34), (⟨"CellTransactionsModel", "remember", "()V"⟩, 34), (⟨"CellTransactionsModel", "stepOn", "([II)I"⟩, 34), (⟨"CellTransactionsModel", "token", "([II)I"⟩, 34), (⟨"CellTransactionsModel", "retry", "([II)I"⟩, 34), (⟨"CellTransactionsModel", "abandon", "([II)I"⟩, 34), (⟨"CellTransactionsModel", "commit", "([II)I"⟩, 34), (⟨"CellTransactionsModel", "grow", "([II)V"⟩, 34), (⟨"CellTransactionsModel", "explore", "()V"⟩, 34)]
theorem lw_r1 : ∀ q ∈ lw_privs_1, lw_okq q := List.forall_mem_cons.mpr ⟨lw_p0, List.forall_mem_cons.mpr ⟨lw_p1, List.forall_mem_cons.mpr ⟨lw_p2, List.forall_mem_cons.mpr ⟨lw_p3, List.forall_mem_cons.mpr ⟨lw_p4, List.forall_mem_cons.mpr ⟨lw_p5, List.forall_mem_cons.mpr ⟨lw_p6, List.forall_mem_cons.mpr ⟨lw_p7, List.forall_mem_cons.mpr ⟨lw_p8, List.forall_mem_cons.mpr ⟨lw_p9, List.forall_mem_cons.mpr ⟨lw_p10, List.forall_mem_cons.mpr ⟨lw_p11, List.forall_mem_cons.mpr ⟨lw_p12, List.forall_mem_cons.mpr ⟨lw_p13, List.forall_mem_cons.mpr ⟨lw_p14, List.forall_mem_cons.mpr ⟨lw_p15, fun _ h => absurd h List.not_mem_nil⟩⟩⟩⟩⟩⟩⟩⟩⟩⟩⟩⟩⟩⟩⟩⟩
theorem lw_p16 : lw_okq (⟨"CellTransactionsModel", "addKey", "(J)V"⟩, 34) := ⟨⟨by decide +kernel, by decide +kernel⟩, List.mem_of_getElem? (i := 777) (by decide +kernel), List.mem_of_getElem? (i := 1080) (by decide +kernel), List.mem_of_getElem? (i := 1081) (by decide +kernel)⟩
theorem lw_p17 : lw_okq (⟨"CellTransactionsModel", "schedule", "(JI)V"⟩, 34) := ⟨⟨by decide +kernel, by decide +kernel⟩, List.mem_of_getElem? (i := 777) (by decide +kernel), List.mem_of_getElem? (i := 1088) (by decide +kernel), List.mem_of_getElem? (i := 1089) (by decide +kernel)⟩
theorem lw_p18 : lw_okq (⟨"CellTransactionsModel", "addOutcome", "(J)V"⟩, 34) := ⟨⟨by decide +kernel, by decide +kernel⟩, List.mem_of_getElem? (i := 777) (by decide +kernel), List.mem_of_getElem? (i := 1098) (by decide +kernel), List.mem_of_getElem? (i := 1099) (by decide +kernel)⟩
theorem lw_p19 : lw_okq (⟨"CellTransactionsModel", "command", "(III)Z"⟩, 34) := ⟨⟨by decide +kernel, by decide +kernel⟩, List.mem_of_getElem? (i := 777) (by decide +kernel), List.mem_of_getElem? (i := 1125) (by decide +kernel), List.mem_of_getElem? (i := 1126) (by decide +kernel)⟩
theorem lw_p20 : lw_okq (⟨"CellTransactionsModel", "doneThreads", "()I"⟩, 34) := ⟨⟨by decide +kernel, by decide +kernel⟩, List.mem_of_getElem? (i := 777) (by decide +kernel), List.mem_of_getElem? (i := 1137) (by decide +kernel), List.mem_of_getElem? (i := 1138) (by decide +kernel)⟩
def lw_privs_2 : List (MethodName × Nat) := [(⟨"CellTransactionsModel", "addKey", "(J)V"⟩, 34), (⟨"CellTransactionsModel", "schedule", "(JI)V"⟩, 34), (⟨"CellTransactionsModel", "addOutcome", "(J)V"⟩, 34), (⟨"CellTransactionsModel", "command", "(III)Z"⟩, 34), (⟨"CellTransactionsModel", "doneThreads", "()I"⟩, 34)]
theorem lw_r2 : ∀ q ∈ lw_privs_2, lw_okq q := List.forall_mem_cons.mpr ⟨lw_p16, List.forall_mem_cons.mpr ⟨lw_p17, List.forall_mem_cons.mpr ⟨lw_p18, List.forall_mem_cons.mpr ⟨lw_p19, List.forall_mem_cons.mpr ⟨lw_p20, fun _ h => absurd h List.not_mem_nil⟩⟩⟩⟩⟩
def lw_privs : List (MethodName × Nat) := lw_privs_1 ++ (lw_privs_2)
def lw_tbl : List Cond := k2_sels lw_privs ++ tables_1
theorem lw_privs_ok : ∀ q ∈ lw_privs, lw_okq q := by
  show ∀ q ∈ lw_privs_1 ++ (lw_privs_2), lw_okq q
  exact List.forall_mem_append.mpr ⟨lw_r1, lw_r2⟩
/-! ===== BEGIN words of one list among another's, by their places ===== -/
theorem goodIn_r {big : List Cond} (ws : List Cond) (ps : List Nat) (hp : ws = ps.filterMap (fun i => big[i]?)) (h : ws.all goodWord = true) : GoodIn big ws := by
  intro w hw
  have h1 := List.all_eq_true.mp h w hw
  rw [hp] at hw
  obtain ⟨i, -, hi⟩ := List.mem_filterMap.mp hw
  have hm : w ∈ big := by first | exact List.mem_of_getElem? hi | exact List.getElem?_mem hi
  exact ⟨hm, good_of_word h1⟩
theorem goodIn_app {big a b : List Cond} (ha : GoodIn big a) (hb : GoodIn big b) : GoodIn big (a ++ b) := fun w h => (List.mem_append.mp h).elim (ha w) (hb w)
theorem goodIn_ca {big a b : List Cond} {c : Cond} (ha : GoodIn big (c :: a)) (hb : GoodIn big b) : GoodIn big (c :: (a ++ b)) := fun w h => (List.mem_cons.mp h).elim (fun e => ha w (List.mem_cons.mpr (Or.inl e))) (fun h => (List.mem_append.mp h).elim (fun h => ha w (List.mem_cons.mpr (Or.inr h))) (hb w))
theorem goodIn_sub {big ws : List Cond} (hm : ∀ w ∈ ws, w ∈ big) (h : ws.all goodWord = true) : GoodIn big ws := fun w hw => ⟨hm w hw, good_of_word (List.all_eq_true.mp h w hw)⟩
/-! ===== END ===== -/

/-! ===== BEGIN printed: names, fields, word lists, decode rows ===== -/
def RX0 : String := "CellTransactions$CellLog"
def TX0 : u_T := fun k => match k with
  | 0 => ("CellTransactions$CellLog", "cells", "I", false)
  | _ => ("CellTransactions$CellLog", "numbers", "[I", true)
def tyX0 : Nat → FieldType := fun k => match k with
  | 0 => .int
  | _ => .array .int
abbrev wsX00 : List Cond := u_ws RX0 TX0 2
theorem nmX0 : ∀ a, a < 2 → ∀ b, b < 2 → a ≠ b → (TX0 a).2.1 ≠ (TX0 b).2.1 := by decide +kernel
theorem tyX0_ok : ∀ k, k < 2 → parseFieldDescriptor (TX0 k).2.2.1 = some (tyX0 k) := by decide +kernel
abbrev cX0_init : ByteArray := prog_2_method_1_code
def yX0_init : MethodName := ⟨RX0, "<init>", "()V"⟩
abbrev cX0_holds : ByteArray := prog_2_method_2_code
def yX0_holds : MethodName := ⟨RX0, "holds", "(I)Z"⟩
abbrev cX0_put : ByteArray := prog_2_method_3_code
def yX0_put : MethodName := ⟨RX0, "put", "(II)V"⟩
abbrev cX0_copyFrom : ByteArray := prog_2_method_4_code
def yX0_copyFrom : MethodName := ⟨RX0, "copyFrom", "(LCellTransactions$CellLog;)V"⟩
def RX1 : String := "CellTransactions$History"
def TX1 : u_T := fun k => match k with
  | 0 => ("CellTransactions$History", "ring", "[LCellTransactions$World;", true)
  | 1 => ("CellTransactions$History", "count", "I", false)
  | _ => ("CellTransactions$History", "nextPlace", "I", false)
def tyX1 : Nat → FieldType := fun k => match k with
  | 0 => .array (.object "CellTransactions$World")
  | 1 => .int
  | _ => .int
abbrev wsX10 : List Cond := u_ws RX1 TX1 3
theorem nmX1 : ∀ a, a < 3 → ∀ b, b < 3 → a ≠ b → (TX1 a).2.1 ≠ (TX1 b).2.1 := by decide +kernel
theorem tyX1_ok : ∀ k, k < 3 → parseFieldDescriptor (TX1 k).2.2.1 = some (tyX1 k) := by decide +kernel
abbrev cX1_init : ByteArray := prog_3_method_1_code
def yX1_init : MethodName := ⟨RX1, "<init>", "([LCellTransactions$Program;)V"⟩
abbrev cX1_remember : ByteArray := prog_3_method_2_code
def yX1_remember : MethodName := ⟨RX1, "remember", "(LCellTransactions$World;)V"⟩
abbrev cX1_takeBack : ByteArray := prog_3_method_3_code
def yX1_takeBack : MethodName := ⟨RX1, "takeBack", "(LCellTransactions$World;)Z"⟩
abbrev cX1_forgetAll : ByteArray := prog_3_method_4_code
def yX1_forgetAll : MethodName := ⟨RX1, "forgetAll", "()V"⟩
def RX2 : String := "CellTransactions$KeySet"
def TX2 : u_T := fun k => match k with
  | 0 => ("CellTransactions$KeySet", "keys", "[J", true)
  | 1 => ("CellTransactions$KeySet", "size", "I", false)
  | _ => ("CellTransactions$KeySet", "table", "[I", true)
def tyX2 : Nat → FieldType := fun k => match k with
  | 0 => .array .long
  | 1 => .int
  | _ => .array .int
abbrev wsX20 : List Cond := u_ws RX2 TX2 3
theorem nmX2 : ∀ a, a < 3 → ∀ b, b < 3 → a ≠ b → (TX2 a).2.1 ≠ (TX2 b).2.1 := by decide +kernel
theorem tyX2_ok : ∀ k, k < 3 → parseFieldDescriptor (TX2 k).2.2.1 = some (tyX2 k) := by decide +kernel
abbrev cX2_init : ByteArray := prog_4_method_1_code
def yX2_init : MethodName := ⟨RX2, "<init>", "()V"⟩
abbrev cX2_clear : ByteArray := prog_4_method_2_code
def yX2_clear : MethodName := ⟨RX2, "clear", "()V"⟩
abbrev cX2_add : ByteArray := prog_4_method_3_code
def yX2_add : MethodName := ⟨RX2, "add", "(J)V"⟩
abbrev cX2_insert : ByteArray := prog_4_method_4_code
def yX2_insert : MethodName := ⟨RX2, "insert", "(IJ)V"⟩
def RX3 : String := "CellTransactions$Observations"
def TX3 : u_T := fun k => match k with
  | 0 => ("CellTransactions$Observations", "cells", "[I", true)
  | 1 => ("CellTransactions$Observations", "values", "[I", true)
  | 2 => ("CellTransactions$Observations", "count", "I", false)
  | _ => ("CellTransactions$Observations", "nextPlace", "I", false)
def tyX3 : Nat → FieldType := fun k => match k with
  | 0 => .array .int
  | 1 => .array .int
  | 2 => .int
  | _ => .int
abbrev wsX30 : List Cond := u_ws RX3 TX3 4
theorem nmX3 : ∀ a, a < 4 → ∀ b, b < 4 → a ≠ b → (TX3 a).2.1 ≠ (TX3 b).2.1 := by decide +kernel
theorem tyX3_ok : ∀ k, k < 4 → parseFieldDescriptor (TX3 k).2.2.1 = some (tyX3 k) := by decide +kernel
abbrev cX3_init : ByteArray := prog_5_method_1_code
def yX3_init : MethodName := ⟨RX3, "<init>", "()V"⟩
abbrev cX3_add : ByteArray := prog_5_method_2_code
def yX3_add : MethodName := ⟨RX3, "add", "(II)V"⟩
abbrev cX3_allow : ByteArray := prog_5_method_3_code
def yX3_allow : MethodName := ⟨RX3, "allow", "(J)Z"⟩
def RX4 : String := "CellTransactions$OpenBlock"
def TX4 : u_T := fun k => match k with
  | 0 => ("CellTransactions$OpenBlock", "sign", "C", false)
  | 1 => ("CellTransactions$OpenBlock", "inSecondBranch", "Z", false)
  | 2 => ("CellTransactions$OpenBlock", "behind", "I", false)
  | 3 => ("CellTransactions$OpenBlock", "sum", "I", false)
  | _ => ("CellTransactions$OpenBlock", "writes", "LCellTransactions$CellLog;", true)
def tyX4 : Nat → FieldType := fun k => match k with
  | 0 => .char
  | 1 => .boolean
  | 2 => .int
  | 3 => .int
  | _ => .object "CellTransactions$CellLog"
abbrev wsX40 : List Cond := u_ws RX4 TX4 5
theorem nmX4 : ∀ a, a < 5 → ∀ b, b < 5 → a ≠ b → (TX4 a).2.1 ≠ (TX4 b).2.1 := by decide +kernel
theorem tyX4_ok : ∀ k, k < 5 → parseFieldDescriptor (TX4 k).2.2.1 = some (tyX4 k) := by decide +kernel
abbrev cX4_init : ByteArray := prog_6_method_1_code
def yX4_init : MethodName := ⟨RX4, "<init>", "()V"⟩
abbrev cX4_copyFrom : ByteArray := prog_6_method_2_code
def yX4_copyFrom : MethodName := ⟨RX4, "copyFrom", "(LCellTransactions$OpenBlock;)V"⟩
def RX5 : String := "CellTransactions$Program"
def TX5 : u_T := fun k => match k with
  | 0 => ("CellTransactions$Program", "signs", "[C", true)
  | 1 => ("CellTransactions$Program", "numbers", "[I", true)
  | 2 => ("CellTransactions$Program", "partners", "[I", true)
  | 3 => ("CellTransactions$Program", "length", "I", false)
  | 4 => ("CellTransactions$Program", "unmatched", "[I", true)
  | _ => ("CellTransactions$Program", "depth", "I", false)
def tyX5 : Nat → FieldType := fun k => match k with
  | 0 => .array .char
  | 1 => .array .int
  | 2 => .array .int
  | 3 => .int
  | 4 => .array .int
  | _ => .int
abbrev wsX50 : List Cond := u_ws RX5 TX5 6
theorem nmX5 : ∀ a, a < 6 → ∀ b, b < 6 → a ≠ b → (TX5 a).2.1 ≠ (TX5 b).2.1 := by decide +kernel
theorem tyX5_ok : ∀ k, k < 6 → parseFieldDescriptor (TX5 k).2.2.1 = some (tyX5 k) := by decide +kernel
abbrev cX5_init : ByteArray := prog_7_method_1_code
def yX5_init : MethodName := ⟨RX5, "<init>", "()V"⟩
abbrev cX5_clear : ByteArray := prog_7_method_2_code
def yX5_clear : MethodName := ⟨RX5, "clear", "()V"⟩
abbrev cX5_add : ByteArray := prog_7_method_3_code
def yX5_add : MethodName := ⟨RX5, "add", "(CI)V"⟩
abbrev cX5_matchLast : ByteArray := prog_7_method_4_code
def yX5_matchLast : MethodName := ⟨RX5, "matchLast", "()V"⟩
abbrev cX5_leaveUnmatched : ByteArray := prog_7_method_5_code
def yX5_leaveUnmatched : MethodName := ⟨RX5, "leaveUnmatched", "()V"⟩
abbrev cX5_has : ByteArray := prog_7_method_6_code
def yX5_has : MethodName := ⟨RX5, "has", "(I)Z"⟩
abbrev cX5_behindPartner : ByteArray := prog_7_method_7_code
def yX5_behindPartner : MethodName := ⟨RX5, "behindPartner", "(I)I"⟩
def RX6 : String := "CellTransactions$Schedules"
def TX6 : u_T := fun k => match k with
  | 0 => ("CellTransactions$Schedules", "world", "LCellTransactions$World;", true)
  | 1 => ("CellTransactions$Schedules", "points", "LCellTransactions$KeySet;", true)
  | _ => ("CellTransactions$Schedules", "outcomes", "LCellTransactions$KeySet;", true)
def tyX6 : Nat → FieldType := fun k => match k with
  | 0 => .object "CellTransactions$World"
  | 1 => .object "CellTransactions$KeySet"
  | _ => .object "CellTransactions$KeySet"
abbrev wsX60 : List Cond := u_ws RX6 TX6 3
theorem nmX6 : ∀ a, a < 3 → ∀ b, b < 3 → a ≠ b → (TX6 a).2.1 ≠ (TX6 b).2.1 := by decide +kernel
theorem tyX6_ok : ∀ k, k < 3 → parseFieldDescriptor (TX6 k).2.2.1 = some (tyX6 k) := by decide +kernel
abbrev cX6_init : ByteArray := prog_8_method_1_code
def yX6_init : MethodName := ⟨RX6, "<init>", "([LCellTransactions$Program;)V"⟩
abbrev cX6_explore : ByteArray := prog_8_method_2_code
def yX6_explore : MethodName := ⟨RX6, "explore", "(LCellTransactions$World;)V"⟩
abbrev cX6_firstPoint : ByteArray := prog_8_method_3_code
def yX6_firstPoint : MethodName := ⟨RX6, "firstPoint", "()J"⟩
abbrev cX6_afterTransaction : ByteArray := prog_8_method_4_code
def yX6_afterTransaction : MethodName := ⟨RX6, "afterTransaction", "(JI)J"⟩
abbrev cX6_prepare : ByteArray := prog_8_method_5_code
def yX6_prepare : MethodName := ⟨RX6, "prepare", "(LCellTransactions$Worker;JI)V"⟩
abbrev cX6_afterCommit : ByteArray := prog_8_method_6_code
def yX6_afterCommit : MethodName := ⟨RX6, "afterCommit", "(JI)J"⟩
abbrev cX6_canRun : ByteArray := prog_8_method_7_code
def yX6_canRun : MethodName := ⟨RX6, "canRun", "(JI)Z"⟩
abbrev cX6_runsAt : ByteArray := prog_8_method_8_code
def yX6_runsAt : MethodName := ⟨RX6, "runsAt", "(JI)I"⟩
abbrev cX6_runBits : ByteArray := prog_8_method_9_code
def yX6_runBits : MethodName := ⟨RX6, "runBits", "(II)J"⟩
abbrev cX6_failedBit : ByteArray := prog_8_method_10_code
def yX6_failedBit : MethodName := ⟨RX6, "failedBit", "(I)J"⟩
abbrev cX6_blockedBit : ByteArray := prog_8_method_11_code
def yX6_blockedBit : MethodName := ⟨RX6, "blockedBit", "(I)J"⟩
abbrev cX6_valueBits : ByteArray := prog_8_method_12_code
def yX6_valueBits : MethodName := ⟨RX6, "valueBits", "([I)J"⟩
abbrev cX6_cellValue : ByteArray := prog_8_method_13_code
def yX6_cellValue : MethodName := ⟨RX6, "cellValue", "(JI)I"⟩
def RX7 : String := "CellTransactions$SetupCheck"
def TX7 : u_T := fun k => match k with
  | 0 => ("CellTransactions$SetupCheck", "expected", "I", false)
  | 1 => ("CellTransactions$SetupCheck", "valuesRead", "I", false)
  | 2 => ("CellTransactions$SetupCheck", "threadsRead", "I", false)
  | 3 => ("CellTransactions$SetupCheck", "depth", "I", false)
  | _ => ("CellTransactions$SetupCheck", "awaited", "[C", true)
def tyX7 : Nat → FieldType := fun k => match k with
  | 0 => .int
  | 1 => .int
  | 2 => .int
  | 3 => .int
  | _ => .array .char
abbrev wsX70 : List Cond := u_ws RX7 TX7 5
theorem nmX7 : ∀ a, a < 5 → ∀ b, b < 5 → a ≠ b → (TX7 a).2.1 ≠ (TX7 b).2.1 := by decide +kernel
theorem tyX7_ok : ∀ k, k < 5 → parseFieldDescriptor (TX7 k).2.2.1 = some (tyX7 k) := by decide +kernel
abbrev cX7_init : ByteArray := prog_9_method_1_code
def yX7_init : MethodName := ⟨RX7, "<init>", "()V"⟩
abbrev cX7_begin : ByteArray := prog_9_method_2_code
def yX7_begin : MethodName := ⟨RX7, "begin", "()V"⟩
abbrev cX7_isComplete : ByteArray := prog_9_method_3_code
def yX7_isComplete : MethodName := ⟨RX7, "isComplete", "()Z"⟩
abbrev cX7_takes : ByteArray := prog_9_method_4_code
def yX7_takes : MethodName := ⟨RX7, "takes", "(C)Z"⟩
abbrev cX7_takesToken : ByteArray := prog_9_method_5_code
def yX7_takesToken : MethodName := ⟨RX7, "takesToken", "(C)Z"⟩
abbrev cX7_opens : ByteArray := prog_9_method_6_code
def yX7_opens : MethodName := ⟨RX7, "opens", "(C)Z"⟩
abbrev cX7_closes : ByteArray := prog_9_method_7_code
def yX7_closes : MethodName := ⟨RX7, "closes", "(C)Z"⟩
abbrev cX7_wantsCell : ByteArray := prog_9_method_8_code
def yX7_wantsCell : MethodName := ⟨RX7, "wantsCell", "(C)Z"⟩
abbrev cX7_wantsNumber : ByteArray := prog_9_method_9_code
def yX7_wantsNumber : MethodName := ⟨RX7, "wantsNumber", "(C)Z"⟩
def RX8 : String := "CellTransactions$SetupText"
def TX8 : u_T := fun k => match k with
  | 0 => ("CellTransactions$SetupText", "signs", "[C", true)
  | 1 => ("CellTransactions$SetupText", "length", "I", false)
  | _ => ("CellTransactions$SetupText", "check", "LCellTransactions$SetupCheck;", true)
def tyX8 : Nat → FieldType := fun k => match k with
  | 0 => .array .char
  | 1 => .int
  | _ => .object "CellTransactions$SetupCheck"
abbrev wsX80 : List Cond := u_ws RX8 TX8 3
theorem nmX8 : ∀ a, a < 3 → ∀ b, b < 3 → a ≠ b → (TX8 a).2.1 ≠ (TX8 b).2.1 := by decide +kernel
theorem tyX8_ok : ∀ k, k < 3 → parseFieldDescriptor (TX8 k).2.2.1 = some (tyX8 k) := by decide +kernel
abbrev cX8_init : ByteArray := prog_10_method_1_code
def yX8_init : MethodName := ⟨RX8, "<init>", "()V"⟩
abbrev cX8_add : ByteArray := prog_10_method_2_code
def yX8_add : MethodName := ⟨RX8, "add", "(C)Z"⟩
abbrev cX8_firstError : ByteArray := prog_10_method_3_code
def yX8_firstError : MethodName := ⟨RX8, "firstError", "()I"⟩
abbrev cX8_fill : ByteArray := prog_10_method_4_code
def yX8_fill : MethodName := ⟨RX8, "fill", "(LCellTransactions$World;[LCellTransactions$Program;)V"⟩
abbrev cX8_fillProgram : ByteArray := prog_10_method_5_code
def yX8_fillProgram : MethodName := ⟨RX8, "fillProgram", "(LCellTransactions$Program;I)I"⟩
abbrev cX8_digitAt : ByteArray := prog_10_method_6_code
def yX8_digitAt : MethodName := ⟨RX8, "digitAt", "(I)I"⟩
def RX9 : String := "CellTransactions$Worker"
def TX9 : u_T := fun k => match k with
  | 0 => ("CellTransactions$Worker", "program", "LCellTransactions$Program;", true)
  | 1 => ("CellTransactions$Worker", "condition", "I", false)
  | 2 => ("CellTransactions$Worker", "runs", "I", false)
  | 3 => ("CellTransactions$Worker", "timesRestarted", "I", false)
  | 4 => ("CellTransactions$Worker", "sum", "I", false)
  | 5 => ("CellTransactions$Worker", "next", "I", false)
  | 6 => ("CellTransactions$Worker", "reads", "LCellTransactions$CellLog;", true)
  | 7 => ("CellTransactions$Worker", "writes", "LCellTransactions$CellLog;", true)
  | 8 => ("CellTransactions$Worker", "open", "[LCellTransactions$OpenBlock;", true)
  | _ => ("CellTransactions$Worker", "openCount", "I", false)
def tyX9 : Nat → FieldType := fun k => match k with
  | 0 => .object "CellTransactions$Program"
  | 1 => .int
  | 2 => .int
  | 3 => .int
  | 4 => .int
  | 5 => .int
  | 6 => .object "CellTransactions$CellLog"
  | 7 => .object "CellTransactions$CellLog"
  | 8 => .array (.object "CellTransactions$OpenBlock")
  | _ => .int
abbrev wsX90 : List Cond := u_ws RX9 TX9 10
theorem nmX9 : ∀ a, a < 10 → ∀ b, b < 10 → a ≠ b → (TX9 a).2.1 ≠ (TX9 b).2.1 := by decide +kernel
theorem tyX9_ok : ∀ k, k < 10 → parseFieldDescriptor (TX9 k).2.2.1 = some (tyX9 k) := by decide +kernel
abbrev cX9_init : ByteArray := prog_11_method_1_code
def yX9_init : MethodName := ⟨RX9, "<init>", "(LCellTransactions$Program;)V"⟩
abbrev cX9_become : ByteArray := prog_11_method_2_code
def yX9_become : MethodName := ⟨RX9, "become", "(I)V"⟩
abbrev cX9_startAgain : ByteArray := prog_11_method_3_code
def yX9_startAgain : MethodName := ⟨RX9, "startAgain", "()V"⟩
abbrev cX9_openBlock : ByteArray := prog_11_method_4_code
def yX9_openBlock : MethodName := ⟨RX9, "openBlock", "(C)V"⟩
abbrev cX9_closeBlock : ByteArray := prog_11_method_5_code
def yX9_closeBlock : MethodName := ⟨RX9, "closeBlock", "()V"⟩
abbrev cX9_goBack : ByteArray := prog_11_method_6_code
def yX9_goBack : MethodName := ⟨RX9, "goBack", "(C)I"⟩
abbrev cX9_copyFrom : ByteArray := prog_11_method_7_code
def yX9_copyFrom : MethodName := ⟨RX9, "copyFrom", "(LCellTransactions$Worker;)V"⟩
def RX10 : String := "CellTransactions$World"
def TX10 : u_T := fun k => match k with
  | 0 => ("CellTransactions$World", "values", "[I", true)
  | 1 => ("CellTransactions$World", "versions", "[I", true)
  | 2 => ("CellTransactions$World", "workers", "[LCellTransactions$Worker;", true)
  | 3 => ("CellTransactions$World", "threads", "I", false)
  | 4 => ("CellTransactions$World", "firstCells", "[I", true)
  | 5 => ("CellTransactions$World", "secondCells", "[I", true)
  | 6 => ("CellTransactions$World", "leastSums", "[I", true)
  | _ => ("CellTransactions$World", "invariants", "I", false)
def tyX10 : Nat → FieldType := fun k => match k with
  | 0 => .array .int
  | 1 => .array .int
  | 2 => .array (.object "CellTransactions$Worker")
  | 3 => .int
  | 4 => .array .int
  | 5 => .array .int
  | 6 => .array .int
  | _ => .int
abbrev wsX100 : List Cond := u_ws RX10 TX10 8
theorem nmX10 : ∀ a, a < 8 → ∀ b, b < 8 → a ≠ b → (TX10 a).2.1 ≠ (TX10 b).2.1 := by decide +kernel
theorem tyX10_ok : ∀ k, k < 8 → parseFieldDescriptor (TX10 k).2.2.1 = some (tyX10 k) := by decide +kernel
abbrev cX10_init : ByteArray := prog_12_method_1_code
def yX10_init : MethodName := ⟨RX10, "<init>", "([LCellTransactions$Program;)V"⟩
abbrev cX10_clear : ByteArray := prog_12_method_2_code
def yX10_clear : MethodName := ⟨RX10, "clear", "()V"⟩
abbrev cX10_addThread : ByteArray := prog_12_method_3_code
def yX10_addThread : MethodName := ⟨RX10, "addThread", "(I)V"⟩
abbrev cX10_hasThread : ByteArray := prog_12_method_4_code
def yX10_hasThread : MethodName := ⟨RX10, "hasThread", "(I)Z"⟩
abbrev cX10_threadsDone : ByteArray := prog_12_method_5_code
def yX10_threadsDone : MethodName := ⟨RX10, "threadsDone", "()I"⟩
abbrev cX10_demand : ByteArray := prog_12_method_6_code
def yX10_demand : MethodName := ⟨RX10, "demand", "(III)V"⟩
abbrev cX10_valueFor : ByteArray := prog_12_method_7_code
def yX10_valueFor : MethodName := ⟨RX10, "valueFor", "(LCellTransactions$Worker;I)I"⟩
abbrev cX10_store : ByteArray := prog_12_method_8_code
def yX10_store : MethodName := ⟨RX10, "store", "(II)V"⟩
abbrev cX10_advance : ByteArray := prog_12_method_9_code
def yX10_advance : MethodName := ⟨RX10, "advance", "(LCellTransactions$Worker;)I"⟩
abbrev cX10_execute : ByteArray := prog_12_method_10_code
def yX10_execute : MethodName := ⟨RX10, "execute", "(LCellTransactions$Worker;CI)I"⟩
abbrev cX10_read : ByteArray := prog_12_method_11_code
def yX10_read : MethodName := ⟨RX10, "read", "(LCellTransactions$Worker;I)V"⟩
abbrev cX10_retry : ByteArray := prog_12_method_12_code
def yX10_retry : MethodName := ⟨RX10, "retry", "(LCellTransactions$Worker;)I"⟩
abbrev cX10_abandon : ByteArray := prog_12_method_13_code
def yX10_abandon : MethodName := ⟨RX10, "abandon", "(LCellTransactions$Worker;)I"⟩
abbrev cX10_commit : ByteArray := prog_12_method_14_code
def yX10_commit : MethodName := ⟨RX10, "commit", "(LCellTransactions$Worker;)I"⟩
abbrev cX10_readsAreCurrent : ByteArray := prog_12_method_15_code
def yX10_readsAreCurrent : MethodName := ⟨RX10, "readsAreCurrent", "(LCellTransactions$Worker;)Z"⟩
abbrev cX10_invariantsWouldHold : ByteArray := prog_12_method_16_code
def yX10_invariantsWouldHold : MethodName := ⟨RX10, "invariantsWouldHold", "(LCellTransactions$Worker;)Z"⟩
abbrev cX10_copyFrom : ByteArray := prog_12_method_17_code
def yX10_copyFrom : MethodName := ⟨RX10, "copyFrom", "(LCellTransactions$World;)V"⟩
def RX11 : String := "CellTransactions"
def TX11 : u_T := fun k => match k with
  | 0 => ("CellTransactions", "text", "LCellTransactions$SetupText;", true)
  | 1 => ("CellTransactions", "programs", "[LCellTransactions$Program;", true)
  | 2 => ("CellTransactions", "present", "LCellTransactions$World;", true)
  | 3 => ("CellTransactions", "history", "LCellTransactions$History;", true)
  | 4 => ("CellTransactions", "saved", "[LCellTransactions$World;", true)
  | 5 => ("CellTransactions", "slotFilled", "[Z", true)
  | 6 => ("CellTransactions", "scriptWorld", "LCellTransactions$World;", true)
  | 7 => ("CellTransactions", "observations", "LCellTransactions$Observations;", true)
  | _ => ("CellTransactions", "schedules", "LCellTransactions$Schedules;", true)
def tyX11 : Nat → FieldType := fun k => match k with
  | 0 => .object "CellTransactions$SetupText"
  | 1 => .array (.object "CellTransactions$Program")
  | 2 => .object "CellTransactions$World"
  | 3 => .object "CellTransactions$History"
  | 4 => .array (.object "CellTransactions$World")
  | 5 => .array .boolean
  | 6 => .object "CellTransactions$World"
  | 7 => .object "CellTransactions$Observations"
  | _ => .object "CellTransactions$Schedules"
abbrev wsX110 : List Cond := u_ws RX11 TX11 9
theorem nmX11 : ∀ a, a < 9 → ∀ b, b < 9 → a ≠ b → (TX11 a).2.1 ≠ (TX11 b).2.1 := by decide +kernel
theorem tyX11_ok : ∀ k, k < 9 → parseFieldDescriptor (TX11 k).2.2.1 = some (tyX11 k) := by decide +kernel
abbrev cX11_init : ByteArray := prog_1_method_1_code
def yX11_init : MethodName := ⟨RX11, "<init>", "()V"⟩
abbrev cX11_append : ByteArray := prog_1_method_2_code
def yX11_append : MethodName := ⟨RX11, "append", "(I)I"⟩
abbrev cX11_clearText : ByteArray := prog_1_method_3_code
def yX11_clearText : MethodName := ⟨RX11, "clearText", "()I"⟩
abbrev cX11_errorPosition : ByteArray := prog_1_method_4_code
def yX11_errorPosition : MethodName := ⟨RX11, "errorPosition", "()I"⟩
abbrev cX11_load : ByteArray := prog_1_method_5_code
def yX11_load : MethodName := ⟨RX11, "load", "()I"⟩
abbrev cX11_value : ByteArray := prog_1_method_6_code
def yX11_value : MethodName := ⟨RX11, "value", "(I)I"⟩
abbrev cX11_version : ByteArray := prog_1_method_7_code
def yX11_version : MethodName := ⟨RX11, "version", "(I)I"⟩
abbrev cX11_threadCount : ByteArray := prog_1_method_8_code
def yX11_threadCount : MethodName := ⟨RX11, "threadCount", "()I"⟩
abbrev cX11_state : ByteArray := prog_1_method_9_code
def yX11_state : MethodName := ⟨RX11, "state", "(I)I"⟩
abbrev cX11_position : ByteArray := prog_1_method_10_code
def yX11_position : MethodName := ⟨RX11, "position", "(I)I"⟩
abbrev cX11_accumulator : ByteArray := prog_1_method_11_code
def yX11_accumulator : MethodName := ⟨RX11, "accumulator", "(I)I"⟩
abbrev cX11_seenValue : ByteArray := prog_1_method_12_code
def yX11_seenValue : MethodName := ⟨RX11, "seenValue", "(II)I"⟩
abbrev cX11_readSet : ByteArray := prog_1_method_13_code
def yX11_readSet : MethodName := ⟨RX11, "readSet", "(I)I"⟩
abbrev cX11_writeSet : ByteArray := prog_1_method_14_code
def yX11_writeSet : MethodName := ⟨RX11, "writeSet", "(I)I"⟩
abbrev cX11_openBlocks : ByteArray := prog_1_method_15_code
def yX11_openBlocks : MethodName := ⟨RX11, "openBlocks", "(I)I"⟩
abbrev cX11_runsLeft : ByteArray := prog_1_method_16_code
def yX11_runsLeft : MethodName := ⟨RX11, "runsLeft", "(I)I"⟩
abbrev cX11_restarts : ByteArray := prog_1_method_17_code
def yX11_restarts : MethodName := ⟨RX11, "restarts", "(I)I"⟩
abbrev cX11_step : ByteArray := prog_1_method_18_code
def yX11_step : MethodName := ⟨RX11, "step", "(I)I"⟩
abbrev cX11_run : ByteArray := prog_1_method_19_code
def yX11_run : MethodName := ⟨RX11, "run", "(I)I"⟩
abbrev cX11_setCell : ByteArray := prog_1_method_20_code
def yX11_setCell : MethodName := ⟨RX11, "setCell", "(II)I"⟩
abbrev cX11_addInvariant : ByteArray := prog_1_method_21_code
def yX11_addInvariant : MethodName := ⟨RX11, "addInvariant", "(III)I"⟩
abbrev cX11_undo : ByteArray := prog_1_method_22_code
def yX11_undo : MethodName := ⟨RX11, "undo", "()I"⟩
abbrev cX11_outcomeCount : ByteArray := prog_1_method_23_code
def yX11_outcomeCount : MethodName := ⟨RX11, "outcomeCount", "()I"⟩
abbrev cX11_possibleOutcomes : ByteArray := prog_1_method_24_code
def yX11_possibleOutcomes : MethodName := ⟨RX11, "possibleOutcomes", "()I"⟩
abbrev cX11_canDeadlock : ByteArray := prog_1_method_25_code
def yX11_canDeadlock : MethodName := ⟨RX11, "canDeadlock", "()I"⟩
abbrev cX11_greatestOutcome : ByteArray := prog_1_method_26_code
def yX11_greatestOutcome : MethodName := ⟨RX11, "greatestOutcome", "(I)I"⟩
abbrev cX11_runScript : ByteArray := prog_1_method_27_code
def yX11_runScript : MethodName := ⟨RX11, "runScript", "(IJ)I"⟩
abbrev cX11_observe : ByteArray := prog_1_method_28_code
def yX11_observe : MethodName := ⟨RX11, "observe", "(II)I"⟩
abbrev cX11_save : ByteArray := prog_1_method_29_code
def yX11_save : MethodName := ⟨RX11, "save", "(I)I"⟩
abbrev cX11_restore : ByteArray := prog_1_method_30_code
def yX11_restore : MethodName := ⟨RX11, "restore", "(I)I"⟩
abbrev cX11_commandSucceeds : ByteArray := prog_1_method_31_code
def yX11_commandSucceeds : MethodName := ⟨RX11, "commandSucceeds", "(III)Z"⟩
abbrev cX11_stepsThrough : ByteArray := prog_1_method_32_code
def yX11_stepsThrough : MethodName := ⟨RX11, "stepsThrough", "(LCellTransactions$Worker;I)Z"⟩
abbrev cX11_isCell : ByteArray := prog_1_method_33_code
def yX11_isCell : MethodName := ⟨RX11, "isCell", "(I)Z"⟩
abbrev cX11_isValue : ByteArray := prog_1_method_34_code
def yX11_isValue : MethodName := ⟨RX11, "isValue", "(I)Z"⟩
abbrev cX11_clamp : ByteArray := prog_1_method_35_code
def yX11_clamp : MethodName := ⟨RX11, "clamp", "(I)I"⟩
def RX12 : String := "CellTransactionsModel"
def TX12 : u_T := fun k => match k with
  | 0 => ("CellTransactionsModel", "thrown", "I", false)
  | 1 => ("CellTransactionsModel", "text", "[I", true)
  | 2 => ("CellTransactionsModel", "textSize", "I", false)
  | 3 => ("CellTransactionsModel", "pos", "I", false)
  | 4 => ("CellTransactionsModel", "threads", "I", false)
  | 5 => ("CellTransactionsModel", "tokens", "[I", true)
  | 6 => ("CellTransactionsModel", "letter", "[I", true)
  | 7 => ("CellTransactionsModel", "digit", "[I", true)
  | 8 => ("CellTransactionsModel", "bar", "[I", true)
  | 9 => ("CellTransactionsModel", "close", "[I", true)
  | 10 => ("CellTransactionsModel", "state", "[I", true)
  | 11 => ("CellTransactionsModel", "copy", "[I", true)
  | 12 => ("CellTransactionsModel", "history", "[I", true)
  | 13 => ("CellTransactionsModel", "remembered", "I", false)
  | 14 => ("CellTransactionsModel", "slots", "[I", true)
  | 15 => ("CellTransactionsModel", "slotUsed", "[Z", true)
  | 16 => ("CellTransactionsModel", "observed", "I", false)
  | 17 => ("CellTransactionsModel", "observedCell", "[I", true)
  | 18 => ("CellTransactionsModel", "observedValue", "[I", true)
  | 19 => ("CellTransactionsModel", "parsedThreads", "I", false)
  | 20 => ("CellTransactionsModel", "parsedValues", "[I", true)
  | 21 => ("CellTransactionsModel", "parsedRuns", "[I", true)
  | 22 => ("CellTransactionsModel", "parsedTokens", "[I", true)
  | 23 => ("CellTransactionsModel", "parsedLetter", "[I", true)
  | 24 => ("CellTransactionsModel", "parsedDigit", "[I", true)
  | 25 => ("CellTransactionsModel", "parsedBar", "[I", true)
  | 26 => ("CellTransactionsModel", "parsedClose", "[I", true)
  | 27 => ("CellTransactionsModel", "stack", "[I", true)
  | 28 => ("CellTransactionsModel", "top", "I", false)
  | 29 => ("CellTransactionsModel", "wroteBits", "I", false)
  | 30 => ("CellTransactionsModel", "keys", "[J", true)
  | 31 => ("CellTransactionsModel", "keyCount", "I", false)
  | 32 => ("CellTransactionsModel", "outcomes", "[J", true)
  | _ => ("CellTransactionsModel", "outcomeTotal", "I", false)
def tyX12 : Nat → FieldType := fun k => match k with
  | 0 => .int
  | 1 => .array .int
  | 2 => .int
  | 3 => .int
  | 4 => .int
  | 5 => .array .int
  | 6 => .array .int
  | 7 => .array .int
  | 8 => .array .int
  | 9 => .array .int
  | 10 => .array .int
  | 11 => .array .int
  | 12 => .array .int
  | 13 => .int
  | 14 => .array .int
  | 15 => .array .boolean
  | 16 => .int
  | 17 => .array .int
  | 18 => .array .int
  | 19 => .int
  | 20 => .array .int
  | 21 => .array .int
  | 22 => .array .int
  | 23 => .array .int
  | 24 => .array .int
  | 25 => .array .int
  | 26 => .array .int
  | 27 => .array .int
  | 28 => .int
  | 29 => .int
  | 30 => .array .long
  | 31 => .int
  | 32 => .array .long
  | _ => .int
abbrev wsX120 : List Cond := u_ws RX12 TX12 34
theorem nmX12 : ∀ a, a < 34 → ∀ b, b < 34 → a ≠ b → (TX12 a).2.1 ≠ (TX12 b).2.1 := by decide +kernel
theorem tyX12_ok : ∀ k, k < 34 → parseFieldDescriptor (TX12 k).2.2.1 = some (tyX12 k) := by decide +kernel
abbrev cX12_init : ByteArray := prog_14_method_1_code
def yX12_init : MethodName := ⟨RX12, "<init>", "()V"⟩
abbrev cX12_in : ByteArray := prog_14_method_3_code
def yX12_in : MethodName := ⟨RX12, "in", "(JJJ)Z"⟩
abbrev cX12_has : ByteArray := prog_14_method_4_code
def yX12_has : MethodName := ⟨RX12, "has", "(II)Z"⟩
abbrev cX12_clamp : ByteArray := prog_14_method_5_code
def yX12_clamp : MethodName := ⟨RX12, "clamp", "(I)I"⟩
abbrev cX12_assign : ByteArray := prog_14_method_6_code
def yX12_assign : MethodName := ⟨RX12, "assign", "([I[I)V"⟩
abbrev cX12_at : ByteArray := prog_14_method_7_code
def yX12_at : MethodName := ⟨RX12, "at", "(I)I"⟩
abbrev cX12_begin : ByteArray := prog_14_method_8_code
def yX12_begin : MethodName := ⟨RX12, "begin", "([II)V"⟩
abbrev cX12_stop : ByteArray := prog_14_method_9_code
def yX12_stop : MethodName := ⟨RX12, "stop", "([III)V"⟩
abbrev cX12_restart : ByteArray := prog_14_method_10_code
def yX12_restart : MethodName := ⟨RX12, "restart", "([II)I"⟩
abbrev cX12_isValid : ByteArray := prog_14_method_11_code
def yX12_isValid : MethodName := ⟨RX12, "isValid", "([II)Z"⟩
abbrev cX12_sees : ByteArray := prog_14_method_12_code
def yX12_sees : MethodName := ⟨RX12, "sees", "([III)I"⟩
abbrev cX12_grow : ByteArray := prog_14_method_13_code
def yX12_grow : MethodName := ⟨RX12, "grow", "([II)V"⟩
abbrev cX12_commit : ByteArray := prog_14_method_14_code
def yX12_commit : MethodName := ⟨RX12, "commit", "([II)I"⟩
abbrev cX12_openBlock : ByteArray := prog_14_method_15_code
def yX12_openBlock : MethodName := ⟨RX12, "openBlock", "([III)V"⟩
abbrev cX12_bringBack : ByteArray := prog_14_method_16_code
def yX12_bringBack : MethodName := ⟨RX12, "bringBack", "([III)V"⟩
abbrev cX12_retry : ByteArray := prog_14_method_17_code
def yX12_retry : MethodName := ⟨RX12, "retry", "([II)I"⟩
abbrev cX12_abandon : ByteArray := prog_14_method_18_code
def yX12_abandon : MethodName := ⟨RX12, "abandon", "([II)I"⟩
abbrev cX12_readCell : ByteArray := prog_14_method_19_code
def yX12_readCell : MethodName := ⟨RX12, "readCell", "([III)V"⟩
abbrev cX12_token : ByteArray := prog_14_method_20_code
def yX12_token : MethodName := ⟨RX12, "token", "([II)I"⟩
abbrev cX12_stepOn : ByteArray := prog_14_method_21_code
def yX12_stepOn : MethodName := ⟨RX12, "stepOn", "([II)I"⟩
abbrev cX12_append : ByteArray := prog_14_method_22_code
def yX12_append : MethodName := ⟨RX12, "append", "(I)I"⟩
abbrev cX12_clearText : ByteArray := prog_14_method_23_code
def yX12_clearText : MethodName := ⟨RX12, "clearText", "()I"⟩
abbrev cX12_number : ByteArray := prog_14_method_24_code
def yX12_number : MethodName := ⟨RX12, "number", "(II)I"⟩
abbrev cX12_put : ByteArray := prog_14_method_25_code
def yX12_put : MethodName := ⟨RX12, "put", "(II)V"⟩
abbrev cX12_isInner : ByteArray := prog_14_method_26_code
def yX12_isInner : MethodName := ⟨RX12, "isInner", "(I)Z"⟩
abbrev cX12_parseToken : ByteArray := prog_14_method_27_code
def yX12_parseToken : MethodName := ⟨RX12, "parseToken", "()Z"⟩
abbrev cX12_parseThread : ByteArray := prog_14_method_28_code
def yX12_parseThread : MethodName := ⟨RX12, "parseThread", "()Z"⟩
abbrev cX12_errorPosition : ByteArray := prog_14_method_29_code
def yX12_errorPosition : MethodName := ⟨RX12, "errorPosition", "()I"⟩
abbrev cX12_load : ByteArray := prog_14_method_30_code
def yX12_load : MethodName := ⟨RX12, "load", "()I"⟩
abbrev cX12_noCell : ByteArray := prog_14_method_31_code
def yX12_noCell : MethodName := ⟨RX12, "noCell", "(I)Z"⟩
abbrev cX12_noThread : ByteArray := prog_14_method_32_code
def yX12_noThread : MethodName := ⟨RX12, "noThread", "(I)Z"⟩
abbrev cX12_value : ByteArray := prog_14_method_33_code
def yX12_value : MethodName := ⟨RX12, "value", "(I)I"⟩
abbrev cX12_version : ByteArray := prog_14_method_34_code
def yX12_version : MethodName := ⟨RX12, "version", "(I)I"⟩
abbrev cX12_threadCount : ByteArray := prog_14_method_35_code
def yX12_threadCount : MethodName := ⟨RX12, "threadCount", "()I"⟩
abbrev cX12_state : ByteArray := prog_14_method_36_code
def yX12_state : MethodName := ⟨RX12, "state", "(I)I"⟩
abbrev cX12_position : ByteArray := prog_14_method_37_code
def yX12_position : MethodName := ⟨RX12, "position", "(I)I"⟩
abbrev cX12_accumulator : ByteArray := prog_14_method_38_code
def yX12_accumulator : MethodName := ⟨RX12, "accumulator", "(I)I"⟩
abbrev cX12_seenValue : ByteArray := prog_14_method_39_code
def yX12_seenValue : MethodName := ⟨RX12, "seenValue", "(II)I"⟩
abbrev cX12_readSet : ByteArray := prog_14_method_40_code
def yX12_readSet : MethodName := ⟨RX12, "readSet", "(I)I"⟩
abbrev cX12_writeSet : ByteArray := prog_14_method_41_code
def yX12_writeSet : MethodName := ⟨RX12, "writeSet", "(I)I"⟩
abbrev cX12_openBlocks : ByteArray := prog_14_method_42_code
def yX12_openBlocks : MethodName := ⟨RX12, "openBlocks", "(I)I"⟩
abbrev cX12_runsLeft : ByteArray := prog_14_method_43_code
def yX12_runsLeft : MethodName := ⟨RX12, "runsLeft", "(I)I"⟩
abbrev cX12_restarts : ByteArray := prog_14_method_44_code
def yX12_restarts : MethodName := ⟨RX12, "restarts", "(I)I"⟩
abbrev cX12_remember : ByteArray := prog_14_method_45_code
def yX12_remember : MethodName := ⟨RX12, "remember", "()V"⟩
abbrev cX12_step : ByteArray := prog_14_method_46_code
def yX12_step : MethodName := ⟨RX12, "step", "(I)I"⟩
abbrev cX12_run : ByteArray := prog_14_method_47_code
def yX12_run : MethodName := ⟨RX12, "run", "(I)I"⟩
abbrev cX12_setCell : ByteArray := prog_14_method_48_code
def yX12_setCell : MethodName := ⟨RX12, "setCell", "(II)I"⟩
abbrev cX12_addInvariant : ByteArray := prog_14_method_49_code
def yX12_addInvariant : MethodName := ⟨RX12, "addInvariant", "(III)I"⟩
abbrev cX12_undo : ByteArray := prog_14_method_50_code
def yX12_undo : MethodName := ⟨RX12, "undo", "()I"⟩
abbrev cX12_keyOf : ByteArray := prog_14_method_51_code
def yX12_keyOf : MethodName := ⟨RX12, "keyOf", "([III)J"⟩
abbrev cX12_threadBits : ByteArray := prog_14_method_52_code
def yX12_threadBits : MethodName := ⟨RX12, "threadBits", "(JI)I"⟩
abbrev cX12_valueIn : ByteArray := prog_14_method_53_code
def yX12_valueIn : MethodName := ⟨RX12, "valueIn", "(JI)I"⟩
abbrev cX12_addKey : ByteArray := prog_14_method_54_code
def yX12_addKey : MethodName := ⟨RX12, "addKey", "(J)V"⟩
abbrev cX12_addOutcome : ByteArray := prog_14_method_55_code
def yX12_addOutcome : MethodName := ⟨RX12, "addOutcome", "(J)V"⟩
abbrev cX12_schedule : ByteArray := prog_14_method_56_code
def yX12_schedule : MethodName := ⟨RX12, "schedule", "(JI)V"⟩
abbrev cX12_explore : ByteArray := prog_14_method_57_code
def yX12_explore : MethodName := ⟨RX12, "explore", "()V"⟩
abbrev cX12_outcomeCount : ByteArray := prog_14_method_58_code
def yX12_outcomeCount : MethodName := ⟨RX12, "outcomeCount", "()I"⟩
abbrev cX12_possibleOutcomes : ByteArray := prog_14_method_59_code
def yX12_possibleOutcomes : MethodName := ⟨RX12, "possibleOutcomes", "()I"⟩
abbrev cX12_canDeadlock : ByteArray := prog_14_method_60_code
def yX12_canDeadlock : MethodName := ⟨RX12, "canDeadlock", "()I"⟩
abbrev cX12_greatestOutcome : ByteArray := prog_14_method_61_code
def yX12_greatestOutcome : MethodName := ⟨RX12, "greatestOutcome", "(I)I"⟩
abbrev cX12_command : ByteArray := prog_14_method_62_code
def yX12_command : MethodName := ⟨RX12, "command", "(III)Z"⟩
abbrev cX12_thousands : ByteArray := prog_14_method_63_code
def yX12_thousands : MethodName := ⟨RX12, "thousands", "(I)J"⟩
abbrev cX12_runScript : ByteArray := prog_14_method_64_code
def yX12_runScript : MethodName := ⟨RX12, "runScript", "(IJ)I"⟩
abbrev cX12_observe : ByteArray := prog_14_method_65_code
def yX12_observe : MethodName := ⟨RX12, "observe", "(II)I"⟩
abbrev cX12_doneThreads : ByteArray := prog_14_method_66_code
def yX12_doneThreads : MethodName := ⟨RX12, "doneThreads", "()I"⟩
abbrev cX12_save : ByteArray := prog_14_method_67_code
def yX12_save : MethodName := ⟨RX12, "save", "(I)I"⟩
abbrev cX12_restore : ByteArray := prog_14_method_68_code
def yX12_restore : MethodName := ⟨RX12, "restore", "(I)I"⟩
def RJ9 : String := "java/lang/Math"
def TJ9 : u_T := fun k => match k with
  | _ => ("", "", "", false)
def tyJ9 : Nat → FieldType := fun k => match k with
  | _ => .int
abbrev wsJ90 : List Cond := u_ws RJ9 TJ9 0
theorem nmJ9 : ∀ a, a < 0 → ∀ b, b < 0 → a ≠ b → (TJ9 a).2.1 ≠ (TJ9 b).2.1 := by decide +kernel
theorem tyJ9_ok : ∀ k, k < 0 → parseFieldDescriptor (TJ9 k).2.2.1 = some (tyJ9 k) := by decide +kernel
abbrev cJ9_max_7cf53 : ByteArray := prog_15_method_65_code
def yJ9_max_7cf53 : MethodName := ⟨RJ9, "max", "(II)I"⟩
abbrev cJ9_min_7cf53 : ByteArray := prog_15_method_69_code
def yJ9_min_7cf53 : MethodName := ⟨RJ9, "min", "(II)I"⟩
def RJ10 : String := "java/lang/System"
def TJ10 : u_T := fun k => match k with
  | _ => ("", "", "", false)
def tyJ10 : Nat → FieldType := fun k => match k with
  | _ => .int
abbrev wsJ100 : List Cond := u_ws RJ10 TJ10 0
theorem nmJ10 : ∀ a, a < 0 → ∀ b, b < 0 → a ≠ b → (TJ10 a).2.1 ≠ (TJ10 b).2.1 := by decide +kernel
theorem tyJ10_ok : ∀ k, k < 0 → parseFieldDescriptor (TJ10 k).2.2.1 = some (tyJ10 k) := by decide +kernel
def RJ7 : String := "java/util/Arrays"
def TJ7 : u_T := fun k => match k with
  | _ => ("", "", "", false)
def tyJ7 : Nat → FieldType := fun k => match k with
  | _ => .int
abbrev wsJ70 : List Cond := u_ws RJ7 TJ7 0
theorem nmJ7 : ∀ a, a < 0 → ∀ b, b < 0 → a ≠ b → (TJ7 a).2.1 ≠ (TJ7 b).2.1 := by decide +kernel
theorem tyJ7_ok : ∀ k, k < 0 → parseFieldDescriptor (TJ7 k).2.2.1 = some (tyJ7 k) := by decide +kernel
abbrev cJ7_fill_53178 : ByteArray := prog_17_method_103_code
def yJ7_fill_53178 : MethodName := ⟨RJ7, "fill", "([II)V"⟩
def RL : String := "CellTransactionsLaw"
abbrev cL_law : ByteArray := code
def yL_law : MethodName := ⟨RL, "law", "([I)Z"⟩
abbrev vwCl : List vw_C := [(RX0, TX0, 2), (RX1, TX1, 3), (RX2, TX2, 3), (RX3, TX3, 4), (RX4, TX4, 5), (RX5, TX5, 6), (RX6, TX6, 3), (RX7, TX7, 5), (RX8, TX8, 3), (RX9, TX9, 10), (RX10, TX10, 8), (RX11, TX11, 9), (RX12, TX12, 34)]
