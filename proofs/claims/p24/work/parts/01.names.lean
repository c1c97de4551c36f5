-- ===== PART A: goes FIRST, ahead of the names: the tables' words, and 'selects' of the private methods out of them =====
/-- a private method of a class that the tables say can be made, by its rows of tables_1 -/
def lw_okq (q : MethodName × Nat) : Prop := (q.1.cls ≠ "java/lang/invoke/MethodHandle" ∧ q.1.cls ≠ "java/lang/invoke/VarHandle") ∧ Cond.instantiable q.1.cls q.2 ∈ tables_1 ∧ Cond.privateMethod q.1 ∈ tables_1 ∧ Cond.instanceMethod q.1 ∈ tables_1
theorem lw_p0 : lw_okq (⟨"java/lang/Throwable", "fillInStackTrace", "(I)Ljava/lang/Throwable;"⟩, 6) := ⟨⟨by decide +kernel, by decide +kernel⟩, List.mem_of_getElem? (i := 283) (by decide +kernel), List.mem_of_getElem? (i := 281) (by decide +kernel), List.mem_of_getElem? (i := 282) (by decide +kernel)⟩
theorem lw_p1 : lw_okq (⟨"OrderRows", "isDayToCome", "(I)Z"⟩, 9) := ⟨⟨by decide +kernel, by decide +kernel⟩, List.mem_of_getElem? (i := 20) (by decide +kernel), List.mem_of_getElem? (i := 313) (by decide +kernel), List.mem_of_getElem? (i := 314) (by decide +kernel)⟩
theorem lw_p2 : lw_okq (⟨"OrderRows", "isValueOf", "(II)Z"⟩, 9) := ⟨⟨by decide +kernel, by decide +kernel⟩, List.mem_of_getElem? (i := 20) (by decide +kernel), List.mem_of_getElem? (i := 448) (by decide +kernel), List.mem_of_getElem? (i := 449) (by decide +kernel)⟩
theorem lw_p3 : lw_okq (⟨"OrderRows", "keepsLeastWithinMost", "(IIII)Z"⟩, 9) := ⟨⟨by decide +kernel, by decide +kernel⟩, List.mem_of_getElem? (i := 20) (by decide +kernel), List.mem_of_getElem? (i := 455) (by decide +kernel), List.mem_of_getElem? (i := 456) (by decide +kernel)⟩
theorem lw_p4 : lw_okq (⟨"OrderRows", "valueOn", "(III)I"⟩, 9) := ⟨⟨by decide +kernel, by decide +kernel⟩, List.mem_of_getElem? (i := 20) (by decide +kernel), List.mem_of_getElem? (i := 459) (by decide +kernel), List.mem_of_getElem? (i := 460) (by decide +kernel)⟩
theorem lw_p5 : lw_okq (⟨"OrderRows", "copyOfToday", "(I)I"⟩, 9) := ⟨⟨by decide +kernel, by decide +kernel⟩, List.mem_of_getElem? (i := 20) (by decide +kernel), List.mem_of_getElem? (i := 504) (by decide +kernel), List.mem_of_getElem? (i := 505) (by decide +kernel)⟩
theorem lw_p6 : lw_okq (⟨"OrderRows", "stateOn", "(II)I"⟩, 9) := ⟨⟨by decide +kernel, by decide +kernel⟩, List.mem_of_getElem? (i := 20) (by decide +kernel), List.mem_of_getElem? (i := 527) (by decide +kernel), List.mem_of_getElem? (i := 528) (by decide +kernel)⟩
theorem lw_p7 : lw_okq (⟨"OrderRowsModel", "goes", "(ZZZZ)Z"⟩, 31) := ⟨⟨by decide +kernel, by decide +kernel⟩, List.mem_of_getElem? (i := 686) (by decide +kernel), List.mem_of_getElem? (i := 797) (by decide +kernel), List.mem_of_getElem? (i := 798) (by decide +kernel)⟩
theorem lw_p8 : lw_okq (⟨"OrderRowsModel", "isOrder", "(I)Z"⟩, 31) := ⟨⟨by decide +kernel, by decide +kernel⟩, List.mem_of_getElem? (i := 686) (by decide +kernel), List.mem_of_getElem? (i := 805) (by decide +kernel), List.mem_of_getElem? (i := 806) (by decide +kernel)⟩
theorem lw_p9 : lw_okq (⟨"OrderRowsModel", "makes", "(IIIIIII)I"⟩, 31) := ⟨⟨by decide +kernel, by decide +kernel⟩, List.mem_of_getElem? (i := 686) (by decide +kernel), List.mem_of_getElem? (i := 813) (by decide +kernel), List.mem_of_getElem? (i := 814) (by decide +kernel)⟩
theorem lw_p10 : lw_okq (⟨"OrderRowsModel", "isItem", "(I)Z"⟩, 31) := ⟨⟨by decide +kernel, by decide +kernel⟩, List.mem_of_getElem? (i := 686) (by decide +kernel), List.mem_of_getElem? (i := 821) (by decide +kernel), List.mem_of_getElem? (i := 822) (by decide +kernel)⟩
theorem lw_p11 : lw_okq (⟨"OrderRowsModel", "tells", "(IIII)V"⟩, 31) := ⟨⟨by decide +kernel, by decide +kernel⟩, List.mem_of_getElem? (i := 686) (by decide +kernel), List.mem_of_getElem? (i := 829) (by decide +kernel), List.mem_of_getElem? (i := 830) (by decide +kernel)⟩
theorem lw_p12 : lw_okq (⟨"OrderRowsModel", "isMade", "(I)Z"⟩, 31) := ⟨⟨by decide +kernel, by decide +kernel⟩, List.mem_of_getElem? (i := 686) (by decide +kernel), List.mem_of_getElem? (i := 841) (by decide +kernel), List.mem_of_getElem? (i := 842) (by decide +kernel)⟩
theorem lw_p13 : lw_okq (⟨"OrderRowsModel", "isValue", "(II)Z"⟩, 31) := ⟨⟨by decide +kernel, by decide +kernel⟩, List.mem_of_getElem? (i := 686) (by decide +kernel), List.mem_of_getElem? (i := 845) (by decide +kernel), List.mem_of_getElem? (i := 846) (by decide +kernel)⟩
theorem lw_p14 : lw_okq (⟨"OrderRowsModel", "on", "(III)I"⟩, 31) := ⟨⟨by decide +kernel, by decide +kernel⟩, List.mem_of_getElem? (i := 686) (by decide +kernel), List.mem_of_getElem? (i := 852) (by decide +kernel), List.mem_of_getElem? (i := 853) (by decide +kernel)⟩
theorem lw_p15 : lw_okq (⟨"OrderRowsModel", "sum", "(II)I"⟩, 31) := ⟨⟨by decide +kernel, by decide +kernel⟩, List.mem_of_getElem? (i := 686) (by decide +kernel), List.mem_of_getElem? (i := 872) (by decide +kernel), List.mem_of_getElem? (i := 873) (by decide +kernel)⟩
def lw_privs_1 : List (MethodName × Nat) := [(⟨"java/lang/Throwable", "fillInStackTrace", "(I)Ljava/lang/Throwable;"⟩, 6), (⟨"OrderRows", "isDayToCome", "(I)Z"⟩, 9), (⟨"OrderRows", "isValueOf", "(II)Z"⟩, 9), (⟨"OrderRows", "keepsLeastWithinMost", "(IIII)Z"⟩, 9), (⟨"OrderRows", "valueOn", "(III)I"⟩, 9), (⟨"OrderRows", "copyOfToday", "(I)I"⟩, 9), (⟨"OrderRows", "stateOn", "(II)I"⟩, 9), (⟨"OrderRowsModel", "goes", "(ZZZZ)Z"⟩, 31), (⟨"OrderRowsModel", "isOrder", "(I)Z"⟩, 31), (⟨"OrderRowsModel", "makes", "(IIIIIII)I"⟩, 31), (⟨"OrderRowsModel", "isItem", "(I)Z"⟩, 31), (⟨"OrderRowsModel", "tells", "(IIII)V"⟩, 31), (⟨"OrderRowsModel", "isMade", "(I)Z"⟩, 31), (⟨"OrderRowsModel", "isValue", "(II)Z"⟩, 31), (⟨"OrderRowsModel", "on", "(III)I"⟩, 31), (⟨"OrderRowsModel", "sum", "(II)I"⟩, 31)]
theorem lw_r1 : ∀ q ∈ lw_privs_1, lw_okq q := List.forall_mem_cons.mpr ⟨lw_p0, List.forall_mem_cons.mpr ⟨lw_p1, List.forall_mem_cons.mpr ⟨lw_p2, List.forall_mem_cons.mpr ⟨lw_p3, List.forall_mem_cons.mpr ⟨lw_p4, List.forall_mem_cons.mpr ⟨lw_p5, List.forall_mem_cons.mpr ⟨lw_p6, List.forall_mem_cons.mpr ⟨lw_p7, List.forall_mem_cons.mpr ⟨lw_p8, List.forall_mem_cons.mpr ⟨lw_p9, List.forall_mem_cons.mpr ⟨lw_p10, List.forall_mem_cons.mpr ⟨lw_p11, List.forall_mem_cons.mpr ⟨lw_p12, List.forall_mem_cons.mpr ⟨lw_p13, List.forall_mem_cons.mpr ⟨lw_p14, List.forall_mem_cons.mpr ⟨lw_p15, fun _ h => absurd h List.not_mem_nil⟩⟩⟩⟩⟩⟩⟩⟩⟩⟩⟩⟩⟩⟩⟩⟩
theorem lw_p16 : lw_okq (⟨"OrderRowsModel", "stateOn", "(II)I"⟩, 31) := ⟨⟨by decide +kernel, by decide +kernel⟩, List.mem_of_getElem? (i := 686) (by decide +kernel), List.mem_of_getElem? (i := 881) (by decide +kernel), List.mem_of_getElem? (i := 882) (by decide +kernel)⟩
theorem lw_p17 : lw_okq (⟨"OrderRowsModel", "isQuote", "(I)Z"⟩, 31) := ⟨⟨by decide +kernel, by decide +kernel⟩, List.mem_of_getElem? (i := 686) (by decide +kernel), List.mem_of_getElem? (i := 904) (by decide +kernel), List.mem_of_getElem? (i := 905) (by decide +kernel)⟩
theorem lw_p18 : lw_okq (⟨"OrderRowsModel", "customerOf", "(I)I"⟩, 31) := ⟨⟨by decide +kernel, by decide +kernel⟩, List.mem_of_getElem? (i := 686) (by decide +kernel), List.mem_of_getElem? (i := 921) (by decide +kernel), List.mem_of_getElem? (i := 922) (by decide +kernel)⟩
def lw_privs_2 : List (MethodName × Nat) := [(⟨"OrderRowsModel", "stateOn", "(II)I"⟩, 31), (⟨"OrderRowsModel", "isQuote", "(I)Z"⟩, 31), (⟨"OrderRowsModel", "customerOf", "(I)I"⟩, 31)]
theorem lw_r2 : ∀ q ∈ lw_privs_2, lw_okq q := List.forall_mem_cons.mpr ⟨lw_p16, List.forall_mem_cons.mpr ⟨lw_p17, List.forall_mem_cons.mpr ⟨lw_p18, fun _ h => absurd h List.not_mem_nil⟩⟩⟩
def lw_privs : List (MethodName × Nat) := lw_privs_1 ++ (lw_privs_2)
def lw_tbl : List Cond := k2_sels lw_privs ++ tables_1
theorem lw_privs_ok : ∀ q ∈ lw_privs, lw_okq q := by
  show ∀ q ∈ lw_privs_1 ++ (lw_privs_2), lw_okq q
  exact List.forall_mem_append.mpr ⟨lw_r1, lw_r2⟩
def R_Acc : String := "OrderRows$Accounts"
def F_Acc : u_T := fun k => match k with
  | 0 => ("OrderRows$Accounts", "limit", "[I", true)
  | _ => ("OrderRows$Accounts", "used", "[J", true)
def t_Acc : Nat → FieldType := fun k => match k with
  | 0 => .array .int
  | _ => .array .long
theorem n_Acc : ∀ a, a < 2 → ∀ b, b < 2 → a ≠ b → (F_Acc a).2.1 ≠ (F_Acc b).2.1 := by decide +kernel
theorem t_Acc_ok : ∀ k, k < 2 → parseFieldDescriptor (F_Acc k).2.2.1 = some (t_Acc k) := by decide +kernel
def R_Cal : String := "OrderRows$Calendar"
def F_Cal : u_T := fun k => match k with
  | 0 => ("OrderRows$Calendar", "taken", "[Z", true)
  | 1 => ("OrderRows$Calendar", "day", "[I", true)
  | 2 => ("OrderRows$Calendar", "kilos", "[I", true)
  | _ => ("OrderRows$Calendar", "kilosADay", "I", false)
def t_Cal : Nat → FieldType := fun k => match k with
  | 0 => .array .boolean
  | 1 => .array .int
  | 2 => .array .int
  | _ => .int
theorem n_Cal : ∀ a, a < 4 → ∀ b, b < 4 → a ≠ b → (F_Cal a).2.1 ≠ (F_Cal b).2.1 := by decide +kernel
theorem t_Cal_ok : ∀ k, k < 4 → parseFieldDescriptor (F_Cal k).2.2.1 = some (t_Cal k) := by decide +kernel
def R_Chg : String := "OrderRows$Changes"
def F_Chg : u_T := fun k => match k with
  | 0 => ("OrderRows$Changes", "field", "[I", true)
  | 1 => ("OrderRows$Changes", "value", "[I", true)
  | 2 => ("OrderRows$Changes", "from", "[I", true)
  | 3 => ("OrderRows$Changes", "told", "[I", true)
  | _ => ("OrderRows$Changes", "count", "[I", true)
def t_Chg : Nat → FieldType := fun k => match k with
  | 0 => .array .int
  | 1 => .array .int
  | 2 => .array .int
  | 3 => .array .int
  | _ => .array .int
theorem n_Chg : ∀ a, a < 5 → ∀ b, b < 5 → a ≠ b → (F_Chg a).2.1 ≠ (F_Chg b).2.1 := by decide +kernel
theorem t_Chg_ok : ∀ k, k < 5 → parseFieldDescriptor (F_Chg k).2.2.1 = some (t_Chg k) := by decide +kernel
def R_Itm : String := "OrderRows$Items"
def F_Itm : u_T := fun k => match k with
  | 0 => ("OrderRows$Items", "orderOf", "[I", true)
  | 1 => ("OrderRows$Items", "agreedRule", "[I", true)
  | 2 => ("OrderRows$Items", "first", "[I", true)
  | _ => ("OrderRows$Items", "count", "I", false)
def t_Itm : Nat → FieldType := fun k => match k with
  | 0 => .array .int
  | 1 => .array .int
  | 2 => .array .int
  | _ => .int
theorem n_Itm : ∀ a, a < 4 → ∀ b, b < 4 → a ≠ b → (F_Itm a).2.1 ≠ (F_Itm b).2.1 := by decide +kernel
theorem t_Itm_ok : ∀ k, k < 4 → parseFieldDescriptor (F_Itm k).2.2.1 = some (t_Itm k) := by decide +kernel
def R_Ord : String := "OrderRows$Orders"
def F_Ord : u_T := fun k => match k with
  | 0 => ("OrderRows$Orders", "customer", "[I", true)
  | 1 => ("OrderRows$Orders", "due", "[I", true)
  | 2 => ("OrderRows$Orders", "group", "[I", true)
  | _ => ("OrderRows$Orders", "count", "I", false)
def t_Ord : Nat → FieldType := fun k => match k with
  | 0 => .array .int
  | 1 => .array .int
  | 2 => .array .int
  | _ => .int
theorem n_Ord : ∀ a, a < 4 → ∀ b, b < 4 → a ≠ b → (F_Ord a).2.1 ≠ (F_Ord b).2.1 := by decide +kernel
theorem t_Ord_ok : ∀ k, k < 4 → parseFieldDescriptor (F_Ord k).2.2.1 = some (t_Ord k) := by decide +kernel
def R_Out : String := "OrderRows$Outputs"
def F_Out : u_T := fun k => match k with
  | 0 => ("OrderRows$Outputs", "item", "[I", true)
  | 1 => ("OrderRows$Outputs", "day", "[I", true)
  | 2 => ("OrderRows$Outputs", "kilos", "[I", true)
  | 3 => ("OrderRows$Outputs", "total", "[I", true)
  | _ => ("OrderRows$Outputs", "count", "I", false)
def t_Out : Nat → FieldType := fun k => match k with
  | 0 => .array .int
  | 1 => .array .int
  | 2 => .array .int
  | 3 => .array .int
  | _ => .int
theorem n_Out : ∀ a, a < 5 → ∀ b, b < 5 → a ≠ b → (F_Out a).2.1 ≠ (F_Out b).2.1 := by decide +kernel
theorem t_Out_ok : ∀ k, k < 5 → parseFieldDescriptor (F_Out k).2.2.1 = some (t_Out k) := by decide +kernel
def R_Quo : String := "OrderRows$Quotes"
def F_Quo : u_T := fun k => match k with
  | 0 => ("OrderRows$Quotes", "item", "[I", true)
  | 1 => ("OrderRows$Quotes", "until", "[I", true)
  | 2 => ("OrderRows$Quotes", "cents", "[J", true)
  | 3 => ("OrderRows$Quotes", "accepted", "[Z", true)
  | _ => ("OrderRows$Quotes", "count", "I", false)
def t_Quo : Nat → FieldType := fun k => match k with
  | 0 => .array .int
  | 1 => .array .int
  | 2 => .array .long
  | 3 => .array .boolean
  | _ => .int
theorem n_Quo : ∀ a, a < 5 → ∀ b, b < 5 → a ≠ b → (F_Quo a).2.1 ≠ (F_Quo b).2.1 := by decide +kernel
theorem t_Quo_ok : ∀ k, k < 5 → parseFieldDescriptor (F_Quo k).2.2.1 = some (t_Quo k) := by decide +kernel
def R_Rat : String := "OrderRows$Rates"
def F_Rat : u_T := fun k => match k with
  | 0 => ("OrderRows$Rates", "base", "I", false)
  | 1 => ("OrderRows$Rates", "perThousand", "I", false)
  | _ => ("OrderRows$Rates", "perWidth", "I", false)
def t_Rat : Nat → FieldType := fun k => match k with
  | 0 => .int
  | 1 => .int
  | _ => .int
theorem n_Rat : ∀ a, a < 3 → ∀ b, b < 3 → a ≠ b → (F_Rat a).2.1 ≠ (F_Rat b).2.1 := by decide +kernel
theorem t_Rat_ok : ∀ k, k < 3 → parseFieldDescriptor (F_Rat k).2.2.1 = some (t_Rat k) := by decide +kernel
def R_Or : String := "OrderRows"
def F_Or : u_T := fun k => match k with
  | 0 => ("OrderRows", "orders", "LOrderRows$Orders;", true)
  | 1 => ("OrderRows", "items", "LOrderRows$Items;", true)
  | 2 => ("OrderRows", "changes", "LOrderRows$Changes;", true)
  | 3 => ("OrderRows", "outputs", "LOrderRows$Outputs;", true)
  | 4 => ("OrderRows", "rates", "LOrderRows$Rates;", true)
  | 5 => ("OrderRows", "quotes", "LOrderRows$Quotes;", true)
  | 6 => ("OrderRows", "accounts", "LOrderRows$Accounts;", true)
  | 7 => ("OrderRows", "calendar", "LOrderRows$Calendar;", true)
  | _ => ("OrderRows", "today", "I", false)
def t_Or : Nat → FieldType := fun k => match k with
  | 0 => .object "OrderRows$Orders"
  | 1 => .object "OrderRows$Items"
  | 2 => .object "OrderRows$Changes"
  | 3 => .object "OrderRows$Outputs"
  | 4 => .object "OrderRows$Rates"
  | 5 => .object "OrderRows$Quotes"
  | 6 => .object "OrderRows$Accounts"
  | 7 => .object "OrderRows$Calendar"
  | _ => .int
theorem n_Or : ∀ a, a < 9 → ∀ b, b < 9 → a ≠ b → (F_Or a).2.1 ≠ (F_Or b).2.1 := by decide +kernel
theorem t_Or_ok : ∀ k, k < 9 → parseFieldDescriptor (F_Or k).2.2.1 = some (t_Or k) := by decide +kernel
def R_Mo : String := "OrderRowsModel"
def F_Mo : u_T := fun k => match k with
  | 0 => ("OrderRowsModel", "thrown", "I", false)
  | 1 => ("OrderRowsModel", "today", "I", false)
  | 2 => ("OrderRowsModel", "credit", "[I", true)
  | 3 => ("OrderRowsModel", "orders", "I", false)
  | 4 => ("OrderRowsModel", "customer", "[I", true)
  | 5 => ("OrderRowsModel", "due", "[I", true)
  | 6 => ("OrderRowsModel", "group", "[I", true)
  | 7 => ("OrderRowsModel", "items", "I", false)
  | 8 => ("OrderRowsModel", "orderOf", "[I", true)
  | 9 => ("OrderRowsModel", "first", "[I", true)
  | 10 => ("OrderRowsModel", "rule", "[I", true)
  | 11 => ("OrderRowsModel", "reserved", "[Z", true)
  | 12 => ("OrderRowsModel", "changes", "[I", true)
  | 13 => ("OrderRowsModel", "changeField", "[I", true)
  | 14 => ("OrderRowsModel", "changeValue", "[I", true)
  | 15 => ("OrderRowsModel", "changeFrom", "[I", true)
  | 16 => ("OrderRowsModel", "changeTold", "[I", true)
  | 17 => ("OrderRowsModel", "rows", "I", false)
  | 18 => ("OrderRowsModel", "rowItem", "[I", true)
  | 19 => ("OrderRowsModel", "rowDay", "[I", true)
  | 20 => ("OrderRowsModel", "rowKilos", "[I", true)
  | 21 => ("OrderRowsModel", "base", "I", false)
  | 22 => ("OrderRowsModel", "perThousand", "I", false)
  | 23 => ("OrderRowsModel", "perWidth", "I", false)
  | 24 => ("OrderRowsModel", "quotes", "I", false)
  | 25 => ("OrderRowsModel", "quoteItem", "[I", true)
  | 26 => ("OrderRowsModel", "quoteUntil", "[I", true)
  | 27 => ("OrderRowsModel", "quotePrice", "[J", true)
  | 28 => ("OrderRowsModel", "accepted", "[Z", true)
  | 29 => ("OrderRowsModel", "capacity", "I", false)
  | _ => ("OrderRowsModel", "taken", "[I", true)
def t_Mo : Nat → FieldType := fun k => match k with
  | 0 => .int
  | 1 => .int
  | 2 => .array .int
  | 3 => .int
  | 4 => .array .int
  | 5 => .array .int
  | 6 => .array .int
  | 7 => .int
  | 8 => .array .int
  | 9 => .array .int
  | 10 => .array .int
  | 11 => .array .boolean
  | 12 => .array .int
  | 13 => .array .int
  | 14 => .array .int
  | 15 => .array .int
  | 16 => .array .int
  | 17 => .int
  | 18 => .array .int
  | 19 => .array .int
  | 20 => .array .int
  | 21 => .int
  | 22 => .int
  | 23 => .int
  | 24 => .int
  | 25 => .array .int
  | 26 => .array .int
  | 27 => .array .long
  | 28 => .array .boolean
  | 29 => .int
  | _ => .array .int
theorem n_Mo : ∀ a, a < 31 → ∀ b, b < 31 → a ≠ b → (F_Mo a).2.1 ≠ (F_Mo b).2.1 := by decide +kernel
theorem t_Mo_ok : ∀ k, k < 31 → parseFieldDescriptor (F_Mo k).2.2.1 = some (t_Mo k) := by decide +kernel
def R_L : String := "OrderRowsLaw"
abbrev vwCl : List vw_C := [(R_Acc, F_Acc, 2), (R_Cal, F_Cal, 4), (R_Chg, F_Chg, 5), (R_Itm, F_Itm, 4), (R_Ord, F_Ord, 4), (R_Out, F_Out, 5), (R_Quo, F_Quo, 5), (R_Rat, F_Rat, 3), (R_Or, F_Or, 9), (R_Mo, F_Mo, 31)]
/-- the good words of the tables -/
def zw_T : List Cond := lw_tbl.filter goodWord
theorem zl_Acc : ∀ w ∈ u_ws R_Acc F_Acc 2, w ∈ zw_T := by decide +kernel
theorem zl_Cal : ∀ w ∈ u_ws R_Cal F_Cal 4, w ∈ zw_T := by decide +kernel
theorem zl_Chg : ∀ w ∈ u_ws R_Chg F_Chg 5, w ∈ zw_T := by decide +kernel
theorem zl_Itm : ∀ w ∈ u_ws R_Itm F_Itm 4, w ∈ zw_T := by decide +kernel
theorem zl_Ord : ∀ w ∈ u_ws R_Ord F_Ord 4, w ∈ zw_T := by decide +kernel
theorem zl_Out : ∀ w ∈ u_ws R_Out F_Out 5, w ∈ zw_T := by decide +kernel
theorem zl_Quo : ∀ w ∈ u_ws R_Quo F_Quo 5, w ∈ zw_T := by decide +kernel
theorem zl_Rat : ∀ w ∈ u_ws R_Rat F_Rat 3, w ∈ zw_T := by decide +kernel
theorem zl_Or : ∀ w ∈ u_ws R_Or F_Or 9, w ∈ zw_T := by decide +kernel
theorem zl_Mo : ∀ w ∈ u_ws R_Mo F_Mo 31, w ∈ zw_T := by decide +kernel
abbrev b_Cal_take : ByteArray := prog_3_method_2_code
def y_Cal_take : MethodName := ⟨R_Cal, "take", "(III)V"⟩
def w_Cal_take : List Cond := .code y_Cal_take b_Cal_take 4 none :: zw_T
abbrev b_Cal_takenOn : ByteArray := prog_3_method_3_code
def y_Cal_takenOn : MethodName := ⟨R_Cal, "takenOn", "(I)I"⟩
def w_Cal_takenOn : List Cond := .code y_Cal_takenOn b_Cal_takenOn 4 (some .int) :: zw_T
abbrev b_Cal_fitsInto : ByteArray := prog_3_method_4_code
def y_Cal_fitsInto : MethodName := ⟨R_Cal, "fitsInto", "(I)Z"⟩
def w_Cal_fitsInto : List Cond := .code y_Cal_fitsInto b_Cal_fitsInto 3 (some .boolean) :: zw_T
abbrev b_Cal_latestDayFor : ByteArray := prog_3_method_5_code
def y_Cal_latestDayFor : MethodName := ⟨R_Cal, "latestDayFor", "(III)I"⟩
def w_Cal_latestDayFor : List Cond := .code y_Cal_latestDayFor b_Cal_latestDayFor 5 (some .int) :: zw_T
abbrev b_Chg_hasRoom : ByteArray := prog_4_method_2_code
def y_Chg_hasRoom : MethodName := ⟨R_Chg, "hasRoom", "(II)Z"⟩
def w_Chg_hasRoom : List Cond := .code y_Chg_hasRoom b_Chg_hasRoom 3 (some .boolean) :: zw_T
abbrev b_Or_isWithin : ByteArray := prog_1_method_29_code
def y_Or_isWithin : MethodName := ⟨R_Or, "isWithin", "(III)Z"⟩
def w_Or_isWithin : List Cond := .code y_Or_isWithin b_Or_isWithin 3 (some .boolean) :: zw_T
abbrev b_Chg_has : ByteArray := prog_4_method_3_code
def y_Chg_has : MethodName := ⟨R_Chg, "has", "(II)Z"⟩
def w_Chg_has : List Cond := .code y_Chg_has b_Chg_has 3 (some .boolean) :: zw_T
abbrev b_Chg_add : ByteArray := prog_4_method_4_code
def y_Chg_add : MethodName := ⟨R_Chg, "add", "(IIIII)V"⟩
def w_Chg_add : List Cond := .code y_Chg_add b_Chg_add 7 none :: zw_T
abbrev b_Chg_look : ByteArray := prog_4_method_5_code
def y_Chg_look : MethodName := ⟨R_Chg, "look", "(III)I"⟩
def w_Chg_look : List Cond := .code y_Chg_look b_Chg_look 5 (some .int) :: zw_T
abbrev b_Chg_valueOn : ByteArray := prog_4_method_6_code
def y_Chg_valueOn : MethodName := ⟨R_Chg, "valueOn", "(IIII)I"⟩
def w_Chg_valueOn : List Cond := .code y_Chg_valueOn b_Chg_valueOn 10 (some .int) :: zw_T
abbrev b_Itm_has : ByteArray := prog_5_method_2_code
def y_Itm_has : MethodName := ⟨R_Itm, "has", "(I)Z"⟩
def w_Itm_has : List Cond := .code y_Itm_has b_Itm_has 2 (some .boolean) :: zw_T
abbrev b_Itm_add : ByteArray := prog_5_method_3_code
def y_Itm_add : MethodName := ⟨R_Itm, "add", "(I)I"⟩
def w_Itm_add : List Cond := .code y_Itm_add b_Itm_add 3 (some .int) :: zw_T
abbrev b_Itm_begin : ByteArray := prog_5_method_4_code
def y_Itm_begin : MethodName := ⟨R_Itm, "begin", "(III)V"⟩
def w_Itm_begin : List Cond := .code y_Itm_begin b_Itm_begin 4 none :: zw_T
abbrev b_Itm_atFirst : ByteArray := prog_5_method_5_code
def y_Itm_atFirst : MethodName := ⟨R_Itm, "atFirst", "(II)I"⟩
def w_Itm_atFirst : List Cond := .code y_Itm_atFirst b_Itm_atFirst 3 (some .int) :: zw_T
abbrev b_Itm_isAgreed : ByteArray := prog_5_method_6_code
def y_Itm_isAgreed : MethodName := ⟨R_Itm, "isAgreed", "(II)Z"⟩
def w_Itm_isAgreed : List Cond := .code y_Itm_isAgreed b_Itm_isAgreed 3 (some .boolean) :: zw_T
abbrev b_Ord_has : ByteArray := prog_6_method_2_code
def y_Ord_has : MethodName := ⟨R_Ord, "has", "(I)Z"⟩
def w_Ord_has : List Cond := .code y_Ord_has b_Ord_has 2 (some .boolean) :: zw_T
abbrev b_Ord_add : ByteArray := prog_6_method_3_code
def y_Ord_add : MethodName := ⟨R_Ord, "add", "(II)I"⟩
def w_Ord_add : List Cond := .code y_Ord_add b_Ord_add 4 (some .int) :: zw_T
abbrev b_Ord_merge : ByteArray := prog_6_method_4_code
def y_Ord_merge : MethodName := ⟨R_Ord, "merge", "(II)V"⟩
def w_Ord_merge : List Cond := .code y_Ord_merge b_Ord_merge 6 none :: zw_T
abbrev b_Ord_areTogether : ByteArray := prog_6_method_5_code
def y_Ord_areTogether : MethodName := ⟨R_Ord, "areTogether", "(II)Z"⟩
def w_Ord_areTogether : List Cond := .code y_Ord_areTogether b_Ord_areTogether 3 (some .boolean) :: zw_T
abbrev b_Ord_countTogether : ByteArray := prog_6_method_6_code
def y_Ord_countTogether : MethodName := ⟨R_Ord, "countTogether", "(I)I"⟩
def w_Ord_countTogether : List Cond := .code y_Ord_countTogether b_Ord_countTogether 4 (some .int) :: zw_T
abbrev b_Out_add : ByteArray := prog_7_method_2_code
def y_Out_add : MethodName := ⟨R_Out, "add", "(III)V"⟩
def w_Out_add : List Cond := .code y_Out_add b_Out_add 4 none :: zw_T
abbrev b_Out_upTo : ByteArray := prog_7_method_3_code
def y_Out_upTo : MethodName := ⟨R_Out, "upTo", "(II)I"⟩
def w_Out_upTo : List Cond := .code y_Out_upTo b_Out_upTo 5 (some .int) :: zw_T
abbrev b_Quo_has : ByteArray := prog_8_method_2_code
def y_Quo_has : MethodName := ⟨R_Quo, "has", "(I)Z"⟩
def w_Quo_has : List Cond := .code y_Quo_has b_Quo_has 2 (some .boolean) :: zw_T
abbrev b_Quo_add : ByteArray := prog_8_method_3_code
def y_Quo_add : MethodName := ⟨R_Quo, "add", "(IIJ)I"⟩
def w_Quo_add : List Cond := .code y_Quo_add b_Quo_add 6 (some .int) :: zw_T
abbrev b_Quo_look : ByteArray := prog_8_method_4_code
def y_Quo_look : MethodName := ⟨R_Quo, "look", "(II)I"⟩
def w_Quo_look : List Cond := .code y_Quo_look b_Quo_look 3 (some .int) :: zw_T
abbrev b_Rat_set : ByteArray := prog_9_method_2_code
def y_Rat_set : MethodName := ⟨R_Rat, "set", "(III)V"⟩
def w_Rat_set : List Cond := .code y_Rat_set b_Rat_set 4 none :: zw_T
abbrev b_Rat_centsFor : ByteArray := prog_9_method_3_code
def y_Rat_centsFor : MethodName := ⟨R_Rat, "centsFor", "(II)J"⟩
def w_Rat_centsFor : List Cond := .code y_Rat_centsFor b_Rat_centsFor 5 (some .long) :: zw_T
abbrev b_Or_needIndex : ByteArray := prog_1_method_25_code
def y_Or_needIndex : MethodName := ⟨R_Or, "needIndex", "(Z)V"⟩
def w_Or_needIndex : List Cond := .code y_Or_needIndex b_Or_needIndex 1 none :: zw_T
abbrev b_Or_isDayToCome : ByteArray := prog_1_method_31_code
def y_Or_isDayToCome : MethodName := ⟨R_Or, "isDayToCome", "(I)Z"⟩
def w_Or_isDayToCome : List Cond := .code y_Or_isDayToCome b_Or_isDayToCome 2 (some .boolean) :: zw_T
abbrev b_Or_needRange : ByteArray := prog_1_method_27_code
def y_Or_needRange : MethodName := ⟨R_Or, "needRange", "(Z)V"⟩
def w_Or_needRange : List Cond := .code y_Or_needRange b_Or_needRange 1 none :: zw_T
abbrev b_Or_needMeaning : ByteArray := prog_1_method_28_code
def y_Or_needMeaning : MethodName := ⟨R_Or, "needMeaning", "(Z)V"⟩
def w_Or_needMeaning : List Cond := .code y_Or_needMeaning b_Or_needMeaning 1 none :: zw_T
abbrev b_Or_order : ByteArray := prog_1_method_2_code
def y_Or_order : MethodName := ⟨R_Or, "order", "(II)I"⟩
def w_Or_order : List Cond := .code y_Or_order b_Or_order 3 (some .int) :: zw_T
abbrev b_Or_isSize : ByteArray := prog_1_method_33_code
def y_Or_isSize : MethodName := ⟨R_Or, "isSize", "(I)Z"⟩
def w_Or_isSize : List Cond := .code y_Or_isSize b_Or_isSize 1 (some .boolean) :: zw_T
abbrev b_Or_item : ByteArray := prog_1_method_3_code
def y_Or_item : MethodName := ⟨R_Or, "item", "(IIII)I"⟩
def w_Or_item : List Cond := .code y_Or_item b_Or_item 6 (some .int) :: zw_T
abbrev b_Or_isWeight : ByteArray := prog_1_method_34_code
def y_Or_isWeight : MethodName := ⟨R_Or, "isWeight", "(I)Z"⟩
def w_Or_isWeight : List Cond := .code y_Or_isWeight b_Or_isWeight 1 (some .boolean) :: zw_T
abbrev b_Or_weights : ByteArray := prog_1_method_4_code
def y_Or_weights : MethodName := ⟨R_Or, "weights", "(III)V"⟩
def w_Or_weights : List Cond := .code y_Or_weights b_Or_weights 4 none :: zw_T
abbrev b_Or_agree : ByteArray := prog_1_method_5_code
def y_Or_agree : MethodName := ⟨R_Or, "agree", "(II)V"⟩
def w_Or_agree : List Cond := .code y_Or_agree b_Or_agree 3 none :: zw_T
abbrev b_Or_needTurn : ByteArray := prog_1_method_26_code
def y_Or_needTurn : MethodName := ⟨R_Or, "needTurn", "(Z)V"⟩
def w_Or_needTurn : List Cond := .code y_Or_needTurn b_Or_needTurn 1 none :: zw_T
abbrev b_Or_isValueOf : ByteArray := prog_1_method_36_code
def y_Or_isValueOf : MethodName := ⟨R_Or, "isValueOf", "(II)Z"⟩
def w_Or_isValueOf : List Cond := .code y_Or_isValueOf b_Or_isValueOf 3 (some .boolean) :: zw_T
abbrev b_Or_valueOn : ByteArray := prog_1_method_38_code
def y_Or_valueOn : MethodName := ⟨R_Or, "valueOn", "(III)I"⟩
def w_Or_valueOn : List Cond := .code y_Or_valueOn b_Or_valueOn 4 (some .int) :: zw_T
abbrev b_Or_keepsLeastWithinMost : ByteArray := prog_1_method_37_code
def y_Or_keepsLeastWithinMost : MethodName := ⟨R_Or, "keepsLeastWithinMost", "(IIII)Z"⟩
def w_Or_keepsLeastWithinMost : List Cond := .code y_Or_keepsLeastWithinMost b_Or_keepsLeastWithinMost 5 (some .boolean) :: zw_T
abbrev b_Or_isDay : ByteArray := prog_1_method_30_code
def y_Or_isDay : MethodName := ⟨R_Or, "isDay", "(I)Z"⟩
def w_Or_isDay : List Cond := .code y_Or_isDay b_Or_isDay 1 (some .boolean) :: zw_T
abbrev b_Or_isField : ByteArray := prog_1_method_32_code
def y_Or_isField : MethodName := ⟨R_Or, "isField", "(I)Z"⟩
def w_Or_isField : List Cond := .code y_Or_isField b_Or_isField 1 (some .boolean) :: zw_T
abbrev b_Or_change : ByteArray := prog_1_method_6_code
def y_Or_change : MethodName := ⟨R_Or, "change", "(IIIII)V"⟩
def w_Or_change : List Cond := .code y_Or_change b_Or_change 6 none :: zw_T
abbrev b_Or_field : ByteArray := prog_1_method_7_code
def y_Or_field : MethodName := ⟨R_Or, "field", "(III)I"⟩
def w_Or_field : List Cond := .code y_Or_field b_Or_field 4 (some .int) :: zw_T
abbrev b_Or_history : ByteArray := prog_1_method_8_code
def y_Or_history : MethodName := ⟨R_Or, "history", "(III)I"⟩
def w_Or_history : List Cond := .code y_Or_history b_Or_history 4 (some .int) :: zw_T
abbrev b_Or_copyOfToday : ByteArray := prog_1_method_40_code
def y_Or_copyOfToday : MethodName := ⟨R_Or, "copyOfToday", "(I)I"⟩
def w_Or_copyOfToday : List Cond := .code y_Or_copyOfToday b_Or_copyOfToday 4 (some .int) :: zw_T
abbrev b_Or_split : ByteArray := prog_1_method_9_code
def y_Or_split : MethodName := ⟨R_Or, "split", "(II)I"⟩
def w_Or_split : List Cond := .code y_Or_split b_Or_split 7 (some .int) :: zw_T
abbrev b_Or_made : ByteArray := prog_1_method_10_code
def y_Or_made : MethodName := ⟨R_Or, "made", "(II)I"⟩
def w_Or_made : List Cond := .code y_Or_made b_Or_made 3 (some .int) :: zw_T
abbrev b_Or_stateOn : ByteArray := prog_1_method_39_code
def y_Or_stateOn : MethodName := ⟨R_Or, "stateOn", "(II)I"⟩
def w_Or_stateOn : List Cond := .code y_Or_stateOn b_Or_stateOn 4 (some .int) :: zw_T
abbrev b_Or_state : ByteArray := prog_1_method_11_code
def y_Or_state : MethodName := ⟨R_Or, "state", "(II)I"⟩
def w_Or_state : List Cond := .code y_Or_state b_Or_state 3 (some .int) :: zw_T
abbrev b_Or_rest : ByteArray := prog_1_method_12_code
def y_Or_rest : MethodName := ⟨R_Or, "rest", "(I)I"⟩
def w_Or_rest : List Cond := .code y_Or_rest b_Or_rest 2 (some .int) :: zw_T
abbrev b_Or_isRate : ByteArray := prog_1_method_35_code
def y_Or_isRate : MethodName := ⟨R_Or, "isRate", "(I)Z"⟩
def w_Or_isRate : List Cond := .code y_Or_isRate b_Or_isRate 1 (some .boolean) :: zw_T
abbrev b_Or_costs : ByteArray := prog_1_method_13_code
def y_Or_costs : MethodName := ⟨R_Or, "costs", "(III)V"⟩
def w_Or_costs : List Cond := .code y_Or_costs b_Or_costs 4 none :: zw_T
abbrev b_Or_quote : ByteArray := prog_1_method_14_code
def y_Or_quote : MethodName := ⟨R_Or, "quote", "(II)I"⟩
def w_Or_quote : List Cond := .code y_Or_quote b_Or_quote 5 (some .int) :: zw_T
abbrev b_Or_quoteAt : ByteArray := prog_1_method_15_code
def y_Or_quoteAt : MethodName := ⟨R_Or, "quoteAt", "(II)I"⟩
def w_Or_quoteAt : List Cond := .code y_Or_quoteAt b_Or_quoteAt 3 (some .int) :: zw_T
abbrev b_Or_price : ByteArray := prog_1_method_16_code
def y_Or_price : MethodName := ⟨R_Or, "price", "(I)J"⟩
def w_Or_price : List Cond := .code y_Or_price b_Or_price 2 (some .long) :: zw_T
abbrev b_Or_credit : ByteArray := prog_1_method_17_code
def y_Or_credit : MethodName := ⟨R_Or, "credit", "(II)V"⟩
def w_Or_credit : List Cond := .code y_Or_credit b_Or_credit 3 none :: zw_T
abbrev b_Or_accept : ByteArray := prog_1_method_18_code
def y_Or_accept : MethodName := ⟨R_Or, "accept", "(I)J"⟩
def w_Or_accept : List Cond := .code y_Or_accept b_Or_accept 5 (some .long) :: zw_T
abbrev b_Or_capacity : ByteArray := prog_1_method_19_code
def y_Or_capacity : MethodName := ⟨R_Or, "capacity", "(I)V"⟩
def w_Or_capacity : List Cond := .code y_Or_capacity b_Or_capacity 2 none :: zw_T
abbrev b_Or_reserve : ByteArray := prog_1_method_20_code
def y_Or_reserve : MethodName := ⟨R_Or, "reserve", "(I)I"⟩
def w_Or_reserve : List Cond := .code y_Or_reserve b_Or_reserve 4 (some .int) :: zw_T
abbrev b_Or_join : ByteArray := prog_1_method_21_code
def y_Or_join : MethodName := ⟨R_Or, "join", "(II)I"⟩
def w_Or_join : List Cond := .code y_Or_join b_Or_join 3 (some .int) :: zw_T
abbrev b_Or_ready : ByteArray := prog_1_method_22_code
def y_Or_ready : MethodName := ⟨R_Or, "ready", "(I)Z"⟩
def w_Or_ready : List Cond := .code y_Or_ready b_Or_ready 3 (some .boolean) :: zw_T
abbrev b_Or_late : ByteArray := prog_1_method_23_code
def y_Or_late : MethodName := ⟨R_Or, "late", "(I)I"⟩
def w_Or_late : List Cond := .code y_Or_late b_Or_late 4 (some .int) :: zw_T
abbrev b_Or_tick : ByteArray := prog_1_method_24_code
def y_Or_tick : MethodName := ⟨R_Or, "tick", "(I)I"⟩
def w_Or_tick : List Cond := .code y_Or_tick b_Or_tick 2 (some .int) :: zw_T
abbrev b_Mo_thrown : ByteArray := prog_11_method_2_code
def y_Mo_thrown : MethodName := ⟨R_Mo, "thrown", "()I"⟩
def w_Mo_thrown : List Cond := .code y_Mo_thrown b_Mo_thrown 1 (some .int) :: zw_T
abbrev b_Mo_in : ByteArray := prog_11_method_3_code
def y_Mo_in : MethodName := ⟨R_Mo, "in", "(III)Z"⟩
def w_Mo_in : List Cond := .code y_Mo_in b_Mo_in 3 (some .boolean) :: zw_T
abbrev b_Mo_goes : ByteArray := prog_11_method_4_code
def y_Mo_goes : MethodName := ⟨R_Mo, "goes", "(ZZZZ)Z"⟩
def w_Mo_goes : List Cond := .code y_Mo_goes b_Mo_goes 5 (some .boolean) :: zw_T
abbrev b_Mo_isOrder : ByteArray := prog_11_method_5_code
def y_Mo_isOrder : MethodName := ⟨R_Mo, "isOrder", "(I)Z"⟩
def w_Mo_isOrder : List Cond := .code y_Mo_isOrder b_Mo_isOrder 2 (some .boolean) :: zw_T
abbrev b_Mo_isItem : ByteArray := prog_11_method_6_code
def y_Mo_isItem : MethodName := ⟨R_Mo, "isItem", "(I)Z"⟩
def w_Mo_isItem : List Cond := .code y_Mo_isItem b_Mo_isItem 2 (some .boolean) :: zw_T
abbrev b_Mo_isDay : ByteArray := prog_11_method_7_code
def y_Mo_isDay : MethodName := ⟨R_Mo, "isDay", "(I)Z"⟩
def w_Mo_isDay : List Cond := .code y_Mo_isDay b_Mo_isDay 1 (some .boolean) :: zw_T
abbrev b_Mo_isSize : ByteArray := prog_11_method_8_code
def y_Mo_isSize : MethodName := ⟨R_Mo, "isSize", "(I)Z"⟩
def w_Mo_isSize : List Cond := .code y_Mo_isSize b_Mo_isSize 1 (some .boolean) :: zw_T
abbrev b_Mo_isWeight : ByteArray := prog_11_method_9_code
def y_Mo_isWeight : MethodName := ⟨R_Mo, "isWeight", "(I)Z"⟩
def w_Mo_isWeight : List Cond := .code y_Mo_isWeight b_Mo_isWeight 1 (some .boolean) :: zw_T
abbrev b_Mo_order : ByteArray := prog_11_method_10_code
def y_Mo_order : MethodName := ⟨R_Mo, "order", "(II)I"⟩
def w_Mo_order : List Cond := .code y_Mo_order b_Mo_order 3 (some .int) :: zw_T
abbrev b_Mo_makes : ByteArray := prog_11_method_11_code
def y_Mo_makes : MethodName := ⟨R_Mo, "makes", "(IIIIIII)I"⟩
def w_Mo_makes : List Cond := .code y_Mo_makes b_Mo_makes 8 (some .int) :: zw_T
abbrev b_Mo_item : ByteArray := prog_11_method_12_code
def y_Mo_item : MethodName := ⟨R_Mo, "item", "(IIII)I"⟩
def w_Mo_item : List Cond := .code y_Mo_item b_Mo_item 5 (some .int) :: zw_T
abbrev b_Mo_tells : ByteArray := prog_11_method_13_code
def y_Mo_tells : MethodName := ⟨R_Mo, "tells", "(IIII)V"⟩
def w_Mo_tells : List Cond := .code y_Mo_tells b_Mo_tells 6 none :: zw_T
abbrev b_Mo_on : ByteArray := prog_11_method_14_code
def y_Mo_on : MethodName := ⟨R_Mo, "on", "(III)I"⟩
def w_Mo_on : List Cond := .code y_Mo_on b_Mo_on 6 (some .int) :: zw_T
abbrev b_Mo_weights : ByteArray := prog_11_method_15_code
def y_Mo_weights : MethodName := ⟨R_Mo, "weights", "(III)V"⟩
def w_Mo_weights : List Cond := .code y_Mo_weights b_Mo_weights 4 none :: zw_T
abbrev b_Mo_agree : ByteArray := prog_11_method_16_code
def y_Mo_agree : MethodName := ⟨R_Mo, "agree", "(II)V"⟩
def w_Mo_agree : List Cond := .code y_Mo_agree b_Mo_agree 3 none :: zw_T
abbrev b_Mo_isMade : ByteArray := prog_11_method_17_code
def y_Mo_isMade : MethodName := ⟨R_Mo, "isMade", "(I)Z"⟩
def w_Mo_isMade : List Cond := .code y_Mo_isMade b_Mo_isMade 3 (some .boolean) :: zw_T
abbrev b_Mo_isValue : ByteArray := prog_11_method_18_code
def y_Mo_isValue : MethodName := ⟨R_Mo, "isValue", "(II)Z"⟩
def w_Mo_isValue : List Cond := .code y_Mo_isValue b_Mo_isValue 3 (some .boolean) :: zw_T
abbrev b_Mo_change : ByteArray := prog_11_method_19_code
def y_Mo_change : MethodName := ⟨R_Mo, "change", "(IIIII)V"⟩
def w_Mo_change : List Cond := .code y_Mo_change b_Mo_change 11 none :: zw_T
abbrev b_Mo_field : ByteArray := prog_11_method_20_code
def y_Mo_field : MethodName := ⟨R_Mo, "field", "(III)I"⟩
def w_Mo_field : List Cond := .code y_Mo_field b_Mo_field 4 (some .int) :: zw_T
abbrev b_Mo_history : ByteArray := prog_11_method_21_code
def y_Mo_history : MethodName := ⟨R_Mo, "history", "(III)I"⟩
def w_Mo_history : List Cond := .code y_Mo_history b_Mo_history 5 (some .int) :: zw_T
abbrev b_Mo_split : ByteArray := prog_11_method_22_code
def y_Mo_split : MethodName := ⟨R_Mo, "split", "(II)I"⟩
def w_Mo_split : List Cond := .code y_Mo_split b_Mo_split 8 (some .int) :: zw_T
abbrev b_Mo_sum : ByteArray := prog_11_method_23_code
def y_Mo_sum : MethodName := ⟨R_Mo, "sum", "(II)I"⟩
def w_Mo_sum : List Cond := .code y_Mo_sum b_Mo_sum 5 (some .int) :: zw_T
abbrev b_Mo_made : ByteArray := prog_11_method_24_code
def y_Mo_made : MethodName := ⟨R_Mo, "made", "(II)I"⟩
def w_Mo_made : List Cond := .code y_Mo_made b_Mo_made 5 (some .int) :: zw_T
abbrev b_Mo_stateOn : ByteArray := prog_11_method_25_code
def y_Mo_stateOn : MethodName := ⟨R_Mo, "stateOn", "(II)I"⟩
def w_Mo_stateOn : List Cond := .code y_Mo_stateOn b_Mo_stateOn 4 (some .int) :: zw_T
abbrev b_Mo_state : ByteArray := prog_11_method_26_code
def y_Mo_state : MethodName := ⟨R_Mo, "state", "(II)I"⟩
def w_Mo_state : List Cond := .code y_Mo_state b_Mo_state 3 (some .int) :: zw_T
abbrev b_Mo_rest : ByteArray := prog_11_method_27_code
def y_Mo_rest : MethodName := ⟨R_Mo, "rest", "(I)I"⟩
def w_Mo_rest : List Cond := .code y_Mo_rest b_Mo_rest 3 (some .int) :: zw_T
abbrev b_Mo_isCost : ByteArray := prog_11_method_28_code
def y_Mo_isCost : MethodName := ⟨R_Mo, "isCost", "(I)Z"⟩
def w_Mo_isCost : List Cond := .code y_Mo_isCost b_Mo_isCost 1 (some .boolean) :: zw_T
abbrev b_Mo_costs : ByteArray := prog_11_method_29_code
def y_Mo_costs : MethodName := ⟨R_Mo, "costs", "(III)V"⟩
def w_Mo_costs : List Cond := .code y_Mo_costs b_Mo_costs 4 none :: zw_T
abbrev b_Mo_quote : ByteArray := prog_11_method_30_code
def y_Mo_quote : MethodName := ⟨R_Mo, "quote", "(II)I"⟩
def w_Mo_quote : List Cond := .code y_Mo_quote b_Mo_quote 5 (some .int) :: zw_T
abbrev b_Mo_isQuote : ByteArray := prog_11_method_31_code
def y_Mo_isQuote : MethodName := ⟨R_Mo, "isQuote", "(I)Z"⟩
def w_Mo_isQuote : List Cond := .code y_Mo_isQuote b_Mo_isQuote 2 (some .boolean) :: zw_T
abbrev b_Mo_quoteAt : ByteArray := prog_11_method_32_code
def y_Mo_quoteAt : MethodName := ⟨R_Mo, "quoteAt", "(II)I"⟩
def w_Mo_quoteAt : List Cond := .code y_Mo_quoteAt b_Mo_quoteAt 3 (some .int) :: zw_T
abbrev b_Mo_price : ByteArray := prog_11_method_33_code
def y_Mo_price : MethodName := ⟨R_Mo, "price", "(I)J"⟩
def w_Mo_price : List Cond := .code y_Mo_price b_Mo_price 2 (some .long) :: zw_T
abbrev b_Mo_credit : ByteArray := prog_11_method_34_code
def y_Mo_credit : MethodName := ⟨R_Mo, "credit", "(II)V"⟩
def w_Mo_credit : List Cond := .code y_Mo_credit b_Mo_credit 3 none :: zw_T
abbrev b_Mo_customerOf : ByteArray := prog_11_method_35_code
def y_Mo_customerOf : MethodName := ⟨R_Mo, "customerOf", "(I)I"⟩
def w_Mo_customerOf : List Cond := .code y_Mo_customerOf b_Mo_customerOf 2 (some .int) :: zw_T
abbrev b_Mo_accept : ByteArray := prog_11_method_36_code
def y_Mo_accept : MethodName := ⟨R_Mo, "accept", "(I)J"⟩
def w_Mo_accept : List Cond := .code y_Mo_accept b_Mo_accept 6 (some .long) :: zw_T
abbrev b_Mo_capacity : ByteArray := prog_11_method_37_code
def y_Mo_capacity : MethodName := ⟨R_Mo, "capacity", "(I)V"⟩
def w_Mo_capacity : List Cond := .code y_Mo_capacity b_Mo_capacity 4 none :: zw_T
abbrev b_Mo_reserve : ByteArray := prog_11_method_38_code
def y_Mo_reserve : MethodName := ⟨R_Mo, "reserve", "(I)I"⟩
def w_Mo_reserve : List Cond := .code y_Mo_reserve b_Mo_reserve 5 (some .int) :: zw_T
abbrev b_Mo_join : ByteArray := prog_11_method_39_code
def y_Mo_join : MethodName := ⟨R_Mo, "join", "(II)I"⟩
def w_Mo_join : List Cond := .code y_Mo_join b_Mo_join 7 (some .int) :: zw_T
abbrev b_Mo_ready : ByteArray := prog_11_method_40_code
def y_Mo_ready : MethodName := ⟨R_Mo, "ready", "(I)Z"⟩
def w_Mo_ready : List Cond := .code y_Mo_ready b_Mo_ready 3 (some .boolean) :: zw_T
abbrev b_Mo_late : ByteArray := prog_11_method_41_code
def y_Mo_late : MethodName := ⟨R_Mo, "late", "(I)I"⟩
def w_Mo_late : List Cond := .code y_Mo_late b_Mo_late 4 (some .int) :: zw_T
abbrev b_Mo_tick : ByteArray := prog_11_method_42_code
def y_Mo_tick : MethodName := ⟨R_Mo, "tick", "(I)I"⟩
def w_Mo_tick : List Cond := .code y_Mo_tick b_Mo_tick 2 (some .int) :: zw_T
abbrev b_L_order : ByteArray := method_3_code
def y_L_order : MethodName := ⟨R_L, "order", "(LOrderRows;II[J)I"⟩
def w_L_order : List Cond := .codeWith y_L_order b_L_order 5 (some .int) [(0, 10, 13, 13), (0, 10, 17, 15), (0, 10, 21, 17)] :: zw_T
abbrev b_L_item : ByteArray := method_4_code
def y_L_item : MethodName := ⟨R_L, "item", "(LOrderRows;IIII[J)I"⟩
def w_L_item : List Cond := .codeWith y_L_item b_L_item 7 (some .int) [(0, 14, 17, 13), (0, 14, 21, 15), (0, 14, 25, 17)] :: zw_T
abbrev b_L_weights : ByteArray := method_5_code
def y_L_weights : MethodName := ⟨R_L, "weights", "(LOrderRows;III)I"⟩
def w_L_weights : List Cond := .codeWith y_L_weights b_L_weights 5 (some .int) [(0, 7, 10, 13), (0, 7, 14, 15), (0, 7, 18, 17)] :: zw_T
abbrev b_L_agree : ByteArray := method_6_code
def y_L_agree : MethodName := ⟨R_L, "agree", "(LOrderRows;II)I"⟩
def w_L_agree : List Cond := .codeWith y_L_agree b_L_agree 4 (some .int) [(0, 6, 9, 13), (0, 6, 12, 15)] :: zw_T
abbrev b_L_change : ByteArray := method_7_code
def y_L_change : MethodName := ⟨R_L, "change", "(LOrderRows;IIIII)I"⟩
def w_L_change : List Cond := .codeWith y_L_change b_L_change 7 (some .int) [(0, 11, 14, 13), (0, 11, 18, 35), (0, 11, 22, 15), (0, 11, 26, 17)] :: zw_T
abbrev b_L_field : ByteArray := method_8_code
def y_L_field : MethodName := ⟨R_L, "field", "(LOrderRows;III[J)I"⟩
def w_L_field : List Cond := .codeWith y_L_field b_L_field 6 (some .int) [(0, 12, 15, 13), (0, 12, 19, 15)] :: zw_T
abbrev b_L_history : ByteArray := method_9_code
def y_L_history : MethodName := ⟨R_L, "history", "(LOrderRows;III[J)I"⟩
def w_L_history : List Cond := .codeWith y_L_history b_L_history 6 (some .int) [(0, 12, 15, 13)] :: zw_T
abbrev b_L_split : ByteArray := method_10_code
def y_L_split : MethodName := ⟨R_L, "split", "(LOrderRows;II[J)I"⟩
def w_L_split : List Cond := .codeWith y_L_split b_L_split 5 (some .int) [(0, 10, 13, 13), (0, 10, 17, 35), (0, 10, 21, 15), (0, 10, 25, 17)] :: zw_T
abbrev b_L_made : ByteArray := method_11_code
def y_L_made : MethodName := ⟨R_L, "made", "(LOrderRows;II[J)I"⟩
def w_L_made : List Cond := .codeWith y_L_made b_L_made 5 (some .int) [(0, 10, 13, 13), (0, 10, 17, 15), (0, 10, 21, 17)] :: zw_T
abbrev b_L_state : ByteArray := method_12_code
def y_L_state : MethodName := ⟨R_L, "state", "(LOrderRows;II[J)I"⟩
def w_L_state : List Cond := .codeWith y_L_state b_L_state 5 (some .int) [(0, 10, 13, 13), (0, 10, 17, 15)] :: zw_T
abbrev b_L_rest : ByteArray := method_13_code
def y_L_rest : MethodName := ⟨R_L, "rest", "(LOrderRows;I[J)I"⟩
def w_L_rest : List Cond := .codeWith y_L_rest b_L_rest 4 (some .int) [(0, 9, 12, 13)] :: zw_T
abbrev b_L_costs : ByteArray := method_14_code
def y_L_costs : MethodName := ⟨R_L, "costs", "(LOrderRows;III)I"⟩
def w_L_costs : List Cond := .codeWith y_L_costs b_L_costs 5 (some .int) [(0, 7, 10, 15)] :: zw_T
abbrev b_L_quote : ByteArray := method_15_code
def y_L_quote : MethodName := ⟨R_L, "quote", "(LOrderRows;II[J)I"⟩
def w_L_quote : List Cond := .codeWith y_L_quote b_L_quote 5 (some .int) [(0, 10, 13, 13), (0, 10, 17, 15), (0, 10, 21, 17)] :: zw_T
abbrev b_L_quoteAt : ByteArray := method_16_code
def y_L_quoteAt : MethodName := ⟨R_L, "quoteAt", "(LOrderRows;II[J)I"⟩
def w_L_quoteAt : List Cond := .codeWith y_L_quoteAt b_L_quoteAt 5 (some .int) [(0, 10, 13, 13)] :: zw_T
abbrev b_L_price : ByteArray := method_17_code
def y_L_price : MethodName := ⟨R_L, "price", "(LOrderRows;I[J)I"⟩
def w_L_price : List Cond := .codeWith y_L_price b_L_price 4 (some .int) [(0, 8, 11, 13)] :: zw_T
abbrev b_L_credit : ByteArray := method_18_code
def y_L_credit : MethodName := ⟨R_L, "credit", "(LOrderRows;II)I"⟩
def w_L_credit : List Cond := .codeWith y_L_credit b_L_credit 4 (some .int) [(0, 6, 9, 13), (0, 6, 12, 15)] :: zw_T
abbrev b_L_accept : ByteArray := method_19_code
def y_L_accept : MethodName := ⟨R_L, "accept", "(LOrderRows;I[J)I"⟩
def w_L_accept : List Cond := .codeWith y_L_accept b_L_accept 4 (some .int) [(0, 8, 11, 13), (0, 8, 14, 35), (0, 8, 17, 17)] :: zw_T
abbrev b_L_capacity : ByteArray := method_20_code
def y_L_capacity : MethodName := ⟨R_L, "capacity", "(LOrderRows;I)I"⟩
def w_L_capacity : List Cond := .codeWith y_L_capacity b_L_capacity 3 (some .int) [(0, 5, 8, 15), (0, 5, 11, 17)] :: zw_T
abbrev b_L_reserve : ByteArray := method_21_code
def y_L_reserve : MethodName := ⟨R_L, "reserve", "(LOrderRows;I[J)I"⟩
def w_L_reserve : List Cond := .codeWith y_L_reserve b_L_reserve 4 (some .int) [(0, 9, 12, 13), (0, 9, 15, 35), (0, 9, 18, 17)] :: zw_T
abbrev b_L_join : ByteArray := method_22_code
def y_L_join : MethodName := ⟨R_L, "join", "(LOrderRows;II[J)I"⟩
def w_L_join : List Cond := .codeWith y_L_join b_L_join 5 (some .int) [(0, 10, 13, 13)] :: zw_T
abbrev b_L_ready : ByteArray := method_23_code
def y_L_ready : MethodName := ⟨R_L, "ready", "(LOrderRows;I[J)I"⟩
def w_L_ready : List Cond := .codeWith y_L_ready b_L_ready 4 (some .int) [(0, 16, 19, 13)] :: zw_T
abbrev b_L_late : ByteArray := method_24_code
def y_L_late : MethodName := ⟨R_L, "late", "(LOrderRows;I[J)I"⟩
def w_L_late : List Cond := .codeWith y_L_late b_L_late 4 (some .int) [(0, 9, 12, 13)] :: zw_T
abbrev b_L_tick : ByteArray := method_25_code
def y_L_tick : MethodName := ⟨R_L, "tick", "(LOrderRows;I[J)I"⟩
def w_L_tick : List Cond := .codeWith y_L_tick b_L_tick 4 (some .int) [(0, 9, 12, 15)] :: zw_T
abbrev b_Acc_init : ByteArray := prog_2_method_1_code
def y_Acc_init : MethodName := ⟨R_Acc, "<init>", "()V"⟩
def w_Acc_init : List Cond := .code y_Acc_init b_Acc_init 1 none :: zw_T
abbrev b_Cal_init : ByteArray := prog_3_method_1_code
def y_Cal_init : MethodName := ⟨R_Cal, "<init>", "()V"⟩
def w_Cal_init : List Cond := .code y_Cal_init b_Cal_init 1 none :: zw_T
abbrev b_Chg_init : ByteArray := prog_4_method_1_code
def y_Chg_init : MethodName := ⟨R_Chg, "<init>", "()V"⟩
def w_Chg_init : List Cond := .code y_Chg_init b_Chg_init 1 none :: zw_T
abbrev b_Itm_init : ByteArray := prog_5_method_1_code
def y_Itm_init : MethodName := ⟨R_Itm, "<init>", "()V"⟩
def w_Itm_init : List Cond := .code y_Itm_init b_Itm_init 1 none :: zw_T
abbrev b_Ord_init : ByteArray := prog_6_method_1_code
def y_Ord_init : MethodName := ⟨R_Ord, "<init>", "()V"⟩
def w_Ord_init : List Cond := .code y_Ord_init b_Ord_init 1 none :: zw_T
abbrev b_Out_init : ByteArray := prog_7_method_1_code
def y_Out_init : MethodName := ⟨R_Out, "<init>", "()V"⟩
def w_Out_init : List Cond := .code y_Out_init b_Out_init 1 none :: zw_T
abbrev b_Quo_init : ByteArray := prog_8_method_1_code
def y_Quo_init : MethodName := ⟨R_Quo, "<init>", "()V"⟩
def w_Quo_init : List Cond := .code y_Quo_init b_Quo_init 1 none :: zw_T
abbrev b_Rat_init : ByteArray := prog_9_method_1_code
def y_Rat_init : MethodName := ⟨R_Rat, "<init>", "()V"⟩
def w_Rat_init : List Cond := .code y_Rat_init b_Rat_init 1 none :: zw_T
abbrev b_Or_init : ByteArray := prog_1_method_1_code
def y_Or_init : MethodName := ⟨R_Or, "<init>", "()V"⟩
def w_Or_init : List Cond := .code y_Or_init b_Or_init 1 none :: zw_T
abbrev b_Mo_init : ByteArray := prog_11_method_1_code
def y_Mo_init : MethodName := ⟨R_Mo, "<init>", "()V"⟩
def w_Mo_init : List Cond := .code y_Mo_init b_Mo_init 1 none :: zw_T
abbrev b_L_law : ByteArray := code
theorem zd_l {a b : Bool} (h : (a && b) = true) : a = true := by
  cases a with
  | true => rfl
  | false => exact h
theorem zd_r {a b : Bool} (h : (a && b) = true) : b = true := by
  cases a with
  | true => exact h
  | false => exact absurd (show false = true from h) (by decide)
def zw_q (i : Nat) (c : Cond) : Bool := decide (tables_1[i]? = some c) && goodWord c
theorem zw_m (i : Nat) {c : Cond} (h : tables_1[i]? = some c) (g : goodWord c = true) : c ∈ zw_T := List.mem_filter.mpr ⟨List.mem_append_right _ (List.mem_of_getElem? (i := i) h), g⟩
theorem zw_k {i : Nat} {c : Cond} (h : zw_q i c = true) : c ∈ zw_T := List.mem_filter.mpr ⟨List.mem_append_right _ (List.mem_of_getElem? (i := i) (of_decide_eq_true (zd_l h))), zd_r h⟩
set_option maxRecDepth 100000 in
theorem zw_0 : Cond.fieldLink R_Cal 9 "OrderRows$Calendar" "taken" "[Z" ∈ zw_T := zw_m 184 rfl rfl
set_option maxRecDepth 100000 in
theorem zw_1 : Cond.fieldLink R_Cal 15 "OrderRows$Calendar" "day" "[I" ∈ zw_T := zw_m 186 rfl rfl
set_option maxRecDepth 100000 in
theorem zw_2 : Cond.fieldLink R_Cal 19 "OrderRows$Calendar" "kilos" "[I" ∈ zw_T := zw_m 187 rfl rfl
set_option maxRecDepth 100000 in
theorem zw_6 : Cond.initialized R_Cal ∈ zw_T := zw_m 9 rfl rfl
set_option maxRecDepth 100000 in
theorem zw_8 : Cond.fieldLink R_Cal 22 "OrderRows$Calendar" "kilosADay" "I" ∈ zw_T := zw_m 188 rfl rfl
set_option maxRecDepth 100000 in
theorem zw_9 : Cond.fieldLink R_Chg 24 "OrderRows$Changes" "count" "[I" ∈ zw_T := zw_m 82 rfl rfl
set_option maxRecDepth 100000 in
theorem zw_10 : Cond.code y_Or_isWithin b_Or_isWithin 3 (some .boolean) ∈ zw_T := zw_m 239 rfl rfl
set_option maxRecDepth 100000 in
theorem zw_11 : Cond.initialized R_Or ∈ zw_T := zw_m 1 rfl rfl
set_option maxRecDepth 100000 in
theorem zw_12 : Cond.static y_Or_isWithin ∈ zw_T := zw_m 238 rfl rfl
set_option maxRecDepth 100000 in
theorem zw_13 : Cond.fieldLink R_Chg 9 "OrderRows$Changes" "field" "[I" ∈ zw_T := zw_m 78 rfl rfl
set_option maxRecDepth 100000 in
theorem zw_14 : Cond.fieldLink R_Chg 15 "OrderRows$Changes" "value" "[I" ∈ zw_T := zw_m 79 rfl rfl
set_option maxRecDepth 100000 in
theorem zw_15 : Cond.fieldLink R_Chg 18 "OrderRows$Changes" "from" "[I" ∈ zw_T := zw_m 80 rfl rfl
set_option maxRecDepth 100000 in
theorem zw_16 : Cond.fieldLink R_Chg 21 "OrderRows$Changes" "told" "[I" ∈ zw_T := zw_m 81 rfl rfl
set_option maxRecDepth 100000 in
theorem zw_17 : Cond.fieldLink R_Itm 21 "OrderRows$Items" "count" "I" ∈ zw_T := zw_m 61 rfl rfl
set_option maxRecDepth 100000 in
theorem zw_18 : Cond.fieldLink R_Itm 9 "OrderRows$Items" "orderOf" "[I" ∈ zw_T := zw_m 56 rfl rfl
set_option maxRecDepth 100000 in
theorem zw_19 : Cond.fieldLink R_Itm 18 "OrderRows$Items" "first" "[I" ∈ zw_T := zw_m 60 rfl rfl
set_option maxRecDepth 100000 in
theorem zw_20 : Cond.fieldLink R_Itm 15 "OrderRows$Items" "agreedRule" "[I" ∈ zw_T := zw_m 58 rfl rfl
set_option maxRecDepth 100000 in
theorem zw_21 : Cond.fieldLink R_Ord 21 "OrderRows$Orders" "count" "I" ∈ zw_T := zw_m 38 rfl rfl
set_option maxRecDepth 100000 in
theorem zw_22 : Cond.fieldLink R_Ord 9 "OrderRows$Orders" "customer" "[I" ∈ zw_T := zw_m 33 rfl rfl
set_option maxRecDepth 100000 in
theorem zw_23 : Cond.fieldLink R_Ord 15 "OrderRows$Orders" "due" "[I" ∈ zw_T := zw_m 35 rfl rfl
set_option maxRecDepth 100000 in
theorem zw_24 : Cond.fieldLink R_Ord 18 "OrderRows$Orders" "group" "[I" ∈ zw_T := zw_m 37 rfl rfl
set_option maxRecDepth 100000 in
theorem zw_28 : Cond.initialized R_Ord ∈ zw_T := zw_m 2 rfl rfl
set_option maxRecDepth 100000 in
theorem zw_30 : Cond.fieldLink R_Out 9 "OrderRows$Outputs" "item" "[I" ∈ zw_T := zw_m 100 rfl rfl
set_option maxRecDepth 100000 in
theorem zw_31 : Cond.fieldLink R_Out 24 "OrderRows$Outputs" "count" "I" ∈ zw_T := zw_m 105 rfl rfl
set_option maxRecDepth 100000 in
theorem zw_32 : Cond.fieldLink R_Out 15 "OrderRows$Outputs" "day" "[I" ∈ zw_T := zw_m 101 rfl rfl
set_option maxRecDepth 100000 in
theorem zw_33 : Cond.fieldLink R_Out 18 "OrderRows$Outputs" "kilos" "[I" ∈ zw_T := zw_m 102 rfl rfl
set_option maxRecDepth 100000 in
theorem zw_34 : Cond.fieldLink R_Out 21 "OrderRows$Outputs" "total" "[I" ∈ zw_T := zw_m 103 rfl rfl
set_option maxRecDepth 100000 in
theorem zw_35 : Cond.fieldLink R_Quo 26 "OrderRows$Quotes" "count" "I" ∈ zw_T := zw_m 148 rfl rfl
set_option maxRecDepth 100000 in
theorem zw_36 : Cond.fieldLink R_Quo 9 "OrderRows$Quotes" "item" "[I" ∈ zw_T := zw_m 140 rfl rfl
set_option maxRecDepth 100000 in
theorem zw_37 : Cond.fieldLink R_Quo 15 "OrderRows$Quotes" "until" "[I" ∈ zw_T := zw_m 142 rfl rfl
set_option maxRecDepth 100000 in
theorem zw_38 : Cond.fieldLink R_Quo 18 "OrderRows$Quotes" "cents" "[J" ∈ zw_T := zw_m 144 rfl rfl
set_option maxRecDepth 100000 in
theorem zw_39 : Cond.fieldLink R_Quo 22 "OrderRows$Quotes" "accepted" "[Z" ∈ zw_T := zw_m 146 rfl rfl
set_option maxRecDepth 100000 in
theorem zw_40 : Cond.fieldLink R_Rat 7 "OrderRows$Rates" "base" "I" ∈ zw_T := zw_m 124 rfl rfl
set_option maxRecDepth 100000 in
theorem zw_41 : Cond.fieldLink R_Rat 13 "OrderRows$Rates" "perThousand" "I" ∈ zw_T := zw_m 125 rfl rfl
set_option maxRecDepth 100000 in
theorem zw_42 : Cond.fieldLink R_Rat 16 "OrderRows$Rates" "perWidth" "I" ∈ zw_T := zw_m 126 rfl rfl
set_option maxRecDepth 100000 in
theorem zw_45 : Cond.classLink R_Or 246 "java/lang/IndexOutOfBoundsException" ∈ zw_T := zw_m 243 rfl rfl
set_option maxRecDepth 100000 in
theorem zw_46 : Cond.initialized "java/lang/IndexOutOfBoundsException" ∈ zw_T := zw_m 14 rfl rfl
set_option maxRecDepth 100000 in
theorem zw_47 : Cond.fieldLink R_Or 65 "OrderRows" "today" "I" ∈ zw_T := zw_m 207 rfl rfl
set_option maxRecDepth 100000 in
theorem zw_48 : Cond.methodLink R_Or 69 y_Or_isWithin ∈ zw_T := zw_m 237 rfl rfl
set_option maxRecDepth 100000 in
theorem zw_49 : Cond.classLink R_Or 258 "java/lang/IllegalArgumentException" ∈ zw_T := zw_m 319 rfl rfl
set_option maxRecDepth 100000 in
theorem zw_50 : Cond.initialized "java/lang/IllegalArgumentException" ∈ zw_T := zw_m 15 rfl rfl
set_option maxRecDepth 100000 in
theorem zw_51 : Cond.classLink R_Or 263 "java/lang/UnsupportedOperationException" ∈ zw_T := zw_m 338 rfl rfl
set_option maxRecDepth 100000 in
theorem zw_52 : Cond.initialized "java/lang/UnsupportedOperationException" ∈ zw_T := zw_m 16 rfl rfl
set_option maxRecDepth 100000 in
theorem zw_53 : Cond.methodLink R_Or 87 y_Or_needMeaning ∈ zw_T := zw_m 335 rfl rfl
set_option maxRecDepth 100000 in
theorem zw_54 : Cond.static y_Or_needMeaning ∈ zw_T := zw_m 336 rfl rfl
set_option maxRecDepth 100000 in
theorem zw_55 : Cond.code y_Or_needMeaning b_Or_needMeaning 1 none ∈ zw_T := zw_m 337 rfl rfl
set_option maxRecDepth 100000 in
theorem zw_56 : Cond.fieldLink R_Or 10 "OrderRows" "orders" "LOrderRows$Orders;" ∈ zw_T := zw_m 199 rfl rfl
set_option maxRecDepth 100000 in
theorem zw_57 : Cond.methodLink R_Or 90 y_Ord_add ∈ zw_T := zw_m 354 rfl rfl
set_option maxRecDepth 100000 in
theorem zw_58 : Cond.instanceMethod y_Ord_add ∈ zw_T := zw_m 355 rfl rfl
set_option maxRecDepth 100000 in
theorem zw_59 : Cond.selects R_Ord y_Ord_add y_Ord_add ∈ zw_T := zw_m 356 rfl rfl
set_option maxRecDepth 100000 in
theorem zw_60 : Cond.code y_Ord_add b_Ord_add 4 (some .int) ∈ zw_T := zw_m 357 rfl rfl
set_option maxRecDepth 100000 in
theorem zw_61 : Cond.methodLink R_Or 73 y_Or_needIndex ∈ zw_T := zw_m 240 rfl rfl
set_option maxRecDepth 100000 in
theorem zw_62 : Cond.static y_Or_needIndex ∈ zw_T := zw_m 241 rfl rfl
set_option maxRecDepth 100000 in
theorem zw_63 : Cond.code y_Or_needIndex b_Or_needIndex 1 none ∈ zw_T := zw_m 242 rfl rfl
set_option maxRecDepth 100000 in
theorem zw_64 : Cond.methodLink R_Or 77 y_Or_isDayToCome ∈ zw_T := zw_m 312 rfl rfl
set_option maxRecDepth 100000 in
theorem zw_65 : Cond.instanceMethod y_Or_isDayToCome ∈ zw_T := zw_m 314 rfl rfl
theorem zw_66 : Cond.selects R_Or y_Or_isDayToCome y_Or_isDayToCome ∈ zw_T := List.mem_filter.mpr ⟨List.mem_append_left _ (List.mem_of_getElem? (i := 1) (by decide +kernel)), by decide +kernel⟩
set_option maxRecDepth 100000 in
theorem zw_67 : Cond.code y_Or_isDayToCome b_Or_isDayToCome 2 (some .boolean) ∈ zw_T := zw_m 315 rfl rfl
set_option maxRecDepth 100000 in
theorem zw_68 : Cond.methodLink R_Or 81 y_Or_needRange ∈ zw_T := zw_m 316 rfl rfl
set_option maxRecDepth 100000 in
theorem zw_69 : Cond.static y_Or_needRange ∈ zw_T := zw_m 317 rfl rfl
set_option maxRecDepth 100000 in
theorem zw_70 : Cond.code y_Or_needRange b_Or_needRange 1 none ∈ zw_T := zw_m 318 rfl rfl
set_option maxRecDepth 100000 in
theorem zw_71 : Cond.fieldLink R_Or 84 "OrderRows$Orders" "count" "I" ∈ zw_T := zw_m 39 rfl rfl
set_option maxRecDepth 100000 in
theorem zw_72 : Cond.constant R_Or 268 100000 ∈ zw_T := zw_m 373 rfl rfl
set_option maxRecDepth 100000 in
theorem zw_73 : Cond.fieldLink R_Or 19 "OrderRows" "items" "LOrderRows$Items;" ∈ zw_T := zw_m 200 rfl rfl
set_option maxRecDepth 100000 in
theorem zw_74 : Cond.methodLink R_Or 101 y_Itm_add ∈ zw_T := zw_m 374 rfl rfl
set_option maxRecDepth 100000 in
theorem zw_75 : Cond.instanceMethod y_Itm_add ∈ zw_T := zw_m 375 rfl rfl
set_option maxRecDepth 100000 in
theorem zw_76 : Cond.selects R_Itm y_Itm_add y_Itm_add ∈ zw_T := zw_m 376 rfl rfl
set_option maxRecDepth 100000 in
theorem zw_77 : Cond.initialized R_Itm ∈ zw_T := zw_m 3 rfl rfl
set_option maxRecDepth 100000 in
theorem zw_78 : Cond.code y_Itm_add b_Itm_add 3 (some .int) ∈ zw_T := zw_m 377 rfl rfl
set_option maxRecDepth 100000 in
theorem zw_79 : Cond.methodLink R_Or 104 y_Itm_begin ∈ zw_T := zw_m 378 rfl rfl
set_option maxRecDepth 100000 in
theorem zw_80 : Cond.instanceMethod y_Itm_begin ∈ zw_T := zw_m 379 rfl rfl
set_option maxRecDepth 100000 in
theorem zw_81 : Cond.selects R_Itm y_Itm_begin y_Itm_begin ∈ zw_T := zw_m 380 rfl rfl
set_option maxRecDepth 100000 in
theorem zw_82 : Cond.code y_Itm_begin b_Itm_begin 4 none ∈ zw_T := zw_m 381 rfl rfl
set_option maxRecDepth 100000 in
theorem zw_83 : Cond.fieldLink R_Or 108 "OrderRows$Orders" "due" "[I" ∈ zw_T := zw_m 36 rfl rfl
set_option maxRecDepth 100000 in
theorem zw_84 : Cond.fieldLink R_Or 100 "OrderRows$Items" "count" "I" ∈ zw_T := zw_m 62 rfl rfl
set_option maxRecDepth 100000 in
theorem zw_85 : Cond.methodLink R_Or 94 y_Ord_has ∈ zw_T := zw_m 365 rfl rfl
set_option maxRecDepth 100000 in
theorem zw_86 : Cond.instanceMethod y_Ord_has ∈ zw_T := zw_m 366 rfl rfl
set_option maxRecDepth 100000 in
theorem zw_87 : Cond.selects R_Ord y_Ord_has y_Ord_has ∈ zw_T := zw_m 367 rfl rfl
set_option maxRecDepth 100000 in
theorem zw_88 : Cond.code y_Ord_has b_Ord_has 2 (some .boolean) ∈ zw_T := zw_m 368 rfl rfl
set_option maxRecDepth 100000 in
theorem zw_89 : Cond.methodLink R_Or 97 y_Or_isSize ∈ zw_T := zw_m 370 rfl rfl
set_option maxRecDepth 100000 in
theorem zw_90 : Cond.static y_Or_isSize ∈ zw_T := zw_m 371 rfl rfl
set_option maxRecDepth 100000 in
theorem zw_91 : Cond.code y_Or_isSize b_Or_isSize 1 (some .boolean) ∈ zw_T := zw_m 372 rfl rfl
set_option maxRecDepth 100000 in
theorem zw_92 : Cond.constant R_Or 165 1000000 ∈ zw_T := zw_m 397 rfl rfl
set_option maxRecDepth 100000 in
theorem zw_93 : Cond.fieldLink R_Or 26 "OrderRows" "changes" "LOrderRows$Changes;" ∈ zw_T := zw_m 201 rfl rfl
set_option maxRecDepth 100000 in
theorem zw_94 : Cond.methodLink R_Or 116 y_Chg_hasRoom ∈ zw_T := zw_m 398 rfl rfl
set_option maxRecDepth 100000 in
theorem zw_95 : Cond.instanceMethod y_Chg_hasRoom ∈ zw_T := zw_m 399 rfl rfl
set_option maxRecDepth 100000 in
theorem zw_96 : Cond.selects R_Chg y_Chg_hasRoom y_Chg_hasRoom ∈ zw_T := zw_m 400 rfl rfl
set_option maxRecDepth 100000 in
theorem zw_97 : Cond.initialized R_Chg ∈ zw_T := zw_m 4 rfl rfl
set_option maxRecDepth 100000 in
theorem zw_98 : Cond.code y_Chg_hasRoom b_Chg_hasRoom 3 (some .boolean) ∈ zw_T := zw_m 401 rfl rfl
set_option maxRecDepth 100000 in
theorem zw_99 : Cond.methodLink R_Or 120 y_Chg_add ∈ zw_T := zw_m 402 rfl rfl
set_option maxRecDepth 100000 in
theorem zw_100 : Cond.instanceMethod y_Chg_add ∈ zw_T := zw_m 403 rfl rfl
set_option maxRecDepth 100000 in
theorem zw_101 : Cond.selects R_Chg y_Chg_add y_Chg_add ∈ zw_T := zw_m 404 rfl rfl
set_option maxRecDepth 100000 in
theorem zw_102 : Cond.code y_Chg_add b_Chg_add 7 none ∈ zw_T := zw_m 405 rfl rfl
set_option maxRecDepth 100000 in
theorem zw_103 : Cond.methodLink R_Or 112 y_Itm_has ∈ zw_T := zw_m 389 rfl rfl
set_option maxRecDepth 100000 in
theorem zw_104 : Cond.instanceMethod y_Itm_has ∈ zw_T := zw_m 390 rfl rfl
set_option maxRecDepth 100000 in
theorem zw_105 : Cond.selects R_Itm y_Itm_has y_Itm_has ∈ zw_T := zw_m 391 rfl rfl
set_option maxRecDepth 100000 in
theorem zw_106 : Cond.code y_Itm_has b_Itm_has 2 (some .boolean) ∈ zw_T := zw_m 392 rfl rfl
set_option maxRecDepth 100000 in
theorem zw_107 : Cond.methodLink R_Or 113 y_Or_isWeight ∈ zw_T := zw_m 394 rfl rfl
set_option maxRecDepth 100000 in
theorem zw_108 : Cond.static y_Or_isWeight ∈ zw_T := zw_m 395 rfl rfl
set_option maxRecDepth 100000 in
theorem zw_109 : Cond.code y_Or_isWeight b_Or_isWeight 1 (some .boolean) ∈ zw_T := zw_m 396 rfl rfl
set_option maxRecDepth 100000 in
theorem zw_110 : Cond.fieldLink R_Or 123 "OrderRows$Items" "agreedRule" "[I" ∈ zw_T := zw_m 59 rfl rfl
set_option maxRecDepth 100000 in
theorem zw_111 : Cond.classLink R_Or 253 "java/lang/IllegalStateException" ∈ zw_T := zw_m 431 rfl rfl
set_option maxRecDepth 100000 in
theorem zw_112 : Cond.initialized "java/lang/IllegalStateException" ∈ zw_T := zw_m 17 rfl rfl
theorem zw_123 : Cond.selects R_Or y_Or_valueOn y_Or_valueOn ∈ zw_T := List.mem_filter.mpr ⟨List.mem_append_left _ (List.mem_of_getElem? (i := 4) (by decide +kernel)), by decide +kernel⟩
theorem zw_127 : Cond.selects R_Or y_Or_keepsLeastWithinMost y_Or_keepsLeastWithinMost ∈ zw_T := List.mem_filter.mpr ⟨List.mem_append_left _ (List.mem_of_getElem? (i := 3) (by decide +kernel)), by decide +kernel⟩
set_option maxRecDepth 100000 in
theorem zw_129 : Cond.methodLink R_Or 135 y_Or_needTurn ∈ zw_T := zw_m 428 rfl rfl
set_option maxRecDepth 100000 in
theorem zw_130 : Cond.static y_Or_needTurn ∈ zw_T := zw_m 429 rfl rfl
set_option maxRecDepth 100000 in
theorem zw_131 : Cond.code y_Or_needTurn b_Or_needTurn 1 none ∈ zw_T := zw_m 430 rfl rfl
set_option maxRecDepth 100000 in
theorem zw_132 : Cond.methodLink R_Or 138 y_Or_isValueOf ∈ zw_T := zw_m 447 rfl rfl
set_option maxRecDepth 100000 in
theorem zw_133 : Cond.instanceMethod y_Or_isValueOf ∈ zw_T := zw_m 449 rfl rfl
theorem zw_134 : Cond.selects R_Or y_Or_isValueOf y_Or_isValueOf ∈ zw_T := List.mem_filter.mpr ⟨List.mem_append_left _ (List.mem_of_getElem? (i := 2) (by decide +kernel)), by decide +kernel⟩
set_option maxRecDepth 100000 in
theorem zw_139 : Cond.fieldLink R_Or 33 "OrderRows" "outputs" "LOrderRows$Outputs;" ∈ zw_T := zw_m 202 rfl rfl
set_option maxRecDepth 100000 in
theorem zw_140 : Cond.fieldLink R_Or 129 "OrderRows$Outputs" "total" "[I" ∈ zw_T := zw_m 104 rfl rfl
set_option maxRecDepth 100000 in
theorem zw_141 : Cond.methodLink R_Or 132 y_Itm_isAgreed ∈ zw_T := zw_m 424 rfl rfl
set_option maxRecDepth 100000 in
theorem zw_142 : Cond.instanceMethod y_Itm_isAgreed ∈ zw_T := zw_m 425 rfl rfl
set_option maxRecDepth 100000 in
theorem zw_143 : Cond.selects R_Itm y_Itm_isAgreed y_Itm_isAgreed ∈ zw_T := zw_m 426 rfl rfl
set_option maxRecDepth 100000 in
theorem zw_144 : Cond.code y_Itm_isAgreed b_Itm_isAgreed 3 (some .boolean) ∈ zw_T := zw_m 427 rfl rfl
set_option maxRecDepth 100000 in
theorem zw_145 : Cond.methodLink R_Or 126 y_Or_isField ∈ zw_T := zw_m 421 rfl rfl
set_option maxRecDepth 100000 in
theorem zw_146 : Cond.static y_Or_isField ∈ zw_T := zw_m 422 rfl rfl
set_option maxRecDepth 100000 in
theorem zw_147 : Cond.code y_Or_isField b_Or_isField 1 (some .boolean) ∈ zw_T := zw_m 423 rfl rfl
theorem zwt_0 : (((((zw_q 625 (Cond.methodLink R_Cal 26 y_Cal_takenOn) && zw_q 626 (Cond.instanceMethod y_Cal_takenOn)) && (zw_q 627 (Cond.selects R_Cal y_Cal_takenOn y_Cal_takenOn) && zw_q 628 (Cond.code y_Cal_takenOn b_Cal_takenOn 4 (some .int)))) && ((zw_q 659 (Cond.methodLink R_Ord 29 y_Ord_areTogether) && zw_q 660 (Cond.instanceMethod y_Ord_areTogether)) && (zw_q 661 (Cond.selects R_Ord y_Ord_areTogether y_Ord_areTogether) && zw_q 662 (Cond.code y_Ord_areTogether b_Ord_areTogether 3 (some .boolean))))) && (((zw_q 569 (Cond.constantLong R_Rat 19 999) && zw_q 570 (Cond.constantLong R_Rat 21 1000)) && (zw_q 462 (Cond.methodLink R_Or 269 y_Itm_atFirst) && zw_q 463 (Cond.instanceMethod y_Itm_atFirst))) && ((zw_q 464 (Cond.selects R_Itm y_Itm_atFirst y_Itm_atFirst) && zw_q 465 (Cond.code y_Itm_atFirst b_Itm_atFirst 3 (some .int))) && (zw_q 466 (Cond.methodLink R_Or 272 y_Chg_valueOn) && zw_q 467 (Cond.instanceMethod y_Chg_valueOn))))) && ((((zw_q 468 (Cond.selects R_Chg y_Chg_valueOn y_Chg_valueOn) && zw_q 469 (Cond.code y_Chg_valueOn b_Chg_valueOn 10 (some .int))) && (zw_q 458 (Cond.methodLink R_Or 148 y_Or_valueOn) && zw_q 460 (Cond.instanceMethod y_Or_valueOn))) && ((zw_q 461 (Cond.code y_Or_valueOn b_Or_valueOn 4 (some .int)) && zw_q 454 (Cond.methodLink R_Or 144 y_Or_keepsLeastWithinMost)) && (zw_q 456 (Cond.instanceMethod y_Or_keepsLeastWithinMost) && zw_q 457 (Cond.code y_Or_keepsLeastWithinMost b_Or_keepsLeastWithinMost 5 (some .boolean))))) && (((zw_q 450 (Cond.code y_Or_isValueOf b_Or_isValueOf 3 (some .boolean)) && zw_q 451 (Cond.methodLink R_Or 141 y_Or_isDay)) && (zw_q 452 (Cond.static y_Or_isDay) && zw_q 453 (Cond.code y_Or_isDay b_Or_isDay 1 (some .boolean)))) && ((zw_q 489 (Cond.methodLink R_Or 154 y_Chg_look) && zw_q 490 (Cond.instanceMethod y_Chg_look)) && (zw_q 491 (Cond.selects R_Chg y_Chg_look y_Chg_look) && zw_q 492 (Cond.code y_Chg_look b_Chg_look 5 (some .int))))))) = true := by decide +kernel
theorem zw_3 : Cond.methodLink R_Cal 26 y_Cal_takenOn ∈ zw_T := zw_k (zd_l (zd_l (zd_l (zd_l (zd_l zwt_0)))))
theorem zw_4 : Cond.instanceMethod y_Cal_takenOn ∈ zw_T := zw_k (zd_r (zd_l (zd_l (zd_l (zd_l zwt_0)))))
theorem zw_5 : Cond.selects R_Cal y_Cal_takenOn y_Cal_takenOn ∈ zw_T := zw_k (zd_l (zd_r (zd_l (zd_l (zd_l zwt_0)))))
theorem zw_7 : Cond.code y_Cal_takenOn b_Cal_takenOn 4 (some .int) ∈ zw_T := zw_k (zd_r (zd_r (zd_l (zd_l (zd_l zwt_0)))))
theorem zw_25 : Cond.methodLink R_Ord 29 y_Ord_areTogether ∈ zw_T := zw_k (zd_l (zd_l (zd_r (zd_l (zd_l zwt_0)))))
theorem zw_26 : Cond.instanceMethod y_Ord_areTogether ∈ zw_T := zw_k (zd_r (zd_l (zd_r (zd_l (zd_l zwt_0)))))
theorem zw_27 : Cond.selects R_Ord y_Ord_areTogether y_Ord_areTogether ∈ zw_T := zw_k (zd_l (zd_r (zd_r (zd_l (zd_l zwt_0)))))
theorem zw_29 : Cond.code y_Ord_areTogether b_Ord_areTogether 3 (some .boolean) ∈ zw_T := zw_k (zd_r (zd_r (zd_r (zd_l (zd_l zwt_0)))))
theorem zw_43 : Cond.constantLong R_Rat 19 999 ∈ zw_T := zw_k (zd_l (zd_l (zd_l (zd_r (zd_l zwt_0)))))
theorem zw_44 : Cond.constantLong R_Rat 21 1000 ∈ zw_T := zw_k (zd_r (zd_l (zd_l (zd_r (zd_l zwt_0)))))
theorem zw_113 : Cond.methodLink R_Or 269 y_Itm_atFirst ∈ zw_T := zw_k (zd_l (zd_r (zd_l (zd_r (zd_l zwt_0)))))
theorem zw_114 : Cond.instanceMethod y_Itm_atFirst ∈ zw_T := zw_k (zd_r (zd_r (zd_l (zd_r (zd_l zwt_0)))))
theorem zw_115 : Cond.selects R_Itm y_Itm_atFirst y_Itm_atFirst ∈ zw_T := zw_k (zd_l (zd_l (zd_r (zd_r (zd_l zwt_0)))))
theorem zw_116 : Cond.code y_Itm_atFirst b_Itm_atFirst 3 (some .int) ∈ zw_T := zw_k (zd_r (zd_l (zd_r (zd_r (zd_l zwt_0)))))
theorem zw_117 : Cond.methodLink R_Or 272 y_Chg_valueOn ∈ zw_T := zw_k (zd_l (zd_r (zd_r (zd_r (zd_l zwt_0)))))
theorem zw_118 : Cond.instanceMethod y_Chg_valueOn ∈ zw_T := zw_k (zd_r (zd_r (zd_r (zd_r (zd_l zwt_0)))))
theorem zw_119 : Cond.selects R_Chg y_Chg_valueOn y_Chg_valueOn ∈ zw_T := zw_k (zd_l (zd_l (zd_l (zd_l (zd_r zwt_0)))))
theorem zw_120 : Cond.code y_Chg_valueOn b_Chg_valueOn 10 (some .int) ∈ zw_T := zw_k (zd_r (zd_l (zd_l (zd_l (zd_r zwt_0)))))
theorem zw_121 : Cond.methodLink R_Or 148 y_Or_valueOn ∈ zw_T := zw_k (zd_l (zd_r (zd_l (zd_l (zd_r zwt_0)))))
theorem zw_122 : Cond.instanceMethod y_Or_valueOn ∈ zw_T := zw_k (zd_r (zd_r (zd_l (zd_l (zd_r zwt_0)))))
theorem zw_124 : Cond.code y_Or_valueOn b_Or_valueOn 4 (some .int) ∈ zw_T := zw_k (zd_l (zd_l (zd_r (zd_l (zd_r zwt_0)))))
theorem zw_125 : Cond.methodLink R_Or 144 y_Or_keepsLeastWithinMost ∈ zw_T := zw_k (zd_r (zd_l (zd_r (zd_l (zd_r zwt_0)))))
theorem zw_126 : Cond.instanceMethod y_Or_keepsLeastWithinMost ∈ zw_T := zw_k (zd_l (zd_r (zd_r (zd_l (zd_r zwt_0)))))
theorem zw_128 : Cond.code y_Or_keepsLeastWithinMost b_Or_keepsLeastWithinMost 5 (some .boolean) ∈ zw_T := zw_k (zd_r (zd_r (zd_r (zd_l (zd_r zwt_0)))))
theorem zw_135 : Cond.code y_Or_isValueOf b_Or_isValueOf 3 (some .boolean) ∈ zw_T := zw_k (zd_l (zd_l (zd_l (zd_r (zd_r zwt_0)))))
theorem zw_136 : Cond.methodLink R_Or 141 y_Or_isDay ∈ zw_T := zw_k (zd_r (zd_l (zd_l (zd_r (zd_r zwt_0)))))
theorem zw_137 : Cond.static y_Or_isDay ∈ zw_T := zw_k (zd_l (zd_r (zd_l (zd_r (zd_r zwt_0)))))
theorem zw_138 : Cond.code y_Or_isDay b_Or_isDay 1 (some .boolean) ∈ zw_T := zw_k (zd_r (zd_r (zd_l (zd_r (zd_r zwt_0)))))
theorem zw_148 : Cond.methodLink R_Or 154 y_Chg_look ∈ zw_T := zw_k (zd_l (zd_l (zd_r (zd_r (zd_r zwt_0)))))
theorem zw_149 : Cond.instanceMethod y_Chg_look ∈ zw_T := zw_k (zd_r (zd_l (zd_r (zd_r (zd_r zwt_0)))))
theorem zw_150 : Cond.selects R_Chg y_Chg_look y_Chg_look ∈ zw_T := zw_k (zd_l (zd_r (zd_r (zd_r (zd_r zwt_0)))))
theorem zw_151 : Cond.code y_Chg_look b_Chg_look 5 (some .int) ∈ zw_T := zw_k (zd_r (zd_r (zd_r (zd_r (zd_r zwt_0)))))
set_option maxRecDepth 100000 in
theorem zw_156 : Cond.fieldLink R_Or 211 "OrderRows$Items" "orderOf" "[I" ∈ zw_T := zw_m 57 rfl rfl
set_option maxRecDepth 100000 in
theorem zw_159 : Cond.initialized "java/lang/Math" ∈ zw_T := zw_m 18 rfl rfl
theorem zw_163 : Cond.selects R_Or y_Or_copyOfToday y_Or_copyOfToday ∈ zw_T := List.mem_filter.mpr ⟨List.mem_append_left _ (List.mem_of_getElem? (i := 5) (by decide +kernel)), by decide +kernel⟩
set_option maxRecDepth 100000 in
theorem zw_168 : Cond.initialized R_Out ∈ zw_T := zw_m 5 rfl rfl
set_option maxRecDepth 100000 in
theorem zw_171 : Cond.fieldLink R_Or 167 "OrderRows$Outputs" "count" "I" ∈ zw_T := zw_m 106 rfl rfl
theorem zw_178 : Cond.selects R_Or y_Or_stateOn y_Or_stateOn ∈ zw_T := List.mem_filter.mpr ⟨List.mem_append_left _ (List.mem_of_getElem? (i := 6) (by decide +kernel)), by decide +kernel⟩
set_option maxRecDepth 100000 in
theorem zw_183 : Cond.fieldLink R_Or 40 "OrderRows" "rates" "LOrderRows$Rates;" ∈ zw_T := zw_m 203 rfl rfl
set_option maxRecDepth 100000 in
theorem zw_187 : Cond.initialized R_Rat ∈ zw_T := zw_m 6 rfl rfl
theorem zwt_1 : (((((zw_q 485 (Cond.methodLink R_Or 152 y_Chg_has) && zw_q 486 (Cond.instanceMethod y_Chg_has)) && (zw_q 487 (Cond.selects R_Chg y_Chg_has y_Chg_has) && zw_q 488 (Cond.code y_Chg_has b_Chg_has 3 (some .boolean)))) && ((zw_q 500 (Cond.methodLink R_Or 157 Lib.Math.min.name) && zw_q 501 (Cond.static Lib.Math.min.name)) && (zw_q 502 (Cond.code Lib.Math.min.name Lib.Math.min.code 2 (some .int)) && zw_q 503 (Cond.methodLink R_Or 162 y_Or_copyOfToday)))) && (((zw_q 505 (Cond.instanceMethod y_Or_copyOfToday) && zw_q 506 (Cond.code y_Or_copyOfToday b_Or_copyOfToday 4 (some .int))) && (zw_q 515 (Cond.methodLink R_Or 168 y_Out_add) && zw_q 516 (Cond.instanceMethod y_Out_add))) && ((zw_q 517 (Cond.selects R_Out y_Out_add y_Out_add) && zw_q 518 (Cond.code y_Out_add b_Out_add 4 none)) && (zw_q 514 (Cond.constant R_Or 166 1000000000) && zw_q 530 (Cond.methodLink R_Or 275 y_Out_upTo))))) && ((((zw_q 531 (Cond.instanceMethod y_Out_upTo) && zw_q 532 (Cond.selects R_Out y_Out_upTo y_Out_upTo)) && (zw_q 533 (Cond.code y_Out_upTo b_Out_upTo 5 (some .int)) && zw_q 526 (Cond.methodLink R_Or 170 y_Or_stateOn))) && ((zw_q 528 (Cond.instanceMethod y_Or_stateOn) && zw_q 529 (Cond.code y_Or_stateOn b_Or_stateOn 4 (some .int))) && (zw_q 541 (Cond.methodLink R_Or 173 Lib.Math.max.name) && zw_q 542 (Cond.static Lib.Math.max.name)))) && (((zw_q 543 (Cond.code Lib.Math.max.name Lib.Math.max.code 2 (some .int)) && zw_q 554 (Cond.methodLink R_Or 179 y_Rat_set)) && (zw_q 555 (Cond.instanceMethod y_Rat_set) && zw_q 556 (Cond.selects R_Rat y_Rat_set y_Rat_set))) && ((zw_q 557 (Cond.code y_Rat_set b_Rat_set 4 none) && zw_q 551 (Cond.methodLink R_Or 176 y_Or_isRate)) && (zw_q 552 (Cond.static y_Or_isRate) && zw_q 553 (Cond.code y_Or_isRate b_Or_isRate 1 (some .boolean))))))) = true := by decide +kernel
theorem zw_152 : Cond.methodLink R_Or 152 y_Chg_has ∈ zw_T := zw_k (zd_l (zd_l (zd_l (zd_l (zd_l zwt_1)))))
theorem zw_153 : Cond.instanceMethod y_Chg_has ∈ zw_T := zw_k (zd_r (zd_l (zd_l (zd_l (zd_l zwt_1)))))
theorem zw_154 : Cond.selects R_Chg y_Chg_has y_Chg_has ∈ zw_T := zw_k (zd_l (zd_r (zd_l (zd_l (zd_l zwt_1)))))
theorem zw_155 : Cond.code y_Chg_has b_Chg_has 3 (some .boolean) ∈ zw_T := zw_k (zd_r (zd_r (zd_l (zd_l (zd_l zwt_1)))))
theorem zw_157 : Cond.methodLink R_Or 157 Lib.Math.min.name ∈ zw_T := zw_k (zd_l (zd_l (zd_r (zd_l (zd_l zwt_1)))))
theorem zw_158 : Cond.static Lib.Math.min.name ∈ zw_T := zw_k (zd_r (zd_l (zd_r (zd_l (zd_l zwt_1)))))
theorem zw_160 : Cond.code Lib.Math.min.name Lib.Math.min.code 2 (some .int) ∈ zw_T := zw_k (zd_l (zd_r (zd_r (zd_l (zd_l zwt_1)))))
theorem zw_161 : Cond.methodLink R_Or 162 y_Or_copyOfToday ∈ zw_T := zw_k (zd_r (zd_r (zd_r (zd_l (zd_l zwt_1)))))
theorem zw_162 : Cond.instanceMethod y_Or_copyOfToday ∈ zw_T := zw_k (zd_l (zd_l (zd_l (zd_r (zd_l zwt_1)))))
theorem zw_164 : Cond.code y_Or_copyOfToday b_Or_copyOfToday 4 (some .int) ∈ zw_T := zw_k (zd_r (zd_l (zd_l (zd_r (zd_l zwt_1)))))
theorem zw_165 : Cond.methodLink R_Or 168 y_Out_add ∈ zw_T := zw_k (zd_l (zd_r (zd_l (zd_r (zd_l zwt_1)))))
theorem zw_166 : Cond.instanceMethod y_Out_add ∈ zw_T := zw_k (zd_r (zd_r (zd_l (zd_r (zd_l zwt_1)))))
theorem zw_167 : Cond.selects R_Out y_Out_add y_Out_add ∈ zw_T := zw_k (zd_l (zd_l (zd_r (zd_r (zd_l zwt_1)))))
theorem zw_169 : Cond.code y_Out_add b_Out_add 4 none ∈ zw_T := zw_k (zd_r (zd_l (zd_r (zd_r (zd_l zwt_1)))))
theorem zw_170 : Cond.constant R_Or 166 1000000000 ∈ zw_T := zw_k (zd_l (zd_r (zd_r (zd_r (zd_l zwt_1)))))
theorem zw_172 : Cond.methodLink R_Or 275 y_Out_upTo ∈ zw_T := zw_k (zd_r (zd_r (zd_r (zd_r (zd_l zwt_1)))))
theorem zw_173 : Cond.instanceMethod y_Out_upTo ∈ zw_T := zw_k (zd_l (zd_l (zd_l (zd_l (zd_r zwt_1)))))
theorem zw_174 : Cond.selects R_Out y_Out_upTo y_Out_upTo ∈ zw_T := zw_k (zd_r (zd_l (zd_l (zd_l (zd_r zwt_1)))))
theorem zw_175 : Cond.code y_Out_upTo b_Out_upTo 5 (some .int) ∈ zw_T := zw_k (zd_l (zd_r (zd_l (zd_l (zd_r zwt_1)))))
theorem zw_176 : Cond.methodLink R_Or 170 y_Or_stateOn ∈ zw_T := zw_k (zd_r (zd_r (zd_l (zd_l (zd_r zwt_1)))))
theorem zw_177 : Cond.instanceMethod y_Or_stateOn ∈ zw_T := zw_k (zd_l (zd_l (zd_r (zd_l (zd_r zwt_1)))))
theorem zw_179 : Cond.code y_Or_stateOn b_Or_stateOn 4 (some .int) ∈ zw_T := zw_k (zd_r (zd_l (zd_r (zd_l (zd_r zwt_1)))))
theorem zw_180 : Cond.methodLink R_Or 173 Lib.Math.max.name ∈ zw_T := zw_k (zd_l (zd_r (zd_r (zd_l (zd_r zwt_1)))))
theorem zw_181 : Cond.static Lib.Math.max.name ∈ zw_T := zw_k (zd_r (zd_r (zd_r (zd_l (zd_r zwt_1)))))
theorem zw_182 : Cond.code Lib.Math.max.name Lib.Math.max.code 2 (some .int) ∈ zw_T := zw_k (zd_l (zd_l (zd_l (zd_r (zd_r zwt_1)))))
theorem zw_184 : Cond.methodLink R_Or 179 y_Rat_set ∈ zw_T := zw_k (zd_r (zd_l (zd_l (zd_r (zd_r zwt_1)))))
theorem zw_185 : Cond.instanceMethod y_Rat_set ∈ zw_T := zw_k (zd_l (zd_r (zd_l (zd_r (zd_r zwt_1)))))
theorem zw_186 : Cond.selects R_Rat y_Rat_set y_Rat_set ∈ zw_T := zw_k (zd_r (zd_r (zd_l (zd_r (zd_r zwt_1)))))
theorem zw_188 : Cond.code y_Rat_set b_Rat_set 4 none ∈ zw_T := zw_k (zd_l (zd_l (zd_r (zd_r (zd_r zwt_1)))))
theorem zw_189 : Cond.methodLink R_Or 176 y_Or_isRate ∈ zw_T := zw_k (zd_r (zd_l (zd_r (zd_r (zd_r zwt_1)))))
theorem zw_190 : Cond.static y_Or_isRate ∈ zw_T := zw_k (zd_l (zd_r (zd_r (zd_r (zd_r zwt_1)))))
theorem zw_191 : Cond.code y_Or_isRate b_Or_isRate 1 (some .boolean) ∈ zw_T := zw_k (zd_r (zd_r (zd_r (zd_r (zd_r zwt_1)))))
set_option maxRecDepth 100000 in
theorem zw_196 : Cond.fieldLink R_Or 47 "OrderRows" "quotes" "LOrderRows$Quotes;" ∈ zw_T := zw_m 204 rfl rfl
set_option maxRecDepth 100000 in
theorem zw_200 : Cond.initialized R_Quo ∈ zw_T := zw_m 7 rfl rfl
set_option maxRecDepth 100000 in
theorem zw_202 : Cond.fieldLink R_Or 182 "OrderRows$Quotes" "count" "I" ∈ zw_T := zw_m 149 rfl rfl
set_option maxRecDepth 100000 in
theorem zw_211 : Cond.fieldLink R_Or 193 "OrderRows$Quotes" "cents" "[J" ∈ zw_T := zw_m 145 rfl rfl
set_option maxRecDepth 100000 in
theorem zw_213 : Cond.fieldLink R_Or 54 "OrderRows" "accounts" "LOrderRows$Accounts;" ∈ zw_T := zw_m 205 rfl rfl
set_option maxRecDepth 100000 in
theorem zw_214 : Cond.fieldLink R_Or 198 "OrderRows$Accounts" "limit" "[I" ∈ zw_T := zw_m 170 rfl rfl
set_option maxRecDepth 100000 in
theorem zw_215 : Cond.fieldLink R_Or 201 "OrderRows$Quotes" "accepted" "[Z" ∈ zw_T := zw_m 147 rfl rfl
set_option maxRecDepth 100000 in
theorem zw_216 : Cond.fieldLink R_Or 217 "OrderRows$Accounts" "used" "[J" ∈ zw_T := zw_m 172 rfl rfl
set_option maxRecDepth 100000 in
theorem zw_217 : Cond.fieldLink R_Or 208 "OrderRows$Orders" "customer" "[I" ∈ zw_T := zw_m 34 rfl rfl
set_option maxRecDepth 100000 in
theorem zw_218 : Cond.fieldLink R_Or 214 "OrderRows$Quotes" "item" "[I" ∈ zw_T := zw_m 141 rfl rfl
set_option maxRecDepth 100000 in
theorem zw_219 : Cond.fieldLink R_Or 205 "OrderRows$Quotes" "until" "[I" ∈ zw_T := zw_m 143 rfl rfl
set_option maxRecDepth 100000 in
theorem zw_221 : Cond.fieldLink R_Or 61 "OrderRows" "calendar" "LOrderRows$Calendar;" ∈ zw_T := zw_m 206 rfl rfl
set_option maxRecDepth 100000 in
theorem zw_226 : Cond.fieldLink R_Or 224 "OrderRows$Calendar" "kilosADay" "I" ∈ zw_T := zw_m 189 rfl rfl
set_option maxRecDepth 100000 in
theorem zw_235 : Cond.fieldLink R_Or 227 "OrderRows$Calendar" "taken" "[Z" ∈ zw_T := zw_m 185 rfl rfl
theorem zwt_2 : (((((zw_q 565 (Cond.methodLink R_Or 183 y_Rat_centsFor) && zw_q 566 (Cond.instanceMethod y_Rat_centsFor)) && (zw_q 567 (Cond.selects R_Rat y_Rat_centsFor y_Rat_centsFor) && zw_q 568 (Cond.code y_Rat_centsFor b_Rat_centsFor 5 (some .long)))) && ((zw_q 571 (Cond.methodLink R_Or 187 y_Quo_add) && zw_q 572 (Cond.instanceMethod y_Quo_add)) && (zw_q 573 (Cond.selects R_Quo y_Quo_add y_Quo_add) && zw_q 574 (Cond.code y_Quo_add b_Quo_add 6 (some .int))))) && (((zw_q 587 (Cond.methodLink R_Or 191 y_Quo_look) && zw_q 588 (Cond.instanceMethod y_Quo_look)) && (zw_q 589 (Cond.selects R_Quo y_Quo_look y_Quo_look) && zw_q 590 (Cond.code y_Quo_look b_Quo_look 3 (some .int)))) && ((zw_q 582 (Cond.methodLink R_Or 190 y_Quo_has) && zw_q 583 (Cond.instanceMethod y_Quo_has)) && (zw_q 584 (Cond.selects R_Quo y_Quo_has y_Quo_has) && zw_q 585 (Cond.code y_Quo_has b_Quo_has 2 (some .boolean)))))) && ((((zw_q 605 (Cond.constant R_Or 197 2000000000) && zw_q 620 (Cond.constant R_Or 220 100000000)) && (zw_q 621 (Cond.methodLink R_Or 221 y_Cal_fitsInto) && zw_q 622 (Cond.instanceMethod y_Cal_fitsInto))) && ((zw_q 623 (Cond.selects R_Cal y_Cal_fitsInto y_Cal_fitsInto) && zw_q 624 (Cond.code y_Cal_fitsInto b_Cal_fitsInto 3 (some .boolean))) && (zw_q 640 (Cond.methodLink R_Or 233 y_Cal_take) && zw_q 641 (Cond.instanceMethod y_Cal_take)))) && (((zw_q 642 (Cond.selects R_Cal y_Cal_take y_Cal_take) && zw_q 643 (Cond.code y_Cal_take b_Cal_take 4 none)) && (zw_q 636 (Cond.methodLink R_Or 230 y_Cal_latestDayFor) && zw_q 637 (Cond.instanceMethod y_Cal_latestDayFor))) && ((zw_q 638 (Cond.selects R_Cal y_Cal_latestDayFor y_Cal_latestDayFor) && zw_q 639 (Cond.code y_Cal_latestDayFor b_Cal_latestDayFor 5 (some .int))) && (zw_q 651 (Cond.methodLink R_Or 236 y_Ord_merge) && zw_q 652 (Cond.instanceMethod y_Ord_merge)))))) = true := by decide +kernel
theorem zw_192 : Cond.methodLink R_Or 183 y_Rat_centsFor ∈ zw_T := zw_k (zd_l (zd_l (zd_l (zd_l (zd_l zwt_2)))))
theorem zw_193 : Cond.instanceMethod y_Rat_centsFor ∈ zw_T := zw_k (zd_r (zd_l (zd_l (zd_l (zd_l zwt_2)))))
theorem zw_194 : Cond.selects R_Rat y_Rat_centsFor y_Rat_centsFor ∈ zw_T := zw_k (zd_l (zd_r (zd_l (zd_l (zd_l zwt_2)))))
theorem zw_195 : Cond.code y_Rat_centsFor b_Rat_centsFor 5 (some .long) ∈ zw_T := zw_k (zd_r (zd_r (zd_l (zd_l (zd_l zwt_2)))))
theorem zw_197 : Cond.methodLink R_Or 187 y_Quo_add ∈ zw_T := zw_k (zd_l (zd_l (zd_r (zd_l (zd_l zwt_2)))))
theorem zw_198 : Cond.instanceMethod y_Quo_add ∈ zw_T := zw_k (zd_r (zd_l (zd_r (zd_l (zd_l zwt_2)))))
theorem zw_199 : Cond.selects R_Quo y_Quo_add y_Quo_add ∈ zw_T := zw_k (zd_l (zd_r (zd_r (zd_l (zd_l zwt_2)))))
theorem zw_201 : Cond.code y_Quo_add b_Quo_add 6 (some .int) ∈ zw_T := zw_k (zd_r (zd_r (zd_r (zd_l (zd_l zwt_2)))))
theorem zw_203 : Cond.methodLink R_Or 191 y_Quo_look ∈ zw_T := zw_k (zd_l (zd_l (zd_l (zd_r (zd_l zwt_2)))))
theorem zw_204 : Cond.instanceMethod y_Quo_look ∈ zw_T := zw_k (zd_r (zd_l (zd_l (zd_r (zd_l zwt_2)))))
theorem zw_205 : Cond.selects R_Quo y_Quo_look y_Quo_look ∈ zw_T := zw_k (zd_l (zd_r (zd_l (zd_r (zd_l zwt_2)))))
theorem zw_206 : Cond.code y_Quo_look b_Quo_look 3 (some .int) ∈ zw_T := zw_k (zd_r (zd_r (zd_l (zd_r (zd_l zwt_2)))))
theorem zw_207 : Cond.methodLink R_Or 190 y_Quo_has ∈ zw_T := zw_k (zd_l (zd_l (zd_r (zd_r (zd_l zwt_2)))))
theorem zw_208 : Cond.instanceMethod y_Quo_has ∈ zw_T := zw_k (zd_r (zd_l (zd_r (zd_r (zd_l zwt_2)))))
theorem zw_209 : Cond.selects R_Quo y_Quo_has y_Quo_has ∈ zw_T := zw_k (zd_l (zd_r (zd_r (zd_r (zd_l zwt_2)))))
theorem zw_210 : Cond.code y_Quo_has b_Quo_has 2 (some .boolean) ∈ zw_T := zw_k (zd_r (zd_r (zd_r (zd_r (zd_l zwt_2)))))
theorem zw_212 : Cond.constant R_Or 197 2000000000 ∈ zw_T := zw_k (zd_l (zd_l (zd_l (zd_l (zd_r zwt_2)))))
theorem zw_220 : Cond.constant R_Or 220 100000000 ∈ zw_T := zw_k (zd_r (zd_l (zd_l (zd_l (zd_r zwt_2)))))
theorem zw_222 : Cond.methodLink R_Or 221 y_Cal_fitsInto ∈ zw_T := zw_k (zd_l (zd_r (zd_l (zd_l (zd_r zwt_2)))))
theorem zw_223 : Cond.instanceMethod y_Cal_fitsInto ∈ zw_T := zw_k (zd_r (zd_r (zd_l (zd_l (zd_r zwt_2)))))
theorem zw_224 : Cond.selects R_Cal y_Cal_fitsInto y_Cal_fitsInto ∈ zw_T := zw_k (zd_l (zd_l (zd_r (zd_l (zd_r zwt_2)))))
theorem zw_225 : Cond.code y_Cal_fitsInto b_Cal_fitsInto 3 (some .boolean) ∈ zw_T := zw_k (zd_r (zd_l (zd_r (zd_l (zd_r zwt_2)))))
theorem zw_227 : Cond.methodLink R_Or 233 y_Cal_take ∈ zw_T := zw_k (zd_l (zd_r (zd_r (zd_l (zd_r zwt_2)))))
theorem zw_228 : Cond.instanceMethod y_Cal_take ∈ zw_T := zw_k (zd_r (zd_r (zd_r (zd_l (zd_r zwt_2)))))
theorem zw_229 : Cond.selects R_Cal y_Cal_take y_Cal_take ∈ zw_T := zw_k (zd_l (zd_l (zd_l (zd_r (zd_r zwt_2)))))
theorem zw_230 : Cond.code y_Cal_take b_Cal_take 4 none ∈ zw_T := zw_k (zd_r (zd_l (zd_l (zd_r (zd_r zwt_2)))))
theorem zw_231 : Cond.methodLink R_Or 230 y_Cal_latestDayFor ∈ zw_T := zw_k (zd_l (zd_r (zd_l (zd_r (zd_r zwt_2)))))
theorem zw_232 : Cond.instanceMethod y_Cal_latestDayFor ∈ zw_T := zw_k (zd_r (zd_r (zd_l (zd_r (zd_r zwt_2)))))
theorem zw_233 : Cond.selects R_Cal y_Cal_latestDayFor y_Cal_latestDayFor ∈ zw_T := zw_k (zd_l (zd_l (zd_r (zd_r (zd_r zwt_2)))))
theorem zw_234 : Cond.code y_Cal_latestDayFor b_Cal_latestDayFor 5 (some .int) ∈ zw_T := zw_k (zd_r (zd_l (zd_r (zd_r (zd_r zwt_2)))))
theorem zw_236 : Cond.methodLink R_Or 236 y_Ord_merge ∈ zw_T := zw_k (zd_l (zd_r (zd_r (zd_r (zd_r zwt_2)))))
theorem zw_237 : Cond.instanceMethod y_Ord_merge ∈ zw_T := zw_k (zd_r (zd_r (zd_r (zd_r (zd_r zwt_2)))))
set_option maxRecDepth 100000 in
theorem zw_249 : Cond.initialized R_Mo ∈ zw_T := zw_m 10 rfl rfl
theorem zw_256 : Cond.selects R_Mo y_Mo_goes y_Mo_goes ∈ zw_T := List.mem_filter.mpr ⟨List.mem_append_left _ (List.mem_of_getElem? (i := 7) (by decide +kernel)), by decide +kernel⟩
theorem zw_266 : Cond.selects R_Mo y_Mo_makes y_Mo_makes ∈ zw_T := List.mem_filter.mpr ⟨List.mem_append_left _ (List.mem_of_getElem? (i := 9) (by decide +kernel)), by decide +kernel⟩
theorem zw_270 : Cond.selects R_Mo y_Mo_isOrder y_Mo_isOrder ∈ zw_T := List.mem_filter.mpr ⟨List.mem_append_left _ (List.mem_of_getElem? (i := 8) (by decide +kernel)), by decide +kernel⟩
theorem zwt_3 : (((((zw_q 653 (Cond.selects R_Ord y_Ord_merge y_Ord_merge) && zw_q 654 (Cond.code y_Ord_merge b_Ord_merge 6 none)) && (zw_q 655 (Cond.methodLink R_Or 240 y_Ord_countTogether) && zw_q 656 (Cond.instanceMethod y_Ord_countTogether))) && ((zw_q 657 (Cond.selects R_Ord y_Ord_countTogether y_Ord_countTogether) && zw_q 658 (Cond.code y_Ord_countTogether b_Ord_countTogether 4 (some .int))) && (zw_q 670 (Cond.methodLink R_Or 243 y_Ord_areTogether) && zw_q 691 (Cond.fieldLink R_Mo 75 "OrderRowsModel" "thrown" "I")))) && (((zw_q 694 (Cond.fieldLink R_Mo 79 "OrderRowsModel" "orders" "I") && zw_q 793 (Cond.methodLink R_Mo 82 y_Mo_in)) && (zw_q 794 (Cond.static y_Mo_in) && zw_q 795 (Cond.code y_Mo_in b_Mo_in 3 (some .boolean)))) && ((zw_q 698 (Cond.fieldLink R_Mo 86 "OrderRowsModel" "items" "I") && zw_q 811 (Cond.constant R_Mo 89 100000)) && (zw_q 827 (Cond.constant R_Mo 90 1000000) && zw_q 796 (Cond.methodLink R_Mo 94 y_Mo_goes))))) && ((((zw_q 798 (Cond.instanceMethod y_Mo_goes) && zw_q 799 (Cond.code y_Mo_goes b_Mo_goes 5 (some .boolean))) && (zw_q 695 (Cond.fieldLink R_Mo 13 "OrderRowsModel" "customer" "[I") && zw_q 696 (Cond.fieldLink R_Mo 16 "OrderRowsModel" "due" "[I"))) && ((zw_q 697 (Cond.fieldLink R_Mo 19 "OrderRowsModel" "group" "[I") && zw_q 692 (Cond.fieldLink R_Mo 91 "OrderRowsModel" "today" "I")) && (zw_q 699 (Cond.fieldLink R_Mo 22 "OrderRowsModel" "orderOf" "[I") && zw_q 700 (Cond.fieldLink R_Mo 25 "OrderRowsModel" "first" "[I")))) && (((zw_q 812 (Cond.methodLink R_Mo 105 y_Mo_makes) && zw_q 814 (Cond.instanceMethod y_Mo_makes)) && (zw_q 815 (Cond.code y_Mo_makes b_Mo_makes 8 (some .int)) && zw_q 804 (Cond.methodLink R_Mo 98 y_Mo_isOrder))) && ((zw_q 806 (Cond.instanceMethod y_Mo_isOrder) && zw_q 807 (Cond.code y_Mo_isOrder b_Mo_isOrder 2 (some .boolean))) && (zw_q 808 (Cond.methodLink R_Mo 102 y_Mo_isSize) && zw_q 809 (Cond.static y_Mo_isSize)))))) = true := by decide +kernel
theorem zw_238 : Cond.selects R_Ord y_Ord_merge y_Ord_merge ∈ zw_T := zw_k (zd_l (zd_l (zd_l (zd_l (zd_l zwt_3)))))
theorem zw_239 : Cond.code y_Ord_merge b_Ord_merge 6 none ∈ zw_T := zw_k (zd_r (zd_l (zd_l (zd_l (zd_l zwt_3)))))
theorem zw_240 : Cond.methodLink R_Or 240 y_Ord_countTogether ∈ zw_T := zw_k (zd_l (zd_r (zd_l (zd_l (zd_l zwt_3)))))
theorem zw_241 : Cond.instanceMethod y_Ord_countTogether ∈ zw_T := zw_k (zd_r (zd_r (zd_l (zd_l (zd_l zwt_3)))))
theorem zw_242 : Cond.selects R_Ord y_Ord_countTogether y_Ord_countTogether ∈ zw_T := zw_k (zd_l (zd_l (zd_r (zd_l (zd_l zwt_3)))))
theorem zw_243 : Cond.code y_Ord_countTogether b_Ord_countTogether 4 (some .int) ∈ zw_T := zw_k (zd_r (zd_l (zd_r (zd_l (zd_l zwt_3)))))
theorem zw_244 : Cond.methodLink R_Or 243 y_Ord_areTogether ∈ zw_T := zw_k (zd_l (zd_r (zd_r (zd_l (zd_l zwt_3)))))
theorem zw_245 : Cond.fieldLink R_Mo 75 "OrderRowsModel" "thrown" "I" ∈ zw_T := zw_k (zd_r (zd_r (zd_r (zd_l (zd_l zwt_3)))))
theorem zw_246 : Cond.fieldLink R_Mo 79 "OrderRowsModel" "orders" "I" ∈ zw_T := zw_k (zd_l (zd_l (zd_l (zd_r (zd_l zwt_3)))))
theorem zw_247 : Cond.methodLink R_Mo 82 y_Mo_in ∈ zw_T := zw_k (zd_r (zd_l (zd_l (zd_r (zd_l zwt_3)))))
theorem zw_248 : Cond.static y_Mo_in ∈ zw_T := zw_k (zd_l (zd_r (zd_l (zd_r (zd_l zwt_3)))))
theorem zw_250 : Cond.code y_Mo_in b_Mo_in 3 (some .boolean) ∈ zw_T := zw_k (zd_r (zd_r (zd_l (zd_r (zd_l zwt_3)))))
theorem zw_251 : Cond.fieldLink R_Mo 86 "OrderRowsModel" "items" "I" ∈ zw_T := zw_k (zd_l (zd_l (zd_r (zd_r (zd_l zwt_3)))))
theorem zw_252 : Cond.constant R_Mo 89 100000 ∈ zw_T := zw_k (zd_r (zd_l (zd_r (zd_r (zd_l zwt_3)))))
theorem zw_253 : Cond.constant R_Mo 90 1000000 ∈ zw_T := zw_k (zd_l (zd_r (zd_r (zd_r (zd_l zwt_3)))))
theorem zw_254 : Cond.methodLink R_Mo 94 y_Mo_goes ∈ zw_T := zw_k (zd_r (zd_r (zd_r (zd_r (zd_l zwt_3)))))
theorem zw_255 : Cond.instanceMethod y_Mo_goes ∈ zw_T := zw_k (zd_l (zd_l (zd_l (zd_l (zd_r zwt_3)))))
theorem zw_257 : Cond.code y_Mo_goes b_Mo_goes 5 (some .boolean) ∈ zw_T := zw_k (zd_r (zd_l (zd_l (zd_l (zd_r zwt_3)))))
theorem zw_258 : Cond.fieldLink R_Mo 13 "OrderRowsModel" "customer" "[I" ∈ zw_T := zw_k (zd_l (zd_r (zd_l (zd_l (zd_r zwt_3)))))
theorem zw_259 : Cond.fieldLink R_Mo 16 "OrderRowsModel" "due" "[I" ∈ zw_T := zw_k (zd_r (zd_r (zd_l (zd_l (zd_r zwt_3)))))
theorem zw_260 : Cond.fieldLink R_Mo 19 "OrderRowsModel" "group" "[I" ∈ zw_T := zw_k (zd_l (zd_l (zd_r (zd_l (zd_r zwt_3)))))
theorem zw_261 : Cond.fieldLink R_Mo 91 "OrderRowsModel" "today" "I" ∈ zw_T := zw_k (zd_r (zd_l (zd_r (zd_l (zd_r zwt_3)))))
theorem zw_262 : Cond.fieldLink R_Mo 22 "OrderRowsModel" "orderOf" "[I" ∈ zw_T := zw_k (zd_l (zd_r (zd_r (zd_l (zd_r zwt_3)))))
theorem zw_263 : Cond.fieldLink R_Mo 25 "OrderRowsModel" "first" "[I" ∈ zw_T := zw_k (zd_r (zd_r (zd_r (zd_l (zd_r zwt_3)))))
theorem zw_264 : Cond.methodLink R_Mo 105 y_Mo_makes ∈ zw_T := zw_k (zd_l (zd_l (zd_l (zd_r (zd_r zwt_3)))))
theorem zw_265 : Cond.instanceMethod y_Mo_makes ∈ zw_T := zw_k (zd_r (zd_l (zd_l (zd_r (zd_r zwt_3)))))
theorem zw_267 : Cond.code y_Mo_makes b_Mo_makes 8 (some .int) ∈ zw_T := zw_k (zd_l (zd_r (zd_l (zd_r (zd_r zwt_3)))))
theorem zw_268 : Cond.methodLink R_Mo 98 y_Mo_isOrder ∈ zw_T := zw_k (zd_r (zd_r (zd_l (zd_r (zd_r zwt_3)))))
theorem zw_269 : Cond.instanceMethod y_Mo_isOrder ∈ zw_T := zw_k (zd_l (zd_l (zd_r (zd_r (zd_r zwt_3)))))
theorem zw_271 : Cond.code y_Mo_isOrder b_Mo_isOrder 2 (some .boolean) ∈ zw_T := zw_k (zd_r (zd_l (zd_r (zd_r (zd_r zwt_3)))))
theorem zw_272 : Cond.methodLink R_Mo 102 y_Mo_isSize ∈ zw_T := zw_k (zd_l (zd_r (zd_r (zd_r (zd_r zwt_3)))))
theorem zw_273 : Cond.static y_Mo_isSize ∈ zw_T := zw_k (zd_r (zd_r (zd_r (zd_r (zd_r zwt_3)))))
theorem zw_282 : Cond.selects R_Mo y_Mo_tells y_Mo_tells ∈ zw_T := List.mem_filter.mpr ⟨List.mem_append_left _ (List.mem_of_getElem? (i := 11) (by decide +kernel)), by decide +kernel⟩
theorem zw_286 : Cond.selects R_Mo y_Mo_isItem y_Mo_isItem ∈ zw_T := List.mem_filter.mpr ⟨List.mem_append_left _ (List.mem_of_getElem? (i := 10) (by decide +kernel)), by decide +kernel⟩
theorem zw_296 : Cond.selects R_Mo y_Mo_on y_Mo_on ∈ zw_T := List.mem_filter.mpr ⟨List.mem_append_left _ (List.mem_of_getElem? (i := 14) (by decide +kernel)), by decide +kernel⟩
theorem zw_300 : Cond.selects R_Mo y_Mo_isValue y_Mo_isValue ∈ zw_T := List.mem_filter.mpr ⟨List.mem_append_left _ (List.mem_of_getElem? (i := 13) (by decide +kernel)), by decide +kernel⟩
theorem zw_307 : Cond.selects R_Mo y_Mo_isMade y_Mo_isMade ∈ zw_T := List.mem_filter.mpr ⟨List.mem_append_left _ (List.mem_of_getElem? (i := 12) (by decide +kernel)), by decide +kernel⟩
theorem zwt_4 : (((((zw_q 810 (Cond.code y_Mo_isSize b_Mo_isSize 1 (some .boolean)) && zw_q 703 (Cond.fieldLink R_Mo 35 "OrderRowsModel" "changes" "[I")) && (zw_q 704 (Cond.fieldLink R_Mo 38 "OrderRowsModel" "changeField" "[I") && zw_q 705 (Cond.fieldLink R_Mo 41 "OrderRowsModel" "changeValue" "[I"))) && ((zw_q 706 (Cond.fieldLink R_Mo 44 "OrderRowsModel" "changeFrom" "[I") && zw_q 707 (Cond.fieldLink R_Mo 47 "OrderRowsModel" "changeTold" "[I")) && (zw_q 828 (Cond.methodLink R_Mo 115 y_Mo_tells) && zw_q 830 (Cond.instanceMethod y_Mo_tells)))) && (((zw_q 831 (Cond.code y_Mo_tells b_Mo_tells 6 none) && zw_q 820 (Cond.methodLink R_Mo 109 y_Mo_isItem)) && (zw_q 822 (Cond.instanceMethod y_Mo_isItem) && zw_q 823 (Cond.code y_Mo_isItem b_Mo_isItem 2 (some .boolean)))) && ((zw_q 824 (Cond.methodLink R_Mo 112 y_Mo_isWeight) && zw_q 825 (Cond.static y_Mo_isWeight)) && (zw_q 826 (Cond.code y_Mo_isWeight b_Mo_isWeight 1 (some .boolean)) && zw_q 701 (Cond.fieldLink R_Mo 28 "OrderRowsModel" "rule" "[I"))))) && ((((zw_q 708 (Cond.fieldLink R_Mo 119 "OrderRowsModel" "rows" "I") && zw_q 709 (Cond.fieldLink R_Mo 50 "OrderRowsModel" "rowItem" "[I")) && (zw_q 851 (Cond.methodLink R_Mo 132 y_Mo_on) && zw_q 853 (Cond.instanceMethod y_Mo_on))) && ((zw_q 854 (Cond.code y_Mo_on b_Mo_on 6 (some .int)) && zw_q 844 (Cond.methodLink R_Mo 125 y_Mo_isValue)) && (zw_q 846 (Cond.instanceMethod y_Mo_isValue) && zw_q 847 (Cond.code y_Mo_isValue b_Mo_isValue 3 (some .boolean))))) && (((zw_q 848 (Cond.methodLink R_Mo 129 y_Mo_isDay) && zw_q 849 (Cond.static y_Mo_isDay)) && (zw_q 850 (Cond.code y_Mo_isDay b_Mo_isDay 1 (some .boolean)) && zw_q 840 (Cond.methodLink R_Mo 122 y_Mo_isMade))) && ((zw_q 842 (Cond.instanceMethod y_Mo_isMade) && zw_q 843 (Cond.code y_Mo_isMade b_Mo_isMade 3 (some .boolean))) && (zw_q 710 (Cond.fieldLink R_Mo 53 "OrderRowsModel" "rowDay" "[I") && zw_q 711 (Cond.fieldLink R_Mo 56 "OrderRowsModel" "rowKilos" "[I")))))) = true := by decide +kernel
theorem zw_274 : Cond.code y_Mo_isSize b_Mo_isSize 1 (some .boolean) ∈ zw_T := zw_k (zd_l (zd_l (zd_l (zd_l (zd_l zwt_4)))))
theorem zw_275 : Cond.fieldLink R_Mo 35 "OrderRowsModel" "changes" "[I" ∈ zw_T := zw_k (zd_r (zd_l (zd_l (zd_l (zd_l zwt_4)))))
theorem zw_276 : Cond.fieldLink R_Mo 38 "OrderRowsModel" "changeField" "[I" ∈ zw_T := zw_k (zd_l (zd_r (zd_l (zd_l (zd_l zwt_4)))))
theorem zw_277 : Cond.fieldLink R_Mo 41 "OrderRowsModel" "changeValue" "[I" ∈ zw_T := zw_k (zd_r (zd_r (zd_l (zd_l (zd_l zwt_4)))))
theorem zw_278 : Cond.fieldLink R_Mo 44 "OrderRowsModel" "changeFrom" "[I" ∈ zw_T := zw_k (zd_l (zd_l (zd_r (zd_l (zd_l zwt_4)))))
theorem zw_279 : Cond.fieldLink R_Mo 47 "OrderRowsModel" "changeTold" "[I" ∈ zw_T := zw_k (zd_r (zd_l (zd_r (zd_l (zd_l zwt_4)))))
theorem zw_280 : Cond.methodLink R_Mo 115 y_Mo_tells ∈ zw_T := zw_k (zd_l (zd_r (zd_r (zd_l (zd_l zwt_4)))))
theorem zw_281 : Cond.instanceMethod y_Mo_tells ∈ zw_T := zw_k (zd_r (zd_r (zd_r (zd_l (zd_l zwt_4)))))
theorem zw_283 : Cond.code y_Mo_tells b_Mo_tells 6 none ∈ zw_T := zw_k (zd_l (zd_l (zd_l (zd_r (zd_l zwt_4)))))
theorem zw_284 : Cond.methodLink R_Mo 109 y_Mo_isItem ∈ zw_T := zw_k (zd_r (zd_l (zd_l (zd_r (zd_l zwt_4)))))
theorem zw_285 : Cond.instanceMethod y_Mo_isItem ∈ zw_T := zw_k (zd_l (zd_r (zd_l (zd_r (zd_l zwt_4)))))
theorem zw_287 : Cond.code y_Mo_isItem b_Mo_isItem 2 (some .boolean) ∈ zw_T := zw_k (zd_r (zd_r (zd_l (zd_r (zd_l zwt_4)))))
theorem zw_288 : Cond.methodLink R_Mo 112 y_Mo_isWeight ∈ zw_T := zw_k (zd_l (zd_l (zd_r (zd_r (zd_l zwt_4)))))
theorem zw_289 : Cond.static y_Mo_isWeight ∈ zw_T := zw_k (zd_r (zd_l (zd_r (zd_r (zd_l zwt_4)))))
theorem zw_290 : Cond.code y_Mo_isWeight b_Mo_isWeight 1 (some .boolean) ∈ zw_T := zw_k (zd_l (zd_r (zd_r (zd_r (zd_l zwt_4)))))
theorem zw_291 : Cond.fieldLink R_Mo 28 "OrderRowsModel" "rule" "[I" ∈ zw_T := zw_k (zd_r (zd_r (zd_r (zd_r (zd_l zwt_4)))))
theorem zw_292 : Cond.fieldLink R_Mo 119 "OrderRowsModel" "rows" "I" ∈ zw_T := zw_k (zd_l (zd_l (zd_l (zd_l (zd_r zwt_4)))))
theorem zw_293 : Cond.fieldLink R_Mo 50 "OrderRowsModel" "rowItem" "[I" ∈ zw_T := zw_k (zd_r (zd_l (zd_l (zd_l (zd_r zwt_4)))))
theorem zw_294 : Cond.methodLink R_Mo 132 y_Mo_on ∈ zw_T := zw_k (zd_l (zd_r (zd_l (zd_l (zd_r zwt_4)))))
theorem zw_295 : Cond.instanceMethod y_Mo_on ∈ zw_T := zw_k (zd_r (zd_r (zd_l (zd_l (zd_r zwt_4)))))
theorem zw_297 : Cond.code y_Mo_on b_Mo_on 6 (some .int) ∈ zw_T := zw_k (zd_l (zd_l (zd_r (zd_l (zd_r zwt_4)))))
theorem zw_298 : Cond.methodLink R_Mo 125 y_Mo_isValue ∈ zw_T := zw_k (zd_r (zd_l (zd_r (zd_l (zd_r zwt_4)))))
theorem zw_299 : Cond.instanceMethod y_Mo_isValue ∈ zw_T := zw_k (zd_l (zd_r (zd_r (zd_l (zd_r zwt_4)))))
theorem zw_301 : Cond.code y_Mo_isValue b_Mo_isValue 3 (some .boolean) ∈ zw_T := zw_k (zd_r (zd_r (zd_r (zd_l (zd_r zwt_4)))))
theorem zw_302 : Cond.methodLink R_Mo 129 y_Mo_isDay ∈ zw_T := zw_k (zd_l (zd_l (zd_l (zd_r (zd_r zwt_4)))))
theorem zw_303 : Cond.static y_Mo_isDay ∈ zw_T := zw_k (zd_r (zd_l (zd_l (zd_r (zd_r zwt_4)))))
theorem zw_304 : Cond.code y_Mo_isDay b_Mo_isDay 1 (some .boolean) ∈ zw_T := zw_k (zd_l (zd_r (zd_l (zd_r (zd_r zwt_4)))))
theorem zw_305 : Cond.methodLink R_Mo 122 y_Mo_isMade ∈ zw_T := zw_k (zd_r (zd_r (zd_l (zd_r (zd_r zwt_4)))))
theorem zw_306 : Cond.instanceMethod y_Mo_isMade ∈ zw_T := zw_k (zd_l (zd_l (zd_r (zd_r (zd_r zwt_4)))))
theorem zw_308 : Cond.code y_Mo_isMade b_Mo_isMade 3 (some .boolean) ∈ zw_T := zw_k (zd_r (zd_l (zd_r (zd_r (zd_r zwt_4)))))
theorem zw_309 : Cond.fieldLink R_Mo 53 "OrderRowsModel" "rowDay" "[I" ∈ zw_T := zw_k (zd_l (zd_r (zd_r (zd_r (zd_r zwt_4)))))
theorem zw_310 : Cond.fieldLink R_Mo 56 "OrderRowsModel" "rowKilos" "[I" ∈ zw_T := zw_k (zd_r (zd_r (zd_r (zd_r (zd_r zwt_4)))))
theorem zw_313 : Cond.selects R_Mo y_Mo_sum y_Mo_sum ∈ zw_T := List.mem_filter.mpr ⟨List.mem_append_left _ (List.mem_of_getElem? (i := 15) (by decide +kernel)), by decide +kernel⟩
theorem zw_318 : Cond.selects R_Mo y_Mo_stateOn y_Mo_stateOn ∈ zw_T := List.mem_filter.mpr ⟨List.mem_append_left _ (List.mem_of_getElem? (i := 16) (by decide +kernel)), by decide +kernel⟩
theorem zw_333 : Cond.selects R_Mo y_Mo_isQuote y_Mo_isQuote ∈ zw_T := List.mem_filter.mpr ⟨List.mem_append_left _ (List.mem_of_getElem? (i := 17) (by decide +kernel)), by decide +kernel⟩
theorem zw_339 : Cond.selects R_Mo y_Mo_customerOf y_Mo_customerOf ∈ zw_T := List.mem_filter.mpr ⟨List.mem_append_left _ (List.mem_of_getElem? (i := 18) (by decide +kernel)), by decide +kernel⟩
set_option maxRecDepth 100000 in
theorem zw_345 : Cond.methodLink R_L 7 y_Or_order ∈ zw_T := zw_m 233 rfl rfl
set_option maxRecDepth 100000 in
theorem zw_346 : Cond.instanceMethod y_Or_order ∈ zw_T := zw_m 234 rfl rfl
set_option maxRecDepth 100000 in
theorem zw_347 : Cond.selects R_Or y_Or_order y_Or_order ∈ zw_T := zw_m 235 rfl rfl
set_option maxRecDepth 100000 in
theorem zw_348 : Cond.code y_Or_order b_Or_order 3 (some .int) ∈ zw_T := zw_m 236 rfl rfl
set_option maxRecDepth 100000 in
theorem zw_349 : Cond.classLink R_L 13 "java/lang/IndexOutOfBoundsException" ∈ zw_T := zw_m 230 rfl rfl
set_option maxRecDepth 100000 in
theorem zw_350 : Cond.classLink R_L 15 "java/lang/IllegalArgumentException" ∈ zw_T := zw_m 231 rfl rfl
set_option maxRecDepth 100000 in
theorem zw_351 : Cond.classLink R_L 17 "java/lang/UnsupportedOperationException" ∈ zw_T := zw_m 232 rfl rfl
set_option maxRecDepth 100000 in
theorem zw_352 : Cond.methodLink R_L 19 y_Or_item ∈ zw_T := zw_m 361 rfl rfl
set_option maxRecDepth 100000 in
theorem zw_353 : Cond.instanceMethod y_Or_item ∈ zw_T := zw_m 362 rfl rfl
set_option maxRecDepth 100000 in
theorem zw_354 : Cond.selects R_Or y_Or_item y_Or_item ∈ zw_T := zw_m 363 rfl rfl
set_option maxRecDepth 100000 in
theorem zw_355 : Cond.code y_Or_item b_Or_item 6 (some .int) ∈ zw_T := zw_m 364 rfl rfl
set_option maxRecDepth 100000 in
theorem zw_356 : Cond.methodLink R_L 23 y_Or_weights ∈ zw_T := zw_m 385 rfl rfl
set_option maxRecDepth 100000 in
theorem zw_357 : Cond.instanceMethod y_Or_weights ∈ zw_T := zw_m 386 rfl rfl
set_option maxRecDepth 100000 in
theorem zw_358 : Cond.selects R_Or y_Or_weights y_Or_weights ∈ zw_T := zw_m 387 rfl rfl
set_option maxRecDepth 100000 in
theorem zw_359 : Cond.code y_Or_weights b_Or_weights 4 none ∈ zw_T := zw_m 388 rfl rfl
set_option maxRecDepth 100000 in
theorem zw_360 : Cond.methodLink R_L 27 y_Or_agree ∈ zw_T := zw_m 409 rfl rfl
set_option maxRecDepth 100000 in
theorem zw_361 : Cond.instanceMethod y_Or_agree ∈ zw_T := zw_m 410 rfl rfl
set_option maxRecDepth 100000 in
theorem zw_362 : Cond.selects R_Or y_Or_agree y_Or_agree ∈ zw_T := zw_m 411 rfl rfl
set_option maxRecDepth 100000 in
theorem zw_363 : Cond.code y_Or_agree b_Or_agree 3 none ∈ zw_T := zw_m 412 rfl rfl
set_option maxRecDepth 100000 in
theorem zw_364 : Cond.methodLink R_L 31 y_Or_change ∈ zw_T := zw_m 417 rfl rfl
set_option maxRecDepth 100000 in
theorem zw_365 : Cond.instanceMethod y_Or_change ∈ zw_T := zw_m 418 rfl rfl
set_option maxRecDepth 100000 in
theorem zw_366 : Cond.selects R_Or y_Or_change y_Or_change ∈ zw_T := zw_m 419 rfl rfl
set_option maxRecDepth 100000 in
theorem zw_367 : Cond.code y_Or_change b_Or_change 6 none ∈ zw_T := zw_m 420 rfl rfl
set_option maxRecDepth 100000 in
theorem zw_368 : Cond.classLink R_L 35 "java/lang/IllegalStateException" ∈ zw_T := zw_m 416 rfl rfl
theorem zwt_5 : (((((zw_q 871 (Cond.methodLink R_Mo 136 y_Mo_sum) && zw_q 873 (Cond.instanceMethod y_Mo_sum)) && (zw_q 874 (Cond.code y_Mo_sum b_Mo_sum 5 (some .int)) && zw_q 875 (Cond.constant R_Mo 140 1000000000))) && ((zw_q 880 (Cond.methodLink R_Mo 141 y_Mo_stateOn) && zw_q 882 (Cond.instanceMethod y_Mo_stateOn)) && (zw_q 883 (Cond.code y_Mo_stateOn b_Mo_stateOn 4 (some .int)) && zw_q 712 (Cond.fieldLink R_Mo 147 "OrderRowsModel" "base" "I")))) && (((zw_q 713 (Cond.fieldLink R_Mo 150 "OrderRowsModel" "perThousand" "I") && zw_q 714 (Cond.fieldLink R_Mo 153 "OrderRowsModel" "perWidth" "I")) && (zw_q 892 (Cond.methodLink R_Mo 144 y_Mo_isCost) && zw_q 893 (Cond.static y_Mo_isCost))) && ((zw_q 894 (Cond.code y_Mo_isCost b_Mo_isCost 1 (some .boolean)) && zw_q 716 (Cond.fieldLink R_Mo 59 "OrderRowsModel" "quoteItem" "[I")) && (zw_q 715 (Cond.fieldLink R_Mo 156 "OrderRowsModel" "quotes" "I") && zw_q 717 (Cond.fieldLink R_Mo 62 "OrderRowsModel" "quoteUntil" "[I"))))) && ((((zw_q 718 (Cond.fieldLink R_Mo 65 "OrderRowsModel" "quotePrice" "[J") && zw_q 719 (Cond.fieldLink R_Mo 69 "OrderRowsModel" "accepted" "[Z")) && (zw_q 903 (Cond.methodLink R_Mo 159 y_Mo_isQuote) && zw_q 905 (Cond.instanceMethod y_Mo_isQuote))) && ((zw_q 906 (Cond.code y_Mo_isQuote b_Mo_isQuote 2 (some .boolean)) && zw_q 915 (Cond.constant R_Mo 162 2000000000)) && (zw_q 693 (Cond.fieldLink R_Mo 7 "OrderRowsModel" "credit" "[I") && zw_q 920 (Cond.methodLink R_Mo 163 y_Mo_customerOf)))) && (((zw_q 922 (Cond.instanceMethod y_Mo_customerOf) && zw_q 923 (Cond.code y_Mo_customerOf b_Mo_customerOf 2 (some .int))) && (zw_q 928 (Cond.constant R_Mo 167 100000000) && zw_q 720 (Cond.fieldLink R_Mo 168 "OrderRowsModel" "capacity" "I"))) && ((zw_q 721 (Cond.fieldLink R_Mo 72 "OrderRowsModel" "taken" "[I") && zw_q 702 (Cond.fieldLink R_Mo 31 "OrderRowsModel" "reserved" "[Z")) && (zw_q 474 (Cond.methodLink R_L 37 y_Or_field) && zw_q 475 (Cond.instanceMethod y_Or_field)))))) = true := by decide +kernel
theorem zw_311 : Cond.methodLink R_Mo 136 y_Mo_sum ∈ zw_T := zw_k (zd_l (zd_l (zd_l (zd_l (zd_l zwt_5)))))
theorem zw_312 : Cond.instanceMethod y_Mo_sum ∈ zw_T := zw_k (zd_r (zd_l (zd_l (zd_l (zd_l zwt_5)))))
theorem zw_314 : Cond.code y_Mo_sum b_Mo_sum 5 (some .int) ∈ zw_T := zw_k (zd_l (zd_r (zd_l (zd_l (zd_l zwt_5)))))
theorem zw_315 : Cond.constant R_Mo 140 1000000000 ∈ zw_T := zw_k (zd_r (zd_r (zd_l (zd_l (zd_l zwt_5)))))
theorem zw_316 : Cond.methodLink R_Mo 141 y_Mo_stateOn ∈ zw_T := zw_k (zd_l (zd_l (zd_r (zd_l (zd_l zwt_5)))))
theorem zw_317 : Cond.instanceMethod y_Mo_stateOn ∈ zw_T := zw_k (zd_r (zd_l (zd_r (zd_l (zd_l zwt_5)))))
theorem zw_319 : Cond.code y_Mo_stateOn b_Mo_stateOn 4 (some .int) ∈ zw_T := zw_k (zd_l (zd_r (zd_r (zd_l (zd_l zwt_5)))))
theorem zw_320 : Cond.fieldLink R_Mo 147 "OrderRowsModel" "base" "I" ∈ zw_T := zw_k (zd_r (zd_r (zd_r (zd_l (zd_l zwt_5)))))
theorem zw_321 : Cond.fieldLink R_Mo 150 "OrderRowsModel" "perThousand" "I" ∈ zw_T := zw_k (zd_l (zd_l (zd_l (zd_r (zd_l zwt_5)))))
theorem zw_322 : Cond.fieldLink R_Mo 153 "OrderRowsModel" "perWidth" "I" ∈ zw_T := zw_k (zd_r (zd_l (zd_l (zd_r (zd_l zwt_5)))))
theorem zw_323 : Cond.methodLink R_Mo 144 y_Mo_isCost ∈ zw_T := zw_k (zd_l (zd_r (zd_l (zd_r (zd_l zwt_5)))))
theorem zw_324 : Cond.static y_Mo_isCost ∈ zw_T := zw_k (zd_r (zd_r (zd_l (zd_r (zd_l zwt_5)))))
theorem zw_325 : Cond.code y_Mo_isCost b_Mo_isCost 1 (some .boolean) ∈ zw_T := zw_k (zd_l (zd_l (zd_r (zd_r (zd_l zwt_5)))))
theorem zw_326 : Cond.fieldLink R_Mo 59 "OrderRowsModel" "quoteItem" "[I" ∈ zw_T := zw_k (zd_r (zd_l (zd_r (zd_r (zd_l zwt_5)))))
theorem zw_327 : Cond.fieldLink R_Mo 156 "OrderRowsModel" "quotes" "I" ∈ zw_T := zw_k (zd_l (zd_r (zd_r (zd_r (zd_l zwt_5)))))
theorem zw_328 : Cond.fieldLink R_Mo 62 "OrderRowsModel" "quoteUntil" "[I" ∈ zw_T := zw_k (zd_r (zd_r (zd_r (zd_r (zd_l zwt_5)))))
theorem zw_329 : Cond.fieldLink R_Mo 65 "OrderRowsModel" "quotePrice" "[J" ∈ zw_T := zw_k (zd_l (zd_l (zd_l (zd_l (zd_r zwt_5)))))
theorem zw_330 : Cond.fieldLink R_Mo 69 "OrderRowsModel" "accepted" "[Z" ∈ zw_T := zw_k (zd_r (zd_l (zd_l (zd_l (zd_r zwt_5)))))
theorem zw_331 : Cond.methodLink R_Mo 159 y_Mo_isQuote ∈ zw_T := zw_k (zd_l (zd_r (zd_l (zd_l (zd_r zwt_5)))))
theorem zw_332 : Cond.instanceMethod y_Mo_isQuote ∈ zw_T := zw_k (zd_r (zd_r (zd_l (zd_l (zd_r zwt_5)))))
theorem zw_334 : Cond.code y_Mo_isQuote b_Mo_isQuote 2 (some .boolean) ∈ zw_T := zw_k (zd_l (zd_l (zd_r (zd_l (zd_r zwt_5)))))
theorem zw_335 : Cond.constant R_Mo 162 2000000000 ∈ zw_T := zw_k (zd_r (zd_l (zd_r (zd_l (zd_r zwt_5)))))
theorem zw_336 : Cond.fieldLink R_Mo 7 "OrderRowsModel" "credit" "[I" ∈ zw_T := zw_k (zd_l (zd_r (zd_r (zd_l (zd_r zwt_5)))))
theorem zw_337 : Cond.methodLink R_Mo 163 y_Mo_customerOf ∈ zw_T := zw_k (zd_r (zd_r (zd_r (zd_l (zd_r zwt_5)))))
theorem zw_338 : Cond.instanceMethod y_Mo_customerOf ∈ zw_T := zw_k (zd_l (zd_l (zd_l (zd_r (zd_r zwt_5)))))
theorem zw_340 : Cond.code y_Mo_customerOf b_Mo_customerOf 2 (some .int) ∈ zw_T := zw_k (zd_r (zd_l (zd_l (zd_r (zd_r zwt_5)))))
theorem zw_341 : Cond.constant R_Mo 167 100000000 ∈ zw_T := zw_k (zd_l (zd_r (zd_l (zd_r (zd_r zwt_5)))))
theorem zw_342 : Cond.fieldLink R_Mo 168 "OrderRowsModel" "capacity" "I" ∈ zw_T := zw_k (zd_r (zd_r (zd_l (zd_r (zd_r zwt_5)))))
theorem zw_343 : Cond.fieldLink R_Mo 72 "OrderRowsModel" "taken" "[I" ∈ zw_T := zw_k (zd_l (zd_l (zd_r (zd_r (zd_r zwt_5)))))
theorem zw_344 : Cond.fieldLink R_Mo 31 "OrderRowsModel" "reserved" "[Z" ∈ zw_T := zw_k (zd_r (zd_l (zd_r (zd_r (zd_r zwt_5)))))
theorem zw_369 : Cond.methodLink R_L 37 y_Or_field ∈ zw_T := zw_k (zd_l (zd_r (zd_r (zd_r (zd_r zwt_5)))))
theorem zw_370 : Cond.instanceMethod y_Or_field ∈ zw_T := zw_k (zd_r (zd_r (zd_r (zd_r (zd_r zwt_5)))))
theorem zwt_6 : (((((zw_q 476 (Cond.selects R_Or y_Or_field y_Or_field) && zw_q 477 (Cond.code y_Or_field b_Or_field 4 (some .int))) && (zw_q 481 (Cond.methodLink R_L 41 y_Or_history) && zw_q 482 (Cond.instanceMethod y_Or_history))) && ((zw_q 483 (Cond.selects R_Or y_Or_history y_Or_history) && zw_q 484 (Cond.code y_Or_history b_Or_history 4 (some .int))) && (zw_q 496 (Cond.methodLink R_L 44 y_Or_split) && zw_q 497 (Cond.instanceMethod y_Or_split)))) && (((zw_q 498 (Cond.selects R_Or y_Or_split y_Or_split) && zw_q 499 (Cond.code y_Or_split b_Or_split 7 (some .int))) && (zw_q 510 (Cond.methodLink R_L 47 y_Or_made) && zw_q 511 (Cond.instanceMethod y_Or_made))) && ((zw_q 512 (Cond.selects R_Or y_Or_made y_Or_made) && zw_q 513 (Cond.code y_Or_made b_Or_made 3 (some .int))) && (zw_q 522 (Cond.methodLink R_L 50 y_Or_state) && zw_q 523 (Cond.instanceMethod y_Or_state))))) && ((((zw_q 524 (Cond.selects R_Or y_Or_state y_Or_state) && zw_q 525 (Cond.code y_Or_state b_Or_state 3 (some .int))) && (zw_q 537 (Cond.methodLink R_L 53 y_Or_rest) && zw_q 538 (Cond.instanceMethod y_Or_rest))) && ((zw_q 539 (Cond.selects R_Or y_Or_rest y_Or_rest) && zw_q 540 (Cond.code y_Or_rest b_Or_rest 2 (some .int))) && (zw_q 547 (Cond.methodLink R_L 57 y_Or_costs) && zw_q 548 (Cond.instanceMethod y_Or_costs)))) && (((zw_q 549 (Cond.selects R_Or y_Or_costs y_Or_costs) && zw_q 550 (Cond.code y_Or_costs b_Or_costs 4 none)) && (zw_q 561 (Cond.methodLink R_L 60 y_Or_quote) && zw_q 562 (Cond.instanceMethod y_Or_quote))) && ((zw_q 563 (Cond.selects R_Or y_Or_quote y_Or_quote) && zw_q 564 (Cond.code y_Or_quote b_Or_quote 5 (some .int))) && (zw_q 578 (Cond.methodLink R_L 63 y_Or_quoteAt) && zw_q 579 (Cond.instanceMethod y_Or_quoteAt)))))) = true := by decide +kernel
theorem zw_371 : Cond.selects R_Or y_Or_field y_Or_field ∈ zw_T := zw_k (zd_l (zd_l (zd_l (zd_l (zd_l zwt_6)))))
theorem zw_372 : Cond.code y_Or_field b_Or_field 4 (some .int) ∈ zw_T := zw_k (zd_r (zd_l (zd_l (zd_l (zd_l zwt_6)))))
theorem zw_373 : Cond.methodLink R_L 41 y_Or_history ∈ zw_T := zw_k (zd_l (zd_r (zd_l (zd_l (zd_l zwt_6)))))
theorem zw_374 : Cond.instanceMethod y_Or_history ∈ zw_T := zw_k (zd_r (zd_r (zd_l (zd_l (zd_l zwt_6)))))
theorem zw_375 : Cond.selects R_Or y_Or_history y_Or_history ∈ zw_T := zw_k (zd_l (zd_l (zd_r (zd_l (zd_l zwt_6)))))
theorem zw_376 : Cond.code y_Or_history b_Or_history 4 (some .int) ∈ zw_T := zw_k (zd_r (zd_l (zd_r (zd_l (zd_l zwt_6)))))
theorem zw_377 : Cond.methodLink R_L 44 y_Or_split ∈ zw_T := zw_k (zd_l (zd_r (zd_r (zd_l (zd_l zwt_6)))))
theorem zw_378 : Cond.instanceMethod y_Or_split ∈ zw_T := zw_k (zd_r (zd_r (zd_r (zd_l (zd_l zwt_6)))))
theorem zw_379 : Cond.selects R_Or y_Or_split y_Or_split ∈ zw_T := zw_k (zd_l (zd_l (zd_l (zd_r (zd_l zwt_6)))))
theorem zw_380 : Cond.code y_Or_split b_Or_split 7 (some .int) ∈ zw_T := zw_k (zd_r (zd_l (zd_l (zd_r (zd_l zwt_6)))))
theorem zw_381 : Cond.methodLink R_L 47 y_Or_made ∈ zw_T := zw_k (zd_l (zd_r (zd_l (zd_r (zd_l zwt_6)))))
theorem zw_382 : Cond.instanceMethod y_Or_made ∈ zw_T := zw_k (zd_r (zd_r (zd_l (zd_r (zd_l zwt_6)))))
theorem zw_383 : Cond.selects R_Or y_Or_made y_Or_made ∈ zw_T := zw_k (zd_l (zd_l (zd_r (zd_r (zd_l zwt_6)))))
theorem zw_384 : Cond.code y_Or_made b_Or_made 3 (some .int) ∈ zw_T := zw_k (zd_r (zd_l (zd_r (zd_r (zd_l zwt_6)))))
theorem zw_385 : Cond.methodLink R_L 50 y_Or_state ∈ zw_T := zw_k (zd_l (zd_r (zd_r (zd_r (zd_l zwt_6)))))
theorem zw_386 : Cond.instanceMethod y_Or_state ∈ zw_T := zw_k (zd_r (zd_r (zd_r (zd_r (zd_l zwt_6)))))
theorem zw_387 : Cond.selects R_Or y_Or_state y_Or_state ∈ zw_T := zw_k (zd_l (zd_l (zd_l (zd_l (zd_r zwt_6)))))
theorem zw_388 : Cond.code y_Or_state b_Or_state 3 (some .int) ∈ zw_T := zw_k (zd_r (zd_l (zd_l (zd_l (zd_r zwt_6)))))
theorem zw_389 : Cond.methodLink R_L 53 y_Or_rest ∈ zw_T := zw_k (zd_l (zd_r (zd_l (zd_l (zd_r zwt_6)))))
theorem zw_390 : Cond.instanceMethod y_Or_rest ∈ zw_T := zw_k (zd_r (zd_r (zd_l (zd_l (zd_r zwt_6)))))
theorem zw_391 : Cond.selects R_Or y_Or_rest y_Or_rest ∈ zw_T := zw_k (zd_l (zd_l (zd_r (zd_l (zd_r zwt_6)))))
theorem zw_392 : Cond.code y_Or_rest b_Or_rest 2 (some .int) ∈ zw_T := zw_k (zd_r (zd_l (zd_r (zd_l (zd_r zwt_6)))))
theorem zw_393 : Cond.methodLink R_L 57 y_Or_costs ∈ zw_T := zw_k (zd_l (zd_r (zd_r (zd_l (zd_r zwt_6)))))
theorem zw_394 : Cond.instanceMethod y_Or_costs ∈ zw_T := zw_k (zd_r (zd_r (zd_r (zd_l (zd_r zwt_6)))))
theorem zw_395 : Cond.selects R_Or y_Or_costs y_Or_costs ∈ zw_T := zw_k (zd_l (zd_l (zd_l (zd_r (zd_r zwt_6)))))
theorem zw_396 : Cond.code y_Or_costs b_Or_costs 4 none ∈ zw_T := zw_k (zd_r (zd_l (zd_l (zd_r (zd_r zwt_6)))))
theorem zw_397 : Cond.methodLink R_L 60 y_Or_quote ∈ zw_T := zw_k (zd_l (zd_r (zd_l (zd_r (zd_r zwt_6)))))
theorem zw_398 : Cond.instanceMethod y_Or_quote ∈ zw_T := zw_k (zd_r (zd_r (zd_l (zd_r (zd_r zwt_6)))))
theorem zw_399 : Cond.selects R_Or y_Or_quote y_Or_quote ∈ zw_T := zw_k (zd_l (zd_l (zd_r (zd_r (zd_r zwt_6)))))
theorem zw_400 : Cond.code y_Or_quote b_Or_quote 5 (some .int) ∈ zw_T := zw_k (zd_r (zd_l (zd_r (zd_r (zd_r zwt_6)))))
theorem zw_401 : Cond.methodLink R_L 63 y_Or_quoteAt ∈ zw_T := zw_k (zd_l (zd_r (zd_r (zd_r (zd_r zwt_6)))))
theorem zw_402 : Cond.instanceMethod y_Or_quoteAt ∈ zw_T := zw_k (zd_r (zd_r (zd_r (zd_r (zd_r zwt_6)))))
theorem zwt_7 : (((((zw_q 580 (Cond.selects R_Or y_Or_quoteAt y_Or_quoteAt) && zw_q 581 (Cond.code y_Or_quoteAt b_Or_quoteAt 3 (some .int))) && (zw_q 594 (Cond.methodLink R_L 66 y_Or_price) && zw_q 595 (Cond.instanceMethod y_Or_price))) && ((zw_q 596 (Cond.selects R_Or y_Or_price y_Or_price) && zw_q 597 (Cond.code y_Or_price b_Or_price 2 (some .long))) && (zw_q 601 (Cond.methodLink R_L 70 y_Or_credit) && zw_q 602 (Cond.instanceMethod y_Or_credit)))) && (((zw_q 603 (Cond.selects R_Or y_Or_credit y_Or_credit) && zw_q 604 (Cond.code y_Or_credit b_Or_credit 3 none)) && (zw_q 609 (Cond.methodLink R_L 73 y_Or_accept) && zw_q 610 (Cond.instanceMethod y_Or_accept))) && ((zw_q 611 (Cond.selects R_Or y_Or_accept y_Or_accept) && zw_q 612 (Cond.code y_Or_accept b_Or_accept 5 (some .long))) && (zw_q 616 (Cond.methodLink R_L 76 y_Or_capacity) && zw_q 617 (Cond.instanceMethod y_Or_capacity))))) && ((((zw_q 618 (Cond.selects R_Or y_Or_capacity y_Or_capacity) && zw_q 619 (Cond.code y_Or_capacity b_Or_capacity 2 none)) && (zw_q 632 (Cond.methodLink R_L 80 y_Or_reserve) && zw_q 633 (Cond.instanceMethod y_Or_reserve))) && ((zw_q 634 (Cond.selects R_Or y_Or_reserve y_Or_reserve) && zw_q 635 (Cond.code y_Or_reserve b_Or_reserve 4 (some .int))) && (zw_q 647 (Cond.methodLink R_L 83 y_Or_join) && zw_q 648 (Cond.instanceMethod y_Or_join)))) && (((zw_q 649 (Cond.selects R_Or y_Or_join y_Or_join) && zw_q 650 (Cond.code y_Or_join b_Or_join 3 (some .int))) && (zw_q 666 (Cond.methodLink R_L 86 y_Or_ready) && zw_q 667 (Cond.instanceMethod y_Or_ready))) && ((zw_q 668 (Cond.selects R_Or y_Or_ready y_Or_ready) && zw_q 669 (Cond.code y_Or_ready b_Or_ready 3 (some .boolean))) && (zw_q 674 (Cond.methodLink R_L 90 y_Or_late) && zw_q 675 (Cond.instanceMethod y_Or_late)))))) = true := by decide +kernel
theorem zw_403 : Cond.selects R_Or y_Or_quoteAt y_Or_quoteAt ∈ zw_T := zw_k (zd_l (zd_l (zd_l (zd_l (zd_l zwt_7)))))
theorem zw_404 : Cond.code y_Or_quoteAt b_Or_quoteAt 3 (some .int) ∈ zw_T := zw_k (zd_r (zd_l (zd_l (zd_l (zd_l zwt_7)))))
theorem zw_405 : Cond.methodLink R_L 66 y_Or_price ∈ zw_T := zw_k (zd_l (zd_r (zd_l (zd_l (zd_l zwt_7)))))
theorem zw_406 : Cond.instanceMethod y_Or_price ∈ zw_T := zw_k (zd_r (zd_r (zd_l (zd_l (zd_l zwt_7)))))
theorem zw_407 : Cond.selects R_Or y_Or_price y_Or_price ∈ zw_T := zw_k (zd_l (zd_l (zd_r (zd_l (zd_l zwt_7)))))
theorem zw_408 : Cond.code y_Or_price b_Or_price 2 (some .long) ∈ zw_T := zw_k (zd_r (zd_l (zd_r (zd_l (zd_l zwt_7)))))
theorem zw_409 : Cond.methodLink R_L 70 y_Or_credit ∈ zw_T := zw_k (zd_l (zd_r (zd_r (zd_l (zd_l zwt_7)))))
theorem zw_410 : Cond.instanceMethod y_Or_credit ∈ zw_T := zw_k (zd_r (zd_r (zd_r (zd_l (zd_l zwt_7)))))
theorem zw_411 : Cond.selects R_Or y_Or_credit y_Or_credit ∈ zw_T := zw_k (zd_l (zd_l (zd_l (zd_r (zd_l zwt_7)))))
theorem zw_412 : Cond.code y_Or_credit b_Or_credit 3 none ∈ zw_T := zw_k (zd_r (zd_l (zd_l (zd_r (zd_l zwt_7)))))
theorem zw_413 : Cond.methodLink R_L 73 y_Or_accept ∈ zw_T := zw_k (zd_l (zd_r (zd_l (zd_r (zd_l zwt_7)))))
theorem zw_414 : Cond.instanceMethod y_Or_accept ∈ zw_T := zw_k (zd_r (zd_r (zd_l (zd_r (zd_l zwt_7)))))
theorem zw_415 : Cond.selects R_Or y_Or_accept y_Or_accept ∈ zw_T := zw_k (zd_l (zd_l (zd_r (zd_r (zd_l zwt_7)))))
theorem zw_416 : Cond.code y_Or_accept b_Or_accept 5 (some .long) ∈ zw_T := zw_k (zd_r (zd_l (zd_r (zd_r (zd_l zwt_7)))))
theorem zw_417 : Cond.methodLink R_L 76 y_Or_capacity ∈ zw_T := zw_k (zd_l (zd_r (zd_r (zd_r (zd_l zwt_7)))))
theorem zw_418 : Cond.instanceMethod y_Or_capacity ∈ zw_T := zw_k (zd_r (zd_r (zd_r (zd_r (zd_l zwt_7)))))
theorem zw_419 : Cond.selects R_Or y_Or_capacity y_Or_capacity ∈ zw_T := zw_k (zd_l (zd_l (zd_l (zd_l (zd_r zwt_7)))))
theorem zw_420 : Cond.code y_Or_capacity b_Or_capacity 2 none ∈ zw_T := zw_k (zd_r (zd_l (zd_l (zd_l (zd_r zwt_7)))))
theorem zw_421 : Cond.methodLink R_L 80 y_Or_reserve ∈ zw_T := zw_k (zd_l (zd_r (zd_l (zd_l (zd_r zwt_7)))))
theorem zw_422 : Cond.instanceMethod y_Or_reserve ∈ zw_T := zw_k (zd_r (zd_r (zd_l (zd_l (zd_r zwt_7)))))
theorem zw_423 : Cond.selects R_Or y_Or_reserve y_Or_reserve ∈ zw_T := zw_k (zd_l (zd_l (zd_r (zd_l (zd_r zwt_7)))))
theorem zw_424 : Cond.code y_Or_reserve b_Or_reserve 4 (some .int) ∈ zw_T := zw_k (zd_r (zd_l (zd_r (zd_l (zd_r zwt_7)))))
theorem zw_425 : Cond.methodLink R_L 83 y_Or_join ∈ zw_T := zw_k (zd_l (zd_r (zd_r (zd_l (zd_r zwt_7)))))
theorem zw_426 : Cond.instanceMethod y_Or_join ∈ zw_T := zw_k (zd_r (zd_r (zd_r (zd_l (zd_r zwt_7)))))
theorem zw_427 : Cond.selects R_Or y_Or_join y_Or_join ∈ zw_T := zw_k (zd_l (zd_l (zd_l (zd_r (zd_r zwt_7)))))
theorem zw_428 : Cond.code y_Or_join b_Or_join 3 (some .int) ∈ zw_T := zw_k (zd_r (zd_l (zd_l (zd_r (zd_r zwt_7)))))
theorem zw_429 : Cond.methodLink R_L 86 y_Or_ready ∈ zw_T := zw_k (zd_l (zd_r (zd_l (zd_r (zd_r zwt_7)))))
theorem zw_430 : Cond.instanceMethod y_Or_ready ∈ zw_T := zw_k (zd_r (zd_r (zd_l (zd_r (zd_r zwt_7)))))
theorem zw_431 : Cond.selects R_Or y_Or_ready y_Or_ready ∈ zw_T := zw_k (zd_l (zd_l (zd_r (zd_r (zd_r zwt_7)))))
theorem zw_432 : Cond.code y_Or_ready b_Or_ready 3 (some .boolean) ∈ zw_T := zw_k (zd_r (zd_l (zd_r (zd_r (zd_r zwt_7)))))
theorem zw_433 : Cond.methodLink R_L 90 y_Or_late ∈ zw_T := zw_k (zd_l (zd_r (zd_r (zd_r (zd_r zwt_7)))))
theorem zw_434 : Cond.instanceMethod y_Or_late ∈ zw_T := zw_k (zd_r (zd_r (zd_r (zd_r (zd_r zwt_7)))))
set_option maxRecDepth 100000 in
theorem zw_441 : Cond.methodLink R_Acc 3 objectInit ∈ zw_T := zw_m 168 rfl rfl
set_option maxRecDepth 100000 in
theorem zw_442 : Cond.instanceMethod objectInit ∈ zw_T := zw_m 25 rfl rfl
set_option maxRecDepth 100000 in
theorem zw_443 : Cond.code objectInit ⟨#[0xb1]⟩ 1 none ∈ zw_T := zw_m 26 rfl rfl
set_option maxRecDepth 100000 in
theorem zw_444 : Cond.arrayClass .int ∈ zw_T := zw_m 49 rfl rfl
set_option maxRecDepth 100000 in
theorem zw_445 : Cond.fieldLink R_Acc 9 "OrderRows$Accounts" "limit" "[I" ∈ zw_T := zw_m 169 rfl rfl
set_option maxRecDepth 100000 in
theorem zw_446 : Cond.arrayClass .long ∈ zw_T := zw_m 161 rfl rfl
set_option maxRecDepth 100000 in
theorem zw_447 : Cond.fieldLink R_Acc 15 "OrderRows$Accounts" "used" "[J" ∈ zw_T := zw_m 171 rfl rfl
set_option maxRecDepth 100000 in
theorem zw_448 : Cond.methodLink R_Cal 3 objectInit ∈ zw_T := zw_m 183 rfl rfl
set_option maxRecDepth 100000 in
theorem zw_449 : Cond.arrayClass .boolean ∈ zw_T := zw_m 162 rfl rfl
set_option maxRecDepth 100000 in
theorem zw_450 : Cond.methodLink R_Chg 3 objectInit ∈ zw_T := zw_m 77 rfl rfl
set_option maxRecDepth 100000 in
theorem zw_451 : Cond.methodLink R_Itm 3 objectInit ∈ zw_T := zw_m 55 rfl rfl
set_option maxRecDepth 100000 in
theorem zw_452 : Cond.methodLink R_Ord 3 objectInit ∈ zw_T := zw_m 32 rfl rfl
set_option maxRecDepth 100000 in
theorem zw_453 : Cond.methodLink R_Out 3 objectInit ∈ zw_T := zw_m 99 rfl rfl
set_option maxRecDepth 100000 in
theorem zw_454 : Cond.methodLink R_Quo 3 objectInit ∈ zw_T := zw_m 139 rfl rfl
set_option maxRecDepth 100000 in
theorem zw_455 : Cond.methodLink R_Rat 1 objectInit ∈ zw_T := zw_m 123 rfl rfl
set_option maxRecDepth 100000 in
theorem zw_456 : Cond.methodLink R_Or 1 objectInit ∈ zw_T := zw_m 24 rfl rfl
set_option maxRecDepth 100000 in
theorem zw_457 : Cond.classLink R_Or 7 R_Ord ∈ zw_T := zw_m 27 rfl rfl
set_option maxRecDepth 100000 in
theorem zw_458 : Cond.instantiable R_Ord 4 ∈ zw_T := zw_m 28 rfl rfl
set_option maxRecDepth 100000 in
theorem zw_459 : Cond.code y_Ord_init b_Ord_init 1 none ∈ zw_T := zw_m 31 rfl rfl
set_option maxRecDepth 100000 in
theorem zw_460 : Cond.instanceMethod y_Ord_init ∈ zw_T := zw_m 30 rfl rfl
set_option maxRecDepth 100000 in
theorem zw_461 : Cond.classLink R_Or 16 R_Itm ∈ zw_T := zw_m 50 rfl rfl
set_option maxRecDepth 100000 in
theorem zw_462 : Cond.instantiable R_Itm 4 ∈ zw_T := zw_m 51 rfl rfl
set_option maxRecDepth 100000 in
theorem zw_463 : Cond.code y_Itm_init b_Itm_init 1 none ∈ zw_T := zw_m 54 rfl rfl
set_option maxRecDepth 100000 in
theorem zw_464 : Cond.instanceMethod y_Itm_init ∈ zw_T := zw_m 53 rfl rfl
set_option maxRecDepth 100000 in
theorem zw_465 : Cond.classLink R_Or 23 R_Chg ∈ zw_T := zw_m 72 rfl rfl
set_option maxRecDepth 100000 in
theorem zw_466 : Cond.instantiable R_Chg 5 ∈ zw_T := zw_m 73 rfl rfl
set_option maxRecDepth 100000 in
theorem zw_467 : Cond.code y_Chg_init b_Chg_init 1 none ∈ zw_T := zw_m 76 rfl rfl
set_option maxRecDepth 100000 in
theorem zw_468 : Cond.instanceMethod y_Chg_init ∈ zw_T := zw_m 75 rfl rfl
set_option maxRecDepth 100000 in
theorem zw_469 : Cond.classLink R_Or 30 R_Out ∈ zw_T := zw_m 94 rfl rfl
set_option maxRecDepth 100000 in
theorem zw_470 : Cond.instantiable R_Out 5 ∈ zw_T := zw_m 95 rfl rfl
set_option maxRecDepth 100000 in
theorem zw_471 : Cond.code y_Out_init b_Out_init 1 none ∈ zw_T := zw_m 98 rfl rfl
set_option maxRecDepth 100000 in
theorem zw_472 : Cond.instanceMethod y_Out_init ∈ zw_T := zw_m 97 rfl rfl
set_option maxRecDepth 100000 in
theorem zw_473 : Cond.classLink R_Or 37 R_Rat ∈ zw_T := zw_m 118 rfl rfl
set_option maxRecDepth 100000 in
theorem zw_474 : Cond.instantiable R_Rat 3 ∈ zw_T := zw_m 119 rfl rfl
set_option maxRecDepth 100000 in
theorem zw_475 : Cond.code y_Rat_init b_Rat_init 1 none ∈ zw_T := zw_m 122 rfl rfl
set_option maxRecDepth 100000 in
theorem zw_476 : Cond.instanceMethod y_Rat_init ∈ zw_T := zw_m 121 rfl rfl
set_option maxRecDepth 100000 in
theorem zw_477 : Cond.classLink R_Or 44 R_Quo ∈ zw_T := zw_m 134 rfl rfl
set_option maxRecDepth 100000 in
theorem zw_478 : Cond.instantiable R_Quo 5 ∈ zw_T := zw_m 135 rfl rfl
set_option maxRecDepth 100000 in
theorem zw_479 : Cond.code y_Quo_init b_Quo_init 1 none ∈ zw_T := zw_m 138 rfl rfl
set_option maxRecDepth 100000 in
theorem zw_480 : Cond.instanceMethod y_Quo_init ∈ zw_T := zw_m 137 rfl rfl
set_option maxRecDepth 100000 in
theorem zw_481 : Cond.classLink R_Or 51 R_Acc ∈ zw_T := zw_m 163 rfl rfl
set_option maxRecDepth 100000 in
theorem zw_482 : Cond.instantiable R_Acc 2 ∈ zw_T := zw_m 164 rfl rfl
set_option maxRecDepth 100000 in
theorem zw_483 : Cond.initialized R_Acc ∈ zw_T := zw_m 8 rfl rfl
set_option maxRecDepth 100000 in
theorem zw_484 : Cond.code y_Acc_init b_Acc_init 1 none ∈ zw_T := zw_m 167 rfl rfl
set_option maxRecDepth 100000 in
theorem zw_485 : Cond.instanceMethod y_Acc_init ∈ zw_T := zw_m 166 rfl rfl
set_option maxRecDepth 100000 in
theorem zw_486 : Cond.classLink R_Or 58 R_Cal ∈ zw_T := zw_m 178 rfl rfl
set_option maxRecDepth 100000 in
theorem zw_487 : Cond.instantiable R_Cal 4 ∈ zw_T := zw_m 179 rfl rfl
set_option maxRecDepth 100000 in
theorem zw_488 : Cond.code y_Cal_init b_Cal_init 1 none ∈ zw_T := zw_m 182 rfl rfl
set_option maxRecDepth 100000 in
theorem zw_489 : Cond.instanceMethod y_Cal_init ∈ zw_T := zw_m 181 rfl rfl
set_option maxRecDepth 100000 in
theorem zw_491 : Cond.codeWith y_L_order b_L_order 5 (some .int) [(0, 10, 13, 13), (0, 10, 17, 15), (0, 10, 21, 17)] ∈ zw_T := zw_m 229 rfl rfl
set_option maxRecDepth 100000 in
theorem zw_492 : Cond.methodLink R_L 100 y_L_order ∈ zw_T := zw_m 227 rfl rfl
set_option maxRecDepth 100000 in
theorem zw_493 : Cond.static y_L_order ∈ zw_T := zw_m 228 rfl rfl
set_option maxRecDepth 100000 in
theorem zw_494 : Cond.initialized R_L ∈ zw_T := zw_m 0 rfl rfl
set_option maxRecDepth 100000 in
theorem zw_499 : Cond.codeWith y_L_item b_L_item 7 (some .int) [(0, 14, 17, 13), (0, 14, 21, 15), (0, 14, 25, 17)] ∈ zw_T := zw_m 360 rfl rfl
set_option maxRecDepth 100000 in
theorem zw_500 : Cond.methodLink R_L 106 y_L_item ∈ zw_T := zw_m 358 rfl rfl
set_option maxRecDepth 100000 in
theorem zw_501 : Cond.static y_L_item ∈ zw_T := zw_m 359 rfl rfl
set_option maxRecDepth 100000 in
theorem zw_506 : Cond.codeWith y_L_weights b_L_weights 5 (some .int) [(0, 7, 10, 13), (0, 7, 14, 15), (0, 7, 18, 17)] ∈ zw_T := zw_m 384 rfl rfl
set_option maxRecDepth 100000 in
theorem zw_507 : Cond.methodLink R_L 110 y_L_weights ∈ zw_T := zw_m 382 rfl rfl
set_option maxRecDepth 100000 in
theorem zw_508 : Cond.static y_L_weights ∈ zw_T := zw_m 383 rfl rfl
set_option maxRecDepth 100000 in
theorem zw_513 : Cond.codeWith y_L_agree b_L_agree 4 (some .int) [(0, 6, 9, 13), (0, 6, 12, 15)] ∈ zw_T := zw_m 408 rfl rfl
set_option maxRecDepth 100000 in
theorem zw_514 : Cond.methodLink R_L 114 y_L_agree ∈ zw_T := zw_m 406 rfl rfl
set_option maxRecDepth 100000 in
theorem zw_515 : Cond.static y_L_agree ∈ zw_T := zw_m 407 rfl rfl
set_option maxRecDepth 100000 in
theorem zw_520 : Cond.codeWith y_L_change b_L_change 7 (some .int) [(0, 11, 14, 13), (0, 11, 18, 35), (0, 11, 22, 15), (0, 11, 26, 17)] ∈ zw_T := zw_m 415 rfl rfl
set_option maxRecDepth 100000 in
theorem zw_521 : Cond.methodLink R_L 118 y_L_change ∈ zw_T := zw_m 413 rfl rfl
set_option maxRecDepth 100000 in
theorem zw_522 : Cond.static y_L_change ∈ zw_T := zw_m 414 rfl rfl
theorem zwt_8 : (((((zw_q 676 (Cond.selects R_Or y_Or_late y_Or_late) && zw_q 677 (Cond.code y_Or_late b_Or_late 4 (some .int))) && (zw_q 681 (Cond.methodLink R_L 93 y_Or_tick) && zw_q 682 (Cond.instanceMethod y_Or_tick))) && ((zw_q 683 (Cond.selects R_Or y_Or_tick y_Or_tick) && zw_q 684 (Cond.code y_Or_tick b_Or_tick 2 (some .int))) && (zw_q 690 (Cond.methodLink R_Mo 1 objectInit) && zw_q 789 (Cond.methodLink R_L 105 y_Mo_order)))) && (((zw_q 790 (Cond.instanceMethod y_Mo_order) && zw_q 791 (Cond.selects R_Mo y_Mo_order y_Mo_order)) && (zw_q 792 (Cond.code y_Mo_order b_Mo_order 3 (some .int)) && zw_q 800 (Cond.methodLink R_L 109 y_Mo_item))) && ((zw_q 801 (Cond.instanceMethod y_Mo_item) && zw_q 802 (Cond.selects R_Mo y_Mo_item y_Mo_item)) && (zw_q 803 (Cond.code y_Mo_item b_Mo_item 5 (some .int)) && zw_q 816 (Cond.methodLink R_L 113 y_Mo_weights))))) && ((((zw_q 817 (Cond.instanceMethod y_Mo_weights) && zw_q 818 (Cond.selects R_Mo y_Mo_weights y_Mo_weights)) && (zw_q 819 (Cond.code y_Mo_weights b_Mo_weights 4 none) && zw_q 832 (Cond.methodLink R_L 117 y_Mo_agree))) && ((zw_q 833 (Cond.instanceMethod y_Mo_agree) && zw_q 834 (Cond.selects R_Mo y_Mo_agree y_Mo_agree)) && (zw_q 835 (Cond.code y_Mo_agree b_Mo_agree 3 none) && zw_q 836 (Cond.methodLink R_L 121 y_Mo_change)))) && (((zw_q 837 (Cond.instanceMethod y_Mo_change) && zw_q 838 (Cond.selects R_Mo y_Mo_change y_Mo_change)) && (zw_q 839 (Cond.code y_Mo_change b_Mo_change 11 none) && zw_q 473 (Cond.codeWith y_L_field b_L_field 6 (some .int) [(0, 12, 15, 13), (0, 12, 19, 15)]))) && ((zw_q 471 (Cond.methodLink R_L 122 y_L_field) && zw_q 472 (Cond.static y_L_field)) && (zw_q 855 (Cond.methodLink R_L 125 y_Mo_field) && zw_q 856 (Cond.instanceMethod y_Mo_field)))))) = true := by decide +kernel
theorem zw_435 : Cond.selects R_Or y_Or_late y_Or_late ∈ zw_T := zw_k (zd_l (zd_l (zd_l (zd_l (zd_l zwt_8)))))
theorem zw_436 : Cond.code y_Or_late b_Or_late 4 (some .int) ∈ zw_T := zw_k (zd_r (zd_l (zd_l (zd_l (zd_l zwt_8)))))
theorem zw_437 : Cond.methodLink R_L 93 y_Or_tick ∈ zw_T := zw_k (zd_l (zd_r (zd_l (zd_l (zd_l zwt_8)))))
theorem zw_438 : Cond.instanceMethod y_Or_tick ∈ zw_T := zw_k (zd_r (zd_r (zd_l (zd_l (zd_l zwt_8)))))
theorem zw_439 : Cond.selects R_Or y_Or_tick y_Or_tick ∈ zw_T := zw_k (zd_l (zd_l (zd_r (zd_l (zd_l zwt_8)))))
theorem zw_440 : Cond.code y_Or_tick b_Or_tick 2 (some .int) ∈ zw_T := zw_k (zd_r (zd_l (zd_r (zd_l (zd_l zwt_8)))))
theorem zw_490 : Cond.methodLink R_Mo 1 objectInit ∈ zw_T := zw_k (zd_l (zd_r (zd_r (zd_l (zd_l zwt_8)))))
theorem zw_495 : Cond.methodLink R_L 105 y_Mo_order ∈ zw_T := zw_k (zd_r (zd_r (zd_r (zd_l (zd_l zwt_8)))))
theorem zw_496 : Cond.instanceMethod y_Mo_order ∈ zw_T := zw_k (zd_l (zd_l (zd_l (zd_r (zd_l zwt_8)))))
theorem zw_497 : Cond.selects R_Mo y_Mo_order y_Mo_order ∈ zw_T := zw_k (zd_r (zd_l (zd_l (zd_r (zd_l zwt_8)))))
theorem zw_498 : Cond.code y_Mo_order b_Mo_order 3 (some .int) ∈ zw_T := zw_k (zd_l (zd_r (zd_l (zd_r (zd_l zwt_8)))))
theorem zw_502 : Cond.methodLink R_L 109 y_Mo_item ∈ zw_T := zw_k (zd_r (zd_r (zd_l (zd_r (zd_l zwt_8)))))
theorem zw_503 : Cond.instanceMethod y_Mo_item ∈ zw_T := zw_k (zd_l (zd_l (zd_r (zd_r (zd_l zwt_8)))))
theorem zw_504 : Cond.selects R_Mo y_Mo_item y_Mo_item ∈ zw_T := zw_k (zd_r (zd_l (zd_r (zd_r (zd_l zwt_8)))))
theorem zw_505 : Cond.code y_Mo_item b_Mo_item 5 (some .int) ∈ zw_T := zw_k (zd_l (zd_r (zd_r (zd_r (zd_l zwt_8)))))
theorem zw_509 : Cond.methodLink R_L 113 y_Mo_weights ∈ zw_T := zw_k (zd_r (zd_r (zd_r (zd_r (zd_l zwt_8)))))
theorem zw_510 : Cond.instanceMethod y_Mo_weights ∈ zw_T := zw_k (zd_l (zd_l (zd_l (zd_l (zd_r zwt_8)))))
theorem zw_511 : Cond.selects R_Mo y_Mo_weights y_Mo_weights ∈ zw_T := zw_k (zd_r (zd_l (zd_l (zd_l (zd_r zwt_8)))))
theorem zw_512 : Cond.code y_Mo_weights b_Mo_weights 4 none ∈ zw_T := zw_k (zd_l (zd_r (zd_l (zd_l (zd_r zwt_8)))))
theorem zw_516 : Cond.methodLink R_L 117 y_Mo_agree ∈ zw_T := zw_k (zd_r (zd_r (zd_l (zd_l (zd_r zwt_8)))))
theorem zw_517 : Cond.instanceMethod y_Mo_agree ∈ zw_T := zw_k (zd_l (zd_l (zd_r (zd_l (zd_r zwt_8)))))
theorem zw_518 : Cond.selects R_Mo y_Mo_agree y_Mo_agree ∈ zw_T := zw_k (zd_r (zd_l (zd_r (zd_l (zd_r zwt_8)))))
theorem zw_519 : Cond.code y_Mo_agree b_Mo_agree 3 none ∈ zw_T := zw_k (zd_l (zd_r (zd_r (zd_l (zd_r zwt_8)))))
theorem zw_523 : Cond.methodLink R_L 121 y_Mo_change ∈ zw_T := zw_k (zd_r (zd_r (zd_r (zd_l (zd_r zwt_8)))))
theorem zw_524 : Cond.instanceMethod y_Mo_change ∈ zw_T := zw_k (zd_l (zd_l (zd_l (zd_r (zd_r zwt_8)))))
theorem zw_525 : Cond.selects R_Mo y_Mo_change y_Mo_change ∈ zw_T := zw_k (zd_r (zd_l (zd_l (zd_r (zd_r zwt_8)))))
theorem zw_526 : Cond.code y_Mo_change b_Mo_change 11 none ∈ zw_T := zw_k (zd_l (zd_r (zd_l (zd_r (zd_r zwt_8)))))
theorem zw_527 : Cond.codeWith y_L_field b_L_field 6 (some .int) [(0, 12, 15, 13), (0, 12, 19, 15)] ∈ zw_T := zw_k (zd_r (zd_r (zd_l (zd_r (zd_r zwt_8)))))
theorem zw_528 : Cond.methodLink R_L 122 y_L_field ∈ zw_T := zw_k (zd_l (zd_l (zd_r (zd_r (zd_r zwt_8)))))
theorem zw_529 : Cond.static y_L_field ∈ zw_T := zw_k (zd_r (zd_l (zd_r (zd_r (zd_r zwt_8)))))
theorem zw_530 : Cond.methodLink R_L 125 y_Mo_field ∈ zw_T := zw_k (zd_l (zd_r (zd_r (zd_r (zd_r zwt_8)))))
theorem zw_531 : Cond.instanceMethod y_Mo_field ∈ zw_T := zw_k (zd_r (zd_r (zd_r (zd_r (zd_r zwt_8)))))
theorem zwt_9 : (((((zw_q 857 (Cond.selects R_Mo y_Mo_field y_Mo_field) && zw_q 858 (Cond.code y_Mo_field b_Mo_field 4 (some .int))) && (zw_q 480 (Cond.codeWith y_L_history b_L_history 6 (some .int) [(0, 12, 15, 13)]) && zw_q 478 (Cond.methodLink R_L 126 y_L_history))) && ((zw_q 479 (Cond.static y_L_history) && zw_q 859 (Cond.methodLink R_L 128 y_Mo_history)) && (zw_q 860 (Cond.instanceMethod y_Mo_history) && zw_q 861 (Cond.selects R_Mo y_Mo_history y_Mo_history)))) && (((zw_q 862 (Cond.code y_Mo_history b_Mo_history 5 (some .int)) && zw_q 495 (Cond.codeWith y_L_split b_L_split 5 (some .int) [(0, 10, 13, 13), (0, 10, 17, 35), (0, 10, 21, 15), (0, 10, 25, 17)])) && (zw_q 493 (Cond.methodLink R_L 129 y_L_split) && zw_q 494 (Cond.static y_L_split))) && ((zw_q 863 (Cond.methodLink R_L 131 y_Mo_split) && zw_q 864 (Cond.instanceMethod y_Mo_split)) && (zw_q 865 (Cond.selects R_Mo y_Mo_split y_Mo_split) && zw_q 866 (Cond.code y_Mo_split b_Mo_split 8 (some .int)))))) && ((((zw_q 509 (Cond.codeWith y_L_made b_L_made 5 (some .int) [(0, 10, 13, 13), (0, 10, 17, 15), (0, 10, 21, 17)]) && zw_q 507 (Cond.methodLink R_L 132 y_L_made)) && (zw_q 508 (Cond.static y_L_made) && zw_q 867 (Cond.methodLink R_L 134 y_Mo_made))) && ((zw_q 868 (Cond.instanceMethod y_Mo_made) && zw_q 869 (Cond.selects R_Mo y_Mo_made y_Mo_made)) && (zw_q 870 (Cond.code y_Mo_made b_Mo_made 5 (some .int)) && zw_q 521 (Cond.codeWith y_L_state b_L_state 5 (some .int) [(0, 10, 13, 13), (0, 10, 17, 15)])))) && (((zw_q 519 (Cond.methodLink R_L 135 y_L_state) && zw_q 520 (Cond.static y_L_state)) && (zw_q 876 (Cond.methodLink R_L 137 y_Mo_state) && zw_q 877 (Cond.instanceMethod y_Mo_state))) && ((zw_q 878 (Cond.selects R_Mo y_Mo_state y_Mo_state) && zw_q 879 (Cond.code y_Mo_state b_Mo_state 3 (some .int))) && (zw_q 536 (Cond.codeWith y_L_rest b_L_rest 4 (some .int) [(0, 9, 12, 13)]) && zw_q 534 (Cond.methodLink R_L 138 y_L_rest)))))) = true := by decide +kernel
theorem zw_532 : Cond.selects R_Mo y_Mo_field y_Mo_field ∈ zw_T := zw_k (zd_l (zd_l (zd_l (zd_l (zd_l zwt_9)))))
theorem zw_533 : Cond.code y_Mo_field b_Mo_field 4 (some .int) ∈ zw_T := zw_k (zd_r (zd_l (zd_l (zd_l (zd_l zwt_9)))))
theorem zw_534 : Cond.codeWith y_L_history b_L_history 6 (some .int) [(0, 12, 15, 13)] ∈ zw_T := zw_k (zd_l (zd_r (zd_l (zd_l (zd_l zwt_9)))))
theorem zw_535 : Cond.methodLink R_L 126 y_L_history ∈ zw_T := zw_k (zd_r (zd_r (zd_l (zd_l (zd_l zwt_9)))))
theorem zw_536 : Cond.static y_L_history ∈ zw_T := zw_k (zd_l (zd_l (zd_r (zd_l (zd_l zwt_9)))))
theorem zw_537 : Cond.methodLink R_L 128 y_Mo_history ∈ zw_T := zw_k (zd_r (zd_l (zd_r (zd_l (zd_l zwt_9)))))
theorem zw_538 : Cond.instanceMethod y_Mo_history ∈ zw_T := zw_k (zd_l (zd_r (zd_r (zd_l (zd_l zwt_9)))))
theorem zw_539 : Cond.selects R_Mo y_Mo_history y_Mo_history ∈ zw_T := zw_k (zd_r (zd_r (zd_r (zd_l (zd_l zwt_9)))))
theorem zw_540 : Cond.code y_Mo_history b_Mo_history 5 (some .int) ∈ zw_T := zw_k (zd_l (zd_l (zd_l (zd_r (zd_l zwt_9)))))
theorem zw_541 : Cond.codeWith y_L_split b_L_split 5 (some .int) [(0, 10, 13, 13), (0, 10, 17, 35), (0, 10, 21, 15), (0, 10, 25, 17)] ∈ zw_T := zw_k (zd_r (zd_l (zd_l (zd_r (zd_l zwt_9)))))
theorem zw_542 : Cond.methodLink R_L 129 y_L_split ∈ zw_T := zw_k (zd_l (zd_r (zd_l (zd_r (zd_l zwt_9)))))
theorem zw_543 : Cond.static y_L_split ∈ zw_T := zw_k (zd_r (zd_r (zd_l (zd_r (zd_l zwt_9)))))
theorem zw_544 : Cond.methodLink R_L 131 y_Mo_split ∈ zw_T := zw_k (zd_l (zd_l (zd_r (zd_r (zd_l zwt_9)))))
theorem zw_545 : Cond.instanceMethod y_Mo_split ∈ zw_T := zw_k (zd_r (zd_l (zd_r (zd_r (zd_l zwt_9)))))
theorem zw_546 : Cond.selects R_Mo y_Mo_split y_Mo_split ∈ zw_T := zw_k (zd_l (zd_r (zd_r (zd_r (zd_l zwt_9)))))
theorem zw_547 : Cond.code y_Mo_split b_Mo_split 8 (some .int) ∈ zw_T := zw_k (zd_r (zd_r (zd_r (zd_r (zd_l zwt_9)))))
theorem zw_548 : Cond.codeWith y_L_made b_L_made 5 (some .int) [(0, 10, 13, 13), (0, 10, 17, 15), (0, 10, 21, 17)] ∈ zw_T := zw_k (zd_l (zd_l (zd_l (zd_l (zd_r zwt_9)))))
theorem zw_549 : Cond.methodLink R_L 132 y_L_made ∈ zw_T := zw_k (zd_r (zd_l (zd_l (zd_l (zd_r zwt_9)))))
theorem zw_550 : Cond.static y_L_made ∈ zw_T := zw_k (zd_l (zd_r (zd_l (zd_l (zd_r zwt_9)))))
theorem zw_551 : Cond.methodLink R_L 134 y_Mo_made ∈ zw_T := zw_k (zd_r (zd_r (zd_l (zd_l (zd_r zwt_9)))))
theorem zw_552 : Cond.instanceMethod y_Mo_made ∈ zw_T := zw_k (zd_l (zd_l (zd_r (zd_l (zd_r zwt_9)))))
theorem zw_553 : Cond.selects R_Mo y_Mo_made y_Mo_made ∈ zw_T := zw_k (zd_r (zd_l (zd_r (zd_l (zd_r zwt_9)))))
theorem zw_554 : Cond.code y_Mo_made b_Mo_made 5 (some .int) ∈ zw_T := zw_k (zd_l (zd_r (zd_r (zd_l (zd_r zwt_9)))))
theorem zw_555 : Cond.codeWith y_L_state b_L_state 5 (some .int) [(0, 10, 13, 13), (0, 10, 17, 15)] ∈ zw_T := zw_k (zd_r (zd_r (zd_r (zd_l (zd_r zwt_9)))))
theorem zw_556 : Cond.methodLink R_L 135 y_L_state ∈ zw_T := zw_k (zd_l (zd_l (zd_l (zd_r (zd_r zwt_9)))))
theorem zw_557 : Cond.static y_L_state ∈ zw_T := zw_k (zd_r (zd_l (zd_l (zd_r (zd_r zwt_9)))))
theorem zw_558 : Cond.methodLink R_L 137 y_Mo_state ∈ zw_T := zw_k (zd_l (zd_r (zd_l (zd_r (zd_r zwt_9)))))
theorem zw_559 : Cond.instanceMethod y_Mo_state ∈ zw_T := zw_k (zd_r (zd_r (zd_l (zd_r (zd_r zwt_9)))))
theorem zw_560 : Cond.selects R_Mo y_Mo_state y_Mo_state ∈ zw_T := zw_k (zd_l (zd_l (zd_r (zd_r (zd_r zwt_9)))))
theorem zw_561 : Cond.code y_Mo_state b_Mo_state 3 (some .int) ∈ zw_T := zw_k (zd_r (zd_l (zd_r (zd_r (zd_r zwt_9)))))
theorem zw_562 : Cond.codeWith y_L_rest b_L_rest 4 (some .int) [(0, 9, 12, 13)] ∈ zw_T := zw_k (zd_l (zd_r (zd_r (zd_r (zd_r zwt_9)))))
theorem zw_563 : Cond.methodLink R_L 138 y_L_rest ∈ zw_T := zw_k (zd_r (zd_r (zd_r (zd_r (zd_r zwt_9)))))
theorem zwt_10 : (((((zw_q 535 (Cond.static y_L_rest) && zw_q 884 (Cond.methodLink R_L 141 y_Mo_rest)) && (zw_q 885 (Cond.instanceMethod y_Mo_rest) && zw_q 886 (Cond.selects R_Mo y_Mo_rest y_Mo_rest))) && ((zw_q 887 (Cond.code y_Mo_rest b_Mo_rest 3 (some .int)) && zw_q 546 (Cond.codeWith y_L_costs b_L_costs 5 (some .int) [(0, 7, 10, 15)])) && (zw_q 544 (Cond.methodLink R_L 142 y_L_costs) && zw_q 545 (Cond.static y_L_costs)))) && (((zw_q 888 (Cond.methodLink R_L 144 y_Mo_costs) && zw_q 889 (Cond.instanceMethod y_Mo_costs)) && (zw_q 890 (Cond.selects R_Mo y_Mo_costs y_Mo_costs) && zw_q 891 (Cond.code y_Mo_costs b_Mo_costs 4 none))) && ((zw_q 560 (Cond.codeWith y_L_quote b_L_quote 5 (some .int) [(0, 10, 13, 13), (0, 10, 17, 15), (0, 10, 21, 17)]) && zw_q 558 (Cond.methodLink R_L 145 y_L_quote)) && (zw_q 559 (Cond.static y_L_quote) && zw_q 895 (Cond.methodLink R_L 147 y_Mo_quote))))) && ((((zw_q 896 (Cond.instanceMethod y_Mo_quote) && zw_q 897 (Cond.selects R_Mo y_Mo_quote y_Mo_quote)) && (zw_q 898 (Cond.code y_Mo_quote b_Mo_quote 5 (some .int)) && zw_q 577 (Cond.codeWith y_L_quoteAt b_L_quoteAt 5 (some .int) [(0, 10, 13, 13)]))) && ((zw_q 575 (Cond.methodLink R_L 148 y_L_quoteAt) && zw_q 576 (Cond.static y_L_quoteAt)) && (zw_q 899 (Cond.methodLink R_L 150 y_Mo_quoteAt) && zw_q 900 (Cond.instanceMethod y_Mo_quoteAt)))) && (((zw_q 901 (Cond.selects R_Mo y_Mo_quoteAt y_Mo_quoteAt) && zw_q 902 (Cond.code y_Mo_quoteAt b_Mo_quoteAt 3 (some .int))) && (zw_q 593 (Cond.codeWith y_L_price b_L_price 4 (some .int) [(0, 8, 11, 13)]) && zw_q 591 (Cond.methodLink R_L 151 y_L_price))) && ((zw_q 592 (Cond.static y_L_price) && zw_q 907 (Cond.methodLink R_L 153 y_Mo_price)) && (zw_q 908 (Cond.instanceMethod y_Mo_price) && zw_q 909 (Cond.selects R_Mo y_Mo_price y_Mo_price)))))) = true := by decide +kernel
theorem zw_564 : Cond.static y_L_rest ∈ zw_T := zw_k (zd_l (zd_l (zd_l (zd_l (zd_l zwt_10)))))
theorem zw_565 : Cond.methodLink R_L 141 y_Mo_rest ∈ zw_T := zw_k (zd_r (zd_l (zd_l (zd_l (zd_l zwt_10)))))
theorem zw_566 : Cond.instanceMethod y_Mo_rest ∈ zw_T := zw_k (zd_l (zd_r (zd_l (zd_l (zd_l zwt_10)))))
theorem zw_567 : Cond.selects R_Mo y_Mo_rest y_Mo_rest ∈ zw_T := zw_k (zd_r (zd_r (zd_l (zd_l (zd_l zwt_10)))))
theorem zw_568 : Cond.code y_Mo_rest b_Mo_rest 3 (some .int) ∈ zw_T := zw_k (zd_l (zd_l (zd_r (zd_l (zd_l zwt_10)))))
theorem zw_569 : Cond.codeWith y_L_costs b_L_costs 5 (some .int) [(0, 7, 10, 15)] ∈ zw_T := zw_k (zd_r (zd_l (zd_r (zd_l (zd_l zwt_10)))))
theorem zw_570 : Cond.methodLink R_L 142 y_L_costs ∈ zw_T := zw_k (zd_l (zd_r (zd_r (zd_l (zd_l zwt_10)))))
theorem zw_571 : Cond.static y_L_costs ∈ zw_T := zw_k (zd_r (zd_r (zd_r (zd_l (zd_l zwt_10)))))
theorem zw_572 : Cond.methodLink R_L 144 y_Mo_costs ∈ zw_T := zw_k (zd_l (zd_l (zd_l (zd_r (zd_l zwt_10)))))
theorem zw_573 : Cond.instanceMethod y_Mo_costs ∈ zw_T := zw_k (zd_r (zd_l (zd_l (zd_r (zd_l zwt_10)))))
theorem zw_574 : Cond.selects R_Mo y_Mo_costs y_Mo_costs ∈ zw_T := zw_k (zd_l (zd_r (zd_l (zd_r (zd_l zwt_10)))))
theorem zw_575 : Cond.code y_Mo_costs b_Mo_costs 4 none ∈ zw_T := zw_k (zd_r (zd_r (zd_l (zd_r (zd_l zwt_10)))))
theorem zw_576 : Cond.codeWith y_L_quote b_L_quote 5 (some .int) [(0, 10, 13, 13), (0, 10, 17, 15), (0, 10, 21, 17)] ∈ zw_T := zw_k (zd_l (zd_l (zd_r (zd_r (zd_l zwt_10)))))
theorem zw_577 : Cond.methodLink R_L 145 y_L_quote ∈ zw_T := zw_k (zd_r (zd_l (zd_r (zd_r (zd_l zwt_10)))))
theorem zw_578 : Cond.static y_L_quote ∈ zw_T := zw_k (zd_l (zd_r (zd_r (zd_r (zd_l zwt_10)))))
theorem zw_579 : Cond.methodLink R_L 147 y_Mo_quote ∈ zw_T := zw_k (zd_r (zd_r (zd_r (zd_r (zd_l zwt_10)))))
theorem zw_580 : Cond.instanceMethod y_Mo_quote ∈ zw_T := zw_k (zd_l (zd_l (zd_l (zd_l (zd_r zwt_10)))))
theorem zw_581 : Cond.selects R_Mo y_Mo_quote y_Mo_quote ∈ zw_T := zw_k (zd_r (zd_l (zd_l (zd_l (zd_r zwt_10)))))
theorem zw_582 : Cond.code y_Mo_quote b_Mo_quote 5 (some .int) ∈ zw_T := zw_k (zd_l (zd_r (zd_l (zd_l (zd_r zwt_10)))))
theorem zw_583 : Cond.codeWith y_L_quoteAt b_L_quoteAt 5 (some .int) [(0, 10, 13, 13)] ∈ zw_T := zw_k (zd_r (zd_r (zd_l (zd_l (zd_r zwt_10)))))
theorem zw_584 : Cond.methodLink R_L 148 y_L_quoteAt ∈ zw_T := zw_k (zd_l (zd_l (zd_r (zd_l (zd_r zwt_10)))))
theorem zw_585 : Cond.static y_L_quoteAt ∈ zw_T := zw_k (zd_r (zd_l (zd_r (zd_l (zd_r zwt_10)))))
theorem zw_586 : Cond.methodLink R_L 150 y_Mo_quoteAt ∈ zw_T := zw_k (zd_l (zd_r (zd_r (zd_l (zd_r zwt_10)))))
theorem zw_587 : Cond.instanceMethod y_Mo_quoteAt ∈ zw_T := zw_k (zd_r (zd_r (zd_r (zd_l (zd_r zwt_10)))))
theorem zw_588 : Cond.selects R_Mo y_Mo_quoteAt y_Mo_quoteAt ∈ zw_T := zw_k (zd_l (zd_l (zd_l (zd_r (zd_r zwt_10)))))
theorem zw_589 : Cond.code y_Mo_quoteAt b_Mo_quoteAt 3 (some .int) ∈ zw_T := zw_k (zd_r (zd_l (zd_l (zd_r (zd_r zwt_10)))))
theorem zw_590 : Cond.codeWith y_L_price b_L_price 4 (some .int) [(0, 8, 11, 13)] ∈ zw_T := zw_k (zd_l (zd_r (zd_l (zd_r (zd_r zwt_10)))))
theorem zw_591 : Cond.methodLink R_L 151 y_L_price ∈ zw_T := zw_k (zd_r (zd_r (zd_l (zd_r (zd_r zwt_10)))))
theorem zw_592 : Cond.static y_L_price ∈ zw_T := zw_k (zd_l (zd_l (zd_r (zd_r (zd_r zwt_10)))))
theorem zw_593 : Cond.methodLink R_L 153 y_Mo_price ∈ zw_T := zw_k (zd_r (zd_l (zd_r (zd_r (zd_r zwt_10)))))
theorem zw_594 : Cond.instanceMethod y_Mo_price ∈ zw_T := zw_k (zd_l (zd_r (zd_r (zd_r (zd_r zwt_10)))))
theorem zw_595 : Cond.selects R_Mo y_Mo_price y_Mo_price ∈ zw_T := zw_k (zd_r (zd_r (zd_r (zd_r (zd_r zwt_10)))))
theorem zwt_11 : (((((zw_q 910 (Cond.code y_Mo_price b_Mo_price 2 (some .long)) && zw_q 600 (Cond.codeWith y_L_credit b_L_credit 4 (some .int) [(0, 6, 9, 13), (0, 6, 12, 15)])) && (zw_q 598 (Cond.methodLink R_L 154 y_L_credit) && zw_q 599 (Cond.static y_L_credit))) && ((zw_q 911 (Cond.methodLink R_L 156 y_Mo_credit) && zw_q 912 (Cond.instanceMethod y_Mo_credit)) && (zw_q 913 (Cond.selects R_Mo y_Mo_credit y_Mo_credit) && zw_q 914 (Cond.code y_Mo_credit b_Mo_credit 3 none)))) && (((zw_q 608 (Cond.codeWith y_L_accept b_L_accept 4 (some .int) [(0, 8, 11, 13), (0, 8, 14, 35), (0, 8, 17, 17)]) && zw_q 606 (Cond.methodLink R_L 157 y_L_accept)) && (zw_q 607 (Cond.static y_L_accept) && zw_q 916 (Cond.methodLink R_L 159 y_Mo_accept))) && ((zw_q 917 (Cond.instanceMethod y_Mo_accept) && zw_q 918 (Cond.selects R_Mo y_Mo_accept y_Mo_accept)) && (zw_q 919 (Cond.code y_Mo_accept b_Mo_accept 6 (some .long)) && zw_q 615 (Cond.codeWith y_L_capacity b_L_capacity 3 (some .int) [(0, 5, 8, 15), (0, 5, 11, 17)]))))) && ((((zw_q 613 (Cond.methodLink R_L 160 y_L_capacity) && zw_q 614 (Cond.static y_L_capacity)) && (zw_q 924 (Cond.methodLink R_L 163 y_Mo_capacity) && zw_q 925 (Cond.instanceMethod y_Mo_capacity))) && ((zw_q 926 (Cond.selects R_Mo y_Mo_capacity y_Mo_capacity) && zw_q 927 (Cond.code y_Mo_capacity b_Mo_capacity 4 none)) && (zw_q 631 (Cond.codeWith y_L_reserve b_L_reserve 4 (some .int) [(0, 9, 12, 13), (0, 9, 15, 35), (0, 9, 18, 17)]) && zw_q 629 (Cond.methodLink R_L 164 y_L_reserve)))) && (((zw_q 630 (Cond.static y_L_reserve) && zw_q 929 (Cond.methodLink R_L 166 y_Mo_reserve)) && (zw_q 930 (Cond.instanceMethod y_Mo_reserve) && zw_q 931 (Cond.selects R_Mo y_Mo_reserve y_Mo_reserve))) && ((zw_q 932 (Cond.code y_Mo_reserve b_Mo_reserve 5 (some .int)) && zw_q 646 (Cond.codeWith y_L_join b_L_join 5 (some .int) [(0, 10, 13, 13)])) && (zw_q 644 (Cond.methodLink R_L 167 y_L_join) && zw_q 645 (Cond.static y_L_join)))))) = true := by decide +kernel
theorem zw_596 : Cond.code y_Mo_price b_Mo_price 2 (some .long) ∈ zw_T := zw_k (zd_l (zd_l (zd_l (zd_l (zd_l zwt_11)))))
theorem zw_597 : Cond.codeWith y_L_credit b_L_credit 4 (some .int) [(0, 6, 9, 13), (0, 6, 12, 15)] ∈ zw_T := zw_k (zd_r (zd_l (zd_l (zd_l (zd_l zwt_11)))))
theorem zw_598 : Cond.methodLink R_L 154 y_L_credit ∈ zw_T := zw_k (zd_l (zd_r (zd_l (zd_l (zd_l zwt_11)))))
theorem zw_599 : Cond.static y_L_credit ∈ zw_T := zw_k (zd_r (zd_r (zd_l (zd_l (zd_l zwt_11)))))
theorem zw_600 : Cond.methodLink R_L 156 y_Mo_credit ∈ zw_T := zw_k (zd_l (zd_l (zd_r (zd_l (zd_l zwt_11)))))
theorem zw_601 : Cond.instanceMethod y_Mo_credit ∈ zw_T := zw_k (zd_r (zd_l (zd_r (zd_l (zd_l zwt_11)))))
theorem zw_602 : Cond.selects R_Mo y_Mo_credit y_Mo_credit ∈ zw_T := zw_k (zd_l (zd_r (zd_r (zd_l (zd_l zwt_11)))))
theorem zw_603 : Cond.code y_Mo_credit b_Mo_credit 3 none ∈ zw_T := zw_k (zd_r (zd_r (zd_r (zd_l (zd_l zwt_11)))))
theorem zw_604 : Cond.codeWith y_L_accept b_L_accept 4 (some .int) [(0, 8, 11, 13), (0, 8, 14, 35), (0, 8, 17, 17)] ∈ zw_T := zw_k (zd_l (zd_l (zd_l (zd_r (zd_l zwt_11)))))
theorem zw_605 : Cond.methodLink R_L 157 y_L_accept ∈ zw_T := zw_k (zd_r (zd_l (zd_l (zd_r (zd_l zwt_11)))))
theorem zw_606 : Cond.static y_L_accept ∈ zw_T := zw_k (zd_l (zd_r (zd_l (zd_r (zd_l zwt_11)))))
theorem zw_607 : Cond.methodLink R_L 159 y_Mo_accept ∈ zw_T := zw_k (zd_r (zd_r (zd_l (zd_r (zd_l zwt_11)))))
theorem zw_608 : Cond.instanceMethod y_Mo_accept ∈ zw_T := zw_k (zd_l (zd_l (zd_r (zd_r (zd_l zwt_11)))))
theorem zw_609 : Cond.selects R_Mo y_Mo_accept y_Mo_accept ∈ zw_T := zw_k (zd_r (zd_l (zd_r (zd_r (zd_l zwt_11)))))
theorem zw_610 : Cond.code y_Mo_accept b_Mo_accept 6 (some .long) ∈ zw_T := zw_k (zd_l (zd_r (zd_r (zd_r (zd_l zwt_11)))))
theorem zw_611 : Cond.codeWith y_L_capacity b_L_capacity 3 (some .int) [(0, 5, 8, 15), (0, 5, 11, 17)] ∈ zw_T := zw_k (zd_r (zd_r (zd_r (zd_r (zd_l zwt_11)))))
theorem zw_612 : Cond.methodLink R_L 160 y_L_capacity ∈ zw_T := zw_k (zd_l (zd_l (zd_l (zd_l (zd_r zwt_11)))))
theorem zw_613 : Cond.static y_L_capacity ∈ zw_T := zw_k (zd_r (zd_l (zd_l (zd_l (zd_r zwt_11)))))
theorem zw_614 : Cond.methodLink R_L 163 y_Mo_capacity ∈ zw_T := zw_k (zd_l (zd_r (zd_l (zd_l (zd_r zwt_11)))))
theorem zw_615 : Cond.instanceMethod y_Mo_capacity ∈ zw_T := zw_k (zd_r (zd_r (zd_l (zd_l (zd_r zwt_11)))))
theorem zw_616 : Cond.selects R_Mo y_Mo_capacity y_Mo_capacity ∈ zw_T := zw_k (zd_l (zd_l (zd_r (zd_l (zd_r zwt_11)))))
theorem zw_617 : Cond.code y_Mo_capacity b_Mo_capacity 4 none ∈ zw_T := zw_k (zd_r (zd_l (zd_r (zd_l (zd_r zwt_11)))))
theorem zw_618 : Cond.codeWith y_L_reserve b_L_reserve 4 (some .int) [(0, 9, 12, 13), (0, 9, 15, 35), (0, 9, 18, 17)] ∈ zw_T := zw_k (zd_l (zd_r (zd_r (zd_l (zd_r zwt_11)))))
theorem zw_619 : Cond.methodLink R_L 164 y_L_reserve ∈ zw_T := zw_k (zd_r (zd_r (zd_r (zd_l (zd_r zwt_11)))))
theorem zw_620 : Cond.static y_L_reserve ∈ zw_T := zw_k (zd_l (zd_l (zd_l (zd_r (zd_r zwt_11)))))
theorem zw_621 : Cond.methodLink R_L 166 y_Mo_reserve ∈ zw_T := zw_k (zd_r (zd_l (zd_l (zd_r (zd_r zwt_11)))))
theorem zw_622 : Cond.instanceMethod y_Mo_reserve ∈ zw_T := zw_k (zd_l (zd_r (zd_l (zd_r (zd_r zwt_11)))))
theorem zw_623 : Cond.selects R_Mo y_Mo_reserve y_Mo_reserve ∈ zw_T := zw_k (zd_r (zd_r (zd_l (zd_r (zd_r zwt_11)))))
theorem zw_624 : Cond.code y_Mo_reserve b_Mo_reserve 5 (some .int) ∈ zw_T := zw_k (zd_l (zd_l (zd_r (zd_r (zd_r zwt_11)))))
theorem zw_625 : Cond.codeWith y_L_join b_L_join 5 (some .int) [(0, 10, 13, 13)] ∈ zw_T := zw_k (zd_r (zd_l (zd_r (zd_r (zd_r zwt_11)))))
theorem zw_626 : Cond.methodLink R_L 167 y_L_join ∈ zw_T := zw_k (zd_l (zd_r (zd_r (zd_r (zd_r zwt_11)))))
theorem zw_627 : Cond.static y_L_join ∈ zw_T := zw_k (zd_r (zd_r (zd_r (zd_r (zd_r zwt_11)))))
theorem zwt_12 : ((((zw_q 933 (Cond.methodLink R_L 169 y_Mo_join) && (zw_q 934 (Cond.instanceMethod y_Mo_join) && zw_q 935 (Cond.selects R_Mo y_Mo_join y_Mo_join))) && ((zw_q 936 (Cond.code y_Mo_join b_Mo_join 7 (some .int)) && zw_q 665 (Cond.codeWith y_L_ready b_L_ready 4 (some .int) [(0, 16, 19, 13)])) && (zw_q 663 (Cond.methodLink R_L 170 y_L_ready) && zw_q 664 (Cond.static y_L_ready)))) && ((zw_q 937 (Cond.methodLink R_L 172 y_Mo_ready) && (zw_q 938 (Cond.instanceMethod y_Mo_ready) && zw_q 939 (Cond.selects R_Mo y_Mo_ready y_Mo_ready))) && ((zw_q 940 (Cond.code y_Mo_ready b_Mo_ready 3 (some .boolean)) && zw_q 673 (Cond.codeWith y_L_late b_L_late 4 (some .int) [(0, 9, 12, 13)])) && (zw_q 671 (Cond.methodLink R_L 173 y_L_late) && zw_q 672 (Cond.static y_L_late))))) && (((zw_q 941 (Cond.methodLink R_L 175 y_Mo_late) && (zw_q 942 (Cond.instanceMethod y_Mo_late) && zw_q 943 (Cond.selects R_Mo y_Mo_late y_Mo_late))) && ((zw_q 944 (Cond.code y_Mo_late b_Mo_late 4 (some .int)) && zw_q 680 (Cond.codeWith y_L_tick b_L_tick 4 (some .int) [(0, 9, 12, 15)])) && (zw_q 678 (Cond.methodLink R_L 176 y_L_tick) && zw_q 679 (Cond.static y_L_tick)))) && (((zw_q 945 (Cond.methodLink R_L 178 y_Mo_tick) && zw_q 946 (Cond.instanceMethod y_Mo_tick)) && (zw_q 947 (Cond.selects R_Mo y_Mo_tick y_Mo_tick) && zw_q 948 (Cond.code y_Mo_tick b_Mo_tick 2 (some .int)))) && ((zw_q 785 (Cond.methodLink R_L 179 y_Mo_thrown) && zw_q 786 (Cond.instanceMethod y_Mo_thrown)) && (zw_q 787 (Cond.selects R_Mo y_Mo_thrown y_Mo_thrown) && zw_q 788 (Cond.code y_Mo_thrown b_Mo_thrown 1 (some .int))))))) = true := by decide +kernel
theorem zw_628 : Cond.methodLink R_L 169 y_Mo_join ∈ zw_T := zw_k (zd_l (zd_l (zd_l (zd_l zwt_12))))
theorem zw_629 : Cond.instanceMethod y_Mo_join ∈ zw_T := zw_k (zd_l (zd_r (zd_l (zd_l (zd_l zwt_12)))))
theorem zw_630 : Cond.selects R_Mo y_Mo_join y_Mo_join ∈ zw_T := zw_k (zd_r (zd_r (zd_l (zd_l (zd_l zwt_12)))))
theorem zw_631 : Cond.code y_Mo_join b_Mo_join 7 (some .int) ∈ zw_T := zw_k (zd_l (zd_l (zd_r (zd_l (zd_l zwt_12)))))
theorem zw_632 : Cond.codeWith y_L_ready b_L_ready 4 (some .int) [(0, 16, 19, 13)] ∈ zw_T := zw_k (zd_r (zd_l (zd_r (zd_l (zd_l zwt_12)))))
theorem zw_633 : Cond.methodLink R_L 170 y_L_ready ∈ zw_T := zw_k (zd_l (zd_r (zd_r (zd_l (zd_l zwt_12)))))
theorem zw_634 : Cond.static y_L_ready ∈ zw_T := zw_k (zd_r (zd_r (zd_r (zd_l (zd_l zwt_12)))))
theorem zw_635 : Cond.methodLink R_L 172 y_Mo_ready ∈ zw_T := zw_k (zd_l (zd_l (zd_r (zd_l zwt_12))))
theorem zw_636 : Cond.instanceMethod y_Mo_ready ∈ zw_T := zw_k (zd_l (zd_r (zd_l (zd_r (zd_l zwt_12)))))
theorem zw_637 : Cond.selects R_Mo y_Mo_ready y_Mo_ready ∈ zw_T := zw_k (zd_r (zd_r (zd_l (zd_r (zd_l zwt_12)))))
theorem zw_638 : Cond.code y_Mo_ready b_Mo_ready 3 (some .boolean) ∈ zw_T := zw_k (zd_l (zd_l (zd_r (zd_r (zd_l zwt_12)))))
theorem zw_639 : Cond.codeWith y_L_late b_L_late 4 (some .int) [(0, 9, 12, 13)] ∈ zw_T := zw_k (zd_r (zd_l (zd_r (zd_r (zd_l zwt_12)))))
theorem zw_640 : Cond.methodLink R_L 173 y_L_late ∈ zw_T := zw_k (zd_l (zd_r (zd_r (zd_r (zd_l zwt_12)))))
theorem zw_641 : Cond.static y_L_late ∈ zw_T := zw_k (zd_r (zd_r (zd_r (zd_r (zd_l zwt_12)))))
theorem zw_642 : Cond.methodLink R_L 175 y_Mo_late ∈ zw_T := zw_k (zd_l (zd_l (zd_l (zd_r zwt_12))))
theorem zw_643 : Cond.instanceMethod y_Mo_late ∈ zw_T := zw_k (zd_l (zd_r (zd_l (zd_l (zd_r zwt_12)))))
theorem zw_644 : Cond.selects R_Mo y_Mo_late y_Mo_late ∈ zw_T := zw_k (zd_r (zd_r (zd_l (zd_l (zd_r zwt_12)))))
theorem zw_645 : Cond.code y_Mo_late b_Mo_late 4 (some .int) ∈ zw_T := zw_k (zd_l (zd_l (zd_r (zd_l (zd_r zwt_12)))))
theorem zw_646 : Cond.codeWith y_L_tick b_L_tick 4 (some .int) [(0, 9, 12, 15)] ∈ zw_T := zw_k (zd_r (zd_l (zd_r (zd_l (zd_r zwt_12)))))
theorem zw_647 : Cond.methodLink R_L 176 y_L_tick ∈ zw_T := zw_k (zd_l (zd_r (zd_r (zd_l (zd_r zwt_12)))))
theorem zw_648 : Cond.static y_L_tick ∈ zw_T := zw_k (zd_r (zd_r (zd_r (zd_l (zd_r zwt_12)))))
theorem zw_649 : Cond.methodLink R_L 178 y_Mo_tick ∈ zw_T := zw_k (zd_l (zd_l (zd_l (zd_r (zd_r zwt_12)))))
theorem zw_650 : Cond.instanceMethod y_Mo_tick ∈ zw_T := zw_k (zd_r (zd_l (zd_l (zd_r (zd_r zwt_12)))))
theorem zw_651 : Cond.selects R_Mo y_Mo_tick y_Mo_tick ∈ zw_T := zw_k (zd_l (zd_r (zd_l (zd_r (zd_r zwt_12)))))
theorem zw_652 : Cond.code y_Mo_tick b_Mo_tick 2 (some .int) ∈ zw_T := zw_k (zd_r (zd_r (zd_l (zd_r (zd_r zwt_12)))))
theorem zw_653 : Cond.methodLink R_L 179 y_Mo_thrown ∈ zw_T := zw_k (zd_l (zd_l (zd_r (zd_r (zd_r zwt_12)))))
theorem zw_654 : Cond.instanceMethod y_Mo_thrown ∈ zw_T := zw_k (zd_r (zd_l (zd_r (zd_r (zd_r zwt_12)))))
theorem zw_655 : Cond.selects R_Mo y_Mo_thrown y_Mo_thrown ∈ zw_T := zw_k (zd_l (zd_r (zd_r (zd_r (zd_r zwt_12)))))
theorem zw_656 : Cond.code y_Mo_thrown b_Mo_thrown 1 (some .int) ∈ zw_T := zw_k (zd_r (zd_r (zd_r (zd_r (zd_r zwt_12)))))
