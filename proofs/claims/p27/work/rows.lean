section
-- ===== PART A: goes FIRST, ahead of the names: the tables' words, and 'selects' of the private methods out of them =====
/-- a private method of a class that the tables say can be made, by its rows of tables_1 -/
def lw_okq (q : MethodName × Nat) : Prop := (q.1.cls ≠ "java/lang/invoke/MethodHandle" ∧ q.1.cls ≠ "java/lang/invoke/VarHandle") ∧ Cond.instantiable q.1.cls q.2 ∈ tables_1 ∧ Cond.privateMethod q.1 ∈ tables_1 ∧ Cond.instanceMethod q.1 ∈ tables_1
theorem lw_p0 : lw_okq (⟨"HamperClub", "recorded", "(I)I"⟩, 4) := ⟨⟨by decide +kernel, by decide +kernel⟩, List.mem_of_getElem? (i := 15) (by decide +kernel), List.mem_of_getElem? (i := 303) (by decide +kernel), List.mem_of_getElem? (i := 304) (by decide +kernel)⟩
theorem lw_p1 : lw_okq (⟨"HamperClub$Club", "replaceCards", "()V"⟩, 7) := ⟨⟨by decide +kernel, by decide +kernel⟩, List.mem_of_getElem? (i := 29) (by decide +kernel), List.mem_of_getElem? (i := 385) (by decide +kernel), List.mem_of_getElem? (i := 386) (by decide +kernel)⟩
theorem lw_p2 : lw_okq (⟨"HamperClub$Club", "dropLapsed", "()I"⟩, 7) := ⟨⟨by decide +kernel, by decide +kernel⟩, List.mem_of_getElem? (i := 29) (by decide +kernel), List.mem_of_getElem? (i := 389) (by decide +kernel), List.mem_of_getElem? (i := 390) (by decide +kernel)⟩
theorem lw_p3 : lw_okq (⟨"HamperClub$Club", "payMember", "(II)V"⟩, 7) := ⟨⟨by decide +kernel, by decide +kernel⟩, List.mem_of_getElem? (i := 29) (by decide +kernel), List.mem_of_getElem? (i := 500) (by decide +kernel), List.mem_of_getElem? (i := 501) (by decide +kernel)⟩
theorem lw_p4 : lw_okq (⟨"HamperClub$Club", "handOutKind", "(I)V"⟩, 7) := ⟨⟨by decide +kernel, by decide +kernel⟩, List.mem_of_getElem? (i := 29) (by decide +kernel), List.mem_of_getElem? (i := 508) (by decide +kernel), List.mem_of_getElem? (i := 509) (by decide +kernel)⟩
theorem lw_p5 : lw_okq (⟨"HamperClub$Club", "handOutOne", "(II)V"⟩, 7) := ⟨⟨by decide +kernel, by decide +kernel⟩, List.mem_of_getElem? (i := 29) (by decide +kernel), List.mem_of_getElem? (i := 512) (by decide +kernel), List.mem_of_getElem? (i := 513) (by decide +kernel)⟩
theorem lw_p6 : lw_okq (⟨"HamperClub", "wouldGet", "(II)Z"⟩, 4) := ⟨⟨by decide +kernel, by decide +kernel⟩, List.mem_of_getElem? (i := 15) (by decide +kernel), List.mem_of_getElem? (i := 579) (by decide +kernel), List.mem_of_getElem? (i := 580) (by decide +kernel)⟩
theorem lw_p7 : lw_okq (⟨"HamperClub$Orders", "readOrder", "()Z"⟩, 6) := ⟨⟨by decide +kernel, by decide +kernel⟩, List.mem_of_getElem? (i := 224) (by decide +kernel), List.mem_of_getElem? (i := 631) (by decide +kernel), List.mem_of_getElem? (i := 632) (by decide +kernel)⟩
theorem lw_p8 : lw_okq (⟨"HamperClub$Orders", "next", "()I"⟩, 6) := ⟨⟨by decide +kernel, by decide +kernel⟩, List.mem_of_getElem? (i := 224) (by decide +kernel), List.mem_of_getElem? (i := 635) (by decide +kernel), List.mem_of_getElem? (i := 636) (by decide +kernel)⟩
theorem lw_p9 : lw_okq (⟨"HamperClub$Orders", "readNumber", "()I"⟩, 6) := ⟨⟨by decide +kernel, by decide +kernel⟩, List.mem_of_getElem? (i := 224) (by decide +kernel), List.mem_of_getElem? (i := 639) (by decide +kernel), List.mem_of_getElem? (i := 640) (by decide +kernel)⟩
theorem lw_p10 : lw_okq (⟨"HamperClub$Orders", "carryOutOrder", "(LHamperClub$Club;)I"⟩, 6) := ⟨⟨by decide +kernel, by decide +kernel⟩, List.mem_of_getElem? (i := 224) (by decide +kernel), List.mem_of_getElem? (i := 650) (by decide +kernel), List.mem_of_getElem? (i := 651) (by decide +kernel)⟩
def lw_privs_1 : List (MethodName × Nat) := [(⟨"HamperClub", "recorded", "(I)I"⟩, 4), (⟨"HamperClub$Club", "replaceCards", "()V"⟩, 7), (⟨"HamperClub$Club", "dropLapsed", "()I"⟩, 7), (⟨"HamperClub$Club", "payMember", "(II)V"⟩, 7), (⟨"HamperClub$Club", "handOutKind", "(I)V"⟩, 7), (⟨"HamperClub$Club", "handOutOne", "(II)V"⟩, 7), (⟨"HamperClub", "wouldGet", "(II)Z"⟩, 4), (⟨"HamperClub$Orders", "readOrder", "()Z"⟩, 6), (⟨"HamperClub$Orders", "next", "()I"⟩, 6), (⟨"HamperClub$Orders", "readNumber", "()I"⟩, 6), (⟨"HamperClub$Orders", "carryOutOrder", "(LHamperClub$Club;)I"⟩, 6)]
theorem lw_r1 : ∀ q ∈ lw_privs_1, lw_okq q := List.forall_mem_cons.mpr ⟨lw_p0, List.forall_mem_cons.mpr ⟨lw_p1, List.forall_mem_cons.mpr ⟨lw_p2, List.forall_mem_cons.mpr ⟨lw_p3, List.forall_mem_cons.mpr ⟨lw_p4, List.forall_mem_cons.mpr ⟨lw_p5, List.forall_mem_cons.mpr ⟨lw_p6, List.forall_mem_cons.mpr ⟨lw_p7, List.forall_mem_cons.mpr ⟨lw_p8, List.forall_mem_cons.mpr ⟨lw_p9, List.forall_mem_cons.mpr ⟨lw_p10, fun _ h => absurd h List.not_mem_nil⟩⟩⟩⟩⟩⟩⟩⟩⟩⟩⟩
def lw_privs : List (MethodName × Nat) := lw_privs_1
def lw_tbl : List Cond := k2_sels lw_privs ++ tables_1
theorem lw_privs_ok : ∀ q ∈ lw_privs, lw_okq q := lw_r1
end
section
/-! Names of the classes, their fields, the methods; written by a program out of the printed names. -/
def R_Acc : String := "HamperClub$Accounts"
def F_Acc : u_T := fun k => match k with
  | 0 => ("HamperClub$Accounts", "tin", "I", false)
  | 1 => ("HamperClub$Accounts", "pool", "I", false)
  | 2 => ("HamperClub$Accounts", "cameIn", "I", false)
  | 3 => ("HamperClub$Accounts", "paidOut", "I", false)
  | _ => ("HamperClub$Accounts", "toShop", "I", false)
def t_Acc : Nat → FieldType := fun k => match k with
  | 0 => .int
  | 1 => .int
  | 2 => .int
  | 3 => .int
  | _ => .int
theorem n_Acc : ∀ a, a < 5 → ∀ b, b < 5 → a ≠ b → (F_Acc a).2.1 ≠ (F_Acc b).2.1 := by decide +kernel
theorem t_Acc_ok : ∀ k, k < 5 → parseFieldDescriptor (F_Acc k).2.2.1 = some (t_Acc k) := by decide +kernel
def R_Crd : String := "HamperClub$Cards"
def F_Crd : u_T := fun k => match k with
  | 0 => ("HamperClub$Cards", "count", "I", false)
  | 1 => ("HamperClub$Cards", "stamps", "[I", true)
  | 2 => ("HamperClub$Cards", "status", "[I", true)
  | 3 => ("HamperClub$Cards", "mislaidIn", "[I", true)
  | 4 => ("HamperClub$Cards", "joinedIn", "[I", true)
  | 5 => ("HamperClub$Cards", "paid", "[I", true)
  | 6 => ("HamperClub$Cards", "drawn", "[I", true)
  | 7 => ("HamperClub$Cards", "goodWeeks", "[J", true)
  | _ => ("HamperClub$Cards", "latestGood", "[I", true)
def t_Crd : Nat → FieldType := fun k => match k with
  | 0 => .int
  | 1 => .array .int
  | 2 => .array .int
  | 3 => .array .int
  | 4 => .array .int
  | 5 => .array .int
  | 6 => .array .int
  | 7 => .array .long
  | _ => .array .int
theorem n_Crd : ∀ a, a < 9 → ∀ b, b < 9 → a ≠ b → (F_Crd a).2.1 ≠ (F_Crd b).2.1 := by decide +kernel
theorem t_Crd_ok : ∀ k, k < 9 → parseFieldDescriptor (F_Crd k).2.2.1 = some (t_Crd k) := by decide +kernel
def R_Clb : String := "HamperClub$Club"
def F_Clb : u_T := fun k => match k with
  | 0 => ("HamperClub$Club", "week", "I", false)
  | 1 => ("HamperClub$Club", "settled", "Z", false)
  | 2 => ("HamperClub$Club", "handedOut", "I", false)
  | 3 => ("HamperClub$Club", "lapses", "I", false)
  | 4 => ("HamperClub$Club", "cards", "LHamperClub$Cards;", true)
  | 5 => ("HamperClub$Club", "hampers", "LHamperClub$Hampers;", true)
  | _ => ("HamperClub$Club", "accounts", "LHamperClub$Accounts;", true)
def t_Clb : Nat → FieldType := fun k => match k with
  | 0 => .int
  | 1 => .boolean
  | 2 => .int
  | 3 => .int
  | 4 => .object "HamperClub$Cards"
  | 5 => .object "HamperClub$Hampers"
  | _ => .object "HamperClub$Accounts"
theorem n_Clb : ∀ a, a < 7 → ∀ b, b < 7 → a ≠ b → (F_Clb a).2.1 ≠ (F_Clb b).2.1 := by decide +kernel
theorem t_Clb_ok : ∀ k, k < 7 → parseFieldDescriptor (F_Clb k).2.2.1 = some (t_Clb k) := by decide +kernel
def R_Hmp : String := "HamperClub$Hampers"
def F_Hmp : u_T := fun k => match k with
  | 0 => ("HamperClub$Hampers", "price", "[I", true)
  | 1 => ("HamperClub$Hampers", "stock", "[I", true)
  | 2 => ("HamperClub$Hampers", "choice", "[I", true)
  | 3 => ("HamperClub$Hampers", "place", "[I", true)
  | _ => ("HamperClub$Hampers", "got", "[I", true)
def t_Hmp : Nat → FieldType := fun k => match k with
  | 0 => .array .int
  | 1 => .array .int
  | 2 => .array .int
  | 3 => .array .int
  | _ => .array .int
theorem n_Hmp : ∀ a, a < 5 → ∀ b, b < 5 → a ≠ b → (F_Hmp a).2.1 ≠ (F_Hmp b).2.1 := by decide +kernel
theorem t_Hmp_ok : ∀ k, k < 5 → parseFieldDescriptor (F_Hmp k).2.2.1 = some (t_Hmp k) := by decide +kernel
def R_His : String := "HamperClub$History"
def F_His : u_T := fun k => match k with
  | 0 => ("HamperClub$History", "frames", "[LHamperClub$State;", true)
  | 1 => ("HamperClub$History", "free", "I", false)
  | _ => ("HamperClub$History", "size", "I", false)
def t_His : Nat → FieldType := fun k => match k with
  | 0 => .array (.object "HamperClub$State")
  | 1 => .int
  | _ => .int
theorem n_His : ∀ a, a < 3 → ∀ b, b < 3 → a ≠ b → (F_His a).2.1 ≠ (F_His b).2.1 := by decide +kernel
theorem t_His_ok : ∀ k, k < 3 → parseFieldDescriptor (F_His k).2.2.1 = some (t_His k) := by decide +kernel
def R_Ord : String := "HamperClub$Orders"
def F_Ord : u_T := fun k => match k with
  | 0 => ("HamperClub$Orders", "text", "[I", true)
  | 1 => ("HamperClub$Orders", "length", "I", false)
  | 2 => ("HamperClub$Orders", "at", "I", false)
  | 3 => ("HamperClub$Orders", "member", "I", false)
  | 4 => ("HamperClub$Orders", "sign", "I", false)
  | _ => ("HamperClub$Orders", "number", "I", false)
def t_Ord : Nat → FieldType := fun k => match k with
  | 0 => .array .int
  | 1 => .int
  | 2 => .int
  | 3 => .int
  | 4 => .int
  | _ => .int
theorem n_Ord : ∀ a, a < 6 → ∀ b, b < 6 → a ≠ b → (F_Ord a).2.1 ≠ (F_Ord b).2.1 := by decide +kernel
theorem t_Ord_ok : ∀ k, k < 6 → parseFieldDescriptor (F_Ord k).2.2.1 = some (t_Ord k) := by decide +kernel
def R_Snp : String := "HamperClub$Snapshot"
def F_Snp : u_T := fun k => match k with
  | 0 => ("HamperClub$Snapshot", "taken", "Z", false)
  | _ => ("HamperClub$Snapshot", "club", "LHamperClub$Club;", true)
def t_Snp : Nat → FieldType := fun k => match k with
  | 0 => .boolean
  | _ => .object "HamperClub$Club"
theorem n_Snp : ∀ a, a < 2 → ∀ b, b < 2 → a ≠ b → (F_Snp a).2.1 ≠ (F_Snp b).2.1 := by decide +kernel
theorem t_Snp_ok : ∀ k, k < 2 → parseFieldDescriptor (F_Snp k).2.2.1 = some (t_Snp k) := by decide +kernel
def R_Sta : String := "HamperClub$State"
def F_Sta : u_T := fun k => match k with
  | 0 => ("HamperClub$State", "club", "LHamperClub$Club;", true)
  | 1 => ("HamperClub$State", "first", "LHamperClub$Snapshot;", true)
  | _ => ("HamperClub$State", "second", "LHamperClub$Snapshot;", true)
def t_Sta : Nat → FieldType := fun k => match k with
  | 0 => .object "HamperClub$Club"
  | 1 => .object "HamperClub$Snapshot"
  | _ => .object "HamperClub$Snapshot"
theorem n_Sta : ∀ a, a < 3 → ∀ b, b < 3 → a ≠ b → (F_Sta a).2.1 ≠ (F_Sta b).2.1 := by decide +kernel
theorem t_Sta_ok : ∀ k, k < 3 → parseFieldDescriptor (F_Sta k).2.2.1 = some (t_Sta k) := by decide +kernel
def R_Ham : String := "HamperClub"
def F_Ham : u_T := fun k => match k with
  | 0 => ("HamperClub", "state", "LHamperClub$State;", true)
  | 1 => ("HamperClub", "history", "LHamperClub$History;", true)
  | 2 => ("HamperClub", "orders", "LHamperClub$Orders;", true)
  | _ => ("HamperClub", "trial", "LHamperClub$Club;", true)
def t_Ham : Nat → FieldType := fun k => match k with
  | 0 => .object "HamperClub$State"
  | 1 => .object "HamperClub$History"
  | 2 => .object "HamperClub$Orders"
  | _ => .object "HamperClub$Club"
theorem n_Ham : ∀ a, a < 4 → ∀ b, b < 4 → a ≠ b → (F_Ham a).2.1 ≠ (F_Ham b).2.1 := by decide +kernel
theorem t_Ham_ok : ∀ k, k < 4 → parseFieldDescriptor (F_Ham k).2.2.1 = some (t_Ham k) := by decide +kernel
abbrev classes : List vw_C := [(R_Acc, F_Acc, 5), (R_Crd, F_Crd, 9), (R_Clb, F_Clb, 7), (R_Hmp, F_Hmp, 5), (R_His, F_His, 3), (R_Ord, F_Ord, 6), (R_Snp, F_Snp, 2), (R_Sta, F_Sta, 3), (R_Ham, F_Ham, 4)]
abbrev b_Acc_init : ByteArray := prog_2_method_1_code
def y_Acc_init : MethodName := ⟨"HamperClub$Accounts", "<init>", "()V"⟩
abbrev b_Acc_copyFrom : ByteArray := prog_2_method_2_code
def y_Acc_copyFrom : MethodName := ⟨"HamperClub$Accounts", "copyFrom", "(LHamperClub$Accounts;)V"⟩
abbrev b_Acc_takeIn : ByteArray := prog_2_method_3_code
def y_Acc_takeIn : MethodName := ⟨"HamperClub$Accounts", "takeIn", "(I)V"⟩
abbrev b_Acc_payOut : ByteArray := prog_2_method_4_code
def y_Acc_payOut : MethodName := ⟨"HamperClub$Accounts", "payOut", "(I)V"⟩
abbrev b_Acc_payShop : ByteArray := prog_2_method_5_code
def y_Acc_payShop : MethodName := ⟨"HamperClub$Accounts", "payShop", "(I)V"⟩
abbrev b_Crd_init : ByteArray := prog_3_method_1_code
def y_Crd_init : MethodName := ⟨"HamperClub$Cards", "<init>", "()V"⟩
abbrev b_Crd_copyFrom : ByteArray := prog_3_method_2_code
def y_Crd_copyFrom : MethodName := ⟨"HamperClub$Cards", "copyFrom", "(LHamperClub$Cards;)V"⟩
abbrev b_Crd_exists : ByteArray := prog_3_method_3_code
def y_Crd_exists : MethodName := ⟨"HamperClub$Cards", "exists", "(I)Z"⟩
abbrev b_Crd_isInHand : ByteArray := prog_3_method_4_code
def y_Crd_isInHand : MethodName := ⟨"HamperClub$Cards", "isInHand", "(I)Z"⟩
abbrev b_Crd_isGoodIn : ByteArray := prog_3_method_5_code
def y_Crd_isGoodIn : MethodName := ⟨"HamperClub$Cards", "isGoodIn", "(II)Z"⟩
abbrev b_Crd_shares : ByteArray := prog_3_method_6_code
def y_Crd_shares : MethodName := ⟨"HamperClub$Cards", "shares", "(I)Z"⟩
abbrev b_Crd_sharedStamps : ByteArray := prog_3_method_7_code
def y_Crd_sharedStamps : MethodName := ⟨"HamperClub$Cards", "sharedStamps", "()I"⟩
abbrev b_Crd_allStamps : ByteArray := prog_3_method_8_code
def y_Crd_allStamps : MethodName := ⟨"HamperClub$Cards", "allStamps", "()I"⟩
abbrev b_Crd_mislaidCards : ByteArray := prog_3_method_9_code
def y_Crd_mislaidCards : MethodName := ⟨"HamperClub$Cards", "mislaidCards", "()I"⟩
abbrev b_Crd_drawnMembers : ByteArray := prog_3_method_10_code
def y_Crd_drawnMembers : MethodName := ⟨"HamperClub$Cards", "drawnMembers", "()I"⟩
abbrev b_Crd_makeGood : ByteArray := prog_3_method_11_code
def y_Crd_makeGood : MethodName := ⟨"HamperClub$Cards", "makeGood", "(II)V"⟩
abbrev b_Crd_rowOfGoodWeeks : ByteArray := prog_3_method_12_code
def y_Crd_rowOfGoodWeeks : MethodName := ⟨"HamperClub$Cards", "rowOfGoodWeeks", "(II)I"⟩
abbrev b_Crd_hasLapsed : ByteArray := prog_3_method_13_code
def y_Crd_hasLapsed : MethodName := ⟨"HamperClub$Cards", "hasLapsed", "(II)Z"⟩
abbrev b_Clb_init : ByteArray := prog_4_method_1_code
def y_Clb_init : MethodName := ⟨"HamperClub$Club", "<init>", "()V"⟩
abbrev b_Clb_copyFrom : ByteArray := prog_4_method_2_code
def y_Clb_copyFrom : MethodName := ⟨"HamperClub$Club", "copyFrom", "(LHamperClub$Club;)V"⟩
abbrev b_Clb_addMember : ByteArray := prog_4_method_3_code
def y_Clb_addMember : MethodName := ⟨"HamperClub$Club", "addMember", "()I"⟩
abbrev b_Clb_stickStamps : ByteArray := prog_4_method_4_code
def y_Clb_stickStamps : MethodName := ⟨"HamperClub$Club", "stickStamps", "(II)I"⟩
abbrev b_Clb_withdrawStamps : ByteArray := prog_4_method_5_code
def y_Clb_withdrawStamps : MethodName := ⟨"HamperClub$Club", "withdrawStamps", "(II)I"⟩
abbrev b_Clb_mislayCard : ByteArray := prog_4_method_6_code
def y_Clb_mislayCard : MethodName := ⟨"HamperClub$Club", "mislayCard", "(I)I"⟩
abbrev b_Clb_findCard : ByteArray := prog_4_method_7_code
def y_Clb_findCard : MethodName := ⟨"HamperClub$Club", "findCard", "(I)I"⟩
abbrev b_Clb_changeKind : ByteArray := prog_4_method_8_code
def y_Clb_changeKind : MethodName := ⟨"HamperClub$Club", "changeKind", "(III)I"⟩
abbrev b_Clb_chooseKind : ByteArray := prog_4_method_9_code
def y_Clb_chooseKind : MethodName := ⟨"HamperClub$Club", "chooseKind", "(II)I"⟩
abbrev b_Clb_giveUpChoice : ByteArray := prog_4_method_10_code
def y_Clb_giveUpChoice : MethodName := ⟨"HamperClub$Club", "giveUpChoice", "(I)I"⟩
abbrev b_Clb_passWeek : ByteArray := prog_4_method_11_code
def y_Clb_passWeek : MethodName := ⟨"HamperClub$Club", "passWeek", "()I"⟩
abbrev b_Clb_replaceCards : ByteArray := prog_4_method_12_code
def y_Clb_replaceCards : MethodName := ⟨"HamperClub$Club", "replaceCards", "()V"⟩
abbrev b_Clb_dropLapsed : ByteArray := prog_4_method_13_code
def y_Clb_dropLapsed : MethodName := ⟨"HamperClub$Club", "dropLapsed", "()I"⟩
abbrev b_Clb_settleAll : ByteArray := prog_4_method_14_code
def y_Clb_settleAll : MethodName := ⟨"HamperClub$Club", "settleAll", "()I"⟩
abbrev b_Clb_bonusOf : ByteArray := prog_4_method_15_code
def y_Clb_bonusOf : MethodName := ⟨"HamperClub$Club", "bonusOf", "(I)I"⟩
abbrev b_Clb_handOutKind : ByteArray := prog_4_method_16_code
def y_Clb_handOutKind : MethodName := ⟨"HamperClub$Club", "handOutKind", "(I)V"⟩
abbrev b_Clb_handOutOne : ByteArray := prog_4_method_17_code
def y_Clb_handOutOne : MethodName := ⟨"HamperClub$Club", "handOutOne", "(II)V"⟩
abbrev b_Clb_payMember : ByteArray := prog_4_method_18_code
def y_Clb_payMember : MethodName := ⟨"HamperClub$Club", "payMember", "(II)V"⟩
abbrev b_Clb_tell : ByteArray := prog_4_method_19_code
def y_Clb_tell : MethodName := ⟨"HamperClub$Club", "tell", "(I)I"⟩
abbrev b_Clb_tellOfMember : ByteArray := prog_4_method_20_code
def y_Clb_tellOfMember : MethodName := ⟨"HamperClub$Club", "tellOfMember", "(II)I"⟩
abbrev b_Hmp_init : ByteArray := prog_5_method_1_code
def y_Hmp_init : MethodName := ⟨"HamperClub$Hampers", "<init>", "()V"⟩
abbrev b_Hmp_copyFrom : ByteArray := prog_5_method_2_code
def y_Hmp_copyFrom : MethodName := ⟨"HamperClub$Hampers", "copyFrom", "(LHamperClub$Hampers;)V"⟩
abbrev b_Hmp_hasOneKept : ByteArray := prog_5_method_3_code
def y_Hmp_hasOneKept : MethodName := ⟨"HamperClub$Hampers", "hasOneKept", "(I)Z"⟩
abbrev b_Hmp_keptOf : ByteArray := prog_5_method_4_code
def y_Hmp_keptOf : MethodName := ⟨"HamperClub$Hampers", "keptOf", "(I)I"⟩
abbrev b_Hmp_rowLength : ByteArray := prog_5_method_5_code
def y_Hmp_rowLength : MethodName := ⟨"HamperClub$Hampers", "rowLength", "(I)I"⟩
abbrev b_Hmp_memberInRow : ByteArray := prog_5_method_6_code
def y_Hmp_memberInRow : MethodName := ⟨"HamperClub$Hampers", "memberInRow", "(II)I"⟩
abbrev b_Hmp_tell : ByteArray := prog_5_method_7_code
def y_Hmp_tell : MethodName := ⟨"HamperClub$Hampers", "tell", "(II)I"⟩
abbrev b_Hmp_put : ByteArray := prog_5_method_8_code
def y_Hmp_put : MethodName := ⟨"HamperClub$Hampers", "put", "(II)I"⟩
abbrev b_Hmp_drop : ByteArray := prog_5_method_9_code
def y_Hmp_drop : MethodName := ⟨"HamperClub$Hampers", "drop", "(II)I"⟩
abbrev b_Hmp_handOut : ByteArray := prog_5_method_10_code
def y_Hmp_handOut : MethodName := ⟨"HamperClub$Hampers", "handOut", "(II)V"⟩
abbrev b_Hmp_forgetChoices : ByteArray := prog_5_method_11_code
def y_Hmp_forgetChoices : MethodName := ⟨"HamperClub$Hampers", "forgetChoices", "()V"⟩
abbrev b_His_init : ByteArray := prog_6_method_1_code
def y_His_init : MethodName := ⟨"HamperClub$History", "<init>", "()V"⟩
abbrev b_His_draft : ByteArray := prog_6_method_2_code
def y_His_draft : MethodName := ⟨"HamperClub$History", "draft", "(LHamperClub$State;)V"⟩
abbrev b_His_keepDraft : ByteArray := prog_6_method_3_code
def y_His_keepDraft : MethodName := ⟨"HamperClub$History", "keepDraft", "()V"⟩
abbrev b_His_putBackLatest : ByteArray := prog_6_method_4_code
def y_His_putBackLatest : MethodName := ⟨"HamperClub$History", "putBackLatest", "(LHamperClub$State;)Z"⟩
abbrev b_Ord_init : ByteArray := prog_7_method_1_code
def y_Ord_init : MethodName := ⟨"HamperClub$Orders", "<init>", "()V"⟩
abbrev b_Ord_add : ByteArray := prog_7_method_2_code
def y_Ord_add : MethodName := ⟨"HamperClub$Orders", "add", "(I)Z"⟩
abbrev b_Ord_fault : ByteArray := prog_7_method_3_code
def y_Ord_fault : MethodName := ⟨"HamperClub$Orders", "fault", "()I"⟩
abbrev b_Ord_carryOutOn : ByteArray := prog_7_method_4_code
def y_Ord_carryOutOn : MethodName := ⟨"HamperClub$Orders", "carryOutOn", "(LHamperClub$Club;)I"⟩
abbrev b_Ord_carryOutOrder : ByteArray := prog_7_method_5_code
def y_Ord_carryOutOrder : MethodName := ⟨"HamperClub$Orders", "carryOutOrder", "(LHamperClub$Club;)I"⟩
abbrev b_Ord_readOrder : ByteArray := prog_7_method_6_code
def y_Ord_readOrder : MethodName := ⟨"HamperClub$Orders", "readOrder", "()Z"⟩
abbrev b_Ord_readNumber : ByteArray := prog_7_method_7_code
def y_Ord_readNumber : MethodName := ⟨"HamperClub$Orders", "readNumber", "()I"⟩
abbrev b_Ord_next : ByteArray := prog_7_method_8_code
def y_Ord_next : MethodName := ⟨"HamperClub$Orders", "next", "()I"⟩
abbrev b_Ord_isDigit : ByteArray := prog_7_method_9_code
def y_Ord_isDigit : MethodName := ⟨"HamperClub$Orders", "isDigit", "(I)Z"⟩
abbrev b_Snp_init : ByteArray := prog_8_method_1_code
def y_Snp_init : MethodName := ⟨"HamperClub$Snapshot", "<init>", "()V"⟩
abbrev b_Snp_copyFrom : ByteArray := prog_8_method_2_code
def y_Snp_copyFrom : MethodName := ⟨"HamperClub$Snapshot", "copyFrom", "(LHamperClub$Snapshot;)V"⟩
abbrev b_Sta_init : ByteArray := prog_9_method_1_code
def y_Sta_init : MethodName := ⟨"HamperClub$State", "<init>", "()V"⟩
abbrev b_Sta_copyFrom : ByteArray := prog_9_method_2_code
def y_Sta_copyFrom : MethodName := ⟨"HamperClub$State", "copyFrom", "(LHamperClub$State;)V"⟩
abbrev b_Sta_snapshots : ByteArray := prog_9_method_3_code
def y_Sta_snapshots : MethodName := ⟨"HamperClub$State", "snapshots", "()I"⟩
abbrev b_Sta_takeSnapshot : ByteArray := prog_9_method_4_code
def y_Sta_takeSnapshot : MethodName := ⟨"HamperClub$State", "takeSnapshot", "(I)I"⟩
abbrev b_Sta_restoreSnapshot : ByteArray := prog_9_method_5_code
def y_Sta_restoreSnapshot : MethodName := ⟨"HamperClub$State", "restoreSnapshot", "(I)I"⟩
abbrev b_Ham_init : ByteArray := prog_1_method_1_code
def y_Ham_init : MethodName := ⟨"HamperClub", "<init>", "()V"⟩
abbrev b_Ham_join : ByteArray := prog_1_method_2_code
def y_Ham_join : MethodName := ⟨"HamperClub", "join", "()I"⟩
abbrev b_Ham_stick : ByteArray := prog_1_method_3_code
def y_Ham_stick : MethodName := ⟨"HamperClub", "stick", "(II)I"⟩
abbrev b_Ham_withdraw : ByteArray := prog_1_method_4_code
def y_Ham_withdraw : MethodName := ⟨"HamperClub", "withdraw", "(II)I"⟩
abbrev b_Ham_mislay : ByteArray := prog_1_method_5_code
def y_Ham_mislay : MethodName := ⟨"HamperClub", "mislay", "(I)I"⟩
abbrev b_Ham_find : ByteArray := prog_1_method_6_code
def y_Ham_find : MethodName := ⟨"HamperClub", "find", "(I)I"⟩
abbrev b_Ham_setHamper : ByteArray := prog_1_method_7_code
def y_Ham_setHamper : MethodName := ⟨"HamperClub", "setHamper", "(III)I"⟩
abbrev b_Ham_choose : ByteArray := prog_1_method_8_code
def y_Ham_choose : MethodName := ⟨"HamperClub", "choose", "(II)I"⟩
abbrev b_Ham_giveUp : ByteArray := prog_1_method_9_code
def y_Ham_giveUp : MethodName := ⟨"HamperClub", "giveUp", "(I)I"⟩
abbrev b_Ham_week : ByteArray := prog_1_method_10_code
def y_Ham_week : MethodName := ⟨"HamperClub", "week", "()I"⟩
abbrev b_Ham_settle : ByteArray := prog_1_method_11_code
def y_Ham_settle : MethodName := ⟨"HamperClub", "settle", "()I"⟩
abbrev b_Ham_take : ByteArray := prog_1_method_12_code
def y_Ham_take : MethodName := ⟨"HamperClub", "take", "(I)I"⟩
abbrev b_Ham_restore : ByteArray := prog_1_method_13_code
def y_Ham_restore : MethodName := ⟨"HamperClub", "restore", "(I)I"⟩
abbrev b_Ham_undo : ByteArray := prog_1_method_14_code
def y_Ham_undo : MethodName := ⟨"HamperClub", "undo", "()I"⟩
abbrev b_Ham_append : ByteArray := prog_1_method_15_code
def y_Ham_append : MethodName := ⟨"HamperClub", "append", "(I)I"⟩
abbrev b_Ham_carryOut : ByteArray := prog_1_method_17_code
def y_Ham_carryOut : MethodName := ⟨"HamperClub", "carryOut", "()I"⟩
abbrev b_Ham_count : ByteArray := prog_1_method_18_code
def y_Ham_count : MethodName := ⟨"HamperClub", "count", "(I)I"⟩
abbrev b_Ham_member : ByteArray := prog_1_method_19_code
def y_Ham_member : MethodName := ⟨"HamperClub", "member", "(II)I"⟩
abbrev b_Ham_isGood : ByteArray := prog_1_method_20_code
def y_Ham_isGood : MethodName := ⟨"HamperClub", "isGood", "(II)I"⟩
abbrev b_Ham_hamper : ByteArray := prog_1_method_21_code
def y_Ham_hamper : MethodName := ⟨"HamperClub", "hamper", "(II)I"⟩
abbrev b_Ham_waiting : ByteArray := prog_1_method_22_code
def y_Ham_waiting : MethodName := ⟨"HamperClub", "waiting", "(II)I"⟩
abbrev b_Ham_would : ByteArray := prog_1_method_23_code
def y_Ham_would : MethodName := ⟨"HamperClub", "would", "(II)I"⟩
abbrev b_Ham_bestKind : ByteArray := prog_1_method_24_code
def y_Ham_bestKind : MethodName := ⟨"HamperClub", "bestKind", "(I)I"⟩
abbrev b_Ham_weeksFor : ByteArray := prog_1_method_25_code
def y_Ham_weeksFor : MethodName := ⟨"HamperClub", "weeksFor", "(III)I"⟩
abbrev b_Ham_recorded : ByteArray := prog_1_method_26_code
def y_Ham_recorded : MethodName := ⟨"HamperClub", "recorded", "(I)I"⟩
abbrev b_Ham_wouldGet : ByteArray := prog_1_method_27_code
def y_Ham_wouldGet : MethodName := ⟨"HamperClub", "wouldGet", "(II)Z"⟩
abbrev b_Ham_isKind : ByteArray := prog_1_method_28_code
def y_Ham_isKind : MethodName := ⟨"HamperClub", "isKind", "(I)Z"⟩
abbrev b_Lng_bitCount : ByteArray := prog_12_method_50_code
def y_Lng_bitCount : MethodName := ⟨"java/lang/Long", "bitCount", "(J)I"⟩
abbrev b_Mth_min : ByteArray := prog_13_method_69_code
def y_Mth_min : MethodName := ⟨"java/lang/Math", "min", "(II)I"⟩
abbrev b_Arr_fill : ByteArray := prog_15_method_103_code
def y_Arr_fill : MethodName := ⟨"java/util/Arrays", "fill", "([II)V"⟩
abbrev b_Law_cell : ByteArray := method_2_code
def y_Law_cell : MethodName := ⟨"HamperClubLaw", "cell", "([II)I"⟩
abbrev b_Law_low : ByteArray := method_3_code
def y_Law_low : MethodName := ⟨"HamperClubLaw", "low", "(II)I"⟩
abbrev b_Law_all : ByteArray := method_4_code
def y_Law_all : MethodName := ⟨"HamperClubLaw", "all", "(LHamperClub;)J"⟩
abbrev b_Law_isSound : ByteArray := method_5_code
def y_Law_isSound : MethodName := ⟨"HamperClubLaw", "isSound", "(LHamperClub;)Z"⟩
abbrev b_Law_isForetold : ByteArray := method_6_code
def y_Law_isForetold : MethodName := ⟨"HamperClubLaw", "isForetold", "(LHamperClub;I)Z"⟩
abbrev b_Law_acts : ByteArray := method_7_code
def y_Law_acts : MethodName := ⟨"HamperClubLaw", "acts", "(LHamperClub;I)I"⟩
/-- the words that may be handed on to a callee -/
def Tg : List Cond := lw_tbl.filter goodWord
theorem Tg_mem {w : Cond} (h : w ∈ lw_tbl) (g : goodWord w = true) : w ∈ Tg := List.mem_filter.mpr ⟨h, g⟩
theorem Tg_sub : ∀ w ∈ Tg, w ∈ lw_tbl := fun _ h => (List.mem_filter.mp h).1
theorem Tg_good : ∀ w ∈ Tg, goodWord w = true := fun _ h => (List.mem_filter.mp h).2
theorem Tg_code {y b n r} {w : Cond} (h : w ∈ Cond.code y b n r :: Tg) : (w.onTables && w.keeps) = true ∨ ∃ ty, w = .arrayClass ty := by
  rcases List.mem_cons.mp h with h | h
  · subst h; exact Or.inl rfl
  · exact good_of_word (Tg_good _ h)
def nestL : List Cond := [.methodLinkNest "HamperClub" 9 y_Sta_init "HamperClub", .methodLinkNest "HamperClub$State" 11 y_Clb_init "HamperClub", .methodLinkNest "HamperClub$Club" 27 y_Acc_init "HamperClub", .methodLinkNest "HamperClub$State" 20 y_Snp_init "HamperClub", .methodLinkNest "HamperClub$Snapshot" 9 y_Clb_init "HamperClub", .methodLinkNest "HamperClub$History" 17 y_Sta_init "HamperClub", .methodLinkNest "HamperClub" 25 y_Ord_init "HamperClub", .methodLinkNest "HamperClub" 32 y_Clb_init "HamperClub", .methodLinkNest "HamperClub$Club" 106 y_Ham_isKind "HamperClub", .methodLinkNest "HamperClub$Hampers" 45 y_Ham_isKind "HamperClub"]
end
section
/-! The words of the tables, each by its place; written by a program. -/
theorem sl_0 : Cond.selects "HamperClub" y_Ham_recorded y_Ham_recorded ∈ Tg := Tg_mem (List.mem_of_getElem? (i := 0) (by decide +kernel)) (by decide +kernel)
theorem sl_1 : Cond.selects "HamperClub$Club" y_Clb_replaceCards y_Clb_replaceCards ∈ Tg := Tg_mem (List.mem_of_getElem? (i := 1) (by decide +kernel)) (by decide +kernel)
theorem sl_2 : Cond.selects "HamperClub$Club" y_Clb_dropLapsed y_Clb_dropLapsed ∈ Tg := Tg_mem (List.mem_of_getElem? (i := 2) (by decide +kernel)) (by decide +kernel)
theorem sl_3 : Cond.selects "HamperClub$Club" y_Clb_payMember y_Clb_payMember ∈ Tg := Tg_mem (List.mem_of_getElem? (i := 3) (by decide +kernel)) (by decide +kernel)
theorem sl_4 : Cond.selects "HamperClub$Club" y_Clb_handOutKind y_Clb_handOutKind ∈ Tg := Tg_mem (List.mem_of_getElem? (i := 4) (by decide +kernel)) (by decide +kernel)
theorem sl_5 : Cond.selects "HamperClub$Club" y_Clb_handOutOne y_Clb_handOutOne ∈ Tg := Tg_mem (List.mem_of_getElem? (i := 5) (by decide +kernel)) (by decide +kernel)
theorem sl_6 : Cond.selects "HamperClub" y_Ham_wouldGet y_Ham_wouldGet ∈ Tg := Tg_mem (List.mem_of_getElem? (i := 6) (by decide +kernel)) (by decide +kernel)
theorem sl_7 : Cond.selects "HamperClub$Orders" y_Ord_readOrder y_Ord_readOrder ∈ Tg := Tg_mem (List.mem_of_getElem? (i := 7) (by decide +kernel)) (by decide +kernel)
theorem sl_8 : Cond.selects "HamperClub$Orders" y_Ord_next y_Ord_next ∈ Tg := Tg_mem (List.mem_of_getElem? (i := 8) (by decide +kernel)) (by decide +kernel)
theorem sl_9 : Cond.selects "HamperClub$Orders" y_Ord_readNumber y_Ord_readNumber ∈ Tg := Tg_mem (List.mem_of_getElem? (i := 9) (by decide +kernel)) (by decide +kernel)
theorem sl_10 : Cond.selects "HamperClub$Orders" y_Ord_carryOutOrder y_Ord_carryOutOrder ∈ Tg := Tg_mem (List.mem_of_getElem? (i := 10) (by decide +kernel)) (by decide +kernel)
theorem tb_0 : Cond.initialized "HamperClubLaw" ∈ Tg := Tg_mem (List.mem_of_getElem? (i := 11) (by decide +kernel)) (by decide +kernel)
theorem tb_1 : Cond.initialized "HamperClub" ∈ Tg := Tg_mem (List.mem_of_getElem? (i := 12) (by decide +kernel)) (by decide +kernel)
theorem tb_2 : Cond.initialized "HamperClub$State" ∈ Tg := Tg_mem (List.mem_of_getElem? (i := 13) (by decide +kernel)) (by decide +kernel)
theorem tb_3 : Cond.initialized "HamperClub$Club" ∈ Tg := Tg_mem (List.mem_of_getElem? (i := 14) (by decide +kernel)) (by decide +kernel)
theorem tb_4 : Cond.initialized "HamperClub$Cards" ∈ Tg := Tg_mem (List.mem_of_getElem? (i := 15) (by decide +kernel)) (by decide +kernel)
theorem tb_5 : Cond.initialized "java/util/Arrays" ∈ Tg := Tg_mem (List.mem_of_getElem? (i := 16) (by decide +kernel)) (by decide +kernel)
theorem tb_6 : Cond.initialized "HamperClub$Hampers" ∈ Tg := Tg_mem (List.mem_of_getElem? (i := 17) (by decide +kernel)) (by decide +kernel)
theorem tb_7 : Cond.initialized "java/lang/System" ∈ Tg := Tg_mem (List.mem_of_getElem? (i := 18) (by decide +kernel)) (by decide +kernel)
theorem tb_8 : Cond.initialized "HamperClub$Accounts" ∈ Tg := Tg_mem (List.mem_of_getElem? (i := 19) (by decide +kernel)) (by decide +kernel)
theorem tb_9 : Cond.initialized "HamperClub$Snapshot" ∈ Tg := Tg_mem (List.mem_of_getElem? (i := 20) (by decide +kernel)) (by decide +kernel)
theorem tb_10 : Cond.initialized "HamperClub$History" ∈ Tg := Tg_mem (List.mem_of_getElem? (i := 21) (by decide +kernel)) (by decide +kernel)
theorem tb_11 : Cond.initialized "HamperClub$Orders" ∈ Tg := Tg_mem (List.mem_of_getElem? (i := 22) (by decide +kernel)) (by decide +kernel)
theorem tb_12 : Cond.initialized "java/lang/Math" ∈ Tg := Tg_mem (List.mem_of_getElem? (i := 23) (by decide +kernel)) (by decide +kernel)
theorem tb_13 : Cond.initialized "java/lang/Long" ∈ Tg := Tg_mem (List.mem_of_getElem? (i := 24) (by decide +kernel)) (by decide +kernel)
theorem tb_14 : Cond.classLink "HamperClubLaw" 13 "HamperClub" ∈ Tg := Tg_mem (List.mem_of_getElem? (i := 25) (by decide +kernel)) (by decide +kernel)
theorem tb_15 : Cond.instantiable "HamperClub" 4 ∈ Tg := Tg_mem (List.mem_of_getElem? (i := 26) (by decide +kernel)) (by decide +kernel)
theorem tb_16 : Cond.methodLink "HamperClubLaw" 94 y_Ham_init ∈ Tg := Tg_mem (List.mem_of_getElem? (i := 27) (by decide +kernel)) (by decide +kernel)
theorem tb_17 : Cond.instanceMethod y_Ham_init ∈ Tg := Tg_mem (List.mem_of_getElem? (i := 28) (by decide +kernel)) (by decide +kernel)
theorem tb_18 : Cond.code y_Ham_init prog_1_method_1_code 1 none ∈ Tg := Tg_mem (List.mem_of_getElem? (i := 29) (by decide +kernel)) (by decide +kernel)
theorem tb_19 : Cond.methodLink "HamperClub" 1 objectInit ∈ Tg := Tg_mem (List.mem_of_getElem? (i := 30) (by decide +kernel)) (by decide +kernel)
theorem tb_20 : Cond.instanceMethod objectInit ∈ Tg := Tg_mem (List.mem_of_getElem? (i := 31) (by decide +kernel)) (by decide +kernel)
theorem tb_21 : Cond.code objectInit object_method_1_code 1 none ∈ Tg := Tg_mem (List.mem_of_getElem? (i := 32) (by decide +kernel)) (by decide +kernel)
theorem tb_22 : Cond.classLink "HamperClub" 7 "HamperClub$State" ∈ Tg := Tg_mem (List.mem_of_getElem? (i := 33) (by decide +kernel)) (by decide +kernel)
theorem tb_23 : Cond.instantiable "HamperClub$State" 3 ∈ Tg := Tg_mem (List.mem_of_getElem? (i := 34) (by decide +kernel)) (by decide +kernel)
theorem tb_25 : Cond.instanceMethod y_Sta_init ∈ Tg := Tg_mem (List.mem_of_getElem? (i := 36) (by decide +kernel)) (by decide +kernel)
theorem tb_26 : Cond.code y_Sta_init prog_9_method_1_code 1 none ∈ Tg := Tg_mem (List.mem_of_getElem? (i := 37) (by decide +kernel)) (by decide +kernel)
theorem tb_27 : Cond.methodLink "HamperClub$State" 3 objectInit ∈ Tg := Tg_mem (List.mem_of_getElem? (i := 38) (by decide +kernel)) (by decide +kernel)
theorem tb_28 : Cond.classLink "HamperClub$State" 9 "HamperClub$Club" ∈ Tg := Tg_mem (List.mem_of_getElem? (i := 39) (by decide +kernel)) (by decide +kernel)
theorem tb_29 : Cond.instantiable "HamperClub$Club" 7 ∈ Tg := Tg_mem (List.mem_of_getElem? (i := 40) (by decide +kernel)) (by decide +kernel)
theorem tb_31 : Cond.instanceMethod y_Clb_init ∈ Tg := Tg_mem (List.mem_of_getElem? (i := 42) (by decide +kernel)) (by decide +kernel)
theorem tb_32 : Cond.code y_Clb_init prog_4_method_1_code 1 none ∈ Tg := Tg_mem (List.mem_of_getElem? (i := 43) (by decide +kernel)) (by decide +kernel)
theorem tb_33 : Cond.methodLink "HamperClub$Club" 3 objectInit ∈ Tg := Tg_mem (List.mem_of_getElem? (i := 44) (by decide +kernel)) (by decide +kernel)
theorem tb_34 : Cond.classLink "HamperClub$Club" 9 "HamperClub$Cards" ∈ Tg := Tg_mem (List.mem_of_getElem? (i := 45) (by decide +kernel)) (by decide +kernel)
theorem tb_35 : Cond.instantiable "HamperClub$Cards" 9 ∈ Tg := Tg_mem (List.mem_of_getElem? (i := 46) (by decide +kernel)) (by decide +kernel)
theorem tb_36 : Cond.methodLink "HamperClub$Club" 11 y_Crd_init ∈ Tg := Tg_mem (List.mem_of_getElem? (i := 47) (by decide +kernel)) (by decide +kernel)
theorem tb_37 : Cond.instanceMethod y_Crd_init ∈ Tg := Tg_mem (List.mem_of_getElem? (i := 48) (by decide +kernel)) (by decide +kernel)
theorem tb_38 : Cond.code y_Crd_init prog_3_method_1_code 1 none ∈ Tg := Tg_mem (List.mem_of_getElem? (i := 49) (by decide +kernel)) (by decide +kernel)
theorem tb_39 : Cond.methodLink "HamperClub$Cards" 3 objectInit ∈ Tg := Tg_mem (List.mem_of_getElem? (i := 50) (by decide +kernel)) (by decide +kernel)
theorem tb_40 : Cond.methodLink "HamperClub$Cards" 37 y_Arr_fill ∈ Tg := Tg_mem (List.mem_of_getElem? (i := 51) (by decide +kernel)) (by decide +kernel)
theorem tb_41 : Cond.static y_Arr_fill ∈ Tg := Tg_mem (List.mem_of_getElem? (i := 52) (by decide +kernel)) (by decide +kernel)
theorem tb_42 : Cond.code y_Arr_fill prog_15_method_103_code 4 none ∈ Tg := Tg_mem (List.mem_of_getElem? (i := 53) (by decide +kernel)) (by decide +kernel)
theorem tb_43 : Cond.fieldLink "HamperClub$Cards" 43 "HamperClub$Cards" "count" "I" ∈ Tg := Tg_mem (List.mem_of_getElem? (i := 54) (by decide +kernel)) (by decide +kernel)
theorem tb_44 : Cond.fieldLink "HamperClub$Club" 56 "HamperClub$Cards" "count" "I" ∈ Tg := Tg_mem (List.mem_of_getElem? (i := 55) (by decide +kernel)) (by decide +kernel)
theorem tb_45 : Cond.fieldLink "HamperClub$Cards" 9 "HamperClub$Cards" "stamps" "[I" ∈ Tg := Tg_mem (List.mem_of_getElem? (i := 56) (by decide +kernel)) (by decide +kernel)
theorem tb_46 : Cond.fieldLink "HamperClub$Club" 78 "HamperClub$Cards" "stamps" "[I" ∈ Tg := Tg_mem (List.mem_of_getElem? (i := 57) (by decide +kernel)) (by decide +kernel)
theorem tb_47 : Cond.fieldLink "HamperClub" 175 "HamperClub$Cards" "stamps" "[I" ∈ Tg := Tg_mem (List.mem_of_getElem? (i := 58) (by decide +kernel)) (by decide +kernel)
theorem tb_48 : Cond.fieldLink "HamperClub$Cards" 15 "HamperClub$Cards" "status" "[I" ∈ Tg := Tg_mem (List.mem_of_getElem? (i := 59) (by decide +kernel)) (by decide +kernel)
theorem tb_49 : Cond.fieldLink "HamperClub$Club" 100 "HamperClub$Cards" "status" "[I" ∈ Tg := Tg_mem (List.mem_of_getElem? (i := 60) (by decide +kernel)) (by decide +kernel)
theorem tb_50 : Cond.fieldLink "HamperClub$Cards" 18 "HamperClub$Cards" "mislaidIn" "[I" ∈ Tg := Tg_mem (List.mem_of_getElem? (i := 61) (by decide +kernel)) (by decide +kernel)
theorem tb_51 : Cond.fieldLink "HamperClub$Club" 103 "HamperClub$Cards" "mislaidIn" "[I" ∈ Tg := Tg_mem (List.mem_of_getElem? (i := 62) (by decide +kernel)) (by decide +kernel)
theorem tb_52 : Cond.fieldLink "HamperClub$Cards" 21 "HamperClub$Cards" "joinedIn" "[I" ∈ Tg := Tg_mem (List.mem_of_getElem? (i := 63) (by decide +kernel)) (by decide +kernel)
theorem tb_53 : Cond.fieldLink "HamperClub$Club" 59 "HamperClub$Cards" "joinedIn" "[I" ∈ Tg := Tg_mem (List.mem_of_getElem? (i := 64) (by decide +kernel)) (by decide +kernel)
theorem tb_54 : Cond.fieldLink "HamperClub$Cards" 24 "HamperClub$Cards" "paid" "[I" ∈ Tg := Tg_mem (List.mem_of_getElem? (i := 65) (by decide +kernel)) (by decide +kernel)
theorem tb_55 : Cond.fieldLink "HamperClub$Club" 165 "HamperClub$Cards" "paid" "[I" ∈ Tg := Tg_mem (List.mem_of_getElem? (i := 66) (by decide +kernel)) (by decide +kernel)
theorem tb_56 : Cond.fieldLink "HamperClub" 160 "HamperClub$Cards" "paid" "[I" ∈ Tg := Tg_mem (List.mem_of_getElem? (i := 67) (by decide +kernel)) (by decide +kernel)
theorem tb_57 : Cond.fieldLink "HamperClub$Cards" 27 "HamperClub$Cards" "drawn" "[I" ∈ Tg := Tg_mem (List.mem_of_getElem? (i := 68) (by decide +kernel)) (by decide +kernel)
theorem tb_58 : Cond.fieldLink "HamperClub$Club" 91 "HamperClub$Cards" "drawn" "[I" ∈ Tg := Tg_mem (List.mem_of_getElem? (i := 69) (by decide +kernel)) (by decide +kernel)
theorem tb_59 : Cond.fieldLink "HamperClub$Cards" 30 "HamperClub$Cards" "goodWeeks" "[J" ∈ Tg := Tg_mem (List.mem_of_getElem? (i := 70) (by decide +kernel)) (by decide +kernel)
theorem tb_60 : Cond.fieldLink "HamperClub$Club" 192 "HamperClub$Cards" "goodWeeks" "[J" ∈ Tg := Tg_mem (List.mem_of_getElem? (i := 71) (by decide +kernel)) (by decide +kernel)
theorem tb_61 : Cond.fieldLink "HamperClub$Cards" 34 "HamperClub$Cards" "latestGood" "[I" ∈ Tg := Tg_mem (List.mem_of_getElem? (i := 72) (by decide +kernel)) (by decide +kernel)
theorem tb_62 : Cond.fieldLink "HamperClub$Club" 205 "HamperClub$Cards" "latestGood" "[I" ∈ Tg := Tg_mem (List.mem_of_getElem? (i := 73) (by decide +kernel)) (by decide +kernel)
theorem tb_63 : Cond.lays "HamperClub$Cards" "HamperClub$Cards" "count" "I" ∈ Tg := Tg_mem (List.mem_of_getElem? (i := 74) (by decide +kernel)) (by decide +kernel)
theorem tb_65 : Cond.laysFinal "HamperClub$Cards" "HamperClub$Cards" "stamps" "[I" ∈ Tg := Tg_mem (List.mem_of_getElem? (i := 76) (by decide +kernel)) (by decide +kernel)
theorem tb_67 : Cond.laysFinal "HamperClub$Cards" "HamperClub$Cards" "status" "[I" ∈ Tg := Tg_mem (List.mem_of_getElem? (i := 78) (by decide +kernel)) (by decide +kernel)
theorem tb_69 : Cond.laysFinal "HamperClub$Cards" "HamperClub$Cards" "mislaidIn" "[I" ∈ Tg := Tg_mem (List.mem_of_getElem? (i := 80) (by decide +kernel)) (by decide +kernel)
theorem tb_71 : Cond.laysFinal "HamperClub$Cards" "HamperClub$Cards" "joinedIn" "[I" ∈ Tg := Tg_mem (List.mem_of_getElem? (i := 82) (by decide +kernel)) (by decide +kernel)
theorem tb_73 : Cond.laysFinal "HamperClub$Cards" "HamperClub$Cards" "paid" "[I" ∈ Tg := Tg_mem (List.mem_of_getElem? (i := 84) (by decide +kernel)) (by decide +kernel)
theorem tb_75 : Cond.laysFinal "HamperClub$Cards" "HamperClub$Cards" "drawn" "[I" ∈ Tg := Tg_mem (List.mem_of_getElem? (i := 86) (by decide +kernel)) (by decide +kernel)
theorem tb_77 : Cond.laysFinal "HamperClub$Cards" "HamperClub$Cards" "goodWeeks" "[J" ∈ Tg := Tg_mem (List.mem_of_getElem? (i := 88) (by decide +kernel)) (by decide +kernel)
theorem tb_79 : Cond.laysFinal "HamperClub$Cards" "HamperClub$Cards" "latestGood" "[I" ∈ Tg := Tg_mem (List.mem_of_getElem? (i := 90) (by decide +kernel)) (by decide +kernel)
theorem tb_82 : Cond.arrayClass .int ∈ Tg := Tg_mem (List.mem_of_getElem? (i := 93) (by decide +kernel)) (by decide +kernel)
theorem tb_83 : Cond.arrayClass .long ∈ Tg := Tg_mem (List.mem_of_getElem? (i := 94) (by decide +kernel)) (by decide +kernel)
theorem tb_84 : Cond.classLink "HamperClub$Club" 18 "HamperClub$Hampers" ∈ Tg := Tg_mem (List.mem_of_getElem? (i := 95) (by decide +kernel)) (by decide +kernel)
theorem tb_85 : Cond.instantiable "HamperClub$Hampers" 5 ∈ Tg := Tg_mem (List.mem_of_getElem? (i := 96) (by decide +kernel)) (by decide +kernel)
theorem tb_86 : Cond.methodLink "HamperClub$Club" 20 y_Hmp_init ∈ Tg := Tg_mem (List.mem_of_getElem? (i := 97) (by decide +kernel)) (by decide +kernel)
theorem tb_87 : Cond.instanceMethod y_Hmp_init ∈ Tg := Tg_mem (List.mem_of_getElem? (i := 98) (by decide +kernel)) (by decide +kernel)
theorem tb_88 : Cond.code y_Hmp_init prog_5_method_1_code 1 none ∈ Tg := Tg_mem (List.mem_of_getElem? (i := 99) (by decide +kernel)) (by decide +kernel)
theorem tb_89 : Cond.methodLink "HamperClub$Hampers" 3 objectInit ∈ Tg := Tg_mem (List.mem_of_getElem? (i := 100) (by decide +kernel)) (by decide +kernel)
theorem tb_92 : Cond.methodLink "HamperClub$Hampers" 30 arraycopyName ∈ Tg := Tg_mem (List.mem_of_getElem? (i := 103) (by decide +kernel)) (by decide +kernel)
theorem tb_93 : Cond.static arraycopyName ∈ Tg := Tg_mem (List.mem_of_getElem? (i := 104) (by decide +kernel)) (by decide +kernel)
theorem tb_94 : Cond.native arraycopyName ∈ Tg := Tg_mem (List.mem_of_getElem? (i := 105) (by decide +kernel)) (by decide +kernel)
theorem tb_97 : Cond.methodLink "HamperClub$Hampers" 39 y_Arr_fill ∈ Tg := Tg_mem (List.mem_of_getElem? (i := 108) (by decide +kernel)) (by decide +kernel)
theorem tb_98 : Cond.fieldLink "HamperClub$Hampers" 9 "HamperClub$Hampers" "price" "[I" ∈ Tg := Tg_mem (List.mem_of_getElem? (i := 109) (by decide +kernel)) (by decide +kernel)
theorem tb_99 : Cond.fieldLink "HamperClub$Club" 109 "HamperClub$Hampers" "price" "[I" ∈ Tg := Tg_mem (List.mem_of_getElem? (i := 110) (by decide +kernel)) (by decide +kernel)
theorem tb_100 : Cond.fieldLink "HamperClub" 163 "HamperClub$Hampers" "price" "[I" ∈ Tg := Tg_mem (List.mem_of_getElem? (i := 111) (by decide +kernel)) (by decide +kernel)
theorem tb_101 : Cond.fieldLink "HamperClub$Hampers" 15 "HamperClub$Hampers" "stock" "[I" ∈ Tg := Tg_mem (List.mem_of_getElem? (i := 112) (by decide +kernel)) (by decide +kernel)
theorem tb_102 : Cond.fieldLink "HamperClub$Club" 112 "HamperClub$Hampers" "stock" "[I" ∈ Tg := Tg_mem (List.mem_of_getElem? (i := 113) (by decide +kernel)) (by decide +kernel)
theorem tb_103 : Cond.fieldLink "HamperClub$Hampers" 18 "HamperClub$Hampers" "choice" "[I" ∈ Tg := Tg_mem (List.mem_of_getElem? (i := 114) (by decide +kernel)) (by decide +kernel)
theorem tb_104 : Cond.fieldLink "HamperClub$Club" 115 "HamperClub$Hampers" "choice" "[I" ∈ Tg := Tg_mem (List.mem_of_getElem? (i := 115) (by decide +kernel)) (by decide +kernel)
theorem tb_105 : Cond.fieldLink "HamperClub$Hampers" 21 "HamperClub$Hampers" "place" "[I" ∈ Tg := Tg_mem (List.mem_of_getElem? (i := 116) (by decide +kernel)) (by decide +kernel)
theorem tb_106 : Cond.fieldLink "HamperClub$Club" 189 "HamperClub$Hampers" "place" "[I" ∈ Tg := Tg_mem (List.mem_of_getElem? (i := 117) (by decide +kernel)) (by decide +kernel)
theorem tb_107 : Cond.fieldLink "HamperClub$Hampers" 24 "HamperClub$Hampers" "got" "[I" ∈ Tg := Tg_mem (List.mem_of_getElem? (i := 118) (by decide +kernel)) (by decide +kernel)
theorem tb_108 : Cond.fieldLink "HamperClub$Club" 208 "HamperClub$Hampers" "got" "[I" ∈ Tg := Tg_mem (List.mem_of_getElem? (i := 119) (by decide +kernel)) (by decide +kernel)
theorem tb_109 : Cond.fieldLink "HamperClub" 156 "HamperClub$Hampers" "got" "[I" ∈ Tg := Tg_mem (List.mem_of_getElem? (i := 120) (by decide +kernel)) (by decide +kernel)
theorem tb_110 : Cond.laysFinal "HamperClub$Hampers" "HamperClub$Hampers" "price" "[I" ∈ Tg := Tg_mem (List.mem_of_getElem? (i := 121) (by decide +kernel)) (by decide +kernel)
theorem tb_112 : Cond.laysFinal "HamperClub$Hampers" "HamperClub$Hampers" "stock" "[I" ∈ Tg := Tg_mem (List.mem_of_getElem? (i := 123) (by decide +kernel)) (by decide +kernel)
theorem tb_114 : Cond.laysFinal "HamperClub$Hampers" "HamperClub$Hampers" "choice" "[I" ∈ Tg := Tg_mem (List.mem_of_getElem? (i := 125) (by decide +kernel)) (by decide +kernel)
theorem tb_116 : Cond.laysFinal "HamperClub$Hampers" "HamperClub$Hampers" "place" "[I" ∈ Tg := Tg_mem (List.mem_of_getElem? (i := 127) (by decide +kernel)) (by decide +kernel)
theorem tb_118 : Cond.laysFinal "HamperClub$Hampers" "HamperClub$Hampers" "got" "[I" ∈ Tg := Tg_mem (List.mem_of_getElem? (i := 129) (by decide +kernel)) (by decide +kernel)
theorem tb_121 : Cond.classLink "HamperClub$Club" 25 "HamperClub$Accounts" ∈ Tg := Tg_mem (List.mem_of_getElem? (i := 132) (by decide +kernel)) (by decide +kernel)
theorem tb_122 : Cond.instantiable "HamperClub$Accounts" 5 ∈ Tg := Tg_mem (List.mem_of_getElem? (i := 133) (by decide +kernel)) (by decide +kernel)
theorem tb_124 : Cond.instanceMethod y_Acc_init ∈ Tg := Tg_mem (List.mem_of_getElem? (i := 135) (by decide +kernel)) (by decide +kernel)
theorem tb_125 : Cond.code y_Acc_init prog_2_method_1_code 1 none ∈ Tg := Tg_mem (List.mem_of_getElem? (i := 136) (by decide +kernel)) (by decide +kernel)
theorem tb_126 : Cond.methodLink "HamperClub$Accounts" 1 objectInit ∈ Tg := Tg_mem (List.mem_of_getElem? (i := 137) (by decide +kernel)) (by decide +kernel)
theorem tb_127 : Cond.fieldLink "HamperClub$Accounts" 7 "HamperClub$Accounts" "tin" "I" ∈ Tg := Tg_mem (List.mem_of_getElem? (i := 138) (by decide +kernel)) (by decide +kernel)
theorem tb_128 : Cond.fieldLink "HamperClub$Club" 168 "HamperClub$Accounts" "tin" "I" ∈ Tg := Tg_mem (List.mem_of_getElem? (i := 139) (by decide +kernel)) (by decide +kernel)
theorem tb_129 : Cond.fieldLink "HamperClub$Accounts" 13 "HamperClub$Accounts" "pool" "I" ∈ Tg := Tg_mem (List.mem_of_getElem? (i := 140) (by decide +kernel)) (by decide +kernel)
theorem tb_130 : Cond.fieldLink "HamperClub$Club" 94 "HamperClub$Accounts" "pool" "I" ∈ Tg := Tg_mem (List.mem_of_getElem? (i := 141) (by decide +kernel)) (by decide +kernel)
theorem tb_131 : Cond.fieldLink "HamperClub$Accounts" 16 "HamperClub$Accounts" "cameIn" "I" ∈ Tg := Tg_mem (List.mem_of_getElem? (i := 142) (by decide +kernel)) (by decide +kernel)
theorem tb_132 : Cond.fieldLink "HamperClub$Club" 174 "HamperClub$Accounts" "cameIn" "I" ∈ Tg := Tg_mem (List.mem_of_getElem? (i := 143) (by decide +kernel)) (by decide +kernel)
theorem tb_133 : Cond.fieldLink "HamperClub$Accounts" 19 "HamperClub$Accounts" "paidOut" "I" ∈ Tg := Tg_mem (List.mem_of_getElem? (i := 144) (by decide +kernel)) (by decide +kernel)
theorem tb_134 : Cond.fieldLink "HamperClub$Club" 177 "HamperClub$Accounts" "paidOut" "I" ∈ Tg := Tg_mem (List.mem_of_getElem? (i := 145) (by decide +kernel)) (by decide +kernel)
theorem tb_135 : Cond.fieldLink "HamperClub$Accounts" 22 "HamperClub$Accounts" "toShop" "I" ∈ Tg := Tg_mem (List.mem_of_getElem? (i := 146) (by decide +kernel)) (by decide +kernel)
theorem tb_136 : Cond.fieldLink "HamperClub$Club" 180 "HamperClub$Accounts" "toShop" "I" ∈ Tg := Tg_mem (List.mem_of_getElem? (i := 147) (by decide +kernel)) (by decide +kernel)
theorem tb_137 : Cond.lays "HamperClub$Accounts" "HamperClub$Accounts" "tin" "I" ∈ Tg := Tg_mem (List.mem_of_getElem? (i := 148) (by decide +kernel)) (by decide +kernel)
theorem tb_139 : Cond.lays "HamperClub$Accounts" "HamperClub$Accounts" "pool" "I" ∈ Tg := Tg_mem (List.mem_of_getElem? (i := 150) (by decide +kernel)) (by decide +kernel)
theorem tb_141 : Cond.lays "HamperClub$Accounts" "HamperClub$Accounts" "cameIn" "I" ∈ Tg := Tg_mem (List.mem_of_getElem? (i := 152) (by decide +kernel)) (by decide +kernel)
theorem tb_143 : Cond.lays "HamperClub$Accounts" "HamperClub$Accounts" "paidOut" "I" ∈ Tg := Tg_mem (List.mem_of_getElem? (i := 154) (by decide +kernel)) (by decide +kernel)
theorem tb_145 : Cond.lays "HamperClub$Accounts" "HamperClub$Accounts" "toShop" "I" ∈ Tg := Tg_mem (List.mem_of_getElem? (i := 156) (by decide +kernel)) (by decide +kernel)
theorem tb_148 : Cond.fieldLink "HamperClub$Club" 32 "HamperClub$Club" "week" "I" ∈ Tg := Tg_mem (List.mem_of_getElem? (i := 159) (by decide +kernel)) (by decide +kernel)
theorem tb_149 : Cond.fieldLink "HamperClub$State" 40 "HamperClub$Club" "week" "I" ∈ Tg := Tg_mem (List.mem_of_getElem? (i := 160) (by decide +kernel)) (by decide +kernel)
theorem tb_150 : Cond.fieldLink "HamperClub" 172 "HamperClub$Club" "week" "I" ∈ Tg := Tg_mem (List.mem_of_getElem? (i := 161) (by decide +kernel)) (by decide +kernel)
theorem tb_151 : Cond.fieldLink "HamperClub$Club" 36 "HamperClub$Club" "settled" "Z" ∈ Tg := Tg_mem (List.mem_of_getElem? (i := 162) (by decide +kernel)) (by decide +kernel)
theorem tb_152 : Cond.fieldLink "HamperClub" 105 "HamperClub$Club" "settled" "Z" ∈ Tg := Tg_mem (List.mem_of_getElem? (i := 163) (by decide +kernel)) (by decide +kernel)
theorem tb_153 : Cond.fieldLink "HamperClub$Club" 40 "HamperClub$Club" "handedOut" "I" ∈ Tg := Tg_mem (List.mem_of_getElem? (i := 164) (by decide +kernel)) (by decide +kernel)
theorem tb_154 : Cond.fieldLink "HamperClub$Club" 43 "HamperClub$Club" "lapses" "I" ∈ Tg := Tg_mem (List.mem_of_getElem? (i := 165) (by decide +kernel)) (by decide +kernel)
theorem tb_155 : Cond.fieldLink "HamperClub$Club" 12 "HamperClub$Club" "cards" "LHamperClub$Cards;" ∈ Tg := Tg_mem (List.mem_of_getElem? (i := 166) (by decide +kernel)) (by decide +kernel)
theorem tb_156 : Cond.fieldLink "HamperClub" 122 "HamperClub$Club" "cards" "LHamperClub$Cards;" ∈ Tg := Tg_mem (List.mem_of_getElem? (i := 167) (by decide +kernel)) (by decide +kernel)
theorem tb_157 : Cond.fieldLink "HamperClub$Club" 21 "HamperClub$Club" "hampers" "LHamperClub$Hampers;" ∈ Tg := Tg_mem (List.mem_of_getElem? (i := 168) (by decide +kernel)) (by decide +kernel)
theorem tb_158 : Cond.fieldLink "HamperClub" 135 "HamperClub$Club" "hampers" "LHamperClub$Hampers;" ∈ Tg := Tg_mem (List.mem_of_getElem? (i := 169) (by decide +kernel)) (by decide +kernel)
theorem tb_159 : Cond.fieldLink "HamperClub$Club" 28 "HamperClub$Club" "accounts" "LHamperClub$Accounts;" ∈ Tg := Tg_mem (List.mem_of_getElem? (i := 170) (by decide +kernel)) (by decide +kernel)
theorem tb_160 : Cond.lays "HamperClub$Club" "HamperClub$Club" "week" "I" ∈ Tg := Tg_mem (List.mem_of_getElem? (i := 171) (by decide +kernel)) (by decide +kernel)
theorem tb_162 : Cond.lays "HamperClub$Club" "HamperClub$Club" "settled" "Z" ∈ Tg := Tg_mem (List.mem_of_getElem? (i := 173) (by decide +kernel)) (by decide +kernel)
theorem tb_164 : Cond.lays "HamperClub$Club" "HamperClub$Club" "handedOut" "I" ∈ Tg := Tg_mem (List.mem_of_getElem? (i := 175) (by decide +kernel)) (by decide +kernel)
theorem tb_166 : Cond.lays "HamperClub$Club" "HamperClub$Club" "lapses" "I" ∈ Tg := Tg_mem (List.mem_of_getElem? (i := 177) (by decide +kernel)) (by decide +kernel)
theorem tb_168 : Cond.laysFinal "HamperClub$Club" "HamperClub$Club" "cards" "LHamperClub$Cards;" ∈ Tg := Tg_mem (List.mem_of_getElem? (i := 179) (by decide +kernel)) (by decide +kernel)
theorem tb_170 : Cond.laysFinal "HamperClub$Club" "HamperClub$Club" "hampers" "LHamperClub$Hampers;" ∈ Tg := Tg_mem (List.mem_of_getElem? (i := 181) (by decide +kernel)) (by decide +kernel)
theorem tb_172 : Cond.laysFinal "HamperClub$Club" "HamperClub$Club" "accounts" "LHamperClub$Accounts;" ∈ Tg := Tg_mem (List.mem_of_getElem? (i := 183) (by decide +kernel)) (by decide +kernel)
theorem tb_175 : Cond.classLink "HamperClub$State" 18 "HamperClub$Snapshot" ∈ Tg := Tg_mem (List.mem_of_getElem? (i := 186) (by decide +kernel)) (by decide +kernel)
theorem tb_176 : Cond.instantiable "HamperClub$Snapshot" 2 ∈ Tg := Tg_mem (List.mem_of_getElem? (i := 187) (by decide +kernel)) (by decide +kernel)
theorem tb_178 : Cond.instanceMethod y_Snp_init ∈ Tg := Tg_mem (List.mem_of_getElem? (i := 189) (by decide +kernel)) (by decide +kernel)
theorem tb_179 : Cond.code y_Snp_init prog_8_method_1_code 1 none ∈ Tg := Tg_mem (List.mem_of_getElem? (i := 190) (by decide +kernel)) (by decide +kernel)
theorem tb_180 : Cond.methodLink "HamperClub$Snapshot" 1 objectInit ∈ Tg := Tg_mem (List.mem_of_getElem? (i := 191) (by decide +kernel)) (by decide +kernel)
theorem tb_181 : Cond.classLink "HamperClub$Snapshot" 7 "HamperClub$Club" ∈ Tg := Tg_mem (List.mem_of_getElem? (i := 192) (by decide +kernel)) (by decide +kernel)
theorem tb_183 : Cond.fieldLink "HamperClub$Snapshot" 16 "HamperClub$Snapshot" "taken" "Z" ∈ Tg := Tg_mem (List.mem_of_getElem? (i := 194) (by decide +kernel)) (by decide +kernel)
theorem tb_184 : Cond.fieldLink "HamperClub$State" 35 "HamperClub$Snapshot" "taken" "Z" ∈ Tg := Tg_mem (List.mem_of_getElem? (i := 195) (by decide +kernel)) (by decide +kernel)
theorem tb_185 : Cond.fieldLink "HamperClub$Snapshot" 10 "HamperClub$Snapshot" "club" "LHamperClub$Club;" ∈ Tg := Tg_mem (List.mem_of_getElem? (i := 196) (by decide +kernel)) (by decide +kernel)
theorem tb_186 : Cond.fieldLink "HamperClub$State" 39 "HamperClub$Snapshot" "club" "LHamperClub$Club;" ∈ Tg := Tg_mem (List.mem_of_getElem? (i := 197) (by decide +kernel)) (by decide +kernel)
theorem tb_187 : Cond.lays "HamperClub$Snapshot" "HamperClub$Snapshot" "taken" "Z" ∈ Tg := Tg_mem (List.mem_of_getElem? (i := 198) (by decide +kernel)) (by decide +kernel)
theorem tb_189 : Cond.laysFinal "HamperClub$Snapshot" "HamperClub$Snapshot" "club" "LHamperClub$Club;" ∈ Tg := Tg_mem (List.mem_of_getElem? (i := 200) (by decide +kernel)) (by decide +kernel)
theorem tb_192 : Cond.fieldLink "HamperClub$State" 12 "HamperClub$State" "club" "LHamperClub$Club;" ∈ Tg := Tg_mem (List.mem_of_getElem? (i := 203) (by decide +kernel)) (by decide +kernel)
theorem tb_193 : Cond.fieldLink "HamperClub" 41 "HamperClub$State" "club" "LHamperClub$Club;" ∈ Tg := Tg_mem (List.mem_of_getElem? (i := 204) (by decide +kernel)) (by decide +kernel)
theorem tb_194 : Cond.fieldLink "HamperClub$State" 21 "HamperClub$State" "first" "LHamperClub$Snapshot;" ∈ Tg := Tg_mem (List.mem_of_getElem? (i := 205) (by decide +kernel)) (by decide +kernel)
theorem tb_195 : Cond.fieldLink "HamperClub$State" 25 "HamperClub$State" "second" "LHamperClub$Snapshot;" ∈ Tg := Tg_mem (List.mem_of_getElem? (i := 206) (by decide +kernel)) (by decide +kernel)
theorem tb_196 : Cond.laysFinal "HamperClub$State" "HamperClub$State" "club" "LHamperClub$Club;" ∈ Tg := Tg_mem (List.mem_of_getElem? (i := 207) (by decide +kernel)) (by decide +kernel)
theorem tb_198 : Cond.laysFinal "HamperClub$State" "HamperClub$State" "first" "LHamperClub$Snapshot;" ∈ Tg := Tg_mem (List.mem_of_getElem? (i := 209) (by decide +kernel)) (by decide +kernel)
theorem tb_200 : Cond.laysFinal "HamperClub$State" "HamperClub$State" "second" "LHamperClub$Snapshot;" ∈ Tg := Tg_mem (List.mem_of_getElem? (i := 211) (by decide +kernel)) (by decide +kernel)
theorem tb_203 : Cond.classLink "HamperClub" 16 "HamperClub$History" ∈ Tg := Tg_mem (List.mem_of_getElem? (i := 214) (by decide +kernel)) (by decide +kernel)
theorem tb_204 : Cond.instantiable "HamperClub$History" 3 ∈ Tg := Tg_mem (List.mem_of_getElem? (i := 215) (by decide +kernel)) (by decide +kernel)
theorem tb_205 : Cond.methodLink "HamperClub" 18 y_His_init ∈ Tg := Tg_mem (List.mem_of_getElem? (i := 216) (by decide +kernel)) (by decide +kernel)
theorem tb_206 : Cond.instanceMethod y_His_init ∈ Tg := Tg_mem (List.mem_of_getElem? (i := 217) (by decide +kernel)) (by decide +kernel)
theorem tb_207 : Cond.code y_His_init prog_6_method_1_code 2 none ∈ Tg := Tg_mem (List.mem_of_getElem? (i := 218) (by decide +kernel)) (by decide +kernel)
theorem tb_208 : Cond.methodLink "HamperClub$History" 3 objectInit ∈ Tg := Tg_mem (List.mem_of_getElem? (i := 219) (by decide +kernel)) (by decide +kernel)
theorem tb_209 : Cond.classLink "HamperClub$History" 11 "HamperClub$State" ∈ Tg := Tg_mem (List.mem_of_getElem? (i := 220) (by decide +kernel)) (by decide +kernel)
theorem tb_212 : Cond.fieldLink "HamperClub$History" 13 "HamperClub$History" "frames" "[LHamperClub$State;" ∈ Tg := Tg_mem (List.mem_of_getElem? (i := 223) (by decide +kernel)) (by decide +kernel)
theorem tb_213 : Cond.fieldLink "HamperClub$History" 18 "HamperClub$History" "free" "I" ∈ Tg := Tg_mem (List.mem_of_getElem? (i := 224) (by decide +kernel)) (by decide +kernel)
theorem tb_214 : Cond.fieldLink "HamperClub$History" 26 "HamperClub$History" "size" "I" ∈ Tg := Tg_mem (List.mem_of_getElem? (i := 225) (by decide +kernel)) (by decide +kernel)
theorem tb_215 : Cond.fieldLink "HamperClub" 91 "HamperClub$History" "size" "I" ∈ Tg := Tg_mem (List.mem_of_getElem? (i := 226) (by decide +kernel)) (by decide +kernel)
theorem tb_216 : Cond.laysFinal "HamperClub$History" "HamperClub$History" "frames" "[LHamperClub$State;" ∈ Tg := Tg_mem (List.mem_of_getElem? (i := 227) (by decide +kernel)) (by decide +kernel)
theorem tb_218 : Cond.lays "HamperClub$History" "HamperClub$History" "free" "I" ∈ Tg := Tg_mem (List.mem_of_getElem? (i := 229) (by decide +kernel)) (by decide +kernel)
theorem tb_220 : Cond.lays "HamperClub$History" "HamperClub$History" "size" "I" ∈ Tg := Tg_mem (List.mem_of_getElem? (i := 231) (by decide +kernel)) (by decide +kernel)
theorem tb_223 : Cond.classLink "HamperClub" 23 "HamperClub$Orders" ∈ Tg := Tg_mem (List.mem_of_getElem? (i := 234) (by decide +kernel)) (by decide +kernel)
theorem tb_224 : Cond.instantiable "HamperClub$Orders" 6 ∈ Tg := Tg_mem (List.mem_of_getElem? (i := 235) (by decide +kernel)) (by decide +kernel)
theorem tb_226 : Cond.instanceMethod y_Ord_init ∈ Tg := Tg_mem (List.mem_of_getElem? (i := 237) (by decide +kernel)) (by decide +kernel)
theorem tb_227 : Cond.code y_Ord_init prog_7_method_1_code 1 none ∈ Tg := Tg_mem (List.mem_of_getElem? (i := 238) (by decide +kernel)) (by decide +kernel)
theorem tb_228 : Cond.methodLink "HamperClub$Orders" 3 objectInit ∈ Tg := Tg_mem (List.mem_of_getElem? (i := 239) (by decide +kernel)) (by decide +kernel)
theorem tb_229 : Cond.fieldLink "HamperClub$Orders" 9 "HamperClub$Orders" "text" "[I" ∈ Tg := Tg_mem (List.mem_of_getElem? (i := 240) (by decide +kernel)) (by decide +kernel)
theorem tb_230 : Cond.fieldLink "HamperClub$Orders" 15 "HamperClub$Orders" "length" "I" ∈ Tg := Tg_mem (List.mem_of_getElem? (i := 241) (by decide +kernel)) (by decide +kernel)
theorem tb_231 : Cond.fieldLink "HamperClub" 99 "HamperClub$Orders" "length" "I" ∈ Tg := Tg_mem (List.mem_of_getElem? (i := 242) (by decide +kernel)) (by decide +kernel)
theorem tb_232 : Cond.fieldLink "HamperClub$Orders" 19 "HamperClub$Orders" "at" "I" ∈ Tg := Tg_mem (List.mem_of_getElem? (i := 243) (by decide +kernel)) (by decide +kernel)
theorem tb_233 : Cond.fieldLink "HamperClub$Orders" 33 "HamperClub$Orders" "member" "I" ∈ Tg := Tg_mem (List.mem_of_getElem? (i := 244) (by decide +kernel)) (by decide +kernel)
theorem tb_234 : Cond.fieldLink "HamperClub$Orders" 30 "HamperClub$Orders" "sign" "I" ∈ Tg := Tg_mem (List.mem_of_getElem? (i := 245) (by decide +kernel)) (by decide +kernel)
theorem tb_235 : Cond.fieldLink "HamperClub$Orders" 36 "HamperClub$Orders" "number" "I" ∈ Tg := Tg_mem (List.mem_of_getElem? (i := 246) (by decide +kernel)) (by decide +kernel)
theorem tb_236 : Cond.laysFinal "HamperClub$Orders" "HamperClub$Orders" "text" "[I" ∈ Tg := Tg_mem (List.mem_of_getElem? (i := 247) (by decide +kernel)) (by decide +kernel)
theorem tb_238 : Cond.lays "HamperClub$Orders" "HamperClub$Orders" "length" "I" ∈ Tg := Tg_mem (List.mem_of_getElem? (i := 249) (by decide +kernel)) (by decide +kernel)
theorem tb_240 : Cond.lays "HamperClub$Orders" "HamperClub$Orders" "at" "I" ∈ Tg := Tg_mem (List.mem_of_getElem? (i := 251) (by decide +kernel)) (by decide +kernel)
theorem tb_242 : Cond.lays "HamperClub$Orders" "HamperClub$Orders" "member" "I" ∈ Tg := Tg_mem (List.mem_of_getElem? (i := 253) (by decide +kernel)) (by decide +kernel)
theorem tb_244 : Cond.lays "HamperClub$Orders" "HamperClub$Orders" "sign" "I" ∈ Tg := Tg_mem (List.mem_of_getElem? (i := 255) (by decide +kernel)) (by decide +kernel)
end
section
/-! The words of the tables, each by its place; written by a program. -/
theorem tb_246 : Cond.lays "HamperClub$Orders" "HamperClub$Orders" "number" "I" ∈ Tg := Tg_mem (List.mem_of_getElem? (i := 257) (by decide +kernel)) (by decide +kernel)
theorem tb_249 : Cond.classLink "HamperClub" 30 "HamperClub$Club" ∈ Tg := Tg_mem (List.mem_of_getElem? (i := 260) (by decide +kernel)) (by decide +kernel)
theorem tb_251 : Cond.fieldLink "HamperClub" 10 "HamperClub" "state" "LHamperClub$State;" ∈ Tg := Tg_mem (List.mem_of_getElem? (i := 262) (by decide +kernel)) (by decide +kernel)
theorem tb_252 : Cond.fieldLink "HamperClub" 19 "HamperClub" "history" "LHamperClub$History;" ∈ Tg := Tg_mem (List.mem_of_getElem? (i := 263) (by decide +kernel)) (by decide +kernel)
theorem tb_253 : Cond.fieldLink "HamperClub" 26 "HamperClub" "orders" "LHamperClub$Orders;" ∈ Tg := Tg_mem (List.mem_of_getElem? (i := 264) (by decide +kernel)) (by decide +kernel)
theorem tb_254 : Cond.fieldLink "HamperClub" 33 "HamperClub" "trial" "LHamperClub$Club;" ∈ Tg := Tg_mem (List.mem_of_getElem? (i := 265) (by decide +kernel)) (by decide +kernel)
theorem tb_255 : Cond.laysFinal "HamperClub" "HamperClub" "state" "LHamperClub$State;" ∈ Tg := Tg_mem (List.mem_of_getElem? (i := 266) (by decide +kernel)) (by decide +kernel)
theorem tb_257 : Cond.laysFinal "HamperClub" "HamperClub" "history" "LHamperClub$History;" ∈ Tg := Tg_mem (List.mem_of_getElem? (i := 268) (by decide +kernel)) (by decide +kernel)
theorem tb_259 : Cond.laysFinal "HamperClub" "HamperClub" "orders" "LHamperClub$Orders;" ∈ Tg := Tg_mem (List.mem_of_getElem? (i := 270) (by decide +kernel)) (by decide +kernel)
theorem tb_261 : Cond.laysFinal "HamperClub" "HamperClub" "trial" "LHamperClub$Club;" ∈ Tg := Tg_mem (List.mem_of_getElem? (i := 272) (by decide +kernel)) (by decide +kernel)
theorem tb_264 : Cond.methodLink "HamperClubLaw" 60 y_Ham_join ∈ Tg := Tg_mem (List.mem_of_getElem? (i := 275) (by decide +kernel)) (by decide +kernel)
theorem tb_265 : Cond.instanceMethod y_Ham_join ∈ Tg := Tg_mem (List.mem_of_getElem? (i := 276) (by decide +kernel)) (by decide +kernel)
theorem tb_266 : Cond.selects "HamperClub" y_Ham_join y_Ham_join ∈ Tg := Tg_mem (List.mem_of_getElem? (i := 277) (by decide +kernel)) (by decide +kernel)
theorem tb_267 : Cond.code y_Ham_join prog_1_method_2_code 1 (Option.some .int) ∈ Tg := Tg_mem (List.mem_of_getElem? (i := 278) (by decide +kernel)) (by decide +kernel)
theorem tb_268 : Cond.methodLink "HamperClub" 37 y_His_draft ∈ Tg := Tg_mem (List.mem_of_getElem? (i := 279) (by decide +kernel)) (by decide +kernel)
theorem tb_269 : Cond.instanceMethod y_His_draft ∈ Tg := Tg_mem (List.mem_of_getElem? (i := 280) (by decide +kernel)) (by decide +kernel)
theorem tb_270 : Cond.selects "HamperClub$History" y_His_draft y_His_draft ∈ Tg := Tg_mem (List.mem_of_getElem? (i := 281) (by decide +kernel)) (by decide +kernel)
theorem tb_271 : Cond.code y_His_draft prog_6_method_2_code 3 none ∈ Tg := Tg_mem (List.mem_of_getElem? (i := 282) (by decide +kernel)) (by decide +kernel)
theorem tb_272 : Cond.methodLink "HamperClub$History" 22 y_Sta_copyFrom ∈ Tg := Tg_mem (List.mem_of_getElem? (i := 283) (by decide +kernel)) (by decide +kernel)
theorem tb_273 : Cond.instanceMethod y_Sta_copyFrom ∈ Tg := Tg_mem (List.mem_of_getElem? (i := 284) (by decide +kernel)) (by decide +kernel)
theorem tb_274 : Cond.selects "HamperClub$State" y_Sta_copyFrom y_Sta_copyFrom ∈ Tg := Tg_mem (List.mem_of_getElem? (i := 285) (by decide +kernel)) (by decide +kernel)
theorem tb_275 : Cond.code y_Sta_copyFrom prog_9_method_2_code 2 none ∈ Tg := Tg_mem (List.mem_of_getElem? (i := 286) (by decide +kernel)) (by decide +kernel)
theorem tb_276 : Cond.methodLink "HamperClub$State" 28 y_Clb_copyFrom ∈ Tg := Tg_mem (List.mem_of_getElem? (i := 287) (by decide +kernel)) (by decide +kernel)
theorem tb_277 : Cond.instanceMethod y_Clb_copyFrom ∈ Tg := Tg_mem (List.mem_of_getElem? (i := 288) (by decide +kernel)) (by decide +kernel)
theorem tb_278 : Cond.selects "HamperClub$Club" y_Clb_copyFrom y_Clb_copyFrom ∈ Tg := Tg_mem (List.mem_of_getElem? (i := 289) (by decide +kernel)) (by decide +kernel)
theorem tb_279 : Cond.code y_Clb_copyFrom prog_4_method_2_code 2 none ∈ Tg := Tg_mem (List.mem_of_getElem? (i := 290) (by decide +kernel)) (by decide +kernel)
theorem tb_280 : Cond.methodLink "HamperClub$Club" 46 y_Crd_copyFrom ∈ Tg := Tg_mem (List.mem_of_getElem? (i := 291) (by decide +kernel)) (by decide +kernel)
theorem tb_281 : Cond.instanceMethod y_Crd_copyFrom ∈ Tg := Tg_mem (List.mem_of_getElem? (i := 292) (by decide +kernel)) (by decide +kernel)
theorem tb_282 : Cond.selects "HamperClub$Cards" y_Crd_copyFrom y_Crd_copyFrom ∈ Tg := Tg_mem (List.mem_of_getElem? (i := 293) (by decide +kernel)) (by decide +kernel)
theorem tb_283 : Cond.code y_Crd_copyFrom prog_3_method_2_code 2 none ∈ Tg := Tg_mem (List.mem_of_getElem? (i := 294) (by decide +kernel)) (by decide +kernel)
theorem tb_284 : Cond.methodLink "HamperClub$Cards" 47 arraycopyName ∈ Tg := Tg_mem (List.mem_of_getElem? (i := 295) (by decide +kernel)) (by decide +kernel)
theorem tb_285 : Cond.methodLink "HamperClub$Club" 50 y_Hmp_copyFrom ∈ Tg := Tg_mem (List.mem_of_getElem? (i := 296) (by decide +kernel)) (by decide +kernel)
theorem tb_286 : Cond.instanceMethod y_Hmp_copyFrom ∈ Tg := Tg_mem (List.mem_of_getElem? (i := 297) (by decide +kernel)) (by decide +kernel)
theorem tb_287 : Cond.selects "HamperClub$Hampers" y_Hmp_copyFrom y_Hmp_copyFrom ∈ Tg := Tg_mem (List.mem_of_getElem? (i := 298) (by decide +kernel)) (by decide +kernel)
theorem tb_288 : Cond.code y_Hmp_copyFrom prog_5_method_2_code 2 none ∈ Tg := Tg_mem (List.mem_of_getElem? (i := 299) (by decide +kernel)) (by decide +kernel)
theorem tb_289 : Cond.methodLink "HamperClub$Club" 53 y_Acc_copyFrom ∈ Tg := Tg_mem (List.mem_of_getElem? (i := 300) (by decide +kernel)) (by decide +kernel)
theorem tb_290 : Cond.instanceMethod y_Acc_copyFrom ∈ Tg := Tg_mem (List.mem_of_getElem? (i := 301) (by decide +kernel)) (by decide +kernel)
theorem tb_291 : Cond.selects "HamperClub$Accounts" y_Acc_copyFrom y_Acc_copyFrom ∈ Tg := Tg_mem (List.mem_of_getElem? (i := 302) (by decide +kernel)) (by decide +kernel)
theorem tb_292 : Cond.code y_Acc_copyFrom prog_2_method_2_code 2 none ∈ Tg := Tg_mem (List.mem_of_getElem? (i := 303) (by decide +kernel)) (by decide +kernel)
theorem tb_293 : Cond.methodLink "HamperClub$State" 32 y_Snp_copyFrom ∈ Tg := Tg_mem (List.mem_of_getElem? (i := 304) (by decide +kernel)) (by decide +kernel)
theorem tb_294 : Cond.instanceMethod y_Snp_copyFrom ∈ Tg := Tg_mem (List.mem_of_getElem? (i := 305) (by decide +kernel)) (by decide +kernel)
theorem tb_295 : Cond.selects "HamperClub$Snapshot" y_Snp_copyFrom y_Snp_copyFrom ∈ Tg := Tg_mem (List.mem_of_getElem? (i := 306) (by decide +kernel)) (by decide +kernel)
theorem tb_296 : Cond.code y_Snp_copyFrom prog_8_method_2_code 2 none ∈ Tg := Tg_mem (List.mem_of_getElem? (i := 307) (by decide +kernel)) (by decide +kernel)
theorem tb_297 : Cond.methodLink "HamperClub$Snapshot" 20 y_Clb_copyFrom ∈ Tg := Tg_mem (List.mem_of_getElem? (i := 308) (by decide +kernel)) (by decide +kernel)
theorem tb_298 : Cond.methodLink "HamperClub" 44 y_Clb_addMember ∈ Tg := Tg_mem (List.mem_of_getElem? (i := 309) (by decide +kernel)) (by decide +kernel)
theorem tb_299 : Cond.instanceMethod y_Clb_addMember ∈ Tg := Tg_mem (List.mem_of_getElem? (i := 310) (by decide +kernel)) (by decide +kernel)
theorem tb_300 : Cond.selects "HamperClub$Club" y_Clb_addMember y_Clb_addMember ∈ Tg := Tg_mem (List.mem_of_getElem? (i := 311) (by decide +kernel)) (by decide +kernel)
theorem tb_301 : Cond.code y_Clb_addMember prog_4_method_3_code 2 (Option.some .int) ∈ Tg := Tg_mem (List.mem_of_getElem? (i := 312) (by decide +kernel)) (by decide +kernel)
theorem tb_302 : Cond.methodLink "HamperClub" 48 y_Ham_recorded ∈ Tg := Tg_mem (List.mem_of_getElem? (i := 313) (by decide +kernel)) (by decide +kernel)
theorem tb_304 : Cond.instanceMethod y_Ham_recorded ∈ Tg := Tg_mem (List.mem_of_getElem? (i := 315) (by decide +kernel)) (by decide +kernel)
theorem tb_305 : Cond.code y_Ham_recorded prog_1_method_26_code 2 (Option.some .int) ∈ Tg := Tg_mem (List.mem_of_getElem? (i := 316) (by decide +kernel)) (by decide +kernel)
theorem tb_306 : Cond.methodLink "HamperClub" 178 y_His_keepDraft ∈ Tg := Tg_mem (List.mem_of_getElem? (i := 317) (by decide +kernel)) (by decide +kernel)
theorem tb_307 : Cond.instanceMethod y_His_keepDraft ∈ Tg := Tg_mem (List.mem_of_getElem? (i := 318) (by decide +kernel)) (by decide +kernel)
theorem tb_308 : Cond.selects "HamperClub$History" y_His_keepDraft y_His_keepDraft ∈ Tg := Tg_mem (List.mem_of_getElem? (i := 319) (by decide +kernel)) (by decide +kernel)
theorem tb_309 : Cond.code y_His_keepDraft prog_6_method_3_code 1 none ∈ Tg := Tg_mem (List.mem_of_getElem? (i := 320) (by decide +kernel)) (by decide +kernel)
theorem tb_310 : Cond.methodLink "HamperClub$History" 29 y_Mth_min ∈ Tg := Tg_mem (List.mem_of_getElem? (i := 321) (by decide +kernel)) (by decide +kernel)
theorem tb_311 : Cond.static y_Mth_min ∈ Tg := Tg_mem (List.mem_of_getElem? (i := 322) (by decide +kernel)) (by decide +kernel)
theorem tb_312 : Cond.code y_Mth_min prog_13_method_69_code 2 (Option.some .int) ∈ Tg := Tg_mem (List.mem_of_getElem? (i := 323) (by decide +kernel)) (by decide +kernel)
theorem tb_313 : Cond.methodLink "HamperClubLaw" 63 y_Ham_stick ∈ Tg := Tg_mem (List.mem_of_getElem? (i := 324) (by decide +kernel)) (by decide +kernel)
theorem tb_314 : Cond.instanceMethod y_Ham_stick ∈ Tg := Tg_mem (List.mem_of_getElem? (i := 325) (by decide +kernel)) (by decide +kernel)
theorem tb_315 : Cond.selects "HamperClub" y_Ham_stick y_Ham_stick ∈ Tg := Tg_mem (List.mem_of_getElem? (i := 326) (by decide +kernel)) (by decide +kernel)
theorem tb_316 : Cond.code y_Ham_stick prog_1_method_3_code 3 (Option.some .int) ∈ Tg := Tg_mem (List.mem_of_getElem? (i := 327) (by decide +kernel)) (by decide +kernel)
theorem tb_317 : Cond.methodLink "HamperClub" 52 y_Clb_stickStamps ∈ Tg := Tg_mem (List.mem_of_getElem? (i := 328) (by decide +kernel)) (by decide +kernel)
theorem tb_318 : Cond.instanceMethod y_Clb_stickStamps ∈ Tg := Tg_mem (List.mem_of_getElem? (i := 329) (by decide +kernel)) (by decide +kernel)
theorem tb_319 : Cond.selects "HamperClub$Club" y_Clb_stickStamps y_Clb_stickStamps ∈ Tg := Tg_mem (List.mem_of_getElem? (i := 330) (by decide +kernel)) (by decide +kernel)
theorem tb_320 : Cond.code y_Clb_stickStamps prog_4_method_4_code 3 (Option.some .int) ∈ Tg := Tg_mem (List.mem_of_getElem? (i := 331) (by decide +kernel)) (by decide +kernel)
theorem tb_321 : Cond.methodLink "HamperClub$Club" 63 y_Crd_exists ∈ Tg := Tg_mem (List.mem_of_getElem? (i := 332) (by decide +kernel)) (by decide +kernel)
theorem tb_322 : Cond.instanceMethod y_Crd_exists ∈ Tg := Tg_mem (List.mem_of_getElem? (i := 333) (by decide +kernel)) (by decide +kernel)
theorem tb_323 : Cond.selects "HamperClub$Cards" y_Crd_exists y_Crd_exists ∈ Tg := Tg_mem (List.mem_of_getElem? (i := 334) (by decide +kernel)) (by decide +kernel)
theorem tb_324 : Cond.code y_Crd_exists prog_3_method_3_code 2 (Option.some .boolean) ∈ Tg := Tg_mem (List.mem_of_getElem? (i := 335) (by decide +kernel)) (by decide +kernel)
theorem tb_325 : Cond.methodLink "HamperClub$Club" 67 y_Crd_isInHand ∈ Tg := Tg_mem (List.mem_of_getElem? (i := 336) (by decide +kernel)) (by decide +kernel)
theorem tb_326 : Cond.instanceMethod y_Crd_isInHand ∈ Tg := Tg_mem (List.mem_of_getElem? (i := 337) (by decide +kernel)) (by decide +kernel)
theorem tb_327 : Cond.selects "HamperClub$Cards" y_Crd_isInHand y_Crd_isInHand ∈ Tg := Tg_mem (List.mem_of_getElem? (i := 338) (by decide +kernel)) (by decide +kernel)
theorem tb_328 : Cond.code y_Crd_isInHand prog_3_method_4_code 2 (Option.some .boolean) ∈ Tg := Tg_mem (List.mem_of_getElem? (i := 339) (by decide +kernel)) (by decide +kernel)
theorem tb_329 : Cond.methodLink "HamperClub$Club" 70 y_Crd_isGoodIn ∈ Tg := Tg_mem (List.mem_of_getElem? (i := 340) (by decide +kernel)) (by decide +kernel)
theorem tb_330 : Cond.instanceMethod y_Crd_isGoodIn ∈ Tg := Tg_mem (List.mem_of_getElem? (i := 341) (by decide +kernel)) (by decide +kernel)
theorem tb_331 : Cond.selects "HamperClub$Cards" y_Crd_isGoodIn y_Crd_isGoodIn ∈ Tg := Tg_mem (List.mem_of_getElem? (i := 342) (by decide +kernel)) (by decide +kernel)
theorem tb_332 : Cond.code y_Crd_isGoodIn prog_3_method_5_code 3 (Option.some .boolean) ∈ Tg := Tg_mem (List.mem_of_getElem? (i := 343) (by decide +kernel)) (by decide +kernel)
theorem tb_333 : Cond.methodLink "HamperClub$Club" 74 y_Crd_makeGood ∈ Tg := Tg_mem (List.mem_of_getElem? (i := 344) (by decide +kernel)) (by decide +kernel)
theorem tb_334 : Cond.instanceMethod y_Crd_makeGood ∈ Tg := Tg_mem (List.mem_of_getElem? (i := 345) (by decide +kernel)) (by decide +kernel)
theorem tb_335 : Cond.selects "HamperClub$Cards" y_Crd_makeGood y_Crd_makeGood ∈ Tg := Tg_mem (List.mem_of_getElem? (i := 346) (by decide +kernel)) (by decide +kernel)
theorem tb_336 : Cond.code y_Crd_makeGood prog_3_method_11_code 3 none ∈ Tg := Tg_mem (List.mem_of_getElem? (i := 347) (by decide +kernel)) (by decide +kernel)
theorem tb_337 : Cond.methodLink "HamperClub$Club" 81 y_Acc_takeIn ∈ Tg := Tg_mem (List.mem_of_getElem? (i := 348) (by decide +kernel)) (by decide +kernel)
theorem tb_338 : Cond.instanceMethod y_Acc_takeIn ∈ Tg := Tg_mem (List.mem_of_getElem? (i := 349) (by decide +kernel)) (by decide +kernel)
theorem tb_339 : Cond.selects "HamperClub$Accounts" y_Acc_takeIn y_Acc_takeIn ∈ Tg := Tg_mem (List.mem_of_getElem? (i := 350) (by decide +kernel)) (by decide +kernel)
theorem tb_340 : Cond.code y_Acc_takeIn prog_2_method_3_code 2 none ∈ Tg := Tg_mem (List.mem_of_getElem? (i := 351) (by decide +kernel)) (by decide +kernel)
theorem tb_341 : Cond.methodLink "HamperClubLaw" 78 y_Ham_setHamper ∈ Tg := Tg_mem (List.mem_of_getElem? (i := 352) (by decide +kernel)) (by decide +kernel)
theorem tb_342 : Cond.instanceMethod y_Ham_setHamper ∈ Tg := Tg_mem (List.mem_of_getElem? (i := 353) (by decide +kernel)) (by decide +kernel)
theorem tb_343 : Cond.selects "HamperClub" y_Ham_setHamper y_Ham_setHamper ∈ Tg := Tg_mem (List.mem_of_getElem? (i := 354) (by decide +kernel)) (by decide +kernel)
theorem tb_344 : Cond.code y_Ham_setHamper prog_1_method_7_code 4 (Option.some .int) ∈ Tg := Tg_mem (List.mem_of_getElem? (i := 355) (by decide +kernel)) (by decide +kernel)
theorem tb_345 : Cond.methodLink "HamperClub" 65 y_Clb_changeKind ∈ Tg := Tg_mem (List.mem_of_getElem? (i := 356) (by decide +kernel)) (by decide +kernel)
theorem tb_346 : Cond.instanceMethod y_Clb_changeKind ∈ Tg := Tg_mem (List.mem_of_getElem? (i := 357) (by decide +kernel)) (by decide +kernel)
theorem tb_347 : Cond.selects "HamperClub$Club" y_Clb_changeKind y_Clb_changeKind ∈ Tg := Tg_mem (List.mem_of_getElem? (i := 358) (by decide +kernel)) (by decide +kernel)
theorem tb_348 : Cond.code y_Clb_changeKind prog_4_method_8_code 7 (Option.some .int) ∈ Tg := Tg_mem (List.mem_of_getElem? (i := 359) (by decide +kernel)) (by decide +kernel)
theorem tb_350 : Cond.static y_Ham_isKind ∈ Tg := Tg_mem (List.mem_of_getElem? (i := 361) (by decide +kernel)) (by decide +kernel)
theorem tb_351 : Cond.code y_Ham_isKind prog_1_method_28_code 1 (Option.some .boolean) ∈ Tg := Tg_mem (List.mem_of_getElem? (i := 362) (by decide +kernel)) (by decide +kernel)
theorem tb_352 : Cond.methodLink "HamperClubLaw" 57 y_Ham_choose ∈ Tg := Tg_mem (List.mem_of_getElem? (i := 363) (by decide +kernel)) (by decide +kernel)
theorem tb_353 : Cond.instanceMethod y_Ham_choose ∈ Tg := Tg_mem (List.mem_of_getElem? (i := 364) (by decide +kernel)) (by decide +kernel)
theorem tb_354 : Cond.selects "HamperClub" y_Ham_choose y_Ham_choose ∈ Tg := Tg_mem (List.mem_of_getElem? (i := 365) (by decide +kernel)) (by decide +kernel)
theorem tb_355 : Cond.code y_Ham_choose prog_1_method_8_code 3 (Option.some .int) ∈ Tg := Tg_mem (List.mem_of_getElem? (i := 366) (by decide +kernel)) (by decide +kernel)
theorem tb_356 : Cond.methodLink "HamperClub" 69 y_Clb_chooseKind ∈ Tg := Tg_mem (List.mem_of_getElem? (i := 367) (by decide +kernel)) (by decide +kernel)
theorem tb_357 : Cond.instanceMethod y_Clb_chooseKind ∈ Tg := Tg_mem (List.mem_of_getElem? (i := 368) (by decide +kernel)) (by decide +kernel)
theorem tb_358 : Cond.selects "HamperClub$Club" y_Clb_chooseKind y_Clb_chooseKind ∈ Tg := Tg_mem (List.mem_of_getElem? (i := 369) (by decide +kernel)) (by decide +kernel)
theorem tb_359 : Cond.code y_Clb_chooseKind prog_4_method_9_code 4 (Option.some .int) ∈ Tg := Tg_mem (List.mem_of_getElem? (i := 370) (by decide +kernel)) (by decide +kernel)
theorem tb_360 : Cond.methodLink "HamperClub$Club" 118 y_Hmp_drop ∈ Tg := Tg_mem (List.mem_of_getElem? (i := 371) (by decide +kernel)) (by decide +kernel)
theorem tb_361 : Cond.instanceMethod y_Hmp_drop ∈ Tg := Tg_mem (List.mem_of_getElem? (i := 372) (by decide +kernel)) (by decide +kernel)
theorem tb_362 : Cond.selects "HamperClub$Hampers" y_Hmp_drop y_Hmp_drop ∈ Tg := Tg_mem (List.mem_of_getElem? (i := 373) (by decide +kernel)) (by decide +kernel)
theorem tb_363 : Cond.code y_Hmp_drop prog_5_method_9_code 6 (Option.some .int) ∈ Tg := Tg_mem (List.mem_of_getElem? (i := 374) (by decide +kernel)) (by decide +kernel)
theorem tb_364 : Cond.methodLink "HamperClub$Hampers" 56 y_Hmp_memberInRow ∈ Tg := Tg_mem (List.mem_of_getElem? (i := 375) (by decide +kernel)) (by decide +kernel)
theorem tb_365 : Cond.instanceMethod y_Hmp_memberInRow ∈ Tg := Tg_mem (List.mem_of_getElem? (i := 376) (by decide +kernel)) (by decide +kernel)
theorem tb_366 : Cond.selects "HamperClub$Hampers" y_Hmp_memberInRow y_Hmp_memberInRow ∈ Tg := Tg_mem (List.mem_of_getElem? (i := 377) (by decide +kernel)) (by decide +kernel)
theorem tb_367 : Cond.code y_Hmp_memberInRow prog_5_method_6_code 4 (Option.some .int) ∈ Tg := Tg_mem (List.mem_of_getElem? (i := 378) (by decide +kernel)) (by decide +kernel)
theorem tb_368 : Cond.methodLink "HamperClub$Club" 121 y_Hmp_put ∈ Tg := Tg_mem (List.mem_of_getElem? (i := 379) (by decide +kernel)) (by decide +kernel)
theorem tb_369 : Cond.instanceMethod y_Hmp_put ∈ Tg := Tg_mem (List.mem_of_getElem? (i := 380) (by decide +kernel)) (by decide +kernel)
theorem tb_370 : Cond.selects "HamperClub$Hampers" y_Hmp_put y_Hmp_put ∈ Tg := Tg_mem (List.mem_of_getElem? (i := 381) (by decide +kernel)) (by decide +kernel)
theorem tb_371 : Cond.code y_Hmp_put prog_5_method_8_code 4 (Option.some .int) ∈ Tg := Tg_mem (List.mem_of_getElem? (i := 382) (by decide +kernel)) (by decide +kernel)
theorem tb_372 : Cond.methodLink "HamperClub$Hampers" 53 y_Hmp_rowLength ∈ Tg := Tg_mem (List.mem_of_getElem? (i := 383) (by decide +kernel)) (by decide +kernel)
theorem tb_373 : Cond.instanceMethod y_Hmp_rowLength ∈ Tg := Tg_mem (List.mem_of_getElem? (i := 384) (by decide +kernel)) (by decide +kernel)
theorem tb_374 : Cond.selects "HamperClub$Hampers" y_Hmp_rowLength y_Hmp_rowLength ∈ Tg := Tg_mem (List.mem_of_getElem? (i := 385) (by decide +kernel)) (by decide +kernel)
theorem tb_375 : Cond.code y_Hmp_rowLength prog_5_method_5_code 4 (Option.some .int) ∈ Tg := Tg_mem (List.mem_of_getElem? (i := 386) (by decide +kernel)) (by decide +kernel)
theorem tb_376 : Cond.methodLink "HamperClubLaw" 91 y_Ham_week ∈ Tg := Tg_mem (List.mem_of_getElem? (i := 387) (by decide +kernel)) (by decide +kernel)
theorem tb_377 : Cond.instanceMethod y_Ham_week ∈ Tg := Tg_mem (List.mem_of_getElem? (i := 388) (by decide +kernel)) (by decide +kernel)
theorem tb_378 : Cond.selects "HamperClub" y_Ham_week y_Ham_week ∈ Tg := Tg_mem (List.mem_of_getElem? (i := 389) (by decide +kernel)) (by decide +kernel)
theorem tb_379 : Cond.code y_Ham_week prog_1_method_10_code 1 (Option.some .int) ∈ Tg := Tg_mem (List.mem_of_getElem? (i := 390) (by decide +kernel)) (by decide +kernel)
theorem tb_380 : Cond.methodLink "HamperClub" 75 y_Clb_passWeek ∈ Tg := Tg_mem (List.mem_of_getElem? (i := 391) (by decide +kernel)) (by decide +kernel)
theorem tb_381 : Cond.instanceMethod y_Clb_passWeek ∈ Tg := Tg_mem (List.mem_of_getElem? (i := 392) (by decide +kernel)) (by decide +kernel)
theorem tb_382 : Cond.selects "HamperClub$Club" y_Clb_passWeek y_Clb_passWeek ∈ Tg := Tg_mem (List.mem_of_getElem? (i := 393) (by decide +kernel)) (by decide +kernel)
theorem tb_383 : Cond.code y_Clb_passWeek prog_4_method_11_code 2 (Option.some .int) ∈ Tg := Tg_mem (List.mem_of_getElem? (i := 394) (by decide +kernel)) (by decide +kernel)
theorem tb_384 : Cond.methodLink "HamperClub$Club" 124 y_Clb_replaceCards ∈ Tg := Tg_mem (List.mem_of_getElem? (i := 395) (by decide +kernel)) (by decide +kernel)
theorem tb_386 : Cond.instanceMethod y_Clb_replaceCards ∈ Tg := Tg_mem (List.mem_of_getElem? (i := 397) (by decide +kernel)) (by decide +kernel)
theorem tb_387 : Cond.code y_Clb_replaceCards prog_4_method_12_code 4 none ∈ Tg := Tg_mem (List.mem_of_getElem? (i := 398) (by decide +kernel)) (by decide +kernel)
theorem tb_388 : Cond.methodLink "HamperClub$Club" 127 y_Clb_dropLapsed ∈ Tg := Tg_mem (List.mem_of_getElem? (i := 399) (by decide +kernel)) (by decide +kernel)
theorem tb_390 : Cond.instanceMethod y_Clb_dropLapsed ∈ Tg := Tg_mem (List.mem_of_getElem? (i := 401) (by decide +kernel)) (by decide +kernel)
theorem tb_391 : Cond.code y_Clb_dropLapsed prog_4_method_13_code 4 (Option.some .int) ∈ Tg := Tg_mem (List.mem_of_getElem? (i := 402) (by decide +kernel)) (by decide +kernel)
theorem tb_392 : Cond.methodLink "HamperClub$Club" 131 y_Crd_hasLapsed ∈ Tg := Tg_mem (List.mem_of_getElem? (i := 403) (by decide +kernel)) (by decide +kernel)
theorem tb_393 : Cond.instanceMethod y_Crd_hasLapsed ∈ Tg := Tg_mem (List.mem_of_getElem? (i := 404) (by decide +kernel)) (by decide +kernel)
theorem tb_394 : Cond.selects "HamperClub$Cards" y_Crd_hasLapsed y_Crd_hasLapsed ∈ Tg := Tg_mem (List.mem_of_getElem? (i := 405) (by decide +kernel)) (by decide +kernel)
theorem tb_395 : Cond.code y_Crd_hasLapsed prog_3_method_13_code 4 (Option.some .boolean) ∈ Tg := Tg_mem (List.mem_of_getElem? (i := 406) (by decide +kernel)) (by decide +kernel)
theorem tb_396 : Cond.methodLink "HamperClubLaw" 82 y_Ham_take ∈ Tg := Tg_mem (List.mem_of_getElem? (i := 407) (by decide +kernel)) (by decide +kernel)
theorem tb_397 : Cond.instanceMethod y_Ham_take ∈ Tg := Tg_mem (List.mem_of_getElem? (i := 408) (by decide +kernel)) (by decide +kernel)
theorem tb_398 : Cond.selects "HamperClub" y_Ham_take y_Ham_take ∈ Tg := Tg_mem (List.mem_of_getElem? (i := 409) (by decide +kernel)) (by decide +kernel)
theorem tb_399 : Cond.code y_Ham_take prog_1_method_12_code 2 (Option.some .int) ∈ Tg := Tg_mem (List.mem_of_getElem? (i := 410) (by decide +kernel)) (by decide +kernel)
theorem tb_400 : Cond.methodLink "HamperClub" 81 y_Sta_takeSnapshot ∈ Tg := Tg_mem (List.mem_of_getElem? (i := 411) (by decide +kernel)) (by decide +kernel)
theorem tb_401 : Cond.instanceMethod y_Sta_takeSnapshot ∈ Tg := Tg_mem (List.mem_of_getElem? (i := 412) (by decide +kernel)) (by decide +kernel)
theorem tb_402 : Cond.selects "HamperClub$State" y_Sta_takeSnapshot y_Sta_takeSnapshot ∈ Tg := Tg_mem (List.mem_of_getElem? (i := 413) (by decide +kernel)) (by decide +kernel)
theorem tb_403 : Cond.code y_Sta_takeSnapshot prog_9_method_4_code 3 (Option.some .int) ∈ Tg := Tg_mem (List.mem_of_getElem? (i := 414) (by decide +kernel)) (by decide +kernel)
theorem tb_404 : Cond.methodLink "HamperClubLaw" 85 y_Ham_restore ∈ Tg := Tg_mem (List.mem_of_getElem? (i := 415) (by decide +kernel)) (by decide +kernel)
theorem tb_405 : Cond.instanceMethod y_Ham_restore ∈ Tg := Tg_mem (List.mem_of_getElem? (i := 416) (by decide +kernel)) (by decide +kernel)
theorem tb_406 : Cond.selects "HamperClub" y_Ham_restore y_Ham_restore ∈ Tg := Tg_mem (List.mem_of_getElem? (i := 417) (by decide +kernel)) (by decide +kernel)
theorem tb_407 : Cond.code y_Ham_restore prog_1_method_13_code 2 (Option.some .int) ∈ Tg := Tg_mem (List.mem_of_getElem? (i := 418) (by decide +kernel)) (by decide +kernel)
theorem tb_408 : Cond.methodLink "HamperClub" 84 y_Sta_restoreSnapshot ∈ Tg := Tg_mem (List.mem_of_getElem? (i := 419) (by decide +kernel)) (by decide +kernel)
theorem tb_409 : Cond.instanceMethod y_Sta_restoreSnapshot ∈ Tg := Tg_mem (List.mem_of_getElem? (i := 420) (by decide +kernel)) (by decide +kernel)
theorem tb_410 : Cond.selects "HamperClub$State" y_Sta_restoreSnapshot y_Sta_restoreSnapshot ∈ Tg := Tg_mem (List.mem_of_getElem? (i := 421) (by decide +kernel)) (by decide +kernel)
theorem tb_411 : Cond.code y_Sta_restoreSnapshot prog_9_method_5_code 3 (Option.some .int) ∈ Tg := Tg_mem (List.mem_of_getElem? (i := 422) (by decide +kernel)) (by decide +kernel)
theorem tb_412 : Cond.methodLink "HamperClubLaw" 54 y_Ham_undo ∈ Tg := Tg_mem (List.mem_of_getElem? (i := 423) (by decide +kernel)) (by decide +kernel)
theorem tb_413 : Cond.instanceMethod y_Ham_undo ∈ Tg := Tg_mem (List.mem_of_getElem? (i := 424) (by decide +kernel)) (by decide +kernel)
theorem tb_414 : Cond.selects "HamperClub" y_Ham_undo y_Ham_undo ∈ Tg := Tg_mem (List.mem_of_getElem? (i := 425) (by decide +kernel)) (by decide +kernel)
theorem tb_415 : Cond.code y_Ham_undo prog_1_method_14_code 1 (Option.some .int) ∈ Tg := Tg_mem (List.mem_of_getElem? (i := 426) (by decide +kernel)) (by decide +kernel)
theorem tb_416 : Cond.methodLink "HamperClub" 87 y_His_putBackLatest ∈ Tg := Tg_mem (List.mem_of_getElem? (i := 427) (by decide +kernel)) (by decide +kernel)
theorem tb_417 : Cond.instanceMethod y_His_putBackLatest ∈ Tg := Tg_mem (List.mem_of_getElem? (i := 428) (by decide +kernel)) (by decide +kernel)
theorem tb_418 : Cond.selects "HamperClub$History" y_His_putBackLatest y_His_putBackLatest ∈ Tg := Tg_mem (List.mem_of_getElem? (i := 429) (by decide +kernel)) (by decide +kernel)
theorem tb_419 : Cond.code y_His_putBackLatest prog_6_method_4_code 3 (Option.some .boolean) ∈ Tg := Tg_mem (List.mem_of_getElem? (i := 430) (by decide +kernel)) (by decide +kernel)
theorem tb_420 : Cond.methodLink "HamperClubLaw" 99 y_Ham_append ∈ Tg := Tg_mem (List.mem_of_getElem? (i := 431) (by decide +kernel)) (by decide +kernel)
theorem tb_421 : Cond.instanceMethod y_Ham_append ∈ Tg := Tg_mem (List.mem_of_getElem? (i := 432) (by decide +kernel)) (by decide +kernel)
theorem tb_422 : Cond.selects "HamperClub" y_Ham_append y_Ham_append ∈ Tg := Tg_mem (List.mem_of_getElem? (i := 433) (by decide +kernel)) (by decide +kernel)
theorem tb_423 : Cond.code y_Ham_append prog_1_method_15_code 2 (Option.some .int) ∈ Tg := Tg_mem (List.mem_of_getElem? (i := 434) (by decide +kernel)) (by decide +kernel)
theorem tb_424 : Cond.methodLink "HamperClub" 95 y_Ord_add ∈ Tg := Tg_mem (List.mem_of_getElem? (i := 435) (by decide +kernel)) (by decide +kernel)
theorem tb_425 : Cond.instanceMethod y_Ord_add ∈ Tg := Tg_mem (List.mem_of_getElem? (i := 436) (by decide +kernel)) (by decide +kernel)
theorem tb_426 : Cond.selects "HamperClub$Orders" y_Ord_add y_Ord_add ∈ Tg := Tg_mem (List.mem_of_getElem? (i := 437) (by decide +kernel)) (by decide +kernel)
theorem tb_427 : Cond.code y_Ord_add prog_7_method_2_code 2 (Option.some .boolean) ∈ Tg := Tg_mem (List.mem_of_getElem? (i := 438) (by decide +kernel)) (by decide +kernel)
theorem tb_428 : Cond.methodLink "HamperClubLaw" 12 y_Ham_count ∈ Tg := Tg_mem (List.mem_of_getElem? (i := 439) (by decide +kernel)) (by decide +kernel)
theorem tb_429 : Cond.instanceMethod y_Ham_count ∈ Tg := Tg_mem (List.mem_of_getElem? (i := 440) (by decide +kernel)) (by decide +kernel)
theorem tb_430 : Cond.selects "HamperClub" y_Ham_count y_Ham_count ∈ Tg := Tg_mem (List.mem_of_getElem? (i := 441) (by decide +kernel)) (by decide +kernel)
theorem tb_431 : Cond.code y_Ham_count prog_1_method_18_code 2 (Option.some .int) ∈ Tg := Tg_mem (List.mem_of_getElem? (i := 442) (by decide +kernel)) (by decide +kernel)
theorem tb_432 : Cond.methodLink "HamperClub" 113 y_Sta_snapshots ∈ Tg := Tg_mem (List.mem_of_getElem? (i := 443) (by decide +kernel)) (by decide +kernel)
theorem tb_433 : Cond.instanceMethod y_Sta_snapshots ∈ Tg := Tg_mem (List.mem_of_getElem? (i := 444) (by decide +kernel)) (by decide +kernel)
theorem tb_434 : Cond.selects "HamperClub$State" y_Sta_snapshots y_Sta_snapshots ∈ Tg := Tg_mem (List.mem_of_getElem? (i := 445) (by decide +kernel)) (by decide +kernel)
theorem tb_435 : Cond.code y_Sta_snapshots prog_9_method_3_code 1 (Option.some .int) ∈ Tg := Tg_mem (List.mem_of_getElem? (i := 446) (by decide +kernel)) (by decide +kernel)
theorem tb_436 : Cond.methodLink "HamperClub" 116 y_Clb_tell ∈ Tg := Tg_mem (List.mem_of_getElem? (i := 447) (by decide +kernel)) (by decide +kernel)
theorem tb_437 : Cond.instanceMethod y_Clb_tell ∈ Tg := Tg_mem (List.mem_of_getElem? (i := 448) (by decide +kernel)) (by decide +kernel)
theorem tb_438 : Cond.selects "HamperClub$Club" y_Clb_tell y_Clb_tell ∈ Tg := Tg_mem (List.mem_of_getElem? (i := 449) (by decide +kernel)) (by decide +kernel)
theorem tb_439 : Cond.code y_Clb_tell prog_4_method_19_code 2 (Option.some .int) ∈ Tg := Tg_mem (List.mem_of_getElem? (i := 450) (by decide +kernel)) (by decide +kernel)
theorem tb_440 : Cond.methodLink "HamperClub$Club" 171 y_Crd_allStamps ∈ Tg := Tg_mem (List.mem_of_getElem? (i := 451) (by decide +kernel)) (by decide +kernel)
theorem tb_441 : Cond.instanceMethod y_Crd_allStamps ∈ Tg := Tg_mem (List.mem_of_getElem? (i := 452) (by decide +kernel)) (by decide +kernel)
theorem tb_442 : Cond.selects "HamperClub$Cards" y_Crd_allStamps y_Crd_allStamps ∈ Tg := Tg_mem (List.mem_of_getElem? (i := 453) (by decide +kernel)) (by decide +kernel)
theorem tb_443 : Cond.code y_Crd_allStamps prog_3_method_8_code 3 (Option.some .int) ∈ Tg := Tg_mem (List.mem_of_getElem? (i := 454) (by decide +kernel)) (by decide +kernel)
theorem tb_444 : Cond.methodLink "HamperClub$Club" 183 y_Crd_mislaidCards ∈ Tg := Tg_mem (List.mem_of_getElem? (i := 455) (by decide +kernel)) (by decide +kernel)
theorem tb_445 : Cond.instanceMethod y_Crd_mislaidCards ∈ Tg := Tg_mem (List.mem_of_getElem? (i := 456) (by decide +kernel)) (by decide +kernel)
theorem tb_446 : Cond.selects "HamperClub$Cards" y_Crd_mislaidCards y_Crd_mislaidCards ∈ Tg := Tg_mem (List.mem_of_getElem? (i := 457) (by decide +kernel)) (by decide +kernel)
theorem tb_447 : Cond.code y_Crd_mislaidCards prog_3_method_9_code 3 (Option.some .int) ∈ Tg := Tg_mem (List.mem_of_getElem? (i := 458) (by decide +kernel)) (by decide +kernel)
theorem tb_448 : Cond.methodLink "HamperClub$Club" 186 y_Crd_drawnMembers ∈ Tg := Tg_mem (List.mem_of_getElem? (i := 459) (by decide +kernel)) (by decide +kernel)
theorem tb_449 : Cond.instanceMethod y_Crd_drawnMembers ∈ Tg := Tg_mem (List.mem_of_getElem? (i := 460) (by decide +kernel)) (by decide +kernel)
theorem tb_450 : Cond.selects "HamperClub$Cards" y_Crd_drawnMembers y_Crd_drawnMembers ∈ Tg := Tg_mem (List.mem_of_getElem? (i := 461) (by decide +kernel)) (by decide +kernel)
theorem tb_451 : Cond.code y_Crd_drawnMembers prog_3_method_10_code 3 (Option.some .int) ∈ Tg := Tg_mem (List.mem_of_getElem? (i := 462) (by decide +kernel)) (by decide +kernel)
theorem tb_452 : Cond.methodLink "HamperClubLaw" 25 y_Ham_member ∈ Tg := Tg_mem (List.mem_of_getElem? (i := 463) (by decide +kernel)) (by decide +kernel)
theorem tb_453 : Cond.instanceMethod y_Ham_member ∈ Tg := Tg_mem (List.mem_of_getElem? (i := 464) (by decide +kernel)) (by decide +kernel)
theorem tb_454 : Cond.selects "HamperClub" y_Ham_member y_Ham_member ∈ Tg := Tg_mem (List.mem_of_getElem? (i := 465) (by decide +kernel)) (by decide +kernel)
theorem tb_455 : Cond.code y_Ham_member prog_1_method_19_code 3 (Option.some .int) ∈ Tg := Tg_mem (List.mem_of_getElem? (i := 466) (by decide +kernel)) (by decide +kernel)
theorem tb_456 : Cond.methodLink "HamperClub" 119 y_Clb_tellOfMember ∈ Tg := Tg_mem (List.mem_of_getElem? (i := 467) (by decide +kernel)) (by decide +kernel)
end
section
/-! The words of the tables, each by its place; written by a program. -/
theorem tb_457 : Cond.instanceMethod y_Clb_tellOfMember ∈ Tg := Tg_mem (List.mem_of_getElem? (i := 468) (by decide +kernel)) (by decide +kernel)
theorem tb_458 : Cond.selects "HamperClub$Club" y_Clb_tellOfMember y_Clb_tellOfMember ∈ Tg := Tg_mem (List.mem_of_getElem? (i := 469) (by decide +kernel)) (by decide +kernel)
theorem tb_459 : Cond.code y_Clb_tellOfMember prog_4_method_20_code 3 (Option.some .int) ∈ Tg := Tg_mem (List.mem_of_getElem? (i := 470) (by decide +kernel)) (by decide +kernel)
theorem tb_460 : Cond.methodLink "HamperClub$Club" 150 y_Hmp_hasOneKept ∈ Tg := Tg_mem (List.mem_of_getElem? (i := 471) (by decide +kernel)) (by decide +kernel)
theorem tb_461 : Cond.instanceMethod y_Hmp_hasOneKept ∈ Tg := Tg_mem (List.mem_of_getElem? (i := 472) (by decide +kernel)) (by decide +kernel)
theorem tb_462 : Cond.selects "HamperClub$Hampers" y_Hmp_hasOneKept y_Hmp_hasOneKept ∈ Tg := Tg_mem (List.mem_of_getElem? (i := 473) (by decide +kernel)) (by decide +kernel)
theorem tb_463 : Cond.code y_Hmp_hasOneKept prog_5_method_3_code 2 (Option.some .boolean) ∈ Tg := Tg_mem (List.mem_of_getElem? (i := 474) (by decide +kernel)) (by decide +kernel)
theorem tb_464 : Cond.methodLink "HamperClub$Club" 196 y_Lng_bitCount ∈ Tg := Tg_mem (List.mem_of_getElem? (i := 475) (by decide +kernel)) (by decide +kernel)
theorem tb_465 : Cond.static y_Lng_bitCount ∈ Tg := Tg_mem (List.mem_of_getElem? (i := 476) (by decide +kernel)) (by decide +kernel)
theorem tb_466 : Cond.code y_Lng_bitCount prog_12_method_50_code 2 (Option.some .int) ∈ Tg := Tg_mem (List.mem_of_getElem? (i := 477) (by decide +kernel)) (by decide +kernel)
theorem tb_467 : Cond.constantLong "java/lang/Long" 314 6148914691236517205 ∈ Tg := Tg_mem (List.mem_of_getElem? (i := 478) (by decide +kernel)) (by decide +kernel)
theorem tb_468 : Cond.constantLong "java/lang/Long" 316 3689348814741910323 ∈ Tg := Tg_mem (List.mem_of_getElem? (i := 479) (by decide +kernel)) (by decide +kernel)
theorem tb_469 : Cond.constantLong "java/lang/Long" 318 1085102592571150095 ∈ Tg := Tg_mem (List.mem_of_getElem? (i := 480) (by decide +kernel)) (by decide +kernel)
theorem tb_470 : Cond.methodLink "HamperClub$Club" 202 y_Crd_rowOfGoodWeeks ∈ Tg := Tg_mem (List.mem_of_getElem? (i := 481) (by decide +kernel)) (by decide +kernel)
theorem tb_471 : Cond.instanceMethod y_Crd_rowOfGoodWeeks ∈ Tg := Tg_mem (List.mem_of_getElem? (i := 482) (by decide +kernel)) (by decide +kernel)
theorem tb_472 : Cond.selects "HamperClub$Cards" y_Crd_rowOfGoodWeeks y_Crd_rowOfGoodWeeks ∈ Tg := Tg_mem (List.mem_of_getElem? (i := 483) (by decide +kernel)) (by decide +kernel)
theorem tb_473 : Cond.code y_Crd_rowOfGoodWeeks prog_3_method_12_code 6 (Option.some .int) ∈ Tg := Tg_mem (List.mem_of_getElem? (i := 484) (by decide +kernel)) (by decide +kernel)
theorem tb_474 : Cond.methodLink "HamperClub$Cards" 57 y_Crd_isGoodIn ∈ Tg := Tg_mem (List.mem_of_getElem? (i := 485) (by decide +kernel)) (by decide +kernel)
theorem tb_475 : Cond.methodLink "HamperClubLaw" 33 y_Ham_would ∈ Tg := Tg_mem (List.mem_of_getElem? (i := 486) (by decide +kernel)) (by decide +kernel)
theorem tb_476 : Cond.instanceMethod y_Ham_would ∈ Tg := Tg_mem (List.mem_of_getElem? (i := 487) (by decide +kernel)) (by decide +kernel)
theorem tb_477 : Cond.selects "HamperClub" y_Ham_would y_Ham_would ∈ Tg := Tg_mem (List.mem_of_getElem? (i := 488) (by decide +kernel)) (by decide +kernel)
theorem tb_478 : Cond.code y_Ham_would prog_1_method_23_code 4 (Option.some .int) ∈ Tg := Tg_mem (List.mem_of_getElem? (i := 489) (by decide +kernel)) (by decide +kernel)
theorem tb_479 : Cond.methodLink "HamperClub" 126 y_Crd_exists ∈ Tg := Tg_mem (List.mem_of_getElem? (i := 490) (by decide +kernel)) (by decide +kernel)
theorem tb_480 : Cond.methodLink "HamperClub" 149 y_Clb_bonusOf ∈ Tg := Tg_mem (List.mem_of_getElem? (i := 491) (by decide +kernel)) (by decide +kernel)
theorem tb_481 : Cond.instanceMethod y_Clb_bonusOf ∈ Tg := Tg_mem (List.mem_of_getElem? (i := 492) (by decide +kernel)) (by decide +kernel)
theorem tb_482 : Cond.selects "HamperClub$Club" y_Clb_bonusOf y_Clb_bonusOf ∈ Tg := Tg_mem (List.mem_of_getElem? (i := 493) (by decide +kernel)) (by decide +kernel)
theorem tb_483 : Cond.code y_Clb_bonusOf prog_4_method_15_code 3 (Option.some .int) ∈ Tg := Tg_mem (List.mem_of_getElem? (i := 494) (by decide +kernel)) (by decide +kernel)
theorem tb_484 : Cond.methodLink "HamperClub$Club" 144 y_Crd_sharedStamps ∈ Tg := Tg_mem (List.mem_of_getElem? (i := 495) (by decide +kernel)) (by decide +kernel)
theorem tb_485 : Cond.instanceMethod y_Crd_sharedStamps ∈ Tg := Tg_mem (List.mem_of_getElem? (i := 496) (by decide +kernel)) (by decide +kernel)
theorem tb_486 : Cond.selects "HamperClub$Cards" y_Crd_sharedStamps y_Crd_sharedStamps ∈ Tg := Tg_mem (List.mem_of_getElem? (i := 497) (by decide +kernel)) (by decide +kernel)
theorem tb_487 : Cond.code y_Crd_sharedStamps prog_3_method_7_code 3 (Option.some .int) ∈ Tg := Tg_mem (List.mem_of_getElem? (i := 498) (by decide +kernel)) (by decide +kernel)
theorem tb_488 : Cond.methodLink "HamperClub$Cards" 53 y_Crd_shares ∈ Tg := Tg_mem (List.mem_of_getElem? (i := 499) (by decide +kernel)) (by decide +kernel)
theorem tb_489 : Cond.instanceMethod y_Crd_shares ∈ Tg := Tg_mem (List.mem_of_getElem? (i := 500) (by decide +kernel)) (by decide +kernel)
theorem tb_490 : Cond.selects "HamperClub$Cards" y_Crd_shares y_Crd_shares ∈ Tg := Tg_mem (List.mem_of_getElem? (i := 501) (by decide +kernel)) (by decide +kernel)
theorem tb_491 : Cond.code y_Crd_shares prog_3_method_6_code 2 (Option.some .boolean) ∈ Tg := Tg_mem (List.mem_of_getElem? (i := 502) (by decide +kernel)) (by decide +kernel)
theorem tb_492 : Cond.methodLink "HamperClub$Club" 147 y_Crd_shares ∈ Tg := Tg_mem (List.mem_of_getElem? (i := 503) (by decide +kernel)) (by decide +kernel)
theorem tb_493 : Cond.methodLink "HamperClub" 152 y_Clb_copyFrom ∈ Tg := Tg_mem (List.mem_of_getElem? (i := 504) (by decide +kernel)) (by decide +kernel)
theorem tb_494 : Cond.methodLink "HamperClub" 78 y_Clb_settleAll ∈ Tg := Tg_mem (List.mem_of_getElem? (i := 505) (by decide +kernel)) (by decide +kernel)
theorem tb_495 : Cond.instanceMethod y_Clb_settleAll ∈ Tg := Tg_mem (List.mem_of_getElem? (i := 506) (by decide +kernel)) (by decide +kernel)
theorem tb_496 : Cond.selects "HamperClub$Club" y_Clb_settleAll y_Clb_settleAll ∈ Tg := Tg_mem (List.mem_of_getElem? (i := 507) (by decide +kernel)) (by decide +kernel)
theorem tb_497 : Cond.code y_Clb_settleAll prog_4_method_14_code 2 (Option.some .int) ∈ Tg := Tg_mem (List.mem_of_getElem? (i := 508) (by decide +kernel)) (by decide +kernel)
theorem tb_498 : Cond.methodLink "HamperClub$Club" 134 y_Clb_bonusOf ∈ Tg := Tg_mem (List.mem_of_getElem? (i := 509) (by decide +kernel)) (by decide +kernel)
theorem tb_499 : Cond.methodLink "HamperClub$Club" 97 y_Clb_payMember ∈ Tg := Tg_mem (List.mem_of_getElem? (i := 510) (by decide +kernel)) (by decide +kernel)
theorem tb_501 : Cond.instanceMethod y_Clb_payMember ∈ Tg := Tg_mem (List.mem_of_getElem? (i := 512) (by decide +kernel)) (by decide +kernel)
theorem tb_502 : Cond.code y_Clb_payMember prog_4_method_18_code 3 none ∈ Tg := Tg_mem (List.mem_of_getElem? (i := 513) (by decide +kernel)) (by decide +kernel)
theorem tb_503 : Cond.methodLink "HamperClub$Club" 162 y_Acc_payOut ∈ Tg := Tg_mem (List.mem_of_getElem? (i := 514) (by decide +kernel)) (by decide +kernel)
theorem tb_504 : Cond.instanceMethod y_Acc_payOut ∈ Tg := Tg_mem (List.mem_of_getElem? (i := 515) (by decide +kernel)) (by decide +kernel)
theorem tb_505 : Cond.selects "HamperClub$Accounts" y_Acc_payOut y_Acc_payOut ∈ Tg := Tg_mem (List.mem_of_getElem? (i := 516) (by decide +kernel)) (by decide +kernel)
theorem tb_506 : Cond.code y_Acc_payOut prog_2_method_4_code 2 none ∈ Tg := Tg_mem (List.mem_of_getElem? (i := 517) (by decide +kernel)) (by decide +kernel)
theorem tb_507 : Cond.methodLink "HamperClub$Club" 138 y_Clb_handOutKind ∈ Tg := Tg_mem (List.mem_of_getElem? (i := 518) (by decide +kernel)) (by decide +kernel)
theorem tb_509 : Cond.instanceMethod y_Clb_handOutKind ∈ Tg := Tg_mem (List.mem_of_getElem? (i := 520) (by decide +kernel)) (by decide +kernel)
theorem tb_510 : Cond.code y_Clb_handOutKind prog_4_method_16_code 3 none ∈ Tg := Tg_mem (List.mem_of_getElem? (i := 521) (by decide +kernel)) (by decide +kernel)
theorem tb_511 : Cond.methodLink "HamperClub$Club" 153 y_Clb_handOutOne ∈ Tg := Tg_mem (List.mem_of_getElem? (i := 522) (by decide +kernel)) (by decide +kernel)
theorem tb_513 : Cond.instanceMethod y_Clb_handOutOne ∈ Tg := Tg_mem (List.mem_of_getElem? (i := 524) (by decide +kernel)) (by decide +kernel)
theorem tb_514 : Cond.code y_Clb_handOutOne prog_4_method_17_code 6 none ∈ Tg := Tg_mem (List.mem_of_getElem? (i := 525) (by decide +kernel)) (by decide +kernel)
theorem tb_515 : Cond.methodLink "HamperClub$Club" 156 y_Acc_payShop ∈ Tg := Tg_mem (List.mem_of_getElem? (i := 526) (by decide +kernel)) (by decide +kernel)
theorem tb_516 : Cond.instanceMethod y_Acc_payShop ∈ Tg := Tg_mem (List.mem_of_getElem? (i := 527) (by decide +kernel)) (by decide +kernel)
theorem tb_517 : Cond.selects "HamperClub$Accounts" y_Acc_payShop y_Acc_payShop ∈ Tg := Tg_mem (List.mem_of_getElem? (i := 528) (by decide +kernel)) (by decide +kernel)
theorem tb_518 : Cond.code y_Acc_payShop prog_2_method_5_code 2 none ∈ Tg := Tg_mem (List.mem_of_getElem? (i := 529) (by decide +kernel)) (by decide +kernel)
theorem tb_519 : Cond.methodLink "HamperClub$Club" 159 y_Hmp_handOut ∈ Tg := Tg_mem (List.mem_of_getElem? (i := 530) (by decide +kernel)) (by decide +kernel)
theorem tb_520 : Cond.instanceMethod y_Hmp_handOut ∈ Tg := Tg_mem (List.mem_of_getElem? (i := 531) (by decide +kernel)) (by decide +kernel)
theorem tb_521 : Cond.selects "HamperClub$Hampers" y_Hmp_handOut y_Hmp_handOut ∈ Tg := Tg_mem (List.mem_of_getElem? (i := 532) (by decide +kernel)) (by decide +kernel)
theorem tb_522 : Cond.code y_Hmp_handOut prog_5_method_10_code 3 none ∈ Tg := Tg_mem (List.mem_of_getElem? (i := 533) (by decide +kernel)) (by decide +kernel)
theorem tb_523 : Cond.methodLink "HamperClub$Club" 141 y_Hmp_forgetChoices ∈ Tg := Tg_mem (List.mem_of_getElem? (i := 534) (by decide +kernel)) (by decide +kernel)
theorem tb_524 : Cond.instanceMethod y_Hmp_forgetChoices ∈ Tg := Tg_mem (List.mem_of_getElem? (i := 535) (by decide +kernel)) (by decide +kernel)
theorem tb_525 : Cond.selects "HamperClub$Hampers" y_Hmp_forgetChoices y_Hmp_forgetChoices ∈ Tg := Tg_mem (List.mem_of_getElem? (i := 536) (by decide +kernel)) (by decide +kernel)
theorem tb_526 : Cond.code y_Hmp_forgetChoices prog_5_method_11_code 1 none ∈ Tg := Tg_mem (List.mem_of_getElem? (i := 537) (by decide +kernel)) (by decide +kernel)
theorem tb_527 : Cond.methodLink "HamperClubLaw" 110 y_Ham_weeksFor ∈ Tg := Tg_mem (List.mem_of_getElem? (i := 538) (by decide +kernel)) (by decide +kernel)
theorem tb_528 : Cond.instanceMethod y_Ham_weeksFor ∈ Tg := Tg_mem (List.mem_of_getElem? (i := 539) (by decide +kernel)) (by decide +kernel)
theorem tb_529 : Cond.selects "HamperClub" y_Ham_weeksFor y_Ham_weeksFor ∈ Tg := Tg_mem (List.mem_of_getElem? (i := 540) (by decide +kernel)) (by decide +kernel)
theorem tb_530 : Cond.code y_Ham_weeksFor prog_1_method_25_code 7 (Option.some .int) ∈ Tg := Tg_mem (List.mem_of_getElem? (i := 541) (by decide +kernel)) (by decide +kernel)
theorem tb_531 : Cond.methodLink "HamperClub" 143 y_Ham_isKind ∈ Tg := Tg_mem (List.mem_of_getElem? (i := 542) (by decide +kernel)) (by decide +kernel)
theorem tb_532 : Cond.methodLink "HamperClub" 169 y_Crd_isInHand ∈ Tg := Tg_mem (List.mem_of_getElem? (i := 543) (by decide +kernel)) (by decide +kernel)
theorem tb_533 : Cond.methodLink "HamperClub" 131 y_Crd_isGoodIn ∈ Tg := Tg_mem (List.mem_of_getElem? (i := 544) (by decide +kernel)) (by decide +kernel)
theorem tb_534 : Cond.methodLink "HamperClubLaw" 95 y_Law_cell ∈ Tg := Tg_mem (List.mem_of_getElem? (i := 545) (by decide +kernel)) (by decide +kernel)
theorem tb_535 : Cond.static y_Law_cell ∈ Tg := Tg_mem (List.mem_of_getElem? (i := 546) (by decide +kernel)) (by decide +kernel)
theorem tb_536 : Cond.code y_Law_cell method_2_code 2 (Option.some .int) ∈ Tg := Tg_mem (List.mem_of_getElem? (i := 547) (by decide +kernel)) (by decide +kernel)
theorem tb_537 : Cond.methodLink "HamperClubLaw" 39 y_Law_low ∈ Tg := Tg_mem (List.mem_of_getElem? (i := 548) (by decide +kernel)) (by decide +kernel)
theorem tb_538 : Cond.static y_Law_low ∈ Tg := Tg_mem (List.mem_of_getElem? (i := 549) (by decide +kernel)) (by decide +kernel)
theorem tb_539 : Cond.code y_Law_low method_3_code 2 (Option.some .int) ∈ Tg := Tg_mem (List.mem_of_getElem? (i := 550) (by decide +kernel)) (by decide +kernel)
theorem tb_540 : Cond.constant "HamperClubLaw" 7 (2147483647 : Int32) ∈ Tg := Tg_mem (List.mem_of_getElem? (i := 551) (by decide +kernel)) (by decide +kernel)
theorem tb_541 : Cond.methodLink "HamperClubLaw" 42 y_Law_all ∈ Tg := Tg_mem (List.mem_of_getElem? (i := 552) (by decide +kernel)) (by decide +kernel)
theorem tb_542 : Cond.static y_Law_all ∈ Tg := Tg_mem (List.mem_of_getElem? (i := 553) (by decide +kernel)) (by decide +kernel)
theorem tb_543 : Cond.code y_Law_all method_4_code 5 (Option.some .long) ∈ Tg := Tg_mem (List.mem_of_getElem? (i := 554) (by decide +kernel)) (by decide +kernel)
theorem tb_544 : Cond.constantLong "HamperClubLaw" 8 59 ∈ Tg := Tg_mem (List.mem_of_getElem? (i := 555) (by decide +kernel)) (by decide +kernel)
theorem tb_545 : Cond.constantLong "HamperClubLaw" 10 31 ∈ Tg := Tg_mem (List.mem_of_getElem? (i := 556) (by decide +kernel)) (by decide +kernel)
theorem tb_546 : Cond.methodLink "HamperClubLaw" 18 y_Ham_hamper ∈ Tg := Tg_mem (List.mem_of_getElem? (i := 557) (by decide +kernel)) (by decide +kernel)
theorem tb_547 : Cond.instanceMethod y_Ham_hamper ∈ Tg := Tg_mem (List.mem_of_getElem? (i := 558) (by decide +kernel)) (by decide +kernel)
theorem tb_548 : Cond.selects "HamperClub" y_Ham_hamper y_Ham_hamper ∈ Tg := Tg_mem (List.mem_of_getElem? (i := 559) (by decide +kernel)) (by decide +kernel)
theorem tb_549 : Cond.code y_Ham_hamper prog_1_method_21_code 3 (Option.some .int) ∈ Tg := Tg_mem (List.mem_of_getElem? (i := 560) (by decide +kernel)) (by decide +kernel)
theorem tb_550 : Cond.methodLink "HamperClub" 139 y_Hmp_tell ∈ Tg := Tg_mem (List.mem_of_getElem? (i := 561) (by decide +kernel)) (by decide +kernel)
theorem tb_551 : Cond.instanceMethod y_Hmp_tell ∈ Tg := Tg_mem (List.mem_of_getElem? (i := 562) (by decide +kernel)) (by decide +kernel)
theorem tb_552 : Cond.selects "HamperClub$Hampers" y_Hmp_tell y_Hmp_tell ∈ Tg := Tg_mem (List.mem_of_getElem? (i := 563) (by decide +kernel)) (by decide +kernel)
theorem tb_553 : Cond.code y_Hmp_tell prog_5_method_7_code 3 (Option.some .int) ∈ Tg := Tg_mem (List.mem_of_getElem? (i := 564) (by decide +kernel)) (by decide +kernel)
theorem tb_555 : Cond.methodLink "HamperClub$Hampers" 49 y_Hmp_keptOf ∈ Tg := Tg_mem (List.mem_of_getElem? (i := 566) (by decide +kernel)) (by decide +kernel)
theorem tb_556 : Cond.instanceMethod y_Hmp_keptOf ∈ Tg := Tg_mem (List.mem_of_getElem? (i := 567) (by decide +kernel)) (by decide +kernel)
theorem tb_557 : Cond.selects "HamperClub$Hampers" y_Hmp_keptOf y_Hmp_keptOf ∈ Tg := Tg_mem (List.mem_of_getElem? (i := 568) (by decide +kernel)) (by decide +kernel)
theorem tb_558 : Cond.code y_Hmp_keptOf prog_5_method_4_code 4 (Option.some .int) ∈ Tg := Tg_mem (List.mem_of_getElem? (i := 569) (by decide +kernel)) (by decide +kernel)
theorem tb_559 : Cond.methodLink "HamperClubLaw" 22 y_Ham_waiting ∈ Tg := Tg_mem (List.mem_of_getElem? (i := 570) (by decide +kernel)) (by decide +kernel)
theorem tb_560 : Cond.instanceMethod y_Ham_waiting ∈ Tg := Tg_mem (List.mem_of_getElem? (i := 571) (by decide +kernel)) (by decide +kernel)
theorem tb_561 : Cond.selects "HamperClub" y_Ham_waiting y_Ham_waiting ∈ Tg := Tg_mem (List.mem_of_getElem? (i := 572) (by decide +kernel)) (by decide +kernel)
theorem tb_562 : Cond.code y_Ham_waiting prog_1_method_22_code 3 (Option.some .int) ∈ Tg := Tg_mem (List.mem_of_getElem? (i := 573) (by decide +kernel)) (by decide +kernel)
theorem tb_563 : Cond.methodLink "HamperClub" 146 y_Hmp_memberInRow ∈ Tg := Tg_mem (List.mem_of_getElem? (i := 574) (by decide +kernel)) (by decide +kernel)
theorem tb_564 : Cond.methodLink "HamperClubLaw" 28 y_Ham_isGood ∈ Tg := Tg_mem (List.mem_of_getElem? (i := 575) (by decide +kernel)) (by decide +kernel)
theorem tb_565 : Cond.instanceMethod y_Ham_isGood ∈ Tg := Tg_mem (List.mem_of_getElem? (i := 576) (by decide +kernel)) (by decide +kernel)
theorem tb_566 : Cond.selects "HamperClub" y_Ham_isGood y_Ham_isGood ∈ Tg := Tg_mem (List.mem_of_getElem? (i := 577) (by decide +kernel)) (by decide +kernel)
theorem tb_567 : Cond.code y_Ham_isGood prog_1_method_20_code 4 (Option.some .int) ∈ Tg := Tg_mem (List.mem_of_getElem? (i := 578) (by decide +kernel)) (by decide +kernel)
theorem tb_568 : Cond.methodLink "HamperClubLaw" 50 y_Law_isSound ∈ Tg := Tg_mem (List.mem_of_getElem? (i := 579) (by decide +kernel)) (by decide +kernel)
theorem tb_569 : Cond.static y_Law_isSound ∈ Tg := Tg_mem (List.mem_of_getElem? (i := 580) (by decide +kernel)) (by decide +kernel)
set_option maxRecDepth 100000 in
theorem tb_570 : Cond.code y_Law_isSound method_5_code 13 (Option.some .boolean) ∈ Tg := Tg_mem (List.mem_of_getElem? (i := 581) rfl) (by decide +kernel)
theorem tb_571 : Cond.methodLink "HamperClubLaw" 106 y_Law_isForetold ∈ Tg := Tg_mem (List.mem_of_getElem? (i := 582) (by decide +kernel)) (by decide +kernel)
theorem tb_572 : Cond.static y_Law_isForetold ∈ Tg := Tg_mem (List.mem_of_getElem? (i := 583) (by decide +kernel)) (by decide +kernel)
set_option maxRecDepth 100000 in
theorem tb_573 : Cond.code y_Law_isForetold method_6_code 16 (Option.some .boolean) ∈ Tg := Tg_mem (List.mem_of_getElem? (i := 584) rfl) (by decide +kernel)
theorem tb_574 : Cond.methodLink "HamperClubLaw" 36 y_Ham_bestKind ∈ Tg := Tg_mem (List.mem_of_getElem? (i := 585) (by decide +kernel)) (by decide +kernel)
theorem tb_575 : Cond.instanceMethod y_Ham_bestKind ∈ Tg := Tg_mem (List.mem_of_getElem? (i := 586) (by decide +kernel)) (by decide +kernel)
theorem tb_576 : Cond.selects "HamperClub" y_Ham_bestKind y_Ham_bestKind ∈ Tg := Tg_mem (List.mem_of_getElem? (i := 587) (by decide +kernel)) (by decide +kernel)
theorem tb_577 : Cond.code y_Ham_bestKind prog_1_method_24_code 6 (Option.some .int) ∈ Tg := Tg_mem (List.mem_of_getElem? (i := 588) (by decide +kernel)) (by decide +kernel)
theorem tb_578 : Cond.methodLink "HamperClub" 166 y_Ham_wouldGet ∈ Tg := Tg_mem (List.mem_of_getElem? (i := 589) (by decide +kernel)) (by decide +kernel)
theorem tb_580 : Cond.instanceMethod y_Ham_wouldGet ∈ Tg := Tg_mem (List.mem_of_getElem? (i := 591) (by decide +kernel)) (by decide +kernel)
theorem tb_581 : Cond.code y_Ham_wouldGet prog_1_method_27_code 3 (Option.some .boolean) ∈ Tg := Tg_mem (List.mem_of_getElem? (i := 592) (by decide +kernel)) (by decide +kernel)
theorem tb_582 : Cond.methodLink "HamperClubLaw" 46 y_Ham_settle ∈ Tg := Tg_mem (List.mem_of_getElem? (i := 593) (by decide +kernel)) (by decide +kernel)
theorem tb_583 : Cond.instanceMethod y_Ham_settle ∈ Tg := Tg_mem (List.mem_of_getElem? (i := 594) (by decide +kernel)) (by decide +kernel)
theorem tb_584 : Cond.selects "HamperClub" y_Ham_settle y_Ham_settle ∈ Tg := Tg_mem (List.mem_of_getElem? (i := 595) (by decide +kernel)) (by decide +kernel)
theorem tb_585 : Cond.code y_Ham_settle prog_1_method_11_code 1 (Option.some .int) ∈ Tg := Tg_mem (List.mem_of_getElem? (i := 596) (by decide +kernel)) (by decide +kernel)
theorem tb_586 : Cond.methodLink "HamperClubLaw" 102 y_Law_acts ∈ Tg := Tg_mem (List.mem_of_getElem? (i := 597) (by decide +kernel)) (by decide +kernel)
theorem tb_587 : Cond.static y_Law_acts ∈ Tg := Tg_mem (List.mem_of_getElem? (i := 598) (by decide +kernel)) (by decide +kernel)
set_option maxRecDepth 100000 in
theorem tb_588 : Cond.code y_Law_acts method_7_code 4 (Option.some .int) ∈ Tg := Tg_mem (List.mem_of_getElem? (i := 599) rfl) (by decide +kernel)
theorem tb_589 : Cond.methodLink "HamperClubLaw" 66 y_Ham_withdraw ∈ Tg := Tg_mem (List.mem_of_getElem? (i := 600) (by decide +kernel)) (by decide +kernel)
theorem tb_590 : Cond.instanceMethod y_Ham_withdraw ∈ Tg := Tg_mem (List.mem_of_getElem? (i := 601) (by decide +kernel)) (by decide +kernel)
theorem tb_591 : Cond.selects "HamperClub" y_Ham_withdraw y_Ham_withdraw ∈ Tg := Tg_mem (List.mem_of_getElem? (i := 602) (by decide +kernel)) (by decide +kernel)
theorem tb_592 : Cond.code y_Ham_withdraw prog_1_method_4_code 3 (Option.some .int) ∈ Tg := Tg_mem (List.mem_of_getElem? (i := 603) (by decide +kernel)) (by decide +kernel)
theorem tb_593 : Cond.methodLink "HamperClub" 56 y_Clb_withdrawStamps ∈ Tg := Tg_mem (List.mem_of_getElem? (i := 604) (by decide +kernel)) (by decide +kernel)
theorem tb_594 : Cond.instanceMethod y_Clb_withdrawStamps ∈ Tg := Tg_mem (List.mem_of_getElem? (i := 605) (by decide +kernel)) (by decide +kernel)
theorem tb_595 : Cond.selects "HamperClub$Club" y_Clb_withdrawStamps y_Clb_withdrawStamps ∈ Tg := Tg_mem (List.mem_of_getElem? (i := 606) (by decide +kernel)) (by decide +kernel)
theorem tb_596 : Cond.code y_Clb_withdrawStamps prog_4_method_5_code 5 (Option.some .int) ∈ Tg := Tg_mem (List.mem_of_getElem? (i := 607) (by decide +kernel)) (by decide +kernel)
theorem tb_597 : Cond.methodLink "HamperClub$Club" 85 y_Mth_min ∈ Tg := Tg_mem (List.mem_of_getElem? (i := 608) (by decide +kernel)) (by decide +kernel)
theorem tb_598 : Cond.methodLink "HamperClubLaw" 69 y_Ham_mislay ∈ Tg := Tg_mem (List.mem_of_getElem? (i := 609) (by decide +kernel)) (by decide +kernel)
theorem tb_599 : Cond.instanceMethod y_Ham_mislay ∈ Tg := Tg_mem (List.mem_of_getElem? (i := 610) (by decide +kernel)) (by decide +kernel)
theorem tb_600 : Cond.selects "HamperClub" y_Ham_mislay y_Ham_mislay ∈ Tg := Tg_mem (List.mem_of_getElem? (i := 611) (by decide +kernel)) (by decide +kernel)
theorem tb_601 : Cond.code y_Ham_mislay prog_1_method_5_code 2 (Option.some .int) ∈ Tg := Tg_mem (List.mem_of_getElem? (i := 612) (by decide +kernel)) (by decide +kernel)
theorem tb_602 : Cond.methodLink "HamperClub" 59 y_Clb_mislayCard ∈ Tg := Tg_mem (List.mem_of_getElem? (i := 613) (by decide +kernel)) (by decide +kernel)
theorem tb_603 : Cond.instanceMethod y_Clb_mislayCard ∈ Tg := Tg_mem (List.mem_of_getElem? (i := 614) (by decide +kernel)) (by decide +kernel)
theorem tb_604 : Cond.selects "HamperClub$Club" y_Clb_mislayCard y_Clb_mislayCard ∈ Tg := Tg_mem (List.mem_of_getElem? (i := 615) (by decide +kernel)) (by decide +kernel)
theorem tb_605 : Cond.code y_Clb_mislayCard prog_4_method_6_code 2 (Option.some .int) ∈ Tg := Tg_mem (List.mem_of_getElem? (i := 616) (by decide +kernel)) (by decide +kernel)
theorem tb_606 : Cond.methodLink "HamperClubLaw" 72 y_Ham_find ∈ Tg := Tg_mem (List.mem_of_getElem? (i := 617) (by decide +kernel)) (by decide +kernel)
theorem tb_607 : Cond.instanceMethod y_Ham_find ∈ Tg := Tg_mem (List.mem_of_getElem? (i := 618) (by decide +kernel)) (by decide +kernel)
theorem tb_608 : Cond.selects "HamperClub" y_Ham_find y_Ham_find ∈ Tg := Tg_mem (List.mem_of_getElem? (i := 619) (by decide +kernel)) (by decide +kernel)
theorem tb_609 : Cond.code y_Ham_find prog_1_method_6_code 2 (Option.some .int) ∈ Tg := Tg_mem (List.mem_of_getElem? (i := 620) (by decide +kernel)) (by decide +kernel)
theorem tb_610 : Cond.methodLink "HamperClub" 62 y_Clb_findCard ∈ Tg := Tg_mem (List.mem_of_getElem? (i := 621) (by decide +kernel)) (by decide +kernel)
theorem tb_611 : Cond.instanceMethod y_Clb_findCard ∈ Tg := Tg_mem (List.mem_of_getElem? (i := 622) (by decide +kernel)) (by decide +kernel)
theorem tb_612 : Cond.selects "HamperClub$Club" y_Clb_findCard y_Clb_findCard ∈ Tg := Tg_mem (List.mem_of_getElem? (i := 623) (by decide +kernel)) (by decide +kernel)
theorem tb_613 : Cond.code y_Clb_findCard prog_4_method_7_code 2 (Option.some .int) ∈ Tg := Tg_mem (List.mem_of_getElem? (i := 624) (by decide +kernel)) (by decide +kernel)
theorem tb_614 : Cond.methodLink "HamperClubLaw" 75 y_Ham_giveUp ∈ Tg := Tg_mem (List.mem_of_getElem? (i := 625) (by decide +kernel)) (by decide +kernel)
theorem tb_615 : Cond.instanceMethod y_Ham_giveUp ∈ Tg := Tg_mem (List.mem_of_getElem? (i := 626) (by decide +kernel)) (by decide +kernel)
theorem tb_616 : Cond.selects "HamperClub" y_Ham_giveUp y_Ham_giveUp ∈ Tg := Tg_mem (List.mem_of_getElem? (i := 627) (by decide +kernel)) (by decide +kernel)
theorem tb_617 : Cond.code y_Ham_giveUp prog_1_method_9_code 2 (Option.some .int) ∈ Tg := Tg_mem (List.mem_of_getElem? (i := 628) (by decide +kernel)) (by decide +kernel)
theorem tb_618 : Cond.methodLink "HamperClub" 72 y_Clb_giveUpChoice ∈ Tg := Tg_mem (List.mem_of_getElem? (i := 629) (by decide +kernel)) (by decide +kernel)
theorem tb_619 : Cond.instanceMethod y_Clb_giveUpChoice ∈ Tg := Tg_mem (List.mem_of_getElem? (i := 630) (by decide +kernel)) (by decide +kernel)
theorem tb_620 : Cond.selects "HamperClub$Club" y_Clb_giveUpChoice y_Clb_giveUpChoice ∈ Tg := Tg_mem (List.mem_of_getElem? (i := 631) (by decide +kernel)) (by decide +kernel)
theorem tb_621 : Cond.code y_Clb_giveUpChoice prog_4_method_10_code 3 (Option.some .int) ∈ Tg := Tg_mem (List.mem_of_getElem? (i := 632) (by decide +kernel)) (by decide +kernel)
theorem tb_622 : Cond.methodLink "HamperClubLaw" 88 y_Ham_carryOut ∈ Tg := Tg_mem (List.mem_of_getElem? (i := 633) (by decide +kernel)) (by decide +kernel)
theorem tb_623 : Cond.instanceMethod y_Ham_carryOut ∈ Tg := Tg_mem (List.mem_of_getElem? (i := 634) (by decide +kernel)) (by decide +kernel)
theorem tb_624 : Cond.selects "HamperClub" y_Ham_carryOut y_Ham_carryOut ∈ Tg := Tg_mem (List.mem_of_getElem? (i := 635) (by decide +kernel)) (by decide +kernel)
theorem tb_625 : Cond.code y_Ham_carryOut prog_1_method_17_code 3 (Option.some .int) ∈ Tg := Tg_mem (List.mem_of_getElem? (i := 636) (by decide +kernel)) (by decide +kernel)
theorem tb_626 : Cond.methodLink "HamperClub" 102 y_Ord_fault ∈ Tg := Tg_mem (List.mem_of_getElem? (i := 637) (by decide +kernel)) (by decide +kernel)
theorem tb_627 : Cond.instanceMethod y_Ord_fault ∈ Tg := Tg_mem (List.mem_of_getElem? (i := 638) (by decide +kernel)) (by decide +kernel)
theorem tb_628 : Cond.selects "HamperClub$Orders" y_Ord_fault y_Ord_fault ∈ Tg := Tg_mem (List.mem_of_getElem? (i := 639) (by decide +kernel)) (by decide +kernel)
theorem tb_629 : Cond.code y_Ord_fault prog_7_method_3_code 2 (Option.some .int) ∈ Tg := Tg_mem (List.mem_of_getElem? (i := 640) (by decide +kernel)) (by decide +kernel)
theorem tb_630 : Cond.methodLink "HamperClub$Orders" 22 y_Ord_readOrder ∈ Tg := Tg_mem (List.mem_of_getElem? (i := 641) (by decide +kernel)) (by decide +kernel)
theorem tb_632 : Cond.instanceMethod y_Ord_readOrder ∈ Tg := Tg_mem (List.mem_of_getElem? (i := 643) (by decide +kernel)) (by decide +kernel)
theorem tb_633 : Cond.code y_Ord_readOrder prog_7_method_6_code 3 (Option.some .boolean) ∈ Tg := Tg_mem (List.mem_of_getElem? (i := 644) (by decide +kernel)) (by decide +kernel)
theorem tb_634 : Cond.methodLink "HamperClub$Orders" 65 y_Ord_next ∈ Tg := Tg_mem (List.mem_of_getElem? (i := 645) (by decide +kernel)) (by decide +kernel)
theorem tb_636 : Cond.instanceMethod y_Ord_next ∈ Tg := Tg_mem (List.mem_of_getElem? (i := 647) (by decide +kernel)) (by decide +kernel)
theorem tb_637 : Cond.code y_Ord_next prog_7_method_8_code 1 (Option.some .int) ∈ Tg := Tg_mem (List.mem_of_getElem? (i := 648) (by decide +kernel)) (by decide +kernel)
theorem tb_638 : Cond.methodLink "HamperClub$Orders" 68 y_Ord_readNumber ∈ Tg := Tg_mem (List.mem_of_getElem? (i := 649) (by decide +kernel)) (by decide +kernel)
theorem tb_640 : Cond.instanceMethod y_Ord_readNumber ∈ Tg := Tg_mem (List.mem_of_getElem? (i := 651) (by decide +kernel)) (by decide +kernel)
theorem tb_641 : Cond.code y_Ord_readNumber prog_7_method_7_code 3 (Option.some .int) ∈ Tg := Tg_mem (List.mem_of_getElem? (i := 652) (by decide +kernel)) (by decide +kernel)
theorem tb_642 : Cond.methodLink "HamperClub$Orders" 71 y_Ord_isDigit ∈ Tg := Tg_mem (List.mem_of_getElem? (i := 653) (by decide +kernel)) (by decide +kernel)
theorem tb_643 : Cond.static y_Ord_isDigit ∈ Tg := Tg_mem (List.mem_of_getElem? (i := 654) (by decide +kernel)) (by decide +kernel)
theorem tb_644 : Cond.code y_Ord_isDigit prog_7_method_9_code 1 (Option.some .boolean) ∈ Tg := Tg_mem (List.mem_of_getElem? (i := 655) (by decide +kernel)) (by decide +kernel)
theorem tb_645 : Cond.methodLink "HamperClub" 109 y_Ord_carryOutOn ∈ Tg := Tg_mem (List.mem_of_getElem? (i := 656) (by decide +kernel)) (by decide +kernel)
theorem tb_646 : Cond.instanceMethod y_Ord_carryOutOn ∈ Tg := Tg_mem (List.mem_of_getElem? (i := 657) (by decide +kernel)) (by decide +kernel)
theorem tb_647 : Cond.selects "HamperClub$Orders" y_Ord_carryOutOn y_Ord_carryOutOn ∈ Tg := Tg_mem (List.mem_of_getElem? (i := 658) (by decide +kernel)) (by decide +kernel)
theorem tb_648 : Cond.code y_Ord_carryOutOn prog_7_method_4_code 4 (Option.some .int) ∈ Tg := Tg_mem (List.mem_of_getElem? (i := 659) (by decide +kernel)) (by decide +kernel)
theorem tb_649 : Cond.methodLink "HamperClub$Orders" 26 y_Ord_carryOutOrder ∈ Tg := Tg_mem (List.mem_of_getElem? (i := 660) (by decide +kernel)) (by decide +kernel)
theorem tb_651 : Cond.instanceMethod y_Ord_carryOutOrder ∈ Tg := Tg_mem (List.mem_of_getElem? (i := 662) (by decide +kernel)) (by decide +kernel)
theorem tb_652 : Cond.code y_Ord_carryOutOrder prog_7_method_5_code 2 (Option.some .int) ∈ Tg := Tg_mem (List.mem_of_getElem? (i := 663) (by decide +kernel)) (by decide +kernel)
theorem tb_653 : Cond.methodLink "HamperClub$Orders" 39 y_Clb_stickStamps ∈ Tg := Tg_mem (List.mem_of_getElem? (i := 664) (by decide +kernel)) (by decide +kernel)
theorem tb_654 : Cond.methodLink "HamperClub$Orders" 45 y_Clb_withdrawStamps ∈ Tg := Tg_mem (List.mem_of_getElem? (i := 665) (by decide +kernel)) (by decide +kernel)
theorem tb_655 : Cond.methodLink "HamperClub$Orders" 48 y_Clb_chooseKind ∈ Tg := Tg_mem (List.mem_of_getElem? (i := 666) (by decide +kernel)) (by decide +kernel)
theorem tb_656 : Cond.methodLink "HamperClub$Orders" 51 y_Clb_giveUpChoice ∈ Tg := Tg_mem (List.mem_of_getElem? (i := 667) (by decide +kernel)) (by decide +kernel)
theorem tb_657 : Cond.methodLink "HamperClub$Orders" 55 y_Clb_mislayCard ∈ Tg := Tg_mem (List.mem_of_getElem? (i := 668) (by decide +kernel)) (by decide +kernel)
theorem tb_658 : Cond.methodLink "HamperClub$Orders" 58 y_Clb_findCard ∈ Tg := Tg_mem (List.mem_of_getElem? (i := 669) (by decide +kernel)) (by decide +kernel)
theorem tb_659 : Cond.methodLink "HamperClub$Orders" 61 y_Clb_passWeek ∈ Tg := Tg_mem (List.mem_of_getElem? (i := 670) (by decide +kernel)) (by decide +kernel)
theorem i_Acc : ∀ w ∈ u_ws R_Acc F_Acc 5, w ∈ Tg := by
  intro w hw
  have h : (u_ws R_Acc F_Acc 5).all (fun w => decide (w ∈ lw_tbl) && goodWord w) = true := by decide +kernel
  have h1 := List.all_eq_true.mp h w hw
  simp only [Bool.and_eq_true, decide_eq_true_eq] at h1
  exact Tg_mem h1.1 h1.2
theorem i_Crd : ∀ w ∈ u_ws R_Crd F_Crd 9, w ∈ Tg := by
  intro w hw
  have h : (u_ws R_Crd F_Crd 9).all (fun w => decide (w ∈ lw_tbl) && goodWord w) = true := by decide +kernel
  have h1 := List.all_eq_true.mp h w hw
  simp only [Bool.and_eq_true, decide_eq_true_eq] at h1
  exact Tg_mem h1.1 h1.2
theorem i_Clb : ∀ w ∈ u_ws R_Clb F_Clb 7, w ∈ Tg := by
  intro w hw
  have h : (u_ws R_Clb F_Clb 7).all (fun w => decide (w ∈ lw_tbl) && goodWord w) = true := by decide +kernel
  have h1 := List.all_eq_true.mp h w hw
  simp only [Bool.and_eq_true, decide_eq_true_eq] at h1
  exact Tg_mem h1.1 h1.2
theorem i_Hmp : ∀ w ∈ u_ws R_Hmp F_Hmp 5, w ∈ Tg := by
  intro w hw
  have h : (u_ws R_Hmp F_Hmp 5).all (fun w => decide (w ∈ lw_tbl) && goodWord w) = true := by decide +kernel
  have h1 := List.all_eq_true.mp h w hw
  simp only [Bool.and_eq_true, decide_eq_true_eq] at h1
  exact Tg_mem h1.1 h1.2
theorem i_His : ∀ w ∈ u_ws R_His F_His 3, w ∈ Tg := by
  intro w hw
  have h : (u_ws R_His F_His 3).all (fun w => decide (w ∈ lw_tbl) && goodWord w) = true := by decide +kernel
  have h1 := List.all_eq_true.mp h w hw
  simp only [Bool.and_eq_true, decide_eq_true_eq] at h1
  exact Tg_mem h1.1 h1.2
theorem i_Ord : ∀ w ∈ u_ws R_Ord F_Ord 6, w ∈ Tg := by
  intro w hw
  have h : (u_ws R_Ord F_Ord 6).all (fun w => decide (w ∈ lw_tbl) && goodWord w) = true := by decide +kernel
  have h1 := List.all_eq_true.mp h w hw
  simp only [Bool.and_eq_true, decide_eq_true_eq] at h1
  exact Tg_mem h1.1 h1.2
theorem i_Snp : ∀ w ∈ u_ws R_Snp F_Snp 2, w ∈ Tg := by
  intro w hw
  have h : (u_ws R_Snp F_Snp 2).all (fun w => decide (w ∈ lw_tbl) && goodWord w) = true := by decide +kernel
  have h1 := List.all_eq_true.mp h w hw
  simp only [Bool.and_eq_true, decide_eq_true_eq] at h1
  exact Tg_mem h1.1 h1.2
theorem i_Sta : ∀ w ∈ u_ws R_Sta F_Sta 3, w ∈ Tg := by
  intro w hw
  have h : (u_ws R_Sta F_Sta 3).all (fun w => decide (w ∈ lw_tbl) && goodWord w) = true := by decide +kernel
  have h1 := List.all_eq_true.mp h w hw
  simp only [Bool.and_eq_true, decide_eq_true_eq] at h1
  exact Tg_mem h1.1 h1.2
theorem i_Ham : ∀ w ∈ u_ws R_Ham F_Ham 4, w ∈ Tg := by
  intro w hw
  have h : (u_ws R_Ham F_Ham 4).all (fun w => decide (w ∈ lw_tbl) && goodWord w) = true := by decide +kernel
  have h1 := List.all_eq_true.mp h w hw
  simp only [Bool.and_eq_true, decide_eq_true_eq] at h1
  exact Tg_mem h1.1 h1.2
end
