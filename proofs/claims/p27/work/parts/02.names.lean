/-! Names of the classes, their fields, the methods; written by a program out of the printed names. -/
def R_Acc : String := "HamperClub$Accounts"
def F_Acc : u_T := fun k => match k with
  | 0 => ("HamperClub$Accounts", "tin", "I", false)
  | 1 => ("HamperClub$Accounts", "pool", "I", false)
  | 2 => ("HamperClub$Accounts", "cameIn", "I", false)
  | 3 => ("HamperClub$Accounts", "paidOut", "I", false)
  | _ => ("HamperClub$Accounts", "toShop", "I", false)
def t_Acc : Nat → FieldType := fun k => match k with
  | 0 => .int
  | 1 => .int
  | 2 => .int
  | 3 => .int
  | _ => .int
theorem n_Acc : ∀ a, a < 5 → ∀ b, b < 5 → a ≠ b → (F_Acc a).2.1 ≠ (F_Acc b).2.1 := by decide +kernel
theorem t_Acc_ok : ∀ k, k < 5 → parseFieldDescriptor (F_Acc k).2.2.1 = some (t_Acc k) := by decide +kernel
def R_Crd : String := "HamperClub$Cards"
def F_Crd : u_T := fun k => match k with
  | 0 => ("HamperClub$Cards", "count", "I", false)
  | 1 => ("HamperClub$Cards", "stamps", "[I", true)
  | 2 => ("HamperClub$Cards", "status", "[I", true)
  | 3 => ("HamperClub$Cards", "mislaidIn", "[I", true)
  | 4 => ("HamperClub$Cards", "joinedIn", "[I", true)
  | 5 => ("HamperClub$Cards", "paid", "[I", true)
  | 6 => ("HamperClub$Cards", "drawn", "[I", true)
  | 7 => ("HamperClub$Cards", "goodWeeks", "[J", true)
  | _ => ("HamperClub$Cards", "latestGood", "[I", true)
def t_Crd : Nat → FieldType := fun k => match k with
  | 0 => .int
  | 1 => .array .int
  | 2 => .array .int
  | 3 => .array .int
  | 4 => .array .int
  | 5 => .array .int
  | 6 => .array .int
  | 7 => .array .long
  | _ => .array .int
theorem n_Crd : ∀ a, a < 9 → ∀ b, b < 9 → a ≠ b → (F_Crd a).2.1 ≠ (F_Crd b).2.1 := by decide +kernel
theorem t_Crd_ok : ∀ k, k < 9 → parseFieldDescriptor (F_Crd k).2.2.1 = some (t_Crd k) := by decide +kernel
def R_Clb : String := "HamperClub$Club"
def F_Clb : u_T := fun k => match k with
  | 0 => ("HamperClub$Club", "week", "I", false)
  | 1 => ("HamperClub$Club", "settled", "Z", false)
  | 2 => ("HamperClub$Club", "handedOut", "I", false)
  | 3 => ("HamperClub$Club", "lapses", "I", false)
  | 4 => ("HamperClub$Club", "cards", "LHamperClub$Cards;", true)
  | 5 => ("HamperClub$Club", "hampers", "LHamperClub$Hampers;", true)
  | _ => ("HamperClub$Club", "accounts", "LHamperClub$Accounts;", true)
def t_Clb : Nat → FieldType := fun k => match k with
  | 0 => .int
  | 1 => .boolean
  | 2 => .int
  | 3 => .int
  | 4 => .object "HamperClub$Cards"
  | 5 => .object "HamperClub$Hampers"
  | _ => .object "HamperClub$Accounts"
theorem n_Clb : ∀ a, a < 7 → ∀ b, b < 7 → a ≠ b → (F_Clb a).2.1 ≠ (F_Clb b).2.1 := by decide +kernel
theorem t_Clb_ok : ∀ k, k < 7 → parseFieldDescriptor (F_Clb k).2.2.1 = some (t_Clb k) := by decide +kernel
def R_Hmp : String := "HamperClub$Hampers"
def F_Hmp : u_T := fun k => match k with
  | 0 => ("HamperClub$Hampers", "price", "[I", true)
  | 1 => ("HamperClub$Hampers", "stock", "[I", true)
  | 2 => ("HamperClub$Hampers", "choice", "[I", true)
  | 3 => ("HamperClub$Hampers", "place", "[I", true)
  | _ => ("HamperClub$Hampers", "got", "[I", true)
def t_Hmp : Nat → FieldType := fun k => match k with
  | 0 => .array .int
  | 1 => .array .int
  | 2 => .array .int
  | 3 => .array .int
  | _ => .array .int
theorem n_Hmp : ∀ a, a < 5 → ∀ b, b < 5 → a ≠ b → (F_Hmp a).2.1 ≠ (F_Hmp b).2.1 := by decide +kernel
theorem t_Hmp_ok : ∀ k, k < 5 → parseFieldDescriptor (F_Hmp k).2.2.1 = some (t_Hmp k) := by decide +kernel
def R_His : String := "HamperClub$History"
def F_His : u_T := fun k => match k with
  | 0 => ("HamperClub$History", "frames", "[LHamperClub$State;", true)
  | 1 => ("HamperClub$History", "free", "I", false)
  | _ => ("HamperClub$History", "size", "I", false)
def t_His : Nat → FieldType := fun k => match k with
  | 0 => .array (.object "HamperClub$State")
  | 1 => .int
  | _ => .int
theorem n_His : ∀ a, a < 3 → ∀ b, b < 3 → a ≠ b → (F_His a).2.1 ≠ (F_His b).2.1 := by decide +kernel
theorem t_His_ok : ∀ k, k < 3 → parseFieldDescriptor (F_His k).2.2.1 = some (t_His k) := by decide +kernel
def R_Ord : String := "HamperClub$Orders"
def F_Ord : u_T := fun k => match k with
  | 0 => ("HamperClub$Orders", "text", "[I", true)
  | 1 => ("HamperClub$Orders", "length", "I", false)
  | 2 => ("HamperClub$Orders", "at", "I", false)
  | 3 => ("HamperClub$Orders", "member", "I", false)
  | 4 => ("HamperClub$Orders", "sign", "I", false)
  | _ => ("HamperClub$Orders", "number", "I", false)
def t_Ord : Nat → FieldType := fun k => match k with
  | 0 => .array .int
  | 1 => .int
  | 2 => .int
  | 3 => .int
  | 4 => .int
  | _ => .int
theorem n_Ord : ∀ a, a < 6 → ∀ b, b < 6 → a ≠ b → (F_Ord a).2.1 ≠ (F_Ord b).2.1 := by decide +kernel
theorem t_Ord_ok : ∀ k, k < 6 → parseFieldDescriptor (F_Ord k).2.2.1 = some (t_Ord k) := by decide +kernel
def R_Snp : String := "HamperClub$Snapshot"
def F_Snp : u_T := fun k => match k with
  | 0 => ("HamperClub$Snapshot", "taken", "Z", false)
  | _ => ("HamperClub$Snapshot", "club", "LHamperClub$Club;", true)
def t_Snp : Nat → FieldType := fun k => match k with
  | 0 => .boolean
  | _ => .object "HamperClub$Club"
theorem n_Snp : ∀ a, a < 2 → ∀ b, b < 2 → a ≠ b → (F_Snp a).2.1 ≠ (F_Snp b).2.1 := by decide +kernel
theorem t_Snp_ok : ∀ k, k < 2 → parseFieldDescriptor (F_Snp k).2.2.1 = some (t_Snp k) := by decide +kernel
def R_Sta : String := "HamperClub$State"
def F_Sta : u_T := fun k => match k with
  | 0 => ("HamperClub$State", "club", "LHamperClub$Club;", true)
  | 1 => ("HamperClub$State", "first", "LHamperClub$Snapshot;", true)
  | _ => ("HamperClub$State", "second", "LHamperClub$Snapshot;", true)
def t_Sta : Nat → FieldType := fun k => match k with
  | 0 => .object "HamperClub$Club"
  | 1 => .object "HamperClub$Snapshot"
  | _ => .object "HamperClub$Snapshot"
theorem n_Sta : ∀ a, a < 3 → ∀ b, b < 3 → a ≠ b → (F_Sta a).2.1 ≠ (F_Sta b).2.1 := by decide +kernel
theorem t_Sta_ok : ∀ k, k < 3 → parseFieldDescriptor (F_Sta k).2.2.1 = some (t_Sta k) := by decide +kernel
def R_Ham : String := "HamperClub"
def F_Ham : u_T := fun k => match k with
  | 0 => ("HamperClub", "state", "LHamperClub$State;", true)
  | 1 => ("HamperClub", "history", "LHamperClub$History;", true)
  | 2 => ("HamperClub", "orders", "LHamperClub$Orders;", true)
  | _ => ("HamperClub", "trial", "LHamperClub$Club;", true)
def t_Ham : Nat → FieldType := fun k => match k with
  | 0 => .object "HamperClub$State"
  | 1 => .object "HamperClub$History"
  | 2 => .object "HamperClub$Orders"
  | _ => .object "HamperClub$Club"
theorem n_Ham : ∀ a, a < 4 → ∀ b, b < 4 → a ≠ b → (F_Ham a).2.1 ≠ (F_Ham b).2.1 := by decide +kernel
theorem t_Ham_ok : ∀ k, k < 4 → parseFieldDescriptor (F_Ham k).2.2.1 = some (t_Ham k) := by decide +kernel
abbrev classes : List vw_C := [(R_Acc, F_Acc, 5), (R_Crd, F_Crd, 9), (R_Clb, F_Clb, 7), (R_Hmp, F_Hmp, 5), (R_His, F_His, 3), (R_Ord, F_Ord, 6), (R_Snp, F_Snp, 2), (R_Sta, F_Sta, 3), (R_Ham, F_Ham, 4)]
abbrev b_Acc_init : ByteArray := prog_2_method_1_code
def y_Acc_init : MethodName := ⟨"HamperClub$Accounts", "<init>", "()V"⟩
abbrev b_Acc_copyFrom : ByteArray := prog_2_method_2_code
def y_Acc_copyFrom : MethodName := ⟨"HamperClub$Accounts", "copyFrom", "(LHamperClub$Accounts;)V"⟩
abbrev b_Acc_takeIn : ByteArray := prog_2_method_3_code
def y_Acc_takeIn : MethodName := ⟨"HamperClub$Accounts", "takeIn", "(I)V"⟩
abbrev b_Acc_payOut : ByteArray := prog_2_method_4_code
def y_Acc_payOut : MethodName := ⟨"HamperClub$Accounts", "payOut", "(I)V"⟩
abbrev b_Acc_payShop : ByteArray := prog_2_method_5_code
def y_Acc_payShop : MethodName := ⟨"HamperClub$Accounts", "payShop", "(I)V"⟩
abbrev b_Crd_init : ByteArray := prog_3_method_1_code
def y_Crd_init : MethodName := ⟨"HamperClub$Cards", "<init>", "()V"⟩
abbrev b_Crd_copyFrom : ByteArray := prog_3_method_2_code
def y_Crd_copyFrom : MethodName := ⟨"HamperClub$Cards", "copyFrom", "(LHamperClub$Cards;)V"⟩
abbrev b_Crd_exists : ByteArray := prog_3_method_3_code
def y_Crd_exists : MethodName := ⟨"HamperClub$Cards", "exists", "(I)Z"⟩
abbrev b_Crd_isInHand : ByteArray := prog_3_method_4_code
def y_Crd_isInHand : MethodName := ⟨"HamperClub$Cards", "isInHand", "(I)Z"⟩
abbrev b_Crd_isGoodIn : ByteArray := prog_3_method_5_code
def y_Crd_isGoodIn : MethodName := ⟨"HamperClub$Cards", "isGoodIn", "(II)Z"⟩
abbrev b_Crd_shares : ByteArray := prog_3_method_6_code
def y_Crd_shares : MethodName := ⟨"HamperClub$Cards", "shares", "(I)Z"⟩
abbrev b_Crd_sharedStamps : ByteArray := prog_3_method_7_code
def y_Crd_sharedStamps : MethodName := ⟨"HamperClub$Cards", "sharedStamps", "()I"⟩
abbrev b_Crd_allStamps : ByteArray := prog_3_method_8_code
def y_Crd_allStamps : MethodName := ⟨"HamperClub$Cards", "allStamps", "()I"⟩
abbrev b_Crd_mislaidCards : ByteArray := prog_3_method_9_code
def y_Crd_mislaidCards : MethodName := ⟨"HamperClub$Cards", "mislaidCards", "()I"⟩
abbrev b_Crd_drawnMembers : ByteArray := prog_3_method_10_code
def y_Crd_drawnMembers : MethodName := ⟨"HamperClub$Cards", "drawnMembers", "()I"⟩
abbrev b_Crd_makeGood : ByteArray := prog_3_method_11_code
def y_Crd_makeGood : MethodName := ⟨"HamperClub$Cards", "makeGood", "(II)V"⟩
abbrev b_Crd_rowOfGoodWeeks : ByteArray := prog_3_method_12_code
def y_Crd_rowOfGoodWeeks : MethodName := ⟨"HamperClub$Cards", "rowOfGoodWeeks", "(II)I"⟩
abbrev b_Crd_hasLapsed : ByteArray := prog_3_method_13_code
def y_Crd_hasLapsed : MethodName := ⟨"HamperClub$Cards", "hasLapsed", "(II)Z"⟩
abbrev b_Clb_init : ByteArray := prog_4_method_1_code
def y_Clb_init : MethodName := ⟨"HamperClub$Club", "<init>", "()V"⟩
abbrev b_Clb_copyFrom : ByteArray := prog_4_method_2_code
def y_Clb_copyFrom : MethodName := ⟨"HamperClub$Club", "copyFrom", "(LHamperClub$Club;)V"⟩
abbrev b_Clb_addMember : ByteArray := prog_4_method_3_code
def y_Clb_addMember : MethodName := ⟨"HamperClub$Club", "addMember", "()I"⟩
abbrev b_Clb_stickStamps : ByteArray := prog_4_method_4_code
def y_Clb_stickStamps : MethodName := ⟨"HamperClub$Club", "stickStamps", "(II)I"⟩
abbrev b_Clb_withdrawStamps : ByteArray := prog_4_method_5_code
def y_Clb_withdrawStamps : MethodName := ⟨"HamperClub$Club", "withdrawStamps", "(II)I"⟩
abbrev b_Clb_mislayCard : ByteArray := prog_4_method_6_code
def y_Clb_mislayCard : MethodName := ⟨"HamperClub$Club", "mislayCard", "(I)I"⟩
abbrev b_Clb_findCard : ByteArray := prog_4_method_7_code
def y_Clb_findCard : MethodName := ⟨"HamperClub$Club", "findCard", "(I)I"⟩
abbrev b_Clb_changeKind : ByteArray := prog_4_method_8_code
def y_Clb_changeKind : MethodName := ⟨"HamperClub$Club", "changeKind", "(III)I"⟩
abbrev b_Clb_chooseKind : ByteArray := prog_4_method_9_code
def y_Clb_chooseKind : MethodName := ⟨"HamperClub$Club", "chooseKind", "(II)I"⟩
abbrev b_Clb_giveUpChoice : ByteArray := prog_4_method_10_code
def y_Clb_giveUpChoice : MethodName := ⟨"HamperClub$Club", "giveUpChoice", "(I)I"⟩
abbrev b_Clb_passWeek : ByteArray := prog_4_method_11_code
def y_Clb_passWeek : MethodName := ⟨"HamperClub$Club", "passWeek", "()I"⟩
abbrev b_Clb_replaceCards : ByteArray := prog_4_method_12_code
def y_Clb_replaceCards : MethodName := ⟨"HamperClub$Club", "replaceCards", "()V"⟩
abbrev b_Clb_dropLapsed : ByteArray := prog_4_method_13_code
def y_Clb_dropLapsed : MethodName := ⟨"HamperClub$Club", "dropLapsed", "()I"⟩
abbrev b_Clb_settleAll : ByteArray := prog_4_method_14_code
def y_Clb_settleAll : MethodName := ⟨"HamperClub$Club", "settleAll", "()I"⟩
abbrev b_Clb_bonusOf : ByteArray := prog_4_method_15_code
def y_Clb_bonusOf : MethodName := ⟨"HamperClub$Club", "bonusOf", "(I)I"⟩
abbrev b_Clb_handOutKind : ByteArray := prog_4_method_16_code
def y_Clb_handOutKind : MethodName := ⟨"HamperClub$Club", "handOutKind", "(I)V"⟩
abbrev b_Clb_handOutOne : ByteArray := prog_4_method_17_code
def y_Clb_handOutOne : MethodName := ⟨"HamperClub$Club", "handOutOne", "(II)V"⟩
abbrev b_Clb_payMember : ByteArray := prog_4_method_18_code
def y_Clb_payMember : MethodName := ⟨"HamperClub$Club", "payMember", "(II)V"⟩
abbrev b_Clb_tell : ByteArray := prog_4_method_19_code
def y_Clb_tell : MethodName := ⟨"HamperClub$Club", "tell", "(I)I"⟩
abbrev b_Clb_tellOfMember : ByteArray := prog_4_method_20_code
def y_Clb_tellOfMember : MethodName := ⟨"HamperClub$Club", "tellOfMember", "(II)I"⟩
abbrev b_Hmp_init : ByteArray := prog_5_method_1_code
def y_Hmp_init : MethodName := ⟨"HamperClub$Hampers", "<init>", "()V"⟩
abbrev b_Hmp_copyFrom : ByteArray := prog_5_method_2_code
def y_Hmp_copyFrom : MethodName := ⟨"HamperClub$Hampers", "copyFrom", "(LHamperClub$Hampers;)V"⟩
abbrev b_Hmp_hasOneKept : ByteArray := prog_5_method_3_code
def y_Hmp_hasOneKept : MethodName := ⟨"HamperClub$Hampers", "hasOneKept", "(I)Z"⟩
abbrev b_Hmp_keptOf : ByteArray := prog_5_method_4_code
def y_Hmp_keptOf : MethodName := ⟨"HamperClub$Hampers", "keptOf", "(I)I"⟩
abbrev b_Hmp_rowLength : ByteArray := prog_5_method_5_code
def y_Hmp_rowLength : MethodName := ⟨"HamperClub$Hampers", "rowLength", "(I)I"⟩
abbrev b_Hmp_memberInRow : ByteArray := prog_5_method_6_code
def y_Hmp_memberInRow : MethodName := ⟨"HamperClub$Hampers", "memberInRow", "(II)I"⟩
abbrev b_Hmp_tell : ByteArray := prog_5_method_7_code
def y_Hmp_tell : MethodName := ⟨"HamperClub$Hampers", "tell", "(II)I"⟩
abbrev b_Hmp_put : ByteArray := prog_5_method_8_code
def y_Hmp_put : MethodName := ⟨"HamperClub$Hampers", "put", "(II)I"⟩
abbrev b_Hmp_drop : ByteArray := prog_5_method_9_code
def y_Hmp_drop : MethodName := ⟨"HamperClub$Hampers", "drop", "(II)I"⟩
abbrev b_Hmp_handOut : ByteArray := prog_5_method_10_code
def y_Hmp_handOut : MethodName := ⟨"HamperClub$Hampers", "handOut", "(II)V"⟩
abbrev b_Hmp_forgetChoices : ByteArray := prog_5_method_11_code
def y_Hmp_forgetChoices : MethodName := ⟨"HamperClub$Hampers", "forgetChoices", "()V"⟩
abbrev b_His_init : ByteArray := prog_6_method_1_code
def y_His_init : MethodName := ⟨"HamperClub$History", "<init>", "()V"⟩
abbrev b_His_draft : ByteArray := prog_6_method_2_code
def y_His_draft : MethodName := ⟨"HamperClub$History", "draft", "(LHamperClub$State;)V"⟩
abbrev b_His_keepDraft : ByteArray := prog_6_method_3_code
def y_His_keepDraft : MethodName := ⟨"HamperClub$History", "keepDraft", "()V"⟩
abbrev b_His_putBackLatest : ByteArray := prog_6_method_4_code
def y_His_putBackLatest : MethodName := ⟨"HamperClub$History", "putBackLatest", "(LHamperClub$State;)Z"⟩
abbrev b_Ord_init : ByteArray := prog_7_method_1_code
def y_Ord_init : MethodName := ⟨"HamperClub$Orders", "<init>", "()V"⟩
abbrev b_Ord_add : ByteArray := prog_7_method_2_code
def y_Ord_add : MethodName := ⟨"HamperClub$Orders", "add", "(I)Z"⟩
abbrev b_Ord_fault : ByteArray := prog_7_method_3_code
def y_Ord_fault : MethodName := ⟨"HamperClub$Orders", "fault", "()I"⟩
abbrev b_Ord_carryOutOn : ByteArray := prog_7_method_4_code
def y_Ord_carryOutOn : MethodName := ⟨"HamperClub$Orders", "carryOutOn", "(LHamperClub$Club;)I"⟩
abbrev b_Ord_carryOutOrder : ByteArray := prog_7_method_5_code
def y_Ord_carryOutOrder : MethodName := ⟨"HamperClub$Orders", "carryOutOrder", "(LHamperClub$Club;)I"⟩
abbrev b_Ord_readOrder : ByteArray := prog_7_method_6_code
def y_Ord_readOrder : MethodName := ⟨"HamperClub$Orders", "readOrder", "()Z"⟩
abbrev b_Ord_readNumber : ByteArray := prog_7_method_7_code
def y_Ord_readNumber : MethodName := ⟨"HamperClub$Orders", "readNumber", "()I"⟩
abbrev b_Ord_next : ByteArray := prog_7_method_8_code
def y_Ord_next : MethodName := ⟨"HamperClub$Orders", "next", "()I"⟩
abbrev b_Ord_isDigit : ByteArray := prog_7_method_9_code
def y_Ord_isDigit : MethodName := ⟨"HamperClub$Orders", "isDigit", "(I)Z"⟩
abbrev b_Snp_init : ByteArray := prog_8_method_1_code
def y_Snp_init : MethodName := ⟨"HamperClub$Snapshot", "<init>", "()V"⟩
abbrev b_Snp_copyFrom : ByteArray := prog_8_method_2_code
def y_Snp_copyFrom : MethodName := ⟨"HamperClub$Snapshot", "copyFrom", "(LHamperClub$Snapshot;)V"⟩
abbrev b_Sta_init : ByteArray := prog_9_method_1_code
def y_Sta_init : MethodName := ⟨"HamperClub$State", "<init>", "()V"⟩
abbrev b_Sta_copyFrom : ByteArray := prog_9_method_2_code
def y_Sta_copyFrom : MethodName := ⟨"HamperClub$State", "copyFrom", "(LHamperClub$State;)V"⟩
abbrev b_Sta_snapshots : ByteArray := prog_9_method_3_code
def y_Sta_snapshots : MethodName := ⟨"HamperClub$State", "snapshots", "()I"⟩
abbrev b_Sta_takeSnapshot : ByteArray := prog_9_method_4_code
def y_Sta_takeSnapshot : MethodName := ⟨"HamperClub$State", "takeSnapshot", "(I)I"⟩
abbrev b_Sta_restoreSnapshot : ByteArray := prog_9_method_5_code
def y_Sta_restoreSnapshot : MethodName := ⟨"HamperClub$State", "restoreSnapshot", "(I)I"⟩
abbrev b_Ham_init : ByteArray := prog_1_method_1_code
def y_Ham_init : MethodName := ⟨"HamperClub", "<init>", "()V"⟩
abbrev b_Ham_join : ByteArray := prog_1_method_2_code
def y_Ham_join : MethodName := ⟨"HamperClub", "join", "()I"⟩
abbrev b_Ham_stick : ByteArray := prog_1_method_3_code
def y_Ham_stick : MethodName := ⟨"HamperClub", "stick", "(II)I"⟩
abbrev b_Ham_withdraw : ByteArray := prog_1_method_4_code
def y_Ham_withdraw : MethodName := ⟨"HamperClub", "withdraw", "(II)I"⟩
abbrev b_Ham_mislay : ByteArray := prog_1_method_5_code
def y_Ham_mislay : MethodName := ⟨"HamperClub", "mislay", "(I)I"⟩
abbrev b_Ham_find : ByteArray := prog_1_method_6_code
def y_Ham_find : MethodName := ⟨"HamperClub", "find", "(I)I"⟩
abbrev b_Ham_setHamper : ByteArray := prog_1_method_7_code
def y_Ham_setHamper : MethodName := ⟨"HamperClub", "setHamper", "(III)I"⟩
abbrev b_Ham_choose : ByteArray := prog_1_method_8_code
def y_Ham_choose : MethodName := ⟨"HamperClub", "choose", "(II)I"⟩
abbrev b_Ham_giveUp : ByteArray := prog_1_method_9_code
def y_Ham_giveUp : MethodName := ⟨"HamperClub", "giveUp", "(I)I"⟩
abbrev b_Ham_week : ByteArray := prog_1_method_10_code
def y_Ham_week : MethodName := ⟨"HamperClub", "week", "()I"⟩
abbrev b_Ham_settle : ByteArray := prog_1_method_11_code
def y_Ham_settle : MethodName := ⟨"HamperClub", "settle", "()I"⟩
abbrev b_Ham_take : ByteArray := prog_1_method_12_code
def y_Ham_take : MethodName := ⟨"HamperClub", "take", "(I)I"⟩
abbrev b_Ham_restore : ByteArray := prog_1_method_13_code
def y_Ham_restore : MethodName := ⟨"HamperClub", "restore", "(I)I"⟩
abbrev b_Ham_undo : ByteArray := prog_1_method_14_code
def y_Ham_undo : MethodName := ⟨"HamperClub", "undo", "()I"⟩
abbrev b_Ham_append : ByteArray := prog_1_method_15_code
def y_Ham_append : MethodName := ⟨"HamperClub", "append", "(I)I"⟩
abbrev b_Ham_carryOut : ByteArray := prog_1_method_17_code
def y_Ham_carryOut : MethodName := ⟨"HamperClub", "carryOut", "()I"⟩
abbrev b_Ham_count : ByteArray := prog_1_method_18_code
def y_Ham_count : MethodName := ⟨"HamperClub", "count", "(I)I"⟩
abbrev b_Ham_member : ByteArray := prog_1_method_19_code
def y_Ham_member : MethodName := ⟨"HamperClub", "member", "(II)I"⟩
abbrev b_Ham_isGood : ByteArray := prog_1_method_20_code
def y_Ham_isGood : MethodName := ⟨"HamperClub", "isGood", "(II)I"⟩
abbrev b_Ham_hamper : ByteArray := prog_1_method_21_code
def y_Ham_hamper : MethodName := ⟨"HamperClub", "hamper", "(II)I"⟩
abbrev b_Ham_waiting : ByteArray := prog_1_method_22_code
def y_Ham_waiting : MethodName := ⟨"HamperClub", "waiting", "(II)I"⟩
abbrev b_Ham_would : ByteArray := prog_1_method_23_code
def y_Ham_would : MethodName := ⟨"HamperClub", "would", "(II)I"⟩
abbrev b_Ham_bestKind : ByteArray := prog_1_method_24_code
def y_Ham_bestKind : MethodName := ⟨"HamperClub", "bestKind", "(I)I"⟩
abbrev b_Ham_weeksFor : ByteArray := prog_1_method_25_code
def y_Ham_weeksFor : MethodName := ⟨"HamperClub", "weeksFor", "(III)I"⟩
abbrev b_Ham_recorded : ByteArray := prog_1_method_26_code
def y_Ham_recorded : MethodName := ⟨"HamperClub", "recorded", "(I)I"⟩
abbrev b_Ham_wouldGet : ByteArray := prog_1_method_27_code
def y_Ham_wouldGet : MethodName := ⟨"HamperClub", "wouldGet", "(II)Z"⟩
abbrev b_Ham_isKind : ByteArray := prog_1_method_28_code
def y_Ham_isKind : MethodName := ⟨"HamperClub", "isKind", "(I)Z"⟩
abbrev b_Lng_bitCount : ByteArray := prog_12_method_50_code
def y_Lng_bitCount : MethodName := ⟨"java/lang/Long", "bitCount", "(J)I"⟩
abbrev b_Mth_min : ByteArray := prog_13_method_69_code
def y_Mth_min : MethodName := ⟨"java/lang/Math", "min", "(II)I"⟩
abbrev b_Arr_fill : ByteArray := prog_15_method_103_code
def y_Arr_fill : MethodName := ⟨"java/util/Arrays", "fill", "([II)V"⟩
abbrev b_Law_cell : ByteArray := method_2_code
def y_Law_cell : MethodName := ⟨"HamperClubLaw", "cell", "([II)I"⟩
abbrev b_Law_low : ByteArray := method_3_code
def y_Law_low : MethodName := ⟨"HamperClubLaw", "low", "(II)I"⟩
abbrev b_Law_all : ByteArray := method_4_code
def y_Law_all : MethodName := ⟨"HamperClubLaw", "all", "(LHamperClub;)J"⟩
abbrev b_Law_isSound : ByteArray := method_5_code
def y_Law_isSound : MethodName := ⟨"HamperClubLaw", "isSound", "(LHamperClub;)Z"⟩
abbrev b_Law_isForetold : ByteArray := method_6_code
def y_Law_isForetold : MethodName := ⟨"HamperClubLaw", "isForetold", "(LHamperClub;I)Z"⟩
abbrev b_Law_acts : ByteArray := method_7_code
def y_Law_acts : MethodName := ⟨"HamperClubLaw", "acts", "(LHamperClub;I)I"⟩
/-- the words that may be handed on to a callee -/
def Tg : List Cond := lw_tbl.filter goodWord
theorem Tg_mem {w : Cond} (h : w ∈ lw_tbl) (g : goodWord w = true) : w ∈ Tg := List.mem_filter.mpr ⟨h, g⟩
theorem Tg_sub : ∀ w ∈ Tg, w ∈ lw_tbl := fun _ h => (List.mem_filter.mp h).1
theorem Tg_good : ∀ w ∈ Tg, goodWord w = true := fun _ h => (List.mem_filter.mp h).2
theorem Tg_code {y b n r} {w : Cond} (h : w ∈ Cond.code y b n r :: Tg) : (w.onTables && w.keeps) = true ∨ ∃ ty, w = .arrayClass ty := by
  rcases List.mem_cons.mp h with h | h
  · subst h; exact Or.inl rfl
  · exact good_of_word (Tg_good _ h)
def nestL : List Cond := [.methodLinkNest "HamperClub" 9 y_Sta_init "HamperClub", .methodLinkNest "HamperClub$State" 11 y_Clb_init "HamperClub", .methodLinkNest "HamperClub$Club" 27 y_Acc_init "HamperClub", .methodLinkNest "HamperClub$State" 20 y_Snp_init "HamperClub", .methodLinkNest "HamperClub$Snapshot" 9 y_Clb_init "HamperClub", .methodLinkNest "HamperClub$History" 17 y_Sta_init "HamperClub", .methodLinkNest "HamperClub" 25 y_Ord_init "HamperClub", .methodLinkNest "HamperClub" 32 y_Clb_init "HamperClub", .methodLinkNest "HamperClub$Club" 106 y_Ham_isKind "HamperClub", .methodLinkNest "HamperClub$Hampers" 45 y_Ham_isKind "HamperClub"]
