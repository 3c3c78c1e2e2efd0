def RX0 : String := "Causewaymail$Member"
def TX0 : u_T := fun k => match k with
  | 0 => ("Causewaymail$Member", "id", "I", true)
  | 1 => ("Causewaymail$Member", "clock", "[I", true)
  | 2 => ("Causewaymail$Member", "received", "Ljava/util/ArrayList;", true)
  | 3 => ("Causewaymail$Member", "held", "Ljava/util/ArrayList;", true)
  | 4 => ("Causewaymail$Member", "known", "I", false)
  | 5 => ("Causewaymail$Member", "greatestProposed", "I", false)
  | 6 => ("Causewaymail$Member", "alive", "Z", false)
  | 7 => ("Causewaymail$Member", "inView", "Z", false)
  | _ => ("Causewaymail$Member", "lastOrdered", "I", false)
def tyX0 : Nat → FieldType := fun k => match k with
  | 0 => .int
  | 1 => .array .int
  | 2 => .object "java/util/ArrayList"
  | 3 => .object "java/util/ArrayList"
  | 4 => .int
  | 5 => .int
  | 6 => .boolean
  | 7 => .boolean
  | _ => .int
abbrev wsX00 : List Cond := u_ws RX0 TX0 9
theorem nmX0 : ∀ a, a < 9 → ∀ b, b < 9 → a ≠ b → (TX0 a).2.1 ≠ (TX0 b).2.1 := by decide +kernel
theorem tyX0_ok : ∀ k, k < 9 → parseFieldDescriptor (TX0 k).2.2.1 = some (tyX0 k) := by decide +kernel
abbrev cX0_init : ByteArray := prog_2_method_1_code
def yX0_init : MethodName := ⟨RX0, "<init>", "(I)V"⟩
abbrev cX0_canReceive : ByteArray := prog_2_method_2_code
def yX0_canReceive : MethodName := ⟨RX0, "canReceive", "(LCausewaymail$Message;)Z"⟩
abbrev cX0_firstReceivable : ByteArray := prog_2_method_3_code
def yX0_firstReceivable : MethodName := ⟨RX0, "firstReceivable", "()I"⟩
def RX1 : String := "Causewaymail$Message"
def TX1 : u_T := fun k => match k with
  | 0 => ("Causewaymail$Message", "id", "I", true)
  | 1 => ("Causewaymail$Message", "sender", "I", true)
  | 2 => ("Causewaymail$Message", "historyLength", "I", true)
  | 3 => ("Causewaymail$Message", "stamp", "[I", true)
  | 4 => ("Causewaymail$Message", "copies", "[I", true)
  | 5 => ("Causewaymail$Message", "proposals", "[I", true)
  | 6 => ("Causewaymail$Message", "places", "[I", true)
  | 7 => ("Causewaymail$Message", "number", "I", false)
  | 8 => ("Causewaymail$Message", "agreement", "I", false)
  | _ => ("Causewaymail$Message", "dropped", "Z", false)
def tyX1 : Nat → FieldType := fun k => match k with
  | 0 => .int
  | 1 => .int
  | 2 => .int
  | 3 => .array .int
  | 4 => .array .int
  | 5 => .array .int
  | 6 => .array .int
  | 7 => .int
  | 8 => .int
  | _ => .boolean
abbrev wsX10 : List Cond := u_ws RX1 TX1 10
theorem nmX1 : ∀ a, a < 10 → ∀ b, b < 10 → a ≠ b → (TX1 a).2.1 ≠ (TX1 b).2.1 := by decide +kernel
theorem tyX1_ok : ∀ k, k < 10 → parseFieldDescriptor (TX1 k).2.2.1 = some (tyX1 k) := by decide +kernel
abbrev cX1_init : ByteArray := prog_3_method_1_code
def yX1_init : MethodName := ⟨RX1, "<init>", "(III)V"⟩
abbrev cX1_wasDeliveredTo : ByteArray := prog_3_method_2_code
def yX1_wasDeliveredTo : MethodName := ⟨RX1, "wasDeliveredTo", "(I)Z"⟩
abbrev cX1_isBefore : ByteArray := prog_3_method_3_code
def yX1_isBefore : MethodName := ⟨RX1, "isBefore", "(LCausewaymail$Message;)Z"⟩
abbrev cX1_isInHistoryOf : ByteArray := prog_3_method_4_code
def yX1_isInHistoryOf : MethodName := ⟨RX1, "isInHistoryOf", "(LCausewaymail$Message;)Z"⟩
abbrev cX1_greatestProposal : ByteArray := prog_3_method_5_code
def yX1_greatestProposal : MethodName := ⟨RX1, "greatestProposal", "()I"⟩
def RX2 : String := "Causewaymail"
def TX2 : u_T := fun k => match k with
  | 0 => ("Causewaymail", "members", "[LCausewaymail$Member;", true)
  | 1 => ("Causewaymail", "sent", "Ljava/util/ArrayList;", true)
  | 2 => ("Causewaymail", "numberedOrder", "Ljava/util/ArrayList;", true)
  | 3 => ("Causewaymail", "agreedOrder", "Ljava/util/ArrayList;", true)
  | 4 => ("Causewaymail", "tokenHolder", "I", false)
  | 5 => ("Causewaymail", "greatestAgreed", "I", false)
  | _ => ("Causewaymail", "viewNumber", "I", false)
def tyX2 : Nat → FieldType := fun k => match k with
  | 0 => .array (.object "Causewaymail$Member")
  | 1 => .object "java/util/ArrayList"
  | 2 => .object "java/util/ArrayList"
  | 3 => .object "java/util/ArrayList"
  | 4 => .int
  | 5 => .int
  | _ => .int
abbrev wsX20 : List Cond := u_ws RX2 TX2 7
theorem nmX2 : ∀ a, a < 7 → ∀ b, b < 7 → a ≠ b → (TX2 a).2.1 ≠ (TX2 b).2.1 := by decide +kernel
theorem tyX2_ok : ∀ k, k < 7 → parseFieldDescriptor (TX2 k).2.2.1 = some (tyX2 k) := by decide +kernel
abbrev cX2_init : ByteArray := prog_1_method_1_code
def yX2_init : MethodName := ⟨RX2, "<init>", "()V"⟩
abbrev cX2_send : ByteArray := prog_1_method_2_code
def yX2_send : MethodName := ⟨RX2, "send", "(I)I"⟩
abbrev cX2_arrive : ByteArray := prog_1_method_3_code
def yX2_arrive : MethodName := ⟨RX2, "arrive", "(II)I"⟩
abbrev cX2_lose : ByteArray := prog_1_method_4_code
def yX2_lose : MethodName := ⟨RX2, "lose", "(II)V"⟩
abbrev cX2_sendAgain : ByteArray := prog_1_method_5_code
def yX2_sendAgain : MethodName := ⟨RX2, "sendAgain", "(II)V"⟩
abbrev cX2_messages : ByteArray := prog_1_method_6_code
def yX2_messages : MethodName := ⟨RX2, "messages", "()I"⟩
abbrev cX2_sender : ByteArray := prog_1_method_7_code
def yX2_sender : MethodName := ⟨RX2, "sender", "(I)I"⟩
abbrev cX2_copy : ByteArray := prog_1_method_8_code
def yX2_copy : MethodName := ⟨RX2, "copy", "(II)I"⟩
abbrev cX2_clock : ByteArray := prog_1_method_9_code
def yX2_clock : MethodName := ⟨RX2, "clock", "(II)I"⟩
abbrev cX2_stamp : ByteArray := prog_1_method_10_code
def yX2_stamp : MethodName := ⟨RX2, "stamp", "(II)I"⟩
abbrev cX2_precedes : ByteArray := prog_1_method_11_code
def yX2_precedes : MethodName := ⟨RX2, "precedes", "(II)Z"⟩
abbrev cX2_precedesByHistory : ByteArray := prog_1_method_12_code
def yX2_precedesByHistory : MethodName := ⟨RX2, "precedesByHistory", "(II)Z"⟩
abbrev cX2_areConcurrent : ByteArray := prog_1_method_13_code
def yX2_areConcurrent : MethodName := ⟨RX2, "areConcurrent", "(II)Z"⟩
abbrev cX2_delivered : ByteArray := prog_1_method_14_code
def yX2_delivered : MethodName := ⟨RX2, "delivered", "(I)I"⟩
abbrev cX2_deliveredAt : ByteArray := prog_1_method_15_code
def yX2_deliveredAt : MethodName := ⟨RX2, "deliveredAt", "(II)I"⟩
abbrev cX2_waiting : ByteArray := prog_1_method_16_code
def yX2_waiting : MethodName := ⟨RX2, "waiting", "(I)I"⟩
abbrev cX2_waitingAt : ByteArray := prog_1_method_17_code
def yX2_waitingAt : MethodName := ⟨RX2, "waitingAt", "(II)I"⟩
abbrev cX2_needs : ByteArray := prog_1_method_18_code
def yX2_needs : MethodName := ⟨RX2, "needs", "(II)I"⟩
abbrev cX2_firstNeeded : ByteArray := prog_1_method_19_code
def yX2_firstNeeded : MethodName := ⟨RX2, "firstNeeded", "(II)I"⟩
abbrev cX2_holder : ByteArray := prog_1_method_20_code
def yX2_holder : MethodName := ⟨RX2, "holder", "()I"⟩
abbrev cX2_passToken : ByteArray := prog_1_method_21_code
def yX2_passToken : MethodName := ⟨RX2, "passToken", "(I)I"⟩
abbrev cX2_tell : ByteArray := prog_1_method_22_code
def yX2_tell : MethodName := ⟨RX2, "tell", "(I)I"⟩
abbrev cX2_numbered : ByteArray := prog_1_method_23_code
def yX2_numbered : MethodName := ⟨RX2, "numbered", "()I"⟩
abbrev cX2_numberOf : ByteArray := prog_1_method_24_code
def yX2_numberOf : MethodName := ⟨RX2, "numberOf", "(I)I"⟩
abbrev cX2_ordered : ByteArray := prog_1_method_25_code
def yX2_ordered : MethodName := ⟨RX2, "ordered", "(I)I"⟩
abbrev cX2_proposal : ByteArray := prog_1_method_26_code
def yX2_proposal : MethodName := ⟨RX2, "proposal", "(II)I"⟩
abbrev cX2_agreed : ByteArray := prog_1_method_27_code
def yX2_agreed : MethodName := ⟨RX2, "agreed", "(I)I"⟩
abbrev cX2_agreedAt : ByteArray := prog_1_method_28_code
def yX2_agreedAt : MethodName := ⟨RX2, "agreedAt", "(I)I"⟩
abbrev cX2_fail : ByteArray := prog_1_method_29_code
def yX2_fail : MethodName := ⟨RX2, "fail", "(I)V"⟩
abbrev cX2_flush : ByteArray := prog_1_method_30_code
def yX2_flush : MethodName := ⟨RX2, "flush", "()I"⟩
abbrev cX2_isAlive : ByteArray := prog_1_method_31_code
def yX2_isAlive : MethodName := ⟨RX2, "isAlive", "(I)Z"⟩
abbrev cX2_view : ByteArray := prog_1_method_32_code
def yX2_view : MethodName := ⟨RX2, "view", "()I"⟩
abbrev cX2_requireMember : ByteArray := prog_1_method_33_code
def yX2_requireMember : MethodName := ⟨RX2, "requireMember", "(I)V"⟩
abbrev cX2_requireMessage : ByteArray := prog_1_method_34_code
def yX2_requireMessage : MethodName := ⟨RX2, "requireMessage", "(I)V"⟩
abbrev cX2_requireCopy : ByteArray := prog_1_method_35_code
def yX2_requireCopy : MethodName := ⟨RX2, "requireCopy", "(II)V"⟩
abbrev cX2_requirePlace : ByteArray := prog_1_method_36_code
def yX2_requirePlace : MethodName := ⟨RX2, "requirePlace", "(Ljava/util/ArrayList;I)V"⟩
abbrev cX2_putOnWay : ByteArray := prog_1_method_37_code
def yX2_putOnWay : MethodName := ⟨RX2, "putOnWay", "(LCausewaymail$Message;)V"⟩
abbrev cX2_takeIn : ByteArray := prog_1_method_38_code
def yX2_takeIn : MethodName := ⟨RX2, "takeIn", "(LCausewaymail$Message;LCausewaymail$Member;)I"⟩
abbrev cX2_deliverHeld : ByteArray := prog_1_method_39_code
def yX2_deliverHeld : MethodName := ⟨RX2, "deliverHeld", "(LCausewaymail$Member;)I"⟩
abbrev cX2_deliver : ByteArray := prog_1_method_40_code
def yX2_deliver : MethodName := ⟨RX2, "deliver", "(LCausewaymail$Message;LCausewaymail$Member;)V"⟩
abbrev cX2_isNeeded : ByteArray := prog_1_method_41_code
def yX2_isNeeded : MethodName := ⟨RX2, "isNeeded", "(III)Z"⟩
abbrev cX2_giveNumber : ByteArray := prog_1_method_42_code
def yX2_giveNumber : MethodName := ⟨RX2, "giveNumber", "(LCausewaymail$Message;)V"⟩
abbrev cX2_giveToken : ByteArray := prog_1_method_43_code
def yX2_giveToken : MethodName := ⟨RX2, "giveToken", "(LCausewaymail$Member;)I"⟩
abbrev cX2_hasAllNumbered : ByteArray := prog_1_method_44_code
def yX2_hasAllNumbered : MethodName := ⟨RX2, "hasAllNumbered", "(I)Z"⟩
abbrev cX2_countOrdered : ByteArray := prog_1_method_45_code
def yX2_countOrdered : MethodName := ⟨RX2, "countOrdered", "(LCausewaymail$Member;)I"⟩
abbrev cX2_propose : ByteArray := prog_1_method_46_code
def yX2_propose : MethodName := ⟨RX2, "propose", "(LCausewaymail$Message;LCausewaymail$Member;)V"⟩
abbrev cX2_hasAllProposals : ByteArray := prog_1_method_47_code
def yX2_hasAllProposals : MethodName := ⟨RX2, "hasAllProposals", "(LCausewaymail$Message;)Z"⟩
abbrev cX2_agreeOn : ByteArray := prog_1_method_48_code
def yX2_agreeOn : MethodName := ⟨RX2, "agreeOn", "(LCausewaymail$Message;I)V"⟩
abbrev cX2_countAlive : ByteArray := prog_1_method_49_code
def yX2_countAlive : MethodName := ⟨RX2, "countAlive", "()I"⟩
abbrev cX2_hasFailureInView : ByteArray := prog_1_method_50_code
def yX2_hasFailureInView : MethodName := ⟨RX2, "hasFailureInView", "()Z"⟩
abbrev cX2_dropUndeliverable : ByteArray := prog_1_method_51_code
def yX2_dropUndeliverable : MethodName := ⟨RX2, "dropUndeliverable", "()I"⟩
abbrev cX2_isWithSomeoneAlive : ByteArray := prog_1_method_52_code
def yX2_isWithSomeoneAlive : MethodName := ⟨RX2, "isWithSomeoneAlive", "(LCausewaymail$Message;)Z"⟩
abbrev cX2_followsDropped : ByteArray := prog_1_method_53_code
def yX2_followsDropped : MethodName := ⟨RX2, "followsDropped", "(LCausewaymail$Message;)Z"⟩
abbrev cX2_drop : ByteArray := prog_1_method_54_code
def yX2_drop : MethodName := ⟨RX2, "drop", "(LCausewaymail$Message;)V"⟩
abbrev cX2_takeOut : ByteArray := prog_1_method_55_code
def yX2_takeOut : MethodName := ⟨RX2, "takeOut", "(Ljava/util/ArrayList;LCausewaymail$Message;)V"⟩
abbrev cX2_letAllArrive : ByteArray := prog_1_method_56_code
def yX2_letAllArrive : MethodName := ⟨RX2, "letAllArrive", "()V"⟩
abbrev cX2_changeView : ByteArray := prog_1_method_57_code
def yX2_changeView : MethodName := ⟨RX2, "changeView", "()V"⟩
abbrev cX2_leastAlive : ByteArray := prog_1_method_58_code
def yX2_leastAlive : MethodName := ⟨RX2, "leastAlive", "()LCausewaymail$Member;"⟩
abbrev cX2_agreeOnTheRest : ByteArray := prog_1_method_59_code
def yX2_agreeOnTheRest : MethodName := ⟨RX2, "agreeOnTheRest", "()V"⟩
abbrev cX2_nextToAgreeOn : ByteArray := prog_1_method_60_code
def yX2_nextToAgreeOn : MethodName := ⟨RX2, "nextToAgreeOn", "()LCausewaymail$Message;"⟩
def RX3 : String := "CausewaymailModel"
def TX3 : u_T := fun k => match k with
  | _ => ("", "", "", false)
def tyX3 : Nat → FieldType := fun k => match k with
  | _ => .int
abbrev wsX30 : List Cond := u_ws RX3 TX3 0
theorem nmX3 : ∀ a, a < 0 → ∀ b, b < 0 → a ≠ b → (TX3 a).2.1 ≠ (TX3 b).2.1 := by decide +kernel
theorem tyX3_ok : ∀ k, k < 0 → parseFieldDescriptor (TX3 k).2.2.1 = some (tyX3 k) := by decide +kernel
def RJx145de : String := "java/io/Serializable"
def TJx145de : u_T := fun k => match k with
  | _ => ("", "", "", false)
def tyJx145de : Nat → FieldType := fun k => match k with
  | _ => .int
abbrev wsJx145de0 : List Cond := u_ws RJx145de TJx145de 0
theorem nmJx145de : ∀ a, a < 0 → ∀ b, b < 0 → a ≠ b → (TJx145de a).2.1 ≠ (TJx145de b).2.1 := by decide +kernel
theorem tyJx145de_ok : ∀ k, k < 0 → parseFieldDescriptor (TJx145de k).2.2.1 = some (tyJx145de k) := by decide +kernel
def RJx8e188 : String := "java/lang/Cloneable"
def TJx8e188 : u_T := fun k => match k with
  | _ => ("", "", "", false)
def tyJx8e188 : Nat → FieldType := fun k => match k with
  | _ => .int
abbrev wsJx8e1880 : List Cond := u_ws RJx8e188 TJx8e188 0
theorem nmJx8e188 : ∀ a, a < 0 → ∀ b, b < 0 → a ≠ b → (TJx8e188 a).2.1 ≠ (TJx8e188 b).2.1 := by decide +kernel
theorem tyJx8e188_ok : ∀ k, k < 0 → parseFieldDescriptor (TJx8e188 k).2.2.1 = some (tyJx8e188 k) := by decide +kernel
def RJxab1ab : String := "java/lang/Iterable"
def TJxab1ab : u_T := fun k => match k with
  | _ => ("", "", "", false)
def tyJxab1ab : Nat → FieldType := fun k => match k with
  | _ => .int
abbrev wsJxab1ab0 : List Cond := u_ws RJxab1ab TJxab1ab 0
theorem nmJxab1ab : ∀ a, a < 0 → ∀ b, b < 0 → a ≠ b → (TJxab1ab a).2.1 ≠ (TJxab1ab b).2.1 := by decide +kernel
theorem tyJxab1ab_ok : ∀ k, k < 0 → parseFieldDescriptor (TJxab1ab k).2.2.1 = some (tyJxab1ab k) := by decide +kernel
def RJ9 : String := "java/lang/Math"
def TJ9 : u_T := fun k => match k with
  | _ => ("", "", "", false)
def tyJ9 : Nat → FieldType := fun k => match k with
  | _ => .int
abbrev wsJ90 : List Cond := u_ws RJ9 TJ9 0
theorem nmJ9 : ∀ a, a < 0 → ∀ b, b < 0 → a ≠ b → (TJ9 a).2.1 ≠ (TJ9 b).2.1 := by decide +kernel
theorem tyJ9_ok : ∀ k, k < 0 → parseFieldDescriptor (TJ9 k).2.2.1 = some (tyJ9 k) := by decide +kernel
abbrev cJ9_max_7cf53 : ByteArray := prog_12_method_65_code
def yJ9_max_7cf53 : MethodName := ⟨RJ9, "max", "(II)I"⟩
abbrev cJ9_min_7cf53 : ByteArray := prog_12_method_69_code
def yJ9_min_7cf53 : MethodName := ⟨RJ9, "min", "(II)I"⟩
def RJ0 : String := "java/lang/String"
def TJ0 : u_T := fun k => match k with
  | _ => ("", "", "", false)
def tyJ0 : Nat → FieldType := fun k => match k with
  | _ => .int
abbrev wsJ00 : List Cond := u_ws RJ0 TJ0 0
theorem nmJ0 : ∀ a, a < 0 → ∀ b, b < 0 → a ≠ b → (TJ0 a).2.1 ≠ (TJ0 b).2.1 := by decide +kernel
theorem tyJ0_ok : ∀ k, k < 0 → parseFieldDescriptor (TJ0 k).2.2.1 = some (tyJ0 k) := by decide +kernel
def RJ10 : String := "java/lang/System"
def TJ10 : u_T := fun k => match k with
  | _ => ("", "", "", false)
def tyJ10 : Nat → FieldType := fun k => match k with
  | _ => .int
abbrev wsJ100 : List Cond := u_ws RJ10 TJ10 0
theorem nmJ10 : ∀ a, a < 0 → ∀ b, b < 0 → a ≠ b → (TJ10 a).2.1 ≠ (TJ10 b).2.1 := by decide +kernel
theorem tyJ10_ok : ∀ k, k < 0 → parseFieldDescriptor (TJ10 k).2.2.1 = some (tyJ10 k) := by decide +kernel
def RJxa1e45 : String := "java/util/AbstractCollection"
def TJxa1e45 : u_T := fun k => match k with
  | _ => ("", "", "", false)
def tyJxa1e45 : Nat → FieldType := fun k => match k with
  | _ => .int
abbrev wsJxa1e450 : List Cond := u_ws RJxa1e45 TJxa1e45 0
theorem nmJxa1e45 : ∀ a, a < 0 → ∀ b, b < 0 → a ≠ b → (TJxa1e45 a).2.1 ≠ (TJxa1e45 b).2.1 := by decide +kernel
theorem tyJxa1e45_ok : ∀ k, k < 0 → parseFieldDescriptor (TJxa1e45 k).2.2.1 = some (tyJxa1e45 k) := by decide +kernel
abbrev cJxa1e45_init_da8c8 : ByteArray := prog_17_method_1_code
def yJxa1e45_init_da8c8 : MethodName := ⟨RJxa1e45, "<init>", "()V"⟩
def RJxc12de : String := "java/util/AbstractList"
def TJxc12de : u_T := fun k => match k with
  | _ => ("", "", "", false)
def tyJxc12de : Nat → FieldType := fun k => match k with
  | _ => .int
abbrev wsJxc12de0 : List Cond := u_ws RJxc12de TJxc12de 0
theorem nmJxc12de : ∀ a, a < 0 → ∀ b, b < 0 → a ≠ b → (TJxc12de a).2.1 ≠ (TJxc12de b).2.1 := by decide +kernel
theorem tyJxc12de_ok : ∀ k, k < 0 → parseFieldDescriptor (TJxc12de k).2.2.1 = some (tyJxc12de k) := by decide +kernel
abbrev cJxc12de_init_da8c8 : ByteArray := prog_18_method_1_code
def yJxc12de_init_da8c8 : MethodName := ⟨RJxc12de, "<init>", "()V"⟩
def RJx4a65c : String := "java/util/ArrayList"
def TJx4a65c : u_T := fun k => match k with
  | 0 => ("java/util/AbstractList", "modCount", "I", false)
  | 1 => ("java/util/ArrayList", "elementData", "[Ljava/lang/Object;", false)
  | _ => ("java/util/ArrayList", "size", "I", false)
def tyJx4a65c : Nat → FieldType := fun k => match k with
  | 0 => .int
  | 1 => .array (.object "java/lang/Object")
  | _ => .int
abbrev wsJx4a65c0 : List Cond := u_ws RJx4a65c TJx4a65c 3
theorem nmJx4a65c : ∀ a, a < 3 → ∀ b, b < 3 → a ≠ b → (TJx4a65c a).2.1 ≠ (TJx4a65c b).2.1 := by decide +kernel
theorem tyJx4a65c_ok : ∀ k, k < 3 → parseFieldDescriptor (TJx4a65c k).2.2.1 = some (tyJx4a65c k) := by decide +kernel
abbrev cJx4a65c_init_da8c8 : ByteArray := prog_19_method_2_code
def yJx4a65c_init_da8c8 : MethodName := ⟨RJx4a65c, "<init>", "()V"⟩
abbrev cJx4a65c_grow_92f84 : ByteArray := prog_19_method_6_code
def yJx4a65c_grow_92f84 : MethodName := ⟨RJx4a65c, "grow", "(I)[Ljava/lang/Object;"⟩
abbrev cJx4a65c_grow_d5877 : ByteArray := prog_19_method_7_code
def yJx4a65c_grow_d5877 : MethodName := ⟨RJx4a65c, "grow", "()[Ljava/lang/Object;"⟩
abbrev cJx4a65c_size_8abf5 : ByteArray := prog_19_method_8_code
def yJx4a65c_size_8abf5 : MethodName := ⟨RJx4a65c, "size", "()I"⟩
abbrev cJx4a65c_elementData_915e3 : ByteArray := prog_19_method_18_code
def yJx4a65c_elementData_915e3 : MethodName := ⟨RJx4a65c, "elementData", "(I)Ljava/lang/Object;"⟩
abbrev cJx4a65c_get_915e3 : ByteArray := prog_19_method_20_code
def yJx4a65c_get_915e3 : MethodName := ⟨RJx4a65c, "get", "(I)Ljava/lang/Object;"⟩
abbrev cJx4a65c_add_72be8 : ByteArray := prog_19_method_24_code
def yJx4a65c_add_72be8 : MethodName := ⟨RJx4a65c, "add", "(Ljava/lang/Object;[Ljava/lang/Object;I)V"⟩
abbrev cJx4a65c_add_9ea2d : ByteArray := prog_19_method_25_code
def yJx4a65c_add_9ea2d : MethodName := ⟨RJx4a65c, "add", "(Ljava/lang/Object;)Z"⟩
abbrev cJx4a65c_remove_915e3 : ByteArray := prog_19_method_29_code
def yJx4a65c_remove_915e3 : MethodName := ⟨RJx4a65c, "remove", "(I)Ljava/lang/Object;"⟩
abbrev cJx4a65c_fastRemove_b59b0 : ByteArray := prog_19_method_39_code
def yJx4a65c_fastRemove_b59b0 : MethodName := ⟨RJx4a65c, "fastRemove", "([Ljava/lang/Object;I)V"⟩
def RJ7 : String := "java/util/Arrays"
def TJ7 : u_T := fun k => match k with
  | _ => ("", "", "", false)
def tyJ7 : Nat → FieldType := fun k => match k with
  | _ => .int
abbrev wsJ70 : List Cond := u_ws RJ7 TJ7 0
theorem nmJ7 : ∀ a, a < 0 → ∀ b, b < 0 → a ≠ b → (TJ7 a).2.1 ≠ (TJ7 b).2.1 := by decide +kernel
theorem tyJ7_ok : ∀ k, k < 0 → parseFieldDescriptor (TJ7 k).2.2.1 = some (tyJ7 k) := by decide +kernel
abbrev cJ7_fill_53178 : ByteArray := prog_20_method_103_code
def yJ7_fill_53178 : MethodName := ⟨RJ7, "fill", "([II)V"⟩
abbrev cJ7_copyOf_1904c : ByteArray := prog_20_method_119_code
def yJ7_copyOf_1904c : MethodName := ⟨RJ7, "copyOf", "([Ljava/lang/Object;I)[Ljava/lang/Object;"⟩
abbrev cJ7_copyOf_6403c : ByteArray := prog_20_method_120_code
def yJ7_copyOf_6403c : MethodName := ⟨RJ7, "copyOf", "([Ljava/lang/Object;ILjava/lang/Class;)[Ljava/lang/Object;"⟩
def RJx5ef63 : String := "java/util/Collection"
def TJx5ef63 : u_T := fun k => match k with
  | _ => ("", "", "", false)
def tyJx5ef63 : Nat → FieldType := fun k => match k with
  | _ => .int
abbrev wsJx5ef630 : List Cond := u_ws RJx5ef63 TJx5ef63 0
theorem nmJx5ef63 : ∀ a, a < 0 → ∀ b, b < 0 → a ≠ b → (TJx5ef63 a).2.1 ≠ (TJx5ef63 b).2.1 := by decide +kernel
theorem tyJx5ef63_ok : ∀ k, k < 0 → parseFieldDescriptor (TJx5ef63 k).2.2.1 = some (tyJx5ef63 k) := by decide +kernel
def RJxbd725 : String := "java/util/List"
def TJxbd725 : u_T := fun k => match k with
  | _ => ("", "", "", false)
def tyJxbd725 : Nat → FieldType := fun k => match k with
  | _ => .int
abbrev wsJxbd7250 : List Cond := u_ws RJxbd725 TJxbd725 0
theorem nmJxbd725 : ∀ a, a < 0 → ∀ b, b < 0 → a ≠ b → (TJxbd725 a).2.1 ≠ (TJxbd725 b).2.1 := by decide +kernel
theorem tyJxbd725_ok : ∀ k, k < 0 → parseFieldDescriptor (TJxbd725 k).2.2.1 = some (tyJxbd725 k) := by decide +kernel
def RJ15 : String := "java/util/Objects"
def TJ15 : u_T := fun k => match k with
  | _ => ("", "", "", false)
def tyJ15 : Nat → FieldType := fun k => match k with
  | _ => .int
abbrev wsJ150 : List Cond := u_ws RJ15 TJ15 0
theorem nmJ15 : ∀ a, a < 0 → ∀ b, b < 0 → a ≠ b → (TJ15 a).2.1 ≠ (TJ15 b).2.1 := by decide +kernel
theorem tyJ15_ok : ∀ k, k < 0 → parseFieldDescriptor (TJ15 k).2.2.1 = some (tyJ15 k) := by decide +kernel
abbrev cJ15_checkIndex_7cf53 : ByteArray := prog_23_method_17_code
def yJ15_checkIndex_7cf53 : MethodName := ⟨RJ15, "checkIndex", "(II)I"⟩
def RJxf0a74 : String := "java/util/RandomAccess"
def TJxf0a74 : u_T := fun k => match k with
  | _ => ("", "", "", false)
def tyJxf0a74 : Nat → FieldType := fun k => match k with
  | _ => .int
abbrev wsJxf0a740 : List Cond := u_ws RJxf0a74 TJxf0a74 0
theorem nmJxf0a74 : ∀ a, a < 0 → ∀ b, b < 0 → a ≠ b → (TJxf0a74 a).2.1 ≠ (TJxf0a74 b).2.1 := by decide +kernel
theorem tyJxf0a74_ok : ∀ k, k < 0 → parseFieldDescriptor (TJxf0a74 k).2.2.1 = some (tyJxf0a74 k) := by decide +kernel
def RJxa66e6 : String := "java/util/SequencedCollection"
def TJxa66e6 : u_T := fun k => match k with
  | _ => ("", "", "", false)
def tyJxa66e6 : Nat → FieldType := fun k => match k with
  | _ => .int
abbrev wsJxa66e60 : List Cond := u_ws RJxa66e6 TJxa66e6 0
theorem nmJxa66e6 : ∀ a, a < 0 → ∀ b, b < 0 → a ≠ b → (TJxa66e6 a).2.1 ≠ (TJxa66e6 b).2.1 := by decide +kernel
theorem tyJxa66e6_ok : ∀ k, k < 0 → parseFieldDescriptor (TJxa66e6 k).2.2.1 = some (tyJxa66e6 k) := by decide +kernel
def RJ8 : String := "jdk/internal/util/ArraysSupport"
def TJ8 : u_T := fun k => match k with
  | _ => ("", "", "", false)
def tyJ8 : Nat → FieldType := fun k => match k with
  | _ => .int
abbrev wsJ80 : List Cond := u_ws RJ8 TJ8 0
theorem nmJ8 : ∀ a, a < 0 → ∀ b, b < 0 → a ≠ b → (TJ8 a).2.1 ≠ (TJ8 b).2.1 := by decide +kernel
theorem tyJ8_ok : ∀ k, k < 0 → parseFieldDescriptor (TJ8 k).2.2.1 = some (tyJ8 k) := by decide +kernel
abbrev cJ8_newLength_cabcc : ByteArray := prog_26_method_27_code
def yJ8_newLength_cabcc : MethodName := ⟨RJ8, "newLength", "(III)I"⟩
abbrev cJ8_hugeLength_7cf53 : ByteArray := prog_26_method_28_code
def yJ8_hugeLength_7cf53 : MethodName := ⟨RJ8, "hugeLength", "(II)I"⟩
def RJ3 : String := "jdk/internal/util/Preconditions"
def TJ3 : u_T := fun k => match k with
  | _ => ("", "", "", false)
def tyJ3 : Nat → FieldType := fun k => match k with
  | _ => .int
abbrev wsJ30 : List Cond := u_ws RJ3 TJ3 0
theorem nmJ3 : ∀ a, a < 0 → ∀ b, b < 0 → a ≠ b → (TJ3 a).2.1 ≠ (TJ3 b).2.1 := by decide +kernel
theorem tyJ3_ok : ∀ k, k < 0 → parseFieldDescriptor (TJ3 k).2.2.1 = some (tyJ3 k) := by decide +kernel
abbrev cJ3_checkIndex_8e157 : ByteArray := prog_27_method_11_code
def yJ3_checkIndex_8e157 : MethodName := ⟨RJ3, "checkIndex", "(IILjava/util/function/BiFunction;)I"⟩
def RL : String := "CausewaymailLaw"
abbrev cL_cell : ByteArray := method_2_code
def yL_cell : MethodName := ⟨RL, "cell", "([II)I"⟩
abbrev cL_low : ByteArray := method_3_code
def yL_low : MethodName := ⟨RL, "low", "(II)I"⟩
abbrev cL_send : ByteArray := method_4_code
def yL_send : MethodName := ⟨RL, "send", "(LCausewaymail;I)I"⟩
abbrev cL_arrive : ByteArray := method_5_code
def yL_arrive : MethodName := ⟨RL, "arrive", "(LCausewaymail;II)I"⟩
abbrev cL_lose : ByteArray := method_6_code
def yL_lose : MethodName := ⟨RL, "lose", "(LCausewaymail;II)I"⟩
abbrev cL_sendAgain : ByteArray := method_7_code
def yL_sendAgain : MethodName := ⟨RL, "sendAgain", "(LCausewaymail;II)I"⟩
abbrev cL_passToken : ByteArray := method_8_code
def yL_passToken : MethodName := ⟨RL, "passToken", "(LCausewaymail;I)I"⟩
abbrev cL_tell : ByteArray := method_9_code
def yL_tell : MethodName := ⟨RL, "tell", "(LCausewaymail;I)I"⟩
abbrev cL_fail : ByteArray := method_10_code
def yL_fail : MethodName := ⟨RL, "fail", "(LCausewaymail;I)I"⟩
abbrev cL_flush : ByteArray := method_11_code
def yL_flush : MethodName := ⟨RL, "flush", "(LCausewaymail;)I"⟩
abbrev cL_copy : ByteArray := method_12_code
def yL_copy : MethodName := ⟨RL, "copy", "(LCausewaymail;II)I"⟩
abbrev cL_agreedAt : ByteArray := method_13_code
def yL_agreedAt : MethodName := ⟨RL, "agreedAt", "(LCausewaymail;I)I"⟩
abbrev cL_deliveredAt : ByteArray := method_14_code
def yL_deliveredAt : MethodName := ⟨RL, "deliveredAt", "(LCausewaymail;II)I"⟩
abbrev cL_waitingAt : ByteArray := method_15_code
def yL_waitingAt : MethodName := ⟨RL, "waitingAt", "(LCausewaymail;II)I"⟩
abbrev cL_many : ByteArray := method_16_code
def yL_many : MethodName := ⟨RL, "many", "(J)I"⟩
abbrev cL_at : ByteArray := method_17_code
def yL_at : MethodName := ⟨RL, "at", "(JI)I"⟩
abbrev cL_with : ByteArray := method_18_code
def yL_with : MethodName := ⟨RL, "with", "(JII)J"⟩
abbrev cL_state : ByteArray := method_19_code
def yL_state : MethodName := ⟨RL, "state", "([III)I"⟩
abbrev cL_becomes : ByteArray := method_20_code
def yL_becomes : MethodName := ⟨RL, "becomes", "([IIII)V"⟩
abbrev cL_has : ByteArray := method_21_code
def yL_has : MethodName := ⟨RL, "has", "(II)Z"⟩
abbrev cL_delivers : ByteArray := method_22_code
def yL_delivers : MethodName := ⟨RL, "delivers", "([I[J[J[I[III)V"⟩
abbrev cL_comes : ByteArray := method_23_code
def yL_comes : MethodName := ⟨RL, "comes", "([I[J[J[J[J[I[III)I"⟩
abbrev cL_proposes : ByteArray := method_24_code
def yL_proposes : MethodName := ⟨RL, "proposes", "([J[I[I[III)V"⟩
abbrev cL_sends : ByteArray := method_25_code
def yL_sends : MethodName := ⟨RL, "sends", "([I[J[J[J[J[I[I[I[II)I"⟩
abbrev cL_knows : ByteArray := method_26_code
def yL_knows : MethodName := ⟨RL, "knows", "([I[II)I"⟩
abbrev cL_ordered : ByteArray := method_27_code
def yL_ordered : MethodName := ⟨RL, "ordered", "([J[I[I[II)I"⟩
abbrev cL_holds : ByteArray := method_28_code
def yL_holds : MethodName := ⟨RL, "holds", "([I[J[J[I[I[II)I"⟩
abbrev cL_flushes : ByteArray := method_29_code
def yL_flushes : MethodName := ⟨RL, "flushes", "([I[J[J[J[J[J[I[I[I[I)I"⟩
abbrev cL_keeps : ByteArray := method_30_code
def yL_keeps : MethodName := ⟨RL, "keeps", "(LCausewaymail;II[I[J[J[J[J[J[I[I[I[I)Z"⟩
abbrev cL_isRead : ByteArray := method_31_code
def yL_isRead : MethodName := ⟨RL, "isRead", "(LCausewaymail;I[I[J[J[J[J[J[I[I[I[I)Z"⟩
abbrev cL_law : ByteArray := code
def yL_law : MethodName := ⟨RL, "law", "([I)Z"⟩
abbrev vwCl : List vw_C := [(RJx4a65c, TJx4a65c, 3), (RX0, TX0, 9), (RX1, TX1, 10), (RX2, TX2, 7)]
