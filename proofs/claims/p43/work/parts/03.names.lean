def RX0 : String := "MudCouncil$Log"
def TX0 : u_T := fun k => match k with
  | 0 => ("MudCouncil$Log", "rows", "[I", true)
  | _ => ("MudCouncil$Log", "count", "I", false)
def tyX0 : Nat → FieldType := fun k => match k with
  | 0 => .array .int
  | _ => .int
abbrev wsX00 : List Cond := u_ws RX0 TX0 2
theorem nmX0 : ∀ a, a < 2 → ∀ b, b < 2 → a ≠ b → (TX0 a).2.1 ≠ (TX0 b).2.1 := by decide +kernel
theorem tyX0_ok : ∀ k, k < 2 → parseFieldDescriptor (TX0 k).2.2.1 = some (tyX0 k) := by decide +kernel
abbrev cX0_init : ByteArray := prog_2_method_1_code
def yX0_init : MethodName := ⟨RX0, "<init>", "()V"⟩
abbrev cX0_add : ByteArray := prog_2_method_2_code
def yX0_add : MethodName := ⟨RX0, "add", "(IIIII)V"⟩
def RX1 : String := "MudCouncil$People"
def TX1 : u_T := fun k => match k with
  | 0 => ("MudCouncil$People", "count", "I", false)
  | 1 => ("MudCouncil$People", "rooms", "[I", true)
  | 2 => ("MudCouncil$People", "coins", "[I", true)
  | 3 => ("MudCouncil$People", "strengths", "[I", true)
  | 4 => ("MudCouncil$People", "healths", "[I", true)
  | 5 => ("MudCouncil$People", "readyTimes", "[I", true)
  | 6 => ("MudCouncil$People", "goods", "[I", true)
  | 7 => ("MudCouncil$People", "reached", "[I", true)
  | 8 => ("MudCouncil$People", "words", "[I", true)
  | _ => ("MudCouncil$People", "wordCounts", "[I", true)
def tyX1 : Nat → FieldType := fun k => match k with
  | 0 => .int
  | 1 => .array .int
  | 2 => .array .int
  | 3 => .array .int
  | 4 => .array .int
  | 5 => .array .int
  | 6 => .array .int
  | 7 => .array .int
  | 8 => .array .int
  | _ => .array .int
abbrev wsX10 : List Cond := u_ws RX1 TX1 10
theorem nmX1 : ∀ a, a < 10 → ∀ b, b < 10 → a ≠ b → (TX1 a).2.1 ≠ (TX1 b).2.1 := by decide +kernel
theorem tyX1_ok : ∀ k, k < 10 → parseFieldDescriptor (TX1 k).2.2.1 = some (tyX1 k) := by decide +kernel
abbrev cX1_init : ByteArray := prog_3_method_1_code
def yX1_init : MethodName := ⟨RX1, "<init>", "()V"⟩
abbrev cX1_clear : ByteArray := prog_3_method_2_code
def yX1_clear : MethodName := ⟨RX1, "clear", "()V"⟩
abbrev cX1_add : ByteArray := prog_3_method_3_code
def yX1_add : MethodName := ⟨RX1, "add", "(III)I"⟩
abbrev cX1_next : ByteArray := prog_3_method_4_code
def yX1_next : MethodName := ⟨RX1, "next", "()I"⟩
abbrev cX1_addGoods : ByteArray := prog_3_method_5_code
def yX1_addGoods : MethodName := ⟨RX1, "addGoods", "(III)I"⟩
abbrev cX1_payOut : ByteArray := prog_3_method_6_code
def yX1_payOut : MethodName := ⟨RX1, "payOut", "(III)V"⟩
abbrev cX1_hear : ByteArray := prog_3_method_7_code
def yX1_hear : MethodName := ⟨RX1, "hear", "(II)V"⟩
abbrev cX1_isBegun : ByteArray := prog_3_method_8_code
def yX1_isBegun : MethodName := ⟨RX1, "isBegun", "(I)Z"⟩
abbrev cX1_sumOfCoins : ByteArray := prog_3_method_9_code
def yX1_sumOfCoins : MethodName := ⟨RX1, "sumOfCoins", "()I"⟩
abbrev cX1_sumOfGoods : ByteArray := prog_3_method_10_code
def yX1_sumOfGoods : MethodName := ⟨RX1, "sumOfGoods", "(I)I"⟩
def RX2 : String := "MudCouncil$Places"
def TX2 : u_T := fun k => match k with
  | 0 => ("MudCouncil$Places", "exits", "[I", true)
  | 1 => ("MudCouncil$Places", "tills", "[I", true)
  | 2 => ("MudCouncil$Places", "prices", "[I", true)
  | 3 => ("MudCouncil$Places", "stocks", "[I", true)
  | 4 => ("MudCouncil$Places", "floors", "[I", true)
  | _ => ("MudCouncil$Places", "steps", "[I", true)
def tyX2 : Nat → FieldType := fun k => match k with
  | 0 => .array .int
  | 1 => .array .int
  | 2 => .array .int
  | 3 => .array .int
  | 4 => .array .int
  | _ => .array .int
abbrev wsX20 : List Cond := u_ws RX2 TX2 6
theorem nmX2 : ∀ a, a < 6 → ∀ b, b < 6 → a ≠ b → (TX2 a).2.1 ≠ (TX2 b).2.1 := by decide +kernel
theorem tyX2_ok : ∀ k, k < 6 → parseFieldDescriptor (TX2 k).2.2.1 = some (tyX2 k) := by decide +kernel
abbrev cX2_init : ByteArray := prog_4_method_1_code
def yX2_init : MethodName := ⟨RX2, "<init>", "()V"⟩
abbrev cX2_clear : ByteArray := prog_4_method_2_code
def yX2_clear : MethodName := ⟨RX2, "clear", "()V"⟩
abbrev cX2_exitFrom : ByteArray := prog_4_method_3_code
def yX2_exitFrom : MethodName := ⟨RX2, "exitFrom", "(II)I"⟩
abbrev cX2_connect : ByteArray := prog_4_method_4_code
def yX2_connect : MethodName := ⟨RX2, "connect", "(III)V"⟩
abbrev cX2_leadsTo : ByteArray := prog_4_method_5_code
def yX2_leadsTo : MethodName := ⟨RX2, "leadsTo", "(II)Z"⟩
abbrev cX2_stepsBetween : ByteArray := prog_4_method_6_code
def yX2_stepsBetween : MethodName := ⟨RX2, "stepsBetween", "(II)I"⟩
abbrev cX2_stepOut : ByteArray := prog_4_method_7_code
def yX2_stepOut : MethodName := ⟨RX2, "stepOut", "(I)V"⟩
abbrev cX2_hasShop : ByteArray := prog_4_method_8_code
def yX2_hasShop : MethodName := ⟨RX2, "hasShop", "(I)Z"⟩
abbrev cX2_halfPrice : ByteArray := prog_4_method_9_code
def yX2_halfPrice : MethodName := ⟨RX2, "halfPrice", "(II)I"⟩
abbrev cX2_addStock : ByteArray := prog_4_method_10_code
def yX2_addStock : MethodName := ⟨RX2, "addStock", "(IIII)I"⟩
abbrev cX2_addToFloor : ByteArray := prog_4_method_11_code
def yX2_addToFloor : MethodName := ⟨RX2, "addToFloor", "(III)I"⟩
abbrev cX2_sumOfTills : ByteArray := prog_4_method_12_code
def yX2_sumOfTills : MethodName := ⟨RX2, "sumOfTills", "()I"⟩
abbrev cX2_sumOfGoods : ByteArray := prog_4_method_13_code
def yX2_sumOfGoods : MethodName := ⟨RX2, "sumOfGoods", "(I)I"⟩
def RX3 : String := "MudCouncil$Quests"
def TX3 : u_T := fun k => match k with
  | 0 => ("MudCouncil$Quests", "count", "I", false)
  | 1 => ("MudCouncil$Quests", "rewards", "[I", true)
  | 2 => ("MudCouncil$Quests", "lengths", "[I", true)
  | 3 => ("MudCouncil$Quests", "kinds", "[I", true)
  | 4 => ("MudCouncil$Quests", "firsts", "[I", true)
  | _ => ("MudCouncil$Quests", "seconds", "[I", true)
def tyX3 : Nat → FieldType := fun k => match k with
  | 0 => .int
  | 1 => .array .int
  | 2 => .array .int
  | 3 => .array .int
  | 4 => .array .int
  | _ => .array .int
abbrev wsX30 : List Cond := u_ws RX3 TX3 6
theorem nmX3 : ∀ a, a < 6 → ∀ b, b < 6 → a ≠ b → (TX3 a).2.1 ≠ (TX3 b).2.1 := by decide +kernel
theorem tyX3_ok : ∀ k, k < 6 → parseFieldDescriptor (TX3 k).2.2.1 = some (tyX3 k) := by decide +kernel
abbrev cX3_init : ByteArray := prog_5_method_1_code
def yX3_init : MethodName := ⟨RX3, "<init>", "()V"⟩
abbrev cX3_clear : ByteArray := prog_5_method_2_code
def yX3_clear : MethodName := ⟨RX3, "clear", "()V"⟩
abbrev cX3_add : ByteArray := prog_5_method_3_code
def yX3_add : MethodName := ⟨RX3, "add", "(I)I"⟩
abbrev cX3_addStage : ByteArray := prog_5_method_4_code
def yX3_addStage : MethodName := ⟨RX3, "addStage", "(IIII)I"⟩
def RX4 : String := "MudCouncil$World"
def TX4 : u_T := fun k => match k with
  | 0 => ("MudCouncil$World", "places", "LMudCouncil$Places;", true)
  | 1 => ("MudCouncil$World", "people", "LMudCouncil$People;", true)
  | 2 => ("MudCouncil$World", "quests", "LMudCouncil$Quests;", true)
  | 3 => ("MudCouncil$World", "purse", "I", false)
  | _ => ("MudCouncil$World", "dieSeed", "I", false)
def tyX4 : Nat → FieldType := fun k => match k with
  | 0 => .object "MudCouncil$Places"
  | 1 => .object "MudCouncil$People"
  | 2 => .object "MudCouncil$Quests"
  | 3 => .int
  | _ => .int
abbrev wsX40 : List Cond := u_ws RX4 TX4 5
theorem nmX4 : ∀ a, a < 5 → ∀ b, b < 5 → a ≠ b → (TX4 a).2.1 ≠ (TX4 b).2.1 := by decide +kernel
theorem tyX4_ok : ∀ k, k < 5 → parseFieldDescriptor (TX4 k).2.2.1 = some (tyX4 k) := by decide +kernel
abbrev cX4_init : ByteArray := prog_6_method_1_code
def yX4_init : MethodName := ⟨RX4, "<init>", "()V"⟩
abbrev cX4_clear : ByteArray := prog_6_method_2_code
def yX4_clear : MethodName := ⟨RX4, "clear", "()V"⟩
abbrev cX4_play : ByteArray := prog_6_method_3_code
def yX4_play : MethodName := ⟨RX4, "play", "(IIIII)I"⟩
abbrev cX4_make : ByteArray := prog_6_method_4_code
def yX4_make : MethodName := ⟨RX4, "make", "(IIIII)I"⟩
abbrev cX4_costOf : ByteArray := prog_6_method_5_code
def yX4_costOf : MethodName := ⟨RX4, "costOf", "(I)I"⟩
abbrev cX4_perform : ByteArray := prog_6_method_6_code
def yX4_perform : MethodName := ⟨RX4, "perform", "(IIII)I"⟩
abbrev cX4_tell : ByteArray := prog_6_method_7_code
def yX4_tell : MethodName := ⟨RX4, "tell", "(IIZ)I"⟩
abbrev cX4_trade : ByteArray := prog_6_method_8_code
def yX4_trade : MethodName := ⟨RX4, "trade", "(IIII)V"⟩
abbrev cX4_roll : ByteArray := prog_6_method_9_code
def yX4_roll : MethodName := ⟨RX4, "roll", "()I"⟩
abbrev cX4_fight : ByteArray := prog_6_method_10_code
def yX4_fight : MethodName := ⟨RX4, "fight", "(II)I"⟩
abbrev cX4_defeat : ByteArray := prog_6_method_11_code
def yX4_defeat : MethodName := ⟨RX4, "defeat", "(III)V"⟩
abbrev cX4_pursueQuests : ByteArray := prog_6_method_12_code
def yX4_pursueQuests : MethodName := ⟨RX4, "pursueQuests", "(III)V"⟩
abbrev cX4_isFulfilled : ByteArray := prog_6_method_13_code
def yX4_isFulfilled : MethodName := ⟨RX4, "isFulfilled", "(IIII)Z"⟩
abbrev cX4_reward : ByteArray := prog_6_method_14_code
def yX4_reward : MethodName := ⟨RX4, "reward", "(II)V"⟩
def RX5 : String := "MudCouncil"
def TX5 : u_T := fun k => match k with
  | 0 => ("MudCouncil", "log", "LMudCouncil$Log;", true)
  | 1 => ("MudCouncil", "now", "LMudCouncil$World;", true)
  | _ => ("MudCouncil", "past", "LMudCouncil$World;", true)
def tyX5 : Nat → FieldType := fun k => match k with
  | 0 => .object "MudCouncil$Log"
  | 1 => .object "MudCouncil$World"
  | _ => .object "MudCouncil$World"
abbrev wsX50 : List Cond := u_ws RX5 TX5 3
theorem nmX5 : ∀ a, a < 3 → ∀ b, b < 3 → a ≠ b → (TX5 a).2.1 ≠ (TX5 b).2.1 := by decide +kernel
theorem tyX5_ok : ∀ k, k < 3 → parseFieldDescriptor (TX5 k).2.2.1 = some (tyX5 k) := by decide +kernel
abbrev cX5_init : ByteArray := prog_1_method_1_code
def yX5_init : MethodName := ⟨RX5, "<init>", "()V"⟩
abbrev cX5_link : ByteArray := prog_1_method_2_code
def yX5_link : MethodName := ⟨RX5, "link", "(III)V"⟩
abbrev cX5_shop : ByteArray := prog_1_method_3_code
def yX5_shop : MethodName := ⟨RX5, "shop", "(II)V"⟩
abbrev cX5_stock : ByteArray := prog_1_method_4_code
def yX5_stock : MethodName := ⟨RX5, "stock", "(IIII)I"⟩
abbrev cX5_scatter : ByteArray := prog_1_method_5_code
def yX5_scatter : MethodName := ⟨RX5, "scatter", "(III)I"⟩
abbrev cX5_join : ByteArray := prog_1_method_6_code
def yX5_join : MethodName := ⟨RX5, "join", "(III)I"⟩
abbrev cX5_quest : ByteArray := prog_1_method_7_code
def yX5_quest : MethodName := ⟨RX5, "quest", "(I)I"⟩
abbrev cX5_stage : ByteArray := prog_1_method_8_code
def yX5_stage : MethodName := ⟨RX5, "stage", "(IIII)I"⟩
abbrev cX5_endow : ByteArray := prog_1_method_9_code
def yX5_endow : MethodName := ⟨RX5, "endow", "(I)I"⟩
abbrev cX5_go : ByteArray := prog_1_method_11_code
def yX5_go : MethodName := ⟨RX5, "go", "(I)I"⟩
abbrev cX5_say : ByteArray := prog_1_method_12_code
def yX5_say : MethodName := ⟨RX5, "say", "(I)I"⟩
abbrev cX5_shout : ByteArray := prog_1_method_13_code
def yX5_shout : MethodName := ⟨RX5, "shout", "(I)I"⟩
abbrev cX5_take : ByteArray := prog_1_method_14_code
def yX5_take : MethodName := ⟨RX5, "take", "(I)I"⟩
abbrev cX5_drop : ByteArray := prog_1_method_15_code
def yX5_drop : MethodName := ⟨RX5, "drop", "(I)I"⟩
abbrev cX5_give : ByteArray := prog_1_method_16_code
def yX5_give : MethodName := ⟨RX5, "give", "(II)I"⟩
abbrev cX5_pay : ByteArray := prog_1_method_17_code
def yX5_pay : MethodName := ⟨RX5, "pay", "(II)I"⟩
abbrev cX5_buy : ByteArray := prog_1_method_18_code
def yX5_buy : MethodName := ⟨RX5, "buy", "(I)I"⟩
abbrev cX5_sell : ByteArray := prog_1_method_19_code
def yX5_sell : MethodName := ⟨RX5, "sell", "(I)I"⟩
abbrev cX5_attack : ByteArray := prog_1_method_20_code
def yX5_attack : MethodName := ⟨RX5, "attack", "(I)I"⟩
abbrev cX5_rest : ByteArray := prog_1_method_21_code
def yX5_rest : MethodName := ⟨RX5, "rest", "()I"⟩
abbrev cX5_turn : ByteArray := prog_1_method_22_code
def yX5_turn : MethodName := ⟨RX5, "turn", "()I"⟩
abbrev cX5_readyAt : ByteArray := prog_1_method_23_code
def yX5_readyAt : MethodName := ⟨RX5, "readyAt", "(I)I"⟩
abbrev cX5_roomOf : ByteArray := prog_1_method_24_code
def yX5_roomOf : MethodName := ⟨RX5, "roomOf", "(I)I"⟩
abbrev cX5_coinsOf : ByteArray := prog_1_method_25_code
def yX5_coinsOf : MethodName := ⟨RX5, "coinsOf", "(I)I"⟩
abbrev cX5_healthOf : ByteArray := prog_1_method_26_code
def yX5_healthOf : MethodName := ⟨RX5, "healthOf", "(I)I"⟩
abbrev cX5_goodsOf : ByteArray := prog_1_method_27_code
def yX5_goodsOf : MethodName := ⟨RX5, "goodsOf", "(II)I"⟩
abbrev cX5_heard : ByteArray := prog_1_method_28_code
def yX5_heard : MethodName := ⟨RX5, "heard", "(II)I"⟩
abbrev cX5_stageOf : ByteArray := prog_1_method_29_code
def yX5_stageOf : MethodName := ⟨RX5, "stageOf", "(II)I"⟩
abbrev cX5_exit : ByteArray := prog_1_method_30_code
def yX5_exit : MethodName := ⟨RX5, "exit", "(II)I"⟩
abbrev cX5_distance : ByteArray := prog_1_method_31_code
def yX5_distance : MethodName := ⟨RX5, "distance", "(II)I"⟩
abbrev cX5_onFloor : ByteArray := prog_1_method_32_code
def yX5_onFloor : MethodName := ⟨RX5, "onFloor", "(II)I"⟩
abbrev cX5_stockOf : ByteArray := prog_1_method_33_code
def yX5_stockOf : MethodName := ⟨RX5, "stockOf", "(II)I"⟩
abbrev cX5_tillOf : ByteArray := prog_1_method_34_code
def yX5_tillOf : MethodName := ⟨RX5, "tillOf", "(I)I"⟩
abbrev cX5_purse : ByteArray := prog_1_method_35_code
def yX5_purse : MethodName := ⟨RX5, "purse", "()I"⟩
abbrev cX5_allCoins : ByteArray := prog_1_method_36_code
def yX5_allCoins : MethodName := ⟨RX5, "allCoins", "()I"⟩
abbrev cX5_allGoods : ByteArray := prog_1_method_37_code
def yX5_allGoods : MethodName := ⟨RX5, "allGoods", "(I)I"⟩
abbrev cX5_calls : ByteArray := prog_1_method_38_code
def yX5_calls : MethodName := ⟨RX5, "calls", "()I"⟩
abbrev cX5_roomAfter : ByteArray := prog_1_method_39_code
def yX5_roomAfter : MethodName := ⟨RX5, "roomAfter", "(II)I"⟩
abbrev cX5_coinsAfter : ByteArray := prog_1_method_40_code
def yX5_coinsAfter : MethodName := ⟨RX5, "coinsAfter", "(II)I"⟩
abbrev cX5_turnAfter : ByteArray := prog_1_method_41_code
def yX5_turnAfter : MethodName := ⟨RX5, "turnAfter", "(I)I"⟩
abbrev cX5_keep : ByteArray := prog_1_method_42_code
def yX5_keep : MethodName := ⟨RX5, "keep", "(IIIII)I"⟩
abbrev cX5_worldAfter : ByteArray := prog_1_method_43_code
def yX5_worldAfter : MethodName := ⟨RX5, "worldAfter", "(I)LMudCouncil$World;"⟩
abbrev cX5_needRoom : ByteArray := prog_1_method_44_code
def yX5_needRoom : MethodName := ⟨RX5, "needRoom", "(I)V"⟩
abbrev cX5_needDirection : ByteArray := prog_1_method_45_code
def yX5_needDirection : MethodName := ⟨RX5, "needDirection", "(I)V"⟩
abbrev cX5_needKind : ByteArray := prog_1_method_46_code
def yX5_needKind : MethodName := ⟨RX5, "needKind", "(I)V"⟩
abbrev cX5_needPlayer : ByteArray := prog_1_method_47_code
def yX5_needPlayer : MethodName := ⟨RX5, "needPlayer", "(I)V"⟩
abbrev cX5_needPlayerIn : ByteArray := prog_1_method_48_code
def yX5_needPlayerIn : MethodName := ⟨RX5, "needPlayerIn", "(LMudCouncil$World;I)V"⟩
abbrev cX5_needQuest : ByteArray := prog_1_method_49_code
def yX5_needQuest : MethodName := ⟨RX5, "needQuest", "(I)V"⟩
abbrev cX5_needRange : ByteArray := prog_1_method_50_code
def yX5_needRange : MethodName := ⟨RX5, "needRange", "(III)V"⟩
abbrev cX5_needStageTarget : ByteArray := prog_1_method_51_code
def yX5_needStageTarget : MethodName := ⟨RX5, "needStageTarget", "(II)V"⟩
abbrev cX5_needStageMeasure : ByteArray := prog_1_method_52_code
def yX5_needStageMeasure : MethodName := ⟨RX5, "needStageMeasure", "(II)V"⟩
abbrev cX5_needActor : ByteArray := prog_1_method_53_code
def yX5_needActor : MethodName := ⟨RX5, "needActor", "()I"⟩
abbrev cX5_needCompany : ByteArray := prog_1_method_54_code
def yX5_needCompany : MethodName := ⟨RX5, "needCompany", "(II)V"⟩
abbrev cX5_needOwned : ByteArray := prog_1_method_55_code
def yX5_needOwned : MethodName := ⟨RX5, "needOwned", "(II)V"⟩
abbrev cX5_needTrade : ByteArray := prog_1_method_56_code
def yX5_needTrade : MethodName := ⟨RX5, "needTrade", "(II)V"⟩
abbrev cX5_needCoins : ByteArray := prog_1_method_57_code
def yX5_needCoins : MethodName := ⟨RX5, "needCoins", "(II)V"⟩
abbrev cX5_opposite : ByteArray := prog_1_method_58_code
def yX5_opposite : MethodName := ⟨RX5, "opposite", "(I)I"⟩
abbrev cX5_goodsAt : ByteArray := prog_1_method_59_code
def yX5_goodsAt : MethodName := ⟨RX5, "goodsAt", "(II)I"⟩
abbrev cX5_reachedAt : ByteArray := prog_1_method_60_code
def yX5_reachedAt : MethodName := ⟨RX5, "reachedAt", "(II)I"⟩
abbrev cX5_stageAt : ByteArray := prog_1_method_61_code
def yX5_stageAt : MethodName := ⟨RX5, "stageAt", "(II)I"⟩
def RX6 : String := "MudCouncilModel"
def TX6 : u_T := fun k => match k with
  | _ => ("", "", "", false)
def tyX6 : Nat → FieldType := fun k => match k with
  | _ => .int
abbrev wsX60 : List Cond := u_ws RX6 TX6 0
theorem nmX6 : ∀ a, a < 0 → ∀ b, b < 0 → a ≠ b → (TX6 a).2.1 ≠ (TX6 b).2.1 := by decide +kernel
theorem tyX6_ok : ∀ k, k < 0 → parseFieldDescriptor (TX6 k).2.2.1 = some (tyX6 k) := by decide +kernel
def RJx145de : String := "java/io/Serializable"
def TJx145de : u_T := fun k => match k with
  | _ => ("", "", "", false)
def tyJx145de : Nat → FieldType := fun k => match k with
  | _ => .int
theorem nmJx145de : ∀ a, a < 0 → ∀ b, b < 0 → a ≠ b → (TJx145de a).2.1 ≠ (TJx145de b).2.1 := by decide +kernel
theorem tyJx145de_ok : ∀ k, k < 0 → parseFieldDescriptor (TJx145de k).2.2.1 = some (tyJx145de k) := by decide +kernel
def RJ9 : String := "java/lang/Math"
def TJ9 : u_T := fun k => match k with
  | _ => ("", "", "", false)
def tyJ9 : Nat → FieldType := fun k => match k with
  | _ => .int
theorem nmJ9 : ∀ a, a < 0 → ∀ b, b < 0 → a ≠ b → (TJ9 a).2.1 ≠ (TJ9 b).2.1 := by decide +kernel
theorem tyJ9_ok : ∀ k, k < 0 → parseFieldDescriptor (TJ9 k).2.2.1 = some (tyJ9 k) := by decide +kernel
abbrev cJ9_abs_0f7a4 : ByteArray := prog_13_method_59_code
def yJ9_abs_0f7a4 : MethodName := ⟨RJ9, "abs", "(I)I"⟩
abbrev cJ9_max_7cf53 : ByteArray := prog_13_method_65_code
def yJ9_max_7cf53 : MethodName := ⟨RJ9, "max", "(II)I"⟩
abbrev cJ9_min_7cf53 : ByteArray := prog_13_method_69_code
def yJ9_min_7cf53 : MethodName := ⟨RJ9, "min", "(II)I"⟩
def RJ0 : String := "java/lang/String"
def TJ0 : u_T := fun k => match k with
  | _ => ("", "", "", false)
def tyJ0 : Nat → FieldType := fun k => match k with
  | _ => .int
theorem nmJ0 : ∀ a, a < 0 → ∀ b, b < 0 → a ≠ b → (TJ0 a).2.1 ≠ (TJ0 b).2.1 := by decide +kernel
theorem tyJ0_ok : ∀ k, k < 0 → parseFieldDescriptor (TJ0 k).2.2.1 = some (tyJ0 k) := by decide +kernel
def RJ7 : String := "java/util/Arrays"
def TJ7 : u_T := fun k => match k with
  | _ => ("", "", "", false)
def tyJ7 : Nat → FieldType := fun k => match k with
  | _ => .int
theorem nmJ7 : ∀ a, a < 0 → ∀ b, b < 0 → a ≠ b → (TJ7 a).2.1 ≠ (TJ7 b).2.1 := by decide +kernel
theorem tyJ7_ok : ∀ k, k < 0 → parseFieldDescriptor (TJ7 k).2.2.1 = some (tyJ7 k) := by decide +kernel
abbrev cJ7_fill_53178 : ByteArray := prog_17_method_103_code
def yJ7_fill_53178 : MethodName := ⟨RJ7, "fill", "([II)V"⟩
def RL : String := "MudCouncilLaw"
abbrev cL_draw : ByteArray := method_2_code
def yL_draw : MethodName := ⟨RL, "draw", "([III)I"⟩
abbrev cL_acts : ByteArray := method_3_code
def yL_acts : MethodName := ⟨RL, "acts", "(LMudCouncil;III)I"⟩
abbrev cL_heard : ByteArray := method_4_code
def yL_heard : MethodName := ⟨RL, "heard", "(LMudCouncil;II)I"⟩
abbrev cL_links : ByteArray := method_5_code
def yL_links : MethodName := ⟨RL, "links", "(LMudCouncil;III)Z"⟩
abbrev cL_stages : ByteArray := method_6_code
def yL_stages : MethodName := ⟨RL, "stages", "(LMudCouncil;IIII)I"⟩
abbrev cL_isWorld : ByteArray := method_7_code
def yL_isWorld : MethodName := ⟨RL, "isWorld", "(LMudCouncil;[I)Z"⟩
abbrev cL_areRooms : ByteArray := method_8_code
def yL_areRooms : MethodName := ⟨RL, "areRooms", "(LMudCouncil;I)Z"⟩
abbrev cL_keeps : ByteArray := method_9_code
def yL_keeps : MethodName := ⟨RL, "keeps", "(LMudCouncil;[I[I[J)V"⟩
abbrev cL_after : ByteArray := method_10_code
def yL_after : MethodName := ⟨RL, "after", "(LMudCouncil;III)I"⟩
abbrev cL_wasSo : ByteArray := method_11_code
def yL_wasSo : MethodName := ⟨RL, "wasSo", "(LMudCouncil;[I[JI)Z"⟩
abbrev cL_makes : ByteArray := method_12_code
def yL_makes : MethodName := ⟨RL, "makes", "(LMudCouncil;III[I)Z"⟩
abbrev cL_does : ByteArray := method_13_code
def yL_does : MethodName := ⟨RL, "does", "(LMudCouncil;III[I)Z"⟩
abbrev cL_areHearers : ByteArray := method_14_code
def yL_areHearers : MethodName := ⟨RL, "areHearers", "(LMudCouncil;[IIIIZ)Z"⟩
abbrev cL_council : ByteArray := method_15_code
def yL_council : MethodName := ⟨RL, "council", "([II)Z"⟩
abbrev cL_law : ByteArray := code
def yL_law : MethodName := ⟨RL, "law", "([I)Z"⟩
theorem dX0_init_0 : decode cX0_init 0 = .ok (.aload_n 0, 1) := by decide +kernel
theorem dX0_init_1 : decode cX0_init 1 = .ok (.invokespecial 1, 3) := by decide +kernel
theorem dX0_init_4 : decode cX0_init 4 = .ok (.aload_n 0, 1) := by decide +kernel
theorem dX0_init_5 : decode cX0_init 5 = .ok (.sipush 2560, 3) := by decide +kernel
theorem dX0_init_8 : decode cX0_init 8 = .ok (.newarray .int, 2) := by decide +kernel
theorem dX0_init_10 : decode cX0_init 10 = .ok (.putfield 9, 3) := by decide +kernel
theorem dX0_init_13 : decode cX0_init 13 = .ok (.aload_n 0, 1) := by decide +kernel
theorem dX0_init_14 : decode cX0_init 14 = .ok (.iconst 0, 1) := by decide +kernel
theorem dX0_init_15 : decode cX0_init 15 = .ok (.putfield 13, 3) := by decide +kernel
theorem dX0_init_18 : decode cX0_init 18 = .ok (.return_, 1) := by decide +kernel
theorem dX0_add_0 : decode cX0_add 0 = .ok (.aload_n 0, 1) := by decide +kernel
theorem dX0_add_1 : decode cX0_add 1 = .ok (.getfield 13, 3) := by decide +kernel
theorem dX0_add_4 : decode cX0_add 4 = .ok (.sipush 512, 3) := by decide +kernel
theorem dX0_add_7 : decode cX0_add 7 = .ok (.if_icmp .lt 4, 3) := by decide +kernel
theorem dX0_add_10 : decode cX0_add 10 = .ok (.return_, 1) := by decide +kernel
theorem dX0_add_11 : decode cX0_add 11 = .ok (.aload_n 0, 1) := by decide +kernel
theorem dX0_add_12 : decode cX0_add 12 = .ok (.getfield 13, 3) := by decide +kernel
theorem dX0_add_15 : decode cX0_add 15 = .ok (.iconst 5, 1) := by decide +kernel
theorem dX0_add_16 : decode cX0_add 16 = .ok (.imul, 1) := by decide +kernel
theorem dX0_add_17 : decode cX0_add 17 = .ok (.istore 6, 2) := by decide +kernel
theorem dX0_add_19 : decode cX0_add 19 = .ok (.aload_n 0, 1) := by decide +kernel
theorem dX0_add_20 : decode cX0_add 20 = .ok (.getfield 9, 3) := by decide +kernel
theorem dX0_add_23 : decode cX0_add 23 = .ok (.iload 6, 2) := by decide +kernel
theorem dX0_add_25 : decode cX0_add 25 = .ok (.iload_n 1, 1) := by decide +kernel
theorem dX0_add_26 : decode cX0_add 26 = .ok (.iastore, 1) := by decide +kernel
theorem dX0_add_27 : decode cX0_add 27 = .ok (.aload_n 0, 1) := by decide +kernel
theorem dX0_add_28 : decode cX0_add 28 = .ok (.getfield 9, 3) := by decide +kernel
theorem dX0_add_31 : decode cX0_add 31 = .ok (.iload 6, 2) := by decide +kernel
theorem dX0_add_33 : decode cX0_add 33 = .ok (.iconst 1, 1) := by decide +kernel
theorem dX0_add_34 : decode cX0_add 34 = .ok (.iadd, 1) := by decide +kernel
theorem dX0_add_35 : decode cX0_add 35 = .ok (.iload_n 2, 1) := by decide +kernel
theorem dX0_add_36 : decode cX0_add 36 = .ok (.iastore, 1) := by decide +kernel
theorem dX0_add_37 : decode cX0_add 37 = .ok (.aload_n 0, 1) := by decide +kernel
theorem dX0_add_38 : decode cX0_add 38 = .ok (.getfield 9, 3) := by decide +kernel
theorem dX0_add_41 : decode cX0_add 41 = .ok (.iload 6, 2) := by decide +kernel
theorem dX0_add_43 : decode cX0_add 43 = .ok (.iconst 2, 1) := by decide +kernel
theorem dX0_add_44 : decode cX0_add 44 = .ok (.iadd, 1) := by decide +kernel
theorem dX0_add_45 : decode cX0_add 45 = .ok (.iload_n 3, 1) := by decide +kernel
theorem dX0_add_46 : decode cX0_add 46 = .ok (.iastore, 1) := by decide +kernel
theorem dX0_add_47 : decode cX0_add 47 = .ok (.aload_n 0, 1) := by decide +kernel
theorem dX0_add_48 : decode cX0_add 48 = .ok (.getfield 9, 3) := by decide +kernel
theorem dX0_add_51 : decode cX0_add 51 = .ok (.iload 6, 2) := by decide +kernel
theorem dX0_add_53 : decode cX0_add 53 = .ok (.iconst 3, 1) := by decide +kernel
theorem dX0_add_54 : decode cX0_add 54 = .ok (.iadd, 1) := by decide +kernel
theorem dX0_add_55 : decode cX0_add 55 = .ok (.iload 4, 2) := by decide +kernel
theorem dX0_add_57 : decode cX0_add 57 = .ok (.iastore, 1) := by decide +kernel
theorem dX0_add_58 : decode cX0_add 58 = .ok (.aload_n 0, 1) := by decide +kernel
theorem dX0_add_59 : decode cX0_add 59 = .ok (.getfield 9, 3) := by decide +kernel
theorem dX0_add_62 : decode cX0_add 62 = .ok (.iload 6, 2) := by decide +kernel
theorem dX0_add_64 : decode cX0_add 64 = .ok (.iconst 4, 1) := by decide +kernel
theorem dX0_add_65 : decode cX0_add 65 = .ok (.iadd, 1) := by decide +kernel
theorem dX0_add_66 : decode cX0_add 66 = .ok (.iload 5, 2) := by decide +kernel
theorem dX0_add_68 : decode cX0_add 68 = .ok (.iastore, 1) := by decide +kernel
theorem dX0_add_69 : decode cX0_add 69 = .ok (.aload_n 0, 1) := by decide +kernel
theorem dX0_add_70 : decode cX0_add 70 = .ok (.dup, 1) := by decide +kernel
theorem dX0_add_71 : decode cX0_add 71 = .ok (.getfield 13, 3) := by decide +kernel
theorem dX0_add_74 : decode cX0_add 74 = .ok (.iconst 1, 1) := by decide +kernel
theorem dX0_add_75 : decode cX0_add 75 = .ok (.iadd, 1) := by decide +kernel
theorem dX0_add_76 : decode cX0_add 76 = .ok (.putfield 13, 3) := by decide +kernel
theorem dX0_add_79 : decode cX0_add 79 = .ok (.return_, 1) := by decide +kernel
theorem dX1_init_0 : decode cX1_init 0 = .ok (.aload_n 0, 1) := by decide +kernel
theorem dX1_init_1 : decode cX1_init 1 = .ok (.invokespecial 3, 3) := by decide +kernel
theorem dX1_init_4 : decode cX1_init 4 = .ok (.aload_n 0, 1) := by decide +kernel
theorem dX1_init_5 : decode cX1_init 5 = .ok (.iconst 0, 1) := by decide +kernel
theorem dX1_init_6 : decode cX1_init 6 = .ok (.putfield 9, 3) := by decide +kernel
theorem dX1_init_9 : decode cX1_init 9 = .ok (.aload_n 0, 1) := by decide +kernel
theorem dX1_init_10 : decode cX1_init 10 = .ok (.iconst 4, 1) := by decide +kernel
theorem dX1_init_11 : decode cX1_init 11 = .ok (.newarray .int, 2) := by decide +kernel
theorem dX1_init_13 : decode cX1_init 13 = .ok (.putfield 15, 3) := by decide +kernel
theorem dX1_init_16 : decode cX1_init 16 = .ok (.aload_n 0, 1) := by decide +kernel
theorem dX1_init_17 : decode cX1_init 17 = .ok (.iconst 4, 1) := by decide +kernel
theorem dX1_init_18 : decode cX1_init 18 = .ok (.newarray .int, 2) := by decide +kernel
theorem dX1_init_20 : decode cX1_init 20 = .ok (.putfield 19, 3) := by decide +kernel
theorem dX1_init_23 : decode cX1_init 23 = .ok (.aload_n 0, 1) := by decide +kernel
theorem dX1_init_24 : decode cX1_init 24 = .ok (.iconst 4, 1) := by decide +kernel
theorem dX1_init_25 : decode cX1_init 25 = .ok (.newarray .int, 2) := by decide +kernel
theorem dX1_init_27 : decode cX1_init 27 = .ok (.putfield 22, 3) := by decide +kernel
theorem dX1_init_30 : decode cX1_init 30 = .ok (.aload_n 0, 1) := by decide +kernel
theorem dX1_init_31 : decode cX1_init 31 = .ok (.iconst 4, 1) := by decide +kernel
theorem dX1_init_32 : decode cX1_init 32 = .ok (.newarray .int, 2) := by decide +kernel
theorem dX1_init_34 : decode cX1_init 34 = .ok (.putfield 25, 3) := by decide +kernel
theorem dX1_init_37 : decode cX1_init 37 = .ok (.aload_n 0, 1) := by decide +kernel
theorem dX1_init_38 : decode cX1_init 38 = .ok (.iconst 4, 1) := by decide +kernel
theorem dX1_init_39 : decode cX1_init 39 = .ok (.newarray .int, 2) := by decide +kernel
theorem dX1_init_41 : decode cX1_init 41 = .ok (.putfield 28, 3) := by decide +kernel
theorem dX1_init_44 : decode cX1_init 44 = .ok (.aload_n 0, 1) := by decide +kernel
theorem dX1_init_45 : decode cX1_init 45 = .ok (.bipush 20, 2) := by decide +kernel
theorem dX1_init_47 : decode cX1_init 47 = .ok (.newarray .int, 2) := by decide +kernel
theorem dX1_init_49 : decode cX1_init 49 = .ok (.putfield 31, 3) := by decide +kernel
theorem dX1_init_52 : decode cX1_init 52 = .ok (.aload_n 0, 1) := by decide +kernel
theorem dX1_init_53 : decode cX1_init 53 = .ok (.bipush 12, 2) := by decide +kernel
theorem dX1_init_55 : decode cX1_init 55 = .ok (.newarray .int, 2) := by decide +kernel
theorem dX1_init_57 : decode cX1_init 57 = .ok (.putfield 34, 3) := by decide +kernel
theorem dX1_init_60 : decode cX1_init 60 = .ok (.aload_n 0, 1) := by decide +kernel
theorem dX1_init_61 : decode cX1_init 61 = .ok (.bipush 24, 2) := by decide +kernel
theorem dX1_init_63 : decode cX1_init 63 = .ok (.newarray .int, 2) := by decide +kernel
theorem dX1_init_65 : decode cX1_init 65 = .ok (.putfield 37, 3) := by decide +kernel
theorem dX1_init_68 : decode cX1_init 68 = .ok (.aload_n 0, 1) := by decide +kernel
theorem dX1_init_69 : decode cX1_init 69 = .ok (.iconst 4, 1) := by decide +kernel
theorem dX1_init_70 : decode cX1_init 70 = .ok (.newarray .int, 2) := by decide +kernel
theorem dX1_init_72 : decode cX1_init 72 = .ok (.putfield 40, 3) := by decide +kernel
theorem dX1_init_75 : decode cX1_init 75 = .ok (.return_, 1) := by decide +kernel
theorem dX1_clear_0 : decode cX1_clear 0 = .ok (.aload_n 0, 1) := by decide +kernel
theorem dX1_clear_1 : decode cX1_clear 1 = .ok (.iconst 0, 1) := by decide +kernel
theorem dX1_clear_2 : decode cX1_clear 2 = .ok (.putfield 9, 3) := by decide +kernel
theorem dX1_clear_5 : decode cX1_clear 5 = .ok (.aload_n 0, 1) := by decide +kernel
theorem dX1_clear_6 : decode cX1_clear 6 = .ok (.getfield 31, 3) := by decide +kernel
theorem dX1_clear_9 : decode cX1_clear 9 = .ok (.iconst 0, 1) := by decide +kernel
theorem dX1_clear_10 : decode cX1_clear 10 = .ok (.invokestatic 43, 3) := by decide +kernel
theorem dX1_clear_13 : decode cX1_clear 13 = .ok (.aload_n 0, 1) := by decide +kernel
theorem dX1_clear_14 : decode cX1_clear 14 = .ok (.getfield 34, 3) := by decide +kernel
theorem dX1_clear_17 : decode cX1_clear 17 = .ok (.iconst 0, 1) := by decide +kernel
theorem dX1_clear_18 : decode cX1_clear 18 = .ok (.invokestatic 43, 3) := by decide +kernel
theorem dX1_clear_21 : decode cX1_clear 21 = .ok (.aload_n 0, 1) := by decide +kernel
theorem dX1_clear_22 : decode cX1_clear 22 = .ok (.getfield 40, 3) := by decide +kernel
theorem dX1_clear_25 : decode cX1_clear 25 = .ok (.iconst 0, 1) := by decide +kernel
theorem dX1_clear_26 : decode cX1_clear 26 = .ok (.invokestatic 43, 3) := by decide +kernel
theorem dX1_clear_29 : decode cX1_clear 29 = .ok (.return_, 1) := by decide +kernel
theorem dX1_add_0 : decode cX1_add 0 = .ok (.aload_n 0, 1) := by decide +kernel
theorem dX1_add_1 : decode cX1_add 1 = .ok (.getfield 9, 3) := by decide +kernel
theorem dX1_add_4 : decode cX1_add 4 = .ok (.istore 4, 2) := by decide +kernel
theorem dX1_add_6 : decode cX1_add 6 = .ok (.aload_n 0, 1) := by decide +kernel
theorem dX1_add_7 : decode cX1_add 7 = .ok (.getfield 15, 3) := by decide +kernel
theorem dX1_add_10 : decode cX1_add 10 = .ok (.iload 4, 2) := by decide +kernel
theorem dX1_add_12 : decode cX1_add 12 = .ok (.iload_n 1, 1) := by decide +kernel
theorem dX1_add_13 : decode cX1_add 13 = .ok (.iastore, 1) := by decide +kernel
theorem dX1_add_14 : decode cX1_add 14 = .ok (.aload_n 0, 1) := by decide +kernel
theorem dX1_add_15 : decode cX1_add 15 = .ok (.getfield 19, 3) := by decide +kernel
theorem dX1_add_18 : decode cX1_add 18 = .ok (.iload 4, 2) := by decide +kernel
theorem dX1_add_20 : decode cX1_add 20 = .ok (.iload_n 2, 1) := by decide +kernel
theorem dX1_add_21 : decode cX1_add 21 = .ok (.iastore, 1) := by decide +kernel
theorem dX1_add_22 : decode cX1_add 22 = .ok (.aload_n 0, 1) := by decide +kernel
theorem dX1_add_23 : decode cX1_add 23 = .ok (.getfield 22, 3) := by decide +kernel
theorem dX1_add_26 : decode cX1_add 26 = .ok (.iload 4, 2) := by decide +kernel
theorem dX1_add_28 : decode cX1_add 28 = .ok (.iload_n 3, 1) := by decide +kernel
theorem dX1_add_29 : decode cX1_add 29 = .ok (.iastore, 1) := by decide +kernel
theorem dX1_add_30 : decode cX1_add 30 = .ok (.aload_n 0, 1) := by decide +kernel
theorem dX1_add_31 : decode cX1_add 31 = .ok (.getfield 25, 3) := by decide +kernel
theorem dX1_add_34 : decode cX1_add 34 = .ok (.iload 4, 2) := by decide +kernel
theorem dX1_add_36 : decode cX1_add 36 = .ok (.bipush 20, 2) := by decide +kernel
theorem dX1_add_38 : decode cX1_add 38 = .ok (.iastore, 1) := by decide +kernel
theorem dX1_add_39 : decode cX1_add 39 = .ok (.aload_n 0, 1) := by decide +kernel
theorem dX1_add_40 : decode cX1_add 40 = .ok (.getfield 28, 3) := by decide +kernel
theorem dX1_add_43 : decode cX1_add 43 = .ok (.iload 4, 2) := by decide +kernel
theorem dX1_add_45 : decode cX1_add 45 = .ok (.iconst 0, 1) := by decide +kernel
theorem dX1_add_46 : decode cX1_add 46 = .ok (.iastore, 1) := by decide +kernel
theorem dX1_add_47 : decode cX1_add 47 = .ok (.aload_n 0, 1) := by decide +kernel
theorem dX1_add_48 : decode cX1_add 48 = .ok (.dup, 1) := by decide +kernel
theorem dX1_add_49 : decode cX1_add 49 = .ok (.getfield 9, 3) := by decide +kernel
theorem dX1_add_52 : decode cX1_add 52 = .ok (.iconst 1, 1) := by decide +kernel
theorem dX1_add_53 : decode cX1_add 53 = .ok (.iadd, 1) := by decide +kernel
theorem dX1_add_54 : decode cX1_add 54 = .ok (.putfield 9, 3) := by decide +kernel
theorem dX1_add_57 : decode cX1_add 57 = .ok (.iload 4, 2) := by decide +kernel
theorem dX1_add_59 : decode cX1_add 59 = .ok (.ireturn, 1) := by decide +kernel
theorem dX1_next_0 : decode cX1_next 0 = .ok (.iconst (-1), 1) := by decide +kernel
theorem dX1_next_1 : decode cX1_next 1 = .ok (.istore_n 1, 1) := by decide +kernel
theorem dX1_next_2 : decode cX1_next 2 = .ok (.iconst 0, 1) := by decide +kernel
theorem dX1_next_3 : decode cX1_next 3 = .ok (.istore_n 2, 1) := by decide +kernel
theorem dX1_next_4 : decode cX1_next 4 = .ok (.iload_n 2, 1) := by decide +kernel
theorem dX1_next_5 : decode cX1_next 5 = .ok (.aload_n 0, 1) := by decide +kernel
theorem dX1_next_6 : decode cX1_next 6 = .ok (.getfield 9, 3) := by decide +kernel
theorem dX1_next_9 : decode cX1_next 9 = .ok (.if_icmp .ge 31, 3) := by decide +kernel
theorem dX1_next_12 : decode cX1_next 12 = .ok (.iload_n 1, 1) := by decide +kernel
theorem dX1_next_13 : decode cX1_next 13 = .ok (.iconst (-1), 1) := by decide +kernel
theorem dX1_next_14 : decode cX1_next 14 = .ok (.if_icmp .eq 18, 3) := by decide +kernel
theorem dX1_next_17 : decode cX1_next 17 = .ok (.aload_n 0, 1) := by decide +kernel
theorem dX1_next_18 : decode cX1_next 18 = .ok (.getfield 28, 3) := by decide +kernel
theorem dX1_next_21 : decode cX1_next 21 = .ok (.iload_n 2, 1) := by decide +kernel
theorem dX1_next_22 : decode cX1_next 22 = .ok (.iaload, 1) := by decide +kernel
theorem dX1_next_23 : decode cX1_next 23 = .ok (.aload_n 0, 1) := by decide +kernel
theorem dX1_next_24 : decode cX1_next 24 = .ok (.getfield 28, 3) := by decide +kernel
theorem dX1_next_27 : decode cX1_next 27 = .ok (.iload_n 1, 1) := by decide +kernel
theorem dX1_next_28 : decode cX1_next 28 = .ok (.iaload, 1) := by decide +kernel
theorem dX1_next_29 : decode cX1_next 29 = .ok (.if_icmp .ge 5, 3) := by decide +kernel
theorem dX1_next_32 : decode cX1_next 32 = .ok (.iload_n 2, 1) := by decide +kernel
theorem dX1_next_33 : decode cX1_next 33 = .ok (.istore_n 1, 1) := by decide +kernel
theorem dX1_next_34 : decode cX1_next 34 = .ok (.iinc 2 1, 3) := by decide +kernel
theorem dX1_next_37 : decode cX1_next 37 = .ok (.goto (-33), 3) := by decide +kernel
theorem dX1_next_40 : decode cX1_next 40 = .ok (.iload_n 1, 1) := by decide +kernel
theorem dX1_next_41 : decode cX1_next 41 = .ok (.ireturn, 1) := by decide +kernel
theorem dX1_addGoods_0 : decode cX1_addGoods 0 = .ok (.iload_n 1, 1) := by decide +kernel
theorem dX1_addGoods_1 : decode cX1_addGoods 1 = .ok (.iload_n 2, 1) := by decide +kernel
theorem dX1_addGoods_2 : decode cX1_addGoods 2 = .ok (.invokestatic 49, 3) := by decide +kernel
theorem dX1_addGoods_5 : decode cX1_addGoods 5 = .ok (.istore 4, 2) := by decide +kernel
theorem dX1_addGoods_7 : decode cX1_addGoods 7 = .ok (.aload_n 0, 1) := by decide +kernel
theorem dX1_addGoods_8 : decode cX1_addGoods 8 = .ok (.getfield 31, 3) := by decide +kernel
theorem dX1_addGoods_11 : decode cX1_addGoods 11 = .ok (.iload 4, 2) := by decide +kernel
theorem dX1_addGoods_13 : decode cX1_addGoods 13 = .ok (.dup2, 1) := by decide +kernel
theorem dX1_addGoods_14 : decode cX1_addGoods 14 = .ok (.iaload, 1) := by decide +kernel
theorem dX1_addGoods_15 : decode cX1_addGoods 15 = .ok (.iload_n 3, 1) := by decide +kernel
theorem dX1_addGoods_16 : decode cX1_addGoods 16 = .ok (.iadd, 1) := by decide +kernel
theorem dX1_addGoods_17 : decode cX1_addGoods 17 = .ok (.iastore, 1) := by decide +kernel
theorem dX1_addGoods_18 : decode cX1_addGoods 18 = .ok (.aload_n 0, 1) := by decide +kernel
theorem dX1_addGoods_19 : decode cX1_addGoods 19 = .ok (.getfield 31, 3) := by decide +kernel
theorem dX1_addGoods_22 : decode cX1_addGoods 22 = .ok (.iload 4, 2) := by decide +kernel
theorem dX1_addGoods_24 : decode cX1_addGoods 24 = .ok (.iaload, 1) := by decide +kernel
theorem dX1_addGoods_25 : decode cX1_addGoods 25 = .ok (.ireturn, 1) := by decide +kernel
theorem dX1_payOut_0 : decode cX1_payOut 0 = .ok (.aload_n 0, 1) := by decide +kernel
theorem dX1_payOut_1 : decode cX1_payOut 1 = .ok (.getfield 19, 3) := by decide +kernel
theorem dX1_payOut_4 : decode cX1_payOut 4 = .ok (.iload_n 1, 1) := by decide +kernel
theorem dX1_payOut_5 : decode cX1_payOut 5 = .ok (.dup2, 1) := by decide +kernel
theorem dX1_payOut_6 : decode cX1_payOut 6 = .ok (.iaload, 1) := by decide +kernel
theorem dX1_payOut_7 : decode cX1_payOut 7 = .ok (.iload_n 3, 1) := by decide +kernel
theorem dX1_payOut_8 : decode cX1_payOut 8 = .ok (.isub, 1) := by decide +kernel
theorem dX1_payOut_9 : decode cX1_payOut 9 = .ok (.iastore, 1) := by decide +kernel
theorem dX1_payOut_10 : decode cX1_payOut 10 = .ok (.aload_n 0, 1) := by decide +kernel
theorem dX1_payOut_11 : decode cX1_payOut 11 = .ok (.getfield 19, 3) := by decide +kernel
theorem dX1_payOut_14 : decode cX1_payOut 14 = .ok (.iload_n 2, 1) := by decide +kernel
theorem dX1_payOut_15 : decode cX1_payOut 15 = .ok (.dup2, 1) := by decide +kernel
theorem dX1_payOut_16 : decode cX1_payOut 16 = .ok (.iaload, 1) := by decide +kernel
theorem dX1_payOut_17 : decode cX1_payOut 17 = .ok (.iload_n 3, 1) := by decide +kernel
theorem dX1_payOut_18 : decode cX1_payOut 18 = .ok (.iadd, 1) := by decide +kernel
theorem dX1_payOut_19 : decode cX1_payOut 19 = .ok (.iastore, 1) := by decide +kernel
theorem dX1_payOut_20 : decode cX1_payOut 20 = .ok (.return_, 1) := by decide +kernel
theorem dX1_hear_0 : decode cX1_hear 0 = .ok (.iload_n 1, 1) := by decide +kernel
theorem dX1_hear_1 : decode cX1_hear 1 = .ok (.bipush 6, 2) := by decide +kernel
theorem dX1_hear_3 : decode cX1_hear 3 = .ok (.imul, 1) := by decide +kernel
theorem dX1_hear_4 : decode cX1_hear 4 = .ok (.istore_n 3, 1) := by decide +kernel
theorem dX1_hear_5 : decode cX1_hear 5 = .ok (.iconst 5, 1) := by decide +kernel
theorem dX1_hear_6 : decode cX1_hear 6 = .ok (.istore 4, 2) := by decide +kernel
theorem dX1_hear_8 : decode cX1_hear 8 = .ok (.iload 4, 2) := by decide +kernel
theorem dX1_hear_10 : decode cX1_hear 10 = .ok (.ifCond .le 29, 3) := by decide +kernel
theorem dX1_hear_13 : decode cX1_hear 13 = .ok (.aload_n 0, 1) := by decide +kernel
theorem dX1_hear_14 : decode cX1_hear 14 = .ok (.getfield 37, 3) := by decide +kernel
theorem dX1_hear_17 : decode cX1_hear 17 = .ok (.iload_n 3, 1) := by decide +kernel
theorem dX1_hear_18 : decode cX1_hear 18 = .ok (.iload 4, 2) := by decide +kernel
theorem dX1_hear_20 : decode cX1_hear 20 = .ok (.iadd, 1) := by decide +kernel
theorem dX1_hear_21 : decode cX1_hear 21 = .ok (.aload_n 0, 1) := by decide +kernel
theorem dX1_hear_22 : decode cX1_hear 22 = .ok (.getfield 37, 3) := by decide +kernel
theorem dX1_hear_25 : decode cX1_hear 25 = .ok (.iload_n 3, 1) := by decide +kernel
theorem dX1_hear_26 : decode cX1_hear 26 = .ok (.iload 4, 2) := by decide +kernel
theorem dX1_hear_28 : decode cX1_hear 28 = .ok (.iadd, 1) := by decide +kernel
theorem dX1_hear_29 : decode cX1_hear 29 = .ok (.iconst 1, 1) := by decide +kernel
theorem dX1_hear_30 : decode cX1_hear 30 = .ok (.isub, 1) := by decide +kernel
theorem dX1_hear_31 : decode cX1_hear 31 = .ok (.iaload, 1) := by decide +kernel
theorem dX1_hear_32 : decode cX1_hear 32 = .ok (.iastore, 1) := by decide +kernel
theorem dX1_hear_33 : decode cX1_hear 33 = .ok (.iinc 4 (-1), 3) := by decide +kernel
theorem dX1_hear_36 : decode cX1_hear 36 = .ok (.goto (-28), 3) := by decide +kernel
theorem dX1_hear_39 : decode cX1_hear 39 = .ok (.aload_n 0, 1) := by decide +kernel
theorem dX1_hear_40 : decode cX1_hear 40 = .ok (.getfield 37, 3) := by decide +kernel
theorem dX1_hear_43 : decode cX1_hear 43 = .ok (.iload_n 3, 1) := by decide +kernel
theorem dX1_hear_44 : decode cX1_hear 44 = .ok (.iload_n 2, 1) := by decide +kernel
theorem dX1_hear_45 : decode cX1_hear 45 = .ok (.iastore, 1) := by decide +kernel
theorem dX1_hear_46 : decode cX1_hear 46 = .ok (.aload_n 0, 1) := by decide +kernel
theorem dX1_hear_47 : decode cX1_hear 47 = .ok (.getfield 40, 3) := by decide +kernel
theorem dX1_hear_50 : decode cX1_hear 50 = .ok (.iload_n 1, 1) := by decide +kernel
theorem dX1_hear_51 : decode cX1_hear 51 = .ok (.aload_n 0, 1) := by decide +kernel
theorem dX1_hear_52 : decode cX1_hear 52 = .ok (.getfield 40, 3) := by decide +kernel
theorem dX1_hear_55 : decode cX1_hear 55 = .ok (.iload_n 1, 1) := by decide +kernel
theorem dX1_hear_56 : decode cX1_hear 56 = .ok (.iaload, 1) := by decide +kernel
theorem dX1_hear_57 : decode cX1_hear 57 = .ok (.iconst 1, 1) := by decide +kernel
theorem dX1_hear_58 : decode cX1_hear 58 = .ok (.iadd, 1) := by decide +kernel
theorem dX1_hear_59 : decode cX1_hear 59 = .ok (.bipush 6, 2) := by decide +kernel
theorem dX1_hear_61 : decode cX1_hear 61 = .ok (.invokestatic 53, 3) := by decide +kernel
theorem dX1_hear_64 : decode cX1_hear 64 = .ok (.iastore, 1) := by decide +kernel
theorem dX1_hear_65 : decode cX1_hear 65 = .ok (.return_, 1) := by decide +kernel
theorem dX1_isBegun_0 : decode cX1_isBegun 0 = .ok (.iconst 0, 1) := by decide +kernel
theorem dX1_isBegun_1 : decode cX1_isBegun 1 = .ok (.istore_n 2, 1) := by decide +kernel
theorem dX1_isBegun_2 : decode cX1_isBegun 2 = .ok (.iload_n 2, 1) := by decide +kernel
theorem dX1_isBegun_3 : decode cX1_isBegun 3 = .ok (.aload_n 0, 1) := by decide +kernel
theorem dX1_isBegun_4 : decode cX1_isBegun 4 = .ok (.getfield 9, 3) := by decide +kernel
theorem dX1_isBegun_7 : decode cX1_isBegun 7 = .ok (.if_icmp .ge 24, 3) := by decide +kernel
theorem dX1_isBegun_10 : decode cX1_isBegun 10 = .ok (.aload_n 0, 1) := by decide +kernel
theorem dX1_isBegun_11 : decode cX1_isBegun 11 = .ok (.getfield 34, 3) := by decide +kernel
theorem dX1_isBegun_14 : decode cX1_isBegun 14 = .ok (.iload_n 2, 1) := by decide +kernel
theorem dX1_isBegun_15 : decode cX1_isBegun 15 = .ok (.iload_n 1, 1) := by decide +kernel
theorem dX1_isBegun_16 : decode cX1_isBegun 16 = .ok (.invokestatic 58, 3) := by decide +kernel
theorem dX1_isBegun_19 : decode cX1_isBegun 19 = .ok (.iaload, 1) := by decide +kernel
theorem dX1_isBegun_20 : decode cX1_isBegun 20 = .ok (.ifCond .le 5, 3) := by decide +kernel
theorem dX1_isBegun_23 : decode cX1_isBegun 23 = .ok (.iconst 1, 1) := by decide +kernel
theorem dX1_isBegun_24 : decode cX1_isBegun 24 = .ok (.ireturn, 1) := by decide +kernel
theorem dX1_isBegun_25 : decode cX1_isBegun 25 = .ok (.iinc 2 1, 3) := by decide +kernel
theorem dX1_isBegun_28 : decode cX1_isBegun 28 = .ok (.goto (-26), 3) := by decide +kernel
theorem dX1_isBegun_31 : decode cX1_isBegun 31 = .ok (.iconst 0, 1) := by decide +kernel
theorem dX1_isBegun_32 : decode cX1_isBegun 32 = .ok (.ireturn, 1) := by decide +kernel
theorem dX1_sumOfCoins_0 : decode cX1_sumOfCoins 0 = .ok (.iconst 0, 1) := by decide +kernel
theorem dX1_sumOfCoins_1 : decode cX1_sumOfCoins 1 = .ok (.istore_n 1, 1) := by decide +kernel
theorem dX1_sumOfCoins_2 : decode cX1_sumOfCoins 2 = .ok (.iconst 0, 1) := by decide +kernel
theorem dX1_sumOfCoins_3 : decode cX1_sumOfCoins 3 = .ok (.istore_n 2, 1) := by decide +kernel
theorem dX1_sumOfCoins_4 : decode cX1_sumOfCoins 4 = .ok (.iload_n 2, 1) := by decide +kernel
theorem dX1_sumOfCoins_5 : decode cX1_sumOfCoins 5 = .ok (.aload_n 0, 1) := by decide +kernel
theorem dX1_sumOfCoins_6 : decode cX1_sumOfCoins 6 = .ok (.getfield 9, 3) := by decide +kernel
theorem dX1_sumOfCoins_9 : decode cX1_sumOfCoins 9 = .ok (.if_icmp .ge 18, 3) := by decide +kernel
theorem dX1_sumOfCoins_12 : decode cX1_sumOfCoins 12 = .ok (.iload_n 1, 1) := by decide +kernel
theorem dX1_sumOfCoins_13 : decode cX1_sumOfCoins 13 = .ok (.aload_n 0, 1) := by decide +kernel
theorem dX1_sumOfCoins_14 : decode cX1_sumOfCoins 14 = .ok (.getfield 19, 3) := by decide +kernel
theorem dX1_sumOfCoins_17 : decode cX1_sumOfCoins 17 = .ok (.iload_n 2, 1) := by decide +kernel
theorem dX1_sumOfCoins_18 : decode cX1_sumOfCoins 18 = .ok (.iaload, 1) := by decide +kernel
theorem dX1_sumOfCoins_19 : decode cX1_sumOfCoins 19 = .ok (.iadd, 1) := by decide +kernel
theorem dX1_sumOfCoins_20 : decode cX1_sumOfCoins 20 = .ok (.istore_n 1, 1) := by decide +kernel
theorem dX1_sumOfCoins_21 : decode cX1_sumOfCoins 21 = .ok (.iinc 2 1, 3) := by decide +kernel
theorem dX1_sumOfCoins_24 : decode cX1_sumOfCoins 24 = .ok (.goto (-20), 3) := by decide +kernel
theorem dX1_sumOfCoins_27 : decode cX1_sumOfCoins 27 = .ok (.iload_n 1, 1) := by decide +kernel
theorem dX1_sumOfCoins_28 : decode cX1_sumOfCoins 28 = .ok (.ireturn, 1) := by decide +kernel
theorem dX1_sumOfGoods_0 : decode cX1_sumOfGoods 0 = .ok (.iconst 0, 1) := by decide +kernel
theorem dX1_sumOfGoods_1 : decode cX1_sumOfGoods 1 = .ok (.istore_n 2, 1) := by decide +kernel
theorem dX1_sumOfGoods_2 : decode cX1_sumOfGoods 2 = .ok (.iconst 0, 1) := by decide +kernel
theorem dX1_sumOfGoods_3 : decode cX1_sumOfGoods 3 = .ok (.istore_n 3, 1) := by decide +kernel
theorem dX1_sumOfGoods_4 : decode cX1_sumOfGoods 4 = .ok (.iload_n 3, 1) := by decide +kernel
theorem dX1_sumOfGoods_5 : decode cX1_sumOfGoods 5 = .ok (.aload_n 0, 1) := by decide +kernel
theorem dX1_sumOfGoods_6 : decode cX1_sumOfGoods 6 = .ok (.getfield 9, 3) := by decide +kernel
theorem dX1_sumOfGoods_9 : decode cX1_sumOfGoods 9 = .ok (.if_icmp .ge 22, 3) := by decide +kernel
theorem dX1_sumOfGoods_12 : decode cX1_sumOfGoods 12 = .ok (.iload_n 2, 1) := by decide +kernel
theorem dX1_sumOfGoods_13 : decode cX1_sumOfGoods 13 = .ok (.aload_n 0, 1) := by decide +kernel
theorem dX1_sumOfGoods_14 : decode cX1_sumOfGoods 14 = .ok (.getfield 31, 3) := by decide +kernel
theorem dX1_sumOfGoods_17 : decode cX1_sumOfGoods 17 = .ok (.iload_n 3, 1) := by decide +kernel
theorem dX1_sumOfGoods_18 : decode cX1_sumOfGoods 18 = .ok (.iload_n 1, 1) := by decide +kernel
theorem dX1_sumOfGoods_19 : decode cX1_sumOfGoods 19 = .ok (.invokestatic 49, 3) := by decide +kernel
theorem dX1_sumOfGoods_22 : decode cX1_sumOfGoods 22 = .ok (.iaload, 1) := by decide +kernel
theorem dX1_sumOfGoods_23 : decode cX1_sumOfGoods 23 = .ok (.iadd, 1) := by decide +kernel
theorem dX1_sumOfGoods_24 : decode cX1_sumOfGoods 24 = .ok (.istore_n 2, 1) := by decide +kernel
theorem dX1_sumOfGoods_25 : decode cX1_sumOfGoods 25 = .ok (.iinc 3 1, 3) := by decide +kernel
theorem dX1_sumOfGoods_28 : decode cX1_sumOfGoods 28 = .ok (.goto (-24), 3) := by decide +kernel
theorem dX1_sumOfGoods_31 : decode cX1_sumOfGoods 31 = .ok (.iload_n 2, 1) := by decide +kernel
theorem dX1_sumOfGoods_32 : decode cX1_sumOfGoods 32 = .ok (.ireturn, 1) := by decide +kernel
theorem dX2_init_0 : decode cX2_init 0 = .ok (.aload_n 0, 1) := by decide +kernel
theorem dX2_init_1 : decode cX2_init 1 = .ok (.invokespecial 3, 3) := by decide +kernel
theorem dX2_init_4 : decode cX2_init 4 = .ok (.aload_n 0, 1) := by decide +kernel
theorem dX2_init_5 : decode cX2_init 5 = .ok (.bipush 32, 2) := by decide +kernel
theorem dX2_init_7 : decode cX2_init 7 = .ok (.newarray .int, 2) := by decide +kernel
theorem dX2_init_9 : decode cX2_init 9 = .ok (.putfield 9, 3) := by decide +kernel
theorem dX2_init_12 : decode cX2_init 12 = .ok (.aload_n 0, 1) := by decide +kernel
theorem dX2_init_13 : decode cX2_init 13 = .ok (.bipush 8, 2) := by decide +kernel
theorem dX2_init_15 : decode cX2_init 15 = .ok (.newarray .int, 2) := by decide +kernel
theorem dX2_init_17 : decode cX2_init 17 = .ok (.putfield 15, 3) := by decide +kernel
theorem dX2_init_20 : decode cX2_init 20 = .ok (.aload_n 0, 1) := by decide +kernel
theorem dX2_init_21 : decode cX2_init 21 = .ok (.bipush 40, 2) := by decide +kernel
theorem dX2_init_23 : decode cX2_init 23 = .ok (.newarray .int, 2) := by decide +kernel
theorem dX2_init_25 : decode cX2_init 25 = .ok (.putfield 18, 3) := by decide +kernel
theorem dX2_init_28 : decode cX2_init 28 = .ok (.aload_n 0, 1) := by decide +kernel
theorem dX2_init_29 : decode cX2_init 29 = .ok (.bipush 40, 2) := by decide +kernel
theorem dX2_init_31 : decode cX2_init 31 = .ok (.newarray .int, 2) := by decide +kernel
theorem dX2_init_33 : decode cX2_init 33 = .ok (.putfield 21, 3) := by decide +kernel
theorem dX2_init_36 : decode cX2_init 36 = .ok (.aload_n 0, 1) := by decide +kernel
theorem dX2_init_37 : decode cX2_init 37 = .ok (.bipush 40, 2) := by decide +kernel
theorem dX2_init_39 : decode cX2_init 39 = .ok (.newarray .int, 2) := by decide +kernel
theorem dX2_init_41 : decode cX2_init 41 = .ok (.putfield 24, 3) := by decide +kernel
theorem dX2_init_44 : decode cX2_init 44 = .ok (.aload_n 0, 1) := by decide +kernel
theorem dX2_init_45 : decode cX2_init 45 = .ok (.bipush 8, 2) := by decide +kernel
theorem dX2_init_47 : decode cX2_init 47 = .ok (.newarray .int, 2) := by decide +kernel
theorem dX2_init_49 : decode cX2_init 49 = .ok (.putfield 27, 3) := by decide +kernel
theorem dX2_init_52 : decode cX2_init 52 = .ok (.aload_n 0, 1) := by decide +kernel
theorem dX2_init_53 : decode cX2_init 53 = .ok (.invokevirtual 30, 3) := by decide +kernel
theorem dX2_init_56 : decode cX2_init 56 = .ok (.return_, 1) := by decide +kernel
theorem dX2_clear_0 : decode cX2_clear 0 = .ok (.aload_n 0, 1) := by decide +kernel
theorem dX2_clear_1 : decode cX2_clear 1 = .ok (.getfield 9, 3) := by decide +kernel
theorem dX2_clear_4 : decode cX2_clear 4 = .ok (.iconst (-1), 1) := by decide +kernel
theorem dX2_clear_5 : decode cX2_clear 5 = .ok (.invokestatic 33, 3) := by decide +kernel
theorem dX2_clear_8 : decode cX2_clear 8 = .ok (.aload_n 0, 1) := by decide +kernel
theorem dX2_clear_9 : decode cX2_clear 9 = .ok (.getfield 15, 3) := by decide +kernel
theorem dX2_clear_12 : decode cX2_clear 12 = .ok (.iconst (-1), 1) := by decide +kernel
theorem dX2_clear_13 : decode cX2_clear 13 = .ok (.invokestatic 33, 3) := by decide +kernel
theorem dX2_clear_16 : decode cX2_clear 16 = .ok (.aload_n 0, 1) := by decide +kernel
theorem dX2_clear_17 : decode cX2_clear 17 = .ok (.getfield 18, 3) := by decide +kernel
theorem dX2_clear_20 : decode cX2_clear 20 = .ok (.iconst 0, 1) := by decide +kernel
theorem dX2_clear_21 : decode cX2_clear 21 = .ok (.invokestatic 33, 3) := by decide +kernel
theorem dX2_clear_24 : decode cX2_clear 24 = .ok (.aload_n 0, 1) := by decide +kernel
theorem dX2_clear_25 : decode cX2_clear 25 = .ok (.getfield 21, 3) := by decide +kernel
theorem dX2_clear_28 : decode cX2_clear 28 = .ok (.iconst 0, 1) := by decide +kernel
theorem dX2_clear_29 : decode cX2_clear 29 = .ok (.invokestatic 33, 3) := by decide +kernel
theorem dX2_clear_32 : decode cX2_clear 32 = .ok (.aload_n 0, 1) := by decide +kernel
theorem dX2_clear_33 : decode cX2_clear 33 = .ok (.getfield 24, 3) := by decide +kernel
theorem dX2_clear_36 : decode cX2_clear 36 = .ok (.iconst 0, 1) := by decide +kernel
theorem dX2_clear_37 : decode cX2_clear 37 = .ok (.invokestatic 33, 3) := by decide +kernel
theorem dX2_clear_40 : decode cX2_clear 40 = .ok (.return_, 1) := by decide +kernel
theorem dX2_exitFrom_0 : decode cX2_exitFrom 0 = .ok (.aload_n 0, 1) := by decide +kernel
theorem dX2_exitFrom_1 : decode cX2_exitFrom 1 = .ok (.getfield 9, 3) := by decide +kernel
theorem dX2_exitFrom_4 : decode cX2_exitFrom 4 = .ok (.iload_n 1, 1) := by decide +kernel
theorem dX2_exitFrom_5 : decode cX2_exitFrom 5 = .ok (.iconst 4, 1) := by decide +kernel
theorem dX2_exitFrom_6 : decode cX2_exitFrom 6 = .ok (.imul, 1) := by decide +kernel
theorem dX2_exitFrom_7 : decode cX2_exitFrom 7 = .ok (.iload_n 2, 1) := by decide +kernel
theorem dX2_exitFrom_8 : decode cX2_exitFrom 8 = .ok (.iadd, 1) := by decide +kernel
theorem dX2_exitFrom_9 : decode cX2_exitFrom 9 = .ok (.iaload, 1) := by decide +kernel
theorem dX2_exitFrom_10 : decode cX2_exitFrom 10 = .ok (.ireturn, 1) := by decide +kernel
theorem dX2_connect_0 : decode cX2_connect 0 = .ok (.aload_n 0, 1) := by decide +kernel
theorem dX2_connect_1 : decode cX2_connect 1 = .ok (.getfield 9, 3) := by decide +kernel
theorem dX2_connect_4 : decode cX2_connect 4 = .ok (.iload_n 1, 1) := by decide +kernel
theorem dX2_connect_5 : decode cX2_connect 5 = .ok (.iconst 4, 1) := by decide +kernel
theorem dX2_connect_6 : decode cX2_connect 6 = .ok (.imul, 1) := by decide +kernel
theorem dX2_connect_7 : decode cX2_connect 7 = .ok (.iload_n 2, 1) := by decide +kernel
theorem dX2_connect_8 : decode cX2_connect 8 = .ok (.iadd, 1) := by decide +kernel
theorem dX2_connect_9 : decode cX2_connect 9 = .ok (.iload_n 3, 1) := by decide +kernel
theorem dX2_connect_10 : decode cX2_connect 10 = .ok (.iastore, 1) := by decide +kernel
theorem dX2_connect_11 : decode cX2_connect 11 = .ok (.aload_n 0, 1) := by decide +kernel
theorem dX2_connect_12 : decode cX2_connect 12 = .ok (.getfield 9, 3) := by decide +kernel
theorem dX2_connect_15 : decode cX2_connect 15 = .ok (.iload_n 3, 1) := by decide +kernel
theorem dX2_connect_16 : decode cX2_connect 16 = .ok (.iconst 4, 1) := by decide +kernel
theorem dX2_connect_17 : decode cX2_connect 17 = .ok (.imul, 1) := by decide +kernel
theorem dX2_connect_18 : decode cX2_connect 18 = .ok (.iload_n 2, 1) := by decide +kernel
theorem dX2_connect_19 : decode cX2_connect 19 = .ok (.invokestatic 39, 3) := by decide +kernel
theorem dX2_connect_22 : decode cX2_connect 22 = .ok (.iadd, 1) := by decide +kernel
theorem dX2_connect_23 : decode cX2_connect 23 = .ok (.iload_n 1, 1) := by decide +kernel
theorem dX2_connect_24 : decode cX2_connect 24 = .ok (.iastore, 1) := by decide +kernel
theorem dX2_connect_25 : decode cX2_connect 25 = .ok (.return_, 1) := by decide +kernel
theorem dX2_leadsTo_0 : decode cX2_leadsTo 0 = .ok (.iconst 0, 1) := by decide +kernel
theorem dX2_leadsTo_1 : decode cX2_leadsTo 1 = .ok (.istore_n 3, 1) := by decide +kernel
theorem dX2_leadsTo_2 : decode cX2_leadsTo 2 = .ok (.iload_n 3, 1) := by decide +kernel
theorem dX2_leadsTo_3 : decode cX2_leadsTo 3 = .ok (.iconst 4, 1) := by decide +kernel
theorem dX2_leadsTo_4 : decode cX2_leadsTo 4 = .ok (.if_icmp .ge 25, 3) := by decide +kernel
theorem dX2_leadsTo_7 : decode cX2_leadsTo 7 = .ok (.aload_n 0, 1) := by decide +kernel
theorem dX2_leadsTo_8 : decode cX2_leadsTo 8 = .ok (.getfield 9, 3) := by decide +kernel
theorem dX2_leadsTo_11 : decode cX2_leadsTo 11 = .ok (.iload_n 1, 1) := by decide +kernel
theorem dX2_leadsTo_12 : decode cX2_leadsTo 12 = .ok (.iconst 4, 1) := by decide +kernel
theorem dX2_leadsTo_13 : decode cX2_leadsTo 13 = .ok (.imul, 1) := by decide +kernel
theorem dX2_leadsTo_14 : decode cX2_leadsTo 14 = .ok (.iload_n 3, 1) := by decide +kernel
theorem dX2_leadsTo_15 : decode cX2_leadsTo 15 = .ok (.iadd, 1) := by decide +kernel
theorem dX2_leadsTo_16 : decode cX2_leadsTo 16 = .ok (.iaload, 1) := by decide +kernel
theorem dX2_leadsTo_17 : decode cX2_leadsTo 17 = .ok (.iload_n 2, 1) := by decide +kernel
theorem dX2_leadsTo_18 : decode cX2_leadsTo 18 = .ok (.if_icmp .ne 5, 3) := by decide +kernel
theorem dX2_leadsTo_21 : decode cX2_leadsTo 21 = .ok (.iconst 1, 1) := by decide +kernel
theorem dX2_leadsTo_22 : decode cX2_leadsTo 22 = .ok (.ireturn, 1) := by decide +kernel
theorem dX2_leadsTo_23 : decode cX2_leadsTo 23 = .ok (.iinc 3 1, 3) := by decide +kernel
theorem dX2_leadsTo_26 : decode cX2_leadsTo 26 = .ok (.goto (-24), 3) := by decide +kernel
theorem dX2_leadsTo_29 : decode cX2_leadsTo 29 = .ok (.iconst 0, 1) := by decide +kernel
theorem dX2_leadsTo_30 : decode cX2_leadsTo 30 = .ok (.ireturn, 1) := by decide +kernel
theorem dX2_stepsBetween_0 : decode cX2_stepsBetween 0 = .ok (.aload_n 0, 1) := by decide +kernel
theorem dX2_stepsBetween_1 : decode cX2_stepsBetween 1 = .ok (.getfield 27, 3) := by decide +kernel
theorem dX2_stepsBetween_4 : decode cX2_stepsBetween 4 = .ok (.iconst (-1), 1) := by decide +kernel
theorem dX2_stepsBetween_5 : decode cX2_stepsBetween 5 = .ok (.invokestatic 33, 3) := by decide +kernel
theorem dX2_stepsBetween_8 : decode cX2_stepsBetween 8 = .ok (.aload_n 0, 1) := by decide +kernel
theorem dX2_stepsBetween_9 : decode cX2_stepsBetween 9 = .ok (.getfield 27, 3) := by decide +kernel
theorem dX2_stepsBetween_12 : decode cX2_stepsBetween 12 = .ok (.iload_n 1, 1) := by decide +kernel
theorem dX2_stepsBetween_13 : decode cX2_stepsBetween 13 = .ok (.iconst 0, 1) := by decide +kernel
theorem dX2_stepsBetween_14 : decode cX2_stepsBetween 14 = .ok (.iastore, 1) := by decide +kernel
theorem dX2_stepsBetween_15 : decode cX2_stepsBetween 15 = .ok (.iconst 0, 1) := by decide +kernel
theorem dX2_stepsBetween_16 : decode cX2_stepsBetween 16 = .ok (.istore_n 3, 1) := by decide +kernel
theorem dX2_stepsBetween_17 : decode cX2_stepsBetween 17 = .ok (.iload_n 3, 1) := by decide +kernel
theorem dX2_stepsBetween_18 : decode cX2_stepsBetween 18 = .ok (.bipush 8, 2) := by decide +kernel
theorem dX2_stepsBetween_20 : decode cX2_stepsBetween 20 = .ok (.if_icmp .ge 42, 3) := by decide +kernel
theorem dX2_stepsBetween_23 : decode cX2_stepsBetween 23 = .ok (.iconst 0, 1) := by decide +kernel
theorem dX2_stepsBetween_24 : decode cX2_stepsBetween 24 = .ok (.istore 4, 2) := by decide +kernel
theorem dX2_stepsBetween_26 : decode cX2_stepsBetween 26 = .ok (.iload 4, 2) := by decide +kernel
theorem dX2_stepsBetween_28 : decode cX2_stepsBetween 28 = .ok (.bipush 8, 2) := by decide +kernel
theorem dX2_stepsBetween_30 : decode cX2_stepsBetween 30 = .ok (.if_icmp .ge 26, 3) := by decide +kernel
theorem dX2_stepsBetween_33 : decode cX2_stepsBetween 33 = .ok (.aload_n 0, 1) := by decide +kernel
theorem dX2_stepsBetween_34 : decode cX2_stepsBetween 34 = .ok (.getfield 27, 3) := by decide +kernel
theorem dX2_stepsBetween_37 : decode cX2_stepsBetween 37 = .ok (.iload 4, 2) := by decide +kernel
theorem dX2_stepsBetween_39 : decode cX2_stepsBetween 39 = .ok (.iaload, 1) := by decide +kernel
theorem dX2_stepsBetween_40 : decode cX2_stepsBetween 40 = .ok (.iload_n 3, 1) := by decide +kernel
theorem dX2_stepsBetween_41 : decode cX2_stepsBetween 41 = .ok (.if_icmp .ne 9, 3) := by decide +kernel
theorem dX2_stepsBetween_44 : decode cX2_stepsBetween 44 = .ok (.aload_n 0, 1) := by decide +kernel
theorem dX2_stepsBetween_45 : decode cX2_stepsBetween 45 = .ok (.iload 4, 2) := by decide +kernel
theorem dX2_stepsBetween_47 : decode cX2_stepsBetween 47 = .ok (.invokevirtual 43, 3) := by decide +kernel
theorem dX2_stepsBetween_50 : decode cX2_stepsBetween 50 = .ok (.iinc 4 1, 3) := by decide +kernel
theorem dX2_stepsBetween_53 : decode cX2_stepsBetween 53 = .ok (.goto (-27), 3) := by decide +kernel
theorem dX2_stepsBetween_56 : decode cX2_stepsBetween 56 = .ok (.iinc 3 1, 3) := by decide +kernel
theorem dX2_stepsBetween_59 : decode cX2_stepsBetween 59 = .ok (.goto (-42), 3) := by decide +kernel
theorem dX2_stepsBetween_62 : decode cX2_stepsBetween 62 = .ok (.aload_n 0, 1) := by decide +kernel
theorem dX2_stepsBetween_63 : decode cX2_stepsBetween 63 = .ok (.getfield 27, 3) := by decide +kernel
theorem dX2_stepsBetween_66 : decode cX2_stepsBetween 66 = .ok (.iload_n 2, 1) := by decide +kernel
theorem dX2_stepsBetween_67 : decode cX2_stepsBetween 67 = .ok (.iaload, 1) := by decide +kernel
theorem dX2_stepsBetween_68 : decode cX2_stepsBetween 68 = .ok (.ireturn, 1) := by decide +kernel
theorem dX2_stepOut_0 : decode cX2_stepOut 0 = .ok (.iconst 0, 1) := by decide +kernel
theorem dX2_stepOut_1 : decode cX2_stepOut 1 = .ok (.istore_n 2, 1) := by decide +kernel
theorem dX2_stepOut_2 : decode cX2_stepOut 2 = .ok (.iload_n 2, 1) := by decide +kernel
theorem dX2_stepOut_3 : decode cX2_stepOut 3 = .ok (.iconst 4, 1) := by decide +kernel
theorem dX2_stepOut_4 : decode cX2_stepOut 4 = .ok (.if_icmp .ge 45, 3) := by decide +kernel
theorem dX2_stepOut_7 : decode cX2_stepOut 7 = .ok (.aload_n 0, 1) := by decide +kernel
theorem dX2_stepOut_8 : decode cX2_stepOut 8 = .ok (.iload_n 1, 1) := by decide +kernel
theorem dX2_stepOut_9 : decode cX2_stepOut 9 = .ok (.iload_n 2, 1) := by decide +kernel
theorem dX2_stepOut_10 : decode cX2_stepOut 10 = .ok (.invokevirtual 47, 3) := by decide +kernel
theorem dX2_stepOut_13 : decode cX2_stepOut 13 = .ok (.istore_n 3, 1) := by decide +kernel
theorem dX2_stepOut_14 : decode cX2_stepOut 14 = .ok (.iload_n 3, 1) := by decide +kernel
theorem dX2_stepOut_15 : decode cX2_stepOut 15 = .ok (.iconst (-1), 1) := by decide +kernel
theorem dX2_stepOut_16 : decode cX2_stepOut 16 = .ok (.if_icmp .eq 27, 3) := by decide +kernel
theorem dX2_stepOut_19 : decode cX2_stepOut 19 = .ok (.aload_n 0, 1) := by decide +kernel
theorem dX2_stepOut_20 : decode cX2_stepOut 20 = .ok (.getfield 27, 3) := by decide +kernel
theorem dX2_stepOut_23 : decode cX2_stepOut 23 = .ok (.iload_n 3, 1) := by decide +kernel
theorem dX2_stepOut_24 : decode cX2_stepOut 24 = .ok (.iaload, 1) := by decide +kernel
theorem dX2_stepOut_25 : decode cX2_stepOut 25 = .ok (.iconst (-1), 1) := by decide +kernel
theorem dX2_stepOut_26 : decode cX2_stepOut 26 = .ok (.if_icmp .ne 17, 3) := by decide +kernel
theorem dX2_stepOut_29 : decode cX2_stepOut 29 = .ok (.aload_n 0, 1) := by decide +kernel
theorem dX2_stepOut_30 : decode cX2_stepOut 30 = .ok (.getfield 27, 3) := by decide +kernel
theorem dX2_stepOut_33 : decode cX2_stepOut 33 = .ok (.iload_n 3, 1) := by decide +kernel
theorem dX2_stepOut_34 : decode cX2_stepOut 34 = .ok (.aload_n 0, 1) := by decide +kernel
theorem dX2_stepOut_35 : decode cX2_stepOut 35 = .ok (.getfield 27, 3) := by decide +kernel
theorem dX2_stepOut_38 : decode cX2_stepOut 38 = .ok (.iload_n 1, 1) := by decide +kernel
theorem dX2_stepOut_39 : decode cX2_stepOut 39 = .ok (.iaload, 1) := by decide +kernel
theorem dX2_stepOut_40 : decode cX2_stepOut 40 = .ok (.iconst 1, 1) := by decide +kernel
theorem dX2_stepOut_41 : decode cX2_stepOut 41 = .ok (.iadd, 1) := by decide +kernel
theorem dX2_stepOut_42 : decode cX2_stepOut 42 = .ok (.iastore, 1) := by decide +kernel
theorem dX2_stepOut_43 : decode cX2_stepOut 43 = .ok (.iinc 2 1, 3) := by decide +kernel
theorem dX2_stepOut_46 : decode cX2_stepOut 46 = .ok (.goto (-44), 3) := by decide +kernel
theorem dX2_stepOut_49 : decode cX2_stepOut 49 = .ok (.return_, 1) := by decide +kernel
theorem dX2_hasShop_0 : decode cX2_hasShop 0 = .ok (.aload_n 0, 1) := by decide +kernel
theorem dX2_hasShop_1 : decode cX2_hasShop 1 = .ok (.getfield 15, 3) := by decide +kernel
theorem dX2_hasShop_4 : decode cX2_hasShop 4 = .ok (.iload_n 1, 1) := by decide +kernel
theorem dX2_hasShop_5 : decode cX2_hasShop 5 = .ok (.iaload, 1) := by decide +kernel
theorem dX2_hasShop_6 : decode cX2_hasShop 6 = .ok (.iconst (-1), 1) := by decide +kernel
theorem dX2_hasShop_7 : decode cX2_hasShop 7 = .ok (.if_icmp .eq 7, 3) := by decide +kernel
theorem dX2_hasShop_10 : decode cX2_hasShop 10 = .ok (.iconst 1, 1) := by decide +kernel
theorem dX2_hasShop_11 : decode cX2_hasShop 11 = .ok (.goto 4, 3) := by decide +kernel
theorem dX2_hasShop_14 : decode cX2_hasShop 14 = .ok (.iconst 0, 1) := by decide +kernel
theorem dX2_hasShop_15 : decode cX2_hasShop 15 = .ok (.ireturn, 1) := by decide +kernel
theorem dX2_halfPrice_0 : decode cX2_halfPrice 0 = .ok (.aload_n 0, 1) := by decide +kernel
theorem dX2_halfPrice_1 : decode cX2_halfPrice 1 = .ok (.getfield 18, 3) := by decide +kernel
theorem dX2_halfPrice_4 : decode cX2_halfPrice 4 = .ok (.iload_n 1, 1) := by decide +kernel
theorem dX2_halfPrice_5 : decode cX2_halfPrice 5 = .ok (.iload_n 2, 1) := by decide +kernel
theorem dX2_halfPrice_6 : decode cX2_halfPrice 6 = .ok (.invokestatic 51, 3) := by decide +kernel
theorem dX2_halfPrice_9 : decode cX2_halfPrice 9 = .ok (.iaload, 1) := by decide +kernel
theorem dX2_halfPrice_10 : decode cX2_halfPrice 10 = .ok (.iconst 2, 1) := by decide +kernel
theorem dX2_halfPrice_11 : decode cX2_halfPrice 11 = .ok (.idiv, 1) := by decide +kernel
theorem dX2_halfPrice_12 : decode cX2_halfPrice 12 = .ok (.ireturn, 1) := by decide +kernel
theorem dX2_addStock_0 : decode cX2_addStock 0 = .ok (.iload_n 1, 1) := by decide +kernel
theorem dX2_addStock_1 : decode cX2_addStock 1 = .ok (.iload_n 2, 1) := by decide +kernel
theorem dX2_addStock_2 : decode cX2_addStock 2 = .ok (.invokestatic 51, 3) := by decide +kernel
theorem dX2_addStock_5 : decode cX2_addStock 5 = .ok (.istore 5, 2) := by decide +kernel
theorem dX2_addStock_7 : decode cX2_addStock 7 = .ok (.aload_n 0, 1) := by decide +kernel
theorem dX2_addStock_8 : decode cX2_addStock 8 = .ok (.getfield 18, 3) := by decide +kernel
theorem dX2_addStock_11 : decode cX2_addStock 11 = .ok (.iload 5, 2) := by decide +kernel
theorem dX2_addStock_13 : decode cX2_addStock 13 = .ok (.iload 4, 2) := by decide +kernel
theorem dX2_addStock_15 : decode cX2_addStock 15 = .ok (.iastore, 1) := by decide +kernel
theorem dX2_addStock_16 : decode cX2_addStock 16 = .ok (.aload_n 0, 1) := by decide +kernel
theorem dX2_addStock_17 : decode cX2_addStock 17 = .ok (.getfield 21, 3) := by decide +kernel
theorem dX2_addStock_20 : decode cX2_addStock 20 = .ok (.iload 5, 2) := by decide +kernel
theorem dX2_addStock_22 : decode cX2_addStock 22 = .ok (.dup2, 1) := by decide +kernel
theorem dX2_addStock_23 : decode cX2_addStock 23 = .ok (.iaload, 1) := by decide +kernel
theorem dX2_addStock_24 : decode cX2_addStock 24 = .ok (.iload_n 3, 1) := by decide +kernel
theorem dX2_addStock_25 : decode cX2_addStock 25 = .ok (.iadd, 1) := by decide +kernel
theorem dX2_addStock_26 : decode cX2_addStock 26 = .ok (.iastore, 1) := by decide +kernel
theorem dX2_addStock_27 : decode cX2_addStock 27 = .ok (.aload_n 0, 1) := by decide +kernel
theorem dX2_addStock_28 : decode cX2_addStock 28 = .ok (.getfield 21, 3) := by decide +kernel
theorem dX2_addStock_31 : decode cX2_addStock 31 = .ok (.iload 5, 2) := by decide +kernel
theorem dX2_addStock_33 : decode cX2_addStock 33 = .ok (.iaload, 1) := by decide +kernel
theorem dX2_addStock_34 : decode cX2_addStock 34 = .ok (.ireturn, 1) := by decide +kernel
theorem dX2_addToFloor_0 : decode cX2_addToFloor 0 = .ok (.iload_n 1, 1) := by decide +kernel
theorem dX2_addToFloor_1 : decode cX2_addToFloor 1 = .ok (.iload_n 2, 1) := by decide +kernel
theorem dX2_addToFloor_2 : decode cX2_addToFloor 2 = .ok (.invokestatic 51, 3) := by decide +kernel
theorem dX2_addToFloor_5 : decode cX2_addToFloor 5 = .ok (.istore 4, 2) := by decide +kernel
theorem dX2_addToFloor_7 : decode cX2_addToFloor 7 = .ok (.aload_n 0, 1) := by decide +kernel
theorem dX2_addToFloor_8 : decode cX2_addToFloor 8 = .ok (.getfield 24, 3) := by decide +kernel
theorem dX2_addToFloor_11 : decode cX2_addToFloor 11 = .ok (.iload 4, 2) := by decide +kernel
theorem dX2_addToFloor_13 : decode cX2_addToFloor 13 = .ok (.dup2, 1) := by decide +kernel
theorem dX2_addToFloor_14 : decode cX2_addToFloor 14 = .ok (.iaload, 1) := by decide +kernel
theorem dX2_addToFloor_15 : decode cX2_addToFloor 15 = .ok (.iload_n 3, 1) := by decide +kernel
theorem dX2_addToFloor_16 : decode cX2_addToFloor 16 = .ok (.iadd, 1) := by decide +kernel
theorem dX2_addToFloor_17 : decode cX2_addToFloor 17 = .ok (.iastore, 1) := by decide +kernel
theorem dX2_addToFloor_18 : decode cX2_addToFloor 18 = .ok (.aload_n 0, 1) := by decide +kernel
theorem dX2_addToFloor_19 : decode cX2_addToFloor 19 = .ok (.getfield 24, 3) := by decide +kernel
theorem dX2_addToFloor_22 : decode cX2_addToFloor 22 = .ok (.iload 4, 2) := by decide +kernel
theorem dX2_addToFloor_24 : decode cX2_addToFloor 24 = .ok (.iaload, 1) := by decide +kernel
theorem dX2_addToFloor_25 : decode cX2_addToFloor 25 = .ok (.ireturn, 1) := by decide +kernel
theorem dX2_sumOfTills_0 : decode cX2_sumOfTills 0 = .ok (.iconst 0, 1) := by decide +kernel
theorem dX2_sumOfTills_1 : decode cX2_sumOfTills 1 = .ok (.istore_n 1, 1) := by decide +kernel
theorem dX2_sumOfTills_2 : decode cX2_sumOfTills 2 = .ok (.iconst 0, 1) := by decide +kernel
theorem dX2_sumOfTills_3 : decode cX2_sumOfTills 3 = .ok (.istore_n 2, 1) := by decide +kernel
theorem dX2_sumOfTills_4 : decode cX2_sumOfTills 4 = .ok (.iload_n 2, 1) := by decide +kernel
theorem dX2_sumOfTills_5 : decode cX2_sumOfTills 5 = .ok (.bipush 8, 2) := by decide +kernel
theorem dX2_sumOfTills_7 : decode cX2_sumOfTills 7 = .ok (.if_icmp .ge 26, 3) := by decide +kernel
theorem dX2_sumOfTills_10 : decode cX2_sumOfTills 10 = .ok (.aload_n 0, 1) := by decide +kernel
theorem dX2_sumOfTills_11 : decode cX2_sumOfTills 11 = .ok (.iload_n 2, 1) := by decide +kernel
theorem dX2_sumOfTills_12 : decode cX2_sumOfTills 12 = .ok (.invokevirtual 54, 3) := by decide +kernel
theorem dX2_sumOfTills_15 : decode cX2_sumOfTills 15 = .ok (.ifCond .eq 12, 3) := by decide +kernel
theorem dX2_sumOfTills_18 : decode cX2_sumOfTills 18 = .ok (.iload_n 1, 1) := by decide +kernel
theorem dX2_sumOfTills_19 : decode cX2_sumOfTills 19 = .ok (.aload_n 0, 1) := by decide +kernel
theorem dX2_sumOfTills_20 : decode cX2_sumOfTills 20 = .ok (.getfield 15, 3) := by decide +kernel
theorem dX2_sumOfTills_23 : decode cX2_sumOfTills 23 = .ok (.iload_n 2, 1) := by decide +kernel
theorem dX2_sumOfTills_24 : decode cX2_sumOfTills 24 = .ok (.iaload, 1) := by decide +kernel
theorem dX2_sumOfTills_25 : decode cX2_sumOfTills 25 = .ok (.iadd, 1) := by decide +kernel
theorem dX2_sumOfTills_26 : decode cX2_sumOfTills 26 = .ok (.istore_n 1, 1) := by decide +kernel
theorem dX2_sumOfTills_27 : decode cX2_sumOfTills 27 = .ok (.iinc 2 1, 3) := by decide +kernel
theorem dX2_sumOfTills_30 : decode cX2_sumOfTills 30 = .ok (.goto (-26), 3) := by decide +kernel
theorem dX2_sumOfTills_33 : decode cX2_sumOfTills 33 = .ok (.iload_n 1, 1) := by decide +kernel
theorem dX2_sumOfTills_34 : decode cX2_sumOfTills 34 = .ok (.ireturn, 1) := by decide +kernel
theorem dX2_sumOfGoods_0 : decode cX2_sumOfGoods 0 = .ok (.iconst 0, 1) := by decide +kernel
theorem dX2_sumOfGoods_1 : decode cX2_sumOfGoods 1 = .ok (.istore_n 2, 1) := by decide +kernel
theorem dX2_sumOfGoods_2 : decode cX2_sumOfGoods 2 = .ok (.iconst 0, 1) := by decide +kernel
theorem dX2_sumOfGoods_3 : decode cX2_sumOfGoods 3 = .ok (.istore_n 3, 1) := by decide +kernel
theorem dX2_sumOfGoods_4 : decode cX2_sumOfGoods 4 = .ok (.iload_n 3, 1) := by decide +kernel
theorem dX2_sumOfGoods_5 : decode cX2_sumOfGoods 5 = .ok (.bipush 8, 2) := by decide +kernel
theorem dX2_sumOfGoods_7 : decode cX2_sumOfGoods 7 = .ok (.if_icmp .ge 33, 3) := by decide +kernel
theorem dX2_sumOfGoods_10 : decode cX2_sumOfGoods 10 = .ok (.iload_n 2, 1) := by decide +kernel
theorem dX2_sumOfGoods_11 : decode cX2_sumOfGoods 11 = .ok (.aload_n 0, 1) := by decide +kernel
theorem dX2_sumOfGoods_12 : decode cX2_sumOfGoods 12 = .ok (.getfield 24, 3) := by decide +kernel
theorem dX2_sumOfGoods_15 : decode cX2_sumOfGoods 15 = .ok (.iload_n 3, 1) := by decide +kernel
theorem dX2_sumOfGoods_16 : decode cX2_sumOfGoods 16 = .ok (.iload_n 1, 1) := by decide +kernel
theorem dX2_sumOfGoods_17 : decode cX2_sumOfGoods 17 = .ok (.invokestatic 51, 3) := by decide +kernel
theorem dX2_sumOfGoods_20 : decode cX2_sumOfGoods 20 = .ok (.iaload, 1) := by decide +kernel
theorem dX2_sumOfGoods_21 : decode cX2_sumOfGoods 21 = .ok (.aload_n 0, 1) := by decide +kernel
theorem dX2_sumOfGoods_22 : decode cX2_sumOfGoods 22 = .ok (.getfield 21, 3) := by decide +kernel
theorem dX2_sumOfGoods_25 : decode cX2_sumOfGoods 25 = .ok (.iload_n 3, 1) := by decide +kernel
theorem dX2_sumOfGoods_26 : decode cX2_sumOfGoods 26 = .ok (.iload_n 1, 1) := by decide +kernel
theorem dX2_sumOfGoods_27 : decode cX2_sumOfGoods 27 = .ok (.invokestatic 51, 3) := by decide +kernel
theorem dX2_sumOfGoods_30 : decode cX2_sumOfGoods 30 = .ok (.iaload, 1) := by decide +kernel
theorem dX2_sumOfGoods_31 : decode cX2_sumOfGoods 31 = .ok (.iadd, 1) := by decide +kernel
theorem dX2_sumOfGoods_32 : decode cX2_sumOfGoods 32 = .ok (.iadd, 1) := by decide +kernel
theorem dX2_sumOfGoods_33 : decode cX2_sumOfGoods 33 = .ok (.istore_n 2, 1) := by decide +kernel
theorem dX2_sumOfGoods_34 : decode cX2_sumOfGoods 34 = .ok (.iinc 3 1, 3) := by decide +kernel
theorem dX2_sumOfGoods_37 : decode cX2_sumOfGoods 37 = .ok (.goto (-33), 3) := by decide +kernel
theorem dX2_sumOfGoods_40 : decode cX2_sumOfGoods 40 = .ok (.iload_n 2, 1) := by decide +kernel
theorem dX2_sumOfGoods_41 : decode cX2_sumOfGoods 41 = .ok (.ireturn, 1) := by decide +kernel
theorem dX3_init_0 : decode cX3_init 0 = .ok (.aload_n 0, 1) := by decide +kernel
theorem dX3_init_1 : decode cX3_init 1 = .ok (.invokespecial 3, 3) := by decide +kernel
theorem dX3_init_4 : decode cX3_init 4 = .ok (.aload_n 0, 1) := by decide +kernel
theorem dX3_init_5 : decode cX3_init 5 = .ok (.iconst 0, 1) := by decide +kernel
theorem dX3_init_6 : decode cX3_init 6 = .ok (.putfield 9, 3) := by decide +kernel
theorem dX3_init_9 : decode cX3_init 9 = .ok (.aload_n 0, 1) := by decide +kernel
theorem dX3_init_10 : decode cX3_init 10 = .ok (.iconst 3, 1) := by decide +kernel
theorem dX3_init_11 : decode cX3_init 11 = .ok (.newarray .int, 2) := by decide +kernel
theorem dX3_init_13 : decode cX3_init 13 = .ok (.putfield 15, 3) := by decide +kernel
theorem dX3_init_16 : decode cX3_init 16 = .ok (.aload_n 0, 1) := by decide +kernel
theorem dX3_init_17 : decode cX3_init 17 = .ok (.iconst 3, 1) := by decide +kernel
theorem dX3_init_18 : decode cX3_init 18 = .ok (.newarray .int, 2) := by decide +kernel
theorem dX3_init_20 : decode cX3_init 20 = .ok (.putfield 19, 3) := by decide +kernel
theorem dX3_init_23 : decode cX3_init 23 = .ok (.aload_n 0, 1) := by decide +kernel
theorem dX3_init_24 : decode cX3_init 24 = .ok (.bipush 12, 2) := by decide +kernel
theorem dX3_init_26 : decode cX3_init 26 = .ok (.newarray .int, 2) := by decide +kernel
theorem dX3_init_28 : decode cX3_init 28 = .ok (.putfield 22, 3) := by decide +kernel
theorem dX3_init_31 : decode cX3_init 31 = .ok (.aload_n 0, 1) := by decide +kernel
theorem dX3_init_32 : decode cX3_init 32 = .ok (.bipush 12, 2) := by decide +kernel
theorem dX3_init_34 : decode cX3_init 34 = .ok (.newarray .int, 2) := by decide +kernel
theorem dX3_init_36 : decode cX3_init 36 = .ok (.putfield 25, 3) := by decide +kernel
theorem dX3_init_39 : decode cX3_init 39 = .ok (.aload_n 0, 1) := by decide +kernel
theorem dX3_init_40 : decode cX3_init 40 = .ok (.bipush 12, 2) := by decide +kernel
theorem dX3_init_42 : decode cX3_init 42 = .ok (.newarray .int, 2) := by decide +kernel
theorem dX3_init_44 : decode cX3_init 44 = .ok (.putfield 28, 3) := by decide +kernel
theorem dX3_init_47 : decode cX3_init 47 = .ok (.return_, 1) := by decide +kernel
theorem dX3_clear_0 : decode cX3_clear 0 = .ok (.aload_n 0, 1) := by decide +kernel
theorem dX3_clear_1 : decode cX3_clear 1 = .ok (.iconst 0, 1) := by decide +kernel
theorem dX3_clear_2 : decode cX3_clear 2 = .ok (.putfield 9, 3) := by decide +kernel
theorem dX3_clear_5 : decode cX3_clear 5 = .ok (.return_, 1) := by decide +kernel
theorem dX3_add_0 : decode cX3_add 0 = .ok (.aload_n 0, 1) := by decide +kernel
theorem dX3_add_1 : decode cX3_add 1 = .ok (.getfield 9, 3) := by decide +kernel
theorem dX3_add_4 : decode cX3_add 4 = .ok (.istore_n 2, 1) := by decide +kernel
theorem dX3_add_5 : decode cX3_add 5 = .ok (.aload_n 0, 1) := by decide +kernel
theorem dX3_add_6 : decode cX3_add 6 = .ok (.getfield 15, 3) := by decide +kernel
theorem dX3_add_9 : decode cX3_add 9 = .ok (.iload_n 2, 1) := by decide +kernel
theorem dX3_add_10 : decode cX3_add 10 = .ok (.iload_n 1, 1) := by decide +kernel
theorem dX3_add_11 : decode cX3_add 11 = .ok (.iastore, 1) := by decide +kernel
theorem dX3_add_12 : decode cX3_add 12 = .ok (.aload_n 0, 1) := by decide +kernel
theorem dX3_add_13 : decode cX3_add 13 = .ok (.getfield 19, 3) := by decide +kernel
theorem dX3_add_16 : decode cX3_add 16 = .ok (.iload_n 2, 1) := by decide +kernel
theorem dX3_add_17 : decode cX3_add 17 = .ok (.iconst 0, 1) := by decide +kernel
theorem dX3_add_18 : decode cX3_add 18 = .ok (.iastore, 1) := by decide +kernel
theorem dX3_add_19 : decode cX3_add 19 = .ok (.aload_n 0, 1) := by decide +kernel
theorem dX3_add_20 : decode cX3_add 20 = .ok (.dup, 1) := by decide +kernel
theorem dX3_add_21 : decode cX3_add 21 = .ok (.getfield 9, 3) := by decide +kernel
theorem dX3_add_24 : decode cX3_add 24 = .ok (.iconst 1, 1) := by decide +kernel
theorem dX3_add_25 : decode cX3_add 25 = .ok (.iadd, 1) := by decide +kernel
theorem dX3_add_26 : decode cX3_add 26 = .ok (.putfield 9, 3) := by decide +kernel
theorem dX3_add_29 : decode cX3_add 29 = .ok (.iload_n 2, 1) := by decide +kernel
theorem dX3_add_30 : decode cX3_add 30 = .ok (.ireturn, 1) := by decide +kernel
theorem dX3_addStage_0 : decode cX3_addStage 0 = .ok (.iload_n 1, 1) := by decide +kernel
theorem dX3_addStage_1 : decode cX3_addStage 1 = .ok (.aload_n 0, 1) := by decide +kernel
theorem dX3_addStage_2 : decode cX3_addStage 2 = .ok (.getfield 19, 3) := by decide +kernel
theorem dX3_addStage_5 : decode cX3_addStage 5 = .ok (.iload_n 1, 1) := by decide +kernel
theorem dX3_addStage_6 : decode cX3_addStage 6 = .ok (.iaload, 1) := by decide +kernel
theorem dX3_addStage_7 : decode cX3_addStage 7 = .ok (.invokestatic 31, 3) := by decide +kernel
theorem dX3_addStage_10 : decode cX3_addStage 10 = .ok (.istore 5, 2) := by decide +kernel
theorem dX3_addStage_12 : decode cX3_addStage 12 = .ok (.aload_n 0, 1) := by decide +kernel
theorem dX3_addStage_13 : decode cX3_addStage 13 = .ok (.getfield 22, 3) := by decide +kernel
theorem dX3_addStage_16 : decode cX3_addStage 16 = .ok (.iload 5, 2) := by decide +kernel
theorem dX3_addStage_18 : decode cX3_addStage 18 = .ok (.iload_n 2, 1) := by decide +kernel
theorem dX3_addStage_19 : decode cX3_addStage 19 = .ok (.iastore, 1) := by decide +kernel
theorem dX3_addStage_20 : decode cX3_addStage 20 = .ok (.aload_n 0, 1) := by decide +kernel
theorem dX3_addStage_21 : decode cX3_addStage 21 = .ok (.getfield 25, 3) := by decide +kernel
theorem dX3_addStage_24 : decode cX3_addStage 24 = .ok (.iload 5, 2) := by decide +kernel
theorem dX3_addStage_26 : decode cX3_addStage 26 = .ok (.iload_n 3, 1) := by decide +kernel
theorem dX3_addStage_27 : decode cX3_addStage 27 = .ok (.iastore, 1) := by decide +kernel
theorem dX3_addStage_28 : decode cX3_addStage 28 = .ok (.aload_n 0, 1) := by decide +kernel
theorem dX3_addStage_29 : decode cX3_addStage 29 = .ok (.getfield 28, 3) := by decide +kernel
theorem dX3_addStage_32 : decode cX3_addStage 32 = .ok (.iload 5, 2) := by decide +kernel
theorem dX3_addStage_34 : decode cX3_addStage 34 = .ok (.iload 4, 2) := by decide +kernel
theorem dX3_addStage_36 : decode cX3_addStage 36 = .ok (.iastore, 1) := by decide +kernel
theorem dX3_addStage_37 : decode cX3_addStage 37 = .ok (.aload_n 0, 1) := by decide +kernel
theorem dX3_addStage_38 : decode cX3_addStage 38 = .ok (.getfield 19, 3) := by decide +kernel
theorem dX3_addStage_41 : decode cX3_addStage 41 = .ok (.iload_n 1, 1) := by decide +kernel
theorem dX3_addStage_42 : decode cX3_addStage 42 = .ok (.dup2, 1) := by decide +kernel
theorem dX3_addStage_43 : decode cX3_addStage 43 = .ok (.iaload, 1) := by decide +kernel
theorem dX3_addStage_44 : decode cX3_addStage 44 = .ok (.iconst 1, 1) := by decide +kernel
theorem dX3_addStage_45 : decode cX3_addStage 45 = .ok (.iadd, 1) := by decide +kernel
theorem dX3_addStage_46 : decode cX3_addStage 46 = .ok (.iastore, 1) := by decide +kernel
theorem dX3_addStage_47 : decode cX3_addStage 47 = .ok (.aload_n 0, 1) := by decide +kernel
theorem dX3_addStage_48 : decode cX3_addStage 48 = .ok (.getfield 19, 3) := by decide +kernel
theorem dX3_addStage_51 : decode cX3_addStage 51 = .ok (.iload_n 1, 1) := by decide +kernel
theorem dX3_addStage_52 : decode cX3_addStage 52 = .ok (.iaload, 1) := by decide +kernel
theorem dX3_addStage_53 : decode cX3_addStage 53 = .ok (.ireturn, 1) := by decide +kernel
theorem dX4_init_0 : decode cX4_init 0 = .ok (.aload_n 0, 1) := by decide +kernel
theorem dX4_init_1 : decode cX4_init 1 = .ok (.invokespecial 3, 3) := by decide +kernel
theorem dX4_init_4 : decode cX4_init 4 = .ok (.aload_n 0, 1) := by decide +kernel
theorem dX4_init_5 : decode cX4_init 5 = .ok (.new 9, 3) := by decide +kernel
theorem dX4_init_8 : decode cX4_init 8 = .ok (.dup, 1) := by decide +kernel
theorem dX4_init_9 : decode cX4_init 9 = .ok (.invokespecial 11, 3) := by decide +kernel
theorem dX4_init_12 : decode cX4_init 12 = .ok (.putfield 12, 3) := by decide +kernel
theorem dX4_init_15 : decode cX4_init 15 = .ok (.aload_n 0, 1) := by decide +kernel
theorem dX4_init_16 : decode cX4_init 16 = .ok (.new 18, 3) := by decide +kernel
theorem dX4_init_19 : decode cX4_init 19 = .ok (.dup, 1) := by decide +kernel
theorem dX4_init_20 : decode cX4_init 20 = .ok (.invokespecial 20, 3) := by decide +kernel
theorem dX4_init_23 : decode cX4_init 23 = .ok (.putfield 21, 3) := by decide +kernel
theorem dX4_init_26 : decode cX4_init 26 = .ok (.aload_n 0, 1) := by decide +kernel
theorem dX4_init_27 : decode cX4_init 27 = .ok (.new 25, 3) := by decide +kernel
theorem dX4_init_30 : decode cX4_init 30 = .ok (.dup, 1) := by decide +kernel
theorem dX4_init_31 : decode cX4_init 31 = .ok (.invokespecial 27, 3) := by decide +kernel
theorem dX4_init_34 : decode cX4_init 34 = .ok (.putfield 28, 3) := by decide +kernel
theorem dX4_init_37 : decode cX4_init 37 = .ok (.aload_n 0, 1) := by decide +kernel
theorem dX4_init_38 : decode cX4_init 38 = .ok (.iconst 0, 1) := by decide +kernel
theorem dX4_init_39 : decode cX4_init 39 = .ok (.putfield 32, 3) := by decide +kernel
theorem dX4_init_42 : decode cX4_init 42 = .ok (.aload_n 0, 1) := by decide +kernel
theorem dX4_init_43 : decode cX4_init 43 = .ok (.iconst 1, 1) := by decide +kernel
theorem dX4_init_44 : decode cX4_init 44 = .ok (.putfield 36, 3) := by decide +kernel
theorem dX4_init_47 : decode cX4_init 47 = .ok (.return_, 1) := by decide +kernel
theorem dX4_clear_0 : decode cX4_clear 0 = .ok (.aload_n 0, 1) := by decide +kernel
theorem dX4_clear_1 : decode cX4_clear 1 = .ok (.getfield 12, 3) := by decide +kernel
theorem dX4_clear_4 : decode cX4_clear 4 = .ok (.invokevirtual 39, 3) := by decide +kernel
theorem dX4_clear_7 : decode cX4_clear 7 = .ok (.aload_n 0, 1) := by decide +kernel
theorem dX4_clear_8 : decode cX4_clear 8 = .ok (.getfield 21, 3) := by decide +kernel
theorem dX4_clear_11 : decode cX4_clear 11 = .ok (.invokevirtual 42, 3) := by decide +kernel
theorem dX4_clear_14 : decode cX4_clear 14 = .ok (.aload_n 0, 1) := by decide +kernel
theorem dX4_clear_15 : decode cX4_clear 15 = .ok (.getfield 28, 3) := by decide +kernel
theorem dX4_clear_18 : decode cX4_clear 18 = .ok (.invokevirtual 43, 3) := by decide +kernel
theorem dX4_clear_21 : decode cX4_clear 21 = .ok (.aload_n 0, 1) := by decide +kernel
theorem dX4_clear_22 : decode cX4_clear 22 = .ok (.iconst 0, 1) := by decide +kernel
theorem dX4_clear_23 : decode cX4_clear 23 = .ok (.putfield 32, 3) := by decide +kernel
theorem dX4_clear_26 : decode cX4_clear 26 = .ok (.aload_n 0, 1) := by decide +kernel
theorem dX4_clear_27 : decode cX4_clear 27 = .ok (.iconst 1, 1) := by decide +kernel
theorem dX4_clear_28 : decode cX4_clear 28 = .ok (.putfield 36, 3) := by decide +kernel
theorem dX4_clear_31 : decode cX4_clear 31 = .ok (.return_, 1) := by decide +kernel
theorem dX4_play_0 : decode cX4_play 0 = .ok (.iload_n 1, 1) := by decide +kernel
theorem dX4_play_1 : decode cX4_play 1 = .ok (.bipush 9, 2) := by decide +kernel
theorem dX4_play_3 : decode cX4_play 3 = .ok (.if_icmp .ge 15, 3) := by decide +kernel
theorem dX4_play_6 : decode cX4_play 6 = .ok (.aload_n 0, 1) := by decide +kernel
theorem dX4_play_7 : decode cX4_play 7 = .ok (.iload_n 1, 1) := by decide +kernel
theorem dX4_play_8 : decode cX4_play 8 = .ok (.iload_n 2, 1) := by decide +kernel
theorem dX4_play_9 : decode cX4_play 9 = .ok (.iload_n 3, 1) := by decide +kernel
theorem dX4_play_10 : decode cX4_play 10 = .ok (.iload 4, 2) := by decide +kernel
theorem dX4_play_12 : decode cX4_play 12 = .ok (.iload 5, 2) := by decide +kernel
theorem dX4_play_14 : decode cX4_play 14 = .ok (.invokevirtual 44, 3) := by decide +kernel
theorem dX4_play_17 : decode cX4_play 17 = .ok (.ireturn, 1) := by decide +kernel
theorem dX4_play_18 : decode cX4_play 18 = .ok (.aload_n 0, 1) := by decide +kernel
theorem dX4_play_19 : decode cX4_play 19 = .ok (.getfield 21, 3) := by decide +kernel
theorem dX4_play_22 : decode cX4_play 22 = .ok (.invokevirtual 48, 3) := by decide +kernel
theorem dX4_play_25 : decode cX4_play 25 = .ok (.istore 6, 2) := by decide +kernel
theorem dX4_play_27 : decode cX4_play 27 = .ok (.iload 6, 2) := by decide +kernel
theorem dX4_play_29 : decode cX4_play 29 = .ok (.iconst (-1), 1) := by decide +kernel
theorem dX4_play_30 : decode cX4_play 30 = .ok (.if_icmp .ne 5, 3) := by decide +kernel
theorem dX4_play_33 : decode cX4_play 33 = .ok (.iconst (-1), 1) := by decide +kernel
theorem dX4_play_34 : decode cX4_play 34 = .ok (.ireturn, 1) := by decide +kernel
theorem dX4_play_35 : decode cX4_play 35 = .ok (.aload_n 0, 1) := by decide +kernel
theorem dX4_play_36 : decode cX4_play 36 = .ok (.getfield 21, 3) := by decide +kernel
theorem dX4_play_39 : decode cX4_play 39 = .ok (.getfield 52, 3) := by decide +kernel
theorem dX4_play_42 : decode cX4_play 42 = .ok (.iload 6, 2) := by decide +kernel
theorem dX4_play_44 : decode cX4_play 44 = .ok (.iaload, 1) := by decide +kernel
theorem dX4_play_45 : decode cX4_play 45 = .ok (.istore 7, 2) := by decide +kernel
theorem dX4_play_47 : decode cX4_play 47 = .ok (.aload_n 0, 1) := by decide +kernel
theorem dX4_play_48 : decode cX4_play 48 = .ok (.iload_n 1, 1) := by decide +kernel
theorem dX4_play_49 : decode cX4_play 49 = .ok (.iload 6, 2) := by decide +kernel
theorem dX4_play_51 : decode cX4_play 51 = .ok (.iload_n 2, 1) := by decide +kernel
theorem dX4_play_52 : decode cX4_play 52 = .ok (.iload_n 3, 1) := by decide +kernel
theorem dX4_play_53 : decode cX4_play 53 = .ok (.invokevirtual 56, 3) := by decide +kernel
theorem dX4_play_56 : decode cX4_play 56 = .ok (.istore 8, 2) := by decide +kernel
theorem dX4_play_58 : decode cX4_play 58 = .ok (.aload_n 0, 1) := by decide +kernel
theorem dX4_play_59 : decode cX4_play 59 = .ok (.getfield 21, 3) := by decide +kernel
theorem dX4_play_62 : decode cX4_play 62 = .ok (.getfield 52, 3) := by decide +kernel
theorem dX4_play_65 : decode cX4_play 65 = .ok (.iload 6, 2) := by decide +kernel
theorem dX4_play_67 : decode cX4_play 67 = .ok (.iload 7, 2) := by decide +kernel
theorem dX4_play_69 : decode cX4_play 69 = .ok (.iload_n 1, 1) := by decide +kernel
theorem dX4_play_70 : decode cX4_play 70 = .ok (.invokestatic 60, 3) := by decide +kernel
theorem dX4_play_73 : decode cX4_play 73 = .ok (.iadd, 1) := by decide +kernel
theorem dX4_play_74 : decode cX4_play 74 = .ok (.iastore, 1) := by decide +kernel
theorem dX4_play_75 : decode cX4_play 75 = .ok (.iload_n 1, 1) := by decide +kernel
theorem dX4_play_76 : decode cX4_play 76 = .ok (.bipush 18, 2) := by decide +kernel
theorem dX4_play_78 : decode cX4_play 78 = .ok (.if_icmp .ne 8, 3) := by decide +kernel
theorem dX4_play_81 : decode cX4_play 81 = .ok (.iload 8, 2) := by decide +kernel
theorem dX4_play_83 : decode cX4_play 83 = .ok (.goto 4, 3) := by decide +kernel
theorem dX4_play_86 : decode cX4_play 86 = .ok (.iconst (-1), 1) := by decide +kernel
theorem dX4_play_87 : decode cX4_play 87 = .ok (.istore 9, 2) := by decide +kernel
theorem dX4_play_89 : decode cX4_play 89 = .ok (.iload 9, 2) := by decide +kernel
theorem dX4_play_91 : decode cX4_play 91 = .ok (.iconst (-1), 1) := by decide +kernel
theorem dX4_play_92 : decode cX4_play 92 = .ok (.if_icmp .eq 24, 3) := by decide +kernel
theorem dX4_play_95 : decode cX4_play 95 = .ok (.aload_n 0, 1) := by decide +kernel
theorem dX4_play_96 : decode cX4_play 96 = .ok (.iload 9, 2) := by decide +kernel
theorem dX4_play_98 : decode cX4_play 98 = .ok (.iload 9, 2) := by decide +kernel
theorem dX4_play_100 : decode cX4_play 100 = .ok (.iload 6, 2) := by decide +kernel
theorem dX4_play_102 : decode cX4_play 102 = .ok (.if_icmp .ne 7, 3) := by decide +kernel
theorem dX4_play_105 : decode cX4_play 105 = .ok (.iload_n 2, 1) := by decide +kernel
theorem dX4_play_106 : decode cX4_play 106 = .ok (.goto 5, 3) := by decide +kernel
theorem dX4_play_109 : decode cX4_play 109 = .ok (.iload 6, 2) := by decide +kernel
theorem dX4_play_111 : decode cX4_play 111 = .ok (.iload 7, 2) := by decide +kernel
theorem dX4_play_113 : decode cX4_play 113 = .ok (.invokevirtual 64, 3) := by decide +kernel
theorem dX4_play_116 : decode cX4_play 116 = .ok (.iload_n 1, 1) := by decide +kernel
theorem dX4_play_117 : decode cX4_play 117 = .ok (.bipush 10, 2) := by decide +kernel
theorem dX4_play_119 : decode cX4_play 119 = .ok (.if_icmp .eq 9, 3) := by decide +kernel
theorem dX4_play_122 : decode cX4_play 122 = .ok (.iload_n 1, 1) := by decide +kernel
theorem dX4_play_123 : decode cX4_play 123 = .ok (.bipush 11, 2) := by decide +kernel
theorem dX4_play_125 : decode cX4_play 125 = .ok (.if_icmp .ne 7, 3) := by decide +kernel
theorem dX4_play_128 : decode cX4_play 128 = .ok (.iload_n 2, 1) := by decide +kernel
theorem dX4_play_129 : decode cX4_play 129 = .ok (.goto 4, 3) := by decide +kernel
theorem dX4_play_132 : decode cX4_play 132 = .ok (.iconst (-1), 1) := by decide +kernel
theorem dX4_play_133 : decode cX4_play 133 = .ok (.istore 10, 2) := by decide +kernel
theorem dX4_play_135 : decode cX4_play 135 = .ok (.aload_n 0, 1) := by decide +kernel
theorem dX4_play_136 : decode cX4_play 136 = .ok (.iload 6, 2) := by decide +kernel
theorem dX4_play_138 : decode cX4_play 138 = .ok (.iload 10, 2) := by decide +kernel
theorem dX4_play_140 : decode cX4_play 140 = .ok (.iload 9, 2) := by decide +kernel
theorem dX4_play_142 : decode cX4_play 142 = .ok (.iload 6, 2) := by decide +kernel
theorem dX4_play_144 : decode cX4_play 144 = .ok (.if_icmp .ne 7, 3) := by decide +kernel
theorem dX4_play_147 : decode cX4_play 147 = .ok (.iconst (-1), 1) := by decide +kernel
theorem dX4_play_148 : decode cX4_play 148 = .ok (.goto 5, 3) := by decide +kernel
theorem dX4_play_151 : decode cX4_play 151 = .ok (.iload 9, 2) := by decide +kernel
theorem dX4_play_153 : decode cX4_play 153 = .ok (.invokevirtual 68, 3) := by decide +kernel
theorem dX4_play_156 : decode cX4_play 156 = .ok (.iload_n 1, 1) := by decide +kernel
theorem dX4_play_157 : decode cX4_play 157 = .ok (.bipush 15, 2) := by decide +kernel
theorem dX4_play_159 : decode cX4_play 159 = .ok (.if_icmp .eq 15, 3) := by decide +kernel
theorem dX4_play_162 : decode cX4_play 162 = .ok (.iload_n 1, 1) := by decide +kernel
theorem dX4_play_163 : decode cX4_play 163 = .ok (.bipush 16, 2) := by decide +kernel
theorem dX4_play_165 : decode cX4_play 165 = .ok (.if_icmp .eq 9, 3) := by decide +kernel
theorem dX4_play_168 : decode cX4_play 168 = .ok (.iload_n 1, 1) := by decide +kernel
theorem dX4_play_169 : decode cX4_play 169 = .ok (.bipush 17, 2) := by decide +kernel
theorem dX4_play_171 : decode cX4_play 171 = .ok (.if_icmp .ne 7, 3) := by decide +kernel
theorem dX4_play_174 : decode cX4_play 174 = .ok (.iconst 1, 1) := by decide +kernel
theorem dX4_play_175 : decode cX4_play 175 = .ok (.goto 4, 3) := by decide +kernel
theorem dX4_play_178 : decode cX4_play 178 = .ok (.iconst 0, 1) := by decide +kernel
theorem dX4_play_179 : decode cX4_play 179 = .ok (.istore 11, 2) := by decide +kernel
theorem dX4_play_181 : decode cX4_play 181 = .ok (.iload 11, 2) := by decide +kernel
theorem dX4_play_183 : decode cX4_play 183 = .ok (.ifCond .eq 16, 3) := by decide +kernel
theorem dX4_play_186 : decode cX4_play 186 = .ok (.aload_n 0, 1) := by decide +kernel
theorem dX4_play_187 : decode cX4_play 187 = .ok (.getfield 21, 3) := by decide +kernel
theorem dX4_play_190 : decode cX4_play 190 = .ok (.getfield 71, 3) := by decide +kernel
theorem dX4_play_193 : decode cX4_play 193 = .ok (.iload 6, 2) := by decide +kernel
theorem dX4_play_195 : decode cX4_play 195 = .ok (.iaload, 1) := by decide +kernel
theorem dX4_play_196 : decode cX4_play 196 = .ok (.goto 5, 3) := by decide +kernel
theorem dX4_play_199 : decode cX4_play 199 = .ok (.iload 8, 2) := by decide +kernel
theorem dX4_play_201 : decode cX4_play 201 = .ok (.ireturn, 1) := by decide +kernel
theorem dX4_make_0 : decode cX4_make 0 = .ok (.iload_n 1, 1) := by decide +kernel
theorem dX4_make_1 : decode cX4_make 1 = .ok (.tableswitch 148 0 7 #[47, 60, 72, 86, 98, 110, 119, 133], 47) := by decide +kernel
theorem dX4_make_48 : decode cX4_make 48 = .ok (.aload_n 0, 1) := by decide +kernel
theorem dX4_make_49 : decode cX4_make 49 = .ok (.getfield 12, 3) := by decide +kernel
theorem dX4_make_52 : decode cX4_make 52 = .ok (.iload_n 2, 1) := by decide +kernel
theorem dX4_make_53 : decode cX4_make 53 = .ok (.iload_n 3, 1) := by decide +kernel
theorem dX4_make_54 : decode cX4_make 54 = .ok (.iload 4, 2) := by decide +kernel
theorem dX4_make_56 : decode cX4_make 56 = .ok (.invokevirtual 74, 3) := by decide +kernel
theorem dX4_make_59 : decode cX4_make 59 = .ok (.iconst 0, 1) := by decide +kernel
theorem dX4_make_60 : decode cX4_make 60 = .ok (.ireturn, 1) := by decide +kernel
theorem dX4_make_61 : decode cX4_make 61 = .ok (.aload_n 0, 1) := by decide +kernel
theorem dX4_make_62 : decode cX4_make 62 = .ok (.getfield 12, 3) := by decide +kernel
theorem dX4_make_65 : decode cX4_make 65 = .ok (.getfield 77, 3) := by decide +kernel
theorem dX4_make_68 : decode cX4_make 68 = .ok (.iload_n 2, 1) := by decide +kernel
theorem dX4_make_69 : decode cX4_make 69 = .ok (.iload_n 3, 1) := by decide +kernel
theorem dX4_make_70 : decode cX4_make 70 = .ok (.iastore, 1) := by decide +kernel
theorem dX4_make_71 : decode cX4_make 71 = .ok (.iconst 0, 1) := by decide +kernel
theorem dX4_make_72 : decode cX4_make 72 = .ok (.ireturn, 1) := by decide +kernel
theorem dX4_make_73 : decode cX4_make 73 = .ok (.aload_n 0, 1) := by decide +kernel
theorem dX4_make_74 : decode cX4_make 74 = .ok (.getfield 12, 3) := by decide +kernel
theorem dX4_make_77 : decode cX4_make 77 = .ok (.iload_n 2, 1) := by decide +kernel
theorem dX4_make_78 : decode cX4_make 78 = .ok (.iload_n 3, 1) := by decide +kernel
theorem dX4_make_79 : decode cX4_make 79 = .ok (.iload 4, 2) := by decide +kernel
theorem dX4_make_81 : decode cX4_make 81 = .ok (.iload 5, 2) := by decide +kernel
theorem dX4_make_83 : decode cX4_make 83 = .ok (.invokevirtual 80, 3) := by decide +kernel
theorem dX4_make_86 : decode cX4_make 86 = .ok (.ireturn, 1) := by decide +kernel
theorem dX4_make_87 : decode cX4_make 87 = .ok (.aload_n 0, 1) := by decide +kernel
theorem dX4_make_88 : decode cX4_make 88 = .ok (.getfield 12, 3) := by decide +kernel
theorem dX4_make_91 : decode cX4_make 91 = .ok (.iload_n 2, 1) := by decide +kernel
theorem dX4_make_92 : decode cX4_make 92 = .ok (.iload_n 3, 1) := by decide +kernel
theorem dX4_make_93 : decode cX4_make 93 = .ok (.iload 4, 2) := by decide +kernel
theorem dX4_make_95 : decode cX4_make 95 = .ok (.invokevirtual 83, 3) := by decide +kernel
theorem dX4_make_98 : decode cX4_make 98 = .ok (.ireturn, 1) := by decide +kernel
theorem dX4_make_99 : decode cX4_make 99 = .ok (.aload_n 0, 1) := by decide +kernel
theorem dX4_make_100 : decode cX4_make 100 = .ok (.getfield 21, 3) := by decide +kernel
theorem dX4_make_103 : decode cX4_make 103 = .ok (.iload_n 2, 1) := by decide +kernel
theorem dX4_make_104 : decode cX4_make 104 = .ok (.iload_n 3, 1) := by decide +kernel
theorem dX4_make_105 : decode cX4_make 105 = .ok (.iload 4, 2) := by decide +kernel
theorem dX4_make_107 : decode cX4_make 107 = .ok (.invokevirtual 87, 3) := by decide +kernel
theorem dX4_make_110 : decode cX4_make 110 = .ok (.ireturn, 1) := by decide +kernel
theorem dX4_make_111 : decode cX4_make 111 = .ok (.aload_n 0, 1) := by decide +kernel
theorem dX4_make_112 : decode cX4_make 112 = .ok (.getfield 28, 3) := by decide +kernel
theorem dX4_make_115 : decode cX4_make 115 = .ok (.iload_n 2, 1) := by decide +kernel
theorem dX4_make_116 : decode cX4_make 116 = .ok (.invokevirtual 90, 3) := by decide +kernel
theorem dX4_make_119 : decode cX4_make 119 = .ok (.ireturn, 1) := by decide +kernel
theorem dX4_make_120 : decode cX4_make 120 = .ok (.aload_n 0, 1) := by decide +kernel
theorem dX4_make_121 : decode cX4_make 121 = .ok (.getfield 28, 3) := by decide +kernel
theorem dX4_make_124 : decode cX4_make 124 = .ok (.iload_n 2, 1) := by decide +kernel
theorem dX4_make_125 : decode cX4_make 125 = .ok (.iload_n 3, 1) := by decide +kernel
theorem dX4_make_126 : decode cX4_make 126 = .ok (.iload 4, 2) := by decide +kernel
theorem dX4_make_128 : decode cX4_make 128 = .ok (.iload 5, 2) := by decide +kernel
theorem dX4_make_130 : decode cX4_make 130 = .ok (.invokevirtual 92, 3) := by decide +kernel
theorem dX4_make_133 : decode cX4_make 133 = .ok (.ireturn, 1) := by decide +kernel
theorem dX4_make_134 : decode cX4_make 134 = .ok (.aload_n 0, 1) := by decide +kernel
theorem dX4_make_135 : decode cX4_make 135 = .ok (.dup, 1) := by decide +kernel
theorem dX4_make_136 : decode cX4_make 136 = .ok (.getfield 32, 3) := by decide +kernel
theorem dX4_make_139 : decode cX4_make 139 = .ok (.iload_n 2, 1) := by decide +kernel
theorem dX4_make_140 : decode cX4_make 140 = .ok (.iadd, 1) := by decide +kernel
theorem dX4_make_141 : decode cX4_make 141 = .ok (.putfield 32, 3) := by decide +kernel
theorem dX4_make_144 : decode cX4_make 144 = .ok (.aload_n 0, 1) := by decide +kernel
theorem dX4_make_145 : decode cX4_make 145 = .ok (.getfield 32, 3) := by decide +kernel
theorem dX4_make_148 : decode cX4_make 148 = .ok (.ireturn, 1) := by decide +kernel
theorem dX4_make_149 : decode cX4_make 149 = .ok (.aload_n 0, 1) := by decide +kernel
theorem dX4_make_150 : decode cX4_make 150 = .ok (.iload_n 2, 1) := by decide +kernel
theorem dX4_make_151 : decode cX4_make 151 = .ok (.putfield 36, 3) := by decide +kernel
theorem dX4_make_154 : decode cX4_make 154 = .ok (.iconst 0, 1) := by decide +kernel
theorem dX4_make_155 : decode cX4_make 155 = .ok (.ireturn, 1) := by decide +kernel
theorem dX4_costOf_0 : decode cX4_costOf 0 = .ok (.iload_n 0, 1) := by decide +kernel
theorem dX4_costOf_1 : decode cX4_costOf 1 = .ok (.bipush 18, 2) := by decide +kernel
theorem dX4_costOf_3 : decode cX4_costOf 3 = .ok (.if_icmp .ne 5, 3) := by decide +kernel
theorem dX4_costOf_6 : decode cX4_costOf 6 = .ok (.iconst 3, 1) := by decide +kernel
theorem dX4_costOf_7 : decode cX4_costOf 7 = .ok (.ireturn, 1) := by decide +kernel
theorem dX4_costOf_8 : decode cX4_costOf 8 = .ok (.iload_n 0, 1) := by decide +kernel
theorem dX4_costOf_9 : decode cX4_costOf 9 = .ok (.bipush 9, 2) := by decide +kernel
theorem dX4_costOf_11 : decode cX4_costOf 11 = .ok (.if_icmp .eq 9, 3) := by decide +kernel
theorem dX4_costOf_14 : decode cX4_costOf 14 = .ok (.iload_n 0, 1) := by decide +kernel
theorem dX4_costOf_15 : decode cX4_costOf 15 = .ok (.bipush 19, 2) := by decide +kernel
theorem dX4_costOf_17 : decode cX4_costOf 17 = .ok (.if_icmp .ne 7, 3) := by decide +kernel
theorem dX4_costOf_20 : decode cX4_costOf 20 = .ok (.iconst 2, 1) := by decide +kernel
theorem dX4_costOf_21 : decode cX4_costOf 21 = .ok (.goto 4, 3) := by decide +kernel
theorem dX4_costOf_24 : decode cX4_costOf 24 = .ok (.iconst 1, 1) := by decide +kernel
theorem dX4_costOf_25 : decode cX4_costOf 25 = .ok (.ireturn, 1) := by decide +kernel
theorem dX4_perform_0 : decode cX4_perform 0 = .ok (.aload_n 0, 1) := by decide +kernel
theorem dX4_perform_1 : decode cX4_perform 1 = .ok (.getfield 21, 3) := by decide +kernel
theorem dX4_perform_4 : decode cX4_perform 4 = .ok (.getfield 95, 3) := by decide +kernel
theorem dX4_perform_7 : decode cX4_perform 7 = .ok (.iload_n 2, 1) := by decide +kernel
theorem dX4_perform_8 : decode cX4_perform 8 = .ok (.iaload, 1) := by decide +kernel
theorem dX4_perform_9 : decode cX4_perform 9 = .ok (.istore 5, 2) := by decide +kernel
theorem dX4_perform_11 : decode cX4_perform 11 = .ok (.iload_n 1, 1) := by decide +kernel
theorem dX4_perform_12 : decode cX4_perform 12 = .ok (.tableswitch 234 9 18 #[56, 85, 93, 101, 124, 147, 171, 184, 207, 227], 56) := by decide +kernel
theorem dX4_perform_68 : decode cX4_perform 68 = .ok (.aload_n 0, 1) := by decide +kernel
theorem dX4_perform_69 : decode cX4_perform 69 = .ok (.getfield 21, 3) := by decide +kernel
theorem dX4_perform_72 : decode cX4_perform 72 = .ok (.getfield 95, 3) := by decide +kernel
theorem dX4_perform_75 : decode cX4_perform 75 = .ok (.iload_n 2, 1) := by decide +kernel
theorem dX4_perform_76 : decode cX4_perform 76 = .ok (.aload_n 0, 1) := by decide +kernel
theorem dX4_perform_77 : decode cX4_perform 77 = .ok (.getfield 12, 3) := by decide +kernel
theorem dX4_perform_80 : decode cX4_perform 80 = .ok (.iload 5, 2) := by decide +kernel
theorem dX4_perform_82 : decode cX4_perform 82 = .ok (.iload_n 3, 1) := by decide +kernel
theorem dX4_perform_83 : decode cX4_perform 83 = .ok (.invokevirtual 98, 3) := by decide +kernel
theorem dX4_perform_86 : decode cX4_perform 86 = .ok (.iastore, 1) := by decide +kernel
theorem dX4_perform_87 : decode cX4_perform 87 = .ok (.aload_n 0, 1) := by decide +kernel
theorem dX4_perform_88 : decode cX4_perform 88 = .ok (.getfield 21, 3) := by decide +kernel
theorem dX4_perform_91 : decode cX4_perform 91 = .ok (.getfield 95, 3) := by decide +kernel
theorem dX4_perform_94 : decode cX4_perform 94 = .ok (.iload_n 2, 1) := by decide +kernel
theorem dX4_perform_95 : decode cX4_perform 95 = .ok (.iaload, 1) := by decide +kernel
theorem dX4_perform_96 : decode cX4_perform 96 = .ok (.ireturn, 1) := by decide +kernel
theorem dX4_perform_97 : decode cX4_perform 97 = .ok (.aload_n 0, 1) := by decide +kernel
theorem dX4_perform_98 : decode cX4_perform 98 = .ok (.iload_n 2, 1) := by decide +kernel
theorem dX4_perform_99 : decode cX4_perform 99 = .ok (.iload_n 3, 1) := by decide +kernel
theorem dX4_perform_100 : decode cX4_perform 100 = .ok (.iconst 0, 1) := by decide +kernel
theorem dX4_perform_101 : decode cX4_perform 101 = .ok (.invokevirtual 102, 3) := by decide +kernel
theorem dX4_perform_104 : decode cX4_perform 104 = .ok (.ireturn, 1) := by decide +kernel
theorem dX4_perform_105 : decode cX4_perform 105 = .ok (.aload_n 0, 1) := by decide +kernel
theorem dX4_perform_106 : decode cX4_perform 106 = .ok (.iload_n 2, 1) := by decide +kernel
theorem dX4_perform_107 : decode cX4_perform 107 = .ok (.iload_n 3, 1) := by decide +kernel
theorem dX4_perform_108 : decode cX4_perform 108 = .ok (.iconst 1, 1) := by decide +kernel
theorem dX4_perform_109 : decode cX4_perform 109 = .ok (.invokevirtual 102, 3) := by decide +kernel
theorem dX4_perform_112 : decode cX4_perform 112 = .ok (.ireturn, 1) := by decide +kernel
theorem dX4_perform_113 : decode cX4_perform 113 = .ok (.aload_n 0, 1) := by decide +kernel
theorem dX4_perform_114 : decode cX4_perform 114 = .ok (.getfield 12, 3) := by decide +kernel
theorem dX4_perform_117 : decode cX4_perform 117 = .ok (.iload 5, 2) := by decide +kernel
theorem dX4_perform_119 : decode cX4_perform 119 = .ok (.iload_n 3, 1) := by decide +kernel
theorem dX4_perform_120 : decode cX4_perform 120 = .ok (.iconst (-1), 1) := by decide +kernel
theorem dX4_perform_121 : decode cX4_perform 121 = .ok (.invokevirtual 83, 3) := by decide +kernel
theorem dX4_perform_124 : decode cX4_perform 124 = .ok (.pop, 1) := by decide +kernel
theorem dX4_perform_125 : decode cX4_perform 125 = .ok (.aload_n 0, 1) := by decide +kernel
theorem dX4_perform_126 : decode cX4_perform 126 = .ok (.getfield 21, 3) := by decide +kernel
theorem dX4_perform_129 : decode cX4_perform 129 = .ok (.iload_n 2, 1) := by decide +kernel
theorem dX4_perform_130 : decode cX4_perform 130 = .ok (.iload_n 3, 1) := by decide +kernel
theorem dX4_perform_131 : decode cX4_perform 131 = .ok (.iconst 1, 1) := by decide +kernel
theorem dX4_perform_132 : decode cX4_perform 132 = .ok (.invokevirtual 106, 3) := by decide +kernel
theorem dX4_perform_135 : decode cX4_perform 135 = .ok (.ireturn, 1) := by decide +kernel
theorem dX4_perform_136 : decode cX4_perform 136 = .ok (.aload_n 0, 1) := by decide +kernel
theorem dX4_perform_137 : decode cX4_perform 137 = .ok (.getfield 12, 3) := by decide +kernel
theorem dX4_perform_140 : decode cX4_perform 140 = .ok (.iload 5, 2) := by decide +kernel
theorem dX4_perform_142 : decode cX4_perform 142 = .ok (.iload_n 3, 1) := by decide +kernel
theorem dX4_perform_143 : decode cX4_perform 143 = .ok (.iconst 1, 1) := by decide +kernel
theorem dX4_perform_144 : decode cX4_perform 144 = .ok (.invokevirtual 83, 3) := by decide +kernel
theorem dX4_perform_147 : decode cX4_perform 147 = .ok (.pop, 1) := by decide +kernel
theorem dX4_perform_148 : decode cX4_perform 148 = .ok (.aload_n 0, 1) := by decide +kernel
theorem dX4_perform_149 : decode cX4_perform 149 = .ok (.getfield 21, 3) := by decide +kernel
theorem dX4_perform_152 : decode cX4_perform 152 = .ok (.iload_n 2, 1) := by decide +kernel
theorem dX4_perform_153 : decode cX4_perform 153 = .ok (.iload_n 3, 1) := by decide +kernel
theorem dX4_perform_154 : decode cX4_perform 154 = .ok (.iconst (-1), 1) := by decide +kernel
theorem dX4_perform_155 : decode cX4_perform 155 = .ok (.invokevirtual 106, 3) := by decide +kernel
theorem dX4_perform_158 : decode cX4_perform 158 = .ok (.ireturn, 1) := by decide +kernel
theorem dX4_perform_159 : decode cX4_perform 159 = .ok (.aload_n 0, 1) := by decide +kernel
theorem dX4_perform_160 : decode cX4_perform 160 = .ok (.getfield 21, 3) := by decide +kernel
theorem dX4_perform_163 : decode cX4_perform 163 = .ok (.iload_n 3, 1) := by decide +kernel
theorem dX4_perform_164 : decode cX4_perform 164 = .ok (.iload 4, 2) := by decide +kernel
theorem dX4_perform_166 : decode cX4_perform 166 = .ok (.iconst 1, 1) := by decide +kernel
theorem dX4_perform_167 : decode cX4_perform 167 = .ok (.invokevirtual 106, 3) := by decide +kernel
theorem dX4_perform_170 : decode cX4_perform 170 = .ok (.pop, 1) := by decide +kernel
theorem dX4_perform_171 : decode cX4_perform 171 = .ok (.aload_n 0, 1) := by decide +kernel
theorem dX4_perform_172 : decode cX4_perform 172 = .ok (.getfield 21, 3) := by decide +kernel
theorem dX4_perform_175 : decode cX4_perform 175 = .ok (.iload_n 2, 1) := by decide +kernel
theorem dX4_perform_176 : decode cX4_perform 176 = .ok (.iload 4, 2) := by decide +kernel
theorem dX4_perform_178 : decode cX4_perform 178 = .ok (.iconst (-1), 1) := by decide +kernel
theorem dX4_perform_179 : decode cX4_perform 179 = .ok (.invokevirtual 106, 3) := by decide +kernel
theorem dX4_perform_182 : decode cX4_perform 182 = .ok (.ireturn, 1) := by decide +kernel
theorem dX4_perform_183 : decode cX4_perform 183 = .ok (.aload_n 0, 1) := by decide +kernel
theorem dX4_perform_184 : decode cX4_perform 184 = .ok (.getfield 21, 3) := by decide +kernel
theorem dX4_perform_187 : decode cX4_perform 187 = .ok (.iload_n 2, 1) := by decide +kernel
theorem dX4_perform_188 : decode cX4_perform 188 = .ok (.iload_n 3, 1) := by decide +kernel
theorem dX4_perform_189 : decode cX4_perform 189 = .ok (.iload 4, 2) := by decide +kernel
theorem dX4_perform_191 : decode cX4_perform 191 = .ok (.invokevirtual 109, 3) := by decide +kernel
theorem dX4_perform_194 : decode cX4_perform 194 = .ok (.iconst 0, 1) := by decide +kernel
theorem dX4_perform_195 : decode cX4_perform 195 = .ok (.ireturn, 1) := by decide +kernel
theorem dX4_perform_196 : decode cX4_perform 196 = .ok (.aload_n 0, 1) := by decide +kernel
theorem dX4_perform_197 : decode cX4_perform 197 = .ok (.iload_n 2, 1) := by decide +kernel
theorem dX4_perform_198 : decode cX4_perform 198 = .ok (.iload_n 3, 1) := by decide +kernel
theorem dX4_perform_199 : decode cX4_perform 199 = .ok (.iconst 1, 1) := by decide +kernel
theorem dX4_perform_200 : decode cX4_perform 200 = .ok (.aload_n 0, 1) := by decide +kernel
theorem dX4_perform_201 : decode cX4_perform 201 = .ok (.getfield 12, 3) := by decide +kernel
theorem dX4_perform_204 : decode cX4_perform 204 = .ok (.getfield 112, 3) := by decide +kernel
theorem dX4_perform_207 : decode cX4_perform 207 = .ok (.iload 5, 2) := by decide +kernel
theorem dX4_perform_209 : decode cX4_perform 209 = .ok (.iload_n 3, 1) := by decide +kernel
theorem dX4_perform_210 : decode cX4_perform 210 = .ok (.invokestatic 115, 3) := by decide +kernel
theorem dX4_perform_213 : decode cX4_perform 213 = .ok (.iaload, 1) := by decide +kernel
theorem dX4_perform_214 : decode cX4_perform 214 = .ok (.invokevirtual 118, 3) := by decide +kernel
theorem dX4_perform_217 : decode cX4_perform 217 = .ok (.iconst 0, 1) := by decide +kernel
theorem dX4_perform_218 : decode cX4_perform 218 = .ok (.ireturn, 1) := by decide +kernel
theorem dX4_perform_219 : decode cX4_perform 219 = .ok (.aload_n 0, 1) := by decide +kernel
theorem dX4_perform_220 : decode cX4_perform 220 = .ok (.iload_n 2, 1) := by decide +kernel
theorem dX4_perform_221 : decode cX4_perform 221 = .ok (.iload_n 3, 1) := by decide +kernel
theorem dX4_perform_222 : decode cX4_perform 222 = .ok (.iconst (-1), 1) := by decide +kernel
theorem dX4_perform_223 : decode cX4_perform 223 = .ok (.aload_n 0, 1) := by decide +kernel
theorem dX4_perform_224 : decode cX4_perform 224 = .ok (.getfield 12, 3) := by decide +kernel
theorem dX4_perform_227 : decode cX4_perform 227 = .ok (.iload 5, 2) := by decide +kernel
theorem dX4_perform_229 : decode cX4_perform 229 = .ok (.iload_n 3, 1) := by decide +kernel
theorem dX4_perform_230 : decode cX4_perform 230 = .ok (.invokevirtual 122, 3) := by decide +kernel
theorem dX4_perform_233 : decode cX4_perform 233 = .ok (.ineg, 1) := by decide +kernel
theorem dX4_perform_234 : decode cX4_perform 234 = .ok (.invokevirtual 118, 3) := by decide +kernel
theorem dX4_perform_237 : decode cX4_perform 237 = .ok (.iconst 0, 1) := by decide +kernel
theorem dX4_perform_238 : decode cX4_perform 238 = .ok (.ireturn, 1) := by decide +kernel
theorem dX4_perform_239 : decode cX4_perform 239 = .ok (.aload_n 0, 1) := by decide +kernel
theorem dX4_perform_240 : decode cX4_perform 240 = .ok (.iload_n 2, 1) := by decide +kernel
theorem dX4_perform_241 : decode cX4_perform 241 = .ok (.iload_n 3, 1) := by decide +kernel
theorem dX4_perform_242 : decode cX4_perform 242 = .ok (.invokevirtual 125, 3) := by decide +kernel
theorem dX4_perform_245 : decode cX4_perform 245 = .ok (.ireturn, 1) := by decide +kernel
theorem dX4_perform_246 : decode cX4_perform 246 = .ok (.aload_n 0, 1) := by decide +kernel
theorem dX4_perform_247 : decode cX4_perform 247 = .ok (.getfield 21, 3) := by decide +kernel
theorem dX4_perform_250 : decode cX4_perform 250 = .ok (.getfield 128, 3) := by decide +kernel
theorem dX4_perform_253 : decode cX4_perform 253 = .ok (.iload_n 2, 1) := by decide +kernel
theorem dX4_perform_254 : decode cX4_perform 254 = .ok (.aload_n 0, 1) := by decide +kernel
theorem dX4_perform_255 : decode cX4_perform 255 = .ok (.getfield 21, 3) := by decide +kernel
theorem dX4_perform_258 : decode cX4_perform 258 = .ok (.getfield 128, 3) := by decide +kernel
theorem dX4_perform_261 : decode cX4_perform 261 = .ok (.iload_n 2, 1) := by decide +kernel
theorem dX4_perform_262 : decode cX4_perform 262 = .ok (.iaload, 1) := by decide +kernel
theorem dX4_perform_263 : decode cX4_perform 263 = .ok (.iconst 1, 1) := by decide +kernel
theorem dX4_perform_264 : decode cX4_perform 264 = .ok (.iadd, 1) := by decide +kernel
theorem dX4_perform_265 : decode cX4_perform 265 = .ok (.bipush 20, 2) := by decide +kernel
theorem dX4_perform_267 : decode cX4_perform 267 = .ok (.invokestatic 131, 3) := by decide +kernel
theorem dX4_perform_270 : decode cX4_perform 270 = .ok (.iastore, 1) := by decide +kernel
theorem dX4_perform_271 : decode cX4_perform 271 = .ok (.aload_n 0, 1) := by decide +kernel
theorem dX4_perform_272 : decode cX4_perform 272 = .ok (.getfield 21, 3) := by decide +kernel
theorem dX4_perform_275 : decode cX4_perform 275 = .ok (.getfield 128, 3) := by decide +kernel
theorem dX4_perform_278 : decode cX4_perform 278 = .ok (.iload_n 2, 1) := by decide +kernel
theorem dX4_perform_279 : decode cX4_perform 279 = .ok (.iaload, 1) := by decide +kernel
theorem dX4_perform_280 : decode cX4_perform 280 = .ok (.ireturn, 1) := by decide +kernel
theorem dX4_tell_0 : decode cX4_tell 0 = .ok (.aload_n 0, 1) := by decide +kernel
theorem dX4_tell_1 : decode cX4_tell 1 = .ok (.getfield 21, 3) := by decide +kernel
theorem dX4_tell_4 : decode cX4_tell 4 = .ok (.getfield 95, 3) := by decide +kernel
theorem dX4_tell_7 : decode cX4_tell 7 = .ok (.iload_n 1, 1) := by decide +kernel
theorem dX4_tell_8 : decode cX4_tell 8 = .ok (.iaload, 1) := by decide +kernel
theorem dX4_tell_9 : decode cX4_tell 9 = .ok (.istore 4, 2) := by decide +kernel
theorem dX4_tell_11 : decode cX4_tell 11 = .ok (.iconst 0, 1) := by decide +kernel
theorem dX4_tell_12 : decode cX4_tell 12 = .ok (.istore 5, 2) := by decide +kernel
theorem dX4_tell_14 : decode cX4_tell 14 = .ok (.iconst 0, 1) := by decide +kernel
theorem dX4_tell_15 : decode cX4_tell 15 = .ok (.istore 6, 2) := by decide +kernel
theorem dX4_tell_17 : decode cX4_tell 17 = .ok (.iload 6, 2) := by decide +kernel
theorem dX4_tell_19 : decode cX4_tell 19 = .ok (.aload_n 0, 1) := by decide +kernel
theorem dX4_tell_20 : decode cX4_tell 20 = .ok (.getfield 21, 3) := by decide +kernel
theorem dX4_tell_23 : decode cX4_tell 23 = .ok (.getfield 136, 3) := by decide +kernel
theorem dX4_tell_26 : decode cX4_tell 26 = .ok (.if_icmp .ge 82, 3) := by decide +kernel
theorem dX4_tell_29 : decode cX4_tell 29 = .ok (.aload_n 0, 1) := by decide +kernel
theorem dX4_tell_30 : decode cX4_tell 30 = .ok (.getfield 21, 3) := by decide +kernel
theorem dX4_tell_33 : decode cX4_tell 33 = .ok (.getfield 95, 3) := by decide +kernel
theorem dX4_tell_36 : decode cX4_tell 36 = .ok (.iload 6, 2) := by decide +kernel
theorem dX4_tell_38 : decode cX4_tell 38 = .ok (.iaload, 1) := by decide +kernel
theorem dX4_tell_39 : decode cX4_tell 39 = .ok (.istore 7, 2) := by decide +kernel
theorem dX4_tell_41 : decode cX4_tell 41 = .ok (.iload 7, 2) := by decide +kernel
theorem dX4_tell_43 : decode cX4_tell 43 = .ok (.iload 4, 2) := by decide +kernel
theorem dX4_tell_45 : decode cX4_tell 45 = .ok (.if_icmp .eq 21, 3) := by decide +kernel
theorem dX4_tell_48 : decode cX4_tell 48 = .ok (.iload_n 3, 1) := by decide +kernel
theorem dX4_tell_49 : decode cX4_tell 49 = .ok (.ifCond .eq 21, 3) := by decide +kernel
theorem dX4_tell_52 : decode cX4_tell 52 = .ok (.aload_n 0, 1) := by decide +kernel
theorem dX4_tell_53 : decode cX4_tell 53 = .ok (.getfield 12, 3) := by decide +kernel
theorem dX4_tell_56 : decode cX4_tell 56 = .ok (.iload 4, 2) := by decide +kernel
theorem dX4_tell_58 : decode cX4_tell 58 = .ok (.iload 7, 2) := by decide +kernel
theorem dX4_tell_60 : decode cX4_tell 60 = .ok (.invokevirtual 139, 3) := by decide +kernel
theorem dX4_tell_63 : decode cX4_tell 63 = .ok (.ifCond .eq 7, 3) := by decide +kernel
theorem dX4_tell_66 : decode cX4_tell 66 = .ok (.iconst 1, 1) := by decide +kernel
theorem dX4_tell_67 : decode cX4_tell 67 = .ok (.goto 4, 3) := by decide +kernel
theorem dX4_tell_70 : decode cX4_tell 70 = .ok (.iconst 0, 1) := by decide +kernel
theorem dX4_tell_71 : decode cX4_tell 71 = .ok (.istore 8, 2) := by decide +kernel
theorem dX4_tell_73 : decode cX4_tell 73 = .ok (.iload 6, 2) := by decide +kernel
theorem dX4_tell_75 : decode cX4_tell 75 = .ok (.iload_n 1, 1) := by decide +kernel
theorem dX4_tell_76 : decode cX4_tell 76 = .ok (.if_icmp .eq 26, 3) := by decide +kernel
theorem dX4_tell_79 : decode cX4_tell 79 = .ok (.iload 8, 2) := by decide +kernel
theorem dX4_tell_81 : decode cX4_tell 81 = .ok (.ifCond .eq 21, 3) := by decide +kernel
theorem dX4_tell_84 : decode cX4_tell 84 = .ok (.aload_n 0, 1) := by decide +kernel
theorem dX4_tell_85 : decode cX4_tell 85 = .ok (.getfield 21, 3) := by decide +kernel
theorem dX4_tell_88 : decode cX4_tell 88 = .ok (.iload 6, 2) := by decide +kernel
theorem dX4_tell_90 : decode cX4_tell 90 = .ok (.bipush 100, 2) := by decide +kernel
theorem dX4_tell_92 : decode cX4_tell 92 = .ok (.iload_n 1, 1) := by decide +kernel
theorem dX4_tell_93 : decode cX4_tell 93 = .ok (.imul, 1) := by decide +kernel
theorem dX4_tell_94 : decode cX4_tell 94 = .ok (.iload_n 2, 1) := by decide +kernel
theorem dX4_tell_95 : decode cX4_tell 95 = .ok (.iadd, 1) := by decide +kernel
theorem dX4_tell_96 : decode cX4_tell 96 = .ok (.invokevirtual 143, 3) := by decide +kernel
theorem dX4_tell_99 : decode cX4_tell 99 = .ok (.iinc 5 1, 3) := by decide +kernel
theorem dX4_tell_102 : decode cX4_tell 102 = .ok (.iinc 6 1, 3) := by decide +kernel
theorem dX4_tell_105 : decode cX4_tell 105 = .ok (.goto (-88), 3) := by decide +kernel
theorem dX4_tell_108 : decode cX4_tell 108 = .ok (.iload 5, 2) := by decide +kernel
theorem dX4_tell_110 : decode cX4_tell 110 = .ok (.ireturn, 1) := by decide +kernel
theorem dX4_trade_0 : decode cX4_trade 0 = .ok (.aload_n 0, 1) := by decide +kernel
theorem dX4_trade_1 : decode cX4_trade 1 = .ok (.getfield 21, 3) := by decide +kernel
theorem dX4_trade_4 : decode cX4_trade 4 = .ok (.getfield 95, 3) := by decide +kernel
theorem dX4_trade_7 : decode cX4_trade 7 = .ok (.iload_n 1, 1) := by decide +kernel
theorem dX4_trade_8 : decode cX4_trade 8 = .ok (.iaload, 1) := by decide +kernel
theorem dX4_trade_9 : decode cX4_trade 9 = .ok (.istore 5, 2) := by decide +kernel
theorem dX4_trade_11 : decode cX4_trade 11 = .ok (.aload_n 0, 1) := by decide +kernel
theorem dX4_trade_12 : decode cX4_trade 12 = .ok (.getfield 21, 3) := by decide +kernel
theorem dX4_trade_15 : decode cX4_trade 15 = .ok (.iload_n 1, 1) := by decide +kernel
theorem dX4_trade_16 : decode cX4_trade 16 = .ok (.iload_n 2, 1) := by decide +kernel
theorem dX4_trade_17 : decode cX4_trade 17 = .ok (.iload_n 3, 1) := by decide +kernel
theorem dX4_trade_18 : decode cX4_trade 18 = .ok (.invokevirtual 106, 3) := by decide +kernel
theorem dX4_trade_21 : decode cX4_trade 21 = .ok (.pop, 1) := by decide +kernel
theorem dX4_trade_22 : decode cX4_trade 22 = .ok (.aload_n 0, 1) := by decide +kernel
theorem dX4_trade_23 : decode cX4_trade 23 = .ok (.getfield 12, 3) := by decide +kernel
theorem dX4_trade_26 : decode cX4_trade 26 = .ok (.getfield 147, 3) := by decide +kernel
theorem dX4_trade_29 : decode cX4_trade 29 = .ok (.iload 5, 2) := by decide +kernel
theorem dX4_trade_31 : decode cX4_trade 31 = .ok (.iload_n 2, 1) := by decide +kernel
theorem dX4_trade_32 : decode cX4_trade 32 = .ok (.invokestatic 115, 3) := by decide +kernel
theorem dX4_trade_35 : decode cX4_trade 35 = .ok (.dup2, 1) := by decide +kernel
theorem dX4_trade_36 : decode cX4_trade 36 = .ok (.iaload, 1) := by decide +kernel
theorem dX4_trade_37 : decode cX4_trade 37 = .ok (.iload_n 3, 1) := by decide +kernel
theorem dX4_trade_38 : decode cX4_trade 38 = .ok (.isub, 1) := by decide +kernel
theorem dX4_trade_39 : decode cX4_trade 39 = .ok (.iastore, 1) := by decide +kernel
theorem dX4_trade_40 : decode cX4_trade 40 = .ok (.aload_n 0, 1) := by decide +kernel
theorem dX4_trade_41 : decode cX4_trade 41 = .ok (.getfield 21, 3) := by decide +kernel
theorem dX4_trade_44 : decode cX4_trade 44 = .ok (.getfield 71, 3) := by decide +kernel
theorem dX4_trade_47 : decode cX4_trade 47 = .ok (.iload_n 1, 1) := by decide +kernel
theorem dX4_trade_48 : decode cX4_trade 48 = .ok (.dup2, 1) := by decide +kernel
theorem dX4_trade_49 : decode cX4_trade 49 = .ok (.iaload, 1) := by decide +kernel
theorem dX4_trade_50 : decode cX4_trade 50 = .ok (.iload 4, 2) := by decide +kernel
theorem dX4_trade_52 : decode cX4_trade 52 = .ok (.isub, 1) := by decide +kernel
theorem dX4_trade_53 : decode cX4_trade 53 = .ok (.iastore, 1) := by decide +kernel
theorem dX4_trade_54 : decode cX4_trade 54 = .ok (.aload_n 0, 1) := by decide +kernel
theorem dX4_trade_55 : decode cX4_trade 55 = .ok (.getfield 12, 3) := by decide +kernel
theorem dX4_trade_58 : decode cX4_trade 58 = .ok (.getfield 77, 3) := by decide +kernel
theorem dX4_trade_61 : decode cX4_trade 61 = .ok (.iload 5, 2) := by decide +kernel
theorem dX4_trade_63 : decode cX4_trade 63 = .ok (.dup2, 1) := by decide +kernel
theorem dX4_trade_64 : decode cX4_trade 64 = .ok (.iaload, 1) := by decide +kernel
theorem dX4_trade_65 : decode cX4_trade 65 = .ok (.iload 4, 2) := by decide +kernel
theorem dX4_trade_67 : decode cX4_trade 67 = .ok (.iadd, 1) := by decide +kernel
theorem dX4_trade_68 : decode cX4_trade 68 = .ok (.iastore, 1) := by decide +kernel
theorem dX4_trade_69 : decode cX4_trade 69 = .ok (.return_, 1) := by decide +kernel
theorem dX4_roll_0 : decode cX4_roll 0 = .ok (.aload_n 0, 1) := by decide +kernel
theorem dX4_roll_1 : decode cX4_roll 1 = .ok (.sipush 25173, 3) := by decide +kernel
theorem dX4_roll_4 : decode cX4_roll 4 = .ok (.aload_n 0, 1) := by decide +kernel
theorem dX4_roll_5 : decode cX4_roll 5 = .ok (.getfield 36, 3) := by decide +kernel
theorem dX4_roll_8 : decode cX4_roll 8 = .ok (.imul, 1) := by decide +kernel
theorem dX4_roll_9 : decode cX4_roll 9 = .ok (.sipush 13849, 3) := by decide +kernel
theorem dX4_roll_12 : decode cX4_roll 12 = .ok (.iadd, 1) := by decide +kernel
theorem dX4_roll_13 : decode cX4_roll 13 = .ok (.ldc 150, 2) := by decide +kernel
theorem dX4_roll_15 : decode cX4_roll 15 = .ok (.irem, 1) := by decide +kernel
theorem dX4_roll_16 : decode cX4_roll 16 = .ok (.putfield 36, 3) := by decide +kernel
theorem dX4_roll_19 : decode cX4_roll 19 = .ok (.aload_n 0, 1) := by decide +kernel
theorem dX4_roll_20 : decode cX4_roll 20 = .ok (.getfield 36, 3) := by decide +kernel
theorem dX4_roll_23 : decode cX4_roll 23 = .ok (.bipush 6, 2) := by decide +kernel
theorem dX4_roll_25 : decode cX4_roll 25 = .ok (.irem, 1) := by decide +kernel
theorem dX4_roll_26 : decode cX4_roll 26 = .ok (.iconst 1, 1) := by decide +kernel
theorem dX4_roll_27 : decode cX4_roll 27 = .ok (.iadd, 1) := by decide +kernel
theorem dX4_roll_28 : decode cX4_roll 28 = .ok (.ireturn, 1) := by decide +kernel
theorem dX4_fight_0 : decode cX4_fight 0 = .ok (.iconst 0, 1) := by decide +kernel
theorem dX4_fight_1 : decode cX4_fight 1 = .ok (.istore_n 3, 1) := by decide +kernel
theorem dX4_fight_2 : decode cX4_fight 2 = .ok (.iload_n 3, 1) := by decide +kernel
theorem dX4_fight_3 : decode cX4_fight 3 = .ok (.iconst 3, 1) := by decide +kernel
theorem dX4_fight_4 : decode cX4_fight 4 = .ok (.if_icmp .ge 92, 3) := by decide +kernel
theorem dX4_fight_7 : decode cX4_fight 7 = .ok (.aload_n 0, 1) := by decide +kernel
theorem dX4_fight_8 : decode cX4_fight 8 = .ok (.invokevirtual 151, 3) := by decide +kernel
theorem dX4_fight_11 : decode cX4_fight 11 = .ok (.aload_n 0, 1) := by decide +kernel
theorem dX4_fight_12 : decode cX4_fight 12 = .ok (.getfield 21, 3) := by decide +kernel
theorem dX4_fight_15 : decode cX4_fight 15 = .ok (.getfield 154, 3) := by decide +kernel
theorem dX4_fight_18 : decode cX4_fight 18 = .ok (.iload_n 1, 1) := by decide +kernel
theorem dX4_fight_19 : decode cX4_fight 19 = .ok (.iaload, 1) := by decide +kernel
theorem dX4_fight_20 : decode cX4_fight 20 = .ok (.iadd, 1) := by decide +kernel
theorem dX4_fight_21 : decode cX4_fight 21 = .ok (.istore 4, 2) := by decide +kernel
theorem dX4_fight_23 : decode cX4_fight 23 = .ok (.aload_n 0, 1) := by decide +kernel
theorem dX4_fight_24 : decode cX4_fight 24 = .ok (.invokevirtual 151, 3) := by decide +kernel
theorem dX4_fight_27 : decode cX4_fight 27 = .ok (.aload_n 0, 1) := by decide +kernel
theorem dX4_fight_28 : decode cX4_fight 28 = .ok (.getfield 21, 3) := by decide +kernel
theorem dX4_fight_31 : decode cX4_fight 31 = .ok (.getfield 154, 3) := by decide +kernel
theorem dX4_fight_34 : decode cX4_fight 34 = .ok (.iload_n 2, 1) := by decide +kernel
theorem dX4_fight_35 : decode cX4_fight 35 = .ok (.iaload, 1) := by decide +kernel
theorem dX4_fight_36 : decode cX4_fight 36 = .ok (.iadd, 1) := by decide +kernel
theorem dX4_fight_37 : decode cX4_fight 37 = .ok (.istore 5, 2) := by decide +kernel
theorem dX4_fight_39 : decode cX4_fight 39 = .ok (.iload 4, 2) := by decide +kernel
theorem dX4_fight_41 : decode cX4_fight 41 = .ok (.iload 5, 2) := by decide +kernel
theorem dX4_fight_43 : decode cX4_fight 43 = .ok (.if_icmp .ge 7, 3) := by decide +kernel
theorem dX4_fight_46 : decode cX4_fight 46 = .ok (.iload_n 1, 1) := by decide +kernel
theorem dX4_fight_47 : decode cX4_fight 47 = .ok (.goto 4, 3) := by decide +kernel
theorem dX4_fight_50 : decode cX4_fight 50 = .ok (.iload_n 2, 1) := by decide +kernel
theorem dX4_fight_51 : decode cX4_fight 51 = .ok (.istore 6, 2) := by decide +kernel
theorem dX4_fight_53 : decode cX4_fight 53 = .ok (.aload_n 0, 1) := by decide +kernel
theorem dX4_fight_54 : decode cX4_fight 54 = .ok (.getfield 21, 3) := by decide +kernel
theorem dX4_fight_57 : decode cX4_fight 57 = .ok (.getfield 128, 3) := by decide +kernel
theorem dX4_fight_60 : decode cX4_fight 60 = .ok (.iload 6, 2) := by decide +kernel
theorem dX4_fight_62 : decode cX4_fight 62 = .ok (.dup2, 1) := by decide +kernel
theorem dX4_fight_63 : decode cX4_fight 63 = .ok (.iaload, 1) := by decide +kernel
theorem dX4_fight_64 : decode cX4_fight 64 = .ok (.iload 4, 2) := by decide +kernel
theorem dX4_fight_66 : decode cX4_fight 66 = .ok (.iload 5, 2) := by decide +kernel
theorem dX4_fight_68 : decode cX4_fight 68 = .ok (.isub, 1) := by decide +kernel
theorem dX4_fight_69 : decode cX4_fight 69 = .ok (.invokestatic 157, 3) := by decide +kernel
theorem dX4_fight_72 : decode cX4_fight 72 = .ok (.isub, 1) := by decide +kernel
theorem dX4_fight_73 : decode cX4_fight 73 = .ok (.iastore, 1) := by decide +kernel
theorem dX4_fight_74 : decode cX4_fight 74 = .ok (.aload_n 0, 1) := by decide +kernel
theorem dX4_fight_75 : decode cX4_fight 75 = .ok (.getfield 21, 3) := by decide +kernel
theorem dX4_fight_78 : decode cX4_fight 78 = .ok (.getfield 128, 3) := by decide +kernel
theorem dX4_fight_81 : decode cX4_fight 81 = .ok (.iload 6, 2) := by decide +kernel
theorem dX4_fight_83 : decode cX4_fight 83 = .ok (.iaload, 1) := by decide +kernel
theorem dX4_fight_84 : decode cX4_fight 84 = .ok (.ifCond .gt 6, 3) := by decide +kernel
theorem dX4_fight_87 : decode cX4_fight 87 = .ok (.iload 6, 2) := by decide +kernel
theorem dX4_fight_89 : decode cX4_fight 89 = .ok (.ireturn, 1) := by decide +kernel
theorem dX4_fight_90 : decode cX4_fight 90 = .ok (.iinc 3 1, 3) := by decide +kernel
theorem dX4_fight_93 : decode cX4_fight 93 = .ok (.goto (-91), 3) := by decide +kernel
theorem dX4_fight_96 : decode cX4_fight 96 = .ok (.iconst (-1), 1) := by decide +kernel
theorem dX4_fight_97 : decode cX4_fight 97 = .ok (.ireturn, 1) := by decide +kernel
theorem dX4_defeat_0 : decode cX4_defeat 0 = .ok (.aload_n 0, 1) := by decide +kernel
theorem dX4_defeat_1 : decode cX4_defeat 1 = .ok (.getfield 21, 3) := by decide +kernel
theorem dX4_defeat_4 : decode cX4_defeat 4 = .ok (.iload_n 1, 1) := by decide +kernel
theorem dX4_defeat_5 : decode cX4_defeat 5 = .ok (.iload_n 2, 1) := by decide +kernel
theorem dX4_defeat_6 : decode cX4_defeat 6 = .ok (.aload_n 0, 1) := by decide +kernel
theorem dX4_defeat_7 : decode cX4_defeat 7 = .ok (.getfield 21, 3) := by decide +kernel
theorem dX4_defeat_10 : decode cX4_defeat 10 = .ok (.getfield 71, 3) := by decide +kernel
theorem dX4_defeat_13 : decode cX4_defeat 13 = .ok (.iload_n 1, 1) := by decide +kernel
theorem dX4_defeat_14 : decode cX4_defeat 14 = .ok (.iaload, 1) := by decide +kernel
theorem dX4_defeat_15 : decode cX4_defeat 15 = .ok (.iconst 2, 1) := by decide +kernel
theorem dX4_defeat_16 : decode cX4_defeat 16 = .ok (.idiv, 1) := by decide +kernel
theorem dX4_defeat_17 : decode cX4_defeat 17 = .ok (.invokevirtual 109, 3) := by decide +kernel
theorem dX4_defeat_20 : decode cX4_defeat 20 = .ok (.iconst 0, 1) := by decide +kernel
theorem dX4_defeat_21 : decode cX4_defeat 21 = .ok (.istore 4, 2) := by decide +kernel
theorem dX4_defeat_23 : decode cX4_defeat 23 = .ok (.iload 4, 2) := by decide +kernel
theorem dX4_defeat_25 : decode cX4_defeat 25 = .ok (.iconst 5, 1) := by decide +kernel
theorem dX4_defeat_26 : decode cX4_defeat 26 = .ok (.if_icmp .ge 60, 3) := by decide +kernel
theorem dX4_defeat_29 : decode cX4_defeat 29 = .ok (.aload_n 0, 1) := by decide +kernel
theorem dX4_defeat_30 : decode cX4_defeat 30 = .ok (.getfield 21, 3) := by decide +kernel
theorem dX4_defeat_33 : decode cX4_defeat 33 = .ok (.getfield 160, 3) := by decide +kernel
theorem dX4_defeat_36 : decode cX4_defeat 36 = .ok (.iload_n 1, 1) := by decide +kernel
theorem dX4_defeat_37 : decode cX4_defeat 37 = .ok (.iload 4, 2) := by decide +kernel
theorem dX4_defeat_39 : decode cX4_defeat 39 = .ok (.invokestatic 115, 3) := by decide +kernel
theorem dX4_defeat_42 : decode cX4_defeat 42 = .ok (.iaload, 1) := by decide +kernel
theorem dX4_defeat_43 : decode cX4_defeat 43 = .ok (.istore 5, 2) := by decide +kernel
theorem dX4_defeat_45 : decode cX4_defeat 45 = .ok (.aload_n 0, 1) := by decide +kernel
theorem dX4_defeat_46 : decode cX4_defeat 46 = .ok (.getfield 21, 3) := by decide +kernel
theorem dX4_defeat_49 : decode cX4_defeat 49 = .ok (.iload_n 1, 1) := by decide +kernel
theorem dX4_defeat_50 : decode cX4_defeat 50 = .ok (.iload 4, 2) := by decide +kernel
theorem dX4_defeat_52 : decode cX4_defeat 52 = .ok (.iload 5, 2) := by decide +kernel
theorem dX4_defeat_54 : decode cX4_defeat 54 = .ok (.ineg, 1) := by decide +kernel
theorem dX4_defeat_55 : decode cX4_defeat 55 = .ok (.invokevirtual 106, 3) := by decide +kernel
theorem dX4_defeat_58 : decode cX4_defeat 58 = .ok (.pop, 1) := by decide +kernel
theorem dX4_defeat_59 : decode cX4_defeat 59 = .ok (.aload_n 0, 1) := by decide +kernel
theorem dX4_defeat_60 : decode cX4_defeat 60 = .ok (.getfield 12, 3) := by decide +kernel
theorem dX4_defeat_63 : decode cX4_defeat 63 = .ok (.aload_n 0, 1) := by decide +kernel
theorem dX4_defeat_64 : decode cX4_defeat 64 = .ok (.getfield 21, 3) := by decide +kernel
theorem dX4_defeat_67 : decode cX4_defeat 67 = .ok (.getfield 95, 3) := by decide +kernel
theorem dX4_defeat_70 : decode cX4_defeat 70 = .ok (.iload_n 1, 1) := by decide +kernel
theorem dX4_defeat_71 : decode cX4_defeat 71 = .ok (.iaload, 1) := by decide +kernel
theorem dX4_defeat_72 : decode cX4_defeat 72 = .ok (.iload 4, 2) := by decide +kernel
theorem dX4_defeat_74 : decode cX4_defeat 74 = .ok (.iload 5, 2) := by decide +kernel
theorem dX4_defeat_76 : decode cX4_defeat 76 = .ok (.invokevirtual 83, 3) := by decide +kernel
theorem dX4_defeat_79 : decode cX4_defeat 79 = .ok (.pop, 1) := by decide +kernel
theorem dX4_defeat_80 : decode cX4_defeat 80 = .ok (.iinc 4 1, 3) := by decide +kernel
theorem dX4_defeat_83 : decode cX4_defeat 83 = .ok (.goto (-60), 3) := by decide +kernel
theorem dX4_defeat_86 : decode cX4_defeat 86 = .ok (.aload_n 0, 1) := by decide +kernel
theorem dX4_defeat_87 : decode cX4_defeat 87 = .ok (.getfield 21, 3) := by decide +kernel
theorem dX4_defeat_90 : decode cX4_defeat 90 = .ok (.getfield 95, 3) := by decide +kernel
theorem dX4_defeat_93 : decode cX4_defeat 93 = .ok (.iload_n 1, 1) := by decide +kernel
theorem dX4_defeat_94 : decode cX4_defeat 94 = .ok (.iconst 0, 1) := by decide +kernel
theorem dX4_defeat_95 : decode cX4_defeat 95 = .ok (.iastore, 1) := by decide +kernel
theorem dX4_defeat_96 : decode cX4_defeat 96 = .ok (.aload_n 0, 1) := by decide +kernel
theorem dX4_defeat_97 : decode cX4_defeat 97 = .ok (.getfield 21, 3) := by decide +kernel
theorem dX4_defeat_100 : decode cX4_defeat 100 = .ok (.getfield 128, 3) := by decide +kernel
theorem dX4_defeat_103 : decode cX4_defeat 103 = .ok (.iload_n 1, 1) := by decide +kernel
theorem dX4_defeat_104 : decode cX4_defeat 104 = .ok (.bipush 10, 2) := by decide +kernel
theorem dX4_defeat_106 : decode cX4_defeat 106 = .ok (.iastore, 1) := by decide +kernel
theorem dX4_defeat_107 : decode cX4_defeat 107 = .ok (.aload_n 0, 1) := by decide +kernel
theorem dX4_defeat_108 : decode cX4_defeat 108 = .ok (.getfield 21, 3) := by decide +kernel
theorem dX4_defeat_111 : decode cX4_defeat 111 = .ok (.getfield 52, 3) := by decide +kernel
theorem dX4_defeat_114 : decode cX4_defeat 114 = .ok (.iload_n 1, 1) := by decide +kernel
theorem dX4_defeat_115 : decode cX4_defeat 115 = .ok (.aload_n 0, 1) := by decide +kernel
theorem dX4_defeat_116 : decode cX4_defeat 116 = .ok (.getfield 21, 3) := by decide +kernel
theorem dX4_defeat_119 : decode cX4_defeat 119 = .ok (.getfield 52, 3) := by decide +kernel
theorem dX4_defeat_122 : decode cX4_defeat 122 = .ok (.iload_n 1, 1) := by decide +kernel
theorem dX4_defeat_123 : decode cX4_defeat 123 = .ok (.iaload, 1) := by decide +kernel
theorem dX4_defeat_124 : decode cX4_defeat 124 = .ok (.iload_n 3, 1) := by decide +kernel
theorem dX4_defeat_125 : decode cX4_defeat 125 = .ok (.bipush 10, 2) := by decide +kernel
theorem dX4_defeat_127 : decode cX4_defeat 127 = .ok (.iadd, 1) := by decide +kernel
theorem dX4_defeat_128 : decode cX4_defeat 128 = .ok (.invokestatic 163, 3) := by decide +kernel
theorem dX4_defeat_131 : decode cX4_defeat 131 = .ok (.iastore, 1) := by decide +kernel
theorem dX4_defeat_132 : decode cX4_defeat 132 = .ok (.return_, 1) := by decide +kernel
theorem dX4_pursueQuests_0 : decode cX4_pursueQuests 0 = .ok (.iconst 0, 1) := by decide +kernel
theorem dX4_pursueQuests_1 : decode cX4_pursueQuests 1 = .ok (.istore 4, 2) := by decide +kernel
theorem dX4_pursueQuests_3 : decode cX4_pursueQuests 3 = .ok (.iload 4, 2) := by decide +kernel
theorem dX4_pursueQuests_5 : decode cX4_pursueQuests 5 = .ok (.aload_n 0, 1) := by decide +kernel
theorem dX4_pursueQuests_6 : decode cX4_pursueQuests 6 = .ok (.getfield 28, 3) := by decide +kernel
theorem dX4_pursueQuests_9 : decode cX4_pursueQuests 9 = .ok (.getfield 166, 3) := by decide +kernel
theorem dX4_pursueQuests_12 : decode cX4_pursueQuests 12 = .ok (.if_icmp .ge 113, 3) := by decide +kernel
theorem dX4_pursueQuests_15 : decode cX4_pursueQuests 15 = .ok (.iload_n 1, 1) := by decide +kernel
theorem dX4_pursueQuests_16 : decode cX4_pursueQuests 16 = .ok (.iload 4, 2) := by decide +kernel
theorem dX4_pursueQuests_18 : decode cX4_pursueQuests 18 = .ok (.invokestatic 167, 3) := by decide +kernel
theorem dX4_pursueQuests_21 : decode cX4_pursueQuests 21 = .ok (.istore 5, 2) := by decide +kernel
theorem dX4_pursueQuests_23 : decode cX4_pursueQuests 23 = .ok (.aload_n 0, 1) := by decide +kernel
theorem dX4_pursueQuests_24 : decode cX4_pursueQuests 24 = .ok (.getfield 21, 3) := by decide +kernel
theorem dX4_pursueQuests_27 : decode cX4_pursueQuests 27 = .ok (.getfield 170, 3) := by decide +kernel
theorem dX4_pursueQuests_30 : decode cX4_pursueQuests 30 = .ok (.iload 5, 2) := by decide +kernel
theorem dX4_pursueQuests_32 : decode cX4_pursueQuests 32 = .ok (.iaload, 1) := by decide +kernel
theorem dX4_pursueQuests_33 : decode cX4_pursueQuests 33 = .ok (.istore 6, 2) := by decide +kernel
theorem dX4_pursueQuests_35 : decode cX4_pursueQuests 35 = .ok (.iload 6, 2) := by decide +kernel
theorem dX4_pursueQuests_37 : decode cX4_pursueQuests 37 = .ok (.aload_n 0, 1) := by decide +kernel
theorem dX4_pursueQuests_38 : decode cX4_pursueQuests 38 = .ok (.getfield 28, 3) := by decide +kernel
theorem dX4_pursueQuests_41 : decode cX4_pursueQuests 41 = .ok (.getfield 173, 3) := by decide +kernel
theorem dX4_pursueQuests_44 : decode cX4_pursueQuests 44 = .ok (.iload 4, 2) := by decide +kernel
theorem dX4_pursueQuests_46 : decode cX4_pursueQuests 46 = .ok (.iaload, 1) := by decide +kernel
theorem dX4_pursueQuests_47 : decode cX4_pursueQuests 47 = .ok (.if_icmp .ge 72, 3) := by decide +kernel
theorem dX4_pursueQuests_50 : decode cX4_pursueQuests 50 = .ok (.aload_n 0, 1) := by decide +kernel
theorem dX4_pursueQuests_51 : decode cX4_pursueQuests 51 = .ok (.iload 4, 2) := by decide +kernel
theorem dX4_pursueQuests_53 : decode cX4_pursueQuests 53 = .ok (.iload 6, 2) := by decide +kernel
theorem dX4_pursueQuests_55 : decode cX4_pursueQuests 55 = .ok (.invokestatic 176, 3) := by decide +kernel
theorem dX4_pursueQuests_58 : decode cX4_pursueQuests 58 = .ok (.iload_n 1, 1) := by decide +kernel
theorem dX4_pursueQuests_59 : decode cX4_pursueQuests 59 = .ok (.iload_n 2, 1) := by decide +kernel
theorem dX4_pursueQuests_60 : decode cX4_pursueQuests 60 = .ok (.iload_n 3, 1) := by decide +kernel
theorem dX4_pursueQuests_61 : decode cX4_pursueQuests 61 = .ok (.invokevirtual 179, 3) := by decide +kernel
theorem dX4_pursueQuests_64 : decode cX4_pursueQuests 64 = .ok (.ifCond .eq 55, 3) := by decide +kernel
theorem dX4_pursueQuests_67 : decode cX4_pursueQuests 67 = .ok (.aload_n 0, 1) := by decide +kernel
theorem dX4_pursueQuests_68 : decode cX4_pursueQuests 68 = .ok (.getfield 21, 3) := by decide +kernel
theorem dX4_pursueQuests_71 : decode cX4_pursueQuests 71 = .ok (.getfield 170, 3) := by decide +kernel
theorem dX4_pursueQuests_74 : decode cX4_pursueQuests 74 = .ok (.iload 5, 2) := by decide +kernel
theorem dX4_pursueQuests_76 : decode cX4_pursueQuests 76 = .ok (.dup2, 1) := by decide +kernel
theorem dX4_pursueQuests_77 : decode cX4_pursueQuests 77 = .ok (.iaload, 1) := by decide +kernel
theorem dX4_pursueQuests_78 : decode cX4_pursueQuests 78 = .ok (.iconst 1, 1) := by decide +kernel
theorem dX4_pursueQuests_79 : decode cX4_pursueQuests 79 = .ok (.iadd, 1) := by decide +kernel
theorem dX4_pursueQuests_80 : decode cX4_pursueQuests 80 = .ok (.iastore, 1) := by decide +kernel
theorem dX4_pursueQuests_81 : decode cX4_pursueQuests 81 = .ok (.aload_n 0, 1) := by decide +kernel
theorem dX4_pursueQuests_82 : decode cX4_pursueQuests 82 = .ok (.getfield 21, 3) := by decide +kernel
theorem dX4_pursueQuests_85 : decode cX4_pursueQuests 85 = .ok (.getfield 170, 3) := by decide +kernel
theorem dX4_pursueQuests_88 : decode cX4_pursueQuests 88 = .ok (.iload 5, 2) := by decide +kernel
theorem dX4_pursueQuests_90 : decode cX4_pursueQuests 90 = .ok (.iaload, 1) := by decide +kernel
theorem dX4_pursueQuests_91 : decode cX4_pursueQuests 91 = .ok (.aload_n 0, 1) := by decide +kernel
theorem dX4_pursueQuests_92 : decode cX4_pursueQuests 92 = .ok (.getfield 28, 3) := by decide +kernel
theorem dX4_pursueQuests_95 : decode cX4_pursueQuests 95 = .ok (.getfield 173, 3) := by decide +kernel
theorem dX4_pursueQuests_98 : decode cX4_pursueQuests 98 = .ok (.iload 4, 2) := by decide +kernel
theorem dX4_pursueQuests_100 : decode cX4_pursueQuests 100 = .ok (.iaload, 1) := by decide +kernel
theorem dX4_pursueQuests_101 : decode cX4_pursueQuests 101 = .ok (.if_icmp .ne 18, 3) := by decide +kernel
theorem dX4_pursueQuests_104 : decode cX4_pursueQuests 104 = .ok (.aload_n 0, 1) := by decide +kernel
theorem dX4_pursueQuests_105 : decode cX4_pursueQuests 105 = .ok (.iload_n 1, 1) := by decide +kernel
theorem dX4_pursueQuests_106 : decode cX4_pursueQuests 106 = .ok (.aload_n 0, 1) := by decide +kernel
theorem dX4_pursueQuests_107 : decode cX4_pursueQuests 107 = .ok (.getfield 28, 3) := by decide +kernel
theorem dX4_pursueQuests_110 : decode cX4_pursueQuests 110 = .ok (.getfield 183, 3) := by decide +kernel
theorem dX4_pursueQuests_113 : decode cX4_pursueQuests 113 = .ok (.iload 4, 2) := by decide +kernel
theorem dX4_pursueQuests_115 : decode cX4_pursueQuests 115 = .ok (.iaload, 1) := by decide +kernel
theorem dX4_pursueQuests_116 : decode cX4_pursueQuests 116 = .ok (.invokevirtual 186, 3) := by decide +kernel
theorem dX4_pursueQuests_119 : decode cX4_pursueQuests 119 = .ok (.iinc 4 1, 3) := by decide +kernel
theorem dX4_pursueQuests_122 : decode cX4_pursueQuests 122 = .ok (.goto (-119), 3) := by decide +kernel
theorem dX4_pursueQuests_125 : decode cX4_pursueQuests 125 = .ok (.return_, 1) := by decide +kernel
theorem dX4_isFulfilled_0 : decode cX4_isFulfilled 0 = .ok (.aload_n 0, 1) := by decide +kernel
theorem dX4_isFulfilled_1 : decode cX4_isFulfilled 1 = .ok (.getfield 28, 3) := by decide +kernel
theorem dX4_isFulfilled_4 : decode cX4_isFulfilled 4 = .ok (.getfield 189, 3) := by decide +kernel
theorem dX4_isFulfilled_7 : decode cX4_isFulfilled 7 = .ok (.iload_n 1, 1) := by decide +kernel
theorem dX4_isFulfilled_8 : decode cX4_isFulfilled 8 = .ok (.iaload, 1) := by decide +kernel
theorem dX4_isFulfilled_9 : decode cX4_isFulfilled 9 = .ok (.istore 5, 2) := by decide +kernel
theorem dX4_isFulfilled_11 : decode cX4_isFulfilled 11 = .ok (.aload_n 0, 1) := by decide +kernel
theorem dX4_isFulfilled_12 : decode cX4_isFulfilled 12 = .ok (.getfield 28, 3) := by decide +kernel
theorem dX4_isFulfilled_15 : decode cX4_isFulfilled 15 = .ok (.getfield 192, 3) := by decide +kernel
theorem dX4_isFulfilled_18 : decode cX4_isFulfilled 18 = .ok (.iload_n 1, 1) := by decide +kernel
theorem dX4_isFulfilled_19 : decode cX4_isFulfilled 19 = .ok (.iaload, 1) := by decide +kernel
theorem dX4_isFulfilled_20 : decode cX4_isFulfilled 20 = .ok (.istore 6, 2) := by decide +kernel
theorem dX4_isFulfilled_22 : decode cX4_isFulfilled 22 = .ok (.aload_n 0, 1) := by decide +kernel
theorem dX4_isFulfilled_23 : decode cX4_isFulfilled 23 = .ok (.getfield 28, 3) := by decide +kernel
theorem dX4_isFulfilled_26 : decode cX4_isFulfilled 26 = .ok (.getfield 195, 3) := by decide +kernel
theorem dX4_isFulfilled_29 : decode cX4_isFulfilled 29 = .ok (.iload_n 1, 1) := by decide +kernel
theorem dX4_isFulfilled_30 : decode cX4_isFulfilled 30 = .ok (.iaload, 1) := by decide +kernel
theorem dX4_isFulfilled_31 : decode cX4_isFulfilled 31 = .ok (.tableswitch 96 0 2 #[25, 45, 70], 25) := by decide +kernel
theorem dX4_isFulfilled_56 : decode cX4_isFulfilled 56 = .ok (.aload_n 0, 1) := by decide +kernel
theorem dX4_isFulfilled_57 : decode cX4_isFulfilled 57 = .ok (.getfield 21, 3) := by decide +kernel
theorem dX4_isFulfilled_60 : decode cX4_isFulfilled 60 = .ok (.getfield 95, 3) := by decide +kernel
theorem dX4_isFulfilled_63 : decode cX4_isFulfilled 63 = .ok (.iload_n 2, 1) := by decide +kernel
theorem dX4_isFulfilled_64 : decode cX4_isFulfilled 64 = .ok (.iaload, 1) := by decide +kernel
theorem dX4_isFulfilled_65 : decode cX4_isFulfilled 65 = .ok (.iload 5, 2) := by decide +kernel
theorem dX4_isFulfilled_67 : decode cX4_isFulfilled 67 = .ok (.if_icmp .ne 7, 3) := by decide +kernel
theorem dX4_isFulfilled_70 : decode cX4_isFulfilled 70 = .ok (.iconst 1, 1) := by decide +kernel
theorem dX4_isFulfilled_71 : decode cX4_isFulfilled 71 = .ok (.goto 4, 3) := by decide +kernel
theorem dX4_isFulfilled_74 : decode cX4_isFulfilled 74 = .ok (.iconst 0, 1) := by decide +kernel
theorem dX4_isFulfilled_75 : decode cX4_isFulfilled 75 = .ok (.ireturn, 1) := by decide +kernel
theorem dX4_isFulfilled_76 : decode cX4_isFulfilled 76 = .ok (.aload_n 0, 1) := by decide +kernel
theorem dX4_isFulfilled_77 : decode cX4_isFulfilled 77 = .ok (.getfield 21, 3) := by decide +kernel
theorem dX4_isFulfilled_80 : decode cX4_isFulfilled 80 = .ok (.getfield 160, 3) := by decide +kernel
theorem dX4_isFulfilled_83 : decode cX4_isFulfilled 83 = .ok (.iload_n 2, 1) := by decide +kernel
theorem dX4_isFulfilled_84 : decode cX4_isFulfilled 84 = .ok (.iload 5, 2) := by decide +kernel
theorem dX4_isFulfilled_86 : decode cX4_isFulfilled 86 = .ok (.invokestatic 115, 3) := by decide +kernel
theorem dX4_isFulfilled_89 : decode cX4_isFulfilled 89 = .ok (.iaload, 1) := by decide +kernel
theorem dX4_isFulfilled_90 : decode cX4_isFulfilled 90 = .ok (.iload 6, 2) := by decide +kernel
theorem dX4_isFulfilled_92 : decode cX4_isFulfilled 92 = .ok (.if_icmp .lt 7, 3) := by decide +kernel
theorem dX4_isFulfilled_95 : decode cX4_isFulfilled 95 = .ok (.iconst 1, 1) := by decide +kernel
theorem dX4_isFulfilled_96 : decode cX4_isFulfilled 96 = .ok (.goto 4, 3) := by decide +kernel
theorem dX4_isFulfilled_99 : decode cX4_isFulfilled 99 = .ok (.iconst 0, 1) := by decide +kernel
theorem dX4_isFulfilled_100 : decode cX4_isFulfilled 100 = .ok (.ireturn, 1) := by decide +kernel
theorem dX4_isFulfilled_101 : decode cX4_isFulfilled 101 = .ok (.iload_n 3, 1) := by decide +kernel
theorem dX4_isFulfilled_102 : decode cX4_isFulfilled 102 = .ok (.iload 6, 2) := by decide +kernel
theorem dX4_isFulfilled_104 : decode cX4_isFulfilled 104 = .ok (.if_icmp .ne 21, 3) := by decide +kernel
theorem dX4_isFulfilled_107 : decode cX4_isFulfilled 107 = .ok (.aload_n 0, 1) := by decide +kernel
theorem dX4_isFulfilled_108 : decode cX4_isFulfilled 108 = .ok (.getfield 21, 3) := by decide +kernel
theorem dX4_isFulfilled_111 : decode cX4_isFulfilled 111 = .ok (.getfield 95, 3) := by decide +kernel
theorem dX4_isFulfilled_114 : decode cX4_isFulfilled 114 = .ok (.iload_n 2, 1) := by decide +kernel
theorem dX4_isFulfilled_115 : decode cX4_isFulfilled 115 = .ok (.iaload, 1) := by decide +kernel
theorem dX4_isFulfilled_116 : decode cX4_isFulfilled 116 = .ok (.iload 5, 2) := by decide +kernel
theorem dX4_isFulfilled_118 : decode cX4_isFulfilled 118 = .ok (.if_icmp .ne 7, 3) := by decide +kernel
theorem dX4_isFulfilled_121 : decode cX4_isFulfilled 121 = .ok (.iconst 1, 1) := by decide +kernel
theorem dX4_isFulfilled_122 : decode cX4_isFulfilled 122 = .ok (.goto 4, 3) := by decide +kernel
theorem dX4_isFulfilled_125 : decode cX4_isFulfilled 125 = .ok (.iconst 0, 1) := by decide +kernel
theorem dX4_isFulfilled_126 : decode cX4_isFulfilled 126 = .ok (.ireturn, 1) := by decide +kernel
theorem dX4_isFulfilled_127 : decode cX4_isFulfilled 127 = .ok (.iload 4, 2) := by decide +kernel
theorem dX4_isFulfilled_129 : decode cX4_isFulfilled 129 = .ok (.iload 5, 2) := by decide +kernel
theorem dX4_isFulfilled_131 : decode cX4_isFulfilled 131 = .ok (.if_icmp .ne 7, 3) := by decide +kernel
theorem dX4_isFulfilled_134 : decode cX4_isFulfilled 134 = .ok (.iconst 1, 1) := by decide +kernel
theorem dX4_isFulfilled_135 : decode cX4_isFulfilled 135 = .ok (.goto 4, 3) := by decide +kernel
theorem dX4_isFulfilled_138 : decode cX4_isFulfilled 138 = .ok (.iconst 0, 1) := by decide +kernel
theorem dX4_isFulfilled_139 : decode cX4_isFulfilled 139 = .ok (.ireturn, 1) := by decide +kernel
theorem dX4_reward_0 : decode cX4_reward 0 = .ok (.iload_n 2, 1) := by decide +kernel
theorem dX4_reward_1 : decode cX4_reward 1 = .ok (.aload_n 0, 1) := by decide +kernel
theorem dX4_reward_2 : decode cX4_reward 2 = .ok (.getfield 32, 3) := by decide +kernel
theorem dX4_reward_5 : decode cX4_reward 5 = .ok (.invokestatic 131, 3) := by decide +kernel
theorem dX4_reward_8 : decode cX4_reward 8 = .ok (.istore_n 3, 1) := by decide +kernel
theorem dX4_reward_9 : decode cX4_reward 9 = .ok (.aload_n 0, 1) := by decide +kernel
theorem dX4_reward_10 : decode cX4_reward 10 = .ok (.dup, 1) := by decide +kernel
theorem dX4_reward_11 : decode cX4_reward 11 = .ok (.getfield 32, 3) := by decide +kernel
theorem dX4_reward_14 : decode cX4_reward 14 = .ok (.iload_n 3, 1) := by decide +kernel
theorem dX4_reward_15 : decode cX4_reward 15 = .ok (.isub, 1) := by decide +kernel
theorem dX4_reward_16 : decode cX4_reward 16 = .ok (.putfield 32, 3) := by decide +kernel
theorem dX4_reward_19 : decode cX4_reward 19 = .ok (.aload_n 0, 1) := by decide +kernel
theorem dX4_reward_20 : decode cX4_reward 20 = .ok (.getfield 21, 3) := by decide +kernel
theorem dX4_reward_23 : decode cX4_reward 23 = .ok (.getfield 71, 3) := by decide +kernel
theorem dX4_reward_26 : decode cX4_reward 26 = .ok (.iload_n 1, 1) := by decide +kernel
theorem dX4_reward_27 : decode cX4_reward 27 = .ok (.dup2, 1) := by decide +kernel
theorem dX4_reward_28 : decode cX4_reward 28 = .ok (.iaload, 1) := by decide +kernel
theorem dX4_reward_29 : decode cX4_reward 29 = .ok (.iload_n 3, 1) := by decide +kernel
theorem dX4_reward_30 : decode cX4_reward 30 = .ok (.iadd, 1) := by decide +kernel
theorem dX4_reward_31 : decode cX4_reward 31 = .ok (.iastore, 1) := by decide +kernel
theorem dX4_reward_32 : decode cX4_reward 32 = .ok (.return_, 1) := by decide +kernel
theorem dX5_init_0 : decode cX5_init 0 = .ok (.aload_n 0, 1) := by decide +kernel
theorem dX5_init_1 : decode cX5_init 1 = .ok (.invokespecial 1, 3) := by decide +kernel
theorem dX5_init_4 : decode cX5_init 4 = .ok (.aload_n 0, 1) := by decide +kernel
theorem dX5_init_5 : decode cX5_init 5 = .ok (.new 7, 3) := by decide +kernel
theorem dX5_init_8 : decode cX5_init 8 = .ok (.dup, 1) := by decide +kernel
theorem dX5_init_9 : decode cX5_init 9 = .ok (.invokespecial 9, 3) := by decide +kernel
theorem dX5_init_12 : decode cX5_init 12 = .ok (.putfield 10, 3) := by decide +kernel
theorem dX5_init_15 : decode cX5_init 15 = .ok (.aload_n 0, 1) := by decide +kernel
theorem dX5_init_16 : decode cX5_init 16 = .ok (.new 16, 3) := by decide +kernel
theorem dX5_init_19 : decode cX5_init 19 = .ok (.dup, 1) := by decide +kernel
theorem dX5_init_20 : decode cX5_init 20 = .ok (.invokespecial 18, 3) := by decide +kernel
theorem dX5_init_23 : decode cX5_init 23 = .ok (.putfield 19, 3) := by decide +kernel
theorem dX5_init_26 : decode cX5_init 26 = .ok (.aload_n 0, 1) := by decide +kernel
theorem dX5_init_27 : decode cX5_init 27 = .ok (.new 16, 3) := by decide +kernel
theorem dX5_init_30 : decode cX5_init 30 = .ok (.dup, 1) := by decide +kernel
theorem dX5_init_31 : decode cX5_init 31 = .ok (.invokespecial 18, 3) := by decide +kernel
theorem dX5_init_34 : decode cX5_init 34 = .ok (.putfield 23, 3) := by decide +kernel
theorem dX5_init_37 : decode cX5_init 37 = .ok (.return_, 1) := by decide +kernel
theorem dX5_link_0 : decode cX5_link 0 = .ok (.iload_n 1, 1) := by decide +kernel
theorem dX5_link_1 : decode cX5_link 1 = .ok (.invokestatic 26, 3) := by decide +kernel
theorem dX5_link_4 : decode cX5_link 4 = .ok (.iload_n 2, 1) := by decide +kernel
theorem dX5_link_5 : decode cX5_link 5 = .ok (.invokestatic 30, 3) := by decide +kernel
theorem dX5_link_8 : decode cX5_link 8 = .ok (.iload_n 3, 1) := by decide +kernel
theorem dX5_link_9 : decode cX5_link 9 = .ok (.invokestatic 26, 3) := by decide +kernel
theorem dX5_link_12 : decode cX5_link 12 = .ok (.iload_n 1, 1) := by decide +kernel
theorem dX5_link_13 : decode cX5_link 13 = .ok (.iload_n 3, 1) := by decide +kernel
theorem dX5_link_14 : decode cX5_link 14 = .ok (.if_icmp .ne 13, 3) := by decide +kernel
theorem dX5_link_17 : decode cX5_link 17 = .ok (.new 33, 3) := by decide +kernel
theorem dX5_link_20 : decode cX5_link 20 = .ok (.dup, 1) := by decide +kernel
theorem dX5_link_21 : decode cX5_link 21 = .ok (.ldc 35, 2) := by decide +kernel
theorem dX5_link_23 : decode cX5_link 23 = .ok (.invokespecial 37, 3) := by decide +kernel
theorem dX5_link_26 : decode cX5_link 26 = .ok (.athrow, 1) := by decide +kernel
theorem dX5_link_27 : decode cX5_link 27 = .ok (.aload_n 0, 1) := by decide +kernel
theorem dX5_link_28 : decode cX5_link 28 = .ok (.getfield 19, 3) := by decide +kernel
theorem dX5_link_31 : decode cX5_link 31 = .ok (.getfield 40, 3) := by decide +kernel
theorem dX5_link_34 : decode cX5_link 34 = .ok (.iload_n 1, 1) := by decide +kernel
theorem dX5_link_35 : decode cX5_link 35 = .ok (.iload_n 2, 1) := by decide +kernel
theorem dX5_link_36 : decode cX5_link 36 = .ok (.invokevirtual 44, 3) := by decide +kernel
theorem dX5_link_39 : decode cX5_link 39 = .ok (.iconst (-1), 1) := by decide +kernel
theorem dX5_link_40 : decode cX5_link 40 = .ok (.if_icmp .ne 22, 3) := by decide +kernel
theorem dX5_link_43 : decode cX5_link 43 = .ok (.aload_n 0, 1) := by decide +kernel
theorem dX5_link_44 : decode cX5_link 44 = .ok (.getfield 19, 3) := by decide +kernel
theorem dX5_link_47 : decode cX5_link 47 = .ok (.getfield 40, 3) := by decide +kernel
theorem dX5_link_50 : decode cX5_link 50 = .ok (.iload_n 3, 1) := by decide +kernel
theorem dX5_link_51 : decode cX5_link 51 = .ok (.iload_n 2, 1) := by decide +kernel
theorem dX5_link_52 : decode cX5_link 52 = .ok (.invokestatic 50, 3) := by decide +kernel
theorem dX5_link_55 : decode cX5_link 55 = .ok (.invokevirtual 44, 3) := by decide +kernel
theorem dX5_link_58 : decode cX5_link 58 = .ok (.iconst (-1), 1) := by decide +kernel
theorem dX5_link_59 : decode cX5_link 59 = .ok (.if_icmp .eq 13, 3) := by decide +kernel
theorem dX5_link_62 : decode cX5_link 62 = .ok (.new 54, 3) := by decide +kernel
theorem dX5_link_65 : decode cX5_link 65 = .ok (.dup, 1) := by decide +kernel
theorem dX5_link_66 : decode cX5_link 66 = .ok (.ldc 56, 2) := by decide +kernel
theorem dX5_link_68 : decode cX5_link 68 = .ok (.invokespecial 58, 3) := by decide +kernel
theorem dX5_link_71 : decode cX5_link 71 = .ok (.athrow, 1) := by decide +kernel
theorem dX5_link_72 : decode cX5_link 72 = .ok (.aload_n 0, 1) := by decide +kernel
theorem dX5_link_73 : decode cX5_link 73 = .ok (.iconst 0, 1) := by decide +kernel
theorem dX5_link_74 : decode cX5_link 74 = .ok (.iload_n 1, 1) := by decide +kernel
theorem dX5_link_75 : decode cX5_link 75 = .ok (.iload_n 2, 1) := by decide +kernel
theorem dX5_link_76 : decode cX5_link 76 = .ok (.iload_n 3, 1) := by decide +kernel
theorem dX5_link_77 : decode cX5_link 77 = .ok (.iconst 0, 1) := by decide +kernel
theorem dX5_link_78 : decode cX5_link 78 = .ok (.invokevirtual 59, 3) := by decide +kernel
theorem dX5_link_81 : decode cX5_link 81 = .ok (.pop, 1) := by decide +kernel
theorem dX5_link_82 : decode cX5_link 82 = .ok (.return_, 1) := by decide +kernel
theorem dX5_shop_0 : decode cX5_shop 0 = .ok (.iload_n 1, 1) := by decide +kernel
theorem dX5_shop_1 : decode cX5_shop 1 = .ok (.invokestatic 26, 3) := by decide +kernel
theorem dX5_shop_4 : decode cX5_shop 4 = .ok (.iload_n 2, 1) := by decide +kernel
theorem dX5_shop_5 : decode cX5_shop 5 = .ok (.iconst 0, 1) := by decide +kernel
theorem dX5_shop_6 : decode cX5_shop 6 = .ok (.sipush 1000, 3) := by decide +kernel
theorem dX5_shop_9 : decode cX5_shop 9 = .ok (.invokestatic 63, 3) := by decide +kernel
theorem dX5_shop_12 : decode cX5_shop 12 = .ok (.aload_n 0, 1) := by decide +kernel
theorem dX5_shop_13 : decode cX5_shop 13 = .ok (.getfield 19, 3) := by decide +kernel
theorem dX5_shop_16 : decode cX5_shop 16 = .ok (.getfield 40, 3) := by decide +kernel
theorem dX5_shop_19 : decode cX5_shop 19 = .ok (.iload_n 1, 1) := by decide +kernel
theorem dX5_shop_20 : decode cX5_shop 20 = .ok (.invokevirtual 67, 3) := by decide +kernel
theorem dX5_shop_23 : decode cX5_shop 23 = .ok (.ifCond .eq 13, 3) := by decide +kernel
theorem dX5_shop_26 : decode cX5_shop 26 = .ok (.new 54, 3) := by decide +kernel
theorem dX5_shop_29 : decode cX5_shop 29 = .ok (.dup, 1) := by decide +kernel
theorem dX5_shop_30 : decode cX5_shop 30 = .ok (.ldc 71, 2) := by decide +kernel
theorem dX5_shop_32 : decode cX5_shop 32 = .ok (.invokespecial 58, 3) := by decide +kernel
theorem dX5_shop_35 : decode cX5_shop 35 = .ok (.athrow, 1) := by decide +kernel
theorem dX5_shop_36 : decode cX5_shop 36 = .ok (.aload_n 0, 1) := by decide +kernel
theorem dX5_shop_37 : decode cX5_shop 37 = .ok (.iconst 1, 1) := by decide +kernel
theorem dX5_shop_38 : decode cX5_shop 38 = .ok (.iload_n 1, 1) := by decide +kernel
theorem dX5_shop_39 : decode cX5_shop 39 = .ok (.iload_n 2, 1) := by decide +kernel
theorem dX5_shop_40 : decode cX5_shop 40 = .ok (.iconst 0, 1) := by decide +kernel
theorem dX5_shop_41 : decode cX5_shop 41 = .ok (.iconst 0, 1) := by decide +kernel
theorem dX5_shop_42 : decode cX5_shop 42 = .ok (.invokevirtual 59, 3) := by decide +kernel
theorem dX5_shop_45 : decode cX5_shop 45 = .ok (.pop, 1) := by decide +kernel
theorem dX5_shop_46 : decode cX5_shop 46 = .ok (.return_, 1) := by decide +kernel
theorem dX5_stock_0 : decode cX5_stock 0 = .ok (.iload_n 1, 1) := by decide +kernel
theorem dX5_stock_1 : decode cX5_stock 1 = .ok (.invokestatic 26, 3) := by decide +kernel
theorem dX5_stock_4 : decode cX5_stock 4 = .ok (.iload_n 2, 1) := by decide +kernel
theorem dX5_stock_5 : decode cX5_stock 5 = .ok (.invokestatic 73, 3) := by decide +kernel
theorem dX5_stock_8 : decode cX5_stock 8 = .ok (.iload_n 3, 1) := by decide +kernel
theorem dX5_stock_9 : decode cX5_stock 9 = .ok (.iconst 0, 1) := by decide +kernel
theorem dX5_stock_10 : decode cX5_stock 10 = .ok (.bipush 20, 2) := by decide +kernel
theorem dX5_stock_12 : decode cX5_stock 12 = .ok (.invokestatic 63, 3) := by decide +kernel
theorem dX5_stock_15 : decode cX5_stock 15 = .ok (.iload 4, 2) := by decide +kernel
theorem dX5_stock_17 : decode cX5_stock 17 = .ok (.iconst 0, 1) := by decide +kernel
theorem dX5_stock_18 : decode cX5_stock 18 = .ok (.bipush 50, 2) := by decide +kernel
theorem dX5_stock_20 : decode cX5_stock 20 = .ok (.invokestatic 63, 3) := by decide +kernel
theorem dX5_stock_23 : decode cX5_stock 23 = .ok (.aload_n 0, 1) := by decide +kernel
theorem dX5_stock_24 : decode cX5_stock 24 = .ok (.getfield 19, 3) := by decide +kernel
theorem dX5_stock_27 : decode cX5_stock 27 = .ok (.getfield 40, 3) := by decide +kernel
theorem dX5_stock_30 : decode cX5_stock 30 = .ok (.iload_n 1, 1) := by decide +kernel
theorem dX5_stock_31 : decode cX5_stock 31 = .ok (.invokevirtual 67, 3) := by decide +kernel
theorem dX5_stock_34 : decode cX5_stock 34 = .ok (.ifCond .ne 13, 3) := by decide +kernel
theorem dX5_stock_37 : decode cX5_stock 37 = .ok (.new 54, 3) := by decide +kernel
theorem dX5_stock_40 : decode cX5_stock 40 = .ok (.dup, 1) := by decide +kernel
theorem dX5_stock_41 : decode cX5_stock 41 = .ok (.ldc 76, 2) := by decide +kernel
theorem dX5_stock_43 : decode cX5_stock 43 = .ok (.invokespecial 58, 3) := by decide +kernel
theorem dX5_stock_46 : decode cX5_stock 46 = .ok (.athrow, 1) := by decide +kernel
theorem dX5_stock_47 : decode cX5_stock 47 = .ok (.aload_n 0, 1) := by decide +kernel
theorem dX5_stock_48 : decode cX5_stock 48 = .ok (.iconst 2, 1) := by decide +kernel
theorem dX5_stock_49 : decode cX5_stock 49 = .ok (.iload_n 1, 1) := by decide +kernel
theorem dX5_stock_50 : decode cX5_stock 50 = .ok (.iload_n 2, 1) := by decide +kernel
theorem dX5_stock_51 : decode cX5_stock 51 = .ok (.iload_n 3, 1) := by decide +kernel
theorem dX5_stock_52 : decode cX5_stock 52 = .ok (.iload 4, 2) := by decide +kernel
theorem dX5_stock_54 : decode cX5_stock 54 = .ok (.invokevirtual 59, 3) := by decide +kernel
theorem dX5_stock_57 : decode cX5_stock 57 = .ok (.ireturn, 1) := by decide +kernel
theorem dX5_scatter_0 : decode cX5_scatter 0 = .ok (.iload_n 1, 1) := by decide +kernel
theorem dX5_scatter_1 : decode cX5_scatter 1 = .ok (.invokestatic 26, 3) := by decide +kernel
theorem dX5_scatter_4 : decode cX5_scatter 4 = .ok (.iload_n 2, 1) := by decide +kernel
theorem dX5_scatter_5 : decode cX5_scatter 5 = .ok (.invokestatic 73, 3) := by decide +kernel
theorem dX5_scatter_8 : decode cX5_scatter 8 = .ok (.iload_n 3, 1) := by decide +kernel
theorem dX5_scatter_9 : decode cX5_scatter 9 = .ok (.iconst 1, 1) := by decide +kernel
theorem dX5_scatter_10 : decode cX5_scatter 10 = .ok (.bipush 9, 2) := by decide +kernel
theorem dX5_scatter_12 : decode cX5_scatter 12 = .ok (.invokestatic 63, 3) := by decide +kernel
theorem dX5_scatter_15 : decode cX5_scatter 15 = .ok (.aload_n 0, 1) := by decide +kernel
theorem dX5_scatter_16 : decode cX5_scatter 16 = .ok (.iconst 3, 1) := by decide +kernel
theorem dX5_scatter_17 : decode cX5_scatter 17 = .ok (.iload_n 1, 1) := by decide +kernel
theorem dX5_scatter_18 : decode cX5_scatter 18 = .ok (.iload_n 2, 1) := by decide +kernel
theorem dX5_scatter_19 : decode cX5_scatter 19 = .ok (.iload_n 3, 1) := by decide +kernel
theorem dX5_scatter_20 : decode cX5_scatter 20 = .ok (.iconst 0, 1) := by decide +kernel
theorem dX5_scatter_21 : decode cX5_scatter 21 = .ok (.invokevirtual 59, 3) := by decide +kernel
theorem dX5_scatter_24 : decode cX5_scatter 24 = .ok (.ireturn, 1) := by decide +kernel
theorem dX5_join_0 : decode cX5_join 0 = .ok (.iload_n 1, 1) := by decide +kernel
theorem dX5_join_1 : decode cX5_join 1 = .ok (.invokestatic 26, 3) := by decide +kernel
theorem dX5_join_4 : decode cX5_join 4 = .ok (.iload_n 2, 1) := by decide +kernel
theorem dX5_join_5 : decode cX5_join 5 = .ok (.iconst 0, 1) := by decide +kernel
theorem dX5_join_6 : decode cX5_join 6 = .ok (.sipush 200, 3) := by decide +kernel
theorem dX5_join_9 : decode cX5_join 9 = .ok (.invokestatic 63, 3) := by decide +kernel
theorem dX5_join_12 : decode cX5_join 12 = .ok (.iload_n 3, 1) := by decide +kernel
theorem dX5_join_13 : decode cX5_join 13 = .ok (.iconst 0, 1) := by decide +kernel
theorem dX5_join_14 : decode cX5_join 14 = .ok (.bipush 6, 2) := by decide +kernel
theorem dX5_join_16 : decode cX5_join 16 = .ok (.invokestatic 63, 3) := by decide +kernel
theorem dX5_join_19 : decode cX5_join 19 = .ok (.aload_n 0, 1) := by decide +kernel
theorem dX5_join_20 : decode cX5_join 20 = .ok (.getfield 19, 3) := by decide +kernel
theorem dX5_join_23 : decode cX5_join 23 = .ok (.getfield 78, 3) := by decide +kernel
theorem dX5_join_26 : decode cX5_join 26 = .ok (.getfield 82, 3) := by decide +kernel
theorem dX5_join_29 : decode cX5_join 29 = .ok (.iconst 4, 1) := by decide +kernel
theorem dX5_join_30 : decode cX5_join 30 = .ok (.if_icmp .lt 13, 3) := by decide +kernel
theorem dX5_join_33 : decode cX5_join 33 = .ok (.new 54, 3) := by decide +kernel
theorem dX5_join_36 : decode cX5_join 36 = .ok (.dup, 1) := by decide +kernel
theorem dX5_join_37 : decode cX5_join 37 = .ok (.ldc 88, 2) := by decide +kernel
theorem dX5_join_39 : decode cX5_join 39 = .ok (.invokespecial 58, 3) := by decide +kernel
theorem dX5_join_42 : decode cX5_join 42 = .ok (.athrow, 1) := by decide +kernel
theorem dX5_join_43 : decode cX5_join 43 = .ok (.aload_n 0, 1) := by decide +kernel
theorem dX5_join_44 : decode cX5_join 44 = .ok (.iconst 4, 1) := by decide +kernel
theorem dX5_join_45 : decode cX5_join 45 = .ok (.iload_n 1, 1) := by decide +kernel
theorem dX5_join_46 : decode cX5_join 46 = .ok (.iload_n 2, 1) := by decide +kernel
theorem dX5_join_47 : decode cX5_join 47 = .ok (.iload_n 3, 1) := by decide +kernel
theorem dX5_join_48 : decode cX5_join 48 = .ok (.iconst 0, 1) := by decide +kernel
theorem dX5_join_49 : decode cX5_join 49 = .ok (.invokevirtual 59, 3) := by decide +kernel
theorem dX5_join_52 : decode cX5_join 52 = .ok (.ireturn, 1) := by decide +kernel
theorem dX5_quest_0 : decode cX5_quest 0 = .ok (.iload_n 1, 1) := by decide +kernel
theorem dX5_quest_1 : decode cX5_quest 1 = .ok (.iconst 0, 1) := by decide +kernel
theorem dX5_quest_2 : decode cX5_quest 2 = .ok (.bipush 100, 2) := by decide +kernel
theorem dX5_quest_4 : decode cX5_quest 4 = .ok (.invokestatic 63, 3) := by decide +kernel
theorem dX5_quest_7 : decode cX5_quest 7 = .ok (.aload_n 0, 1) := by decide +kernel
theorem dX5_quest_8 : decode cX5_quest 8 = .ok (.getfield 19, 3) := by decide +kernel
theorem dX5_quest_11 : decode cX5_quest 11 = .ok (.getfield 90, 3) := by decide +kernel
theorem dX5_quest_14 : decode cX5_quest 14 = .ok (.getfield 94, 3) := by decide +kernel
theorem dX5_quest_17 : decode cX5_quest 17 = .ok (.iconst 3, 1) := by decide +kernel
theorem dX5_quest_18 : decode cX5_quest 18 = .ok (.if_icmp .lt 13, 3) := by decide +kernel
theorem dX5_quest_21 : decode cX5_quest 21 = .ok (.new 54, 3) := by decide +kernel
theorem dX5_quest_24 : decode cX5_quest 24 = .ok (.dup, 1) := by decide +kernel
theorem dX5_quest_25 : decode cX5_quest 25 = .ok (.ldc 97, 2) := by decide +kernel
theorem dX5_quest_27 : decode cX5_quest 27 = .ok (.invokespecial 58, 3) := by decide +kernel
theorem dX5_quest_30 : decode cX5_quest 30 = .ok (.athrow, 1) := by decide +kernel
theorem dX5_quest_31 : decode cX5_quest 31 = .ok (.aload_n 0, 1) := by decide +kernel
theorem dX5_quest_32 : decode cX5_quest 32 = .ok (.iconst 5, 1) := by decide +kernel
theorem dX5_quest_33 : decode cX5_quest 33 = .ok (.iload_n 1, 1) := by decide +kernel
theorem dX5_quest_34 : decode cX5_quest 34 = .ok (.iconst 0, 1) := by decide +kernel
theorem dX5_quest_35 : decode cX5_quest 35 = .ok (.iconst 0, 1) := by decide +kernel
theorem dX5_quest_36 : decode cX5_quest 36 = .ok (.iconst 0, 1) := by decide +kernel
theorem dX5_quest_37 : decode cX5_quest 37 = .ok (.invokevirtual 59, 3) := by decide +kernel
theorem dX5_quest_40 : decode cX5_quest 40 = .ok (.ireturn, 1) := by decide +kernel
theorem dX5_stage_0 : decode cX5_stage 0 = .ok (.aload_n 0, 1) := by decide +kernel
theorem dX5_stage_1 : decode cX5_stage 1 = .ok (.iload_n 1, 1) := by decide +kernel
theorem dX5_stage_2 : decode cX5_stage 2 = .ok (.invokevirtual 99, 3) := by decide +kernel
theorem dX5_stage_5 : decode cX5_stage 5 = .ok (.iload_n 2, 1) := by decide +kernel
theorem dX5_stage_6 : decode cX5_stage 6 = .ok (.iload_n 3, 1) := by decide +kernel
theorem dX5_stage_7 : decode cX5_stage 7 = .ok (.invokestatic 102, 3) := by decide +kernel
theorem dX5_stage_10 : decode cX5_stage 10 = .ok (.iload_n 2, 1) := by decide +kernel
theorem dX5_stage_11 : decode cX5_stage 11 = .ok (.iconst 0, 1) := by decide +kernel
theorem dX5_stage_12 : decode cX5_stage 12 = .ok (.iconst 3, 1) := by decide +kernel
theorem dX5_stage_13 : decode cX5_stage 13 = .ok (.invokestatic 63, 3) := by decide +kernel
theorem dX5_stage_16 : decode cX5_stage 16 = .ok (.iload_n 2, 1) := by decide +kernel
theorem dX5_stage_17 : decode cX5_stage 17 = .ok (.iload 4, 2) := by decide +kernel
theorem dX5_stage_19 : decode cX5_stage 19 = .ok (.invokestatic 106, 3) := by decide +kernel
theorem dX5_stage_22 : decode cX5_stage 22 = .ok (.aload_n 0, 1) := by decide +kernel
theorem dX5_stage_23 : decode cX5_stage 23 = .ok (.getfield 19, 3) := by decide +kernel
theorem dX5_stage_26 : decode cX5_stage 26 = .ok (.getfield 90, 3) := by decide +kernel
theorem dX5_stage_29 : decode cX5_stage 29 = .ok (.getfield 109, 3) := by decide +kernel
theorem dX5_stage_32 : decode cX5_stage 32 = .ok (.iload_n 1, 1) := by decide +kernel
theorem dX5_stage_33 : decode cX5_stage 33 = .ok (.iaload, 1) := by decide +kernel
theorem dX5_stage_34 : decode cX5_stage 34 = .ok (.iconst 4, 1) := by decide +kernel
theorem dX5_stage_35 : decode cX5_stage 35 = .ok (.if_icmp .lt 13, 3) := by decide +kernel
theorem dX5_stage_38 : decode cX5_stage 38 = .ok (.new 54, 3) := by decide +kernel
theorem dX5_stage_41 : decode cX5_stage 41 = .ok (.dup, 1) := by decide +kernel
theorem dX5_stage_42 : decode cX5_stage 42 = .ok (.ldc 113, 2) := by decide +kernel
theorem dX5_stage_44 : decode cX5_stage 44 = .ok (.invokespecial 58, 3) := by decide +kernel
theorem dX5_stage_47 : decode cX5_stage 47 = .ok (.athrow, 1) := by decide +kernel
theorem dX5_stage_48 : decode cX5_stage 48 = .ok (.aload_n 0, 1) := by decide +kernel
theorem dX5_stage_49 : decode cX5_stage 49 = .ok (.getfield 19, 3) := by decide +kernel
theorem dX5_stage_52 : decode cX5_stage 52 = .ok (.getfield 78, 3) := by decide +kernel
theorem dX5_stage_55 : decode cX5_stage 55 = .ok (.iload_n 1, 1) := by decide +kernel
theorem dX5_stage_56 : decode cX5_stage 56 = .ok (.invokevirtual 115, 3) := by decide +kernel
theorem dX5_stage_59 : decode cX5_stage 59 = .ok (.ifCond .eq 13, 3) := by decide +kernel
theorem dX5_stage_62 : decode cX5_stage 62 = .ok (.new 54, 3) := by decide +kernel
theorem dX5_stage_65 : decode cX5_stage 65 = .ok (.dup, 1) := by decide +kernel
theorem dX5_stage_66 : decode cX5_stage 66 = .ok (.ldc 118, 2) := by decide +kernel
theorem dX5_stage_68 : decode cX5_stage 68 = .ok (.invokespecial 58, 3) := by decide +kernel
theorem dX5_stage_71 : decode cX5_stage 71 = .ok (.athrow, 1) := by decide +kernel
theorem dX5_stage_72 : decode cX5_stage 72 = .ok (.aload_n 0, 1) := by decide +kernel
theorem dX5_stage_73 : decode cX5_stage 73 = .ok (.bipush 6, 2) := by decide +kernel
theorem dX5_stage_75 : decode cX5_stage 75 = .ok (.iload_n 1, 1) := by decide +kernel
theorem dX5_stage_76 : decode cX5_stage 76 = .ok (.iload_n 2, 1) := by decide +kernel
theorem dX5_stage_77 : decode cX5_stage 77 = .ok (.iload_n 3, 1) := by decide +kernel
theorem dX5_stage_78 : decode cX5_stage 78 = .ok (.iload 4, 2) := by decide +kernel
theorem dX5_stage_80 : decode cX5_stage 80 = .ok (.invokevirtual 59, 3) := by decide +kernel
theorem dX5_stage_83 : decode cX5_stage 83 = .ok (.ireturn, 1) := by decide +kernel
theorem dX5_endow_0 : decode cX5_endow 0 = .ok (.iload_n 1, 1) := by decide +kernel
theorem dX5_endow_1 : decode cX5_endow 1 = .ok (.iconst 1, 1) := by decide +kernel
theorem dX5_endow_2 : decode cX5_endow 2 = .ok (.sipush 1000, 3) := by decide +kernel
theorem dX5_endow_5 : decode cX5_endow 5 = .ok (.invokestatic 63, 3) := by decide +kernel
theorem dX5_endow_8 : decode cX5_endow 8 = .ok (.aload_n 0, 1) := by decide +kernel
theorem dX5_endow_9 : decode cX5_endow 9 = .ok (.bipush 7, 2) := by decide +kernel
theorem dX5_endow_11 : decode cX5_endow 11 = .ok (.iload_n 1, 1) := by decide +kernel
theorem dX5_endow_12 : decode cX5_endow 12 = .ok (.iconst 0, 1) := by decide +kernel
theorem dX5_endow_13 : decode cX5_endow 13 = .ok (.iconst 0, 1) := by decide +kernel
theorem dX5_endow_14 : decode cX5_endow 14 = .ok (.iconst 0, 1) := by decide +kernel
theorem dX5_endow_15 : decode cX5_endow 15 = .ok (.invokevirtual 59, 3) := by decide +kernel
theorem dX5_endow_18 : decode cX5_endow 18 = .ok (.ireturn, 1) := by decide +kernel
theorem dX5_go_0 : decode cX5_go 0 = .ok (.iload_n 1, 1) := by decide +kernel
theorem dX5_go_1 : decode cX5_go 1 = .ok (.invokestatic 30, 3) := by decide +kernel
theorem dX5_go_4 : decode cX5_go 4 = .ok (.aload_n 0, 1) := by decide +kernel
theorem dX5_go_5 : decode cX5_go 5 = .ok (.getfield 19, 3) := by decide +kernel
theorem dX5_go_8 : decode cX5_go 8 = .ok (.getfield 78, 3) := by decide +kernel
theorem dX5_go_11 : decode cX5_go 11 = .ok (.getfield 121, 3) := by decide +kernel
theorem dX5_go_14 : decode cX5_go 14 = .ok (.aload_n 0, 1) := by decide +kernel
theorem dX5_go_15 : decode cX5_go 15 = .ok (.invokevirtual 124, 3) := by decide +kernel
theorem dX5_go_18 : decode cX5_go 18 = .ok (.iaload, 1) := by decide +kernel
theorem dX5_go_19 : decode cX5_go 19 = .ok (.istore_n 2, 1) := by decide +kernel
theorem dX5_go_20 : decode cX5_go 20 = .ok (.aload_n 0, 1) := by decide +kernel
theorem dX5_go_21 : decode cX5_go 21 = .ok (.getfield 19, 3) := by decide +kernel
theorem dX5_go_24 : decode cX5_go 24 = .ok (.getfield 40, 3) := by decide +kernel
theorem dX5_go_27 : decode cX5_go 27 = .ok (.iload_n 2, 1) := by decide +kernel
theorem dX5_go_28 : decode cX5_go 28 = .ok (.iload_n 1, 1) := by decide +kernel
theorem dX5_go_29 : decode cX5_go 29 = .ok (.invokevirtual 44, 3) := by decide +kernel
theorem dX5_go_32 : decode cX5_go 32 = .ok (.iconst (-1), 1) := by decide +kernel
theorem dX5_go_33 : decode cX5_go 33 = .ok (.if_icmp .ne 13, 3) := by decide +kernel
theorem dX5_go_36 : decode cX5_go 36 = .ok (.new 54, 3) := by decide +kernel
theorem dX5_go_39 : decode cX5_go 39 = .ok (.dup, 1) := by decide +kernel
theorem dX5_go_40 : decode cX5_go 40 = .ok (.ldc 128, 2) := by decide +kernel
theorem dX5_go_42 : decode cX5_go 42 = .ok (.invokespecial 58, 3) := by decide +kernel
theorem dX5_go_45 : decode cX5_go 45 = .ok (.athrow, 1) := by decide +kernel
theorem dX5_go_46 : decode cX5_go 46 = .ok (.aload_n 0, 1) := by decide +kernel
theorem dX5_go_47 : decode cX5_go 47 = .ok (.bipush 9, 2) := by decide +kernel
theorem dX5_go_49 : decode cX5_go 49 = .ok (.iload_n 1, 1) := by decide +kernel
theorem dX5_go_50 : decode cX5_go 50 = .ok (.iconst 0, 1) := by decide +kernel
theorem dX5_go_51 : decode cX5_go 51 = .ok (.iconst 0, 1) := by decide +kernel
theorem dX5_go_52 : decode cX5_go 52 = .ok (.iconst 0, 1) := by decide +kernel
theorem dX5_go_53 : decode cX5_go 53 = .ok (.invokevirtual 59, 3) := by decide +kernel
theorem dX5_go_56 : decode cX5_go 56 = .ok (.ireturn, 1) := by decide +kernel
theorem dX5_say_0 : decode cX5_say 0 = .ok (.iload_n 1, 1) := by decide +kernel
theorem dX5_say_1 : decode cX5_say 1 = .ok (.iconst 0, 1) := by decide +kernel
theorem dX5_say_2 : decode cX5_say 2 = .ok (.bipush 99, 2) := by decide +kernel
theorem dX5_say_4 : decode cX5_say 4 = .ok (.invokestatic 63, 3) := by decide +kernel
theorem dX5_say_7 : decode cX5_say 7 = .ok (.aload_n 0, 1) := by decide +kernel
theorem dX5_say_8 : decode cX5_say 8 = .ok (.invokevirtual 124, 3) := by decide +kernel
theorem dX5_say_11 : decode cX5_say 11 = .ok (.pop, 1) := by decide +kernel
theorem dX5_say_12 : decode cX5_say 12 = .ok (.aload_n 0, 1) := by decide +kernel
theorem dX5_say_13 : decode cX5_say 13 = .ok (.bipush 10, 2) := by decide +kernel
theorem dX5_say_15 : decode cX5_say 15 = .ok (.iload_n 1, 1) := by decide +kernel
theorem dX5_say_16 : decode cX5_say 16 = .ok (.iconst 0, 1) := by decide +kernel
theorem dX5_say_17 : decode cX5_say 17 = .ok (.iconst 0, 1) := by decide +kernel
theorem dX5_say_18 : decode cX5_say 18 = .ok (.iconst 0, 1) := by decide +kernel
theorem dX5_say_19 : decode cX5_say 19 = .ok (.invokevirtual 59, 3) := by decide +kernel
theorem dX5_say_22 : decode cX5_say 22 = .ok (.ireturn, 1) := by decide +kernel
theorem dX5_shout_0 : decode cX5_shout 0 = .ok (.iload_n 1, 1) := by decide +kernel
theorem dX5_shout_1 : decode cX5_shout 1 = .ok (.iconst 0, 1) := by decide +kernel
theorem dX5_shout_2 : decode cX5_shout 2 = .ok (.bipush 99, 2) := by decide +kernel
theorem dX5_shout_4 : decode cX5_shout 4 = .ok (.invokestatic 63, 3) := by decide +kernel
theorem dX5_shout_7 : decode cX5_shout 7 = .ok (.aload_n 0, 1) := by decide +kernel
theorem dX5_shout_8 : decode cX5_shout 8 = .ok (.invokevirtual 124, 3) := by decide +kernel
theorem dX5_shout_11 : decode cX5_shout 11 = .ok (.pop, 1) := by decide +kernel
theorem dX5_shout_12 : decode cX5_shout 12 = .ok (.aload_n 0, 1) := by decide +kernel
theorem dX5_shout_13 : decode cX5_shout 13 = .ok (.bipush 11, 2) := by decide +kernel
theorem dX5_shout_15 : decode cX5_shout 15 = .ok (.iload_n 1, 1) := by decide +kernel
theorem dX5_shout_16 : decode cX5_shout 16 = .ok (.iconst 0, 1) := by decide +kernel
theorem dX5_shout_17 : decode cX5_shout 17 = .ok (.iconst 0, 1) := by decide +kernel
theorem dX5_shout_18 : decode cX5_shout 18 = .ok (.iconst 0, 1) := by decide +kernel
theorem dX5_shout_19 : decode cX5_shout 19 = .ok (.invokevirtual 59, 3) := by decide +kernel
theorem dX5_shout_22 : decode cX5_shout 22 = .ok (.ireturn, 1) := by decide +kernel
theorem dX5_take_0 : decode cX5_take 0 = .ok (.iload_n 1, 1) := by decide +kernel
theorem dX5_take_1 : decode cX5_take 1 = .ok (.invokestatic 73, 3) := by decide +kernel
theorem dX5_take_4 : decode cX5_take 4 = .ok (.aload_n 0, 1) := by decide +kernel
theorem dX5_take_5 : decode cX5_take 5 = .ok (.getfield 19, 3) := by decide +kernel
theorem dX5_take_8 : decode cX5_take 8 = .ok (.getfield 78, 3) := by decide +kernel
theorem dX5_take_11 : decode cX5_take 11 = .ok (.getfield 121, 3) := by decide +kernel
theorem dX5_take_14 : decode cX5_take 14 = .ok (.aload_n 0, 1) := by decide +kernel
theorem dX5_take_15 : decode cX5_take 15 = .ok (.invokevirtual 124, 3) := by decide +kernel
theorem dX5_take_18 : decode cX5_take 18 = .ok (.iaload, 1) := by decide +kernel
theorem dX5_take_19 : decode cX5_take 19 = .ok (.istore_n 2, 1) := by decide +kernel
theorem dX5_take_20 : decode cX5_take 20 = .ok (.aload_n 0, 1) := by decide +kernel
theorem dX5_take_21 : decode cX5_take 21 = .ok (.getfield 19, 3) := by decide +kernel
theorem dX5_take_24 : decode cX5_take 24 = .ok (.getfield 40, 3) := by decide +kernel
theorem dX5_take_27 : decode cX5_take 27 = .ok (.getfield 130, 3) := by decide +kernel
theorem dX5_take_30 : decode cX5_take 30 = .ok (.iload_n 2, 1) := by decide +kernel
theorem dX5_take_31 : decode cX5_take 31 = .ok (.iload_n 1, 1) := by decide +kernel
theorem dX5_take_32 : decode cX5_take 32 = .ok (.invokestatic 133, 3) := by decide +kernel
theorem dX5_take_35 : decode cX5_take 35 = .ok (.iaload, 1) := by decide +kernel
theorem dX5_take_36 : decode cX5_take 36 = .ok (.ifCond .gt 13, 3) := by decide +kernel
theorem dX5_take_39 : decode cX5_take 39 = .ok (.new 54, 3) := by decide +kernel
theorem dX5_take_42 : decode cX5_take 42 = .ok (.dup, 1) := by decide +kernel
theorem dX5_take_43 : decode cX5_take 43 = .ok (.ldc 136, 2) := by decide +kernel
theorem dX5_take_45 : decode cX5_take 45 = .ok (.invokespecial 58, 3) := by decide +kernel
theorem dX5_take_48 : decode cX5_take 48 = .ok (.athrow, 1) := by decide +kernel
theorem dX5_take_49 : decode cX5_take 49 = .ok (.aload_n 0, 1) := by decide +kernel
theorem dX5_take_50 : decode cX5_take 50 = .ok (.bipush 12, 2) := by decide +kernel
theorem dX5_take_52 : decode cX5_take 52 = .ok (.iload_n 1, 1) := by decide +kernel
theorem dX5_take_53 : decode cX5_take 53 = .ok (.iconst 0, 1) := by decide +kernel
theorem dX5_take_54 : decode cX5_take 54 = .ok (.iconst 0, 1) := by decide +kernel
theorem dX5_take_55 : decode cX5_take 55 = .ok (.iconst 0, 1) := by decide +kernel
theorem dX5_take_56 : decode cX5_take 56 = .ok (.invokevirtual 59, 3) := by decide +kernel
theorem dX5_take_59 : decode cX5_take 59 = .ok (.ireturn, 1) := by decide +kernel
theorem dX5_drop_0 : decode cX5_drop 0 = .ok (.iload_n 1, 1) := by decide +kernel
theorem dX5_drop_1 : decode cX5_drop 1 = .ok (.invokestatic 73, 3) := by decide +kernel
theorem dX5_drop_4 : decode cX5_drop 4 = .ok (.aload_n 0, 1) := by decide +kernel
theorem dX5_drop_5 : decode cX5_drop 5 = .ok (.aload_n 0, 1) := by decide +kernel
theorem dX5_drop_6 : decode cX5_drop 6 = .ok (.invokevirtual 124, 3) := by decide +kernel
theorem dX5_drop_9 : decode cX5_drop 9 = .ok (.iload_n 1, 1) := by decide +kernel
theorem dX5_drop_10 : decode cX5_drop 10 = .ok (.invokevirtual 138, 3) := by decide +kernel
theorem dX5_drop_13 : decode cX5_drop 13 = .ok (.aload_n 0, 1) := by decide +kernel
theorem dX5_drop_14 : decode cX5_drop 14 = .ok (.bipush 13, 2) := by decide +kernel
theorem dX5_drop_16 : decode cX5_drop 16 = .ok (.iload_n 1, 1) := by decide +kernel
theorem dX5_drop_17 : decode cX5_drop 17 = .ok (.iconst 0, 1) := by decide +kernel
theorem dX5_drop_18 : decode cX5_drop 18 = .ok (.iconst 0, 1) := by decide +kernel
theorem dX5_drop_19 : decode cX5_drop 19 = .ok (.iconst 0, 1) := by decide +kernel
theorem dX5_drop_20 : decode cX5_drop 20 = .ok (.invokevirtual 59, 3) := by decide +kernel
theorem dX5_drop_23 : decode cX5_drop 23 = .ok (.ireturn, 1) := by decide +kernel
theorem dX5_give_0 : decode cX5_give 0 = .ok (.aload_n 0, 1) := by decide +kernel
theorem dX5_give_1 : decode cX5_give 1 = .ok (.iload_n 1, 1) := by decide +kernel
theorem dX5_give_2 : decode cX5_give 2 = .ok (.invokevirtual 141, 3) := by decide +kernel
theorem dX5_give_5 : decode cX5_give 5 = .ok (.iload_n 2, 1) := by decide +kernel
theorem dX5_give_6 : decode cX5_give 6 = .ok (.invokestatic 73, 3) := by decide +kernel
theorem dX5_give_9 : decode cX5_give 9 = .ok (.aload_n 0, 1) := by decide +kernel
theorem dX5_give_10 : decode cX5_give 10 = .ok (.invokevirtual 124, 3) := by decide +kernel
theorem dX5_give_13 : decode cX5_give 13 = .ok (.istore_n 3, 1) := by decide +kernel
theorem dX5_give_14 : decode cX5_give 14 = .ok (.aload_n 0, 1) := by decide +kernel
theorem dX5_give_15 : decode cX5_give 15 = .ok (.iload_n 3, 1) := by decide +kernel
theorem dX5_give_16 : decode cX5_give 16 = .ok (.iload_n 1, 1) := by decide +kernel
theorem dX5_give_17 : decode cX5_give 17 = .ok (.invokevirtual 144, 3) := by decide +kernel
theorem dX5_give_20 : decode cX5_give 20 = .ok (.aload_n 0, 1) := by decide +kernel
theorem dX5_give_21 : decode cX5_give 21 = .ok (.iload_n 3, 1) := by decide +kernel
theorem dX5_give_22 : decode cX5_give 22 = .ok (.iload_n 2, 1) := by decide +kernel
theorem dX5_give_23 : decode cX5_give 23 = .ok (.invokevirtual 138, 3) := by decide +kernel
theorem dX5_give_26 : decode cX5_give 26 = .ok (.aload_n 0, 1) := by decide +kernel
theorem dX5_give_27 : decode cX5_give 27 = .ok (.bipush 14, 2) := by decide +kernel
theorem dX5_give_29 : decode cX5_give 29 = .ok (.iload_n 1, 1) := by decide +kernel
theorem dX5_give_30 : decode cX5_give 30 = .ok (.iload_n 2, 1) := by decide +kernel
theorem dX5_give_31 : decode cX5_give 31 = .ok (.iconst 0, 1) := by decide +kernel
theorem dX5_give_32 : decode cX5_give 32 = .ok (.iconst 0, 1) := by decide +kernel
theorem dX5_give_33 : decode cX5_give 33 = .ok (.invokevirtual 59, 3) := by decide +kernel
theorem dX5_give_36 : decode cX5_give 36 = .ok (.ireturn, 1) := by decide +kernel
theorem dX5_pay_0 : decode cX5_pay 0 = .ok (.aload_n 0, 1) := by decide +kernel
theorem dX5_pay_1 : decode cX5_pay 1 = .ok (.iload_n 1, 1) := by decide +kernel
theorem dX5_pay_2 : decode cX5_pay 2 = .ok (.invokevirtual 141, 3) := by decide +kernel
theorem dX5_pay_5 : decode cX5_pay 5 = .ok (.iload_n 2, 1) := by decide +kernel
theorem dX5_pay_6 : decode cX5_pay 6 = .ok (.iconst 1, 1) := by decide +kernel
theorem dX5_pay_7 : decode cX5_pay 7 = .ok (.sipush 1000, 3) := by decide +kernel
theorem dX5_pay_10 : decode cX5_pay 10 = .ok (.invokestatic 63, 3) := by decide +kernel
theorem dX5_pay_13 : decode cX5_pay 13 = .ok (.aload_n 0, 1) := by decide +kernel
theorem dX5_pay_14 : decode cX5_pay 14 = .ok (.invokevirtual 124, 3) := by decide +kernel
theorem dX5_pay_17 : decode cX5_pay 17 = .ok (.istore_n 3, 1) := by decide +kernel
theorem dX5_pay_18 : decode cX5_pay 18 = .ok (.aload_n 0, 1) := by decide +kernel
theorem dX5_pay_19 : decode cX5_pay 19 = .ok (.iload_n 3, 1) := by decide +kernel
theorem dX5_pay_20 : decode cX5_pay 20 = .ok (.iload_n 1, 1) := by decide +kernel
theorem dX5_pay_21 : decode cX5_pay 21 = .ok (.invokevirtual 144, 3) := by decide +kernel
theorem dX5_pay_24 : decode cX5_pay 24 = .ok (.aload_n 0, 1) := by decide +kernel
theorem dX5_pay_25 : decode cX5_pay 25 = .ok (.getfield 19, 3) := by decide +kernel
theorem dX5_pay_28 : decode cX5_pay 28 = .ok (.getfield 78, 3) := by decide +kernel
theorem dX5_pay_31 : decode cX5_pay 31 = .ok (.getfield 147, 3) := by decide +kernel
theorem dX5_pay_34 : decode cX5_pay 34 = .ok (.iload_n 3, 1) := by decide +kernel
theorem dX5_pay_35 : decode cX5_pay 35 = .ok (.iaload, 1) := by decide +kernel
theorem dX5_pay_36 : decode cX5_pay 36 = .ok (.iload_n 2, 1) := by decide +kernel
theorem dX5_pay_37 : decode cX5_pay 37 = .ok (.invokestatic 150, 3) := by decide +kernel
theorem dX5_pay_40 : decode cX5_pay 40 = .ok (.aload_n 0, 1) := by decide +kernel
theorem dX5_pay_41 : decode cX5_pay 41 = .ok (.bipush 15, 2) := by decide +kernel
theorem dX5_pay_43 : decode cX5_pay 43 = .ok (.iload_n 1, 1) := by decide +kernel
theorem dX5_pay_44 : decode cX5_pay 44 = .ok (.iload_n 2, 1) := by decide +kernel
theorem dX5_pay_45 : decode cX5_pay 45 = .ok (.iconst 0, 1) := by decide +kernel
theorem dX5_pay_46 : decode cX5_pay 46 = .ok (.iconst 0, 1) := by decide +kernel
theorem dX5_pay_47 : decode cX5_pay 47 = .ok (.invokevirtual 59, 3) := by decide +kernel
theorem dX5_pay_50 : decode cX5_pay 50 = .ok (.ireturn, 1) := by decide +kernel
theorem dX5_buy_0 : decode cX5_buy 0 = .ok (.iload_n 1, 1) := by decide +kernel
theorem dX5_buy_1 : decode cX5_buy 1 = .ok (.invokestatic 73, 3) := by decide +kernel
theorem dX5_buy_4 : decode cX5_buy 4 = .ok (.aload_n 0, 1) := by decide +kernel
theorem dX5_buy_5 : decode cX5_buy 5 = .ok (.invokevirtual 124, 3) := by decide +kernel
theorem dX5_buy_8 : decode cX5_buy 8 = .ok (.istore_n 2, 1) := by decide +kernel
theorem dX5_buy_9 : decode cX5_buy 9 = .ok (.aload_n 0, 1) := by decide +kernel
theorem dX5_buy_10 : decode cX5_buy 10 = .ok (.getfield 19, 3) := by decide +kernel
theorem dX5_buy_13 : decode cX5_buy 13 = .ok (.getfield 78, 3) := by decide +kernel
theorem dX5_buy_16 : decode cX5_buy 16 = .ok (.getfield 121, 3) := by decide +kernel
theorem dX5_buy_19 : decode cX5_buy 19 = .ok (.iload_n 2, 1) := by decide +kernel
theorem dX5_buy_20 : decode cX5_buy 20 = .ok (.iaload, 1) := by decide +kernel
theorem dX5_buy_21 : decode cX5_buy 21 = .ok (.istore_n 3, 1) := by decide +kernel
theorem dX5_buy_22 : decode cX5_buy 22 = .ok (.aload_n 0, 1) := by decide +kernel
theorem dX5_buy_23 : decode cX5_buy 23 = .ok (.iload_n 3, 1) := by decide +kernel
theorem dX5_buy_24 : decode cX5_buy 24 = .ok (.iload_n 1, 1) := by decide +kernel
theorem dX5_buy_25 : decode cX5_buy 25 = .ok (.invokevirtual 153, 3) := by decide +kernel
theorem dX5_buy_28 : decode cX5_buy 28 = .ok (.aload_n 0, 1) := by decide +kernel
theorem dX5_buy_29 : decode cX5_buy 29 = .ok (.getfield 19, 3) := by decide +kernel
theorem dX5_buy_32 : decode cX5_buy 32 = .ok (.getfield 40, 3) := by decide +kernel
theorem dX5_buy_35 : decode cX5_buy 35 = .ok (.getfield 156, 3) := by decide +kernel
theorem dX5_buy_38 : decode cX5_buy 38 = .ok (.iload_n 3, 1) := by decide +kernel
theorem dX5_buy_39 : decode cX5_buy 39 = .ok (.iload_n 1, 1) := by decide +kernel
theorem dX5_buy_40 : decode cX5_buy 40 = .ok (.invokestatic 133, 3) := by decide +kernel
theorem dX5_buy_43 : decode cX5_buy 43 = .ok (.iaload, 1) := by decide +kernel
theorem dX5_buy_44 : decode cX5_buy 44 = .ok (.ifCond .gt 13, 3) := by decide +kernel
theorem dX5_buy_47 : decode cX5_buy 47 = .ok (.new 54, 3) := by decide +kernel
theorem dX5_buy_50 : decode cX5_buy 50 = .ok (.dup, 1) := by decide +kernel
theorem dX5_buy_51 : decode cX5_buy 51 = .ok (.ldc 159, 2) := by decide +kernel
theorem dX5_buy_53 : decode cX5_buy 53 = .ok (.invokespecial 58, 3) := by decide +kernel
theorem dX5_buy_56 : decode cX5_buy 56 = .ok (.athrow, 1) := by decide +kernel
theorem dX5_buy_57 : decode cX5_buy 57 = .ok (.aload_n 0, 1) := by decide +kernel
theorem dX5_buy_58 : decode cX5_buy 58 = .ok (.getfield 19, 3) := by decide +kernel
theorem dX5_buy_61 : decode cX5_buy 61 = .ok (.getfield 78, 3) := by decide +kernel
theorem dX5_buy_64 : decode cX5_buy 64 = .ok (.getfield 147, 3) := by decide +kernel
theorem dX5_buy_67 : decode cX5_buy 67 = .ok (.iload_n 2, 1) := by decide +kernel
theorem dX5_buy_68 : decode cX5_buy 68 = .ok (.iaload, 1) := by decide +kernel
theorem dX5_buy_69 : decode cX5_buy 69 = .ok (.aload_n 0, 1) := by decide +kernel
theorem dX5_buy_70 : decode cX5_buy 70 = .ok (.getfield 19, 3) := by decide +kernel
theorem dX5_buy_73 : decode cX5_buy 73 = .ok (.getfield 40, 3) := by decide +kernel
theorem dX5_buy_76 : decode cX5_buy 76 = .ok (.getfield 161, 3) := by decide +kernel
theorem dX5_buy_79 : decode cX5_buy 79 = .ok (.iload_n 3, 1) := by decide +kernel
theorem dX5_buy_80 : decode cX5_buy 80 = .ok (.iload_n 1, 1) := by decide +kernel
theorem dX5_buy_81 : decode cX5_buy 81 = .ok (.invokestatic 133, 3) := by decide +kernel
theorem dX5_buy_84 : decode cX5_buy 84 = .ok (.iaload, 1) := by decide +kernel
theorem dX5_buy_85 : decode cX5_buy 85 = .ok (.invokestatic 150, 3) := by decide +kernel
theorem dX5_buy_88 : decode cX5_buy 88 = .ok (.aload_n 0, 1) := by decide +kernel
theorem dX5_buy_89 : decode cX5_buy 89 = .ok (.bipush 16, 2) := by decide +kernel
theorem dX5_buy_91 : decode cX5_buy 91 = .ok (.iload_n 1, 1) := by decide +kernel
theorem dX5_buy_92 : decode cX5_buy 92 = .ok (.iconst 0, 1) := by decide +kernel
theorem dX5_buy_93 : decode cX5_buy 93 = .ok (.iconst 0, 1) := by decide +kernel
theorem dX5_buy_94 : decode cX5_buy 94 = .ok (.iconst 0, 1) := by decide +kernel
theorem dX5_buy_95 : decode cX5_buy 95 = .ok (.invokevirtual 59, 3) := by decide +kernel
theorem dX5_buy_98 : decode cX5_buy 98 = .ok (.ireturn, 1) := by decide +kernel
theorem dX5_sell_0 : decode cX5_sell 0 = .ok (.iload_n 1, 1) := by decide +kernel
theorem dX5_sell_1 : decode cX5_sell 1 = .ok (.invokestatic 73, 3) := by decide +kernel
theorem dX5_sell_4 : decode cX5_sell 4 = .ok (.aload_n 0, 1) := by decide +kernel
theorem dX5_sell_5 : decode cX5_sell 5 = .ok (.invokevirtual 124, 3) := by decide +kernel
theorem dX5_sell_8 : decode cX5_sell 8 = .ok (.istore_n 2, 1) := by decide +kernel
theorem dX5_sell_9 : decode cX5_sell 9 = .ok (.aload_n 0, 1) := by decide +kernel
theorem dX5_sell_10 : decode cX5_sell 10 = .ok (.getfield 19, 3) := by decide +kernel
theorem dX5_sell_13 : decode cX5_sell 13 = .ok (.getfield 78, 3) := by decide +kernel
theorem dX5_sell_16 : decode cX5_sell 16 = .ok (.getfield 121, 3) := by decide +kernel
theorem dX5_sell_19 : decode cX5_sell 19 = .ok (.iload_n 2, 1) := by decide +kernel
theorem dX5_sell_20 : decode cX5_sell 20 = .ok (.iaload, 1) := by decide +kernel
theorem dX5_sell_21 : decode cX5_sell 21 = .ok (.istore_n 3, 1) := by decide +kernel
theorem dX5_sell_22 : decode cX5_sell 22 = .ok (.aload_n 0, 1) := by decide +kernel
theorem dX5_sell_23 : decode cX5_sell 23 = .ok (.iload_n 3, 1) := by decide +kernel
theorem dX5_sell_24 : decode cX5_sell 24 = .ok (.iload_n 1, 1) := by decide +kernel
theorem dX5_sell_25 : decode cX5_sell 25 = .ok (.invokevirtual 153, 3) := by decide +kernel
theorem dX5_sell_28 : decode cX5_sell 28 = .ok (.aload_n 0, 1) := by decide +kernel
theorem dX5_sell_29 : decode cX5_sell 29 = .ok (.iload_n 2, 1) := by decide +kernel
theorem dX5_sell_30 : decode cX5_sell 30 = .ok (.iload_n 1, 1) := by decide +kernel
theorem dX5_sell_31 : decode cX5_sell 31 = .ok (.invokevirtual 138, 3) := by decide +kernel
theorem dX5_sell_34 : decode cX5_sell 34 = .ok (.aload_n 0, 1) := by decide +kernel
theorem dX5_sell_35 : decode cX5_sell 35 = .ok (.getfield 19, 3) := by decide +kernel
theorem dX5_sell_38 : decode cX5_sell 38 = .ok (.getfield 40, 3) := by decide +kernel
theorem dX5_sell_41 : decode cX5_sell 41 = .ok (.getfield 164, 3) := by decide +kernel
theorem dX5_sell_44 : decode cX5_sell 44 = .ok (.iload_n 3, 1) := by decide +kernel
theorem dX5_sell_45 : decode cX5_sell 45 = .ok (.iaload, 1) := by decide +kernel
theorem dX5_sell_46 : decode cX5_sell 46 = .ok (.aload_n 0, 1) := by decide +kernel
theorem dX5_sell_47 : decode cX5_sell 47 = .ok (.getfield 19, 3) := by decide +kernel
theorem dX5_sell_50 : decode cX5_sell 50 = .ok (.getfield 40, 3) := by decide +kernel
theorem dX5_sell_53 : decode cX5_sell 53 = .ok (.iload_n 3, 1) := by decide +kernel
theorem dX5_sell_54 : decode cX5_sell 54 = .ok (.iload_n 1, 1) := by decide +kernel
theorem dX5_sell_55 : decode cX5_sell 55 = .ok (.invokevirtual 167, 3) := by decide +kernel
theorem dX5_sell_58 : decode cX5_sell 58 = .ok (.invokestatic 150, 3) := by decide +kernel
theorem dX5_sell_61 : decode cX5_sell 61 = .ok (.aload_n 0, 1) := by decide +kernel
theorem dX5_sell_62 : decode cX5_sell 62 = .ok (.bipush 17, 2) := by decide +kernel
theorem dX5_sell_64 : decode cX5_sell 64 = .ok (.iload_n 1, 1) := by decide +kernel
theorem dX5_sell_65 : decode cX5_sell 65 = .ok (.iconst 0, 1) := by decide +kernel
theorem dX5_sell_66 : decode cX5_sell 66 = .ok (.iconst 0, 1) := by decide +kernel
theorem dX5_sell_67 : decode cX5_sell 67 = .ok (.iconst 0, 1) := by decide +kernel
theorem dX5_sell_68 : decode cX5_sell 68 = .ok (.invokevirtual 59, 3) := by decide +kernel
theorem dX5_sell_71 : decode cX5_sell 71 = .ok (.ireturn, 1) := by decide +kernel
theorem dX5_attack_0 : decode cX5_attack 0 = .ok (.aload_n 0, 1) := by decide +kernel
theorem dX5_attack_1 : decode cX5_attack 1 = .ok (.iload_n 1, 1) := by decide +kernel
theorem dX5_attack_2 : decode cX5_attack 2 = .ok (.invokevirtual 141, 3) := by decide +kernel
theorem dX5_attack_5 : decode cX5_attack 5 = .ok (.aload_n 0, 1) := by decide +kernel
theorem dX5_attack_6 : decode cX5_attack 6 = .ok (.aload_n 0, 1) := by decide +kernel
theorem dX5_attack_7 : decode cX5_attack 7 = .ok (.invokevirtual 124, 3) := by decide +kernel
theorem dX5_attack_10 : decode cX5_attack 10 = .ok (.iload_n 1, 1) := by decide +kernel
theorem dX5_attack_11 : decode cX5_attack 11 = .ok (.invokevirtual 144, 3) := by decide +kernel
theorem dX5_attack_14 : decode cX5_attack 14 = .ok (.aload_n 0, 1) := by decide +kernel
theorem dX5_attack_15 : decode cX5_attack 15 = .ok (.bipush 18, 2) := by decide +kernel
theorem dX5_attack_17 : decode cX5_attack 17 = .ok (.iload_n 1, 1) := by decide +kernel
theorem dX5_attack_18 : decode cX5_attack 18 = .ok (.iconst 0, 1) := by decide +kernel
theorem dX5_attack_19 : decode cX5_attack 19 = .ok (.iconst 0, 1) := by decide +kernel
theorem dX5_attack_20 : decode cX5_attack 20 = .ok (.iconst 0, 1) := by decide +kernel
theorem dX5_attack_21 : decode cX5_attack 21 = .ok (.invokevirtual 59, 3) := by decide +kernel
theorem dX5_attack_24 : decode cX5_attack 24 = .ok (.ireturn, 1) := by decide +kernel
theorem dX5_rest_0 : decode cX5_rest 0 = .ok (.aload_n 0, 1) := by decide +kernel
theorem dX5_rest_1 : decode cX5_rest 1 = .ok (.invokevirtual 124, 3) := by decide +kernel
theorem dX5_rest_4 : decode cX5_rest 4 = .ok (.pop, 1) := by decide +kernel
theorem dX5_rest_5 : decode cX5_rest 5 = .ok (.aload_n 0, 1) := by decide +kernel
theorem dX5_rest_6 : decode cX5_rest 6 = .ok (.bipush 19, 2) := by decide +kernel
theorem dX5_rest_8 : decode cX5_rest 8 = .ok (.iconst 0, 1) := by decide +kernel
theorem dX5_rest_9 : decode cX5_rest 9 = .ok (.iconst 0, 1) := by decide +kernel
theorem dX5_rest_10 : decode cX5_rest 10 = .ok (.iconst 0, 1) := by decide +kernel
theorem dX5_rest_11 : decode cX5_rest 11 = .ok (.iconst 0, 1) := by decide +kernel
theorem dX5_rest_12 : decode cX5_rest 12 = .ok (.invokevirtual 59, 3) := by decide +kernel
theorem dX5_rest_15 : decode cX5_rest 15 = .ok (.ireturn, 1) := by decide +kernel
theorem dX5_turn_0 : decode cX5_turn 0 = .ok (.aload_n 0, 1) := by decide +kernel
theorem dX5_turn_1 : decode cX5_turn 1 = .ok (.getfield 19, 3) := by decide +kernel
theorem dX5_turn_4 : decode cX5_turn 4 = .ok (.getfield 78, 3) := by decide +kernel
theorem dX5_turn_7 : decode cX5_turn 7 = .ok (.invokevirtual 170, 3) := by decide +kernel
theorem dX5_turn_10 : decode cX5_turn 10 = .ok (.ireturn, 1) := by decide +kernel
theorem dX5_readyAt_0 : decode cX5_readyAt 0 = .ok (.aload_n 0, 1) := by decide +kernel
theorem dX5_readyAt_1 : decode cX5_readyAt 1 = .ok (.iload_n 1, 1) := by decide +kernel
theorem dX5_readyAt_2 : decode cX5_readyAt 2 = .ok (.invokevirtual 141, 3) := by decide +kernel
theorem dX5_readyAt_5 : decode cX5_readyAt 5 = .ok (.aload_n 0, 1) := by decide +kernel
theorem dX5_readyAt_6 : decode cX5_readyAt 6 = .ok (.getfield 19, 3) := by decide +kernel
theorem dX5_readyAt_9 : decode cX5_readyAt 9 = .ok (.getfield 78, 3) := by decide +kernel
theorem dX5_readyAt_12 : decode cX5_readyAt 12 = .ok (.getfield 173, 3) := by decide +kernel
theorem dX5_readyAt_15 : decode cX5_readyAt 15 = .ok (.iload_n 1, 1) := by decide +kernel
theorem dX5_readyAt_16 : decode cX5_readyAt 16 = .ok (.iaload, 1) := by decide +kernel
theorem dX5_readyAt_17 : decode cX5_readyAt 17 = .ok (.ireturn, 1) := by decide +kernel
theorem dX5_roomOf_0 : decode cX5_roomOf 0 = .ok (.aload_n 0, 1) := by decide +kernel
theorem dX5_roomOf_1 : decode cX5_roomOf 1 = .ok (.iload_n 1, 1) := by decide +kernel
theorem dX5_roomOf_2 : decode cX5_roomOf 2 = .ok (.invokevirtual 141, 3) := by decide +kernel
theorem dX5_roomOf_5 : decode cX5_roomOf 5 = .ok (.aload_n 0, 1) := by decide +kernel
theorem dX5_roomOf_6 : decode cX5_roomOf 6 = .ok (.getfield 19, 3) := by decide +kernel
theorem dX5_roomOf_9 : decode cX5_roomOf 9 = .ok (.getfield 78, 3) := by decide +kernel
theorem dX5_roomOf_12 : decode cX5_roomOf 12 = .ok (.getfield 121, 3) := by decide +kernel
theorem dX5_roomOf_15 : decode cX5_roomOf 15 = .ok (.iload_n 1, 1) := by decide +kernel
theorem dX5_roomOf_16 : decode cX5_roomOf 16 = .ok (.iaload, 1) := by decide +kernel
theorem dX5_roomOf_17 : decode cX5_roomOf 17 = .ok (.ireturn, 1) := by decide +kernel
theorem dX5_coinsOf_0 : decode cX5_coinsOf 0 = .ok (.aload_n 0, 1) := by decide +kernel
theorem dX5_coinsOf_1 : decode cX5_coinsOf 1 = .ok (.iload_n 1, 1) := by decide +kernel
theorem dX5_coinsOf_2 : decode cX5_coinsOf 2 = .ok (.invokevirtual 141, 3) := by decide +kernel
theorem dX5_coinsOf_5 : decode cX5_coinsOf 5 = .ok (.aload_n 0, 1) := by decide +kernel
theorem dX5_coinsOf_6 : decode cX5_coinsOf 6 = .ok (.getfield 19, 3) := by decide +kernel
theorem dX5_coinsOf_9 : decode cX5_coinsOf 9 = .ok (.getfield 78, 3) := by decide +kernel
theorem dX5_coinsOf_12 : decode cX5_coinsOf 12 = .ok (.getfield 147, 3) := by decide +kernel
theorem dX5_coinsOf_15 : decode cX5_coinsOf 15 = .ok (.iload_n 1, 1) := by decide +kernel
theorem dX5_coinsOf_16 : decode cX5_coinsOf 16 = .ok (.iaload, 1) := by decide +kernel
theorem dX5_coinsOf_17 : decode cX5_coinsOf 17 = .ok (.ireturn, 1) := by decide +kernel
theorem dX5_healthOf_0 : decode cX5_healthOf 0 = .ok (.aload_n 0, 1) := by decide +kernel
theorem dX5_healthOf_1 : decode cX5_healthOf 1 = .ok (.iload_n 1, 1) := by decide +kernel
theorem dX5_healthOf_2 : decode cX5_healthOf 2 = .ok (.invokevirtual 141, 3) := by decide +kernel
theorem dX5_healthOf_5 : decode cX5_healthOf 5 = .ok (.aload_n 0, 1) := by decide +kernel
theorem dX5_healthOf_6 : decode cX5_healthOf 6 = .ok (.getfield 19, 3) := by decide +kernel
theorem dX5_healthOf_9 : decode cX5_healthOf 9 = .ok (.getfield 78, 3) := by decide +kernel
theorem dX5_healthOf_12 : decode cX5_healthOf 12 = .ok (.getfield 176, 3) := by decide +kernel
theorem dX5_healthOf_15 : decode cX5_healthOf 15 = .ok (.iload_n 1, 1) := by decide +kernel
theorem dX5_healthOf_16 : decode cX5_healthOf 16 = .ok (.iaload, 1) := by decide +kernel
theorem dX5_healthOf_17 : decode cX5_healthOf 17 = .ok (.ireturn, 1) := by decide +kernel
theorem dX5_goodsOf_0 : decode cX5_goodsOf 0 = .ok (.aload_n 0, 1) := by decide +kernel
theorem dX5_goodsOf_1 : decode cX5_goodsOf 1 = .ok (.iload_n 1, 1) := by decide +kernel
theorem dX5_goodsOf_2 : decode cX5_goodsOf 2 = .ok (.invokevirtual 141, 3) := by decide +kernel
theorem dX5_goodsOf_5 : decode cX5_goodsOf 5 = .ok (.iload_n 2, 1) := by decide +kernel
theorem dX5_goodsOf_6 : decode cX5_goodsOf 6 = .ok (.invokestatic 73, 3) := by decide +kernel
theorem dX5_goodsOf_9 : decode cX5_goodsOf 9 = .ok (.aload_n 0, 1) := by decide +kernel
theorem dX5_goodsOf_10 : decode cX5_goodsOf 10 = .ok (.getfield 19, 3) := by decide +kernel
theorem dX5_goodsOf_13 : decode cX5_goodsOf 13 = .ok (.getfield 78, 3) := by decide +kernel
theorem dX5_goodsOf_16 : decode cX5_goodsOf 16 = .ok (.getfield 179, 3) := by decide +kernel
theorem dX5_goodsOf_19 : decode cX5_goodsOf 19 = .ok (.iload_n 1, 1) := by decide +kernel
theorem dX5_goodsOf_20 : decode cX5_goodsOf 20 = .ok (.iload_n 2, 1) := by decide +kernel
theorem dX5_goodsOf_21 : decode cX5_goodsOf 21 = .ok (.invokestatic 133, 3) := by decide +kernel
theorem dX5_goodsOf_24 : decode cX5_goodsOf 24 = .ok (.iaload, 1) := by decide +kernel
theorem dX5_goodsOf_25 : decode cX5_goodsOf 25 = .ok (.ireturn, 1) := by decide +kernel
theorem dX5_heard_0 : decode cX5_heard 0 = .ok (.aload_n 0, 1) := by decide +kernel
theorem dX5_heard_1 : decode cX5_heard 1 = .ok (.iload_n 1, 1) := by decide +kernel
theorem dX5_heard_2 : decode cX5_heard 2 = .ok (.invokevirtual 141, 3) := by decide +kernel
theorem dX5_heard_5 : decode cX5_heard 5 = .ok (.iload_n 2, 1) := by decide +kernel
theorem dX5_heard_6 : decode cX5_heard 6 = .ok (.ifCond .lt 19, 3) := by decide +kernel
theorem dX5_heard_9 : decode cX5_heard 9 = .ok (.iload_n 2, 1) := by decide +kernel
theorem dX5_heard_10 : decode cX5_heard 10 = .ok (.aload_n 0, 1) := by decide +kernel
theorem dX5_heard_11 : decode cX5_heard 11 = .ok (.getfield 19, 3) := by decide +kernel
theorem dX5_heard_14 : decode cX5_heard 14 = .ok (.getfield 78, 3) := by decide +kernel
theorem dX5_heard_17 : decode cX5_heard 17 = .ok (.getfield 182, 3) := by decide +kernel
theorem dX5_heard_20 : decode cX5_heard 20 = .ok (.iload_n 1, 1) := by decide +kernel
theorem dX5_heard_21 : decode cX5_heard 21 = .ok (.iaload, 1) := by decide +kernel
theorem dX5_heard_22 : decode cX5_heard 22 = .ok (.if_icmp .lt 13, 3) := by decide +kernel
theorem dX5_heard_25 : decode cX5_heard 25 = .ok (.new 185, 3) := by decide +kernel
theorem dX5_heard_28 : decode cX5_heard 28 = .ok (.dup, 1) := by decide +kernel
theorem dX5_heard_29 : decode cX5_heard 29 = .ok (.ldc 187, 2) := by decide +kernel
theorem dX5_heard_31 : decode cX5_heard 31 = .ok (.invokespecial 189, 3) := by decide +kernel
theorem dX5_heard_34 : decode cX5_heard 34 = .ok (.athrow, 1) := by decide +kernel
theorem dX5_heard_35 : decode cX5_heard 35 = .ok (.aload_n 0, 1) := by decide +kernel
theorem dX5_heard_36 : decode cX5_heard 36 = .ok (.getfield 19, 3) := by decide +kernel
theorem dX5_heard_39 : decode cX5_heard 39 = .ok (.getfield 78, 3) := by decide +kernel
theorem dX5_heard_42 : decode cX5_heard 42 = .ok (.getfield 190, 3) := by decide +kernel
theorem dX5_heard_45 : decode cX5_heard 45 = .ok (.iload_n 1, 1) := by decide +kernel
theorem dX5_heard_46 : decode cX5_heard 46 = .ok (.bipush 6, 2) := by decide +kernel
theorem dX5_heard_48 : decode cX5_heard 48 = .ok (.imul, 1) := by decide +kernel
theorem dX5_heard_49 : decode cX5_heard 49 = .ok (.iload_n 2, 1) := by decide +kernel
theorem dX5_heard_50 : decode cX5_heard 50 = .ok (.iadd, 1) := by decide +kernel
theorem dX5_heard_51 : decode cX5_heard 51 = .ok (.iaload, 1) := by decide +kernel
theorem dX5_heard_52 : decode cX5_heard 52 = .ok (.ireturn, 1) := by decide +kernel
theorem dX5_stageOf_0 : decode cX5_stageOf 0 = .ok (.aload_n 0, 1) := by decide +kernel
theorem dX5_stageOf_1 : decode cX5_stageOf 1 = .ok (.iload_n 1, 1) := by decide +kernel
theorem dX5_stageOf_2 : decode cX5_stageOf 2 = .ok (.invokevirtual 141, 3) := by decide +kernel
theorem dX5_stageOf_5 : decode cX5_stageOf 5 = .ok (.aload_n 0, 1) := by decide +kernel
theorem dX5_stageOf_6 : decode cX5_stageOf 6 = .ok (.iload_n 2, 1) := by decide +kernel
theorem dX5_stageOf_7 : decode cX5_stageOf 7 = .ok (.invokevirtual 99, 3) := by decide +kernel
theorem dX5_stageOf_10 : decode cX5_stageOf 10 = .ok (.aload_n 0, 1) := by decide +kernel
theorem dX5_stageOf_11 : decode cX5_stageOf 11 = .ok (.getfield 19, 3) := by decide +kernel
theorem dX5_stageOf_14 : decode cX5_stageOf 14 = .ok (.getfield 78, 3) := by decide +kernel
theorem dX5_stageOf_17 : decode cX5_stageOf 17 = .ok (.getfield 193, 3) := by decide +kernel
theorem dX5_stageOf_20 : decode cX5_stageOf 20 = .ok (.iload_n 1, 1) := by decide +kernel
theorem dX5_stageOf_21 : decode cX5_stageOf 21 = .ok (.iload_n 2, 1) := by decide +kernel
theorem dX5_stageOf_22 : decode cX5_stageOf 22 = .ok (.invokestatic 196, 3) := by decide +kernel
theorem dX5_stageOf_25 : decode cX5_stageOf 25 = .ok (.iaload, 1) := by decide +kernel
theorem dX5_stageOf_26 : decode cX5_stageOf 26 = .ok (.ireturn, 1) := by decide +kernel
theorem dX5_exit_0 : decode cX5_exit 0 = .ok (.iload_n 1, 1) := by decide +kernel
theorem dX5_exit_1 : decode cX5_exit 1 = .ok (.invokestatic 26, 3) := by decide +kernel
theorem dX5_exit_4 : decode cX5_exit 4 = .ok (.iload_n 2, 1) := by decide +kernel
theorem dX5_exit_5 : decode cX5_exit 5 = .ok (.invokestatic 30, 3) := by decide +kernel
theorem dX5_exit_8 : decode cX5_exit 8 = .ok (.aload_n 0, 1) := by decide +kernel
theorem dX5_exit_9 : decode cX5_exit 9 = .ok (.getfield 19, 3) := by decide +kernel
theorem dX5_exit_12 : decode cX5_exit 12 = .ok (.getfield 40, 3) := by decide +kernel
theorem dX5_exit_15 : decode cX5_exit 15 = .ok (.iload_n 1, 1) := by decide +kernel
theorem dX5_exit_16 : decode cX5_exit 16 = .ok (.iload_n 2, 1) := by decide +kernel
theorem dX5_exit_17 : decode cX5_exit 17 = .ok (.invokevirtual 44, 3) := by decide +kernel
theorem dX5_exit_20 : decode cX5_exit 20 = .ok (.ireturn, 1) := by decide +kernel
theorem dX5_distance_0 : decode cX5_distance 0 = .ok (.iload_n 1, 1) := by decide +kernel
theorem dX5_distance_1 : decode cX5_distance 1 = .ok (.invokestatic 26, 3) := by decide +kernel
theorem dX5_distance_4 : decode cX5_distance 4 = .ok (.iload_n 2, 1) := by decide +kernel
theorem dX5_distance_5 : decode cX5_distance 5 = .ok (.invokestatic 26, 3) := by decide +kernel
theorem dX5_distance_8 : decode cX5_distance 8 = .ok (.aload_n 0, 1) := by decide +kernel
theorem dX5_distance_9 : decode cX5_distance 9 = .ok (.getfield 19, 3) := by decide +kernel
theorem dX5_distance_12 : decode cX5_distance 12 = .ok (.getfield 40, 3) := by decide +kernel
theorem dX5_distance_15 : decode cX5_distance 15 = .ok (.iload_n 1, 1) := by decide +kernel
theorem dX5_distance_16 : decode cX5_distance 16 = .ok (.iload_n 2, 1) := by decide +kernel
theorem dX5_distance_17 : decode cX5_distance 17 = .ok (.invokevirtual 199, 3) := by decide +kernel
theorem dX5_distance_20 : decode cX5_distance 20 = .ok (.ireturn, 1) := by decide +kernel
theorem dX5_onFloor_0 : decode cX5_onFloor 0 = .ok (.iload_n 1, 1) := by decide +kernel
theorem dX5_onFloor_1 : decode cX5_onFloor 1 = .ok (.invokestatic 26, 3) := by decide +kernel
theorem dX5_onFloor_4 : decode cX5_onFloor 4 = .ok (.iload_n 2, 1) := by decide +kernel
theorem dX5_onFloor_5 : decode cX5_onFloor 5 = .ok (.invokestatic 73, 3) := by decide +kernel
theorem dX5_onFloor_8 : decode cX5_onFloor 8 = .ok (.aload_n 0, 1) := by decide +kernel
theorem dX5_onFloor_9 : decode cX5_onFloor 9 = .ok (.getfield 19, 3) := by decide +kernel
theorem dX5_onFloor_12 : decode cX5_onFloor 12 = .ok (.getfield 40, 3) := by decide +kernel
theorem dX5_onFloor_15 : decode cX5_onFloor 15 = .ok (.getfield 130, 3) := by decide +kernel
theorem dX5_onFloor_18 : decode cX5_onFloor 18 = .ok (.iload_n 1, 1) := by decide +kernel
theorem dX5_onFloor_19 : decode cX5_onFloor 19 = .ok (.iload_n 2, 1) := by decide +kernel
theorem dX5_onFloor_20 : decode cX5_onFloor 20 = .ok (.invokestatic 133, 3) := by decide +kernel
theorem dX5_onFloor_23 : decode cX5_onFloor 23 = .ok (.iaload, 1) := by decide +kernel
theorem dX5_onFloor_24 : decode cX5_onFloor 24 = .ok (.ireturn, 1) := by decide +kernel
theorem dX5_stockOf_0 : decode cX5_stockOf 0 = .ok (.iload_n 1, 1) := by decide +kernel
theorem dX5_stockOf_1 : decode cX5_stockOf 1 = .ok (.invokestatic 26, 3) := by decide +kernel
theorem dX5_stockOf_4 : decode cX5_stockOf 4 = .ok (.iload_n 2, 1) := by decide +kernel
theorem dX5_stockOf_5 : decode cX5_stockOf 5 = .ok (.invokestatic 73, 3) := by decide +kernel
theorem dX5_stockOf_8 : decode cX5_stockOf 8 = .ok (.aload_n 0, 1) := by decide +kernel
theorem dX5_stockOf_9 : decode cX5_stockOf 9 = .ok (.getfield 19, 3) := by decide +kernel
theorem dX5_stockOf_12 : decode cX5_stockOf 12 = .ok (.getfield 40, 3) := by decide +kernel
theorem dX5_stockOf_15 : decode cX5_stockOf 15 = .ok (.getfield 156, 3) := by decide +kernel
theorem dX5_stockOf_18 : decode cX5_stockOf 18 = .ok (.iload_n 1, 1) := by decide +kernel
theorem dX5_stockOf_19 : decode cX5_stockOf 19 = .ok (.iload_n 2, 1) := by decide +kernel
theorem dX5_stockOf_20 : decode cX5_stockOf 20 = .ok (.invokestatic 133, 3) := by decide +kernel
theorem dX5_stockOf_23 : decode cX5_stockOf 23 = .ok (.iaload, 1) := by decide +kernel
theorem dX5_stockOf_24 : decode cX5_stockOf 24 = .ok (.ireturn, 1) := by decide +kernel
theorem dX5_tillOf_0 : decode cX5_tillOf 0 = .ok (.iload_n 1, 1) := by decide +kernel
theorem dX5_tillOf_1 : decode cX5_tillOf 1 = .ok (.invokestatic 26, 3) := by decide +kernel
theorem dX5_tillOf_4 : decode cX5_tillOf 4 = .ok (.aload_n 0, 1) := by decide +kernel
theorem dX5_tillOf_5 : decode cX5_tillOf 5 = .ok (.getfield 19, 3) := by decide +kernel
theorem dX5_tillOf_8 : decode cX5_tillOf 8 = .ok (.getfield 40, 3) := by decide +kernel
theorem dX5_tillOf_11 : decode cX5_tillOf 11 = .ok (.getfield 164, 3) := by decide +kernel
theorem dX5_tillOf_14 : decode cX5_tillOf 14 = .ok (.iload_n 1, 1) := by decide +kernel
theorem dX5_tillOf_15 : decode cX5_tillOf 15 = .ok (.iaload, 1) := by decide +kernel
theorem dX5_tillOf_16 : decode cX5_tillOf 16 = .ok (.ireturn, 1) := by decide +kernel
theorem dX5_purse_0 : decode cX5_purse 0 = .ok (.aload_n 0, 1) := by decide +kernel
theorem dX5_purse_1 : decode cX5_purse 1 = .ok (.getfield 19, 3) := by decide +kernel
theorem dX5_purse_4 : decode cX5_purse 4 = .ok (.getfield 202, 3) := by decide +kernel
theorem dX5_purse_7 : decode cX5_purse 7 = .ok (.ireturn, 1) := by decide +kernel
theorem dX5_allCoins_0 : decode cX5_allCoins 0 = .ok (.aload_n 0, 1) := by decide +kernel
theorem dX5_allCoins_1 : decode cX5_allCoins 1 = .ok (.getfield 19, 3) := by decide +kernel
theorem dX5_allCoins_4 : decode cX5_allCoins 4 = .ok (.getfield 202, 3) := by decide +kernel
theorem dX5_allCoins_7 : decode cX5_allCoins 7 = .ok (.aload_n 0, 1) := by decide +kernel
theorem dX5_allCoins_8 : decode cX5_allCoins 8 = .ok (.getfield 19, 3) := by decide +kernel
theorem dX5_allCoins_11 : decode cX5_allCoins 11 = .ok (.getfield 78, 3) := by decide +kernel
theorem dX5_allCoins_14 : decode cX5_allCoins 14 = .ok (.invokevirtual 205, 3) := by decide +kernel
theorem dX5_allCoins_17 : decode cX5_allCoins 17 = .ok (.iadd, 1) := by decide +kernel
theorem dX5_allCoins_18 : decode cX5_allCoins 18 = .ok (.aload_n 0, 1) := by decide +kernel
theorem dX5_allCoins_19 : decode cX5_allCoins 19 = .ok (.getfield 19, 3) := by decide +kernel
theorem dX5_allCoins_22 : decode cX5_allCoins 22 = .ok (.getfield 40, 3) := by decide +kernel
theorem dX5_allCoins_25 : decode cX5_allCoins 25 = .ok (.invokevirtual 208, 3) := by decide +kernel
theorem dX5_allCoins_28 : decode cX5_allCoins 28 = .ok (.iadd, 1) := by decide +kernel
theorem dX5_allCoins_29 : decode cX5_allCoins 29 = .ok (.ireturn, 1) := by decide +kernel
theorem dX5_allGoods_0 : decode cX5_allGoods 0 = .ok (.iload_n 1, 1) := by decide +kernel
theorem dX5_allGoods_1 : decode cX5_allGoods 1 = .ok (.invokestatic 73, 3) := by decide +kernel
theorem dX5_allGoods_4 : decode cX5_allGoods 4 = .ok (.aload_n 0, 1) := by decide +kernel
theorem dX5_allGoods_5 : decode cX5_allGoods 5 = .ok (.getfield 19, 3) := by decide +kernel
theorem dX5_allGoods_8 : decode cX5_allGoods 8 = .ok (.getfield 78, 3) := by decide +kernel
theorem dX5_allGoods_11 : decode cX5_allGoods 11 = .ok (.iload_n 1, 1) := by decide +kernel
theorem dX5_allGoods_12 : decode cX5_allGoods 12 = .ok (.invokevirtual 211, 3) := by decide +kernel
theorem dX5_allGoods_15 : decode cX5_allGoods 15 = .ok (.aload_n 0, 1) := by decide +kernel
theorem dX5_allGoods_16 : decode cX5_allGoods 16 = .ok (.getfield 19, 3) := by decide +kernel
theorem dX5_allGoods_19 : decode cX5_allGoods 19 = .ok (.getfield 40, 3) := by decide +kernel
theorem dX5_allGoods_22 : decode cX5_allGoods 22 = .ok (.iload_n 1, 1) := by decide +kernel
theorem dX5_allGoods_23 : decode cX5_allGoods 23 = .ok (.invokevirtual 214, 3) := by decide +kernel
theorem dX5_allGoods_26 : decode cX5_allGoods 26 = .ok (.iadd, 1) := by decide +kernel
theorem dX5_allGoods_27 : decode cX5_allGoods 27 = .ok (.ireturn, 1) := by decide +kernel
theorem dX5_calls_0 : decode cX5_calls 0 = .ok (.aload_n 0, 1) := by decide +kernel
theorem dX5_calls_1 : decode cX5_calls 1 = .ok (.getfield 10, 3) := by decide +kernel
theorem dX5_calls_4 : decode cX5_calls 4 = .ok (.getfield 215, 3) := by decide +kernel
theorem dX5_calls_7 : decode cX5_calls 7 = .ok (.ireturn, 1) := by decide +kernel
theorem dX5_roomAfter_0 : decode cX5_roomAfter 0 = .ok (.aload_n 0, 1) := by decide +kernel
theorem dX5_roomAfter_1 : decode cX5_roomAfter 1 = .ok (.iload_n 1, 1) := by decide +kernel
theorem dX5_roomAfter_2 : decode cX5_roomAfter 2 = .ok (.invokevirtual 216, 3) := by decide +kernel
theorem dX5_roomAfter_5 : decode cX5_roomAfter 5 = .ok (.astore_n 3, 1) := by decide +kernel
theorem dX5_roomAfter_6 : decode cX5_roomAfter 6 = .ok (.aload_n 3, 1) := by decide +kernel
theorem dX5_roomAfter_7 : decode cX5_roomAfter 7 = .ok (.iload_n 2, 1) := by decide +kernel
theorem dX5_roomAfter_8 : decode cX5_roomAfter 8 = .ok (.invokestatic 220, 3) := by decide +kernel
theorem dX5_roomAfter_11 : decode cX5_roomAfter 11 = .ok (.aload_n 3, 1) := by decide +kernel
theorem dX5_roomAfter_12 : decode cX5_roomAfter 12 = .ok (.getfield 78, 3) := by decide +kernel
theorem dX5_roomAfter_15 : decode cX5_roomAfter 15 = .ok (.getfield 121, 3) := by decide +kernel
theorem dX5_roomAfter_18 : decode cX5_roomAfter 18 = .ok (.iload_n 2, 1) := by decide +kernel
theorem dX5_roomAfter_19 : decode cX5_roomAfter 19 = .ok (.iaload, 1) := by decide +kernel
theorem dX5_roomAfter_20 : decode cX5_roomAfter 20 = .ok (.ireturn, 1) := by decide +kernel
theorem dX5_coinsAfter_0 : decode cX5_coinsAfter 0 = .ok (.aload_n 0, 1) := by decide +kernel
theorem dX5_coinsAfter_1 : decode cX5_coinsAfter 1 = .ok (.iload_n 1, 1) := by decide +kernel
theorem dX5_coinsAfter_2 : decode cX5_coinsAfter 2 = .ok (.invokevirtual 216, 3) := by decide +kernel
theorem dX5_coinsAfter_5 : decode cX5_coinsAfter 5 = .ok (.astore_n 3, 1) := by decide +kernel
theorem dX5_coinsAfter_6 : decode cX5_coinsAfter 6 = .ok (.aload_n 3, 1) := by decide +kernel
theorem dX5_coinsAfter_7 : decode cX5_coinsAfter 7 = .ok (.iload_n 2, 1) := by decide +kernel
theorem dX5_coinsAfter_8 : decode cX5_coinsAfter 8 = .ok (.invokestatic 220, 3) := by decide +kernel
theorem dX5_coinsAfter_11 : decode cX5_coinsAfter 11 = .ok (.aload_n 3, 1) := by decide +kernel
theorem dX5_coinsAfter_12 : decode cX5_coinsAfter 12 = .ok (.getfield 78, 3) := by decide +kernel
theorem dX5_coinsAfter_15 : decode cX5_coinsAfter 15 = .ok (.getfield 147, 3) := by decide +kernel
theorem dX5_coinsAfter_18 : decode cX5_coinsAfter 18 = .ok (.iload_n 2, 1) := by decide +kernel
theorem dX5_coinsAfter_19 : decode cX5_coinsAfter 19 = .ok (.iaload, 1) := by decide +kernel
theorem dX5_coinsAfter_20 : decode cX5_coinsAfter 20 = .ok (.ireturn, 1) := by decide +kernel
theorem dX5_turnAfter_0 : decode cX5_turnAfter 0 = .ok (.aload_n 0, 1) := by decide +kernel
theorem dX5_turnAfter_1 : decode cX5_turnAfter 1 = .ok (.iload_n 1, 1) := by decide +kernel
theorem dX5_turnAfter_2 : decode cX5_turnAfter 2 = .ok (.invokevirtual 216, 3) := by decide +kernel
theorem dX5_turnAfter_5 : decode cX5_turnAfter 5 = .ok (.getfield 78, 3) := by decide +kernel
theorem dX5_turnAfter_8 : decode cX5_turnAfter 8 = .ok (.invokevirtual 170, 3) := by decide +kernel
theorem dX5_turnAfter_11 : decode cX5_turnAfter 11 = .ok (.ireturn, 1) := by decide +kernel
theorem dX5_keep_0 : decode cX5_keep 0 = .ok (.aload_n 0, 1) := by decide +kernel
theorem dX5_keep_1 : decode cX5_keep 1 = .ok (.getfield 10, 3) := by decide +kernel
theorem dX5_keep_4 : decode cX5_keep 4 = .ok (.iload_n 1, 1) := by decide +kernel
theorem dX5_keep_5 : decode cX5_keep 5 = .ok (.iload_n 2, 1) := by decide +kernel
theorem dX5_keep_6 : decode cX5_keep 6 = .ok (.iload_n 3, 1) := by decide +kernel
theorem dX5_keep_7 : decode cX5_keep 7 = .ok (.iload 4, 2) := by decide +kernel
theorem dX5_keep_9 : decode cX5_keep 9 = .ok (.iload 5, 2) := by decide +kernel
theorem dX5_keep_11 : decode cX5_keep 11 = .ok (.invokevirtual 224, 3) := by decide +kernel
theorem dX5_keep_14 : decode cX5_keep 14 = .ok (.aload_n 0, 1) := by decide +kernel
theorem dX5_keep_15 : decode cX5_keep 15 = .ok (.getfield 19, 3) := by decide +kernel
theorem dX5_keep_18 : decode cX5_keep 18 = .ok (.iload_n 1, 1) := by decide +kernel
theorem dX5_keep_19 : decode cX5_keep 19 = .ok (.iload_n 2, 1) := by decide +kernel
theorem dX5_keep_20 : decode cX5_keep 20 = .ok (.iload_n 3, 1) := by decide +kernel
theorem dX5_keep_21 : decode cX5_keep 21 = .ok (.iload 4, 2) := by decide +kernel
theorem dX5_keep_23 : decode cX5_keep 23 = .ok (.iload 5, 2) := by decide +kernel
theorem dX5_keep_25 : decode cX5_keep 25 = .ok (.invokevirtual 228, 3) := by decide +kernel
theorem dX5_keep_28 : decode cX5_keep 28 = .ok (.ireturn, 1) := by decide +kernel
theorem dX5_worldAfter_0 : decode cX5_worldAfter 0 = .ok (.iload_n 1, 1) := by decide +kernel
theorem dX5_worldAfter_1 : decode cX5_worldAfter 1 = .ok (.ifCond .lt 14, 3) := by decide +kernel
theorem dX5_worldAfter_4 : decode cX5_worldAfter 4 = .ok (.iload_n 1, 1) := by decide +kernel
theorem dX5_worldAfter_5 : decode cX5_worldAfter 5 = .ok (.aload_n 0, 1) := by decide +kernel
theorem dX5_worldAfter_6 : decode cX5_worldAfter 6 = .ok (.getfield 10, 3) := by decide +kernel
theorem dX5_worldAfter_9 : decode cX5_worldAfter 9 = .ok (.getfield 215, 3) := by decide +kernel
theorem dX5_worldAfter_12 : decode cX5_worldAfter 12 = .ok (.if_icmp .le 13, 3) := by decide +kernel
theorem dX5_worldAfter_15 : decode cX5_worldAfter 15 = .ok (.new 185, 3) := by decide +kernel
theorem dX5_worldAfter_18 : decode cX5_worldAfter 18 = .ok (.dup, 1) := by decide +kernel
theorem dX5_worldAfter_19 : decode cX5_worldAfter 19 = .ok (.ldc 231, 2) := by decide +kernel
theorem dX5_worldAfter_21 : decode cX5_worldAfter 21 = .ok (.invokespecial 189, 3) := by decide +kernel
theorem dX5_worldAfter_24 : decode cX5_worldAfter 24 = .ok (.athrow, 1) := by decide +kernel
theorem dX5_worldAfter_25 : decode cX5_worldAfter 25 = .ok (.aload_n 0, 1) := by decide +kernel
theorem dX5_worldAfter_26 : decode cX5_worldAfter 26 = .ok (.getfield 23, 3) := by decide +kernel
theorem dX5_worldAfter_29 : decode cX5_worldAfter 29 = .ok (.invokevirtual 233, 3) := by decide +kernel
theorem dX5_worldAfter_32 : decode cX5_worldAfter 32 = .ok (.iconst 0, 1) := by decide +kernel
theorem dX5_worldAfter_33 : decode cX5_worldAfter 33 = .ok (.istore_n 2, 1) := by decide +kernel
theorem dX5_worldAfter_34 : decode cX5_worldAfter 34 = .ok (.iload_n 2, 1) := by decide +kernel
theorem dX5_worldAfter_35 : decode cX5_worldAfter 35 = .ok (.iload_n 1, 1) := by decide +kernel
theorem dX5_worldAfter_36 : decode cX5_worldAfter 36 = .ok (.if_icmp .ge 74, 3) := by decide +kernel
theorem dX5_worldAfter_39 : decode cX5_worldAfter 39 = .ok (.iload_n 2, 1) := by decide +kernel
theorem dX5_worldAfter_40 : decode cX5_worldAfter 40 = .ok (.iconst 5, 1) := by decide +kernel
theorem dX5_worldAfter_41 : decode cX5_worldAfter 41 = .ok (.imul, 1) := by decide +kernel
theorem dX5_worldAfter_42 : decode cX5_worldAfter 42 = .ok (.istore_n 3, 1) := by decide +kernel
theorem dX5_worldAfter_43 : decode cX5_worldAfter 43 = .ok (.aload_n 0, 1) := by decide +kernel
theorem dX5_worldAfter_44 : decode cX5_worldAfter 44 = .ok (.getfield 23, 3) := by decide +kernel
theorem dX5_worldAfter_47 : decode cX5_worldAfter 47 = .ok (.aload_n 0, 1) := by decide +kernel
theorem dX5_worldAfter_48 : decode cX5_worldAfter 48 = .ok (.getfield 10, 3) := by decide +kernel
theorem dX5_worldAfter_51 : decode cX5_worldAfter 51 = .ok (.getfield 236, 3) := by decide +kernel
theorem dX5_worldAfter_54 : decode cX5_worldAfter 54 = .ok (.iload_n 3, 1) := by decide +kernel
theorem dX5_worldAfter_55 : decode cX5_worldAfter 55 = .ok (.iaload, 1) := by decide +kernel
theorem dX5_worldAfter_56 : decode cX5_worldAfter 56 = .ok (.aload_n 0, 1) := by decide +kernel
theorem dX5_worldAfter_57 : decode cX5_worldAfter 57 = .ok (.getfield 10, 3) := by decide +kernel
theorem dX5_worldAfter_60 : decode cX5_worldAfter 60 = .ok (.getfield 236, 3) := by decide +kernel
theorem dX5_worldAfter_63 : decode cX5_worldAfter 63 = .ok (.iload_n 3, 1) := by decide +kernel
theorem dX5_worldAfter_64 : decode cX5_worldAfter 64 = .ok (.iconst 1, 1) := by decide +kernel
theorem dX5_worldAfter_65 : decode cX5_worldAfter 65 = .ok (.iadd, 1) := by decide +kernel
theorem dX5_worldAfter_66 : decode cX5_worldAfter 66 = .ok (.iaload, 1) := by decide +kernel
theorem dX5_worldAfter_67 : decode cX5_worldAfter 67 = .ok (.aload_n 0, 1) := by decide +kernel
theorem dX5_worldAfter_68 : decode cX5_worldAfter 68 = .ok (.getfield 10, 3) := by decide +kernel
theorem dX5_worldAfter_71 : decode cX5_worldAfter 71 = .ok (.getfield 236, 3) := by decide +kernel
theorem dX5_worldAfter_74 : decode cX5_worldAfter 74 = .ok (.iload_n 3, 1) := by decide +kernel
theorem dX5_worldAfter_75 : decode cX5_worldAfter 75 = .ok (.iconst 2, 1) := by decide +kernel
theorem dX5_worldAfter_76 : decode cX5_worldAfter 76 = .ok (.iadd, 1) := by decide +kernel
theorem dX5_worldAfter_77 : decode cX5_worldAfter 77 = .ok (.iaload, 1) := by decide +kernel
theorem dX5_worldAfter_78 : decode cX5_worldAfter 78 = .ok (.aload_n 0, 1) := by decide +kernel
theorem dX5_worldAfter_79 : decode cX5_worldAfter 79 = .ok (.getfield 10, 3) := by decide +kernel
theorem dX5_worldAfter_82 : decode cX5_worldAfter 82 = .ok (.getfield 236, 3) := by decide +kernel
theorem dX5_worldAfter_85 : decode cX5_worldAfter 85 = .ok (.iload_n 3, 1) := by decide +kernel
theorem dX5_worldAfter_86 : decode cX5_worldAfter 86 = .ok (.iconst 3, 1) := by decide +kernel
theorem dX5_worldAfter_87 : decode cX5_worldAfter 87 = .ok (.iadd, 1) := by decide +kernel
theorem dX5_worldAfter_88 : decode cX5_worldAfter 88 = .ok (.iaload, 1) := by decide +kernel
theorem dX5_worldAfter_89 : decode cX5_worldAfter 89 = .ok (.aload_n 0, 1) := by decide +kernel
theorem dX5_worldAfter_90 : decode cX5_worldAfter 90 = .ok (.getfield 10, 3) := by decide +kernel
theorem dX5_worldAfter_93 : decode cX5_worldAfter 93 = .ok (.getfield 236, 3) := by decide +kernel
theorem dX5_worldAfter_96 : decode cX5_worldAfter 96 = .ok (.iload_n 3, 1) := by decide +kernel
theorem dX5_worldAfter_97 : decode cX5_worldAfter 97 = .ok (.iconst 4, 1) := by decide +kernel
theorem dX5_worldAfter_98 : decode cX5_worldAfter 98 = .ok (.iadd, 1) := by decide +kernel
theorem dX5_worldAfter_99 : decode cX5_worldAfter 99 = .ok (.iaload, 1) := by decide +kernel
theorem dX5_worldAfter_100 : decode cX5_worldAfter 100 = .ok (.invokevirtual 228, 3) := by decide +kernel
theorem dX5_worldAfter_103 : decode cX5_worldAfter 103 = .ok (.pop, 1) := by decide +kernel
theorem dX5_worldAfter_104 : decode cX5_worldAfter 104 = .ok (.iinc 2 1, 3) := by decide +kernel
theorem dX5_worldAfter_107 : decode cX5_worldAfter 107 = .ok (.goto (-73), 3) := by decide +kernel
theorem dX5_worldAfter_110 : decode cX5_worldAfter 110 = .ok (.aload_n 0, 1) := by decide +kernel
theorem dX5_worldAfter_111 : decode cX5_worldAfter 111 = .ok (.getfield 23, 3) := by decide +kernel
theorem dX5_worldAfter_114 : decode cX5_worldAfter 114 = .ok (.areturn, 1) := by decide +kernel
theorem dX5_needRoom_0 : decode cX5_needRoom 0 = .ok (.iload_n 0, 1) := by decide +kernel
theorem dX5_needRoom_1 : decode cX5_needRoom 1 = .ok (.ifCond .lt 9, 3) := by decide +kernel
theorem dX5_needRoom_4 : decode cX5_needRoom 4 = .ok (.iload_n 0, 1) := by decide +kernel
theorem dX5_needRoom_5 : decode cX5_needRoom 5 = .ok (.bipush 8, 2) := by decide +kernel
theorem dX5_needRoom_7 : decode cX5_needRoom 7 = .ok (.if_icmp .lt 13, 3) := by decide +kernel
theorem dX5_needRoom_10 : decode cX5_needRoom 10 = .ok (.new 185, 3) := by decide +kernel
theorem dX5_needRoom_13 : decode cX5_needRoom 13 = .ok (.dup, 1) := by decide +kernel
theorem dX5_needRoom_14 : decode cX5_needRoom 14 = .ok (.ldc 239, 2) := by decide +kernel
theorem dX5_needRoom_16 : decode cX5_needRoom 16 = .ok (.invokespecial 189, 3) := by decide +kernel
theorem dX5_needRoom_19 : decode cX5_needRoom 19 = .ok (.athrow, 1) := by decide +kernel
theorem dX5_needRoom_20 : decode cX5_needRoom 20 = .ok (.return_, 1) := by decide +kernel
theorem dX5_needDirection_0 : decode cX5_needDirection 0 = .ok (.iload_n 0, 1) := by decide +kernel
theorem dX5_needDirection_1 : decode cX5_needDirection 1 = .ok (.ifCond .lt 8, 3) := by decide +kernel
theorem dX5_needDirection_4 : decode cX5_needDirection 4 = .ok (.iload_n 0, 1) := by decide +kernel
theorem dX5_needDirection_5 : decode cX5_needDirection 5 = .ok (.iconst 4, 1) := by decide +kernel
theorem dX5_needDirection_6 : decode cX5_needDirection 6 = .ok (.if_icmp .lt 13, 3) := by decide +kernel
theorem dX5_needDirection_9 : decode cX5_needDirection 9 = .ok (.new 185, 3) := by decide +kernel
theorem dX5_needDirection_12 : decode cX5_needDirection 12 = .ok (.dup, 1) := by decide +kernel
theorem dX5_needDirection_13 : decode cX5_needDirection 13 = .ok (.ldc 241, 2) := by decide +kernel
theorem dX5_needDirection_15 : decode cX5_needDirection 15 = .ok (.invokespecial 189, 3) := by decide +kernel
theorem dX5_needDirection_18 : decode cX5_needDirection 18 = .ok (.athrow, 1) := by decide +kernel
theorem dX5_needDirection_19 : decode cX5_needDirection 19 = .ok (.return_, 1) := by decide +kernel
theorem dX5_needKind_0 : decode cX5_needKind 0 = .ok (.iload_n 0, 1) := by decide +kernel
theorem dX5_needKind_1 : decode cX5_needKind 1 = .ok (.ifCond .lt 8, 3) := by decide +kernel
theorem dX5_needKind_4 : decode cX5_needKind 4 = .ok (.iload_n 0, 1) := by decide +kernel
theorem dX5_needKind_5 : decode cX5_needKind 5 = .ok (.iconst 5, 1) := by decide +kernel
theorem dX5_needKind_6 : decode cX5_needKind 6 = .ok (.if_icmp .lt 13, 3) := by decide +kernel
theorem dX5_needKind_9 : decode cX5_needKind 9 = .ok (.new 185, 3) := by decide +kernel
theorem dX5_needKind_12 : decode cX5_needKind 12 = .ok (.dup, 1) := by decide +kernel
theorem dX5_needKind_13 : decode cX5_needKind 13 = .ok (.ldc 243, 2) := by decide +kernel
theorem dX5_needKind_15 : decode cX5_needKind 15 = .ok (.invokespecial 189, 3) := by decide +kernel
theorem dX5_needKind_18 : decode cX5_needKind 18 = .ok (.athrow, 1) := by decide +kernel
theorem dX5_needKind_19 : decode cX5_needKind 19 = .ok (.return_, 1) := by decide +kernel
theorem dX5_needPlayer_0 : decode cX5_needPlayer 0 = .ok (.aload_n 0, 1) := by decide +kernel
theorem dX5_needPlayer_1 : decode cX5_needPlayer 1 = .ok (.getfield 19, 3) := by decide +kernel
theorem dX5_needPlayer_4 : decode cX5_needPlayer 4 = .ok (.iload_n 1, 1) := by decide +kernel
theorem dX5_needPlayer_5 : decode cX5_needPlayer 5 = .ok (.invokestatic 220, 3) := by decide +kernel
theorem dX5_needPlayer_8 : decode cX5_needPlayer 8 = .ok (.return_, 1) := by decide +kernel
theorem dX5_needPlayerIn_0 : decode cX5_needPlayerIn 0 = .ok (.iload_n 1, 1) := by decide +kernel
theorem dX5_needPlayerIn_1 : decode cX5_needPlayerIn 1 = .ok (.ifCond .lt 14, 3) := by decide +kernel
theorem dX5_needPlayerIn_4 : decode cX5_needPlayerIn 4 = .ok (.iload_n 1, 1) := by decide +kernel
theorem dX5_needPlayerIn_5 : decode cX5_needPlayerIn 5 = .ok (.aload_n 0, 1) := by decide +kernel
theorem dX5_needPlayerIn_6 : decode cX5_needPlayerIn 6 = .ok (.getfield 78, 3) := by decide +kernel
theorem dX5_needPlayerIn_9 : decode cX5_needPlayerIn 9 = .ok (.getfield 82, 3) := by decide +kernel
theorem dX5_needPlayerIn_12 : decode cX5_needPlayerIn 12 = .ok (.if_icmp .lt 13, 3) := by decide +kernel
theorem dX5_needPlayerIn_15 : decode cX5_needPlayerIn 15 = .ok (.new 185, 3) := by decide +kernel
theorem dX5_needPlayerIn_18 : decode cX5_needPlayerIn 18 = .ok (.dup, 1) := by decide +kernel
theorem dX5_needPlayerIn_19 : decode cX5_needPlayerIn 19 = .ok (.ldc 245, 2) := by decide +kernel
theorem dX5_needPlayerIn_21 : decode cX5_needPlayerIn 21 = .ok (.invokespecial 189, 3) := by decide +kernel
theorem dX5_needPlayerIn_24 : decode cX5_needPlayerIn 24 = .ok (.athrow, 1) := by decide +kernel
theorem dX5_needPlayerIn_25 : decode cX5_needPlayerIn 25 = .ok (.return_, 1) := by decide +kernel
theorem dX5_needQuest_0 : decode cX5_needQuest 0 = .ok (.iload_n 1, 1) := by decide +kernel
theorem dX5_needQuest_1 : decode cX5_needQuest 1 = .ok (.ifCond .lt 17, 3) := by decide +kernel
theorem dX5_needQuest_4 : decode cX5_needQuest 4 = .ok (.iload_n 1, 1) := by decide +kernel
theorem dX5_needQuest_5 : decode cX5_needQuest 5 = .ok (.aload_n 0, 1) := by decide +kernel
theorem dX5_needQuest_6 : decode cX5_needQuest 6 = .ok (.getfield 19, 3) := by decide +kernel
theorem dX5_needQuest_9 : decode cX5_needQuest 9 = .ok (.getfield 90, 3) := by decide +kernel
theorem dX5_needQuest_12 : decode cX5_needQuest 12 = .ok (.getfield 94, 3) := by decide +kernel
theorem dX5_needQuest_15 : decode cX5_needQuest 15 = .ok (.if_icmp .lt 13, 3) := by decide +kernel
theorem dX5_needQuest_18 : decode cX5_needQuest 18 = .ok (.new 185, 3) := by decide +kernel
theorem dX5_needQuest_21 : decode cX5_needQuest 21 = .ok (.dup, 1) := by decide +kernel
theorem dX5_needQuest_22 : decode cX5_needQuest 22 = .ok (.ldc 247, 2) := by decide +kernel
theorem dX5_needQuest_24 : decode cX5_needQuest 24 = .ok (.invokespecial 189, 3) := by decide +kernel
theorem dX5_needQuest_27 : decode cX5_needQuest 27 = .ok (.athrow, 1) := by decide +kernel
theorem dX5_needQuest_28 : decode cX5_needQuest 28 = .ok (.return_, 1) := by decide +kernel
theorem dX5_needRange_0 : decode cX5_needRange 0 = .ok (.iload_n 0, 1) := by decide +kernel
theorem dX5_needRange_1 : decode cX5_needRange 1 = .ok (.iload_n 1, 1) := by decide +kernel
theorem dX5_needRange_2 : decode cX5_needRange 2 = .ok (.if_icmp .lt 8, 3) := by decide +kernel
theorem dX5_needRange_5 : decode cX5_needRange 5 = .ok (.iload_n 0, 1) := by decide +kernel
theorem dX5_needRange_6 : decode cX5_needRange 6 = .ok (.iload_n 2, 1) := by decide +kernel
theorem dX5_needRange_7 : decode cX5_needRange 7 = .ok (.if_icmp .le 13, 3) := by decide +kernel
theorem dX5_needRange_10 : decode cX5_needRange 10 = .ok (.new 33, 3) := by decide +kernel
theorem dX5_needRange_13 : decode cX5_needRange 13 = .ok (.dup, 1) := by decide +kernel
theorem dX5_needRange_14 : decode cX5_needRange 14 = .ok (.ldc 249, 2) := by decide +kernel
theorem dX5_needRange_16 : decode cX5_needRange 16 = .ok (.invokespecial 37, 3) := by decide +kernel
theorem dX5_needRange_19 : decode cX5_needRange 19 = .ok (.athrow, 1) := by decide +kernel
theorem dX5_needRange_20 : decode cX5_needRange 20 = .ok (.return_, 1) := by decide +kernel
theorem dX5_needStageTarget_0 : decode cX5_needStageTarget 0 = .ok (.iload_n 0, 1) := by decide +kernel
theorem dX5_needStageTarget_1 : decode cX5_needStageTarget 1 = .ok (.ifCond .eq 8, 3) := by decide +kernel
theorem dX5_needStageTarget_4 : decode cX5_needStageTarget 4 = .ok (.iload_n 0, 1) := by decide +kernel
theorem dX5_needStageTarget_5 : decode cX5_needStageTarget 5 = .ok (.iconst 2, 1) := by decide +kernel
theorem dX5_needStageTarget_6 : decode cX5_needStageTarget 6 = .ok (.if_icmp .ne 10, 3) := by decide +kernel
theorem dX5_needStageTarget_9 : decode cX5_needStageTarget 9 = .ok (.iload_n 1, 1) := by decide +kernel
theorem dX5_needStageTarget_10 : decode cX5_needStageTarget 10 = .ok (.invokestatic 26, 3) := by decide +kernel
theorem dX5_needStageTarget_13 : decode cX5_needStageTarget 13 = .ok (.goto 39, 3) := by decide +kernel
theorem dX5_needStageTarget_16 : decode cX5_needStageTarget 16 = .ok (.iload_n 0, 1) := by decide +kernel
theorem dX5_needStageTarget_17 : decode cX5_needStageTarget 17 = .ok (.iconst 1, 1) := by decide +kernel
theorem dX5_needStageTarget_18 : decode cX5_needStageTarget 18 = .ok (.if_icmp .ne 10, 3) := by decide +kernel
theorem dX5_needStageTarget_21 : decode cX5_needStageTarget 21 = .ok (.iload_n 1, 1) := by decide +kernel
theorem dX5_needStageTarget_22 : decode cX5_needStageTarget 22 = .ok (.invokestatic 73, 3) := by decide +kernel
theorem dX5_needStageTarget_25 : decode cX5_needStageTarget 25 = .ok (.goto 27, 3) := by decide +kernel
theorem dX5_needStageTarget_28 : decode cX5_needStageTarget 28 = .ok (.iload_n 0, 1) := by decide +kernel
theorem dX5_needStageTarget_29 : decode cX5_needStageTarget 29 = .ok (.iconst 3, 1) := by decide +kernel
theorem dX5_needStageTarget_30 : decode cX5_needStageTarget 30 = .ok (.if_icmp .ne 22, 3) := by decide +kernel
theorem dX5_needStageTarget_33 : decode cX5_needStageTarget 33 = .ok (.iload_n 1, 1) := by decide +kernel
theorem dX5_needStageTarget_34 : decode cX5_needStageTarget 34 = .ok (.ifCond .lt 8, 3) := by decide +kernel
theorem dX5_needStageTarget_37 : decode cX5_needStageTarget 37 = .ok (.iload_n 1, 1) := by decide +kernel
theorem dX5_needStageTarget_38 : decode cX5_needStageTarget 38 = .ok (.iconst 4, 1) := by decide +kernel
theorem dX5_needStageTarget_39 : decode cX5_needStageTarget 39 = .ok (.if_icmp .lt 13, 3) := by decide +kernel
theorem dX5_needStageTarget_42 : decode cX5_needStageTarget 42 = .ok (.new 185, 3) := by decide +kernel
theorem dX5_needStageTarget_45 : decode cX5_needStageTarget 45 = .ok (.dup, 1) := by decide +kernel
theorem dX5_needStageTarget_46 : decode cX5_needStageTarget 46 = .ok (.ldc 245, 2) := by decide +kernel
theorem dX5_needStageTarget_48 : decode cX5_needStageTarget 48 = .ok (.invokespecial 189, 3) := by decide +kernel
theorem dX5_needStageTarget_51 : decode cX5_needStageTarget 51 = .ok (.athrow, 1) := by decide +kernel
theorem dX5_needStageTarget_52 : decode cX5_needStageTarget 52 = .ok (.return_, 1) := by decide +kernel
theorem dX5_needStageMeasure_0 : decode cX5_needStageMeasure 0 = .ok (.iload_n 0, 1) := by decide +kernel
theorem dX5_needStageMeasure_1 : decode cX5_needStageMeasure 1 = .ok (.iconst 1, 1) := by decide +kernel
theorem dX5_needStageMeasure_2 : decode cX5_needStageMeasure 2 = .ok (.if_icmp .ne 13, 3) := by decide +kernel
theorem dX5_needStageMeasure_5 : decode cX5_needStageMeasure 5 = .ok (.iload_n 1, 1) := by decide +kernel
theorem dX5_needStageMeasure_6 : decode cX5_needStageMeasure 6 = .ok (.iconst 1, 1) := by decide +kernel
theorem dX5_needStageMeasure_7 : decode cX5_needStageMeasure 7 = .ok (.bipush 9, 2) := by decide +kernel
theorem dX5_needStageMeasure_9 : decode cX5_needStageMeasure 9 = .ok (.invokestatic 63, 3) := by decide +kernel
theorem dX5_needStageMeasure_12 : decode cX5_needStageMeasure 12 = .ok (.goto 15, 3) := by decide +kernel
theorem dX5_needStageMeasure_15 : decode cX5_needStageMeasure 15 = .ok (.iload_n 0, 1) := by decide +kernel
theorem dX5_needStageMeasure_16 : decode cX5_needStageMeasure 16 = .ok (.iconst 2, 1) := by decide +kernel
theorem dX5_needStageMeasure_17 : decode cX5_needStageMeasure 17 = .ok (.if_icmp .ne 10, 3) := by decide +kernel
theorem dX5_needStageMeasure_20 : decode cX5_needStageMeasure 20 = .ok (.iload_n 1, 1) := by decide +kernel
theorem dX5_needStageMeasure_21 : decode cX5_needStageMeasure 21 = .ok (.iconst 0, 1) := by decide +kernel
theorem dX5_needStageMeasure_22 : decode cX5_needStageMeasure 22 = .ok (.bipush 99, 2) := by decide +kernel
theorem dX5_needStageMeasure_24 : decode cX5_needStageMeasure 24 = .ok (.invokestatic 63, 3) := by decide +kernel
theorem dX5_needStageMeasure_27 : decode cX5_needStageMeasure 27 = .ok (.return_, 1) := by decide +kernel
theorem dX5_needActor_0 : decode cX5_needActor 0 = .ok (.aload_n 0, 1) := by decide +kernel
theorem dX5_needActor_1 : decode cX5_needActor 1 = .ok (.getfield 19, 3) := by decide +kernel
theorem dX5_needActor_4 : decode cX5_needActor 4 = .ok (.getfield 78, 3) := by decide +kernel
theorem dX5_needActor_7 : decode cX5_needActor 7 = .ok (.invokevirtual 170, 3) := by decide +kernel
theorem dX5_needActor_10 : decode cX5_needActor 10 = .ok (.istore_n 1, 1) := by decide +kernel
theorem dX5_needActor_11 : decode cX5_needActor 11 = .ok (.iload_n 1, 1) := by decide +kernel
theorem dX5_needActor_12 : decode cX5_needActor 12 = .ok (.iconst (-1), 1) := by decide +kernel
theorem dX5_needActor_13 : decode cX5_needActor 13 = .ok (.if_icmp .ne 13, 3) := by decide +kernel
theorem dX5_needActor_16 : decode cX5_needActor 16 = .ok (.new 54, 3) := by decide +kernel
theorem dX5_needActor_19 : decode cX5_needActor 19 = .ok (.dup, 1) := by decide +kernel
theorem dX5_needActor_20 : decode cX5_needActor 20 = .ok (.ldc 251, 2) := by decide +kernel
theorem dX5_needActor_22 : decode cX5_needActor 22 = .ok (.invokespecial 58, 3) := by decide +kernel
theorem dX5_needActor_25 : decode cX5_needActor 25 = .ok (.athrow, 1) := by decide +kernel
theorem dX5_needActor_26 : decode cX5_needActor 26 = .ok (.iload_n 1, 1) := by decide +kernel
theorem dX5_needActor_27 : decode cX5_needActor 27 = .ok (.ireturn, 1) := by decide +kernel
theorem dX5_needCompany_0 : decode cX5_needCompany 0 = .ok (.iload_n 2, 1) := by decide +kernel
theorem dX5_needCompany_1 : decode cX5_needCompany 1 = .ok (.iload_n 1, 1) := by decide +kernel
theorem dX5_needCompany_2 : decode cX5_needCompany 2 = .ok (.if_icmp .eq 30, 3) := by decide +kernel
theorem dX5_needCompany_5 : decode cX5_needCompany 5 = .ok (.aload_n 0, 1) := by decide +kernel
theorem dX5_needCompany_6 : decode cX5_needCompany 6 = .ok (.getfield 19, 3) := by decide +kernel
theorem dX5_needCompany_9 : decode cX5_needCompany 9 = .ok (.getfield 78, 3) := by decide +kernel
theorem dX5_needCompany_12 : decode cX5_needCompany 12 = .ok (.getfield 121, 3) := by decide +kernel
theorem dX5_needCompany_15 : decode cX5_needCompany 15 = .ok (.iload_n 2, 1) := by decide +kernel
theorem dX5_needCompany_16 : decode cX5_needCompany 16 = .ok (.iaload, 1) := by decide +kernel
theorem dX5_needCompany_17 : decode cX5_needCompany 17 = .ok (.aload_n 0, 1) := by decide +kernel
theorem dX5_needCompany_18 : decode cX5_needCompany 18 = .ok (.getfield 19, 3) := by decide +kernel
theorem dX5_needCompany_21 : decode cX5_needCompany 21 = .ok (.getfield 78, 3) := by decide +kernel
theorem dX5_needCompany_24 : decode cX5_needCompany 24 = .ok (.getfield 121, 3) := by decide +kernel
theorem dX5_needCompany_27 : decode cX5_needCompany 27 = .ok (.iload_n 1, 1) := by decide +kernel
theorem dX5_needCompany_28 : decode cX5_needCompany 28 = .ok (.iaload, 1) := by decide +kernel
theorem dX5_needCompany_29 : decode cX5_needCompany 29 = .ok (.if_icmp .eq 13, 3) := by decide +kernel
theorem dX5_needCompany_32 : decode cX5_needCompany 32 = .ok (.new 54, 3) := by decide +kernel
theorem dX5_needCompany_35 : decode cX5_needCompany 35 = .ok (.dup, 1) := by decide +kernel
theorem dX5_needCompany_36 : decode cX5_needCompany 36 = .ok (.ldc 253, 2) := by decide +kernel
theorem dX5_needCompany_38 : decode cX5_needCompany 38 = .ok (.invokespecial 58, 3) := by decide +kernel
theorem dX5_needCompany_41 : decode cX5_needCompany 41 = .ok (.athrow, 1) := by decide +kernel
theorem dX5_needCompany_42 : decode cX5_needCompany 42 = .ok (.return_, 1) := by decide +kernel
theorem dX5_needOwned_0 : decode cX5_needOwned 0 = .ok (.aload_n 0, 1) := by decide +kernel
theorem dX5_needOwned_1 : decode cX5_needOwned 1 = .ok (.getfield 19, 3) := by decide +kernel
theorem dX5_needOwned_4 : decode cX5_needOwned 4 = .ok (.getfield 78, 3) := by decide +kernel
theorem dX5_needOwned_7 : decode cX5_needOwned 7 = .ok (.getfield 179, 3) := by decide +kernel
theorem dX5_needOwned_10 : decode cX5_needOwned 10 = .ok (.iload_n 1, 1) := by decide +kernel
theorem dX5_needOwned_11 : decode cX5_needOwned 11 = .ok (.iload_n 2, 1) := by decide +kernel
theorem dX5_needOwned_12 : decode cX5_needOwned 12 = .ok (.invokestatic 133, 3) := by decide +kernel
theorem dX5_needOwned_15 : decode cX5_needOwned 15 = .ok (.iaload, 1) := by decide +kernel
theorem dX5_needOwned_16 : decode cX5_needOwned 16 = .ok (.ifCond .gt 13, 3) := by decide +kernel
theorem dX5_needOwned_19 : decode cX5_needOwned 19 = .ok (.new 54, 3) := by decide +kernel
theorem dX5_needOwned_22 : decode cX5_needOwned 22 = .ok (.dup, 1) := by decide +kernel
theorem dX5_needOwned_23 : decode cX5_needOwned 23 = .ok (.ldc 255, 2) := by decide +kernel
theorem dX5_needOwned_25 : decode cX5_needOwned 25 = .ok (.invokespecial 58, 3) := by decide +kernel
theorem dX5_needOwned_28 : decode cX5_needOwned 28 = .ok (.athrow, 1) := by decide +kernel
theorem dX5_needOwned_29 : decode cX5_needOwned 29 = .ok (.return_, 1) := by decide +kernel
theorem dX5_needTrade_0 : decode cX5_needTrade 0 = .ok (.aload_n 0, 1) := by decide +kernel
theorem dX5_needTrade_1 : decode cX5_needTrade 1 = .ok (.getfield 19, 3) := by decide +kernel
theorem dX5_needTrade_4 : decode cX5_needTrade 4 = .ok (.getfield 40, 3) := by decide +kernel
theorem dX5_needTrade_7 : decode cX5_needTrade 7 = .ok (.iload_n 1, 1) := by decide +kernel
theorem dX5_needTrade_8 : decode cX5_needTrade 8 = .ok (.invokevirtual 67, 3) := by decide +kernel
theorem dX5_needTrade_11 : decode cX5_needTrade 11 = .ok (.ifCond .eq 22, 3) := by decide +kernel
theorem dX5_needTrade_14 : decode cX5_needTrade 14 = .ok (.aload_n 0, 1) := by decide +kernel
theorem dX5_needTrade_15 : decode cX5_needTrade 15 = .ok (.getfield 19, 3) := by decide +kernel
theorem dX5_needTrade_18 : decode cX5_needTrade 18 = .ok (.getfield 40, 3) := by decide +kernel
theorem dX5_needTrade_21 : decode cX5_needTrade 21 = .ok (.getfield 161, 3) := by decide +kernel
theorem dX5_needTrade_24 : decode cX5_needTrade 24 = .ok (.iload_n 1, 1) := by decide +kernel
theorem dX5_needTrade_25 : decode cX5_needTrade 25 = .ok (.iload_n 2, 1) := by decide +kernel
theorem dX5_needTrade_26 : decode cX5_needTrade 26 = .ok (.invokestatic 133, 3) := by decide +kernel
theorem dX5_needTrade_29 : decode cX5_needTrade 29 = .ok (.iaload, 1) := by decide +kernel
theorem dX5_needTrade_30 : decode cX5_needTrade 30 = .ok (.ifCond .ne 14, 3) := by decide +kernel
theorem dX5_needTrade_33 : decode cX5_needTrade 33 = .ok (.new 54, 3) := by decide +kernel
theorem dX5_needTrade_36 : decode cX5_needTrade 36 = .ok (.dup, 1) := by decide +kernel
theorem dX5_needTrade_37 : decode cX5_needTrade 37 = .ok (.ldc_w 257, 3) := by decide +kernel
theorem dX5_needTrade_40 : decode cX5_needTrade 40 = .ok (.invokespecial 58, 3) := by decide +kernel
theorem dX5_needTrade_43 : decode cX5_needTrade 43 = .ok (.athrow, 1) := by decide +kernel
theorem dX5_needTrade_44 : decode cX5_needTrade 44 = .ok (.return_, 1) := by decide +kernel
theorem dX5_needCoins_0 : decode cX5_needCoins 0 = .ok (.iload_n 0, 1) := by decide +kernel
theorem dX5_needCoins_1 : decode cX5_needCoins 1 = .ok (.iload_n 1, 1) := by decide +kernel
theorem dX5_needCoins_2 : decode cX5_needCoins 2 = .ok (.if_icmp .ge 14, 3) := by decide +kernel
theorem dX5_needCoins_5 : decode cX5_needCoins 5 = .ok (.new 54, 3) := by decide +kernel
theorem dX5_needCoins_8 : decode cX5_needCoins 8 = .ok (.dup, 1) := by decide +kernel
theorem dX5_needCoins_9 : decode cX5_needCoins 9 = .ok (.ldc_w 259, 3) := by decide +kernel
theorem dX5_needCoins_12 : decode cX5_needCoins 12 = .ok (.invokespecial 58, 3) := by decide +kernel
theorem dX5_needCoins_15 : decode cX5_needCoins 15 = .ok (.athrow, 1) := by decide +kernel
theorem dX5_needCoins_16 : decode cX5_needCoins 16 = .ok (.return_, 1) := by decide +kernel
theorem dX5_opposite_0 : decode cX5_opposite 0 = .ok (.iload_n 0, 1) := by decide +kernel
theorem dX5_opposite_1 : decode cX5_opposite 1 = .ok (.iconst 2, 1) := by decide +kernel
theorem dX5_opposite_2 : decode cX5_opposite 2 = .ok (.iadd, 1) := by decide +kernel
theorem dX5_opposite_3 : decode cX5_opposite 3 = .ok (.iconst 4, 1) := by decide +kernel
theorem dX5_opposite_4 : decode cX5_opposite 4 = .ok (.irem, 1) := by decide +kernel
theorem dX5_opposite_5 : decode cX5_opposite 5 = .ok (.ireturn, 1) := by decide +kernel
theorem dX5_goodsAt_0 : decode cX5_goodsAt 0 = .ok (.iload_n 0, 1) := by decide +kernel
theorem dX5_goodsAt_1 : decode cX5_goodsAt 1 = .ok (.iconst 5, 1) := by decide +kernel
theorem dX5_goodsAt_2 : decode cX5_goodsAt 2 = .ok (.imul, 1) := by decide +kernel
theorem dX5_goodsAt_3 : decode cX5_goodsAt 3 = .ok (.iload_n 1, 1) := by decide +kernel
theorem dX5_goodsAt_4 : decode cX5_goodsAt 4 = .ok (.iadd, 1) := by decide +kernel
theorem dX5_goodsAt_5 : decode cX5_goodsAt 5 = .ok (.ireturn, 1) := by decide +kernel
theorem dX5_reachedAt_0 : decode cX5_reachedAt 0 = .ok (.iload_n 0, 1) := by decide +kernel
theorem dX5_reachedAt_1 : decode cX5_reachedAt 1 = .ok (.iconst 3, 1) := by decide +kernel
theorem dX5_reachedAt_2 : decode cX5_reachedAt 2 = .ok (.imul, 1) := by decide +kernel
theorem dX5_reachedAt_3 : decode cX5_reachedAt 3 = .ok (.iload_n 1, 1) := by decide +kernel
theorem dX5_reachedAt_4 : decode cX5_reachedAt 4 = .ok (.iadd, 1) := by decide +kernel
theorem dX5_reachedAt_5 : decode cX5_reachedAt 5 = .ok (.ireturn, 1) := by decide +kernel
theorem dX5_stageAt_0 : decode cX5_stageAt 0 = .ok (.iload_n 0, 1) := by decide +kernel
theorem dX5_stageAt_1 : decode cX5_stageAt 1 = .ok (.iconst 4, 1) := by decide +kernel
theorem dX5_stageAt_2 : decode cX5_stageAt 2 = .ok (.imul, 1) := by decide +kernel
theorem dX5_stageAt_3 : decode cX5_stageAt 3 = .ok (.iload_n 1, 1) := by decide +kernel
theorem dX5_stageAt_4 : decode cX5_stageAt 4 = .ok (.iadd, 1) := by decide +kernel
theorem dX5_stageAt_5 : decode cX5_stageAt 5 = .ok (.ireturn, 1) := by decide +kernel
theorem dL_draw_0 : decode cL_draw 0 = .ok (.iload_n 1, 1) := by decide +kernel
theorem dL_draw_1 : decode cL_draw 1 = .ok (.aload_n 0, 1) := by decide +kernel
theorem dL_draw_2 : decode cL_draw 2 = .ok (.arraylength, 1) := by decide +kernel
theorem dL_draw_3 : decode cL_draw 3 = .ok (.if_icmp .ge 9, 3) := by decide +kernel
theorem dL_draw_6 : decode cL_draw 6 = .ok (.aload_n 0, 1) := by decide +kernel
theorem dL_draw_7 : decode cL_draw 7 = .ok (.iload_n 1, 1) := by decide +kernel
theorem dL_draw_8 : decode cL_draw 8 = .ok (.iaload, 1) := by decide +kernel
theorem dL_draw_9 : decode cL_draw 9 = .ok (.goto 13, 3) := by decide +kernel
theorem dL_draw_12 : decode cL_draw 12 = .ok (.ldc 7, 2) := by decide +kernel
theorem dL_draw_14 : decode cL_draw 14 = .ok (.iload_n 1, 1) := by decide +kernel
theorem dL_draw_15 : decode cL_draw 15 = .ok (.bipush 53, 2) := by decide +kernel
theorem dL_draw_17 : decode cL_draw 17 = .ok (.iadd, 1) := by decide +kernel
theorem dL_draw_18 : decode cL_draw 18 = .ok (.imul, 1) := by decide +kernel
theorem dL_draw_19 : decode cL_draw 19 = .ok (.ldc 8, 2) := by decide +kernel
theorem dL_draw_21 : decode cL_draw 21 = .ok (.iadd, 1) := by decide +kernel
theorem dL_draw_22 : decode cL_draw 22 = .ok (.istore_n 3, 1) := by decide +kernel
theorem dL_draw_23 : decode cL_draw 23 = .ok (.iload_n 3, 1) := by decide +kernel
theorem dL_draw_24 : decode cL_draw 24 = .ok (.ldc 9, 2) := by decide +kernel
theorem dL_draw_26 : decode cL_draw 26 = .ok (.iand, 1) := by decide +kernel
theorem dL_draw_27 : decode cL_draw 27 = .ok (.iload_n 2, 1) := by decide +kernel
theorem dL_draw_28 : decode cL_draw 28 = .ok (.irem, 1) := by decide +kernel
theorem dL_draw_29 : decode cL_draw 29 = .ok (.ireturn, 1) := by decide +kernel
theorem dL_acts_0 : decode cL_acts 0 = .ok (.iload_n 1, 1) := by decide +kernel
theorem dL_acts_1 : decode cL_acts 1 = .ok (.ifCond .ne 11, 3) := by decide +kernel
theorem dL_acts_4 : decode cL_acts 4 = .ok (.aload_n 0, 1) := by decide +kernel
theorem dL_acts_5 : decode cL_acts 5 = .ok (.iload_n 2, 1) := by decide +kernel
theorem dL_acts_6 : decode cL_acts 6 = .ok (.invokevirtual 10, 3) := by decide +kernel
theorem dL_acts_9 : decode cL_acts 9 = .ok (.goto 130, 3) := by decide +kernel
theorem dL_acts_12 : decode cL_acts 12 = .ok (.iload_n 1, 1) := by decide +kernel
theorem dL_acts_13 : decode cL_acts 13 = .ok (.iconst 1, 1) := by decide +kernel
theorem dL_acts_14 : decode cL_acts 14 = .ok (.if_icmp .ne 11, 3) := by decide +kernel
theorem dL_acts_17 : decode cL_acts 17 = .ok (.aload_n 0, 1) := by decide +kernel
theorem dL_acts_18 : decode cL_acts 18 = .ok (.iload_n 3, 1) := by decide +kernel
theorem dL_acts_19 : decode cL_acts 19 = .ok (.invokevirtual 16, 3) := by decide +kernel
theorem dL_acts_22 : decode cL_acts 22 = .ok (.goto 117, 3) := by decide +kernel
theorem dL_acts_25 : decode cL_acts 25 = .ok (.iload_n 1, 1) := by decide +kernel
theorem dL_acts_26 : decode cL_acts 26 = .ok (.iconst 2, 1) := by decide +kernel
theorem dL_acts_27 : decode cL_acts 27 = .ok (.if_icmp .ne 11, 3) := by decide +kernel
theorem dL_acts_30 : decode cL_acts 30 = .ok (.aload_n 0, 1) := by decide +kernel
theorem dL_acts_31 : decode cL_acts 31 = .ok (.iload_n 3, 1) := by decide +kernel
theorem dL_acts_32 : decode cL_acts 32 = .ok (.invokevirtual 19, 3) := by decide +kernel
theorem dL_acts_35 : decode cL_acts 35 = .ok (.goto 104, 3) := by decide +kernel
theorem dL_acts_38 : decode cL_acts 38 = .ok (.iload_n 1, 1) := by decide +kernel
theorem dL_acts_39 : decode cL_acts 39 = .ok (.iconst 3, 1) := by decide +kernel
theorem dL_acts_40 : decode cL_acts 40 = .ok (.if_icmp .ne 11, 3) := by decide +kernel
theorem dL_acts_43 : decode cL_acts 43 = .ok (.aload_n 0, 1) := by decide +kernel
theorem dL_acts_44 : decode cL_acts 44 = .ok (.iload_n 2, 1) := by decide +kernel
theorem dL_acts_45 : decode cL_acts 45 = .ok (.invokevirtual 22, 3) := by decide +kernel
theorem dL_acts_48 : decode cL_acts 48 = .ok (.goto 91, 3) := by decide +kernel
theorem dL_acts_51 : decode cL_acts 51 = .ok (.iload_n 1, 1) := by decide +kernel
theorem dL_acts_52 : decode cL_acts 52 = .ok (.iconst 4, 1) := by decide +kernel
theorem dL_acts_53 : decode cL_acts 53 = .ok (.if_icmp .ne 11, 3) := by decide +kernel
theorem dL_acts_56 : decode cL_acts 56 = .ok (.aload_n 0, 1) := by decide +kernel
theorem dL_acts_57 : decode cL_acts 57 = .ok (.iload_n 2, 1) := by decide +kernel
theorem dL_acts_58 : decode cL_acts 58 = .ok (.invokevirtual 25, 3) := by decide +kernel
theorem dL_acts_61 : decode cL_acts 61 = .ok (.goto 78, 3) := by decide +kernel
theorem dL_acts_64 : decode cL_acts 64 = .ok (.iload_n 1, 1) := by decide +kernel
theorem dL_acts_65 : decode cL_acts 65 = .ok (.iconst 5, 1) := by decide +kernel
theorem dL_acts_66 : decode cL_acts 66 = .ok (.if_icmp .ne 12, 3) := by decide +kernel
theorem dL_acts_69 : decode cL_acts 69 = .ok (.aload_n 0, 1) := by decide +kernel
theorem dL_acts_70 : decode cL_acts 70 = .ok (.iload_n 3, 1) := by decide +kernel
theorem dL_acts_71 : decode cL_acts 71 = .ok (.iload_n 2, 1) := by decide +kernel
theorem dL_acts_72 : decode cL_acts 72 = .ok (.invokevirtual 28, 3) := by decide +kernel
theorem dL_acts_75 : decode cL_acts 75 = .ok (.goto 64, 3) := by decide +kernel
theorem dL_acts_78 : decode cL_acts 78 = .ok (.iload_n 1, 1) := by decide +kernel
theorem dL_acts_79 : decode cL_acts 79 = .ok (.bipush 6, 2) := by decide +kernel
theorem dL_acts_81 : decode cL_acts 81 = .ok (.if_icmp .ne 12, 3) := by decide +kernel
theorem dL_acts_84 : decode cL_acts 84 = .ok (.aload_n 0, 1) := by decide +kernel
theorem dL_acts_85 : decode cL_acts 85 = .ok (.iload_n 2, 1) := by decide +kernel
theorem dL_acts_86 : decode cL_acts 86 = .ok (.iload_n 3, 1) := by decide +kernel
theorem dL_acts_87 : decode cL_acts 87 = .ok (.invokevirtual 32, 3) := by decide +kernel
theorem dL_acts_90 : decode cL_acts 90 = .ok (.goto 49, 3) := by decide +kernel
theorem dL_acts_93 : decode cL_acts 93 = .ok (.iload_n 1, 1) := by decide +kernel
theorem dL_acts_94 : decode cL_acts 94 = .ok (.bipush 7, 2) := by decide +kernel
theorem dL_acts_96 : decode cL_acts 96 = .ok (.if_icmp .ne 11, 3) := by decide +kernel
theorem dL_acts_99 : decode cL_acts 99 = .ok (.aload_n 0, 1) := by decide +kernel
theorem dL_acts_100 : decode cL_acts 100 = .ok (.iload_n 2, 1) := by decide +kernel
theorem dL_acts_101 : decode cL_acts 101 = .ok (.invokevirtual 35, 3) := by decide +kernel
theorem dL_acts_104 : decode cL_acts 104 = .ok (.goto 35, 3) := by decide +kernel
theorem dL_acts_107 : decode cL_acts 107 = .ok (.iload_n 1, 1) := by decide +kernel
theorem dL_acts_108 : decode cL_acts 108 = .ok (.bipush 8, 2) := by decide +kernel
theorem dL_acts_110 : decode cL_acts 110 = .ok (.if_icmp .ne 11, 3) := by decide +kernel
theorem dL_acts_113 : decode cL_acts 113 = .ok (.aload_n 0, 1) := by decide +kernel
theorem dL_acts_114 : decode cL_acts 114 = .ok (.iload_n 2, 1) := by decide +kernel
theorem dL_acts_115 : decode cL_acts 115 = .ok (.invokevirtual 38, 3) := by decide +kernel
theorem dL_acts_118 : decode cL_acts 118 = .ok (.goto 21, 3) := by decide +kernel
theorem dL_acts_121 : decode cL_acts 121 = .ok (.iload_n 1, 1) := by decide +kernel
theorem dL_acts_122 : decode cL_acts 122 = .ok (.bipush 9, 2) := by decide +kernel
theorem dL_acts_124 : decode cL_acts 124 = .ok (.if_icmp .ne 11, 3) := by decide +kernel
theorem dL_acts_127 : decode cL_acts 127 = .ok (.aload_n 0, 1) := by decide +kernel
theorem dL_acts_128 : decode cL_acts 128 = .ok (.iload_n 2, 1) := by decide +kernel
theorem dL_acts_129 : decode cL_acts 129 = .ok (.invokevirtual 41, 3) := by decide +kernel
theorem dL_acts_132 : decode cL_acts 132 = .ok (.goto 7, 3) := by decide +kernel
theorem dL_acts_135 : decode cL_acts 135 = .ok (.aload_n 0, 1) := by decide +kernel
theorem dL_acts_136 : decode cL_acts 136 = .ok (.invokevirtual 44, 3) := by decide +kernel
theorem dL_acts_139 : decode cL_acts 139 = .ok (.ireturn, 1) := by decide +kernel
theorem dL_acts_140 : decode cL_acts 140 = .ok (.astore 4, 2) := by decide +kernel
theorem dL_acts_142 : decode cL_acts 142 = .ok (.bipush (-7), 2) := by decide +kernel
theorem dL_acts_144 : decode cL_acts 144 = .ok (.ireturn, 1) := by decide +kernel
theorem dL_acts_145 : decode cL_acts 145 = .ok (.astore 4, 2) := by decide +kernel
theorem dL_acts_147 : decode cL_acts 147 = .ok (.bipush (-8), 2) := by decide +kernel
theorem dL_acts_149 : decode cL_acts 149 = .ok (.ireturn, 1) := by decide +kernel
theorem dL_heard_0 : decode cL_heard 0 = .ok (.aload_n 0, 1) := by decide +kernel
theorem dL_heard_1 : decode cL_heard 1 = .ok (.iload_n 1, 1) := by decide +kernel
theorem dL_heard_2 : decode cL_heard 2 = .ok (.iload_n 2, 1) := by decide +kernel
theorem dL_heard_3 : decode cL_heard 3 = .ok (.invokevirtual 52, 3) := by decide +kernel
theorem dL_heard_6 : decode cL_heard 6 = .ok (.ireturn, 1) := by decide +kernel
theorem dL_heard_7 : decode cL_heard 7 = .ok (.astore_n 3, 1) := by decide +kernel
theorem dL_heard_8 : decode cL_heard 8 = .ok (.bipush (-7), 2) := by decide +kernel
theorem dL_heard_10 : decode cL_heard 10 = .ok (.ireturn, 1) := by decide +kernel
theorem dL_links_0 : decode cL_links 0 = .ok (.aload_n 0, 1) := by decide +kernel
theorem dL_links_1 : decode cL_links 1 = .ok (.iload_n 1, 1) := by decide +kernel
theorem dL_links_2 : decode cL_links 2 = .ok (.iload_n 2, 1) := by decide +kernel
theorem dL_links_3 : decode cL_links 3 = .ok (.iload_n 3, 1) := by decide +kernel
theorem dL_links_4 : decode cL_links 4 = .ok (.invokevirtual 55, 3) := by decide +kernel
theorem dL_links_7 : decode cL_links 7 = .ok (.iconst 1, 1) := by decide +kernel
theorem dL_links_8 : decode cL_links 8 = .ok (.ireturn, 1) := by decide +kernel
theorem dL_links_9 : decode cL_links 9 = .ok (.astore 4, 2) := by decide +kernel
theorem dL_links_11 : decode cL_links 11 = .ok (.iconst 0, 1) := by decide +kernel
theorem dL_links_12 : decode cL_links 12 = .ok (.ireturn, 1) := by decide +kernel
theorem dL_stages_0 : decode cL_stages 0 = .ok (.aload_n 0, 1) := by decide +kernel
theorem dL_stages_1 : decode cL_stages 1 = .ok (.iload_n 1, 1) := by decide +kernel
theorem dL_stages_2 : decode cL_stages 2 = .ok (.iload_n 2, 1) := by decide +kernel
theorem dL_stages_3 : decode cL_stages 3 = .ok (.iload_n 3, 1) := by decide +kernel
theorem dL_stages_4 : decode cL_stages 4 = .ok (.iload 4, 2) := by decide +kernel
theorem dL_stages_6 : decode cL_stages 6 = .ok (.invokevirtual 59, 3) := by decide +kernel
theorem dL_stages_9 : decode cL_stages 9 = .ok (.ireturn, 1) := by decide +kernel
theorem dL_stages_10 : decode cL_stages 10 = .ok (.astore 5, 2) := by decide +kernel
theorem dL_stages_12 : decode cL_stages 12 = .ok (.bipush (-8), 2) := by decide +kernel
theorem dL_stages_14 : decode cL_stages 14 = .ok (.ireturn, 1) := by decide +kernel
theorem dL_isWorld_0 : decode cL_isWorld 0 = .ok (.aload_n 0, 1) := by decide +kernel
theorem dL_isWorld_1 : decode cL_isWorld 1 = .ok (.invokevirtual 63, 3) := by decide +kernel
theorem dL_isWorld_4 : decode cL_isWorld 4 = .ok (.istore_n 2, 1) := by decide +kernel
theorem dL_isWorld_5 : decode cL_isWorld 5 = .ok (.iconst (-1), 1) := by decide +kernel
theorem dL_isWorld_6 : decode cL_isWorld 6 = .ok (.istore_n 3, 1) := by decide +kernel
theorem dL_isWorld_7 : decode cL_isWorld 7 = .ok (.aload_n 0, 1) := by decide +kernel
theorem dL_isWorld_8 : decode cL_isWorld 8 = .ok (.invokevirtual 63, 3) := by decide +kernel
theorem dL_isWorld_11 : decode cL_isWorld 11 = .ok (.ifCond .lt 18, 3) := by decide +kernel
theorem dL_isWorld_14 : decode cL_isWorld 14 = .ok (.aload_n 0, 1) := by decide +kernel
theorem dL_isWorld_15 : decode cL_isWorld 15 = .ok (.invokevirtual 66, 3) := by decide +kernel
theorem dL_isWorld_18 : decode cL_isWorld 18 = .ok (.aload_n 1, 1) := by decide +kernel
theorem dL_isWorld_19 : decode cL_isWorld 19 = .ok (.bipush 6, 2) := by decide +kernel
theorem dL_isWorld_21 : decode cL_isWorld 21 = .ok (.iaload, 1) := by decide +kernel
theorem dL_isWorld_22 : decode cL_isWorld 22 = .ok (.if_icmp .ne 7, 3) := by decide +kernel
theorem dL_isWorld_25 : decode cL_isWorld 25 = .ok (.iconst 1, 1) := by decide +kernel
theorem dL_isWorld_26 : decode cL_isWorld 26 = .ok (.goto 4, 3) := by decide +kernel
theorem dL_isWorld_29 : decode cL_isWorld 29 = .ok (.iconst 0, 1) := by decide +kernel
theorem dL_isWorld_30 : decode cL_isWorld 30 = .ok (.istore 4, 2) := by decide +kernel
theorem dL_isWorld_32 : decode cL_isWorld 32 = .ok (.iconst 0, 1) := by decide +kernel
theorem dL_isWorld_33 : decode cL_isWorld 33 = .ok (.istore 5, 2) := by decide +kernel
theorem dL_isWorld_35 : decode cL_isWorld 35 = .ok (.iload 5, 2) := by decide +kernel
theorem dL_isWorld_37 : decode cL_isWorld 37 = .ok (.aload_n 1, 1) := by decide +kernel
theorem dL_isWorld_38 : decode cL_isWorld 38 = .ok (.bipush 7, 2) := by decide +kernel
theorem dL_isWorld_40 : decode cL_isWorld 40 = .ok (.iaload, 1) := by decide +kernel
theorem dL_isWorld_41 : decode cL_isWorld 41 = .ok (.if_icmp .ge 164, 3) := by decide +kernel
theorem dL_isWorld_44 : decode cL_isWorld 44 = .ok (.iload_n 2, 1) := by decide +kernel
theorem dL_isWorld_45 : decode cL_isWorld 45 = .ok (.aload_n 0, 1) := by decide +kernel
theorem dL_isWorld_46 : decode cL_isWorld 46 = .ok (.iload 5, 2) := by decide +kernel
theorem dL_isWorld_48 : decode cL_isWorld 48 = .ok (.invokevirtual 69, 3) := by decide +kernel
theorem dL_isWorld_51 : decode cL_isWorld 51 = .ok (.iadd, 1) := by decide +kernel
theorem dL_isWorld_52 : decode cL_isWorld 52 = .ok (.istore_n 2, 1) := by decide +kernel
theorem dL_isWorld_53 : decode cL_isWorld 53 = .ok (.iload_n 3, 1) := by decide +kernel
theorem dL_isWorld_54 : decode cL_isWorld 54 = .ok (.ifCond .lt 17, 3) := by decide +kernel
theorem dL_isWorld_57 : decode cL_isWorld 57 = .ok (.aload_n 0, 1) := by decide +kernel
theorem dL_isWorld_58 : decode cL_isWorld 58 = .ok (.iload 5, 2) := by decide +kernel
theorem dL_isWorld_60 : decode cL_isWorld 60 = .ok (.invokevirtual 72, 3) := by decide +kernel
theorem dL_isWorld_63 : decode cL_isWorld 63 = .ok (.aload_n 0, 1) := by decide +kernel
theorem dL_isWorld_64 : decode cL_isWorld 64 = .ok (.iload_n 3, 1) := by decide +kernel
theorem dL_isWorld_65 : decode cL_isWorld 65 = .ok (.invokevirtual 72, 3) := by decide +kernel
theorem dL_isWorld_68 : decode cL_isWorld 68 = .ok (.if_icmp .ge 8, 3) := by decide +kernel
theorem dL_isWorld_71 : decode cL_isWorld 71 = .ok (.iload 5, 2) := by decide +kernel
theorem dL_isWorld_73 : decode cL_isWorld 73 = .ok (.goto 4, 3) := by decide +kernel
theorem dL_isWorld_76 : decode cL_isWorld 76 = .ok (.iload_n 3, 1) := by decide +kernel
theorem dL_isWorld_77 : decode cL_isWorld 77 = .ok (.istore_n 3, 1) := by decide +kernel
theorem dL_isWorld_78 : decode cL_isWorld 78 = .ok (.iload 4, 2) := by decide +kernel
theorem dL_isWorld_80 : decode cL_isWorld 80 = .ok (.ifCond .eq 57, 3) := by decide +kernel
theorem dL_isWorld_83 : decode cL_isWorld 83 = .ok (.aload_n 0, 1) := by decide +kernel
theorem dL_isWorld_84 : decode cL_isWorld 84 = .ok (.iload 5, 2) := by decide +kernel
theorem dL_isWorld_86 : decode cL_isWorld 86 = .ok (.invokevirtual 69, 3) := by decide +kernel
theorem dL_isWorld_89 : decode cL_isWorld 89 = .ok (.ifCond .lt 48, 3) := by decide +kernel
theorem dL_isWorld_92 : decode cL_isWorld 92 = .ok (.aload_n 0, 1) := by decide +kernel
theorem dL_isWorld_93 : decode cL_isWorld 93 = .ok (.iload 5, 2) := by decide +kernel
theorem dL_isWorld_95 : decode cL_isWorld 95 = .ok (.invokevirtual 75, 3) := by decide +kernel
theorem dL_isWorld_98 : decode cL_isWorld 98 = .ok (.iconst 1, 1) := by decide +kernel
theorem dL_isWorld_99 : decode cL_isWorld 99 = .ok (.if_icmp .lt 38, 3) := by decide +kernel
theorem dL_isWorld_102 : decode cL_isWorld 102 = .ok (.aload_n 0, 1) := by decide +kernel
theorem dL_isWorld_103 : decode cL_isWorld 103 = .ok (.iload 5, 2) := by decide +kernel
theorem dL_isWorld_105 : decode cL_isWorld 105 = .ok (.invokevirtual 75, 3) := by decide +kernel
theorem dL_isWorld_108 : decode cL_isWorld 108 = .ok (.bipush 20, 2) := by decide +kernel
theorem dL_isWorld_110 : decode cL_isWorld 110 = .ok (.if_icmp .gt 27, 3) := by decide +kernel
theorem dL_isWorld_113 : decode cL_isWorld 113 = .ok (.aload_n 0, 1) := by decide +kernel
theorem dL_isWorld_114 : decode cL_isWorld 114 = .ok (.iload 5, 2) := by decide +kernel
theorem dL_isWorld_116 : decode cL_isWorld 116 = .ok (.invokevirtual 78, 3) := by decide +kernel
theorem dL_isWorld_119 : decode cL_isWorld 119 = .ok (.ifCond .lt 18, 3) := by decide +kernel
theorem dL_isWorld_122 : decode cL_isWorld 122 = .ok (.aload_n 0, 1) := by decide +kernel
theorem dL_isWorld_123 : decode cL_isWorld 123 = .ok (.iload 5, 2) := by decide +kernel
theorem dL_isWorld_125 : decode cL_isWorld 125 = .ok (.invokevirtual 78, 3) := by decide +kernel
theorem dL_isWorld_128 : decode cL_isWorld 128 = .ok (.bipush 7, 2) := by decide +kernel
theorem dL_isWorld_130 : decode cL_isWorld 130 = .ok (.if_icmp .gt 7, 3) := by decide +kernel
theorem dL_isWorld_133 : decode cL_isWorld 133 = .ok (.iconst 1, 1) := by decide +kernel
theorem dL_isWorld_134 : decode cL_isWorld 134 = .ok (.goto 4, 3) := by decide +kernel
theorem dL_isWorld_137 : decode cL_isWorld 137 = .ok (.iconst 0, 1) := by decide +kernel
theorem dL_isWorld_138 : decode cL_isWorld 138 = .ok (.istore 4, 2) := by decide +kernel
theorem dL_isWorld_140 : decode cL_isWorld 140 = .ok (.iconst 0, 1) := by decide +kernel
theorem dL_isWorld_141 : decode cL_isWorld 141 = .ok (.istore 6, 2) := by decide +kernel
theorem dL_isWorld_143 : decode cL_isWorld 143 = .ok (.iload 6, 2) := by decide +kernel
theorem dL_isWorld_145 : decode cL_isWorld 145 = .ok (.aload_n 1, 1) := by decide +kernel
theorem dL_isWorld_146 : decode cL_isWorld 146 = .ok (.bipush 8, 2) := by decide +kernel
theorem dL_isWorld_148 : decode cL_isWorld 148 = .ok (.iaload, 1) := by decide +kernel
theorem dL_isWorld_149 : decode cL_isWorld 149 = .ok (.if_icmp .ge 50, 3) := by decide +kernel
theorem dL_isWorld_152 : decode cL_isWorld 152 = .ok (.iload 4, 2) := by decide +kernel
theorem dL_isWorld_154 : decode cL_isWorld 154 = .ok (.ifCond .eq 36, 3) := by decide +kernel
theorem dL_isWorld_157 : decode cL_isWorld 157 = .ok (.aload_n 0, 1) := by decide +kernel
theorem dL_isWorld_158 : decode cL_isWorld 158 = .ok (.iload 5, 2) := by decide +kernel
theorem dL_isWorld_160 : decode cL_isWorld 160 = .ok (.iload 6, 2) := by decide +kernel
theorem dL_isWorld_162 : decode cL_isWorld 162 = .ok (.invokevirtual 81, 3) := by decide +kernel
theorem dL_isWorld_165 : decode cL_isWorld 165 = .ok (.ifCond .lt 25, 3) := by decide +kernel
theorem dL_isWorld_168 : decode cL_isWorld 168 = .ok (.aload_n 0, 1) := by decide +kernel
theorem dL_isWorld_169 : decode cL_isWorld 169 = .ok (.iload 5, 2) := by decide +kernel
theorem dL_isWorld_171 : decode cL_isWorld 171 = .ok (.iload 6, 2) := by decide +kernel
theorem dL_isWorld_173 : decode cL_isWorld 173 = .ok (.invokevirtual 81, 3) := by decide +kernel
theorem dL_isWorld_176 : decode cL_isWorld 176 = .ok (.aload_n 1, 1) := by decide +kernel
theorem dL_isWorld_177 : decode cL_isWorld 177 = .ok (.bipush 9, 2) := by decide +kernel
theorem dL_isWorld_179 : decode cL_isWorld 179 = .ok (.iload 6, 2) := by decide +kernel
theorem dL_isWorld_181 : decode cL_isWorld 181 = .ok (.iadd, 1) := by decide +kernel
theorem dL_isWorld_182 : decode cL_isWorld 182 = .ok (.iaload, 1) := by decide +kernel
theorem dL_isWorld_183 : decode cL_isWorld 183 = .ok (.if_icmp .gt 7, 3) := by decide +kernel
theorem dL_isWorld_186 : decode cL_isWorld 186 = .ok (.iconst 1, 1) := by decide +kernel
theorem dL_isWorld_187 : decode cL_isWorld 187 = .ok (.goto 4, 3) := by decide +kernel
theorem dL_isWorld_190 : decode cL_isWorld 190 = .ok (.iconst 0, 1) := by decide +kernel
theorem dL_isWorld_191 : decode cL_isWorld 191 = .ok (.istore 4, 2) := by decide +kernel
theorem dL_isWorld_193 : decode cL_isWorld 193 = .ok (.iinc 6 1, 3) := by decide +kernel
theorem dL_isWorld_196 : decode cL_isWorld 196 = .ok (.goto (-53), 3) := by decide +kernel
theorem dL_isWorld_199 : decode cL_isWorld 199 = .ok (.iinc 5 1, 3) := by decide +kernel
theorem dL_isWorld_202 : decode cL_isWorld 202 = .ok (.goto (-167), 3) := by decide +kernel
theorem dL_isWorld_205 : decode cL_isWorld 205 = .ok (.iconst 0, 1) := by decide +kernel
theorem dL_isWorld_206 : decode cL_isWorld 206 = .ok (.istore 5, 2) := by decide +kernel
theorem dL_isWorld_208 : decode cL_isWorld 208 = .ok (.iload 5, 2) := by decide +kernel
theorem dL_isWorld_210 : decode cL_isWorld 210 = .ok (.bipush 8, 2) := by decide +kernel
theorem dL_isWorld_212 : decode cL_isWorld 212 = .ok (.if_icmp .ge 80, 3) := by decide +kernel
theorem dL_isWorld_215 : decode cL_isWorld 215 = .ok (.aload_n 0, 1) := by decide +kernel
theorem dL_isWorld_216 : decode cL_isWorld 216 = .ok (.iload 5, 2) := by decide +kernel
theorem dL_isWorld_218 : decode cL_isWorld 218 = .ok (.invokevirtual 84, 3) := by decide +kernel
theorem dL_isWorld_221 : decode cL_isWorld 221 = .ok (.istore 6, 2) := by decide +kernel
theorem dL_isWorld_223 : decode cL_isWorld 223 = .ok (.iload 4, 2) := by decide +kernel
theorem dL_isWorld_225 : decode cL_isWorld 225 = .ok (.ifCond .eq 44, 3) := by decide +kernel
theorem dL_isWorld_228 : decode cL_isWorld 228 = .ok (.iload 6, 2) := by decide +kernel
theorem dL_isWorld_230 : decode cL_isWorld 230 = .ok (.iconst (-1), 1) := by decide +kernel
theorem dL_isWorld_231 : decode cL_isWorld 231 = .ok (.if_icmp .lt 38, 3) := by decide +kernel
theorem dL_isWorld_234 : decode cL_isWorld 234 = .ok (.iload 6, 2) := by decide +kernel
theorem dL_isWorld_236 : decode cL_isWorld 236 = .ok (.iconst (-1), 1) := by decide +kernel
theorem dL_isWorld_237 : decode cL_isWorld 237 = .ok (.if_icmp .ne 7, 3) := by decide +kernel
theorem dL_isWorld_240 : decode cL_isWorld 240 = .ok (.iconst 1, 1) := by decide +kernel
theorem dL_isWorld_241 : decode cL_isWorld 241 = .ok (.goto 4, 3) := by decide +kernel
theorem dL_isWorld_244 : decode cL_isWorld 244 = .ok (.iconst 0, 1) := by decide +kernel
theorem dL_isWorld_245 : decode cL_isWorld 245 = .ok (.aload_n 1, 1) := by decide +kernel
theorem dL_isWorld_246 : decode cL_isWorld 246 = .ok (.bipush 12, 2) := by decide +kernel
theorem dL_isWorld_248 : decode cL_isWorld 248 = .ok (.iaload, 1) := by decide +kernel
theorem dL_isWorld_249 : decode cL_isWorld 249 = .ok (.iload 5, 2) := by decide +kernel
theorem dL_isWorld_251 : decode cL_isWorld 251 = .ok (.ishr, 1) := by decide +kernel
theorem dL_isWorld_252 : decode cL_isWorld 252 = .ok (.iconst 1, 1) := by decide +kernel
theorem dL_isWorld_253 : decode cL_isWorld 253 = .ok (.iand, 1) := by decide +kernel
theorem dL_isWorld_254 : decode cL_isWorld 254 = .ok (.ifCond .ne 7, 3) := by decide +kernel
theorem dL_isWorld_257 : decode cL_isWorld 257 = .ok (.iconst 1, 1) := by decide +kernel
theorem dL_isWorld_258 : decode cL_isWorld 258 = .ok (.goto 4, 3) := by decide +kernel
theorem dL_isWorld_261 : decode cL_isWorld 261 = .ok (.iconst 0, 1) := by decide +kernel
theorem dL_isWorld_262 : decode cL_isWorld 262 = .ok (.if_icmp .ne 7, 3) := by decide +kernel
theorem dL_isWorld_265 : decode cL_isWorld 265 = .ok (.iconst 1, 1) := by decide +kernel
theorem dL_isWorld_266 : decode cL_isWorld 266 = .ok (.goto 4, 3) := by decide +kernel
theorem dL_isWorld_269 : decode cL_isWorld 269 = .ok (.iconst 0, 1) := by decide +kernel
theorem dL_isWorld_270 : decode cL_isWorld 270 = .ok (.istore 4, 2) := by decide +kernel
theorem dL_isWorld_272 : decode cL_isWorld 272 = .ok (.iload_n 2, 1) := by decide +kernel
theorem dL_isWorld_273 : decode cL_isWorld 273 = .ok (.iload 6, 2) := by decide +kernel
theorem dL_isWorld_275 : decode cL_isWorld 275 = .ok (.ifCond .ge 7, 3) := by decide +kernel
theorem dL_isWorld_278 : decode cL_isWorld 278 = .ok (.iconst 0, 1) := by decide +kernel
theorem dL_isWorld_279 : decode cL_isWorld 279 = .ok (.goto 5, 3) := by decide +kernel
theorem dL_isWorld_282 : decode cL_isWorld 282 = .ok (.iload 6, 2) := by decide +kernel
theorem dL_isWorld_284 : decode cL_isWorld 284 = .ok (.iadd, 1) := by decide +kernel
theorem dL_isWorld_285 : decode cL_isWorld 285 = .ok (.istore_n 2, 1) := by decide +kernel
theorem dL_isWorld_286 : decode cL_isWorld 286 = .ok (.iinc 5 1, 3) := by decide +kernel
theorem dL_isWorld_289 : decode cL_isWorld 289 = .ok (.goto (-81), 3) := by decide +kernel
theorem dL_isWorld_292 : decode cL_isWorld 292 = .ok (.iconst 0, 1) := by decide +kernel
theorem dL_isWorld_293 : decode cL_isWorld 293 = .ok (.istore 5, 2) := by decide +kernel
theorem dL_isWorld_295 : decode cL_isWorld 295 = .ok (.iload 5, 2) := by decide +kernel
theorem dL_isWorld_297 : decode cL_isWorld 297 = .ok (.iconst 5, 1) := by decide +kernel
theorem dL_isWorld_298 : decode cL_isWorld 298 = .ok (.if_icmp .ge 106, 3) := by decide +kernel
theorem dL_isWorld_301 : decode cL_isWorld 301 = .ok (.iconst 0, 1) := by decide +kernel
theorem dL_isWorld_302 : decode cL_isWorld 302 = .ok (.istore 6, 2) := by decide +kernel
theorem dL_isWorld_304 : decode cL_isWorld 304 = .ok (.iconst 0, 1) := by decide +kernel
theorem dL_isWorld_305 : decode cL_isWorld 305 = .ok (.istore 7, 2) := by decide +kernel
theorem dL_isWorld_307 : decode cL_isWorld 307 = .ok (.iload 7, 2) := by decide +kernel
theorem dL_isWorld_309 : decode cL_isWorld 309 = .ok (.bipush 8, 2) := by decide +kernel
theorem dL_isWorld_311 : decode cL_isWorld 311 = .ok (.if_icmp .ge 53, 3) := by decide +kernel
theorem dL_isWorld_314 : decode cL_isWorld 314 = .ok (.iload 6, 2) := by decide +kernel
theorem dL_isWorld_316 : decode cL_isWorld 316 = .ok (.aload_n 0, 1) := by decide +kernel
theorem dL_isWorld_317 : decode cL_isWorld 317 = .ok (.iload 7, 2) := by decide +kernel
theorem dL_isWorld_319 : decode cL_isWorld 319 = .ok (.iload 5, 2) := by decide +kernel
theorem dL_isWorld_321 : decode cL_isWorld 321 = .ok (.invokevirtual 87, 3) := by decide +kernel
theorem dL_isWorld_324 : decode cL_isWorld 324 = .ok (.aload_n 0, 1) := by decide +kernel
theorem dL_isWorld_325 : decode cL_isWorld 325 = .ok (.iload 7, 2) := by decide +kernel
theorem dL_isWorld_327 : decode cL_isWorld 327 = .ok (.iload 5, 2) := by decide +kernel
theorem dL_isWorld_329 : decode cL_isWorld 329 = .ok (.invokevirtual 90, 3) := by decide +kernel
theorem dL_isWorld_332 : decode cL_isWorld 332 = .ok (.iadd, 1) := by decide +kernel
theorem dL_isWorld_333 : decode cL_isWorld 333 = .ok (.iload 7, 2) := by decide +kernel
theorem dL_isWorld_335 : decode cL_isWorld 335 = .ok (.aload_n 1, 1) := by decide +kernel
theorem dL_isWorld_336 : decode cL_isWorld 336 = .ok (.bipush 7, 2) := by decide +kernel
theorem dL_isWorld_338 : decode cL_isWorld 338 = .ok (.iaload, 1) := by decide +kernel
theorem dL_isWorld_339 : decode cL_isWorld 339 = .ok (.if_icmp .ge 14, 3) := by decide +kernel
theorem dL_isWorld_342 : decode cL_isWorld 342 = .ok (.aload_n 0, 1) := by decide +kernel
theorem dL_isWorld_343 : decode cL_isWorld 343 = .ok (.iload 7, 2) := by decide +kernel
theorem dL_isWorld_345 : decode cL_isWorld 345 = .ok (.iload 5, 2) := by decide +kernel
theorem dL_isWorld_347 : decode cL_isWorld 347 = .ok (.invokevirtual 93, 3) := by decide +kernel
theorem dL_isWorld_350 : decode cL_isWorld 350 = .ok (.goto 4, 3) := by decide +kernel
theorem dL_isWorld_353 : decode cL_isWorld 353 = .ok (.iconst 0, 1) := by decide +kernel
theorem dL_isWorld_354 : decode cL_isWorld 354 = .ok (.iadd, 1) := by decide +kernel
theorem dL_isWorld_355 : decode cL_isWorld 355 = .ok (.iadd, 1) := by decide +kernel
theorem dL_isWorld_356 : decode cL_isWorld 356 = .ok (.istore 6, 2) := by decide +kernel
theorem dL_isWorld_358 : decode cL_isWorld 358 = .ok (.iinc 7 1, 3) := by decide +kernel
theorem dL_isWorld_361 : decode cL_isWorld 361 = .ok (.goto (-54), 3) := by decide +kernel
theorem dL_isWorld_364 : decode cL_isWorld 364 = .ok (.iload 4, 2) := by decide +kernel
theorem dL_isWorld_366 : decode cL_isWorld 366 = .ok (.ifCond .eq 29, 3) := by decide +kernel
theorem dL_isWorld_369 : decode cL_isWorld 369 = .ok (.aload_n 0, 1) := by decide +kernel
theorem dL_isWorld_370 : decode cL_isWorld 370 = .ok (.iload 5, 2) := by decide +kernel
theorem dL_isWorld_372 : decode cL_isWorld 372 = .ok (.invokevirtual 96, 3) := by decide +kernel
theorem dL_isWorld_375 : decode cL_isWorld 375 = .ok (.iload 6, 2) := by decide +kernel
theorem dL_isWorld_377 : decode cL_isWorld 377 = .ok (.if_icmp .ne 18, 3) := by decide +kernel
theorem dL_isWorld_380 : decode cL_isWorld 380 = .ok (.iload 6, 2) := by decide +kernel
theorem dL_isWorld_382 : decode cL_isWorld 382 = .ok (.aload_n 1, 1) := by decide +kernel
theorem dL_isWorld_383 : decode cL_isWorld 383 = .ok (.iconst 1, 1) := by decide +kernel
theorem dL_isWorld_384 : decode cL_isWorld 384 = .ok (.iload 5, 2) := by decide +kernel
theorem dL_isWorld_386 : decode cL_isWorld 386 = .ok (.iadd, 1) := by decide +kernel
theorem dL_isWorld_387 : decode cL_isWorld 387 = .ok (.iaload, 1) := by decide +kernel
theorem dL_isWorld_388 : decode cL_isWorld 388 = .ok (.if_icmp .ne 7, 3) := by decide +kernel
theorem dL_isWorld_391 : decode cL_isWorld 391 = .ok (.iconst 1, 1) := by decide +kernel
theorem dL_isWorld_392 : decode cL_isWorld 392 = .ok (.goto 4, 3) := by decide +kernel
theorem dL_isWorld_395 : decode cL_isWorld 395 = .ok (.iconst 0, 1) := by decide +kernel
theorem dL_isWorld_396 : decode cL_isWorld 396 = .ok (.istore 4, 2) := by decide +kernel
theorem dL_isWorld_398 : decode cL_isWorld 398 = .ok (.iinc 5 1, 3) := by decide +kernel
theorem dL_isWorld_401 : decode cL_isWorld 401 = .ok (.goto (-106), 3) := by decide +kernel
theorem dL_isWorld_404 : decode cL_isWorld 404 = .ok (.iload 4, 2) := by decide +kernel
theorem dL_isWorld_406 : decode cL_isWorld 406 = .ok (.ifCond .eq 30, 3) := by decide +kernel
theorem dL_isWorld_409 : decode cL_isWorld 409 = .ok (.aload_n 0, 1) := by decide +kernel
theorem dL_isWorld_410 : decode cL_isWorld 410 = .ok (.invokevirtual 99, 3) := by decide +kernel
theorem dL_isWorld_413 : decode cL_isWorld 413 = .ok (.iload_n 3, 1) := by decide +kernel
theorem dL_isWorld_414 : decode cL_isWorld 414 = .ok (.if_icmp .ne 22, 3) := by decide +kernel
theorem dL_isWorld_417 : decode cL_isWorld 417 = .ok (.iload_n 2, 1) := by decide +kernel
theorem dL_isWorld_418 : decode cL_isWorld 418 = .ok (.aload_n 1, 1) := by decide +kernel
theorem dL_isWorld_419 : decode cL_isWorld 419 = .ok (.iconst 0, 1) := by decide +kernel
theorem dL_isWorld_420 : decode cL_isWorld 420 = .ok (.iaload, 1) := by decide +kernel
theorem dL_isWorld_421 : decode cL_isWorld 421 = .ok (.if_icmp .ne 15, 3) := by decide +kernel
theorem dL_isWorld_424 : decode cL_isWorld 424 = .ok (.aload_n 0, 1) := by decide +kernel
theorem dL_isWorld_425 : decode cL_isWorld 425 = .ok (.invokevirtual 102, 3) := by decide +kernel
theorem dL_isWorld_428 : decode cL_isWorld 428 = .ok (.iload_n 2, 1) := by decide +kernel
theorem dL_isWorld_429 : decode cL_isWorld 429 = .ok (.if_icmp .ne 7, 3) := by decide +kernel
theorem dL_isWorld_432 : decode cL_isWorld 432 = .ok (.iconst 1, 1) := by decide +kernel
theorem dL_isWorld_433 : decode cL_isWorld 433 = .ok (.goto 4, 3) := by decide +kernel
theorem dL_isWorld_436 : decode cL_isWorld 436 = .ok (.iconst 0, 1) := by decide +kernel
theorem dL_isWorld_437 : decode cL_isWorld 437 = .ok (.ireturn, 1) := by decide +kernel
theorem dL_areRooms_0 : decode cL_areRooms 0 = .ok (.aload_n 0, 1) := by decide +kernel
theorem dL_areRooms_1 : decode cL_areRooms 1 = .ok (.iload_n 1, 1) := by decide +kernel
theorem dL_areRooms_2 : decode cL_areRooms 2 = .ok (.iload_n 1, 1) := by decide +kernel
theorem dL_areRooms_3 : decode cL_areRooms 3 = .ok (.invokevirtual 105, 3) := by decide +kernel
theorem dL_areRooms_6 : decode cL_areRooms 6 = .ok (.ifCond .ne 7, 3) := by decide +kernel
theorem dL_areRooms_9 : decode cL_areRooms 9 = .ok (.iconst 1, 1) := by decide +kernel
theorem dL_areRooms_10 : decode cL_areRooms 10 = .ok (.goto 4, 3) := by decide +kernel
theorem dL_areRooms_13 : decode cL_areRooms 13 = .ok (.iconst 0, 1) := by decide +kernel
theorem dL_areRooms_14 : decode cL_areRooms 14 = .ok (.istore_n 2, 1) := by decide +kernel
theorem dL_areRooms_15 : decode cL_areRooms 15 = .ok (.iconst 0, 1) := by decide +kernel
theorem dL_areRooms_16 : decode cL_areRooms 16 = .ok (.istore_n 3, 1) := by decide +kernel
theorem dL_areRooms_17 : decode cL_areRooms 17 = .ok (.iload_n 3, 1) := by decide +kernel
theorem dL_areRooms_18 : decode cL_areRooms 18 = .ok (.bipush 8, 2) := by decide +kernel
theorem dL_areRooms_20 : decode cL_areRooms 20 = .ok (.if_icmp .ge 219, 3) := by decide +kernel
theorem dL_areRooms_23 : decode cL_areRooms 23 = .ok (.iload_n 2, 1) := by decide +kernel
theorem dL_areRooms_24 : decode cL_areRooms 24 = .ok (.ifCond .eq 215, 3) := by decide +kernel
theorem dL_areRooms_27 : decode cL_areRooms 27 = .ok (.aload_n 0, 1) := by decide +kernel
theorem dL_areRooms_28 : decode cL_areRooms 28 = .ok (.iload_n 1, 1) := by decide +kernel
theorem dL_areRooms_29 : decode cL_areRooms 29 = .ok (.iload_n 3, 1) := by decide +kernel
theorem dL_areRooms_30 : decode cL_areRooms 30 = .ok (.invokevirtual 105, 3) := by decide +kernel
theorem dL_areRooms_33 : decode cL_areRooms 33 = .ok (.istore 4, 2) := by decide +kernel
theorem dL_areRooms_35 : decode cL_areRooms 35 = .ok (.iload_n 3, 1) := by decide +kernel
theorem dL_areRooms_36 : decode cL_areRooms 36 = .ok (.iload_n 1, 1) := by decide +kernel
theorem dL_areRooms_37 : decode cL_areRooms 37 = .ok (.if_icmp .eq 8, 3) := by decide +kernel
theorem dL_areRooms_40 : decode cL_areRooms 40 = .ok (.iload 4, 2) := by decide +kernel
theorem dL_areRooms_42 : decode cL_areRooms 42 = .ok (.ifCond .ge 7, 3) := by decide +kernel
theorem dL_areRooms_45 : decode cL_areRooms 45 = .ok (.iconst 1, 1) := by decide +kernel
theorem dL_areRooms_46 : decode cL_areRooms 46 = .ok (.goto 4, 3) := by decide +kernel
theorem dL_areRooms_49 : decode cL_areRooms 49 = .ok (.iconst 0, 1) := by decide +kernel
theorem dL_areRooms_50 : decode cL_areRooms 50 = .ok (.istore 5, 2) := by decide +kernel
theorem dL_areRooms_52 : decode cL_areRooms 52 = .ok (.iload 4, 2) := by decide +kernel
theorem dL_areRooms_54 : decode cL_areRooms 54 = .ok (.aload_n 0, 1) := by decide +kernel
theorem dL_areRooms_55 : decode cL_areRooms 55 = .ok (.iload_n 3, 1) := by decide +kernel
theorem dL_areRooms_56 : decode cL_areRooms 56 = .ok (.iload_n 1, 1) := by decide +kernel
theorem dL_areRooms_57 : decode cL_areRooms 57 = .ok (.invokevirtual 105, 3) := by decide +kernel
theorem dL_areRooms_60 : decode cL_areRooms 60 = .ok (.if_icmp .ne 20, 3) := by decide +kernel
theorem dL_areRooms_63 : decode cL_areRooms 63 = .ok (.iload 4, 2) := by decide +kernel
theorem dL_areRooms_65 : decode cL_areRooms 65 = .ok (.iconst (-1), 1) := by decide +kernel
theorem dL_areRooms_66 : decode cL_areRooms 66 = .ok (.if_icmp .lt 14, 3) := by decide +kernel
theorem dL_areRooms_69 : decode cL_areRooms 69 = .ok (.iload 4, 2) := by decide +kernel
theorem dL_areRooms_71 : decode cL_areRooms 71 = .ok (.bipush 7, 2) := by decide +kernel
theorem dL_areRooms_73 : decode cL_areRooms 73 = .ok (.if_icmp .gt 7, 3) := by decide +kernel
theorem dL_areRooms_76 : decode cL_areRooms 76 = .ok (.iconst 1, 1) := by decide +kernel
theorem dL_areRooms_77 : decode cL_areRooms 77 = .ok (.goto 4, 3) := by decide +kernel
theorem dL_areRooms_80 : decode cL_areRooms 80 = .ok (.iconst 0, 1) := by decide +kernel
theorem dL_areRooms_81 : decode cL_areRooms 81 = .ok (.istore_n 2, 1) := by decide +kernel
theorem dL_areRooms_82 : decode cL_areRooms 82 = .ok (.iconst 0, 1) := by decide +kernel
theorem dL_areRooms_83 : decode cL_areRooms 83 = .ok (.istore 6, 2) := by decide +kernel
theorem dL_areRooms_85 : decode cL_areRooms 85 = .ok (.iload 6, 2) := by decide +kernel
theorem dL_areRooms_87 : decode cL_areRooms 87 = .ok (.iconst 4, 1) := by decide +kernel
theorem dL_areRooms_88 : decode cL_areRooms 88 = .ok (.if_icmp .ge 130, 3) := by decide +kernel
theorem dL_areRooms_91 : decode cL_areRooms 91 = .ok (.iload_n 2, 1) := by decide +kernel
theorem dL_areRooms_92 : decode cL_areRooms 92 = .ok (.ifCond .eq 126, 3) := by decide +kernel
theorem dL_areRooms_95 : decode cL_areRooms 95 = .ok (.aload_n 0, 1) := by decide +kernel
theorem dL_areRooms_96 : decode cL_areRooms 96 = .ok (.iload_n 3, 1) := by decide +kernel
theorem dL_areRooms_97 : decode cL_areRooms 97 = .ok (.iload 6, 2) := by decide +kernel
theorem dL_areRooms_99 : decode cL_areRooms 99 = .ok (.invokevirtual 108, 3) := by decide +kernel
theorem dL_areRooms_102 : decode cL_areRooms 102 = .ok (.istore 7, 2) := by decide +kernel
theorem dL_areRooms_104 : decode cL_areRooms 104 = .ok (.iload 7, 2) := by decide +kernel
theorem dL_areRooms_106 : decode cL_areRooms 106 = .ok (.ifCond .ge 7, 3) := by decide +kernel
theorem dL_areRooms_109 : decode cL_areRooms 109 = .ok (.iconst (-1), 1) := by decide +kernel
theorem dL_areRooms_110 : decode cL_areRooms 110 = .ok (.goto 10, 3) := by decide +kernel
theorem dL_areRooms_113 : decode cL_areRooms 113 = .ok (.aload_n 0, 1) := by decide +kernel
theorem dL_areRooms_114 : decode cL_areRooms 114 = .ok (.iload_n 1, 1) := by decide +kernel
theorem dL_areRooms_115 : decode cL_areRooms 115 = .ok (.iload 7, 2) := by decide +kernel
theorem dL_areRooms_117 : decode cL_areRooms 117 = .ok (.invokevirtual 105, 3) := by decide +kernel
theorem dL_areRooms_120 : decode cL_areRooms 120 = .ok (.istore 8, 2) := by decide +kernel
theorem dL_areRooms_122 : decode cL_areRooms 122 = .ok (.iload 7, 2) := by decide +kernel
theorem dL_areRooms_124 : decode cL_areRooms 124 = .ok (.ifCond .lt 56, 3) := by decide +kernel
theorem dL_areRooms_127 : decode cL_areRooms 127 = .ok (.iload 7, 2) := by decide +kernel
theorem dL_areRooms_129 : decode cL_areRooms 129 = .ok (.iload_n 3, 1) := by decide +kernel
theorem dL_areRooms_130 : decode cL_areRooms 130 = .ok (.if_icmp .eq 54, 3) := by decide +kernel
theorem dL_areRooms_133 : decode cL_areRooms 133 = .ok (.aload_n 0, 1) := by decide +kernel
theorem dL_areRooms_134 : decode cL_areRooms 134 = .ok (.iload 7, 2) := by decide +kernel
theorem dL_areRooms_136 : decode cL_areRooms 136 = .ok (.iload 6, 2) := by decide +kernel
theorem dL_areRooms_138 : decode cL_areRooms 138 = .ok (.iconst 2, 1) := by decide +kernel
theorem dL_areRooms_139 : decode cL_areRooms 139 = .ok (.iadd, 1) := by decide +kernel
theorem dL_areRooms_140 : decode cL_areRooms 140 = .ok (.iconst 4, 1) := by decide +kernel
theorem dL_areRooms_141 : decode cL_areRooms 141 = .ok (.irem, 1) := by decide +kernel
theorem dL_areRooms_142 : decode cL_areRooms 142 = .ok (.invokevirtual 108, 3) := by decide +kernel
theorem dL_areRooms_145 : decode cL_areRooms 145 = .ok (.iload_n 3, 1) := by decide +kernel
theorem dL_areRooms_146 : decode cL_areRooms 146 = .ok (.if_icmp .ne 38, 3) := by decide +kernel
theorem dL_areRooms_149 : decode cL_areRooms 149 = .ok (.iload 4, 2) := by decide +kernel
theorem dL_areRooms_151 : decode cL_areRooms 151 = .ok (.ifCond .ge 11, 3) := by decide +kernel
theorem dL_areRooms_154 : decode cL_areRooms 154 = .ok (.iload 8, 2) := by decide +kernel
theorem dL_areRooms_156 : decode cL_areRooms 156 = .ok (.ifCond .ge 28, 3) := by decide +kernel
theorem dL_areRooms_159 : decode cL_areRooms 159 = .ok (.goto 21, 3) := by decide +kernel
theorem dL_areRooms_162 : decode cL_areRooms 162 = .ok (.iload 8, 2) := by decide +kernel
theorem dL_areRooms_164 : decode cL_areRooms 164 = .ok (.iload 4, 2) := by decide +kernel
theorem dL_areRooms_166 : decode cL_areRooms 166 = .ok (.iconst 1, 1) := by decide +kernel
theorem dL_areRooms_167 : decode cL_areRooms 167 = .ok (.isub, 1) := by decide +kernel
theorem dL_areRooms_168 : decode cL_areRooms 168 = .ok (.if_icmp .lt 16, 3) := by decide +kernel
theorem dL_areRooms_171 : decode cL_areRooms 171 = .ok (.iload 8, 2) := by decide +kernel
theorem dL_areRooms_173 : decode cL_areRooms 173 = .ok (.iload 4, 2) := by decide +kernel
theorem dL_areRooms_175 : decode cL_areRooms 175 = .ok (.iconst 1, 1) := by decide +kernel
theorem dL_areRooms_176 : decode cL_areRooms 176 = .ok (.iadd, 1) := by decide +kernel
theorem dL_areRooms_177 : decode cL_areRooms 177 = .ok (.if_icmp .gt 7, 3) := by decide +kernel
theorem dL_areRooms_180 : decode cL_areRooms 180 = .ok (.iconst 1, 1) := by decide +kernel
theorem dL_areRooms_181 : decode cL_areRooms 181 = .ok (.goto 4, 3) := by decide +kernel
theorem dL_areRooms_184 : decode cL_areRooms 184 = .ok (.iconst 0, 1) := by decide +kernel
theorem dL_areRooms_185 : decode cL_areRooms 185 = .ok (.istore_n 2, 1) := by decide +kernel
theorem dL_areRooms_186 : decode cL_areRooms 186 = .ok (.iload 5, 2) := by decide +kernel
theorem dL_areRooms_188 : decode cL_areRooms 188 = .ok (.ifCond .ne 17, 3) := by decide +kernel
theorem dL_areRooms_191 : decode cL_areRooms 191 = .ok (.iload 7, 2) := by decide +kernel
theorem dL_areRooms_193 : decode cL_areRooms 193 = .ok (.ifCond .lt 16, 3) := by decide +kernel
theorem dL_areRooms_196 : decode cL_areRooms 196 = .ok (.iload 8, 2) := by decide +kernel
theorem dL_areRooms_198 : decode cL_areRooms 198 = .ok (.iload 4, 2) := by decide +kernel
theorem dL_areRooms_200 : decode cL_areRooms 200 = .ok (.iconst 1, 1) := by decide +kernel
theorem dL_areRooms_201 : decode cL_areRooms 201 = .ok (.isub, 1) := by decide +kernel
theorem dL_areRooms_202 : decode cL_areRooms 202 = .ok (.if_icmp .ne 7, 3) := by decide +kernel
theorem dL_areRooms_205 : decode cL_areRooms 205 = .ok (.iconst 1, 1) := by decide +kernel
theorem dL_areRooms_206 : decode cL_areRooms 206 = .ok (.goto 4, 3) := by decide +kernel
theorem dL_areRooms_209 : decode cL_areRooms 209 = .ok (.iconst 0, 1) := by decide +kernel
theorem dL_areRooms_210 : decode cL_areRooms 210 = .ok (.istore 5, 2) := by decide +kernel
theorem dL_areRooms_212 : decode cL_areRooms 212 = .ok (.iinc 6 1, 3) := by decide +kernel
theorem dL_areRooms_215 : decode cL_areRooms 215 = .ok (.goto (-130), 3) := by decide +kernel
theorem dL_areRooms_218 : decode cL_areRooms 218 = .ok (.iload_n 2, 1) := by decide +kernel
theorem dL_areRooms_219 : decode cL_areRooms 219 = .ok (.ifCond .eq 12, 3) := by decide +kernel
theorem dL_areRooms_222 : decode cL_areRooms 222 = .ok (.iload 5, 2) := by decide +kernel
theorem dL_areRooms_224 : decode cL_areRooms 224 = .ok (.ifCond .eq 7, 3) := by decide +kernel
theorem dL_areRooms_227 : decode cL_areRooms 227 = .ok (.iconst 1, 1) := by decide +kernel
theorem dL_areRooms_228 : decode cL_areRooms 228 = .ok (.goto 4, 3) := by decide +kernel
theorem dL_areRooms_231 : decode cL_areRooms 231 = .ok (.iconst 0, 1) := by decide +kernel
theorem dL_areRooms_232 : decode cL_areRooms 232 = .ok (.istore_n 2, 1) := by decide +kernel
theorem dL_areRooms_233 : decode cL_areRooms 233 = .ok (.iinc 3 1, 3) := by decide +kernel
theorem dL_areRooms_236 : decode cL_areRooms 236 = .ok (.goto (-219), 3) := by decide +kernel
theorem dL_areRooms_239 : decode cL_areRooms 239 = .ok (.iload_n 2, 1) := by decide +kernel
theorem dL_areRooms_240 : decode cL_areRooms 240 = .ok (.ireturn, 1) := by decide +kernel
theorem dL_keeps_0 : decode cL_keeps 0 = .ok (.aload_n 0, 1) := by decide +kernel
theorem dL_keeps_1 : decode cL_keeps 1 = .ok (.invokevirtual 66, 3) := by decide +kernel
theorem dL_keeps_4 : decode cL_keeps 4 = .ok (.istore 4, 2) := by decide +kernel
theorem dL_keeps_6 : decode cL_keeps 6 = .ok (.iload 4, 2) := by decide +kernel
theorem dL_keeps_8 : decode cL_keeps 8 = .ok (.bipush 60, 2) := by decide +kernel
theorem dL_keeps_10 : decode cL_keeps 10 = .ok (.if_icmp .ge 85, 3) := by decide +kernel
theorem dL_keeps_13 : decode cL_keeps 13 = .ok (.aload_n 2, 1) := by decide +kernel
theorem dL_keeps_14 : decode cL_keeps 14 = .ok (.iload 4, 2) := by decide +kernel
theorem dL_keeps_16 : decode cL_keeps 16 = .ok (.aload_n 0, 1) := by decide +kernel
theorem dL_keeps_17 : decode cL_keeps 17 = .ok (.invokevirtual 99, 3) := by decide +kernel
theorem dL_keeps_20 : decode cL_keeps 20 = .ok (.iconst 1, 1) := by decide +kernel
theorem dL_keeps_21 : decode cL_keeps 21 = .ok (.iadd, 1) := by decide +kernel
theorem dL_keeps_22 : decode cL_keeps 22 = .ok (.bipush 12, 2) := by decide +kernel
theorem dL_keeps_24 : decode cL_keeps 24 = .ok (.ishl, 1) := by decide +kernel
theorem dL_keeps_25 : decode cL_keeps 25 = .ok (.aload_n 1, 1) := by decide +kernel
theorem dL_keeps_26 : decode cL_keeps 26 = .ok (.bipush 7, 2) := by decide +kernel
theorem dL_keeps_28 : decode cL_keeps 28 = .ok (.iaload, 1) := by decide +kernel
theorem dL_keeps_29 : decode cL_keeps 29 = .ok (.bipush 15, 2) := by decide +kernel
theorem dL_keeps_31 : decode cL_keeps 31 = .ok (.ishl, 1) := by decide +kernel
theorem dL_keeps_32 : decode cL_keeps 32 = .ok (.ior, 1) := by decide +kernel
theorem dL_keeps_33 : decode cL_keeps 33 = .ok (.iastore, 1) := by decide +kernel
theorem dL_keeps_34 : decode cL_keeps 34 = .ok (.aload_n 3, 1) := by decide +kernel
theorem dL_keeps_35 : decode cL_keeps 35 = .ok (.iload 4, 2) := by decide +kernel
theorem dL_keeps_37 : decode cL_keeps 37 = .ok (.lconst 0, 1) := by decide +kernel
theorem dL_keeps_38 : decode cL_keeps 38 = .ok (.lastore, 1) := by decide +kernel
theorem dL_keeps_39 : decode cL_keeps 39 = .ok (.iconst 0, 1) := by decide +kernel
theorem dL_keeps_40 : decode cL_keeps 40 = .ok (.istore 5, 2) := by decide +kernel
theorem dL_keeps_42 : decode cL_keeps 42 = .ok (.iload 5, 2) := by decide +kernel
theorem dL_keeps_44 : decode cL_keeps 44 = .ok (.aload_n 1, 1) := by decide +kernel
theorem dL_keeps_45 : decode cL_keeps 45 = .ok (.bipush 7, 2) := by decide +kernel
theorem dL_keeps_47 : decode cL_keeps 47 = .ok (.iaload, 1) := by decide +kernel
theorem dL_keeps_48 : decode cL_keeps 48 = .ok (.if_icmp .ge 47, 3) := by decide +kernel
theorem dL_keeps_51 : decode cL_keeps 51 = .ok (.aload_n 2, 1) := by decide +kernel
theorem dL_keeps_52 : decode cL_keeps 52 = .ok (.iload 4, 2) := by decide +kernel
theorem dL_keeps_54 : decode cL_keeps 54 = .ok (.dup2, 1) := by decide +kernel
theorem dL_keeps_55 : decode cL_keeps 55 = .ok (.iaload, 1) := by decide +kernel
theorem dL_keeps_56 : decode cL_keeps 56 = .ok (.aload_n 0, 1) := by decide +kernel
theorem dL_keeps_57 : decode cL_keeps 57 = .ok (.iload 5, 2) := by decide +kernel
theorem dL_keeps_59 : decode cL_keeps 59 = .ok (.invokevirtual 78, 3) := by decide +kernel
theorem dL_keeps_62 : decode cL_keeps 62 = .ok (.iconst 3, 1) := by decide +kernel
theorem dL_keeps_63 : decode cL_keeps 63 = .ok (.iload 5, 2) := by decide +kernel
theorem dL_keeps_65 : decode cL_keeps 65 = .ok (.imul, 1) := by decide +kernel
theorem dL_keeps_66 : decode cL_keeps 66 = .ok (.ishl, 1) := by decide +kernel
theorem dL_keeps_67 : decode cL_keeps 67 = .ok (.ior, 1) := by decide +kernel
theorem dL_keeps_68 : decode cL_keeps 68 = .ok (.iastore, 1) := by decide +kernel
theorem dL_keeps_69 : decode cL_keeps 69 = .ok (.aload_n 3, 1) := by decide +kernel
theorem dL_keeps_70 : decode cL_keeps 70 = .ok (.iload 4, 2) := by decide +kernel
theorem dL_keeps_72 : decode cL_keeps 72 = .ok (.dup2, 1) := by decide +kernel
theorem dL_keeps_73 : decode cL_keeps 73 = .ok (.laload, 1) := by decide +kernel
theorem dL_keeps_74 : decode cL_keeps 74 = .ok (.aload_n 0, 1) := by decide +kernel
theorem dL_keeps_75 : decode cL_keeps 75 = .ok (.iload 5, 2) := by decide +kernel
theorem dL_keeps_77 : decode cL_keeps 77 = .ok (.invokevirtual 69, 3) := by decide +kernel
theorem dL_keeps_80 : decode cL_keeps 80 = .ok (.i2l, 1) := by decide +kernel
theorem dL_keeps_81 : decode cL_keeps 81 = .ok (.bipush 16, 2) := by decide +kernel
theorem dL_keeps_83 : decode cL_keeps 83 = .ok (.iload 5, 2) := by decide +kernel
theorem dL_keeps_85 : decode cL_keeps 85 = .ok (.imul, 1) := by decide +kernel
theorem dL_keeps_86 : decode cL_keeps 86 = .ok (.lshl, 1) := by decide +kernel
theorem dL_keeps_87 : decode cL_keeps 87 = .ok (.lor, 1) := by decide +kernel
theorem dL_keeps_88 : decode cL_keeps 88 = .ok (.lastore, 1) := by decide +kernel
theorem dL_keeps_89 : decode cL_keeps 89 = .ok (.iinc 5 1, 3) := by decide +kernel
theorem dL_keeps_92 : decode cL_keeps 92 = .ok (.goto (-50), 3) := by decide +kernel
theorem dL_keeps_95 : decode cL_keeps 95 = .ok (.return_, 1) := by decide +kernel
theorem dL_after_0 : decode cL_after 0 = .ok (.iload_n 1, 1) := by decide +kernel
theorem dL_after_1 : decode cL_after 1 = .ok (.ifCond .ne 12, 3) := by decide +kernel
theorem dL_after_4 : decode cL_after 4 = .ok (.aload_n 0, 1) := by decide +kernel
theorem dL_after_5 : decode cL_after 5 = .ok (.iload_n 2, 1) := by decide +kernel
theorem dL_after_6 : decode cL_after 6 = .ok (.iload_n 3, 1) := by decide +kernel
theorem dL_after_7 : decode cL_after 7 = .ok (.invokevirtual 111, 3) := by decide +kernel
theorem dL_after_10 : decode cL_after 10 = .ok (.goto 22, 3) := by decide +kernel
theorem dL_after_13 : decode cL_after 13 = .ok (.iload_n 1, 1) := by decide +kernel
theorem dL_after_14 : decode cL_after 14 = .ok (.iconst 1, 1) := by decide +kernel
theorem dL_after_15 : decode cL_after 15 = .ok (.if_icmp .ne 12, 3) := by decide +kernel
theorem dL_after_18 : decode cL_after 18 = .ok (.aload_n 0, 1) := by decide +kernel
theorem dL_after_19 : decode cL_after 19 = .ok (.iload_n 2, 1) := by decide +kernel
theorem dL_after_20 : decode cL_after 20 = .ok (.iload_n 3, 1) := by decide +kernel
theorem dL_after_21 : decode cL_after 21 = .ok (.invokevirtual 114, 3) := by decide +kernel
theorem dL_after_24 : decode cL_after 24 = .ok (.goto 8, 3) := by decide +kernel
theorem dL_after_27 : decode cL_after 27 = .ok (.aload_n 0, 1) := by decide +kernel
theorem dL_after_28 : decode cL_after 28 = .ok (.iload_n 2, 1) := by decide +kernel
theorem dL_after_29 : decode cL_after 29 = .ok (.invokevirtual 117, 3) := by decide +kernel
theorem dL_after_32 : decode cL_after 32 = .ok (.ireturn, 1) := by decide +kernel
theorem dL_after_33 : decode cL_after 33 = .ok (.astore 4, 2) := by decide +kernel
theorem dL_after_35 : decode cL_after 35 = .ok (.bipush (-7), 2) := by decide +kernel
theorem dL_after_37 : decode cL_after 37 = .ok (.ireturn, 1) := by decide +kernel
theorem dL_wasSo_0 : decode cL_wasSo 0 = .ok (.aload_n 0, 1) := by decide +kernel
theorem dL_wasSo_1 : decode cL_wasSo 1 = .ok (.iconst 2, 1) := by decide +kernel
theorem dL_wasSo_2 : decode cL_wasSo 2 = .ok (.iload_n 3, 1) := by decide +kernel
theorem dL_wasSo_3 : decode cL_wasSo 3 = .ok (.iconst 0, 1) := by decide +kernel
theorem dL_wasSo_4 : decode cL_wasSo 4 = .ok (.invokestatic 120, 3) := by decide +kernel
theorem dL_wasSo_7 : decode cL_wasSo 7 = .ok (.aload_n 1, 1) := by decide +kernel
theorem dL_wasSo_8 : decode cL_wasSo 8 = .ok (.iload_n 3, 1) := by decide +kernel
theorem dL_wasSo_9 : decode cL_wasSo 9 = .ok (.iaload, 1) := by decide +kernel
theorem dL_wasSo_10 : decode cL_wasSo 10 = .ok (.bipush 12, 2) := by decide +kernel
theorem dL_wasSo_12 : decode cL_wasSo 12 = .ok (.ishr, 1) := by decide +kernel
theorem dL_wasSo_13 : decode cL_wasSo 13 = .ok (.bipush 7, 2) := by decide +kernel
theorem dL_wasSo_15 : decode cL_wasSo 15 = .ok (.iand, 1) := by decide +kernel
theorem dL_wasSo_16 : decode cL_wasSo 16 = .ok (.iconst 1, 1) := by decide +kernel
theorem dL_wasSo_17 : decode cL_wasSo 17 = .ok (.isub, 1) := by decide +kernel
theorem dL_wasSo_18 : decode cL_wasSo 18 = .ok (.if_icmp .ne 7, 3) := by decide +kernel
theorem dL_wasSo_21 : decode cL_wasSo 21 = .ok (.iconst 1, 1) := by decide +kernel
theorem dL_wasSo_22 : decode cL_wasSo 22 = .ok (.goto 4, 3) := by decide +kernel
theorem dL_wasSo_25 : decode cL_wasSo 25 = .ok (.iconst 0, 1) := by decide +kernel
theorem dL_wasSo_26 : decode cL_wasSo 26 = .ok (.istore 4, 2) := by decide +kernel
theorem dL_wasSo_28 : decode cL_wasSo 28 = .ok (.iconst 0, 1) := by decide +kernel
theorem dL_wasSo_29 : decode cL_wasSo 29 = .ok (.istore 5, 2) := by decide +kernel
theorem dL_wasSo_31 : decode cL_wasSo 31 = .ok (.iload 5, 2) := by decide +kernel
theorem dL_wasSo_33 : decode cL_wasSo 33 = .ok (.iconst 4, 1) := by decide +kernel
theorem dL_wasSo_34 : decode cL_wasSo 34 = .ok (.if_icmp .ge 106, 3) := by decide +kernel
theorem dL_wasSo_37 : decode cL_wasSo 37 = .ok (.iload 5, 2) := by decide +kernel
theorem dL_wasSo_39 : decode cL_wasSo 39 = .ok (.aload_n 1, 1) := by decide +kernel
theorem dL_wasSo_40 : decode cL_wasSo 40 = .ok (.iload_n 3, 1) := by decide +kernel
theorem dL_wasSo_41 : decode cL_wasSo 41 = .ok (.iaload, 1) := by decide +kernel
theorem dL_wasSo_42 : decode cL_wasSo 42 = .ok (.bipush 15, 2) := by decide +kernel
theorem dL_wasSo_44 : decode cL_wasSo 44 = .ok (.ishr, 1) := by decide +kernel
theorem dL_wasSo_45 : decode cL_wasSo 45 = .ok (.if_icmp .ge 7, 3) := by decide +kernel
theorem dL_wasSo_48 : decode cL_wasSo 48 = .ok (.iconst 1, 1) := by decide +kernel
theorem dL_wasSo_49 : decode cL_wasSo 49 = .ok (.goto 4, 3) := by decide +kernel
theorem dL_wasSo_52 : decode cL_wasSo 52 = .ok (.iconst 0, 1) := by decide +kernel
theorem dL_wasSo_53 : decode cL_wasSo 53 = .ok (.istore 6, 2) := by decide +kernel
theorem dL_wasSo_55 : decode cL_wasSo 55 = .ok (.iload 4, 2) := by decide +kernel
theorem dL_wasSo_57 : decode cL_wasSo 57 = .ok (.ifCond .eq 74, 3) := by decide +kernel
theorem dL_wasSo_60 : decode cL_wasSo 60 = .ok (.aload_n 0, 1) := by decide +kernel
theorem dL_wasSo_61 : decode cL_wasSo 61 = .ok (.iconst 0, 1) := by decide +kernel
theorem dL_wasSo_62 : decode cL_wasSo 62 = .ok (.iload_n 3, 1) := by decide +kernel
theorem dL_wasSo_63 : decode cL_wasSo 63 = .ok (.iload 5, 2) := by decide +kernel
theorem dL_wasSo_65 : decode cL_wasSo 65 = .ok (.invokestatic 120, 3) := by decide +kernel
theorem dL_wasSo_68 : decode cL_wasSo 68 = .ok (.iload 6, 2) := by decide +kernel
theorem dL_wasSo_70 : decode cL_wasSo 70 = .ok (.ifCond .eq 17, 3) := by decide +kernel
theorem dL_wasSo_73 : decode cL_wasSo 73 = .ok (.aload_n 1, 1) := by decide +kernel
theorem dL_wasSo_74 : decode cL_wasSo 74 = .ok (.iload_n 3, 1) := by decide +kernel
theorem dL_wasSo_75 : decode cL_wasSo 75 = .ok (.iaload, 1) := by decide +kernel
theorem dL_wasSo_76 : decode cL_wasSo 76 = .ok (.iconst 3, 1) := by decide +kernel
theorem dL_wasSo_77 : decode cL_wasSo 77 = .ok (.iload 5, 2) := by decide +kernel
theorem dL_wasSo_79 : decode cL_wasSo 79 = .ok (.imul, 1) := by decide +kernel
theorem dL_wasSo_80 : decode cL_wasSo 80 = .ok (.ishr, 1) := by decide +kernel
theorem dL_wasSo_81 : decode cL_wasSo 81 = .ok (.bipush 7, 2) := by decide +kernel
theorem dL_wasSo_83 : decode cL_wasSo 83 = .ok (.iand, 1) := by decide +kernel
theorem dL_wasSo_84 : decode cL_wasSo 84 = .ok (.goto 5, 3) := by decide +kernel
theorem dL_wasSo_87 : decode cL_wasSo 87 = .ok (.bipush (-7), 2) := by decide +kernel
theorem dL_wasSo_89 : decode cL_wasSo 89 = .ok (.if_icmp .ne 42, 3) := by decide +kernel
theorem dL_wasSo_92 : decode cL_wasSo 92 = .ok (.aload_n 0, 1) := by decide +kernel
theorem dL_wasSo_93 : decode cL_wasSo 93 = .ok (.iconst 1, 1) := by decide +kernel
theorem dL_wasSo_94 : decode cL_wasSo 94 = .ok (.iload_n 3, 1) := by decide +kernel
theorem dL_wasSo_95 : decode cL_wasSo 95 = .ok (.iload 5, 2) := by decide +kernel
theorem dL_wasSo_97 : decode cL_wasSo 97 = .ok (.invokestatic 120, 3) := by decide +kernel
theorem dL_wasSo_100 : decode cL_wasSo 100 = .ok (.iload 6, 2) := by decide +kernel
theorem dL_wasSo_102 : decode cL_wasSo 102 = .ok (.ifCond .eq 20, 3) := by decide +kernel
theorem dL_wasSo_105 : decode cL_wasSo 105 = .ok (.aload_n 2, 1) := by decide +kernel
theorem dL_wasSo_106 : decode cL_wasSo 106 = .ok (.iload_n 3, 1) := by decide +kernel
theorem dL_wasSo_107 : decode cL_wasSo 107 = .ok (.laload, 1) := by decide +kernel
theorem dL_wasSo_108 : decode cL_wasSo 108 = .ok (.bipush 16, 2) := by decide +kernel
theorem dL_wasSo_110 : decode cL_wasSo 110 = .ok (.iload 5, 2) := by decide +kernel
theorem dL_wasSo_112 : decode cL_wasSo 112 = .ok (.imul, 1) := by decide +kernel
theorem dL_wasSo_113 : decode cL_wasSo 113 = .ok (.lshr, 1) := by decide +kernel
theorem dL_wasSo_114 : decode cL_wasSo 114 = .ok (.ldc2_w 126, 3) := by decide +kernel
theorem dL_wasSo_117 : decode cL_wasSo 117 = .ok (.land, 1) := by decide +kernel
theorem dL_wasSo_118 : decode cL_wasSo 118 = .ok (.l2i, 1) := by decide +kernel
theorem dL_wasSo_119 : decode cL_wasSo 119 = .ok (.goto 5, 3) := by decide +kernel
theorem dL_wasSo_122 : decode cL_wasSo 122 = .ok (.bipush (-7), 2) := by decide +kernel
theorem dL_wasSo_124 : decode cL_wasSo 124 = .ok (.if_icmp .ne 7, 3) := by decide +kernel
theorem dL_wasSo_127 : decode cL_wasSo 127 = .ok (.iconst 1, 1) := by decide +kernel
theorem dL_wasSo_128 : decode cL_wasSo 128 = .ok (.goto 4, 3) := by decide +kernel
theorem dL_wasSo_131 : decode cL_wasSo 131 = .ok (.iconst 0, 1) := by decide +kernel
theorem dL_wasSo_132 : decode cL_wasSo 132 = .ok (.istore 4, 2) := by decide +kernel
theorem dL_wasSo_134 : decode cL_wasSo 134 = .ok (.iinc 5 1, 3) := by decide +kernel
theorem dL_wasSo_137 : decode cL_wasSo 137 = .ok (.goto (-106), 3) := by decide +kernel
theorem dL_wasSo_140 : decode cL_wasSo 140 = .ok (.iload 4, 2) := by decide +kernel
theorem dL_wasSo_142 : decode cL_wasSo 142 = .ok (.ireturn, 1) := by decide +kernel
theorem dL_makes_0 : decode cL_makes 0 = .ok (.iload_n 2, 1) := by decide +kernel
theorem dL_makes_1 : decode cL_makes 1 = .ok (.bipush 8, 2) := by decide +kernel
theorem dL_makes_3 : decode cL_makes 3 = .ok (.irem, 1) := by decide +kernel
theorem dL_makes_4 : decode cL_makes 4 = .ok (.istore 5, 2) := by decide +kernel
theorem dL_makes_6 : decode cL_makes 6 = .ok (.iload_n 1, 1) := by decide +kernel
theorem dL_makes_7 : decode cL_makes 7 = .ok (.ifCond .ne 106, 3) := by decide +kernel
theorem dL_makes_10 : decode cL_makes 10 = .ok (.aload_n 0, 1) := by decide +kernel
theorem dL_makes_11 : decode cL_makes 11 = .ok (.iload 5, 2) := by decide +kernel
theorem dL_makes_13 : decode cL_makes 13 = .ok (.iload_n 3, 1) := by decide +kernel
theorem dL_makes_14 : decode cL_makes 14 = .ok (.iconst 4, 1) := by decide +kernel
theorem dL_makes_15 : decode cL_makes 15 = .ok (.irem, 1) := by decide +kernel
theorem dL_makes_16 : decode cL_makes 16 = .ok (.invokevirtual 108, 3) := by decide +kernel
theorem dL_makes_19 : decode cL_makes 19 = .ok (.ifCond .ge 34, 3) := by decide +kernel
theorem dL_makes_22 : decode cL_makes 22 = .ok (.aload_n 0, 1) := by decide +kernel
theorem dL_makes_23 : decode cL_makes 23 = .ok (.iload 5, 2) := by decide +kernel
theorem dL_makes_25 : decode cL_makes 25 = .ok (.iconst 1, 1) := by decide +kernel
theorem dL_makes_26 : decode cL_makes 26 = .ok (.iadd, 1) := by decide +kernel
theorem dL_makes_27 : decode cL_makes 27 = .ok (.iload_n 2, 1) := by decide +kernel
theorem dL_makes_28 : decode cL_makes 28 = .ok (.bipush 8, 2) := by decide +kernel
theorem dL_makes_30 : decode cL_makes 30 = .ok (.idiv, 1) := by decide +kernel
theorem dL_makes_31 : decode cL_makes 31 = .ok (.bipush 7, 2) := by decide +kernel
theorem dL_makes_33 : decode cL_makes 33 = .ok (.irem, 1) := by decide +kernel
theorem dL_makes_34 : decode cL_makes 34 = .ok (.iadd, 1) := by decide +kernel
theorem dL_makes_35 : decode cL_makes 35 = .ok (.bipush 8, 2) := by decide +kernel
theorem dL_makes_37 : decode cL_makes 37 = .ok (.irem, 1) := by decide +kernel
theorem dL_makes_38 : decode cL_makes 38 = .ok (.iload_n 3, 1) := by decide +kernel
theorem dL_makes_39 : decode cL_makes 39 = .ok (.iconst 2, 1) := by decide +kernel
theorem dL_makes_40 : decode cL_makes 40 = .ok (.iadd, 1) := by decide +kernel
theorem dL_makes_41 : decode cL_makes 41 = .ok (.iconst 4, 1) := by decide +kernel
theorem dL_makes_42 : decode cL_makes 42 = .ok (.irem, 1) := by decide +kernel
theorem dL_makes_43 : decode cL_makes 43 = .ok (.invokevirtual 108, 3) := by decide +kernel
theorem dL_makes_46 : decode cL_makes 46 = .ok (.ifCond .ge 7, 3) := by decide +kernel
theorem dL_makes_49 : decode cL_makes 49 = .ok (.iconst 1, 1) := by decide +kernel
theorem dL_makes_50 : decode cL_makes 50 = .ok (.goto 4, 3) := by decide +kernel
theorem dL_makes_53 : decode cL_makes 53 = .ok (.iconst 0, 1) := by decide +kernel
theorem dL_makes_54 : decode cL_makes 54 = .ok (.istore 6, 2) := by decide +kernel
theorem dL_makes_56 : decode cL_makes 56 = .ok (.aload_n 0, 1) := by decide +kernel
theorem dL_makes_57 : decode cL_makes 57 = .ok (.iload 5, 2) := by decide +kernel
theorem dL_makes_59 : decode cL_makes 59 = .ok (.iload_n 3, 1) := by decide +kernel
theorem dL_makes_60 : decode cL_makes 60 = .ok (.iconst 4, 1) := by decide +kernel
theorem dL_makes_61 : decode cL_makes 61 = .ok (.irem, 1) := by decide +kernel
theorem dL_makes_62 : decode cL_makes 62 = .ok (.iload 5, 2) := by decide +kernel
theorem dL_makes_64 : decode cL_makes 64 = .ok (.iconst 1, 1) := by decide +kernel
theorem dL_makes_65 : decode cL_makes 65 = .ok (.iadd, 1) := by decide +kernel
theorem dL_makes_66 : decode cL_makes 66 = .ok (.iload_n 2, 1) := by decide +kernel
theorem dL_makes_67 : decode cL_makes 67 = .ok (.bipush 8, 2) := by decide +kernel
theorem dL_makes_69 : decode cL_makes 69 = .ok (.idiv, 1) := by decide +kernel
theorem dL_makes_70 : decode cL_makes 70 = .ok (.bipush 7, 2) := by decide +kernel
theorem dL_makes_72 : decode cL_makes 72 = .ok (.irem, 1) := by decide +kernel
theorem dL_makes_73 : decode cL_makes 73 = .ok (.iadd, 1) := by decide +kernel
theorem dL_makes_74 : decode cL_makes 74 = .ok (.bipush 8, 2) := by decide +kernel
theorem dL_makes_76 : decode cL_makes 76 = .ok (.irem, 1) := by decide +kernel
theorem dL_makes_77 : decode cL_makes 77 = .ok (.invokestatic 128, 3) := by decide +kernel
theorem dL_makes_80 : decode cL_makes 80 = .ok (.istore 7, 2) := by decide +kernel
theorem dL_makes_82 : decode cL_makes 82 = .ok (.aload 4, 2) := by decide +kernel
theorem dL_makes_84 : decode cL_makes 84 = .ok (.bipush 6, 2) := by decide +kernel
theorem dL_makes_86 : decode cL_makes 86 = .ok (.dup2, 1) := by decide +kernel
theorem dL_makes_87 : decode cL_makes 87 = .ok (.iaload, 1) := by decide +kernel
theorem dL_makes_88 : decode cL_makes 88 = .ok (.iload 6, 2) := by decide +kernel
theorem dL_makes_90 : decode cL_makes 90 = .ok (.ifCond .eq 7, 3) := by decide +kernel
theorem dL_makes_93 : decode cL_makes 93 = .ok (.iconst 1, 1) := by decide +kernel
theorem dL_makes_94 : decode cL_makes 94 = .ok (.goto 4, 3) := by decide +kernel
theorem dL_makes_97 : decode cL_makes 97 = .ok (.iconst 0, 1) := by decide +kernel
theorem dL_makes_98 : decode cL_makes 98 = .ok (.iadd, 1) := by decide +kernel
theorem dL_makes_99 : decode cL_makes 99 = .ok (.iastore, 1) := by decide +kernel
theorem dL_makes_100 : decode cL_makes 100 = .ok (.iload 7, 2) := by decide +kernel
theorem dL_makes_102 : decode cL_makes 102 = .ok (.iload 6, 2) := by decide +kernel
theorem dL_makes_104 : decode cL_makes 104 = .ok (.if_icmp .ne 7, 3) := by decide +kernel
theorem dL_makes_107 : decode cL_makes 107 = .ok (.iconst 1, 1) := by decide +kernel
theorem dL_makes_108 : decode cL_makes 108 = .ok (.goto 4, 3) := by decide +kernel
theorem dL_makes_111 : decode cL_makes 111 = .ok (.iconst 0, 1) := by decide +kernel
theorem dL_makes_112 : decode cL_makes 112 = .ok (.ireturn, 1) := by decide +kernel
theorem dL_makes_113 : decode cL_makes 113 = .ok (.iload_n 1, 1) := by decide +kernel
theorem dL_makes_114 : decode cL_makes 114 = .ok (.iconst 1, 1) := by decide +kernel
theorem dL_makes_115 : decode cL_makes 115 = .ok (.if_icmp .ne 157, 3) := by decide +kernel
theorem dL_makes_118 : decode cL_makes 118 = .ok (.aload 4, 2) := by decide +kernel
theorem dL_makes_120 : decode cL_makes 120 = .ok (.bipush 12, 2) := by decide +kernel
theorem dL_makes_122 : decode cL_makes 122 = .ok (.iaload, 1) := by decide +kernel
theorem dL_makes_123 : decode cL_makes 123 = .ok (.iload 5, 2) := by decide +kernel
theorem dL_makes_125 : decode cL_makes 125 = .ok (.ishr, 1) := by decide +kernel
theorem dL_makes_126 : decode cL_makes 126 = .ok (.iconst 1, 1) := by decide +kernel
theorem dL_makes_127 : decode cL_makes 127 = .ok (.iand, 1) := by decide +kernel
theorem dL_makes_128 : decode cL_makes 128 = .ok (.iconst 1, 1) := by decide +kernel
theorem dL_makes_129 : decode cL_makes 129 = .ok (.if_icmp .ne 79, 3) := by decide +kernel
theorem dL_makes_132 : decode cL_makes 132 = .ok (.iload_n 3, 1) := by decide +kernel
theorem dL_makes_133 : decode cL_makes 133 = .ok (.bipush 6, 2) := by decide +kernel
theorem dL_makes_135 : decode cL_makes 135 = .ok (.irem, 1) := by decide +kernel
theorem dL_makes_136 : decode cL_makes 136 = .ok (.istore 6, 2) := by decide +kernel
theorem dL_makes_138 : decode cL_makes 138 = .ok (.iload_n 2, 1) := by decide +kernel
theorem dL_makes_139 : decode cL_makes 139 = .ok (.bipush 8, 2) := by decide +kernel
theorem dL_makes_141 : decode cL_makes 141 = .ok (.idiv, 1) := by decide +kernel
theorem dL_makes_142 : decode cL_makes 142 = .ok (.iconst 5, 1) := by decide +kernel
theorem dL_makes_143 : decode cL_makes 143 = .ok (.irem, 1) := by decide +kernel
theorem dL_makes_144 : decode cL_makes 144 = .ok (.istore 7, 2) := by decide +kernel
theorem dL_makes_146 : decode cL_makes 146 = .ok (.aload_n 0, 1) := by decide +kernel
theorem dL_makes_147 : decode cL_makes 147 = .ok (.iload 5, 2) := by decide +kernel
theorem dL_makes_149 : decode cL_makes 149 = .ok (.iload 7, 2) := by decide +kernel
theorem dL_makes_151 : decode cL_makes 151 = .ok (.invokevirtual 90, 3) := by decide +kernel
theorem dL_makes_154 : decode cL_makes 154 = .ok (.istore 8, 2) := by decide +kernel
theorem dL_makes_156 : decode cL_makes 156 = .ok (.aload 4, 2) := by decide +kernel
theorem dL_makes_158 : decode cL_makes 158 = .ok (.iconst 1, 1) := by decide +kernel
theorem dL_makes_159 : decode cL_makes 159 = .ok (.iload 7, 2) := by decide +kernel
theorem dL_makes_161 : decode cL_makes 161 = .ok (.iadd, 1) := by decide +kernel
theorem dL_makes_162 : decode cL_makes 162 = .ok (.dup2, 1) := by decide +kernel
theorem dL_makes_163 : decode cL_makes 163 = .ok (.iaload, 1) := by decide +kernel
theorem dL_makes_164 : decode cL_makes 164 = .ok (.iload 6, 2) := by decide +kernel
theorem dL_makes_166 : decode cL_makes 166 = .ok (.iadd, 1) := by decide +kernel
theorem dL_makes_167 : decode cL_makes 167 = .ok (.iastore, 1) := by decide +kernel
theorem dL_makes_168 : decode cL_makes 168 = .ok (.aload 4, 2) := by decide +kernel
theorem dL_makes_170 : decode cL_makes 170 = .ok (.bipush 6, 2) := by decide +kernel
theorem dL_makes_172 : decode cL_makes 172 = .ok (.dup2, 1) := by decide +kernel
theorem dL_makes_173 : decode cL_makes 173 = .ok (.iaload, 1) := by decide +kernel
theorem dL_makes_174 : decode cL_makes 174 = .ok (.iconst 1, 1) := by decide +kernel
theorem dL_makes_175 : decode cL_makes 175 = .ok (.iadd, 1) := by decide +kernel
theorem dL_makes_176 : decode cL_makes 176 = .ok (.iastore, 1) := by decide +kernel
theorem dL_makes_177 : decode cL_makes 177 = .ok (.aload_n 0, 1) := by decide +kernel
theorem dL_makes_178 : decode cL_makes 178 = .ok (.iload 5, 2) := by decide +kernel
theorem dL_makes_180 : decode cL_makes 180 = .ok (.iload 7, 2) := by decide +kernel
theorem dL_makes_182 : decode cL_makes 182 = .ok (.iload 6, 2) := by decide +kernel
theorem dL_makes_184 : decode cL_makes 184 = .ok (.iload_n 3, 1) := by decide +kernel
theorem dL_makes_185 : decode cL_makes 185 = .ok (.bipush 6, 2) := by decide +kernel
theorem dL_makes_187 : decode cL_makes 187 = .ok (.idiv, 1) := by decide +kernel
theorem dL_makes_188 : decode cL_makes 188 = .ok (.bipush 20, 2) := by decide +kernel
theorem dL_makes_190 : decode cL_makes 190 = .ok (.irem, 1) := by decide +kernel
theorem dL_makes_191 : decode cL_makes 191 = .ok (.invokevirtual 132, 3) := by decide +kernel
theorem dL_makes_194 : decode cL_makes 194 = .ok (.iload 8, 2) := by decide +kernel
theorem dL_makes_196 : decode cL_makes 196 = .ok (.iload 6, 2) := by decide +kernel
theorem dL_makes_198 : decode cL_makes 198 = .ok (.iadd, 1) := by decide +kernel
theorem dL_makes_199 : decode cL_makes 199 = .ok (.if_icmp .ne 7, 3) := by decide +kernel
theorem dL_makes_202 : decode cL_makes 202 = .ok (.iconst 1, 1) := by decide +kernel
theorem dL_makes_203 : decode cL_makes 203 = .ok (.goto 4, 3) := by decide +kernel
theorem dL_makes_206 : decode cL_makes 206 = .ok (.iconst 0, 1) := by decide +kernel
theorem dL_makes_207 : decode cL_makes 207 = .ok (.ireturn, 1) := by decide +kernel
theorem dL_makes_208 : decode cL_makes 208 = .ok (.aload 4, 2) := by decide +kernel
theorem dL_makes_210 : decode cL_makes 210 = .ok (.bipush 12, 2) := by decide +kernel
theorem dL_makes_212 : decode cL_makes 212 = .ok (.dup2, 1) := by decide +kernel
theorem dL_makes_213 : decode cL_makes 213 = .ok (.iaload, 1) := by decide +kernel
theorem dL_makes_214 : decode cL_makes 214 = .ok (.iconst 1, 1) := by decide +kernel
theorem dL_makes_215 : decode cL_makes 215 = .ok (.iload 5, 2) := by decide +kernel
theorem dL_makes_217 : decode cL_makes 217 = .ok (.ishl, 1) := by decide +kernel
theorem dL_makes_218 : decode cL_makes 218 = .ok (.ior, 1) := by decide +kernel
theorem dL_makes_219 : decode cL_makes 219 = .ok (.iastore, 1) := by decide +kernel
theorem dL_makes_220 : decode cL_makes 220 = .ok (.aload 4, 2) := by decide +kernel
theorem dL_makes_222 : decode cL_makes 222 = .ok (.iconst 0, 1) := by decide +kernel
theorem dL_makes_223 : decode cL_makes 223 = .ok (.dup2, 1) := by decide +kernel
theorem dL_makes_224 : decode cL_makes 224 = .ok (.iaload, 1) := by decide +kernel
theorem dL_makes_225 : decode cL_makes 225 = .ok (.iload_n 3, 1) := by decide +kernel
theorem dL_makes_226 : decode cL_makes 226 = .ok (.sipush 300, 3) := by decide +kernel
theorem dL_makes_229 : decode cL_makes 229 = .ok (.irem, 1) := by decide +kernel
theorem dL_makes_230 : decode cL_makes 230 = .ok (.iadd, 1) := by decide +kernel
theorem dL_makes_231 : decode cL_makes 231 = .ok (.iastore, 1) := by decide +kernel
theorem dL_makes_232 : decode cL_makes 232 = .ok (.aload 4, 2) := by decide +kernel
theorem dL_makes_234 : decode cL_makes 234 = .ok (.bipush 6, 2) := by decide +kernel
theorem dL_makes_236 : decode cL_makes 236 = .ok (.dup2, 1) := by decide +kernel
theorem dL_makes_237 : decode cL_makes 237 = .ok (.iaload, 1) := by decide +kernel
theorem dL_makes_238 : decode cL_makes 238 = .ok (.iconst 1, 1) := by decide +kernel
theorem dL_makes_239 : decode cL_makes 239 = .ok (.iadd, 1) := by decide +kernel
theorem dL_makes_240 : decode cL_makes 240 = .ok (.iastore, 1) := by decide +kernel
theorem dL_makes_241 : decode cL_makes 241 = .ok (.aload_n 0, 1) := by decide +kernel
theorem dL_makes_242 : decode cL_makes 242 = .ok (.iload 5, 2) := by decide +kernel
theorem dL_makes_244 : decode cL_makes 244 = .ok (.iload_n 3, 1) := by decide +kernel
theorem dL_makes_245 : decode cL_makes 245 = .ok (.sipush 300, 3) := by decide +kernel
theorem dL_makes_248 : decode cL_makes 248 = .ok (.irem, 1) := by decide +kernel
theorem dL_makes_249 : decode cL_makes 249 = .ok (.invokevirtual 135, 3) := by decide +kernel
theorem dL_makes_252 : decode cL_makes 252 = .ok (.aload_n 0, 1) := by decide +kernel
theorem dL_makes_253 : decode cL_makes 253 = .ok (.iload 5, 2) := by decide +kernel
theorem dL_makes_255 : decode cL_makes 255 = .ok (.invokevirtual 84, 3) := by decide +kernel
theorem dL_makes_258 : decode cL_makes 258 = .ok (.iload_n 3, 1) := by decide +kernel
theorem dL_makes_259 : decode cL_makes 259 = .ok (.sipush 300, 3) := by decide +kernel
theorem dL_makes_262 : decode cL_makes 262 = .ok (.irem, 1) := by decide +kernel
theorem dL_makes_263 : decode cL_makes 263 = .ok (.if_icmp .ne 7, 3) := by decide +kernel
theorem dL_makes_266 : decode cL_makes 266 = .ok (.iconst 1, 1) := by decide +kernel
theorem dL_makes_267 : decode cL_makes 267 = .ok (.goto 4, 3) := by decide +kernel
theorem dL_makes_270 : decode cL_makes 270 = .ok (.iconst 0, 1) := by decide +kernel
theorem dL_makes_271 : decode cL_makes 271 = .ok (.ireturn, 1) := by decide +kernel
theorem dL_makes_272 : decode cL_makes 272 = .ok (.iload_n 1, 1) := by decide +kernel
theorem dL_makes_273 : decode cL_makes 273 = .ok (.iconst 2, 1) := by decide +kernel
theorem dL_makes_274 : decode cL_makes 274 = .ok (.if_icmp .ne 79, 3) := by decide +kernel
theorem dL_makes_277 : decode cL_makes 277 = .ok (.aload_n 0, 1) := by decide +kernel
theorem dL_makes_278 : decode cL_makes 278 = .ok (.iload 5, 2) := by decide +kernel
theorem dL_makes_280 : decode cL_makes 280 = .ok (.iload_n 3, 1) := by decide +kernel
theorem dL_makes_281 : decode cL_makes 281 = .ok (.iconst 5, 1) := by decide +kernel
theorem dL_makes_282 : decode cL_makes 282 = .ok (.irem, 1) := by decide +kernel
theorem dL_makes_283 : decode cL_makes 283 = .ok (.invokevirtual 87, 3) := by decide +kernel
theorem dL_makes_286 : decode cL_makes 286 = .ok (.istore 6, 2) := by decide +kernel
theorem dL_makes_288 : decode cL_makes 288 = .ok (.aload 4, 2) := by decide +kernel
theorem dL_makes_290 : decode cL_makes 290 = .ok (.iconst 1, 1) := by decide +kernel
theorem dL_makes_291 : decode cL_makes 291 = .ok (.iload_n 3, 1) := by decide +kernel
theorem dL_makes_292 : decode cL_makes 292 = .ok (.iconst 5, 1) := by decide +kernel
theorem dL_makes_293 : decode cL_makes 293 = .ok (.irem, 1) := by decide +kernel
theorem dL_makes_294 : decode cL_makes 294 = .ok (.iadd, 1) := by decide +kernel
theorem dL_makes_295 : decode cL_makes 295 = .ok (.dup2, 1) := by decide +kernel
theorem dL_makes_296 : decode cL_makes 296 = .ok (.iaload, 1) := by decide +kernel
theorem dL_makes_297 : decode cL_makes 297 = .ok (.iconst 1, 1) := by decide +kernel
theorem dL_makes_298 : decode cL_makes 298 = .ok (.iload_n 3, 1) := by decide +kernel
theorem dL_makes_299 : decode cL_makes 299 = .ok (.iconst 5, 1) := by decide +kernel
theorem dL_makes_300 : decode cL_makes 300 = .ok (.idiv, 1) := by decide +kernel
theorem dL_makes_301 : decode cL_makes 301 = .ok (.bipush 9, 2) := by decide +kernel
theorem dL_makes_303 : decode cL_makes 303 = .ok (.irem, 1) := by decide +kernel
theorem dL_makes_304 : decode cL_makes 304 = .ok (.iadd, 1) := by decide +kernel
theorem dL_makes_305 : decode cL_makes 305 = .ok (.iadd, 1) := by decide +kernel
theorem dL_makes_306 : decode cL_makes 306 = .ok (.iastore, 1) := by decide +kernel
theorem dL_makes_307 : decode cL_makes 307 = .ok (.aload 4, 2) := by decide +kernel
theorem dL_makes_309 : decode cL_makes 309 = .ok (.bipush 6, 2) := by decide +kernel
theorem dL_makes_311 : decode cL_makes 311 = .ok (.dup2, 1) := by decide +kernel
theorem dL_makes_312 : decode cL_makes 312 = .ok (.iaload, 1) := by decide +kernel
theorem dL_makes_313 : decode cL_makes 313 = .ok (.iconst 1, 1) := by decide +kernel
theorem dL_makes_314 : decode cL_makes 314 = .ok (.iadd, 1) := by decide +kernel
theorem dL_makes_315 : decode cL_makes 315 = .ok (.iastore, 1) := by decide +kernel
theorem dL_makes_316 : decode cL_makes 316 = .ok (.aload_n 0, 1) := by decide +kernel
theorem dL_makes_317 : decode cL_makes 317 = .ok (.iload 5, 2) := by decide +kernel
theorem dL_makes_319 : decode cL_makes 319 = .ok (.iload_n 3, 1) := by decide +kernel
theorem dL_makes_320 : decode cL_makes 320 = .ok (.iconst 5, 1) := by decide +kernel
theorem dL_makes_321 : decode cL_makes 321 = .ok (.irem, 1) := by decide +kernel
theorem dL_makes_322 : decode cL_makes 322 = .ok (.iconst 1, 1) := by decide +kernel
theorem dL_makes_323 : decode cL_makes 323 = .ok (.iload_n 3, 1) := by decide +kernel
theorem dL_makes_324 : decode cL_makes 324 = .ok (.iconst 5, 1) := by decide +kernel
theorem dL_makes_325 : decode cL_makes 325 = .ok (.idiv, 1) := by decide +kernel
theorem dL_makes_326 : decode cL_makes 326 = .ok (.bipush 9, 2) := by decide +kernel
theorem dL_makes_328 : decode cL_makes 328 = .ok (.irem, 1) := by decide +kernel
theorem dL_makes_329 : decode cL_makes 329 = .ok (.iadd, 1) := by decide +kernel
theorem dL_makes_330 : decode cL_makes 330 = .ok (.invokevirtual 139, 3) := by decide +kernel
theorem dL_makes_333 : decode cL_makes 333 = .ok (.iload 6, 2) := by decide +kernel
theorem dL_makes_335 : decode cL_makes 335 = .ok (.iconst 1, 1) := by decide +kernel
theorem dL_makes_336 : decode cL_makes 336 = .ok (.iadd, 1) := by decide +kernel
theorem dL_makes_337 : decode cL_makes 337 = .ok (.iload_n 3, 1) := by decide +kernel
theorem dL_makes_338 : decode cL_makes 338 = .ok (.iconst 5, 1) := by decide +kernel
theorem dL_makes_339 : decode cL_makes 339 = .ok (.idiv, 1) := by decide +kernel
theorem dL_makes_340 : decode cL_makes 340 = .ok (.bipush 9, 2) := by decide +kernel
theorem dL_makes_342 : decode cL_makes 342 = .ok (.irem, 1) := by decide +kernel
theorem dL_makes_343 : decode cL_makes 343 = .ok (.iadd, 1) := by decide +kernel
theorem dL_makes_344 : decode cL_makes 344 = .ok (.if_icmp .ne 7, 3) := by decide +kernel
theorem dL_makes_347 : decode cL_makes 347 = .ok (.iconst 1, 1) := by decide +kernel
theorem dL_makes_348 : decode cL_makes 348 = .ok (.goto 4, 3) := by decide +kernel
theorem dL_makes_351 : decode cL_makes 351 = .ok (.iconst 0, 1) := by decide +kernel
theorem dL_makes_352 : decode cL_makes 352 = .ok (.ireturn, 1) := by decide +kernel
theorem dL_makes_353 : decode cL_makes 353 = .ok (.iload_n 1, 1) := by decide +kernel
theorem dL_makes_354 : decode cL_makes 354 = .ok (.iconst 3, 1) := by decide +kernel
theorem dL_makes_355 : decode cL_makes 355 = .ok (.if_icmp .ne 109, 3) := by decide +kernel
theorem dL_makes_358 : decode cL_makes 358 = .ok (.aload 4, 2) := by decide +kernel
theorem dL_makes_360 : decode cL_makes 360 = .ok (.bipush 7, 2) := by decide +kernel
theorem dL_makes_362 : decode cL_makes 362 = .ok (.iaload, 1) := by decide +kernel
theorem dL_makes_363 : decode cL_makes 363 = .ok (.iconst 4, 1) := by decide +kernel
theorem dL_makes_364 : decode cL_makes 364 = .ok (.if_icmp .ge 100, 3) := by decide +kernel
theorem dL_makes_367 : decode cL_makes 367 = .ok (.aload 4, 2) := by decide +kernel
theorem dL_makes_369 : decode cL_makes 369 = .ok (.bipush 7, 2) := by decide +kernel
theorem dL_makes_371 : decode cL_makes 371 = .ok (.dup2, 1) := by decide +kernel
theorem dL_makes_372 : decode cL_makes 372 = .ok (.iaload, 1) := by decide +kernel
theorem dL_makes_373 : decode cL_makes 373 = .ok (.iconst 1, 1) := by decide +kernel
theorem dL_makes_374 : decode cL_makes 374 = .ok (.iadd, 1) := by decide +kernel
theorem dL_makes_375 : decode cL_makes 375 = .ok (.iastore, 1) := by decide +kernel
theorem dL_makes_376 : decode cL_makes 376 = .ok (.aload 4, 2) := by decide +kernel
theorem dL_makes_378 : decode cL_makes 378 = .ok (.iconst 0, 1) := by decide +kernel
theorem dL_makes_379 : decode cL_makes 379 = .ok (.dup2, 1) := by decide +kernel
theorem dL_makes_380 : decode cL_makes 380 = .ok (.iaload, 1) := by decide +kernel
theorem dL_makes_381 : decode cL_makes 381 = .ok (.iload_n 2, 1) := by decide +kernel
theorem dL_makes_382 : decode cL_makes 382 = .ok (.bipush 8, 2) := by decide +kernel
theorem dL_makes_384 : decode cL_makes 384 = .ok (.idiv, 1) := by decide +kernel
theorem dL_makes_385 : decode cL_makes 385 = .ok (.sipush 201, 3) := by decide +kernel
theorem dL_makes_388 : decode cL_makes 388 = .ok (.irem, 1) := by decide +kernel
theorem dL_makes_389 : decode cL_makes 389 = .ok (.iadd, 1) := by decide +kernel
theorem dL_makes_390 : decode cL_makes 390 = .ok (.iastore, 1) := by decide +kernel
theorem dL_makes_391 : decode cL_makes 391 = .ok (.aload 4, 2) := by decide +kernel
theorem dL_makes_393 : decode cL_makes 393 = .ok (.bipush 6, 2) := by decide +kernel
theorem dL_makes_395 : decode cL_makes 395 = .ok (.dup2, 1) := by decide +kernel
theorem dL_makes_396 : decode cL_makes 396 = .ok (.iaload, 1) := by decide +kernel
theorem dL_makes_397 : decode cL_makes 397 = .ok (.iconst 1, 1) := by decide +kernel
theorem dL_makes_398 : decode cL_makes 398 = .ok (.iadd, 1) := by decide +kernel
theorem dL_makes_399 : decode cL_makes 399 = .ok (.iastore, 1) := by decide +kernel
theorem dL_makes_400 : decode cL_makes 400 = .ok (.aload_n 0, 1) := by decide +kernel
theorem dL_makes_401 : decode cL_makes 401 = .ok (.iload 5, 2) := by decide +kernel
theorem dL_makes_403 : decode cL_makes 403 = .ok (.iload_n 2, 1) := by decide +kernel
theorem dL_makes_404 : decode cL_makes 404 = .ok (.bipush 8, 2) := by decide +kernel
theorem dL_makes_406 : decode cL_makes 406 = .ok (.idiv, 1) := by decide +kernel
theorem dL_makes_407 : decode cL_makes 407 = .ok (.sipush 201, 3) := by decide +kernel
theorem dL_makes_410 : decode cL_makes 410 = .ok (.irem, 1) := by decide +kernel
theorem dL_makes_411 : decode cL_makes 411 = .ok (.iload_n 3, 1) := by decide +kernel
theorem dL_makes_412 : decode cL_makes 412 = .ok (.bipush 7, 2) := by decide +kernel
theorem dL_makes_414 : decode cL_makes 414 = .ok (.irem, 1) := by decide +kernel
theorem dL_makes_415 : decode cL_makes 415 = .ok (.invokevirtual 143, 3) := by decide +kernel
theorem dL_makes_418 : decode cL_makes 418 = .ok (.aload 4, 2) := by decide +kernel
theorem dL_makes_420 : decode cL_makes 420 = .ok (.bipush 7, 2) := by decide +kernel
theorem dL_makes_422 : decode cL_makes 422 = .ok (.iaload, 1) := by decide +kernel
theorem dL_makes_423 : decode cL_makes 423 = .ok (.iconst 1, 1) := by decide +kernel
theorem dL_makes_424 : decode cL_makes 424 = .ok (.isub, 1) := by decide +kernel
theorem dL_makes_425 : decode cL_makes 425 = .ok (.if_icmp .ne 37, 3) := by decide +kernel
theorem dL_makes_428 : decode cL_makes 428 = .ok (.aload_n 0, 1) := by decide +kernel
theorem dL_makes_429 : decode cL_makes 429 = .ok (.aload 4, 2) := by decide +kernel
theorem dL_makes_431 : decode cL_makes 431 = .ok (.bipush 7, 2) := by decide +kernel
theorem dL_makes_433 : decode cL_makes 433 = .ok (.iaload, 1) := by decide +kernel
theorem dL_makes_434 : decode cL_makes 434 = .ok (.iconst 1, 1) := by decide +kernel
theorem dL_makes_435 : decode cL_makes 435 = .ok (.isub, 1) := by decide +kernel
theorem dL_makes_436 : decode cL_makes 436 = .ok (.invokevirtual 75, 3) := by decide +kernel
theorem dL_makes_439 : decode cL_makes 439 = .ok (.bipush 20, 2) := by decide +kernel
theorem dL_makes_441 : decode cL_makes 441 = .ok (.if_icmp .ne 21, 3) := by decide +kernel
theorem dL_makes_444 : decode cL_makes 444 = .ok (.aload_n 0, 1) := by decide +kernel
theorem dL_makes_445 : decode cL_makes 445 = .ok (.aload 4, 2) := by decide +kernel
theorem dL_makes_447 : decode cL_makes 447 = .ok (.bipush 7, 2) := by decide +kernel
theorem dL_makes_449 : decode cL_makes 449 = .ok (.iaload, 1) := by decide +kernel
theorem dL_makes_450 : decode cL_makes 450 = .ok (.iconst 1, 1) := by decide +kernel
theorem dL_makes_451 : decode cL_makes 451 = .ok (.isub, 1) := by decide +kernel
theorem dL_makes_452 : decode cL_makes 452 = .ok (.invokevirtual 72, 3) := by decide +kernel
theorem dL_makes_455 : decode cL_makes 455 = .ok (.ifCond .ne 7, 3) := by decide +kernel
theorem dL_makes_458 : decode cL_makes 458 = .ok (.iconst 1, 1) := by decide +kernel
theorem dL_makes_459 : decode cL_makes 459 = .ok (.goto 4, 3) := by decide +kernel
theorem dL_makes_462 : decode cL_makes 462 = .ok (.iconst 0, 1) := by decide +kernel
theorem dL_makes_463 : decode cL_makes 463 = .ok (.ireturn, 1) := by decide +kernel
theorem dL_makes_464 : decode cL_makes 464 = .ok (.iload_n 1, 1) := by decide +kernel
theorem dL_makes_465 : decode cL_makes 465 = .ok (.iconst 4, 1) := by decide +kernel
theorem dL_makes_466 : decode cL_makes 466 = .ok (.if_icmp .ne 59, 3) := by decide +kernel
theorem dL_makes_469 : decode cL_makes 469 = .ok (.aload_n 0, 1) := by decide +kernel
theorem dL_makes_470 : decode cL_makes 470 = .ok (.invokevirtual 63, 3) := by decide +kernel
theorem dL_makes_473 : decode cL_makes 473 = .ok (.istore 6, 2) := by decide +kernel
theorem dL_makes_475 : decode cL_makes 475 = .ok (.aload 4, 2) := by decide +kernel
theorem dL_makes_477 : decode cL_makes 477 = .ok (.iconst 0, 1) := by decide +kernel
theorem dL_makes_478 : decode cL_makes 478 = .ok (.dup2, 1) := by decide +kernel
theorem dL_makes_479 : decode cL_makes 479 = .ok (.iaload, 1) := by decide +kernel
theorem dL_makes_480 : decode cL_makes 480 = .ok (.iconst 1, 1) := by decide +kernel
theorem dL_makes_481 : decode cL_makes 481 = .ok (.iload_n 3, 1) := by decide +kernel
theorem dL_makes_482 : decode cL_makes 482 = .ok (.bipush 90, 2) := by decide +kernel
theorem dL_makes_484 : decode cL_makes 484 = .ok (.irem, 1) := by decide +kernel
theorem dL_makes_485 : decode cL_makes 485 = .ok (.iadd, 1) := by decide +kernel
theorem dL_makes_486 : decode cL_makes 486 = .ok (.iadd, 1) := by decide +kernel
theorem dL_makes_487 : decode cL_makes 487 = .ok (.iastore, 1) := by decide +kernel
theorem dL_makes_488 : decode cL_makes 488 = .ok (.aload 4, 2) := by decide +kernel
theorem dL_makes_490 : decode cL_makes 490 = .ok (.bipush 6, 2) := by decide +kernel
theorem dL_makes_492 : decode cL_makes 492 = .ok (.dup2, 1) := by decide +kernel
theorem dL_makes_493 : decode cL_makes 493 = .ok (.iaload, 1) := by decide +kernel
theorem dL_makes_494 : decode cL_makes 494 = .ok (.iconst 1, 1) := by decide +kernel
theorem dL_makes_495 : decode cL_makes 495 = .ok (.iadd, 1) := by decide +kernel
theorem dL_makes_496 : decode cL_makes 496 = .ok (.iastore, 1) := by decide +kernel
theorem dL_makes_497 : decode cL_makes 497 = .ok (.aload_n 0, 1) := by decide +kernel
theorem dL_makes_498 : decode cL_makes 498 = .ok (.iconst 1, 1) := by decide +kernel
theorem dL_makes_499 : decode cL_makes 499 = .ok (.iload_n 3, 1) := by decide +kernel
theorem dL_makes_500 : decode cL_makes 500 = .ok (.bipush 90, 2) := by decide +kernel
theorem dL_makes_502 : decode cL_makes 502 = .ok (.irem, 1) := by decide +kernel
theorem dL_makes_503 : decode cL_makes 503 = .ok (.iadd, 1) := by decide +kernel
theorem dL_makes_504 : decode cL_makes 504 = .ok (.invokevirtual 146, 3) := by decide +kernel
theorem dL_makes_507 : decode cL_makes 507 = .ok (.iload 6, 2) := by decide +kernel
theorem dL_makes_509 : decode cL_makes 509 = .ok (.iconst 1, 1) := by decide +kernel
theorem dL_makes_510 : decode cL_makes 510 = .ok (.iadd, 1) := by decide +kernel
theorem dL_makes_511 : decode cL_makes 511 = .ok (.iload_n 3, 1) := by decide +kernel
theorem dL_makes_512 : decode cL_makes 512 = .ok (.bipush 90, 2) := by decide +kernel
theorem dL_makes_514 : decode cL_makes 514 = .ok (.irem, 1) := by decide +kernel
theorem dL_makes_515 : decode cL_makes 515 = .ok (.iadd, 1) := by decide +kernel
theorem dL_makes_516 : decode cL_makes 516 = .ok (.if_icmp .ne 7, 3) := by decide +kernel
theorem dL_makes_519 : decode cL_makes 519 = .ok (.iconst 1, 1) := by decide +kernel
theorem dL_makes_520 : decode cL_makes 520 = .ok (.goto 4, 3) := by decide +kernel
theorem dL_makes_523 : decode cL_makes 523 = .ok (.iconst 0, 1) := by decide +kernel
theorem dL_makes_524 : decode cL_makes 524 = .ok (.ireturn, 1) := by decide +kernel
theorem dL_makes_525 : decode cL_makes 525 = .ok (.iload_n 1, 1) := by decide +kernel
theorem dL_makes_526 : decode cL_makes 526 = .ok (.iconst 5, 1) := by decide +kernel
theorem dL_makes_527 : decode cL_makes 527 = .ok (.if_icmp .ne 54, 3) := by decide +kernel
theorem dL_makes_530 : decode cL_makes 530 = .ok (.aload 4, 2) := by decide +kernel
theorem dL_makes_532 : decode cL_makes 532 = .ok (.bipush 8, 2) := by decide +kernel
theorem dL_makes_534 : decode cL_makes 534 = .ok (.iaload, 1) := by decide +kernel
theorem dL_makes_535 : decode cL_makes 535 = .ok (.iconst 3, 1) := by decide +kernel
theorem dL_makes_536 : decode cL_makes 536 = .ok (.if_icmp .ge 45, 3) := by decide +kernel
theorem dL_makes_539 : decode cL_makes 539 = .ok (.aload 4, 2) := by decide +kernel
theorem dL_makes_541 : decode cL_makes 541 = .ok (.bipush 8, 2) := by decide +kernel
theorem dL_makes_543 : decode cL_makes 543 = .ok (.dup2, 1) := by decide +kernel
theorem dL_makes_544 : decode cL_makes 544 = .ok (.iaload, 1) := by decide +kernel
theorem dL_makes_545 : decode cL_makes 545 = .ok (.iconst 1, 1) := by decide +kernel
theorem dL_makes_546 : decode cL_makes 546 = .ok (.iadd, 1) := by decide +kernel
theorem dL_makes_547 : decode cL_makes 547 = .ok (.iastore, 1) := by decide +kernel
theorem dL_makes_548 : decode cL_makes 548 = .ok (.aload 4, 2) := by decide +kernel
theorem dL_makes_550 : decode cL_makes 550 = .ok (.bipush 6, 2) := by decide +kernel
theorem dL_makes_552 : decode cL_makes 552 = .ok (.dup2, 1) := by decide +kernel
theorem dL_makes_553 : decode cL_makes 553 = .ok (.iaload, 1) := by decide +kernel
theorem dL_makes_554 : decode cL_makes 554 = .ok (.iconst 1, 1) := by decide +kernel
theorem dL_makes_555 : decode cL_makes 555 = .ok (.iadd, 1) := by decide +kernel
theorem dL_makes_556 : decode cL_makes 556 = .ok (.iastore, 1) := by decide +kernel
theorem dL_makes_557 : decode cL_makes 557 = .ok (.aload_n 0, 1) := by decide +kernel
theorem dL_makes_558 : decode cL_makes 558 = .ok (.iload_n 3, 1) := by decide +kernel
theorem dL_makes_559 : decode cL_makes 559 = .ok (.bipush 101, 2) := by decide +kernel
theorem dL_makes_561 : decode cL_makes 561 = .ok (.irem, 1) := by decide +kernel
theorem dL_makes_562 : decode cL_makes 562 = .ok (.invokevirtual 149, 3) := by decide +kernel
theorem dL_makes_565 : decode cL_makes 565 = .ok (.aload 4, 2) := by decide +kernel
theorem dL_makes_567 : decode cL_makes 567 = .ok (.bipush 8, 2) := by decide +kernel
theorem dL_makes_569 : decode cL_makes 569 = .ok (.iaload, 1) := by decide +kernel
theorem dL_makes_570 : decode cL_makes 570 = .ok (.iconst 1, 1) := by decide +kernel
theorem dL_makes_571 : decode cL_makes 571 = .ok (.isub, 1) := by decide +kernel
theorem dL_makes_572 : decode cL_makes 572 = .ok (.if_icmp .ne 7, 3) := by decide +kernel
theorem dL_makes_575 : decode cL_makes 575 = .ok (.iconst 1, 1) := by decide +kernel
theorem dL_makes_576 : decode cL_makes 576 = .ok (.goto 4, 3) := by decide +kernel
theorem dL_makes_579 : decode cL_makes 579 = .ok (.iconst 0, 1) := by decide +kernel
theorem dL_makes_580 : decode cL_makes 580 = .ok (.ireturn, 1) := by decide +kernel
theorem dL_makes_581 : decode cL_makes 581 = .ok (.aload 4, 2) := by decide +kernel
theorem dL_makes_583 : decode cL_makes 583 = .ok (.bipush 8, 2) := by decide +kernel
theorem dL_makes_585 : decode cL_makes 585 = .ok (.iaload, 1) := by decide +kernel
theorem dL_makes_586 : decode cL_makes 586 = .ok (.ifCond .ne 5, 3) := by decide +kernel
theorem dL_makes_589 : decode cL_makes 589 = .ok (.iconst 1, 1) := by decide +kernel
theorem dL_makes_590 : decode cL_makes 590 = .ok (.ireturn, 1) := by decide +kernel
theorem dL_makes_591 : decode cL_makes 591 = .ok (.iload_n 2, 1) := by decide +kernel
theorem dL_makes_592 : decode cL_makes 592 = .ok (.aload 4, 2) := by decide +kernel
theorem dL_makes_594 : decode cL_makes 594 = .ok (.bipush 8, 2) := by decide +kernel
theorem dL_makes_596 : decode cL_makes 596 = .ok (.iaload, 1) := by decide +kernel
theorem dL_makes_597 : decode cL_makes 597 = .ok (.irem, 1) := by decide +kernel
theorem dL_makes_598 : decode cL_makes 598 = .ok (.istore 6, 2) := by decide +kernel
theorem dL_makes_600 : decode cL_makes 600 = .ok (.iconst 0, 1) := by decide +kernel
theorem dL_makes_601 : decode cL_makes 601 = .ok (.istore 7, 2) := by decide +kernel
theorem dL_makes_603 : decode cL_makes 603 = .ok (.iconst 0, 1) := by decide +kernel
theorem dL_makes_604 : decode cL_makes 604 = .ok (.istore 8, 2) := by decide +kernel
theorem dL_makes_606 : decode cL_makes 606 = .ok (.iload 8, 2) := by decide +kernel
theorem dL_makes_608 : decode cL_makes 608 = .ok (.aload 4, 2) := by decide +kernel
theorem dL_makes_610 : decode cL_makes 610 = .ok (.bipush 7, 2) := by decide +kernel
theorem dL_makes_612 : decode cL_makes 612 = .ok (.iaload, 1) := by decide +kernel
theorem dL_makes_613 : decode cL_makes 613 = .ok (.if_icmp .ge 22, 3) := by decide +kernel
theorem dL_makes_616 : decode cL_makes 616 = .ok (.iload 7, 2) := by decide +kernel
theorem dL_makes_618 : decode cL_makes 618 = .ok (.aload_n 0, 1) := by decide +kernel
theorem dL_makes_619 : decode cL_makes 619 = .ok (.iload 8, 2) := by decide +kernel
theorem dL_makes_621 : decode cL_makes 621 = .ok (.iload 6, 2) := by decide +kernel
theorem dL_makes_623 : decode cL_makes 623 = .ok (.invokevirtual 81, 3) := by decide +kernel
theorem dL_makes_626 : decode cL_makes 626 = .ok (.iadd, 1) := by decide +kernel
theorem dL_makes_627 : decode cL_makes 627 = .ok (.istore 7, 2) := by decide +kernel
theorem dL_makes_629 : decode cL_makes 629 = .ok (.iinc 8 1, 3) := by decide +kernel
theorem dL_makes_632 : decode cL_makes 632 = .ok (.goto (-26), 3) := by decide +kernel
theorem dL_makes_635 : decode cL_makes 635 = .ok (.aload_n 0, 1) := by decide +kernel
theorem dL_makes_636 : decode cL_makes 636 = .ok (.iload 6, 2) := by decide +kernel
theorem dL_makes_638 : decode cL_makes 638 = .ok (.iload_n 3, 1) := by decide +kernel
theorem dL_makes_639 : decode cL_makes 639 = .ok (.iconst 4, 1) := by decide +kernel
theorem dL_makes_640 : decode cL_makes 640 = .ok (.irem, 1) := by decide +kernel
theorem dL_makes_641 : decode cL_makes 641 = .ok (.iload_n 2, 1) := by decide +kernel
theorem dL_makes_642 : decode cL_makes 642 = .ok (.bipush 8, 2) := by decide +kernel
theorem dL_makes_644 : decode cL_makes 644 = .ok (.idiv, 1) := by decide +kernel
theorem dL_makes_645 : decode cL_makes 645 = .ok (.iconst 4, 1) := by decide +kernel
theorem dL_makes_646 : decode cL_makes 646 = .ok (.irem, 1) := by decide +kernel
theorem dL_makes_647 : decode cL_makes 647 = .ok (.iconst 1, 1) := by decide +kernel
theorem dL_makes_648 : decode cL_makes 648 = .ok (.iload_n 3, 1) := by decide +kernel
theorem dL_makes_649 : decode cL_makes 649 = .ok (.iconst 4, 1) := by decide +kernel
theorem dL_makes_650 : decode cL_makes 650 = .ok (.idiv, 1) := by decide +kernel
theorem dL_makes_651 : decode cL_makes 651 = .ok (.iconst 5, 1) := by decide +kernel
theorem dL_makes_652 : decode cL_makes 652 = .ok (.irem, 1) := by decide +kernel
theorem dL_makes_653 : decode cL_makes 653 = .ok (.iadd, 1) := by decide +kernel
theorem dL_makes_654 : decode cL_makes 654 = .ok (.invokestatic 152, 3) := by decide +kernel
theorem dL_makes_657 : decode cL_makes 657 = .ok (.istore 8, 2) := by decide +kernel
theorem dL_makes_659 : decode cL_makes 659 = .ok (.aload 4, 2) := by decide +kernel
theorem dL_makes_661 : decode cL_makes 661 = .ok (.bipush 9, 2) := by decide +kernel
theorem dL_makes_663 : decode cL_makes 663 = .ok (.iload 6, 2) := by decide +kernel
theorem dL_makes_665 : decode cL_makes 665 = .ok (.iadd, 1) := by decide +kernel
theorem dL_makes_666 : decode cL_makes 666 = .ok (.iaload, 1) := by decide +kernel
theorem dL_makes_667 : decode cL_makes 667 = .ok (.iconst 4, 1) := by decide +kernel
theorem dL_makes_668 : decode cL_makes 668 = .ok (.if_icmp .ge 12, 3) := by decide +kernel
theorem dL_makes_671 : decode cL_makes 671 = .ok (.iload 7, 2) := by decide +kernel
theorem dL_makes_673 : decode cL_makes 673 = .ok (.ifCond .ne 7, 3) := by decide +kernel
theorem dL_makes_676 : decode cL_makes 676 = .ok (.iconst 1, 1) := by decide +kernel
theorem dL_makes_677 : decode cL_makes 677 = .ok (.goto 4, 3) := by decide +kernel
theorem dL_makes_680 : decode cL_makes 680 = .ok (.iconst 0, 1) := by decide +kernel
theorem dL_makes_681 : decode cL_makes 681 = .ok (.istore 9, 2) := by decide +kernel
theorem dL_makes_683 : decode cL_makes 683 = .ok (.aload 4, 2) := by decide +kernel
theorem dL_makes_685 : decode cL_makes 685 = .ok (.bipush 9, 2) := by decide +kernel
theorem dL_makes_687 : decode cL_makes 687 = .ok (.iload 6, 2) := by decide +kernel
theorem dL_makes_689 : decode cL_makes 689 = .ok (.iadd, 1) := by decide +kernel
theorem dL_makes_690 : decode cL_makes 690 = .ok (.dup2, 1) := by decide +kernel
theorem dL_makes_691 : decode cL_makes 691 = .ok (.iaload, 1) := by decide +kernel
theorem dL_makes_692 : decode cL_makes 692 = .ok (.iload 9, 2) := by decide +kernel
theorem dL_makes_694 : decode cL_makes 694 = .ok (.ifCond .eq 7, 3) := by decide +kernel
theorem dL_makes_697 : decode cL_makes 697 = .ok (.iconst 1, 1) := by decide +kernel
theorem dL_makes_698 : decode cL_makes 698 = .ok (.goto 4, 3) := by decide +kernel
theorem dL_makes_701 : decode cL_makes 701 = .ok (.iconst 0, 1) := by decide +kernel
theorem dL_makes_702 : decode cL_makes 702 = .ok (.iadd, 1) := by decide +kernel
theorem dL_makes_703 : decode cL_makes 703 = .ok (.iastore, 1) := by decide +kernel
theorem dL_makes_704 : decode cL_makes 704 = .ok (.aload 4, 2) := by decide +kernel
theorem dL_makes_706 : decode cL_makes 706 = .ok (.bipush 6, 2) := by decide +kernel
theorem dL_makes_708 : decode cL_makes 708 = .ok (.dup2, 1) := by decide +kernel
theorem dL_makes_709 : decode cL_makes 709 = .ok (.iaload, 1) := by decide +kernel
theorem dL_makes_710 : decode cL_makes 710 = .ok (.iload 9, 2) := by decide +kernel
theorem dL_makes_712 : decode cL_makes 712 = .ok (.ifCond .eq 7, 3) := by decide +kernel
theorem dL_makes_715 : decode cL_makes 715 = .ok (.iconst 1, 1) := by decide +kernel
theorem dL_makes_716 : decode cL_makes 716 = .ok (.goto 4, 3) := by decide +kernel
theorem dL_makes_719 : decode cL_makes 719 = .ok (.iconst 0, 1) := by decide +kernel
theorem dL_makes_720 : decode cL_makes 720 = .ok (.iadd, 1) := by decide +kernel
theorem dL_makes_721 : decode cL_makes 721 = .ok (.iastore, 1) := by decide +kernel
theorem dL_makes_722 : decode cL_makes 722 = .ok (.iload 8, 2) := by decide +kernel
theorem dL_makes_724 : decode cL_makes 724 = .ok (.iload 9, 2) := by decide +kernel
theorem dL_makes_726 : decode cL_makes 726 = .ok (.ifCond .eq 14, 3) := by decide +kernel
theorem dL_makes_729 : decode cL_makes 729 = .ok (.aload 4, 2) := by decide +kernel
theorem dL_makes_731 : decode cL_makes 731 = .ok (.bipush 9, 2) := by decide +kernel
theorem dL_makes_733 : decode cL_makes 733 = .ok (.iload 6, 2) := by decide +kernel
theorem dL_makes_735 : decode cL_makes 735 = .ok (.iadd, 1) := by decide +kernel
theorem dL_makes_736 : decode cL_makes 736 = .ok (.iaload, 1) := by decide +kernel
theorem dL_makes_737 : decode cL_makes 737 = .ok (.goto 5, 3) := by decide +kernel
theorem dL_makes_740 : decode cL_makes 740 = .ok (.bipush (-8), 2) := by decide +kernel
theorem dL_makes_742 : decode cL_makes 742 = .ok (.if_icmp .ne 7, 3) := by decide +kernel
theorem dL_makes_745 : decode cL_makes 745 = .ok (.iconst 1, 1) := by decide +kernel
theorem dL_makes_746 : decode cL_makes 746 = .ok (.goto 4, 3) := by decide +kernel
theorem dL_makes_749 : decode cL_makes 749 = .ok (.iconst 0, 1) := by decide +kernel
theorem dL_makes_750 : decode cL_makes 750 = .ok (.ireturn, 1) := by decide +kernel
theorem dL_does_0 : decode cL_does 0 = .ok (.aload_n 0, 1) := by decide +kernel
theorem dL_does_1 : decode cL_does 1 = .ok (.invokevirtual 99, 3) := by decide +kernel
theorem dL_does_4 : decode cL_does 4 = .ok (.istore 5, 2) := by decide +kernel
theorem dL_does_6 : decode cL_does 6 = .ok (.iconst 4, 1) := by decide +kernel
theorem dL_does_7 : decode cL_does 7 = .ok (.newarray .int, 2) := by decide +kernel
theorem dL_does_9 : decode cL_does 9 = .ok (.astore 6, 2) := by decide +kernel
theorem dL_does_11 : decode cL_does 11 = .ok (.bipush 12, 2) := by decide +kernel
theorem dL_does_13 : decode cL_does 13 = .ok (.newarray .int, 2) := by decide +kernel
theorem dL_does_15 : decode cL_does 15 = .ok (.astore 7, 2) := by decide +kernel
theorem dL_does_17 : decode cL_does 17 = .ok (.iconst 4, 1) := by decide +kernel
theorem dL_does_18 : decode cL_does 18 = .ok (.newarray .int, 2) := by decide +kernel
theorem dL_does_20 : decode cL_does 20 = .ok (.astore 8, 2) := by decide +kernel
theorem dL_does_22 : decode cL_does 22 = .ok (.iconst 0, 1) := by decide +kernel
theorem dL_does_23 : decode cL_does 23 = .ok (.istore 9, 2) := by decide +kernel
theorem dL_does_25 : decode cL_does 25 = .ok (.iload 9, 2) := by decide +kernel
theorem dL_does_27 : decode cL_does 27 = .ok (.aload 4, 2) := by decide +kernel
theorem dL_does_29 : decode cL_does 29 = .ok (.bipush 7, 2) := by decide +kernel
theorem dL_does_31 : decode cL_does 31 = .ok (.iaload, 1) := by decide +kernel
theorem dL_does_32 : decode cL_does 32 = .ok (.if_icmp .ge 68, 3) := by decide +kernel
theorem dL_does_35 : decode cL_does 35 = .ok (.aload 6, 2) := by decide +kernel
theorem dL_does_37 : decode cL_does 37 = .ok (.iload 9, 2) := by decide +kernel
theorem dL_does_39 : decode cL_does 39 = .ok (.aload_n 0, 1) := by decide +kernel
theorem dL_does_40 : decode cL_does 40 = .ok (.iload 9, 2) := by decide +kernel
theorem dL_does_42 : decode cL_does 42 = .ok (.invokevirtual 72, 3) := by decide +kernel
theorem dL_does_45 : decode cL_does 45 = .ok (.iastore, 1) := by decide +kernel
theorem dL_does_46 : decode cL_does 46 = .ok (.aload 8, 2) := by decide +kernel
theorem dL_does_48 : decode cL_does 48 = .ok (.iload 9, 2) := by decide +kernel
theorem dL_does_50 : decode cL_does 50 = .ok (.aload_n 0, 1) := by decide +kernel
theorem dL_does_51 : decode cL_does 51 = .ok (.iload 9, 2) := by decide +kernel
theorem dL_does_53 : decode cL_does 53 = .ok (.invokevirtual 78, 3) := by decide +kernel
theorem dL_does_56 : decode cL_does 56 = .ok (.iastore, 1) := by decide +kernel
theorem dL_does_57 : decode cL_does 57 = .ok (.iconst 0, 1) := by decide +kernel
theorem dL_does_58 : decode cL_does 58 = .ok (.istore 10, 2) := by decide +kernel
theorem dL_does_60 : decode cL_does 60 = .ok (.iload 10, 2) := by decide +kernel
theorem dL_does_62 : decode cL_does 62 = .ok (.aload 4, 2) := by decide +kernel
theorem dL_does_64 : decode cL_does 64 = .ok (.bipush 8, 2) := by decide +kernel
theorem dL_does_66 : decode cL_does 66 = .ok (.iaload, 1) := by decide +kernel
theorem dL_does_67 : decode cL_does 67 = .ok (.if_icmp .ge 27, 3) := by decide +kernel
theorem dL_does_70 : decode cL_does 70 = .ok (.aload 7, 2) := by decide +kernel
theorem dL_does_72 : decode cL_does 72 = .ok (.iconst 3, 1) := by decide +kernel
theorem dL_does_73 : decode cL_does 73 = .ok (.iload 9, 2) := by decide +kernel
theorem dL_does_75 : decode cL_does 75 = .ok (.imul, 1) := by decide +kernel
theorem dL_does_76 : decode cL_does 76 = .ok (.iload 10, 2) := by decide +kernel
theorem dL_does_78 : decode cL_does 78 = .ok (.iadd, 1) := by decide +kernel
theorem dL_does_79 : decode cL_does 79 = .ok (.aload_n 0, 1) := by decide +kernel
theorem dL_does_80 : decode cL_does 80 = .ok (.iload 9, 2) := by decide +kernel
theorem dL_does_82 : decode cL_does 82 = .ok (.iload 10, 2) := by decide +kernel
theorem dL_does_84 : decode cL_does 84 = .ok (.invokevirtual 81, 3) := by decide +kernel
theorem dL_does_87 : decode cL_does 87 = .ok (.iastore, 1) := by decide +kernel
theorem dL_does_88 : decode cL_does 88 = .ok (.iinc 10 1, 3) := by decide +kernel
theorem dL_does_91 : decode cL_does 91 = .ok (.goto (-31), 3) := by decide +kernel
theorem dL_does_94 : decode cL_does 94 = .ok (.iinc 9 1, 3) := by decide +kernel
theorem dL_does_97 : decode cL_does 97 = .ok (.goto (-72), 3) := by decide +kernel
theorem dL_does_100 : decode cL_does 100 = .ok (.iload_n 1, 1) := by decide +kernel
theorem dL_does_101 : decode cL_does 101 = .ok (.bipush 6, 2) := by decide +kernel
theorem dL_does_103 : decode cL_does 103 = .ok (.if_icmp .ne 12, 3) := by decide +kernel
theorem dL_does_106 : decode cL_does 106 = .ok (.iconst 1, 1) := by decide +kernel
theorem dL_does_107 : decode cL_does 107 = .ok (.iload_n 3, 1) := by decide +kernel
theorem dL_does_108 : decode cL_does 108 = .ok (.bipush 40, 2) := by decide +kernel
theorem dL_does_110 : decode cL_does 110 = .ok (.irem, 1) := by decide +kernel
theorem dL_does_111 : decode cL_does 111 = .ok (.iadd, 1) := by decide +kernel
theorem dL_does_112 : decode cL_does 112 = .ok (.goto 18, 3) := by decide +kernel
theorem dL_does_115 : decode cL_does 115 = .ok (.iload_n 1, 1) := by decide +kernel
theorem dL_does_116 : decode cL_does 116 = .ok (.iconst 5, 1) := by decide +kernel
theorem dL_does_117 : decode cL_does 117 = .ok (.if_icmp .ne 9, 3) := by decide +kernel
theorem dL_does_120 : decode cL_does 120 = .ok (.iload_n 3, 1) := by decide +kernel
theorem dL_does_121 : decode cL_does 121 = .ok (.iconst 4, 1) := by decide +kernel
theorem dL_does_122 : decode cL_does 122 = .ok (.irem, 1) := by decide +kernel
theorem dL_does_123 : decode cL_does 123 = .ok (.goto 7, 3) := by decide +kernel
theorem dL_does_126 : decode cL_does 126 = .ok (.iload_n 3, 1) := by decide +kernel
theorem dL_does_127 : decode cL_does 127 = .ok (.bipush 30, 2) := by decide +kernel
theorem dL_does_129 : decode cL_does 129 = .ok (.irem, 1) := by decide +kernel
theorem dL_does_130 : decode cL_does 130 = .ok (.istore 9, 2) := by decide +kernel
theorem dL_does_132 : decode cL_does 132 = .ok (.aload_n 0, 1) := by decide +kernel
theorem dL_does_133 : decode cL_does 133 = .ok (.iload_n 1, 1) := by decide +kernel
theorem dL_does_134 : decode cL_does 134 = .ok (.iload_n 1, 1) := by decide +kernel
theorem dL_does_135 : decode cL_does 135 = .ok (.ifCond .eq 15, 3) := by decide +kernel
theorem dL_does_138 : decode cL_does 138 = .ok (.iload_n 1, 1) := by decide +kernel
theorem dL_does_139 : decode cL_does 139 = .ok (.bipush 6, 2) := by decide +kernel
theorem dL_does_141 : decode cL_does 141 = .ok (.if_icmp .eq 9, 3) := by decide +kernel
theorem dL_does_144 : decode cL_does 144 = .ok (.iload_n 1, 1) := by decide +kernel
theorem dL_does_145 : decode cL_does 145 = .ok (.bipush 9, 2) := by decide +kernel
theorem dL_does_147 : decode cL_does 147 = .ok (.if_icmp .ne 9, 3) := by decide +kernel
theorem dL_does_150 : decode cL_does 150 = .ok (.iload_n 2, 1) := by decide +kernel
theorem dL_does_151 : decode cL_does 151 = .ok (.iconst 4, 1) := by decide +kernel
theorem dL_does_152 : decode cL_does 152 = .ok (.irem, 1) := by decide +kernel
theorem dL_does_153 : decode cL_does 153 = .ok (.goto 6, 3) := by decide +kernel
theorem dL_does_156 : decode cL_does 156 = .ok (.iload_n 2, 1) := by decide +kernel
theorem dL_does_157 : decode cL_does 157 = .ok (.iconst 5, 1) := by decide +kernel
theorem dL_does_158 : decode cL_does 158 = .ok (.irem, 1) := by decide +kernel
theorem dL_does_159 : decode cL_does 159 = .ok (.iload 9, 2) := by decide +kernel
theorem dL_does_161 : decode cL_does 161 = .ok (.invokestatic 156, 3) := by decide +kernel
theorem dL_does_164 : decode cL_does 164 = .ok (.istore 10, 2) := by decide +kernel
theorem dL_does_166 : decode cL_does 166 = .ok (.iload 10, 2) := by decide +kernel
theorem dL_does_168 : decode cL_does 168 = .ok (.bipush (-7), 2) := by decide +kernel
theorem dL_does_170 : decode cL_does 170 = .ok (.if_icmp .le 7, 3) := by decide +kernel
theorem dL_does_173 : decode cL_does 173 = .ok (.iconst 1, 1) := by decide +kernel
theorem dL_does_174 : decode cL_does 174 = .ok (.goto 4, 3) := by decide +kernel
theorem dL_does_177 : decode cL_does 177 = .ok (.iconst 0, 1) := by decide +kernel
theorem dL_does_178 : decode cL_does 178 = .ok (.istore 11, 2) := by decide +kernel
theorem dL_does_180 : decode cL_does 180 = .ok (.aload 4, 2) := by decide +kernel
theorem dL_does_182 : decode cL_does 182 = .ok (.bipush 6, 2) := by decide +kernel
theorem dL_does_184 : decode cL_does 184 = .ok (.dup2, 1) := by decide +kernel
theorem dL_does_185 : decode cL_does 185 = .ok (.iaload, 1) := by decide +kernel
theorem dL_does_186 : decode cL_does 186 = .ok (.iload 11, 2) := by decide +kernel
theorem dL_does_188 : decode cL_does 188 = .ok (.ifCond .eq 7, 3) := by decide +kernel
theorem dL_does_191 : decode cL_does 191 = .ok (.iconst 1, 1) := by decide +kernel
theorem dL_does_192 : decode cL_does 192 = .ok (.goto 4, 3) := by decide +kernel
theorem dL_does_195 : decode cL_does 195 = .ok (.iconst 0, 1) := by decide +kernel
theorem dL_does_196 : decode cL_does 196 = .ok (.iadd, 1) := by decide +kernel
theorem dL_does_197 : decode cL_does 197 = .ok (.iastore, 1) := by decide +kernel
theorem dL_does_198 : decode cL_does 198 = .ok (.iload_n 1, 1) := by decide +kernel
theorem dL_does_199 : decode cL_does 199 = .ok (.ifCond .eq 9, 3) := by decide +kernel
theorem dL_does_202 : decode cL_does 202 = .ok (.iload_n 1, 1) := by decide +kernel
theorem dL_does_203 : decode cL_does 203 = .ok (.bipush 10, 2) := by decide +kernel
theorem dL_does_205 : decode cL_does 205 = .ok (.if_icmp .ne 7, 3) := by decide +kernel
theorem dL_does_208 : decode cL_does 208 = .ok (.iconst 2, 1) := by decide +kernel
theorem dL_does_209 : decode cL_does 209 = .ok (.goto 14, 3) := by decide +kernel
theorem dL_does_212 : decode cL_does 212 = .ok (.iload_n 1, 1) := by decide +kernel
theorem dL_does_213 : decode cL_does 213 = .ok (.bipush 9, 2) := by decide +kernel
theorem dL_does_215 : decode cL_does 215 = .ok (.if_icmp .ne 7, 3) := by decide +kernel
theorem dL_does_218 : decode cL_does 218 = .ok (.iconst 3, 1) := by decide +kernel
theorem dL_does_219 : decode cL_does 219 = .ok (.goto 4, 3) := by decide +kernel
theorem dL_does_222 : decode cL_does 222 = .ok (.iconst 1, 1) := by decide +kernel
theorem dL_does_223 : decode cL_does 223 = .ok (.istore 12, 2) := by decide +kernel
theorem dL_does_225 : decode cL_does 225 = .ok (.iload 11, 2) := by decide +kernel
theorem dL_does_227 : decode cL_does 227 = .ok (.ifCond .ne 15, 3) := by decide +kernel
theorem dL_does_230 : decode cL_does 230 = .ok (.aload_n 0, 1) := by decide +kernel
theorem dL_does_231 : decode cL_does 231 = .ok (.invokevirtual 66, 3) := by decide +kernel
theorem dL_does_234 : decode cL_does 234 = .ok (.aload 4, 2) := by decide +kernel
theorem dL_does_236 : decode cL_does 236 = .ok (.bipush 6, 2) := by decide +kernel
theorem dL_does_238 : decode cL_does 238 = .ok (.iaload, 1) := by decide +kernel
theorem dL_does_239 : decode cL_does 239 = .ok (.if_icmp .ne 7, 3) := by decide +kernel
theorem dL_does_242 : decode cL_does 242 = .ok (.iconst 1, 1) := by decide +kernel
theorem dL_does_243 : decode cL_does 243 = .ok (.goto 4, 3) := by decide +kernel
theorem dL_does_246 : decode cL_does 246 = .ok (.iconst 0, 1) := by decide +kernel
theorem dL_does_247 : decode cL_does 247 = .ok (.istore 13, 2) := by decide +kernel
theorem dL_does_249 : decode cL_does 249 = .ok (.iconst 0, 1) := by decide +kernel
theorem dL_does_250 : decode cL_does 250 = .ok (.istore 14, 2) := by decide +kernel
theorem dL_does_252 : decode cL_does 252 = .ok (.iload 14, 2) := by decide +kernel
theorem dL_does_254 : decode cL_does 254 = .ok (.aload 4, 2) := by decide +kernel
theorem dL_does_256 : decode cL_does 256 = .ok (.bipush 7, 2) := by decide +kernel
theorem dL_does_258 : decode cL_does 258 = .ok (.iaload, 1) := by decide +kernel
theorem dL_does_259 : decode cL_does 259 = .ok (.if_icmp .ge 256, 3) := by decide +kernel
theorem dL_does_262 : decode cL_does 262 = .ok (.iload 13, 2) := by decide +kernel
theorem dL_does_264 : decode cL_does 264 = .ok (.ifCond .eq 251, 3) := by decide +kernel
theorem dL_does_267 : decode cL_does 267 = .ok (.aload 6, 2) := by decide +kernel
theorem dL_does_269 : decode cL_does 269 = .ok (.iload 14, 2) := by decide +kernel
theorem dL_does_271 : decode cL_does 271 = .ok (.iaload, 1) := by decide +kernel
theorem dL_does_272 : decode cL_does 272 = .ok (.iload 11, 2) := by decide +kernel
theorem dL_does_274 : decode cL_does 274 = .ok (.ifCond .eq 15, 3) := by decide +kernel
theorem dL_does_277 : decode cL_does 277 = .ok (.iload 14, 2) := by decide +kernel
theorem dL_does_279 : decode cL_does 279 = .ok (.iload 5, 2) := by decide +kernel
theorem dL_does_281 : decode cL_does 281 = .ok (.if_icmp .ne 8, 3) := by decide +kernel
theorem dL_does_284 : decode cL_does 284 = .ok (.iload 12, 2) := by decide +kernel
theorem dL_does_286 : decode cL_does 286 = .ok (.goto 4, 3) := by decide +kernel
theorem dL_does_289 : decode cL_does 289 = .ok (.iconst 0, 1) := by decide +kernel
theorem dL_does_290 : decode cL_does 290 = .ok (.iadd, 1) := by decide +kernel
theorem dL_does_291 : decode cL_does 291 = .ok (.istore 15, 2) := by decide +kernel
theorem dL_does_293 : decode cL_does 293 = .ok (.iload 11, 2) := by decide +kernel
theorem dL_does_295 : decode cL_does 295 = .ok (.ifCond .eq 20, 3) := by decide +kernel
theorem dL_does_298 : decode cL_does 298 = .ok (.iload_n 1, 1) := by decide +kernel
theorem dL_does_299 : decode cL_does 299 = .ok (.bipush 9, 2) := by decide +kernel
theorem dL_does_301 : decode cL_does 301 = .ok (.if_icmp .ne 14, 3) := by decide +kernel
theorem dL_does_304 : decode cL_does 304 = .ok (.iload 10, 2) := by decide +kernel
theorem dL_does_306 : decode cL_does 306 = .ok (.iload 14, 2) := by decide +kernel
theorem dL_does_308 : decode cL_does 308 = .ok (.if_icmp .ne 7, 3) := by decide +kernel
theorem dL_does_311 : decode cL_does 311 = .ok (.iconst 1, 1) := by decide +kernel
theorem dL_does_312 : decode cL_does 312 = .ok (.goto 4, 3) := by decide +kernel
theorem dL_does_315 : decode cL_does 315 = .ok (.iconst 0, 1) := by decide +kernel
theorem dL_does_316 : decode cL_does 316 = .ok (.istore 16, 2) := by decide +kernel
theorem dL_does_318 : decode cL_does 318 = .ok (.aload 6, 2) := by decide +kernel
theorem dL_does_320 : decode cL_does 320 = .ok (.iload 5, 2) := by decide +kernel
theorem dL_does_322 : decode cL_does 322 = .ok (.iaload, 1) := by decide +kernel
theorem dL_does_323 : decode cL_does 323 = .ok (.bipush 10, 2) := by decide +kernel
theorem dL_does_325 : decode cL_does 325 = .ok (.iadd, 1) := by decide +kernel
theorem dL_does_326 : decode cL_does 326 = .ok (.istore 17, 2) := by decide +kernel
theorem dL_does_328 : decode cL_does 328 = .ok (.aload_n 0, 1) := by decide +kernel
theorem dL_does_329 : decode cL_does 329 = .ok (.iload 14, 2) := by decide +kernel
theorem dL_does_331 : decode cL_does 331 = .ok (.invokevirtual 72, 3) := by decide +kernel
theorem dL_does_334 : decode cL_does 334 = .ok (.iload 16, 2) := by decide +kernel
theorem dL_does_336 : decode cL_does 336 = .ok (.ifCond .eq 26, 3) := by decide +kernel
theorem dL_does_339 : decode cL_does 339 = .ok (.aload 6, 2) := by decide +kernel
theorem dL_does_341 : decode cL_does 341 = .ok (.iload 14, 2) := by decide +kernel
theorem dL_does_343 : decode cL_does 343 = .ok (.iaload, 1) := by decide +kernel
theorem dL_does_344 : decode cL_does 344 = .ok (.iload 17, 2) := by decide +kernel
theorem dL_does_346 : decode cL_does 346 = .ok (.if_icmp .le 11, 3) := by decide +kernel
theorem dL_does_349 : decode cL_does 349 = .ok (.aload 6, 2) := by decide +kernel
theorem dL_does_351 : decode cL_does 351 = .ok (.iload 14, 2) := by decide +kernel
theorem dL_does_353 : decode cL_does 353 = .ok (.iaload, 1) := by decide +kernel
theorem dL_does_354 : decode cL_does 354 = .ok (.goto 10, 3) := by decide +kernel
theorem dL_does_357 : decode cL_does 357 = .ok (.iload 17, 2) := by decide +kernel
theorem dL_does_359 : decode cL_does 359 = .ok (.goto 5, 3) := by decide +kernel
theorem dL_does_362 : decode cL_does 362 = .ok (.iload 15, 2) := by decide +kernel
theorem dL_does_364 : decode cL_does 364 = .ok (.if_icmp .ne 67, 3) := by decide +kernel
theorem dL_does_367 : decode cL_does 367 = .ok (.aload_n 0, 1) := by decide +kernel
theorem dL_does_368 : decode cL_does 368 = .ok (.iload 14, 2) := by decide +kernel
theorem dL_does_370 : decode cL_does 370 = .ok (.invokevirtual 78, 3) := by decide +kernel
theorem dL_does_373 : decode cL_does 373 = .ok (.iload 16, 2) := by decide +kernel
theorem dL_does_375 : decode cL_does 375 = .ok (.ifCond .eq 7, 3) := by decide +kernel
theorem dL_does_378 : decode cL_does 378 = .ok (.iconst 0, 1) := by decide +kernel
theorem dL_does_379 : decode cL_does 379 = .ok (.goto 29, 3) := by decide +kernel
theorem dL_does_382 : decode cL_does 382 = .ok (.iload 11, 2) := by decide +kernel
theorem dL_does_384 : decode cL_does 384 = .ok (.ifCond .eq 19, 3) := by decide +kernel
theorem dL_does_387 : decode cL_does 387 = .ok (.iload_n 1, 1) := by decide +kernel
theorem dL_does_388 : decode cL_does 388 = .ok (.ifCond .ne 15, 3) := by decide +kernel
theorem dL_does_391 : decode cL_does 391 = .ok (.iload 14, 2) := by decide +kernel
theorem dL_does_393 : decode cL_does 393 = .ok (.iload 5, 2) := by decide +kernel
theorem dL_does_395 : decode cL_does 395 = .ok (.if_icmp .ne 8, 3) := by decide +kernel
theorem dL_does_398 : decode cL_does 398 = .ok (.iload 10, 2) := by decide +kernel
theorem dL_does_400 : decode cL_does 400 = .ok (.goto 8, 3) := by decide +kernel
theorem dL_does_403 : decode cL_does 403 = .ok (.aload 8, 2) := by decide +kernel
theorem dL_does_405 : decode cL_does 405 = .ok (.iload 14, 2) := by decide +kernel
theorem dL_does_407 : decode cL_does 407 = .ok (.iaload, 1) := by decide +kernel
theorem dL_does_408 : decode cL_does 408 = .ok (.if_icmp .ne 23, 3) := by decide +kernel
theorem dL_does_411 : decode cL_does 411 = .ok (.iload 16, 2) := by decide +kernel
theorem dL_does_413 : decode cL_does 413 = .ok (.ifCond .eq 14, 3) := by decide +kernel
theorem dL_does_416 : decode cL_does 416 = .ok (.aload_n 0, 1) := by decide +kernel
theorem dL_does_417 : decode cL_does 417 = .ok (.iload 14, 2) := by decide +kernel
theorem dL_does_419 : decode cL_does 419 = .ok (.invokevirtual 75, 3) := by decide +kernel
theorem dL_does_422 : decode cL_does 422 = .ok (.bipush 10, 2) := by decide +kernel
theorem dL_does_424 : decode cL_does 424 = .ok (.if_icmp .ne 7, 3) := by decide +kernel
theorem dL_does_427 : decode cL_does 427 = .ok (.iconst 1, 1) := by decide +kernel
theorem dL_does_428 : decode cL_does 428 = .ok (.goto 4, 3) := by decide +kernel
theorem dL_does_431 : decode cL_does 431 = .ok (.iconst 0, 1) := by decide +kernel
theorem dL_does_432 : decode cL_does 432 = .ok (.istore 13, 2) := by decide +kernel
theorem dL_does_434 : decode cL_does 434 = .ok (.iconst 0, 1) := by decide +kernel
theorem dL_does_435 : decode cL_does 435 = .ok (.istore 18, 2) := by decide +kernel
theorem dL_does_437 : decode cL_does 437 = .ok (.iload 18, 2) := by decide +kernel
theorem dL_does_439 : decode cL_does 439 = .ok (.aload 4, 2) := by decide +kernel
theorem dL_does_441 : decode cL_does 441 = .ok (.bipush 8, 2) := by decide +kernel
theorem dL_does_443 : decode cL_does 443 = .ok (.iaload, 1) := by decide +kernel
theorem dL_does_444 : decode cL_does 444 = .ok (.if_icmp .ge 65, 3) := by decide +kernel
theorem dL_does_447 : decode cL_does 447 = .ok (.iload 13, 2) := by decide +kernel
theorem dL_does_449 : decode cL_does 449 = .ok (.ifCond .eq 60, 3) := by decide +kernel
theorem dL_does_452 : decode cL_does 452 = .ok (.aload_n 0, 1) := by decide +kernel
theorem dL_does_453 : decode cL_does 453 = .ok (.iload 14, 2) := by decide +kernel
theorem dL_does_455 : decode cL_does 455 = .ok (.iload 18, 2) := by decide +kernel
theorem dL_does_457 : decode cL_does 457 = .ok (.invokevirtual 81, 3) := by decide +kernel
theorem dL_does_460 : decode cL_does 460 = .ok (.aload 7, 2) := by decide +kernel
theorem dL_does_462 : decode cL_does 462 = .ok (.iconst 3, 1) := by decide +kernel
theorem dL_does_463 : decode cL_does 463 = .ok (.iload 14, 2) := by decide +kernel
theorem dL_does_465 : decode cL_does 465 = .ok (.imul, 1) := by decide +kernel
theorem dL_does_466 : decode cL_does 466 = .ok (.iload 18, 2) := by decide +kernel
theorem dL_does_468 : decode cL_does 468 = .ok (.iadd, 1) := by decide +kernel
theorem dL_does_469 : decode cL_does 469 = .ok (.iaload, 1) := by decide +kernel
theorem dL_does_470 : decode cL_does 470 = .ok (.isub, 1) := by decide +kernel
theorem dL_does_471 : decode cL_does 471 = .ok (.istore 19, 2) := by decide +kernel
theorem dL_does_473 : decode cL_does 473 = .ok (.iload 19, 2) := by decide +kernel
theorem dL_does_475 : decode cL_does 475 = .ok (.ifCond .eq 21, 3) := by decide +kernel
theorem dL_does_478 : decode cL_does 478 = .ok (.iload 19, 2) := by decide +kernel
theorem dL_does_480 : decode cL_does 480 = .ok (.iconst 1, 1) := by decide +kernel
theorem dL_does_481 : decode cL_does 481 = .ok (.if_icmp .ne 19, 3) := by decide +kernel
theorem dL_does_484 : decode cL_does 484 = .ok (.iload 11, 2) := by decide +kernel
theorem dL_does_486 : decode cL_does 486 = .ok (.ifCond .eq 14, 3) := by decide +kernel
theorem dL_does_489 : decode cL_does 489 = .ok (.iload 14, 2) := by decide +kernel
theorem dL_does_491 : decode cL_does 491 = .ok (.iload 5, 2) := by decide +kernel
theorem dL_does_493 : decode cL_does 493 = .ok (.if_icmp .ne 7, 3) := by decide +kernel
theorem dL_does_496 : decode cL_does 496 = .ok (.iconst 1, 1) := by decide +kernel
theorem dL_does_497 : decode cL_does 497 = .ok (.goto 4, 3) := by decide +kernel
theorem dL_does_500 : decode cL_does 500 = .ok (.iconst 0, 1) := by decide +kernel
theorem dL_does_501 : decode cL_does 501 = .ok (.istore 13, 2) := by decide +kernel
theorem dL_does_503 : decode cL_does 503 = .ok (.iinc 18 1, 3) := by decide +kernel
theorem dL_does_506 : decode cL_does 506 = .ok (.goto (-69), 3) := by decide +kernel
theorem dL_does_509 : decode cL_does 509 = .ok (.iinc 14 1, 3) := by decide +kernel
theorem dL_does_512 : decode cL_does 512 = .ok (.goto (-260), 3) := by decide +kernel
theorem dL_does_515 : decode cL_does 515 = .ok (.iload 11, 2) := by decide +kernel
theorem dL_does_517 : decode cL_does 517 = .ok (.ifCond .eq 8, 3) := by decide +kernel
theorem dL_does_520 : decode cL_does 520 = .ok (.iload 13, 2) := by decide +kernel
theorem dL_does_522 : decode cL_does 522 = .ok (.ifCond .ne 6, 3) := by decide +kernel
theorem dL_does_525 : decode cL_does 525 = .ok (.iload 13, 2) := by decide +kernel
theorem dL_does_527 : decode cL_does 527 = .ok (.ireturn, 1) := by decide +kernel
theorem dL_does_528 : decode cL_does 528 = .ok (.iload_n 1, 1) := by decide +kernel
theorem dL_does_529 : decode cL_does 529 = .ok (.iconst 1, 1) := by decide +kernel
theorem dL_does_530 : decode cL_does 530 = .ok (.if_icmp .eq 8, 3) := by decide +kernel
theorem dL_does_533 : decode cL_does 533 = .ok (.iload_n 1, 1) := by decide +kernel
theorem dL_does_534 : decode cL_does 534 = .ok (.iconst 2, 1) := by decide +kernel
theorem dL_does_535 : decode cL_does 535 = .ok (.if_icmp .ne 28, 3) := by decide +kernel
theorem dL_does_538 : decode cL_does 538 = .ok (.aload_n 0, 1) := by decide +kernel
theorem dL_does_539 : decode cL_does 539 = .ok (.aload 4, 2) := by decide +kernel
theorem dL_does_541 : decode cL_does 541 = .ok (.iload 5, 2) := by decide +kernel
theorem dL_does_543 : decode cL_does 543 = .ok (.iload 9, 2) := by decide +kernel
theorem dL_does_545 : decode cL_does 545 = .ok (.iload 10, 2) := by decide +kernel
theorem dL_does_547 : decode cL_does 547 = .ok (.iload_n 1, 1) := by decide +kernel
theorem dL_does_548 : decode cL_does 548 = .ok (.iconst 2, 1) := by decide +kernel
theorem dL_does_549 : decode cL_does 549 = .ok (.if_icmp .ne 7, 3) := by decide +kernel
theorem dL_does_552 : decode cL_does 552 = .ok (.iconst 1, 1) := by decide +kernel
theorem dL_does_553 : decode cL_does 553 = .ok (.goto 4, 3) := by decide +kernel
theorem dL_does_556 : decode cL_does 556 = .ok (.iconst 0, 1) := by decide +kernel
theorem dL_does_557 : decode cL_does 557 = .ok (.invokestatic 159, 3) := by decide +kernel
theorem dL_does_560 : decode cL_does 560 = .ok (.goto 110, 3) := by decide +kernel
theorem dL_does_563 : decode cL_does 563 = .ok (.iload_n 1, 1) := by decide +kernel
theorem dL_does_564 : decode cL_does 564 = .ok (.iconst 3, 1) := by decide +kernel
theorem dL_does_565 : decode cL_does 565 = .ok (.if_icmp .eq 13, 3) := by decide +kernel
theorem dL_does_568 : decode cL_does 568 = .ok (.iload_n 1, 1) := by decide +kernel
theorem dL_does_569 : decode cL_does 569 = .ok (.iconst 4, 1) := by decide +kernel
theorem dL_does_570 : decode cL_does 570 = .ok (.if_icmp .eq 8, 3) := by decide +kernel
theorem dL_does_573 : decode cL_does 573 = .ok (.iload_n 1, 1) := by decide +kernel
theorem dL_does_574 : decode cL_does 574 = .ok (.iconst 5, 1) := by decide +kernel
theorem dL_does_575 : decode cL_does 575 = .ok (.if_icmp .ne 25, 3) := by decide +kernel
theorem dL_does_578 : decode cL_does 578 = .ok (.aload_n 0, 1) := by decide +kernel
theorem dL_does_579 : decode cL_does 579 = .ok (.iload 5, 2) := by decide +kernel
theorem dL_does_581 : decode cL_does 581 = .ok (.iload_n 2, 1) := by decide +kernel
theorem dL_does_582 : decode cL_does 582 = .ok (.iconst 5, 1) := by decide +kernel
theorem dL_does_583 : decode cL_does 583 = .ok (.irem, 1) := by decide +kernel
theorem dL_does_584 : decode cL_does 584 = .ok (.invokevirtual 93, 3) := by decide +kernel
theorem dL_does_587 : decode cL_does 587 = .ok (.iload 10, 2) := by decide +kernel
theorem dL_does_589 : decode cL_does 589 = .ok (.if_icmp .ne 7, 3) := by decide +kernel
theorem dL_does_592 : decode cL_does 592 = .ok (.iconst 1, 1) := by decide +kernel
theorem dL_does_593 : decode cL_does 593 = .ok (.goto 77, 3) := by decide +kernel
theorem dL_does_596 : decode cL_does 596 = .ok (.iconst 0, 1) := by decide +kernel
theorem dL_does_597 : decode cL_does 597 = .ok (.goto 73, 3) := by decide +kernel
theorem dL_does_600 : decode cL_does 600 = .ok (.iload_n 1, 1) := by decide +kernel
theorem dL_does_601 : decode cL_does 601 = .ok (.ifCond .ne 22, 3) := by decide +kernel
theorem dL_does_604 : decode cL_does 604 = .ok (.aload_n 0, 1) := by decide +kernel
theorem dL_does_605 : decode cL_does 605 = .ok (.iload 5, 2) := by decide +kernel
theorem dL_does_607 : decode cL_does 607 = .ok (.invokevirtual 78, 3) := by decide +kernel
theorem dL_does_610 : decode cL_does 610 = .ok (.iload 10, 2) := by decide +kernel
theorem dL_does_612 : decode cL_does 612 = .ok (.if_icmp .ne 7, 3) := by decide +kernel
theorem dL_does_615 : decode cL_does 615 = .ok (.iconst 1, 1) := by decide +kernel
theorem dL_does_616 : decode cL_does 616 = .ok (.goto 54, 3) := by decide +kernel
theorem dL_does_619 : decode cL_does 619 = .ok (.iconst 0, 1) := by decide +kernel
theorem dL_does_620 : decode cL_does 620 = .ok (.goto 50, 3) := by decide +kernel
theorem dL_does_623 : decode cL_does 623 = .ok (.iload_n 1, 1) := by decide +kernel
theorem dL_does_624 : decode cL_does 624 = .ok (.bipush 10, 2) := by decide +kernel
theorem dL_does_626 : decode cL_does 626 = .ok (.if_icmp .ne 22, 3) := by decide +kernel
theorem dL_does_629 : decode cL_does 629 = .ok (.aload_n 0, 1) := by decide +kernel
theorem dL_does_630 : decode cL_does 630 = .ok (.iload 5, 2) := by decide +kernel
theorem dL_does_632 : decode cL_does 632 = .ok (.invokevirtual 75, 3) := by decide +kernel
theorem dL_does_635 : decode cL_does 635 = .ok (.iload 10, 2) := by decide +kernel
theorem dL_does_637 : decode cL_does 637 = .ok (.if_icmp .ne 7, 3) := by decide +kernel
theorem dL_does_640 : decode cL_does 640 = .ok (.iconst 1, 1) := by decide +kernel
theorem dL_does_641 : decode cL_does 641 = .ok (.goto 29, 3) := by decide +kernel
theorem dL_does_644 : decode cL_does 644 = .ok (.iconst 0, 1) := by decide +kernel
theorem dL_does_645 : decode cL_does 645 = .ok (.goto 25, 3) := by decide +kernel
theorem dL_does_648 : decode cL_does 648 = .ok (.iload_n 1, 1) := by decide +kernel
theorem dL_does_649 : decode cL_does 649 = .ok (.bipush 8, 2) := by decide +kernel
theorem dL_does_651 : decode cL_does 651 = .ok (.if_icmp .gt 14, 3) := by decide +kernel
theorem dL_does_654 : decode cL_does 654 = .ok (.aload_n 0, 1) := by decide +kernel
theorem dL_does_655 : decode cL_does 655 = .ok (.iload 5, 2) := by decide +kernel
theorem dL_does_657 : decode cL_does 657 = .ok (.invokevirtual 69, 3) := by decide +kernel
theorem dL_does_660 : decode cL_does 660 = .ok (.iload 10, 2) := by decide +kernel
theorem dL_does_662 : decode cL_does 662 = .ok (.if_icmp .ne 7, 3) := by decide +kernel
theorem dL_does_665 : decode cL_does 665 = .ok (.iconst 1, 1) := by decide +kernel
theorem dL_does_666 : decode cL_does 666 = .ok (.goto 4, 3) := by decide +kernel
theorem dL_does_669 : decode cL_does 669 = .ok (.iconst 0, 1) := by decide +kernel
theorem dL_does_670 : decode cL_does 670 = .ok (.ireturn, 1) := by decide +kernel
theorem dL_areHearers_0 : decode cL_areHearers 0 = .ok (.iconst 0, 1) := by decide +kernel
theorem dL_areHearers_1 : decode cL_areHearers 1 = .ok (.istore 6, 2) := by decide +kernel
theorem dL_areHearers_3 : decode cL_areHearers 3 = .ok (.iconst 1, 1) := by decide +kernel
theorem dL_areHearers_4 : decode cL_areHearers 4 = .ok (.istore 7, 2) := by decide +kernel
theorem dL_areHearers_6 : decode cL_areHearers 6 = .ok (.iconst 0, 1) := by decide +kernel
theorem dL_areHearers_7 : decode cL_areHearers 7 = .ok (.istore 8, 2) := by decide +kernel
theorem dL_areHearers_9 : decode cL_areHearers 9 = .ok (.iload 8, 2) := by decide +kernel
theorem dL_areHearers_11 : decode cL_areHearers 11 = .ok (.aload_n 1, 1) := by decide +kernel
theorem dL_areHearers_12 : decode cL_areHearers 12 = .ok (.bipush 7, 2) := by decide +kernel
theorem dL_areHearers_14 : decode cL_areHearers 14 = .ok (.iaload, 1) := by decide +kernel
theorem dL_areHearers_15 : decode cL_areHearers 15 = .ok (.if_icmp .ge 116, 3) := by decide +kernel
theorem dL_areHearers_18 : decode cL_areHearers 18 = .ok (.aload_n 0, 1) := by decide +kernel
theorem dL_areHearers_19 : decode cL_areHearers 19 = .ok (.aload_n 0, 1) := by decide +kernel
theorem dL_areHearers_20 : decode cL_areHearers 20 = .ok (.iload_n 2, 1) := by decide +kernel
theorem dL_areHearers_21 : decode cL_areHearers 21 = .ok (.invokevirtual 78, 3) := by decide +kernel
theorem dL_areHearers_24 : decode cL_areHearers 24 = .ok (.aload_n 0, 1) := by decide +kernel
theorem dL_areHearers_25 : decode cL_areHearers 25 = .ok (.iload 8, 2) := by decide +kernel
theorem dL_areHearers_27 : decode cL_areHearers 27 = .ok (.invokevirtual 78, 3) := by decide +kernel
theorem dL_areHearers_30 : decode cL_areHearers 30 = .ok (.invokevirtual 105, 3) := by decide +kernel
theorem dL_areHearers_33 : decode cL_areHearers 33 = .ok (.istore 9, 2) := by decide +kernel
theorem dL_areHearers_35 : decode cL_areHearers 35 = .ok (.iload 8, 2) := by decide +kernel
theorem dL_areHearers_37 : decode cL_areHearers 37 = .ok (.iload_n 2, 1) := by decide +kernel
theorem dL_areHearers_38 : decode cL_areHearers 38 = .ok (.if_icmp .eq 23, 3) := by decide +kernel
theorem dL_areHearers_41 : decode cL_areHearers 41 = .ok (.iload 9, 2) := by decide +kernel
theorem dL_areHearers_43 : decode cL_areHearers 43 = .ok (.ifCond .eq 14, 3) := by decide +kernel
theorem dL_areHearers_46 : decode cL_areHearers 46 = .ok (.iload 5, 2) := by decide +kernel
theorem dL_areHearers_48 : decode cL_areHearers 48 = .ok (.ifCond .eq 13, 3) := by decide +kernel
theorem dL_areHearers_51 : decode cL_areHearers 51 = .ok (.iload 9, 2) := by decide +kernel
theorem dL_areHearers_53 : decode cL_areHearers 53 = .ok (.iconst 1, 1) := by decide +kernel
theorem dL_areHearers_54 : decode cL_areHearers 54 = .ok (.if_icmp .ne 7, 3) := by decide +kernel
theorem dL_areHearers_57 : decode cL_areHearers 57 = .ok (.iconst 1, 1) := by decide +kernel
theorem dL_areHearers_58 : decode cL_areHearers 58 = .ok (.goto 4, 3) := by decide +kernel
theorem dL_areHearers_61 : decode cL_areHearers 61 = .ok (.iconst 0, 1) := by decide +kernel
theorem dL_areHearers_62 : decode cL_areHearers 62 = .ok (.istore 10, 2) := by decide +kernel
theorem dL_areHearers_64 : decode cL_areHearers 64 = .ok (.iload 6, 2) := by decide +kernel
theorem dL_areHearers_66 : decode cL_areHearers 66 = .ok (.iload 10, 2) := by decide +kernel
theorem dL_areHearers_68 : decode cL_areHearers 68 = .ok (.ifCond .eq 7, 3) := by decide +kernel
theorem dL_areHearers_71 : decode cL_areHearers 71 = .ok (.iconst 1, 1) := by decide +kernel
theorem dL_areHearers_72 : decode cL_areHearers 72 = .ok (.goto 4, 3) := by decide +kernel
theorem dL_areHearers_75 : decode cL_areHearers 75 = .ok (.iconst 0, 1) := by decide +kernel
theorem dL_areHearers_76 : decode cL_areHearers 76 = .ok (.iadd, 1) := by decide +kernel
theorem dL_areHearers_77 : decode cL_areHearers 77 = .ok (.istore 6, 2) := by decide +kernel
theorem dL_areHearers_79 : decode cL_areHearers 79 = .ok (.iload 7, 2) := by decide +kernel
theorem dL_areHearers_81 : decode cL_areHearers 81 = .ok (.ifCond .eq 41, 3) := by decide +kernel
theorem dL_areHearers_84 : decode cL_areHearers 84 = .ok (.iload 10, 2) := by decide +kernel
theorem dL_areHearers_86 : decode cL_areHearers 86 = .ok (.ifCond .eq 19, 3) := by decide +kernel
theorem dL_areHearers_89 : decode cL_areHearers 89 = .ok (.aload_n 0, 1) := by decide +kernel
theorem dL_areHearers_90 : decode cL_areHearers 90 = .ok (.iload 8, 2) := by decide +kernel
theorem dL_areHearers_92 : decode cL_areHearers 92 = .ok (.iconst 0, 1) := by decide +kernel
theorem dL_areHearers_93 : decode cL_areHearers 93 = .ok (.invokestatic 163, 3) := by decide +kernel
theorem dL_areHearers_96 : decode cL_areHearers 96 = .ok (.bipush 100, 2) := by decide +kernel
theorem dL_areHearers_98 : decode cL_areHearers 98 = .ok (.iload_n 2, 1) := by decide +kernel
theorem dL_areHearers_99 : decode cL_areHearers 99 = .ok (.imul, 1) := by decide +kernel
theorem dL_areHearers_100 : decode cL_areHearers 100 = .ok (.iload_n 3, 1) := by decide +kernel
theorem dL_areHearers_101 : decode cL_areHearers 101 = .ok (.iadd, 1) := by decide +kernel
theorem dL_areHearers_102 : decode cL_areHearers 102 = .ok (.if_icmp .ne 20, 3) := by decide +kernel
theorem dL_areHearers_105 : decode cL_areHearers 105 = .ok (.aload_n 0, 1) := by decide +kernel
theorem dL_areHearers_106 : decode cL_areHearers 106 = .ok (.iload 8, 2) := by decide +kernel
theorem dL_areHearers_108 : decode cL_areHearers 108 = .ok (.bipush 6, 2) := by decide +kernel
theorem dL_areHearers_110 : decode cL_areHearers 110 = .ok (.invokestatic 163, 3) := by decide +kernel
theorem dL_areHearers_113 : decode cL_areHearers 113 = .ok (.bipush (-7), 2) := by decide +kernel
theorem dL_areHearers_115 : decode cL_areHearers 115 = .ok (.if_icmp .ne 7, 3) := by decide +kernel
theorem dL_areHearers_118 : decode cL_areHearers 118 = .ok (.iconst 1, 1) := by decide +kernel
theorem dL_areHearers_119 : decode cL_areHearers 119 = .ok (.goto 4, 3) := by decide +kernel
theorem dL_areHearers_122 : decode cL_areHearers 122 = .ok (.iconst 0, 1) := by decide +kernel
theorem dL_areHearers_123 : decode cL_areHearers 123 = .ok (.istore 7, 2) := by decide +kernel
theorem dL_areHearers_125 : decode cL_areHearers 125 = .ok (.iinc 8 1, 3) := by decide +kernel
theorem dL_areHearers_128 : decode cL_areHearers 128 = .ok (.goto (-119), 3) := by decide +kernel
theorem dL_areHearers_131 : decode cL_areHearers 131 = .ok (.iload 7, 2) := by decide +kernel
theorem dL_areHearers_133 : decode cL_areHearers 133 = .ok (.ifCond .eq 14, 3) := by decide +kernel
theorem dL_areHearers_136 : decode cL_areHearers 136 = .ok (.iload 6, 2) := by decide +kernel
theorem dL_areHearers_138 : decode cL_areHearers 138 = .ok (.iload 4, 2) := by decide +kernel
theorem dL_areHearers_140 : decode cL_areHearers 140 = .ok (.if_icmp .ne 7, 3) := by decide +kernel
theorem dL_areHearers_143 : decode cL_areHearers 143 = .ok (.iconst 1, 1) := by decide +kernel
theorem dL_areHearers_144 : decode cL_areHearers 144 = .ok (.goto 4, 3) := by decide +kernel
theorem dL_areHearers_147 : decode cL_areHearers 147 = .ok (.iconst 0, 1) := by decide +kernel
theorem dL_areHearers_148 : decode cL_areHearers 148 = .ok (.ireturn, 1) := by decide +kernel
theorem dL_council_0 : decode cL_council 0 = .ok (.new 11, 3) := by decide +kernel
theorem dL_council_3 : decode cL_council 3 = .ok (.dup, 1) := by decide +kernel
theorem dL_council_4 : decode cL_council 4 = .ok (.invokespecial 166, 3) := by decide +kernel
theorem dL_council_7 : decode cL_council 7 = .ok (.astore_n 2, 1) := by decide +kernel
theorem dL_council_8 : decode cL_council 8 = .ok (.bipush 13, 2) := by decide +kernel
theorem dL_council_10 : decode cL_council 10 = .ok (.newarray .int, 2) := by decide +kernel
theorem dL_council_12 : decode cL_council 12 = .ok (.astore_n 3, 1) := by decide +kernel
theorem dL_council_13 : decode cL_council 13 = .ok (.bipush 60, 2) := by decide +kernel
theorem dL_council_15 : decode cL_council 15 = .ok (.newarray .int, 2) := by decide +kernel
theorem dL_council_17 : decode cL_council 17 = .ok (.astore 4, 2) := by decide +kernel
theorem dL_council_19 : decode cL_council 19 = .ok (.bipush 60, 2) := by decide +kernel
theorem dL_council_21 : decode cL_council 21 = .ok (.newarray .long, 2) := by decide +kernel
theorem dL_council_23 : decode cL_council 23 = .ok (.astore 5, 2) := by decide +kernel
theorem dL_council_25 : decode cL_council 25 = .ok (.aload_n 2, 1) := by decide +kernel
theorem dL_council_26 : decode cL_council 26 = .ok (.aload_n 3, 1) := by decide +kernel
theorem dL_council_27 : decode cL_council 27 = .ok (.aload 4, 2) := by decide +kernel
theorem dL_council_29 : decode cL_council 29 = .ok (.aload 5, 2) := by decide +kernel
theorem dL_council_31 : decode cL_council 31 = .ok (.invokestatic 167, 3) := by decide +kernel
theorem dL_council_34 : decode cL_council 34 = .ok (.iconst 0, 1) := by decide +kernel
theorem dL_council_35 : decode cL_council 35 = .ok (.istore 6, 2) := by decide +kernel
theorem dL_council_37 : decode cL_council 37 = .ok (.iload 6, 2) := by decide +kernel
theorem dL_council_39 : decode cL_council 39 = .ok (.bipush 56, 2) := by decide +kernel
theorem dL_council_41 : decode cL_council 41 = .ok (.if_icmp .ge 230, 3) := by decide +kernel
theorem dL_council_44 : decode cL_council 44 = .ok (.aload_n 0, 1) := by decide +kernel
theorem dL_council_45 : decode cL_council 45 = .ok (.iload_n 1, 1) := by decide +kernel
theorem dL_council_46 : decode cL_council 46 = .ok (.iconst 3, 1) := by decide +kernel
theorem dL_council_47 : decode cL_council 47 = .ok (.iload 6, 2) := by decide +kernel
theorem dL_council_49 : decode cL_council 49 = .ok (.imul, 1) := by decide +kernel
theorem dL_council_50 : decode cL_council 50 = .ok (.iadd, 1) := by decide +kernel
theorem dL_council_51 : decode cL_council 51 = .ok (.iconst 1, 1) := by decide +kernel
theorem dL_council_52 : decode cL_council 52 = .ok (.iadd, 1) := by decide +kernel
theorem dL_council_53 : decode cL_council 53 = .ok (.ldc 171, 2) := by decide +kernel
theorem dL_council_55 : decode cL_council 55 = .ok (.invokestatic 172, 3) := by decide +kernel
theorem dL_council_58 : decode cL_council 58 = .ok (.istore 7, 2) := by decide +kernel
theorem dL_council_60 : decode cL_council 60 = .ok (.aload_n 0, 1) := by decide +kernel
theorem dL_council_61 : decode cL_council 61 = .ok (.iload_n 1, 1) := by decide +kernel
theorem dL_council_62 : decode cL_council 62 = .ok (.iconst 3, 1) := by decide +kernel
theorem dL_council_63 : decode cL_council 63 = .ok (.iload 6, 2) := by decide +kernel
theorem dL_council_65 : decode cL_council 65 = .ok (.imul, 1) := by decide +kernel
theorem dL_council_66 : decode cL_council 66 = .ok (.iadd, 1) := by decide +kernel
theorem dL_council_67 : decode cL_council 67 = .ok (.iconst 2, 1) := by decide +kernel
theorem dL_council_68 : decode cL_council 68 = .ok (.iadd, 1) := by decide +kernel
theorem dL_council_69 : decode cL_council 69 = .ok (.ldc 171, 2) := by decide +kernel
theorem dL_council_71 : decode cL_council 71 = .ok (.invokestatic 172, 3) := by decide +kernel
theorem dL_council_74 : decode cL_council 74 = .ok (.istore 8, 2) := by decide +kernel
theorem dL_council_76 : decode cL_council 76 = .ok (.iload 6, 2) := by decide +kernel
theorem dL_council_78 : decode cL_council 78 = .ok (.bipush 7, 2) := by decide +kernel
theorem dL_council_80 : decode cL_council 80 = .ok (.if_icmp .ge 7, 3) := by decide +kernel
theorem dL_council_83 : decode cL_council 83 = .ok (.iconst 0, 1) := by decide +kernel
theorem dL_council_84 : decode cL_council 84 = .ok (.goto 60, 3) := by decide +kernel
theorem dL_council_87 : decode cL_council 87 = .ok (.iload 6, 2) := by decide +kernel
theorem dL_council_89 : decode cL_council 89 = .ok (.bipush 10, 2) := by decide +kernel
theorem dL_council_91 : decode cL_council 91 = .ok (.if_icmp .ge 7, 3) := by decide +kernel
theorem dL_council_94 : decode cL_council 94 = .ok (.iconst 1, 1) := by decide +kernel
theorem dL_council_95 : decode cL_council 95 = .ok (.goto 49, 3) := by decide +kernel
theorem dL_council_98 : decode cL_council 98 = .ok (.iload 6, 2) := by decide +kernel
theorem dL_council_100 : decode cL_council 100 = .ok (.bipush 13, 2) := by decide +kernel
theorem dL_council_102 : decode cL_council 102 = .ok (.if_icmp .ge 7, 3) := by decide +kernel
theorem dL_council_105 : decode cL_council 105 = .ok (.iconst 3, 1) := by decide +kernel
theorem dL_council_106 : decode cL_council 106 = .ok (.goto 38, 3) := by decide +kernel
theorem dL_council_109 : decode cL_council 109 = .ok (.iload 6, 2) := by decide +kernel
theorem dL_council_111 : decode cL_council 111 = .ok (.bipush 13, 2) := by decide +kernel
theorem dL_council_113 : decode cL_council 113 = .ok (.if_icmp .ne 7, 3) := by decide +kernel
theorem dL_council_116 : decode cL_council 116 = .ok (.iconst 5, 1) := by decide +kernel
theorem dL_council_117 : decode cL_council 117 = .ok (.goto 27, 3) := by decide +kernel
theorem dL_council_120 : decode cL_council 120 = .ok (.iload 6, 2) := by decide +kernel
theorem dL_council_122 : decode cL_council 122 = .ok (.bipush 17, 2) := by decide +kernel
theorem dL_council_124 : decode cL_council 124 = .ok (.if_icmp .ge 8, 3) := by decide +kernel
theorem dL_council_127 : decode cL_council 127 = .ok (.bipush 6, 2) := by decide +kernel
theorem dL_council_129 : decode cL_council 129 = .ok (.goto 15, 3) := by decide +kernel
theorem dL_council_132 : decode cL_council 132 = .ok (.aload_n 0, 1) := by decide +kernel
theorem dL_council_133 : decode cL_council 133 = .ok (.iload_n 1, 1) := by decide +kernel
theorem dL_council_134 : decode cL_council 134 = .ok (.iconst 3, 1) := by decide +kernel
theorem dL_council_135 : decode cL_council 135 = .ok (.iload 6, 2) := by decide +kernel
theorem dL_council_137 : decode cL_council 137 = .ok (.imul, 1) := by decide +kernel
theorem dL_council_138 : decode cL_council 138 = .ok (.iadd, 1) := by decide +kernel
theorem dL_council_139 : decode cL_council 139 = .ok (.bipush 26, 2) := by decide +kernel
theorem dL_council_141 : decode cL_council 141 = .ok (.invokestatic 172, 3) := by decide +kernel
theorem dL_council_144 : decode cL_council 144 = .ok (.istore 9, 2) := by decide +kernel
theorem dL_council_146 : decode cL_council 146 = .ok (.iload 9, 2) := by decide +kernel
theorem dL_council_148 : decode cL_council 148 = .ok (.bipush 7, 2) := by decide +kernel
theorem dL_council_150 : decode cL_council 150 = .ok (.if_icmp .ge 17, 3) := by decide +kernel
theorem dL_council_153 : decode cL_council 153 = .ok (.aload_n 2, 1) := by decide +kernel
theorem dL_council_154 : decode cL_council 154 = .ok (.iload 9, 2) := by decide +kernel
theorem dL_council_156 : decode cL_council 156 = .ok (.iload 7, 2) := by decide +kernel
theorem dL_council_158 : decode cL_council 158 = .ok (.iload 8, 2) := by decide +kernel
theorem dL_council_160 : decode cL_council 160 = .ok (.aload_n 3, 1) := by decide +kernel
theorem dL_council_161 : decode cL_council 161 = .ok (.invokestatic 176, 3) := by decide +kernel
theorem dL_council_164 : decode cL_council 164 = .ok (.goto 20, 3) := by decide +kernel
theorem dL_council_167 : decode cL_council 167 = .ok (.aload_n 2, 1) := by decide +kernel
theorem dL_council_168 : decode cL_council 168 = .ok (.iload 9, 2) := by decide +kernel
theorem dL_council_170 : decode cL_council 170 = .ok (.bipush 7, 2) := by decide +kernel
theorem dL_council_172 : decode cL_council 172 = .ok (.isub, 1) := by decide +kernel
theorem dL_council_173 : decode cL_council 173 = .ok (.bipush 11, 2) := by decide +kernel
theorem dL_council_175 : decode cL_council 175 = .ok (.irem, 1) := by decide +kernel
theorem dL_council_176 : decode cL_council 176 = .ok (.iload 7, 2) := by decide +kernel
theorem dL_council_178 : decode cL_council 178 = .ok (.iload 8, 2) := by decide +kernel
theorem dL_council_180 : decode cL_council 180 = .ok (.aload_n 3, 1) := by decide +kernel
theorem dL_council_181 : decode cL_council 181 = .ok (.invokestatic 180, 3) := by decide +kernel
theorem dL_council_184 : decode cL_council 184 = .ok (.istore 10, 2) := by decide +kernel
theorem dL_council_186 : decode cL_council 186 = .ok (.aload_n 2, 1) := by decide +kernel
theorem dL_council_187 : decode cL_council 187 = .ok (.aload_n 3, 1) := by decide +kernel
theorem dL_council_188 : decode cL_council 188 = .ok (.aload 4, 2) := by decide +kernel
theorem dL_council_190 : decode cL_council 190 = .ok (.aload 5, 2) := by decide +kernel
theorem dL_council_192 : decode cL_council 192 = .ok (.invokestatic 167, 3) := by decide +kernel
theorem dL_council_195 : decode cL_council 195 = .ok (.iload 10, 2) := by decide +kernel
theorem dL_council_197 : decode cL_council 197 = .ok (.ifCond .eq 66, 3) := by decide +kernel
theorem dL_council_200 : decode cL_council 200 = .ok (.aload_n 2, 1) := by decide +kernel
theorem dL_council_201 : decode cL_council 201 = .ok (.aload_n 3, 1) := by decide +kernel
theorem dL_council_202 : decode cL_council 202 = .ok (.invokestatic 183, 3) := by decide +kernel
theorem dL_council_205 : decode cL_council 205 = .ok (.ifCond .eq 58, 3) := by decide +kernel
theorem dL_council_208 : decode cL_council 208 = .ok (.aload_n 2, 1) := by decide +kernel
theorem dL_council_209 : decode cL_council 209 = .ok (.iload 7, 2) := by decide +kernel
theorem dL_council_211 : decode cL_council 211 = .ok (.bipush 9, 2) := by decide +kernel
theorem dL_council_213 : decode cL_council 213 = .ok (.idiv, 1) := by decide +kernel
theorem dL_council_214 : decode cL_council 214 = .ok (.bipush 8, 2) := by decide +kernel
theorem dL_council_216 : decode cL_council 216 = .ok (.irem, 1) := by decide +kernel
theorem dL_council_217 : decode cL_council 217 = .ok (.invokestatic 187, 3) := by decide +kernel
theorem dL_council_220 : decode cL_council 220 = .ok (.ifCond .eq 43, 3) := by decide +kernel
theorem dL_council_223 : decode cL_council 223 = .ok (.aload_n 2, 1) := by decide +kernel
theorem dL_council_224 : decode cL_council 224 = .ok (.aload 4, 2) := by decide +kernel
theorem dL_council_226 : decode cL_council 226 = .ok (.aload 5, 2) := by decide +kernel
theorem dL_council_228 : decode cL_council 228 = .ok (.iload 8, 2) := by decide +kernel
theorem dL_council_230 : decode cL_council 230 = .ok (.bipush 7, 2) := by decide +kernel
theorem dL_council_232 : decode cL_council 232 = .ok (.idiv, 1) := by decide +kernel
theorem dL_council_233 : decode cL_council 233 = .ok (.aload_n 3, 1) := by decide +kernel
theorem dL_council_234 : decode cL_council 234 = .ok (.bipush 6, 2) := by decide +kernel
theorem dL_council_236 : decode cL_council 236 = .ok (.iaload, 1) := by decide +kernel
theorem dL_council_237 : decode cL_council 237 = .ok (.iconst 1, 1) := by decide +kernel
theorem dL_council_238 : decode cL_council 238 = .ok (.iadd, 1) := by decide +kernel
theorem dL_council_239 : decode cL_council 239 = .ok (.irem, 1) := by decide +kernel
theorem dL_council_240 : decode cL_council 240 = .ok (.invokestatic 191, 3) := by decide +kernel
theorem dL_council_243 : decode cL_council 243 = .ok (.ifCond .eq 20, 3) := by decide +kernel
theorem dL_council_246 : decode cL_council 246 = .ok (.aload_n 2, 1) := by decide +kernel
theorem dL_council_247 : decode cL_council 247 = .ok (.iconst 2, 1) := by decide +kernel
theorem dL_council_248 : decode cL_council 248 = .ok (.aload_n 3, 1) := by decide +kernel
theorem dL_council_249 : decode cL_council 249 = .ok (.bipush 6, 2) := by decide +kernel
theorem dL_council_251 : decode cL_council 251 = .ok (.iaload, 1) := by decide +kernel
theorem dL_council_252 : decode cL_council 252 = .ok (.iconst 1, 1) := by decide +kernel
theorem dL_council_253 : decode cL_council 253 = .ok (.iadd, 1) := by decide +kernel
theorem dL_council_254 : decode cL_council 254 = .ok (.iconst 0, 1) := by decide +kernel
theorem dL_council_255 : decode cL_council 255 = .ok (.invokestatic 120, 3) := by decide +kernel
theorem dL_council_258 : decode cL_council 258 = .ok (.bipush (-7), 2) := by decide +kernel
theorem dL_council_260 : decode cL_council 260 = .ok (.if_icmp .eq 5, 3) := by decide +kernel
theorem dL_council_263 : decode cL_council 263 = .ok (.iconst 0, 1) := by decide +kernel
theorem dL_council_264 : decode cL_council 264 = .ok (.ireturn, 1) := by decide +kernel
theorem dL_council_265 : decode cL_council 265 = .ok (.iinc 6 1, 3) := by decide +kernel
theorem dL_council_268 : decode cL_council 268 = .ok (.goto (-231), 3) := by decide +kernel
theorem dL_council_271 : decode cL_council 271 = .ok (.iconst 1, 1) := by decide +kernel
theorem dL_council_272 : decode cL_council 272 = .ok (.ireturn, 1) := by decide +kernel
theorem dL_law_0 : decode cL_law 0 = .ok (.aload_n 0, 1) := by decide +kernel
theorem dL_law_1 : decode cL_law 1 = .ok (.iconst 0, 1) := by decide +kernel
theorem dL_law_2 : decode cL_law 2 = .ok (.invokestatic 195, 3) := by decide +kernel
theorem dL_law_5 : decode cL_law 5 = .ok (.ifCond .eq 27, 3) := by decide +kernel
theorem dL_law_8 : decode cL_law 8 = .ok (.aload_n 0, 1) := by decide +kernel
theorem dL_law_9 : decode cL_law 9 = .ok (.sipush 170, 3) := by decide +kernel
theorem dL_law_12 : decode cL_law 12 = .ok (.invokestatic 195, 3) := by decide +kernel
theorem dL_law_15 : decode cL_law 15 = .ok (.ifCond .eq 17, 3) := by decide +kernel
theorem dL_law_18 : decode cL_law 18 = .ok (.aload_n 0, 1) := by decide +kernel
theorem dL_law_19 : decode cL_law 19 = .ok (.sipush 340, 3) := by decide +kernel
theorem dL_law_22 : decode cL_law 22 = .ok (.invokestatic 195, 3) := by decide +kernel
theorem dL_law_25 : decode cL_law 25 = .ok (.ifCond .eq 7, 3) := by decide +kernel
theorem dL_law_28 : decode cL_law 28 = .ok (.iconst 1, 1) := by decide +kernel
theorem dL_law_29 : decode cL_law 29 = .ok (.goto 4, 3) := by decide +kernel
theorem dL_law_32 : decode cL_law 32 = .ok (.iconst 0, 1) := by decide +kernel
theorem dL_law_33 : decode cL_law 33 = .ok (.ireturn, 1) := by decide +kernel
abbrev vwCl : List vw_C := [(RX0, TX0, 2), (RX1, TX1, 10), (RX2, TX2, 6), (RX3, TX3, 6), (RX4, TX4, 5), (RX5, TX5, 3)]
