section
-- ===== PART A: goes FIRST, ahead of the names: the tables' words, and 'selects' of the private methods out of them =====
/-- a private method of a class that the tables say can be made, by its rows of tables_1 -/
def lw_okq (q : MethodName × Nat) : Prop := (q.1.cls ≠ "java/lang/invoke/MethodHandle" ∧ q.1.cls ≠ "java/lang/invoke/VarHandle") ∧ Cond.instantiable q.1.cls q.2 ∈ tables_1 ∧ Cond.privateMethod q.1 ∈ tables_1 ∧ Cond.instanceMethod q.1 ∈ tables_1
theorem lw_p0 : lw_okq (⟨"java/lang/Throwable", "fillInStackTrace", "(I)Ljava/lang/Throwable;"⟩, 6) := ⟨⟨by decide +kernel, by decide +kernel⟩, List.mem_of_getElem? (i := 286) (by decide +kernel), List.mem_of_getElem? (i := 284) (by decide +kernel), List.mem_of_getElem? (i := 285) (by decide +kernel)⟩
theorem lw_p1 : lw_okq (⟨"MudCouncil", "keep", "(IIIII)I"⟩, 3) := ⟨⟨by decide +kernel, by decide +kernel⟩, List.mem_of_getElem? (i := 17) (by decide +kernel), List.mem_of_getElem? (i := 359) (by decide +kernel), List.mem_of_getElem? (i := 360) (by decide +kernel)⟩
theorem lw_p2 : lw_okq (⟨"MudCouncil$World", "make", "(IIIII)I"⟩, 5) := ⟨⟨by decide +kernel, by decide +kernel⟩, List.mem_of_getElem? (i := 41) (by decide +kernel), List.mem_of_getElem? (i := 371) (by decide +kernel), List.mem_of_getElem? (i := 372) (by decide +kernel)⟩
theorem lw_p3 : lw_okq (⟨"MudCouncil$World", "perform", "(IIII)I"⟩, 5) := ⟨⟨by decide +kernel, by decide +kernel⟩, List.mem_of_getElem? (i := 41) (by decide +kernel), List.mem_of_getElem? (i := 407) (by decide +kernel), List.mem_of_getElem? (i := 408) (by decide +kernel)⟩
theorem lw_p4 : lw_okq (⟨"MudCouncil$World", "tell", "(IIZ)I"⟩, 5) := ⟨⟨by decide +kernel, by decide +kernel⟩, List.mem_of_getElem? (i := 41) (by decide +kernel), List.mem_of_getElem? (i := 412) (by decide +kernel), List.mem_of_getElem? (i := 413) (by decide +kernel)⟩
theorem lw_p5 : lw_okq (⟨"MudCouncil$World", "trade", "(IIII)V"⟩, 5) := ⟨⟨by decide +kernel, by decide +kernel⟩, List.mem_of_getElem? (i := 41) (by decide +kernel), List.mem_of_getElem? (i := 437) (by decide +kernel), List.mem_of_getElem? (i := 438) (by decide +kernel)⟩
theorem lw_p6 : lw_okq (⟨"MudCouncil$World", "fight", "(II)I"⟩, 5) := ⟨⟨by decide +kernel, by decide +kernel⟩, List.mem_of_getElem? (i := 41) (by decide +kernel), List.mem_of_getElem? (i := 445) (by decide +kernel), List.mem_of_getElem? (i := 446) (by decide +kernel)⟩
theorem lw_p7 : lw_okq (⟨"MudCouncil$World", "roll", "()I"⟩, 5) := ⟨⟨by decide +kernel, by decide +kernel⟩, List.mem_of_getElem? (i := 41) (by decide +kernel), List.mem_of_getElem? (i := 449) (by decide +kernel), List.mem_of_getElem? (i := 450) (by decide +kernel)⟩
theorem lw_p8 : lw_okq (⟨"MudCouncil$World", "defeat", "(III)V"⟩, 5) := ⟨⟨by decide +kernel, by decide +kernel⟩, List.mem_of_getElem? (i := 41) (by decide +kernel), List.mem_of_getElem? (i := 461) (by decide +kernel), List.mem_of_getElem? (i := 462) (by decide +kernel)⟩
theorem lw_p9 : lw_okq (⟨"MudCouncil$World", "pursueQuests", "(III)V"⟩, 5) := ⟨⟨by decide +kernel, by decide +kernel⟩, List.mem_of_getElem? (i := 41) (by decide +kernel), List.mem_of_getElem? (i := 468) (by decide +kernel), List.mem_of_getElem? (i := 469) (by decide +kernel)⟩
theorem lw_p10 : lw_okq (⟨"MudCouncil$World", "isFulfilled", "(IIII)Z"⟩, 5) := ⟨⟨by decide +kernel, by decide +kernel⟩, List.mem_of_getElem? (i := 41) (by decide +kernel), List.mem_of_getElem? (i := 476) (by decide +kernel), List.mem_of_getElem? (i := 477) (by decide +kernel)⟩
theorem lw_p11 : lw_okq (⟨"MudCouncil$World", "reward", "(II)V"⟩, 5) := ⟨⟨by decide +kernel, by decide +kernel⟩, List.mem_of_getElem? (i := 41) (by decide +kernel), List.mem_of_getElem? (i := 480) (by decide +kernel), List.mem_of_getElem? (i := 481) (by decide +kernel)⟩
theorem lw_p12 : lw_okq (⟨"MudCouncil", "needQuest", "(I)V"⟩, 3) := ⟨⟨by decide +kernel, by decide +kernel⟩, List.mem_of_getElem? (i := 17) (by decide +kernel), List.mem_of_getElem? (i := 539) (by decide +kernel), List.mem_of_getElem? (i := 540) (by decide +kernel)⟩
theorem lw_p13 : lw_okq (⟨"MudCouncil", "needActor", "()I"⟩, 3) := ⟨⟨by decide +kernel, by decide +kernel⟩, List.mem_of_getElem? (i := 17) (by decide +kernel), List.mem_of_getElem? (i := 580) (by decide +kernel), List.mem_of_getElem? (i := 581) (by decide +kernel)⟩
theorem lw_p14 : lw_okq (⟨"MudCouncil", "needOwned", "(II)V"⟩, 3) := ⟨⟨by decide +kernel, by decide +kernel⟩, List.mem_of_getElem? (i := 17) (by decide +kernel), List.mem_of_getElem? (i := 616) (by decide +kernel), List.mem_of_getElem? (i := 617) (by decide +kernel)⟩
theorem lw_p15 : lw_okq (⟨"MudCouncil", "needPlayer", "(I)V"⟩, 3) := ⟨⟨by decide +kernel, by decide +kernel⟩, List.mem_of_getElem? (i := 17) (by decide +kernel), List.mem_of_getElem? (i := 628) (by decide +kernel), List.mem_of_getElem? (i := 629) (by decide +kernel)⟩
def lw_privs_1 : List (MethodName × Nat) := [(⟨"java/lang/Throwable", "fillInStackTrace", "(I)Ljava/lang/Throwable;"⟩, 6), (⟨"MudCouncil", "keep", "(IIIII)I"⟩, 3), (⟨"MudCouncil$World", "make", "(IIIII)I"⟩, 5), (⟨"MudCouncil$World", "perform", "(IIII)I"⟩, 5), (⟨"MudCouncil$World", "tell", "(IIZ)I"⟩, 5), (⟨"MudCouncil$World", "trade", "(IIII)V"⟩, 5), (⟨"MudCouncil$World", "fight", "(II)I"⟩, 5), (⟨"MudCouncil$World", "roll", "()I"⟩, 5), (⟨"MudCouncil$World", "defeat", "(III)V"⟩, 5), (⟨"MudCouncil$World", "pursueQuests", "(III)V"⟩, 5), (⟨"MudCouncil$World", "isFulfilled", "(IIII)Z"⟩, 5), (⟨"MudCouncil$World", "reward", "(II)V"⟩, 5), (⟨"MudCouncil", "needQuest", "(I)V"⟩, 3), (⟨"MudCouncil", "needActor", "()I"⟩, 3), (⟨"MudCouncil", "needOwned", "(II)V"⟩, 3), (⟨"MudCouncil", "needPlayer", "(I)V"⟩, 3)]
theorem lw_r1 : ∀ q ∈ lw_privs_1, lw_okq q := List.forall_mem_cons.mpr ⟨lw_p0, List.forall_mem_cons.mpr ⟨lw_p1, List.forall_mem_cons.mpr ⟨lw_p2, List.forall_mem_cons.mpr ⟨lw_p3, List.forall_mem_cons.mpr ⟨lw_p4, List.forall_mem_cons.mpr ⟨lw_p5, List.forall_mem_cons.mpr ⟨lw_p6, List.forall_mem_cons.mpr ⟨lw_p7, List.forall_mem_cons.mpr ⟨lw_p8, List.forall_mem_cons.mpr ⟨lw_p9, List.forall_mem_cons.mpr ⟨lw_p10, List.forall_mem_cons.mpr ⟨lw_p11, List.forall_mem_cons.mpr ⟨lw_p12, List.forall_mem_cons.mpr ⟨lw_p13, List.forall_mem_cons.mpr ⟨lw_p14, List.forall_mem_cons.mpr ⟨lw_p15, fun _ h => absurd h List.not_mem_nil⟩⟩⟩⟩⟩⟩⟩⟩⟩⟩⟩⟩⟩⟩⟩⟩
theorem lw_p16 : lw_okq (⟨"MudCouncil", "needCompany", "(II)V"⟩, 3) := ⟨⟨by decide +kernel, by decide +kernel⟩, List.mem_of_getElem? (i := 17) (by decide +kernel), List.mem_of_getElem? (i := 635) (by decide +kernel), List.mem_of_getElem? (i := 636) (by decide +kernel)⟩
theorem lw_p17 : lw_okq (⟨"MudCouncil", "needTrade", "(II)V"⟩, 3) := ⟨⟨by decide +kernel, by decide +kernel⟩, List.mem_of_getElem? (i := 17) (by decide +kernel), List.mem_of_getElem? (i := 658) (by decide +kernel), List.mem_of_getElem? (i := 659) (by decide +kernel)⟩
theorem lw_p18 : lw_okq (⟨"MudCouncil$Places", "stepOut", "(I)V"⟩, 6) := ⟨⟨by decide +kernel, by decide +kernel⟩, List.mem_of_getElem? (i := 47) (by decide +kernel), List.mem_of_getElem? (i := 755) (by decide +kernel), List.mem_of_getElem? (i := 756) (by decide +kernel)⟩
theorem lw_p19 : lw_okq (⟨"MudCouncil", "worldAfter", "(I)LMudCouncil$World;"⟩, 3) := ⟨⟨by decide +kernel, by decide +kernel⟩, List.mem_of_getElem? (i := 17) (by decide +kernel), List.mem_of_getElem? (i := 803) (by decide +kernel), List.mem_of_getElem? (i := 804) (by decide +kernel)⟩
theorem lw_p20 : lw_okq (⟨"MudCouncilModel", "can", "(I)Z"⟩, 30) := ⟨⟨by decide +kernel, by decide +kernel⟩, List.mem_of_getElem? (i := 836) (by decide +kernel), List.mem_of_getElem? (i := 947) (by decide +kernel), List.mem_of_getElem? (i := 948) (by decide +kernel)⟩
theorem lw_p21 : lw_okq (⟨"MudCouncilModel", "keep", "()V"⟩, 30) := ⟨⟨by decide +kernel, by decide +kernel⟩, List.mem_of_getElem? (i := 836) (by decide +kernel), List.mem_of_getElem? (i := 951) (by decide +kernel), List.mem_of_getElem? (i := 952) (by decide +kernel)⟩
theorem lw_p22 : lw_okq (⟨"MudCouncilModel", "actor", "()I"⟩, 30) := ⟨⟨by decide +kernel, by decide +kernel⟩, List.mem_of_getElem? (i := 836) (by decide +kernel), List.mem_of_getElem? (i := 955) (by decide +kernel), List.mem_of_getElem? (i := 956) (by decide +kernel)⟩
theorem lw_p23 : lw_okq (⟨"MudCouncilModel", "isQuest", "(I)Z"⟩, 30) := ⟨⟨by decide +kernel, by decide +kernel⟩, List.mem_of_getElem? (i := 836) (by decide +kernel), List.mem_of_getElem? (i := 986) (by decide +kernel), List.mem_of_getElem? (i := 987) (by decide +kernel)⟩
theorem lw_p24 : lw_okq (⟨"MudCouncilModel", "ends", "(IIII)V"⟩, 30) := ⟨⟨by decide +kernel, by decide +kernel⟩, List.mem_of_getElem? (i := 836) (by decide +kernel), List.mem_of_getElem? (i := 1003) (by decide +kernel), List.mem_of_getElem? (i := 1004) (by decide +kernel)⟩
theorem lw_p25 : lw_okq (⟨"MudCouncilModel", "isFulfilled", "(IIII)Z"⟩, 30) := ⟨⟨by decide +kernel, by decide +kernel⟩, List.mem_of_getElem? (i := 836) (by decide +kernel), List.mem_of_getElem? (i := 1007) (by decide +kernel), List.mem_of_getElem? (i := 1008) (by decide +kernel)⟩
theorem lw_p26 : lw_okq (⟨"MudCouncilModel", "speaks", "(IZ)I"⟩, 30) := ⟨⟨by decide +kernel, by decide +kernel⟩, List.mem_of_getElem? (i := 836) (by decide +kernel), List.mem_of_getElem? (i := 1015) (by decide +kernel), List.mem_of_getElem? (i := 1016) (by decide +kernel)⟩
theorem lw_p27 : lw_okq (⟨"MudCouncilModel", "isNextTo", "(II)Z"⟩, 30) := ⟨⟨by decide +kernel, by decide +kernel⟩, List.mem_of_getElem? (i := 836) (by decide +kernel), List.mem_of_getElem? (i := 1019) (by decide +kernel), List.mem_of_getElem? (i := 1020) (by decide +kernel)⟩
theorem lw_p28 : lw_okq (⟨"MudCouncilModel", "hears", "(III)V"⟩, 30) := ⟨⟨by decide +kernel, by decide +kernel⟩, List.mem_of_getElem? (i := 836) (by decide +kernel), List.mem_of_getElem? (i := 1023) (by decide +kernel), List.mem_of_getElem? (i := 1024) (by decide +kernel)⟩
theorem lw_p29 : lw_okq (⟨"MudCouncilModel", "isPlayer", "(I)Z"⟩, 30) := ⟨⟨by decide +kernel, by decide +kernel⟩, List.mem_of_getElem? (i := 836) (by decide +kernel), List.mem_of_getElem? (i := 1043) (by decide +kernel), List.mem_of_getElem? (i := 1044) (by decide +kernel)⟩
theorem lw_p30 : lw_okq (⟨"MudCouncilModel", "isAway", "(II)Z"⟩, 30) := ⟨⟨by decide +kernel, by decide +kernel⟩, List.mem_of_getElem? (i := 836) (by decide +kernel), List.mem_of_getElem? (i := 1047) (by decide +kernel), List.mem_of_getElem? (i := 1048) (by decide +kernel)⟩
theorem lw_p31 : lw_okq (⟨"MudCouncilModel", "traded", "(II)I"⟩, 30) := ⟨⟨by decide +kernel, by decide +kernel⟩, List.mem_of_getElem? (i := 836) (by decide +kernel), List.mem_of_getElem? (i := 1059) (by decide +kernel), List.mem_of_getElem? (i := 1060) (by decide +kernel)⟩
def lw_privs_2 : List (MethodName × Nat) := [(⟨"MudCouncil", "needCompany", "(II)V"⟩, 3), (⟨"MudCouncil", "needTrade", "(II)V"⟩, 3), (⟨"MudCouncil$Places", "stepOut", "(I)V"⟩, 6), (⟨"MudCouncil", "worldAfter", "(I)LMudCouncil$World;"⟩, 3), (⟨"MudCouncilModel", "can", "(I)Z"⟩, 30), (⟨"MudCouncilModel", "keep", "()V"⟩, 30), (⟨"MudCouncilModel", "actor", "()I"⟩, 30), (⟨"MudCouncilModel", "isQuest", "(I)Z"⟩, 30), (⟨"MudCouncilModel", "ends", "(IIII)V"⟩, 30), (⟨"MudCouncilModel", "isFulfilled", "(IIII)Z"⟩, 30), (⟨"MudCouncilModel", "speaks", "(IZ)I"⟩, 30), (⟨"MudCouncilModel", "isNextTo", "(II)Z"⟩, 30), (⟨"MudCouncilModel", "hears", "(III)V"⟩, 30), (⟨"MudCouncilModel", "isPlayer", "(I)Z"⟩, 30), (⟨"MudCouncilModel", "isAway", "(II)Z"⟩, 30), (⟨"MudCouncilModel", "traded", "(II)I"⟩, 30)]
theorem lw_r2 : ∀ q ∈ lw_privs_2, lw_okq q := List.forall_mem_cons.mpr ⟨lw_p16, List.forall_mem_cons.mpr ⟨lw_p17, List.forall_mem_cons.mpr ⟨lw_p18, List.forall_mem_cons.mpr ⟨lw_p19, List.forall_mem_cons.mpr ⟨lw_p20, List.forall_mem_cons.mpr ⟨lw_p21, List.forall_mem_cons.mpr ⟨lw_p22, List.forall_mem_cons.mpr ⟨lw_p23, List.forall_mem_cons.mpr ⟨lw_p24, List.forall_mem_cons.mpr ⟨lw_p25, List.forall_mem_cons.mpr ⟨lw_p26, List.forall_mem_cons.mpr ⟨lw_p27, List.forall_mem_cons.mpr ⟨lw_p28, List.forall_mem_cons.mpr ⟨lw_p29, List.forall_mem_cons.mpr ⟨lw_p30, List.forall_mem_cons.mpr ⟨lw_p31, fun _ h => absurd h List.not_mem_nil⟩⟩⟩⟩⟩⟩⟩⟩⟩⟩⟩⟩⟩⟩⟩⟩
theorem lw_p32 : lw_okq (⟨"MudCouncilModel", "rolls", "(I)I"⟩, 30) := ⟨⟨by decide +kernel, by decide +kernel⟩, List.mem_of_getElem? (i := 836) (by decide +kernel), List.mem_of_getElem? (i := 1071) (by decide +kernel), List.mem_of_getElem? (i := 1072) (by decide +kernel)⟩
theorem lw_p33 : lw_okq (⟨"MudCouncilModel", "isBeaten", "(III)V"⟩, 30) := ⟨⟨by decide +kernel, by decide +kernel⟩, List.mem_of_getElem? (i := 836) (by decide +kernel), List.mem_of_getElem? (i := 1076) (by decide +kernel), List.mem_of_getElem? (i := 1077) (by decide +kernel)⟩
theorem lw_p34 : lw_okq (⟨"MudCouncilModel", "isAsked", "(I)Z"⟩, 30) := ⟨⟨by decide +kernel, by decide +kernel⟩, List.mem_of_getElem? (i := 836) (by decide +kernel), List.mem_of_getElem? (i := 1092) (by decide +kernel), List.mem_of_getElem? (i := 1093) (by decide +kernel)⟩
theorem lw_p35 : lw_okq (⟨"MudCouncilModel", "wasThere", "(II)Z"⟩, 30) := ⟨⟨by decide +kernel, by decide +kernel⟩, List.mem_of_getElem? (i := 836) (by decide +kernel), List.mem_of_getElem? (i := 1160) (by decide +kernel), List.mem_of_getElem? (i := 1161) (by decide +kernel)⟩
def lw_privs_3 : List (MethodName × Nat) := [(⟨"MudCouncilModel", "rolls", "(I)I"⟩, 30), (⟨"MudCouncilModel", "isBeaten", "(III)V"⟩, 30), (⟨"MudCouncilModel", "isAsked", "(I)Z"⟩, 30), (⟨"MudCouncilModel", "wasThere", "(II)Z"⟩, 30)]
theorem lw_r3 : ∀ q ∈ lw_privs_3, lw_okq q := List.forall_mem_cons.mpr ⟨lw_p32, List.forall_mem_cons.mpr ⟨lw_p33, List.forall_mem_cons.mpr ⟨lw_p34, List.forall_mem_cons.mpr ⟨lw_p35, fun _ h => absurd h List.not_mem_nil⟩⟩⟩⟩
def lw_privs : List (MethodName × Nat) := lw_privs_1 ++ (lw_privs_2 ++ (lw_privs_3))
def lw_tbl : List Cond := k2_sels lw_privs ++ tables_1
theorem lw_privs_ok : ∀ q ∈ lw_privs, lw_okq q := by
  show ∀ q ∈ lw_privs_1 ++ (lw_privs_2 ++ (lw_privs_3)), lw_okq q
  exact List.forall_mem_append.mpr ⟨lw_r1, List.forall_mem_append.mpr ⟨lw_r2, lw_r3⟩⟩
-- ===== end of PART A; then your names; then what follows =====
end
section
/-! ===== BEGIN words of one list among another's, by their places ===== -/
theorem goodIn_r {big : List Cond} (ws : List Cond) (ps : List Nat) (hp : ws = ps.filterMap (fun i => big[i]?)) (h : ws.all goodWord = true) : GoodIn big ws := by
  intro w hw
  have h1 := List.all_eq_true.mp h w hw
  rw [hp] at hw
  obtain ⟨i, -, hi⟩ := List.mem_filterMap.mp hw
  have hm : w ∈ big := by first | exact List.mem_of_getElem? hi | exact List.getElem?_mem hi
  exact ⟨hm, good_of_word h1⟩
theorem goodIn_app {big a b : List Cond} (ha : GoodIn big a) (hb : GoodIn big b) : GoodIn big (a ++ b) := fun w h => (List.mem_append.mp h).elim (ha w) (hb w)
theorem goodIn_ca {big a b : List Cond} {c : Cond} (ha : GoodIn big (c :: a)) (hb : GoodIn big b) : GoodIn big (c :: (a ++ b)) := fun w h => (List.mem_cons.mp h).elim (fun e => ha w (List.mem_cons.mpr (Or.inl e))) (fun h => (List.mem_append.mp h).elim (fun h => ha w (List.mem_cons.mpr (Or.inr h))) (hb w))
theorem goodIn_sub {big ws : List Cond} (hm : ∀ w ∈ ws, w ∈ big) (h : ws.all goodWord = true) : GoodIn big ws := fun w hw => ⟨hm w hw, good_of_word (List.all_eq_true.mp h w hw)⟩
/-! ===== END ===== -/

/-! ===== BEGIN exceptions that leave a method, and their catching by the caller (launches without stack traces) ===== -/
section VXA
/-! The laws vx_back, vx_callV, vx_callS, vx_callSW, vx_throw0, vx_throwS follow proofs of the library, with one case more: JvmDerived/Free/Laws.lean (Back.of_free), Shelf42/LK1.lean (callV, callS), Shelf/KitTraced.lean (throwNew0V, throwNewS). -/
/-- where a method has thrown q: the class by its name, the cell, what was written, the world -/
def vx_T (XC : String → State → State → Prop) (st : State) (q : Addr) (t : State) (mc ms : Nat) (free : Addr → Prop) : Prop :=
  ∃ (E : String) (ce : Cell) (L : List Loc), XC E st t ∧ t.heap[q]? = some ce ∧ ce.vm = .none ∧ st.vm.findClass E = some ce.cls ∧ st.WarmedH t.vm ∧ st.sameButNew ({ t with vm := st.vm } : State) L mc ms ∧ ∀ z ∈ L, free z.base
def vx_Q (Qc : Array Value → State → Outcome → State → Prop) (XC : String → State → State → Prop) (mc ms : Nat) (free : Addr → Prop) : Array Value → State → Outcome → State → Prop := fun a st o t =>
  (Qc a st o t ∧ ∃ L, FrameEnd st o t L mc ms ∧ ∀ q ∈ L, free q.base) ∨ ∃ q, o = .threw q ∧ vx_T XC st q t mc ms free
/-- a callee that returns or throws -/
def vx_Met (l : Launch) (y : MethodName) (ws : List Cond) (rm : Room) (Pc : Array Value → State → Prop) (Qc : Array Value → State → Outcome → State → Prop) (XC : String → State → State → Prop) (mc ms : Nat) (free : Addr → Prop) : Prop :=
  MetFree l y (headSpec ws rm) Pc (fun _ _ _ _ _ => True) (vx_Q Qc XC mc ms free)
def vx_Post (XC : String → State → State → Prop) (mc ms : Nat) (free : Addr → Prop) : Pt → Array Value → Addr → Pt → Prop := fun A a q B =>
  ∃ (g : JFrame) (mk : MethodId) (t : State) (L : List Loc) (E : String) (ce : Cell), B.U.heap = t.heap ∧ B.U.vm = t.vm ∧ XC E (A.U.calling g mk a) t ∧ t.heap[q]? = some ce ∧ ce.vm = .none ∧ A.U.vm.findClass E = some ce.cls ∧ B.locs = A.locs ++ L ∧ (∀ z ∈ L, free z.base) ∧ B.cells = A.cells + mc ∧ B.slots = A.slots + ms
def vx_Back (l : Launch) (R : Room) (p : Program) (e : Env) (below : List Frame) (s : State) (sargs : Array Value) (y : MethodName) (len W9 : Nat)
    (Pre : Pt → Array Value → Prop) (Post : Pt → Array Value → Option Value → Pt → Prop) (PostX : Pt → Array Value → Addr → Pt → Prop) : Prop :=
  ∀ (m : MethodId) (meth : Method) (c : Code) (A : Pt) (g : JFrame) (ig : Instr) (mk : MethodId) (a : Array Value),
    Stand p l e R s m sargs below meth c A.U A.locs A.cells A.slots → g.method = m → g.locals.size = c.maxLocals → decode c.code g.pc = .ok (ig, len) →
    2 * g.monitorRoom + (g.stack.map fun v => v.category).sum ≤ W9 → A.U.methodNamed? y = some mk → Pre A a →
    (∃ (v : Option Value) (B : Pt), Stand p l e R s m sargs below meth c B.U B.locs B.cells B.slots ∧ Post A a v B ∧
      Steps p.tables e below (doInvoke e (A.U.setTop g) [] mk a).1 (B.U.setTop { g with pc := g.pc + len, stack := v.toList ++ g.stack })) ∨
    (∃ (q : Addr) (B : Pt), Stand p l e R s m sargs below meth c B.U B.locs B.cells B.slots ∧ PostX A a q B ∧
      Steps p.tables e below (doInvoke e (A.U.setTop g) [] mk a).1 ((B.U.setTop g).pushFrame (.throwing q)))
section Payer
variable {l : Launch} {R : Room} {p : Program} {e : Env} {below : List Frame} {s : State} {sargs : Array Value} {y : MethodName} {len W9 : Nat}
theorem vx_back {ws : List Cond} {rm : Room} {Pc : Array Value → State → Prop} {Qc : Array Value → State → Outcome → State → Prop} {XC : String → State → State → Prop} {mc ms : Nat} {free : Addr → Prop} {bytes : ByteArray} {maxL : Nat} {ret : Option FieldType}
    (hM : vx_Met l y ws rm Pc Qc XC mc ms free) (hblind : FrameBlind Pc) (hrc : rm.cells = mc) (hrs : rm.slots = ms)
    (hframes : rm.frames + 1 ≤ R.frames) (hlocals : W9 + (maxL + 11) + rm.locals ≤ R.locals)
    (hws : ∀ w ∈ ws, ∀ a' U, s.WarmedH U.vm → w.before a' U = true) (hcode : Cond.code y bytes maxL ret ∈ ws) (hinit : ∀ a' U, s.WarmedH U.vm → (Cond.initialized y.cls).before a' U = true) :
    vx_Back l R p e below s sargs y len W9 (PreOf R mc ms Pc) (PostOf Qc mc ms free) (vx_Post XC mc ms free) := by
  intro m meth c A g ig mk a X hg hsize hdg hW hn hp
  have h1 : (headSpec ws rm).pre.before a A.U = true := atoms_intro fun w hw => hws w hw _ _ X.warmed
  have h2 : (Cond.code y bytes maxL ret).before a A.U = true := hws _ hcode _ _ X.warmed
  have h3 : (Cond.initialized y.cls).before a A.U = true := hinit _ _ X.warmed
  have h4 : A.cells + (headSpec ws rm).room.cells ≤ R.cells := by rw [show (headSpec ws rm).room.cells = mc from hrc]; exact hp.1
  have h5 : A.slots + (headSpec ws rm).room.slots ≤ R.slots := by rw [show (headSpec ws rm).room.slots = ms from hrs]; exact hp.2.1
  have hPc : Pc a (A.U.calling g mk a) := hblind _ _ _ _ hp.2.2
  obtain ⟨U, Ls, c0, s0⟩ := A
  dsimp only [Pt.U, Pt.locs, Pt.cells, Pt.slots] at h1 h2 h3 h4 h5 X hn hPc ⊢
  obtain ⟨methY, cY, hmY, hcY, -, hlY, -, -, -, -⟩ := Cond.code_spec hn h2
  obtain ⟨kY, hkY, -⟩ := className_of_methodNamed hn
  have hinitY : kY.init = .initialized := Cond.initialized_spec (findClass_of_methodNamed hn) hkY h3
  have h : At U g.method c below := by rw [hg]; exact X.here
  have hlocals9 : W9 + (maxL + 11) + (headSpec ws rm).room.locals ≤ R.locals := hlocals
  have happ : (headSpec ws rm).appliesLoose y e.platform (U.calling g mk a) = true :=
    Spec.appliesLoose_calling (g := g) h hdg hn hkY hinitY
      (X.room_calling (g := g) (R' := (headSpec ws rm).room) hsize hmY hcY hframes (by rw [hlY]; omega) h4 h5) h1
  obtain ⟨mid, hmid⟩ := h.above
  have hfr : (U.setTop g).frames = (.java g :: mid) ++ below := by rw [State.frames_setTop' g h.top, hmid]; rfl
  obtain ⟨o, s₂, hsteps, -, hend, hq⟩ := Steps.callFree hM p X.admits X.cas X.clock (acts := []) hfr happ hPc trivial
  have hq' : vx_Q Qc XC mc ms free a (U.calling g mk a) o s₂ := hq
  rw [State.frames_setTop' g h.top] at hend
  obtain ⟨g₀, hg0⟩ := Option.isSome_iff_exists.mp h.top
  obtain ⟨r, hr⟩ := State.topJava?_eq_some.mp hg0
  have hr' : (({ U with heap := s₂.heap, slotsUsed := s₂.slotsUsed } : State).setVm s₂.vm).frames = .java g₀ :: r := hr
  rcases hq' with ⟨hqc, L, hfe, hL⟩ | ⟨q, rfl, E, ce, L, hx, hce, hcv, hcl, hW₂, hsm, hL⟩
  · obtain ⟨⟨v, rfl⟩, hW₂, e2, q2, q3, q4, q5, q6⟩ := id hfe
    have e3 : s₂ = ({ (U.calling g mk a).setFrames s₂.frames with heap := s₂.heap, slotsUsed := s₂.slotsUsed } : State).setVm s₂.vm := by
      have : s₂ = ({ s₂ with vm := (U.calling g mk a).vm } : State).setVm s₂.vm := rfl
      rw [e2] at this
      exact this
    obtain ⟨c₂, i₂, len₂, hc₂, hd₂, hf₂⟩ := hend
    have hW' : U.WarmedH s₂.vm := hW₂
    have hcc : c₂ = c := by
      have h1 : s₂.code? g.method = U.code? g.method := by
        rw [State.code?_eq, State.code?_eq, hW'.alike.method?]
      exact Option.some.inj (hc₂.symm.trans (h1.trans h.code))
    subst hcc
    have hlen : len₂ = len := by rw [hdg] at hd₂; cases hd₂; rfl
    subst hlen
    have hs₂ : s₂ = (({ U with heap := s₂.heap, slotsUsed := s₂.slotsUsed } : State).setVm s₂.vm).setTop { g with pc := g.pc + len₂, stack := v.toList ++ g.stack } := by
      refine e3.trans ?_
      rw [hf₂, State.calling_eq h.top, State.setFrames_setFrames, State.setTop_of_frames _ hr', hr]
      rfl
    have hsame : U.sameButNew ({ U with heap := s₂.heap, slotsUsed := s₂.slotsUsed } : State) L mc ms := by
      refine ⟨?_, q2, q3, q4, q5, q6⟩
      obtain ⟨t, ht, -⟩ := State.frames_cons hr
      show ({ U with heap := s₂.heap, slotsUsed := s₂.slotsUsed } : State) = { U.setFrames U.frames with heap := s₂.heap, slotsUsed := s₂.slotsUsed }
      rw [State.setFrames_self ht]
    subst hg
    refine Or.inl ⟨v, ⟨(({ U with heap := s₂.heap, slotsUsed := s₂.slotsUsed } : State).setVm s₂.vm), Ls ++ L, c0 + mc, s0 + ms⟩,
      ⟨X.admits, X.cas, X.clock, X.frames, X.room, X.hears, X.method, X.code, (X.here.setHeapUsed s₂.heap s₂.slotsUsed).setVm hW'.alike, X.tail, State.WarmedH.trans X.warmed hW', X.limits, X.bytes, X.same.trans (hsame.setVm s.vm)⟩,
      ⟨g, mk, s₂, L, rfl, rfl, hqc, rfl, hL, rfl, rfl⟩, ?_⟩
    show Steps p.tables e below _ ((({ U with heap := s₂.heap, slotsUsed := s₂.slotsUsed } : State).setVm s₂.vm).setTop { g with pc := g.pc + len₂, stack := v.toList ++ g.stack })
    rw [← hs₂]
    exact hsteps
  · obtain ⟨e2, q2, q3, q4, q5, q6⟩ := id hsm
    have e3 : s₂ = ({ (U.calling g mk a).setFrames s₂.frames with heap := s₂.heap, slotsUsed := s₂.slotsUsed } : State).setVm s₂.vm := by
      have : s₂ = ({ s₂ with vm := (U.calling g mk a).vm } : State).setVm s₂.vm := rfl
      rw [e2] at this
      exact this
    have hf₂ : s₂.frames = .throwing q :: .java g :: U.frames.tail := hend
    have hW' : U.WarmedH s₂.vm := hW₂
    have hs₂ : s₂ = ((({ U with heap := s₂.heap, slotsUsed := s₂.slotsUsed } : State).setVm s₂.vm).setTop g).pushFrame (.throwing q) := by
      refine e3.trans ?_
      rw [hf₂, State.calling_eq h.top, State.setFrames_setFrames, State.pushFrame, State.frames_setTop _ hr', State.setTop_of_frames _ hr', State.setFrames_setFrames, hr]
      rfl
    have hsame : U.sameButNew ({ U with heap := s₂.heap, slotsUsed := s₂.slotsUsed } : State) L mc ms := by
      refine ⟨?_, q2, q3, q4, q5, q6⟩
      obtain ⟨t, ht, -⟩ := State.frames_cons hr
      show ({ U with heap := s₂.heap, slotsUsed := s₂.slotsUsed } : State) = { U.setFrames U.frames with heap := s₂.heap, slotsUsed := s₂.slotsUsed }
      rw [State.setFrames_self ht]
    subst hg
    refine Or.inr ⟨q, ⟨(({ U with heap := s₂.heap, slotsUsed := s₂.slotsUsed } : State).setVm s₂.vm), Ls ++ L, c0 + mc, s0 + ms⟩,
      ⟨X.admits, X.cas, X.clock, X.frames, X.room, X.hears, X.method, X.code, (X.here.setHeapUsed s₂.heap s₂.slotsUsed).setVm hW'.alike, X.tail, State.WarmedH.trans X.warmed hW', X.limits, X.bytes, X.same.trans (hsame.setVm s.vm)⟩,
      ⟨g, mk, s₂, L, E, ce, rfl, rfl, hx, hce, hcv, hcl, rfl, hL, rfl, rfl⟩, ?_⟩
    show Steps p.tables e below _ (((({ U with heap := s₂.heap, slotsUsed := s₂.slotsUsed } : State).setVm s₂.vm).setTop g).pushFrame (.throwing q))
    rw [← hs₂]
    exact hsteps
end Payer
section Calls
variable {p : Program} {l : Launch} {e : Env} {R : Room} {s : State} {m : MethodId} {args : Array Value} {below : List Frame} {meth : Method} {c : Code} {T : State} {locs : List Loc} {cells slots : Nat}
theorem vx_callV (X : Stand p l e R s m args below meth c T locs cells slots) (hexec : p.tables.exec = Jvm.exec) {own C : String} {index : Nat} {y : MethodName} {bytes : ByteArray} {maxL : Nat} {ret : Option FieldType}
    (hown : s.vm.findClass own = some m.cls) (hlink : (Cond.methodLink own index y).before args s = true) (hinst : (Cond.instanceMethod y).before args s = true) (hsel : (Cond.selects C y y).before args s = true)
    (hcode : (Cond.code y bytes maxL ret).before args s = true) (hy : y.cls ≠ "java/lang/invoke/MethodHandle" ∧ y.cls ≠ "java/lang/invoke/VarHandle")
    {W9 : Nat} {Pre : Pt → Array Value → Prop} {Post : Pt → Array Value → Option Value → Pt → Prop} {PostX : Pt → Array Value → Addr → Pt → Prop} (hK : vx_Back l R p e below s args y 3 W9 Pre Post PostX)
    {b : Addr} {cellB : Cell} (hcell : T.heap[b]? = some cellB) (hobj : cellB.vm.isStatics = false) (hcls : s.vm.findClass C = some cellB.cls)
    {g : JFrame} (hg : g.method = m) (hsize : g.locals.size = c.maxLocals) {argsL rest : List Value} (hlen : ∀ sig, parseMethodDescriptor y.desc = some sig → argsL.length = sig.parameters.length)
    (hstack : g.stack = argsL.reverse ++ .ref b :: rest) (hW : 2 * g.monitorRoom + (rest.map fun v => v.category).sum ≤ W9) (hdg : decode c.code g.pc = .ok (.invokevirtual index, 3))
    (hpre : ∀ vm₁, s.WarmedH vm₁ → Pre ⟨T.setVm vm₁, locs, cells, slots⟩ (Value.ref b :: argsL).toArray) :
    (∃ (v : Option Value) (vm₁ : Vm) (B : Pt), s.WarmedH vm₁ ∧ Stand p l e R s m args below meth c B.U B.locs B.cells B.slots ∧ Post ⟨T.setVm vm₁, locs, cells, slots⟩ (Value.ref b :: argsL).toArray v B ∧
      ∀ target, Steps p.tables e below (B.U.setTop { g with pc := g.pc + 3, stack := v.toList ++ rest }) target → Steps p.tables e below (T.setTop g) target) ∨
    (∃ (q : Addr) (vm₁ : Vm) (B : Pt), s.WarmedH vm₁ ∧ Stand p l e R s m args below meth c B.U B.locs B.cells B.slots ∧ PostX ⟨T.setVm vm₁, locs, cells, slots⟩ (Value.ref b :: argsL).toArray q B ∧
      Steps p.tables e below (T.setTop g) ((B.U.setTop { g with stack := rest }).pushFrame (.throwing q))) := by
  obtain ⟨mk, methM, hnamed, hmethM, hstM, habM⟩ := Cond.instanceMethod_spec hinst
  obtain ⟨methM', cM, hmethM', -, -, -, -, -, -, hsigM⟩ := Cond.code_spec hnamed hcode
  cases hmethM.symm.trans hmethM'
  obtain ⟨c2, r2, m2, q1, q2, q3, q4, kP, hkP, hkPi⟩ := Cond.selects_spec hsel
  cases hcls.symm.trans q1
  cases (State.methodFound?_of_named hnamed hy).symm.trans q2
  cases hnamed.symm.trans q3
  have hselP : selectMethod e.platform s.vm cellB.cls mk = .method mk := by rw [Launch.admits_selectMethod X.admits]; exact q4
  obtain ⟨vm₁, X₁, hstep₁⟩ := X.invokevirtual hexec hown hlink hnamed hmethM hstM hkP hkPi hy (a := b) (cell := cellB) hcell
    (fun z h => by rw [h] at hobj; cases hobj) hselP hmethM habM hkP hkPi (g := g) hg (argsL := argsL) (rest := rest) (hlen _ hsigM) hstack hdg
  rcases hK m meth c ⟨T.setVm vm₁, locs, cells, slots⟩ { g with stack := rest } (.invokevirtual index) mk (Value.ref b :: argsL).toArray X₁ hg hsize hdg hW (X₁.named hnamed) (hpre vm₁ X₁.warmed) with ⟨v, B, X', hpost, hsteps⟩ | ⟨q, B, X', hpost, hsteps⟩
  · exact Or.inl ⟨v, vm₁, B, X₁.warmed, X', hpost, fun target h => hstep₁ _ fun acts => by rw [doInvoke_state]; exact hsteps.trans h⟩
  · exact Or.inr ⟨q, vm₁, B, X₁.warmed, X', hpost, hstep₁ _ fun acts => by rw [doInvoke_state]; exact hsteps⟩
theorem vx_callS (X : Stand p l e R s m args below meth c T locs cells slots) (hexec : p.tables.exec = Jvm.exec) {own : String} {index : Nat} {y : MethodName} {bytes : ByteArray} {maxL : Nat} {ret : Option FieldType}
    (hown : s.vm.findClass own = some m.cls) (hlink : (Cond.methodLink own index y).before args s = true) (hstat : (Cond.static y).before args s = true) (hinit : (Cond.initialized y.cls).before args s = true)
    (hcode : (Cond.code y bytes maxL ret).before args s = true) (hy : y.cls ≠ "java/lang/invoke/MethodHandle" ∧ y.cls ≠ "java/lang/invoke/VarHandle")
    {W9 : Nat} {Pre : Pt → Array Value → Prop} {Post : Pt → Array Value → Option Value → Pt → Prop} {PostX : Pt → Array Value → Addr → Pt → Prop} (hK : vx_Back l R p e below s args y 3 W9 Pre Post PostX)
    {g : JFrame} (hg : g.method = m) (hsize : g.locals.size = c.maxLocals) {argsL rest : List Value} (hlen : ∀ sig, parseMethodDescriptor y.desc = some sig → argsL.length = sig.parameters.length)
    (hstack : g.stack = argsL.reverse ++ rest) (hW : 2 * g.monitorRoom + (rest.map fun v => v.category).sum ≤ W9) (hdg : decode c.code g.pc = .ok (.invokestatic index, 3))
    (hpre : ∀ vm₁, s.WarmedH vm₁ → Pre ⟨T.setVm vm₁, locs, cells, slots⟩ argsL.toArray) :
    (∃ (v : Option Value) (vm₁ : Vm) (B : Pt), s.WarmedH vm₁ ∧ Stand p l e R s m args below meth c B.U B.locs B.cells B.slots ∧ Post ⟨T.setVm vm₁, locs, cells, slots⟩ argsL.toArray v B ∧
      ∀ target, Steps p.tables e below (B.U.setTop { g with pc := g.pc + 3, stack := v.toList ++ rest }) target → Steps p.tables e below (T.setTop g) target) ∨
    (∃ (q : Addr) (vm₁ : Vm) (B : Pt), s.WarmedH vm₁ ∧ Stand p l e R s m args below meth c B.U B.locs B.cells B.slots ∧ PostX ⟨T.setVm vm₁, locs, cells, slots⟩ argsL.toArray q B ∧
      Steps p.tables e below (T.setTop g) ((B.U.setTop { g with stack := rest }).pushFrame (.throwing q))) := by
  obtain ⟨mk, hnamed⟩ := Cond.code_named hcode
  obtain ⟨methM, cM, hmethM, -, -, -, -, -, -, hsigM⟩ := Cond.code_spec hnamed hcode
  have hstatic : methM.isStatic = true := Cond.static_spec hnamed hmethM hstat
  obtain ⟨kP, hkP, -⟩ := className_of_methodNamed hnamed
  have hinitP : kP.init = .initialized := Cond.initialized_spec (findClass_of_methodNamed hnamed) hkP hinit
  obtain ⟨vm₁, X₁, hstep₁⟩ := X.invokestatic hexec hown hlink hnamed hmethM hstatic hkP hinitP hy (g := g) hg (argsL := argsL) (rest := rest) (hlen _ hsigM) hstack hdg
  rcases hK m meth c ⟨T.setVm vm₁, locs, cells, slots⟩ { g with stack := rest } (.invokestatic index) mk argsL.toArray X₁ hg hsize hdg hW (X₁.named hnamed) (hpre vm₁ X₁.warmed) with ⟨v, B, X', hpost, hsteps⟩ | ⟨q, B, X', hpost, hsteps⟩
  · exact Or.inl ⟨v, vm₁, B, X₁.warmed, X', hpost, fun target h => hstep₁ _ fun acts => by rw [doInvoke_state]; exact hsteps.trans h⟩
  · exact Or.inr ⟨q, vm₁, B, X₁.warmed, X', hpost, hstep₁ _ fun acts => by rw [doInvoke_state]; exact hsteps⟩
end Calls
theorem vx_cls {s : State} {T : State} {vm₁ : Vm} {E : String} {k : ClassId} (hW : s.WarmedH vm₁) (h : (T.setVm vm₁).vm.findClass E = some k) : s.vm.findClass E = some k := by
  have h1 : vm₁.findClass E = some k := h
  rw [hW.alike.findClass] at h1
  exact h1
/-- the method's frame g, with q thrown over it -/
def vx_W (p : Program) (l : Launch) (e : Env) (R : Room) (s : State) (m : MethodId) (args : Array Value) (below : List Frame) (meth : Method) (c : Code) (H : Heap) (locs : List Loc) (cells slots : Nat) (Q : State → Prop) (g : JFrame) (q : Addr) : Prop :=
  ∀ T : State, T.heap = H → Stand p l e R s m args below meth c T locs cells slots → ∃ t, Steps p.tables e below ((T.setTop g).pushFrame (.throwing q)) t ∧ Q t
def vx_Run (p : Program) (l : Launch) (e : Env) (R : Room) (s : State) (m : MethodId) (args : Array Value) (below : List Frame) (meth : Method) (c : Code) (H : Heap) (locs : List Loc) (cells slots mc ms : Nat) (g : JFrame) (rest : List Value) (Qa : State → Outcome → State → Prop) (XC : String → State → State → Prop) (free : Addr → Prop) : Prop :=
  ∀ T : State, T.heap = H → Stand p l e R s m args below meth c T locs cells slots →
    (∃ (v : Option Value) (st₀ t T' : State) (L : List Loc), st₀.heap = H ∧ Stand p l e R s m args below meth c T' (locs ++ L) (cells + mc) (slots + ms) ∧ (∀ q ∈ L, free q.base) ∧ T'.heap = t.heap ∧ T'.vm = t.vm ∧ Qa st₀ (.returned v) t ∧
      Goes p e below T g T' { g with pc := g.pc + 3, stack := v.toList ++ rest }) ∨
    (∃ (q : Addr) (st₀ t T' : State) (L : List Loc) (E : String) (ce : Cell), st₀.heap = H ∧ Stand p l e R s m args below meth c T' (locs ++ L) (cells + mc) (slots + ms) ∧ (∀ z ∈ L, free z.base) ∧ T'.heap = t.heap ∧ T'.vm = t.vm ∧ XC E st₀ t ∧ t.heap[q]? = some ce ∧ ce.vm = .none ∧ s.vm.findClass E = some ce.cls ∧
      Steps p.tables e below (T.setTop g) ((T'.setTop { g with stack := rest }).pushFrame (.throwing q)))
def vx_X {S : Type} (px : S → Prop) (B : String → S → State → Prop) (A : Nat → Prop) : String → State → State → Prop := fun E st t => ∃ u : S, px u ∧ B E u t ∧ va_F A st t
section Runs
variable {p : Program} {l : Launch} {e : Env} {R : Room} {s : State} {m : MethodId} {args : Array Value} {below : List Frame} {meth : Method} {c : Code} {H : Heap} {locs : List Loc} {cells slots : Nat}
variable {y : MethodName} {bytes cc : ByteArray} {maxL nL mc ms n index : Nat} {ret : Option FieldType} {ws : List Cond} {rm : Room} {Pc : Array Value → State → Prop} {Qc : Array Value → State → Outcome → State → Prop} {XC : String → State → State → Prop} {free : Addr → Prop} {Ts : List Cond} {own C : String} {b : Addr} {As rest : List Value} {g : JFrame}
theorem vx_callBack (cb : CallB R s args own index y bytes maxL ret ws rm mc ms n) (hM : vx_Met l y ws rm Pc Qc XC mc ms free) (hbl : FrameBlind Pc) : vx_Back l R p e below s args y 3 8 (PreOf R mc ms Pc) (PostOf Qc mc ms free) (vx_Post XC mc ms free) := by
  obtain ⟨hrc, hrs, hfr, hlo, hws, hcw, -, hini, -⟩ := cb
  exact vx_back (bytes := bytes) (maxL := maxL) (ret := ret) hM hbl hrc hrs hfr hlo hws hcw (fun a' U hW => word_at hW (Or.inl (by first | rfl | simp [Cond.onTables, Cond.keeps, Cond.steady])) hini)
theorem vx_runV (S : CallFix p m c cc nL s args Ts own) (hM : vx_Met l y ws rm Pc Qc XC mc ms free) (cw : CallW R s args own C index y bytes maxL ret ws rm mc ms n) (hp : PreV s H C b Pc As)
    (hg : g.method = m) (hn : As.length = n) (hsize : g.locals.size = nL) (hstack : g.stack = As.reverse ++ .ref b :: rest) (hW : 2 * g.monitorRoom + (rest.map fun v => v.category).sum ≤ 8) (hdg : decode cc g.pc = .ok (.invokevirtual index, 3)) (hf : cells + mc ≤ R.cells ∧ slots + ms ≤ R.slots) :
    vx_Run p l e R s m args below meth c H locs cells slots mc ms g rest (Qc (Value.ref b :: As).toArray) XC free := by
  have hK : vx_Back l R p e below s args y 3 8 (PreOf R mc ms Pc) (PostOf Qc mc ms free) (vx_Post XC mc ms free) := vx_callBack cw.1 hM hp.1
  obtain ⟨⟨-, -, -, -, -, -, hcode, -, hy, hlen, hl⟩, hin, hse⟩ := cw
  obtain ⟨hx, hb, hml, ho, -⟩ := S
  obtain ⟨-, ⟨cellB, hcB, hoB, hclB⟩, hPc⟩ := hp
  intro T hT X
  rcases vx_callV X hx (C := C) (bytes := bytes) (maxL := maxL) (ret := ret) ho hl hin hse hcode hy hK (by rw [hT]; exact hcB) hoB hclB hg (hsize.trans hml.symm) (argsL := As) (rest := rest) (fun sig h => hn.trans (hlen sig h)) hstack hW (by rw [hb]; exact hdg)
    (fun vm₁ hW₁ => ⟨hf.1, hf.2, hPc (T.setVm vm₁) hT hW₁⟩) with ⟨v, vm₁, ⟨U', l2, c2, s2⟩, hW₁, X', ⟨g', mk, t, L, e1, e2, hq, h1, hL, h2, h3⟩, st⟩ | ⟨q, vm₁, ⟨U', l2, c2, s2⟩, hW₁, X', ⟨g', mk, t, L, E, ce, e1, e2, hq, hce, hcv, hcl, h1, hL, h2, h3⟩, st⟩
  · dsimp only [Pt.U, Pt.locs, Pt.cells, Pt.slots] at X' e1 e2 h1 h2 h3 st
    subst h1; subst h2; subst h3
    exact Or.inl ⟨v, (T.setVm vm₁).calling g' mk (Value.ref b :: As).toArray, t, U', L, hT, X', hL, e1, e2, hq, st⟩
  · dsimp only [Pt.U, Pt.locs, Pt.cells, Pt.slots] at X' e1 e2 h1 h2 h3 st hcl
    subst h1; subst h2; subst h3
    exact Or.inr ⟨q, (T.setVm vm₁).calling g' mk (Value.ref b :: As).toArray, t, U', L, E, ce, hT, X', hL, e1, e2, hq, hce, hcv, vx_cls hW₁ hcl, st⟩
theorem vx_runS (S : CallFix p m c cc nL s args Ts own) (hM : vx_Met l y ws rm Pc Qc XC mc ms free) (cw : CallB R s args own index y bytes maxL ret ws rm mc ms n ∧ (Cond.static y).before args s = true) (hp : PreS s H Pc As)
    (hg : g.method = m) (hn : As.length = n) (hsize : g.locals.size = nL) (hstack : g.stack = As.reverse ++ rest) (hW : 2 * g.monitorRoom + (rest.map fun v => v.category).sum ≤ 8) (hdg : decode cc g.pc = .ok (.invokestatic index, 3)) (hf : cells + mc ≤ R.cells ∧ slots + ms ≤ R.slots) :
    vx_Run p l e R s m args below meth c H locs cells slots mc ms g rest (Qc As.toArray) XC free := by
  have hK : vx_Back l R p e below s args y 3 8 (PreOf R mc ms Pc) (PostOf Qc mc ms free) (vx_Post XC mc ms free) := vx_callBack cw.1 hM hp.1
  obtain ⟨⟨-, -, -, -, -, -, hcode, hini, hy, hlen, hl⟩, hstt⟩ := cw
  obtain ⟨hx, hb, hml, ho, -⟩ := S
  intro T hT X
  rcases vx_callS X hx (bytes := bytes) (maxL := maxL) (ret := ret) ho hl hstt hini hcode hy hK hg (hsize.trans hml.symm) (argsL := As) (rest := rest) (fun sig h => hn.trans (hlen sig h)) hstack hW (by rw [hb]; exact hdg)
    (fun vm₁ hW₁ => ⟨hf.1, hf.2, hp.2 (T.setVm vm₁) hT hW₁⟩) with ⟨v, vm₁, ⟨U', l2, c2, s2⟩, hW₁, X', ⟨g', mk, t, L, e1, e2, hq, h1, hL, h2, h3⟩, st⟩ | ⟨q, vm₁, ⟨U', l2, c2, s2⟩, hW₁, X', ⟨g', mk, t, L, E, ce, e1, e2, hq, hce, hcv, hcl, h1, hL, h2, h3⟩, st⟩
  · dsimp only [Pt.U, Pt.locs, Pt.cells, Pt.slots] at X' e1 e2 h1 h2 h3 st
    subst h1; subst h2; subst h3
    exact Or.inl ⟨v, (T.setVm vm₁).calling g' mk As.toArray, t, U', L, hT, X', hL, e1, e2, hq, st⟩
  · dsimp only [Pt.U, Pt.locs, Pt.cells, Pt.slots] at X' e1 e2 h1 h2 h3 st hcl
    subst h1; subst h2; subst h3
    exact Or.inr ⟨q, (T.setVm vm₁).calling g' mk As.toArray, t, U', L, E, ce, hT, X', hL, e1, e2, hq, hce, hcv, vx_cls hW₁ hcl, st⟩
end Runs
section Rows
variable {p : Program} {l : Launch} {e : Env} {R : Room} {s : State} {m : MethodId} {args : Array Value} {below : List Frame} {meth : Method} {c : Code} {H : Heap} {locs : List Loc} {cells slots : Nat} {Q : State → Prop}
variable {mc ms : Nat} {free : Addr → Prop} {A0 A1 : Nat → Prop} {H0 : Heap} {a : Array Value} {pc : Nat} {ls : Array Slot} {st0 rest : List Value}
theorem vx_keep {st₀ t T' : State} {L : List Loc} (h0 : st₀.heap = H) (e1 : T'.heap = t.heap) (hS : va_S A0 H0 H locs) (hA : ∀ q, q < H.size → A1 q → A0 q) (hf : ∀ q, free q → A0 q) (hL : ∀ q ∈ L, free q.base) (hF : va_F A1 st₀ t) :
    H.size ≤ T'.heap.size ∧ (∀ q : Nat, q < H.size → ¬ A1 q → T'.heap[q]? = H[q]?) ∧ va_S A0 H0 T'.heap (locs ++ L) := by
  obtain ⟨hz, hk⟩ := hF
  rw [h0] at hz hk
  exact ⟨by rw [e1]; exact hz, fun q h1 h2 => by rw [e1]; exact hk q h1 h2,
    ⟨Nat.le_trans hS.1 (by rw [e1]; exact hz), fun q h1 h2 => by rw [e1, hk q (Nat.lt_of_lt_of_le h1 hS.1) (fun z => h2 (hA q (Nat.lt_of_lt_of_le h1 hS.1) z))]; exact hS.2.1 q h1 h2, fun q hq => by
      rcases List.mem_append.mp hq with h | h
      · exact hS.2.2 q h
      · exact hf _ (hL q h)⟩⟩
theorem vx_calli {S SX : Type} {post : Int32 → S → Prop} {px : SX → Prop} {B : S → State → Prop} {BX : String → SX → State → Prop} {AX : Nat → Prop} (hr : vx_Run p l e R s m args below meth c H locs cells slots mc ms (F0 m pc ls st0) rest (va_Qi post B A1 a) (vx_X px BX AX) free) (hS : va_S A0 H0 H locs) (hA : ∀ q, q < H.size → A1 q → A0 q) (hf : ∀ q, free q → A0 q) (hAX : ∀ q, q < H.size → AX q → A0 q)
    (kx : ∀ (E : String) (ce : Cell) (q9 : Addr) (u : SX) (t : State) (H1 : Heap) (locs1 : List Loc), t.heap = H1 → s.vm.Alike t.vm → px u → BX E u t → H.size ≤ H1.size → (∀ q : Nat, q < H.size → ¬ AX q → H1[q]? = H[q]?) → va_S A0 H0 H1 locs1 → H1[q9]? = some ce → ce.vm = .none → s.vm.findClass E = some ce.cls → vx_W p l e R s m args below meth c H1 locs1 (cells + mc) (slots + ms) Q (F0 m pc ls rest) q9)
    (kk : ∀ (r : Int32) (u : S) (t : State) (H1 : Heap) (locs1 : List Loc), t.heap = H1 → s.vm.Alike t.vm → post r u → B u t → H.size ≤ H1.size → (∀ q : Nat, q < H.size → ¬ A1 q → H1[q]? = H[q]?) → va_S A0 H0 H1 locs1 → W p l e R s m args below meth c H1 locs1 (cells + mc) (slots + ms) Q (F0 m (pc + 3) ls (.int r :: rest))) : W p l e R s m args below meth c H locs cells slots Q (F0 m pc ls st0) := by
  intro T hT X
  rcases hr T hT X with ⟨v, st₀, t, T', L, h0, X', hL, e1, e2, ⟨⟨r, u, hv, hp, hb⟩, hF⟩, st⟩ | ⟨q, st₀, t, T', L, E, ce, h0, X', hL, e1, e2, ⟨u, hp, hb, hF⟩, hce, hcv, hcl, st⟩
  · cases hv
    obtain ⟨k1, k2, k3⟩ := vx_keep h0 e1 hS hA hf hL hF
    obtain ⟨t2, a1, b1⟩ := kk r u t T'.heap (locs ++ L) e1.symm (by rw [← e2]; exact X'.warmed.alike) hp hb k1 k2 k3 T' rfl X'
    exact ⟨t2, st t2 a1, b1⟩
  · obtain ⟨k1, k2, k3⟩ := vx_keep h0 e1 hS hAX hf hL hF
    obtain ⟨t2, a1, b1⟩ := kx E ce q u t T'.heap (locs ++ L) e1.symm (by rw [← e2]; exact X'.warmed.alike) hp hb k1 k2 k3 (by rw [e1]; exact hce) hcv hcl T' rfl X'
    exact ⟨t2, st.trans a1, b1⟩
theorem vx_calll {S SX : Type} {post : Int64 → S → Prop} {px : SX → Prop} {B : S → State → Prop} {BX : String → SX → State → Prop} {AX : Nat → Prop} (hr : vx_Run p l e R s m args below meth c H locs cells slots mc ms (F0 m pc ls st0) rest (va_Ql post B A1 a) (vx_X px BX AX) free) (hS : va_S A0 H0 H locs) (hA : ∀ q, q < H.size → A1 q → A0 q) (hf : ∀ q, free q → A0 q) (hAX : ∀ q, q < H.size → AX q → A0 q)
    (kx : ∀ (E : String) (ce : Cell) (q9 : Addr) (u : SX) (t : State) (H1 : Heap) (locs1 : List Loc), t.heap = H1 → s.vm.Alike t.vm → px u → BX E u t → H.size ≤ H1.size → (∀ q : Nat, q < H.size → ¬ AX q → H1[q]? = H[q]?) → va_S A0 H0 H1 locs1 → H1[q9]? = some ce → ce.vm = .none → s.vm.findClass E = some ce.cls → vx_W p l e R s m args below meth c H1 locs1 (cells + mc) (slots + ms) Q (F0 m pc ls rest) q9)
    (kk : ∀ (r : Int64) (u : S) (t : State) (H1 : Heap) (locs1 : List Loc), t.heap = H1 → s.vm.Alike t.vm → post r u → B u t → H.size ≤ H1.size → (∀ q : Nat, q < H.size → ¬ A1 q → H1[q]? = H[q]?) → va_S A0 H0 H1 locs1 → W p l e R s m args below meth c H1 locs1 (cells + mc) (slots + ms) Q (F0 m (pc + 3) ls (.long r :: rest))) : W p l e R s m args below meth c H locs cells slots Q (F0 m pc ls st0) := by
  intro T hT X
  rcases hr T hT X with ⟨v, st₀, t, T', L, h0, X', hL, e1, e2, ⟨⟨r, u, hv, hp, hb⟩, hF⟩, st⟩ | ⟨q, st₀, t, T', L, E, ce, h0, X', hL, e1, e2, ⟨u, hp, hb, hF⟩, hce, hcv, hcl, st⟩
  · cases hv
    obtain ⟨k1, k2, k3⟩ := vx_keep h0 e1 hS hA hf hL hF
    obtain ⟨t2, a1, b1⟩ := kk r u t T'.heap (locs ++ L) e1.symm (by rw [← e2]; exact X'.warmed.alike) hp hb k1 k2 k3 T' rfl X'
    exact ⟨t2, st t2 a1, b1⟩
  · obtain ⟨k1, k2, k3⟩ := vx_keep h0 e1 hS hAX hf hL hF
    obtain ⟨t2, a1, b1⟩ := kx E ce q u t T'.heap (locs ++ L) e1.symm (by rw [← e2]; exact X'.warmed.alike) hp hb k1 k2 k3 (by rw [e1]; exact hce) hcv hcl T' rfl X'
    exact ⟨t2, st.trans a1, b1⟩
theorem vx_callf {S SX : Type} {post : UInt32 → S → Prop} {px : SX → Prop} {B : S → State → Prop} {BX : String → SX → State → Prop} {AX : Nat → Prop} (hr : vx_Run p l e R s m args below meth c H locs cells slots mc ms (F0 m pc ls st0) rest (va_Qf post B A1 a) (vx_X px BX AX) free) (hS : va_S A0 H0 H locs) (hA : ∀ q, q < H.size → A1 q → A0 q) (hf : ∀ q, free q → A0 q) (hAX : ∀ q, q < H.size → AX q → A0 q)
    (kx : ∀ (E : String) (ce : Cell) (q9 : Addr) (u : SX) (t : State) (H1 : Heap) (locs1 : List Loc), t.heap = H1 → s.vm.Alike t.vm → px u → BX E u t → H.size ≤ H1.size → (∀ q : Nat, q < H.size → ¬ AX q → H1[q]? = H[q]?) → va_S A0 H0 H1 locs1 → H1[q9]? = some ce → ce.vm = .none → s.vm.findClass E = some ce.cls → vx_W p l e R s m args below meth c H1 locs1 (cells + mc) (slots + ms) Q (F0 m pc ls rest) q9)
    (kk : ∀ (r : UInt32) (u : S) (t : State) (H1 : Heap) (locs1 : List Loc), t.heap = H1 → s.vm.Alike t.vm → post r u → B u t → H.size ≤ H1.size → (∀ q : Nat, q < H.size → ¬ A1 q → H1[q]? = H[q]?) → va_S A0 H0 H1 locs1 → W p l e R s m args below meth c H1 locs1 (cells + mc) (slots + ms) Q (F0 m (pc + 3) ls (.float r :: rest))) : W p l e R s m args below meth c H locs cells slots Q (F0 m pc ls st0) := by
  intro T hT X
  rcases hr T hT X with ⟨v, st₀, t, T', L, h0, X', hL, e1, e2, ⟨⟨r, u, hv, hp, hb⟩, hF⟩, st⟩ | ⟨q, st₀, t, T', L, E, ce, h0, X', hL, e1, e2, ⟨u, hp, hb, hF⟩, hce, hcv, hcl, st⟩
  · cases hv
    obtain ⟨k1, k2, k3⟩ := vx_keep h0 e1 hS hA hf hL hF
    obtain ⟨t2, a1, b1⟩ := kk r u t T'.heap (locs ++ L) e1.symm (by rw [← e2]; exact X'.warmed.alike) hp hb k1 k2 k3 T' rfl X'
    exact ⟨t2, st t2 a1, b1⟩
  · obtain ⟨k1, k2, k3⟩ := vx_keep h0 e1 hS hAX hf hL hF
    obtain ⟨t2, a1, b1⟩ := kx E ce q u t T'.heap (locs ++ L) e1.symm (by rw [← e2]; exact X'.warmed.alike) hp hb k1 k2 k3 (by rw [e1]; exact hce) hcv hcl T' rfl X'
    exact ⟨t2, st.trans a1, b1⟩
theorem vx_calld {S SX : Type} {post : UInt64 → S → Prop} {px : SX → Prop} {B : S → State → Prop} {BX : String → SX → State → Prop} {AX : Nat → Prop} (hr : vx_Run p l e R s m args below meth c H locs cells slots mc ms (F0 m pc ls st0) rest (va_Qd post B A1 a) (vx_X px BX AX) free) (hS : va_S A0 H0 H locs) (hA : ∀ q, q < H.size → A1 q → A0 q) (hf : ∀ q, free q → A0 q) (hAX : ∀ q, q < H.size → AX q → A0 q)
    (kx : ∀ (E : String) (ce : Cell) (q9 : Addr) (u : SX) (t : State) (H1 : Heap) (locs1 : List Loc), t.heap = H1 → s.vm.Alike t.vm → px u → BX E u t → H.size ≤ H1.size → (∀ q : Nat, q < H.size → ¬ AX q → H1[q]? = H[q]?) → va_S A0 H0 H1 locs1 → H1[q9]? = some ce → ce.vm = .none → s.vm.findClass E = some ce.cls → vx_W p l e R s m args below meth c H1 locs1 (cells + mc) (slots + ms) Q (F0 m pc ls rest) q9)
    (kk : ∀ (r : UInt64) (u : S) (t : State) (H1 : Heap) (locs1 : List Loc), t.heap = H1 → s.vm.Alike t.vm → post r u → B u t → H.size ≤ H1.size → (∀ q : Nat, q < H.size → ¬ A1 q → H1[q]? = H[q]?) → va_S A0 H0 H1 locs1 → W p l e R s m args below meth c H1 locs1 (cells + mc) (slots + ms) Q (F0 m (pc + 3) ls (.double r :: rest))) : W p l e R s m args below meth c H locs cells slots Q (F0 m pc ls st0) := by
  intro T hT X
  rcases hr T hT X with ⟨v, st₀, t, T', L, h0, X', hL, e1, e2, ⟨⟨r, u, hv, hp, hb⟩, hF⟩, st⟩ | ⟨q, st₀, t, T', L, E, ce, h0, X', hL, e1, e2, ⟨u, hp, hb, hF⟩, hce, hcv, hcl, st⟩
  · cases hv
    obtain ⟨k1, k2, k3⟩ := vx_keep h0 e1 hS hA hf hL hF
    obtain ⟨t2, a1, b1⟩ := kk r u t T'.heap (locs ++ L) e1.symm (by rw [← e2]; exact X'.warmed.alike) hp hb k1 k2 k3 T' rfl X'
    exact ⟨t2, st t2 a1, b1⟩
  · obtain ⟨k1, k2, k3⟩ := vx_keep h0 e1 hS hAX hf hL hF
    obtain ⟨t2, a1, b1⟩ := kx E ce q u t T'.heap (locs ++ L) e1.symm (by rw [← e2]; exact X'.warmed.alike) hp hb k1 k2 k3 (by rw [e1]; exact hce) hcv hcl T' rfl X'
    exact ⟨t2, st.trans a1, b1⟩
theorem vx_callv {S SX : Type} {post : S → Prop} {px : SX → Prop} {B : S → State → Prop} {BX : String → SX → State → Prop} {AX : Nat → Prop} (hr : vx_Run p l e R s m args below meth c H locs cells slots mc ms (F0 m pc ls st0) rest (va_Qv post B A1 a) (vx_X px BX AX) free) (hS : va_S A0 H0 H locs) (hA : ∀ q, q < H.size → A1 q → A0 q) (hf : ∀ q, free q → A0 q) (hAX : ∀ q, q < H.size → AX q → A0 q)
    (kx : ∀ (E : String) (ce : Cell) (q9 : Addr) (u : SX) (t : State) (H1 : Heap) (locs1 : List Loc), t.heap = H1 → s.vm.Alike t.vm → px u → BX E u t → H.size ≤ H1.size → (∀ q : Nat, q < H.size → ¬ AX q → H1[q]? = H[q]?) → va_S A0 H0 H1 locs1 → H1[q9]? = some ce → ce.vm = .none → s.vm.findClass E = some ce.cls → vx_W p l e R s m args below meth c H1 locs1 (cells + mc) (slots + ms) Q (F0 m pc ls rest) q9)
    (kk : ∀ (u : S) (t : State) (H1 : Heap) (locs1 : List Loc), t.heap = H1 → s.vm.Alike t.vm → post u → B u t → H.size ≤ H1.size → (∀ q : Nat, q < H.size → ¬ A1 q → H1[q]? = H[q]?) → va_S A0 H0 H1 locs1 → W p l e R s m args below meth c H1 locs1 (cells + mc) (slots + ms) Q (F0 m (pc + 3) ls (rest))) : W p l e R s m args below meth c H locs cells slots Q (F0 m pc ls st0) := by
  intro T hT X
  rcases hr T hT X with ⟨v, st₀, t, T', L, h0, X', hL, e1, e2, ⟨⟨u, hv, hp, hb⟩, hF⟩, st⟩ | ⟨q, st₀, t, T', L, E, ce, h0, X', hL, e1, e2, ⟨u, hp, hb, hF⟩, hce, hcv, hcl, st⟩
  · cases hv
    obtain ⟨k1, k2, k3⟩ := vx_keep h0 e1 hS hA hf hL hF
    obtain ⟨t2, a1, b1⟩ := kk u t T'.heap (locs ++ L) e1.symm (by rw [← e2]; exact X'.warmed.alike) hp hb k1 k2 k3 T' rfl X'
    exact ⟨t2, st t2 a1, b1⟩
  · obtain ⟨k1, k2, k3⟩ := vx_keep h0 e1 hS hAX hf hL hF
    obtain ⟨t2, a1, b1⟩ := kx E ce q u t T'.heap (locs ++ L) e1.symm (by rw [← e2]; exact X'.warmed.alike) hp hb k1 k2 k3 (by rw [e1]; exact hce) hcv hcl T' rfl X'
    exact ⟨t2, st.trans a1, b1⟩
/-- caught by the row x of this method's table; the rows ahead don't take it -/
theorem vx_catch {own name : String} {E : String} {ce : Cell} {q : Addr} (hown : s.vm.findClass own = some m.cls) (pre : List ExceptionTableEntry) (x : ExceptionTableEntry) (suf : List ExceptionTableEntry) (hsplit : c.exceptionTable.toList = pre ++ x :: suf)
    (hpass : ∀ z ∈ pre, covers z pc = false ∨ (z.catchType ≠ 0 ∧ ∃ nm : String, (Cond.classLink own z.catchType nm).before args s = true ∧ va_Nc E nm s)) (hx : covers x pc = true) (h0 : x.catchType ≠ 0)
    (hlink : (Cond.classLink own x.catchType name).before args s = true) (hcast : (Cond.castable E name).before args s = true) (hcell : H[q]? = some ce) (hv : ce.vm = .none) (hcl : s.vm.findClass E = some ce.cls)
    (kk : W p l e R s m args below meth c H locs cells slots Q (F0 m x.handlerPc ls [.ref q])) : vx_W p l e R s m args below meth c H locs cells slots Q (F0 m pc ls rest) q := by
  intro T hT X
  have hpl : e.platform.magicAccessors = ({} : Platform).magicAccessors := by rw [X.admits.platform]
  obtain ⟨c3, c4, hc3, hc4, hasg⟩ := Cond.castable_spec hcast
  cases Option.some.inj (hc3.symm.trans hcl)
  obtain ⟨c5, hc5, hcl5⟩ := Cond.classLink_spec hown hlink e.platform hpl
  cases Option.some.inj (hc4.symm.trans hc5)
  obtain ⟨vm', X', st⟩ := X.thenCaughtThrough q (g := F0 m pc ls rest) rfl (Steps.refl _) (by rw [hT]; exact hcell) (by rw [hv]; rfl) (by obtain ⟨k9, h9, -⟩ := Vm.findClass_spec hcl; exact ⟨k9, h9⟩) pre x suf hsplit
    (fun z hz => by
      rcases hpass z hz with h | ⟨hz0, nm, hl1, hn1⟩
      · exact Or.inl h
      · obtain ⟨c6, hc6, hcl6⟩ := Cond.classLink_spec hown hl1 e.platform hpl
        obtain ⟨a8, b8, h1, h2, h3⟩ := hn1
        cases Option.some.inj (h1.symm.trans hcl)
        cases Option.some.inj (h2.symm.trans hc6)
        exact Or.inr ⟨hz0, _, hcl6, h3⟩) hx (Or.inr ⟨h0, c4, hcl5, hasg⟩)
  obtain ⟨t, a1, b1⟩ := kk (T.setVm vm') hT X'
  exact ⟨t, st.trans a1, b1⟩
end Rows
section Ends
variable {p : Program} {l : Launch} {e : Env} {R : Room} {s : State} {m : MethodId} {args : Array Value} {below : List Frame} {meth : Method} {c : Code} {H : Heap} {locs : List Loc} {cells slots : Nat} {Q : State → Prop}
variable {mc ms : Nat} {free : Addr → Prop} {A0 A1 : Nat → Prop} {H0 : Heap} {a : Array Value} {ls : Array Slot} {st0 rest : List Value}
variable {Qc : Array Value → State → Outcome → State → Prop} {XC : String → State → State → Prop}
/-- what a body that may throw owes at its end -/
def vx_MQ (below : List Frame) (Qc : Array Value → State → Outcome → State → Prop) (XC : String → State → State → Prop) (a : Array Value) (s : State) (mc ms : Nat) (free : Addr → Prop) : State → Prop := fun t =>
  ∃ o, t.status = .running ∧ Ended t below o ∧ vx_Q Qc XC mc ms free a s o t
theorem vx_ret {g : JFrame} {mc ms : Nat} (k : W p l e R s m args below meth c H locs cells slots (MQ below Qc args s mc ms free) g) : W p l e R s m args below meth c H locs cells slots (vx_MQ below Qc XC args s mc ms free) g := by
  intro T hT X
  obtain ⟨t, a1, o, b1, b2, b3, b4⟩ := k T hT X
  exact ⟨t, a1, o, b1, b2, Or.inl ⟨b3, b4⟩⟩
/-- not caught here: it goes on to the caller -/
theorem vx_widen {g : JFrame} {q : Addr} {k n : Nat} (h1 : cells ≤ k) (h2 : slots ≤ n) (kk : vx_W p l e R s m args below meth c H locs k n Q g q) : vx_W p l e R s m args below meth c H locs cells slots Q g q := fun T hT X => kk T hT (stand_widen X h1 h2)
theorem vx_out {pc : Nat} {E : String} {ce : Cell} {q : Addr} {mc ms : Nat} (hout : ∀ x ∈ c.exceptionTable.toList, covers x pc = false) (hlocks : meth.locks = false) (hcell : H[q]? = some ce) (hv : ce.vm = .none) (hcl : s.vm.findClass E = some ce.cls)
    (hx : ∀ t : State, t.heap = H → s.vm.Alike t.vm → XC E s t) (hf : ∀ z ∈ locs, free z.base) (hc : cells ≤ mc) (hs : slots ≤ ms) :
    vx_W p l e R s m args below meth c H locs cells slots (vx_MQ below Qc XC args s mc ms free) (F0 m pc ls rest) q := by
  intro T hT X
  obtain ⟨st1, hrun, hend, hW, hsm⟩ := X.leaveThrown q (g := F0 m pc ls rest) rfl rfl rfl hout hlocks
  have hcell9 : (T.setFrames (.throwing q :: below)).heap[q]? = some ce := by
    show T.heap[q]? = some ce
    rw [hT]; exact hcell
  exact ⟨_, st1, .threw q, hrun, hend, Or.inr ⟨q, rfl, E, ce, locs, hx _ hT hW.alike, hcell9, hv, hcl, hW, hsm.mono hc hs, hf⟩⟩
theorem vx_frame {U : State} {k n : Nat} (h : s.sameButNew ({ U with vm := s.vm } : State) locs k n) : s.heap.size ≤ U.heap.size ∧ ∀ q : Nat, q < s.heap.size → (∀ z ∈ locs, z.base ≠ q) → U.heap[q]? = s.heap[q]? := by
  obtain ⟨-, h2, -, -, -, h6⟩ := h
  refine ⟨h2, fun q hq hz => ?_⟩
  obtain ⟨c9, e1, e2, e3, e4⟩ := h6 q _ (Array.getElem?_eq_getElem hq)
  have hs : c9.slots = (s.heap[q]).slots := Array.ext_getElem? fun i => e4 i fun hm => hz _ hm rfl
  have h9 : c9 = s.heap[q] := by
    rw [hs] at e2
    exact e2
  have e5 : U.heap[q]? = some c9 := e1
  rw [e5, h9, Array.getElem?_eq_getElem hq]
/-- the words of a throw but the four that speak of the heap -/
def vx_no (w : Cond) : Bool := decide (w ≠ .isRef (.static Bundle.tN "UNASSIGNED_STACK" Bundle.steD)) && decide (w ≠ .isRef (.static Bundle.tN "SUPPRESSED_SENTINEL" Bundle.listD)) && decide (w ≠ .laysStatic Bundle.tN "UNASSIGNED_STACK" Bundle.steD) && decide (w ≠ .laysStatic Bundle.tN "SUPPRESSED_SENTINEL" Bundle.listD)
def vx_at0 (own : String) (ic : Nat) (X : String) (names : List String) : List Cond := (Bundle.ownAtoms0 own ic X names).filter vx_no
def vx_atS (own : String) (ic : Nat) (X : String) (names : List String) : List Cond := (Bundle.ownAtoms own ic X names).filter vx_no
/-- a word that the tables alone decide, or a good one -/
def vx_ot (w : Cond) : Bool := w.onTables || goodWord w
theorem vx_ot_at {args a' : Array Value} {s U : State} {w : Cond} (hW : s.WarmedH U.vm) (hvm : s.vm = U.vm) (hg : vx_ot w = true) (h : w.before args s = true) : w.before a' U = true := by
  simp only [vx_ot, Bool.or_eq_true] at hg
  rcases hg with hg | hg
  · exact va_tabs hg hvm h
  · exact word_at hW (good_of_word hg) h
/-- a list's words: the good ones out of the method's own list, the others by premises of their own -/
theorem vx_hat {args : Array Value} {s : State} {L B : List Cond} (h1 : ∀ w ∈ L.filter goodWord, w.before args s = true) (h2 : ∀ w ∈ L.filter (fun w => !goodWord w), w ∈ B) (h3 : ∀ w ∈ B, w.before args s = true) : ∀ w ∈ L, w.before args s = true := by
  intro w hw
  by_cases g : goodWord w = true
  · exact h1 w (List.mem_filter.mpr ⟨hw, g⟩)
  · refine h3 w (h2 w (List.mem_filter.mpr ⟨hw, ?_⟩))
    show (!goodWord w) = true
    cases hgw : goodWord w
    · rfl
    · exact absurd hgw g
theorem vx_c {args : Array Value} {s : State} {w : Cond} {B : List Cond} (h : w.before args s = true) (t : ∀ w ∈ B, w.before args s = true) : ∀ w' ∈ w :: B, w'.before args s = true := fun w' h' => (List.mem_cons.mp h').elim (fun e => by rw [e]; exact h) (t w')
theorem vx_n {args : Array Value} {s : State} : ∀ w ∈ ([] : List Cond), w.before args s = true := fun _ h => nomatch h
theorem vx_own {args : Array Value} {s : State} {L : List Cond} (h1 : ∀ w ∈ L.filter vx_no, w.before args s = true)
    (hU : (Cond.isRef (.static Bundle.tN "UNASSIGNED_STACK" Bundle.steD)).before args s = true) (hN : (Cond.isRef (.static Bundle.tN "SUPPRESSED_SENTINEL" Bundle.listD)).before args s = true)
    (lU : (Cond.laysStatic Bundle.tN "UNASSIGNED_STACK" Bundle.steD).before args s = true) (lN : (Cond.laysStatic Bundle.tN "SUPPRESSED_SENTINEL" Bundle.listD).before args s = true) : ∀ w ∈ L, w.before args s = true := by
  intro w hw
  by_cases e1 : w = .isRef (.static Bundle.tN "UNASSIGNED_STACK" Bundle.steD)
  · rw [e1]; exact hU
  · by_cases e2 : w = .isRef (.static Bundle.tN "SUPPRESSED_SENTINEL" Bundle.listD)
    · rw [e2]; exact hN
    · by_cases e3 : w = .laysStatic Bundle.tN "UNASSIGNED_STACK" Bundle.steD
      · rw [e3]; exact lU
      · by_cases e4 : w = .laysStatic Bundle.tN "SUPPRESSED_SENTINEL" Bundle.listD
        · rw [e4]; exact lN
        · exact h1 w (List.mem_filter.mpr ⟨hw, by unfold vx_no; rw [decide_eq_true e1, decide_eq_true e2, decide_eq_true e3, decide_eq_true e4]; rfl⟩)
/-- where a static field lies, its class's statics cell in H -/
def vx_L (C n d : String) (A : Nat → Prop) (U : State) (H : Heap) : Prop := ∃ (c : ClassId) (k : Class) (i : Nat) (f : Field) (a : Nat) (cell : Cell), U.vm.findClass C = some c ∧ U.fieldFound? C n d = some (c, k, i, f) ∧ f.isStatic = true ∧ k.statics = some a ∧ H[a]? = some cell ∧ cell.vm.isStatics = true ∧ cell.cls = c ∧ f.slot < cell.slots.size ∧ k.staticTypes[f.slot]? = some f.type ∧ ¬ A a
theorem vx_L.moved {C n d : String} {A : Nat → Prop} {u U : State} {H : Heap} (hvm : u.vm.Alike U.vm) (h : vx_L C n d A u H) : vx_L C n d A U H := by
  obtain ⟨c, k, i, f, a, cell, h1, h2, h3, h4, h5, h6, h7, h8, h9, h10⟩ := h
  obtain ⟨k', hi', he⟩ := State.fieldFound?_setVm hvm h2
  exact ⟨c, k', i, f, a, cell, by rw [hvm.findClass]; exact h1, hi', h3, by rw [he]; exact h4, h5, h6, h7, h8, by rw [he]; exact h9, h10⟩
theorem vx_L.kept {C n d : String} {A : Nat → Prop} {U : State} {H H1 : Heap} (h : vx_L C n d A U H) (hq : ∀ a : Nat, a < H.size → ¬ A a → H1[a]? = H[a]?) : vx_L C n d A U H1 := by
  obtain ⟨c, k, i, f, a, cell, h1, h2, h3, h4, h5, h6, h7, h8, h9, h10⟩ := h
  exact ⟨c, k, i, f, a, cell, h1, h2, h3, h4, by rw [hq a (Array.getElem?_eq_some_iff.mp h5).1 h10]; exact h5, h6, h7, h8, h9, h10⟩
theorem vx_L.narrow {C n d : String} {A B : Nat → Prop} {U : State} {H : Heap} (h : vx_L C n d A U H) (hAB : ∀ q, B q → A q) : vx_L C n d B U H := by
  obtain ⟨c, k, i, f, a, cell, h1, h2, h3, h4, h5, h6, h7, h8, h9, h10⟩ := h
  exact ⟨c, k, i, f, a, cell, h1, h2, h3, h4, h5, h6, h7, h8, h9, fun z => h10 (hAB _ z)⟩
theorem vx_L.word {C n d : String} {A : Nat → Prop} {s : State} {args : Array Value} (h : vx_L C n d A s s.heap) : (Cond.laysStatic C n d).before args s = true := by
  obtain ⟨c, k, i, f, a, cell, h1, h2, h3, h4, h5, h6, h7, h8, h9, -⟩ := h
  show (Cond.laysStatic C n d).holds args s none s [] = true
  exact Cond.laysStatic_of h1 h2 h3 h4 h5 h6 h7 h8 h9
/-- .. and what it holds: null or some reference -/
def vx_Zq (C n d : String) (A : Nat → Prop) (U : State) (H : Heap) : Prop := va_Zq C n d A U H ∧ vx_L C n d A U H
theorem vx_Zq.moved {C n d : String} {A : Nat → Prop} {u U : State} {H : Heap} (hvm : u.vm.Alike U.vm) (h : vx_Zq C n d A u H) : vx_Zq C n d A U H := ⟨va_Zq.moved hvm h.1, vx_L.moved hvm h.2⟩
theorem vx_Zq.kept {C n d : String} {A : Nat → Prop} {U : State} {H H1 : Heap} (h : vx_Zq C n d A U H) (hq : ∀ a : Nat, a < H.size → ¬ A a → H1[a]? = H[a]?) : vx_Zq C n d A U H1 := ⟨va_Zq.kept h.1 hq, vx_L.kept h.2 hq⟩
theorem vx_Zq.narrow {C n d : String} {A B : Nat → Prop} {U : State} {H : Heap} (h : vx_Zq C n d A U H) (hAB : ∀ q, B q → A q) : vx_Zq C n d B U H := ⟨va_Zq.narrow h.1 hAB, vx_L.narrow h.2 hAB⟩
theorem vx_Zqof {args : Array Value} {s : State} {C n d : String} {A : Nat → Prop} (hl : (Cond.laysStatic C n d).before args s = true) (hini : (Cond.initialized C).before args s = true) (h : (Cond.isRef (.static C n d)).before args s = true) (hA : ∀ a : Nat, a < s.heap.size → ¬ A a) : vx_Zq C n d A s s.heap := by
  refine ⟨va_Zqof hl hini h hA, ?_⟩
  obtain ⟨c, k, i, f, a, cell, h1, h2, h3, h4, h5, h6, h7, h8, h9⟩ := Cond.laysStatic_spec hl
  exact ⟨c, k, i, f, a, cell, h1, h2, h3, h4, h5, h6, h7, h8, h9, hA a (Array.getElem?_eq_some_iff.mp h5).1⟩
theorem vx_isRef {C n d : String} {v : Value} {A : Nat → Prop} {s : State} {args : Array Value} (h : va_Z C n d v A s s.heap) (hv : v.isRef = true) : (Cond.isRef (.static C n d)).before args s = true := by
  obtain ⟨cf, kf, fi, f, a, cell, h1, h2, h3, h4, h5, h6, h7, -⟩ := h
  have he : (Term.static C n d).eval args s none [] s = some v := by
    simp [Term.eval, State.fieldNamed?, h1, h2, h4, h5, h6, h7]
  simp only [Cond.before, Cond.holds, Cond.value, he]
  cases v <;> simp_all [Value.isRef]
theorem vx_isRefq {C n d : String} {A : Nat → Prop} {s : State} {args : Array Value} (h : va_Zq C n d A s s.heap) : (Cond.isRef (.static C n d)).before args s = true := by
  rcases h with h | ⟨t, h⟩
  · exact vx_isRef h rfl
  · exact vx_isRef h rfl
/-- the same frame, seen from here: as if the method were called anew in this heap -/
theorem vx_rebase {T : State} (X : Stand p l e R s m args below meth c T locs cells slots) {R' : Room} (hf : R'.frames ≤ R.frames) (hl : R'.locals ≤ R.locals) (hc : cells + R'.cells ≤ R.cells) (hs : slots + R'.slots ≤ R.slots) :
    Stand p l e R' ((T.setVm s.vm).setFrames (.invoking m args :: below)) m args below meth c T [] 0 0 := by
  have htop : (T.setVm s.vm).topJava?.isSome := X.here.top
  have hF : ((T.setVm s.vm).setFrames (.invoking m args :: below)).frames = .invoking m args :: below := State.frames_setFrames _ (State.cur_lt_of_top htop)
  obtain ⟨g₀, hg0⟩ := Option.isSome_iff_exists.mp htop
  obtain ⟨r, hr⟩ := State.topJava?_eq_some.mp hg0
  have hl9 : e.platform.stackLimits (T.setVm s.vm).me = e.platform.stackLimits s.me := X.limits
  have hb9 : (T.setVm s.vm).me.stackBytes = s.me.stackBytes := X.bytes
  refine ⟨X.admits, X.cas, X.clock, hF, ?_, X.hears, X.method, X.code, X.here, X.tail, X.warmed, ?_, ?_, ?_⟩
  · have h := X.room
    have hU : ((T.setVm s.vm).setFrames (.invoking m args :: below)).localsInUse = s.localsInUse := by
      rw [State.localsInUse_invoking hF (meth := meth) (c := c) X.method X.code, State.localsInUse_invoking X.frames X.method X.code]
    simp only [State.hasRoom, Bool.and_eq_true, decide_eq_true_eq] at h ⊢
    obtain ⟨⟨⟨⟨h1, h2, h3, h4, h5, h6⟩, h7⟩, h8⟩, h9⟩ := h
    rw [X.frames, List.length_cons] at h2 h3
    have q1 := X.heapSize
    have q2 := X.used
    simp only [hF, hU, List.length_cons, State.stackLimits_setFrames, State.stackBytes_setFrames, hl9, hb9]
    refine ⟨⟨⟨⟨by omega, by omega, by omega, by omega, by omega, h6⟩, ?_⟩, ?_⟩, X.book⟩
    · show T.heap.size + R'.cells ≤ e.platform.maxCells
      omega
    · show T.slotsUsed + R'.slots ≤ e.platform.maxSlots
      omega
  · rw [State.stackLimits_setFrames]; rfl
  · rw [State.stackBytes_setFrames]; rfl
  · refine ⟨?_, Nat.le_refl _, Nat.le_refl _, ?_, ?_, fun a c9 h9 => ⟨c9, h9, rfl, rfl, fun _ _ => rfl⟩⟩
    · obtain ⟨t, ht, -⟩ := State.frames_cons hr
      show T.setVm s.vm = { ((T.setVm s.vm).setFrames (.invoking m args :: below)).setFrames (T.setVm s.vm).frames with heap := T.heap, slotsUsed := T.slotsUsed }
      rw [State.setFrames_setFrames, State.setFrames_self ht]
      rfl
    · show T.slotsUsed = T.slotsUsed + ((T.heap.toList.drop T.heap.size).map (·.slots.size)).sum
      rw [List.drop_eq_nil_of_le (Nat.le_of_eq Array.length_toList)]
      rfl
    · show ((T.heap.toList.drop T.heap.size).map (·.slots.size)).sum ≤ 0
      rw [List.drop_eq_nil_of_le (Nat.le_of_eq Array.length_toList)]
      exact Nat.le_refl _
/-- 'throw new E()': new; dup; invokespecial; athrow -/
theorem vx_throw0 {cc : ByteArray} {pc : Nat} (hexec : p.tables.exec = Jvm.exec) (hb : c.code = cc) (hl : l.stackTraces = false) {own cls : String} {names : List String} {ik ic mc ms : Nat} {A : Nat → Prop}
    (hown : s.vm.findClass own = some m.cls) (hcls : Bundle.fit cls = true) (hnames : ∀ n ∈ names, Bundle.fit n = true)
    (hk : (Cond.classLink own ik cls).before args s = true) (hini : (Cond.initialized cls).before args s = true) (hat : ∀ w ∈ vx_at0 own ic cls names, w.before args s = true)
    (hgood : ∀ w ∈ Cond.classLink own ik cls :: Cond.initialized cls :: vx_at0 own ic cls names, vx_ot w = true)
    (hU : vx_Zq Bundle.tN "UNASSIGNED_STACK" Bundle.steD A s s.heap) (hN : vx_Zq Bundle.tN "SUPPRESSED_SENTINEL" Bundle.listD A s s.heap) (hS : va_S A s.heap H locs) (hsize : ls.size = c.maxLocals)
    (d0 : decode cc pc = .ok (.new ik, 3)) (d3 : decode cc (pc + 3) = .ok (.dup, 1)) (d4 : decode cc (pc + 4) = .ok (.invokespecial ic, 3)) (d7 : decode cc (pc + 7) = .ok (.athrow, 1))
    (hout : ∀ x ∈ c.exceptionTable.toList, covers x (pc + 7) = false)
    (hRframes : names.length + 3 < R.frames) (hRlocals : (rest.map fun v => v.category).sum + (13 * (names.length + 1) + 42) ≤ R.locals) (hRcells : cells + 1 ≤ R.cells) (hRslots : slots + 6 ≤ R.slots) (hlocks : meth.locks = false)
    (hx : ∀ t : State, s.vm.Alike t.vm → H.size ≤ t.heap.size → (∀ q : Nat, q < H.size → t.heap[q]? = H[q]?) → XC cls s t)
    (hf : ∀ z ∈ locs, free z.base) (hc : cells + 1 ≤ mc) (hs : slots + 6 ≤ ms) :
    W p l e R s m args below meth c H locs cells slots (vx_MQ below Qc XC args s mc ms free) (F0 m pc ls rest) := by
  intro T hT X
  have htr : e.platform.stackTraces = false := (show e.platform.stackTraces = l.stackTraces by rw [X.admits.platform]).trans hl
  have Y := vx_rebase X (R' := { frames := R.frames, locals := R.locals, cells := 1, slots := 6 }) (Nat.le_refl _) (Nat.le_refl _) hRcells hRslots
  obtain ⟨s', hA⟩ : ∃ z, z = (T.setVm s.vm).setFrames (.invoking m args :: below) := ⟨_, rfl⟩
  rw [← hA] at Y
  have hvm : s'.vm = s.vm := by rw [hA]; rfl
  have hhp : s'.heap = H := by rw [hA]; exact hT
  have hW0 : s.WarmedH s'.vm := by rw [hvm]; exact State.WarmedH.refl s
  have hat' : ∀ w ∈ vx_at0 own ic cls names, w.before args s' = true := fun w hw => vx_ot_at hW0 hvm.symm (hgood w (List.mem_cons_of_mem _ (List.mem_cons_of_mem _ hw))) (hat w hw)
  have hk' : (Cond.classLink own ik cls).before args s' = true := vx_ot_at hW0 hvm.symm (hgood _ List.mem_cons_self) hk
  have hini' : (Cond.initialized cls).before args s' = true := vx_ot_at hW0 hvm.symm (hgood _ (List.mem_cons_of_mem _ List.mem_cons_self)) hini
  have hU' : vx_Zq Bundle.tN "UNASSIGNED_STACK" Bundle.steD A s' s'.heap := by rw [hhp]; exact vx_Zq.moved hW0.alike (hU.kept hS.2.1)
  have hN' : vx_Zq Bundle.tN "SUPPRESSED_SENTINEL" Bundle.listD A s' s'.heap := by rw [hhp]; exact vx_Zq.moved hW0.alike (hN.kept hS.2.1)
  have h : ∀ w ∈ Bundle.ownAtoms0 own ic cls names, w.before args s' = true := vx_own hat' (vx_isRefq hU'.1) (vx_isRefq hN'.1) hU'.2.word hN'.2.word
  have hown' : s'.vm.findClass own = some m.cls := by rw [hvm]; exact hown
  have hins : (Cond.instantiable cls 6).before args s' = true := h _ (by simp [Bundle.ownAtoms0])
  obtain ⟨vm₁, cX, kX, hfX, hkX, -, -, X₁, st1⟩ := Y.newCold hexec (own := own) (C := cls) (index := ik) (n := 6) hown' hk' hins hini'
    (g := F0 m pc ls rest) rfl (by rw [hb]; exact d0) (Nat.le_refl _) (Nat.le_refl _)
  generalize hT1 : (T.setVm vm₁).pushCell { cls := cX, slots := kX.instanceTypes.map defaultValue, vm := .none } = T1 at X₁ st1
  have hcat : (Value.ref T.heap.size).category = 1 := rfl
  have hcellA : T1.heap[T.heap.size]? = some (freshCell cX kX) := by rw [← hT1]; exact State.heap_pushCell_size _ _
  have d3' : decode c.code (pc + 3) = .ok (.dup, 1) := by rw [hb]; exact d3
  obtain ⟨U, hsteps, hrun, hend, hW, hsame, ce, hce, hO⟩ := X₁.ctorThrow0 hexec htr (own := own) (cls := cls) (names := names) (ic := ic) hown' hcls hnames h (fun x hx => nomatch hx) hfX hkX hcellA (by rw [hhp, hT]; exact Nat.le_refl _)
    (g := { method := m, pc := pc + 4, locals := ls, stack := .ref T.heap.size :: .ref T.heap.size :: rest, locked := none }) rfl hsize rfl rfl (rest := rest) rfl
    (by rw [hb]; exact d4) (by rw [hb]; exact d7) hout hRframes (by simp only [List.map_cons, List.sum_cons, hcat]; omega) hlocks
  obtain ⟨f1, f2⟩ := vx_frame hsame
  rw [hhp] at f1 f2
  have hWs : s.WarmedH U.vm := State.WarmedH.trans hW0 hW
  have hcl : s.vm.findClass cls = some ce.cls := by
    have h9 := hO.cls
    rw [hvm] at h9
    exact h9
  have hall : s.sameButNew ({ U with vm := s.vm } : State) locs mc ms := by
    subst hA
    obtain ⟨e1, e2⟩ := hsame
    rw [State.setFrames_setFrames] at e1
    have h2 : (T.setVm s.vm).sameButNew ({ U with vm := s.vm } : State) [] (0 + 1) (0 + 6) := ⟨e1, e2⟩
    have h3 := X.same.trans h2
    rw [List.append_nil] at h3
    exact h3.mono hc hs
  refine ⟨U, ?_, .threw T.heap.size, hrun, hend, Or.inr ⟨T.heap.size, rfl, cls, ce, locs, hx U hWs.alike f1 (fun q hq => f2 q hq (fun z hz => nomatch hz)), hce, hO.vm, hcl, hWs, hall, hf⟩⟩
  refine st1 _ ?_
  show Steps p.tables e below (T1.setTop { method := m, pc := pc + 3, locals := ls, stack := .ref T.heap.size :: rest, locked := none }) _
  jvm_step X₁.here [X₁.here.top, hexec, d3', Value.category]
  exact hsteps
/-- 'throw new E("text")': new; dup; ldc; invokespecial; athrow -/
theorem vx_throwS {cc : ByteArray} {pc : Nat} (hexec : p.tables.exec = Jvm.exec) (hb : c.code = cc) (hl : l.stackTraces = false) {own cls text : String} {names : List String} {ik is ic mc ms sa : Nat} {A : Nat → Prop}
    (hown : s.vm.findClass own = some m.cls) (hcls : Bundle.fit cls = true) (hnames : ∀ n ∈ names, Bundle.fit n = true)
    (hk : (Cond.classLink own ik cls).before args s = true) (hini : (Cond.initialized cls).before args s = true) (hstr : vk_R own is text sa s) (hat : ∀ w ∈ vx_atS own ic cls names, w.before args s = true)
    (hgood : ∀ w ∈ Cond.classLink own ik cls :: Cond.initialized cls :: vx_atS own ic cls names, vx_ot w = true)
    (hU : vx_Zq Bundle.tN "UNASSIGNED_STACK" Bundle.steD A s s.heap) (hN : vx_Zq Bundle.tN "SUPPRESSED_SENTINEL" Bundle.listD A s s.heap) (hS : va_S A s.heap H locs) (hsize : ls.size = c.maxLocals)
    (d0 : decode cc pc = .ok (.new ik, 3)) (d3 : decode cc (pc + 3) = .ok (.dup, 1)) (d4 : decode cc (pc + 4) = .ok (.ldc is, 2)) (d6 : decode cc (pc + 6) = .ok (.invokespecial ic, 3)) (d9 : decode cc (pc + 9) = .ok (.athrow, 1))
    (hout : ∀ x ∈ c.exceptionTable.toList, covers x (pc + 9) = false)
    (hRframes : names.length + 3 < R.frames) (hRlocals : (rest.map fun v => v.category).sum + (13 * (names.length + 1) + 43) ≤ R.locals) (hRcells : cells + 1 ≤ R.cells) (hRslots : slots + 6 ≤ R.slots) (hlocks : meth.locks = false)
    (hx : ∀ t : State, s.vm.Alike t.vm → H.size ≤ t.heap.size → (∀ q : Nat, q < H.size → t.heap[q]? = H[q]?) → XC cls s t)
    (hf : ∀ z ∈ locs, free z.base) (hc : cells + 1 ≤ mc) (hs : slots + 6 ≤ ms) :
    W p l e R s m args below meth c H locs cells slots (vx_MQ below Qc XC args s mc ms free) (F0 m pc ls rest) := by
  intro T hT X
  have htr : e.platform.stackTraces = false := (show e.platform.stackTraces = l.stackTraces by rw [X.admits.platform]).trans hl
  have Y := vx_rebase X (R' := { frames := R.frames, locals := R.locals, cells := 1, slots := 6 }) (Nat.le_refl _) (Nat.le_refl _) hRcells hRslots
  obtain ⟨s', hA⟩ : ∃ z, z = (T.setVm s.vm).setFrames (.invoking m args :: below) := ⟨_, rfl⟩
  rw [← hA] at Y
  have hvm : s'.vm = s.vm := by rw [hA]; rfl
  have hhp : s'.heap = H := by rw [hA]; exact hT
  have hW0 : s.WarmedH s'.vm := by rw [hvm]; exact State.WarmedH.refl s
  have hat' : ∀ w ∈ vx_atS own ic cls names, w.before args s' = true := fun w hw => vx_ot_at hW0 hvm.symm (hgood w (List.mem_cons_of_mem _ (List.mem_cons_of_mem _ hw))) (hat w hw)
  have hk' : (Cond.classLink own ik cls).before args s' = true := vx_ot_at hW0 hvm.symm (hgood _ List.mem_cons_self) hk
  have hini' : (Cond.initialized cls).before args s' = true := vx_ot_at hW0 hvm.symm (hgood _ (List.mem_cons_of_mem _ List.mem_cons_self)) hini
  have hU' : vx_Zq Bundle.tN "UNASSIGNED_STACK" Bundle.steD A s' s'.heap := by rw [hhp]; exact vx_Zq.moved hW0.alike (hU.kept hS.2.1)
  have hN' : vx_Zq Bundle.tN "SUPPRESSED_SENTINEL" Bundle.listD A s' s'.heap := by rw [hhp]; exact vx_Zq.moved hW0.alike (hN.kept hS.2.1)
  have h : ∀ w ∈ Bundle.ownAtoms own ic cls names, w.before args s' = true := vx_own hat' (vx_isRefq hU'.1) (vx_isRefq hN'.1) hU'.2.word hN'.2.word
  have hown' : s'.vm.findClass own = some m.cls := by rw [hvm]; exact hown
  have hins : (Cond.instantiable cls 6).before args s' = true := h _ (by simp [Bundle.ownAtoms])
  obtain ⟨vm₁, cX, kX, hfX, hkX, -, -, X₁, st1⟩ := Y.newCold hexec (own := own) (C := cls) (index := ik) (n := 6) hown' hk' hins hini'
    (g := F0 m pc ls rest) rfl (by rw [hb]; exact d0) (Nat.le_refl _) (Nat.le_refl _)
  generalize hT1 : (T.setVm vm₁).pushCell { cls := cX, slots := kX.instanceTypes.map defaultValue, vm := .none } = T1 at X₁ st1
  have hcat : (Value.ref T.heap.size).category = 1 := rfl
  have hcellA : T1.heap[T.heap.size]? = some (freshCell cX kX) := by rw [← hT1]; exact State.heap_pushCell_size _ _
  have d3' : decode c.code (pc + 3) = .ok (.dup, 1) := by rw [hb]; exact d3
  have d4' : decode c.code (pc + 4) = .ok (.ldc is, 2) := by rw [hb]; exact d4
  have hstr' : vk_R own is text sa s' := vk_R.warm hW0 hstr
  obtain ⟨U, hsteps, hrun, hend, hW, hsame, ce, hce, hO⟩ := X₁.ctorThrowS hexec htr (own := own) (cls := cls) (names := names) (ic := ic) hown' hcls hnames h (fun x hx => nomatch hx) hfX hkX hcellA (by rw [hhp, hT]; exact Nat.le_refl _) (msg := .ref sa) rfl
    (g := { method := m, pc := pc + 6, locals := ls, stack := .ref sa :: .ref T.heap.size :: .ref T.heap.size :: rest, locked := none }) rfl hsize rfl rfl (rest := rest) rfl
    (by rw [hb]; exact d6) (by rw [hb]; exact d9) hout hRframes (by simp only [List.map_cons, List.sum_cons, hcat]; omega) hlocks
  obtain ⟨f1, f2⟩ := vx_frame hsame
  rw [hhp] at f1 f2
  have hWs : s.WarmedH U.vm := State.WarmedH.trans hW0 hW
  have hcl : s.vm.findClass cls = some ce.cls := by
    have h9 := hO.cls
    rw [hvm] at h9
    exact h9
  have hall : s.sameButNew ({ U with vm := s.vm } : State) locs mc ms := by
    subst hA
    obtain ⟨e1, e2⟩ := hsame
    rw [State.setFrames_setFrames] at e1
    have h2 : (T.setVm s.vm).sameButNew ({ U with vm := s.vm } : State) [] (0 + 1) (0 + 6) := ⟨e1, e2⟩
    have h3 := X.same.trans h2
    rw [List.append_nil] at h3
    exact h3.mono hc hs
  refine ⟨U, ?_, .threw T.heap.size, hrun, hend, Or.inr ⟨T.heap.size, rfl, cls, ce, locs, hx U hWs.alike f1 (fun q hq => f2 q hq (fun z hz => nomatch hz)), hce, hO.vm, hcl, hWs, hall, hf⟩⟩
  refine st1 _ ?_
  show Steps p.tables e below (T1.setTop { method := m, pc := pc + 3, locals := ls, stack := .ref T.heap.size :: rest, locked := none }) _
  jvm_step X₁.here [X₁.here.top, hexec, d3', Value.category]
  exact X₁.ldcString hexec (own := own) (text := text) (index := is) (a := sa) hown' hstr'.1 hstr'.2
    (g := { method := m, pc := pc + 4, locals := ls, stack := .ref T.heap.size :: .ref T.heap.size :: rest, locked := none }) rfl d4' _ hsteps
/-- 'throw new E("text")', the text by a wide index -/
theorem vx_throwSW {cc : ByteArray} {pc : Nat} (hexec : p.tables.exec = Jvm.exec) (hb : c.code = cc) (hl : l.stackTraces = false) {own cls text : String} {names : List String} {ik is ic mc ms sa : Nat} {A : Nat → Prop}
    (hown : s.vm.findClass own = some m.cls) (hcls : Bundle.fit cls = true) (hnames : ∀ n ∈ names, Bundle.fit n = true)
    (hk : (Cond.classLink own ik cls).before args s = true) (hini : (Cond.initialized cls).before args s = true) (hstr : vk_R own is text sa s) (hat : ∀ w ∈ vx_atS own ic cls names, w.before args s = true)
    (hgood : ∀ w ∈ Cond.classLink own ik cls :: Cond.initialized cls :: vx_atS own ic cls names, vx_ot w = true)
    (hU : vx_Zq Bundle.tN "UNASSIGNED_STACK" Bundle.steD A s s.heap) (hN : vx_Zq Bundle.tN "SUPPRESSED_SENTINEL" Bundle.listD A s s.heap) (hS : va_S A s.heap H locs) (hsize : ls.size = c.maxLocals)
    (d0 : decode cc pc = .ok (.new ik, 3)) (d3 : decode cc (pc + 3) = .ok (.dup, 1)) (d4 : decode cc (pc + 4) = .ok (.ldc_w is, 3)) (d7 : decode cc (pc + 7) = .ok (.invokespecial ic, 3)) (d10 : decode cc (pc + 10) = .ok (.athrow, 1))
    (hout : ∀ x ∈ c.exceptionTable.toList, covers x (pc + 10) = false)
    (hRframes : names.length + 3 < R.frames) (hRlocals : (rest.map fun v => v.category).sum + (13 * (names.length + 1) + 43) ≤ R.locals) (hRcells : cells + 1 ≤ R.cells) (hRslots : slots + 6 ≤ R.slots) (hlocks : meth.locks = false)
    (hx : ∀ t : State, s.vm.Alike t.vm → H.size ≤ t.heap.size → (∀ q : Nat, q < H.size → t.heap[q]? = H[q]?) → XC cls s t)
    (hf : ∀ z ∈ locs, free z.base) (hc : cells + 1 ≤ mc) (hs : slots + 6 ≤ ms) :
    W p l e R s m args below meth c H locs cells slots (vx_MQ below Qc XC args s mc ms free) (F0 m pc ls rest) := by
  intro T hT X
  have htr : e.platform.stackTraces = false := (show e.platform.stackTraces = l.stackTraces by rw [X.admits.platform]).trans hl
  have Y := vx_rebase X (R' := { frames := R.frames, locals := R.locals, cells := 1, slots := 6 }) (Nat.le_refl _) (Nat.le_refl _) hRcells hRslots
  obtain ⟨s', hA⟩ : ∃ z, z = (T.setVm s.vm).setFrames (.invoking m args :: below) := ⟨_, rfl⟩
  rw [← hA] at Y
  have hvm : s'.vm = s.vm := by rw [hA]; rfl
  have hhp : s'.heap = H := by rw [hA]; exact hT
  have hW0 : s.WarmedH s'.vm := by rw [hvm]; exact State.WarmedH.refl s
  have hat' : ∀ w ∈ vx_atS own ic cls names, w.before args s' = true := fun w hw => vx_ot_at hW0 hvm.symm (hgood w (List.mem_cons_of_mem _ (List.mem_cons_of_mem _ hw))) (hat w hw)
  have hk' : (Cond.classLink own ik cls).before args s' = true := vx_ot_at hW0 hvm.symm (hgood _ List.mem_cons_self) hk
  have hini' : (Cond.initialized cls).before args s' = true := vx_ot_at hW0 hvm.symm (hgood _ (List.mem_cons_of_mem _ List.mem_cons_self)) hini
  have hU' : vx_Zq Bundle.tN "UNASSIGNED_STACK" Bundle.steD A s' s'.heap := by rw [hhp]; exact vx_Zq.moved hW0.alike (hU.kept hS.2.1)
  have hN' : vx_Zq Bundle.tN "SUPPRESSED_SENTINEL" Bundle.listD A s' s'.heap := by rw [hhp]; exact vx_Zq.moved hW0.alike (hN.kept hS.2.1)
  have h : ∀ w ∈ Bundle.ownAtoms own ic cls names, w.before args s' = true := vx_own hat' (vx_isRefq hU'.1) (vx_isRefq hN'.1) hU'.2.word hN'.2.word
  have hown' : s'.vm.findClass own = some m.cls := by rw [hvm]; exact hown
  have hins : (Cond.instantiable cls 6).before args s' = true := h _ (by simp [Bundle.ownAtoms])
  obtain ⟨vm₁, cX, kX, hfX, hkX, -, -, X₁, st1⟩ := Y.newCold hexec (own := own) (C := cls) (index := ik) (n := 6) hown' hk' hins hini'
    (g := F0 m pc ls rest) rfl (by rw [hb]; exact d0) (Nat.le_refl _) (Nat.le_refl _)
  generalize hT1 : (T.setVm vm₁).pushCell { cls := cX, slots := kX.instanceTypes.map defaultValue, vm := .none } = T1 at X₁ st1
  have hcat : (Value.ref T.heap.size).category = 1 := rfl
  have hcellA : T1.heap[T.heap.size]? = some (freshCell cX kX) := by rw [← hT1]; exact State.heap_pushCell_size _ _
  have d3' : decode c.code (pc + 3) = .ok (.dup, 1) := by rw [hb]; exact d3
  have d4' : decode c.code (pc + 4) = .ok (.ldc_w is, 3) := by rw [hb]; exact d4
  have hstr' : vk_R own is text sa s' := vk_R.warm hW0 hstr
  obtain ⟨U, hsteps, hrun, hend, hW, hsame, ce, hce, hO⟩ := X₁.ctorThrowS hexec htr (own := own) (cls := cls) (names := names) (ic := ic) hown' hcls hnames h (fun x hx => nomatch hx) hfX hkX hcellA (by rw [hhp, hT]; exact Nat.le_refl _) (msg := .ref sa) rfl
    (g := { method := m, pc := pc + 7, locals := ls, stack := .ref sa :: .ref T.heap.size :: .ref T.heap.size :: rest, locked := none }) rfl hsize rfl rfl (rest := rest) rfl
    (by rw [hb]; exact d7) (by rw [hb]; exact d10) hout hRframes (by simp only [List.map_cons, List.sum_cons, hcat]; omega) hlocks
  obtain ⟨f1, f2⟩ := vx_frame hsame
  rw [hhp] at f1 f2
  have hWs : s.WarmedH U.vm := State.WarmedH.trans hW0 hW
  have hcl : s.vm.findClass cls = some ce.cls := by
    have h9 := hO.cls
    rw [hvm] at h9
    exact h9
  have hall : s.sameButNew ({ U with vm := s.vm } : State) locs mc ms := by
    subst hA
    obtain ⟨e1, e2⟩ := hsame
    rw [State.setFrames_setFrames] at e1
    have h2 : (T.setVm s.vm).sameButNew ({ U with vm := s.vm } : State) [] (0 + 1) (0 + 6) := ⟨e1, e2⟩
    have h3 := X.same.trans h2
    rw [List.append_nil] at h3
    exact h3.mono hc hs
  refine ⟨U, ?_, .threw T.heap.size, hrun, hend, Or.inr ⟨T.heap.size, rfl, cls, ce, locs, hx U hWs.alike f1 (fun q hq => f2 q hq (fun z hz => nomatch hz)), hce, hO.vm, hcl, hWs, hall, hf⟩⟩
  refine st1 _ ?_
  show Steps p.tables e below (T1.setTop { method := m, pc := pc + 3, locals := ls, stack := .ref T.heap.size :: rest, locked := none }) _
  jvm_step X₁.here [X₁.here.top, hexec, d3', Value.category]
  exact X₁.ldcStringW hexec (own := own) (text := text) (index := is) (a := sa) hown' hstr'.1 hstr'.2
    (g := { method := m, pc := pc + 4, locals := ls, stack := .ref T.heap.size :: .ref T.heap.size :: rest, locked := none }) rfl d4' _ hsteps
end Ends
section Bodies
variable {l : Launch}
theorem vx_ofW {y : MethodName} {ws ws' : List Cond} {rm : Room} {Pc : Array Value → State → Prop} {Qc : Array Value → State → Outcome → State → Prop} {XC : String → State → State → Prop} {mc ms : Nat} {free : Addr → Prop} {cc : ByteArray} {maxL : Nat} {ret : Option FieldType}
    (hy : plainName y.cls = true) (hw : ws = Cond.code y cc maxL ret :: ws')
    (body : ∀ p e s m args below meth c s₁, BodyLoose p l y (headSpec ws rm) cc maxL ret e s m args below meth c s₁ → c.maxLocals = maxL → (∀ x ∈ c.exceptionTable.toList, False) → Pc args s →
      W p l e (headSpec ws rm).room s m args below meth c s.heap [] 0 0 (vx_MQ below Qc XC args s mc ms free) (entryFrame m args maxL)) : vx_Met l y ws rm Pc Qc XC mc ms free := by
  refine MetFree.of_bodyS (code := cc) (maxLocals := maxL) (ret := ret) hy ?_ ?_
  · intro args s m h hn
    obtain ⟨meth, c, h1, h2, h3, h4, h5, h6, -, -⟩ := Cond.code_spec hn (atoms_spec (ws := ws) h _ (by rw [hw]; exact List.mem_cons_self))
    exact ⟨meth, c, h1, h2, h3, h4, h5, h6⟩
  · intro p e s m args below meth c s₁ B hml hP _
    have hh0 : s₁.heap = s.heap := by rw [B.state]; rfl
    have ht : ∀ x ∈ c.exceptionTable.toList, False := by
      obtain ⟨meth9, c9, h1, h2, -, -, -, -, h7, -⟩ := Cond.code_spec B.named (atoms_spec (ws := ws) B.pre _ (by rw [hw]; exact List.mem_cons_self))
      cases Option.some.inj (h1.symm.trans B.method)
      cases Option.some.inj (h2.symm.trans (Stand.of_body B).code)
      intro x hx
      rw [Array.isEmpty_iff.mp h7] at hx
      cases hx
    obtain ⟨t, a1, o, b1, b2, b3⟩ := body p e s m args below meth c s₁ B hml ht hP s₁ hh0 (Stand.of_body B)
    exact ⟨t, o, a1, b1, b2, b3⟩
/-- the table of a body with handlers -/
theorem vx_table {p : Program} {x y : MethodName} {S : Spec} {cc bytes : ByteArray} {maxL maxL' : Nat} {ret ret' : Option FieldType} {e : Env} {s s₁ : State} {m : MethodId} {args : Array Value} {below : List Frame} {meth : Method} {c : Code} {hh : List (Nat × Nat × Nat × Nat)}
    (B : BodyLoose p l y S cc maxL ret e s m args below meth c s₁) (h : (Cond.codeWith y bytes maxL' ret' hh).before args s = true) : c.exceptionTable.toList = tableOf hh := by
  obtain ⟨m9, meth9, c9, hn9, h1, h2, -, -, h6, -⟩ := Cond.codeWith_spec h
  cases Option.some.inj (hn9.symm.trans B.named)
  cases Option.some.inj (h1.symm.trans B.method)
  cases Option.some.inj (h2.symm.trans (Stand.of_body B).code)
  rw [← h6, table_eq]
end Bodies
end VXA
/-! ===== END ===== -/
/-! ===== BEGIN a static call of a method with an exception table ===== -/
section VXS
variable {p : Program} {l : Launch} {e : Env} {R : Room} {s : State} {m : MethodId} {args : Array Value} {below : List Frame} {meth : Method} {c : Code} {T : State} {H : Heap} {locs : List Loc} {cells slots : Nat}
abbrev vx_CSW (R : Room) (s : State) (args : Array Value) (own : String) (index : Nat) (y : MethodName) (bytes : ByteArray) (maxL : Nat) (ret : Option FieldType) (hh : List (Nat × Nat × Nat × Nat)) (ws : List Cond) (rm : Room) (mc ms n : Nat) : Prop :=
  (rm.cells = mc ∧ rm.slots = ms ∧ rm.frames + 1 ≤ R.frames ∧ 8 + (maxL + 11) + rm.locals ≤ R.locals ∧ (∀ w ∈ ws, ∀ (a' : Array Value) (U : State), s.WarmedH U.vm → w.before a' U = true) ∧ Cond.codeWith y bytes maxL ret hh ∈ ws) ∧
  (Cond.codeWith y bytes maxL ret hh).before args s = true ∧ (Cond.initialized y.cls).before args s = true ∧ (y.cls ≠ "java/lang/invoke/MethodHandle" ∧ y.cls ≠ "java/lang/invoke/VarHandle") ∧
  (∀ sig, parseMethodDescriptor y.desc = some sig → n = sig.parameters.length) ∧ (Cond.methodLink own index y).before args s = true ∧ (Cond.static y).before args s = true
theorem vx_cwSW {own : String} {index maxL mc ms : Nat} {y : MethodName} {bytes : ByteArray} {ret : Option FieldType} {hh : List (Nat × Nat × Nat × Nat)} {Ts ws ws' : List Cond} {rm : Room} (n : Nat) (ht : ∀ w ∈ Ts, w.before args s = true) (hT : GoodIn Ts (va_wsS own index y ws)) (hw : ws = Cond.codeWith y bytes maxL ret hh :: ws') (hrc : rm.cells = mc) (hrs : rm.slots = ms)
    (hd : y.cls ≠ "java/lang/invoke/MethodHandle" ∧ y.cls ≠ "java/lang/invoke/VarHandle" ∧ (parseMethodDescriptor y.desc).map (fun d => d.parameters.length) = some n) (hR : rm.frames + 1 ≤ R.frames ∧ 8 + (maxL + 11) + rm.locals ≤ R.locals) :
    vx_CSW R s args own index y bytes maxL ret hh ws rm mc ms n := by
  have ok : ∀ w ∈ va_wsS own index y ws, w.before args s = true := fun w h => ht w (hT w h).1
  have hG : GoodIn Ts ws := fun w h => hT w (by unfold va_wsS; exact List.mem_append_right _ h)
  have hc : Cond.codeWith y bytes maxL ret hh ∈ ws := by rw [hw]; exact List.mem_cons_self
  refine ⟨⟨hrc, hrs, hR.1, hR.2, pay_in ht hG, hc⟩, ht _ (hG _ hc).1, ok _ (by simp [va_wsS]), ⟨hd.1, hd.2.1⟩, fun sig h => ?_, ok _ (by simp [va_wsS]), ok _ (by simp [va_wsS])⟩
  have h2 := hd.2.2
  rw [h] at h2
  exact (Option.some.inj h2).symm
theorem vx_callSW (X : Stand p l e R s m args below meth c T locs cells slots) (hexec : p.tables.exec = Jvm.exec) {own : String} {index : Nat} {y : MethodName} {bytes : ByteArray} {maxL : Nat} {ret : Option FieldType} {hh : List (Nat × Nat × Nat × Nat)}
    (hown : s.vm.findClass own = some m.cls) (hlink : (Cond.methodLink own index y).before args s = true) (hstat : (Cond.static y).before args s = true) (hinit : (Cond.initialized y.cls).before args s = true)
    (hcode : (Cond.codeWith y bytes maxL ret hh).before args s = true) (hy : y.cls ≠ "java/lang/invoke/MethodHandle" ∧ y.cls ≠ "java/lang/invoke/VarHandle")
    {W9 : Nat} {Pre : Pt → Array Value → Prop} {Post : Pt → Array Value → Option Value → Pt → Prop} (hK : Back l R p e below s args y 3 W9 Pre Post)
    {g : JFrame} (hg : g.method = m) (hsize : g.locals.size = c.maxLocals) {argsL rest : List Value} (hlen : ∀ sig, parseMethodDescriptor y.desc = some sig → argsL.length = sig.parameters.length)
    (hstack : g.stack = argsL.reverse ++ rest) (hW : 2 * g.monitorRoom + (rest.map fun v => v.category).sum ≤ W9) (hdg : decode c.code g.pc = .ok (.invokestatic index, 3))
    (hpre : ∀ vm₁, s.WarmedH vm₁ → Pre ⟨T.setVm vm₁, locs, cells, slots⟩ argsL.toArray) :
    ∃ (v : Option Value) (vm₁ : Vm) (B : Pt), s.WarmedH vm₁ ∧ Stand p l e R s m args below meth c B.U B.locs B.cells B.slots ∧ Post ⟨T.setVm vm₁, locs, cells, slots⟩ argsL.toArray v B ∧
      ∀ target, Steps p.tables e below (B.U.setTop { g with pc := g.pc + 3, stack := v.toList ++ rest }) target → Steps p.tables e below (T.setTop g) target := by
  obtain ⟨mk, methM, cM, hnamed, hmethM, -, -, -, -, -, -, hsigM⟩ := Cond.codeWith_spec hcode
  have hstatic : methM.isStatic = true := Cond.static_spec hnamed hmethM hstat
  obtain ⟨kP, hkP, -⟩ := className_of_methodNamed hnamed
  have hinitP : kP.init = .initialized := Cond.initialized_spec (findClass_of_methodNamed hnamed) hkP hinit
  obtain ⟨vm₁, X₁, hstep₁⟩ := X.invokestatic hexec hown hlink hnamed hmethM hstatic hkP hinitP hy (g := g) hg (argsL := argsL) (rest := rest) (hlen _ hsigM) hstack hdg
  obtain ⟨v, B, X', hpost, hsteps⟩ := hK m meth c ⟨T.setVm vm₁, locs, cells, slots⟩ { g with stack := rest } (.invokestatic index) mk argsL.toArray X₁ hg hsize hdg hW (X₁.named hnamed) (hpre vm₁ X₁.warmed)
  exact ⟨v, vm₁, B, X₁.warmed, X', hpost, fun target h => hstep₁ _ fun acts => by rw [doInvoke_state]; exact hsteps.trans h⟩
theorem vx_runSW {y : MethodName} {bytes cc : ByteArray} {maxL nL mc ms n index : Nat} {ret : Option FieldType} {hh : List (Nat × Nat × Nat × Nat)} {ws : List Cond} {rm : Room} {Pc : Array Value → State → Prop} {Qc : Array Value → State → Outcome → State → Prop} {free : Addr → Prop} {Ts : List Cond} {own : String} {As rest : List Value} {g : JFrame}
    (S : CallFix p m c cc nL s args Ts own) (hM : Met l y ws rm Pc Qc mc ms free) (cw : vx_CSW R s args own index y bytes maxL ret hh ws rm mc ms n) (hp : PreS s H Pc As)
    (hg : g.method = m) (hn : As.length = n) (hsize : g.locals.size = nL) (hstack : g.stack = As.reverse ++ rest) (hW : 2 * g.monitorRoom + (rest.map fun v => v.category).sum ≤ 8) (hdg : decode cc g.pc = .ok (.invokestatic index, 3)) (hf : cells + mc ≤ R.cells ∧ slots + ms ≤ R.slots) :
    va_Run p l e R s m args below meth c H locs cells slots mc ms g rest (Qc As.toArray) (free) := by
  obtain ⟨⟨hrc, hrs, hfr, hlo, hws, hcw⟩, hcode, hini, hy, hlen, hl, hstt⟩ := cw
  have hK : Back l R p e below s args y 3 8 (PreOf R mc ms Pc) (PostOf Qc mc ms free) := va_backW (hh := hh) (bytes := bytes) (maxL := maxL) (ret := ret) hM hp.1 hrc hrs hfr hlo hws hcw (fun a' U hW => word_at hW (Or.inl (by first | rfl | simp [Cond.onTables, Cond.keeps, Cond.steady])) hini)
  obtain ⟨hx, hb, hml, ho, -⟩ := S
  intro T hT X
  obtain ⟨v, vm₁, ⟨U', l2, c2, s2⟩, hW₁, X', ⟨g', mk, t, L, e1, e2, hq, h1, hL, h2, h3⟩, st⟩ := vx_callSW X hx (hh := hh) (bytes := bytes) (maxL := maxL) (ret := ret) ho hl hstt hini hcode hy hK hg (hsize.trans hml.symm) (argsL := As) (rest := rest) (fun sig h => hn.trans (hlen sig h)) hstack hW (by rw [hb]; exact hdg)
    (fun vm₁ hW₁ => ⟨hf.1, hf.2, hp.2 (T.setVm vm₁) hT hW₁⟩)
  dsimp only [Pt.U, Pt.locs, Pt.cells, Pt.slots] at X' e1 e2 h1 h2 h3 st
  subst h1; subst h2; subst h3
  exact ⟨v, (T.setVm vm₁).calling g' mk As.toArray, t, U', L, hT, X', hL, e1, e2, hq, st⟩
/-- not caught here, past rows that name other classes: it goes on to the caller -/
theorem vx_outP {p : Program} {l : Launch} {e : Env} {R : Room} {s : State} {m : MethodId} {args : Array Value} {below : List Frame} {meth : Method} {c : Code} {H : Heap} {locs : List Loc} {cells slots : Nat} {free : Addr → Prop} {ls : Array Slot} {rest : List Value} {Qc : Array Value → State → Outcome → State → Prop} {XC : String → State → State → Prop}
    {pc : Nat} {own E : String} {ce : Cell} {q : Addr} {mc ms : Nat} (hown : s.vm.findClass own = some m.cls) (hlocks : meth.locks = false)
    (hpass : ∀ z ∈ c.exceptionTable.toList, covers z pc = false ∨ (z.catchType ≠ 0 ∧ ∃ nm : String, (Cond.classLink own z.catchType nm).before args s = true ∧ va_Nc E nm s)) (hcell : H[q]? = some ce) (hv : ce.vm = .none) (hcl : s.vm.findClass E = some ce.cls)
    (hx : ∀ t : State, t.heap = H → s.vm.Alike t.vm → XC E s t) (hf : ∀ z ∈ locs, free z.base) (hc : cells ≤ mc) (hs : slots ≤ ms) :
    vx_W p l e R s m args below meth c H locs cells slots (vx_MQ below Qc XC args s mc ms free) (F0 m pc ls rest) q := by
  intro T hT X
  have hpl : e.platform.magicAccessors = ({} : Platform).magicAccessors := by rw [X.admits.platform]
  obtain ⟨vm', hW', X', st⟩ := X.outThrough hlocks q (g := F0 m pc ls rest) rfl rfl rfl (cell := ce) (by rw [hT]; exact hcell) (by rw [hv]; rfl)
    (by obtain ⟨k9, h9, -⟩ := Vm.findClass_spec hcl; exact ⟨k9, h9⟩) (fun z hz => by
      rcases hpass z hz with h | ⟨hz0, nm, hl1, hn1⟩
      · exact Or.inl h
      · obtain ⟨c6, hc6, hcl6⟩ := Cond.classLink_spec hown hl1 e.platform hpl
        obtain ⟨a8, b8, h1, h2, h3⟩ := hn1
        cases Option.some.inj (h1.symm.trans hcl)
        cases Option.some.inj (h2.symm.trans hc6)
        exact Or.inr ⟨hz0, _, hcl6, h3⟩)
  obtain ⟨g₀, hfr⟩ := X'.frames_eq
  have hcell9 : ((T.setVm vm').setFrames (.throwing q :: below)).heap[q]? = some ce := by
    show T.heap[q]? = some ce
    rw [hT]; exact hcell
  have hend : Ended ((T.setVm vm').setFrames (.throwing q :: below)) below (.threw q) := State.frames_setFrames _ (State.cur_lt_of_frames hfr)
  refine ⟨(T.setVm vm').setFrames (.throwing q :: below), ?_, .threw q, X'.here.running, hend, Or.inr ⟨q, rfl, E, ce, locs, hx _ hT (X'.ends _).1.alike, hcell9, hv, hcl, (X'.ends _).1, (X'.ends _).2.mono hc hs, hf⟩⟩
  rw [X.pushThrowing_eq]
  exact st
/-- a thing of a world lies in the heap -/
theorem vx_lt {D : va_G} {cl : List vw_C} {ws : va_W} {H1 : Heap} (h : va_P D cl ws H1) {k : Nat} {q : Nat × va_E} (hk : ws[k]? = some q) : q.1 < H1.size := (h k q hk).lt
end VXS
/-! ===== END ===== -/
/-! ===== BEGIN methods with a table of their own: called by a name, returning or throwing ===== -/
section VXH
/-! vx_backW, vx_callVX, vx_callSX, vx_callVW, vx_runVW, vx_runVX, vx_runSX, vx_ofWH follow the same proofs as their sisters above (Free/Laws.lean, Shelf42/LK1.lean); vx_outP calls Shelf42/NT130.lean (outThrough). -/
section
variable {l : Launch} {R : Room} {p : Program} {e : Env} {below : List Frame} {s : State} {sargs : Array Value} {y : MethodName} {len W9 : Nat}
theorem vx_backW {ws : List Cond} {rm : Room} {Pc : Array Value → State → Prop} {Qc : Array Value → State → Outcome → State → Prop} {XC : String → State → State → Prop} {mc ms : Nat} {free : Addr → Prop} {bytes : ByteArray} {maxL : Nat} {ret : Option FieldType} {hh : List (Nat × Nat × Nat × Nat)}
    (hM : vx_Met l y ws rm Pc Qc XC mc ms free) (hblind : FrameBlind Pc) (hrc : rm.cells = mc) (hrs : rm.slots = ms)
    (hframes : rm.frames + 1 ≤ R.frames) (hlocals : W9 + (maxL + 11) + rm.locals ≤ R.locals)
    (hws : ∀ w ∈ ws, ∀ a' U, s.WarmedH U.vm → w.before a' U = true) (hcode : Cond.codeWith y bytes maxL ret hh ∈ ws) (hinit : ∀ a' U, s.WarmedH U.vm → (Cond.initialized y.cls).before a' U = true) :
    vx_Back l R p e below s sargs y len W9 (PreOf R mc ms Pc) (PostOf Qc mc ms free) (vx_Post XC mc ms free) := by
  intro m meth c A g ig mk a X hg hsize hdg hW hn hp
  have h1 : (headSpec ws rm).pre.before a A.U = true := atoms_intro fun w hw => hws w hw _ _ X.warmed
  have h2 : (Cond.codeWith y bytes maxL ret hh).before a A.U = true := hws _ hcode _ _ X.warmed
  have h3 : (Cond.initialized y.cls).before a A.U = true := hinit _ _ X.warmed
  have h4 : A.cells + (headSpec ws rm).room.cells ≤ R.cells := by rw [show (headSpec ws rm).room.cells = mc from hrc]; exact hp.1
  have h5 : A.slots + (headSpec ws rm).room.slots ≤ R.slots := by rw [show (headSpec ws rm).room.slots = ms from hrs]; exact hp.2.1
  have hPc : Pc a (A.U.calling g mk a) := hblind _ _ _ _ hp.2.2
  obtain ⟨U, Ls, c0, s0⟩ := A
  dsimp only [Pt.U, Pt.locs, Pt.cells, Pt.slots] at h1 h2 h3 h4 h5 X hn hPc ⊢
  obtain ⟨m9, methY, cY, hn9, hmY, hcY, -, hlY, -⟩ := Cond.codeWith_spec h2
  cases Option.some.inj (hn9.symm.trans hn)
  obtain ⟨kY, hkY, -⟩ := className_of_methodNamed hn
  have hinitY : kY.init = .initialized := Cond.initialized_spec (findClass_of_methodNamed hn) hkY h3
  have h : At U g.method c below := by rw [hg]; exact X.here
  have hlocals9 : W9 + (maxL + 11) + (headSpec ws rm).room.locals ≤ R.locals := hlocals
  have happ : (headSpec ws rm).appliesLoose y e.platform (U.calling g mk a) = true :=
    Spec.appliesLoose_calling (g := g) h hdg hn hkY hinitY
      (X.room_calling (g := g) (R' := (headSpec ws rm).room) hsize hmY hcY hframes (by rw [hlY]; omega) h4 h5) h1
  obtain ⟨mid, hmid⟩ := h.above
  have hfr : (U.setTop g).frames = (.java g :: mid) ++ below := by rw [State.frames_setTop' g h.top, hmid]; rfl
  obtain ⟨o, s₂, hsteps, -, hend, hq⟩ := Steps.callFree hM p X.admits X.cas X.clock (acts := []) hfr happ hPc trivial
  have hq' : vx_Q Qc XC mc ms free a (U.calling g mk a) o s₂ := hq
  rw [State.frames_setTop' g h.top] at hend
  obtain ⟨g₀, hg0⟩ := Option.isSome_iff_exists.mp h.top
  obtain ⟨r, hr⟩ := State.topJava?_eq_some.mp hg0
  have hr' : (({ U with heap := s₂.heap, slotsUsed := s₂.slotsUsed } : State).setVm s₂.vm).frames = .java g₀ :: r := hr
  rcases hq' with ⟨hqc, L, hfe, hL⟩ | ⟨q, rfl, E, ce, L, hx, hce, hcv, hcl, hW₂, hsm, hL⟩
  · obtain ⟨⟨v, rfl⟩, hW₂, e2, q2, q3, q4, q5, q6⟩ := id hfe
    have e3 : s₂ = ({ (U.calling g mk a).setFrames s₂.frames with heap := s₂.heap, slotsUsed := s₂.slotsUsed } : State).setVm s₂.vm := by
      have : s₂ = ({ s₂ with vm := (U.calling g mk a).vm } : State).setVm s₂.vm := rfl
      rw [e2] at this
      exact this
    obtain ⟨c₂, i₂, len₂, hc₂, hd₂, hf₂⟩ := hend
    have hW' : U.WarmedH s₂.vm := hW₂
    have hcc : c₂ = c := by
      have h1 : s₂.code? g.method = U.code? g.method := by
        rw [State.code?_eq, State.code?_eq, hW'.alike.method?]
      exact Option.some.inj (hc₂.symm.trans (h1.trans h.code))
    subst hcc
    have hlen : len₂ = len := by rw [hdg] at hd₂; cases hd₂; rfl
    subst hlen
    have hs₂ : s₂ = (({ U with heap := s₂.heap, slotsUsed := s₂.slotsUsed } : State).setVm s₂.vm).setTop { g with pc := g.pc + len₂, stack := v.toList ++ g.stack } := by
      refine e3.trans ?_
      rw [hf₂, State.calling_eq h.top, State.setFrames_setFrames, State.setTop_of_frames _ hr', hr]
      rfl
    have hsame : U.sameButNew ({ U with heap := s₂.heap, slotsUsed := s₂.slotsUsed } : State) L mc ms := by
      refine ⟨?_, q2, q3, q4, q5, q6⟩
      obtain ⟨t, ht, -⟩ := State.frames_cons hr
      show ({ U with heap := s₂.heap, slotsUsed := s₂.slotsUsed } : State) = { U.setFrames U.frames with heap := s₂.heap, slotsUsed := s₂.slotsUsed }
      rw [State.setFrames_self ht]
    subst hg
    refine Or.inl ⟨v, ⟨(({ U with heap := s₂.heap, slotsUsed := s₂.slotsUsed } : State).setVm s₂.vm), Ls ++ L, c0 + mc, s0 + ms⟩,
      ⟨X.admits, X.cas, X.clock, X.frames, X.room, X.hears, X.method, X.code, (X.here.setHeapUsed s₂.heap s₂.slotsUsed).setVm hW'.alike, X.tail, State.WarmedH.trans X.warmed hW', X.limits, X.bytes, X.same.trans (hsame.setVm s.vm)⟩,
      ⟨g, mk, s₂, L, rfl, rfl, hqc, rfl, hL, rfl, rfl⟩, ?_⟩
    show Steps p.tables e below _ ((({ U with heap := s₂.heap, slotsUsed := s₂.slotsUsed } : State).setVm s₂.vm).setTop { g with pc := g.pc + len₂, stack := v.toList ++ g.stack })
    rw [← hs₂]
    exact hsteps
  · obtain ⟨e2, q2, q3, q4, q5, q6⟩ := id hsm
    have e3 : s₂ = ({ (U.calling g mk a).setFrames s₂.frames with heap := s₂.heap, slotsUsed := s₂.slotsUsed } : State).setVm s₂.vm := by
      have : s₂ = ({ s₂ with vm := (U.calling g mk a).vm } : State).setVm s₂.vm := rfl
      rw [e2] at this
      exact this
    have hf₂ : s₂.frames = .throwing q :: .java g :: U.frames.tail := hend
    have hW' : U.WarmedH s₂.vm := hW₂
    have hs₂ : s₂ = ((({ U with heap := s₂.heap, slotsUsed := s₂.slotsUsed } : State).setVm s₂.vm).setTop g).pushFrame (.throwing q) := by
      refine e3.trans ?_
      rw [hf₂, State.calling_eq h.top, State.setFrames_setFrames, State.pushFrame, State.frames_setTop _ hr', State.setTop_of_frames _ hr', State.setFrames_setFrames, hr]
      rfl
    have hsame : U.sameButNew ({ U with heap := s₂.heap, slotsUsed := s₂.slotsUsed } : State) L mc ms := by
      refine ⟨?_, q2, q3, q4, q5, q6⟩
      obtain ⟨t, ht, -⟩ := State.frames_cons hr
      show ({ U with heap := s₂.heap, slotsUsed := s₂.slotsUsed } : State) = { U.setFrames U.frames with heap := s₂.heap, slotsUsed := s₂.slotsUsed }
      rw [State.setFrames_self ht]
    subst hg
    refine Or.inr ⟨q, ⟨(({ U with heap := s₂.heap, slotsUsed := s₂.slotsUsed } : State).setVm s₂.vm), Ls ++ L, c0 + mc, s0 + ms⟩,
      ⟨X.admits, X.cas, X.clock, X.frames, X.room, X.hears, X.method, X.code, (X.here.setHeapUsed s₂.heap s₂.slotsUsed).setVm hW'.alike, X.tail, State.WarmedH.trans X.warmed hW', X.limits, X.bytes, X.same.trans (hsame.setVm s.vm)⟩,
      ⟨g, mk, s₂, L, E, ce, rfl, rfl, hx, hce, hcv, hcl, rfl, hL, rfl, rfl⟩, ?_⟩
    show Steps p.tables e below _ (((({ U with heap := s₂.heap, slotsUsed := s₂.slotsUsed } : State).setVm s₂.vm).setTop g).pushFrame (.throwing q))
    rw [← hs₂]
    exact hsteps
end
variable {p : Program} {l : Launch} {e : Env} {R : Room} {s : State} {m : MethodId} {args : Array Value} {below : List Frame} {meth : Method} {c : Code} {T : State} {H : Heap} {locs : List Loc} {cells slots : Nat}
theorem vx_callVX (X : Stand p l e R s m args below meth c T locs cells slots) (hexec : p.tables.exec = Jvm.exec) {own C : String} {index : Nat} {y : MethodName} {bytes : ByteArray} {maxL : Nat} {ret : Option FieldType} {hh : List (Nat × Nat × Nat × Nat)}
    (hown : s.vm.findClass own = some m.cls) (hlink : (Cond.methodLink own index y).before args s = true) (hinst : (Cond.instanceMethod y).before args s = true) (hsel : (Cond.selects C y y).before args s = true)
    (hcode : (Cond.codeWith y bytes maxL ret hh).before args s = true) (hy : y.cls ≠ "java/lang/invoke/MethodHandle" ∧ y.cls ≠ "java/lang/invoke/VarHandle")
    {W9 : Nat} {Pre : Pt → Array Value → Prop} {Post : Pt → Array Value → Option Value → Pt → Prop} {PostX : Pt → Array Value → Addr → Pt → Prop} (hK : vx_Back l R p e below s args y 3 W9 Pre Post PostX)
    {b : Addr} {cellB : Cell} (hcell : T.heap[b]? = some cellB) (hobj : cellB.vm.isStatics = false) (hcls : s.vm.findClass C = some cellB.cls)
    {g : JFrame} (hg : g.method = m) (hsize : g.locals.size = c.maxLocals) {argsL rest : List Value} (hlen : ∀ sig, parseMethodDescriptor y.desc = some sig → argsL.length = sig.parameters.length)
    (hstack : g.stack = argsL.reverse ++ .ref b :: rest) (hW : 2 * g.monitorRoom + (rest.map fun v => v.category).sum ≤ W9) (hdg : decode c.code g.pc = .ok (.invokevirtual index, 3))
    (hpre : ∀ vm₁, s.WarmedH vm₁ → Pre ⟨T.setVm vm₁, locs, cells, slots⟩ (Value.ref b :: argsL).toArray) :
    (∃ (v : Option Value) (vm₁ : Vm) (B : Pt), s.WarmedH vm₁ ∧ Stand p l e R s m args below meth c B.U B.locs B.cells B.slots ∧ Post ⟨T.setVm vm₁, locs, cells, slots⟩ (Value.ref b :: argsL).toArray v B ∧
      ∀ target, Steps p.tables e below (B.U.setTop { g with pc := g.pc + 3, stack := v.toList ++ rest }) target → Steps p.tables e below (T.setTop g) target) ∨
    (∃ (q : Addr) (vm₁ : Vm) (B : Pt), s.WarmedH vm₁ ∧ Stand p l e R s m args below meth c B.U B.locs B.cells B.slots ∧ PostX ⟨T.setVm vm₁, locs, cells, slots⟩ (Value.ref b :: argsL).toArray q B ∧
      Steps p.tables e below (T.setTop g) ((B.U.setTop { g with stack := rest }).pushFrame (.throwing q))) := by
  obtain ⟨mk, methM, hnamed, hmethM, hstM, habM⟩ := Cond.instanceMethod_spec hinst
  obtain ⟨m8, methM', cM, hn8, hmethM', -, -, -, -, -, -, hsigM⟩ := Cond.codeWith_spec hcode
  cases Option.some.inj (hn8.symm.trans hnamed)
  cases hmethM.symm.trans hmethM'
  obtain ⟨c2, r2, m2, q1, q2, q3, q4, kP, hkP, hkPi⟩ := Cond.selects_spec hsel
  cases hcls.symm.trans q1
  cases (State.methodFound?_of_named hnamed hy).symm.trans q2
  cases hnamed.symm.trans q3
  have hselP : selectMethod e.platform s.vm cellB.cls mk = .method mk := by rw [Launch.admits_selectMethod X.admits]; exact q4
  obtain ⟨vm₁, X₁, hstep₁⟩ := X.invokevirtual hexec hown hlink hnamed hmethM hstM hkP hkPi hy (a := b) (cell := cellB) hcell
    (fun z h => by rw [h] at hobj; cases hobj) hselP hmethM habM hkP hkPi (g := g) hg (argsL := argsL) (rest := rest) (hlen _ hsigM) hstack hdg
  rcases hK m meth c ⟨T.setVm vm₁, locs, cells, slots⟩ { g with stack := rest } (.invokevirtual index) mk (Value.ref b :: argsL).toArray X₁ hg hsize hdg hW (X₁.named hnamed) (hpre vm₁ X₁.warmed) with ⟨v, B, X', hpost, hsteps⟩ | ⟨q, B, X', hpost, hsteps⟩
  · exact Or.inl ⟨v, vm₁, B, X₁.warmed, X', hpost, fun target h => hstep₁ _ fun acts => by rw [doInvoke_state]; exact hsteps.trans h⟩
  · exact Or.inr ⟨q, vm₁, B, X₁.warmed, X', hpost, hstep₁ _ fun acts => by rw [doInvoke_state]; exact hsteps⟩
theorem vx_callSX (X : Stand p l e R s m args below meth c T locs cells slots) (hexec : p.tables.exec = Jvm.exec) {own : String} {index : Nat} {y : MethodName} {bytes : ByteArray} {maxL : Nat} {ret : Option FieldType} {hh : List (Nat × Nat × Nat × Nat)}
    (hown : s.vm.findClass own = some m.cls) (hlink : (Cond.methodLink own index y).before args s = true) (hstat : (Cond.static y).before args s = true) (hinit : (Cond.initialized y.cls).before args s = true)
    (hcode : (Cond.codeWith y bytes maxL ret hh).before args s = true) (hy : y.cls ≠ "java/lang/invoke/MethodHandle" ∧ y.cls ≠ "java/lang/invoke/VarHandle")
    {W9 : Nat} {Pre : Pt → Array Value → Prop} {Post : Pt → Array Value → Option Value → Pt → Prop} {PostX : Pt → Array Value → Addr → Pt → Prop} (hK : vx_Back l R p e below s args y 3 W9 Pre Post PostX)
    {g : JFrame} (hg : g.method = m) (hsize : g.locals.size = c.maxLocals) {argsL rest : List Value} (hlen : ∀ sig, parseMethodDescriptor y.desc = some sig → argsL.length = sig.parameters.length)
    (hstack : g.stack = argsL.reverse ++ rest) (hW : 2 * g.monitorRoom + (rest.map fun v => v.category).sum ≤ W9) (hdg : decode c.code g.pc = .ok (.invokestatic index, 3))
    (hpre : ∀ vm₁, s.WarmedH vm₁ → Pre ⟨T.setVm vm₁, locs, cells, slots⟩ argsL.toArray) :
    (∃ (v : Option Value) (vm₁ : Vm) (B : Pt), s.WarmedH vm₁ ∧ Stand p l e R s m args below meth c B.U B.locs B.cells B.slots ∧ Post ⟨T.setVm vm₁, locs, cells, slots⟩ argsL.toArray v B ∧
      ∀ target, Steps p.tables e below (B.U.setTop { g with pc := g.pc + 3, stack := v.toList ++ rest }) target → Steps p.tables e below (T.setTop g) target) ∨
    (∃ (q : Addr) (vm₁ : Vm) (B : Pt), s.WarmedH vm₁ ∧ Stand p l e R s m args below meth c B.U B.locs B.cells B.slots ∧ PostX ⟨T.setVm vm₁, locs, cells, slots⟩ argsL.toArray q B ∧
      Steps p.tables e below (T.setTop g) ((B.U.setTop { g with stack := rest }).pushFrame (.throwing q))) := by
  obtain ⟨mk, methM, cM, hnamed, hmethM, -, -, -, -, -, -, hsigM⟩ := Cond.codeWith_spec hcode
  have hstatic : methM.isStatic = true := Cond.static_spec hnamed hmethM hstat
  obtain ⟨kP, hkP, -⟩ := className_of_methodNamed hnamed
  have hinitP : kP.init = .initialized := Cond.initialized_spec (findClass_of_methodNamed hnamed) hkP hinit
  obtain ⟨vm₁, X₁, hstep₁⟩ := X.invokestatic hexec hown hlink hnamed hmethM hstatic hkP hinitP hy (g := g) hg (argsL := argsL) (rest := rest) (hlen _ hsigM) hstack hdg
  rcases hK m meth c ⟨T.setVm vm₁, locs, cells, slots⟩ { g with stack := rest } (.invokestatic index) mk argsL.toArray X₁ hg hsize hdg hW (X₁.named hnamed) (hpre vm₁ X₁.warmed) with ⟨v, B, X', hpost, hsteps⟩ | ⟨q, B, X', hpost, hsteps⟩
  · exact Or.inl ⟨v, vm₁, B, X₁.warmed, X', hpost, fun target h => hstep₁ _ fun acts => by rw [doInvoke_state]; exact hsteps.trans h⟩
  · exact Or.inr ⟨q, vm₁, B, X₁.warmed, X', hpost, hstep₁ _ fun acts => by rw [doInvoke_state]; exact hsteps⟩
theorem vx_callVW (X : Stand p l e R s m args below meth c T locs cells slots) (hexec : p.tables.exec = Jvm.exec) {own C : String} {index : Nat} {y : MethodName} {bytes : ByteArray} {maxL : Nat} {ret : Option FieldType} {hh : List (Nat × Nat × Nat × Nat)}
    (hown : s.vm.findClass own = some m.cls) (hlink : (Cond.methodLink own index y).before args s = true) (hinst : (Cond.instanceMethod y).before args s = true) (hsel : (Cond.selects C y y).before args s = true)
    (hcode : (Cond.codeWith y bytes maxL ret hh).before args s = true) (hy : y.cls ≠ "java/lang/invoke/MethodHandle" ∧ y.cls ≠ "java/lang/invoke/VarHandle")
    {W9 : Nat} {Pre : Pt → Array Value → Prop} {Post : Pt → Array Value → Option Value → Pt → Prop} (hK : Back l R p e below s args y 3 W9 Pre Post)
    {b : Addr} {cellB : Cell} (hcell : T.heap[b]? = some cellB) (hobj : cellB.vm.isStatics = false) (hcls : s.vm.findClass C = some cellB.cls)
    {g : JFrame} (hg : g.method = m) (hsize : g.locals.size = c.maxLocals) {argsL rest : List Value} (hlen : ∀ sig, parseMethodDescriptor y.desc = some sig → argsL.length = sig.parameters.length)
    (hstack : g.stack = argsL.reverse ++ .ref b :: rest) (hW : 2 * g.monitorRoom + (rest.map fun v => v.category).sum ≤ W9) (hdg : decode c.code g.pc = .ok (.invokevirtual index, 3))
    (hpre : ∀ vm₁, s.WarmedH vm₁ → Pre ⟨T.setVm vm₁, locs, cells, slots⟩ (Value.ref b :: argsL).toArray) :
    ∃ (v : Option Value) (vm₁ : Vm) (B : Pt), s.WarmedH vm₁ ∧ Stand p l e R s m args below meth c B.U B.locs B.cells B.slots ∧ Post ⟨T.setVm vm₁, locs, cells, slots⟩ (Value.ref b :: argsL).toArray v B ∧
      ∀ target, Steps p.tables e below (B.U.setTop { g with pc := g.pc + 3, stack := v.toList ++ rest }) target → Steps p.tables e below (T.setTop g) target := by
  obtain ⟨mk, methM, hnamed, hmethM, hstM, habM⟩ := Cond.instanceMethod_spec hinst
  obtain ⟨m8, methM', cM, hn8, hmethM', -, -, -, -, -, -, hsigM⟩ := Cond.codeWith_spec hcode
  cases Option.some.inj (hn8.symm.trans hnamed)
  cases hmethM.symm.trans hmethM'
  obtain ⟨c2, r2, m2, q1, q2, q3, q4, kP, hkP, hkPi⟩ := Cond.selects_spec hsel
  cases hcls.symm.trans q1
  cases (State.methodFound?_of_named hnamed hy).symm.trans q2
  cases hnamed.symm.trans q3
  have hselP : selectMethod e.platform s.vm cellB.cls mk = .method mk := by rw [Launch.admits_selectMethod X.admits]; exact q4
  obtain ⟨vm₁, X₁, hstep₁⟩ := X.invokevirtual hexec hown hlink hnamed hmethM hstM hkP hkPi hy (a := b) (cell := cellB) hcell
    (fun z h => by rw [h] at hobj; cases hobj) hselP hmethM habM hkP hkPi (g := g) hg (argsL := argsL) (rest := rest) (hlen _ hsigM) hstack hdg
  obtain ⟨v, B, X', hpost, hsteps⟩ := hK m meth c ⟨T.setVm vm₁, locs, cells, slots⟩ { g with stack := rest } (.invokevirtual index) mk (Value.ref b :: argsL).toArray X₁ hg hsize hdg hW (X₁.named hnamed) (hpre vm₁ X₁.warmed)
  exact ⟨v, vm₁, B, X₁.warmed, X', hpost, fun target h => hstep₁ _ fun acts => by rw [doInvoke_state]; exact hsteps.trans h⟩
abbrev vx_CVW (R : Room) (s : State) (args : Array Value) (own C : String) (index : Nat) (y : MethodName) (bytes : ByteArray) (maxL : Nat) (ret : Option FieldType) (hh : List (Nat × Nat × Nat × Nat)) (ws : List Cond) (rm : Room) (mc ms n : Nat) : Prop :=
  (rm.cells = mc ∧ rm.slots = ms ∧ rm.frames + 1 ≤ R.frames ∧ 8 + (maxL + 11) + rm.locals ≤ R.locals ∧ (∀ w ∈ ws, ∀ (a' : Array Value) (U : State), s.WarmedH U.vm → w.before a' U = true) ∧ Cond.codeWith y bytes maxL ret hh ∈ ws) ∧
  (Cond.codeWith y bytes maxL ret hh).before args s = true ∧ (Cond.initialized y.cls).before args s = true ∧ (y.cls ≠ "java/lang/invoke/MethodHandle" ∧ y.cls ≠ "java/lang/invoke/VarHandle") ∧
  (∀ sig, parseMethodDescriptor y.desc = some sig → n = sig.parameters.length) ∧ (Cond.methodLink own index y).before args s = true ∧ (Cond.instanceMethod y).before args s = true ∧ (Cond.selects C y y).before args s = true
theorem vx_cwVW {own C : String} {index maxL mc ms : Nat} {y : MethodName} {bytes : ByteArray} {ret : Option FieldType} {hh : List (Nat × Nat × Nat × Nat)} {Ts ws ws' : List Cond} {rm : Room} (n : Nat) (ht : ∀ w ∈ Ts, w.before args s = true) (hT : GoodIn Ts (wsV own index C y ws)) (hw : ws = Cond.codeWith y bytes maxL ret hh :: ws') (hrc : rm.cells = mc) (hrs : rm.slots = ms)
    (hd : y.cls = C ∧ y.cls ≠ "java/lang/invoke/MethodHandle" ∧ y.cls ≠ "java/lang/invoke/VarHandle" ∧ (parseMethodDescriptor y.desc).map (fun d => d.parameters.length) = some n) (hR : rm.frames + 1 ≤ R.frames ∧ 8 + (maxL + 11) + rm.locals ≤ R.locals) :
    vx_CVW R s args own C index y bytes maxL ret hh ws rm mc ms n := by
  obtain ⟨hC, hd⟩ := hd
  subst hC
  have ok : ∀ w ∈ wsV own index y.cls y ws, w.before args s = true := fun w h => ht w (hT w h).1
  have hG : GoodIn Ts ws := fun w h => hT w (by unfold wsV; exact List.mem_append_right _ h)
  have hc : Cond.codeWith y bytes maxL ret hh ∈ ws := by rw [hw]; exact List.mem_cons_self
  refine ⟨⟨hrc, hrs, hR.1, hR.2, pay_in ht hG, hc⟩, ht _ (hG _ hc).1, ok _ (by simp [wsV]), ⟨hd.1, hd.2.1⟩, fun sig h => ?_, ok _ (by simp [wsV]), ok _ (by simp [wsV]), ok _ (by simp [wsV])⟩
  have h2 := hd.2.2
  rw [h] at h2
  exact (Option.some.inj h2).symm
theorem vx_runVW {y : MethodName} {bytes cc : ByteArray} {maxL nL mc ms n index : Nat} {ret : Option FieldType} {hh : List (Nat × Nat × Nat × Nat)} {ws : List Cond} {rm : Room} {Pc : Array Value → State → Prop} {Qc : Array Value → State → Outcome → State → Prop} {free : Addr → Prop} {Ts : List Cond} {own C : String} {b : Addr} {As rest : List Value} {g : JFrame}
    (S : CallFix p m c cc nL s args Ts own) (hM : Met l y ws rm Pc Qc mc ms free) (cw : vx_CVW R s args own C index y bytes maxL ret hh ws rm mc ms n) (hp : PreV s H C b Pc As)
    (hg : g.method = m) (hn : As.length = n) (hsize : g.locals.size = nL) (hstack : g.stack = As.reverse ++ .ref b :: rest) (hW : 2 * g.monitorRoom + (rest.map fun v => v.category).sum ≤ 8) (hdg : decode cc g.pc = .ok (.invokevirtual index, 3)) (hf : cells + mc ≤ R.cells ∧ slots + ms ≤ R.slots) :
    va_Run p l e R s m args below meth c H locs cells slots mc ms g rest (Qc (Value.ref b :: As).toArray) free := by
  obtain ⟨⟨hrc, hrs, hfr, hlo, hws, hcw⟩, hcode, hini, hy, hlen, hl, hin, hse⟩ := cw
  have hK : Back l R p e below s args y 3 8 (PreOf R mc ms Pc) (PostOf Qc mc ms free) := va_backW (hh := hh) (bytes := bytes) (maxL := maxL) (ret := ret) hM hp.1 hrc hrs hfr hlo hws hcw (fun a' U hW => word_at hW (Or.inl (by first | rfl | simp [Cond.onTables, Cond.keeps, Cond.steady])) hini)
  obtain ⟨hx, hb, hml, ho, -⟩ := S
  obtain ⟨-, ⟨cellB, hcB, hoB, hclB⟩, hPc⟩ := hp
  intro T hT X
  obtain ⟨v, vm₁, ⟨U', l2, c2, s2⟩, hW₁, X', ⟨g', mk, t, L, e1, e2, hq, h1, hL, h2, h3⟩, st⟩ := vx_callVW X hx (C := C) (hh := hh) (bytes := bytes) (maxL := maxL) (ret := ret) ho hl hin hse hcode hy hK (by rw [hT]; exact hcB) hoB hclB hg (hsize.trans hml.symm) (argsL := As) (rest := rest) (fun sig h => hn.trans (hlen sig h)) hstack hW (by rw [hb]; exact hdg)
    (fun vm₁ hW₁ => ⟨hf.1, hf.2, hPc (T.setVm vm₁) hT hW₁⟩)
  dsimp only [Pt.U, Pt.locs, Pt.cells, Pt.slots] at X' e1 e2 h1 h2 h3 st
  subst h1; subst h2; subst h3
  exact ⟨v, (T.setVm vm₁).calling g' mk (Value.ref b :: As).toArray, t, U', L, hT, X', hL, e1, e2, hq, st⟩
section
variable {y : MethodName} {bytes cc : ByteArray} {maxL nL mc ms n index : Nat} {ret : Option FieldType} {ws : List Cond} {rm : Room} {Pc : Array Value → State → Prop} {Qc : Array Value → State → Outcome → State → Prop} {XC : String → State → State → Prop} {free : Addr → Prop} {Ts : List Cond} {own C : String} {b : Addr} {As rest : List Value} {g : JFrame}
theorem vx_runVX {hh : List (Nat × Nat × Nat × Nat)} (S : CallFix p m c cc nL s args Ts own) (hM : vx_Met l y ws rm Pc Qc XC mc ms free) (cw : vx_CVW R s args own C index y bytes maxL ret hh ws rm mc ms n) (hp : PreV s H C b Pc As)
    (hg : g.method = m) (hn : As.length = n) (hsize : g.locals.size = nL) (hstack : g.stack = As.reverse ++ .ref b :: rest) (hW : 2 * g.monitorRoom + (rest.map fun v => v.category).sum ≤ 8) (hdg : decode cc g.pc = .ok (.invokevirtual index, 3)) (hf : cells + mc ≤ R.cells ∧ slots + ms ≤ R.slots) :
    vx_Run p l e R s m args below meth c H locs cells slots mc ms g rest (Qc (Value.ref b :: As).toArray) XC free := by
  obtain ⟨⟨hrc, hrs, hfr, hlo, hws, hcw⟩, hcode, hini, hy, hlen, hl, hin, hse⟩ := cw
  have hK : vx_Back l R p e below s args y 3 8 (PreOf R mc ms Pc) (PostOf Qc mc ms free) (vx_Post XC mc ms free) := vx_backW (hh := hh) (bytes := bytes) (maxL := maxL) (ret := ret) hM hp.1 hrc hrs hfr hlo hws hcw (fun a' U hW => word_at hW (Or.inl (by first | rfl | simp [Cond.onTables, Cond.keeps, Cond.steady])) hini)
  obtain ⟨hx, hb, hml, ho, -⟩ := S
  obtain ⟨-, ⟨cellB, hcB, hoB, hclB⟩, hPc⟩ := hp
  intro T hT X
  rcases vx_callVX X hx (C := C) (hh := hh) (bytes := bytes) (maxL := maxL) (ret := ret) ho hl hin hse hcode hy hK (by rw [hT]; exact hcB) hoB hclB hg (hsize.trans hml.symm) (argsL := As) (rest := rest) (fun sig h => hn.trans (hlen sig h)) hstack hW (by rw [hb]; exact hdg)
    (fun vm₁ hW₁ => ⟨hf.1, hf.2, hPc (T.setVm vm₁) hT hW₁⟩) with ⟨v, vm₁, ⟨U', l2, c2, s2⟩, hW₁, X', ⟨g', mk, t, L, e1, e2, hq, h1, hL, h2, h3⟩, st⟩ | ⟨q, vm₁, ⟨U', l2, c2, s2⟩, hW₁, X', ⟨g', mk, t, L, E, ce, e1, e2, hq, hce, hcv, hcl, h1, hL, h2, h3⟩, st⟩
  · dsimp only [Pt.U, Pt.locs, Pt.cells, Pt.slots] at X' e1 e2 h1 h2 h3 st
    subst h1; subst h2; subst h3
    exact Or.inl ⟨v, (T.setVm vm₁).calling g' mk (Value.ref b :: As).toArray, t, U', L, hT, X', hL, e1, e2, hq, st⟩
  · dsimp only [Pt.U, Pt.locs, Pt.cells, Pt.slots] at X' e1 e2 h1 h2 h3 st hcl
    subst h1; subst h2; subst h3
    exact Or.inr ⟨q, (T.setVm vm₁).calling g' mk (Value.ref b :: As).toArray, t, U', L, E, ce, hT, X', hL, e1, e2, hq, hce, hcv, vx_cls hW₁ hcl, st⟩
theorem vx_runSX {hh : List (Nat × Nat × Nat × Nat)} (S : CallFix p m c cc nL s args Ts own) (hM : vx_Met l y ws rm Pc Qc XC mc ms free) (cw : vx_CSW R s args own index y bytes maxL ret hh ws rm mc ms n) (hp : PreS s H Pc As)
    (hg : g.method = m) (hn : As.length = n) (hsize : g.locals.size = nL) (hstack : g.stack = As.reverse ++ rest) (hW : 2 * g.monitorRoom + (rest.map fun v => v.category).sum ≤ 8) (hdg : decode cc g.pc = .ok (.invokestatic index, 3)) (hf : cells + mc ≤ R.cells ∧ slots + ms ≤ R.slots) :
    vx_Run p l e R s m args below meth c H locs cells slots mc ms g rest (Qc As.toArray) XC free := by
  obtain ⟨⟨hrc, hrs, hfr, hlo, hws, hcw⟩, hcode, hini, hy, hlen, hl, hstt⟩ := cw
  have hK : vx_Back l R p e below s args y 3 8 (PreOf R mc ms Pc) (PostOf Qc mc ms free) (vx_Post XC mc ms free) := vx_backW (hh := hh) (bytes := bytes) (maxL := maxL) (ret := ret) hM hp.1 hrc hrs hfr hlo hws hcw (fun a' U hW => word_at hW (Or.inl (by first | rfl | simp [Cond.onTables, Cond.keeps, Cond.steady])) hini)
  obtain ⟨hx, hb, hml, ho, -⟩ := S
  intro T hT X
  rcases vx_callSX X hx (hh := hh) (bytes := bytes) (maxL := maxL) (ret := ret) ho hl hstt hini hcode hy hK hg (hsize.trans hml.symm) (argsL := As) (rest := rest) (fun sig h => hn.trans (hlen sig h)) hstack hW (by rw [hb]; exact hdg)
    (fun vm₁ hW₁ => ⟨hf.1, hf.2, hp.2 (T.setVm vm₁) hT hW₁⟩) with ⟨v, vm₁, ⟨U', l2, c2, s2⟩, hW₁, X', ⟨g', mk, t, L, e1, e2, hq, h1, hL, h2, h3⟩, st⟩ | ⟨q, vm₁, ⟨U', l2, c2, s2⟩, hW₁, X', ⟨g', mk, t, L, E, ce, e1, e2, hq, hce, hcv, hcl, h1, hL, h2, h3⟩, st⟩
  · dsimp only [Pt.U, Pt.locs, Pt.cells, Pt.slots] at X' e1 e2 h1 h2 h3 st
    subst h1; subst h2; subst h3
    exact Or.inl ⟨v, (T.setVm vm₁).calling g' mk As.toArray, t, U', L, hT, X', hL, e1, e2, hq, st⟩
  · dsimp only [Pt.U, Pt.locs, Pt.cells, Pt.slots] at X' e1 e2 h1 h2 h3 st hcl
    subst h1; subst h2; subst h3
    exact Or.inr ⟨q, (T.setVm vm₁).calling g' mk As.toArray, t, U', L, E, ce, hT, X', hL, e1, e2, hq, hce, hcv, vx_cls hW₁ hcl, st⟩
end
end VXH
theorem vx_ofWH {l : Launch} {y : MethodName} {ws ws' : List Cond} {rm : Room} {Pc : Array Value → State → Prop} {Qc : Array Value → State → Outcome → State → Prop} {XC : String → State → State → Prop} {mc ms : Nat} {free : Addr → Prop} {cc : ByteArray} {maxL : Nat} {ret : Option FieldType} {hh : List (Nat × Nat × Nat × Nat)}
    (hy : plainName y.cls = true) (hw : ws = Cond.codeWith y cc maxL ret hh :: ws')
    (body : ∀ p e s m args below meth c s₁, BodyLoose p l y (headSpec ws rm) cc maxL ret e s m args below meth c s₁ → c.maxLocals = maxL → Pc args s →
      W p l e (headSpec ws rm).room s m args below meth c s.heap [] 0 0 (vx_MQ below Qc XC args s mc ms free) (entryFrame m args maxL)) : vx_Met l y ws rm Pc Qc XC mc ms free := by
  refine MetFree.of_bodyS (code := cc) (maxLocals := maxL) (ret := ret) hy ?_ ?_
  · intro args s m h hn
    obtain ⟨m9, meth, c, hn9, h1, h2, h3, h4, -, h5, h6, -⟩ := Cond.codeWith_spec (atoms_spec (ws := ws) h _ (by rw [hw]; exact List.mem_cons_self))
    cases hn.symm.trans hn9
    exact ⟨meth, c, h1, h2, h3, h4, h5, h6⟩
  · intro p e s m args below meth c s₁ B hml hP _
    have hh0 : s₁.heap = s.heap := by rw [B.state]; rfl
    obtain ⟨t, a1, o, b1, b2, b3⟩ := body p e s m args below meth c s₁ B hml hP s₁ hh0 (Stand.of_body B)
    exact ⟨t, o, a1, b1, b2, b3⟩
/-! ===== END ===== -/
end
section
def RX0 : String := "MudCouncil$Log"
def TX0 : u_T := fun k => match k with
  | 0 => ("MudCouncil$Log", "rows", "[I", true)
  | _ => ("MudCouncil$Log", "count", "I", false)
def tyX0 : Nat → FieldType := fun k => match k with
  | 0 => .array .int
  | _ => .int
abbrev wsX00 : List Cond := u_ws RX0 TX0 2
theorem nmX0 : ∀ a, a < 2 → ∀ b, b < 2 → a ≠ b → (TX0 a).2.1 ≠ (TX0 b).2.1 := by decide +kernel
theorem tyX0_ok : ∀ k, k < 2 → parseFieldDescriptor (TX0 k).2.2.1 = some (tyX0 k) := by decide +kernel
abbrev cX0_init : ByteArray := prog_2_method_1_code
def yX0_init : MethodName := ⟨RX0, "<init>", "()V"⟩
abbrev cX0_add : ByteArray := prog_2_method_2_code
def yX0_add : MethodName := ⟨RX0, "add", "(IIIII)V"⟩
def RX1 : String := "MudCouncil$People"
def TX1 : u_T := fun k => match k with
  | 0 => ("MudCouncil$People", "count", "I", false)
  | 1 => ("MudCouncil$People", "rooms", "[I", true)
  | 2 => ("MudCouncil$People", "coins", "[I", true)
  | 3 => ("MudCouncil$People", "strengths", "[I", true)
  | 4 => ("MudCouncil$People", "healths", "[I", true)
  | 5 => ("MudCouncil$People", "readyTimes", "[I", true)
  | 6 => ("MudCouncil$People", "goods", "[I", true)
  | 7 => ("MudCouncil$People", "reached", "[I", true)
  | 8 => ("MudCouncil$People", "words", "[I", true)
  | _ => ("MudCouncil$People", "wordCounts", "[I", true)
def tyX1 : Nat → FieldType := fun k => match k with
  | 0 => .int
  | 1 => .array .int
  | 2 => .array .int
  | 3 => .array .int
  | 4 => .array .int
  | 5 => .array .int
  | 6 => .array .int
  | 7 => .array .int
  | 8 => .array .int
  | _ => .array .int
abbrev wsX10 : List Cond := u_ws RX1 TX1 10
theorem nmX1 : ∀ a, a < 10 → ∀ b, b < 10 → a ≠ b → (TX1 a).2.1 ≠ (TX1 b).2.1 := by decide +kernel
theorem tyX1_ok : ∀ k, k < 10 → parseFieldDescriptor (TX1 k).2.2.1 = some (tyX1 k) := by decide +kernel
abbrev cX1_init : ByteArray := prog_3_method_1_code
def yX1_init : MethodName := ⟨RX1, "<init>", "()V"⟩
abbrev cX1_clear : ByteArray := prog_3_method_2_code
def yX1_clear : MethodName := ⟨RX1, "clear", "()V"⟩
abbrev cX1_add : ByteArray := prog_3_method_3_code
def yX1_add : MethodName := ⟨RX1, "add", "(III)I"⟩
abbrev cX1_next : ByteArray := prog_3_method_4_code
def yX1_next : MethodName := ⟨RX1, "next", "()I"⟩
abbrev cX1_addGoods : ByteArray := prog_3_method_5_code
def yX1_addGoods : MethodName := ⟨RX1, "addGoods", "(III)I"⟩
abbrev cX1_payOut : ByteArray := prog_3_method_6_code
def yX1_payOut : MethodName := ⟨RX1, "payOut", "(III)V"⟩
abbrev cX1_hear : ByteArray := prog_3_method_7_code
def yX1_hear : MethodName := ⟨RX1, "hear", "(II)V"⟩
abbrev cX1_isBegun : ByteArray := prog_3_method_8_code
def yX1_isBegun : MethodName := ⟨RX1, "isBegun", "(I)Z"⟩
abbrev cX1_sumOfCoins : ByteArray := prog_3_method_9_code
def yX1_sumOfCoins : MethodName := ⟨RX1, "sumOfCoins", "()I"⟩
abbrev cX1_sumOfGoods : ByteArray := prog_3_method_10_code
def yX1_sumOfGoods : MethodName := ⟨RX1, "sumOfGoods", "(I)I"⟩
def RX2 : String := "MudCouncil$Places"
def TX2 : u_T := fun k => match k with
  | 0 => ("MudCouncil$Places", "exits", "[I", true)
  | 1 => ("MudCouncil$Places", "tills", "[I", true)
  | 2 => ("MudCouncil$Places", "prices", "[I", true)
  | 3 => ("MudCouncil$Places", "stocks", "[I", true)
  | 4 => ("MudCouncil$Places", "floors", "[I", true)
  | _ => ("MudCouncil$Places", "steps", "[I", true)
def tyX2 : Nat → FieldType := fun k => match k with
  | 0 => .array .int
  | 1 => .array .int
  | 2 => .array .int
  | 3 => .array .int
  | 4 => .array .int
  | _ => .array .int
abbrev wsX20 : List Cond := u_ws RX2 TX2 6
theorem nmX2 : ∀ a, a < 6 → ∀ b, b < 6 → a ≠ b → (TX2 a).2.1 ≠ (TX2 b).2.1 := by decide +kernel
theorem tyX2_ok : ∀ k, k < 6 → parseFieldDescriptor (TX2 k).2.2.1 = some (tyX2 k) := by decide +kernel
abbrev cX2_init : ByteArray := prog_4_method_1_code
def yX2_init : MethodName := ⟨RX2, "<init>", "()V"⟩
abbrev cX2_clear : ByteArray := prog_4_method_2_code
def yX2_clear : MethodName := ⟨RX2, "clear", "()V"⟩
abbrev cX2_exitFrom : ByteArray := prog_4_method_3_code
def yX2_exitFrom : MethodName := ⟨RX2, "exitFrom", "(II)I"⟩
abbrev cX2_connect : ByteArray := prog_4_method_4_code
def yX2_connect : MethodName := ⟨RX2, "connect", "(III)V"⟩
abbrev cX2_leadsTo : ByteArray := prog_4_method_5_code
def yX2_leadsTo : MethodName := ⟨RX2, "leadsTo", "(II)Z"⟩
abbrev cX2_stepsBetween : ByteArray := prog_4_method_6_code
def yX2_stepsBetween : MethodName := ⟨RX2, "stepsBetween", "(II)I"⟩
abbrev cX2_stepOut : ByteArray := prog_4_method_7_code
def yX2_stepOut : MethodName := ⟨RX2, "stepOut", "(I)V"⟩
abbrev cX2_hasShop : ByteArray := prog_4_method_8_code
def yX2_hasShop : MethodName := ⟨RX2, "hasShop", "(I)Z"⟩
abbrev cX2_halfPrice : ByteArray := prog_4_method_9_code
def yX2_halfPrice : MethodName := ⟨RX2, "halfPrice", "(II)I"⟩
abbrev cX2_addStock : ByteArray := prog_4_method_10_code
def yX2_addStock : MethodName := ⟨RX2, "addStock", "(IIII)I"⟩
abbrev cX2_addToFloor : ByteArray := prog_4_method_11_code
def yX2_addToFloor : MethodName := ⟨RX2, "addToFloor", "(III)I"⟩
abbrev cX2_sumOfTills : ByteArray := prog_4_method_12_code
def yX2_sumOfTills : MethodName := ⟨RX2, "sumOfTills", "()I"⟩
abbrev cX2_sumOfGoods : ByteArray := prog_4_method_13_code
def yX2_sumOfGoods : MethodName := ⟨RX2, "sumOfGoods", "(I)I"⟩
def RX3 : String := "MudCouncil$Quests"
def TX3 : u_T := fun k => match k with
  | 0 => ("MudCouncil$Quests", "count", "I", false)
  | 1 => ("MudCouncil$Quests", "rewards", "[I", true)
  | 2 => ("MudCouncil$Quests", "lengths", "[I", true)
  | 3 => ("MudCouncil$Quests", "kinds", "[I", true)
  | 4 => ("MudCouncil$Quests", "firsts", "[I", true)
  | _ => ("MudCouncil$Quests", "seconds", "[I", true)
def tyX3 : Nat → FieldType := fun k => match k with
  | 0 => .int
  | 1 => .array .int
  | 2 => .array .int
  | 3 => .array .int
  | 4 => .array .int
  | _ => .array .int
abbrev wsX30 : List Cond := u_ws RX3 TX3 6
theorem nmX3 : ∀ a, a < 6 → ∀ b, b < 6 → a ≠ b → (TX3 a).2.1 ≠ (TX3 b).2.1 := by decide +kernel
theorem tyX3_ok : ∀ k, k < 6 → parseFieldDescriptor (TX3 k).2.2.1 = some (tyX3 k) := by decide +kernel
abbrev cX3_init : ByteArray := prog_5_method_1_code
def yX3_init : MethodName := ⟨RX3, "<init>", "()V"⟩
abbrev cX3_clear : ByteArray := prog_5_method_2_code
def yX3_clear : MethodName := ⟨RX3, "clear", "()V"⟩
abbrev cX3_add : ByteArray := prog_5_method_3_code
def yX3_add : MethodName := ⟨RX3, "add", "(I)I"⟩
abbrev cX3_addStage : ByteArray := prog_5_method_4_code
def yX3_addStage : MethodName := ⟨RX3, "addStage", "(IIII)I"⟩
def RX4 : String := "MudCouncil$World"
def TX4 : u_T := fun k => match k with
  | 0 => ("MudCouncil$World", "places", "LMudCouncil$Places;", true)
  | 1 => ("MudCouncil$World", "people", "LMudCouncil$People;", true)
  | 2 => ("MudCouncil$World", "quests", "LMudCouncil$Quests;", true)
  | 3 => ("MudCouncil$World", "purse", "I", false)
  | _ => ("MudCouncil$World", "dieSeed", "I", false)
def tyX4 : Nat → FieldType := fun k => match k with
  | 0 => .object "MudCouncil$Places"
  | 1 => .object "MudCouncil$People"
  | 2 => .object "MudCouncil$Quests"
  | 3 => .int
  | _ => .int
abbrev wsX40 : List Cond := u_ws RX4 TX4 5
theorem nmX4 : ∀ a, a < 5 → ∀ b, b < 5 → a ≠ b → (TX4 a).2.1 ≠ (TX4 b).2.1 := by decide +kernel
theorem tyX4_ok : ∀ k, k < 5 → parseFieldDescriptor (TX4 k).2.2.1 = some (tyX4 k) := by decide +kernel
abbrev cX4_init : ByteArray := prog_6_method_1_code
def yX4_init : MethodName := ⟨RX4, "<init>", "()V"⟩
abbrev cX4_clear : ByteArray := prog_6_method_2_code
def yX4_clear : MethodName := ⟨RX4, "clear", "()V"⟩
abbrev cX4_play : ByteArray := prog_6_method_3_code
def yX4_play : MethodName := ⟨RX4, "play", "(IIIII)I"⟩
abbrev cX4_make : ByteArray := prog_6_method_4_code
def yX4_make : MethodName := ⟨RX4, "make", "(IIIII)I"⟩
abbrev cX4_costOf : ByteArray := prog_6_method_5_code
def yX4_costOf : MethodName := ⟨RX4, "costOf", "(I)I"⟩
abbrev cX4_perform : ByteArray := prog_6_method_6_code
def yX4_perform : MethodName := ⟨RX4, "perform", "(IIII)I"⟩
abbrev cX4_tell : ByteArray := prog_6_method_7_code
def yX4_tell : MethodName := ⟨RX4, "tell", "(IIZ)I"⟩
abbrev cX4_trade : ByteArray := prog_6_method_8_code
def yX4_trade : MethodName := ⟨RX4, "trade", "(IIII)V"⟩
abbrev cX4_roll : ByteArray := prog_6_method_9_code
def yX4_roll : MethodName := ⟨RX4, "roll", "()I"⟩
abbrev cX4_fight : ByteArray := prog_6_method_10_code
def yX4_fight : MethodName := ⟨RX4, "fight", "(II)I"⟩
abbrev cX4_defeat : ByteArray := prog_6_method_11_code
def yX4_defeat : MethodName := ⟨RX4, "defeat", "(III)V"⟩
abbrev cX4_pursueQuests : ByteArray := prog_6_method_12_code
def yX4_pursueQuests : MethodName := ⟨RX4, "pursueQuests", "(III)V"⟩
abbrev cX4_isFulfilled : ByteArray := prog_6_method_13_code
def yX4_isFulfilled : MethodName := ⟨RX4, "isFulfilled", "(IIII)Z"⟩
abbrev cX4_reward : ByteArray := prog_6_method_14_code
def yX4_reward : MethodName := ⟨RX4, "reward", "(II)V"⟩
def RX5 : String := "MudCouncil"
def TX5 : u_T := fun k => match k with
  | 0 => ("MudCouncil", "log", "LMudCouncil$Log;", true)
  | 1 => ("MudCouncil", "now", "LMudCouncil$World;", true)
  | _ => ("MudCouncil", "past", "LMudCouncil$World;", true)
def tyX5 : Nat → FieldType := fun k => match k with
  | 0 => .object "MudCouncil$Log"
  | 1 => .object "MudCouncil$World"
  | _ => .object "MudCouncil$World"
abbrev wsX50 : List Cond := u_ws RX5 TX5 3
theorem nmX5 : ∀ a, a < 3 → ∀ b, b < 3 → a ≠ b → (TX5 a).2.1 ≠ (TX5 b).2.1 := by decide +kernel
theorem tyX5_ok : ∀ k, k < 3 → parseFieldDescriptor (TX5 k).2.2.1 = some (tyX5 k) := by decide +kernel
abbrev cX5_init : ByteArray := prog_1_method_1_code
def yX5_init : MethodName := ⟨RX5, "<init>", "()V"⟩
abbrev cX5_link : ByteArray := prog_1_method_2_code
def yX5_link : MethodName := ⟨RX5, "link", "(III)V"⟩
abbrev cX5_shop : ByteArray := prog_1_method_3_code
def yX5_shop : MethodName := ⟨RX5, "shop", "(II)V"⟩
abbrev cX5_stock : ByteArray := prog_1_method_4_code
def yX5_stock : MethodName := ⟨RX5, "stock", "(IIII)I"⟩
abbrev cX5_scatter : ByteArray := prog_1_method_5_code
def yX5_scatter : MethodName := ⟨RX5, "scatter", "(III)I"⟩
abbrev cX5_join : ByteArray := prog_1_method_6_code
def yX5_join : MethodName := ⟨RX5, "join", "(III)I"⟩
abbrev cX5_quest : ByteArray := prog_1_method_7_code
def yX5_quest : MethodName := ⟨RX5, "quest", "(I)I"⟩
abbrev cX5_stage : ByteArray := prog_1_method_8_code
def yX5_stage : MethodName := ⟨RX5, "stage", "(IIII)I"⟩
abbrev cX5_endow : ByteArray := prog_1_method_9_code
def yX5_endow : MethodName := ⟨RX5, "endow", "(I)I"⟩
abbrev cX5_seed : ByteArray := prog_1_method_10_code
def yX5_seed : MethodName := ⟨RX5, "seed", "(I)V"⟩
abbrev cX5_go : ByteArray := prog_1_method_11_code
def yX5_go : MethodName := ⟨RX5, "go", "(I)I"⟩
abbrev cX5_say : ByteArray := prog_1_method_12_code
def yX5_say : MethodName := ⟨RX5, "say", "(I)I"⟩
abbrev cX5_shout : ByteArray := prog_1_method_13_code
def yX5_shout : MethodName := ⟨RX5, "shout", "(I)I"⟩
abbrev cX5_take : ByteArray := prog_1_method_14_code
def yX5_take : MethodName := ⟨RX5, "take", "(I)I"⟩
abbrev cX5_drop : ByteArray := prog_1_method_15_code
def yX5_drop : MethodName := ⟨RX5, "drop", "(I)I"⟩
abbrev cX5_give : ByteArray := prog_1_method_16_code
def yX5_give : MethodName := ⟨RX5, "give", "(II)I"⟩
abbrev cX5_pay : ByteArray := prog_1_method_17_code
def yX5_pay : MethodName := ⟨RX5, "pay", "(II)I"⟩
abbrev cX5_buy : ByteArray := prog_1_method_18_code
def yX5_buy : MethodName := ⟨RX5, "buy", "(I)I"⟩
abbrev cX5_sell : ByteArray := prog_1_method_19_code
def yX5_sell : MethodName := ⟨RX5, "sell", "(I)I"⟩
abbrev cX5_attack : ByteArray := prog_1_method_20_code
def yX5_attack : MethodName := ⟨RX5, "attack", "(I)I"⟩
abbrev cX5_rest : ByteArray := prog_1_method_21_code
def yX5_rest : MethodName := ⟨RX5, "rest", "()I"⟩
abbrev cX5_turn : ByteArray := prog_1_method_22_code
def yX5_turn : MethodName := ⟨RX5, "turn", "()I"⟩
abbrev cX5_readyAt : ByteArray := prog_1_method_23_code
def yX5_readyAt : MethodName := ⟨RX5, "readyAt", "(I)I"⟩
abbrev cX5_roomOf : ByteArray := prog_1_method_24_code
def yX5_roomOf : MethodName := ⟨RX5, "roomOf", "(I)I"⟩
abbrev cX5_coinsOf : ByteArray := prog_1_method_25_code
def yX5_coinsOf : MethodName := ⟨RX5, "coinsOf", "(I)I"⟩
abbrev cX5_healthOf : ByteArray := prog_1_method_26_code
def yX5_healthOf : MethodName := ⟨RX5, "healthOf", "(I)I"⟩
abbrev cX5_goodsOf : ByteArray := prog_1_method_27_code
def yX5_goodsOf : MethodName := ⟨RX5, "goodsOf", "(II)I"⟩
abbrev cX5_heard : ByteArray := prog_1_method_28_code
def yX5_heard : MethodName := ⟨RX5, "heard", "(II)I"⟩
abbrev cX5_stageOf : ByteArray := prog_1_method_29_code
def yX5_stageOf : MethodName := ⟨RX5, "stageOf", "(II)I"⟩
abbrev cX5_exit : ByteArray := prog_1_method_30_code
def yX5_exit : MethodName := ⟨RX5, "exit", "(II)I"⟩
abbrev cX5_distance : ByteArray := prog_1_method_31_code
def yX5_distance : MethodName := ⟨RX5, "distance", "(II)I"⟩
abbrev cX5_onFloor : ByteArray := prog_1_method_32_code
def yX5_onFloor : MethodName := ⟨RX5, "onFloor", "(II)I"⟩
abbrev cX5_stockOf : ByteArray := prog_1_method_33_code
def yX5_stockOf : MethodName := ⟨RX5, "stockOf", "(II)I"⟩
abbrev cX5_tillOf : ByteArray := prog_1_method_34_code
def yX5_tillOf : MethodName := ⟨RX5, "tillOf", "(I)I"⟩
abbrev cX5_purse : ByteArray := prog_1_method_35_code
def yX5_purse : MethodName := ⟨RX5, "purse", "()I"⟩
abbrev cX5_allCoins : ByteArray := prog_1_method_36_code
def yX5_allCoins : MethodName := ⟨RX5, "allCoins", "()I"⟩
abbrev cX5_allGoods : ByteArray := prog_1_method_37_code
def yX5_allGoods : MethodName := ⟨RX5, "allGoods", "(I)I"⟩
abbrev cX5_calls : ByteArray := prog_1_method_38_code
def yX5_calls : MethodName := ⟨RX5, "calls", "()I"⟩
abbrev cX5_roomAfter : ByteArray := prog_1_method_39_code
def yX5_roomAfter : MethodName := ⟨RX5, "roomAfter", "(II)I"⟩
abbrev cX5_coinsAfter : ByteArray := prog_1_method_40_code
def yX5_coinsAfter : MethodName := ⟨RX5, "coinsAfter", "(II)I"⟩
abbrev cX5_turnAfter : ByteArray := prog_1_method_41_code
def yX5_turnAfter : MethodName := ⟨RX5, "turnAfter", "(I)I"⟩
abbrev cX5_keep : ByteArray := prog_1_method_42_code
def yX5_keep : MethodName := ⟨RX5, "keep", "(IIIII)I"⟩
abbrev cX5_worldAfter : ByteArray := prog_1_method_43_code
def yX5_worldAfter : MethodName := ⟨RX5, "worldAfter", "(I)LMudCouncil$World;"⟩
abbrev cX5_needRoom : ByteArray := prog_1_method_44_code
def yX5_needRoom : MethodName := ⟨RX5, "needRoom", "(I)V"⟩
abbrev cX5_needDirection : ByteArray := prog_1_method_45_code
def yX5_needDirection : MethodName := ⟨RX5, "needDirection", "(I)V"⟩
abbrev cX5_needKind : ByteArray := prog_1_method_46_code
def yX5_needKind : MethodName := ⟨RX5, "needKind", "(I)V"⟩
abbrev cX5_needPlayer : ByteArray := prog_1_method_47_code
def yX5_needPlayer : MethodName := ⟨RX5, "needPlayer", "(I)V"⟩
abbrev cX5_needPlayerIn : ByteArray := prog_1_method_48_code
def yX5_needPlayerIn : MethodName := ⟨RX5, "needPlayerIn", "(LMudCouncil$World;I)V"⟩
abbrev cX5_needQuest : ByteArray := prog_1_method_49_code
def yX5_needQuest : MethodName := ⟨RX5, "needQuest", "(I)V"⟩
abbrev cX5_needRange : ByteArray := prog_1_method_50_code
def yX5_needRange : MethodName := ⟨RX5, "needRange", "(III)V"⟩
abbrev cX5_needStageTarget : ByteArray := prog_1_method_51_code
def yX5_needStageTarget : MethodName := ⟨RX5, "needStageTarget", "(II)V"⟩
abbrev cX5_needStageMeasure : ByteArray := prog_1_method_52_code
def yX5_needStageMeasure : MethodName := ⟨RX5, "needStageMeasure", "(II)V"⟩
abbrev cX5_needActor : ByteArray := prog_1_method_53_code
def yX5_needActor : MethodName := ⟨RX5, "needActor", "()I"⟩
abbrev cX5_needCompany : ByteArray := prog_1_method_54_code
def yX5_needCompany : MethodName := ⟨RX5, "needCompany", "(II)V"⟩
abbrev cX5_needOwned : ByteArray := prog_1_method_55_code
def yX5_needOwned : MethodName := ⟨RX5, "needOwned", "(II)V"⟩
abbrev cX5_needTrade : ByteArray := prog_1_method_56_code
def yX5_needTrade : MethodName := ⟨RX5, "needTrade", "(II)V"⟩
abbrev cX5_needCoins : ByteArray := prog_1_method_57_code
def yX5_needCoins : MethodName := ⟨RX5, "needCoins", "(II)V"⟩
abbrev cX5_opposite : ByteArray := prog_1_method_58_code
def yX5_opposite : MethodName := ⟨RX5, "opposite", "(I)I"⟩
abbrev cX5_goodsAt : ByteArray := prog_1_method_59_code
def yX5_goodsAt : MethodName := ⟨RX5, "goodsAt", "(II)I"⟩
abbrev cX5_reachedAt : ByteArray := prog_1_method_60_code
def yX5_reachedAt : MethodName := ⟨RX5, "reachedAt", "(II)I"⟩
abbrev cX5_stageAt : ByteArray := prog_1_method_61_code
def yX5_stageAt : MethodName := ⟨RX5, "stageAt", "(II)I"⟩
def RX6 : String := "MudCouncilModel"
def TX6 : u_T := fun k => match k with
  | 0 => ("MudCouncilModel", "exits", "[I", true)
  | 1 => ("MudCouncilModel", "floor", "[I", true)
  | 2 => ("MudCouncilModel", "till", "[I", true)
  | 3 => ("MudCouncilModel", "price", "[I", true)
  | 4 => ("MudCouncilModel", "stock", "[I", true)
  | 5 => ("MudCouncilModel", "players", "I", false)
  | 6 => ("MudCouncilModel", "room", "[I", true)
  | 7 => ("MudCouncilModel", "coins", "[I", true)
  | 8 => ("MudCouncilModel", "strength", "[I", true)
  | 9 => ("MudCouncilModel", "health", "[I", true)
  | 10 => ("MudCouncilModel", "ready", "[I", true)
  | 11 => ("MudCouncilModel", "goods", "[I", true)
  | 12 => ("MudCouncilModel", "words", "[I", true)
  | 13 => ("MudCouncilModel", "heard", "[I", true)
  | 14 => ("MudCouncilModel", "purse", "I", false)
  | 15 => ("MudCouncilModel", "seed", "I", false)
  | 16 => ("MudCouncilModel", "quests", "I", false)
  | 17 => ("MudCouncilModel", "reward", "[I", true)
  | 18 => ("MudCouncilModel", "stages", "[I", true)
  | 19 => ("MudCouncilModel", "stageKind", "[I", true)
  | 20 => ("MudCouncilModel", "stageFirst", "[I", true)
  | 21 => ("MudCouncilModel", "stageSecond", "[I", true)
  | 22 => ("MudCouncilModel", "reached", "[I", true)
  | 23 => ("MudCouncilModel", "calls", "I", false)
  | 24 => ("MudCouncilModel", "playersAfter", "[I", true)
  | 25 => ("MudCouncilModel", "turnAfter", "[I", true)
  | 26 => ("MudCouncilModel", "roomsAfter", "[I", true)
  | 27 => ("MudCouncilModel", "coinsAfter", "[I", true)
  | 28 => ("MudCouncilModel", "far", "[I", true)
  | _ => ("MudCouncilModel", "thrown", "I", false)
def tyX6 : Nat → FieldType := fun k => match k with
  | 0 => .array .int
  | 1 => .array .int
  | 2 => .array .int
  | 3 => .array .int
  | 4 => .array .int
  | 5 => .int
  | 6 => .array .int
  | 7 => .array .int
  | 8 => .array .int
  | 9 => .array .int
  | 10 => .array .int
  | 11 => .array .int
  | 12 => .array .int
  | 13 => .array .int
  | 14 => .int
  | 15 => .int
  | 16 => .int
  | 17 => .array .int
  | 18 => .array .int
  | 19 => .array .int
  | 20 => .array .int
  | 21 => .array .int
  | 22 => .array .int
  | 23 => .int
  | 24 => .array .int
  | 25 => .array .int
  | 26 => .array .int
  | 27 => .array .int
  | 28 => .array .int
  | _ => .int
abbrev wsX60 : List Cond := u_ws RX6 TX6 30
theorem nmX6 : ∀ a, a < 30 → ∀ b, b < 30 → a ≠ b → (TX6 a).2.1 ≠ (TX6 b).2.1 := by decide +kernel
theorem tyX6_ok : ∀ k, k < 30 → parseFieldDescriptor (TX6 k).2.2.1 = some (tyX6 k) := by decide +kernel
abbrev cX6_init : ByteArray := prog_8_method_1_code
def yX6_init : MethodName := ⟨RX6, "<init>", "()V"⟩
abbrev cX6_thrown : ByteArray := prog_8_method_2_code
def yX6_thrown : MethodName := ⟨RX6, "thrown", "()I"⟩
abbrev cX6_can : ByteArray := prog_8_method_3_code
def yX6_can : MethodName := ⟨RX6, "can", "(I)Z"⟩
abbrev cX6_isIn : ByteArray := prog_8_method_4_code
def yX6_isIn : MethodName := ⟨RX6, "isIn", "(III)Z"⟩
abbrev cX6_isRoom : ByteArray := prog_8_method_5_code
def yX6_isRoom : MethodName := ⟨RX6, "isRoom", "(I)Z"⟩
abbrev cX6_isKind : ByteArray := prog_8_method_6_code
def yX6_isKind : MethodName := ⟨RX6, "isKind", "(I)Z"⟩
abbrev cX6_isPlayer : ByteArray := prog_8_method_7_code
def yX6_isPlayer : MethodName := ⟨RX6, "isPlayer", "(I)Z"⟩
abbrev cX6_isQuest : ByteArray := prog_8_method_8_code
def yX6_isQuest : MethodName := ⟨RX6, "isQuest", "(I)Z"⟩
abbrev cX6_actor : ByteArray := prog_8_method_9_code
def yX6_actor : MethodName := ⟨RX6, "actor", "()I"⟩
abbrev cX6_keep : ByteArray := prog_8_method_10_code
def yX6_keep : MethodName := ⟨RX6, "keep", "()V"⟩
abbrev cX6_link : ByteArray := prog_8_method_11_code
def yX6_link : MethodName := ⟨RX6, "link", "(III)V"⟩
abbrev cX6_shop : ByteArray := prog_8_method_12_code
def yX6_shop : MethodName := ⟨RX6, "shop", "(II)V"⟩
abbrev cX6_stock : ByteArray := prog_8_method_13_code
def yX6_stock : MethodName := ⟨RX6, "stock", "(IIII)I"⟩
abbrev cX6_scatter : ByteArray := prog_8_method_14_code
def yX6_scatter : MethodName := ⟨RX6, "scatter", "(III)I"⟩
abbrev cX6_join : ByteArray := prog_8_method_15_code
def yX6_join : MethodName := ⟨RX6, "join", "(III)I"⟩
abbrev cX6_quest : ByteArray := prog_8_method_16_code
def yX6_quest : MethodName := ⟨RX6, "quest", "(I)I"⟩
abbrev cX6_stage : ByteArray := prog_8_method_17_code
def yX6_stage : MethodName := ⟨RX6, "stage", "(IIII)I"⟩
abbrev cX6_endow : ByteArray := prog_8_method_18_code
def yX6_endow : MethodName := ⟨RX6, "endow", "(I)I"⟩
abbrev cX6_seed : ByteArray := prog_8_method_19_code
def yX6_seed : MethodName := ⟨RX6, "seed", "(I)V"⟩
abbrev cX6_isFulfilled : ByteArray := prog_8_method_20_code
def yX6_isFulfilled : MethodName := ⟨RX6, "isFulfilled", "(IIII)Z"⟩
abbrev cX6_ends : ByteArray := prog_8_method_21_code
def yX6_ends : MethodName := ⟨RX6, "ends", "(IIII)V"⟩
abbrev cX6_go : ByteArray := prog_8_method_22_code
def yX6_go : MethodName := ⟨RX6, "go", "(I)I"⟩
abbrev cX6_hears : ByteArray := prog_8_method_23_code
def yX6_hears : MethodName := ⟨RX6, "hears", "(III)V"⟩
abbrev cX6_isNextTo : ByteArray := prog_8_method_24_code
def yX6_isNextTo : MethodName := ⟨RX6, "isNextTo", "(II)Z"⟩
abbrev cX6_speaks : ByteArray := prog_8_method_25_code
def yX6_speaks : MethodName := ⟨RX6, "speaks", "(IZ)I"⟩
abbrev cX6_say : ByteArray := prog_8_method_26_code
def yX6_say : MethodName := ⟨RX6, "say", "(I)I"⟩
abbrev cX6_shout : ByteArray := prog_8_method_27_code
def yX6_shout : MethodName := ⟨RX6, "shout", "(I)I"⟩
abbrev cX6_take : ByteArray := prog_8_method_28_code
def yX6_take : MethodName := ⟨RX6, "take", "(I)I"⟩
abbrev cX6_drop : ByteArray := prog_8_method_29_code
def yX6_drop : MethodName := ⟨RX6, "drop", "(I)I"⟩
abbrev cX6_isAway : ByteArray := prog_8_method_30_code
def yX6_isAway : MethodName := ⟨RX6, "isAway", "(II)Z"⟩
abbrev cX6_give : ByteArray := prog_8_method_31_code
def yX6_give : MethodName := ⟨RX6, "give", "(II)I"⟩
abbrev cX6_pay : ByteArray := prog_8_method_32_code
def yX6_pay : MethodName := ⟨RX6, "pay", "(II)I"⟩
abbrev cX6_traded : ByteArray := prog_8_method_33_code
def yX6_traded : MethodName := ⟨RX6, "traded", "(II)I"⟩
abbrev cX6_buy : ByteArray := prog_8_method_34_code
def yX6_buy : MethodName := ⟨RX6, "buy", "(I)I"⟩
abbrev cX6_sell : ByteArray := prog_8_method_35_code
def yX6_sell : MethodName := ⟨RX6, "sell", "(I)I"⟩
abbrev cX6_rolls : ByteArray := prog_8_method_36_code
def yX6_rolls : MethodName := ⟨RX6, "rolls", "(I)I"⟩
abbrev cX6_isBeaten : ByteArray := prog_8_method_37_code
def yX6_isBeaten : MethodName := ⟨RX6, "isBeaten", "(III)V"⟩
abbrev cX6_attack : ByteArray := prog_8_method_38_code
def yX6_attack : MethodName := ⟨RX6, "attack", "(I)I"⟩
abbrev cX6_rest : ByteArray := prog_8_method_39_code
def yX6_rest : MethodName := ⟨RX6, "rest", "()I"⟩
abbrev cX6_turn : ByteArray := prog_8_method_40_code
def yX6_turn : MethodName := ⟨RX6, "turn", "()I"⟩
abbrev cX6_isAsked : ByteArray := prog_8_method_41_code
def yX6_isAsked : MethodName := ⟨RX6, "isAsked", "(I)Z"⟩
abbrev cX6_readyAt : ByteArray := prog_8_method_42_code
def yX6_readyAt : MethodName := ⟨RX6, "readyAt", "(I)I"⟩
abbrev cX6_roomOf : ByteArray := prog_8_method_43_code
def yX6_roomOf : MethodName := ⟨RX6, "roomOf", "(I)I"⟩
abbrev cX6_coinsOf : ByteArray := prog_8_method_44_code
def yX6_coinsOf : MethodName := ⟨RX6, "coinsOf", "(I)I"⟩
abbrev cX6_healthOf : ByteArray := prog_8_method_45_code
def yX6_healthOf : MethodName := ⟨RX6, "healthOf", "(I)I"⟩
abbrev cX6_goodsOf : ByteArray := prog_8_method_46_code
def yX6_goodsOf : MethodName := ⟨RX6, "goodsOf", "(II)I"⟩
abbrev cX6_heard : ByteArray := prog_8_method_47_code
def yX6_heard : MethodName := ⟨RX6, "heard", "(II)I"⟩
abbrev cX6_stageOf : ByteArray := prog_8_method_48_code
def yX6_stageOf : MethodName := ⟨RX6, "stageOf", "(II)I"⟩
abbrev cX6_exit : ByteArray := prog_8_method_49_code
def yX6_exit : MethodName := ⟨RX6, "exit", "(II)I"⟩
abbrev cX6_distance : ByteArray := prog_8_method_50_code
def yX6_distance : MethodName := ⟨RX6, "distance", "(II)I"⟩
abbrev cX6_onFloor : ByteArray := prog_8_method_51_code
def yX6_onFloor : MethodName := ⟨RX6, "onFloor", "(II)I"⟩
abbrev cX6_stockOf : ByteArray := prog_8_method_52_code
def yX6_stockOf : MethodName := ⟨RX6, "stockOf", "(II)I"⟩
abbrev cX6_tillOf : ByteArray := prog_8_method_53_code
def yX6_tillOf : MethodName := ⟨RX6, "tillOf", "(I)I"⟩
abbrev cX6_purse : ByteArray := prog_8_method_54_code
def yX6_purse : MethodName := ⟨RX6, "purse", "()I"⟩
abbrev cX6_allCoins : ByteArray := prog_8_method_55_code
def yX6_allCoins : MethodName := ⟨RX6, "allCoins", "()I"⟩
abbrev cX6_allGoods : ByteArray := prog_8_method_56_code
def yX6_allGoods : MethodName := ⟨RX6, "allGoods", "(I)I"⟩
abbrev cX6_calls : ByteArray := prog_8_method_57_code
def yX6_calls : MethodName := ⟨RX6, "calls", "()I"⟩
abbrev cX6_wasThere : ByteArray := prog_8_method_58_code
def yX6_wasThere : MethodName := ⟨RX6, "wasThere", "(II)Z"⟩
abbrev cX6_roomAfter : ByteArray := prog_8_method_59_code
def yX6_roomAfter : MethodName := ⟨RX6, "roomAfter", "(II)I"⟩
abbrev cX6_coinsAfter : ByteArray := prog_8_method_60_code
def yX6_coinsAfter : MethodName := ⟨RX6, "coinsAfter", "(II)I"⟩
abbrev cX6_turnAfter : ByteArray := prog_8_method_61_code
def yX6_turnAfter : MethodName := ⟨RX6, "turnAfter", "(I)I"⟩
def RJx145de : String := "java/io/Serializable"
def TJx145de : u_T := fun k => match k with
  | _ => ("", "", "", false)
def tyJx145de : Nat → FieldType := fun k => match k with
  | _ => .int
theorem nmJx145de : ∀ a, a < 0 → ∀ b, b < 0 → a ≠ b → (TJx145de a).2.1 ≠ (TJx145de b).2.1 := by decide +kernel
theorem tyJx145de_ok : ∀ k, k < 0 → parseFieldDescriptor (TJx145de k).2.2.1 = some (tyJx145de k) := by decide +kernel
def RJ9 : String := "java/lang/Math"
def TJ9 : u_T := fun k => match k with
  | _ => ("", "", "", false)
def tyJ9 : Nat → FieldType := fun k => match k with
  | _ => .int
theorem nmJ9 : ∀ a, a < 0 → ∀ b, b < 0 → a ≠ b → (TJ9 a).2.1 ≠ (TJ9 b).2.1 := by decide +kernel
theorem tyJ9_ok : ∀ k, k < 0 → parseFieldDescriptor (TJ9 k).2.2.1 = some (tyJ9 k) := by decide +kernel
abbrev cJ9_abs_0f7a4 : ByteArray := prog_13_method_59_code
def yJ9_abs_0f7a4 : MethodName := ⟨RJ9, "abs", "(I)I"⟩
abbrev cJ9_max_7cf53 : ByteArray := prog_13_method_65_code
def yJ9_max_7cf53 : MethodName := ⟨RJ9, "max", "(II)I"⟩
abbrev cJ9_min_7cf53 : ByteArray := prog_13_method_69_code
def yJ9_min_7cf53 : MethodName := ⟨RJ9, "min", "(II)I"⟩
def RJ0 : String := "java/lang/String"
def TJ0 : u_T := fun k => match k with
  | _ => ("", "", "", false)
def tyJ0 : Nat → FieldType := fun k => match k with
  | _ => .int
theorem nmJ0 : ∀ a, a < 0 → ∀ b, b < 0 → a ≠ b → (TJ0 a).2.1 ≠ (TJ0 b).2.1 := by decide +kernel
theorem tyJ0_ok : ∀ k, k < 0 → parseFieldDescriptor (TJ0 k).2.2.1 = some (tyJ0 k) := by decide +kernel
def RJ7 : String := "java/util/Arrays"
def TJ7 : u_T := fun k => match k with
  | _ => ("", "", "", false)
def tyJ7 : Nat → FieldType := fun k => match k with
  | _ => .int
theorem nmJ7 : ∀ a, a < 0 → ∀ b, b < 0 → a ≠ b → (TJ7 a).2.1 ≠ (TJ7 b).2.1 := by decide +kernel
theorem tyJ7_ok : ∀ k, k < 0 → parseFieldDescriptor (TJ7 k).2.2.1 = some (tyJ7 k) := by decide +kernel
abbrev cJ7_fill_53178 : ByteArray := prog_17_method_103_code
def yJ7_fill_53178 : MethodName := ⟨RJ7, "fill", "([II)V"⟩
def RL : String := "MudCouncilLaw"
abbrev cL_link : ByteArray := method_3_code
def yL_link : MethodName := ⟨RL, "link", "(LMudCouncil;III)I"⟩
abbrev cL_shop : ByteArray := method_4_code
def yL_shop : MethodName := ⟨RL, "shop", "(LMudCouncil;II)I"⟩
abbrev cL_stock : ByteArray := method_5_code
def yL_stock : MethodName := ⟨RL, "stock", "(LMudCouncil;IIII[J)I"⟩
abbrev cL_scatter : ByteArray := method_6_code
def yL_scatter : MethodName := ⟨RL, "scatter", "(LMudCouncil;III[J)I"⟩
abbrev cL_join : ByteArray := method_7_code
def yL_join : MethodName := ⟨RL, "join", "(LMudCouncil;III[J)I"⟩
abbrev cL_quest : ByteArray := method_8_code
def yL_quest : MethodName := ⟨RL, "quest", "(LMudCouncil;I[J)I"⟩
abbrev cL_stage : ByteArray := method_9_code
def yL_stage : MethodName := ⟨RL, "stage", "(LMudCouncil;IIII[J)I"⟩
abbrev cL_endow : ByteArray := method_10_code
def yL_endow : MethodName := ⟨RL, "endow", "(LMudCouncil;I[J)I"⟩
abbrev cL_seed : ByteArray := method_11_code
def yL_seed : MethodName := ⟨RL, "seed", "(LMudCouncil;I)I"⟩
abbrev cL_go : ByteArray := method_12_code
def yL_go : MethodName := ⟨RL, "go", "(LMudCouncil;I[J)I"⟩
abbrev cL_say : ByteArray := method_13_code
def yL_say : MethodName := ⟨RL, "say", "(LMudCouncil;I[J)I"⟩
abbrev cL_shout : ByteArray := method_14_code
def yL_shout : MethodName := ⟨RL, "shout", "(LMudCouncil;I[J)I"⟩
abbrev cL_take : ByteArray := method_15_code
def yL_take : MethodName := ⟨RL, "take", "(LMudCouncil;I[J)I"⟩
abbrev cL_drop : ByteArray := method_16_code
def yL_drop : MethodName := ⟨RL, "drop", "(LMudCouncil;I[J)I"⟩
abbrev cL_give : ByteArray := method_17_code
def yL_give : MethodName := ⟨RL, "give", "(LMudCouncil;II[J)I"⟩
abbrev cL_pay : ByteArray := method_18_code
def yL_pay : MethodName := ⟨RL, "pay", "(LMudCouncil;II[J)I"⟩
abbrev cL_buy : ByteArray := method_19_code
def yL_buy : MethodName := ⟨RL, "buy", "(LMudCouncil;I[J)I"⟩
abbrev cL_sell : ByteArray := method_20_code
def yL_sell : MethodName := ⟨RL, "sell", "(LMudCouncil;I[J)I"⟩
abbrev cL_attack : ByteArray := method_21_code
def yL_attack : MethodName := ⟨RL, "attack", "(LMudCouncil;I[J)I"⟩
abbrev cL_rest : ByteArray := method_22_code
def yL_rest : MethodName := ⟨RL, "rest", "(LMudCouncil;[J)I"⟩
abbrev cL_readyAt : ByteArray := method_23_code
def yL_readyAt : MethodName := ⟨RL, "readyAt", "(LMudCouncil;I[J)I"⟩
abbrev cL_roomOf : ByteArray := method_24_code
def yL_roomOf : MethodName := ⟨RL, "roomOf", "(LMudCouncil;I[J)I"⟩
abbrev cL_coinsOf : ByteArray := method_25_code
def yL_coinsOf : MethodName := ⟨RL, "coinsOf", "(LMudCouncil;I[J)I"⟩
abbrev cL_healthOf : ByteArray := method_26_code
def yL_healthOf : MethodName := ⟨RL, "healthOf", "(LMudCouncil;I[J)I"⟩
abbrev cL_goodsOf : ByteArray := method_27_code
def yL_goodsOf : MethodName := ⟨RL, "goodsOf", "(LMudCouncil;II[J)I"⟩
abbrev cL_heard : ByteArray := method_28_code
def yL_heard : MethodName := ⟨RL, "heard", "(LMudCouncil;II[J)I"⟩
abbrev cL_stageOf : ByteArray := method_29_code
def yL_stageOf : MethodName := ⟨RL, "stageOf", "(LMudCouncil;II[J)I"⟩
abbrev cL_exit : ByteArray := method_30_code
def yL_exit : MethodName := ⟨RL, "exit", "(LMudCouncil;II[J)I"⟩
abbrev cL_distance : ByteArray := method_31_code
def yL_distance : MethodName := ⟨RL, "distance", "(LMudCouncil;II[J)I"⟩
abbrev cL_onFloor : ByteArray := method_32_code
def yL_onFloor : MethodName := ⟨RL, "onFloor", "(LMudCouncil;II[J)I"⟩
abbrev cL_stockOf : ByteArray := method_33_code
def yL_stockOf : MethodName := ⟨RL, "stockOf", "(LMudCouncil;II[J)I"⟩
abbrev cL_tillOf : ByteArray := method_34_code
def yL_tillOf : MethodName := ⟨RL, "tillOf", "(LMudCouncil;I[J)I"⟩
abbrev cL_allGoods : ByteArray := method_35_code
def yL_allGoods : MethodName := ⟨RL, "allGoods", "(LMudCouncil;I[J)I"⟩
abbrev cL_roomAfter : ByteArray := method_36_code
def yL_roomAfter : MethodName := ⟨RL, "roomAfter", "(LMudCouncil;II[J)I"⟩
abbrev cL_coinsAfter : ByteArray := method_37_code
def yL_coinsAfter : MethodName := ⟨RL, "coinsAfter", "(LMudCouncil;II[J)I"⟩
abbrev cL_turnAfter : ByteArray := method_38_code
def yL_turnAfter : MethodName := ⟨RL, "turnAfter", "(LMudCouncil;I[J)I"⟩
abbrev cL_law : ByteArray := code
def yL_law : MethodName := ⟨RL, "law", "([I)Z"⟩
theorem dX0_init_0 : decode cX0_init 0 = .ok (.aload_n 0, 1) := by decide +kernel
theorem dX0_init_1 : decode cX0_init 1 = .ok (.invokespecial 1, 3) := by decide +kernel
theorem dX0_init_4 : decode cX0_init 4 = .ok (.aload_n 0, 1) := by decide +kernel
theorem dX0_init_5 : decode cX0_init 5 = .ok (.sipush 2560, 3) := by decide +kernel
theorem dX0_init_8 : decode cX0_init 8 = .ok (.newarray .int, 2) := by decide +kernel
theorem dX0_init_10 : decode cX0_init 10 = .ok (.putfield 9, 3) := by decide +kernel
theorem dX0_init_13 : decode cX0_init 13 = .ok (.aload_n 0, 1) := by decide +kernel
theorem dX0_init_14 : decode cX0_init 14 = .ok (.iconst 0, 1) := by decide +kernel
theorem dX0_init_15 : decode cX0_init 15 = .ok (.putfield 13, 3) := by decide +kernel
theorem dX0_init_18 : decode cX0_init 18 = .ok (.return_, 1) := by decide +kernel
theorem dX0_add_0 : decode cX0_add 0 = .ok (.aload_n 0, 1) := by decide +kernel
theorem dX0_add_1 : decode cX0_add 1 = .ok (.getfield 13, 3) := by decide +kernel
theorem dX0_add_4 : decode cX0_add 4 = .ok (.sipush 512, 3) := by decide +kernel
theorem dX0_add_7 : decode cX0_add 7 = .ok (.if_icmp .lt 4, 3) := by decide +kernel
theorem dX0_add_10 : decode cX0_add 10 = .ok (.return_, 1) := by decide +kernel
theorem dX0_add_11 : decode cX0_add 11 = .ok (.aload_n 0, 1) := by decide +kernel
theorem dX0_add_12 : decode cX0_add 12 = .ok (.getfield 13, 3) := by decide +kernel
theorem dX0_add_15 : decode cX0_add 15 = .ok (.iconst 5, 1) := by decide +kernel
theorem dX0_add_16 : decode cX0_add 16 = .ok (.imul, 1) := by decide +kernel
theorem dX0_add_17 : decode cX0_add 17 = .ok (.istore 6, 2) := by decide +kernel
theorem dX0_add_19 : decode cX0_add 19 = .ok (.aload_n 0, 1) := by decide +kernel
theorem dX0_add_20 : decode cX0_add 20 = .ok (.getfield 9, 3) := by decide +kernel
theorem dX0_add_23 : decode cX0_add 23 = .ok (.iload 6, 2) := by decide +kernel
theorem dX0_add_25 : decode cX0_add 25 = .ok (.iload_n 1, 1) := by decide +kernel
theorem dX0_add_26 : decode cX0_add 26 = .ok (.iastore, 1) := by decide +kernel
theorem dX0_add_27 : decode cX0_add 27 = .ok (.aload_n 0, 1) := by decide +kernel
theorem dX0_add_28 : decode cX0_add 28 = .ok (.getfield 9, 3) := by decide +kernel
theorem dX0_add_31 : decode cX0_add 31 = .ok (.iload 6, 2) := by decide +kernel
theorem dX0_add_33 : decode cX0_add 33 = .ok (.iconst 1, 1) := by decide +kernel
theorem dX0_add_34 : decode cX0_add 34 = .ok (.iadd, 1) := by decide +kernel
theorem dX0_add_35 : decode cX0_add 35 = .ok (.iload_n 2, 1) := by decide +kernel
theorem dX0_add_36 : decode cX0_add 36 = .ok (.iastore, 1) := by decide +kernel
theorem dX0_add_37 : decode cX0_add 37 = .ok (.aload_n 0, 1) := by decide +kernel
theorem dX0_add_38 : decode cX0_add 38 = .ok (.getfield 9, 3) := by decide +kernel
theorem dX0_add_41 : decode cX0_add 41 = .ok (.iload 6, 2) := by decide +kernel
theorem dX0_add_43 : decode cX0_add 43 = .ok (.iconst 2, 1) := by decide +kernel
theorem dX0_add_44 : decode cX0_add 44 = .ok (.iadd, 1) := by decide +kernel
theorem dX0_add_45 : decode cX0_add 45 = .ok (.iload_n 3, 1) := by decide +kernel
theorem dX0_add_46 : decode cX0_add 46 = .ok (.iastore, 1) := by decide +kernel
theorem dX0_add_47 : decode cX0_add 47 = .ok (.aload_n 0, 1) := by decide +kernel
theorem dX0_add_48 : decode cX0_add 48 = .ok (.getfield 9, 3) := by decide +kernel
theorem dX0_add_51 : decode cX0_add 51 = .ok (.iload 6, 2) := by decide +kernel
theorem dX0_add_53 : decode cX0_add 53 = .ok (.iconst 3, 1) := by decide +kernel
theorem dX0_add_54 : decode cX0_add 54 = .ok (.iadd, 1) := by decide +kernel
theorem dX0_add_55 : decode cX0_add 55 = .ok (.iload 4, 2) := by decide +kernel
theorem dX0_add_57 : decode cX0_add 57 = .ok (.iastore, 1) := by decide +kernel
theorem dX0_add_58 : decode cX0_add 58 = .ok (.aload_n 0, 1) := by decide +kernel
theorem dX0_add_59 : decode cX0_add 59 = .ok (.getfield 9, 3) := by decide +kernel
theorem dX0_add_62 : decode cX0_add 62 = .ok (.iload 6, 2) := by decide +kernel
theorem dX0_add_64 : decode cX0_add 64 = .ok (.iconst 4, 1) := by decide +kernel
theorem dX0_add_65 : decode cX0_add 65 = .ok (.iadd, 1) := by decide +kernel
theorem dX0_add_66 : decode cX0_add 66 = .ok (.iload 5, 2) := by decide +kernel
theorem dX0_add_68 : decode cX0_add 68 = .ok (.iastore, 1) := by decide +kernel
theorem dX0_add_69 : decode cX0_add 69 = .ok (.aload_n 0, 1) := by decide +kernel
theorem dX0_add_70 : decode cX0_add 70 = .ok (.dup, 1) := by decide +kernel
theorem dX0_add_71 : decode cX0_add 71 = .ok (.getfield 13, 3) := by decide +kernel
theorem dX0_add_74 : decode cX0_add 74 = .ok (.iconst 1, 1) := by decide +kernel
theorem dX0_add_75 : decode cX0_add 75 = .ok (.iadd, 1) := by decide +kernel
theorem dX0_add_76 : decode cX0_add 76 = .ok (.putfield 13, 3) := by decide +kernel
theorem dX0_add_79 : decode cX0_add 79 = .ok (.return_, 1) := by decide +kernel
theorem dX1_init_0 : decode cX1_init 0 = .ok (.aload_n 0, 1) := by decide +kernel
theorem dX1_init_1 : decode cX1_init 1 = .ok (.invokespecial 3, 3) := by decide +kernel
theorem dX1_init_4 : decode cX1_init 4 = .ok (.aload_n 0, 1) := by decide +kernel
theorem dX1_init_5 : decode cX1_init 5 = .ok (.iconst 0, 1) := by decide +kernel
theorem dX1_init_6 : decode cX1_init 6 = .ok (.putfield 9, 3) := by decide +kernel
theorem dX1_init_9 : decode cX1_init 9 = .ok (.aload_n 0, 1) := by decide +kernel
theorem dX1_init_10 : decode cX1_init 10 = .ok (.iconst 4, 1) := by decide +kernel
theorem dX1_init_11 : decode cX1_init 11 = .ok (.newarray .int, 2) := by decide +kernel
theorem dX1_init_13 : decode cX1_init 13 = .ok (.putfield 15, 3) := by decide +kernel
theorem dX1_init_16 : decode cX1_init 16 = .ok (.aload_n 0, 1) := by decide +kernel
theorem dX1_init_17 : decode cX1_init 17 = .ok (.iconst 4, 1) := by decide +kernel
theorem dX1_init_18 : decode cX1_init 18 = .ok (.newarray .int, 2) := by decide +kernel
theorem dX1_init_20 : decode cX1_init 20 = .ok (.putfield 19, 3) := by decide +kernel
theorem dX1_init_23 : decode cX1_init 23 = .ok (.aload_n 0, 1) := by decide +kernel
theorem dX1_init_24 : decode cX1_init 24 = .ok (.iconst 4, 1) := by decide +kernel
theorem dX1_init_25 : decode cX1_init 25 = .ok (.newarray .int, 2) := by decide +kernel
theorem dX1_init_27 : decode cX1_init 27 = .ok (.putfield 22, 3) := by decide +kernel
theorem dX1_init_30 : decode cX1_init 30 = .ok (.aload_n 0, 1) := by decide +kernel
theorem dX1_init_31 : decode cX1_init 31 = .ok (.iconst 4, 1) := by decide +kernel
theorem dX1_init_32 : decode cX1_init 32 = .ok (.newarray .int, 2) := by decide +kernel
theorem dX1_init_34 : decode cX1_init 34 = .ok (.putfield 25, 3) := by decide +kernel
theorem dX1_init_37 : decode cX1_init 37 = .ok (.aload_n 0, 1) := by decide +kernel
theorem dX1_init_38 : decode cX1_init 38 = .ok (.iconst 4, 1) := by decide +kernel
theorem dX1_init_39 : decode cX1_init 39 = .ok (.newarray .int, 2) := by decide +kernel
theorem dX1_init_41 : decode cX1_init 41 = .ok (.putfield 28, 3) := by decide +kernel
theorem dX1_init_44 : decode cX1_init 44 = .ok (.aload_n 0, 1) := by decide +kernel
theorem dX1_init_45 : decode cX1_init 45 = .ok (.bipush 20, 2) := by decide +kernel
theorem dX1_init_47 : decode cX1_init 47 = .ok (.newarray .int, 2) := by decide +kernel
theorem dX1_init_49 : decode cX1_init 49 = .ok (.putfield 31, 3) := by decide +kernel
theorem dX1_init_52 : decode cX1_init 52 = .ok (.aload_n 0, 1) := by decide +kernel
theorem dX1_init_53 : decode cX1_init 53 = .ok (.bipush 12, 2) := by decide +kernel
theorem dX1_init_55 : decode cX1_init 55 = .ok (.newarray .int, 2) := by decide +kernel
theorem dX1_init_57 : decode cX1_init 57 = .ok (.putfield 34, 3) := by decide +kernel
theorem dX1_init_60 : decode cX1_init 60 = .ok (.aload_n 0, 1) := by decide +kernel
theorem dX1_init_61 : decode cX1_init 61 = .ok (.bipush 24, 2) := by decide +kernel
theorem dX1_init_63 : decode cX1_init 63 = .ok (.newarray .int, 2) := by decide +kernel
theorem dX1_init_65 : decode cX1_init 65 = .ok (.putfield 37, 3) := by decide +kernel
theorem dX1_init_68 : decode cX1_init 68 = .ok (.aload_n 0, 1) := by decide +kernel
theorem dX1_init_69 : decode cX1_init 69 = .ok (.iconst 4, 1) := by decide +kernel
theorem dX1_init_70 : decode cX1_init 70 = .ok (.newarray .int, 2) := by decide +kernel
theorem dX1_init_72 : decode cX1_init 72 = .ok (.putfield 40, 3) := by decide +kernel
theorem dX1_init_75 : decode cX1_init 75 = .ok (.return_, 1) := by decide +kernel
theorem dX1_clear_0 : decode cX1_clear 0 = .ok (.aload_n 0, 1) := by decide +kernel
theorem dX1_clear_1 : decode cX1_clear 1 = .ok (.iconst 0, 1) := by decide +kernel
theorem dX1_clear_2 : decode cX1_clear 2 = .ok (.putfield 9, 3) := by decide +kernel
theorem dX1_clear_5 : decode cX1_clear 5 = .ok (.aload_n 0, 1) := by decide +kernel
theorem dX1_clear_6 : decode cX1_clear 6 = .ok (.getfield 31, 3) := by decide +kernel
theorem dX1_clear_9 : decode cX1_clear 9 = .ok (.iconst 0, 1) := by decide +kernel
theorem dX1_clear_10 : decode cX1_clear 10 = .ok (.invokestatic 43, 3) := by decide +kernel
theorem dX1_clear_13 : decode cX1_clear 13 = .ok (.aload_n 0, 1) := by decide +kernel
theorem dX1_clear_14 : decode cX1_clear 14 = .ok (.getfield 34, 3) := by decide +kernel
theorem dX1_clear_17 : decode cX1_clear 17 = .ok (.iconst 0, 1) := by decide +kernel
theorem dX1_clear_18 : decode cX1_clear 18 = .ok (.invokestatic 43, 3) := by decide +kernel
theorem dX1_clear_21 : decode cX1_clear 21 = .ok (.aload_n 0, 1) := by decide +kernel
theorem dX1_clear_22 : decode cX1_clear 22 = .ok (.getfield 40, 3) := by decide +kernel
theorem dX1_clear_25 : decode cX1_clear 25 = .ok (.iconst 0, 1) := by decide +kernel
theorem dX1_clear_26 : decode cX1_clear 26 = .ok (.invokestatic 43, 3) := by decide +kernel
theorem dX1_clear_29 : decode cX1_clear 29 = .ok (.return_, 1) := by decide +kernel
theorem dX1_add_0 : decode cX1_add 0 = .ok (.aload_n 0, 1) := by decide +kernel
theorem dX1_add_1 : decode cX1_add 1 = .ok (.getfield 9, 3) := by decide +kernel
theorem dX1_add_4 : decode cX1_add 4 = .ok (.istore 4, 2) := by decide +kernel
theorem dX1_add_6 : decode cX1_add 6 = .ok (.aload_n 0, 1) := by decide +kernel
theorem dX1_add_7 : decode cX1_add 7 = .ok (.getfield 15, 3) := by decide +kernel
theorem dX1_add_10 : decode cX1_add 10 = .ok (.iload 4, 2) := by decide +kernel
theorem dX1_add_12 : decode cX1_add 12 = .ok (.iload_n 1, 1) := by decide +kernel
theorem dX1_add_13 : decode cX1_add 13 = .ok (.iastore, 1) := by decide +kernel
theorem dX1_add_14 : decode cX1_add 14 = .ok (.aload_n 0, 1) := by decide +kernel
theorem dX1_add_15 : decode cX1_add 15 = .ok (.getfield 19, 3) := by decide +kernel
theorem dX1_add_18 : decode cX1_add 18 = .ok (.iload 4, 2) := by decide +kernel
theorem dX1_add_20 : decode cX1_add 20 = .ok (.iload_n 2, 1) := by decide +kernel
theorem dX1_add_21 : decode cX1_add 21 = .ok (.iastore, 1) := by decide +kernel
theorem dX1_add_22 : decode cX1_add 22 = .ok (.aload_n 0, 1) := by decide +kernel
theorem dX1_add_23 : decode cX1_add 23 = .ok (.getfield 22, 3) := by decide +kernel
theorem dX1_add_26 : decode cX1_add 26 = .ok (.iload 4, 2) := by decide +kernel
theorem dX1_add_28 : decode cX1_add 28 = .ok (.iload_n 3, 1) := by decide +kernel
theorem dX1_add_29 : decode cX1_add 29 = .ok (.iastore, 1) := by decide +kernel
theorem dX1_add_30 : decode cX1_add 30 = .ok (.aload_n 0, 1) := by decide +kernel
theorem dX1_add_31 : decode cX1_add 31 = .ok (.getfield 25, 3) := by decide +kernel
theorem dX1_add_34 : decode cX1_add 34 = .ok (.iload 4, 2) := by decide +kernel
theorem dX1_add_36 : decode cX1_add 36 = .ok (.bipush 20, 2) := by decide +kernel
theorem dX1_add_38 : decode cX1_add 38 = .ok (.iastore, 1) := by decide +kernel
theorem dX1_add_39 : decode cX1_add 39 = .ok (.aload_n 0, 1) := by decide +kernel
theorem dX1_add_40 : decode cX1_add 40 = .ok (.getfield 28, 3) := by decide +kernel
theorem dX1_add_43 : decode cX1_add 43 = .ok (.iload 4, 2) := by decide +kernel
theorem dX1_add_45 : decode cX1_add 45 = .ok (.iconst 0, 1) := by decide +kernel
theorem dX1_add_46 : decode cX1_add 46 = .ok (.iastore, 1) := by decide +kernel
theorem dX1_add_47 : decode cX1_add 47 = .ok (.aload_n 0, 1) := by decide +kernel
theorem dX1_add_48 : decode cX1_add 48 = .ok (.dup, 1) := by decide +kernel
theorem dX1_add_49 : decode cX1_add 49 = .ok (.getfield 9, 3) := by decide +kernel
theorem dX1_add_52 : decode cX1_add 52 = .ok (.iconst 1, 1) := by decide +kernel
theorem dX1_add_53 : decode cX1_add 53 = .ok (.iadd, 1) := by decide +kernel
theorem dX1_add_54 : decode cX1_add 54 = .ok (.putfield 9, 3) := by decide +kernel
theorem dX1_add_57 : decode cX1_add 57 = .ok (.iload 4, 2) := by decide +kernel
theorem dX1_add_59 : decode cX1_add 59 = .ok (.ireturn, 1) := by decide +kernel
theorem dX1_next_0 : decode cX1_next 0 = .ok (.iconst (-1), 1) := by decide +kernel
theorem dX1_next_1 : decode cX1_next 1 = .ok (.istore_n 1, 1) := by decide +kernel
theorem dX1_next_2 : decode cX1_next 2 = .ok (.iconst 0, 1) := by decide +kernel
theorem dX1_next_3 : decode cX1_next 3 = .ok (.istore_n 2, 1) := by decide +kernel
theorem dX1_next_4 : decode cX1_next 4 = .ok (.iload_n 2, 1) := by decide +kernel
theorem dX1_next_5 : decode cX1_next 5 = .ok (.aload_n 0, 1) := by decide +kernel
theorem dX1_next_6 : decode cX1_next 6 = .ok (.getfield 9, 3) := by decide +kernel
theorem dX1_next_9 : decode cX1_next 9 = .ok (.if_icmp .ge 31, 3) := by decide +kernel
theorem dX1_next_12 : decode cX1_next 12 = .ok (.iload_n 1, 1) := by decide +kernel
theorem dX1_next_13 : decode cX1_next 13 = .ok (.iconst (-1), 1) := by decide +kernel
theorem dX1_next_14 : decode cX1_next 14 = .ok (.if_icmp .eq 18, 3) := by decide +kernel
theorem dX1_next_17 : decode cX1_next 17 = .ok (.aload_n 0, 1) := by decide +kernel
theorem dX1_next_18 : decode cX1_next 18 = .ok (.getfield 28, 3) := by decide +kernel
theorem dX1_next_21 : decode cX1_next 21 = .ok (.iload_n 2, 1) := by decide +kernel
theorem dX1_next_22 : decode cX1_next 22 = .ok (.iaload, 1) := by decide +kernel
theorem dX1_next_23 : decode cX1_next 23 = .ok (.aload_n 0, 1) := by decide +kernel
theorem dX1_next_24 : decode cX1_next 24 = .ok (.getfield 28, 3) := by decide +kernel
theorem dX1_next_27 : decode cX1_next 27 = .ok (.iload_n 1, 1) := by decide +kernel
theorem dX1_next_28 : decode cX1_next 28 = .ok (.iaload, 1) := by decide +kernel
theorem dX1_next_29 : decode cX1_next 29 = .ok (.if_icmp .ge 5, 3) := by decide +kernel
theorem dX1_next_32 : decode cX1_next 32 = .ok (.iload_n 2, 1) := by decide +kernel
theorem dX1_next_33 : decode cX1_next 33 = .ok (.istore_n 1, 1) := by decide +kernel
theorem dX1_next_34 : decode cX1_next 34 = .ok (.iinc 2 1, 3) := by decide +kernel
theorem dX1_next_37 : decode cX1_next 37 = .ok (.goto (-33), 3) := by decide +kernel
theorem dX1_next_40 : decode cX1_next 40 = .ok (.iload_n 1, 1) := by decide +kernel
theorem dX1_next_41 : decode cX1_next 41 = .ok (.ireturn, 1) := by decide +kernel
theorem dX1_addGoods_0 : decode cX1_addGoods 0 = .ok (.iload_n 1, 1) := by decide +kernel
theorem dX1_addGoods_1 : decode cX1_addGoods 1 = .ok (.iload_n 2, 1) := by decide +kernel
theorem dX1_addGoods_2 : decode cX1_addGoods 2 = .ok (.invokestatic 49, 3) := by decide +kernel
theorem dX1_addGoods_5 : decode cX1_addGoods 5 = .ok (.istore 4, 2) := by decide +kernel
theorem dX1_addGoods_7 : decode cX1_addGoods 7 = .ok (.aload_n 0, 1) := by decide +kernel
theorem dX1_addGoods_8 : decode cX1_addGoods 8 = .ok (.getfield 31, 3) := by decide +kernel
theorem dX1_addGoods_11 : decode cX1_addGoods 11 = .ok (.iload 4, 2) := by decide +kernel
theorem dX1_addGoods_13 : decode cX1_addGoods 13 = .ok (.dup2, 1) := by decide +kernel
theorem dX1_addGoods_14 : decode cX1_addGoods 14 = .ok (.iaload, 1) := by decide +kernel
theorem dX1_addGoods_15 : decode cX1_addGoods 15 = .ok (.iload_n 3, 1) := by decide +kernel
theorem dX1_addGoods_16 : decode cX1_addGoods 16 = .ok (.iadd, 1) := by decide +kernel
theorem dX1_addGoods_17 : decode cX1_addGoods 17 = .ok (.iastore, 1) := by decide +kernel
theorem dX1_addGoods_18 : decode cX1_addGoods 18 = .ok (.aload_n 0, 1) := by decide +kernel
theorem dX1_addGoods_19 : decode cX1_addGoods 19 = .ok (.getfield 31, 3) := by decide +kernel
theorem dX1_addGoods_22 : decode cX1_addGoods 22 = .ok (.iload 4, 2) := by decide +kernel
theorem dX1_addGoods_24 : decode cX1_addGoods 24 = .ok (.iaload, 1) := by decide +kernel
theorem dX1_addGoods_25 : decode cX1_addGoods 25 = .ok (.ireturn, 1) := by decide +kernel
theorem dX1_payOut_0 : decode cX1_payOut 0 = .ok (.aload_n 0, 1) := by decide +kernel
theorem dX1_payOut_1 : decode cX1_payOut 1 = .ok (.getfield 19, 3) := by decide +kernel
theorem dX1_payOut_4 : decode cX1_payOut 4 = .ok (.iload_n 1, 1) := by decide +kernel
theorem dX1_payOut_5 : decode cX1_payOut 5 = .ok (.dup2, 1) := by decide +kernel
theorem dX1_payOut_6 : decode cX1_payOut 6 = .ok (.iaload, 1) := by decide +kernel
theorem dX1_payOut_7 : decode cX1_payOut 7 = .ok (.iload_n 3, 1) := by decide +kernel
theorem dX1_payOut_8 : decode cX1_payOut 8 = .ok (.isub, 1) := by decide +kernel
theorem dX1_payOut_9 : decode cX1_payOut 9 = .ok (.iastore, 1) := by decide +kernel
theorem dX1_payOut_10 : decode cX1_payOut 10 = .ok (.aload_n 0, 1) := by decide +kernel
theorem dX1_payOut_11 : decode cX1_payOut 11 = .ok (.getfield 19, 3) := by decide +kernel
theorem dX1_payOut_14 : decode cX1_payOut 14 = .ok (.iload_n 2, 1) := by decide +kernel
theorem dX1_payOut_15 : decode cX1_payOut 15 = .ok (.dup2, 1) := by decide +kernel
theorem dX1_payOut_16 : decode cX1_payOut 16 = .ok (.iaload, 1) := by decide +kernel
theorem dX1_payOut_17 : decode cX1_payOut 17 = .ok (.iload_n 3, 1) := by decide +kernel
theorem dX1_payOut_18 : decode cX1_payOut 18 = .ok (.iadd, 1) := by decide +kernel
theorem dX1_payOut_19 : decode cX1_payOut 19 = .ok (.iastore, 1) := by decide +kernel
theorem dX1_payOut_20 : decode cX1_payOut 20 = .ok (.return_, 1) := by decide +kernel
theorem dX1_hear_0 : decode cX1_hear 0 = .ok (.iload_n 1, 1) := by decide +kernel
theorem dX1_hear_1 : decode cX1_hear 1 = .ok (.bipush 6, 2) := by decide +kernel
theorem dX1_hear_3 : decode cX1_hear 3 = .ok (.imul, 1) := by decide +kernel
theorem dX1_hear_4 : decode cX1_hear 4 = .ok (.istore_n 3, 1) := by decide +kernel
theorem dX1_hear_5 : decode cX1_hear 5 = .ok (.iconst 5, 1) := by decide +kernel
theorem dX1_hear_6 : decode cX1_hear 6 = .ok (.istore 4, 2) := by decide +kernel
theorem dX1_hear_8 : decode cX1_hear 8 = .ok (.iload 4, 2) := by decide +kernel
theorem dX1_hear_10 : decode cX1_hear 10 = .ok (.ifCond .le 29, 3) := by decide +kernel
theorem dX1_hear_13 : decode cX1_hear 13 = .ok (.aload_n 0, 1) := by decide +kernel
theorem dX1_hear_14 : decode cX1_hear 14 = .ok (.getfield 37, 3) := by decide +kernel
theorem dX1_hear_17 : decode cX1_hear 17 = .ok (.iload_n 3, 1) := by decide +kernel
theorem dX1_hear_18 : decode cX1_hear 18 = .ok (.iload 4, 2) := by decide +kernel
theorem dX1_hear_20 : decode cX1_hear 20 = .ok (.iadd, 1) := by decide +kernel
theorem dX1_hear_21 : decode cX1_hear 21 = .ok (.aload_n 0, 1) := by decide +kernel
theorem dX1_hear_22 : decode cX1_hear 22 = .ok (.getfield 37, 3) := by decide +kernel
theorem dX1_hear_25 : decode cX1_hear 25 = .ok (.iload_n 3, 1) := by decide +kernel
theorem dX1_hear_26 : decode cX1_hear 26 = .ok (.iload 4, 2) := by decide +kernel
theorem dX1_hear_28 : decode cX1_hear 28 = .ok (.iadd, 1) := by decide +kernel
theorem dX1_hear_29 : decode cX1_hear 29 = .ok (.iconst 1, 1) := by decide +kernel
theorem dX1_hear_30 : decode cX1_hear 30 = .ok (.isub, 1) := by decide +kernel
theorem dX1_hear_31 : decode cX1_hear 31 = .ok (.iaload, 1) := by decide +kernel
theorem dX1_hear_32 : decode cX1_hear 32 = .ok (.iastore, 1) := by decide +kernel
theorem dX1_hear_33 : decode cX1_hear 33 = .ok (.iinc 4 (-1), 3) := by decide +kernel
theorem dX1_hear_36 : decode cX1_hear 36 = .ok (.goto (-28), 3) := by decide +kernel
theorem dX1_hear_39 : decode cX1_hear 39 = .ok (.aload_n 0, 1) := by decide +kernel
theorem dX1_hear_40 : decode cX1_hear 40 = .ok (.getfield 37, 3) := by decide +kernel
theorem dX1_hear_43 : decode cX1_hear 43 = .ok (.iload_n 3, 1) := by decide +kernel
theorem dX1_hear_44 : decode cX1_hear 44 = .ok (.iload_n 2, 1) := by decide +kernel
theorem dX1_hear_45 : decode cX1_hear 45 = .ok (.iastore, 1) := by decide +kernel
theorem dX1_hear_46 : decode cX1_hear 46 = .ok (.aload_n 0, 1) := by decide +kernel
theorem dX1_hear_47 : decode cX1_hear 47 = .ok (.getfield 40, 3) := by decide +kernel
theorem dX1_hear_50 : decode cX1_hear 50 = .ok (.iload_n 1, 1) := by decide +kernel
theorem dX1_hear_51 : decode cX1_hear 51 = .ok (.aload_n 0, 1) := by decide +kernel
theorem dX1_hear_52 : decode cX1_hear 52 = .ok (.getfield 40, 3) := by decide +kernel
theorem dX1_hear_55 : decode cX1_hear 55 = .ok (.iload_n 1, 1) := by decide +kernel
theorem dX1_hear_56 : decode cX1_hear 56 = .ok (.iaload, 1) := by decide +kernel
theorem dX1_hear_57 : decode cX1_hear 57 = .ok (.iconst 1, 1) := by decide +kernel
theorem dX1_hear_58 : decode cX1_hear 58 = .ok (.iadd, 1) := by decide +kernel
theorem dX1_hear_59 : decode cX1_hear 59 = .ok (.bipush 6, 2) := by decide +kernel
theorem dX1_hear_61 : decode cX1_hear 61 = .ok (.invokestatic 53, 3) := by decide +kernel
theorem dX1_hear_64 : decode cX1_hear 64 = .ok (.iastore, 1) := by decide +kernel
theorem dX1_hear_65 : decode cX1_hear 65 = .ok (.return_, 1) := by decide +kernel
theorem dX1_isBegun_0 : decode cX1_isBegun 0 = .ok (.iconst 0, 1) := by decide +kernel
theorem dX1_isBegun_1 : decode cX1_isBegun 1 = .ok (.istore_n 2, 1) := by decide +kernel
theorem dX1_isBegun_2 : decode cX1_isBegun 2 = .ok (.iload_n 2, 1) := by decide +kernel
theorem dX1_isBegun_3 : decode cX1_isBegun 3 = .ok (.aload_n 0, 1) := by decide +kernel
theorem dX1_isBegun_4 : decode cX1_isBegun 4 = .ok (.getfield 9, 3) := by decide +kernel
theorem dX1_isBegun_7 : decode cX1_isBegun 7 = .ok (.if_icmp .ge 24, 3) := by decide +kernel
theorem dX1_isBegun_10 : decode cX1_isBegun 10 = .ok (.aload_n 0, 1) := by decide +kernel
theorem dX1_isBegun_11 : decode cX1_isBegun 11 = .ok (.getfield 34, 3) := by decide +kernel
theorem dX1_isBegun_14 : decode cX1_isBegun 14 = .ok (.iload_n 2, 1) := by decide +kernel
theorem dX1_isBegun_15 : decode cX1_isBegun 15 = .ok (.iload_n 1, 1) := by decide +kernel
theorem dX1_isBegun_16 : decode cX1_isBegun 16 = .ok (.invokestatic 58, 3) := by decide +kernel
theorem dX1_isBegun_19 : decode cX1_isBegun 19 = .ok (.iaload, 1) := by decide +kernel
theorem dX1_isBegun_20 : decode cX1_isBegun 20 = .ok (.ifCond .le 5, 3) := by decide +kernel
theorem dX1_isBegun_23 : decode cX1_isBegun 23 = .ok (.iconst 1, 1) := by decide +kernel
theorem dX1_isBegun_24 : decode cX1_isBegun 24 = .ok (.ireturn, 1) := by decide +kernel
theorem dX1_isBegun_25 : decode cX1_isBegun 25 = .ok (.iinc 2 1, 3) := by decide +kernel
theorem dX1_isBegun_28 : decode cX1_isBegun 28 = .ok (.goto (-26), 3) := by decide +kernel
theorem dX1_isBegun_31 : decode cX1_isBegun 31 = .ok (.iconst 0, 1) := by decide +kernel
theorem dX1_isBegun_32 : decode cX1_isBegun 32 = .ok (.ireturn, 1) := by decide +kernel
theorem dX1_sumOfCoins_0 : decode cX1_sumOfCoins 0 = .ok (.iconst 0, 1) := by decide +kernel
theorem dX1_sumOfCoins_1 : decode cX1_sumOfCoins 1 = .ok (.istore_n 1, 1) := by decide +kernel
theorem dX1_sumOfCoins_2 : decode cX1_sumOfCoins 2 = .ok (.iconst 0, 1) := by decide +kernel
theorem dX1_sumOfCoins_3 : decode cX1_sumOfCoins 3 = .ok (.istore_n 2, 1) := by decide +kernel
theorem dX1_sumOfCoins_4 : decode cX1_sumOfCoins 4 = .ok (.iload_n 2, 1) := by decide +kernel
theorem dX1_sumOfCoins_5 : decode cX1_sumOfCoins 5 = .ok (.aload_n 0, 1) := by decide +kernel
theorem dX1_sumOfCoins_6 : decode cX1_sumOfCoins 6 = .ok (.getfield 9, 3) := by decide +kernel
theorem dX1_sumOfCoins_9 : decode cX1_sumOfCoins 9 = .ok (.if_icmp .ge 18, 3) := by decide +kernel
theorem dX1_sumOfCoins_12 : decode cX1_sumOfCoins 12 = .ok (.iload_n 1, 1) := by decide +kernel
theorem dX1_sumOfCoins_13 : decode cX1_sumOfCoins 13 = .ok (.aload_n 0, 1) := by decide +kernel
theorem dX1_sumOfCoins_14 : decode cX1_sumOfCoins 14 = .ok (.getfield 19, 3) := by decide +kernel
theorem dX1_sumOfCoins_17 : decode cX1_sumOfCoins 17 = .ok (.iload_n 2, 1) := by decide +kernel
theorem dX1_sumOfCoins_18 : decode cX1_sumOfCoins 18 = .ok (.iaload, 1) := by decide +kernel
theorem dX1_sumOfCoins_19 : decode cX1_sumOfCoins 19 = .ok (.iadd, 1) := by decide +kernel
theorem dX1_sumOfCoins_20 : decode cX1_sumOfCoins 20 = .ok (.istore_n 1, 1) := by decide +kernel
theorem dX1_sumOfCoins_21 : decode cX1_sumOfCoins 21 = .ok (.iinc 2 1, 3) := by decide +kernel
theorem dX1_sumOfCoins_24 : decode cX1_sumOfCoins 24 = .ok (.goto (-20), 3) := by decide +kernel
theorem dX1_sumOfCoins_27 : decode cX1_sumOfCoins 27 = .ok (.iload_n 1, 1) := by decide +kernel
theorem dX1_sumOfCoins_28 : decode cX1_sumOfCoins 28 = .ok (.ireturn, 1) := by decide +kernel
theorem dX1_sumOfGoods_0 : decode cX1_sumOfGoods 0 = .ok (.iconst 0, 1) := by decide +kernel
theorem dX1_sumOfGoods_1 : decode cX1_sumOfGoods 1 = .ok (.istore_n 2, 1) := by decide +kernel
theorem dX1_sumOfGoods_2 : decode cX1_sumOfGoods 2 = .ok (.iconst 0, 1) := by decide +kernel
theorem dX1_sumOfGoods_3 : decode cX1_sumOfGoods 3 = .ok (.istore_n 3, 1) := by decide +kernel
theorem dX1_sumOfGoods_4 : decode cX1_sumOfGoods 4 = .ok (.iload_n 3, 1) := by decide +kernel
theorem dX1_sumOfGoods_5 : decode cX1_sumOfGoods 5 = .ok (.aload_n 0, 1) := by decide +kernel
theorem dX1_sumOfGoods_6 : decode cX1_sumOfGoods 6 = .ok (.getfield 9, 3) := by decide +kernel
theorem dX1_sumOfGoods_9 : decode cX1_sumOfGoods 9 = .ok (.if_icmp .ge 22, 3) := by decide +kernel
theorem dX1_sumOfGoods_12 : decode cX1_sumOfGoods 12 = .ok (.iload_n 2, 1) := by decide +kernel
theorem dX1_sumOfGoods_13 : decode cX1_sumOfGoods 13 = .ok (.aload_n 0, 1) := by decide +kernel
theorem dX1_sumOfGoods_14 : decode cX1_sumOfGoods 14 = .ok (.getfield 31, 3) := by decide +kernel
theorem dX1_sumOfGoods_17 : decode cX1_sumOfGoods 17 = .ok (.iload_n 3, 1) := by decide +kernel
theorem dX1_sumOfGoods_18 : decode cX1_sumOfGoods 18 = .ok (.iload_n 1, 1) := by decide +kernel
theorem dX1_sumOfGoods_19 : decode cX1_sumOfGoods 19 = .ok (.invokestatic 49, 3) := by decide +kernel
theorem dX1_sumOfGoods_22 : decode cX1_sumOfGoods 22 = .ok (.iaload, 1) := by decide +kernel
theorem dX1_sumOfGoods_23 : decode cX1_sumOfGoods 23 = .ok (.iadd, 1) := by decide +kernel
theorem dX1_sumOfGoods_24 : decode cX1_sumOfGoods 24 = .ok (.istore_n 2, 1) := by decide +kernel
theorem dX1_sumOfGoods_25 : decode cX1_sumOfGoods 25 = .ok (.iinc 3 1, 3) := by decide +kernel
theorem dX1_sumOfGoods_28 : decode cX1_sumOfGoods 28 = .ok (.goto (-24), 3) := by decide +kernel
theorem dX1_sumOfGoods_31 : decode cX1_sumOfGoods 31 = .ok (.iload_n 2, 1) := by decide +kernel
theorem dX1_sumOfGoods_32 : decode cX1_sumOfGoods 32 = .ok (.ireturn, 1) := by decide +kernel
theorem dX2_init_0 : decode cX2_init 0 = .ok (.aload_n 0, 1) := by decide +kernel
theorem dX2_init_1 : decode cX2_init 1 = .ok (.invokespecial 3, 3) := by decide +kernel
theorem dX2_init_4 : decode cX2_init 4 = .ok (.aload_n 0, 1) := by decide +kernel
theorem dX2_init_5 : decode cX2_init 5 = .ok (.bipush 32, 2) := by decide +kernel
theorem dX2_init_7 : decode cX2_init 7 = .ok (.newarray .int, 2) := by decide +kernel
theorem dX2_init_9 : decode cX2_init 9 = .ok (.putfield 9, 3) := by decide +kernel
theorem dX2_init_12 : decode cX2_init 12 = .ok (.aload_n 0, 1) := by decide +kernel
theorem dX2_init_13 : decode cX2_init 13 = .ok (.bipush 8, 2) := by decide +kernel
theorem dX2_init_15 : decode cX2_init 15 = .ok (.newarray .int, 2) := by decide +kernel
theorem dX2_init_17 : decode cX2_init 17 = .ok (.putfield 15, 3) := by decide +kernel
theorem dX2_init_20 : decode cX2_init 20 = .ok (.aload_n 0, 1) := by decide +kernel
theorem dX2_init_21 : decode cX2_init 21 = .ok (.bipush 40, 2) := by decide +kernel
theorem dX2_init_23 : decode cX2_init 23 = .ok (.newarray .int, 2) := by decide +kernel
theorem dX2_init_25 : decode cX2_init 25 = .ok (.putfield 18, 3) := by decide +kernel
theorem dX2_init_28 : decode cX2_init 28 = .ok (.aload_n 0, 1) := by decide +kernel
theorem dX2_init_29 : decode cX2_init 29 = .ok (.bipush 40, 2) := by decide +kernel
theorem dX2_init_31 : decode cX2_init 31 = .ok (.newarray .int, 2) := by decide +kernel
theorem dX2_init_33 : decode cX2_init 33 = .ok (.putfield 21, 3) := by decide +kernel
theorem dX2_init_36 : decode cX2_init 36 = .ok (.aload_n 0, 1) := by decide +kernel
theorem dX2_init_37 : decode cX2_init 37 = .ok (.bipush 40, 2) := by decide +kernel
theorem dX2_init_39 : decode cX2_init 39 = .ok (.newarray .int, 2) := by decide +kernel
theorem dX2_init_41 : decode cX2_init 41 = .ok (.putfield 24, 3) := by decide +kernel
theorem dX2_init_44 : decode cX2_init 44 = .ok (.aload_n 0, 1) := by decide +kernel
theorem dX2_init_45 : decode cX2_init 45 = .ok (.bipush 8, 2) := by decide +kernel
theorem dX2_init_47 : decode cX2_init 47 = .ok (.newarray .int, 2) := by decide +kernel
theorem dX2_init_49 : decode cX2_init 49 = .ok (.putfield 27, 3) := by decide +kernel
theorem dX2_init_52 : decode cX2_init 52 = .ok (.aload_n 0, 1) := by decide +kernel
theorem dX2_init_53 : decode cX2_init 53 = .ok (.invokevirtual 30, 3) := by decide +kernel
theorem dX2_init_56 : decode cX2_init 56 = .ok (.return_, 1) := by decide +kernel
theorem dX2_clear_0 : decode cX2_clear 0 = .ok (.aload_n 0, 1) := by decide +kernel
theorem dX2_clear_1 : decode cX2_clear 1 = .ok (.getfield 9, 3) := by decide +kernel
theorem dX2_clear_4 : decode cX2_clear 4 = .ok (.iconst (-1), 1) := by decide +kernel
theorem dX2_clear_5 : decode cX2_clear 5 = .ok (.invokestatic 33, 3) := by decide +kernel
theorem dX2_clear_8 : decode cX2_clear 8 = .ok (.aload_n 0, 1) := by decide +kernel
theorem dX2_clear_9 : decode cX2_clear 9 = .ok (.getfield 15, 3) := by decide +kernel
theorem dX2_clear_12 : decode cX2_clear 12 = .ok (.iconst (-1), 1) := by decide +kernel
theorem dX2_clear_13 : decode cX2_clear 13 = .ok (.invokestatic 33, 3) := by decide +kernel
theorem dX2_clear_16 : decode cX2_clear 16 = .ok (.aload_n 0, 1) := by decide +kernel
theorem dX2_clear_17 : decode cX2_clear 17 = .ok (.getfield 18, 3) := by decide +kernel
theorem dX2_clear_20 : decode cX2_clear 20 = .ok (.iconst 0, 1) := by decide +kernel
theorem dX2_clear_21 : decode cX2_clear 21 = .ok (.invokestatic 33, 3) := by decide +kernel
theorem dX2_clear_24 : decode cX2_clear 24 = .ok (.aload_n 0, 1) := by decide +kernel
theorem dX2_clear_25 : decode cX2_clear 25 = .ok (.getfield 21, 3) := by decide +kernel
theorem dX2_clear_28 : decode cX2_clear 28 = .ok (.iconst 0, 1) := by decide +kernel
theorem dX2_clear_29 : decode cX2_clear 29 = .ok (.invokestatic 33, 3) := by decide +kernel
theorem dX2_clear_32 : decode cX2_clear 32 = .ok (.aload_n 0, 1) := by decide +kernel
theorem dX2_clear_33 : decode cX2_clear 33 = .ok (.getfield 24, 3) := by decide +kernel
theorem dX2_clear_36 : decode cX2_clear 36 = .ok (.iconst 0, 1) := by decide +kernel
theorem dX2_clear_37 : decode cX2_clear 37 = .ok (.invokestatic 33, 3) := by decide +kernel
theorem dX2_clear_40 : decode cX2_clear 40 = .ok (.return_, 1) := by decide +kernel
theorem dX2_exitFrom_0 : decode cX2_exitFrom 0 = .ok (.aload_n 0, 1) := by decide +kernel
theorem dX2_exitFrom_1 : decode cX2_exitFrom 1 = .ok (.getfield 9, 3) := by decide +kernel
theorem dX2_exitFrom_4 : decode cX2_exitFrom 4 = .ok (.iload_n 1, 1) := by decide +kernel
theorem dX2_exitFrom_5 : decode cX2_exitFrom 5 = .ok (.iconst 4, 1) := by decide +kernel
theorem dX2_exitFrom_6 : decode cX2_exitFrom 6 = .ok (.imul, 1) := by decide +kernel
theorem dX2_exitFrom_7 : decode cX2_exitFrom 7 = .ok (.iload_n 2, 1) := by decide +kernel
theorem dX2_exitFrom_8 : decode cX2_exitFrom 8 = .ok (.iadd, 1) := by decide +kernel
theorem dX2_exitFrom_9 : decode cX2_exitFrom 9 = .ok (.iaload, 1) := by decide +kernel
theorem dX2_exitFrom_10 : decode cX2_exitFrom 10 = .ok (.ireturn, 1) := by decide +kernel
theorem dX2_connect_0 : decode cX2_connect 0 = .ok (.aload_n 0, 1) := by decide +kernel
theorem dX2_connect_1 : decode cX2_connect 1 = .ok (.getfield 9, 3) := by decide +kernel
theorem dX2_connect_4 : decode cX2_connect 4 = .ok (.iload_n 1, 1) := by decide +kernel
theorem dX2_connect_5 : decode cX2_connect 5 = .ok (.iconst 4, 1) := by decide +kernel
theorem dX2_connect_6 : decode cX2_connect 6 = .ok (.imul, 1) := by decide +kernel
theorem dX2_connect_7 : decode cX2_connect 7 = .ok (.iload_n 2, 1) := by decide +kernel
theorem dX2_connect_8 : decode cX2_connect 8 = .ok (.iadd, 1) := by decide +kernel
theorem dX2_connect_9 : decode cX2_connect 9 = .ok (.iload_n 3, 1) := by decide +kernel
theorem dX2_connect_10 : decode cX2_connect 10 = .ok (.iastore, 1) := by decide +kernel
theorem dX2_connect_11 : decode cX2_connect 11 = .ok (.aload_n 0, 1) := by decide +kernel
theorem dX2_connect_12 : decode cX2_connect 12 = .ok (.getfield 9, 3) := by decide +kernel
theorem dX2_connect_15 : decode cX2_connect 15 = .ok (.iload_n 3, 1) := by decide +kernel
theorem dX2_connect_16 : decode cX2_connect 16 = .ok (.iconst 4, 1) := by decide +kernel
theorem dX2_connect_17 : decode cX2_connect 17 = .ok (.imul, 1) := by decide +kernel
theorem dX2_connect_18 : decode cX2_connect 18 = .ok (.iload_n 2, 1) := by decide +kernel
theorem dX2_connect_19 : decode cX2_connect 19 = .ok (.invokestatic 39, 3) := by decide +kernel
theorem dX2_connect_22 : decode cX2_connect 22 = .ok (.iadd, 1) := by decide +kernel
theorem dX2_connect_23 : decode cX2_connect 23 = .ok (.iload_n 1, 1) := by decide +kernel
theorem dX2_connect_24 : decode cX2_connect 24 = .ok (.iastore, 1) := by decide +kernel
theorem dX2_connect_25 : decode cX2_connect 25 = .ok (.return_, 1) := by decide +kernel
theorem dX2_leadsTo_0 : decode cX2_leadsTo 0 = .ok (.iconst 0, 1) := by decide +kernel
theorem dX2_leadsTo_1 : decode cX2_leadsTo 1 = .ok (.istore_n 3, 1) := by decide +kernel
theorem dX2_leadsTo_2 : decode cX2_leadsTo 2 = .ok (.iload_n 3, 1) := by decide +kernel
theorem dX2_leadsTo_3 : decode cX2_leadsTo 3 = .ok (.iconst 4, 1) := by decide +kernel
theorem dX2_leadsTo_4 : decode cX2_leadsTo 4 = .ok (.if_icmp .ge 25, 3) := by decide +kernel
theorem dX2_leadsTo_7 : decode cX2_leadsTo 7 = .ok (.aload_n 0, 1) := by decide +kernel
theorem dX2_leadsTo_8 : decode cX2_leadsTo 8 = .ok (.getfield 9, 3) := by decide +kernel
theorem dX2_leadsTo_11 : decode cX2_leadsTo 11 = .ok (.iload_n 1, 1) := by decide +kernel
theorem dX2_leadsTo_12 : decode cX2_leadsTo 12 = .ok (.iconst 4, 1) := by decide +kernel
theorem dX2_leadsTo_13 : decode cX2_leadsTo 13 = .ok (.imul, 1) := by decide +kernel
theorem dX2_leadsTo_14 : decode cX2_leadsTo 14 = .ok (.iload_n 3, 1) := by decide +kernel
theorem dX2_leadsTo_15 : decode cX2_leadsTo 15 = .ok (.iadd, 1) := by decide +kernel
theorem dX2_leadsTo_16 : decode cX2_leadsTo 16 = .ok (.iaload, 1) := by decide +kernel
theorem dX2_leadsTo_17 : decode cX2_leadsTo 17 = .ok (.iload_n 2, 1) := by decide +kernel
theorem dX2_leadsTo_18 : decode cX2_leadsTo 18 = .ok (.if_icmp .ne 5, 3) := by decide +kernel
theorem dX2_leadsTo_21 : decode cX2_leadsTo 21 = .ok (.iconst 1, 1) := by decide +kernel
theorem dX2_leadsTo_22 : decode cX2_leadsTo 22 = .ok (.ireturn, 1) := by decide +kernel
theorem dX2_leadsTo_23 : decode cX2_leadsTo 23 = .ok (.iinc 3 1, 3) := by decide +kernel
theorem dX2_leadsTo_26 : decode cX2_leadsTo 26 = .ok (.goto (-24), 3) := by decide +kernel
theorem dX2_leadsTo_29 : decode cX2_leadsTo 29 = .ok (.iconst 0, 1) := by decide +kernel
theorem dX2_leadsTo_30 : decode cX2_leadsTo 30 = .ok (.ireturn, 1) := by decide +kernel
theorem dX2_stepsBetween_0 : decode cX2_stepsBetween 0 = .ok (.aload_n 0, 1) := by decide +kernel
theorem dX2_stepsBetween_1 : decode cX2_stepsBetween 1 = .ok (.getfield 27, 3) := by decide +kernel
theorem dX2_stepsBetween_4 : decode cX2_stepsBetween 4 = .ok (.iconst (-1), 1) := by decide +kernel
theorem dX2_stepsBetween_5 : decode cX2_stepsBetween 5 = .ok (.invokestatic 33, 3) := by decide +kernel
theorem dX2_stepsBetween_8 : decode cX2_stepsBetween 8 = .ok (.aload_n 0, 1) := by decide +kernel
theorem dX2_stepsBetween_9 : decode cX2_stepsBetween 9 = .ok (.getfield 27, 3) := by decide +kernel
theorem dX2_stepsBetween_12 : decode cX2_stepsBetween 12 = .ok (.iload_n 1, 1) := by decide +kernel
theorem dX2_stepsBetween_13 : decode cX2_stepsBetween 13 = .ok (.iconst 0, 1) := by decide +kernel
theorem dX2_stepsBetween_14 : decode cX2_stepsBetween 14 = .ok (.iastore, 1) := by decide +kernel
theorem dX2_stepsBetween_15 : decode cX2_stepsBetween 15 = .ok (.iconst 0, 1) := by decide +kernel
theorem dX2_stepsBetween_16 : decode cX2_stepsBetween 16 = .ok (.istore_n 3, 1) := by decide +kernel
theorem dX2_stepsBetween_17 : decode cX2_stepsBetween 17 = .ok (.iload_n 3, 1) := by decide +kernel
theorem dX2_stepsBetween_18 : decode cX2_stepsBetween 18 = .ok (.bipush 8, 2) := by decide +kernel
theorem dX2_stepsBetween_20 : decode cX2_stepsBetween 20 = .ok (.if_icmp .ge 42, 3) := by decide +kernel
theorem dX2_stepsBetween_23 : decode cX2_stepsBetween 23 = .ok (.iconst 0, 1) := by decide +kernel
theorem dX2_stepsBetween_24 : decode cX2_stepsBetween 24 = .ok (.istore 4, 2) := by decide +kernel
theorem dX2_stepsBetween_26 : decode cX2_stepsBetween 26 = .ok (.iload 4, 2) := by decide +kernel
theorem dX2_stepsBetween_28 : decode cX2_stepsBetween 28 = .ok (.bipush 8, 2) := by decide +kernel
theorem dX2_stepsBetween_30 : decode cX2_stepsBetween 30 = .ok (.if_icmp .ge 26, 3) := by decide +kernel
theorem dX2_stepsBetween_33 : decode cX2_stepsBetween 33 = .ok (.aload_n 0, 1) := by decide +kernel
theorem dX2_stepsBetween_34 : decode cX2_stepsBetween 34 = .ok (.getfield 27, 3) := by decide +kernel
theorem dX2_stepsBetween_37 : decode cX2_stepsBetween 37 = .ok (.iload 4, 2) := by decide +kernel
theorem dX2_stepsBetween_39 : decode cX2_stepsBetween 39 = .ok (.iaload, 1) := by decide +kernel
theorem dX2_stepsBetween_40 : decode cX2_stepsBetween 40 = .ok (.iload_n 3, 1) := by decide +kernel
theorem dX2_stepsBetween_41 : decode cX2_stepsBetween 41 = .ok (.if_icmp .ne 9, 3) := by decide +kernel
theorem dX2_stepsBetween_44 : decode cX2_stepsBetween 44 = .ok (.aload_n 0, 1) := by decide +kernel
theorem dX2_stepsBetween_45 : decode cX2_stepsBetween 45 = .ok (.iload 4, 2) := by decide +kernel
theorem dX2_stepsBetween_47 : decode cX2_stepsBetween 47 = .ok (.invokevirtual 43, 3) := by decide +kernel
theorem dX2_stepsBetween_50 : decode cX2_stepsBetween 50 = .ok (.iinc 4 1, 3) := by decide +kernel
theorem dX2_stepsBetween_53 : decode cX2_stepsBetween 53 = .ok (.goto (-27), 3) := by decide +kernel
theorem dX2_stepsBetween_56 : decode cX2_stepsBetween 56 = .ok (.iinc 3 1, 3) := by decide +kernel
theorem dX2_stepsBetween_59 : decode cX2_stepsBetween 59 = .ok (.goto (-42), 3) := by decide +kernel
theorem dX2_stepsBetween_62 : decode cX2_stepsBetween 62 = .ok (.aload_n 0, 1) := by decide +kernel
theorem dX2_stepsBetween_63 : decode cX2_stepsBetween 63 = .ok (.getfield 27, 3) := by decide +kernel
theorem dX2_stepsBetween_66 : decode cX2_stepsBetween 66 = .ok (.iload_n 2, 1) := by decide +kernel
theorem dX2_stepsBetween_67 : decode cX2_stepsBetween 67 = .ok (.iaload, 1) := by decide +kernel
theorem dX2_stepsBetween_68 : decode cX2_stepsBetween 68 = .ok (.ireturn, 1) := by decide +kernel
theorem dX2_stepOut_0 : decode cX2_stepOut 0 = .ok (.iconst 0, 1) := by decide +kernel
theorem dX2_stepOut_1 : decode cX2_stepOut 1 = .ok (.istore_n 2, 1) := by decide +kernel
theorem dX2_stepOut_2 : decode cX2_stepOut 2 = .ok (.iload_n 2, 1) := by decide +kernel
theorem dX2_stepOut_3 : decode cX2_stepOut 3 = .ok (.iconst 4, 1) := by decide +kernel
theorem dX2_stepOut_4 : decode cX2_stepOut 4 = .ok (.if_icmp .ge 45, 3) := by decide +kernel
theorem dX2_stepOut_7 : decode cX2_stepOut 7 = .ok (.aload_n 0, 1) := by decide +kernel
theorem dX2_stepOut_8 : decode cX2_stepOut 8 = .ok (.iload_n 1, 1) := by decide +kernel
theorem dX2_stepOut_9 : decode cX2_stepOut 9 = .ok (.iload_n 2, 1) := by decide +kernel
theorem dX2_stepOut_10 : decode cX2_stepOut 10 = .ok (.invokevirtual 47, 3) := by decide +kernel
theorem dX2_stepOut_13 : decode cX2_stepOut 13 = .ok (.istore_n 3, 1) := by decide +kernel
theorem dX2_stepOut_14 : decode cX2_stepOut 14 = .ok (.iload_n 3, 1) := by decide +kernel
theorem dX2_stepOut_15 : decode cX2_stepOut 15 = .ok (.iconst (-1), 1) := by decide +kernel
theorem dX2_stepOut_16 : decode cX2_stepOut 16 = .ok (.if_icmp .eq 27, 3) := by decide +kernel
theorem dX2_stepOut_19 : decode cX2_stepOut 19 = .ok (.aload_n 0, 1) := by decide +kernel
theorem dX2_stepOut_20 : decode cX2_stepOut 20 = .ok (.getfield 27, 3) := by decide +kernel
theorem dX2_stepOut_23 : decode cX2_stepOut 23 = .ok (.iload_n 3, 1) := by decide +kernel
theorem dX2_stepOut_24 : decode cX2_stepOut 24 = .ok (.iaload, 1) := by decide +kernel
theorem dX2_stepOut_25 : decode cX2_stepOut 25 = .ok (.iconst (-1), 1) := by decide +kernel
theorem dX2_stepOut_26 : decode cX2_stepOut 26 = .ok (.if_icmp .ne 17, 3) := by decide +kernel
theorem dX2_stepOut_29 : decode cX2_stepOut 29 = .ok (.aload_n 0, 1) := by decide +kernel
theorem dX2_stepOut_30 : decode cX2_stepOut 30 = .ok (.getfield 27, 3) := by decide +kernel
theorem dX2_stepOut_33 : decode cX2_stepOut 33 = .ok (.iload_n 3, 1) := by decide +kernel
theorem dX2_stepOut_34 : decode cX2_stepOut 34 = .ok (.aload_n 0, 1) := by decide +kernel
theorem dX2_stepOut_35 : decode cX2_stepOut 35 = .ok (.getfield 27, 3) := by decide +kernel
theorem dX2_stepOut_38 : decode cX2_stepOut 38 = .ok (.iload_n 1, 1) := by decide +kernel
theorem dX2_stepOut_39 : decode cX2_stepOut 39 = .ok (.iaload, 1) := by decide +kernel
theorem dX2_stepOut_40 : decode cX2_stepOut 40 = .ok (.iconst 1, 1) := by decide +kernel
theorem dX2_stepOut_41 : decode cX2_stepOut 41 = .ok (.iadd, 1) := by decide +kernel
theorem dX2_stepOut_42 : decode cX2_stepOut 42 = .ok (.iastore, 1) := by decide +kernel
theorem dX2_stepOut_43 : decode cX2_stepOut 43 = .ok (.iinc 2 1, 3) := by decide +kernel
theorem dX2_stepOut_46 : decode cX2_stepOut 46 = .ok (.goto (-44), 3) := by decide +kernel
theorem dX2_stepOut_49 : decode cX2_stepOut 49 = .ok (.return_, 1) := by decide +kernel
theorem dX2_hasShop_0 : decode cX2_hasShop 0 = .ok (.aload_n 0, 1) := by decide +kernel
theorem dX2_hasShop_1 : decode cX2_hasShop 1 = .ok (.getfield 15, 3) := by decide +kernel
theorem dX2_hasShop_4 : decode cX2_hasShop 4 = .ok (.iload_n 1, 1) := by decide +kernel
theorem dX2_hasShop_5 : decode cX2_hasShop 5 = .ok (.iaload, 1) := by decide +kernel
theorem dX2_hasShop_6 : decode cX2_hasShop 6 = .ok (.iconst (-1), 1) := by decide +kernel
theorem dX2_hasShop_7 : decode cX2_hasShop 7 = .ok (.if_icmp .eq 7, 3) := by decide +kernel
theorem dX2_hasShop_10 : decode cX2_hasShop 10 = .ok (.iconst 1, 1) := by decide +kernel
theorem dX2_hasShop_11 : decode cX2_hasShop 11 = .ok (.goto 4, 3) := by decide +kernel
theorem dX2_hasShop_14 : decode cX2_hasShop 14 = .ok (.iconst 0, 1) := by decide +kernel
theorem dX2_hasShop_15 : decode cX2_hasShop 15 = .ok (.ireturn, 1) := by decide +kernel
theorem dX2_halfPrice_0 : decode cX2_halfPrice 0 = .ok (.aload_n 0, 1) := by decide +kernel
theorem dX2_halfPrice_1 : decode cX2_halfPrice 1 = .ok (.getfield 18, 3) := by decide +kernel
theorem dX2_halfPrice_4 : decode cX2_halfPrice 4 = .ok (.iload_n 1, 1) := by decide +kernel
theorem dX2_halfPrice_5 : decode cX2_halfPrice 5 = .ok (.iload_n 2, 1) := by decide +kernel
theorem dX2_halfPrice_6 : decode cX2_halfPrice 6 = .ok (.invokestatic 51, 3) := by decide +kernel
theorem dX2_halfPrice_9 : decode cX2_halfPrice 9 = .ok (.iaload, 1) := by decide +kernel
theorem dX2_halfPrice_10 : decode cX2_halfPrice 10 = .ok (.iconst 2, 1) := by decide +kernel
theorem dX2_halfPrice_11 : decode cX2_halfPrice 11 = .ok (.idiv, 1) := by decide +kernel
theorem dX2_halfPrice_12 : decode cX2_halfPrice 12 = .ok (.ireturn, 1) := by decide +kernel
theorem dX2_addStock_0 : decode cX2_addStock 0 = .ok (.iload_n 1, 1) := by decide +kernel
theorem dX2_addStock_1 : decode cX2_addStock 1 = .ok (.iload_n 2, 1) := by decide +kernel
theorem dX2_addStock_2 : decode cX2_addStock 2 = .ok (.invokestatic 51, 3) := by decide +kernel
theorem dX2_addStock_5 : decode cX2_addStock 5 = .ok (.istore 5, 2) := by decide +kernel
theorem dX2_addStock_7 : decode cX2_addStock 7 = .ok (.aload_n 0, 1) := by decide +kernel
theorem dX2_addStock_8 : decode cX2_addStock 8 = .ok (.getfield 18, 3) := by decide +kernel
theorem dX2_addStock_11 : decode cX2_addStock 11 = .ok (.iload 5, 2) := by decide +kernel
theorem dX2_addStock_13 : decode cX2_addStock 13 = .ok (.iload 4, 2) := by decide +kernel
theorem dX2_addStock_15 : decode cX2_addStock 15 = .ok (.iastore, 1) := by decide +kernel
theorem dX2_addStock_16 : decode cX2_addStock 16 = .ok (.aload_n 0, 1) := by decide +kernel
theorem dX2_addStock_17 : decode cX2_addStock 17 = .ok (.getfield 21, 3) := by decide +kernel
theorem dX2_addStock_20 : decode cX2_addStock 20 = .ok (.iload 5, 2) := by decide +kernel
theorem dX2_addStock_22 : decode cX2_addStock 22 = .ok (.dup2, 1) := by decide +kernel
theorem dX2_addStock_23 : decode cX2_addStock 23 = .ok (.iaload, 1) := by decide +kernel
theorem dX2_addStock_24 : decode cX2_addStock 24 = .ok (.iload_n 3, 1) := by decide +kernel
theorem dX2_addStock_25 : decode cX2_addStock 25 = .ok (.iadd, 1) := by decide +kernel
theorem dX2_addStock_26 : decode cX2_addStock 26 = .ok (.iastore, 1) := by decide +kernel
theorem dX2_addStock_27 : decode cX2_addStock 27 = .ok (.aload_n 0, 1) := by decide +kernel
theorem dX2_addStock_28 : decode cX2_addStock 28 = .ok (.getfield 21, 3) := by decide +kernel
theorem dX2_addStock_31 : decode cX2_addStock 31 = .ok (.iload 5, 2) := by decide +kernel
theorem dX2_addStock_33 : decode cX2_addStock 33 = .ok (.iaload, 1) := by decide +kernel
theorem dX2_addStock_34 : decode cX2_addStock 34 = .ok (.ireturn, 1) := by decide +kernel
theorem dX2_addToFloor_0 : decode cX2_addToFloor 0 = .ok (.iload_n 1, 1) := by decide +kernel
theorem dX2_addToFloor_1 : decode cX2_addToFloor 1 = .ok (.iload_n 2, 1) := by decide +kernel
theorem dX2_addToFloor_2 : decode cX2_addToFloor 2 = .ok (.invokestatic 51, 3) := by decide +kernel
theorem dX2_addToFloor_5 : decode cX2_addToFloor 5 = .ok (.istore 4, 2) := by decide +kernel
theorem dX2_addToFloor_7 : decode cX2_addToFloor 7 = .ok (.aload_n 0, 1) := by decide +kernel
theorem dX2_addToFloor_8 : decode cX2_addToFloor 8 = .ok (.getfield 24, 3) := by decide +kernel
theorem dX2_addToFloor_11 : decode cX2_addToFloor 11 = .ok (.iload 4, 2) := by decide +kernel
theorem dX2_addToFloor_13 : decode cX2_addToFloor 13 = .ok (.dup2, 1) := by decide +kernel
theorem dX2_addToFloor_14 : decode cX2_addToFloor 14 = .ok (.iaload, 1) := by decide +kernel
theorem dX2_addToFloor_15 : decode cX2_addToFloor 15 = .ok (.iload_n 3, 1) := by decide +kernel
theorem dX2_addToFloor_16 : decode cX2_addToFloor 16 = .ok (.iadd, 1) := by decide +kernel
theorem dX2_addToFloor_17 : decode cX2_addToFloor 17 = .ok (.iastore, 1) := by decide +kernel
theorem dX2_addToFloor_18 : decode cX2_addToFloor 18 = .ok (.aload_n 0, 1) := by decide +kernel
theorem dX2_addToFloor_19 : decode cX2_addToFloor 19 = .ok (.getfield 24, 3) := by decide +kernel
theorem dX2_addToFloor_22 : decode cX2_addToFloor 22 = .ok (.iload 4, 2) := by decide +kernel
theorem dX2_addToFloor_24 : decode cX2_addToFloor 24 = .ok (.iaload, 1) := by decide +kernel
theorem dX2_addToFloor_25 : decode cX2_addToFloor 25 = .ok (.ireturn, 1) := by decide +kernel
theorem dX2_sumOfTills_0 : decode cX2_sumOfTills 0 = .ok (.iconst 0, 1) := by decide +kernel
theorem dX2_sumOfTills_1 : decode cX2_sumOfTills 1 = .ok (.istore_n 1, 1) := by decide +kernel
theorem dX2_sumOfTills_2 : decode cX2_sumOfTills 2 = .ok (.iconst 0, 1) := by decide +kernel
theorem dX2_sumOfTills_3 : decode cX2_sumOfTills 3 = .ok (.istore_n 2, 1) := by decide +kernel
theorem dX2_sumOfTills_4 : decode cX2_sumOfTills 4 = .ok (.iload_n 2, 1) := by decide +kernel
theorem dX2_sumOfTills_5 : decode cX2_sumOfTills 5 = .ok (.bipush 8, 2) := by decide +kernel
theorem dX2_sumOfTills_7 : decode cX2_sumOfTills 7 = .ok (.if_icmp .ge 26, 3) := by decide +kernel
theorem dX2_sumOfTills_10 : decode cX2_sumOfTills 10 = .ok (.aload_n 0, 1) := by decide +kernel
theorem dX2_sumOfTills_11 : decode cX2_sumOfTills 11 = .ok (.iload_n 2, 1) := by decide +kernel
theorem dX2_sumOfTills_12 : decode cX2_sumOfTills 12 = .ok (.invokevirtual 54, 3) := by decide +kernel
theorem dX2_sumOfTills_15 : decode cX2_sumOfTills 15 = .ok (.ifCond .eq 12, 3) := by decide +kernel
theorem dX2_sumOfTills_18 : decode cX2_sumOfTills 18 = .ok (.iload_n 1, 1) := by decide +kernel
theorem dX2_sumOfTills_19 : decode cX2_sumOfTills 19 = .ok (.aload_n 0, 1) := by decide +kernel
theorem dX2_sumOfTills_20 : decode cX2_sumOfTills 20 = .ok (.getfield 15, 3) := by decide +kernel
theorem dX2_sumOfTills_23 : decode cX2_sumOfTills 23 = .ok (.iload_n 2, 1) := by decide +kernel
theorem dX2_sumOfTills_24 : decode cX2_sumOfTills 24 = .ok (.iaload, 1) := by decide +kernel
theorem dX2_sumOfTills_25 : decode cX2_sumOfTills 25 = .ok (.iadd, 1) := by decide +kernel
theorem dX2_sumOfTills_26 : decode cX2_sumOfTills 26 = .ok (.istore_n 1, 1) := by decide +kernel
theorem dX2_sumOfTills_27 : decode cX2_sumOfTills 27 = .ok (.iinc 2 1, 3) := by decide +kernel
theorem dX2_sumOfTills_30 : decode cX2_sumOfTills 30 = .ok (.goto (-26), 3) := by decide +kernel
theorem dX2_sumOfTills_33 : decode cX2_sumOfTills 33 = .ok (.iload_n 1, 1) := by decide +kernel
theorem dX2_sumOfTills_34 : decode cX2_sumOfTills 34 = .ok (.ireturn, 1) := by decide +kernel
theorem dX2_sumOfGoods_0 : decode cX2_sumOfGoods 0 = .ok (.iconst 0, 1) := by decide +kernel
theorem dX2_sumOfGoods_1 : decode cX2_sumOfGoods 1 = .ok (.istore_n 2, 1) := by decide +kernel
theorem dX2_sumOfGoods_2 : decode cX2_sumOfGoods 2 = .ok (.iconst 0, 1) := by decide +kernel
theorem dX2_sumOfGoods_3 : decode cX2_sumOfGoods 3 = .ok (.istore_n 3, 1) := by decide +kernel
theorem dX2_sumOfGoods_4 : decode cX2_sumOfGoods 4 = .ok (.iload_n 3, 1) := by decide +kernel
theorem dX2_sumOfGoods_5 : decode cX2_sumOfGoods 5 = .ok (.bipush 8, 2) := by decide +kernel
theorem dX2_sumOfGoods_7 : decode cX2_sumOfGoods 7 = .ok (.if_icmp .ge 33, 3) := by decide +kernel
theorem dX2_sumOfGoods_10 : decode cX2_sumOfGoods 10 = .ok (.iload_n 2, 1) := by decide +kernel
theorem dX2_sumOfGoods_11 : decode cX2_sumOfGoods 11 = .ok (.aload_n 0, 1) := by decide +kernel
theorem dX2_sumOfGoods_12 : decode cX2_sumOfGoods 12 = .ok (.getfield 24, 3) := by decide +kernel
theorem dX2_sumOfGoods_15 : decode cX2_sumOfGoods 15 = .ok (.iload_n 3, 1) := by decide +kernel
theorem dX2_sumOfGoods_16 : decode cX2_sumOfGoods 16 = .ok (.iload_n 1, 1) := by decide +kernel
theorem dX2_sumOfGoods_17 : decode cX2_sumOfGoods 17 = .ok (.invokestatic 51, 3) := by decide +kernel
theorem dX2_sumOfGoods_20 : decode cX2_sumOfGoods 20 = .ok (.iaload, 1) := by decide +kernel
theorem dX2_sumOfGoods_21 : decode cX2_sumOfGoods 21 = .ok (.aload_n 0, 1) := by decide +kernel
theorem dX2_sumOfGoods_22 : decode cX2_sumOfGoods 22 = .ok (.getfield 21, 3) := by decide +kernel
theorem dX2_sumOfGoods_25 : decode cX2_sumOfGoods 25 = .ok (.iload_n 3, 1) := by decide +kernel
theorem dX2_sumOfGoods_26 : decode cX2_sumOfGoods 26 = .ok (.iload_n 1, 1) := by decide +kernel
theorem dX2_sumOfGoods_27 : decode cX2_sumOfGoods 27 = .ok (.invokestatic 51, 3) := by decide +kernel
theorem dX2_sumOfGoods_30 : decode cX2_sumOfGoods 30 = .ok (.iaload, 1) := by decide +kernel
theorem dX2_sumOfGoods_31 : decode cX2_sumOfGoods 31 = .ok (.iadd, 1) := by decide +kernel
theorem dX2_sumOfGoods_32 : decode cX2_sumOfGoods 32 = .ok (.iadd, 1) := by decide +kernel
theorem dX2_sumOfGoods_33 : decode cX2_sumOfGoods 33 = .ok (.istore_n 2, 1) := by decide +kernel
theorem dX2_sumOfGoods_34 : decode cX2_sumOfGoods 34 = .ok (.iinc 3 1, 3) := by decide +kernel
theorem dX2_sumOfGoods_37 : decode cX2_sumOfGoods 37 = .ok (.goto (-33), 3) := by decide +kernel
theorem dX2_sumOfGoods_40 : decode cX2_sumOfGoods 40 = .ok (.iload_n 2, 1) := by decide +kernel
theorem dX2_sumOfGoods_41 : decode cX2_sumOfGoods 41 = .ok (.ireturn, 1) := by decide +kernel
theorem dX3_init_0 : decode cX3_init 0 = .ok (.aload_n 0, 1) := by decide +kernel
theorem dX3_init_1 : decode cX3_init 1 = .ok (.invokespecial 3, 3) := by decide +kernel
theorem dX3_init_4 : decode cX3_init 4 = .ok (.aload_n 0, 1) := by decide +kernel
theorem dX3_init_5 : decode cX3_init 5 = .ok (.iconst 0, 1) := by decide +kernel
theorem dX3_init_6 : decode cX3_init 6 = .ok (.putfield 9, 3) := by decide +kernel
theorem dX3_init_9 : decode cX3_init 9 = .ok (.aload_n 0, 1) := by decide +kernel
theorem dX3_init_10 : decode cX3_init 10 = .ok (.iconst 3, 1) := by decide +kernel
theorem dX3_init_11 : decode cX3_init 11 = .ok (.newarray .int, 2) := by decide +kernel
theorem dX3_init_13 : decode cX3_init 13 = .ok (.putfield 15, 3) := by decide +kernel
theorem dX3_init_16 : decode cX3_init 16 = .ok (.aload_n 0, 1) := by decide +kernel
theorem dX3_init_17 : decode cX3_init 17 = .ok (.iconst 3, 1) := by decide +kernel
theorem dX3_init_18 : decode cX3_init 18 = .ok (.newarray .int, 2) := by decide +kernel
theorem dX3_init_20 : decode cX3_init 20 = .ok (.putfield 19, 3) := by decide +kernel
theorem dX3_init_23 : decode cX3_init 23 = .ok (.aload_n 0, 1) := by decide +kernel
theorem dX3_init_24 : decode cX3_init 24 = .ok (.bipush 12, 2) := by decide +kernel
theorem dX3_init_26 : decode cX3_init 26 = .ok (.newarray .int, 2) := by decide +kernel
theorem dX3_init_28 : decode cX3_init 28 = .ok (.putfield 22, 3) := by decide +kernel
theorem dX3_init_31 : decode cX3_init 31 = .ok (.aload_n 0, 1) := by decide +kernel
theorem dX3_init_32 : decode cX3_init 32 = .ok (.bipush 12, 2) := by decide +kernel
theorem dX3_init_34 : decode cX3_init 34 = .ok (.newarray .int, 2) := by decide +kernel
theorem dX3_init_36 : decode cX3_init 36 = .ok (.putfield 25, 3) := by decide +kernel
theorem dX3_init_39 : decode cX3_init 39 = .ok (.aload_n 0, 1) := by decide +kernel
theorem dX3_init_40 : decode cX3_init 40 = .ok (.bipush 12, 2) := by decide +kernel
theorem dX3_init_42 : decode cX3_init 42 = .ok (.newarray .int, 2) := by decide +kernel
theorem dX3_init_44 : decode cX3_init 44 = .ok (.putfield 28, 3) := by decide +kernel
theorem dX3_init_47 : decode cX3_init 47 = .ok (.return_, 1) := by decide +kernel
theorem dX3_clear_0 : decode cX3_clear 0 = .ok (.aload_n 0, 1) := by decide +kernel
theorem dX3_clear_1 : decode cX3_clear 1 = .ok (.iconst 0, 1) := by decide +kernel
theorem dX3_clear_2 : decode cX3_clear 2 = .ok (.putfield 9, 3) := by decide +kernel
theorem dX3_clear_5 : decode cX3_clear 5 = .ok (.return_, 1) := by decide +kernel
theorem dX3_add_0 : decode cX3_add 0 = .ok (.aload_n 0, 1) := by decide +kernel
theorem dX3_add_1 : decode cX3_add 1 = .ok (.getfield 9, 3) := by decide +kernel
theorem dX3_add_4 : decode cX3_add 4 = .ok (.istore_n 2, 1) := by decide +kernel
theorem dX3_add_5 : decode cX3_add 5 = .ok (.aload_n 0, 1) := by decide +kernel
theorem dX3_add_6 : decode cX3_add 6 = .ok (.getfield 15, 3) := by decide +kernel
theorem dX3_add_9 : decode cX3_add 9 = .ok (.iload_n 2, 1) := by decide +kernel
theorem dX3_add_10 : decode cX3_add 10 = .ok (.iload_n 1, 1) := by decide +kernel
theorem dX3_add_11 : decode cX3_add 11 = .ok (.iastore, 1) := by decide +kernel
theorem dX3_add_12 : decode cX3_add 12 = .ok (.aload_n 0, 1) := by decide +kernel
theorem dX3_add_13 : decode cX3_add 13 = .ok (.getfield 19, 3) := by decide +kernel
theorem dX3_add_16 : decode cX3_add 16 = .ok (.iload_n 2, 1) := by decide +kernel
theorem dX3_add_17 : decode cX3_add 17 = .ok (.iconst 0, 1) := by decide +kernel
theorem dX3_add_18 : decode cX3_add 18 = .ok (.iastore, 1) := by decide +kernel
theorem dX3_add_19 : decode cX3_add 19 = .ok (.aload_n 0, 1) := by decide +kernel
theorem dX3_add_20 : decode cX3_add 20 = .ok (.dup, 1) := by decide +kernel
theorem dX3_add_21 : decode cX3_add 21 = .ok (.getfield 9, 3) := by decide +kernel
theorem dX3_add_24 : decode cX3_add 24 = .ok (.iconst 1, 1) := by decide +kernel
theorem dX3_add_25 : decode cX3_add 25 = .ok (.iadd, 1) := by decide +kernel
theorem dX3_add_26 : decode cX3_add 26 = .ok (.putfield 9, 3) := by decide +kernel
theorem dX3_add_29 : decode cX3_add 29 = .ok (.iload_n 2, 1) := by decide +kernel
theorem dX3_add_30 : decode cX3_add 30 = .ok (.ireturn, 1) := by decide +kernel
theorem dX3_addStage_0 : decode cX3_addStage 0 = .ok (.iload_n 1, 1) := by decide +kernel
theorem dX3_addStage_1 : decode cX3_addStage 1 = .ok (.aload_n 0, 1) := by decide +kernel
theorem dX3_addStage_2 : decode cX3_addStage 2 = .ok (.getfield 19, 3) := by decide +kernel
theorem dX3_addStage_5 : decode cX3_addStage 5 = .ok (.iload_n 1, 1) := by decide +kernel
theorem dX3_addStage_6 : decode cX3_addStage 6 = .ok (.iaload, 1) := by decide +kernel
theorem dX3_addStage_7 : decode cX3_addStage 7 = .ok (.invokestatic 31, 3) := by decide +kernel
theorem dX3_addStage_10 : decode cX3_addStage 10 = .ok (.istore 5, 2) := by decide +kernel
theorem dX3_addStage_12 : decode cX3_addStage 12 = .ok (.aload_n 0, 1) := by decide +kernel
theorem dX3_addStage_13 : decode cX3_addStage 13 = .ok (.getfield 22, 3) := by decide +kernel
theorem dX3_addStage_16 : decode cX3_addStage 16 = .ok (.iload 5, 2) := by decide +kernel
theorem dX3_addStage_18 : decode cX3_addStage 18 = .ok (.iload_n 2, 1) := by decide +kernel
theorem dX3_addStage_19 : decode cX3_addStage 19 = .ok (.iastore, 1) := by decide +kernel
theorem dX3_addStage_20 : decode cX3_addStage 20 = .ok (.aload_n 0, 1) := by decide +kernel
theorem dX3_addStage_21 : decode cX3_addStage 21 = .ok (.getfield 25, 3) := by decide +kernel
theorem dX3_addStage_24 : decode cX3_addStage 24 = .ok (.iload 5, 2) := by decide +kernel
theorem dX3_addStage_26 : decode cX3_addStage 26 = .ok (.iload_n 3, 1) := by decide +kernel
theorem dX3_addStage_27 : decode cX3_addStage 27 = .ok (.iastore, 1) := by decide +kernel
theorem dX3_addStage_28 : decode cX3_addStage 28 = .ok (.aload_n 0, 1) := by decide +kernel
theorem dX3_addStage_29 : decode cX3_addStage 29 = .ok (.getfield 28, 3) := by decide +kernel
theorem dX3_addStage_32 : decode cX3_addStage 32 = .ok (.iload 5, 2) := by decide +kernel
theorem dX3_addStage_34 : decode cX3_addStage 34 = .ok (.iload 4, 2) := by decide +kernel
theorem dX3_addStage_36 : decode cX3_addStage 36 = .ok (.iastore, 1) := by decide +kernel
theorem dX3_addStage_37 : decode cX3_addStage 37 = .ok (.aload_n 0, 1) := by decide +kernel
theorem dX3_addStage_38 : decode cX3_addStage 38 = .ok (.getfield 19, 3) := by decide +kernel
theorem dX3_addStage_41 : decode cX3_addStage 41 = .ok (.iload_n 1, 1) := by decide +kernel
theorem dX3_addStage_42 : decode cX3_addStage 42 = .ok (.dup2, 1) := by decide +kernel
theorem dX3_addStage_43 : decode cX3_addStage 43 = .ok (.iaload, 1) := by decide +kernel
theorem dX3_addStage_44 : decode cX3_addStage 44 = .ok (.iconst 1, 1) := by decide +kernel
theorem dX3_addStage_45 : decode cX3_addStage 45 = .ok (.iadd, 1) := by decide +kernel
theorem dX3_addStage_46 : decode cX3_addStage 46 = .ok (.iastore, 1) := by decide +kernel
theorem dX3_addStage_47 : decode cX3_addStage 47 = .ok (.aload_n 0, 1) := by decide +kernel
theorem dX3_addStage_48 : decode cX3_addStage 48 = .ok (.getfield 19, 3) := by decide +kernel
theorem dX3_addStage_51 : decode cX3_addStage 51 = .ok (.iload_n 1, 1) := by decide +kernel
theorem dX3_addStage_52 : decode cX3_addStage 52 = .ok (.iaload, 1) := by decide +kernel
theorem dX3_addStage_53 : decode cX3_addStage 53 = .ok (.ireturn, 1) := by decide +kernel
theorem dX4_init_0 : decode cX4_init 0 = .ok (.aload_n 0, 1) := by decide +kernel
theorem dX4_init_1 : decode cX4_init 1 = .ok (.invokespecial 3, 3) := by decide +kernel
theorem dX4_init_4 : decode cX4_init 4 = .ok (.aload_n 0, 1) := by decide +kernel
theorem dX4_init_5 : decode cX4_init 5 = .ok (.new 9, 3) := by decide +kernel
theorem dX4_init_8 : decode cX4_init 8 = .ok (.dup, 1) := by decide +kernel
theorem dX4_init_9 : decode cX4_init 9 = .ok (.invokespecial 11, 3) := by decide +kernel
theorem dX4_init_12 : decode cX4_init 12 = .ok (.putfield 12, 3) := by decide +kernel
theorem dX4_init_15 : decode cX4_init 15 = .ok (.aload_n 0, 1) := by decide +kernel
theorem dX4_init_16 : decode cX4_init 16 = .ok (.new 18, 3) := by decide +kernel
theorem dX4_init_19 : decode cX4_init 19 = .ok (.dup, 1) := by decide +kernel
theorem dX4_init_20 : decode cX4_init 20 = .ok (.invokespecial 20, 3) := by decide +kernel
theorem dX4_init_23 : decode cX4_init 23 = .ok (.putfield 21, 3) := by decide +kernel
theorem dX4_init_26 : decode cX4_init 26 = .ok (.aload_n 0, 1) := by decide +kernel
theorem dX4_init_27 : decode cX4_init 27 = .ok (.new 25, 3) := by decide +kernel
theorem dX4_init_30 : decode cX4_init 30 = .ok (.dup, 1) := by decide +kernel
theorem dX4_init_31 : decode cX4_init 31 = .ok (.invokespecial 27, 3) := by decide +kernel
theorem dX4_init_34 : decode cX4_init 34 = .ok (.putfield 28, 3) := by decide +kernel
theorem dX4_init_37 : decode cX4_init 37 = .ok (.aload_n 0, 1) := by decide +kernel
theorem dX4_init_38 : decode cX4_init 38 = .ok (.iconst 0, 1) := by decide +kernel
theorem dX4_init_39 : decode cX4_init 39 = .ok (.putfield 32, 3) := by decide +kernel
theorem dX4_init_42 : decode cX4_init 42 = .ok (.aload_n 0, 1) := by decide +kernel
theorem dX4_init_43 : decode cX4_init 43 = .ok (.iconst 1, 1) := by decide +kernel
theorem dX4_init_44 : decode cX4_init 44 = .ok (.putfield 36, 3) := by decide +kernel
theorem dX4_init_47 : decode cX4_init 47 = .ok (.return_, 1) := by decide +kernel
theorem dX4_clear_0 : decode cX4_clear 0 = .ok (.aload_n 0, 1) := by decide +kernel
theorem dX4_clear_1 : decode cX4_clear 1 = .ok (.getfield 12, 3) := by decide +kernel
theorem dX4_clear_4 : decode cX4_clear 4 = .ok (.invokevirtual 39, 3) := by decide +kernel
theorem dX4_clear_7 : decode cX4_clear 7 = .ok (.aload_n 0, 1) := by decide +kernel
theorem dX4_clear_8 : decode cX4_clear 8 = .ok (.getfield 21, 3) := by decide +kernel
theorem dX4_clear_11 : decode cX4_clear 11 = .ok (.invokevirtual 42, 3) := by decide +kernel
theorem dX4_clear_14 : decode cX4_clear 14 = .ok (.aload_n 0, 1) := by decide +kernel
theorem dX4_clear_15 : decode cX4_clear 15 = .ok (.getfield 28, 3) := by decide +kernel
theorem dX4_clear_18 : decode cX4_clear 18 = .ok (.invokevirtual 43, 3) := by decide +kernel
theorem dX4_clear_21 : decode cX4_clear 21 = .ok (.aload_n 0, 1) := by decide +kernel
theorem dX4_clear_22 : decode cX4_clear 22 = .ok (.iconst 0, 1) := by decide +kernel
theorem dX4_clear_23 : decode cX4_clear 23 = .ok (.putfield 32, 3) := by decide +kernel
theorem dX4_clear_26 : decode cX4_clear 26 = .ok (.aload_n 0, 1) := by decide +kernel
theorem dX4_clear_27 : decode cX4_clear 27 = .ok (.iconst 1, 1) := by decide +kernel
theorem dX4_clear_28 : decode cX4_clear 28 = .ok (.putfield 36, 3) := by decide +kernel
theorem dX4_clear_31 : decode cX4_clear 31 = .ok (.return_, 1) := by decide +kernel
theorem dX4_play_0 : decode cX4_play 0 = .ok (.iload_n 1, 1) := by decide +kernel
theorem dX4_play_1 : decode cX4_play 1 = .ok (.bipush 9, 2) := by decide +kernel
theorem dX4_play_3 : decode cX4_play 3 = .ok (.if_icmp .ge 15, 3) := by decide +kernel
theorem dX4_play_6 : decode cX4_play 6 = .ok (.aload_n 0, 1) := by decide +kernel
theorem dX4_play_7 : decode cX4_play 7 = .ok (.iload_n 1, 1) := by decide +kernel
theorem dX4_play_8 : decode cX4_play 8 = .ok (.iload_n 2, 1) := by decide +kernel
theorem dX4_play_9 : decode cX4_play 9 = .ok (.iload_n 3, 1) := by decide +kernel
theorem dX4_play_10 : decode cX4_play 10 = .ok (.iload 4, 2) := by decide +kernel
theorem dX4_play_12 : decode cX4_play 12 = .ok (.iload 5, 2) := by decide +kernel
theorem dX4_play_14 : decode cX4_play 14 = .ok (.invokevirtual 44, 3) := by decide +kernel
theorem dX4_play_17 : decode cX4_play 17 = .ok (.ireturn, 1) := by decide +kernel
theorem dX4_play_18 : decode cX4_play 18 = .ok (.aload_n 0, 1) := by decide +kernel
theorem dX4_play_19 : decode cX4_play 19 = .ok (.getfield 21, 3) := by decide +kernel
theorem dX4_play_22 : decode cX4_play 22 = .ok (.invokevirtual 48, 3) := by decide +kernel
theorem dX4_play_25 : decode cX4_play 25 = .ok (.istore 6, 2) := by decide +kernel
theorem dX4_play_27 : decode cX4_play 27 = .ok (.iload 6, 2) := by decide +kernel
theorem dX4_play_29 : decode cX4_play 29 = .ok (.iconst (-1), 1) := by decide +kernel
theorem dX4_play_30 : decode cX4_play 30 = .ok (.if_icmp .ne 5, 3) := by decide +kernel
theorem dX4_play_33 : decode cX4_play 33 = .ok (.iconst (-1), 1) := by decide +kernel
theorem dX4_play_34 : decode cX4_play 34 = .ok (.ireturn, 1) := by decide +kernel
theorem dX4_play_35 : decode cX4_play 35 = .ok (.aload_n 0, 1) := by decide +kernel
theorem dX4_play_36 : decode cX4_play 36 = .ok (.getfield 21, 3) := by decide +kernel
theorem dX4_play_39 : decode cX4_play 39 = .ok (.getfield 52, 3) := by decide +kernel
theorem dX4_play_42 : decode cX4_play 42 = .ok (.iload 6, 2) := by decide +kernel
theorem dX4_play_44 : decode cX4_play 44 = .ok (.iaload, 1) := by decide +kernel
theorem dX4_play_45 : decode cX4_play 45 = .ok (.istore 7, 2) := by decide +kernel
theorem dX4_play_47 : decode cX4_play 47 = .ok (.aload_n 0, 1) := by decide +kernel
theorem dX4_play_48 : decode cX4_play 48 = .ok (.iload_n 1, 1) := by decide +kernel
theorem dX4_play_49 : decode cX4_play 49 = .ok (.iload 6, 2) := by decide +kernel
theorem dX4_play_51 : decode cX4_play 51 = .ok (.iload_n 2, 1) := by decide +kernel
theorem dX4_play_52 : decode cX4_play 52 = .ok (.iload_n 3, 1) := by decide +kernel
theorem dX4_play_53 : decode cX4_play 53 = .ok (.invokevirtual 56, 3) := by decide +kernel
theorem dX4_play_56 : decode cX4_play 56 = .ok (.istore 8, 2) := by decide +kernel
theorem dX4_play_58 : decode cX4_play 58 = .ok (.aload_n 0, 1) := by decide +kernel
theorem dX4_play_59 : decode cX4_play 59 = .ok (.getfield 21, 3) := by decide +kernel
theorem dX4_play_62 : decode cX4_play 62 = .ok (.getfield 52, 3) := by decide +kernel
theorem dX4_play_65 : decode cX4_play 65 = .ok (.iload 6, 2) := by decide +kernel
theorem dX4_play_67 : decode cX4_play 67 = .ok (.iload 7, 2) := by decide +kernel
theorem dX4_play_69 : decode cX4_play 69 = .ok (.iload_n 1, 1) := by decide +kernel
theorem dX4_play_70 : decode cX4_play 70 = .ok (.invokestatic 60, 3) := by decide +kernel
theorem dX4_play_73 : decode cX4_play 73 = .ok (.iadd, 1) := by decide +kernel
theorem dX4_play_74 : decode cX4_play 74 = .ok (.iastore, 1) := by decide +kernel
theorem dX4_play_75 : decode cX4_play 75 = .ok (.iload_n 1, 1) := by decide +kernel
theorem dX4_play_76 : decode cX4_play 76 = .ok (.bipush 18, 2) := by decide +kernel
theorem dX4_play_78 : decode cX4_play 78 = .ok (.if_icmp .ne 8, 3) := by decide +kernel
theorem dX4_play_81 : decode cX4_play 81 = .ok (.iload 8, 2) := by decide +kernel
theorem dX4_play_83 : decode cX4_play 83 = .ok (.goto 4, 3) := by decide +kernel
theorem dX4_play_86 : decode cX4_play 86 = .ok (.iconst (-1), 1) := by decide +kernel
theorem dX4_play_87 : decode cX4_play 87 = .ok (.istore 9, 2) := by decide +kernel
theorem dX4_play_89 : decode cX4_play 89 = .ok (.iload 9, 2) := by decide +kernel
theorem dX4_play_91 : decode cX4_play 91 = .ok (.iconst (-1), 1) := by decide +kernel
theorem dX4_play_92 : decode cX4_play 92 = .ok (.if_icmp .eq 24, 3) := by decide +kernel
theorem dX4_play_95 : decode cX4_play 95 = .ok (.aload_n 0, 1) := by decide +kernel
theorem dX4_play_96 : decode cX4_play 96 = .ok (.iload 9, 2) := by decide +kernel
theorem dX4_play_98 : decode cX4_play 98 = .ok (.iload 9, 2) := by decide +kernel
theorem dX4_play_100 : decode cX4_play 100 = .ok (.iload 6, 2) := by decide +kernel
theorem dX4_play_102 : decode cX4_play 102 = .ok (.if_icmp .ne 7, 3) := by decide +kernel
theorem dX4_play_105 : decode cX4_play 105 = .ok (.iload_n 2, 1) := by decide +kernel
theorem dX4_play_106 : decode cX4_play 106 = .ok (.goto 5, 3) := by decide +kernel
theorem dX4_play_109 : decode cX4_play 109 = .ok (.iload 6, 2) := by decide +kernel
theorem dX4_play_111 : decode cX4_play 111 = .ok (.iload 7, 2) := by decide +kernel
theorem dX4_play_113 : decode cX4_play 113 = .ok (.invokevirtual 64, 3) := by decide +kernel
theorem dX4_play_116 : decode cX4_play 116 = .ok (.iload_n 1, 1) := by decide +kernel
theorem dX4_play_117 : decode cX4_play 117 = .ok (.bipush 10, 2) := by decide +kernel
theorem dX4_play_119 : decode cX4_play 119 = .ok (.if_icmp .eq 9, 3) := by decide +kernel
theorem dX4_play_122 : decode cX4_play 122 = .ok (.iload_n 1, 1) := by decide +kernel
theorem dX4_play_123 : decode cX4_play 123 = .ok (.bipush 11, 2) := by decide +kernel
theorem dX4_play_125 : decode cX4_play 125 = .ok (.if_icmp .ne 7, 3) := by decide +kernel
theorem dX4_play_128 : decode cX4_play 128 = .ok (.iload_n 2, 1) := by decide +kernel
theorem dX4_play_129 : decode cX4_play 129 = .ok (.goto 4, 3) := by decide +kernel
theorem dX4_play_132 : decode cX4_play 132 = .ok (.iconst (-1), 1) := by decide +kernel
theorem dX4_play_133 : decode cX4_play 133 = .ok (.istore 10, 2) := by decide +kernel
theorem dX4_play_135 : decode cX4_play 135 = .ok (.aload_n 0, 1) := by decide +kernel
theorem dX4_play_136 : decode cX4_play 136 = .ok (.iload 6, 2) := by decide +kernel
theorem dX4_play_138 : decode cX4_play 138 = .ok (.iload 10, 2) := by decide +kernel
theorem dX4_play_140 : decode cX4_play 140 = .ok (.iload 9, 2) := by decide +kernel
theorem dX4_play_142 : decode cX4_play 142 = .ok (.iload 6, 2) := by decide +kernel
theorem dX4_play_144 : decode cX4_play 144 = .ok (.if_icmp .ne 7, 3) := by decide +kernel
theorem dX4_play_147 : decode cX4_play 147 = .ok (.iconst (-1), 1) := by decide +kernel
theorem dX4_play_148 : decode cX4_play 148 = .ok (.goto 5, 3) := by decide +kernel
theorem dX4_play_151 : decode cX4_play 151 = .ok (.iload 9, 2) := by decide +kernel
theorem dX4_play_153 : decode cX4_play 153 = .ok (.invokevirtual 68, 3) := by decide +kernel
theorem dX4_play_156 : decode cX4_play 156 = .ok (.iload_n 1, 1) := by decide +kernel
theorem dX4_play_157 : decode cX4_play 157 = .ok (.bipush 15, 2) := by decide +kernel
theorem dX4_play_159 : decode cX4_play 159 = .ok (.if_icmp .eq 15, 3) := by decide +kernel
theorem dX4_play_162 : decode cX4_play 162 = .ok (.iload_n 1, 1) := by decide +kernel
theorem dX4_play_163 : decode cX4_play 163 = .ok (.bipush 16, 2) := by decide +kernel
theorem dX4_play_165 : decode cX4_play 165 = .ok (.if_icmp .eq 9, 3) := by decide +kernel
theorem dX4_play_168 : decode cX4_play 168 = .ok (.iload_n 1, 1) := by decide +kernel
theorem dX4_play_169 : decode cX4_play 169 = .ok (.bipush 17, 2) := by decide +kernel
theorem dX4_play_171 : decode cX4_play 171 = .ok (.if_icmp .ne 7, 3) := by decide +kernel
theorem dX4_play_174 : decode cX4_play 174 = .ok (.iconst 1, 1) := by decide +kernel
theorem dX4_play_175 : decode cX4_play 175 = .ok (.goto 4, 3) := by decide +kernel
theorem dX4_play_178 : decode cX4_play 178 = .ok (.iconst 0, 1) := by decide +kernel
theorem dX4_play_179 : decode cX4_play 179 = .ok (.istore 11, 2) := by decide +kernel
theorem dX4_play_181 : decode cX4_play 181 = .ok (.iload 11, 2) := by decide +kernel
theorem dX4_play_183 : decode cX4_play 183 = .ok (.ifCond .eq 16, 3) := by decide +kernel
theorem dX4_play_186 : decode cX4_play 186 = .ok (.aload_n 0, 1) := by decide +kernel
theorem dX4_play_187 : decode cX4_play 187 = .ok (.getfield 21, 3) := by decide +kernel
theorem dX4_play_190 : decode cX4_play 190 = .ok (.getfield 71, 3) := by decide +kernel
theorem dX4_play_193 : decode cX4_play 193 = .ok (.iload 6, 2) := by decide +kernel
theorem dX4_play_195 : decode cX4_play 195 = .ok (.iaload, 1) := by decide +kernel
theorem dX4_play_196 : decode cX4_play 196 = .ok (.goto 5, 3) := by decide +kernel
theorem dX4_play_199 : decode cX4_play 199 = .ok (.iload 8, 2) := by decide +kernel
theorem dX4_play_201 : decode cX4_play 201 = .ok (.ireturn, 1) := by decide +kernel
theorem dX4_make_0 : decode cX4_make 0 = .ok (.iload_n 1, 1) := by decide +kernel
theorem dX4_make_1 : decode cX4_make 1 = .ok (.tableswitch 148 0 7 #[47, 60, 72, 86, 98, 110, 119, 133], 47) := by decide +kernel
theorem dX4_make_48 : decode cX4_make 48 = .ok (.aload_n 0, 1) := by decide +kernel
theorem dX4_make_49 : decode cX4_make 49 = .ok (.getfield 12, 3) := by decide +kernel
theorem dX4_make_52 : decode cX4_make 52 = .ok (.iload_n 2, 1) := by decide +kernel
theorem dX4_make_53 : decode cX4_make 53 = .ok (.iload_n 3, 1) := by decide +kernel
theorem dX4_make_54 : decode cX4_make 54 = .ok (.iload 4, 2) := by decide +kernel
theorem dX4_make_56 : decode cX4_make 56 = .ok (.invokevirtual 74, 3) := by decide +kernel
theorem dX4_make_59 : decode cX4_make 59 = .ok (.iconst 0, 1) := by decide +kernel
theorem dX4_make_60 : decode cX4_make 60 = .ok (.ireturn, 1) := by decide +kernel
theorem dX4_make_61 : decode cX4_make 61 = .ok (.aload_n 0, 1) := by decide +kernel
theorem dX4_make_62 : decode cX4_make 62 = .ok (.getfield 12, 3) := by decide +kernel
theorem dX4_make_65 : decode cX4_make 65 = .ok (.getfield 77, 3) := by decide +kernel
theorem dX4_make_68 : decode cX4_make 68 = .ok (.iload_n 2, 1) := by decide +kernel
theorem dX4_make_69 : decode cX4_make 69 = .ok (.iload_n 3, 1) := by decide +kernel
theorem dX4_make_70 : decode cX4_make 70 = .ok (.iastore, 1) := by decide +kernel
theorem dX4_make_71 : decode cX4_make 71 = .ok (.iconst 0, 1) := by decide +kernel
theorem dX4_make_72 : decode cX4_make 72 = .ok (.ireturn, 1) := by decide +kernel
theorem dX4_make_73 : decode cX4_make 73 = .ok (.aload_n 0, 1) := by decide +kernel
theorem dX4_make_74 : decode cX4_make 74 = .ok (.getfield 12, 3) := by decide +kernel
theorem dX4_make_77 : decode cX4_make 77 = .ok (.iload_n 2, 1) := by decide +kernel
theorem dX4_make_78 : decode cX4_make 78 = .ok (.iload_n 3, 1) := by decide +kernel
theorem dX4_make_79 : decode cX4_make 79 = .ok (.iload 4, 2) := by decide +kernel
theorem dX4_make_81 : decode cX4_make 81 = .ok (.iload 5, 2) := by decide +kernel
theorem dX4_make_83 : decode cX4_make 83 = .ok (.invokevirtual 80, 3) := by decide +kernel
theorem dX4_make_86 : decode cX4_make 86 = .ok (.ireturn, 1) := by decide +kernel
theorem dX4_make_87 : decode cX4_make 87 = .ok (.aload_n 0, 1) := by decide +kernel
theorem dX4_make_88 : decode cX4_make 88 = .ok (.getfield 12, 3) := by decide +kernel
theorem dX4_make_91 : decode cX4_make 91 = .ok (.iload_n 2, 1) := by decide +kernel
theorem dX4_make_92 : decode cX4_make 92 = .ok (.iload_n 3, 1) := by decide +kernel
theorem dX4_make_93 : decode cX4_make 93 = .ok (.iload 4, 2) := by decide +kernel
theorem dX4_make_95 : decode cX4_make 95 = .ok (.invokevirtual 83, 3) := by decide +kernel
theorem dX4_make_98 : decode cX4_make 98 = .ok (.ireturn, 1) := by decide +kernel
theorem dX4_make_99 : decode cX4_make 99 = .ok (.aload_n 0, 1) := by decide +kernel
theorem dX4_make_100 : decode cX4_make 100 = .ok (.getfield 21, 3) := by decide +kernel
theorem dX4_make_103 : decode cX4_make 103 = .ok (.iload_n 2, 1) := by decide +kernel
theorem dX4_make_104 : decode cX4_make 104 = .ok (.iload_n 3, 1) := by decide +kernel
theorem dX4_make_105 : decode cX4_make 105 = .ok (.iload 4, 2) := by decide +kernel
theorem dX4_make_107 : decode cX4_make 107 = .ok (.invokevirtual 87, 3) := by decide +kernel
theorem dX4_make_110 : decode cX4_make 110 = .ok (.ireturn, 1) := by decide +kernel
theorem dX4_make_111 : decode cX4_make 111 = .ok (.aload_n 0, 1) := by decide +kernel
theorem dX4_make_112 : decode cX4_make 112 = .ok (.getfield 28, 3) := by decide +kernel
theorem dX4_make_115 : decode cX4_make 115 = .ok (.iload_n 2, 1) := by decide +kernel
theorem dX4_make_116 : decode cX4_make 116 = .ok (.invokevirtual 90, 3) := by decide +kernel
theorem dX4_make_119 : decode cX4_make 119 = .ok (.ireturn, 1) := by decide +kernel
theorem dX4_make_120 : decode cX4_make 120 = .ok (.aload_n 0, 1) := by decide +kernel
theorem dX4_make_121 : decode cX4_make 121 = .ok (.getfield 28, 3) := by decide +kernel
theorem dX4_make_124 : decode cX4_make 124 = .ok (.iload_n 2, 1) := by decide +kernel
theorem dX4_make_125 : decode cX4_make 125 = .ok (.iload_n 3, 1) := by decide +kernel
theorem dX4_make_126 : decode cX4_make 126 = .ok (.iload 4, 2) := by decide +kernel
theorem dX4_make_128 : decode cX4_make 128 = .ok (.iload 5, 2) := by decide +kernel
theorem dX4_make_130 : decode cX4_make 130 = .ok (.invokevirtual 92, 3) := by decide +kernel
theorem dX4_make_133 : decode cX4_make 133 = .ok (.ireturn, 1) := by decide +kernel
theorem dX4_make_134 : decode cX4_make 134 = .ok (.aload_n 0, 1) := by decide +kernel
theorem dX4_make_135 : decode cX4_make 135 = .ok (.dup, 1) := by decide +kernel
theorem dX4_make_136 : decode cX4_make 136 = .ok (.getfield 32, 3) := by decide +kernel
theorem dX4_make_139 : decode cX4_make 139 = .ok (.iload_n 2, 1) := by decide +kernel
theorem dX4_make_140 : decode cX4_make 140 = .ok (.iadd, 1) := by decide +kernel
theorem dX4_make_141 : decode cX4_make 141 = .ok (.putfield 32, 3) := by decide +kernel
theorem dX4_make_144 : decode cX4_make 144 = .ok (.aload_n 0, 1) := by decide +kernel
theorem dX4_make_145 : decode cX4_make 145 = .ok (.getfield 32, 3) := by decide +kernel
theorem dX4_make_148 : decode cX4_make 148 = .ok (.ireturn, 1) := by decide +kernel
theorem dX4_make_149 : decode cX4_make 149 = .ok (.aload_n 0, 1) := by decide +kernel
theorem dX4_make_150 : decode cX4_make 150 = .ok (.iload_n 2, 1) := by decide +kernel
theorem dX4_make_151 : decode cX4_make 151 = .ok (.putfield 36, 3) := by decide +kernel
theorem dX4_make_154 : decode cX4_make 154 = .ok (.iconst 0, 1) := by decide +kernel
theorem dX4_make_155 : decode cX4_make 155 = .ok (.ireturn, 1) := by decide +kernel
theorem dX4_costOf_0 : decode cX4_costOf 0 = .ok (.iload_n 0, 1) := by decide +kernel
theorem dX4_costOf_1 : decode cX4_costOf 1 = .ok (.bipush 18, 2) := by decide +kernel
theorem dX4_costOf_3 : decode cX4_costOf 3 = .ok (.if_icmp .ne 5, 3) := by decide +kernel
theorem dX4_costOf_6 : decode cX4_costOf 6 = .ok (.iconst 3, 1) := by decide +kernel
theorem dX4_costOf_7 : decode cX4_costOf 7 = .ok (.ireturn, 1) := by decide +kernel
theorem dX4_costOf_8 : decode cX4_costOf 8 = .ok (.iload_n 0, 1) := by decide +kernel
theorem dX4_costOf_9 : decode cX4_costOf 9 = .ok (.bipush 9, 2) := by decide +kernel
theorem dX4_costOf_11 : decode cX4_costOf 11 = .ok (.if_icmp .eq 9, 3) := by decide +kernel
theorem dX4_costOf_14 : decode cX4_costOf 14 = .ok (.iload_n 0, 1) := by decide +kernel
theorem dX4_costOf_15 : decode cX4_costOf 15 = .ok (.bipush 19, 2) := by decide +kernel
theorem dX4_costOf_17 : decode cX4_costOf 17 = .ok (.if_icmp .ne 7, 3) := by decide +kernel
theorem dX4_costOf_20 : decode cX4_costOf 20 = .ok (.iconst 2, 1) := by decide +kernel
theorem dX4_costOf_21 : decode cX4_costOf 21 = .ok (.goto 4, 3) := by decide +kernel
theorem dX4_costOf_24 : decode cX4_costOf 24 = .ok (.iconst 1, 1) := by decide +kernel
theorem dX4_costOf_25 : decode cX4_costOf 25 = .ok (.ireturn, 1) := by decide +kernel
theorem dX4_perform_0 : decode cX4_perform 0 = .ok (.aload_n 0, 1) := by decide +kernel
theorem dX4_perform_1 : decode cX4_perform 1 = .ok (.getfield 21, 3) := by decide +kernel
theorem dX4_perform_4 : decode cX4_perform 4 = .ok (.getfield 95, 3) := by decide +kernel
theorem dX4_perform_7 : decode cX4_perform 7 = .ok (.iload_n 2, 1) := by decide +kernel
theorem dX4_perform_8 : decode cX4_perform 8 = .ok (.iaload, 1) := by decide +kernel
theorem dX4_perform_9 : decode cX4_perform 9 = .ok (.istore 5, 2) := by decide +kernel
theorem dX4_perform_11 : decode cX4_perform 11 = .ok (.iload_n 1, 1) := by decide +kernel
theorem dX4_perform_12 : decode cX4_perform 12 = .ok (.tableswitch 234 9 18 #[56, 85, 93, 101, 124, 147, 171, 184, 207, 227], 56) := by decide +kernel
theorem dX4_perform_68 : decode cX4_perform 68 = .ok (.aload_n 0, 1) := by decide +kernel
theorem dX4_perform_69 : decode cX4_perform 69 = .ok (.getfield 21, 3) := by decide +kernel
theorem dX4_perform_72 : decode cX4_perform 72 = .ok (.getfield 95, 3) := by decide +kernel
theorem dX4_perform_75 : decode cX4_perform 75 = .ok (.iload_n 2, 1) := by decide +kernel
theorem dX4_perform_76 : decode cX4_perform 76 = .ok (.aload_n 0, 1) := by decide +kernel
theorem dX4_perform_77 : decode cX4_perform 77 = .ok (.getfield 12, 3) := by decide +kernel
theorem dX4_perform_80 : decode cX4_perform 80 = .ok (.iload 5, 2) := by decide +kernel
theorem dX4_perform_82 : decode cX4_perform 82 = .ok (.iload_n 3, 1) := by decide +kernel
theorem dX4_perform_83 : decode cX4_perform 83 = .ok (.invokevirtual 98, 3) := by decide +kernel
theorem dX4_perform_86 : decode cX4_perform 86 = .ok (.iastore, 1) := by decide +kernel
theorem dX4_perform_87 : decode cX4_perform 87 = .ok (.aload_n 0, 1) := by decide +kernel
theorem dX4_perform_88 : decode cX4_perform 88 = .ok (.getfield 21, 3) := by decide +kernel
theorem dX4_perform_91 : decode cX4_perform 91 = .ok (.getfield 95, 3) := by decide +kernel
theorem dX4_perform_94 : decode cX4_perform 94 = .ok (.iload_n 2, 1) := by decide +kernel
theorem dX4_perform_95 : decode cX4_perform 95 = .ok (.iaload, 1) := by decide +kernel
theorem dX4_perform_96 : decode cX4_perform 96 = .ok (.ireturn, 1) := by decide +kernel
theorem dX4_perform_97 : decode cX4_perform 97 = .ok (.aload_n 0, 1) := by decide +kernel
theorem dX4_perform_98 : decode cX4_perform 98 = .ok (.iload_n 2, 1) := by decide +kernel
theorem dX4_perform_99 : decode cX4_perform 99 = .ok (.iload_n 3, 1) := by decide +kernel
theorem dX4_perform_100 : decode cX4_perform 100 = .ok (.iconst 0, 1) := by decide +kernel
theorem dX4_perform_101 : decode cX4_perform 101 = .ok (.invokevirtual 102, 3) := by decide +kernel
theorem dX4_perform_104 : decode cX4_perform 104 = .ok (.ireturn, 1) := by decide +kernel
theorem dX4_perform_105 : decode cX4_perform 105 = .ok (.aload_n 0, 1) := by decide +kernel
theorem dX4_perform_106 : decode cX4_perform 106 = .ok (.iload_n 2, 1) := by decide +kernel
theorem dX4_perform_107 : decode cX4_perform 107 = .ok (.iload_n 3, 1) := by decide +kernel
theorem dX4_perform_108 : decode cX4_perform 108 = .ok (.iconst 1, 1) := by decide +kernel
theorem dX4_perform_109 : decode cX4_perform 109 = .ok (.invokevirtual 102, 3) := by decide +kernel
theorem dX4_perform_112 : decode cX4_perform 112 = .ok (.ireturn, 1) := by decide +kernel
theorem dX4_perform_113 : decode cX4_perform 113 = .ok (.aload_n 0, 1) := by decide +kernel
theorem dX4_perform_114 : decode cX4_perform 114 = .ok (.getfield 12, 3) := by decide +kernel
theorem dX4_perform_117 : decode cX4_perform 117 = .ok (.iload 5, 2) := by decide +kernel
theorem dX4_perform_119 : decode cX4_perform 119 = .ok (.iload_n 3, 1) := by decide +kernel
theorem dX4_perform_120 : decode cX4_perform 120 = .ok (.iconst (-1), 1) := by decide +kernel
theorem dX4_perform_121 : decode cX4_perform 121 = .ok (.invokevirtual 83, 3) := by decide +kernel
theorem dX4_perform_124 : decode cX4_perform 124 = .ok (.pop, 1) := by decide +kernel
theorem dX4_perform_125 : decode cX4_perform 125 = .ok (.aload_n 0, 1) := by decide +kernel
theorem dX4_perform_126 : decode cX4_perform 126 = .ok (.getfield 21, 3) := by decide +kernel
theorem dX4_perform_129 : decode cX4_perform 129 = .ok (.iload_n 2, 1) := by decide +kernel
theorem dX4_perform_130 : decode cX4_perform 130 = .ok (.iload_n 3, 1) := by decide +kernel
theorem dX4_perform_131 : decode cX4_perform 131 = .ok (.iconst 1, 1) := by decide +kernel
theorem dX4_perform_132 : decode cX4_perform 132 = .ok (.invokevirtual 106, 3) := by decide +kernel
theorem dX4_perform_135 : decode cX4_perform 135 = .ok (.ireturn, 1) := by decide +kernel
theorem dX4_perform_136 : decode cX4_perform 136 = .ok (.aload_n 0, 1) := by decide +kernel
theorem dX4_perform_137 : decode cX4_perform 137 = .ok (.getfield 12, 3) := by decide +kernel
theorem dX4_perform_140 : decode cX4_perform 140 = .ok (.iload 5, 2) := by decide +kernel
theorem dX4_perform_142 : decode cX4_perform 142 = .ok (.iload_n 3, 1) := by decide +kernel
theorem dX4_perform_143 : decode cX4_perform 143 = .ok (.iconst 1, 1) := by decide +kernel
theorem dX4_perform_144 : decode cX4_perform 144 = .ok (.invokevirtual 83, 3) := by decide +kernel
theorem dX4_perform_147 : decode cX4_perform 147 = .ok (.pop, 1) := by decide +kernel
theorem dX4_perform_148 : decode cX4_perform 148 = .ok (.aload_n 0, 1) := by decide +kernel
theorem dX4_perform_149 : decode cX4_perform 149 = .ok (.getfield 21, 3) := by decide +kernel
theorem dX4_perform_152 : decode cX4_perform 152 = .ok (.iload_n 2, 1) := by decide +kernel
theorem dX4_perform_153 : decode cX4_perform 153 = .ok (.iload_n 3, 1) := by decide +kernel
theorem dX4_perform_154 : decode cX4_perform 154 = .ok (.iconst (-1), 1) := by decide +kernel
theorem dX4_perform_155 : decode cX4_perform 155 = .ok (.invokevirtual 106, 3) := by decide +kernel
theorem dX4_perform_158 : decode cX4_perform 158 = .ok (.ireturn, 1) := by decide +kernel
theorem dX4_perform_159 : decode cX4_perform 159 = .ok (.aload_n 0, 1) := by decide +kernel
theorem dX4_perform_160 : decode cX4_perform 160 = .ok (.getfield 21, 3) := by decide +kernel
theorem dX4_perform_163 : decode cX4_perform 163 = .ok (.iload_n 3, 1) := by decide +kernel
theorem dX4_perform_164 : decode cX4_perform 164 = .ok (.iload 4, 2) := by decide +kernel
theorem dX4_perform_166 : decode cX4_perform 166 = .ok (.iconst 1, 1) := by decide +kernel
theorem dX4_perform_167 : decode cX4_perform 167 = .ok (.invokevirtual 106, 3) := by decide +kernel
theorem dX4_perform_170 : decode cX4_perform 170 = .ok (.pop, 1) := by decide +kernel
theorem dX4_perform_171 : decode cX4_perform 171 = .ok (.aload_n 0, 1) := by decide +kernel
theorem dX4_perform_172 : decode cX4_perform 172 = .ok (.getfield 21, 3) := by decide +kernel
theorem dX4_perform_175 : decode cX4_perform 175 = .ok (.iload_n 2, 1) := by decide +kernel
theorem dX4_perform_176 : decode cX4_perform 176 = .ok (.iload 4, 2) := by decide +kernel
theorem dX4_perform_178 : decode cX4_perform 178 = .ok (.iconst (-1), 1) := by decide +kernel
theorem dX4_perform_179 : decode cX4_perform 179 = .ok (.invokevirtual 106, 3) := by decide +kernel
theorem dX4_perform_182 : decode cX4_perform 182 = .ok (.ireturn, 1) := by decide +kernel
theorem dX4_perform_183 : decode cX4_perform 183 = .ok (.aload_n 0, 1) := by decide +kernel
theorem dX4_perform_184 : decode cX4_perform 184 = .ok (.getfield 21, 3) := by decide +kernel
theorem dX4_perform_187 : decode cX4_perform 187 = .ok (.iload_n 2, 1) := by decide +kernel
theorem dX4_perform_188 : decode cX4_perform 188 = .ok (.iload_n 3, 1) := by decide +kernel
theorem dX4_perform_189 : decode cX4_perform 189 = .ok (.iload 4, 2) := by decide +kernel
theorem dX4_perform_191 : decode cX4_perform 191 = .ok (.invokevirtual 109, 3) := by decide +kernel
theorem dX4_perform_194 : decode cX4_perform 194 = .ok (.iconst 0, 1) := by decide +kernel
theorem dX4_perform_195 : decode cX4_perform 195 = .ok (.ireturn, 1) := by decide +kernel
theorem dX4_perform_196 : decode cX4_perform 196 = .ok (.aload_n 0, 1) := by decide +kernel
theorem dX4_perform_197 : decode cX4_perform 197 = .ok (.iload_n 2, 1) := by decide +kernel
theorem dX4_perform_198 : decode cX4_perform 198 = .ok (.iload_n 3, 1) := by decide +kernel
theorem dX4_perform_199 : decode cX4_perform 199 = .ok (.iconst 1, 1) := by decide +kernel
theorem dX4_perform_200 : decode cX4_perform 200 = .ok (.aload_n 0, 1) := by decide +kernel
theorem dX4_perform_201 : decode cX4_perform 201 = .ok (.getfield 12, 3) := by decide +kernel
theorem dX4_perform_204 : decode cX4_perform 204 = .ok (.getfield 112, 3) := by decide +kernel
theorem dX4_perform_207 : decode cX4_perform 207 = .ok (.iload 5, 2) := by decide +kernel
theorem dX4_perform_209 : decode cX4_perform 209 = .ok (.iload_n 3, 1) := by decide +kernel
theorem dX4_perform_210 : decode cX4_perform 210 = .ok (.invokestatic 115, 3) := by decide +kernel
theorem dX4_perform_213 : decode cX4_perform 213 = .ok (.iaload, 1) := by decide +kernel
theorem dX4_perform_214 : decode cX4_perform 214 = .ok (.invokevirtual 118, 3) := by decide +kernel
theorem dX4_perform_217 : decode cX4_perform 217 = .ok (.iconst 0, 1) := by decide +kernel
theorem dX4_perform_218 : decode cX4_perform 218 = .ok (.ireturn, 1) := by decide +kernel
theorem dX4_perform_219 : decode cX4_perform 219 = .ok (.aload_n 0, 1) := by decide +kernel
theorem dX4_perform_220 : decode cX4_perform 220 = .ok (.iload_n 2, 1) := by decide +kernel
theorem dX4_perform_221 : decode cX4_perform 221 = .ok (.iload_n 3, 1) := by decide +kernel
theorem dX4_perform_222 : decode cX4_perform 222 = .ok (.iconst (-1), 1) := by decide +kernel
theorem dX4_perform_223 : decode cX4_perform 223 = .ok (.aload_n 0, 1) := by decide +kernel
theorem dX4_perform_224 : decode cX4_perform 224 = .ok (.getfield 12, 3) := by decide +kernel
theorem dX4_perform_227 : decode cX4_perform 227 = .ok (.iload 5, 2) := by decide +kernel
theorem dX4_perform_229 : decode cX4_perform 229 = .ok (.iload_n 3, 1) := by decide +kernel
theorem dX4_perform_230 : decode cX4_perform 230 = .ok (.invokevirtual 122, 3) := by decide +kernel
theorem dX4_perform_233 : decode cX4_perform 233 = .ok (.ineg, 1) := by decide +kernel
theorem dX4_perform_234 : decode cX4_perform 234 = .ok (.invokevirtual 118, 3) := by decide +kernel
theorem dX4_perform_237 : decode cX4_perform 237 = .ok (.iconst 0, 1) := by decide +kernel
theorem dX4_perform_238 : decode cX4_perform 238 = .ok (.ireturn, 1) := by decide +kernel
theorem dX4_perform_239 : decode cX4_perform 239 = .ok (.aload_n 0, 1) := by decide +kernel
theorem dX4_perform_240 : decode cX4_perform 240 = .ok (.iload_n 2, 1) := by decide +kernel
theorem dX4_perform_241 : decode cX4_perform 241 = .ok (.iload_n 3, 1) := by decide +kernel
theorem dX4_perform_242 : decode cX4_perform 242 = .ok (.invokevirtual 125, 3) := by decide +kernel
theorem dX4_perform_245 : decode cX4_perform 245 = .ok (.ireturn, 1) := by decide +kernel
theorem dX4_perform_246 : decode cX4_perform 246 = .ok (.aload_n 0, 1) := by decide +kernel
theorem dX4_perform_247 : decode cX4_perform 247 = .ok (.getfield 21, 3) := by decide +kernel
theorem dX4_perform_250 : decode cX4_perform 250 = .ok (.getfield 128, 3) := by decide +kernel
theorem dX4_perform_253 : decode cX4_perform 253 = .ok (.iload_n 2, 1) := by decide +kernel
theorem dX4_perform_254 : decode cX4_perform 254 = .ok (.aload_n 0, 1) := by decide +kernel
theorem dX4_perform_255 : decode cX4_perform 255 = .ok (.getfield 21, 3) := by decide +kernel
theorem dX4_perform_258 : decode cX4_perform 258 = .ok (.getfield 128, 3) := by decide +kernel
theorem dX4_perform_261 : decode cX4_perform 261 = .ok (.iload_n 2, 1) := by decide +kernel
theorem dX4_perform_262 : decode cX4_perform 262 = .ok (.iaload, 1) := by decide +kernel
theorem dX4_perform_263 : decode cX4_perform 263 = .ok (.iconst 1, 1) := by decide +kernel
theorem dX4_perform_264 : decode cX4_perform 264 = .ok (.iadd, 1) := by decide +kernel
theorem dX4_perform_265 : decode cX4_perform 265 = .ok (.bipush 20, 2) := by decide +kernel
theorem dX4_perform_267 : decode cX4_perform 267 = .ok (.invokestatic 131, 3) := by decide +kernel
theorem dX4_perform_270 : decode cX4_perform 270 = .ok (.iastore, 1) := by decide +kernel
theorem dX4_perform_271 : decode cX4_perform 271 = .ok (.aload_n 0, 1) := by decide +kernel
theorem dX4_perform_272 : decode cX4_perform 272 = .ok (.getfield 21, 3) := by decide +kernel
theorem dX4_perform_275 : decode cX4_perform 275 = .ok (.getfield 128, 3) := by decide +kernel
theorem dX4_perform_278 : decode cX4_perform 278 = .ok (.iload_n 2, 1) := by decide +kernel
theorem dX4_perform_279 : decode cX4_perform 279 = .ok (.iaload, 1) := by decide +kernel
theorem dX4_perform_280 : decode cX4_perform 280 = .ok (.ireturn, 1) := by decide +kernel
theorem dX4_tell_0 : decode cX4_tell 0 = .ok (.aload_n 0, 1) := by decide +kernel
theorem dX4_tell_1 : decode cX4_tell 1 = .ok (.getfield 21, 3) := by decide +kernel
theorem dX4_tell_4 : decode cX4_tell 4 = .ok (.getfield 95, 3) := by decide +kernel
theorem dX4_tell_7 : decode cX4_tell 7 = .ok (.iload_n 1, 1) := by decide +kernel
theorem dX4_tell_8 : decode cX4_tell 8 = .ok (.iaload, 1) := by decide +kernel
theorem dX4_tell_9 : decode cX4_tell 9 = .ok (.istore 4, 2) := by decide +kernel
theorem dX4_tell_11 : decode cX4_tell 11 = .ok (.iconst 0, 1) := by decide +kernel
theorem dX4_tell_12 : decode cX4_tell 12 = .ok (.istore 5, 2) := by decide +kernel
theorem dX4_tell_14 : decode cX4_tell 14 = .ok (.iconst 0, 1) := by decide +kernel
theorem dX4_tell_15 : decode cX4_tell 15 = .ok (.istore 6, 2) := by decide +kernel
theorem dX4_tell_17 : decode cX4_tell 17 = .ok (.iload 6, 2) := by decide +kernel
theorem dX4_tell_19 : decode cX4_tell 19 = .ok (.aload_n 0, 1) := by decide +kernel
theorem dX4_tell_20 : decode cX4_tell 20 = .ok (.getfield 21, 3) := by decide +kernel
theorem dX4_tell_23 : decode cX4_tell 23 = .ok (.getfield 136, 3) := by decide +kernel
theorem dX4_tell_26 : decode cX4_tell 26 = .ok (.if_icmp .ge 82, 3) := by decide +kernel
theorem dX4_tell_29 : decode cX4_tell 29 = .ok (.aload_n 0, 1) := by decide +kernel
theorem dX4_tell_30 : decode cX4_tell 30 = .ok (.getfield 21, 3) := by decide +kernel
theorem dX4_tell_33 : decode cX4_tell 33 = .ok (.getfield 95, 3) := by decide +kernel
theorem dX4_tell_36 : decode cX4_tell 36 = .ok (.iload 6, 2) := by decide +kernel
theorem dX4_tell_38 : decode cX4_tell 38 = .ok (.iaload, 1) := by decide +kernel
theorem dX4_tell_39 : decode cX4_tell 39 = .ok (.istore 7, 2) := by decide +kernel
theorem dX4_tell_41 : decode cX4_tell 41 = .ok (.iload 7, 2) := by decide +kernel
theorem dX4_tell_43 : decode cX4_tell 43 = .ok (.iload 4, 2) := by decide +kernel
theorem dX4_tell_45 : decode cX4_tell 45 = .ok (.if_icmp .eq 21, 3) := by decide +kernel
theorem dX4_tell_48 : decode cX4_tell 48 = .ok (.iload_n 3, 1) := by decide +kernel
theorem dX4_tell_49 : decode cX4_tell 49 = .ok (.ifCond .eq 21, 3) := by decide +kernel
theorem dX4_tell_52 : decode cX4_tell 52 = .ok (.aload_n 0, 1) := by decide +kernel
theorem dX4_tell_53 : decode cX4_tell 53 = .ok (.getfield 12, 3) := by decide +kernel
theorem dX4_tell_56 : decode cX4_tell 56 = .ok (.iload 4, 2) := by decide +kernel
theorem dX4_tell_58 : decode cX4_tell 58 = .ok (.iload 7, 2) := by decide +kernel
theorem dX4_tell_60 : decode cX4_tell 60 = .ok (.invokevirtual 139, 3) := by decide +kernel
theorem dX4_tell_63 : decode cX4_tell 63 = .ok (.ifCond .eq 7, 3) := by decide +kernel
theorem dX4_tell_66 : decode cX4_tell 66 = .ok (.iconst 1, 1) := by decide +kernel
theorem dX4_tell_67 : decode cX4_tell 67 = .ok (.goto 4, 3) := by decide +kernel
theorem dX4_tell_70 : decode cX4_tell 70 = .ok (.iconst 0, 1) := by decide +kernel
theorem dX4_tell_71 : decode cX4_tell 71 = .ok (.istore 8, 2) := by decide +kernel
theorem dX4_tell_73 : decode cX4_tell 73 = .ok (.iload 6, 2) := by decide +kernel
theorem dX4_tell_75 : decode cX4_tell 75 = .ok (.iload_n 1, 1) := by decide +kernel
theorem dX4_tell_76 : decode cX4_tell 76 = .ok (.if_icmp .eq 26, 3) := by decide +kernel
theorem dX4_tell_79 : decode cX4_tell 79 = .ok (.iload 8, 2) := by decide +kernel
theorem dX4_tell_81 : decode cX4_tell 81 = .ok (.ifCond .eq 21, 3) := by decide +kernel
theorem dX4_tell_84 : decode cX4_tell 84 = .ok (.aload_n 0, 1) := by decide +kernel
theorem dX4_tell_85 : decode cX4_tell 85 = .ok (.getfield 21, 3) := by decide +kernel
theorem dX4_tell_88 : decode cX4_tell 88 = .ok (.iload 6, 2) := by decide +kernel
theorem dX4_tell_90 : decode cX4_tell 90 = .ok (.bipush 100, 2) := by decide +kernel
theorem dX4_tell_92 : decode cX4_tell 92 = .ok (.iload_n 1, 1) := by decide +kernel
theorem dX4_tell_93 : decode cX4_tell 93 = .ok (.imul, 1) := by decide +kernel
theorem dX4_tell_94 : decode cX4_tell 94 = .ok (.iload_n 2, 1) := by decide +kernel
theorem dX4_tell_95 : decode cX4_tell 95 = .ok (.iadd, 1) := by decide +kernel
theorem dX4_tell_96 : decode cX4_tell 96 = .ok (.invokevirtual 143, 3) := by decide +kernel
theorem dX4_tell_99 : decode cX4_tell 99 = .ok (.iinc 5 1, 3) := by decide +kernel
theorem dX4_tell_102 : decode cX4_tell 102 = .ok (.iinc 6 1, 3) := by decide +kernel
theorem dX4_tell_105 : decode cX4_tell 105 = .ok (.goto (-88), 3) := by decide +kernel
theorem dX4_tell_108 : decode cX4_tell 108 = .ok (.iload 5, 2) := by decide +kernel
theorem dX4_tell_110 : decode cX4_tell 110 = .ok (.ireturn, 1) := by decide +kernel
theorem dX4_trade_0 : decode cX4_trade 0 = .ok (.aload_n 0, 1) := by decide +kernel
theorem dX4_trade_1 : decode cX4_trade 1 = .ok (.getfield 21, 3) := by decide +kernel
theorem dX4_trade_4 : decode cX4_trade 4 = .ok (.getfield 95, 3) := by decide +kernel
theorem dX4_trade_7 : decode cX4_trade 7 = .ok (.iload_n 1, 1) := by decide +kernel
theorem dX4_trade_8 : decode cX4_trade 8 = .ok (.iaload, 1) := by decide +kernel
theorem dX4_trade_9 : decode cX4_trade 9 = .ok (.istore 5, 2) := by decide +kernel
theorem dX4_trade_11 : decode cX4_trade 11 = .ok (.aload_n 0, 1) := by decide +kernel
theorem dX4_trade_12 : decode cX4_trade 12 = .ok (.getfield 21, 3) := by decide +kernel
theorem dX4_trade_15 : decode cX4_trade 15 = .ok (.iload_n 1, 1) := by decide +kernel
theorem dX4_trade_16 : decode cX4_trade 16 = .ok (.iload_n 2, 1) := by decide +kernel
theorem dX4_trade_17 : decode cX4_trade 17 = .ok (.iload_n 3, 1) := by decide +kernel
theorem dX4_trade_18 : decode cX4_trade 18 = .ok (.invokevirtual 106, 3) := by decide +kernel
theorem dX4_trade_21 : decode cX4_trade 21 = .ok (.pop, 1) := by decide +kernel
theorem dX4_trade_22 : decode cX4_trade 22 = .ok (.aload_n 0, 1) := by decide +kernel
theorem dX4_trade_23 : decode cX4_trade 23 = .ok (.getfield 12, 3) := by decide +kernel
theorem dX4_trade_26 : decode cX4_trade 26 = .ok (.getfield 147, 3) := by decide +kernel
theorem dX4_trade_29 : decode cX4_trade 29 = .ok (.iload 5, 2) := by decide +kernel
theorem dX4_trade_31 : decode cX4_trade 31 = .ok (.iload_n 2, 1) := by decide +kernel
theorem dX4_trade_32 : decode cX4_trade 32 = .ok (.invokestatic 115, 3) := by decide +kernel
theorem dX4_trade_35 : decode cX4_trade 35 = .ok (.dup2, 1) := by decide +kernel
theorem dX4_trade_36 : decode cX4_trade 36 = .ok (.iaload, 1) := by decide +kernel
theorem dX4_trade_37 : decode cX4_trade 37 = .ok (.iload_n 3, 1) := by decide +kernel
theorem dX4_trade_38 : decode cX4_trade 38 = .ok (.isub, 1) := by decide +kernel
theorem dX4_trade_39 : decode cX4_trade 39 = .ok (.iastore, 1) := by decide +kernel
theorem dX4_trade_40 : decode cX4_trade 40 = .ok (.aload_n 0, 1) := by decide +kernel
theorem dX4_trade_41 : decode cX4_trade 41 = .ok (.getfield 21, 3) := by decide +kernel
theorem dX4_trade_44 : decode cX4_trade 44 = .ok (.getfield 71, 3) := by decide +kernel
theorem dX4_trade_47 : decode cX4_trade 47 = .ok (.iload_n 1, 1) := by decide +kernel
theorem dX4_trade_48 : decode cX4_trade 48 = .ok (.dup2, 1) := by decide +kernel
theorem dX4_trade_49 : decode cX4_trade 49 = .ok (.iaload, 1) := by decide +kernel
theorem dX4_trade_50 : decode cX4_trade 50 = .ok (.iload 4, 2) := by decide +kernel
theorem dX4_trade_52 : decode cX4_trade 52 = .ok (.isub, 1) := by decide +kernel
theorem dX4_trade_53 : decode cX4_trade 53 = .ok (.iastore, 1) := by decide +kernel
theorem dX4_trade_54 : decode cX4_trade 54 = .ok (.aload_n 0, 1) := by decide +kernel
theorem dX4_trade_55 : decode cX4_trade 55 = .ok (.getfield 12, 3) := by decide +kernel
theorem dX4_trade_58 : decode cX4_trade 58 = .ok (.getfield 77, 3) := by decide +kernel
theorem dX4_trade_61 : decode cX4_trade 61 = .ok (.iload 5, 2) := by decide +kernel
theorem dX4_trade_63 : decode cX4_trade 63 = .ok (.dup2, 1) := by decide +kernel
theorem dX4_trade_64 : decode cX4_trade 64 = .ok (.iaload, 1) := by decide +kernel
theorem dX4_trade_65 : decode cX4_trade 65 = .ok (.iload 4, 2) := by decide +kernel
theorem dX4_trade_67 : decode cX4_trade 67 = .ok (.iadd, 1) := by decide +kernel
theorem dX4_trade_68 : decode cX4_trade 68 = .ok (.iastore, 1) := by decide +kernel
theorem dX4_trade_69 : decode cX4_trade 69 = .ok (.return_, 1) := by decide +kernel
theorem dX4_roll_0 : decode cX4_roll 0 = .ok (.aload_n 0, 1) := by decide +kernel
theorem dX4_roll_1 : decode cX4_roll 1 = .ok (.sipush 25173, 3) := by decide +kernel
theorem dX4_roll_4 : decode cX4_roll 4 = .ok (.aload_n 0, 1) := by decide +kernel
theorem dX4_roll_5 : decode cX4_roll 5 = .ok (.getfield 36, 3) := by decide +kernel
theorem dX4_roll_8 : decode cX4_roll 8 = .ok (.imul, 1) := by decide +kernel
theorem dX4_roll_9 : decode cX4_roll 9 = .ok (.sipush 13849, 3) := by decide +kernel
theorem dX4_roll_12 : decode cX4_roll 12 = .ok (.iadd, 1) := by decide +kernel
theorem dX4_roll_13 : decode cX4_roll 13 = .ok (.ldc 150, 2) := by decide +kernel
theorem dX4_roll_15 : decode cX4_roll 15 = .ok (.irem, 1) := by decide +kernel
theorem dX4_roll_16 : decode cX4_roll 16 = .ok (.putfield 36, 3) := by decide +kernel
theorem dX4_roll_19 : decode cX4_roll 19 = .ok (.aload_n 0, 1) := by decide +kernel
theorem dX4_roll_20 : decode cX4_roll 20 = .ok (.getfield 36, 3) := by decide +kernel
theorem dX4_roll_23 : decode cX4_roll 23 = .ok (.bipush 6, 2) := by decide +kernel
theorem dX4_roll_25 : decode cX4_roll 25 = .ok (.irem, 1) := by decide +kernel
theorem dX4_roll_26 : decode cX4_roll 26 = .ok (.iconst 1, 1) := by decide +kernel
theorem dX4_roll_27 : decode cX4_roll 27 = .ok (.iadd, 1) := by decide +kernel
theorem dX4_roll_28 : decode cX4_roll 28 = .ok (.ireturn, 1) := by decide +kernel
theorem dX4_fight_0 : decode cX4_fight 0 = .ok (.iconst 0, 1) := by decide +kernel
theorem dX4_fight_1 : decode cX4_fight 1 = .ok (.istore_n 3, 1) := by decide +kernel
theorem dX4_fight_2 : decode cX4_fight 2 = .ok (.iload_n 3, 1) := by decide +kernel
theorem dX4_fight_3 : decode cX4_fight 3 = .ok (.iconst 3, 1) := by decide +kernel
theorem dX4_fight_4 : decode cX4_fight 4 = .ok (.if_icmp .ge 92, 3) := by decide +kernel
theorem dX4_fight_7 : decode cX4_fight 7 = .ok (.aload_n 0, 1) := by decide +kernel
theorem dX4_fight_8 : decode cX4_fight 8 = .ok (.invokevirtual 151, 3) := by decide +kernel
theorem dX4_fight_11 : decode cX4_fight 11 = .ok (.aload_n 0, 1) := by decide +kernel
theorem dX4_fight_12 : decode cX4_fight 12 = .ok (.getfield 21, 3) := by decide +kernel
theorem dX4_fight_15 : decode cX4_fight 15 = .ok (.getfield 154, 3) := by decide +kernel
theorem dX4_fight_18 : decode cX4_fight 18 = .ok (.iload_n 1, 1) := by decide +kernel
theorem dX4_fight_19 : decode cX4_fight 19 = .ok (.iaload, 1) := by decide +kernel
theorem dX4_fight_20 : decode cX4_fight 20 = .ok (.iadd, 1) := by decide +kernel
theorem dX4_fight_21 : decode cX4_fight 21 = .ok (.istore 4, 2) := by decide +kernel
theorem dX4_fight_23 : decode cX4_fight 23 = .ok (.aload_n 0, 1) := by decide +kernel
theorem dX4_fight_24 : decode cX4_fight 24 = .ok (.invokevirtual 151, 3) := by decide +kernel
theorem dX4_fight_27 : decode cX4_fight 27 = .ok (.aload_n 0, 1) := by decide +kernel
theorem dX4_fight_28 : decode cX4_fight 28 = .ok (.getfield 21, 3) := by decide +kernel
theorem dX4_fight_31 : decode cX4_fight 31 = .ok (.getfield 154, 3) := by decide +kernel
theorem dX4_fight_34 : decode cX4_fight 34 = .ok (.iload_n 2, 1) := by decide +kernel
theorem dX4_fight_35 : decode cX4_fight 35 = .ok (.iaload, 1) := by decide +kernel
theorem dX4_fight_36 : decode cX4_fight 36 = .ok (.iadd, 1) := by decide +kernel
theorem dX4_fight_37 : decode cX4_fight 37 = .ok (.istore 5, 2) := by decide +kernel
theorem dX4_fight_39 : decode cX4_fight 39 = .ok (.iload 4, 2) := by decide +kernel
theorem dX4_fight_41 : decode cX4_fight 41 = .ok (.iload 5, 2) := by decide +kernel
theorem dX4_fight_43 : decode cX4_fight 43 = .ok (.if_icmp .ge 7, 3) := by decide +kernel
theorem dX4_fight_46 : decode cX4_fight 46 = .ok (.iload_n 1, 1) := by decide +kernel
theorem dX4_fight_47 : decode cX4_fight 47 = .ok (.goto 4, 3) := by decide +kernel
theorem dX4_fight_50 : decode cX4_fight 50 = .ok (.iload_n 2, 1) := by decide +kernel
theorem dX4_fight_51 : decode cX4_fight 51 = .ok (.istore 6, 2) := by decide +kernel
theorem dX4_fight_53 : decode cX4_fight 53 = .ok (.aload_n 0, 1) := by decide +kernel
theorem dX4_fight_54 : decode cX4_fight 54 = .ok (.getfield 21, 3) := by decide +kernel
theorem dX4_fight_57 : decode cX4_fight 57 = .ok (.getfield 128, 3) := by decide +kernel
theorem dX4_fight_60 : decode cX4_fight 60 = .ok (.iload 6, 2) := by decide +kernel
theorem dX4_fight_62 : decode cX4_fight 62 = .ok (.dup2, 1) := by decide +kernel
theorem dX4_fight_63 : decode cX4_fight 63 = .ok (.iaload, 1) := by decide +kernel
theorem dX4_fight_64 : decode cX4_fight 64 = .ok (.iload 4, 2) := by decide +kernel
theorem dX4_fight_66 : decode cX4_fight 66 = .ok (.iload 5, 2) := by decide +kernel
theorem dX4_fight_68 : decode cX4_fight 68 = .ok (.isub, 1) := by decide +kernel
theorem dX4_fight_69 : decode cX4_fight 69 = .ok (.invokestatic 157, 3) := by decide +kernel
theorem dX4_fight_72 : decode cX4_fight 72 = .ok (.isub, 1) := by decide +kernel
theorem dX4_fight_73 : decode cX4_fight 73 = .ok (.iastore, 1) := by decide +kernel
theorem dX4_fight_74 : decode cX4_fight 74 = .ok (.aload_n 0, 1) := by decide +kernel
theorem dX4_fight_75 : decode cX4_fight 75 = .ok (.getfield 21, 3) := by decide +kernel
theorem dX4_fight_78 : decode cX4_fight 78 = .ok (.getfield 128, 3) := by decide +kernel
theorem dX4_fight_81 : decode cX4_fight 81 = .ok (.iload 6, 2) := by decide +kernel
theorem dX4_fight_83 : decode cX4_fight 83 = .ok (.iaload, 1) := by decide +kernel
theorem dX4_fight_84 : decode cX4_fight 84 = .ok (.ifCond .gt 6, 3) := by decide +kernel
theorem dX4_fight_87 : decode cX4_fight 87 = .ok (.iload 6, 2) := by decide +kernel
theorem dX4_fight_89 : decode cX4_fight 89 = .ok (.ireturn, 1) := by decide +kernel
theorem dX4_fight_90 : decode cX4_fight 90 = .ok (.iinc 3 1, 3) := by decide +kernel
theorem dX4_fight_93 : decode cX4_fight 93 = .ok (.goto (-91), 3) := by decide +kernel
theorem dX4_fight_96 : decode cX4_fight 96 = .ok (.iconst (-1), 1) := by decide +kernel
theorem dX4_fight_97 : decode cX4_fight 97 = .ok (.ireturn, 1) := by decide +kernel
theorem dX4_defeat_0 : decode cX4_defeat 0 = .ok (.aload_n 0, 1) := by decide +kernel
theorem dX4_defeat_1 : decode cX4_defeat 1 = .ok (.getfield 21, 3) := by decide +kernel
theorem dX4_defeat_4 : decode cX4_defeat 4 = .ok (.iload_n 1, 1) := by decide +kernel
theorem dX4_defeat_5 : decode cX4_defeat 5 = .ok (.iload_n 2, 1) := by decide +kernel
theorem dX4_defeat_6 : decode cX4_defeat 6 = .ok (.aload_n 0, 1) := by decide +kernel
theorem dX4_defeat_7 : decode cX4_defeat 7 = .ok (.getfield 21, 3) := by decide +kernel
theorem dX4_defeat_10 : decode cX4_defeat 10 = .ok (.getfield 71, 3) := by decide +kernel
theorem dX4_defeat_13 : decode cX4_defeat 13 = .ok (.iload_n 1, 1) := by decide +kernel
theorem dX4_defeat_14 : decode cX4_defeat 14 = .ok (.iaload, 1) := by decide +kernel
theorem dX4_defeat_15 : decode cX4_defeat 15 = .ok (.iconst 2, 1) := by decide +kernel
theorem dX4_defeat_16 : decode cX4_defeat 16 = .ok (.idiv, 1) := by decide +kernel
theorem dX4_defeat_17 : decode cX4_defeat 17 = .ok (.invokevirtual 109, 3) := by decide +kernel
theorem dX4_defeat_20 : decode cX4_defeat 20 = .ok (.iconst 0, 1) := by decide +kernel
theorem dX4_defeat_21 : decode cX4_defeat 21 = .ok (.istore 4, 2) := by decide +kernel
theorem dX4_defeat_23 : decode cX4_defeat 23 = .ok (.iload 4, 2) := by decide +kernel
theorem dX4_defeat_25 : decode cX4_defeat 25 = .ok (.iconst 5, 1) := by decide +kernel
theorem dX4_defeat_26 : decode cX4_defeat 26 = .ok (.if_icmp .ge 60, 3) := by decide +kernel
theorem dX4_defeat_29 : decode cX4_defeat 29 = .ok (.aload_n 0, 1) := by decide +kernel
theorem dX4_defeat_30 : decode cX4_defeat 30 = .ok (.getfield 21, 3) := by decide +kernel
theorem dX4_defeat_33 : decode cX4_defeat 33 = .ok (.getfield 160, 3) := by decide +kernel
theorem dX4_defeat_36 : decode cX4_defeat 36 = .ok (.iload_n 1, 1) := by decide +kernel
theorem dX4_defeat_37 : decode cX4_defeat 37 = .ok (.iload 4, 2) := by decide +kernel
theorem dX4_defeat_39 : decode cX4_defeat 39 = .ok (.invokestatic 115, 3) := by decide +kernel
theorem dX4_defeat_42 : decode cX4_defeat 42 = .ok (.iaload, 1) := by decide +kernel
theorem dX4_defeat_43 : decode cX4_defeat 43 = .ok (.istore 5, 2) := by decide +kernel
theorem dX4_defeat_45 : decode cX4_defeat 45 = .ok (.aload_n 0, 1) := by decide +kernel
theorem dX4_defeat_46 : decode cX4_defeat 46 = .ok (.getfield 21, 3) := by decide +kernel
theorem dX4_defeat_49 : decode cX4_defeat 49 = .ok (.iload_n 1, 1) := by decide +kernel
theorem dX4_defeat_50 : decode cX4_defeat 50 = .ok (.iload 4, 2) := by decide +kernel
theorem dX4_defeat_52 : decode cX4_defeat 52 = .ok (.iload 5, 2) := by decide +kernel
theorem dX4_defeat_54 : decode cX4_defeat 54 = .ok (.ineg, 1) := by decide +kernel
theorem dX4_defeat_55 : decode cX4_defeat 55 = .ok (.invokevirtual 106, 3) := by decide +kernel
theorem dX4_defeat_58 : decode cX4_defeat 58 = .ok (.pop, 1) := by decide +kernel
theorem dX4_defeat_59 : decode cX4_defeat 59 = .ok (.aload_n 0, 1) := by decide +kernel
theorem dX4_defeat_60 : decode cX4_defeat 60 = .ok (.getfield 12, 3) := by decide +kernel
theorem dX4_defeat_63 : decode cX4_defeat 63 = .ok (.aload_n 0, 1) := by decide +kernel
theorem dX4_defeat_64 : decode cX4_defeat 64 = .ok (.getfield 21, 3) := by decide +kernel
theorem dX4_defeat_67 : decode cX4_defeat 67 = .ok (.getfield 95, 3) := by decide +kernel
theorem dX4_defeat_70 : decode cX4_defeat 70 = .ok (.iload_n 1, 1) := by decide +kernel
theorem dX4_defeat_71 : decode cX4_defeat 71 = .ok (.iaload, 1) := by decide +kernel
theorem dX4_defeat_72 : decode cX4_defeat 72 = .ok (.iload 4, 2) := by decide +kernel
theorem dX4_defeat_74 : decode cX4_defeat 74 = .ok (.iload 5, 2) := by decide +kernel
theorem dX4_defeat_76 : decode cX4_defeat 76 = .ok (.invokevirtual 83, 3) := by decide +kernel
theorem dX4_defeat_79 : decode cX4_defeat 79 = .ok (.pop, 1) := by decide +kernel
theorem dX4_defeat_80 : decode cX4_defeat 80 = .ok (.iinc 4 1, 3) := by decide +kernel
theorem dX4_defeat_83 : decode cX4_defeat 83 = .ok (.goto (-60), 3) := by decide +kernel
theorem dX4_defeat_86 : decode cX4_defeat 86 = .ok (.aload_n 0, 1) := by decide +kernel
theorem dX4_defeat_87 : decode cX4_defeat 87 = .ok (.getfield 21, 3) := by decide +kernel
theorem dX4_defeat_90 : decode cX4_defeat 90 = .ok (.getfield 95, 3) := by decide +kernel
theorem dX4_defeat_93 : decode cX4_defeat 93 = .ok (.iload_n 1, 1) := by decide +kernel
theorem dX4_defeat_94 : decode cX4_defeat 94 = .ok (.iconst 0, 1) := by decide +kernel
theorem dX4_defeat_95 : decode cX4_defeat 95 = .ok (.iastore, 1) := by decide +kernel
theorem dX4_defeat_96 : decode cX4_defeat 96 = .ok (.aload_n 0, 1) := by decide +kernel
theorem dX4_defeat_97 : decode cX4_defeat 97 = .ok (.getfield 21, 3) := by decide +kernel
theorem dX4_defeat_100 : decode cX4_defeat 100 = .ok (.getfield 128, 3) := by decide +kernel
theorem dX4_defeat_103 : decode cX4_defeat 103 = .ok (.iload_n 1, 1) := by decide +kernel
theorem dX4_defeat_104 : decode cX4_defeat 104 = .ok (.bipush 10, 2) := by decide +kernel
theorem dX4_defeat_106 : decode cX4_defeat 106 = .ok (.iastore, 1) := by decide +kernel
theorem dX4_defeat_107 : decode cX4_defeat 107 = .ok (.aload_n 0, 1) := by decide +kernel
theorem dX4_defeat_108 : decode cX4_defeat 108 = .ok (.getfield 21, 3) := by decide +kernel
theorem dX4_defeat_111 : decode cX4_defeat 111 = .ok (.getfield 52, 3) := by decide +kernel
theorem dX4_defeat_114 : decode cX4_defeat 114 = .ok (.iload_n 1, 1) := by decide +kernel
theorem dX4_defeat_115 : decode cX4_defeat 115 = .ok (.aload_n 0, 1) := by decide +kernel
theorem dX4_defeat_116 : decode cX4_defeat 116 = .ok (.getfield 21, 3) := by decide +kernel
theorem dX4_defeat_119 : decode cX4_defeat 119 = .ok (.getfield 52, 3) := by decide +kernel
theorem dX4_defeat_122 : decode cX4_defeat 122 = .ok (.iload_n 1, 1) := by decide +kernel
theorem dX4_defeat_123 : decode cX4_defeat 123 = .ok (.iaload, 1) := by decide +kernel
theorem dX4_defeat_124 : decode cX4_defeat 124 = .ok (.iload_n 3, 1) := by decide +kernel
theorem dX4_defeat_125 : decode cX4_defeat 125 = .ok (.bipush 10, 2) := by decide +kernel
theorem dX4_defeat_127 : decode cX4_defeat 127 = .ok (.iadd, 1) := by decide +kernel
theorem dX4_defeat_128 : decode cX4_defeat 128 = .ok (.invokestatic 163, 3) := by decide +kernel
theorem dX4_defeat_131 : decode cX4_defeat 131 = .ok (.iastore, 1) := by decide +kernel
theorem dX4_defeat_132 : decode cX4_defeat 132 = .ok (.return_, 1) := by decide +kernel
theorem dX4_pursueQuests_0 : decode cX4_pursueQuests 0 = .ok (.iconst 0, 1) := by decide +kernel
theorem dX4_pursueQuests_1 : decode cX4_pursueQuests 1 = .ok (.istore 4, 2) := by decide +kernel
theorem dX4_pursueQuests_3 : decode cX4_pursueQuests 3 = .ok (.iload 4, 2) := by decide +kernel
theorem dX4_pursueQuests_5 : decode cX4_pursueQuests 5 = .ok (.aload_n 0, 1) := by decide +kernel
theorem dX4_pursueQuests_6 : decode cX4_pursueQuests 6 = .ok (.getfield 28, 3) := by decide +kernel
theorem dX4_pursueQuests_9 : decode cX4_pursueQuests 9 = .ok (.getfield 166, 3) := by decide +kernel
theorem dX4_pursueQuests_12 : decode cX4_pursueQuests 12 = .ok (.if_icmp .ge 113, 3) := by decide +kernel
theorem dX4_pursueQuests_15 : decode cX4_pursueQuests 15 = .ok (.iload_n 1, 1) := by decide +kernel
theorem dX4_pursueQuests_16 : decode cX4_pursueQuests 16 = .ok (.iload 4, 2) := by decide +kernel
theorem dX4_pursueQuests_18 : decode cX4_pursueQuests 18 = .ok (.invokestatic 167, 3) := by decide +kernel
theorem dX4_pursueQuests_21 : decode cX4_pursueQuests 21 = .ok (.istore 5, 2) := by decide +kernel
theorem dX4_pursueQuests_23 : decode cX4_pursueQuests 23 = .ok (.aload_n 0, 1) := by decide +kernel
theorem dX4_pursueQuests_24 : decode cX4_pursueQuests 24 = .ok (.getfield 21, 3) := by decide +kernel
theorem dX4_pursueQuests_27 : decode cX4_pursueQuests 27 = .ok (.getfield 170, 3) := by decide +kernel
theorem dX4_pursueQuests_30 : decode cX4_pursueQuests 30 = .ok (.iload 5, 2) := by decide +kernel
theorem dX4_pursueQuests_32 : decode cX4_pursueQuests 32 = .ok (.iaload, 1) := by decide +kernel
theorem dX4_pursueQuests_33 : decode cX4_pursueQuests 33 = .ok (.istore 6, 2) := by decide +kernel
theorem dX4_pursueQuests_35 : decode cX4_pursueQuests 35 = .ok (.iload 6, 2) := by decide +kernel
theorem dX4_pursueQuests_37 : decode cX4_pursueQuests 37 = .ok (.aload_n 0, 1) := by decide +kernel
theorem dX4_pursueQuests_38 : decode cX4_pursueQuests 38 = .ok (.getfield 28, 3) := by decide +kernel
theorem dX4_pursueQuests_41 : decode cX4_pursueQuests 41 = .ok (.getfield 173, 3) := by decide +kernel
theorem dX4_pursueQuests_44 : decode cX4_pursueQuests 44 = .ok (.iload 4, 2) := by decide +kernel
theorem dX4_pursueQuests_46 : decode cX4_pursueQuests 46 = .ok (.iaload, 1) := by decide +kernel
theorem dX4_pursueQuests_47 : decode cX4_pursueQuests 47 = .ok (.if_icmp .ge 72, 3) := by decide +kernel
theorem dX4_pursueQuests_50 : decode cX4_pursueQuests 50 = .ok (.aload_n 0, 1) := by decide +kernel
theorem dX4_pursueQuests_51 : decode cX4_pursueQuests 51 = .ok (.iload 4, 2) := by decide +kernel
theorem dX4_pursueQuests_53 : decode cX4_pursueQuests 53 = .ok (.iload 6, 2) := by decide +kernel
theorem dX4_pursueQuests_55 : decode cX4_pursueQuests 55 = .ok (.invokestatic 176, 3) := by decide +kernel
theorem dX4_pursueQuests_58 : decode cX4_pursueQuests 58 = .ok (.iload_n 1, 1) := by decide +kernel
theorem dX4_pursueQuests_59 : decode cX4_pursueQuests 59 = .ok (.iload_n 2, 1) := by decide +kernel
theorem dX4_pursueQuests_60 : decode cX4_pursueQuests 60 = .ok (.iload_n 3, 1) := by decide +kernel
theorem dX4_pursueQuests_61 : decode cX4_pursueQuests 61 = .ok (.invokevirtual 179, 3) := by decide +kernel
theorem dX4_pursueQuests_64 : decode cX4_pursueQuests 64 = .ok (.ifCond .eq 55, 3) := by decide +kernel
theorem dX4_pursueQuests_67 : decode cX4_pursueQuests 67 = .ok (.aload_n 0, 1) := by decide +kernel
theorem dX4_pursueQuests_68 : decode cX4_pursueQuests 68 = .ok (.getfield 21, 3) := by decide +kernel
theorem dX4_pursueQuests_71 : decode cX4_pursueQuests 71 = .ok (.getfield 170, 3) := by decide +kernel
theorem dX4_pursueQuests_74 : decode cX4_pursueQuests 74 = .ok (.iload 5, 2) := by decide +kernel
theorem dX4_pursueQuests_76 : decode cX4_pursueQuests 76 = .ok (.dup2, 1) := by decide +kernel
theorem dX4_pursueQuests_77 : decode cX4_pursueQuests 77 = .ok (.iaload, 1) := by decide +kernel
theorem dX4_pursueQuests_78 : decode cX4_pursueQuests 78 = .ok (.iconst 1, 1) := by decide +kernel
theorem dX4_pursueQuests_79 : decode cX4_pursueQuests 79 = .ok (.iadd, 1) := by decide +kernel
theorem dX4_pursueQuests_80 : decode cX4_pursueQuests 80 = .ok (.iastore, 1) := by decide +kernel
theorem dX4_pursueQuests_81 : decode cX4_pursueQuests 81 = .ok (.aload_n 0, 1) := by decide +kernel
theorem dX4_pursueQuests_82 : decode cX4_pursueQuests 82 = .ok (.getfield 21, 3) := by decide +kernel
theorem dX4_pursueQuests_85 : decode cX4_pursueQuests 85 = .ok (.getfield 170, 3) := by decide +kernel
theorem dX4_pursueQuests_88 : decode cX4_pursueQuests 88 = .ok (.iload 5, 2) := by decide +kernel
theorem dX4_pursueQuests_90 : decode cX4_pursueQuests 90 = .ok (.iaload, 1) := by decide +kernel
theorem dX4_pursueQuests_91 : decode cX4_pursueQuests 91 = .ok (.aload_n 0, 1) := by decide +kernel
theorem dX4_pursueQuests_92 : decode cX4_pursueQuests 92 = .ok (.getfield 28, 3) := by decide +kernel
theorem dX4_pursueQuests_95 : decode cX4_pursueQuests 95 = .ok (.getfield 173, 3) := by decide +kernel
theorem dX4_pursueQuests_98 : decode cX4_pursueQuests 98 = .ok (.iload 4, 2) := by decide +kernel
theorem dX4_pursueQuests_100 : decode cX4_pursueQuests 100 = .ok (.iaload, 1) := by decide +kernel
theorem dX4_pursueQuests_101 : decode cX4_pursueQuests 101 = .ok (.if_icmp .ne 18, 3) := by decide +kernel
theorem dX4_pursueQuests_104 : decode cX4_pursueQuests 104 = .ok (.aload_n 0, 1) := by decide +kernel
theorem dX4_pursueQuests_105 : decode cX4_pursueQuests 105 = .ok (.iload_n 1, 1) := by decide +kernel
theorem dX4_pursueQuests_106 : decode cX4_pursueQuests 106 = .ok (.aload_n 0, 1) := by decide +kernel
theorem dX4_pursueQuests_107 : decode cX4_pursueQuests 107 = .ok (.getfield 28, 3) := by decide +kernel
theorem dX4_pursueQuests_110 : decode cX4_pursueQuests 110 = .ok (.getfield 183, 3) := by decide +kernel
theorem dX4_pursueQuests_113 : decode cX4_pursueQuests 113 = .ok (.iload 4, 2) := by decide +kernel
theorem dX4_pursueQuests_115 : decode cX4_pursueQuests 115 = .ok (.iaload, 1) := by decide +kernel
theorem dX4_pursueQuests_116 : decode cX4_pursueQuests 116 = .ok (.invokevirtual 186, 3) := by decide +kernel
theorem dX4_pursueQuests_119 : decode cX4_pursueQuests 119 = .ok (.iinc 4 1, 3) := by decide +kernel
theorem dX4_pursueQuests_122 : decode cX4_pursueQuests 122 = .ok (.goto (-119), 3) := by decide +kernel
theorem dX4_pursueQuests_125 : decode cX4_pursueQuests 125 = .ok (.return_, 1) := by decide +kernel
theorem dX4_isFulfilled_0 : decode cX4_isFulfilled 0 = .ok (.aload_n 0, 1) := by decide +kernel
theorem dX4_isFulfilled_1 : decode cX4_isFulfilled 1 = .ok (.getfield 28, 3) := by decide +kernel
theorem dX4_isFulfilled_4 : decode cX4_isFulfilled 4 = .ok (.getfield 189, 3) := by decide +kernel
theorem dX4_isFulfilled_7 : decode cX4_isFulfilled 7 = .ok (.iload_n 1, 1) := by decide +kernel
theorem dX4_isFulfilled_8 : decode cX4_isFulfilled 8 = .ok (.iaload, 1) := by decide +kernel
theorem dX4_isFulfilled_9 : decode cX4_isFulfilled 9 = .ok (.istore 5, 2) := by decide +kernel
theorem dX4_isFulfilled_11 : decode cX4_isFulfilled 11 = .ok (.aload_n 0, 1) := by decide +kernel
theorem dX4_isFulfilled_12 : decode cX4_isFulfilled 12 = .ok (.getfield 28, 3) := by decide +kernel
theorem dX4_isFulfilled_15 : decode cX4_isFulfilled 15 = .ok (.getfield 192, 3) := by decide +kernel
theorem dX4_isFulfilled_18 : decode cX4_isFulfilled 18 = .ok (.iload_n 1, 1) := by decide +kernel
theorem dX4_isFulfilled_19 : decode cX4_isFulfilled 19 = .ok (.iaload, 1) := by decide +kernel
theorem dX4_isFulfilled_20 : decode cX4_isFulfilled 20 = .ok (.istore 6, 2) := by decide +kernel
theorem dX4_isFulfilled_22 : decode cX4_isFulfilled 22 = .ok (.aload_n 0, 1) := by decide +kernel
theorem dX4_isFulfilled_23 : decode cX4_isFulfilled 23 = .ok (.getfield 28, 3) := by decide +kernel
theorem dX4_isFulfilled_26 : decode cX4_isFulfilled 26 = .ok (.getfield 195, 3) := by decide +kernel
theorem dX4_isFulfilled_29 : decode cX4_isFulfilled 29 = .ok (.iload_n 1, 1) := by decide +kernel
theorem dX4_isFulfilled_30 : decode cX4_isFulfilled 30 = .ok (.iaload, 1) := by decide +kernel
theorem dX4_isFulfilled_31 : decode cX4_isFulfilled 31 = .ok (.tableswitch 96 0 2 #[25, 45, 70], 25) := by decide +kernel
theorem dX4_isFulfilled_56 : decode cX4_isFulfilled 56 = .ok (.aload_n 0, 1) := by decide +kernel
theorem dX4_isFulfilled_57 : decode cX4_isFulfilled 57 = .ok (.getfield 21, 3) := by decide +kernel
theorem dX4_isFulfilled_60 : decode cX4_isFulfilled 60 = .ok (.getfield 95, 3) := by decide +kernel
theorem dX4_isFulfilled_63 : decode cX4_isFulfilled 63 = .ok (.iload_n 2, 1) := by decide +kernel
theorem dX4_isFulfilled_64 : decode cX4_isFulfilled 64 = .ok (.iaload, 1) := by decide +kernel
theorem dX4_isFulfilled_65 : decode cX4_isFulfilled 65 = .ok (.iload 5, 2) := by decide +kernel
theorem dX4_isFulfilled_67 : decode cX4_isFulfilled 67 = .ok (.if_icmp .ne 7, 3) := by decide +kernel
theorem dX4_isFulfilled_70 : decode cX4_isFulfilled 70 = .ok (.iconst 1, 1) := by decide +kernel
theorem dX4_isFulfilled_71 : decode cX4_isFulfilled 71 = .ok (.goto 4, 3) := by decide +kernel
theorem dX4_isFulfilled_74 : decode cX4_isFulfilled 74 = .ok (.iconst 0, 1) := by decide +kernel
theorem dX4_isFulfilled_75 : decode cX4_isFulfilled 75 = .ok (.ireturn, 1) := by decide +kernel
theorem dX4_isFulfilled_76 : decode cX4_isFulfilled 76 = .ok (.aload_n 0, 1) := by decide +kernel
theorem dX4_isFulfilled_77 : decode cX4_isFulfilled 77 = .ok (.getfield 21, 3) := by decide +kernel
theorem dX4_isFulfilled_80 : decode cX4_isFulfilled 80 = .ok (.getfield 160, 3) := by decide +kernel
theorem dX4_isFulfilled_83 : decode cX4_isFulfilled 83 = .ok (.iload_n 2, 1) := by decide +kernel
theorem dX4_isFulfilled_84 : decode cX4_isFulfilled 84 = .ok (.iload 5, 2) := by decide +kernel
theorem dX4_isFulfilled_86 : decode cX4_isFulfilled 86 = .ok (.invokestatic 115, 3) := by decide +kernel
theorem dX4_isFulfilled_89 : decode cX4_isFulfilled 89 = .ok (.iaload, 1) := by decide +kernel
theorem dX4_isFulfilled_90 : decode cX4_isFulfilled 90 = .ok (.iload 6, 2) := by decide +kernel
theorem dX4_isFulfilled_92 : decode cX4_isFulfilled 92 = .ok (.if_icmp .lt 7, 3) := by decide +kernel
theorem dX4_isFulfilled_95 : decode cX4_isFulfilled 95 = .ok (.iconst 1, 1) := by decide +kernel
theorem dX4_isFulfilled_96 : decode cX4_isFulfilled 96 = .ok (.goto 4, 3) := by decide +kernel
theorem dX4_isFulfilled_99 : decode cX4_isFulfilled 99 = .ok (.iconst 0, 1) := by decide +kernel
theorem dX4_isFulfilled_100 : decode cX4_isFulfilled 100 = .ok (.ireturn, 1) := by decide +kernel
theorem dX4_isFulfilled_101 : decode cX4_isFulfilled 101 = .ok (.iload_n 3, 1) := by decide +kernel
theorem dX4_isFulfilled_102 : decode cX4_isFulfilled 102 = .ok (.iload 6, 2) := by decide +kernel
theorem dX4_isFulfilled_104 : decode cX4_isFulfilled 104 = .ok (.if_icmp .ne 21, 3) := by decide +kernel
theorem dX4_isFulfilled_107 : decode cX4_isFulfilled 107 = .ok (.aload_n 0, 1) := by decide +kernel
theorem dX4_isFulfilled_108 : decode cX4_isFulfilled 108 = .ok (.getfield 21, 3) := by decide +kernel
theorem dX4_isFulfilled_111 : decode cX4_isFulfilled 111 = .ok (.getfield 95, 3) := by decide +kernel
theorem dX4_isFulfilled_114 : decode cX4_isFulfilled 114 = .ok (.iload_n 2, 1) := by decide +kernel
theorem dX4_isFulfilled_115 : decode cX4_isFulfilled 115 = .ok (.iaload, 1) := by decide +kernel
theorem dX4_isFulfilled_116 : decode cX4_isFulfilled 116 = .ok (.iload 5, 2) := by decide +kernel
theorem dX4_isFulfilled_118 : decode cX4_isFulfilled 118 = .ok (.if_icmp .ne 7, 3) := by decide +kernel
theorem dX4_isFulfilled_121 : decode cX4_isFulfilled 121 = .ok (.iconst 1, 1) := by decide +kernel
theorem dX4_isFulfilled_122 : decode cX4_isFulfilled 122 = .ok (.goto 4, 3) := by decide +kernel
theorem dX4_isFulfilled_125 : decode cX4_isFulfilled 125 = .ok (.iconst 0, 1) := by decide +kernel
theorem dX4_isFulfilled_126 : decode cX4_isFulfilled 126 = .ok (.ireturn, 1) := by decide +kernel
theorem dX4_isFulfilled_127 : decode cX4_isFulfilled 127 = .ok (.iload 4, 2) := by decide +kernel
theorem dX4_isFulfilled_129 : decode cX4_isFulfilled 129 = .ok (.iload 5, 2) := by decide +kernel
theorem dX4_isFulfilled_131 : decode cX4_isFulfilled 131 = .ok (.if_icmp .ne 7, 3) := by decide +kernel
theorem dX4_isFulfilled_134 : decode cX4_isFulfilled 134 = .ok (.iconst 1, 1) := by decide +kernel
theorem dX4_isFulfilled_135 : decode cX4_isFulfilled 135 = .ok (.goto 4, 3) := by decide +kernel
theorem dX4_isFulfilled_138 : decode cX4_isFulfilled 138 = .ok (.iconst 0, 1) := by decide +kernel
theorem dX4_isFulfilled_139 : decode cX4_isFulfilled 139 = .ok (.ireturn, 1) := by decide +kernel
theorem dX4_reward_0 : decode cX4_reward 0 = .ok (.iload_n 2, 1) := by decide +kernel
theorem dX4_reward_1 : decode cX4_reward 1 = .ok (.aload_n 0, 1) := by decide +kernel
theorem dX4_reward_2 : decode cX4_reward 2 = .ok (.getfield 32, 3) := by decide +kernel
theorem dX4_reward_5 : decode cX4_reward 5 = .ok (.invokestatic 131, 3) := by decide +kernel
theorem dX4_reward_8 : decode cX4_reward 8 = .ok (.istore_n 3, 1) := by decide +kernel
theorem dX4_reward_9 : decode cX4_reward 9 = .ok (.aload_n 0, 1) := by decide +kernel
theorem dX4_reward_10 : decode cX4_reward 10 = .ok (.dup, 1) := by decide +kernel
theorem dX4_reward_11 : decode cX4_reward 11 = .ok (.getfield 32, 3) := by decide +kernel
theorem dX4_reward_14 : decode cX4_reward 14 = .ok (.iload_n 3, 1) := by decide +kernel
theorem dX4_reward_15 : decode cX4_reward 15 = .ok (.isub, 1) := by decide +kernel
theorem dX4_reward_16 : decode cX4_reward 16 = .ok (.putfield 32, 3) := by decide +kernel
theorem dX4_reward_19 : decode cX4_reward 19 = .ok (.aload_n 0, 1) := by decide +kernel
theorem dX4_reward_20 : decode cX4_reward 20 = .ok (.getfield 21, 3) := by decide +kernel
theorem dX4_reward_23 : decode cX4_reward 23 = .ok (.getfield 71, 3) := by decide +kernel
theorem dX4_reward_26 : decode cX4_reward 26 = .ok (.iload_n 1, 1) := by decide +kernel
theorem dX4_reward_27 : decode cX4_reward 27 = .ok (.dup2, 1) := by decide +kernel
theorem dX4_reward_28 : decode cX4_reward 28 = .ok (.iaload, 1) := by decide +kernel
theorem dX4_reward_29 : decode cX4_reward 29 = .ok (.iload_n 3, 1) := by decide +kernel
theorem dX4_reward_30 : decode cX4_reward 30 = .ok (.iadd, 1) := by decide +kernel
theorem dX4_reward_31 : decode cX4_reward 31 = .ok (.iastore, 1) := by decide +kernel
theorem dX4_reward_32 : decode cX4_reward 32 = .ok (.return_, 1) := by decide +kernel
theorem dX5_init_0 : decode cX5_init 0 = .ok (.aload_n 0, 1) := by decide +kernel
theorem dX5_init_1 : decode cX5_init 1 = .ok (.invokespecial 1, 3) := by decide +kernel
theorem dX5_init_4 : decode cX5_init 4 = .ok (.aload_n 0, 1) := by decide +kernel
theorem dX5_init_5 : decode cX5_init 5 = .ok (.new 7, 3) := by decide +kernel
theorem dX5_init_8 : decode cX5_init 8 = .ok (.dup, 1) := by decide +kernel
theorem dX5_init_9 : decode cX5_init 9 = .ok (.invokespecial 9, 3) := by decide +kernel
theorem dX5_init_12 : decode cX5_init 12 = .ok (.putfield 10, 3) := by decide +kernel
theorem dX5_init_15 : decode cX5_init 15 = .ok (.aload_n 0, 1) := by decide +kernel
theorem dX5_init_16 : decode cX5_init 16 = .ok (.new 16, 3) := by decide +kernel
theorem dX5_init_19 : decode cX5_init 19 = .ok (.dup, 1) := by decide +kernel
theorem dX5_init_20 : decode cX5_init 20 = .ok (.invokespecial 18, 3) := by decide +kernel
theorem dX5_init_23 : decode cX5_init 23 = .ok (.putfield 19, 3) := by decide +kernel
theorem dX5_init_26 : decode cX5_init 26 = .ok (.aload_n 0, 1) := by decide +kernel
theorem dX5_init_27 : decode cX5_init 27 = .ok (.new 16, 3) := by decide +kernel
theorem dX5_init_30 : decode cX5_init 30 = .ok (.dup, 1) := by decide +kernel
theorem dX5_init_31 : decode cX5_init 31 = .ok (.invokespecial 18, 3) := by decide +kernel
theorem dX5_init_34 : decode cX5_init 34 = .ok (.putfield 23, 3) := by decide +kernel
theorem dX5_init_37 : decode cX5_init 37 = .ok (.return_, 1) := by decide +kernel
theorem dX5_link_0 : decode cX5_link 0 = .ok (.iload_n 1, 1) := by decide +kernel
theorem dX5_link_1 : decode cX5_link 1 = .ok (.invokestatic 26, 3) := by decide +kernel
theorem dX5_link_4 : decode cX5_link 4 = .ok (.iload_n 2, 1) := by decide +kernel
theorem dX5_link_5 : decode cX5_link 5 = .ok (.invokestatic 30, 3) := by decide +kernel
theorem dX5_link_8 : decode cX5_link 8 = .ok (.iload_n 3, 1) := by decide +kernel
theorem dX5_link_9 : decode cX5_link 9 = .ok (.invokestatic 26, 3) := by decide +kernel
theorem dX5_link_12 : decode cX5_link 12 = .ok (.iload_n 1, 1) := by decide +kernel
theorem dX5_link_13 : decode cX5_link 13 = .ok (.iload_n 3, 1) := by decide +kernel
theorem dX5_link_14 : decode cX5_link 14 = .ok (.if_icmp .ne 13, 3) := by decide +kernel
theorem dX5_link_17 : decode cX5_link 17 = .ok (.new 33, 3) := by decide +kernel
theorem dX5_link_20 : decode cX5_link 20 = .ok (.dup, 1) := by decide +kernel
theorem dX5_link_21 : decode cX5_link 21 = .ok (.ldc 35, 2) := by decide +kernel
theorem dX5_link_23 : decode cX5_link 23 = .ok (.invokespecial 37, 3) := by decide +kernel
theorem dX5_link_26 : decode cX5_link 26 = .ok (.athrow, 1) := by decide +kernel
theorem dX5_link_27 : decode cX5_link 27 = .ok (.aload_n 0, 1) := by decide +kernel
theorem dX5_link_28 : decode cX5_link 28 = .ok (.getfield 19, 3) := by decide +kernel
theorem dX5_link_31 : decode cX5_link 31 = .ok (.getfield 40, 3) := by decide +kernel
theorem dX5_link_34 : decode cX5_link 34 = .ok (.iload_n 1, 1) := by decide +kernel
theorem dX5_link_35 : decode cX5_link 35 = .ok (.iload_n 2, 1) := by decide +kernel
theorem dX5_link_36 : decode cX5_link 36 = .ok (.invokevirtual 44, 3) := by decide +kernel
theorem dX5_link_39 : decode cX5_link 39 = .ok (.iconst (-1), 1) := by decide +kernel
theorem dX5_link_40 : decode cX5_link 40 = .ok (.if_icmp .ne 22, 3) := by decide +kernel
theorem dX5_link_43 : decode cX5_link 43 = .ok (.aload_n 0, 1) := by decide +kernel
theorem dX5_link_44 : decode cX5_link 44 = .ok (.getfield 19, 3) := by decide +kernel
theorem dX5_link_47 : decode cX5_link 47 = .ok (.getfield 40, 3) := by decide +kernel
theorem dX5_link_50 : decode cX5_link 50 = .ok (.iload_n 3, 1) := by decide +kernel
theorem dX5_link_51 : decode cX5_link 51 = .ok (.iload_n 2, 1) := by decide +kernel
theorem dX5_link_52 : decode cX5_link 52 = .ok (.invokestatic 50, 3) := by decide +kernel
theorem dX5_link_55 : decode cX5_link 55 = .ok (.invokevirtual 44, 3) := by decide +kernel
theorem dX5_link_58 : decode cX5_link 58 = .ok (.iconst (-1), 1) := by decide +kernel
theorem dX5_link_59 : decode cX5_link 59 = .ok (.if_icmp .eq 13, 3) := by decide +kernel
theorem dX5_link_62 : decode cX5_link 62 = .ok (.new 54, 3) := by decide +kernel
theorem dX5_link_65 : decode cX5_link 65 = .ok (.dup, 1) := by decide +kernel
theorem dX5_link_66 : decode cX5_link 66 = .ok (.ldc 56, 2) := by decide +kernel
theorem dX5_link_68 : decode cX5_link 68 = .ok (.invokespecial 58, 3) := by decide +kernel
theorem dX5_link_71 : decode cX5_link 71 = .ok (.athrow, 1) := by decide +kernel
theorem dX5_link_72 : decode cX5_link 72 = .ok (.aload_n 0, 1) := by decide +kernel
theorem dX5_link_73 : decode cX5_link 73 = .ok (.iconst 0, 1) := by decide +kernel
theorem dX5_link_74 : decode cX5_link 74 = .ok (.iload_n 1, 1) := by decide +kernel
theorem dX5_link_75 : decode cX5_link 75 = .ok (.iload_n 2, 1) := by decide +kernel
theorem dX5_link_76 : decode cX5_link 76 = .ok (.iload_n 3, 1) := by decide +kernel
theorem dX5_link_77 : decode cX5_link 77 = .ok (.iconst 0, 1) := by decide +kernel
theorem dX5_link_78 : decode cX5_link 78 = .ok (.invokevirtual 59, 3) := by decide +kernel
theorem dX5_link_81 : decode cX5_link 81 = .ok (.pop, 1) := by decide +kernel
theorem dX5_link_82 : decode cX5_link 82 = .ok (.return_, 1) := by decide +kernel
theorem dX5_shop_0 : decode cX5_shop 0 = .ok (.iload_n 1, 1) := by decide +kernel
theorem dX5_shop_1 : decode cX5_shop 1 = .ok (.invokestatic 26, 3) := by decide +kernel
theorem dX5_shop_4 : decode cX5_shop 4 = .ok (.iload_n 2, 1) := by decide +kernel
theorem dX5_shop_5 : decode cX5_shop 5 = .ok (.iconst 0, 1) := by decide +kernel
theorem dX5_shop_6 : decode cX5_shop 6 = .ok (.sipush 1000, 3) := by decide +kernel
theorem dX5_shop_9 : decode cX5_shop 9 = .ok (.invokestatic 63, 3) := by decide +kernel
theorem dX5_shop_12 : decode cX5_shop 12 = .ok (.aload_n 0, 1) := by decide +kernel
theorem dX5_shop_13 : decode cX5_shop 13 = .ok (.getfield 19, 3) := by decide +kernel
theorem dX5_shop_16 : decode cX5_shop 16 = .ok (.getfield 40, 3) := by decide +kernel
theorem dX5_shop_19 : decode cX5_shop 19 = .ok (.iload_n 1, 1) := by decide +kernel
theorem dX5_shop_20 : decode cX5_shop 20 = .ok (.invokevirtual 67, 3) := by decide +kernel
theorem dX5_shop_23 : decode cX5_shop 23 = .ok (.ifCond .eq 13, 3) := by decide +kernel
theorem dX5_shop_26 : decode cX5_shop 26 = .ok (.new 54, 3) := by decide +kernel
theorem dX5_shop_29 : decode cX5_shop 29 = .ok (.dup, 1) := by decide +kernel
theorem dX5_shop_30 : decode cX5_shop 30 = .ok (.ldc 71, 2) := by decide +kernel
theorem dX5_shop_32 : decode cX5_shop 32 = .ok (.invokespecial 58, 3) := by decide +kernel
theorem dX5_shop_35 : decode cX5_shop 35 = .ok (.athrow, 1) := by decide +kernel
theorem dX5_shop_36 : decode cX5_shop 36 = .ok (.aload_n 0, 1) := by decide +kernel
theorem dX5_shop_37 : decode cX5_shop 37 = .ok (.iconst 1, 1) := by decide +kernel
theorem dX5_shop_38 : decode cX5_shop 38 = .ok (.iload_n 1, 1) := by decide +kernel
theorem dX5_shop_39 : decode cX5_shop 39 = .ok (.iload_n 2, 1) := by decide +kernel
theorem dX5_shop_40 : decode cX5_shop 40 = .ok (.iconst 0, 1) := by decide +kernel
theorem dX5_shop_41 : decode cX5_shop 41 = .ok (.iconst 0, 1) := by decide +kernel
theorem dX5_shop_42 : decode cX5_shop 42 = .ok (.invokevirtual 59, 3) := by decide +kernel
theorem dX5_shop_45 : decode cX5_shop 45 = .ok (.pop, 1) := by decide +kernel
theorem dX5_shop_46 : decode cX5_shop 46 = .ok (.return_, 1) := by decide +kernel
theorem dX5_stock_0 : decode cX5_stock 0 = .ok (.iload_n 1, 1) := by decide +kernel
theorem dX5_stock_1 : decode cX5_stock 1 = .ok (.invokestatic 26, 3) := by decide +kernel
theorem dX5_stock_4 : decode cX5_stock 4 = .ok (.iload_n 2, 1) := by decide +kernel
theorem dX5_stock_5 : decode cX5_stock 5 = .ok (.invokestatic 73, 3) := by decide +kernel
theorem dX5_stock_8 : decode cX5_stock 8 = .ok (.iload_n 3, 1) := by decide +kernel
theorem dX5_stock_9 : decode cX5_stock 9 = .ok (.iconst 0, 1) := by decide +kernel
theorem dX5_stock_10 : decode cX5_stock 10 = .ok (.bipush 20, 2) := by decide +kernel
theorem dX5_stock_12 : decode cX5_stock 12 = .ok (.invokestatic 63, 3) := by decide +kernel
theorem dX5_stock_15 : decode cX5_stock 15 = .ok (.iload 4, 2) := by decide +kernel
theorem dX5_stock_17 : decode cX5_stock 17 = .ok (.iconst 0, 1) := by decide +kernel
theorem dX5_stock_18 : decode cX5_stock 18 = .ok (.bipush 50, 2) := by decide +kernel
theorem dX5_stock_20 : decode cX5_stock 20 = .ok (.invokestatic 63, 3) := by decide +kernel
theorem dX5_stock_23 : decode cX5_stock 23 = .ok (.aload_n 0, 1) := by decide +kernel
theorem dX5_stock_24 : decode cX5_stock 24 = .ok (.getfield 19, 3) := by decide +kernel
theorem dX5_stock_27 : decode cX5_stock 27 = .ok (.getfield 40, 3) := by decide +kernel
theorem dX5_stock_30 : decode cX5_stock 30 = .ok (.iload_n 1, 1) := by decide +kernel
theorem dX5_stock_31 : decode cX5_stock 31 = .ok (.invokevirtual 67, 3) := by decide +kernel
theorem dX5_stock_34 : decode cX5_stock 34 = .ok (.ifCond .ne 13, 3) := by decide +kernel
theorem dX5_stock_37 : decode cX5_stock 37 = .ok (.new 54, 3) := by decide +kernel
theorem dX5_stock_40 : decode cX5_stock 40 = .ok (.dup, 1) := by decide +kernel
theorem dX5_stock_41 : decode cX5_stock 41 = .ok (.ldc 76, 2) := by decide +kernel
theorem dX5_stock_43 : decode cX5_stock 43 = .ok (.invokespecial 58, 3) := by decide +kernel
theorem dX5_stock_46 : decode cX5_stock 46 = .ok (.athrow, 1) := by decide +kernel
theorem dX5_stock_47 : decode cX5_stock 47 = .ok (.aload_n 0, 1) := by decide +kernel
theorem dX5_stock_48 : decode cX5_stock 48 = .ok (.iconst 2, 1) := by decide +kernel
theorem dX5_stock_49 : decode cX5_stock 49 = .ok (.iload_n 1, 1) := by decide +kernel
theorem dX5_stock_50 : decode cX5_stock 50 = .ok (.iload_n 2, 1) := by decide +kernel
theorem dX5_stock_51 : decode cX5_stock 51 = .ok (.iload_n 3, 1) := by decide +kernel
theorem dX5_stock_52 : decode cX5_stock 52 = .ok (.iload 4, 2) := by decide +kernel
theorem dX5_stock_54 : decode cX5_stock 54 = .ok (.invokevirtual 59, 3) := by decide +kernel
theorem dX5_stock_57 : decode cX5_stock 57 = .ok (.ireturn, 1) := by decide +kernel
theorem dX5_scatter_0 : decode cX5_scatter 0 = .ok (.iload_n 1, 1) := by decide +kernel
theorem dX5_scatter_1 : decode cX5_scatter 1 = .ok (.invokestatic 26, 3) := by decide +kernel
theorem dX5_scatter_4 : decode cX5_scatter 4 = .ok (.iload_n 2, 1) := by decide +kernel
theorem dX5_scatter_5 : decode cX5_scatter 5 = .ok (.invokestatic 73, 3) := by decide +kernel
theorem dX5_scatter_8 : decode cX5_scatter 8 = .ok (.iload_n 3, 1) := by decide +kernel
theorem dX5_scatter_9 : decode cX5_scatter 9 = .ok (.iconst 1, 1) := by decide +kernel
theorem dX5_scatter_10 : decode cX5_scatter 10 = .ok (.bipush 9, 2) := by decide +kernel
theorem dX5_scatter_12 : decode cX5_scatter 12 = .ok (.invokestatic 63, 3) := by decide +kernel
theorem dX5_scatter_15 : decode cX5_scatter 15 = .ok (.aload_n 0, 1) := by decide +kernel
theorem dX5_scatter_16 : decode cX5_scatter 16 = .ok (.iconst 3, 1) := by decide +kernel
theorem dX5_scatter_17 : decode cX5_scatter 17 = .ok (.iload_n 1, 1) := by decide +kernel
theorem dX5_scatter_18 : decode cX5_scatter 18 = .ok (.iload_n 2, 1) := by decide +kernel
theorem dX5_scatter_19 : decode cX5_scatter 19 = .ok (.iload_n 3, 1) := by decide +kernel
theorem dX5_scatter_20 : decode cX5_scatter 20 = .ok (.iconst 0, 1) := by decide +kernel
theorem dX5_scatter_21 : decode cX5_scatter 21 = .ok (.invokevirtual 59, 3) := by decide +kernel
theorem dX5_scatter_24 : decode cX5_scatter 24 = .ok (.ireturn, 1) := by decide +kernel
theorem dX5_join_0 : decode cX5_join 0 = .ok (.iload_n 1, 1) := by decide +kernel
theorem dX5_join_1 : decode cX5_join 1 = .ok (.invokestatic 26, 3) := by decide +kernel
theorem dX5_join_4 : decode cX5_join 4 = .ok (.iload_n 2, 1) := by decide +kernel
theorem dX5_join_5 : decode cX5_join 5 = .ok (.iconst 0, 1) := by decide +kernel
theorem dX5_join_6 : decode cX5_join 6 = .ok (.sipush 200, 3) := by decide +kernel
theorem dX5_join_9 : decode cX5_join 9 = .ok (.invokestatic 63, 3) := by decide +kernel
theorem dX5_join_12 : decode cX5_join 12 = .ok (.iload_n 3, 1) := by decide +kernel
theorem dX5_join_13 : decode cX5_join 13 = .ok (.iconst 0, 1) := by decide +kernel
theorem dX5_join_14 : decode cX5_join 14 = .ok (.bipush 6, 2) := by decide +kernel
theorem dX5_join_16 : decode cX5_join 16 = .ok (.invokestatic 63, 3) := by decide +kernel
theorem dX5_join_19 : decode cX5_join 19 = .ok (.aload_n 0, 1) := by decide +kernel
theorem dX5_join_20 : decode cX5_join 20 = .ok (.getfield 19, 3) := by decide +kernel
theorem dX5_join_23 : decode cX5_join 23 = .ok (.getfield 78, 3) := by decide +kernel
theorem dX5_join_26 : decode cX5_join 26 = .ok (.getfield 82, 3) := by decide +kernel
theorem dX5_join_29 : decode cX5_join 29 = .ok (.iconst 4, 1) := by decide +kernel
theorem dX5_join_30 : decode cX5_join 30 = .ok (.if_icmp .lt 13, 3) := by decide +kernel
theorem dX5_join_33 : decode cX5_join 33 = .ok (.new 54, 3) := by decide +kernel
theorem dX5_join_36 : decode cX5_join 36 = .ok (.dup, 1) := by decide +kernel
theorem dX5_join_37 : decode cX5_join 37 = .ok (.ldc 88, 2) := by decide +kernel
theorem dX5_join_39 : decode cX5_join 39 = .ok (.invokespecial 58, 3) := by decide +kernel
theorem dX5_join_42 : decode cX5_join 42 = .ok (.athrow, 1) := by decide +kernel
theorem dX5_join_43 : decode cX5_join 43 = .ok (.aload_n 0, 1) := by decide +kernel
theorem dX5_join_44 : decode cX5_join 44 = .ok (.iconst 4, 1) := by decide +kernel
theorem dX5_join_45 : decode cX5_join 45 = .ok (.iload_n 1, 1) := by decide +kernel
theorem dX5_join_46 : decode cX5_join 46 = .ok (.iload_n 2, 1) := by decide +kernel
theorem dX5_join_47 : decode cX5_join 47 = .ok (.iload_n 3, 1) := by decide +kernel
theorem dX5_join_48 : decode cX5_join 48 = .ok (.iconst 0, 1) := by decide +kernel
theorem dX5_join_49 : decode cX5_join 49 = .ok (.invokevirtual 59, 3) := by decide +kernel
theorem dX5_join_52 : decode cX5_join 52 = .ok (.ireturn, 1) := by decide +kernel
theorem dX5_quest_0 : decode cX5_quest 0 = .ok (.iload_n 1, 1) := by decide +kernel
theorem dX5_quest_1 : decode cX5_quest 1 = .ok (.iconst 0, 1) := by decide +kernel
theorem dX5_quest_2 : decode cX5_quest 2 = .ok (.bipush 100, 2) := by decide +kernel
theorem dX5_quest_4 : decode cX5_quest 4 = .ok (.invokestatic 63, 3) := by decide +kernel
theorem dX5_quest_7 : decode cX5_quest 7 = .ok (.aload_n 0, 1) := by decide +kernel
theorem dX5_quest_8 : decode cX5_quest 8 = .ok (.getfield 19, 3) := by decide +kernel
theorem dX5_quest_11 : decode cX5_quest 11 = .ok (.getfield 90, 3) := by decide +kernel
theorem dX5_quest_14 : decode cX5_quest 14 = .ok (.getfield 94, 3) := by decide +kernel
theorem dX5_quest_17 : decode cX5_quest 17 = .ok (.iconst 3, 1) := by decide +kernel
theorem dX5_quest_18 : decode cX5_quest 18 = .ok (.if_icmp .lt 13, 3) := by decide +kernel
theorem dX5_quest_21 : decode cX5_quest 21 = .ok (.new 54, 3) := by decide +kernel
theorem dX5_quest_24 : decode cX5_quest 24 = .ok (.dup, 1) := by decide +kernel
theorem dX5_quest_25 : decode cX5_quest 25 = .ok (.ldc 97, 2) := by decide +kernel
theorem dX5_quest_27 : decode cX5_quest 27 = .ok (.invokespecial 58, 3) := by decide +kernel
theorem dX5_quest_30 : decode cX5_quest 30 = .ok (.athrow, 1) := by decide +kernel
theorem dX5_quest_31 : decode cX5_quest 31 = .ok (.aload_n 0, 1) := by decide +kernel
theorem dX5_quest_32 : decode cX5_quest 32 = .ok (.iconst 5, 1) := by decide +kernel
theorem dX5_quest_33 : decode cX5_quest 33 = .ok (.iload_n 1, 1) := by decide +kernel
theorem dX5_quest_34 : decode cX5_quest 34 = .ok (.iconst 0, 1) := by decide +kernel
theorem dX5_quest_35 : decode cX5_quest 35 = .ok (.iconst 0, 1) := by decide +kernel
theorem dX5_quest_36 : decode cX5_quest 36 = .ok (.iconst 0, 1) := by decide +kernel
theorem dX5_quest_37 : decode cX5_quest 37 = .ok (.invokevirtual 59, 3) := by decide +kernel
theorem dX5_quest_40 : decode cX5_quest 40 = .ok (.ireturn, 1) := by decide +kernel
theorem dX5_stage_0 : decode cX5_stage 0 = .ok (.aload_n 0, 1) := by decide +kernel
theorem dX5_stage_1 : decode cX5_stage 1 = .ok (.iload_n 1, 1) := by decide +kernel
theorem dX5_stage_2 : decode cX5_stage 2 = .ok (.invokevirtual 99, 3) := by decide +kernel
theorem dX5_stage_5 : decode cX5_stage 5 = .ok (.iload_n 2, 1) := by decide +kernel
theorem dX5_stage_6 : decode cX5_stage 6 = .ok (.iload_n 3, 1) := by decide +kernel
theorem dX5_stage_7 : decode cX5_stage 7 = .ok (.invokestatic 102, 3) := by decide +kernel
theorem dX5_stage_10 : decode cX5_stage 10 = .ok (.iload_n 2, 1) := by decide +kernel
theorem dX5_stage_11 : decode cX5_stage 11 = .ok (.iconst 0, 1) := by decide +kernel
theorem dX5_stage_12 : decode cX5_stage 12 = .ok (.iconst 3, 1) := by decide +kernel
theorem dX5_stage_13 : decode cX5_stage 13 = .ok (.invokestatic 63, 3) := by decide +kernel
theorem dX5_stage_16 : decode cX5_stage 16 = .ok (.iload_n 2, 1) := by decide +kernel
theorem dX5_stage_17 : decode cX5_stage 17 = .ok (.iload 4, 2) := by decide +kernel
theorem dX5_stage_19 : decode cX5_stage 19 = .ok (.invokestatic 106, 3) := by decide +kernel
theorem dX5_stage_22 : decode cX5_stage 22 = .ok (.aload_n 0, 1) := by decide +kernel
theorem dX5_stage_23 : decode cX5_stage 23 = .ok (.getfield 19, 3) := by decide +kernel
theorem dX5_stage_26 : decode cX5_stage 26 = .ok (.getfield 90, 3) := by decide +kernel
theorem dX5_stage_29 : decode cX5_stage 29 = .ok (.getfield 109, 3) := by decide +kernel
theorem dX5_stage_32 : decode cX5_stage 32 = .ok (.iload_n 1, 1) := by decide +kernel
theorem dX5_stage_33 : decode cX5_stage 33 = .ok (.iaload, 1) := by decide +kernel
theorem dX5_stage_34 : decode cX5_stage 34 = .ok (.iconst 4, 1) := by decide +kernel
theorem dX5_stage_35 : decode cX5_stage 35 = .ok (.if_icmp .lt 13, 3) := by decide +kernel
theorem dX5_stage_38 : decode cX5_stage 38 = .ok (.new 54, 3) := by decide +kernel
theorem dX5_stage_41 : decode cX5_stage 41 = .ok (.dup, 1) := by decide +kernel
theorem dX5_stage_42 : decode cX5_stage 42 = .ok (.ldc 113, 2) := by decide +kernel
theorem dX5_stage_44 : decode cX5_stage 44 = .ok (.invokespecial 58, 3) := by decide +kernel
theorem dX5_stage_47 : decode cX5_stage 47 = .ok (.athrow, 1) := by decide +kernel
theorem dX5_stage_48 : decode cX5_stage 48 = .ok (.aload_n 0, 1) := by decide +kernel
theorem dX5_stage_49 : decode cX5_stage 49 = .ok (.getfield 19, 3) := by decide +kernel
theorem dX5_stage_52 : decode cX5_stage 52 = .ok (.getfield 78, 3) := by decide +kernel
theorem dX5_stage_55 : decode cX5_stage 55 = .ok (.iload_n 1, 1) := by decide +kernel
theorem dX5_stage_56 : decode cX5_stage 56 = .ok (.invokevirtual 115, 3) := by decide +kernel
theorem dX5_stage_59 : decode cX5_stage 59 = .ok (.ifCond .eq 13, 3) := by decide +kernel
theorem dX5_stage_62 : decode cX5_stage 62 = .ok (.new 54, 3) := by decide +kernel
theorem dX5_stage_65 : decode cX5_stage 65 = .ok (.dup, 1) := by decide +kernel
theorem dX5_stage_66 : decode cX5_stage 66 = .ok (.ldc 118, 2) := by decide +kernel
theorem dX5_stage_68 : decode cX5_stage 68 = .ok (.invokespecial 58, 3) := by decide +kernel
theorem dX5_stage_71 : decode cX5_stage 71 = .ok (.athrow, 1) := by decide +kernel
theorem dX5_stage_72 : decode cX5_stage 72 = .ok (.aload_n 0, 1) := by decide +kernel
theorem dX5_stage_73 : decode cX5_stage 73 = .ok (.bipush 6, 2) := by decide +kernel
theorem dX5_stage_75 : decode cX5_stage 75 = .ok (.iload_n 1, 1) := by decide +kernel
theorem dX5_stage_76 : decode cX5_stage 76 = .ok (.iload_n 2, 1) := by decide +kernel
theorem dX5_stage_77 : decode cX5_stage 77 = .ok (.iload_n 3, 1) := by decide +kernel
theorem dX5_stage_78 : decode cX5_stage 78 = .ok (.iload 4, 2) := by decide +kernel
theorem dX5_stage_80 : decode cX5_stage 80 = .ok (.invokevirtual 59, 3) := by decide +kernel
theorem dX5_stage_83 : decode cX5_stage 83 = .ok (.ireturn, 1) := by decide +kernel
theorem dX5_endow_0 : decode cX5_endow 0 = .ok (.iload_n 1, 1) := by decide +kernel
theorem dX5_endow_1 : decode cX5_endow 1 = .ok (.iconst 1, 1) := by decide +kernel
theorem dX5_endow_2 : decode cX5_endow 2 = .ok (.sipush 1000, 3) := by decide +kernel
theorem dX5_endow_5 : decode cX5_endow 5 = .ok (.invokestatic 63, 3) := by decide +kernel
theorem dX5_endow_8 : decode cX5_endow 8 = .ok (.aload_n 0, 1) := by decide +kernel
theorem dX5_endow_9 : decode cX5_endow 9 = .ok (.bipush 7, 2) := by decide +kernel
theorem dX5_endow_11 : decode cX5_endow 11 = .ok (.iload_n 1, 1) := by decide +kernel
theorem dX5_endow_12 : decode cX5_endow 12 = .ok (.iconst 0, 1) := by decide +kernel
theorem dX5_endow_13 : decode cX5_endow 13 = .ok (.iconst 0, 1) := by decide +kernel
theorem dX5_endow_14 : decode cX5_endow 14 = .ok (.iconst 0, 1) := by decide +kernel
theorem dX5_endow_15 : decode cX5_endow 15 = .ok (.invokevirtual 59, 3) := by decide +kernel
theorem dX5_endow_18 : decode cX5_endow 18 = .ok (.ireturn, 1) := by decide +kernel
theorem dX5_seed_0 : decode cX5_seed 0 = .ok (.iload_n 1, 1) := by decide +kernel
theorem dX5_seed_1 : decode cX5_seed 1 = .ok (.iconst 0, 1) := by decide +kernel
theorem dX5_seed_2 : decode cX5_seed 2 = .ok (.ldc 120, 2) := by decide +kernel
theorem dX5_seed_4 : decode cX5_seed 4 = .ok (.invokestatic 63, 3) := by decide +kernel
theorem dX5_seed_7 : decode cX5_seed 7 = .ok (.aload_n 0, 1) := by decide +kernel
theorem dX5_seed_8 : decode cX5_seed 8 = .ok (.bipush 8, 2) := by decide +kernel
theorem dX5_seed_10 : decode cX5_seed 10 = .ok (.iload_n 1, 1) := by decide +kernel
theorem dX5_seed_11 : decode cX5_seed 11 = .ok (.iconst 0, 1) := by decide +kernel
theorem dX5_seed_12 : decode cX5_seed 12 = .ok (.iconst 0, 1) := by decide +kernel
theorem dX5_seed_13 : decode cX5_seed 13 = .ok (.iconst 0, 1) := by decide +kernel
theorem dX5_seed_14 : decode cX5_seed 14 = .ok (.invokevirtual 59, 3) := by decide +kernel
theorem dX5_seed_17 : decode cX5_seed 17 = .ok (.pop, 1) := by decide +kernel
theorem dX5_seed_18 : decode cX5_seed 18 = .ok (.return_, 1) := by decide +kernel
theorem dX5_go_0 : decode cX5_go 0 = .ok (.iload_n 1, 1) := by decide +kernel
theorem dX5_go_1 : decode cX5_go 1 = .ok (.invokestatic 30, 3) := by decide +kernel
theorem dX5_go_4 : decode cX5_go 4 = .ok (.aload_n 0, 1) := by decide +kernel
theorem dX5_go_5 : decode cX5_go 5 = .ok (.getfield 19, 3) := by decide +kernel
theorem dX5_go_8 : decode cX5_go 8 = .ok (.getfield 78, 3) := by decide +kernel
theorem dX5_go_11 : decode cX5_go 11 = .ok (.getfield 121, 3) := by decide +kernel
theorem dX5_go_14 : decode cX5_go 14 = .ok (.aload_n 0, 1) := by decide +kernel
theorem dX5_go_15 : decode cX5_go 15 = .ok (.invokevirtual 124, 3) := by decide +kernel
theorem dX5_go_18 : decode cX5_go 18 = .ok (.iaload, 1) := by decide +kernel
theorem dX5_go_19 : decode cX5_go 19 = .ok (.istore_n 2, 1) := by decide +kernel
theorem dX5_go_20 : decode cX5_go 20 = .ok (.aload_n 0, 1) := by decide +kernel
theorem dX5_go_21 : decode cX5_go 21 = .ok (.getfield 19, 3) := by decide +kernel
theorem dX5_go_24 : decode cX5_go 24 = .ok (.getfield 40, 3) := by decide +kernel
theorem dX5_go_27 : decode cX5_go 27 = .ok (.iload_n 2, 1) := by decide +kernel
theorem dX5_go_28 : decode cX5_go 28 = .ok (.iload_n 1, 1) := by decide +kernel
theorem dX5_go_29 : decode cX5_go 29 = .ok (.invokevirtual 44, 3) := by decide +kernel
theorem dX5_go_32 : decode cX5_go 32 = .ok (.iconst (-1), 1) := by decide +kernel
theorem dX5_go_33 : decode cX5_go 33 = .ok (.if_icmp .ne 13, 3) := by decide +kernel
theorem dX5_go_36 : decode cX5_go 36 = .ok (.new 54, 3) := by decide +kernel
theorem dX5_go_39 : decode cX5_go 39 = .ok (.dup, 1) := by decide +kernel
theorem dX5_go_40 : decode cX5_go 40 = .ok (.ldc 128, 2) := by decide +kernel
theorem dX5_go_42 : decode cX5_go 42 = .ok (.invokespecial 58, 3) := by decide +kernel
theorem dX5_go_45 : decode cX5_go 45 = .ok (.athrow, 1) := by decide +kernel
theorem dX5_go_46 : decode cX5_go 46 = .ok (.aload_n 0, 1) := by decide +kernel
theorem dX5_go_47 : decode cX5_go 47 = .ok (.bipush 9, 2) := by decide +kernel
theorem dX5_go_49 : decode cX5_go 49 = .ok (.iload_n 1, 1) := by decide +kernel
theorem dX5_go_50 : decode cX5_go 50 = .ok (.iconst 0, 1) := by decide +kernel
theorem dX5_go_51 : decode cX5_go 51 = .ok (.iconst 0, 1) := by decide +kernel
theorem dX5_go_52 : decode cX5_go 52 = .ok (.iconst 0, 1) := by decide +kernel
theorem dX5_go_53 : decode cX5_go 53 = .ok (.invokevirtual 59, 3) := by decide +kernel
theorem dX5_go_56 : decode cX5_go 56 = .ok (.ireturn, 1) := by decide +kernel
theorem dX5_say_0 : decode cX5_say 0 = .ok (.iload_n 1, 1) := by decide +kernel
theorem dX5_say_1 : decode cX5_say 1 = .ok (.iconst 0, 1) := by decide +kernel
theorem dX5_say_2 : decode cX5_say 2 = .ok (.bipush 99, 2) := by decide +kernel
theorem dX5_say_4 : decode cX5_say 4 = .ok (.invokestatic 63, 3) := by decide +kernel
theorem dX5_say_7 : decode cX5_say 7 = .ok (.aload_n 0, 1) := by decide +kernel
theorem dX5_say_8 : decode cX5_say 8 = .ok (.invokevirtual 124, 3) := by decide +kernel
theorem dX5_say_11 : decode cX5_say 11 = .ok (.pop, 1) := by decide +kernel
theorem dX5_say_12 : decode cX5_say 12 = .ok (.aload_n 0, 1) := by decide +kernel
theorem dX5_say_13 : decode cX5_say 13 = .ok (.bipush 10, 2) := by decide +kernel
theorem dX5_say_15 : decode cX5_say 15 = .ok (.iload_n 1, 1) := by decide +kernel
theorem dX5_say_16 : decode cX5_say 16 = .ok (.iconst 0, 1) := by decide +kernel
theorem dX5_say_17 : decode cX5_say 17 = .ok (.iconst 0, 1) := by decide +kernel
theorem dX5_say_18 : decode cX5_say 18 = .ok (.iconst 0, 1) := by decide +kernel
theorem dX5_say_19 : decode cX5_say 19 = .ok (.invokevirtual 59, 3) := by decide +kernel
theorem dX5_say_22 : decode cX5_say 22 = .ok (.ireturn, 1) := by decide +kernel
theorem dX5_shout_0 : decode cX5_shout 0 = .ok (.iload_n 1, 1) := by decide +kernel
theorem dX5_shout_1 : decode cX5_shout 1 = .ok (.iconst 0, 1) := by decide +kernel
theorem dX5_shout_2 : decode cX5_shout 2 = .ok (.bipush 99, 2) := by decide +kernel
theorem dX5_shout_4 : decode cX5_shout 4 = .ok (.invokestatic 63, 3) := by decide +kernel
theorem dX5_shout_7 : decode cX5_shout 7 = .ok (.aload_n 0, 1) := by decide +kernel
theorem dX5_shout_8 : decode cX5_shout 8 = .ok (.invokevirtual 124, 3) := by decide +kernel
theorem dX5_shout_11 : decode cX5_shout 11 = .ok (.pop, 1) := by decide +kernel
theorem dX5_shout_12 : decode cX5_shout 12 = .ok (.aload_n 0, 1) := by decide +kernel
theorem dX5_shout_13 : decode cX5_shout 13 = .ok (.bipush 11, 2) := by decide +kernel
theorem dX5_shout_15 : decode cX5_shout 15 = .ok (.iload_n 1, 1) := by decide +kernel
theorem dX5_shout_16 : decode cX5_shout 16 = .ok (.iconst 0, 1) := by decide +kernel
theorem dX5_shout_17 : decode cX5_shout 17 = .ok (.iconst 0, 1) := by decide +kernel
theorem dX5_shout_18 : decode cX5_shout 18 = .ok (.iconst 0, 1) := by decide +kernel
theorem dX5_shout_19 : decode cX5_shout 19 = .ok (.invokevirtual 59, 3) := by decide +kernel
theorem dX5_shout_22 : decode cX5_shout 22 = .ok (.ireturn, 1) := by decide +kernel
theorem dX5_take_0 : decode cX5_take 0 = .ok (.iload_n 1, 1) := by decide +kernel
theorem dX5_take_1 : decode cX5_take 1 = .ok (.invokestatic 73, 3) := by decide +kernel
theorem dX5_take_4 : decode cX5_take 4 = .ok (.aload_n 0, 1) := by decide +kernel
theorem dX5_take_5 : decode cX5_take 5 = .ok (.getfield 19, 3) := by decide +kernel
theorem dX5_take_8 : decode cX5_take 8 = .ok (.getfield 78, 3) := by decide +kernel
theorem dX5_take_11 : decode cX5_take 11 = .ok (.getfield 121, 3) := by decide +kernel
theorem dX5_take_14 : decode cX5_take 14 = .ok (.aload_n 0, 1) := by decide +kernel
theorem dX5_take_15 : decode cX5_take 15 = .ok (.invokevirtual 124, 3) := by decide +kernel
theorem dX5_take_18 : decode cX5_take 18 = .ok (.iaload, 1) := by decide +kernel
theorem dX5_take_19 : decode cX5_take 19 = .ok (.istore_n 2, 1) := by decide +kernel
theorem dX5_take_20 : decode cX5_take 20 = .ok (.aload_n 0, 1) := by decide +kernel
theorem dX5_take_21 : decode cX5_take 21 = .ok (.getfield 19, 3) := by decide +kernel
theorem dX5_take_24 : decode cX5_take 24 = .ok (.getfield 40, 3) := by decide +kernel
theorem dX5_take_27 : decode cX5_take 27 = .ok (.getfield 130, 3) := by decide +kernel
theorem dX5_take_30 : decode cX5_take 30 = .ok (.iload_n 2, 1) := by decide +kernel
theorem dX5_take_31 : decode cX5_take 31 = .ok (.iload_n 1, 1) := by decide +kernel
theorem dX5_take_32 : decode cX5_take 32 = .ok (.invokestatic 133, 3) := by decide +kernel
theorem dX5_take_35 : decode cX5_take 35 = .ok (.iaload, 1) := by decide +kernel
theorem dX5_take_36 : decode cX5_take 36 = .ok (.ifCond .gt 13, 3) := by decide +kernel
theorem dX5_take_39 : decode cX5_take 39 = .ok (.new 54, 3) := by decide +kernel
theorem dX5_take_42 : decode cX5_take 42 = .ok (.dup, 1) := by decide +kernel
theorem dX5_take_43 : decode cX5_take 43 = .ok (.ldc 136, 2) := by decide +kernel
theorem dX5_take_45 : decode cX5_take 45 = .ok (.invokespecial 58, 3) := by decide +kernel
theorem dX5_take_48 : decode cX5_take 48 = .ok (.athrow, 1) := by decide +kernel
theorem dX5_take_49 : decode cX5_take 49 = .ok (.aload_n 0, 1) := by decide +kernel
theorem dX5_take_50 : decode cX5_take 50 = .ok (.bipush 12, 2) := by decide +kernel
theorem dX5_take_52 : decode cX5_take 52 = .ok (.iload_n 1, 1) := by decide +kernel
theorem dX5_take_53 : decode cX5_take 53 = .ok (.iconst 0, 1) := by decide +kernel
theorem dX5_take_54 : decode cX5_take 54 = .ok (.iconst 0, 1) := by decide +kernel
theorem dX5_take_55 : decode cX5_take 55 = .ok (.iconst 0, 1) := by decide +kernel
theorem dX5_take_56 : decode cX5_take 56 = .ok (.invokevirtual 59, 3) := by decide +kernel
theorem dX5_take_59 : decode cX5_take 59 = .ok (.ireturn, 1) := by decide +kernel
theorem dX5_drop_0 : decode cX5_drop 0 = .ok (.iload_n 1, 1) := by decide +kernel
theorem dX5_drop_1 : decode cX5_drop 1 = .ok (.invokestatic 73, 3) := by decide +kernel
theorem dX5_drop_4 : decode cX5_drop 4 = .ok (.aload_n 0, 1) := by decide +kernel
theorem dX5_drop_5 : decode cX5_drop 5 = .ok (.aload_n 0, 1) := by decide +kernel
theorem dX5_drop_6 : decode cX5_drop 6 = .ok (.invokevirtual 124, 3) := by decide +kernel
theorem dX5_drop_9 : decode cX5_drop 9 = .ok (.iload_n 1, 1) := by decide +kernel
theorem dX5_drop_10 : decode cX5_drop 10 = .ok (.invokevirtual 138, 3) := by decide +kernel
theorem dX5_drop_13 : decode cX5_drop 13 = .ok (.aload_n 0, 1) := by decide +kernel
theorem dX5_drop_14 : decode cX5_drop 14 = .ok (.bipush 13, 2) := by decide +kernel
theorem dX5_drop_16 : decode cX5_drop 16 = .ok (.iload_n 1, 1) := by decide +kernel
theorem dX5_drop_17 : decode cX5_drop 17 = .ok (.iconst 0, 1) := by decide +kernel
theorem dX5_drop_18 : decode cX5_drop 18 = .ok (.iconst 0, 1) := by decide +kernel
theorem dX5_drop_19 : decode cX5_drop 19 = .ok (.iconst 0, 1) := by decide +kernel
theorem dX5_drop_20 : decode cX5_drop 20 = .ok (.invokevirtual 59, 3) := by decide +kernel
theorem dX5_drop_23 : decode cX5_drop 23 = .ok (.ireturn, 1) := by decide +kernel
theorem dX5_give_0 : decode cX5_give 0 = .ok (.aload_n 0, 1) := by decide +kernel
theorem dX5_give_1 : decode cX5_give 1 = .ok (.iload_n 1, 1) := by decide +kernel
theorem dX5_give_2 : decode cX5_give 2 = .ok (.invokevirtual 141, 3) := by decide +kernel
theorem dX5_give_5 : decode cX5_give 5 = .ok (.iload_n 2, 1) := by decide +kernel
theorem dX5_give_6 : decode cX5_give 6 = .ok (.invokestatic 73, 3) := by decide +kernel
theorem dX5_give_9 : decode cX5_give 9 = .ok (.aload_n 0, 1) := by decide +kernel
theorem dX5_give_10 : decode cX5_give 10 = .ok (.invokevirtual 124, 3) := by decide +kernel
theorem dX5_give_13 : decode cX5_give 13 = .ok (.istore_n 3, 1) := by decide +kernel
theorem dX5_give_14 : decode cX5_give 14 = .ok (.aload_n 0, 1) := by decide +kernel
theorem dX5_give_15 : decode cX5_give 15 = .ok (.iload_n 3, 1) := by decide +kernel
theorem dX5_give_16 : decode cX5_give 16 = .ok (.iload_n 1, 1) := by decide +kernel
theorem dX5_give_17 : decode cX5_give 17 = .ok (.invokevirtual 144, 3) := by decide +kernel
theorem dX5_give_20 : decode cX5_give 20 = .ok (.aload_n 0, 1) := by decide +kernel
theorem dX5_give_21 : decode cX5_give 21 = .ok (.iload_n 3, 1) := by decide +kernel
theorem dX5_give_22 : decode cX5_give 22 = .ok (.iload_n 2, 1) := by decide +kernel
theorem dX5_give_23 : decode cX5_give 23 = .ok (.invokevirtual 138, 3) := by decide +kernel
theorem dX5_give_26 : decode cX5_give 26 = .ok (.aload_n 0, 1) := by decide +kernel
theorem dX5_give_27 : decode cX5_give 27 = .ok (.bipush 14, 2) := by decide +kernel
theorem dX5_give_29 : decode cX5_give 29 = .ok (.iload_n 1, 1) := by decide +kernel
theorem dX5_give_30 : decode cX5_give 30 = .ok (.iload_n 2, 1) := by decide +kernel
theorem dX5_give_31 : decode cX5_give 31 = .ok (.iconst 0, 1) := by decide +kernel
theorem dX5_give_32 : decode cX5_give 32 = .ok (.iconst 0, 1) := by decide +kernel
theorem dX5_give_33 : decode cX5_give 33 = .ok (.invokevirtual 59, 3) := by decide +kernel
theorem dX5_give_36 : decode cX5_give 36 = .ok (.ireturn, 1) := by decide +kernel
theorem dX5_pay_0 : decode cX5_pay 0 = .ok (.aload_n 0, 1) := by decide +kernel
theorem dX5_pay_1 : decode cX5_pay 1 = .ok (.iload_n 1, 1) := by decide +kernel
theorem dX5_pay_2 : decode cX5_pay 2 = .ok (.invokevirtual 141, 3) := by decide +kernel
theorem dX5_pay_5 : decode cX5_pay 5 = .ok (.iload_n 2, 1) := by decide +kernel
theorem dX5_pay_6 : decode cX5_pay 6 = .ok (.iconst 1, 1) := by decide +kernel
theorem dX5_pay_7 : decode cX5_pay 7 = .ok (.sipush 1000, 3) := by decide +kernel
theorem dX5_pay_10 : decode cX5_pay 10 = .ok (.invokestatic 63, 3) := by decide +kernel
theorem dX5_pay_13 : decode cX5_pay 13 = .ok (.aload_n 0, 1) := by decide +kernel
theorem dX5_pay_14 : decode cX5_pay 14 = .ok (.invokevirtual 124, 3) := by decide +kernel
theorem dX5_pay_17 : decode cX5_pay 17 = .ok (.istore_n 3, 1) := by decide +kernel
theorem dX5_pay_18 : decode cX5_pay 18 = .ok (.aload_n 0, 1) := by decide +kernel
theorem dX5_pay_19 : decode cX5_pay 19 = .ok (.iload_n 3, 1) := by decide +kernel
theorem dX5_pay_20 : decode cX5_pay 20 = .ok (.iload_n 1, 1) := by decide +kernel
theorem dX5_pay_21 : decode cX5_pay 21 = .ok (.invokevirtual 144, 3) := by decide +kernel
theorem dX5_pay_24 : decode cX5_pay 24 = .ok (.aload_n 0, 1) := by decide +kernel
theorem dX5_pay_25 : decode cX5_pay 25 = .ok (.getfield 19, 3) := by decide +kernel
theorem dX5_pay_28 : decode cX5_pay 28 = .ok (.getfield 78, 3) := by decide +kernel
theorem dX5_pay_31 : decode cX5_pay 31 = .ok (.getfield 147, 3) := by decide +kernel
theorem dX5_pay_34 : decode cX5_pay 34 = .ok (.iload_n 3, 1) := by decide +kernel
theorem dX5_pay_35 : decode cX5_pay 35 = .ok (.iaload, 1) := by decide +kernel
theorem dX5_pay_36 : decode cX5_pay 36 = .ok (.iload_n 2, 1) := by decide +kernel
theorem dX5_pay_37 : decode cX5_pay 37 = .ok (.invokestatic 150, 3) := by decide +kernel
theorem dX5_pay_40 : decode cX5_pay 40 = .ok (.aload_n 0, 1) := by decide +kernel
theorem dX5_pay_41 : decode cX5_pay 41 = .ok (.bipush 15, 2) := by decide +kernel
theorem dX5_pay_43 : decode cX5_pay 43 = .ok (.iload_n 1, 1) := by decide +kernel
theorem dX5_pay_44 : decode cX5_pay 44 = .ok (.iload_n 2, 1) := by decide +kernel
theorem dX5_pay_45 : decode cX5_pay 45 = .ok (.iconst 0, 1) := by decide +kernel
theorem dX5_pay_46 : decode cX5_pay 46 = .ok (.iconst 0, 1) := by decide +kernel
theorem dX5_pay_47 : decode cX5_pay 47 = .ok (.invokevirtual 59, 3) := by decide +kernel
theorem dX5_pay_50 : decode cX5_pay 50 = .ok (.ireturn, 1) := by decide +kernel
theorem dX5_buy_0 : decode cX5_buy 0 = .ok (.iload_n 1, 1) := by decide +kernel
theorem dX5_buy_1 : decode cX5_buy 1 = .ok (.invokestatic 73, 3) := by decide +kernel
theorem dX5_buy_4 : decode cX5_buy 4 = .ok (.aload_n 0, 1) := by decide +kernel
theorem dX5_buy_5 : decode cX5_buy 5 = .ok (.invokevirtual 124, 3) := by decide +kernel
theorem dX5_buy_8 : decode cX5_buy 8 = .ok (.istore_n 2, 1) := by decide +kernel
theorem dX5_buy_9 : decode cX5_buy 9 = .ok (.aload_n 0, 1) := by decide +kernel
theorem dX5_buy_10 : decode cX5_buy 10 = .ok (.getfield 19, 3) := by decide +kernel
theorem dX5_buy_13 : decode cX5_buy 13 = .ok (.getfield 78, 3) := by decide +kernel
theorem dX5_buy_16 : decode cX5_buy 16 = .ok (.getfield 121, 3) := by decide +kernel
theorem dX5_buy_19 : decode cX5_buy 19 = .ok (.iload_n 2, 1) := by decide +kernel
theorem dX5_buy_20 : decode cX5_buy 20 = .ok (.iaload, 1) := by decide +kernel
theorem dX5_buy_21 : decode cX5_buy 21 = .ok (.istore_n 3, 1) := by decide +kernel
theorem dX5_buy_22 : decode cX5_buy 22 = .ok (.aload_n 0, 1) := by decide +kernel
theorem dX5_buy_23 : decode cX5_buy 23 = .ok (.iload_n 3, 1) := by decide +kernel
theorem dX5_buy_24 : decode cX5_buy 24 = .ok (.iload_n 1, 1) := by decide +kernel
theorem dX5_buy_25 : decode cX5_buy 25 = .ok (.invokevirtual 153, 3) := by decide +kernel
theorem dX5_buy_28 : decode cX5_buy 28 = .ok (.aload_n 0, 1) := by decide +kernel
theorem dX5_buy_29 : decode cX5_buy 29 = .ok (.getfield 19, 3) := by decide +kernel
theorem dX5_buy_32 : decode cX5_buy 32 = .ok (.getfield 40, 3) := by decide +kernel
theorem dX5_buy_35 : decode cX5_buy 35 = .ok (.getfield 156, 3) := by decide +kernel
theorem dX5_buy_38 : decode cX5_buy 38 = .ok (.iload_n 3, 1) := by decide +kernel
theorem dX5_buy_39 : decode cX5_buy 39 = .ok (.iload_n 1, 1) := by decide +kernel
theorem dX5_buy_40 : decode cX5_buy 40 = .ok (.invokestatic 133, 3) := by decide +kernel
theorem dX5_buy_43 : decode cX5_buy 43 = .ok (.iaload, 1) := by decide +kernel
theorem dX5_buy_44 : decode cX5_buy 44 = .ok (.ifCond .gt 13, 3) := by decide +kernel
theorem dX5_buy_47 : decode cX5_buy 47 = .ok (.new 54, 3) := by decide +kernel
theorem dX5_buy_50 : decode cX5_buy 50 = .ok (.dup, 1) := by decide +kernel
theorem dX5_buy_51 : decode cX5_buy 51 = .ok (.ldc 159, 2) := by decide +kernel
theorem dX5_buy_53 : decode cX5_buy 53 = .ok (.invokespecial 58, 3) := by decide +kernel
theorem dX5_buy_56 : decode cX5_buy 56 = .ok (.athrow, 1) := by decide +kernel
theorem dX5_buy_57 : decode cX5_buy 57 = .ok (.aload_n 0, 1) := by decide +kernel
theorem dX5_buy_58 : decode cX5_buy 58 = .ok (.getfield 19, 3) := by decide +kernel
theorem dX5_buy_61 : decode cX5_buy 61 = .ok (.getfield 78, 3) := by decide +kernel
theorem dX5_buy_64 : decode cX5_buy 64 = .ok (.getfield 147, 3) := by decide +kernel
theorem dX5_buy_67 : decode cX5_buy 67 = .ok (.iload_n 2, 1) := by decide +kernel
theorem dX5_buy_68 : decode cX5_buy 68 = .ok (.iaload, 1) := by decide +kernel
theorem dX5_buy_69 : decode cX5_buy 69 = .ok (.aload_n 0, 1) := by decide +kernel
theorem dX5_buy_70 : decode cX5_buy 70 = .ok (.getfield 19, 3) := by decide +kernel
theorem dX5_buy_73 : decode cX5_buy 73 = .ok (.getfield 40, 3) := by decide +kernel
theorem dX5_buy_76 : decode cX5_buy 76 = .ok (.getfield 161, 3) := by decide +kernel
theorem dX5_buy_79 : decode cX5_buy 79 = .ok (.iload_n 3, 1) := by decide +kernel
theorem dX5_buy_80 : decode cX5_buy 80 = .ok (.iload_n 1, 1) := by decide +kernel
theorem dX5_buy_81 : decode cX5_buy 81 = .ok (.invokestatic 133, 3) := by decide +kernel
theorem dX5_buy_84 : decode cX5_buy 84 = .ok (.iaload, 1) := by decide +kernel
theorem dX5_buy_85 : decode cX5_buy 85 = .ok (.invokestatic 150, 3) := by decide +kernel
theorem dX5_buy_88 : decode cX5_buy 88 = .ok (.aload_n 0, 1) := by decide +kernel
theorem dX5_buy_89 : decode cX5_buy 89 = .ok (.bipush 16, 2) := by decide +kernel
theorem dX5_buy_91 : decode cX5_buy 91 = .ok (.iload_n 1, 1) := by decide +kernel
theorem dX5_buy_92 : decode cX5_buy 92 = .ok (.iconst 0, 1) := by decide +kernel
theorem dX5_buy_93 : decode cX5_buy 93 = .ok (.iconst 0, 1) := by decide +kernel
theorem dX5_buy_94 : decode cX5_buy 94 = .ok (.iconst 0, 1) := by decide +kernel
theorem dX5_buy_95 : decode cX5_buy 95 = .ok (.invokevirtual 59, 3) := by decide +kernel
theorem dX5_buy_98 : decode cX5_buy 98 = .ok (.ireturn, 1) := by decide +kernel
theorem dX5_sell_0 : decode cX5_sell 0 = .ok (.iload_n 1, 1) := by decide +kernel
theorem dX5_sell_1 : decode cX5_sell 1 = .ok (.invokestatic 73, 3) := by decide +kernel
theorem dX5_sell_4 : decode cX5_sell 4 = .ok (.aload_n 0, 1) := by decide +kernel
theorem dX5_sell_5 : decode cX5_sell 5 = .ok (.invokevirtual 124, 3) := by decide +kernel
theorem dX5_sell_8 : decode cX5_sell 8 = .ok (.istore_n 2, 1) := by decide +kernel
theorem dX5_sell_9 : decode cX5_sell 9 = .ok (.aload_n 0, 1) := by decide +kernel
theorem dX5_sell_10 : decode cX5_sell 10 = .ok (.getfield 19, 3) := by decide +kernel
theorem dX5_sell_13 : decode cX5_sell 13 = .ok (.getfield 78, 3) := by decide +kernel
theorem dX5_sell_16 : decode cX5_sell 16 = .ok (.getfield 121, 3) := by decide +kernel
theorem dX5_sell_19 : decode cX5_sell 19 = .ok (.iload_n 2, 1) := by decide +kernel
theorem dX5_sell_20 : decode cX5_sell 20 = .ok (.iaload, 1) := by decide +kernel
theorem dX5_sell_21 : decode cX5_sell 21 = .ok (.istore_n 3, 1) := by decide +kernel
theorem dX5_sell_22 : decode cX5_sell 22 = .ok (.aload_n 0, 1) := by decide +kernel
theorem dX5_sell_23 : decode cX5_sell 23 = .ok (.iload_n 3, 1) := by decide +kernel
theorem dX5_sell_24 : decode cX5_sell 24 = .ok (.iload_n 1, 1) := by decide +kernel
theorem dX5_sell_25 : decode cX5_sell 25 = .ok (.invokevirtual 153, 3) := by decide +kernel
theorem dX5_sell_28 : decode cX5_sell 28 = .ok (.aload_n 0, 1) := by decide +kernel
theorem dX5_sell_29 : decode cX5_sell 29 = .ok (.iload_n 2, 1) := by decide +kernel
theorem dX5_sell_30 : decode cX5_sell 30 = .ok (.iload_n 1, 1) := by decide +kernel
theorem dX5_sell_31 : decode cX5_sell 31 = .ok (.invokevirtual 138, 3) := by decide +kernel
theorem dX5_sell_34 : decode cX5_sell 34 = .ok (.aload_n 0, 1) := by decide +kernel
theorem dX5_sell_35 : decode cX5_sell 35 = .ok (.getfield 19, 3) := by decide +kernel
theorem dX5_sell_38 : decode cX5_sell 38 = .ok (.getfield 40, 3) := by decide +kernel
theorem dX5_sell_41 : decode cX5_sell 41 = .ok (.getfield 164, 3) := by decide +kernel
theorem dX5_sell_44 : decode cX5_sell 44 = .ok (.iload_n 3, 1) := by decide +kernel
theorem dX5_sell_45 : decode cX5_sell 45 = .ok (.iaload, 1) := by decide +kernel
theorem dX5_sell_46 : decode cX5_sell 46 = .ok (.aload_n 0, 1) := by decide +kernel
theorem dX5_sell_47 : decode cX5_sell 47 = .ok (.getfield 19, 3) := by decide +kernel
theorem dX5_sell_50 : decode cX5_sell 50 = .ok (.getfield 40, 3) := by decide +kernel
theorem dX5_sell_53 : decode cX5_sell 53 = .ok (.iload_n 3, 1) := by decide +kernel
theorem dX5_sell_54 : decode cX5_sell 54 = .ok (.iload_n 1, 1) := by decide +kernel
theorem dX5_sell_55 : decode cX5_sell 55 = .ok (.invokevirtual 167, 3) := by decide +kernel
theorem dX5_sell_58 : decode cX5_sell 58 = .ok (.invokestatic 150, 3) := by decide +kernel
theorem dX5_sell_61 : decode cX5_sell 61 = .ok (.aload_n 0, 1) := by decide +kernel
theorem dX5_sell_62 : decode cX5_sell 62 = .ok (.bipush 17, 2) := by decide +kernel
theorem dX5_sell_64 : decode cX5_sell 64 = .ok (.iload_n 1, 1) := by decide +kernel
theorem dX5_sell_65 : decode cX5_sell 65 = .ok (.iconst 0, 1) := by decide +kernel
theorem dX5_sell_66 : decode cX5_sell 66 = .ok (.iconst 0, 1) := by decide +kernel
theorem dX5_sell_67 : decode cX5_sell 67 = .ok (.iconst 0, 1) := by decide +kernel
theorem dX5_sell_68 : decode cX5_sell 68 = .ok (.invokevirtual 59, 3) := by decide +kernel
theorem dX5_sell_71 : decode cX5_sell 71 = .ok (.ireturn, 1) := by decide +kernel
theorem dX5_attack_0 : decode cX5_attack 0 = .ok (.aload_n 0, 1) := by decide +kernel
theorem dX5_attack_1 : decode cX5_attack 1 = .ok (.iload_n 1, 1) := by decide +kernel
theorem dX5_attack_2 : decode cX5_attack 2 = .ok (.invokevirtual 141, 3) := by decide +kernel
theorem dX5_attack_5 : decode cX5_attack 5 = .ok (.aload_n 0, 1) := by decide +kernel
theorem dX5_attack_6 : decode cX5_attack 6 = .ok (.aload_n 0, 1) := by decide +kernel
theorem dX5_attack_7 : decode cX5_attack 7 = .ok (.invokevirtual 124, 3) := by decide +kernel
theorem dX5_attack_10 : decode cX5_attack 10 = .ok (.iload_n 1, 1) := by decide +kernel
theorem dX5_attack_11 : decode cX5_attack 11 = .ok (.invokevirtual 144, 3) := by decide +kernel
theorem dX5_attack_14 : decode cX5_attack 14 = .ok (.aload_n 0, 1) := by decide +kernel
theorem dX5_attack_15 : decode cX5_attack 15 = .ok (.bipush 18, 2) := by decide +kernel
theorem dX5_attack_17 : decode cX5_attack 17 = .ok (.iload_n 1, 1) := by decide +kernel
theorem dX5_attack_18 : decode cX5_attack 18 = .ok (.iconst 0, 1) := by decide +kernel
theorem dX5_attack_19 : decode cX5_attack 19 = .ok (.iconst 0, 1) := by decide +kernel
theorem dX5_attack_20 : decode cX5_attack 20 = .ok (.iconst 0, 1) := by decide +kernel
theorem dX5_attack_21 : decode cX5_attack 21 = .ok (.invokevirtual 59, 3) := by decide +kernel
theorem dX5_attack_24 : decode cX5_attack 24 = .ok (.ireturn, 1) := by decide +kernel
theorem dX5_rest_0 : decode cX5_rest 0 = .ok (.aload_n 0, 1) := by decide +kernel
theorem dX5_rest_1 : decode cX5_rest 1 = .ok (.invokevirtual 124, 3) := by decide +kernel
theorem dX5_rest_4 : decode cX5_rest 4 = .ok (.pop, 1) := by decide +kernel
theorem dX5_rest_5 : decode cX5_rest 5 = .ok (.aload_n 0, 1) := by decide +kernel
theorem dX5_rest_6 : decode cX5_rest 6 = .ok (.bipush 19, 2) := by decide +kernel
theorem dX5_rest_8 : decode cX5_rest 8 = .ok (.iconst 0, 1) := by decide +kernel
theorem dX5_rest_9 : decode cX5_rest 9 = .ok (.iconst 0, 1) := by decide +kernel
theorem dX5_rest_10 : decode cX5_rest 10 = .ok (.iconst 0, 1) := by decide +kernel
theorem dX5_rest_11 : decode cX5_rest 11 = .ok (.iconst 0, 1) := by decide +kernel
theorem dX5_rest_12 : decode cX5_rest 12 = .ok (.invokevirtual 59, 3) := by decide +kernel
theorem dX5_rest_15 : decode cX5_rest 15 = .ok (.ireturn, 1) := by decide +kernel
theorem dX5_turn_0 : decode cX5_turn 0 = .ok (.aload_n 0, 1) := by decide +kernel
theorem dX5_turn_1 : decode cX5_turn 1 = .ok (.getfield 19, 3) := by decide +kernel
theorem dX5_turn_4 : decode cX5_turn 4 = .ok (.getfield 78, 3) := by decide +kernel
theorem dX5_turn_7 : decode cX5_turn 7 = .ok (.invokevirtual 170, 3) := by decide +kernel
theorem dX5_turn_10 : decode cX5_turn 10 = .ok (.ireturn, 1) := by decide +kernel
theorem dX5_readyAt_0 : decode cX5_readyAt 0 = .ok (.aload_n 0, 1) := by decide +kernel
theorem dX5_readyAt_1 : decode cX5_readyAt 1 = .ok (.iload_n 1, 1) := by decide +kernel
theorem dX5_readyAt_2 : decode cX5_readyAt 2 = .ok (.invokevirtual 141, 3) := by decide +kernel
theorem dX5_readyAt_5 : decode cX5_readyAt 5 = .ok (.aload_n 0, 1) := by decide +kernel
theorem dX5_readyAt_6 : decode cX5_readyAt 6 = .ok (.getfield 19, 3) := by decide +kernel
theorem dX5_readyAt_9 : decode cX5_readyAt 9 = .ok (.getfield 78, 3) := by decide +kernel
theorem dX5_readyAt_12 : decode cX5_readyAt 12 = .ok (.getfield 173, 3) := by decide +kernel
theorem dX5_readyAt_15 : decode cX5_readyAt 15 = .ok (.iload_n 1, 1) := by decide +kernel
theorem dX5_readyAt_16 : decode cX5_readyAt 16 = .ok (.iaload, 1) := by decide +kernel
theorem dX5_readyAt_17 : decode cX5_readyAt 17 = .ok (.ireturn, 1) := by decide +kernel
theorem dX5_roomOf_0 : decode cX5_roomOf 0 = .ok (.aload_n 0, 1) := by decide +kernel
theorem dX5_roomOf_1 : decode cX5_roomOf 1 = .ok (.iload_n 1, 1) := by decide +kernel
theorem dX5_roomOf_2 : decode cX5_roomOf 2 = .ok (.invokevirtual 141, 3) := by decide +kernel
theorem dX5_roomOf_5 : decode cX5_roomOf 5 = .ok (.aload_n 0, 1) := by decide +kernel
theorem dX5_roomOf_6 : decode cX5_roomOf 6 = .ok (.getfield 19, 3) := by decide +kernel
theorem dX5_roomOf_9 : decode cX5_roomOf 9 = .ok (.getfield 78, 3) := by decide +kernel
theorem dX5_roomOf_12 : decode cX5_roomOf 12 = .ok (.getfield 121, 3) := by decide +kernel
theorem dX5_roomOf_15 : decode cX5_roomOf 15 = .ok (.iload_n 1, 1) := by decide +kernel
theorem dX5_roomOf_16 : decode cX5_roomOf 16 = .ok (.iaload, 1) := by decide +kernel
theorem dX5_roomOf_17 : decode cX5_roomOf 17 = .ok (.ireturn, 1) := by decide +kernel
theorem dX5_coinsOf_0 : decode cX5_coinsOf 0 = .ok (.aload_n 0, 1) := by decide +kernel
theorem dX5_coinsOf_1 : decode cX5_coinsOf 1 = .ok (.iload_n 1, 1) := by decide +kernel
theorem dX5_coinsOf_2 : decode cX5_coinsOf 2 = .ok (.invokevirtual 141, 3) := by decide +kernel
theorem dX5_coinsOf_5 : decode cX5_coinsOf 5 = .ok (.aload_n 0, 1) := by decide +kernel
theorem dX5_coinsOf_6 : decode cX5_coinsOf 6 = .ok (.getfield 19, 3) := by decide +kernel
theorem dX5_coinsOf_9 : decode cX5_coinsOf 9 = .ok (.getfield 78, 3) := by decide +kernel
theorem dX5_coinsOf_12 : decode cX5_coinsOf 12 = .ok (.getfield 147, 3) := by decide +kernel
theorem dX5_coinsOf_15 : decode cX5_coinsOf 15 = .ok (.iload_n 1, 1) := by decide +kernel
theorem dX5_coinsOf_16 : decode cX5_coinsOf 16 = .ok (.iaload, 1) := by decide +kernel
theorem dX5_coinsOf_17 : decode cX5_coinsOf 17 = .ok (.ireturn, 1) := by decide +kernel
theorem dX5_healthOf_0 : decode cX5_healthOf 0 = .ok (.aload_n 0, 1) := by decide +kernel
theorem dX5_healthOf_1 : decode cX5_healthOf 1 = .ok (.iload_n 1, 1) := by decide +kernel
theorem dX5_healthOf_2 : decode cX5_healthOf 2 = .ok (.invokevirtual 141, 3) := by decide +kernel
theorem dX5_healthOf_5 : decode cX5_healthOf 5 = .ok (.aload_n 0, 1) := by decide +kernel
theorem dX5_healthOf_6 : decode cX5_healthOf 6 = .ok (.getfield 19, 3) := by decide +kernel
theorem dX5_healthOf_9 : decode cX5_healthOf 9 = .ok (.getfield 78, 3) := by decide +kernel
theorem dX5_healthOf_12 : decode cX5_healthOf 12 = .ok (.getfield 176, 3) := by decide +kernel
theorem dX5_healthOf_15 : decode cX5_healthOf 15 = .ok (.iload_n 1, 1) := by decide +kernel
theorem dX5_healthOf_16 : decode cX5_healthOf 16 = .ok (.iaload, 1) := by decide +kernel
theorem dX5_healthOf_17 : decode cX5_healthOf 17 = .ok (.ireturn, 1) := by decide +kernel
theorem dX5_goodsOf_0 : decode cX5_goodsOf 0 = .ok (.aload_n 0, 1) := by decide +kernel
theorem dX5_goodsOf_1 : decode cX5_goodsOf 1 = .ok (.iload_n 1, 1) := by decide +kernel
theorem dX5_goodsOf_2 : decode cX5_goodsOf 2 = .ok (.invokevirtual 141, 3) := by decide +kernel
theorem dX5_goodsOf_5 : decode cX5_goodsOf 5 = .ok (.iload_n 2, 1) := by decide +kernel
theorem dX5_goodsOf_6 : decode cX5_goodsOf 6 = .ok (.invokestatic 73, 3) := by decide +kernel
theorem dX5_goodsOf_9 : decode cX5_goodsOf 9 = .ok (.aload_n 0, 1) := by decide +kernel
theorem dX5_goodsOf_10 : decode cX5_goodsOf 10 = .ok (.getfield 19, 3) := by decide +kernel
theorem dX5_goodsOf_13 : decode cX5_goodsOf 13 = .ok (.getfield 78, 3) := by decide +kernel
theorem dX5_goodsOf_16 : decode cX5_goodsOf 16 = .ok (.getfield 179, 3) := by decide +kernel
theorem dX5_goodsOf_19 : decode cX5_goodsOf 19 = .ok (.iload_n 1, 1) := by decide +kernel
theorem dX5_goodsOf_20 : decode cX5_goodsOf 20 = .ok (.iload_n 2, 1) := by decide +kernel
theorem dX5_goodsOf_21 : decode cX5_goodsOf 21 = .ok (.invokestatic 133, 3) := by decide +kernel
theorem dX5_goodsOf_24 : decode cX5_goodsOf 24 = .ok (.iaload, 1) := by decide +kernel
theorem dX5_goodsOf_25 : decode cX5_goodsOf 25 = .ok (.ireturn, 1) := by decide +kernel
theorem dX5_heard_0 : decode cX5_heard 0 = .ok (.aload_n 0, 1) := by decide +kernel
theorem dX5_heard_1 : decode cX5_heard 1 = .ok (.iload_n 1, 1) := by decide +kernel
theorem dX5_heard_2 : decode cX5_heard 2 = .ok (.invokevirtual 141, 3) := by decide +kernel
theorem dX5_heard_5 : decode cX5_heard 5 = .ok (.iload_n 2, 1) := by decide +kernel
theorem dX5_heard_6 : decode cX5_heard 6 = .ok (.ifCond .lt 19, 3) := by decide +kernel
theorem dX5_heard_9 : decode cX5_heard 9 = .ok (.iload_n 2, 1) := by decide +kernel
theorem dX5_heard_10 : decode cX5_heard 10 = .ok (.aload_n 0, 1) := by decide +kernel
theorem dX5_heard_11 : decode cX5_heard 11 = .ok (.getfield 19, 3) := by decide +kernel
theorem dX5_heard_14 : decode cX5_heard 14 = .ok (.getfield 78, 3) := by decide +kernel
theorem dX5_heard_17 : decode cX5_heard 17 = .ok (.getfield 182, 3) := by decide +kernel
theorem dX5_heard_20 : decode cX5_heard 20 = .ok (.iload_n 1, 1) := by decide +kernel
theorem dX5_heard_21 : decode cX5_heard 21 = .ok (.iaload, 1) := by decide +kernel
theorem dX5_heard_22 : decode cX5_heard 22 = .ok (.if_icmp .lt 13, 3) := by decide +kernel
theorem dX5_heard_25 : decode cX5_heard 25 = .ok (.new 185, 3) := by decide +kernel
theorem dX5_heard_28 : decode cX5_heard 28 = .ok (.dup, 1) := by decide +kernel
theorem dX5_heard_29 : decode cX5_heard 29 = .ok (.ldc 187, 2) := by decide +kernel
theorem dX5_heard_31 : decode cX5_heard 31 = .ok (.invokespecial 189, 3) := by decide +kernel
theorem dX5_heard_34 : decode cX5_heard 34 = .ok (.athrow, 1) := by decide +kernel
theorem dX5_heard_35 : decode cX5_heard 35 = .ok (.aload_n 0, 1) := by decide +kernel
theorem dX5_heard_36 : decode cX5_heard 36 = .ok (.getfield 19, 3) := by decide +kernel
theorem dX5_heard_39 : decode cX5_heard 39 = .ok (.getfield 78, 3) := by decide +kernel
theorem dX5_heard_42 : decode cX5_heard 42 = .ok (.getfield 190, 3) := by decide +kernel
theorem dX5_heard_45 : decode cX5_heard 45 = .ok (.iload_n 1, 1) := by decide +kernel
theorem dX5_heard_46 : decode cX5_heard 46 = .ok (.bipush 6, 2) := by decide +kernel
theorem dX5_heard_48 : decode cX5_heard 48 = .ok (.imul, 1) := by decide +kernel
theorem dX5_heard_49 : decode cX5_heard 49 = .ok (.iload_n 2, 1) := by decide +kernel
theorem dX5_heard_50 : decode cX5_heard 50 = .ok (.iadd, 1) := by decide +kernel
theorem dX5_heard_51 : decode cX5_heard 51 = .ok (.iaload, 1) := by decide +kernel
theorem dX5_heard_52 : decode cX5_heard 52 = .ok (.ireturn, 1) := by decide +kernel
theorem dX5_stageOf_0 : decode cX5_stageOf 0 = .ok (.aload_n 0, 1) := by decide +kernel
theorem dX5_stageOf_1 : decode cX5_stageOf 1 = .ok (.iload_n 1, 1) := by decide +kernel
theorem dX5_stageOf_2 : decode cX5_stageOf 2 = .ok (.invokevirtual 141, 3) := by decide +kernel
theorem dX5_stageOf_5 : decode cX5_stageOf 5 = .ok (.aload_n 0, 1) := by decide +kernel
theorem dX5_stageOf_6 : decode cX5_stageOf 6 = .ok (.iload_n 2, 1) := by decide +kernel
theorem dX5_stageOf_7 : decode cX5_stageOf 7 = .ok (.invokevirtual 99, 3) := by decide +kernel
theorem dX5_stageOf_10 : decode cX5_stageOf 10 = .ok (.aload_n 0, 1) := by decide +kernel
theorem dX5_stageOf_11 : decode cX5_stageOf 11 = .ok (.getfield 19, 3) := by decide +kernel
theorem dX5_stageOf_14 : decode cX5_stageOf 14 = .ok (.getfield 78, 3) := by decide +kernel
theorem dX5_stageOf_17 : decode cX5_stageOf 17 = .ok (.getfield 193, 3) := by decide +kernel
theorem dX5_stageOf_20 : decode cX5_stageOf 20 = .ok (.iload_n 1, 1) := by decide +kernel
theorem dX5_stageOf_21 : decode cX5_stageOf 21 = .ok (.iload_n 2, 1) := by decide +kernel
theorem dX5_stageOf_22 : decode cX5_stageOf 22 = .ok (.invokestatic 196, 3) := by decide +kernel
theorem dX5_stageOf_25 : decode cX5_stageOf 25 = .ok (.iaload, 1) := by decide +kernel
theorem dX5_stageOf_26 : decode cX5_stageOf 26 = .ok (.ireturn, 1) := by decide +kernel
theorem dX5_exit_0 : decode cX5_exit 0 = .ok (.iload_n 1, 1) := by decide +kernel
theorem dX5_exit_1 : decode cX5_exit 1 = .ok (.invokestatic 26, 3) := by decide +kernel
theorem dX5_exit_4 : decode cX5_exit 4 = .ok (.iload_n 2, 1) := by decide +kernel
theorem dX5_exit_5 : decode cX5_exit 5 = .ok (.invokestatic 30, 3) := by decide +kernel
theorem dX5_exit_8 : decode cX5_exit 8 = .ok (.aload_n 0, 1) := by decide +kernel
theorem dX5_exit_9 : decode cX5_exit 9 = .ok (.getfield 19, 3) := by decide +kernel
theorem dX5_exit_12 : decode cX5_exit 12 = .ok (.getfield 40, 3) := by decide +kernel
theorem dX5_exit_15 : decode cX5_exit 15 = .ok (.iload_n 1, 1) := by decide +kernel
theorem dX5_exit_16 : decode cX5_exit 16 = .ok (.iload_n 2, 1) := by decide +kernel
theorem dX5_exit_17 : decode cX5_exit 17 = .ok (.invokevirtual 44, 3) := by decide +kernel
theorem dX5_exit_20 : decode cX5_exit 20 = .ok (.ireturn, 1) := by decide +kernel
theorem dX5_distance_0 : decode cX5_distance 0 = .ok (.iload_n 1, 1) := by decide +kernel
theorem dX5_distance_1 : decode cX5_distance 1 = .ok (.invokestatic 26, 3) := by decide +kernel
theorem dX5_distance_4 : decode cX5_distance 4 = .ok (.iload_n 2, 1) := by decide +kernel
theorem dX5_distance_5 : decode cX5_distance 5 = .ok (.invokestatic 26, 3) := by decide +kernel
theorem dX5_distance_8 : decode cX5_distance 8 = .ok (.aload_n 0, 1) := by decide +kernel
theorem dX5_distance_9 : decode cX5_distance 9 = .ok (.getfield 19, 3) := by decide +kernel
theorem dX5_distance_12 : decode cX5_distance 12 = .ok (.getfield 40, 3) := by decide +kernel
theorem dX5_distance_15 : decode cX5_distance 15 = .ok (.iload_n 1, 1) := by decide +kernel
theorem dX5_distance_16 : decode cX5_distance 16 = .ok (.iload_n 2, 1) := by decide +kernel
theorem dX5_distance_17 : decode cX5_distance 17 = .ok (.invokevirtual 199, 3) := by decide +kernel
theorem dX5_distance_20 : decode cX5_distance 20 = .ok (.ireturn, 1) := by decide +kernel
theorem dX5_onFloor_0 : decode cX5_onFloor 0 = .ok (.iload_n 1, 1) := by decide +kernel
theorem dX5_onFloor_1 : decode cX5_onFloor 1 = .ok (.invokestatic 26, 3) := by decide +kernel
theorem dX5_onFloor_4 : decode cX5_onFloor 4 = .ok (.iload_n 2, 1) := by decide +kernel
theorem dX5_onFloor_5 : decode cX5_onFloor 5 = .ok (.invokestatic 73, 3) := by decide +kernel
theorem dX5_onFloor_8 : decode cX5_onFloor 8 = .ok (.aload_n 0, 1) := by decide +kernel
theorem dX5_onFloor_9 : decode cX5_onFloor 9 = .ok (.getfield 19, 3) := by decide +kernel
theorem dX5_onFloor_12 : decode cX5_onFloor 12 = .ok (.getfield 40, 3) := by decide +kernel
theorem dX5_onFloor_15 : decode cX5_onFloor 15 = .ok (.getfield 130, 3) := by decide +kernel
theorem dX5_onFloor_18 : decode cX5_onFloor 18 = .ok (.iload_n 1, 1) := by decide +kernel
theorem dX5_onFloor_19 : decode cX5_onFloor 19 = .ok (.iload_n 2, 1) := by decide +kernel
theorem dX5_onFloor_20 : decode cX5_onFloor 20 = .ok (.invokestatic 133, 3) := by decide +kernel
theorem dX5_onFloor_23 : decode cX5_onFloor 23 = .ok (.iaload, 1) := by decide +kernel
theorem dX5_onFloor_24 : decode cX5_onFloor 24 = .ok (.ireturn, 1) := by decide +kernel
theorem dX5_stockOf_0 : decode cX5_stockOf 0 = .ok (.iload_n 1, 1) := by decide +kernel
theorem dX5_stockOf_1 : decode cX5_stockOf 1 = .ok (.invokestatic 26, 3) := by decide +kernel
theorem dX5_stockOf_4 : decode cX5_stockOf 4 = .ok (.iload_n 2, 1) := by decide +kernel
theorem dX5_stockOf_5 : decode cX5_stockOf 5 = .ok (.invokestatic 73, 3) := by decide +kernel
theorem dX5_stockOf_8 : decode cX5_stockOf 8 = .ok (.aload_n 0, 1) := by decide +kernel
theorem dX5_stockOf_9 : decode cX5_stockOf 9 = .ok (.getfield 19, 3) := by decide +kernel
theorem dX5_stockOf_12 : decode cX5_stockOf 12 = .ok (.getfield 40, 3) := by decide +kernel
theorem dX5_stockOf_15 : decode cX5_stockOf 15 = .ok (.getfield 156, 3) := by decide +kernel
theorem dX5_stockOf_18 : decode cX5_stockOf 18 = .ok (.iload_n 1, 1) := by decide +kernel
theorem dX5_stockOf_19 : decode cX5_stockOf 19 = .ok (.iload_n 2, 1) := by decide +kernel
theorem dX5_stockOf_20 : decode cX5_stockOf 20 = .ok (.invokestatic 133, 3) := by decide +kernel
theorem dX5_stockOf_23 : decode cX5_stockOf 23 = .ok (.iaload, 1) := by decide +kernel
theorem dX5_stockOf_24 : decode cX5_stockOf 24 = .ok (.ireturn, 1) := by decide +kernel
theorem dX5_tillOf_0 : decode cX5_tillOf 0 = .ok (.iload_n 1, 1) := by decide +kernel
theorem dX5_tillOf_1 : decode cX5_tillOf 1 = .ok (.invokestatic 26, 3) := by decide +kernel
theorem dX5_tillOf_4 : decode cX5_tillOf 4 = .ok (.aload_n 0, 1) := by decide +kernel
theorem dX5_tillOf_5 : decode cX5_tillOf 5 = .ok (.getfield 19, 3) := by decide +kernel
theorem dX5_tillOf_8 : decode cX5_tillOf 8 = .ok (.getfield 40, 3) := by decide +kernel
theorem dX5_tillOf_11 : decode cX5_tillOf 11 = .ok (.getfield 164, 3) := by decide +kernel
theorem dX5_tillOf_14 : decode cX5_tillOf 14 = .ok (.iload_n 1, 1) := by decide +kernel
theorem dX5_tillOf_15 : decode cX5_tillOf 15 = .ok (.iaload, 1) := by decide +kernel
theorem dX5_tillOf_16 : decode cX5_tillOf 16 = .ok (.ireturn, 1) := by decide +kernel
theorem dX5_purse_0 : decode cX5_purse 0 = .ok (.aload_n 0, 1) := by decide +kernel
theorem dX5_purse_1 : decode cX5_purse 1 = .ok (.getfield 19, 3) := by decide +kernel
theorem dX5_purse_4 : decode cX5_purse 4 = .ok (.getfield 202, 3) := by decide +kernel
theorem dX5_purse_7 : decode cX5_purse 7 = .ok (.ireturn, 1) := by decide +kernel
theorem dX5_allCoins_0 : decode cX5_allCoins 0 = .ok (.aload_n 0, 1) := by decide +kernel
theorem dX5_allCoins_1 : decode cX5_allCoins 1 = .ok (.getfield 19, 3) := by decide +kernel
theorem dX5_allCoins_4 : decode cX5_allCoins 4 = .ok (.getfield 202, 3) := by decide +kernel
theorem dX5_allCoins_7 : decode cX5_allCoins 7 = .ok (.aload_n 0, 1) := by decide +kernel
theorem dX5_allCoins_8 : decode cX5_allCoins 8 = .ok (.getfield 19, 3) := by decide +kernel
theorem dX5_allCoins_11 : decode cX5_allCoins 11 = .ok (.getfield 78, 3) := by decide +kernel
theorem dX5_allCoins_14 : decode cX5_allCoins 14 = .ok (.invokevirtual 205, 3) := by decide +kernel
theorem dX5_allCoins_17 : decode cX5_allCoins 17 = .ok (.iadd, 1) := by decide +kernel
theorem dX5_allCoins_18 : decode cX5_allCoins 18 = .ok (.aload_n 0, 1) := by decide +kernel
theorem dX5_allCoins_19 : decode cX5_allCoins 19 = .ok (.getfield 19, 3) := by decide +kernel
theorem dX5_allCoins_22 : decode cX5_allCoins 22 = .ok (.getfield 40, 3) := by decide +kernel
theorem dX5_allCoins_25 : decode cX5_allCoins 25 = .ok (.invokevirtual 208, 3) := by decide +kernel
theorem dX5_allCoins_28 : decode cX5_allCoins 28 = .ok (.iadd, 1) := by decide +kernel
theorem dX5_allCoins_29 : decode cX5_allCoins 29 = .ok (.ireturn, 1) := by decide +kernel
theorem dX5_allGoods_0 : decode cX5_allGoods 0 = .ok (.iload_n 1, 1) := by decide +kernel
theorem dX5_allGoods_1 : decode cX5_allGoods 1 = .ok (.invokestatic 73, 3) := by decide +kernel
theorem dX5_allGoods_4 : decode cX5_allGoods 4 = .ok (.aload_n 0, 1) := by decide +kernel
theorem dX5_allGoods_5 : decode cX5_allGoods 5 = .ok (.getfield 19, 3) := by decide +kernel
theorem dX5_allGoods_8 : decode cX5_allGoods 8 = .ok (.getfield 78, 3) := by decide +kernel
theorem dX5_allGoods_11 : decode cX5_allGoods 11 = .ok (.iload_n 1, 1) := by decide +kernel
theorem dX5_allGoods_12 : decode cX5_allGoods 12 = .ok (.invokevirtual 211, 3) := by decide +kernel
theorem dX5_allGoods_15 : decode cX5_allGoods 15 = .ok (.aload_n 0, 1) := by decide +kernel
theorem dX5_allGoods_16 : decode cX5_allGoods 16 = .ok (.getfield 19, 3) := by decide +kernel
theorem dX5_allGoods_19 : decode cX5_allGoods 19 = .ok (.getfield 40, 3) := by decide +kernel
theorem dX5_allGoods_22 : decode cX5_allGoods 22 = .ok (.iload_n 1, 1) := by decide +kernel
theorem dX5_allGoods_23 : decode cX5_allGoods 23 = .ok (.invokevirtual 214, 3) := by decide +kernel
theorem dX5_allGoods_26 : decode cX5_allGoods 26 = .ok (.iadd, 1) := by decide +kernel
theorem dX5_allGoods_27 : decode cX5_allGoods 27 = .ok (.ireturn, 1) := by decide +kernel
theorem dX5_calls_0 : decode cX5_calls 0 = .ok (.aload_n 0, 1) := by decide +kernel
theorem dX5_calls_1 : decode cX5_calls 1 = .ok (.getfield 10, 3) := by decide +kernel
theorem dX5_calls_4 : decode cX5_calls 4 = .ok (.getfield 215, 3) := by decide +kernel
theorem dX5_calls_7 : decode cX5_calls 7 = .ok (.ireturn, 1) := by decide +kernel
theorem dX5_roomAfter_0 : decode cX5_roomAfter 0 = .ok (.aload_n 0, 1) := by decide +kernel
theorem dX5_roomAfter_1 : decode cX5_roomAfter 1 = .ok (.iload_n 1, 1) := by decide +kernel
theorem dX5_roomAfter_2 : decode cX5_roomAfter 2 = .ok (.invokevirtual 216, 3) := by decide +kernel
theorem dX5_roomAfter_5 : decode cX5_roomAfter 5 = .ok (.astore_n 3, 1) := by decide +kernel
theorem dX5_roomAfter_6 : decode cX5_roomAfter 6 = .ok (.aload_n 3, 1) := by decide +kernel
theorem dX5_roomAfter_7 : decode cX5_roomAfter 7 = .ok (.iload_n 2, 1) := by decide +kernel
theorem dX5_roomAfter_8 : decode cX5_roomAfter 8 = .ok (.invokestatic 220, 3) := by decide +kernel
theorem dX5_roomAfter_11 : decode cX5_roomAfter 11 = .ok (.aload_n 3, 1) := by decide +kernel
theorem dX5_roomAfter_12 : decode cX5_roomAfter 12 = .ok (.getfield 78, 3) := by decide +kernel
theorem dX5_roomAfter_15 : decode cX5_roomAfter 15 = .ok (.getfield 121, 3) := by decide +kernel
theorem dX5_roomAfter_18 : decode cX5_roomAfter 18 = .ok (.iload_n 2, 1) := by decide +kernel
theorem dX5_roomAfter_19 : decode cX5_roomAfter 19 = .ok (.iaload, 1) := by decide +kernel
theorem dX5_roomAfter_20 : decode cX5_roomAfter 20 = .ok (.ireturn, 1) := by decide +kernel
theorem dX5_coinsAfter_0 : decode cX5_coinsAfter 0 = .ok (.aload_n 0, 1) := by decide +kernel
theorem dX5_coinsAfter_1 : decode cX5_coinsAfter 1 = .ok (.iload_n 1, 1) := by decide +kernel
theorem dX5_coinsAfter_2 : decode cX5_coinsAfter 2 = .ok (.invokevirtual 216, 3) := by decide +kernel
theorem dX5_coinsAfter_5 : decode cX5_coinsAfter 5 = .ok (.astore_n 3, 1) := by decide +kernel
theorem dX5_coinsAfter_6 : decode cX5_coinsAfter 6 = .ok (.aload_n 3, 1) := by decide +kernel
theorem dX5_coinsAfter_7 : decode cX5_coinsAfter 7 = .ok (.iload_n 2, 1) := by decide +kernel
theorem dX5_coinsAfter_8 : decode cX5_coinsAfter 8 = .ok (.invokestatic 220, 3) := by decide +kernel
theorem dX5_coinsAfter_11 : decode cX5_coinsAfter 11 = .ok (.aload_n 3, 1) := by decide +kernel
theorem dX5_coinsAfter_12 : decode cX5_coinsAfter 12 = .ok (.getfield 78, 3) := by decide +kernel
theorem dX5_coinsAfter_15 : decode cX5_coinsAfter 15 = .ok (.getfield 147, 3) := by decide +kernel
theorem dX5_coinsAfter_18 : decode cX5_coinsAfter 18 = .ok (.iload_n 2, 1) := by decide +kernel
theorem dX5_coinsAfter_19 : decode cX5_coinsAfter 19 = .ok (.iaload, 1) := by decide +kernel
theorem dX5_coinsAfter_20 : decode cX5_coinsAfter 20 = .ok (.ireturn, 1) := by decide +kernel
theorem dX5_turnAfter_0 : decode cX5_turnAfter 0 = .ok (.aload_n 0, 1) := by decide +kernel
theorem dX5_turnAfter_1 : decode cX5_turnAfter 1 = .ok (.iload_n 1, 1) := by decide +kernel
theorem dX5_turnAfter_2 : decode cX5_turnAfter 2 = .ok (.invokevirtual 216, 3) := by decide +kernel
theorem dX5_turnAfter_5 : decode cX5_turnAfter 5 = .ok (.getfield 78, 3) := by decide +kernel
theorem dX5_turnAfter_8 : decode cX5_turnAfter 8 = .ok (.invokevirtual 170, 3) := by decide +kernel
theorem dX5_turnAfter_11 : decode cX5_turnAfter 11 = .ok (.ireturn, 1) := by decide +kernel
theorem dX5_keep_0 : decode cX5_keep 0 = .ok (.aload_n 0, 1) := by decide +kernel
theorem dX5_keep_1 : decode cX5_keep 1 = .ok (.getfield 10, 3) := by decide +kernel
theorem dX5_keep_4 : decode cX5_keep 4 = .ok (.iload_n 1, 1) := by decide +kernel
theorem dX5_keep_5 : decode cX5_keep 5 = .ok (.iload_n 2, 1) := by decide +kernel
theorem dX5_keep_6 : decode cX5_keep 6 = .ok (.iload_n 3, 1) := by decide +kernel
theorem dX5_keep_7 : decode cX5_keep 7 = .ok (.iload 4, 2) := by decide +kernel
theorem dX5_keep_9 : decode cX5_keep 9 = .ok (.iload 5, 2) := by decide +kernel
theorem dX5_keep_11 : decode cX5_keep 11 = .ok (.invokevirtual 224, 3) := by decide +kernel
theorem dX5_keep_14 : decode cX5_keep 14 = .ok (.aload_n 0, 1) := by decide +kernel
theorem dX5_keep_15 : decode cX5_keep 15 = .ok (.getfield 19, 3) := by decide +kernel
theorem dX5_keep_18 : decode cX5_keep 18 = .ok (.iload_n 1, 1) := by decide +kernel
theorem dX5_keep_19 : decode cX5_keep 19 = .ok (.iload_n 2, 1) := by decide +kernel
theorem dX5_keep_20 : decode cX5_keep 20 = .ok (.iload_n 3, 1) := by decide +kernel
theorem dX5_keep_21 : decode cX5_keep 21 = .ok (.iload 4, 2) := by decide +kernel
theorem dX5_keep_23 : decode cX5_keep 23 = .ok (.iload 5, 2) := by decide +kernel
theorem dX5_keep_25 : decode cX5_keep 25 = .ok (.invokevirtual 228, 3) := by decide +kernel
theorem dX5_keep_28 : decode cX5_keep 28 = .ok (.ireturn, 1) := by decide +kernel
theorem dX5_worldAfter_0 : decode cX5_worldAfter 0 = .ok (.iload_n 1, 1) := by decide +kernel
theorem dX5_worldAfter_1 : decode cX5_worldAfter 1 = .ok (.ifCond .lt 14, 3) := by decide +kernel
theorem dX5_worldAfter_4 : decode cX5_worldAfter 4 = .ok (.iload_n 1, 1) := by decide +kernel
theorem dX5_worldAfter_5 : decode cX5_worldAfter 5 = .ok (.aload_n 0, 1) := by decide +kernel
theorem dX5_worldAfter_6 : decode cX5_worldAfter 6 = .ok (.getfield 10, 3) := by decide +kernel
theorem dX5_worldAfter_9 : decode cX5_worldAfter 9 = .ok (.getfield 215, 3) := by decide +kernel
theorem dX5_worldAfter_12 : decode cX5_worldAfter 12 = .ok (.if_icmp .le 13, 3) := by decide +kernel
theorem dX5_worldAfter_15 : decode cX5_worldAfter 15 = .ok (.new 185, 3) := by decide +kernel
theorem dX5_worldAfter_18 : decode cX5_worldAfter 18 = .ok (.dup, 1) := by decide +kernel
theorem dX5_worldAfter_19 : decode cX5_worldAfter 19 = .ok (.ldc 231, 2) := by decide +kernel
theorem dX5_worldAfter_21 : decode cX5_worldAfter 21 = .ok (.invokespecial 189, 3) := by decide +kernel
theorem dX5_worldAfter_24 : decode cX5_worldAfter 24 = .ok (.athrow, 1) := by decide +kernel
theorem dX5_worldAfter_25 : decode cX5_worldAfter 25 = .ok (.aload_n 0, 1) := by decide +kernel
theorem dX5_worldAfter_26 : decode cX5_worldAfter 26 = .ok (.getfield 23, 3) := by decide +kernel
theorem dX5_worldAfter_29 : decode cX5_worldAfter 29 = .ok (.invokevirtual 233, 3) := by decide +kernel
theorem dX5_worldAfter_32 : decode cX5_worldAfter 32 = .ok (.iconst 0, 1) := by decide +kernel
theorem dX5_worldAfter_33 : decode cX5_worldAfter 33 = .ok (.istore_n 2, 1) := by decide +kernel
theorem dX5_worldAfter_34 : decode cX5_worldAfter 34 = .ok (.iload_n 2, 1) := by decide +kernel
theorem dX5_worldAfter_35 : decode cX5_worldAfter 35 = .ok (.iload_n 1, 1) := by decide +kernel
theorem dX5_worldAfter_36 : decode cX5_worldAfter 36 = .ok (.if_icmp .ge 74, 3) := by decide +kernel
theorem dX5_worldAfter_39 : decode cX5_worldAfter 39 = .ok (.iload_n 2, 1) := by decide +kernel
theorem dX5_worldAfter_40 : decode cX5_worldAfter 40 = .ok (.iconst 5, 1) := by decide +kernel
theorem dX5_worldAfter_41 : decode cX5_worldAfter 41 = .ok (.imul, 1) := by decide +kernel
theorem dX5_worldAfter_42 : decode cX5_worldAfter 42 = .ok (.istore_n 3, 1) := by decide +kernel
theorem dX5_worldAfter_43 : decode cX5_worldAfter 43 = .ok (.aload_n 0, 1) := by decide +kernel
theorem dX5_worldAfter_44 : decode cX5_worldAfter 44 = .ok (.getfield 23, 3) := by decide +kernel
theorem dX5_worldAfter_47 : decode cX5_worldAfter 47 = .ok (.aload_n 0, 1) := by decide +kernel
theorem dX5_worldAfter_48 : decode cX5_worldAfter 48 = .ok (.getfield 10, 3) := by decide +kernel
theorem dX5_worldAfter_51 : decode cX5_worldAfter 51 = .ok (.getfield 236, 3) := by decide +kernel
theorem dX5_worldAfter_54 : decode cX5_worldAfter 54 = .ok (.iload_n 3, 1) := by decide +kernel
theorem dX5_worldAfter_55 : decode cX5_worldAfter 55 = .ok (.iaload, 1) := by decide +kernel
theorem dX5_worldAfter_56 : decode cX5_worldAfter 56 = .ok (.aload_n 0, 1) := by decide +kernel
theorem dX5_worldAfter_57 : decode cX5_worldAfter 57 = .ok (.getfield 10, 3) := by decide +kernel
theorem dX5_worldAfter_60 : decode cX5_worldAfter 60 = .ok (.getfield 236, 3) := by decide +kernel
theorem dX5_worldAfter_63 : decode cX5_worldAfter 63 = .ok (.iload_n 3, 1) := by decide +kernel
theorem dX5_worldAfter_64 : decode cX5_worldAfter 64 = .ok (.iconst 1, 1) := by decide +kernel
theorem dX5_worldAfter_65 : decode cX5_worldAfter 65 = .ok (.iadd, 1) := by decide +kernel
theorem dX5_worldAfter_66 : decode cX5_worldAfter 66 = .ok (.iaload, 1) := by decide +kernel
theorem dX5_worldAfter_67 : decode cX5_worldAfter 67 = .ok (.aload_n 0, 1) := by decide +kernel
theorem dX5_worldAfter_68 : decode cX5_worldAfter 68 = .ok (.getfield 10, 3) := by decide +kernel
theorem dX5_worldAfter_71 : decode cX5_worldAfter 71 = .ok (.getfield 236, 3) := by decide +kernel
theorem dX5_worldAfter_74 : decode cX5_worldAfter 74 = .ok (.iload_n 3, 1) := by decide +kernel
theorem dX5_worldAfter_75 : decode cX5_worldAfter 75 = .ok (.iconst 2, 1) := by decide +kernel
theorem dX5_worldAfter_76 : decode cX5_worldAfter 76 = .ok (.iadd, 1) := by decide +kernel
theorem dX5_worldAfter_77 : decode cX5_worldAfter 77 = .ok (.iaload, 1) := by decide +kernel
theorem dX5_worldAfter_78 : decode cX5_worldAfter 78 = .ok (.aload_n 0, 1) := by decide +kernel
theorem dX5_worldAfter_79 : decode cX5_worldAfter 79 = .ok (.getfield 10, 3) := by decide +kernel
theorem dX5_worldAfter_82 : decode cX5_worldAfter 82 = .ok (.getfield 236, 3) := by decide +kernel
theorem dX5_worldAfter_85 : decode cX5_worldAfter 85 = .ok (.iload_n 3, 1) := by decide +kernel
theorem dX5_worldAfter_86 : decode cX5_worldAfter 86 = .ok (.iconst 3, 1) := by decide +kernel
theorem dX5_worldAfter_87 : decode cX5_worldAfter 87 = .ok (.iadd, 1) := by decide +kernel
theorem dX5_worldAfter_88 : decode cX5_worldAfter 88 = .ok (.iaload, 1) := by decide +kernel
theorem dX5_worldAfter_89 : decode cX5_worldAfter 89 = .ok (.aload_n 0, 1) := by decide +kernel
theorem dX5_worldAfter_90 : decode cX5_worldAfter 90 = .ok (.getfield 10, 3) := by decide +kernel
theorem dX5_worldAfter_93 : decode cX5_worldAfter 93 = .ok (.getfield 236, 3) := by decide +kernel
theorem dX5_worldAfter_96 : decode cX5_worldAfter 96 = .ok (.iload_n 3, 1) := by decide +kernel
theorem dX5_worldAfter_97 : decode cX5_worldAfter 97 = .ok (.iconst 4, 1) := by decide +kernel
theorem dX5_worldAfter_98 : decode cX5_worldAfter 98 = .ok (.iadd, 1) := by decide +kernel
theorem dX5_worldAfter_99 : decode cX5_worldAfter 99 = .ok (.iaload, 1) := by decide +kernel
theorem dX5_worldAfter_100 : decode cX5_worldAfter 100 = .ok (.invokevirtual 228, 3) := by decide +kernel
theorem dX5_worldAfter_103 : decode cX5_worldAfter 103 = .ok (.pop, 1) := by decide +kernel
theorem dX5_worldAfter_104 : decode cX5_worldAfter 104 = .ok (.iinc 2 1, 3) := by decide +kernel
theorem dX5_worldAfter_107 : decode cX5_worldAfter 107 = .ok (.goto (-73), 3) := by decide +kernel
theorem dX5_worldAfter_110 : decode cX5_worldAfter 110 = .ok (.aload_n 0, 1) := by decide +kernel
theorem dX5_worldAfter_111 : decode cX5_worldAfter 111 = .ok (.getfield 23, 3) := by decide +kernel
theorem dX5_worldAfter_114 : decode cX5_worldAfter 114 = .ok (.areturn, 1) := by decide +kernel
theorem dX5_needRoom_0 : decode cX5_needRoom 0 = .ok (.iload_n 0, 1) := by decide +kernel
theorem dX5_needRoom_1 : decode cX5_needRoom 1 = .ok (.ifCond .lt 9, 3) := by decide +kernel
theorem dX5_needRoom_4 : decode cX5_needRoom 4 = .ok (.iload_n 0, 1) := by decide +kernel
theorem dX5_needRoom_5 : decode cX5_needRoom 5 = .ok (.bipush 8, 2) := by decide +kernel
theorem dX5_needRoom_7 : decode cX5_needRoom 7 = .ok (.if_icmp .lt 13, 3) := by decide +kernel
theorem dX5_needRoom_10 : decode cX5_needRoom 10 = .ok (.new 185, 3) := by decide +kernel
theorem dX5_needRoom_13 : decode cX5_needRoom 13 = .ok (.dup, 1) := by decide +kernel
theorem dX5_needRoom_14 : decode cX5_needRoom 14 = .ok (.ldc 239, 2) := by decide +kernel
theorem dX5_needRoom_16 : decode cX5_needRoom 16 = .ok (.invokespecial 189, 3) := by decide +kernel
theorem dX5_needRoom_19 : decode cX5_needRoom 19 = .ok (.athrow, 1) := by decide +kernel
theorem dX5_needRoom_20 : decode cX5_needRoom 20 = .ok (.return_, 1) := by decide +kernel
theorem dX5_needDirection_0 : decode cX5_needDirection 0 = .ok (.iload_n 0, 1) := by decide +kernel
theorem dX5_needDirection_1 : decode cX5_needDirection 1 = .ok (.ifCond .lt 8, 3) := by decide +kernel
theorem dX5_needDirection_4 : decode cX5_needDirection 4 = .ok (.iload_n 0, 1) := by decide +kernel
theorem dX5_needDirection_5 : decode cX5_needDirection 5 = .ok (.iconst 4, 1) := by decide +kernel
theorem dX5_needDirection_6 : decode cX5_needDirection 6 = .ok (.if_icmp .lt 13, 3) := by decide +kernel
theorem dX5_needDirection_9 : decode cX5_needDirection 9 = .ok (.new 185, 3) := by decide +kernel
theorem dX5_needDirection_12 : decode cX5_needDirection 12 = .ok (.dup, 1) := by decide +kernel
theorem dX5_needDirection_13 : decode cX5_needDirection 13 = .ok (.ldc 241, 2) := by decide +kernel
theorem dX5_needDirection_15 : decode cX5_needDirection 15 = .ok (.invokespecial 189, 3) := by decide +kernel
theorem dX5_needDirection_18 : decode cX5_needDirection 18 = .ok (.athrow, 1) := by decide +kernel
theorem dX5_needDirection_19 : decode cX5_needDirection 19 = .ok (.return_, 1) := by decide +kernel
theorem dX5_needKind_0 : decode cX5_needKind 0 = .ok (.iload_n 0, 1) := by decide +kernel
theorem dX5_needKind_1 : decode cX5_needKind 1 = .ok (.ifCond .lt 8, 3) := by decide +kernel
theorem dX5_needKind_4 : decode cX5_needKind 4 = .ok (.iload_n 0, 1) := by decide +kernel
theorem dX5_needKind_5 : decode cX5_needKind 5 = .ok (.iconst 5, 1) := by decide +kernel
theorem dX5_needKind_6 : decode cX5_needKind 6 = .ok (.if_icmp .lt 13, 3) := by decide +kernel
theorem dX5_needKind_9 : decode cX5_needKind 9 = .ok (.new 185, 3) := by decide +kernel
theorem dX5_needKind_12 : decode cX5_needKind 12 = .ok (.dup, 1) := by decide +kernel
theorem dX5_needKind_13 : decode cX5_needKind 13 = .ok (.ldc 243, 2) := by decide +kernel
theorem dX5_needKind_15 : decode cX5_needKind 15 = .ok (.invokespecial 189, 3) := by decide +kernel
theorem dX5_needKind_18 : decode cX5_needKind 18 = .ok (.athrow, 1) := by decide +kernel
theorem dX5_needKind_19 : decode cX5_needKind 19 = .ok (.return_, 1) := by decide +kernel
theorem dX5_needPlayer_0 : decode cX5_needPlayer 0 = .ok (.aload_n 0, 1) := by decide +kernel
theorem dX5_needPlayer_1 : decode cX5_needPlayer 1 = .ok (.getfield 19, 3) := by decide +kernel
theorem dX5_needPlayer_4 : decode cX5_needPlayer 4 = .ok (.iload_n 1, 1) := by decide +kernel
theorem dX5_needPlayer_5 : decode cX5_needPlayer 5 = .ok (.invokestatic 220, 3) := by decide +kernel
theorem dX5_needPlayer_8 : decode cX5_needPlayer 8 = .ok (.return_, 1) := by decide +kernel
theorem dX5_needPlayerIn_0 : decode cX5_needPlayerIn 0 = .ok (.iload_n 1, 1) := by decide +kernel
theorem dX5_needPlayerIn_1 : decode cX5_needPlayerIn 1 = .ok (.ifCond .lt 14, 3) := by decide +kernel
theorem dX5_needPlayerIn_4 : decode cX5_needPlayerIn 4 = .ok (.iload_n 1, 1) := by decide +kernel
theorem dX5_needPlayerIn_5 : decode cX5_needPlayerIn 5 = .ok (.aload_n 0, 1) := by decide +kernel
theorem dX5_needPlayerIn_6 : decode cX5_needPlayerIn 6 = .ok (.getfield 78, 3) := by decide +kernel
theorem dX5_needPlayerIn_9 : decode cX5_needPlayerIn 9 = .ok (.getfield 82, 3) := by decide +kernel
theorem dX5_needPlayerIn_12 : decode cX5_needPlayerIn 12 = .ok (.if_icmp .lt 13, 3) := by decide +kernel
theorem dX5_needPlayerIn_15 : decode cX5_needPlayerIn 15 = .ok (.new 185, 3) := by decide +kernel
theorem dX5_needPlayerIn_18 : decode cX5_needPlayerIn 18 = .ok (.dup, 1) := by decide +kernel
theorem dX5_needPlayerIn_19 : decode cX5_needPlayerIn 19 = .ok (.ldc 245, 2) := by decide +kernel
theorem dX5_needPlayerIn_21 : decode cX5_needPlayerIn 21 = .ok (.invokespecial 189, 3) := by decide +kernel
theorem dX5_needPlayerIn_24 : decode cX5_needPlayerIn 24 = .ok (.athrow, 1) := by decide +kernel
theorem dX5_needPlayerIn_25 : decode cX5_needPlayerIn 25 = .ok (.return_, 1) := by decide +kernel
theorem dX5_needQuest_0 : decode cX5_needQuest 0 = .ok (.iload_n 1, 1) := by decide +kernel
theorem dX5_needQuest_1 : decode cX5_needQuest 1 = .ok (.ifCond .lt 17, 3) := by decide +kernel
theorem dX5_needQuest_4 : decode cX5_needQuest 4 = .ok (.iload_n 1, 1) := by decide +kernel
theorem dX5_needQuest_5 : decode cX5_needQuest 5 = .ok (.aload_n 0, 1) := by decide +kernel
theorem dX5_needQuest_6 : decode cX5_needQuest 6 = .ok (.getfield 19, 3) := by decide +kernel
theorem dX5_needQuest_9 : decode cX5_needQuest 9 = .ok (.getfield 90, 3) := by decide +kernel
theorem dX5_needQuest_12 : decode cX5_needQuest 12 = .ok (.getfield 94, 3) := by decide +kernel
theorem dX5_needQuest_15 : decode cX5_needQuest 15 = .ok (.if_icmp .lt 13, 3) := by decide +kernel
theorem dX5_needQuest_18 : decode cX5_needQuest 18 = .ok (.new 185, 3) := by decide +kernel
theorem dX5_needQuest_21 : decode cX5_needQuest 21 = .ok (.dup, 1) := by decide +kernel
theorem dX5_needQuest_22 : decode cX5_needQuest 22 = .ok (.ldc 247, 2) := by decide +kernel
theorem dX5_needQuest_24 : decode cX5_needQuest 24 = .ok (.invokespecial 189, 3) := by decide +kernel
theorem dX5_needQuest_27 : decode cX5_needQuest 27 = .ok (.athrow, 1) := by decide +kernel
theorem dX5_needQuest_28 : decode cX5_needQuest 28 = .ok (.return_, 1) := by decide +kernel
theorem dX5_needRange_0 : decode cX5_needRange 0 = .ok (.iload_n 0, 1) := by decide +kernel
theorem dX5_needRange_1 : decode cX5_needRange 1 = .ok (.iload_n 1, 1) := by decide +kernel
theorem dX5_needRange_2 : decode cX5_needRange 2 = .ok (.if_icmp .lt 8, 3) := by decide +kernel
theorem dX5_needRange_5 : decode cX5_needRange 5 = .ok (.iload_n 0, 1) := by decide +kernel
theorem dX5_needRange_6 : decode cX5_needRange 6 = .ok (.iload_n 2, 1) := by decide +kernel
theorem dX5_needRange_7 : decode cX5_needRange 7 = .ok (.if_icmp .le 13, 3) := by decide +kernel
theorem dX5_needRange_10 : decode cX5_needRange 10 = .ok (.new 33, 3) := by decide +kernel
theorem dX5_needRange_13 : decode cX5_needRange 13 = .ok (.dup, 1) := by decide +kernel
theorem dX5_needRange_14 : decode cX5_needRange 14 = .ok (.ldc 249, 2) := by decide +kernel
theorem dX5_needRange_16 : decode cX5_needRange 16 = .ok (.invokespecial 37, 3) := by decide +kernel
theorem dX5_needRange_19 : decode cX5_needRange 19 = .ok (.athrow, 1) := by decide +kernel
theorem dX5_needRange_20 : decode cX5_needRange 20 = .ok (.return_, 1) := by decide +kernel
theorem dX5_needStageTarget_0 : decode cX5_needStageTarget 0 = .ok (.iload_n 0, 1) := by decide +kernel
theorem dX5_needStageTarget_1 : decode cX5_needStageTarget 1 = .ok (.ifCond .eq 8, 3) := by decide +kernel
theorem dX5_needStageTarget_4 : decode cX5_needStageTarget 4 = .ok (.iload_n 0, 1) := by decide +kernel
theorem dX5_needStageTarget_5 : decode cX5_needStageTarget 5 = .ok (.iconst 2, 1) := by decide +kernel
theorem dX5_needStageTarget_6 : decode cX5_needStageTarget 6 = .ok (.if_icmp .ne 10, 3) := by decide +kernel
theorem dX5_needStageTarget_9 : decode cX5_needStageTarget 9 = .ok (.iload_n 1, 1) := by decide +kernel
theorem dX5_needStageTarget_10 : decode cX5_needStageTarget 10 = .ok (.invokestatic 26, 3) := by decide +kernel
theorem dX5_needStageTarget_13 : decode cX5_needStageTarget 13 = .ok (.goto 39, 3) := by decide +kernel
theorem dX5_needStageTarget_16 : decode cX5_needStageTarget 16 = .ok (.iload_n 0, 1) := by decide +kernel
theorem dX5_needStageTarget_17 : decode cX5_needStageTarget 17 = .ok (.iconst 1, 1) := by decide +kernel
theorem dX5_needStageTarget_18 : decode cX5_needStageTarget 18 = .ok (.if_icmp .ne 10, 3) := by decide +kernel
theorem dX5_needStageTarget_21 : decode cX5_needStageTarget 21 = .ok (.iload_n 1, 1) := by decide +kernel
theorem dX5_needStageTarget_22 : decode cX5_needStageTarget 22 = .ok (.invokestatic 73, 3) := by decide +kernel
theorem dX5_needStageTarget_25 : decode cX5_needStageTarget 25 = .ok (.goto 27, 3) := by decide +kernel
theorem dX5_needStageTarget_28 : decode cX5_needStageTarget 28 = .ok (.iload_n 0, 1) := by decide +kernel
theorem dX5_needStageTarget_29 : decode cX5_needStageTarget 29 = .ok (.iconst 3, 1) := by decide +kernel
theorem dX5_needStageTarget_30 : decode cX5_needStageTarget 30 = .ok (.if_icmp .ne 22, 3) := by decide +kernel
theorem dX5_needStageTarget_33 : decode cX5_needStageTarget 33 = .ok (.iload_n 1, 1) := by decide +kernel
theorem dX5_needStageTarget_34 : decode cX5_needStageTarget 34 = .ok (.ifCond .lt 8, 3) := by decide +kernel
theorem dX5_needStageTarget_37 : decode cX5_needStageTarget 37 = .ok (.iload_n 1, 1) := by decide +kernel
theorem dX5_needStageTarget_38 : decode cX5_needStageTarget 38 = .ok (.iconst 4, 1) := by decide +kernel
theorem dX5_needStageTarget_39 : decode cX5_needStageTarget 39 = .ok (.if_icmp .lt 13, 3) := by decide +kernel
theorem dX5_needStageTarget_42 : decode cX5_needStageTarget 42 = .ok (.new 185, 3) := by decide +kernel
theorem dX5_needStageTarget_45 : decode cX5_needStageTarget 45 = .ok (.dup, 1) := by decide +kernel
theorem dX5_needStageTarget_46 : decode cX5_needStageTarget 46 = .ok (.ldc 245, 2) := by decide +kernel
theorem dX5_needStageTarget_48 : decode cX5_needStageTarget 48 = .ok (.invokespecial 189, 3) := by decide +kernel
theorem dX5_needStageTarget_51 : decode cX5_needStageTarget 51 = .ok (.athrow, 1) := by decide +kernel
theorem dX5_needStageTarget_52 : decode cX5_needStageTarget 52 = .ok (.return_, 1) := by decide +kernel
theorem dX5_needStageMeasure_0 : decode cX5_needStageMeasure 0 = .ok (.iload_n 0, 1) := by decide +kernel
theorem dX5_needStageMeasure_1 : decode cX5_needStageMeasure 1 = .ok (.iconst 1, 1) := by decide +kernel
theorem dX5_needStageMeasure_2 : decode cX5_needStageMeasure 2 = .ok (.if_icmp .ne 13, 3) := by decide +kernel
theorem dX5_needStageMeasure_5 : decode cX5_needStageMeasure 5 = .ok (.iload_n 1, 1) := by decide +kernel
theorem dX5_needStageMeasure_6 : decode cX5_needStageMeasure 6 = .ok (.iconst 1, 1) := by decide +kernel
theorem dX5_needStageMeasure_7 : decode cX5_needStageMeasure 7 = .ok (.bipush 9, 2) := by decide +kernel
theorem dX5_needStageMeasure_9 : decode cX5_needStageMeasure 9 = .ok (.invokestatic 63, 3) := by decide +kernel
theorem dX5_needStageMeasure_12 : decode cX5_needStageMeasure 12 = .ok (.goto 15, 3) := by decide +kernel
theorem dX5_needStageMeasure_15 : decode cX5_needStageMeasure 15 = .ok (.iload_n 0, 1) := by decide +kernel
theorem dX5_needStageMeasure_16 : decode cX5_needStageMeasure 16 = .ok (.iconst 2, 1) := by decide +kernel
theorem dX5_needStageMeasure_17 : decode cX5_needStageMeasure 17 = .ok (.if_icmp .ne 10, 3) := by decide +kernel
theorem dX5_needStageMeasure_20 : decode cX5_needStageMeasure 20 = .ok (.iload_n 1, 1) := by decide +kernel
theorem dX5_needStageMeasure_21 : decode cX5_needStageMeasure 21 = .ok (.iconst 0, 1) := by decide +kernel
theorem dX5_needStageMeasure_22 : decode cX5_needStageMeasure 22 = .ok (.bipush 99, 2) := by decide +kernel
theorem dX5_needStageMeasure_24 : decode cX5_needStageMeasure 24 = .ok (.invokestatic 63, 3) := by decide +kernel
theorem dX5_needStageMeasure_27 : decode cX5_needStageMeasure 27 = .ok (.return_, 1) := by decide +kernel
theorem dX5_needActor_0 : decode cX5_needActor 0 = .ok (.aload_n 0, 1) := by decide +kernel
theorem dX5_needActor_1 : decode cX5_needActor 1 = .ok (.getfield 19, 3) := by decide +kernel
theorem dX5_needActor_4 : decode cX5_needActor 4 = .ok (.getfield 78, 3) := by decide +kernel
theorem dX5_needActor_7 : decode cX5_needActor 7 = .ok (.invokevirtual 170, 3) := by decide +kernel
theorem dX5_needActor_10 : decode cX5_needActor 10 = .ok (.istore_n 1, 1) := by decide +kernel
theorem dX5_needActor_11 : decode cX5_needActor 11 = .ok (.iload_n 1, 1) := by decide +kernel
theorem dX5_needActor_12 : decode cX5_needActor 12 = .ok (.iconst (-1), 1) := by decide +kernel
theorem dX5_needActor_13 : decode cX5_needActor 13 = .ok (.if_icmp .ne 13, 3) := by decide +kernel
theorem dX5_needActor_16 : decode cX5_needActor 16 = .ok (.new 54, 3) := by decide +kernel
theorem dX5_needActor_19 : decode cX5_needActor 19 = .ok (.dup, 1) := by decide +kernel
theorem dX5_needActor_20 : decode cX5_needActor 20 = .ok (.ldc 251, 2) := by decide +kernel
theorem dX5_needActor_22 : decode cX5_needActor 22 = .ok (.invokespecial 58, 3) := by decide +kernel
theorem dX5_needActor_25 : decode cX5_needActor 25 = .ok (.athrow, 1) := by decide +kernel
theorem dX5_needActor_26 : decode cX5_needActor 26 = .ok (.iload_n 1, 1) := by decide +kernel
theorem dX5_needActor_27 : decode cX5_needActor 27 = .ok (.ireturn, 1) := by decide +kernel
theorem dX5_needCompany_0 : decode cX5_needCompany 0 = .ok (.iload_n 2, 1) := by decide +kernel
theorem dX5_needCompany_1 : decode cX5_needCompany 1 = .ok (.iload_n 1, 1) := by decide +kernel
theorem dX5_needCompany_2 : decode cX5_needCompany 2 = .ok (.if_icmp .eq 30, 3) := by decide +kernel
theorem dX5_needCompany_5 : decode cX5_needCompany 5 = .ok (.aload_n 0, 1) := by decide +kernel
theorem dX5_needCompany_6 : decode cX5_needCompany 6 = .ok (.getfield 19, 3) := by decide +kernel
theorem dX5_needCompany_9 : decode cX5_needCompany 9 = .ok (.getfield 78, 3) := by decide +kernel
theorem dX5_needCompany_12 : decode cX5_needCompany 12 = .ok (.getfield 121, 3) := by decide +kernel
theorem dX5_needCompany_15 : decode cX5_needCompany 15 = .ok (.iload_n 2, 1) := by decide +kernel
theorem dX5_needCompany_16 : decode cX5_needCompany 16 = .ok (.iaload, 1) := by decide +kernel
theorem dX5_needCompany_17 : decode cX5_needCompany 17 = .ok (.aload_n 0, 1) := by decide +kernel
theorem dX5_needCompany_18 : decode cX5_needCompany 18 = .ok (.getfield 19, 3) := by decide +kernel
theorem dX5_needCompany_21 : decode cX5_needCompany 21 = .ok (.getfield 78, 3) := by decide +kernel
theorem dX5_needCompany_24 : decode cX5_needCompany 24 = .ok (.getfield 121, 3) := by decide +kernel
theorem dX5_needCompany_27 : decode cX5_needCompany 27 = .ok (.iload_n 1, 1) := by decide +kernel
theorem dX5_needCompany_28 : decode cX5_needCompany 28 = .ok (.iaload, 1) := by decide +kernel
theorem dX5_needCompany_29 : decode cX5_needCompany 29 = .ok (.if_icmp .eq 13, 3) := by decide +kernel
theorem dX5_needCompany_32 : decode cX5_needCompany 32 = .ok (.new 54, 3) := by decide +kernel
theorem dX5_needCompany_35 : decode cX5_needCompany 35 = .ok (.dup, 1) := by decide +kernel
theorem dX5_needCompany_36 : decode cX5_needCompany 36 = .ok (.ldc 253, 2) := by decide +kernel
theorem dX5_needCompany_38 : decode cX5_needCompany 38 = .ok (.invokespecial 58, 3) := by decide +kernel
theorem dX5_needCompany_41 : decode cX5_needCompany 41 = .ok (.athrow, 1) := by decide +kernel
theorem dX5_needCompany_42 : decode cX5_needCompany 42 = .ok (.return_, 1) := by decide +kernel
theorem dX5_needOwned_0 : decode cX5_needOwned 0 = .ok (.aload_n 0, 1) := by decide +kernel
theorem dX5_needOwned_1 : decode cX5_needOwned 1 = .ok (.getfield 19, 3) := by decide +kernel
theorem dX5_needOwned_4 : decode cX5_needOwned 4 = .ok (.getfield 78, 3) := by decide +kernel
theorem dX5_needOwned_7 : decode cX5_needOwned 7 = .ok (.getfield 179, 3) := by decide +kernel
theorem dX5_needOwned_10 : decode cX5_needOwned 10 = .ok (.iload_n 1, 1) := by decide +kernel
theorem dX5_needOwned_11 : decode cX5_needOwned 11 = .ok (.iload_n 2, 1) := by decide +kernel
theorem dX5_needOwned_12 : decode cX5_needOwned 12 = .ok (.invokestatic 133, 3) := by decide +kernel
theorem dX5_needOwned_15 : decode cX5_needOwned 15 = .ok (.iaload, 1) := by decide +kernel
theorem dX5_needOwned_16 : decode cX5_needOwned 16 = .ok (.ifCond .gt 13, 3) := by decide +kernel
theorem dX5_needOwned_19 : decode cX5_needOwned 19 = .ok (.new 54, 3) := by decide +kernel
theorem dX5_needOwned_22 : decode cX5_needOwned 22 = .ok (.dup, 1) := by decide +kernel
theorem dX5_needOwned_23 : decode cX5_needOwned 23 = .ok (.ldc 255, 2) := by decide +kernel
theorem dX5_needOwned_25 : decode cX5_needOwned 25 = .ok (.invokespecial 58, 3) := by decide +kernel
theorem dX5_needOwned_28 : decode cX5_needOwned 28 = .ok (.athrow, 1) := by decide +kernel
theorem dX5_needOwned_29 : decode cX5_needOwned 29 = .ok (.return_, 1) := by decide +kernel
theorem dX5_needTrade_0 : decode cX5_needTrade 0 = .ok (.aload_n 0, 1) := by decide +kernel
theorem dX5_needTrade_1 : decode cX5_needTrade 1 = .ok (.getfield 19, 3) := by decide +kernel
theorem dX5_needTrade_4 : decode cX5_needTrade 4 = .ok (.getfield 40, 3) := by decide +kernel
theorem dX5_needTrade_7 : decode cX5_needTrade 7 = .ok (.iload_n 1, 1) := by decide +kernel
theorem dX5_needTrade_8 : decode cX5_needTrade 8 = .ok (.invokevirtual 67, 3) := by decide +kernel
theorem dX5_needTrade_11 : decode cX5_needTrade 11 = .ok (.ifCond .eq 22, 3) := by decide +kernel
theorem dX5_needTrade_14 : decode cX5_needTrade 14 = .ok (.aload_n 0, 1) := by decide +kernel
theorem dX5_needTrade_15 : decode cX5_needTrade 15 = .ok (.getfield 19, 3) := by decide +kernel
theorem dX5_needTrade_18 : decode cX5_needTrade 18 = .ok (.getfield 40, 3) := by decide +kernel
theorem dX5_needTrade_21 : decode cX5_needTrade 21 = .ok (.getfield 161, 3) := by decide +kernel
theorem dX5_needTrade_24 : decode cX5_needTrade 24 = .ok (.iload_n 1, 1) := by decide +kernel
theorem dX5_needTrade_25 : decode cX5_needTrade 25 = .ok (.iload_n 2, 1) := by decide +kernel
theorem dX5_needTrade_26 : decode cX5_needTrade 26 = .ok (.invokestatic 133, 3) := by decide +kernel
theorem dX5_needTrade_29 : decode cX5_needTrade 29 = .ok (.iaload, 1) := by decide +kernel
theorem dX5_needTrade_30 : decode cX5_needTrade 30 = .ok (.ifCond .ne 14, 3) := by decide +kernel
theorem dX5_needTrade_33 : decode cX5_needTrade 33 = .ok (.new 54, 3) := by decide +kernel
theorem dX5_needTrade_36 : decode cX5_needTrade 36 = .ok (.dup, 1) := by decide +kernel
theorem dX5_needTrade_37 : decode cX5_needTrade 37 = .ok (.ldc_w 257, 3) := by decide +kernel
theorem dX5_needTrade_40 : decode cX5_needTrade 40 = .ok (.invokespecial 58, 3) := by decide +kernel
theorem dX5_needTrade_43 : decode cX5_needTrade 43 = .ok (.athrow, 1) := by decide +kernel
theorem dX5_needTrade_44 : decode cX5_needTrade 44 = .ok (.return_, 1) := by decide +kernel
theorem dX5_needCoins_0 : decode cX5_needCoins 0 = .ok (.iload_n 0, 1) := by decide +kernel
theorem dX5_needCoins_1 : decode cX5_needCoins 1 = .ok (.iload_n 1, 1) := by decide +kernel
theorem dX5_needCoins_2 : decode cX5_needCoins 2 = .ok (.if_icmp .ge 14, 3) := by decide +kernel
theorem dX5_needCoins_5 : decode cX5_needCoins 5 = .ok (.new 54, 3) := by decide +kernel
theorem dX5_needCoins_8 : decode cX5_needCoins 8 = .ok (.dup, 1) := by decide +kernel
theorem dX5_needCoins_9 : decode cX5_needCoins 9 = .ok (.ldc_w 259, 3) := by decide +kernel
theorem dX5_needCoins_12 : decode cX5_needCoins 12 = .ok (.invokespecial 58, 3) := by decide +kernel
theorem dX5_needCoins_15 : decode cX5_needCoins 15 = .ok (.athrow, 1) := by decide +kernel
theorem dX5_needCoins_16 : decode cX5_needCoins 16 = .ok (.return_, 1) := by decide +kernel
theorem dX5_opposite_0 : decode cX5_opposite 0 = .ok (.iload_n 0, 1) := by decide +kernel
theorem dX5_opposite_1 : decode cX5_opposite 1 = .ok (.iconst 2, 1) := by decide +kernel
theorem dX5_opposite_2 : decode cX5_opposite 2 = .ok (.iadd, 1) := by decide +kernel
theorem dX5_opposite_3 : decode cX5_opposite 3 = .ok (.iconst 4, 1) := by decide +kernel
theorem dX5_opposite_4 : decode cX5_opposite 4 = .ok (.irem, 1) := by decide +kernel
theorem dX5_opposite_5 : decode cX5_opposite 5 = .ok (.ireturn, 1) := by decide +kernel
theorem dX5_goodsAt_0 : decode cX5_goodsAt 0 = .ok (.iload_n 0, 1) := by decide +kernel
theorem dX5_goodsAt_1 : decode cX5_goodsAt 1 = .ok (.iconst 5, 1) := by decide +kernel
theorem dX5_goodsAt_2 : decode cX5_goodsAt 2 = .ok (.imul, 1) := by decide +kernel
theorem dX5_goodsAt_3 : decode cX5_goodsAt 3 = .ok (.iload_n 1, 1) := by decide +kernel
theorem dX5_goodsAt_4 : decode cX5_goodsAt 4 = .ok (.iadd, 1) := by decide +kernel
theorem dX5_goodsAt_5 : decode cX5_goodsAt 5 = .ok (.ireturn, 1) := by decide +kernel
theorem dX5_reachedAt_0 : decode cX5_reachedAt 0 = .ok (.iload_n 0, 1) := by decide +kernel
theorem dX5_reachedAt_1 : decode cX5_reachedAt 1 = .ok (.iconst 3, 1) := by decide +kernel
theorem dX5_reachedAt_2 : decode cX5_reachedAt 2 = .ok (.imul, 1) := by decide +kernel
theorem dX5_reachedAt_3 : decode cX5_reachedAt 3 = .ok (.iload_n 1, 1) := by decide +kernel
theorem dX5_reachedAt_4 : decode cX5_reachedAt 4 = .ok (.iadd, 1) := by decide +kernel
theorem dX5_reachedAt_5 : decode cX5_reachedAt 5 = .ok (.ireturn, 1) := by decide +kernel
theorem dX5_stageAt_0 : decode cX5_stageAt 0 = .ok (.iload_n 0, 1) := by decide +kernel
theorem dX5_stageAt_1 : decode cX5_stageAt 1 = .ok (.iconst 4, 1) := by decide +kernel
theorem dX5_stageAt_2 : decode cX5_stageAt 2 = .ok (.imul, 1) := by decide +kernel
theorem dX5_stageAt_3 : decode cX5_stageAt 3 = .ok (.iload_n 1, 1) := by decide +kernel
theorem dX5_stageAt_4 : decode cX5_stageAt 4 = .ok (.iadd, 1) := by decide +kernel
theorem dX5_stageAt_5 : decode cX5_stageAt 5 = .ok (.ireturn, 1) := by decide +kernel
theorem dX6_init_0 : decode cX6_init 0 = .ok (.aload_n 0, 1) := by decide +kernel
theorem dX6_init_1 : decode cX6_init 1 = .ok (.invokespecial 1, 3) := by decide +kernel
theorem dX6_init_4 : decode cX6_init 4 = .ok (.aload_n 0, 1) := by decide +kernel
theorem dX6_init_5 : decode cX6_init 5 = .ok (.bipush 32, 2) := by decide +kernel
theorem dX6_init_7 : decode cX6_init 7 = .ok (.newarray .int, 2) := by decide +kernel
theorem dX6_init_9 : decode cX6_init 9 = .ok (.putfield 7, 3) := by decide +kernel
theorem dX6_init_12 : decode cX6_init 12 = .ok (.aload_n 0, 1) := by decide +kernel
theorem dX6_init_13 : decode cX6_init 13 = .ok (.bipush 40, 2) := by decide +kernel
theorem dX6_init_15 : decode cX6_init 15 = .ok (.newarray .int, 2) := by decide +kernel
theorem dX6_init_17 : decode cX6_init 17 = .ok (.putfield 13, 3) := by decide +kernel
theorem dX6_init_20 : decode cX6_init 20 = .ok (.aload_n 0, 1) := by decide +kernel
theorem dX6_init_21 : decode cX6_init 21 = .ok (.bipush 8, 2) := by decide +kernel
theorem dX6_init_23 : decode cX6_init 23 = .ok (.newarray .int, 2) := by decide +kernel
theorem dX6_init_25 : decode cX6_init 25 = .ok (.putfield 16, 3) := by decide +kernel
theorem dX6_init_28 : decode cX6_init 28 = .ok (.aload_n 0, 1) := by decide +kernel
theorem dX6_init_29 : decode cX6_init 29 = .ok (.bipush 40, 2) := by decide +kernel
theorem dX6_init_31 : decode cX6_init 31 = .ok (.newarray .int, 2) := by decide +kernel
theorem dX6_init_33 : decode cX6_init 33 = .ok (.putfield 19, 3) := by decide +kernel
theorem dX6_init_36 : decode cX6_init 36 = .ok (.aload_n 0, 1) := by decide +kernel
theorem dX6_init_37 : decode cX6_init 37 = .ok (.bipush 40, 2) := by decide +kernel
theorem dX6_init_39 : decode cX6_init 39 = .ok (.newarray .int, 2) := by decide +kernel
theorem dX6_init_41 : decode cX6_init 41 = .ok (.putfield 22, 3) := by decide +kernel
theorem dX6_init_44 : decode cX6_init 44 = .ok (.aload_n 0, 1) := by decide +kernel
theorem dX6_init_45 : decode cX6_init 45 = .ok (.iconst 4, 1) := by decide +kernel
theorem dX6_init_46 : decode cX6_init 46 = .ok (.newarray .int, 2) := by decide +kernel
theorem dX6_init_48 : decode cX6_init 48 = .ok (.putfield 25, 3) := by decide +kernel
theorem dX6_init_51 : decode cX6_init 51 = .ok (.aload_n 0, 1) := by decide +kernel
theorem dX6_init_52 : decode cX6_init 52 = .ok (.iconst 4, 1) := by decide +kernel
theorem dX6_init_53 : decode cX6_init 53 = .ok (.newarray .int, 2) := by decide +kernel
theorem dX6_init_55 : decode cX6_init 55 = .ok (.putfield 28, 3) := by decide +kernel
theorem dX6_init_58 : decode cX6_init 58 = .ok (.aload_n 0, 1) := by decide +kernel
theorem dX6_init_59 : decode cX6_init 59 = .ok (.iconst 4, 1) := by decide +kernel
theorem dX6_init_60 : decode cX6_init 60 = .ok (.newarray .int, 2) := by decide +kernel
theorem dX6_init_62 : decode cX6_init 62 = .ok (.putfield 31, 3) := by decide +kernel
theorem dX6_init_65 : decode cX6_init 65 = .ok (.aload_n 0, 1) := by decide +kernel
theorem dX6_init_66 : decode cX6_init 66 = .ok (.iconst 4, 1) := by decide +kernel
theorem dX6_init_67 : decode cX6_init 67 = .ok (.newarray .int, 2) := by decide +kernel
theorem dX6_init_69 : decode cX6_init 69 = .ok (.putfield 34, 3) := by decide +kernel
theorem dX6_init_72 : decode cX6_init 72 = .ok (.aload_n 0, 1) := by decide +kernel
theorem dX6_init_73 : decode cX6_init 73 = .ok (.iconst 4, 1) := by decide +kernel
theorem dX6_init_74 : decode cX6_init 74 = .ok (.newarray .int, 2) := by decide +kernel
theorem dX6_init_76 : decode cX6_init 76 = .ok (.putfield 37, 3) := by decide +kernel
theorem dX6_init_79 : decode cX6_init 79 = .ok (.aload_n 0, 1) := by decide +kernel
theorem dX6_init_80 : decode cX6_init 80 = .ok (.bipush 20, 2) := by decide +kernel
theorem dX6_init_82 : decode cX6_init 82 = .ok (.newarray .int, 2) := by decide +kernel
theorem dX6_init_84 : decode cX6_init 84 = .ok (.putfield 40, 3) := by decide +kernel
theorem dX6_init_87 : decode cX6_init 87 = .ok (.aload_n 0, 1) := by decide +kernel
theorem dX6_init_88 : decode cX6_init 88 = .ok (.iconst 4, 1) := by decide +kernel
theorem dX6_init_89 : decode cX6_init 89 = .ok (.newarray .int, 2) := by decide +kernel
theorem dX6_init_91 : decode cX6_init 91 = .ok (.putfield 43, 3) := by decide +kernel
theorem dX6_init_94 : decode cX6_init 94 = .ok (.aload_n 0, 1) := by decide +kernel
theorem dX6_init_95 : decode cX6_init 95 = .ok (.bipush 24, 2) := by decide +kernel
theorem dX6_init_97 : decode cX6_init 97 = .ok (.newarray .int, 2) := by decide +kernel
theorem dX6_init_99 : decode cX6_init 99 = .ok (.putfield 46, 3) := by decide +kernel
theorem dX6_init_102 : decode cX6_init 102 = .ok (.aload_n 0, 1) := by decide +kernel
theorem dX6_init_103 : decode cX6_init 103 = .ok (.iconst 3, 1) := by decide +kernel
theorem dX6_init_104 : decode cX6_init 104 = .ok (.newarray .int, 2) := by decide +kernel
theorem dX6_init_106 : decode cX6_init 106 = .ok (.putfield 49, 3) := by decide +kernel
theorem dX6_init_109 : decode cX6_init 109 = .ok (.aload_n 0, 1) := by decide +kernel
theorem dX6_init_110 : decode cX6_init 110 = .ok (.iconst 3, 1) := by decide +kernel
theorem dX6_init_111 : decode cX6_init 111 = .ok (.newarray .int, 2) := by decide +kernel
theorem dX6_init_113 : decode cX6_init 113 = .ok (.putfield 52, 3) := by decide +kernel
theorem dX6_init_116 : decode cX6_init 116 = .ok (.aload_n 0, 1) := by decide +kernel
theorem dX6_init_117 : decode cX6_init 117 = .ok (.bipush 12, 2) := by decide +kernel
theorem dX6_init_119 : decode cX6_init 119 = .ok (.newarray .int, 2) := by decide +kernel
theorem dX6_init_121 : decode cX6_init 121 = .ok (.putfield 55, 3) := by decide +kernel
theorem dX6_init_124 : decode cX6_init 124 = .ok (.aload_n 0, 1) := by decide +kernel
theorem dX6_init_125 : decode cX6_init 125 = .ok (.bipush 12, 2) := by decide +kernel
theorem dX6_init_127 : decode cX6_init 127 = .ok (.newarray .int, 2) := by decide +kernel
theorem dX6_init_129 : decode cX6_init 129 = .ok (.putfield 58, 3) := by decide +kernel
theorem dX6_init_132 : decode cX6_init 132 = .ok (.aload_n 0, 1) := by decide +kernel
theorem dX6_init_133 : decode cX6_init 133 = .ok (.bipush 12, 2) := by decide +kernel
theorem dX6_init_135 : decode cX6_init 135 = .ok (.newarray .int, 2) := by decide +kernel
theorem dX6_init_137 : decode cX6_init 137 = .ok (.putfield 61, 3) := by decide +kernel
theorem dX6_init_140 : decode cX6_init 140 = .ok (.aload_n 0, 1) := by decide +kernel
theorem dX6_init_141 : decode cX6_init 141 = .ok (.bipush 12, 2) := by decide +kernel
theorem dX6_init_143 : decode cX6_init 143 = .ok (.newarray .int, 2) := by decide +kernel
theorem dX6_init_145 : decode cX6_init 145 = .ok (.putfield 64, 3) := by decide +kernel
theorem dX6_init_148 : decode cX6_init 148 = .ok (.aload_n 0, 1) := by decide +kernel
theorem dX6_init_149 : decode cX6_init 149 = .ok (.sipush 1100, 3) := by decide +kernel
theorem dX6_init_152 : decode cX6_init 152 = .ok (.newarray .int, 2) := by decide +kernel
theorem dX6_init_154 : decode cX6_init 154 = .ok (.putfield 67, 3) := by decide +kernel
theorem dX6_init_157 : decode cX6_init 157 = .ok (.aload_n 0, 1) := by decide +kernel
theorem dX6_init_158 : decode cX6_init 158 = .ok (.sipush 1100, 3) := by decide +kernel
theorem dX6_init_161 : decode cX6_init 161 = .ok (.newarray .int, 2) := by decide +kernel
theorem dX6_init_163 : decode cX6_init 163 = .ok (.putfield 70, 3) := by decide +kernel
theorem dX6_init_166 : decode cX6_init 166 = .ok (.aload_n 0, 1) := by decide +kernel
theorem dX6_init_167 : decode cX6_init 167 = .ok (.sipush 4400, 3) := by decide +kernel
theorem dX6_init_170 : decode cX6_init 170 = .ok (.newarray .int, 2) := by decide +kernel
theorem dX6_init_172 : decode cX6_init 172 = .ok (.putfield 73, 3) := by decide +kernel
theorem dX6_init_175 : decode cX6_init 175 = .ok (.aload_n 0, 1) := by decide +kernel
theorem dX6_init_176 : decode cX6_init 176 = .ok (.sipush 4400, 3) := by decide +kernel
theorem dX6_init_179 : decode cX6_init 179 = .ok (.newarray .int, 2) := by decide +kernel
theorem dX6_init_181 : decode cX6_init 181 = .ok (.putfield 76, 3) := by decide +kernel
theorem dX6_init_184 : decode cX6_init 184 = .ok (.aload_n 0, 1) := by decide +kernel
theorem dX6_init_185 : decode cX6_init 185 = .ok (.bipush 8, 2) := by decide +kernel
theorem dX6_init_187 : decode cX6_init 187 = .ok (.newarray .int, 2) := by decide +kernel
theorem dX6_init_189 : decode cX6_init 189 = .ok (.putfield 79, 3) := by decide +kernel
theorem dX6_init_192 : decode cX6_init 192 = .ok (.iconst 0, 1) := by decide +kernel
theorem dX6_init_193 : decode cX6_init 193 = .ok (.istore_n 1, 1) := by decide +kernel
theorem dX6_init_194 : decode cX6_init 194 = .ok (.iload_n 1, 1) := by decide +kernel
theorem dX6_init_195 : decode cX6_init 195 = .ok (.bipush 32, 2) := by decide +kernel
theorem dX6_init_197 : decode cX6_init 197 = .ok (.if_icmp .ge 16, 3) := by decide +kernel
theorem dX6_init_200 : decode cX6_init 200 = .ok (.aload_n 0, 1) := by decide +kernel
theorem dX6_init_201 : decode cX6_init 201 = .ok (.getfield 7, 3) := by decide +kernel
theorem dX6_init_204 : decode cX6_init 204 = .ok (.iload_n 1, 1) := by decide +kernel
theorem dX6_init_205 : decode cX6_init 205 = .ok (.iconst (-1), 1) := by decide +kernel
theorem dX6_init_206 : decode cX6_init 206 = .ok (.iastore, 1) := by decide +kernel
theorem dX6_init_207 : decode cX6_init 207 = .ok (.iinc 1 1, 3) := by decide +kernel
theorem dX6_init_210 : decode cX6_init 210 = .ok (.goto (-16), 3) := by decide +kernel
theorem dX6_init_213 : decode cX6_init 213 = .ok (.iconst 0, 1) := by decide +kernel
theorem dX6_init_214 : decode cX6_init 214 = .ok (.istore_n 1, 1) := by decide +kernel
theorem dX6_init_215 : decode cX6_init 215 = .ok (.iload_n 1, 1) := by decide +kernel
theorem dX6_init_216 : decode cX6_init 216 = .ok (.bipush 8, 2) := by decide +kernel
theorem dX6_init_218 : decode cX6_init 218 = .ok (.if_icmp .ge 16, 3) := by decide +kernel
theorem dX6_init_221 : decode cX6_init 221 = .ok (.aload_n 0, 1) := by decide +kernel
theorem dX6_init_222 : decode cX6_init 222 = .ok (.getfield 16, 3) := by decide +kernel
theorem dX6_init_225 : decode cX6_init 225 = .ok (.iload_n 1, 1) := by decide +kernel
theorem dX6_init_226 : decode cX6_init 226 = .ok (.iconst (-1), 1) := by decide +kernel
theorem dX6_init_227 : decode cX6_init 227 = .ok (.iastore, 1) := by decide +kernel
theorem dX6_init_228 : decode cX6_init 228 = .ok (.iinc 1 1, 3) := by decide +kernel
theorem dX6_init_231 : decode cX6_init 231 = .ok (.goto (-16), 3) := by decide +kernel
theorem dX6_init_234 : decode cX6_init 234 = .ok (.aload_n 0, 1) := by decide +kernel
theorem dX6_init_235 : decode cX6_init 235 = .ok (.iconst 1, 1) := by decide +kernel
theorem dX6_init_236 : decode cX6_init 236 = .ok (.putfield 82, 3) := by decide +kernel
theorem dX6_init_239 : decode cX6_init 239 = .ok (.aload_n 0, 1) := by decide +kernel
theorem dX6_init_240 : decode cX6_init 240 = .ok (.getfield 70, 3) := by decide +kernel
theorem dX6_init_243 : decode cX6_init 243 = .ok (.iconst 0, 1) := by decide +kernel
theorem dX6_init_244 : decode cX6_init 244 = .ok (.iconst (-1), 1) := by decide +kernel
theorem dX6_init_245 : decode cX6_init 245 = .ok (.iastore, 1) := by decide +kernel
theorem dX6_init_246 : decode cX6_init 246 = .ok (.return_, 1) := by decide +kernel
theorem dX6_thrown_0 : decode cX6_thrown 0 = .ok (.aload_n 0, 1) := by decide +kernel
theorem dX6_thrown_1 : decode cX6_thrown 1 = .ok (.getfield 86, 3) := by decide +kernel
theorem dX6_thrown_4 : decode cX6_thrown 4 = .ok (.ireturn, 1) := by decide +kernel
theorem dX6_can_0 : decode cX6_can 0 = .ok (.aload_n 0, 1) := by decide +kernel
theorem dX6_can_1 : decode cX6_can 1 = .ok (.iload_n 1, 1) := by decide +kernel
theorem dX6_can_2 : decode cX6_can 2 = .ok (.putfield 86, 3) := by decide +kernel
theorem dX6_can_5 : decode cX6_can 5 = .ok (.iload_n 1, 1) := by decide +kernel
theorem dX6_can_6 : decode cX6_can 6 = .ok (.ifCond .ne 7, 3) := by decide +kernel
theorem dX6_can_9 : decode cX6_can 9 = .ok (.iconst 1, 1) := by decide +kernel
theorem dX6_can_10 : decode cX6_can 10 = .ok (.goto 4, 3) := by decide +kernel
theorem dX6_can_13 : decode cX6_can 13 = .ok (.iconst 0, 1) := by decide +kernel
theorem dX6_can_14 : decode cX6_can 14 = .ok (.ireturn, 1) := by decide +kernel
theorem dX6_isIn_0 : decode cX6_isIn 0 = .ok (.iload_n 0, 1) := by decide +kernel
theorem dX6_isIn_1 : decode cX6_isIn 1 = .ok (.iload_n 1, 1) := by decide +kernel
theorem dX6_isIn_2 : decode cX6_isIn 2 = .ok (.if_icmp .lt 12, 3) := by decide +kernel
theorem dX6_isIn_5 : decode cX6_isIn 5 = .ok (.iload_n 0, 1) := by decide +kernel
theorem dX6_isIn_6 : decode cX6_isIn 6 = .ok (.iload_n 2, 1) := by decide +kernel
theorem dX6_isIn_7 : decode cX6_isIn 7 = .ok (.if_icmp .gt 7, 3) := by decide +kernel
theorem dX6_isIn_10 : decode cX6_isIn 10 = .ok (.iconst 1, 1) := by decide +kernel
theorem dX6_isIn_11 : decode cX6_isIn 11 = .ok (.goto 4, 3) := by decide +kernel
theorem dX6_isIn_14 : decode cX6_isIn 14 = .ok (.iconst 0, 1) := by decide +kernel
theorem dX6_isIn_15 : decode cX6_isIn 15 = .ok (.ireturn, 1) := by decide +kernel
theorem dX6_isRoom_0 : decode cX6_isRoom 0 = .ok (.iload_n 0, 1) := by decide +kernel
theorem dX6_isRoom_1 : decode cX6_isRoom 1 = .ok (.iconst 0, 1) := by decide +kernel
theorem dX6_isRoom_2 : decode cX6_isRoom 2 = .ok (.bipush 7, 2) := by decide +kernel
theorem dX6_isRoom_4 : decode cX6_isRoom 4 = .ok (.invokestatic 89, 3) := by decide +kernel
theorem dX6_isRoom_7 : decode cX6_isRoom 7 = .ok (.ireturn, 1) := by decide +kernel
theorem dX6_isKind_0 : decode cX6_isKind 0 = .ok (.iload_n 0, 1) := by decide +kernel
theorem dX6_isKind_1 : decode cX6_isKind 1 = .ok (.iconst 0, 1) := by decide +kernel
theorem dX6_isKind_2 : decode cX6_isKind 2 = .ok (.iconst 4, 1) := by decide +kernel
theorem dX6_isKind_3 : decode cX6_isKind 3 = .ok (.invokestatic 89, 3) := by decide +kernel
theorem dX6_isKind_6 : decode cX6_isKind 6 = .ok (.ireturn, 1) := by decide +kernel
theorem dX6_isPlayer_0 : decode cX6_isPlayer 0 = .ok (.iload_n 1, 1) := by decide +kernel
theorem dX6_isPlayer_1 : decode cX6_isPlayer 1 = .ok (.iconst 0, 1) := by decide +kernel
theorem dX6_isPlayer_2 : decode cX6_isPlayer 2 = .ok (.aload_n 0, 1) := by decide +kernel
theorem dX6_isPlayer_3 : decode cX6_isPlayer 3 = .ok (.getfield 93, 3) := by decide +kernel
theorem dX6_isPlayer_6 : decode cX6_isPlayer 6 = .ok (.iconst 1, 1) := by decide +kernel
theorem dX6_isPlayer_7 : decode cX6_isPlayer 7 = .ok (.isub, 1) := by decide +kernel
theorem dX6_isPlayer_8 : decode cX6_isPlayer 8 = .ok (.invokestatic 89, 3) := by decide +kernel
theorem dX6_isPlayer_11 : decode cX6_isPlayer 11 = .ok (.ireturn, 1) := by decide +kernel
theorem dX6_isQuest_0 : decode cX6_isQuest 0 = .ok (.iload_n 1, 1) := by decide +kernel
theorem dX6_isQuest_1 : decode cX6_isQuest 1 = .ok (.iconst 0, 1) := by decide +kernel
theorem dX6_isQuest_2 : decode cX6_isQuest 2 = .ok (.aload_n 0, 1) := by decide +kernel
theorem dX6_isQuest_3 : decode cX6_isQuest 3 = .ok (.getfield 96, 3) := by decide +kernel
theorem dX6_isQuest_6 : decode cX6_isQuest 6 = .ok (.iconst 1, 1) := by decide +kernel
theorem dX6_isQuest_7 : decode cX6_isQuest 7 = .ok (.isub, 1) := by decide +kernel
theorem dX6_isQuest_8 : decode cX6_isQuest 8 = .ok (.invokestatic 89, 3) := by decide +kernel
theorem dX6_isQuest_11 : decode cX6_isQuest 11 = .ok (.ireturn, 1) := by decide +kernel
theorem dX6_actor_0 : decode cX6_actor 0 = .ok (.iconst (-1), 1) := by decide +kernel
theorem dX6_actor_1 : decode cX6_actor 1 = .ok (.istore_n 1, 1) := by decide +kernel
theorem dX6_actor_2 : decode cX6_actor 2 = .ok (.aload_n 0, 1) := by decide +kernel
theorem dX6_actor_3 : decode cX6_actor 3 = .ok (.getfield 93, 3) := by decide +kernel
theorem dX6_actor_6 : decode cX6_actor 6 = .ok (.iconst 1, 1) := by decide +kernel
theorem dX6_actor_7 : decode cX6_actor 7 = .ok (.isub, 1) := by decide +kernel
theorem dX6_actor_8 : decode cX6_actor 8 = .ok (.istore_n 2, 1) := by decide +kernel
theorem dX6_actor_9 : decode cX6_actor 9 = .ok (.iload_n 2, 1) := by decide +kernel
theorem dX6_actor_10 : decode cX6_actor 10 = .ok (.ifCond .lt 35, 3) := by decide +kernel
theorem dX6_actor_13 : decode cX6_actor 13 = .ok (.iload_n 1, 1) := by decide +kernel
theorem dX6_actor_14 : decode cX6_actor 14 = .ok (.iconst (-1), 1) := by decide +kernel
theorem dX6_actor_15 : decode cX6_actor 15 = .ok (.if_icmp .eq 18, 3) := by decide +kernel
theorem dX6_actor_18 : decode cX6_actor 18 = .ok (.aload_n 0, 1) := by decide +kernel
theorem dX6_actor_19 : decode cX6_actor 19 = .ok (.getfield 37, 3) := by decide +kernel
theorem dX6_actor_22 : decode cX6_actor 22 = .ok (.iload_n 2, 1) := by decide +kernel
theorem dX6_actor_23 : decode cX6_actor 23 = .ok (.iaload, 1) := by decide +kernel
theorem dX6_actor_24 : decode cX6_actor 24 = .ok (.aload_n 0, 1) := by decide +kernel
theorem dX6_actor_25 : decode cX6_actor 25 = .ok (.getfield 37, 3) := by decide +kernel
theorem dX6_actor_28 : decode cX6_actor 28 = .ok (.iload_n 1, 1) := by decide +kernel
theorem dX6_actor_29 : decode cX6_actor 29 = .ok (.iaload, 1) := by decide +kernel
theorem dX6_actor_30 : decode cX6_actor 30 = .ok (.if_icmp .gt 7, 3) := by decide +kernel
theorem dX6_actor_33 : decode cX6_actor 33 = .ok (.iload_n 2, 1) := by decide +kernel
theorem dX6_actor_34 : decode cX6_actor 34 = .ok (.goto 4, 3) := by decide +kernel
theorem dX6_actor_37 : decode cX6_actor 37 = .ok (.iload_n 1, 1) := by decide +kernel
theorem dX6_actor_38 : decode cX6_actor 38 = .ok (.istore_n 1, 1) := by decide +kernel
theorem dX6_actor_39 : decode cX6_actor 39 = .ok (.iinc 2 (-1), 3) := by decide +kernel
theorem dX6_actor_42 : decode cX6_actor 42 = .ok (.goto (-33), 3) := by decide +kernel
theorem dX6_actor_45 : decode cX6_actor 45 = .ok (.iload_n 1, 1) := by decide +kernel
theorem dX6_actor_46 : decode cX6_actor 46 = .ok (.ireturn, 1) := by decide +kernel
theorem dX6_keep_0 : decode cX6_keep 0 = .ok (.aload_n 0, 1) := by decide +kernel
theorem dX6_keep_1 : decode cX6_keep 1 = .ok (.dup, 1) := by decide +kernel
theorem dX6_keep_2 : decode cX6_keep 2 = .ok (.getfield 99, 3) := by decide +kernel
theorem dX6_keep_5 : decode cX6_keep 5 = .ok (.iconst 1, 1) := by decide +kernel
theorem dX6_keep_6 : decode cX6_keep 6 = .ok (.iadd, 1) := by decide +kernel
theorem dX6_keep_7 : decode cX6_keep 7 = .ok (.putfield 99, 3) := by decide +kernel
theorem dX6_keep_10 : decode cX6_keep 10 = .ok (.aload_n 0, 1) := by decide +kernel
theorem dX6_keep_11 : decode cX6_keep 11 = .ok (.getfield 67, 3) := by decide +kernel
theorem dX6_keep_14 : decode cX6_keep 14 = .ok (.aload_n 0, 1) := by decide +kernel
theorem dX6_keep_15 : decode cX6_keep 15 = .ok (.getfield 99, 3) := by decide +kernel
theorem dX6_keep_18 : decode cX6_keep 18 = .ok (.aload_n 0, 1) := by decide +kernel
theorem dX6_keep_19 : decode cX6_keep 19 = .ok (.getfield 93, 3) := by decide +kernel
theorem dX6_keep_22 : decode cX6_keep 22 = .ok (.iastore, 1) := by decide +kernel
theorem dX6_keep_23 : decode cX6_keep 23 = .ok (.aload_n 0, 1) := by decide +kernel
theorem dX6_keep_24 : decode cX6_keep 24 = .ok (.getfield 70, 3) := by decide +kernel
theorem dX6_keep_27 : decode cX6_keep 27 = .ok (.aload_n 0, 1) := by decide +kernel
theorem dX6_keep_28 : decode cX6_keep 28 = .ok (.getfield 99, 3) := by decide +kernel
theorem dX6_keep_31 : decode cX6_keep 31 = .ok (.aload_n 0, 1) := by decide +kernel
theorem dX6_keep_32 : decode cX6_keep 32 = .ok (.invokevirtual 102, 3) := by decide +kernel
theorem dX6_keep_35 : decode cX6_keep 35 = .ok (.iastore, 1) := by decide +kernel
theorem dX6_keep_36 : decode cX6_keep 36 = .ok (.iconst 0, 1) := by decide +kernel
theorem dX6_keep_37 : decode cX6_keep 37 = .ok (.istore_n 1, 1) := by decide +kernel
theorem dX6_keep_38 : decode cX6_keep 38 = .ok (.iload_n 1, 1) := by decide +kernel
theorem dX6_keep_39 : decode cX6_keep 39 = .ok (.aload_n 0, 1) := by decide +kernel
theorem dX6_keep_40 : decode cX6_keep 40 = .ok (.getfield 93, 3) := by decide +kernel
theorem dX6_keep_43 : decode cX6_keep 43 = .ok (.if_icmp .ge 47, 3) := by decide +kernel
theorem dX6_keep_46 : decode cX6_keep 46 = .ok (.aload_n 0, 1) := by decide +kernel
theorem dX6_keep_47 : decode cX6_keep 47 = .ok (.getfield 73, 3) := by decide +kernel
theorem dX6_keep_50 : decode cX6_keep 50 = .ok (.iconst 4, 1) := by decide +kernel
theorem dX6_keep_51 : decode cX6_keep 51 = .ok (.aload_n 0, 1) := by decide +kernel
theorem dX6_keep_52 : decode cX6_keep 52 = .ok (.getfield 99, 3) := by decide +kernel
theorem dX6_keep_55 : decode cX6_keep 55 = .ok (.imul, 1) := by decide +kernel
theorem dX6_keep_56 : decode cX6_keep 56 = .ok (.iload_n 1, 1) := by decide +kernel
theorem dX6_keep_57 : decode cX6_keep 57 = .ok (.iadd, 1) := by decide +kernel
theorem dX6_keep_58 : decode cX6_keep 58 = .ok (.aload_n 0, 1) := by decide +kernel
theorem dX6_keep_59 : decode cX6_keep 59 = .ok (.getfield 25, 3) := by decide +kernel
theorem dX6_keep_62 : decode cX6_keep 62 = .ok (.iload_n 1, 1) := by decide +kernel
theorem dX6_keep_63 : decode cX6_keep 63 = .ok (.iaload, 1) := by decide +kernel
theorem dX6_keep_64 : decode cX6_keep 64 = .ok (.iastore, 1) := by decide +kernel
theorem dX6_keep_65 : decode cX6_keep 65 = .ok (.aload_n 0, 1) := by decide +kernel
theorem dX6_keep_66 : decode cX6_keep 66 = .ok (.getfield 76, 3) := by decide +kernel
theorem dX6_keep_69 : decode cX6_keep 69 = .ok (.iconst 4, 1) := by decide +kernel
theorem dX6_keep_70 : decode cX6_keep 70 = .ok (.aload_n 0, 1) := by decide +kernel
theorem dX6_keep_71 : decode cX6_keep 71 = .ok (.getfield 99, 3) := by decide +kernel
theorem dX6_keep_74 : decode cX6_keep 74 = .ok (.imul, 1) := by decide +kernel
theorem dX6_keep_75 : decode cX6_keep 75 = .ok (.iload_n 1, 1) := by decide +kernel
theorem dX6_keep_76 : decode cX6_keep 76 = .ok (.iadd, 1) := by decide +kernel
theorem dX6_keep_77 : decode cX6_keep 77 = .ok (.aload_n 0, 1) := by decide +kernel
theorem dX6_keep_78 : decode cX6_keep 78 = .ok (.getfield 28, 3) := by decide +kernel
theorem dX6_keep_81 : decode cX6_keep 81 = .ok (.iload_n 1, 1) := by decide +kernel
theorem dX6_keep_82 : decode cX6_keep 82 = .ok (.iaload, 1) := by decide +kernel
theorem dX6_keep_83 : decode cX6_keep 83 = .ok (.iastore, 1) := by decide +kernel
theorem dX6_keep_84 : decode cX6_keep 84 = .ok (.iinc 1 1, 3) := by decide +kernel
theorem dX6_keep_87 : decode cX6_keep 87 = .ok (.goto (-49), 3) := by decide +kernel
theorem dX6_keep_90 : decode cX6_keep 90 = .ok (.return_, 1) := by decide +kernel
theorem dX6_link_0 : decode cX6_link 0 = .ok (.iload_n 1, 1) := by decide +kernel
theorem dX6_link_1 : decode cX6_link 1 = .ok (.invokestatic 106, 3) := by decide +kernel
theorem dX6_link_4 : decode cX6_link 4 = .ok (.ifCond .eq 23, 3) := by decide +kernel
theorem dX6_link_7 : decode cX6_link 7 = .ok (.iload_n 3, 1) := by decide +kernel
theorem dX6_link_8 : decode cX6_link 8 = .ok (.invokestatic 106, 3) := by decide +kernel
theorem dX6_link_11 : decode cX6_link 11 = .ok (.ifCond .eq 16, 3) := by decide +kernel
theorem dX6_link_14 : decode cX6_link 14 = .ok (.iload_n 2, 1) := by decide +kernel
theorem dX6_link_15 : decode cX6_link 15 = .ok (.iconst 0, 1) := by decide +kernel
theorem dX6_link_16 : decode cX6_link 16 = .ok (.iconst 3, 1) := by decide +kernel
theorem dX6_link_17 : decode cX6_link 17 = .ok (.invokestatic 89, 3) := by decide +kernel
theorem dX6_link_20 : decode cX6_link 20 = .ok (.ifCond .eq 7, 3) := by decide +kernel
theorem dX6_link_23 : decode cX6_link 23 = .ok (.iconst 1, 1) := by decide +kernel
theorem dX6_link_24 : decode cX6_link 24 = .ok (.goto 4, 3) := by decide +kernel
theorem dX6_link_27 : decode cX6_link 27 = .ok (.iconst 0, 1) := by decide +kernel
theorem dX6_link_28 : decode cX6_link 28 = .ok (.istore 4, 2) := by decide +kernel
theorem dX6_link_30 : decode cX6_link 30 = .ok (.iload_n 2, 1) := by decide +kernel
theorem dX6_link_31 : decode cX6_link 31 = .ok (.iconst 2, 1) := by decide +kernel
theorem dX6_link_32 : decode cX6_link 32 = .ok (.iadd, 1) := by decide +kernel
theorem dX6_link_33 : decode cX6_link 33 = .ok (.iconst 4, 1) := by decide +kernel
theorem dX6_link_34 : decode cX6_link 34 = .ok (.irem, 1) := by decide +kernel
theorem dX6_link_35 : decode cX6_link 35 = .ok (.istore 5, 2) := by decide +kernel
theorem dX6_link_37 : decode cX6_link 37 = .ok (.aload_n 0, 1) := by decide +kernel
theorem dX6_link_38 : decode cX6_link 38 = .ok (.iload 4, 2) := by decide +kernel
theorem dX6_link_40 : decode cX6_link 40 = .ok (.ifCond .ne 7, 3) := by decide +kernel
theorem dX6_link_43 : decode cX6_link 43 = .ok (.iconst 1, 1) := by decide +kernel
theorem dX6_link_44 : decode cX6_link 44 = .ok (.goto 46, 3) := by decide +kernel
theorem dX6_link_47 : decode cX6_link 47 = .ok (.iload_n 1, 1) := by decide +kernel
theorem dX6_link_48 : decode cX6_link 48 = .ok (.iload_n 3, 1) := by decide +kernel
theorem dX6_link_49 : decode cX6_link 49 = .ok (.if_icmp .ne 7, 3) := by decide +kernel
theorem dX6_link_52 : decode cX6_link 52 = .ok (.iconst 2, 1) := by decide +kernel
theorem dX6_link_53 : decode cX6_link 53 = .ok (.goto 37, 3) := by decide +kernel
theorem dX6_link_56 : decode cX6_link 56 = .ok (.aload_n 0, 1) := by decide +kernel
theorem dX6_link_57 : decode cX6_link 57 = .ok (.getfield 7, 3) := by decide +kernel
theorem dX6_link_60 : decode cX6_link 60 = .ok (.iconst 4, 1) := by decide +kernel
theorem dX6_link_61 : decode cX6_link 61 = .ok (.iload_n 1, 1) := by decide +kernel
theorem dX6_link_62 : decode cX6_link 62 = .ok (.imul, 1) := by decide +kernel
theorem dX6_link_63 : decode cX6_link 63 = .ok (.iload_n 2, 1) := by decide +kernel
theorem dX6_link_64 : decode cX6_link 64 = .ok (.iadd, 1) := by decide +kernel
theorem dX6_link_65 : decode cX6_link 65 = .ok (.iaload, 1) := by decide +kernel
theorem dX6_link_66 : decode cX6_link 66 = .ok (.iconst (-1), 1) := by decide +kernel
theorem dX6_link_67 : decode cX6_link 67 = .ok (.if_icmp .ne 18, 3) := by decide +kernel
theorem dX6_link_70 : decode cX6_link 70 = .ok (.aload_n 0, 1) := by decide +kernel
theorem dX6_link_71 : decode cX6_link 71 = .ok (.getfield 7, 3) := by decide +kernel
theorem dX6_link_74 : decode cX6_link 74 = .ok (.iconst 4, 1) := by decide +kernel
theorem dX6_link_75 : decode cX6_link 75 = .ok (.iload_n 3, 1) := by decide +kernel
theorem dX6_link_76 : decode cX6_link 76 = .ok (.imul, 1) := by decide +kernel
theorem dX6_link_77 : decode cX6_link 77 = .ok (.iload 5, 2) := by decide +kernel
theorem dX6_link_79 : decode cX6_link 79 = .ok (.iadd, 1) := by decide +kernel
theorem dX6_link_80 : decode cX6_link 80 = .ok (.iaload, 1) := by decide +kernel
theorem dX6_link_81 : decode cX6_link 81 = .ok (.iconst (-1), 1) := by decide +kernel
theorem dX6_link_82 : decode cX6_link 82 = .ok (.if_icmp .eq 7, 3) := by decide +kernel
theorem dX6_link_85 : decode cX6_link 85 = .ok (.iconst 3, 1) := by decide +kernel
theorem dX6_link_86 : decode cX6_link 86 = .ok (.goto 4, 3) := by decide +kernel
theorem dX6_link_89 : decode cX6_link 89 = .ok (.iconst 0, 1) := by decide +kernel
theorem dX6_link_90 : decode cX6_link 90 = .ok (.invokevirtual 110, 3) := by decide +kernel
theorem dX6_link_93 : decode cX6_link 93 = .ok (.ifCond .eq 30, 3) := by decide +kernel
theorem dX6_link_96 : decode cX6_link 96 = .ok (.aload_n 0, 1) := by decide +kernel
theorem dX6_link_97 : decode cX6_link 97 = .ok (.getfield 7, 3) := by decide +kernel
theorem dX6_link_100 : decode cX6_link 100 = .ok (.iconst 4, 1) := by decide +kernel
theorem dX6_link_101 : decode cX6_link 101 = .ok (.iload_n 1, 1) := by decide +kernel
theorem dX6_link_102 : decode cX6_link 102 = .ok (.imul, 1) := by decide +kernel
theorem dX6_link_103 : decode cX6_link 103 = .ok (.iload_n 2, 1) := by decide +kernel
theorem dX6_link_104 : decode cX6_link 104 = .ok (.iadd, 1) := by decide +kernel
theorem dX6_link_105 : decode cX6_link 105 = .ok (.iload_n 3, 1) := by decide +kernel
theorem dX6_link_106 : decode cX6_link 106 = .ok (.iastore, 1) := by decide +kernel
theorem dX6_link_107 : decode cX6_link 107 = .ok (.aload_n 0, 1) := by decide +kernel
theorem dX6_link_108 : decode cX6_link 108 = .ok (.getfield 7, 3) := by decide +kernel
theorem dX6_link_111 : decode cX6_link 111 = .ok (.iconst 4, 1) := by decide +kernel
theorem dX6_link_112 : decode cX6_link 112 = .ok (.iload_n 3, 1) := by decide +kernel
theorem dX6_link_113 : decode cX6_link 113 = .ok (.imul, 1) := by decide +kernel
theorem dX6_link_114 : decode cX6_link 114 = .ok (.iload 5, 2) := by decide +kernel
theorem dX6_link_116 : decode cX6_link 116 = .ok (.iadd, 1) := by decide +kernel
theorem dX6_link_117 : decode cX6_link 117 = .ok (.iload_n 1, 1) := by decide +kernel
theorem dX6_link_118 : decode cX6_link 118 = .ok (.iastore, 1) := by decide +kernel
theorem dX6_link_119 : decode cX6_link 119 = .ok (.aload_n 0, 1) := by decide +kernel
theorem dX6_link_120 : decode cX6_link 120 = .ok (.invokevirtual 113, 3) := by decide +kernel
theorem dX6_link_123 : decode cX6_link 123 = .ok (.return_, 1) := by decide +kernel
theorem dX6_shop_0 : decode cX6_shop 0 = .ok (.aload_n 0, 1) := by decide +kernel
theorem dX6_shop_1 : decode cX6_shop 1 = .ok (.iload_n 1, 1) := by decide +kernel
theorem dX6_shop_2 : decode cX6_shop 2 = .ok (.invokestatic 106, 3) := by decide +kernel
theorem dX6_shop_5 : decode cX6_shop 5 = .ok (.ifCond .ne 7, 3) := by decide +kernel
theorem dX6_shop_8 : decode cX6_shop 8 = .ok (.iconst 1, 1) := by decide +kernel
theorem dX6_shop_9 : decode cX6_shop 9 = .ok (.goto 33, 3) := by decide +kernel
theorem dX6_shop_12 : decode cX6_shop 12 = .ok (.iload_n 2, 1) := by decide +kernel
theorem dX6_shop_13 : decode cX6_shop 13 = .ok (.iconst 0, 1) := by decide +kernel
theorem dX6_shop_14 : decode cX6_shop 14 = .ok (.sipush 1000, 3) := by decide +kernel
theorem dX6_shop_17 : decode cX6_shop 17 = .ok (.invokestatic 89, 3) := by decide +kernel
theorem dX6_shop_20 : decode cX6_shop 20 = .ok (.ifCond .ne 7, 3) := by decide +kernel
theorem dX6_shop_23 : decode cX6_shop 23 = .ok (.iconst 2, 1) := by decide +kernel
theorem dX6_shop_24 : decode cX6_shop 24 = .ok (.goto 18, 3) := by decide +kernel
theorem dX6_shop_27 : decode cX6_shop 27 = .ok (.aload_n 0, 1) := by decide +kernel
theorem dX6_shop_28 : decode cX6_shop 28 = .ok (.getfield 16, 3) := by decide +kernel
theorem dX6_shop_31 : decode cX6_shop 31 = .ok (.iload_n 1, 1) := by decide +kernel
theorem dX6_shop_32 : decode cX6_shop 32 = .ok (.iaload, 1) := by decide +kernel
theorem dX6_shop_33 : decode cX6_shop 33 = .ok (.iconst (-1), 1) := by decide +kernel
theorem dX6_shop_34 : decode cX6_shop 34 = .ok (.if_icmp .eq 7, 3) := by decide +kernel
theorem dX6_shop_37 : decode cX6_shop 37 = .ok (.iconst 3, 1) := by decide +kernel
theorem dX6_shop_38 : decode cX6_shop 38 = .ok (.goto 4, 3) := by decide +kernel
theorem dX6_shop_41 : decode cX6_shop 41 = .ok (.iconst 0, 1) := by decide +kernel
theorem dX6_shop_42 : decode cX6_shop 42 = .ok (.invokevirtual 110, 3) := by decide +kernel
theorem dX6_shop_45 : decode cX6_shop 45 = .ok (.ifCond .eq 14, 3) := by decide +kernel
theorem dX6_shop_48 : decode cX6_shop 48 = .ok (.aload_n 0, 1) := by decide +kernel
theorem dX6_shop_49 : decode cX6_shop 49 = .ok (.getfield 16, 3) := by decide +kernel
theorem dX6_shop_52 : decode cX6_shop 52 = .ok (.iload_n 1, 1) := by decide +kernel
theorem dX6_shop_53 : decode cX6_shop 53 = .ok (.iload_n 2, 1) := by decide +kernel
theorem dX6_shop_54 : decode cX6_shop 54 = .ok (.iastore, 1) := by decide +kernel
theorem dX6_shop_55 : decode cX6_shop 55 = .ok (.aload_n 0, 1) := by decide +kernel
theorem dX6_shop_56 : decode cX6_shop 56 = .ok (.invokevirtual 113, 3) := by decide +kernel
theorem dX6_shop_59 : decode cX6_shop 59 = .ok (.return_, 1) := by decide +kernel
theorem dX6_stock_0 : decode cX6_stock 0 = .ok (.aload_n 0, 1) := by decide +kernel
theorem dX6_stock_1 : decode cX6_stock 1 = .ok (.iload_n 1, 1) := by decide +kernel
theorem dX6_stock_2 : decode cX6_stock 2 = .ok (.invokestatic 106, 3) := by decide +kernel
theorem dX6_stock_5 : decode cX6_stock 5 = .ok (.ifCond .eq 10, 3) := by decide +kernel
theorem dX6_stock_8 : decode cX6_stock 8 = .ok (.iload_n 2, 1) := by decide +kernel
theorem dX6_stock_9 : decode cX6_stock 9 = .ok (.invokestatic 116, 3) := by decide +kernel
theorem dX6_stock_12 : decode cX6_stock 12 = .ok (.ifCond .ne 7, 3) := by decide +kernel
theorem dX6_stock_15 : decode cX6_stock 15 = .ok (.iconst 1, 1) := by decide +kernel
theorem dX6_stock_16 : decode cX6_stock 16 = .ok (.goto 43, 3) := by decide +kernel
theorem dX6_stock_19 : decode cX6_stock 19 = .ok (.iload_n 3, 1) := by decide +kernel
theorem dX6_stock_20 : decode cX6_stock 20 = .ok (.iconst 0, 1) := by decide +kernel
theorem dX6_stock_21 : decode cX6_stock 21 = .ok (.bipush 20, 2) := by decide +kernel
theorem dX6_stock_23 : decode cX6_stock 23 = .ok (.invokestatic 89, 3) := by decide +kernel
theorem dX6_stock_26 : decode cX6_stock 26 = .ok (.ifCond .eq 14, 3) := by decide +kernel
theorem dX6_stock_29 : decode cX6_stock 29 = .ok (.iload 4, 2) := by decide +kernel
theorem dX6_stock_31 : decode cX6_stock 31 = .ok (.iconst 0, 1) := by decide +kernel
theorem dX6_stock_32 : decode cX6_stock 32 = .ok (.bipush 50, 2) := by decide +kernel
theorem dX6_stock_34 : decode cX6_stock 34 = .ok (.invokestatic 89, 3) := by decide +kernel
theorem dX6_stock_37 : decode cX6_stock 37 = .ok (.ifCond .ne 7, 3) := by decide +kernel
theorem dX6_stock_40 : decode cX6_stock 40 = .ok (.iconst 2, 1) := by decide +kernel
theorem dX6_stock_41 : decode cX6_stock 41 = .ok (.goto 18, 3) := by decide +kernel
theorem dX6_stock_44 : decode cX6_stock 44 = .ok (.aload_n 0, 1) := by decide +kernel
theorem dX6_stock_45 : decode cX6_stock 45 = .ok (.getfield 16, 3) := by decide +kernel
theorem dX6_stock_48 : decode cX6_stock 48 = .ok (.iload_n 1, 1) := by decide +kernel
theorem dX6_stock_49 : decode cX6_stock 49 = .ok (.iaload, 1) := by decide +kernel
theorem dX6_stock_50 : decode cX6_stock 50 = .ok (.iconst (-1), 1) := by decide +kernel
theorem dX6_stock_51 : decode cX6_stock 51 = .ok (.if_icmp .ne 7, 3) := by decide +kernel
theorem dX6_stock_54 : decode cX6_stock 54 = .ok (.iconst 3, 1) := by decide +kernel
theorem dX6_stock_55 : decode cX6_stock 55 = .ok (.goto 4, 3) := by decide +kernel
theorem dX6_stock_58 : decode cX6_stock 58 = .ok (.iconst 0, 1) := by decide +kernel
theorem dX6_stock_59 : decode cX6_stock 59 = .ok (.invokevirtual 110, 3) := by decide +kernel
theorem dX6_stock_62 : decode cX6_stock 62 = .ok (.ifCond .ne 5, 3) := by decide +kernel
theorem dX6_stock_65 : decode cX6_stock 65 = .ok (.iconst 0, 1) := by decide +kernel
theorem dX6_stock_66 : decode cX6_stock 66 = .ok (.ireturn, 1) := by decide +kernel
theorem dX6_stock_67 : decode cX6_stock 67 = .ok (.aload_n 0, 1) := by decide +kernel
theorem dX6_stock_68 : decode cX6_stock 68 = .ok (.getfield 22, 3) := by decide +kernel
theorem dX6_stock_71 : decode cX6_stock 71 = .ok (.iconst 5, 1) := by decide +kernel
theorem dX6_stock_72 : decode cX6_stock 72 = .ok (.iload_n 1, 1) := by decide +kernel
theorem dX6_stock_73 : decode cX6_stock 73 = .ok (.imul, 1) := by decide +kernel
theorem dX6_stock_74 : decode cX6_stock 74 = .ok (.iload_n 2, 1) := by decide +kernel
theorem dX6_stock_75 : decode cX6_stock 75 = .ok (.iadd, 1) := by decide +kernel
theorem dX6_stock_76 : decode cX6_stock 76 = .ok (.dup2, 1) := by decide +kernel
theorem dX6_stock_77 : decode cX6_stock 77 = .ok (.iaload, 1) := by decide +kernel
theorem dX6_stock_78 : decode cX6_stock 78 = .ok (.iload_n 3, 1) := by decide +kernel
theorem dX6_stock_79 : decode cX6_stock 79 = .ok (.iadd, 1) := by decide +kernel
theorem dX6_stock_80 : decode cX6_stock 80 = .ok (.iastore, 1) := by decide +kernel
theorem dX6_stock_81 : decode cX6_stock 81 = .ok (.aload_n 0, 1) := by decide +kernel
theorem dX6_stock_82 : decode cX6_stock 82 = .ok (.getfield 19, 3) := by decide +kernel
theorem dX6_stock_85 : decode cX6_stock 85 = .ok (.iconst 5, 1) := by decide +kernel
theorem dX6_stock_86 : decode cX6_stock 86 = .ok (.iload_n 1, 1) := by decide +kernel
theorem dX6_stock_87 : decode cX6_stock 87 = .ok (.imul, 1) := by decide +kernel
theorem dX6_stock_88 : decode cX6_stock 88 = .ok (.iload_n 2, 1) := by decide +kernel
theorem dX6_stock_89 : decode cX6_stock 89 = .ok (.iadd, 1) := by decide +kernel
theorem dX6_stock_90 : decode cX6_stock 90 = .ok (.iload 4, 2) := by decide +kernel
theorem dX6_stock_92 : decode cX6_stock 92 = .ok (.iastore, 1) := by decide +kernel
theorem dX6_stock_93 : decode cX6_stock 93 = .ok (.aload_n 0, 1) := by decide +kernel
theorem dX6_stock_94 : decode cX6_stock 94 = .ok (.invokevirtual 113, 3) := by decide +kernel
theorem dX6_stock_97 : decode cX6_stock 97 = .ok (.aload_n 0, 1) := by decide +kernel
theorem dX6_stock_98 : decode cX6_stock 98 = .ok (.getfield 22, 3) := by decide +kernel
theorem dX6_stock_101 : decode cX6_stock 101 = .ok (.iconst 5, 1) := by decide +kernel
theorem dX6_stock_102 : decode cX6_stock 102 = .ok (.iload_n 1, 1) := by decide +kernel
theorem dX6_stock_103 : decode cX6_stock 103 = .ok (.imul, 1) := by decide +kernel
theorem dX6_stock_104 : decode cX6_stock 104 = .ok (.iload_n 2, 1) := by decide +kernel
theorem dX6_stock_105 : decode cX6_stock 105 = .ok (.iadd, 1) := by decide +kernel
theorem dX6_stock_106 : decode cX6_stock 106 = .ok (.iaload, 1) := by decide +kernel
theorem dX6_stock_107 : decode cX6_stock 107 = .ok (.ireturn, 1) := by decide +kernel
theorem dX6_scatter_0 : decode cX6_scatter 0 = .ok (.aload_n 0, 1) := by decide +kernel
theorem dX6_scatter_1 : decode cX6_scatter 1 = .ok (.iload_n 1, 1) := by decide +kernel
theorem dX6_scatter_2 : decode cX6_scatter 2 = .ok (.invokestatic 106, 3) := by decide +kernel
theorem dX6_scatter_5 : decode cX6_scatter 5 = .ok (.ifCond .eq 10, 3) := by decide +kernel
theorem dX6_scatter_8 : decode cX6_scatter 8 = .ok (.iload_n 2, 1) := by decide +kernel
theorem dX6_scatter_9 : decode cX6_scatter 9 = .ok (.invokestatic 116, 3) := by decide +kernel
theorem dX6_scatter_12 : decode cX6_scatter 12 = .ok (.ifCond .ne 7, 3) := by decide +kernel
theorem dX6_scatter_15 : decode cX6_scatter 15 = .ok (.iconst 1, 1) := by decide +kernel
theorem dX6_scatter_16 : decode cX6_scatter 16 = .ok (.goto 18, 3) := by decide +kernel
theorem dX6_scatter_19 : decode cX6_scatter 19 = .ok (.iload_n 3, 1) := by decide +kernel
theorem dX6_scatter_20 : decode cX6_scatter 20 = .ok (.iconst 1, 1) := by decide +kernel
theorem dX6_scatter_21 : decode cX6_scatter 21 = .ok (.bipush 9, 2) := by decide +kernel
theorem dX6_scatter_23 : decode cX6_scatter 23 = .ok (.invokestatic 89, 3) := by decide +kernel
theorem dX6_scatter_26 : decode cX6_scatter 26 = .ok (.ifCond .eq 7, 3) := by decide +kernel
theorem dX6_scatter_29 : decode cX6_scatter 29 = .ok (.iconst 0, 1) := by decide +kernel
theorem dX6_scatter_30 : decode cX6_scatter 30 = .ok (.goto 4, 3) := by decide +kernel
theorem dX6_scatter_33 : decode cX6_scatter 33 = .ok (.iconst 2, 1) := by decide +kernel
theorem dX6_scatter_34 : decode cX6_scatter 34 = .ok (.invokevirtual 110, 3) := by decide +kernel
theorem dX6_scatter_37 : decode cX6_scatter 37 = .ok (.ifCond .ne 5, 3) := by decide +kernel
theorem dX6_scatter_40 : decode cX6_scatter 40 = .ok (.iconst 0, 1) := by decide +kernel
theorem dX6_scatter_41 : decode cX6_scatter 41 = .ok (.ireturn, 1) := by decide +kernel
theorem dX6_scatter_42 : decode cX6_scatter 42 = .ok (.aload_n 0, 1) := by decide +kernel
theorem dX6_scatter_43 : decode cX6_scatter 43 = .ok (.getfield 13, 3) := by decide +kernel
theorem dX6_scatter_46 : decode cX6_scatter 46 = .ok (.iconst 5, 1) := by decide +kernel
theorem dX6_scatter_47 : decode cX6_scatter 47 = .ok (.iload_n 1, 1) := by decide +kernel
theorem dX6_scatter_48 : decode cX6_scatter 48 = .ok (.imul, 1) := by decide +kernel
theorem dX6_scatter_49 : decode cX6_scatter 49 = .ok (.iload_n 2, 1) := by decide +kernel
theorem dX6_scatter_50 : decode cX6_scatter 50 = .ok (.iadd, 1) := by decide +kernel
theorem dX6_scatter_51 : decode cX6_scatter 51 = .ok (.dup2, 1) := by decide +kernel
theorem dX6_scatter_52 : decode cX6_scatter 52 = .ok (.iaload, 1) := by decide +kernel
theorem dX6_scatter_53 : decode cX6_scatter 53 = .ok (.iload_n 3, 1) := by decide +kernel
theorem dX6_scatter_54 : decode cX6_scatter 54 = .ok (.iadd, 1) := by decide +kernel
theorem dX6_scatter_55 : decode cX6_scatter 55 = .ok (.iastore, 1) := by decide +kernel
theorem dX6_scatter_56 : decode cX6_scatter 56 = .ok (.aload_n 0, 1) := by decide +kernel
theorem dX6_scatter_57 : decode cX6_scatter 57 = .ok (.invokevirtual 113, 3) := by decide +kernel
theorem dX6_scatter_60 : decode cX6_scatter 60 = .ok (.aload_n 0, 1) := by decide +kernel
theorem dX6_scatter_61 : decode cX6_scatter 61 = .ok (.getfield 13, 3) := by decide +kernel
theorem dX6_scatter_64 : decode cX6_scatter 64 = .ok (.iconst 5, 1) := by decide +kernel
theorem dX6_scatter_65 : decode cX6_scatter 65 = .ok (.iload_n 1, 1) := by decide +kernel
theorem dX6_scatter_66 : decode cX6_scatter 66 = .ok (.imul, 1) := by decide +kernel
theorem dX6_scatter_67 : decode cX6_scatter 67 = .ok (.iload_n 2, 1) := by decide +kernel
theorem dX6_scatter_68 : decode cX6_scatter 68 = .ok (.iadd, 1) := by decide +kernel
theorem dX6_scatter_69 : decode cX6_scatter 69 = .ok (.iaload, 1) := by decide +kernel
theorem dX6_scatter_70 : decode cX6_scatter 70 = .ok (.ireturn, 1) := by decide +kernel
theorem dX6_join_0 : decode cX6_join 0 = .ok (.aload_n 0, 1) := by decide +kernel
theorem dX6_join_1 : decode cX6_join 1 = .ok (.iload_n 1, 1) := by decide +kernel
theorem dX6_join_2 : decode cX6_join 2 = .ok (.invokestatic 106, 3) := by decide +kernel
theorem dX6_join_5 : decode cX6_join 5 = .ok (.ifCond .ne 7, 3) := by decide +kernel
theorem dX6_join_8 : decode cX6_join 8 = .ok (.iconst 1, 1) := by decide +kernel
theorem dX6_join_9 : decode cX6_join 9 = .ok (.goto 41, 3) := by decide +kernel
theorem dX6_join_12 : decode cX6_join 12 = .ok (.iload_n 2, 1) := by decide +kernel
theorem dX6_join_13 : decode cX6_join 13 = .ok (.iconst 0, 1) := by decide +kernel
theorem dX6_join_14 : decode cX6_join 14 = .ok (.sipush 200, 3) := by decide +kernel
theorem dX6_join_17 : decode cX6_join 17 = .ok (.invokestatic 89, 3) := by decide +kernel
theorem dX6_join_20 : decode cX6_join 20 = .ok (.ifCond .eq 13, 3) := by decide +kernel
theorem dX6_join_23 : decode cX6_join 23 = .ok (.iload_n 3, 1) := by decide +kernel
theorem dX6_join_24 : decode cX6_join 24 = .ok (.iconst 0, 1) := by decide +kernel
theorem dX6_join_25 : decode cX6_join 25 = .ok (.bipush 6, 2) := by decide +kernel
theorem dX6_join_27 : decode cX6_join 27 = .ok (.invokestatic 89, 3) := by decide +kernel
theorem dX6_join_30 : decode cX6_join 30 = .ok (.ifCond .ne 7, 3) := by decide +kernel
theorem dX6_join_33 : decode cX6_join 33 = .ok (.iconst 2, 1) := by decide +kernel
theorem dX6_join_34 : decode cX6_join 34 = .ok (.goto 16, 3) := by decide +kernel
theorem dX6_join_37 : decode cX6_join 37 = .ok (.aload_n 0, 1) := by decide +kernel
theorem dX6_join_38 : decode cX6_join 38 = .ok (.getfield 93, 3) := by decide +kernel
theorem dX6_join_41 : decode cX6_join 41 = .ok (.iconst 4, 1) := by decide +kernel
theorem dX6_join_42 : decode cX6_join 42 = .ok (.if_icmp .ne 7, 3) := by decide +kernel
theorem dX6_join_45 : decode cX6_join 45 = .ok (.iconst 3, 1) := by decide +kernel
theorem dX6_join_46 : decode cX6_join 46 = .ok (.goto 4, 3) := by decide +kernel
theorem dX6_join_49 : decode cX6_join 49 = .ok (.iconst 0, 1) := by decide +kernel
theorem dX6_join_50 : decode cX6_join 50 = .ok (.invokevirtual 110, 3) := by decide +kernel
theorem dX6_join_53 : decode cX6_join 53 = .ok (.ifCond .ne 5, 3) := by decide +kernel
theorem dX6_join_56 : decode cX6_join 56 = .ok (.iconst 0, 1) := by decide +kernel
theorem dX6_join_57 : decode cX6_join 57 = .ok (.ireturn, 1) := by decide +kernel
theorem dX6_join_58 : decode cX6_join 58 = .ok (.aload_n 0, 1) := by decide +kernel
theorem dX6_join_59 : decode cX6_join 59 = .ok (.getfield 25, 3) := by decide +kernel
theorem dX6_join_62 : decode cX6_join 62 = .ok (.aload_n 0, 1) := by decide +kernel
theorem dX6_join_63 : decode cX6_join 63 = .ok (.getfield 93, 3) := by decide +kernel
theorem dX6_join_66 : decode cX6_join 66 = .ok (.iload_n 1, 1) := by decide +kernel
theorem dX6_join_67 : decode cX6_join 67 = .ok (.iastore, 1) := by decide +kernel
theorem dX6_join_68 : decode cX6_join 68 = .ok (.aload_n 0, 1) := by decide +kernel
theorem dX6_join_69 : decode cX6_join 69 = .ok (.getfield 28, 3) := by decide +kernel
theorem dX6_join_72 : decode cX6_join 72 = .ok (.aload_n 0, 1) := by decide +kernel
theorem dX6_join_73 : decode cX6_join 73 = .ok (.getfield 93, 3) := by decide +kernel
theorem dX6_join_76 : decode cX6_join 76 = .ok (.iload_n 2, 1) := by decide +kernel
theorem dX6_join_77 : decode cX6_join 77 = .ok (.iastore, 1) := by decide +kernel
theorem dX6_join_78 : decode cX6_join 78 = .ok (.aload_n 0, 1) := by decide +kernel
theorem dX6_join_79 : decode cX6_join 79 = .ok (.getfield 31, 3) := by decide +kernel
theorem dX6_join_82 : decode cX6_join 82 = .ok (.aload_n 0, 1) := by decide +kernel
theorem dX6_join_83 : decode cX6_join 83 = .ok (.getfield 93, 3) := by decide +kernel
theorem dX6_join_86 : decode cX6_join 86 = .ok (.iload_n 3, 1) := by decide +kernel
theorem dX6_join_87 : decode cX6_join 87 = .ok (.iastore, 1) := by decide +kernel
theorem dX6_join_88 : decode cX6_join 88 = .ok (.aload_n 0, 1) := by decide +kernel
theorem dX6_join_89 : decode cX6_join 89 = .ok (.getfield 34, 3) := by decide +kernel
theorem dX6_join_92 : decode cX6_join 92 = .ok (.aload_n 0, 1) := by decide +kernel
theorem dX6_join_93 : decode cX6_join 93 = .ok (.getfield 93, 3) := by decide +kernel
theorem dX6_join_96 : decode cX6_join 96 = .ok (.bipush 20, 2) := by decide +kernel
theorem dX6_join_98 : decode cX6_join 98 = .ok (.iastore, 1) := by decide +kernel
theorem dX6_join_99 : decode cX6_join 99 = .ok (.aload_n 0, 1) := by decide +kernel
theorem dX6_join_100 : decode cX6_join 100 = .ok (.dup, 1) := by decide +kernel
theorem dX6_join_101 : decode cX6_join 101 = .ok (.getfield 93, 3) := by decide +kernel
theorem dX6_join_104 : decode cX6_join 104 = .ok (.iconst 1, 1) := by decide +kernel
theorem dX6_join_105 : decode cX6_join 105 = .ok (.iadd, 1) := by decide +kernel
theorem dX6_join_106 : decode cX6_join 106 = .ok (.putfield 93, 3) := by decide +kernel
theorem dX6_join_109 : decode cX6_join 109 = .ok (.aload_n 0, 1) := by decide +kernel
theorem dX6_join_110 : decode cX6_join 110 = .ok (.invokevirtual 113, 3) := by decide +kernel
theorem dX6_join_113 : decode cX6_join 113 = .ok (.aload_n 0, 1) := by decide +kernel
theorem dX6_join_114 : decode cX6_join 114 = .ok (.getfield 93, 3) := by decide +kernel
theorem dX6_join_117 : decode cX6_join 117 = .ok (.iconst 1, 1) := by decide +kernel
theorem dX6_join_118 : decode cX6_join 118 = .ok (.isub, 1) := by decide +kernel
theorem dX6_join_119 : decode cX6_join 119 = .ok (.ireturn, 1) := by decide +kernel
theorem dX6_quest_0 : decode cX6_quest 0 = .ok (.aload_n 0, 1) := by decide +kernel
theorem dX6_quest_1 : decode cX6_quest 1 = .ok (.iload_n 1, 1) := by decide +kernel
theorem dX6_quest_2 : decode cX6_quest 2 = .ok (.iconst 0, 1) := by decide +kernel
theorem dX6_quest_3 : decode cX6_quest 3 = .ok (.bipush 100, 2) := by decide +kernel
theorem dX6_quest_5 : decode cX6_quest 5 = .ok (.invokestatic 89, 3) := by decide +kernel
theorem dX6_quest_8 : decode cX6_quest 8 = .ok (.ifCond .ne 7, 3) := by decide +kernel
theorem dX6_quest_11 : decode cX6_quest 11 = .ok (.iconst 1, 1) := by decide +kernel
theorem dX6_quest_12 : decode cX6_quest 12 = .ok (.goto 16, 3) := by decide +kernel
theorem dX6_quest_15 : decode cX6_quest 15 = .ok (.aload_n 0, 1) := by decide +kernel
theorem dX6_quest_16 : decode cX6_quest 16 = .ok (.getfield 96, 3) := by decide +kernel
theorem dX6_quest_19 : decode cX6_quest 19 = .ok (.iconst 3, 1) := by decide +kernel
theorem dX6_quest_20 : decode cX6_quest 20 = .ok (.if_icmp .ne 7, 3) := by decide +kernel
theorem dX6_quest_23 : decode cX6_quest 23 = .ok (.iconst 2, 1) := by decide +kernel
theorem dX6_quest_24 : decode cX6_quest 24 = .ok (.goto 4, 3) := by decide +kernel
theorem dX6_quest_27 : decode cX6_quest 27 = .ok (.iconst 0, 1) := by decide +kernel
theorem dX6_quest_28 : decode cX6_quest 28 = .ok (.invokevirtual 110, 3) := by decide +kernel
theorem dX6_quest_31 : decode cX6_quest 31 = .ok (.ifCond .ne 5, 3) := by decide +kernel
theorem dX6_quest_34 : decode cX6_quest 34 = .ok (.iconst 0, 1) := by decide +kernel
theorem dX6_quest_35 : decode cX6_quest 35 = .ok (.ireturn, 1) := by decide +kernel
theorem dX6_quest_36 : decode cX6_quest 36 = .ok (.aload_n 0, 1) := by decide +kernel
theorem dX6_quest_37 : decode cX6_quest 37 = .ok (.getfield 49, 3) := by decide +kernel
theorem dX6_quest_40 : decode cX6_quest 40 = .ok (.aload_n 0, 1) := by decide +kernel
theorem dX6_quest_41 : decode cX6_quest 41 = .ok (.getfield 96, 3) := by decide +kernel
theorem dX6_quest_44 : decode cX6_quest 44 = .ok (.iload_n 1, 1) := by decide +kernel
theorem dX6_quest_45 : decode cX6_quest 45 = .ok (.iastore, 1) := by decide +kernel
theorem dX6_quest_46 : decode cX6_quest 46 = .ok (.aload_n 0, 1) := by decide +kernel
theorem dX6_quest_47 : decode cX6_quest 47 = .ok (.dup, 1) := by decide +kernel
theorem dX6_quest_48 : decode cX6_quest 48 = .ok (.getfield 96, 3) := by decide +kernel
theorem dX6_quest_51 : decode cX6_quest 51 = .ok (.iconst 1, 1) := by decide +kernel
theorem dX6_quest_52 : decode cX6_quest 52 = .ok (.iadd, 1) := by decide +kernel
theorem dX6_quest_53 : decode cX6_quest 53 = .ok (.putfield 96, 3) := by decide +kernel
theorem dX6_quest_56 : decode cX6_quest 56 = .ok (.aload_n 0, 1) := by decide +kernel
theorem dX6_quest_57 : decode cX6_quest 57 = .ok (.invokevirtual 113, 3) := by decide +kernel
theorem dX6_quest_60 : decode cX6_quest 60 = .ok (.aload_n 0, 1) := by decide +kernel
theorem dX6_quest_61 : decode cX6_quest 61 = .ok (.getfield 96, 3) := by decide +kernel
theorem dX6_quest_64 : decode cX6_quest 64 = .ok (.iconst 1, 1) := by decide +kernel
theorem dX6_quest_65 : decode cX6_quest 65 = .ok (.isub, 1) := by decide +kernel
theorem dX6_quest_66 : decode cX6_quest 66 = .ok (.ireturn, 1) := by decide +kernel
theorem dX6_stage_0 : decode cX6_stage 0 = .ok (.iload_n 2, 1) := by decide +kernel
theorem dX6_stage_1 : decode cX6_stage 1 = .ok (.iconst 1, 1) := by decide +kernel
theorem dX6_stage_2 : decode cX6_stage 2 = .ok (.if_icmp .ne 10, 3) := by decide +kernel
theorem dX6_stage_5 : decode cX6_stage 5 = .ok (.iload_n 3, 1) := by decide +kernel
theorem dX6_stage_6 : decode cX6_stage 6 = .ok (.invokestatic 116, 3) := by decide +kernel
theorem dX6_stage_9 : decode cX6_stage 9 = .ok (.goto 38, 3) := by decide +kernel
theorem dX6_stage_12 : decode cX6_stage 12 = .ok (.iload_n 2, 1) := by decide +kernel
theorem dX6_stage_13 : decode cX6_stage 13 = .ok (.iconst 3, 1) := by decide +kernel
theorem dX6_stage_14 : decode cX6_stage 14 = .ok (.if_icmp .ne 12, 3) := by decide +kernel
theorem dX6_stage_17 : decode cX6_stage 17 = .ok (.iload_n 3, 1) := by decide +kernel
theorem dX6_stage_18 : decode cX6_stage 18 = .ok (.iconst 0, 1) := by decide +kernel
theorem dX6_stage_19 : decode cX6_stage 19 = .ok (.iconst 3, 1) := by decide +kernel
theorem dX6_stage_20 : decode cX6_stage 20 = .ok (.invokestatic 89, 3) := by decide +kernel
theorem dX6_stage_23 : decode cX6_stage 23 = .ok (.goto 24, 3) := by decide +kernel
theorem dX6_stage_26 : decode cX6_stage 26 = .ok (.iload_n 2, 1) := by decide +kernel
theorem dX6_stage_27 : decode cX6_stage 27 = .ok (.ifCond .eq 8, 3) := by decide +kernel
theorem dX6_stage_30 : decode cX6_stage 30 = .ok (.iload_n 2, 1) := by decide +kernel
theorem dX6_stage_31 : decode cX6_stage 31 = .ok (.iconst 2, 1) := by decide +kernel
theorem dX6_stage_32 : decode cX6_stage 32 = .ok (.if_icmp .ne 10, 3) := by decide +kernel
theorem dX6_stage_35 : decode cX6_stage 35 = .ok (.iload_n 3, 1) := by decide +kernel
theorem dX6_stage_36 : decode cX6_stage 36 = .ok (.invokestatic 106, 3) := by decide +kernel
theorem dX6_stage_39 : decode cX6_stage 39 = .ok (.ifCond .eq 7, 3) := by decide +kernel
theorem dX6_stage_42 : decode cX6_stage 42 = .ok (.iconst 1, 1) := by decide +kernel
theorem dX6_stage_43 : decode cX6_stage 43 = .ok (.goto 4, 3) := by decide +kernel
theorem dX6_stage_46 : decode cX6_stage 46 = .ok (.iconst 0, 1) := by decide +kernel
theorem dX6_stage_47 : decode cX6_stage 47 = .ok (.istore 5, 2) := by decide +kernel
theorem dX6_stage_49 : decode cX6_stage 49 = .ok (.iload_n 2, 1) := by decide +kernel
theorem dX6_stage_50 : decode cX6_stage 50 = .ok (.iconst 1, 1) := by decide +kernel
theorem dX6_stage_51 : decode cX6_stage 51 = .ok (.if_icmp .ne 14, 3) := by decide +kernel
theorem dX6_stage_54 : decode cX6_stage 54 = .ok (.iload 4, 2) := by decide +kernel
theorem dX6_stage_56 : decode cX6_stage 56 = .ok (.iconst 1, 1) := by decide +kernel
theorem dX6_stage_57 : decode cX6_stage 57 = .ok (.bipush 9, 2) := by decide +kernel
theorem dX6_stage_59 : decode cX6_stage 59 = .ok (.invokestatic 89, 3) := by decide +kernel
theorem dX6_stage_62 : decode cX6_stage 62 = .ok (.goto 33, 3) := by decide +kernel
theorem dX6_stage_65 : decode cX6_stage 65 = .ok (.iload_n 2, 1) := by decide +kernel
theorem dX6_stage_66 : decode cX6_stage 66 = .ok (.iconst 2, 1) := by decide +kernel
theorem dX6_stage_67 : decode cX6_stage 67 = .ok (.if_icmp .ne 14, 3) := by decide +kernel
theorem dX6_stage_70 : decode cX6_stage 70 = .ok (.iload 4, 2) := by decide +kernel
theorem dX6_stage_72 : decode cX6_stage 72 = .ok (.iconst 0, 1) := by decide +kernel
theorem dX6_stage_73 : decode cX6_stage 73 = .ok (.bipush 99, 2) := by decide +kernel
theorem dX6_stage_75 : decode cX6_stage 75 = .ok (.invokestatic 89, 3) := by decide +kernel
theorem dX6_stage_78 : decode cX6_stage 78 = .ok (.goto 17, 3) := by decide +kernel
theorem dX6_stage_81 : decode cX6_stage 81 = .ok (.iload_n 2, 1) := by decide +kernel
theorem dX6_stage_82 : decode cX6_stage 82 = .ok (.ifCond .eq 8, 3) := by decide +kernel
theorem dX6_stage_85 : decode cX6_stage 85 = .ok (.iload_n 2, 1) := by decide +kernel
theorem dX6_stage_86 : decode cX6_stage 86 = .ok (.iconst 3, 1) := by decide +kernel
theorem dX6_stage_87 : decode cX6_stage 87 = .ok (.if_icmp .ne 7, 3) := by decide +kernel
theorem dX6_stage_90 : decode cX6_stage 90 = .ok (.iconst 1, 1) := by decide +kernel
theorem dX6_stage_91 : decode cX6_stage 91 = .ok (.goto 4, 3) := by decide +kernel
theorem dX6_stage_94 : decode cX6_stage 94 = .ok (.iconst 0, 1) := by decide +kernel
theorem dX6_stage_95 : decode cX6_stage 95 = .ok (.istore 6, 2) := by decide +kernel
theorem dX6_stage_97 : decode cX6_stage 97 = .ok (.iconst 0, 1) := by decide +kernel
theorem dX6_stage_98 : decode cX6_stage 98 = .ok (.istore 7, 2) := by decide +kernel
theorem dX6_stage_100 : decode cX6_stage 100 = .ok (.iconst 0, 1) := by decide +kernel
theorem dX6_stage_101 : decode cX6_stage 101 = .ok (.istore 8, 2) := by decide +kernel
theorem dX6_stage_103 : decode cX6_stage 103 = .ok (.iload 8, 2) := by decide +kernel
theorem dX6_stage_105 : decode cX6_stage 105 = .ok (.aload_n 0, 1) := by decide +kernel
theorem dX6_stage_106 : decode cX6_stage 106 = .ok (.getfield 93, 3) := by decide +kernel
theorem dX6_stage_109 : decode cX6_stage 109 = .ok (.if_icmp .ge 43, 3) := by decide +kernel
theorem dX6_stage_112 : decode cX6_stage 112 = .ok (.aload_n 0, 1) := by decide +kernel
theorem dX6_stage_113 : decode cX6_stage 113 = .ok (.iload_n 1, 1) := by decide +kernel
theorem dX6_stage_114 : decode cX6_stage 114 = .ok (.invokevirtual 119, 3) := by decide +kernel
theorem dX6_stage_117 : decode cX6_stage 117 = .ok (.ifCond .eq 35, 3) := by decide +kernel
theorem dX6_stage_120 : decode cX6_stage 120 = .ok (.iload 7, 2) := by decide +kernel
theorem dX6_stage_122 : decode cX6_stage 122 = .ok (.ifCond .ne 17, 3) := by decide +kernel
theorem dX6_stage_125 : decode cX6_stage 125 = .ok (.aload_n 0, 1) := by decide +kernel
theorem dX6_stage_126 : decode cX6_stage 126 = .ok (.getfield 64, 3) := by decide +kernel
theorem dX6_stage_129 : decode cX6_stage 129 = .ok (.iconst 3, 1) := by decide +kernel
theorem dX6_stage_130 : decode cX6_stage 130 = .ok (.iload 8, 2) := by decide +kernel
theorem dX6_stage_132 : decode cX6_stage 132 = .ok (.imul, 1) := by decide +kernel
theorem dX6_stage_133 : decode cX6_stage 133 = .ok (.iload_n 1, 1) := by decide +kernel
theorem dX6_stage_134 : decode cX6_stage 134 = .ok (.iadd, 1) := by decide +kernel
theorem dX6_stage_135 : decode cX6_stage 135 = .ok (.iaload, 1) := by decide +kernel
theorem dX6_stage_136 : decode cX6_stage 136 = .ok (.ifCond .le 7, 3) := by decide +kernel
theorem dX6_stage_139 : decode cX6_stage 139 = .ok (.iconst 1, 1) := by decide +kernel
theorem dX6_stage_140 : decode cX6_stage 140 = .ok (.goto 4, 3) := by decide +kernel
theorem dX6_stage_143 : decode cX6_stage 143 = .ok (.iconst 0, 1) := by decide +kernel
theorem dX6_stage_144 : decode cX6_stage 144 = .ok (.istore 7, 2) := by decide +kernel
theorem dX6_stage_146 : decode cX6_stage 146 = .ok (.iinc 8 1, 3) := by decide +kernel
theorem dX6_stage_149 : decode cX6_stage 149 = .ok (.goto (-46), 3) := by decide +kernel
theorem dX6_stage_152 : decode cX6_stage 152 = .ok (.aload_n 0, 1) := by decide +kernel
theorem dX6_stage_153 : decode cX6_stage 153 = .ok (.aload_n 0, 1) := by decide +kernel
theorem dX6_stage_154 : decode cX6_stage 154 = .ok (.iload_n 1, 1) := by decide +kernel
theorem dX6_stage_155 : decode cX6_stage 155 = .ok (.invokevirtual 119, 3) := by decide +kernel
theorem dX6_stage_158 : decode cX6_stage 158 = .ok (.ifCond .eq 8, 3) := by decide +kernel
theorem dX6_stage_161 : decode cX6_stage 161 = .ok (.iload 5, 2) := by decide +kernel
theorem dX6_stage_163 : decode cX6_stage 163 = .ok (.ifCond .ne 7, 3) := by decide +kernel
theorem dX6_stage_166 : decode cX6_stage 166 = .ok (.iconst 1, 1) := by decide +kernel
theorem dX6_stage_167 : decode cX6_stage 167 = .ok (.goto 32, 3) := by decide +kernel
theorem dX6_stage_170 : decode cX6_stage 170 = .ok (.iload 6, 2) := by decide +kernel
theorem dX6_stage_172 : decode cX6_stage 172 = .ok (.ifCond .ne 7, 3) := by decide +kernel
theorem dX6_stage_175 : decode cX6_stage 175 = .ok (.iconst 2, 1) := by decide +kernel
theorem dX6_stage_176 : decode cX6_stage 176 = .ok (.goto 23, 3) := by decide +kernel
theorem dX6_stage_179 : decode cX6_stage 179 = .ok (.aload_n 0, 1) := by decide +kernel
theorem dX6_stage_180 : decode cX6_stage 180 = .ok (.getfield 52, 3) := by decide +kernel
theorem dX6_stage_183 : decode cX6_stage 183 = .ok (.iload_n 1, 1) := by decide +kernel
theorem dX6_stage_184 : decode cX6_stage 184 = .ok (.iaload, 1) := by decide +kernel
theorem dX6_stage_185 : decode cX6_stage 185 = .ok (.iconst 4, 1) := by decide +kernel
theorem dX6_stage_186 : decode cX6_stage 186 = .ok (.if_icmp .eq 8, 3) := by decide +kernel
theorem dX6_stage_189 : decode cX6_stage 189 = .ok (.iload 7, 2) := by decide +kernel
theorem dX6_stage_191 : decode cX6_stage 191 = .ok (.ifCond .eq 7, 3) := by decide +kernel
theorem dX6_stage_194 : decode cX6_stage 194 = .ok (.iconst 3, 1) := by decide +kernel
theorem dX6_stage_195 : decode cX6_stage 195 = .ok (.goto 4, 3) := by decide +kernel
theorem dX6_stage_198 : decode cX6_stage 198 = .ok (.iconst 0, 1) := by decide +kernel
theorem dX6_stage_199 : decode cX6_stage 199 = .ok (.invokevirtual 110, 3) := by decide +kernel
theorem dX6_stage_202 : decode cX6_stage 202 = .ok (.ifCond .ne 5, 3) := by decide +kernel
theorem dX6_stage_205 : decode cX6_stage 205 = .ok (.iconst 0, 1) := by decide +kernel
theorem dX6_stage_206 : decode cX6_stage 206 = .ok (.ireturn, 1) := by decide +kernel
theorem dX6_stage_207 : decode cX6_stage 207 = .ok (.iconst 4, 1) := by decide +kernel
theorem dX6_stage_208 : decode cX6_stage 208 = .ok (.iload_n 1, 1) := by decide +kernel
theorem dX6_stage_209 : decode cX6_stage 209 = .ok (.imul, 1) := by decide +kernel
theorem dX6_stage_210 : decode cX6_stage 210 = .ok (.aload_n 0, 1) := by decide +kernel
theorem dX6_stage_211 : decode cX6_stage 211 = .ok (.getfield 52, 3) := by decide +kernel
theorem dX6_stage_214 : decode cX6_stage 214 = .ok (.iload_n 1, 1) := by decide +kernel
theorem dX6_stage_215 : decode cX6_stage 215 = .ok (.iaload, 1) := by decide +kernel
theorem dX6_stage_216 : decode cX6_stage 216 = .ok (.iadd, 1) := by decide +kernel
theorem dX6_stage_217 : decode cX6_stage 217 = .ok (.istore 8, 2) := by decide +kernel
theorem dX6_stage_219 : decode cX6_stage 219 = .ok (.aload_n 0, 1) := by decide +kernel
theorem dX6_stage_220 : decode cX6_stage 220 = .ok (.getfield 55, 3) := by decide +kernel
theorem dX6_stage_223 : decode cX6_stage 223 = .ok (.iload 8, 2) := by decide +kernel
theorem dX6_stage_225 : decode cX6_stage 225 = .ok (.iload_n 2, 1) := by decide +kernel
theorem dX6_stage_226 : decode cX6_stage 226 = .ok (.iastore, 1) := by decide +kernel
theorem dX6_stage_227 : decode cX6_stage 227 = .ok (.aload_n 0, 1) := by decide +kernel
theorem dX6_stage_228 : decode cX6_stage 228 = .ok (.getfield 58, 3) := by decide +kernel
theorem dX6_stage_231 : decode cX6_stage 231 = .ok (.iload 8, 2) := by decide +kernel
theorem dX6_stage_233 : decode cX6_stage 233 = .ok (.iload_n 3, 1) := by decide +kernel
theorem dX6_stage_234 : decode cX6_stage 234 = .ok (.iastore, 1) := by decide +kernel
theorem dX6_stage_235 : decode cX6_stage 235 = .ok (.aload_n 0, 1) := by decide +kernel
theorem dX6_stage_236 : decode cX6_stage 236 = .ok (.getfield 61, 3) := by decide +kernel
theorem dX6_stage_239 : decode cX6_stage 239 = .ok (.iload 8, 2) := by decide +kernel
theorem dX6_stage_241 : decode cX6_stage 241 = .ok (.iload 4, 2) := by decide +kernel
theorem dX6_stage_243 : decode cX6_stage 243 = .ok (.iastore, 1) := by decide +kernel
theorem dX6_stage_244 : decode cX6_stage 244 = .ok (.aload_n 0, 1) := by decide +kernel
theorem dX6_stage_245 : decode cX6_stage 245 = .ok (.getfield 52, 3) := by decide +kernel
theorem dX6_stage_248 : decode cX6_stage 248 = .ok (.iload_n 1, 1) := by decide +kernel
theorem dX6_stage_249 : decode cX6_stage 249 = .ok (.dup2, 1) := by decide +kernel
theorem dX6_stage_250 : decode cX6_stage 250 = .ok (.iaload, 1) := by decide +kernel
theorem dX6_stage_251 : decode cX6_stage 251 = .ok (.iconst 1, 1) := by decide +kernel
theorem dX6_stage_252 : decode cX6_stage 252 = .ok (.iadd, 1) := by decide +kernel
theorem dX6_stage_253 : decode cX6_stage 253 = .ok (.iastore, 1) := by decide +kernel
theorem dX6_stage_254 : decode cX6_stage 254 = .ok (.aload_n 0, 1) := by decide +kernel
theorem dX6_stage_255 : decode cX6_stage 255 = .ok (.invokevirtual 113, 3) := by decide +kernel
theorem dX6_stage_258 : decode cX6_stage 258 = .ok (.aload_n 0, 1) := by decide +kernel
theorem dX6_stage_259 : decode cX6_stage 259 = .ok (.getfield 52, 3) := by decide +kernel
theorem dX6_stage_262 : decode cX6_stage 262 = .ok (.iload_n 1, 1) := by decide +kernel
theorem dX6_stage_263 : decode cX6_stage 263 = .ok (.iaload, 1) := by decide +kernel
theorem dX6_stage_264 : decode cX6_stage 264 = .ok (.ireturn, 1) := by decide +kernel
theorem dX6_endow_0 : decode cX6_endow 0 = .ok (.aload_n 0, 1) := by decide +kernel
theorem dX6_endow_1 : decode cX6_endow 1 = .ok (.iload_n 1, 1) := by decide +kernel
theorem dX6_endow_2 : decode cX6_endow 2 = .ok (.iconst 1, 1) := by decide +kernel
theorem dX6_endow_3 : decode cX6_endow 3 = .ok (.sipush 1000, 3) := by decide +kernel
theorem dX6_endow_6 : decode cX6_endow 6 = .ok (.invokestatic 89, 3) := by decide +kernel
theorem dX6_endow_9 : decode cX6_endow 9 = .ok (.ifCond .eq 7, 3) := by decide +kernel
theorem dX6_endow_12 : decode cX6_endow 12 = .ok (.iconst 0, 1) := by decide +kernel
theorem dX6_endow_13 : decode cX6_endow 13 = .ok (.goto 4, 3) := by decide +kernel
theorem dX6_endow_16 : decode cX6_endow 16 = .ok (.iconst 1, 1) := by decide +kernel
theorem dX6_endow_17 : decode cX6_endow 17 = .ok (.invokevirtual 110, 3) := by decide +kernel
theorem dX6_endow_20 : decode cX6_endow 20 = .ok (.ifCond .ne 5, 3) := by decide +kernel
theorem dX6_endow_23 : decode cX6_endow 23 = .ok (.iconst 0, 1) := by decide +kernel
theorem dX6_endow_24 : decode cX6_endow 24 = .ok (.ireturn, 1) := by decide +kernel
theorem dX6_endow_25 : decode cX6_endow 25 = .ok (.aload_n 0, 1) := by decide +kernel
theorem dX6_endow_26 : decode cX6_endow 26 = .ok (.dup, 1) := by decide +kernel
theorem dX6_endow_27 : decode cX6_endow 27 = .ok (.getfield 122, 3) := by decide +kernel
theorem dX6_endow_30 : decode cX6_endow 30 = .ok (.iload_n 1, 1) := by decide +kernel
theorem dX6_endow_31 : decode cX6_endow 31 = .ok (.iadd, 1) := by decide +kernel
theorem dX6_endow_32 : decode cX6_endow 32 = .ok (.putfield 122, 3) := by decide +kernel
theorem dX6_endow_35 : decode cX6_endow 35 = .ok (.aload_n 0, 1) := by decide +kernel
theorem dX6_endow_36 : decode cX6_endow 36 = .ok (.invokevirtual 113, 3) := by decide +kernel
theorem dX6_endow_39 : decode cX6_endow 39 = .ok (.aload_n 0, 1) := by decide +kernel
theorem dX6_endow_40 : decode cX6_endow 40 = .ok (.getfield 122, 3) := by decide +kernel
theorem dX6_endow_43 : decode cX6_endow 43 = .ok (.ireturn, 1) := by decide +kernel
theorem dX6_seed_0 : decode cX6_seed 0 = .ok (.aload_n 0, 1) := by decide +kernel
theorem dX6_seed_1 : decode cX6_seed 1 = .ok (.iload_n 1, 1) := by decide +kernel
theorem dX6_seed_2 : decode cX6_seed 2 = .ok (.iconst 0, 1) := by decide +kernel
theorem dX6_seed_3 : decode cX6_seed 3 = .ok (.ldc 125, 2) := by decide +kernel
theorem dX6_seed_5 : decode cX6_seed 5 = .ok (.invokestatic 89, 3) := by decide +kernel
theorem dX6_seed_8 : decode cX6_seed 8 = .ok (.ifCond .eq 7, 3) := by decide +kernel
theorem dX6_seed_11 : decode cX6_seed 11 = .ok (.iconst 0, 1) := by decide +kernel
theorem dX6_seed_12 : decode cX6_seed 12 = .ok (.goto 4, 3) := by decide +kernel
theorem dX6_seed_15 : decode cX6_seed 15 = .ok (.iconst 1, 1) := by decide +kernel
theorem dX6_seed_16 : decode cX6_seed 16 = .ok (.invokevirtual 110, 3) := by decide +kernel
theorem dX6_seed_19 : decode cX6_seed 19 = .ok (.ifCond .eq 12, 3) := by decide +kernel
theorem dX6_seed_22 : decode cX6_seed 22 = .ok (.aload_n 0, 1) := by decide +kernel
theorem dX6_seed_23 : decode cX6_seed 23 = .ok (.iload_n 1, 1) := by decide +kernel
theorem dX6_seed_24 : decode cX6_seed 24 = .ok (.putfield 82, 3) := by decide +kernel
theorem dX6_seed_27 : decode cX6_seed 27 = .ok (.aload_n 0, 1) := by decide +kernel
theorem dX6_seed_28 : decode cX6_seed 28 = .ok (.invokevirtual 113, 3) := by decide +kernel
theorem dX6_seed_31 : decode cX6_seed 31 = .ok (.return_, 1) := by decide +kernel
theorem dX6_isFulfilled_0 : decode cX6_isFulfilled 0 = .ok (.aload_n 0, 1) := by decide +kernel
theorem dX6_isFulfilled_1 : decode cX6_isFulfilled 1 = .ok (.getfield 58, 3) := by decide +kernel
theorem dX6_isFulfilled_4 : decode cX6_isFulfilled 4 = .ok (.iload_n 1, 1) := by decide +kernel
theorem dX6_isFulfilled_5 : decode cX6_isFulfilled 5 = .ok (.iaload, 1) := by decide +kernel
theorem dX6_isFulfilled_6 : decode cX6_isFulfilled 6 = .ok (.istore 5, 2) := by decide +kernel
theorem dX6_isFulfilled_8 : decode cX6_isFulfilled 8 = .ok (.aload_n 0, 1) := by decide +kernel
theorem dX6_isFulfilled_9 : decode cX6_isFulfilled 9 = .ok (.getfield 55, 3) := by decide +kernel
theorem dX6_isFulfilled_12 : decode cX6_isFulfilled 12 = .ok (.iload_n 1, 1) := by decide +kernel
theorem dX6_isFulfilled_13 : decode cX6_isFulfilled 13 = .ok (.iaload, 1) := by decide +kernel
theorem dX6_isFulfilled_14 : decode cX6_isFulfilled 14 = .ok (.iconst 1, 1) := by decide +kernel
theorem dX6_isFulfilled_15 : decode cX6_isFulfilled 15 = .ok (.if_icmp .ne 29, 3) := by decide +kernel
theorem dX6_isFulfilled_18 : decode cX6_isFulfilled 18 = .ok (.aload_n 0, 1) := by decide +kernel
theorem dX6_isFulfilled_19 : decode cX6_isFulfilled 19 = .ok (.getfield 40, 3) := by decide +kernel
theorem dX6_isFulfilled_22 : decode cX6_isFulfilled 22 = .ok (.iconst 5, 1) := by decide +kernel
theorem dX6_isFulfilled_23 : decode cX6_isFulfilled 23 = .ok (.iload_n 2, 1) := by decide +kernel
theorem dX6_isFulfilled_24 : decode cX6_isFulfilled 24 = .ok (.imul, 1) := by decide +kernel
theorem dX6_isFulfilled_25 : decode cX6_isFulfilled 25 = .ok (.iload 5, 2) := by decide +kernel
theorem dX6_isFulfilled_27 : decode cX6_isFulfilled 27 = .ok (.iadd, 1) := by decide +kernel
theorem dX6_isFulfilled_28 : decode cX6_isFulfilled 28 = .ok (.iaload, 1) := by decide +kernel
theorem dX6_isFulfilled_29 : decode cX6_isFulfilled 29 = .ok (.aload_n 0, 1) := by decide +kernel
theorem dX6_isFulfilled_30 : decode cX6_isFulfilled 30 = .ok (.getfield 61, 3) := by decide +kernel
theorem dX6_isFulfilled_33 : decode cX6_isFulfilled 33 = .ok (.iload_n 1, 1) := by decide +kernel
theorem dX6_isFulfilled_34 : decode cX6_isFulfilled 34 = .ok (.iaload, 1) := by decide +kernel
theorem dX6_isFulfilled_35 : decode cX6_isFulfilled 35 = .ok (.if_icmp .lt 7, 3) := by decide +kernel
theorem dX6_isFulfilled_38 : decode cX6_isFulfilled 38 = .ok (.iconst 1, 1) := by decide +kernel
theorem dX6_isFulfilled_39 : decode cX6_isFulfilled 39 = .ok (.goto 4, 3) := by decide +kernel
theorem dX6_isFulfilled_42 : decode cX6_isFulfilled 42 = .ok (.iconst 0, 1) := by decide +kernel
theorem dX6_isFulfilled_43 : decode cX6_isFulfilled 43 = .ok (.ireturn, 1) := by decide +kernel
theorem dX6_isFulfilled_44 : decode cX6_isFulfilled 44 = .ok (.aload_n 0, 1) := by decide +kernel
theorem dX6_isFulfilled_45 : decode cX6_isFulfilled 45 = .ok (.getfield 55, 3) := by decide +kernel
theorem dX6_isFulfilled_48 : decode cX6_isFulfilled 48 = .ok (.iload_n 1, 1) := by decide +kernel
theorem dX6_isFulfilled_49 : decode cX6_isFulfilled 49 = .ok (.iaload, 1) := by decide +kernel
theorem dX6_isFulfilled_50 : decode cX6_isFulfilled 50 = .ok (.iconst 3, 1) := by decide +kernel
theorem dX6_isFulfilled_51 : decode cX6_isFulfilled 51 = .ok (.if_icmp .ne 16, 3) := by decide +kernel
theorem dX6_isFulfilled_54 : decode cX6_isFulfilled 54 = .ok (.iload 4, 2) := by decide +kernel
theorem dX6_isFulfilled_56 : decode cX6_isFulfilled 56 = .ok (.iload 5, 2) := by decide +kernel
theorem dX6_isFulfilled_58 : decode cX6_isFulfilled 58 = .ok (.if_icmp .ne 7, 3) := by decide +kernel
theorem dX6_isFulfilled_61 : decode cX6_isFulfilled 61 = .ok (.iconst 1, 1) := by decide +kernel
theorem dX6_isFulfilled_62 : decode cX6_isFulfilled 62 = .ok (.goto 4, 3) := by decide +kernel
theorem dX6_isFulfilled_65 : decode cX6_isFulfilled 65 = .ok (.iconst 0, 1) := by decide +kernel
theorem dX6_isFulfilled_66 : decode cX6_isFulfilled 66 = .ok (.ireturn, 1) := by decide +kernel
theorem dX6_isFulfilled_67 : decode cX6_isFulfilled 67 = .ok (.aload_n 0, 1) := by decide +kernel
theorem dX6_isFulfilled_68 : decode cX6_isFulfilled 68 = .ok (.getfield 25, 3) := by decide +kernel
theorem dX6_isFulfilled_71 : decode cX6_isFulfilled 71 = .ok (.iload_n 2, 1) := by decide +kernel
theorem dX6_isFulfilled_72 : decode cX6_isFulfilled 72 = .ok (.iaload, 1) := by decide +kernel
theorem dX6_isFulfilled_73 : decode cX6_isFulfilled 73 = .ok (.iload 5, 2) := by decide +kernel
theorem dX6_isFulfilled_75 : decode cX6_isFulfilled 75 = .ok (.if_icmp .ne 26, 3) := by decide +kernel
theorem dX6_isFulfilled_78 : decode cX6_isFulfilled 78 = .ok (.aload_n 0, 1) := by decide +kernel
theorem dX6_isFulfilled_79 : decode cX6_isFulfilled 79 = .ok (.getfield 55, 3) := by decide +kernel
theorem dX6_isFulfilled_82 : decode cX6_isFulfilled 82 = .ok (.iload_n 1, 1) := by decide +kernel
theorem dX6_isFulfilled_83 : decode cX6_isFulfilled 83 = .ok (.iaload, 1) := by decide +kernel
theorem dX6_isFulfilled_84 : decode cX6_isFulfilled 84 = .ok (.ifCond .eq 13, 3) := by decide +kernel
theorem dX6_isFulfilled_87 : decode cX6_isFulfilled 87 = .ok (.iload_n 3, 1) := by decide +kernel
theorem dX6_isFulfilled_88 : decode cX6_isFulfilled 88 = .ok (.aload_n 0, 1) := by decide +kernel
theorem dX6_isFulfilled_89 : decode cX6_isFulfilled 89 = .ok (.getfield 61, 3) := by decide +kernel
theorem dX6_isFulfilled_92 : decode cX6_isFulfilled 92 = .ok (.iload_n 1, 1) := by decide +kernel
theorem dX6_isFulfilled_93 : decode cX6_isFulfilled 93 = .ok (.iaload, 1) := by decide +kernel
theorem dX6_isFulfilled_94 : decode cX6_isFulfilled 94 = .ok (.if_icmp .ne 7, 3) := by decide +kernel
theorem dX6_isFulfilled_97 : decode cX6_isFulfilled 97 = .ok (.iconst 1, 1) := by decide +kernel
theorem dX6_isFulfilled_98 : decode cX6_isFulfilled 98 = .ok (.goto 4, 3) := by decide +kernel
theorem dX6_isFulfilled_101 : decode cX6_isFulfilled 101 = .ok (.iconst 0, 1) := by decide +kernel
theorem dX6_isFulfilled_102 : decode cX6_isFulfilled 102 = .ok (.ireturn, 1) := by decide +kernel
theorem dX6_ends_0 : decode cX6_ends 0 = .ok (.aload_n 0, 1) := by decide +kernel
theorem dX6_ends_1 : decode cX6_ends 1 = .ok (.getfield 37, 3) := by decide +kernel
theorem dX6_ends_4 : decode cX6_ends 4 = .ok (.iload_n 1, 1) := by decide +kernel
theorem dX6_ends_5 : decode cX6_ends 5 = .ok (.dup2, 1) := by decide +kernel
theorem dX6_ends_6 : decode cX6_ends 6 = .ok (.iaload, 1) := by decide +kernel
theorem dX6_ends_7 : decode cX6_ends 7 = .ok (.iload_n 2, 1) := by decide +kernel
theorem dX6_ends_8 : decode cX6_ends 8 = .ok (.iadd, 1) := by decide +kernel
theorem dX6_ends_9 : decode cX6_ends 9 = .ok (.iastore, 1) := by decide +kernel
theorem dX6_ends_10 : decode cX6_ends 10 = .ok (.iconst 0, 1) := by decide +kernel
theorem dX6_ends_11 : decode cX6_ends 11 = .ok (.istore 5, 2) := by decide +kernel
theorem dX6_ends_13 : decode cX6_ends 13 = .ok (.iload 5, 2) := by decide +kernel
theorem dX6_ends_15 : decode cX6_ends 15 = .ok (.aload_n 0, 1) := by decide +kernel
theorem dX6_ends_16 : decode cX6_ends 16 = .ok (.getfield 96, 3) := by decide +kernel
theorem dX6_ends_19 : decode cX6_ends 19 = .ok (.if_icmp .ge 141, 3) := by decide +kernel
theorem dX6_ends_22 : decode cX6_ends 22 = .ok (.iconst 3, 1) := by decide +kernel
theorem dX6_ends_23 : decode cX6_ends 23 = .ok (.iload_n 1, 1) := by decide +kernel
theorem dX6_ends_24 : decode cX6_ends 24 = .ok (.imul, 1) := by decide +kernel
theorem dX6_ends_25 : decode cX6_ends 25 = .ok (.iload 5, 2) := by decide +kernel
theorem dX6_ends_27 : decode cX6_ends 27 = .ok (.iadd, 1) := by decide +kernel
theorem dX6_ends_28 : decode cX6_ends 28 = .ok (.istore 6, 2) := by decide +kernel
theorem dX6_ends_30 : decode cX6_ends 30 = .ok (.aload_n 0, 1) := by decide +kernel
theorem dX6_ends_31 : decode cX6_ends 31 = .ok (.getfield 64, 3) := by decide +kernel
theorem dX6_ends_34 : decode cX6_ends 34 = .ok (.iload 6, 2) := by decide +kernel
theorem dX6_ends_36 : decode cX6_ends 36 = .ok (.iaload, 1) := by decide +kernel
theorem dX6_ends_37 : decode cX6_ends 37 = .ok (.aload_n 0, 1) := by decide +kernel
theorem dX6_ends_38 : decode cX6_ends 38 = .ok (.getfield 52, 3) := by decide +kernel
theorem dX6_ends_41 : decode cX6_ends 41 = .ok (.iload 5, 2) := by decide +kernel
theorem dX6_ends_43 : decode cX6_ends 43 = .ok (.iaload, 1) := by decide +kernel
theorem dX6_ends_44 : decode cX6_ends 44 = .ok (.if_icmp .ge 110, 3) := by decide +kernel
theorem dX6_ends_47 : decode cX6_ends 47 = .ok (.aload_n 0, 1) := by decide +kernel
theorem dX6_ends_48 : decode cX6_ends 48 = .ok (.iconst 4, 1) := by decide +kernel
theorem dX6_ends_49 : decode cX6_ends 49 = .ok (.iload 5, 2) := by decide +kernel
theorem dX6_ends_51 : decode cX6_ends 51 = .ok (.imul, 1) := by decide +kernel
theorem dX6_ends_52 : decode cX6_ends 52 = .ok (.aload_n 0, 1) := by decide +kernel
theorem dX6_ends_53 : decode cX6_ends 53 = .ok (.getfield 64, 3) := by decide +kernel
theorem dX6_ends_56 : decode cX6_ends 56 = .ok (.iload 6, 2) := by decide +kernel
theorem dX6_ends_58 : decode cX6_ends 58 = .ok (.iaload, 1) := by decide +kernel
theorem dX6_ends_59 : decode cX6_ends 59 = .ok (.iadd, 1) := by decide +kernel
theorem dX6_ends_60 : decode cX6_ends 60 = .ok (.iload_n 1, 1) := by decide +kernel
theorem dX6_ends_61 : decode cX6_ends 61 = .ok (.iload_n 3, 1) := by decide +kernel
theorem dX6_ends_62 : decode cX6_ends 62 = .ok (.iload 4, 2) := by decide +kernel
theorem dX6_ends_64 : decode cX6_ends 64 = .ok (.invokevirtual 126, 3) := by decide +kernel
theorem dX6_ends_67 : decode cX6_ends 67 = .ok (.ifCond .eq 87, 3) := by decide +kernel
theorem dX6_ends_70 : decode cX6_ends 70 = .ok (.aload_n 0, 1) := by decide +kernel
theorem dX6_ends_71 : decode cX6_ends 71 = .ok (.getfield 64, 3) := by decide +kernel
theorem dX6_ends_74 : decode cX6_ends 74 = .ok (.iload 6, 2) := by decide +kernel
theorem dX6_ends_76 : decode cX6_ends 76 = .ok (.dup2, 1) := by decide +kernel
theorem dX6_ends_77 : decode cX6_ends 77 = .ok (.iaload, 1) := by decide +kernel
theorem dX6_ends_78 : decode cX6_ends 78 = .ok (.iconst 1, 1) := by decide +kernel
theorem dX6_ends_79 : decode cX6_ends 79 = .ok (.iadd, 1) := by decide +kernel
theorem dX6_ends_80 : decode cX6_ends 80 = .ok (.iastore, 1) := by decide +kernel
theorem dX6_ends_81 : decode cX6_ends 81 = .ok (.aload_n 0, 1) := by decide +kernel
theorem dX6_ends_82 : decode cX6_ends 82 = .ok (.getfield 64, 3) := by decide +kernel
theorem dX6_ends_85 : decode cX6_ends 85 = .ok (.iload 6, 2) := by decide +kernel
theorem dX6_ends_87 : decode cX6_ends 87 = .ok (.iaload, 1) := by decide +kernel
theorem dX6_ends_88 : decode cX6_ends 88 = .ok (.aload_n 0, 1) := by decide +kernel
theorem dX6_ends_89 : decode cX6_ends 89 = .ok (.getfield 52, 3) := by decide +kernel
theorem dX6_ends_92 : decode cX6_ends 92 = .ok (.iload 5, 2) := by decide +kernel
theorem dX6_ends_94 : decode cX6_ends 94 = .ok (.iaload, 1) := by decide +kernel
theorem dX6_ends_95 : decode cX6_ends 95 = .ok (.if_icmp .ge 7, 3) := by decide +kernel
theorem dX6_ends_98 : decode cX6_ends 98 = .ok (.iconst 0, 1) := by decide +kernel
theorem dX6_ends_99 : decode cX6_ends 99 = .ok (.goto 31, 3) := by decide +kernel
theorem dX6_ends_102 : decode cX6_ends 102 = .ok (.aload_n 0, 1) := by decide +kernel
theorem dX6_ends_103 : decode cX6_ends 103 = .ok (.getfield 49, 3) := by decide +kernel
theorem dX6_ends_106 : decode cX6_ends 106 = .ok (.iload 5, 2) := by decide +kernel
theorem dX6_ends_108 : decode cX6_ends 108 = .ok (.iaload, 1) := by decide +kernel
theorem dX6_ends_109 : decode cX6_ends 109 = .ok (.aload_n 0, 1) := by decide +kernel
theorem dX6_ends_110 : decode cX6_ends 110 = .ok (.getfield 122, 3) := by decide +kernel
theorem dX6_ends_113 : decode cX6_ends 113 = .ok (.if_icmp .ge 13, 3) := by decide +kernel
theorem dX6_ends_116 : decode cX6_ends 116 = .ok (.aload_n 0, 1) := by decide +kernel
theorem dX6_ends_117 : decode cX6_ends 117 = .ok (.getfield 49, 3) := by decide +kernel
theorem dX6_ends_120 : decode cX6_ends 120 = .ok (.iload 5, 2) := by decide +kernel
theorem dX6_ends_122 : decode cX6_ends 122 = .ok (.iaload, 1) := by decide +kernel
theorem dX6_ends_123 : decode cX6_ends 123 = .ok (.goto 7, 3) := by decide +kernel
theorem dX6_ends_126 : decode cX6_ends 126 = .ok (.aload_n 0, 1) := by decide +kernel
theorem dX6_ends_127 : decode cX6_ends 127 = .ok (.getfield 122, 3) := by decide +kernel
theorem dX6_ends_130 : decode cX6_ends 130 = .ok (.istore 7, 2) := by decide +kernel
theorem dX6_ends_132 : decode cX6_ends 132 = .ok (.aload_n 0, 1) := by decide +kernel
theorem dX6_ends_133 : decode cX6_ends 133 = .ok (.getfield 28, 3) := by decide +kernel
theorem dX6_ends_136 : decode cX6_ends 136 = .ok (.iload_n 1, 1) := by decide +kernel
theorem dX6_ends_137 : decode cX6_ends 137 = .ok (.dup2, 1) := by decide +kernel
theorem dX6_ends_138 : decode cX6_ends 138 = .ok (.iaload, 1) := by decide +kernel
theorem dX6_ends_139 : decode cX6_ends 139 = .ok (.iload 7, 2) := by decide +kernel
theorem dX6_ends_141 : decode cX6_ends 141 = .ok (.iadd, 1) := by decide +kernel
theorem dX6_ends_142 : decode cX6_ends 142 = .ok (.iastore, 1) := by decide +kernel
theorem dX6_ends_143 : decode cX6_ends 143 = .ok (.aload_n 0, 1) := by decide +kernel
theorem dX6_ends_144 : decode cX6_ends 144 = .ok (.dup, 1) := by decide +kernel
theorem dX6_ends_145 : decode cX6_ends 145 = .ok (.getfield 122, 3) := by decide +kernel
theorem dX6_ends_148 : decode cX6_ends 148 = .ok (.iload 7, 2) := by decide +kernel
theorem dX6_ends_150 : decode cX6_ends 150 = .ok (.isub, 1) := by decide +kernel
theorem dX6_ends_151 : decode cX6_ends 151 = .ok (.putfield 122, 3) := by decide +kernel
theorem dX6_ends_154 : decode cX6_ends 154 = .ok (.iinc 5 1, 3) := by decide +kernel
theorem dX6_ends_157 : decode cX6_ends 157 = .ok (.goto (-144), 3) := by decide +kernel
theorem dX6_ends_160 : decode cX6_ends 160 = .ok (.aload_n 0, 1) := by decide +kernel
theorem dX6_ends_161 : decode cX6_ends 161 = .ok (.invokevirtual 113, 3) := by decide +kernel
theorem dX6_ends_164 : decode cX6_ends 164 = .ok (.return_, 1) := by decide +kernel
theorem dX6_go_0 : decode cX6_go 0 = .ok (.aload_n 0, 1) := by decide +kernel
theorem dX6_go_1 : decode cX6_go 1 = .ok (.invokevirtual 102, 3) := by decide +kernel
theorem dX6_go_4 : decode cX6_go 4 = .ok (.istore_n 2, 1) := by decide +kernel
theorem dX6_go_5 : decode cX6_go 5 = .ok (.aload_n 0, 1) := by decide +kernel
theorem dX6_go_6 : decode cX6_go 6 = .ok (.iload_n 1, 1) := by decide +kernel
theorem dX6_go_7 : decode cX6_go 7 = .ok (.iconst 0, 1) := by decide +kernel
theorem dX6_go_8 : decode cX6_go 8 = .ok (.iconst 3, 1) := by decide +kernel
theorem dX6_go_9 : decode cX6_go 9 = .ok (.invokestatic 89, 3) := by decide +kernel
theorem dX6_go_12 : decode cX6_go 12 = .ok (.ifCond .ne 7, 3) := by decide +kernel
theorem dX6_go_15 : decode cX6_go 15 = .ok (.iconst 1, 1) := by decide +kernel
theorem dX6_go_16 : decode cX6_go 16 = .ok (.goto 32, 3) := by decide +kernel
theorem dX6_go_19 : decode cX6_go 19 = .ok (.iload_n 2, 1) := by decide +kernel
theorem dX6_go_20 : decode cX6_go 20 = .ok (.iconst (-1), 1) := by decide +kernel
theorem dX6_go_21 : decode cX6_go 21 = .ok (.if_icmp .eq 22, 3) := by decide +kernel
theorem dX6_go_24 : decode cX6_go 24 = .ok (.aload_n 0, 1) := by decide +kernel
theorem dX6_go_25 : decode cX6_go 25 = .ok (.getfield 7, 3) := by decide +kernel
theorem dX6_go_28 : decode cX6_go 28 = .ok (.iconst 4, 1) := by decide +kernel
theorem dX6_go_29 : decode cX6_go 29 = .ok (.aload_n 0, 1) := by decide +kernel
theorem dX6_go_30 : decode cX6_go 30 = .ok (.getfield 25, 3) := by decide +kernel
theorem dX6_go_33 : decode cX6_go 33 = .ok (.iload_n 2, 1) := by decide +kernel
theorem dX6_go_34 : decode cX6_go 34 = .ok (.iaload, 1) := by decide +kernel
theorem dX6_go_35 : decode cX6_go 35 = .ok (.imul, 1) := by decide +kernel
theorem dX6_go_36 : decode cX6_go 36 = .ok (.iload_n 1, 1) := by decide +kernel
theorem dX6_go_37 : decode cX6_go 37 = .ok (.iadd, 1) := by decide +kernel
theorem dX6_go_38 : decode cX6_go 38 = .ok (.iaload, 1) := by decide +kernel
theorem dX6_go_39 : decode cX6_go 39 = .ok (.iconst (-1), 1) := by decide +kernel
theorem dX6_go_40 : decode cX6_go 40 = .ok (.if_icmp .ne 7, 3) := by decide +kernel
theorem dX6_go_43 : decode cX6_go 43 = .ok (.iconst 2, 1) := by decide +kernel
theorem dX6_go_44 : decode cX6_go 44 = .ok (.goto 4, 3) := by decide +kernel
theorem dX6_go_47 : decode cX6_go 47 = .ok (.iconst 0, 1) := by decide +kernel
theorem dX6_go_48 : decode cX6_go 48 = .ok (.invokevirtual 110, 3) := by decide +kernel
theorem dX6_go_51 : decode cX6_go 51 = .ok (.ifCond .ne 5, 3) := by decide +kernel
theorem dX6_go_54 : decode cX6_go 54 = .ok (.iconst 0, 1) := by decide +kernel
theorem dX6_go_55 : decode cX6_go 55 = .ok (.ireturn, 1) := by decide +kernel
theorem dX6_go_56 : decode cX6_go 56 = .ok (.aload_n 0, 1) := by decide +kernel
theorem dX6_go_57 : decode cX6_go 57 = .ok (.getfield 25, 3) := by decide +kernel
theorem dX6_go_60 : decode cX6_go 60 = .ok (.iload_n 2, 1) := by decide +kernel
theorem dX6_go_61 : decode cX6_go 61 = .ok (.aload_n 0, 1) := by decide +kernel
theorem dX6_go_62 : decode cX6_go 62 = .ok (.getfield 7, 3) := by decide +kernel
theorem dX6_go_65 : decode cX6_go 65 = .ok (.iconst 4, 1) := by decide +kernel
theorem dX6_go_66 : decode cX6_go 66 = .ok (.aload_n 0, 1) := by decide +kernel
theorem dX6_go_67 : decode cX6_go 67 = .ok (.getfield 25, 3) := by decide +kernel
theorem dX6_go_70 : decode cX6_go 70 = .ok (.iload_n 2, 1) := by decide +kernel
theorem dX6_go_71 : decode cX6_go 71 = .ok (.iaload, 1) := by decide +kernel
theorem dX6_go_72 : decode cX6_go 72 = .ok (.imul, 1) := by decide +kernel
theorem dX6_go_73 : decode cX6_go 73 = .ok (.iload_n 1, 1) := by decide +kernel
theorem dX6_go_74 : decode cX6_go 74 = .ok (.iadd, 1) := by decide +kernel
theorem dX6_go_75 : decode cX6_go 75 = .ok (.iaload, 1) := by decide +kernel
theorem dX6_go_76 : decode cX6_go 76 = .ok (.iastore, 1) := by decide +kernel
theorem dX6_go_77 : decode cX6_go 77 = .ok (.aload_n 0, 1) := by decide +kernel
theorem dX6_go_78 : decode cX6_go 78 = .ok (.iload_n 2, 1) := by decide +kernel
theorem dX6_go_79 : decode cX6_go 79 = .ok (.iconst 2, 1) := by decide +kernel
theorem dX6_go_80 : decode cX6_go 80 = .ok (.iconst (-1), 1) := by decide +kernel
theorem dX6_go_81 : decode cX6_go 81 = .ok (.iconst (-1), 1) := by decide +kernel
theorem dX6_go_82 : decode cX6_go 82 = .ok (.invokevirtual 130, 3) := by decide +kernel
theorem dX6_go_85 : decode cX6_go 85 = .ok (.aload_n 0, 1) := by decide +kernel
theorem dX6_go_86 : decode cX6_go 86 = .ok (.getfield 25, 3) := by decide +kernel
theorem dX6_go_89 : decode cX6_go 89 = .ok (.iload_n 2, 1) := by decide +kernel
theorem dX6_go_90 : decode cX6_go 90 = .ok (.iaload, 1) := by decide +kernel
theorem dX6_go_91 : decode cX6_go 91 = .ok (.ireturn, 1) := by decide +kernel
theorem dX6_hears_0 : decode cX6_hears 0 = .ok (.iconst 5, 1) := by decide +kernel
theorem dX6_hears_1 : decode cX6_hears 1 = .ok (.istore 4, 2) := by decide +kernel
theorem dX6_hears_3 : decode cX6_hears 3 = .ok (.iload 4, 2) := by decide +kernel
theorem dX6_hears_5 : decode cX6_hears 5 = .ok (.ifCond .le 35, 3) := by decide +kernel
theorem dX6_hears_8 : decode cX6_hears 8 = .ok (.aload_n 0, 1) := by decide +kernel
theorem dX6_hears_9 : decode cX6_hears 9 = .ok (.getfield 46, 3) := by decide +kernel
theorem dX6_hears_12 : decode cX6_hears 12 = .ok (.bipush 6, 2) := by decide +kernel
theorem dX6_hears_14 : decode cX6_hears 14 = .ok (.iload_n 1, 1) := by decide +kernel
theorem dX6_hears_15 : decode cX6_hears 15 = .ok (.imul, 1) := by decide +kernel
theorem dX6_hears_16 : decode cX6_hears 16 = .ok (.iload 4, 2) := by decide +kernel
theorem dX6_hears_18 : decode cX6_hears 18 = .ok (.iadd, 1) := by decide +kernel
theorem dX6_hears_19 : decode cX6_hears 19 = .ok (.aload_n 0, 1) := by decide +kernel
theorem dX6_hears_20 : decode cX6_hears 20 = .ok (.getfield 46, 3) := by decide +kernel
theorem dX6_hears_23 : decode cX6_hears 23 = .ok (.bipush 6, 2) := by decide +kernel
theorem dX6_hears_25 : decode cX6_hears 25 = .ok (.iload_n 1, 1) := by decide +kernel
theorem dX6_hears_26 : decode cX6_hears 26 = .ok (.imul, 1) := by decide +kernel
theorem dX6_hears_27 : decode cX6_hears 27 = .ok (.iload 4, 2) := by decide +kernel
theorem dX6_hears_29 : decode cX6_hears 29 = .ok (.iadd, 1) := by decide +kernel
theorem dX6_hears_30 : decode cX6_hears 30 = .ok (.iconst 1, 1) := by decide +kernel
theorem dX6_hears_31 : decode cX6_hears 31 = .ok (.isub, 1) := by decide +kernel
theorem dX6_hears_32 : decode cX6_hears 32 = .ok (.iaload, 1) := by decide +kernel
theorem dX6_hears_33 : decode cX6_hears 33 = .ok (.iastore, 1) := by decide +kernel
theorem dX6_hears_34 : decode cX6_hears 34 = .ok (.iinc 4 (-1), 3) := by decide +kernel
theorem dX6_hears_37 : decode cX6_hears 37 = .ok (.goto (-34), 3) := by decide +kernel
theorem dX6_hears_40 : decode cX6_hears 40 = .ok (.aload_n 0, 1) := by decide +kernel
theorem dX6_hears_41 : decode cX6_hears 41 = .ok (.getfield 46, 3) := by decide +kernel
theorem dX6_hears_44 : decode cX6_hears 44 = .ok (.bipush 6, 2) := by decide +kernel
theorem dX6_hears_46 : decode cX6_hears 46 = .ok (.iload_n 1, 1) := by decide +kernel
theorem dX6_hears_47 : decode cX6_hears 47 = .ok (.imul, 1) := by decide +kernel
theorem dX6_hears_48 : decode cX6_hears 48 = .ok (.bipush 100, 2) := by decide +kernel
theorem dX6_hears_50 : decode cX6_hears 50 = .ok (.iload_n 2, 1) := by decide +kernel
theorem dX6_hears_51 : decode cX6_hears 51 = .ok (.imul, 1) := by decide +kernel
theorem dX6_hears_52 : decode cX6_hears 52 = .ok (.iload_n 3, 1) := by decide +kernel
theorem dX6_hears_53 : decode cX6_hears 53 = .ok (.iadd, 1) := by decide +kernel
theorem dX6_hears_54 : decode cX6_hears 54 = .ok (.iastore, 1) := by decide +kernel
theorem dX6_hears_55 : decode cX6_hears 55 = .ok (.aload_n 0, 1) := by decide +kernel
theorem dX6_hears_56 : decode cX6_hears 56 = .ok (.getfield 43, 3) := by decide +kernel
theorem dX6_hears_59 : decode cX6_hears 59 = .ok (.iload_n 1, 1) := by decide +kernel
theorem dX6_hears_60 : decode cX6_hears 60 = .ok (.dup2, 1) := by decide +kernel
theorem dX6_hears_61 : decode cX6_hears 61 = .ok (.iaload, 1) := by decide +kernel
theorem dX6_hears_62 : decode cX6_hears 62 = .ok (.aload_n 0, 1) := by decide +kernel
theorem dX6_hears_63 : decode cX6_hears 63 = .ok (.getfield 43, 3) := by decide +kernel
theorem dX6_hears_66 : decode cX6_hears 66 = .ok (.iload_n 1, 1) := by decide +kernel
theorem dX6_hears_67 : decode cX6_hears 67 = .ok (.iaload, 1) := by decide +kernel
theorem dX6_hears_68 : decode cX6_hears 68 = .ok (.bipush 6, 2) := by decide +kernel
theorem dX6_hears_70 : decode cX6_hears 70 = .ok (.if_icmp .ge 7, 3) := by decide +kernel
theorem dX6_hears_73 : decode cX6_hears 73 = .ok (.iconst 1, 1) := by decide +kernel
theorem dX6_hears_74 : decode cX6_hears 74 = .ok (.goto 4, 3) := by decide +kernel
theorem dX6_hears_77 : decode cX6_hears 77 = .ok (.iconst 0, 1) := by decide +kernel
theorem dX6_hears_78 : decode cX6_hears 78 = .ok (.iadd, 1) := by decide +kernel
theorem dX6_hears_79 : decode cX6_hears 79 = .ok (.iastore, 1) := by decide +kernel
theorem dX6_hears_80 : decode cX6_hears 80 = .ok (.return_, 1) := by decide +kernel
theorem dX6_isNextTo_0 : decode cX6_isNextTo 0 = .ok (.aload_n 0, 1) := by decide +kernel
theorem dX6_isNextTo_1 : decode cX6_isNextTo 1 = .ok (.getfield 7, 3) := by decide +kernel
theorem dX6_isNextTo_4 : decode cX6_isNextTo 4 = .ok (.iconst 4, 1) := by decide +kernel
theorem dX6_isNextTo_5 : decode cX6_isNextTo 5 = .ok (.iload_n 1, 1) := by decide +kernel
theorem dX6_isNextTo_6 : decode cX6_isNextTo 6 = .ok (.imul, 1) := by decide +kernel
theorem dX6_isNextTo_7 : decode cX6_isNextTo 7 = .ok (.iaload, 1) := by decide +kernel
theorem dX6_isNextTo_8 : decode cX6_isNextTo 8 = .ok (.iload_n 2, 1) := by decide +kernel
theorem dX6_isNextTo_9 : decode cX6_isNextTo 9 = .ok (.if_icmp .eq 45, 3) := by decide +kernel
theorem dX6_isNextTo_12 : decode cX6_isNextTo 12 = .ok (.aload_n 0, 1) := by decide +kernel
theorem dX6_isNextTo_13 : decode cX6_isNextTo 13 = .ok (.getfield 7, 3) := by decide +kernel
theorem dX6_isNextTo_16 : decode cX6_isNextTo 16 = .ok (.iconst 4, 1) := by decide +kernel
theorem dX6_isNextTo_17 : decode cX6_isNextTo 17 = .ok (.iload_n 1, 1) := by decide +kernel
theorem dX6_isNextTo_18 : decode cX6_isNextTo 18 = .ok (.imul, 1) := by decide +kernel
theorem dX6_isNextTo_19 : decode cX6_isNextTo 19 = .ok (.iconst 1, 1) := by decide +kernel
theorem dX6_isNextTo_20 : decode cX6_isNextTo 20 = .ok (.iadd, 1) := by decide +kernel
theorem dX6_isNextTo_21 : decode cX6_isNextTo 21 = .ok (.iaload, 1) := by decide +kernel
theorem dX6_isNextTo_22 : decode cX6_isNextTo 22 = .ok (.iload_n 2, 1) := by decide +kernel
theorem dX6_isNextTo_23 : decode cX6_isNextTo 23 = .ok (.if_icmp .eq 31, 3) := by decide +kernel
theorem dX6_isNextTo_26 : decode cX6_isNextTo 26 = .ok (.aload_n 0, 1) := by decide +kernel
theorem dX6_isNextTo_27 : decode cX6_isNextTo 27 = .ok (.getfield 7, 3) := by decide +kernel
theorem dX6_isNextTo_30 : decode cX6_isNextTo 30 = .ok (.iconst 4, 1) := by decide +kernel
theorem dX6_isNextTo_31 : decode cX6_isNextTo 31 = .ok (.iload_n 1, 1) := by decide +kernel
theorem dX6_isNextTo_32 : decode cX6_isNextTo 32 = .ok (.imul, 1) := by decide +kernel
theorem dX6_isNextTo_33 : decode cX6_isNextTo 33 = .ok (.iconst 2, 1) := by decide +kernel
theorem dX6_isNextTo_34 : decode cX6_isNextTo 34 = .ok (.iadd, 1) := by decide +kernel
theorem dX6_isNextTo_35 : decode cX6_isNextTo 35 = .ok (.iaload, 1) := by decide +kernel
theorem dX6_isNextTo_36 : decode cX6_isNextTo 36 = .ok (.iload_n 2, 1) := by decide +kernel
theorem dX6_isNextTo_37 : decode cX6_isNextTo 37 = .ok (.if_icmp .eq 17, 3) := by decide +kernel
theorem dX6_isNextTo_40 : decode cX6_isNextTo 40 = .ok (.aload_n 0, 1) := by decide +kernel
theorem dX6_isNextTo_41 : decode cX6_isNextTo 41 = .ok (.getfield 7, 3) := by decide +kernel
theorem dX6_isNextTo_44 : decode cX6_isNextTo 44 = .ok (.iconst 4, 1) := by decide +kernel
theorem dX6_isNextTo_45 : decode cX6_isNextTo 45 = .ok (.iload_n 1, 1) := by decide +kernel
theorem dX6_isNextTo_46 : decode cX6_isNextTo 46 = .ok (.imul, 1) := by decide +kernel
theorem dX6_isNextTo_47 : decode cX6_isNextTo 47 = .ok (.iconst 3, 1) := by decide +kernel
theorem dX6_isNextTo_48 : decode cX6_isNextTo 48 = .ok (.iadd, 1) := by decide +kernel
theorem dX6_isNextTo_49 : decode cX6_isNextTo 49 = .ok (.iaload, 1) := by decide +kernel
theorem dX6_isNextTo_50 : decode cX6_isNextTo 50 = .ok (.iload_n 2, 1) := by decide +kernel
theorem dX6_isNextTo_51 : decode cX6_isNextTo 51 = .ok (.if_icmp .ne 7, 3) := by decide +kernel
theorem dX6_isNextTo_54 : decode cX6_isNextTo 54 = .ok (.iconst 1, 1) := by decide +kernel
theorem dX6_isNextTo_55 : decode cX6_isNextTo 55 = .ok (.goto 4, 3) := by decide +kernel
theorem dX6_isNextTo_58 : decode cX6_isNextTo 58 = .ok (.iconst 0, 1) := by decide +kernel
theorem dX6_isNextTo_59 : decode cX6_isNextTo 59 = .ok (.ireturn, 1) := by decide +kernel
theorem dX6_speaks_0 : decode cX6_speaks 0 = .ok (.aload_n 0, 1) := by decide +kernel
theorem dX6_speaks_1 : decode cX6_speaks 1 = .ok (.invokevirtual 102, 3) := by decide +kernel
theorem dX6_speaks_4 : decode cX6_speaks 4 = .ok (.istore_n 3, 1) := by decide +kernel
theorem dX6_speaks_5 : decode cX6_speaks 5 = .ok (.aload_n 0, 1) := by decide +kernel
theorem dX6_speaks_6 : decode cX6_speaks 6 = .ok (.iload_n 1, 1) := by decide +kernel
theorem dX6_speaks_7 : decode cX6_speaks 7 = .ok (.iconst 0, 1) := by decide +kernel
theorem dX6_speaks_8 : decode cX6_speaks 8 = .ok (.bipush 99, 2) := by decide +kernel
theorem dX6_speaks_10 : decode cX6_speaks 10 = .ok (.invokestatic 89, 3) := by decide +kernel
theorem dX6_speaks_13 : decode cX6_speaks 13 = .ok (.ifCond .ne 7, 3) := by decide +kernel
theorem dX6_speaks_16 : decode cX6_speaks 16 = .ok (.iconst 1, 1) := by decide +kernel
theorem dX6_speaks_17 : decode cX6_speaks 17 = .ok (.goto 13, 3) := by decide +kernel
theorem dX6_speaks_20 : decode cX6_speaks 20 = .ok (.iload_n 3, 1) := by decide +kernel
theorem dX6_speaks_21 : decode cX6_speaks 21 = .ok (.iconst (-1), 1) := by decide +kernel
theorem dX6_speaks_22 : decode cX6_speaks 22 = .ok (.if_icmp .ne 7, 3) := by decide +kernel
theorem dX6_speaks_25 : decode cX6_speaks 25 = .ok (.iconst 2, 1) := by decide +kernel
theorem dX6_speaks_26 : decode cX6_speaks 26 = .ok (.goto 4, 3) := by decide +kernel
theorem dX6_speaks_29 : decode cX6_speaks 29 = .ok (.iconst 0, 1) := by decide +kernel
theorem dX6_speaks_30 : decode cX6_speaks 30 = .ok (.invokevirtual 110, 3) := by decide +kernel
theorem dX6_speaks_33 : decode cX6_speaks 33 = .ok (.ifCond .ne 5, 3) := by decide +kernel
theorem dX6_speaks_36 : decode cX6_speaks 36 = .ok (.iconst 0, 1) := by decide +kernel
theorem dX6_speaks_37 : decode cX6_speaks 37 = .ok (.ireturn, 1) := by decide +kernel
theorem dX6_speaks_38 : decode cX6_speaks 38 = .ok (.iconst 0, 1) := by decide +kernel
theorem dX6_speaks_39 : decode cX6_speaks 39 = .ok (.istore 4, 2) := by decide +kernel
theorem dX6_speaks_41 : decode cX6_speaks 41 = .ok (.iconst 0, 1) := by decide +kernel
theorem dX6_speaks_42 : decode cX6_speaks 42 = .ok (.istore 5, 2) := by decide +kernel
theorem dX6_speaks_44 : decode cX6_speaks 44 = .ok (.iload 5, 2) := by decide +kernel
theorem dX6_speaks_46 : decode cX6_speaks 46 = .ok (.aload_n 0, 1) := by decide +kernel
theorem dX6_speaks_47 : decode cX6_speaks 47 = .ok (.getfield 93, 3) := by decide +kernel
theorem dX6_speaks_50 : decode cX6_speaks 50 = .ok (.if_icmp .ge 66, 3) := by decide +kernel
theorem dX6_speaks_53 : decode cX6_speaks 53 = .ok (.iload 5, 2) := by decide +kernel
theorem dX6_speaks_55 : decode cX6_speaks 55 = .ok (.iload_n 3, 1) := by decide +kernel
theorem dX6_speaks_56 : decode cX6_speaks 56 = .ok (.if_icmp .eq 54, 3) := by decide +kernel
theorem dX6_speaks_59 : decode cX6_speaks 59 = .ok (.aload_n 0, 1) := by decide +kernel
theorem dX6_speaks_60 : decode cX6_speaks 60 = .ok (.getfield 25, 3) := by decide +kernel
theorem dX6_speaks_63 : decode cX6_speaks 63 = .ok (.iload 5, 2) := by decide +kernel
theorem dX6_speaks_65 : decode cX6_speaks 65 = .ok (.iaload, 1) := by decide +kernel
theorem dX6_speaks_66 : decode cX6_speaks 66 = .ok (.aload_n 0, 1) := by decide +kernel
theorem dX6_speaks_67 : decode cX6_speaks 67 = .ok (.getfield 25, 3) := by decide +kernel
theorem dX6_speaks_70 : decode cX6_speaks 70 = .ok (.iload_n 3, 1) := by decide +kernel
theorem dX6_speaks_71 : decode cX6_speaks 71 = .ok (.iaload, 1) := by decide +kernel
theorem dX6_speaks_72 : decode cX6_speaks 72 = .ok (.if_icmp .eq 27, 3) := by decide +kernel
theorem dX6_speaks_75 : decode cX6_speaks 75 = .ok (.iload_n 2, 1) := by decide +kernel
theorem dX6_speaks_76 : decode cX6_speaks 76 = .ok (.ifCond .eq 34, 3) := by decide +kernel
theorem dX6_speaks_79 : decode cX6_speaks 79 = .ok (.aload_n 0, 1) := by decide +kernel
theorem dX6_speaks_80 : decode cX6_speaks 80 = .ok (.aload_n 0, 1) := by decide +kernel
theorem dX6_speaks_81 : decode cX6_speaks 81 = .ok (.getfield 25, 3) := by decide +kernel
theorem dX6_speaks_84 : decode cX6_speaks 84 = .ok (.iload_n 3, 1) := by decide +kernel
theorem dX6_speaks_85 : decode cX6_speaks 85 = .ok (.iaload, 1) := by decide +kernel
theorem dX6_speaks_86 : decode cX6_speaks 86 = .ok (.aload_n 0, 1) := by decide +kernel
theorem dX6_speaks_87 : decode cX6_speaks 87 = .ok (.getfield 25, 3) := by decide +kernel
theorem dX6_speaks_90 : decode cX6_speaks 90 = .ok (.iload 5, 2) := by decide +kernel
theorem dX6_speaks_92 : decode cX6_speaks 92 = .ok (.iaload, 1) := by decide +kernel
theorem dX6_speaks_93 : decode cX6_speaks 93 = .ok (.invokevirtual 134, 3) := by decide +kernel
theorem dX6_speaks_96 : decode cX6_speaks 96 = .ok (.ifCond .eq 14, 3) := by decide +kernel
theorem dX6_speaks_99 : decode cX6_speaks 99 = .ok (.aload_n 0, 1) := by decide +kernel
theorem dX6_speaks_100 : decode cX6_speaks 100 = .ok (.iload 5, 2) := by decide +kernel
theorem dX6_speaks_102 : decode cX6_speaks 102 = .ok (.iload_n 3, 1) := by decide +kernel
theorem dX6_speaks_103 : decode cX6_speaks 103 = .ok (.iload_n 1, 1) := by decide +kernel
theorem dX6_speaks_104 : decode cX6_speaks 104 = .ok (.invokevirtual 138, 3) := by decide +kernel
theorem dX6_speaks_107 : decode cX6_speaks 107 = .ok (.iinc 4 1, 3) := by decide +kernel
theorem dX6_speaks_110 : decode cX6_speaks 110 = .ok (.iinc 5 1, 3) := by decide +kernel
theorem dX6_speaks_113 : decode cX6_speaks 113 = .ok (.goto (-69), 3) := by decide +kernel
theorem dX6_speaks_116 : decode cX6_speaks 116 = .ok (.aload_n 0, 1) := by decide +kernel
theorem dX6_speaks_117 : decode cX6_speaks 117 = .ok (.iload_n 3, 1) := by decide +kernel
theorem dX6_speaks_118 : decode cX6_speaks 118 = .ok (.iconst 1, 1) := by decide +kernel
theorem dX6_speaks_119 : decode cX6_speaks 119 = .ok (.iload_n 1, 1) := by decide +kernel
theorem dX6_speaks_120 : decode cX6_speaks 120 = .ok (.iconst (-1), 1) := by decide +kernel
theorem dX6_speaks_121 : decode cX6_speaks 121 = .ok (.invokevirtual 130, 3) := by decide +kernel
theorem dX6_speaks_124 : decode cX6_speaks 124 = .ok (.iload 4, 2) := by decide +kernel
theorem dX6_speaks_126 : decode cX6_speaks 126 = .ok (.ireturn, 1) := by decide +kernel
theorem dX6_say_0 : decode cX6_say 0 = .ok (.aload_n 0, 1) := by decide +kernel
theorem dX6_say_1 : decode cX6_say 1 = .ok (.iload_n 1, 1) := by decide +kernel
theorem dX6_say_2 : decode cX6_say 2 = .ok (.iconst 0, 1) := by decide +kernel
theorem dX6_say_3 : decode cX6_say 3 = .ok (.invokevirtual 142, 3) := by decide +kernel
theorem dX6_say_6 : decode cX6_say 6 = .ok (.ireturn, 1) := by decide +kernel
theorem dX6_shout_0 : decode cX6_shout 0 = .ok (.aload_n 0, 1) := by decide +kernel
theorem dX6_shout_1 : decode cX6_shout 1 = .ok (.iload_n 1, 1) := by decide +kernel
theorem dX6_shout_2 : decode cX6_shout 2 = .ok (.iconst 1, 1) := by decide +kernel
theorem dX6_shout_3 : decode cX6_shout 3 = .ok (.invokevirtual 142, 3) := by decide +kernel
theorem dX6_shout_6 : decode cX6_shout 6 = .ok (.ireturn, 1) := by decide +kernel
theorem dX6_take_0 : decode cX6_take 0 = .ok (.aload_n 0, 1) := by decide +kernel
theorem dX6_take_1 : decode cX6_take 1 = .ok (.invokevirtual 102, 3) := by decide +kernel
theorem dX6_take_4 : decode cX6_take 4 = .ok (.istore_n 2, 1) := by decide +kernel
theorem dX6_take_5 : decode cX6_take 5 = .ok (.aload_n 0, 1) := by decide +kernel
theorem dX6_take_6 : decode cX6_take 6 = .ok (.iload_n 1, 1) := by decide +kernel
theorem dX6_take_7 : decode cX6_take 7 = .ok (.invokestatic 116, 3) := by decide +kernel
theorem dX6_take_10 : decode cX6_take 10 = .ok (.ifCond .ne 7, 3) := by decide +kernel
theorem dX6_take_13 : decode cX6_take 13 = .ok (.iconst 1, 1) := by decide +kernel
theorem dX6_take_14 : decode cX6_take 14 = .ok (.goto 31, 3) := by decide +kernel
theorem dX6_take_17 : decode cX6_take 17 = .ok (.iload_n 2, 1) := by decide +kernel
theorem dX6_take_18 : decode cX6_take 18 = .ok (.iconst (-1), 1) := by decide +kernel
theorem dX6_take_19 : decode cX6_take 19 = .ok (.if_icmp .eq 21, 3) := by decide +kernel
theorem dX6_take_22 : decode cX6_take 22 = .ok (.aload_n 0, 1) := by decide +kernel
theorem dX6_take_23 : decode cX6_take 23 = .ok (.getfield 13, 3) := by decide +kernel
theorem dX6_take_26 : decode cX6_take 26 = .ok (.iconst 5, 1) := by decide +kernel
theorem dX6_take_27 : decode cX6_take 27 = .ok (.aload_n 0, 1) := by decide +kernel
theorem dX6_take_28 : decode cX6_take 28 = .ok (.getfield 25, 3) := by decide +kernel
theorem dX6_take_31 : decode cX6_take 31 = .ok (.iload_n 2, 1) := by decide +kernel
theorem dX6_take_32 : decode cX6_take 32 = .ok (.iaload, 1) := by decide +kernel
theorem dX6_take_33 : decode cX6_take 33 = .ok (.imul, 1) := by decide +kernel
theorem dX6_take_34 : decode cX6_take 34 = .ok (.iload_n 1, 1) := by decide +kernel
theorem dX6_take_35 : decode cX6_take 35 = .ok (.iadd, 1) := by decide +kernel
theorem dX6_take_36 : decode cX6_take 36 = .ok (.iaload, 1) := by decide +kernel
theorem dX6_take_37 : decode cX6_take 37 = .ok (.ifCond .ne 7, 3) := by decide +kernel
theorem dX6_take_40 : decode cX6_take 40 = .ok (.iconst 2, 1) := by decide +kernel
theorem dX6_take_41 : decode cX6_take 41 = .ok (.goto 4, 3) := by decide +kernel
theorem dX6_take_44 : decode cX6_take 44 = .ok (.iconst 0, 1) := by decide +kernel
theorem dX6_take_45 : decode cX6_take 45 = .ok (.invokevirtual 110, 3) := by decide +kernel
theorem dX6_take_48 : decode cX6_take 48 = .ok (.ifCond .ne 5, 3) := by decide +kernel
theorem dX6_take_51 : decode cX6_take 51 = .ok (.iconst 0, 1) := by decide +kernel
theorem dX6_take_52 : decode cX6_take 52 = .ok (.ireturn, 1) := by decide +kernel
theorem dX6_take_53 : decode cX6_take 53 = .ok (.aload_n 0, 1) := by decide +kernel
theorem dX6_take_54 : decode cX6_take 54 = .ok (.getfield 13, 3) := by decide +kernel
theorem dX6_take_57 : decode cX6_take 57 = .ok (.iconst 5, 1) := by decide +kernel
theorem dX6_take_58 : decode cX6_take 58 = .ok (.aload_n 0, 1) := by decide +kernel
theorem dX6_take_59 : decode cX6_take 59 = .ok (.getfield 25, 3) := by decide +kernel
theorem dX6_take_62 : decode cX6_take 62 = .ok (.iload_n 2, 1) := by decide +kernel
theorem dX6_take_63 : decode cX6_take 63 = .ok (.iaload, 1) := by decide +kernel
theorem dX6_take_64 : decode cX6_take 64 = .ok (.imul, 1) := by decide +kernel
theorem dX6_take_65 : decode cX6_take 65 = .ok (.iload_n 1, 1) := by decide +kernel
theorem dX6_take_66 : decode cX6_take 66 = .ok (.iadd, 1) := by decide +kernel
theorem dX6_take_67 : decode cX6_take 67 = .ok (.dup2, 1) := by decide +kernel
theorem dX6_take_68 : decode cX6_take 68 = .ok (.iaload, 1) := by decide +kernel
theorem dX6_take_69 : decode cX6_take 69 = .ok (.iconst 1, 1) := by decide +kernel
theorem dX6_take_70 : decode cX6_take 70 = .ok (.isub, 1) := by decide +kernel
theorem dX6_take_71 : decode cX6_take 71 = .ok (.iastore, 1) := by decide +kernel
theorem dX6_take_72 : decode cX6_take 72 = .ok (.aload_n 0, 1) := by decide +kernel
theorem dX6_take_73 : decode cX6_take 73 = .ok (.getfield 40, 3) := by decide +kernel
theorem dX6_take_76 : decode cX6_take 76 = .ok (.iconst 5, 1) := by decide +kernel
theorem dX6_take_77 : decode cX6_take 77 = .ok (.iload_n 2, 1) := by decide +kernel
theorem dX6_take_78 : decode cX6_take 78 = .ok (.imul, 1) := by decide +kernel
theorem dX6_take_79 : decode cX6_take 79 = .ok (.iload_n 1, 1) := by decide +kernel
theorem dX6_take_80 : decode cX6_take 80 = .ok (.iadd, 1) := by decide +kernel
theorem dX6_take_81 : decode cX6_take 81 = .ok (.dup2, 1) := by decide +kernel
theorem dX6_take_82 : decode cX6_take 82 = .ok (.iaload, 1) := by decide +kernel
theorem dX6_take_83 : decode cX6_take 83 = .ok (.iconst 1, 1) := by decide +kernel
theorem dX6_take_84 : decode cX6_take 84 = .ok (.iadd, 1) := by decide +kernel
theorem dX6_take_85 : decode cX6_take 85 = .ok (.iastore, 1) := by decide +kernel
theorem dX6_take_86 : decode cX6_take 86 = .ok (.aload_n 0, 1) := by decide +kernel
theorem dX6_take_87 : decode cX6_take 87 = .ok (.iload_n 2, 1) := by decide +kernel
theorem dX6_take_88 : decode cX6_take 88 = .ok (.iconst 1, 1) := by decide +kernel
theorem dX6_take_89 : decode cX6_take 89 = .ok (.iconst (-1), 1) := by decide +kernel
theorem dX6_take_90 : decode cX6_take 90 = .ok (.iconst (-1), 1) := by decide +kernel
theorem dX6_take_91 : decode cX6_take 91 = .ok (.invokevirtual 130, 3) := by decide +kernel
theorem dX6_take_94 : decode cX6_take 94 = .ok (.aload_n 0, 1) := by decide +kernel
theorem dX6_take_95 : decode cX6_take 95 = .ok (.getfield 40, 3) := by decide +kernel
theorem dX6_take_98 : decode cX6_take 98 = .ok (.iconst 5, 1) := by decide +kernel
theorem dX6_take_99 : decode cX6_take 99 = .ok (.iload_n 2, 1) := by decide +kernel
theorem dX6_take_100 : decode cX6_take 100 = .ok (.imul, 1) := by decide +kernel
theorem dX6_take_101 : decode cX6_take 101 = .ok (.iload_n 1, 1) := by decide +kernel
theorem dX6_take_102 : decode cX6_take 102 = .ok (.iadd, 1) := by decide +kernel
theorem dX6_take_103 : decode cX6_take 103 = .ok (.iaload, 1) := by decide +kernel
theorem dX6_take_104 : decode cX6_take 104 = .ok (.ireturn, 1) := by decide +kernel
theorem dX6_drop_0 : decode cX6_drop 0 = .ok (.aload_n 0, 1) := by decide +kernel
theorem dX6_drop_1 : decode cX6_drop 1 = .ok (.invokevirtual 102, 3) := by decide +kernel
theorem dX6_drop_4 : decode cX6_drop 4 = .ok (.istore_n 2, 1) := by decide +kernel
theorem dX6_drop_5 : decode cX6_drop 5 = .ok (.aload_n 0, 1) := by decide +kernel
theorem dX6_drop_6 : decode cX6_drop 6 = .ok (.iload_n 1, 1) := by decide +kernel
theorem dX6_drop_7 : decode cX6_drop 7 = .ok (.invokestatic 116, 3) := by decide +kernel
theorem dX6_drop_10 : decode cX6_drop 10 = .ok (.ifCond .ne 7, 3) := by decide +kernel
theorem dX6_drop_13 : decode cX6_drop 13 = .ok (.iconst 1, 1) := by decide +kernel
theorem dX6_drop_14 : decode cX6_drop 14 = .ok (.goto 26, 3) := by decide +kernel
theorem dX6_drop_17 : decode cX6_drop 17 = .ok (.iload_n 2, 1) := by decide +kernel
theorem dX6_drop_18 : decode cX6_drop 18 = .ok (.iconst (-1), 1) := by decide +kernel
theorem dX6_drop_19 : decode cX6_drop 19 = .ok (.if_icmp .eq 16, 3) := by decide +kernel
theorem dX6_drop_22 : decode cX6_drop 22 = .ok (.aload_n 0, 1) := by decide +kernel
theorem dX6_drop_23 : decode cX6_drop 23 = .ok (.getfield 40, 3) := by decide +kernel
theorem dX6_drop_26 : decode cX6_drop 26 = .ok (.iconst 5, 1) := by decide +kernel
theorem dX6_drop_27 : decode cX6_drop 27 = .ok (.iload_n 2, 1) := by decide +kernel
theorem dX6_drop_28 : decode cX6_drop 28 = .ok (.imul, 1) := by decide +kernel
theorem dX6_drop_29 : decode cX6_drop 29 = .ok (.iload_n 1, 1) := by decide +kernel
theorem dX6_drop_30 : decode cX6_drop 30 = .ok (.iadd, 1) := by decide +kernel
theorem dX6_drop_31 : decode cX6_drop 31 = .ok (.iaload, 1) := by decide +kernel
theorem dX6_drop_32 : decode cX6_drop 32 = .ok (.ifCond .ne 7, 3) := by decide +kernel
theorem dX6_drop_35 : decode cX6_drop 35 = .ok (.iconst 2, 1) := by decide +kernel
theorem dX6_drop_36 : decode cX6_drop 36 = .ok (.goto 4, 3) := by decide +kernel
theorem dX6_drop_39 : decode cX6_drop 39 = .ok (.iconst 0, 1) := by decide +kernel
theorem dX6_drop_40 : decode cX6_drop 40 = .ok (.invokevirtual 110, 3) := by decide +kernel
theorem dX6_drop_43 : decode cX6_drop 43 = .ok (.ifCond .ne 5, 3) := by decide +kernel
theorem dX6_drop_46 : decode cX6_drop 46 = .ok (.iconst 0, 1) := by decide +kernel
theorem dX6_drop_47 : decode cX6_drop 47 = .ok (.ireturn, 1) := by decide +kernel
theorem dX6_drop_48 : decode cX6_drop 48 = .ok (.aload_n 0, 1) := by decide +kernel
theorem dX6_drop_49 : decode cX6_drop 49 = .ok (.getfield 40, 3) := by decide +kernel
theorem dX6_drop_52 : decode cX6_drop 52 = .ok (.iconst 5, 1) := by decide +kernel
theorem dX6_drop_53 : decode cX6_drop 53 = .ok (.iload_n 2, 1) := by decide +kernel
theorem dX6_drop_54 : decode cX6_drop 54 = .ok (.imul, 1) := by decide +kernel
theorem dX6_drop_55 : decode cX6_drop 55 = .ok (.iload_n 1, 1) := by decide +kernel
theorem dX6_drop_56 : decode cX6_drop 56 = .ok (.iadd, 1) := by decide +kernel
theorem dX6_drop_57 : decode cX6_drop 57 = .ok (.dup2, 1) := by decide +kernel
theorem dX6_drop_58 : decode cX6_drop 58 = .ok (.iaload, 1) := by decide +kernel
theorem dX6_drop_59 : decode cX6_drop 59 = .ok (.iconst 1, 1) := by decide +kernel
theorem dX6_drop_60 : decode cX6_drop 60 = .ok (.isub, 1) := by decide +kernel
theorem dX6_drop_61 : decode cX6_drop 61 = .ok (.iastore, 1) := by decide +kernel
theorem dX6_drop_62 : decode cX6_drop 62 = .ok (.aload_n 0, 1) := by decide +kernel
theorem dX6_drop_63 : decode cX6_drop 63 = .ok (.getfield 13, 3) := by decide +kernel
theorem dX6_drop_66 : decode cX6_drop 66 = .ok (.iconst 5, 1) := by decide +kernel
theorem dX6_drop_67 : decode cX6_drop 67 = .ok (.aload_n 0, 1) := by decide +kernel
theorem dX6_drop_68 : decode cX6_drop 68 = .ok (.getfield 25, 3) := by decide +kernel
theorem dX6_drop_71 : decode cX6_drop 71 = .ok (.iload_n 2, 1) := by decide +kernel
theorem dX6_drop_72 : decode cX6_drop 72 = .ok (.iaload, 1) := by decide +kernel
theorem dX6_drop_73 : decode cX6_drop 73 = .ok (.imul, 1) := by decide +kernel
theorem dX6_drop_74 : decode cX6_drop 74 = .ok (.iload_n 1, 1) := by decide +kernel
theorem dX6_drop_75 : decode cX6_drop 75 = .ok (.iadd, 1) := by decide +kernel
theorem dX6_drop_76 : decode cX6_drop 76 = .ok (.dup2, 1) := by decide +kernel
theorem dX6_drop_77 : decode cX6_drop 77 = .ok (.iaload, 1) := by decide +kernel
theorem dX6_drop_78 : decode cX6_drop 78 = .ok (.iconst 1, 1) := by decide +kernel
theorem dX6_drop_79 : decode cX6_drop 79 = .ok (.iadd, 1) := by decide +kernel
theorem dX6_drop_80 : decode cX6_drop 80 = .ok (.iastore, 1) := by decide +kernel
theorem dX6_drop_81 : decode cX6_drop 81 = .ok (.aload_n 0, 1) := by decide +kernel
theorem dX6_drop_82 : decode cX6_drop 82 = .ok (.iload_n 2, 1) := by decide +kernel
theorem dX6_drop_83 : decode cX6_drop 83 = .ok (.iconst 1, 1) := by decide +kernel
theorem dX6_drop_84 : decode cX6_drop 84 = .ok (.iconst (-1), 1) := by decide +kernel
theorem dX6_drop_85 : decode cX6_drop 85 = .ok (.iconst (-1), 1) := by decide +kernel
theorem dX6_drop_86 : decode cX6_drop 86 = .ok (.invokevirtual 130, 3) := by decide +kernel
theorem dX6_drop_89 : decode cX6_drop 89 = .ok (.aload_n 0, 1) := by decide +kernel
theorem dX6_drop_90 : decode cX6_drop 90 = .ok (.getfield 40, 3) := by decide +kernel
theorem dX6_drop_93 : decode cX6_drop 93 = .ok (.iconst 5, 1) := by decide +kernel
theorem dX6_drop_94 : decode cX6_drop 94 = .ok (.iload_n 2, 1) := by decide +kernel
theorem dX6_drop_95 : decode cX6_drop 95 = .ok (.imul, 1) := by decide +kernel
theorem dX6_drop_96 : decode cX6_drop 96 = .ok (.iload_n 1, 1) := by decide +kernel
theorem dX6_drop_97 : decode cX6_drop 97 = .ok (.iadd, 1) := by decide +kernel
theorem dX6_drop_98 : decode cX6_drop 98 = .ok (.iaload, 1) := by decide +kernel
theorem dX6_drop_99 : decode cX6_drop 99 = .ok (.ireturn, 1) := by decide +kernel
theorem dX6_isAway_0 : decode cX6_isAway 0 = .ok (.iload_n 1, 1) := by decide +kernel
theorem dX6_isAway_1 : decode cX6_isAway 1 = .ok (.iconst (-1), 1) := by decide +kernel
theorem dX6_isAway_2 : decode cX6_isAway 2 = .ok (.if_icmp .eq 23, 3) := by decide +kernel
theorem dX6_isAway_5 : decode cX6_isAway 5 = .ok (.iload_n 2, 1) := by decide +kernel
theorem dX6_isAway_6 : decode cX6_isAway 6 = .ok (.iload_n 1, 1) := by decide +kernel
theorem dX6_isAway_7 : decode cX6_isAway 7 = .ok (.if_icmp .eq 18, 3) := by decide +kernel
theorem dX6_isAway_10 : decode cX6_isAway 10 = .ok (.aload_n 0, 1) := by decide +kernel
theorem dX6_isAway_11 : decode cX6_isAway 11 = .ok (.getfield 25, 3) := by decide +kernel
theorem dX6_isAway_14 : decode cX6_isAway 14 = .ok (.iload_n 2, 1) := by decide +kernel
theorem dX6_isAway_15 : decode cX6_isAway 15 = .ok (.iaload, 1) := by decide +kernel
theorem dX6_isAway_16 : decode cX6_isAway 16 = .ok (.aload_n 0, 1) := by decide +kernel
theorem dX6_isAway_17 : decode cX6_isAway 17 = .ok (.getfield 25, 3) := by decide +kernel
theorem dX6_isAway_20 : decode cX6_isAway 20 = .ok (.iload_n 1, 1) := by decide +kernel
theorem dX6_isAway_21 : decode cX6_isAway 21 = .ok (.iaload, 1) := by decide +kernel
theorem dX6_isAway_22 : decode cX6_isAway 22 = .ok (.if_icmp .eq 7, 3) := by decide +kernel
theorem dX6_isAway_25 : decode cX6_isAway 25 = .ok (.iconst 1, 1) := by decide +kernel
theorem dX6_isAway_26 : decode cX6_isAway 26 = .ok (.goto 4, 3) := by decide +kernel
theorem dX6_isAway_29 : decode cX6_isAway 29 = .ok (.iconst 0, 1) := by decide +kernel
theorem dX6_isAway_30 : decode cX6_isAway 30 = .ok (.ireturn, 1) := by decide +kernel
theorem dX6_give_0 : decode cX6_give 0 = .ok (.aload_n 0, 1) := by decide +kernel
theorem dX6_give_1 : decode cX6_give 1 = .ok (.invokevirtual 102, 3) := by decide +kernel
theorem dX6_give_4 : decode cX6_give 4 = .ok (.istore_n 3, 1) := by decide +kernel
theorem dX6_give_5 : decode cX6_give 5 = .ok (.aload_n 0, 1) := by decide +kernel
theorem dX6_give_6 : decode cX6_give 6 = .ok (.aload_n 0, 1) := by decide +kernel
theorem dX6_give_7 : decode cX6_give 7 = .ok (.iload_n 1, 1) := by decide +kernel
theorem dX6_give_8 : decode cX6_give 8 = .ok (.invokevirtual 146, 3) := by decide +kernel
theorem dX6_give_11 : decode cX6_give 11 = .ok (.ifCond .eq 10, 3) := by decide +kernel
theorem dX6_give_14 : decode cX6_give 14 = .ok (.iload_n 2, 1) := by decide +kernel
theorem dX6_give_15 : decode cX6_give 15 = .ok (.invokestatic 116, 3) := by decide +kernel
theorem dX6_give_18 : decode cX6_give 18 = .ok (.ifCond .ne 7, 3) := by decide +kernel
theorem dX6_give_21 : decode cX6_give 21 = .ok (.iconst 1, 1) := by decide +kernel
theorem dX6_give_22 : decode cX6_give 22 = .ok (.goto 30, 3) := by decide +kernel
theorem dX6_give_25 : decode cX6_give 25 = .ok (.aload_n 0, 1) := by decide +kernel
theorem dX6_give_26 : decode cX6_give 26 = .ok (.iload_n 3, 1) := by decide +kernel
theorem dX6_give_27 : decode cX6_give 27 = .ok (.iload_n 1, 1) := by decide +kernel
theorem dX6_give_28 : decode cX6_give 28 = .ok (.invokevirtual 149, 3) := by decide +kernel
theorem dX6_give_31 : decode cX6_give 31 = .ok (.ifCond .ne 16, 3) := by decide +kernel
theorem dX6_give_34 : decode cX6_give 34 = .ok (.aload_n 0, 1) := by decide +kernel
theorem dX6_give_35 : decode cX6_give 35 = .ok (.getfield 40, 3) := by decide +kernel
theorem dX6_give_38 : decode cX6_give 38 = .ok (.iconst 5, 1) := by decide +kernel
theorem dX6_give_39 : decode cX6_give 39 = .ok (.iload_n 3, 1) := by decide +kernel
theorem dX6_give_40 : decode cX6_give 40 = .ok (.imul, 1) := by decide +kernel
theorem dX6_give_41 : decode cX6_give 41 = .ok (.iload_n 2, 1) := by decide +kernel
theorem dX6_give_42 : decode cX6_give 42 = .ok (.iadd, 1) := by decide +kernel
theorem dX6_give_43 : decode cX6_give 43 = .ok (.iaload, 1) := by decide +kernel
theorem dX6_give_44 : decode cX6_give 44 = .ok (.ifCond .ne 7, 3) := by decide +kernel
theorem dX6_give_47 : decode cX6_give 47 = .ok (.iconst 2, 1) := by decide +kernel
theorem dX6_give_48 : decode cX6_give 48 = .ok (.goto 4, 3) := by decide +kernel
theorem dX6_give_51 : decode cX6_give 51 = .ok (.iconst 0, 1) := by decide +kernel
theorem dX6_give_52 : decode cX6_give 52 = .ok (.invokevirtual 110, 3) := by decide +kernel
theorem dX6_give_55 : decode cX6_give 55 = .ok (.ifCond .ne 5, 3) := by decide +kernel
theorem dX6_give_58 : decode cX6_give 58 = .ok (.iconst 0, 1) := by decide +kernel
theorem dX6_give_59 : decode cX6_give 59 = .ok (.ireturn, 1) := by decide +kernel
theorem dX6_give_60 : decode cX6_give 60 = .ok (.aload_n 0, 1) := by decide +kernel
theorem dX6_give_61 : decode cX6_give 61 = .ok (.getfield 40, 3) := by decide +kernel
theorem dX6_give_64 : decode cX6_give 64 = .ok (.iconst 5, 1) := by decide +kernel
theorem dX6_give_65 : decode cX6_give 65 = .ok (.iload_n 3, 1) := by decide +kernel
theorem dX6_give_66 : decode cX6_give 66 = .ok (.imul, 1) := by decide +kernel
theorem dX6_give_67 : decode cX6_give 67 = .ok (.iload_n 2, 1) := by decide +kernel
theorem dX6_give_68 : decode cX6_give 68 = .ok (.iadd, 1) := by decide +kernel
theorem dX6_give_69 : decode cX6_give 69 = .ok (.dup2, 1) := by decide +kernel
theorem dX6_give_70 : decode cX6_give 70 = .ok (.iaload, 1) := by decide +kernel
theorem dX6_give_71 : decode cX6_give 71 = .ok (.iconst 1, 1) := by decide +kernel
theorem dX6_give_72 : decode cX6_give 72 = .ok (.isub, 1) := by decide +kernel
theorem dX6_give_73 : decode cX6_give 73 = .ok (.iastore, 1) := by decide +kernel
theorem dX6_give_74 : decode cX6_give 74 = .ok (.aload_n 0, 1) := by decide +kernel
theorem dX6_give_75 : decode cX6_give 75 = .ok (.getfield 40, 3) := by decide +kernel
theorem dX6_give_78 : decode cX6_give 78 = .ok (.iconst 5, 1) := by decide +kernel
theorem dX6_give_79 : decode cX6_give 79 = .ok (.iload_n 1, 1) := by decide +kernel
theorem dX6_give_80 : decode cX6_give 80 = .ok (.imul, 1) := by decide +kernel
theorem dX6_give_81 : decode cX6_give 81 = .ok (.iload_n 2, 1) := by decide +kernel
theorem dX6_give_82 : decode cX6_give 82 = .ok (.iadd, 1) := by decide +kernel
theorem dX6_give_83 : decode cX6_give 83 = .ok (.dup2, 1) := by decide +kernel
theorem dX6_give_84 : decode cX6_give 84 = .ok (.iaload, 1) := by decide +kernel
theorem dX6_give_85 : decode cX6_give 85 = .ok (.iconst 1, 1) := by decide +kernel
theorem dX6_give_86 : decode cX6_give 86 = .ok (.iadd, 1) := by decide +kernel
theorem dX6_give_87 : decode cX6_give 87 = .ok (.iastore, 1) := by decide +kernel
theorem dX6_give_88 : decode cX6_give 88 = .ok (.aload_n 0, 1) := by decide +kernel
theorem dX6_give_89 : decode cX6_give 89 = .ok (.iload_n 3, 1) := by decide +kernel
theorem dX6_give_90 : decode cX6_give 90 = .ok (.iconst 1, 1) := by decide +kernel
theorem dX6_give_91 : decode cX6_give 91 = .ok (.iconst (-1), 1) := by decide +kernel
theorem dX6_give_92 : decode cX6_give 92 = .ok (.iconst (-1), 1) := by decide +kernel
theorem dX6_give_93 : decode cX6_give 93 = .ok (.invokevirtual 130, 3) := by decide +kernel
theorem dX6_give_96 : decode cX6_give 96 = .ok (.aload_n 0, 1) := by decide +kernel
theorem dX6_give_97 : decode cX6_give 97 = .ok (.getfield 40, 3) := by decide +kernel
theorem dX6_give_100 : decode cX6_give 100 = .ok (.iconst 5, 1) := by decide +kernel
theorem dX6_give_101 : decode cX6_give 101 = .ok (.iload_n 3, 1) := by decide +kernel
theorem dX6_give_102 : decode cX6_give 102 = .ok (.imul, 1) := by decide +kernel
theorem dX6_give_103 : decode cX6_give 103 = .ok (.iload_n 2, 1) := by decide +kernel
theorem dX6_give_104 : decode cX6_give 104 = .ok (.iadd, 1) := by decide +kernel
theorem dX6_give_105 : decode cX6_give 105 = .ok (.iaload, 1) := by decide +kernel
theorem dX6_give_106 : decode cX6_give 106 = .ok (.ireturn, 1) := by decide +kernel
theorem dX6_pay_0 : decode cX6_pay 0 = .ok (.aload_n 0, 1) := by decide +kernel
theorem dX6_pay_1 : decode cX6_pay 1 = .ok (.invokevirtual 102, 3) := by decide +kernel
theorem dX6_pay_4 : decode cX6_pay 4 = .ok (.istore_n 3, 1) := by decide +kernel
theorem dX6_pay_5 : decode cX6_pay 5 = .ok (.aload_n 0, 1) := by decide +kernel
theorem dX6_pay_6 : decode cX6_pay 6 = .ok (.aload_n 0, 1) := by decide +kernel
theorem dX6_pay_7 : decode cX6_pay 7 = .ok (.iload_n 1, 1) := by decide +kernel
theorem dX6_pay_8 : decode cX6_pay 8 = .ok (.invokevirtual 146, 3) := by decide +kernel
theorem dX6_pay_11 : decode cX6_pay 11 = .ok (.ifCond .ne 7, 3) := by decide +kernel
theorem dX6_pay_14 : decode cX6_pay 14 = .ok (.iconst 1, 1) := by decide +kernel
theorem dX6_pay_15 : decode cX6_pay 15 = .ok (.goto 42, 3) := by decide +kernel
theorem dX6_pay_18 : decode cX6_pay 18 = .ok (.iload_n 2, 1) := by decide +kernel
theorem dX6_pay_19 : decode cX6_pay 19 = .ok (.iconst 1, 1) := by decide +kernel
theorem dX6_pay_20 : decode cX6_pay 20 = .ok (.sipush 1000, 3) := by decide +kernel
theorem dX6_pay_23 : decode cX6_pay 23 = .ok (.invokestatic 89, 3) := by decide +kernel
theorem dX6_pay_26 : decode cX6_pay 26 = .ok (.ifCond .ne 7, 3) := by decide +kernel
theorem dX6_pay_29 : decode cX6_pay 29 = .ok (.iconst 2, 1) := by decide +kernel
theorem dX6_pay_30 : decode cX6_pay 30 = .ok (.goto 27, 3) := by decide +kernel
theorem dX6_pay_33 : decode cX6_pay 33 = .ok (.aload_n 0, 1) := by decide +kernel
theorem dX6_pay_34 : decode cX6_pay 34 = .ok (.iload_n 3, 1) := by decide +kernel
theorem dX6_pay_35 : decode cX6_pay 35 = .ok (.iload_n 1, 1) := by decide +kernel
theorem dX6_pay_36 : decode cX6_pay 36 = .ok (.invokevirtual 149, 3) := by decide +kernel
theorem dX6_pay_39 : decode cX6_pay 39 = .ok (.ifCond .ne 13, 3) := by decide +kernel
theorem dX6_pay_42 : decode cX6_pay 42 = .ok (.aload_n 0, 1) := by decide +kernel
theorem dX6_pay_43 : decode cX6_pay 43 = .ok (.getfield 28, 3) := by decide +kernel
theorem dX6_pay_46 : decode cX6_pay 46 = .ok (.iload_n 3, 1) := by decide +kernel
theorem dX6_pay_47 : decode cX6_pay 47 = .ok (.iaload, 1) := by decide +kernel
theorem dX6_pay_48 : decode cX6_pay 48 = .ok (.iload_n 2, 1) := by decide +kernel
theorem dX6_pay_49 : decode cX6_pay 49 = .ok (.if_icmp .ge 7, 3) := by decide +kernel
theorem dX6_pay_52 : decode cX6_pay 52 = .ok (.iconst 3, 1) := by decide +kernel
theorem dX6_pay_53 : decode cX6_pay 53 = .ok (.goto 4, 3) := by decide +kernel
theorem dX6_pay_56 : decode cX6_pay 56 = .ok (.iconst 0, 1) := by decide +kernel
theorem dX6_pay_57 : decode cX6_pay 57 = .ok (.invokevirtual 110, 3) := by decide +kernel
theorem dX6_pay_60 : decode cX6_pay 60 = .ok (.ifCond .ne 5, 3) := by decide +kernel
theorem dX6_pay_63 : decode cX6_pay 63 = .ok (.iconst 0, 1) := by decide +kernel
theorem dX6_pay_64 : decode cX6_pay 64 = .ok (.ireturn, 1) := by decide +kernel
theorem dX6_pay_65 : decode cX6_pay 65 = .ok (.aload_n 0, 1) := by decide +kernel
theorem dX6_pay_66 : decode cX6_pay 66 = .ok (.getfield 28, 3) := by decide +kernel
theorem dX6_pay_69 : decode cX6_pay 69 = .ok (.iload_n 3, 1) := by decide +kernel
theorem dX6_pay_70 : decode cX6_pay 70 = .ok (.dup2, 1) := by decide +kernel
theorem dX6_pay_71 : decode cX6_pay 71 = .ok (.iaload, 1) := by decide +kernel
theorem dX6_pay_72 : decode cX6_pay 72 = .ok (.iload_n 2, 1) := by decide +kernel
theorem dX6_pay_73 : decode cX6_pay 73 = .ok (.isub, 1) := by decide +kernel
theorem dX6_pay_74 : decode cX6_pay 74 = .ok (.iastore, 1) := by decide +kernel
theorem dX6_pay_75 : decode cX6_pay 75 = .ok (.aload_n 0, 1) := by decide +kernel
theorem dX6_pay_76 : decode cX6_pay 76 = .ok (.getfield 28, 3) := by decide +kernel
theorem dX6_pay_79 : decode cX6_pay 79 = .ok (.iload_n 1, 1) := by decide +kernel
theorem dX6_pay_80 : decode cX6_pay 80 = .ok (.dup2, 1) := by decide +kernel
theorem dX6_pay_81 : decode cX6_pay 81 = .ok (.iaload, 1) := by decide +kernel
theorem dX6_pay_82 : decode cX6_pay 82 = .ok (.iload_n 2, 1) := by decide +kernel
theorem dX6_pay_83 : decode cX6_pay 83 = .ok (.iadd, 1) := by decide +kernel
theorem dX6_pay_84 : decode cX6_pay 84 = .ok (.iastore, 1) := by decide +kernel
theorem dX6_pay_85 : decode cX6_pay 85 = .ok (.aload_n 0, 1) := by decide +kernel
theorem dX6_pay_86 : decode cX6_pay 86 = .ok (.iload_n 3, 1) := by decide +kernel
theorem dX6_pay_87 : decode cX6_pay 87 = .ok (.iconst 1, 1) := by decide +kernel
theorem dX6_pay_88 : decode cX6_pay 88 = .ok (.iconst (-1), 1) := by decide +kernel
theorem dX6_pay_89 : decode cX6_pay 89 = .ok (.iconst (-1), 1) := by decide +kernel
theorem dX6_pay_90 : decode cX6_pay 90 = .ok (.invokevirtual 130, 3) := by decide +kernel
theorem dX6_pay_93 : decode cX6_pay 93 = .ok (.aload_n 0, 1) := by decide +kernel
theorem dX6_pay_94 : decode cX6_pay 94 = .ok (.getfield 28, 3) := by decide +kernel
theorem dX6_pay_97 : decode cX6_pay 97 = .ok (.iload_n 3, 1) := by decide +kernel
theorem dX6_pay_98 : decode cX6_pay 98 = .ok (.iaload, 1) := by decide +kernel
theorem dX6_pay_99 : decode cX6_pay 99 = .ok (.ireturn, 1) := by decide +kernel
theorem dX6_traded_0 : decode cX6_traded 0 = .ok (.iload_n 1, 1) := by decide +kernel
theorem dX6_traded_1 : decode cX6_traded 1 = .ok (.iconst (-1), 1) := by decide +kernel
theorem dX6_traded_2 : decode cX6_traded 2 = .ok (.if_icmp .eq 18, 3) := by decide +kernel
theorem dX6_traded_5 : decode cX6_traded 5 = .ok (.aload_n 0, 1) := by decide +kernel
theorem dX6_traded_6 : decode cX6_traded 6 = .ok (.getfield 16, 3) := by decide +kernel
theorem dX6_traded_9 : decode cX6_traded 9 = .ok (.aload_n 0, 1) := by decide +kernel
theorem dX6_traded_10 : decode cX6_traded 10 = .ok (.getfield 25, 3) := by decide +kernel
theorem dX6_traded_13 : decode cX6_traded 13 = .ok (.iload_n 1, 1) := by decide +kernel
theorem dX6_traded_14 : decode cX6_traded 14 = .ok (.iaload, 1) := by decide +kernel
theorem dX6_traded_15 : decode cX6_traded 15 = .ok (.iaload, 1) := by decide +kernel
theorem dX6_traded_16 : decode cX6_traded 16 = .ok (.iconst (-1), 1) := by decide +kernel
theorem dX6_traded_17 : decode cX6_traded 17 = .ok (.if_icmp .ne 7, 3) := by decide +kernel
theorem dX6_traded_20 : decode cX6_traded 20 = .ok (.iconst (-1), 1) := by decide +kernel
theorem dX6_traded_21 : decode cX6_traded 21 = .ok (.goto 13, 3) := by decide +kernel
theorem dX6_traded_24 : decode cX6_traded 24 = .ok (.iconst 5, 1) := by decide +kernel
theorem dX6_traded_25 : decode cX6_traded 25 = .ok (.aload_n 0, 1) := by decide +kernel
theorem dX6_traded_26 : decode cX6_traded 26 = .ok (.getfield 25, 3) := by decide +kernel
theorem dX6_traded_29 : decode cX6_traded 29 = .ok (.iload_n 1, 1) := by decide +kernel
theorem dX6_traded_30 : decode cX6_traded 30 = .ok (.iaload, 1) := by decide +kernel
theorem dX6_traded_31 : decode cX6_traded 31 = .ok (.imul, 1) := by decide +kernel
theorem dX6_traded_32 : decode cX6_traded 32 = .ok (.iload_n 2, 1) := by decide +kernel
theorem dX6_traded_33 : decode cX6_traded 33 = .ok (.iadd, 1) := by decide +kernel
theorem dX6_traded_34 : decode cX6_traded 34 = .ok (.istore_n 3, 1) := by decide +kernel
theorem dX6_traded_35 : decode cX6_traded 35 = .ok (.iload_n 3, 1) := by decide +kernel
theorem dX6_traded_36 : decode cX6_traded 36 = .ok (.iconst (-1), 1) := by decide +kernel
theorem dX6_traded_37 : decode cX6_traded 37 = .ok (.if_icmp .eq 12, 3) := by decide +kernel
theorem dX6_traded_40 : decode cX6_traded 40 = .ok (.aload_n 0, 1) := by decide +kernel
theorem dX6_traded_41 : decode cX6_traded 41 = .ok (.getfield 19, 3) := by decide +kernel
theorem dX6_traded_44 : decode cX6_traded 44 = .ok (.iload_n 3, 1) := by decide +kernel
theorem dX6_traded_45 : decode cX6_traded 45 = .ok (.iaload, 1) := by decide +kernel
theorem dX6_traded_46 : decode cX6_traded 46 = .ok (.ifCond .ne 7, 3) := by decide +kernel
theorem dX6_traded_49 : decode cX6_traded 49 = .ok (.iconst (-1), 1) := by decide +kernel
theorem dX6_traded_50 : decode cX6_traded 50 = .ok (.goto 4, 3) := by decide +kernel
theorem dX6_traded_53 : decode cX6_traded 53 = .ok (.iload_n 3, 1) := by decide +kernel
theorem dX6_traded_54 : decode cX6_traded 54 = .ok (.ireturn, 1) := by decide +kernel
theorem dX6_buy_0 : decode cX6_buy 0 = .ok (.aload_n 0, 1) := by decide +kernel
theorem dX6_buy_1 : decode cX6_buy 1 = .ok (.invokevirtual 102, 3) := by decide +kernel
theorem dX6_buy_4 : decode cX6_buy 4 = .ok (.istore_n 2, 1) := by decide +kernel
theorem dX6_buy_5 : decode cX6_buy 5 = .ok (.iload_n 1, 1) := by decide +kernel
theorem dX6_buy_6 : decode cX6_buy 6 = .ok (.invokestatic 116, 3) := by decide +kernel
theorem dX6_buy_9 : decode cX6_buy 9 = .ok (.ifCond .eq 12, 3) := by decide +kernel
theorem dX6_buy_12 : decode cX6_buy 12 = .ok (.aload_n 0, 1) := by decide +kernel
theorem dX6_buy_13 : decode cX6_buy 13 = .ok (.iload_n 2, 1) := by decide +kernel
theorem dX6_buy_14 : decode cX6_buy 14 = .ok (.iload_n 1, 1) := by decide +kernel
theorem dX6_buy_15 : decode cX6_buy 15 = .ok (.invokevirtual 152, 3) := by decide +kernel
theorem dX6_buy_18 : decode cX6_buy 18 = .ok (.goto 4, 3) := by decide +kernel
theorem dX6_buy_21 : decode cX6_buy 21 = .ok (.iconst (-1), 1) := by decide +kernel
theorem dX6_buy_22 : decode cX6_buy 22 = .ok (.istore_n 3, 1) := by decide +kernel
theorem dX6_buy_23 : decode cX6_buy 23 = .ok (.aload_n 0, 1) := by decide +kernel
theorem dX6_buy_24 : decode cX6_buy 24 = .ok (.iload_n 1, 1) := by decide +kernel
theorem dX6_buy_25 : decode cX6_buy 25 = .ok (.invokestatic 116, 3) := by decide +kernel
theorem dX6_buy_28 : decode cX6_buy 28 = .ok (.ifCond .ne 7, 3) := by decide +kernel
theorem dX6_buy_31 : decode cX6_buy 31 = .ok (.iconst 1, 1) := by decide +kernel
theorem dX6_buy_32 : decode cX6_buy 32 = .ok (.goto 37, 3) := by decide +kernel
theorem dX6_buy_35 : decode cX6_buy 35 = .ok (.iload_n 3, 1) := by decide +kernel
theorem dX6_buy_36 : decode cX6_buy 36 = .ok (.iconst (-1), 1) := by decide +kernel
theorem dX6_buy_37 : decode cX6_buy 37 = .ok (.if_icmp .eq 27, 3) := by decide +kernel
theorem dX6_buy_40 : decode cX6_buy 40 = .ok (.aload_n 0, 1) := by decide +kernel
theorem dX6_buy_41 : decode cX6_buy 41 = .ok (.getfield 22, 3) := by decide +kernel
theorem dX6_buy_44 : decode cX6_buy 44 = .ok (.iload_n 3, 1) := by decide +kernel
theorem dX6_buy_45 : decode cX6_buy 45 = .ok (.iaload, 1) := by decide +kernel
theorem dX6_buy_46 : decode cX6_buy 46 = .ok (.ifCond .eq 18, 3) := by decide +kernel
theorem dX6_buy_49 : decode cX6_buy 49 = .ok (.aload_n 0, 1) := by decide +kernel
theorem dX6_buy_50 : decode cX6_buy 50 = .ok (.getfield 28, 3) := by decide +kernel
theorem dX6_buy_53 : decode cX6_buy 53 = .ok (.iload_n 2, 1) := by decide +kernel
theorem dX6_buy_54 : decode cX6_buy 54 = .ok (.iaload, 1) := by decide +kernel
theorem dX6_buy_55 : decode cX6_buy 55 = .ok (.aload_n 0, 1) := by decide +kernel
theorem dX6_buy_56 : decode cX6_buy 56 = .ok (.getfield 19, 3) := by decide +kernel
theorem dX6_buy_59 : decode cX6_buy 59 = .ok (.iload_n 3, 1) := by decide +kernel
theorem dX6_buy_60 : decode cX6_buy 60 = .ok (.iaload, 1) := by decide +kernel
theorem dX6_buy_61 : decode cX6_buy 61 = .ok (.if_icmp .ge 7, 3) := by decide +kernel
theorem dX6_buy_64 : decode cX6_buy 64 = .ok (.iconst 2, 1) := by decide +kernel
theorem dX6_buy_65 : decode cX6_buy 65 = .ok (.goto 4, 3) := by decide +kernel
theorem dX6_buy_68 : decode cX6_buy 68 = .ok (.iconst 0, 1) := by decide +kernel
theorem dX6_buy_69 : decode cX6_buy 69 = .ok (.invokevirtual 110, 3) := by decide +kernel
theorem dX6_buy_72 : decode cX6_buy 72 = .ok (.ifCond .ne 5, 3) := by decide +kernel
theorem dX6_buy_75 : decode cX6_buy 75 = .ok (.iconst 0, 1) := by decide +kernel
theorem dX6_buy_76 : decode cX6_buy 76 = .ok (.ireturn, 1) := by decide +kernel
theorem dX6_buy_77 : decode cX6_buy 77 = .ok (.aload_n 0, 1) := by decide +kernel
theorem dX6_buy_78 : decode cX6_buy 78 = .ok (.getfield 22, 3) := by decide +kernel
theorem dX6_buy_81 : decode cX6_buy 81 = .ok (.iload_n 3, 1) := by decide +kernel
theorem dX6_buy_82 : decode cX6_buy 82 = .ok (.dup2, 1) := by decide +kernel
theorem dX6_buy_83 : decode cX6_buy 83 = .ok (.iaload, 1) := by decide +kernel
theorem dX6_buy_84 : decode cX6_buy 84 = .ok (.iconst 1, 1) := by decide +kernel
theorem dX6_buy_85 : decode cX6_buy 85 = .ok (.isub, 1) := by decide +kernel
theorem dX6_buy_86 : decode cX6_buy 86 = .ok (.iastore, 1) := by decide +kernel
theorem dX6_buy_87 : decode cX6_buy 87 = .ok (.aload_n 0, 1) := by decide +kernel
theorem dX6_buy_88 : decode cX6_buy 88 = .ok (.getfield 40, 3) := by decide +kernel
theorem dX6_buy_91 : decode cX6_buy 91 = .ok (.iconst 5, 1) := by decide +kernel
theorem dX6_buy_92 : decode cX6_buy 92 = .ok (.iload_n 2, 1) := by decide +kernel
theorem dX6_buy_93 : decode cX6_buy 93 = .ok (.imul, 1) := by decide +kernel
theorem dX6_buy_94 : decode cX6_buy 94 = .ok (.iload_n 1, 1) := by decide +kernel
theorem dX6_buy_95 : decode cX6_buy 95 = .ok (.iadd, 1) := by decide +kernel
theorem dX6_buy_96 : decode cX6_buy 96 = .ok (.dup2, 1) := by decide +kernel
theorem dX6_buy_97 : decode cX6_buy 97 = .ok (.iaload, 1) := by decide +kernel
theorem dX6_buy_98 : decode cX6_buy 98 = .ok (.iconst 1, 1) := by decide +kernel
theorem dX6_buy_99 : decode cX6_buy 99 = .ok (.iadd, 1) := by decide +kernel
theorem dX6_buy_100 : decode cX6_buy 100 = .ok (.iastore, 1) := by decide +kernel
theorem dX6_buy_101 : decode cX6_buy 101 = .ok (.aload_n 0, 1) := by decide +kernel
theorem dX6_buy_102 : decode cX6_buy 102 = .ok (.getfield 28, 3) := by decide +kernel
theorem dX6_buy_105 : decode cX6_buy 105 = .ok (.iload_n 2, 1) := by decide +kernel
theorem dX6_buy_106 : decode cX6_buy 106 = .ok (.dup2, 1) := by decide +kernel
theorem dX6_buy_107 : decode cX6_buy 107 = .ok (.iaload, 1) := by decide +kernel
theorem dX6_buy_108 : decode cX6_buy 108 = .ok (.aload_n 0, 1) := by decide +kernel
theorem dX6_buy_109 : decode cX6_buy 109 = .ok (.getfield 19, 3) := by decide +kernel
theorem dX6_buy_112 : decode cX6_buy 112 = .ok (.iload_n 3, 1) := by decide +kernel
theorem dX6_buy_113 : decode cX6_buy 113 = .ok (.iaload, 1) := by decide +kernel
theorem dX6_buy_114 : decode cX6_buy 114 = .ok (.isub, 1) := by decide +kernel
theorem dX6_buy_115 : decode cX6_buy 115 = .ok (.iastore, 1) := by decide +kernel
theorem dX6_buy_116 : decode cX6_buy 116 = .ok (.aload_n 0, 1) := by decide +kernel
theorem dX6_buy_117 : decode cX6_buy 117 = .ok (.getfield 16, 3) := by decide +kernel
theorem dX6_buy_120 : decode cX6_buy 120 = .ok (.aload_n 0, 1) := by decide +kernel
theorem dX6_buy_121 : decode cX6_buy 121 = .ok (.getfield 25, 3) := by decide +kernel
theorem dX6_buy_124 : decode cX6_buy 124 = .ok (.iload_n 2, 1) := by decide +kernel
theorem dX6_buy_125 : decode cX6_buy 125 = .ok (.iaload, 1) := by decide +kernel
theorem dX6_buy_126 : decode cX6_buy 126 = .ok (.dup2, 1) := by decide +kernel
theorem dX6_buy_127 : decode cX6_buy 127 = .ok (.iaload, 1) := by decide +kernel
theorem dX6_buy_128 : decode cX6_buy 128 = .ok (.aload_n 0, 1) := by decide +kernel
theorem dX6_buy_129 : decode cX6_buy 129 = .ok (.getfield 19, 3) := by decide +kernel
theorem dX6_buy_132 : decode cX6_buy 132 = .ok (.iload_n 3, 1) := by decide +kernel
theorem dX6_buy_133 : decode cX6_buy 133 = .ok (.iaload, 1) := by decide +kernel
theorem dX6_buy_134 : decode cX6_buy 134 = .ok (.iadd, 1) := by decide +kernel
theorem dX6_buy_135 : decode cX6_buy 135 = .ok (.iastore, 1) := by decide +kernel
theorem dX6_buy_136 : decode cX6_buy 136 = .ok (.aload_n 0, 1) := by decide +kernel
theorem dX6_buy_137 : decode cX6_buy 137 = .ok (.iload_n 2, 1) := by decide +kernel
theorem dX6_buy_138 : decode cX6_buy 138 = .ok (.iconst 1, 1) := by decide +kernel
theorem dX6_buy_139 : decode cX6_buy 139 = .ok (.iconst (-1), 1) := by decide +kernel
theorem dX6_buy_140 : decode cX6_buy 140 = .ok (.iconst (-1), 1) := by decide +kernel
theorem dX6_buy_141 : decode cX6_buy 141 = .ok (.invokevirtual 130, 3) := by decide +kernel
theorem dX6_buy_144 : decode cX6_buy 144 = .ok (.aload_n 0, 1) := by decide +kernel
theorem dX6_buy_145 : decode cX6_buy 145 = .ok (.getfield 28, 3) := by decide +kernel
theorem dX6_buy_148 : decode cX6_buy 148 = .ok (.iload_n 2, 1) := by decide +kernel
theorem dX6_buy_149 : decode cX6_buy 149 = .ok (.iaload, 1) := by decide +kernel
theorem dX6_buy_150 : decode cX6_buy 150 = .ok (.ireturn, 1) := by decide +kernel
theorem dX6_sell_0 : decode cX6_sell 0 = .ok (.aload_n 0, 1) := by decide +kernel
theorem dX6_sell_1 : decode cX6_sell 1 = .ok (.invokevirtual 102, 3) := by decide +kernel
theorem dX6_sell_4 : decode cX6_sell 4 = .ok (.istore_n 2, 1) := by decide +kernel
theorem dX6_sell_5 : decode cX6_sell 5 = .ok (.iload_n 1, 1) := by decide +kernel
theorem dX6_sell_6 : decode cX6_sell 6 = .ok (.invokestatic 116, 3) := by decide +kernel
theorem dX6_sell_9 : decode cX6_sell 9 = .ok (.ifCond .eq 12, 3) := by decide +kernel
theorem dX6_sell_12 : decode cX6_sell 12 = .ok (.aload_n 0, 1) := by decide +kernel
theorem dX6_sell_13 : decode cX6_sell 13 = .ok (.iload_n 2, 1) := by decide +kernel
theorem dX6_sell_14 : decode cX6_sell 14 = .ok (.iload_n 1, 1) := by decide +kernel
theorem dX6_sell_15 : decode cX6_sell 15 = .ok (.invokevirtual 152, 3) := by decide +kernel
theorem dX6_sell_18 : decode cX6_sell 18 = .ok (.goto 4, 3) := by decide +kernel
theorem dX6_sell_21 : decode cX6_sell 21 = .ok (.iconst (-1), 1) := by decide +kernel
theorem dX6_sell_22 : decode cX6_sell 22 = .ok (.istore_n 3, 1) := by decide +kernel
theorem dX6_sell_23 : decode cX6_sell 23 = .ok (.aload_n 0, 1) := by decide +kernel
theorem dX6_sell_24 : decode cX6_sell 24 = .ok (.iload_n 1, 1) := by decide +kernel
theorem dX6_sell_25 : decode cX6_sell 25 = .ok (.invokestatic 116, 3) := by decide +kernel
theorem dX6_sell_28 : decode cX6_sell 28 = .ok (.ifCond .ne 7, 3) := by decide +kernel
theorem dX6_sell_31 : decode cX6_sell 31 = .ok (.iconst 1, 1) := by decide +kernel
theorem dX6_sell_32 : decode cX6_sell 32 = .ok (.goto 48, 3) := by decide +kernel
theorem dX6_sell_35 : decode cX6_sell 35 = .ok (.iload_n 3, 1) := by decide +kernel
theorem dX6_sell_36 : decode cX6_sell 36 = .ok (.iconst (-1), 1) := by decide +kernel
theorem dX6_sell_37 : decode cX6_sell 37 = .ok (.if_icmp .eq 38, 3) := by decide +kernel
theorem dX6_sell_40 : decode cX6_sell 40 = .ok (.aload_n 0, 1) := by decide +kernel
theorem dX6_sell_41 : decode cX6_sell 41 = .ok (.getfield 40, 3) := by decide +kernel
theorem dX6_sell_44 : decode cX6_sell 44 = .ok (.iconst 5, 1) := by decide +kernel
theorem dX6_sell_45 : decode cX6_sell 45 = .ok (.iload_n 2, 1) := by decide +kernel
theorem dX6_sell_46 : decode cX6_sell 46 = .ok (.imul, 1) := by decide +kernel
theorem dX6_sell_47 : decode cX6_sell 47 = .ok (.iload_n 1, 1) := by decide +kernel
theorem dX6_sell_48 : decode cX6_sell 48 = .ok (.iadd, 1) := by decide +kernel
theorem dX6_sell_49 : decode cX6_sell 49 = .ok (.iaload, 1) := by decide +kernel
theorem dX6_sell_50 : decode cX6_sell 50 = .ok (.ifCond .eq 25, 3) := by decide +kernel
theorem dX6_sell_53 : decode cX6_sell 53 = .ok (.aload_n 0, 1) := by decide +kernel
theorem dX6_sell_54 : decode cX6_sell 54 = .ok (.getfield 16, 3) := by decide +kernel
theorem dX6_sell_57 : decode cX6_sell 57 = .ok (.aload_n 0, 1) := by decide +kernel
theorem dX6_sell_58 : decode cX6_sell 58 = .ok (.getfield 25, 3) := by decide +kernel
theorem dX6_sell_61 : decode cX6_sell 61 = .ok (.iload_n 2, 1) := by decide +kernel
theorem dX6_sell_62 : decode cX6_sell 62 = .ok (.iaload, 1) := by decide +kernel
theorem dX6_sell_63 : decode cX6_sell 63 = .ok (.iaload, 1) := by decide +kernel
theorem dX6_sell_64 : decode cX6_sell 64 = .ok (.aload_n 0, 1) := by decide +kernel
theorem dX6_sell_65 : decode cX6_sell 65 = .ok (.getfield 19, 3) := by decide +kernel
theorem dX6_sell_68 : decode cX6_sell 68 = .ok (.iload_n 3, 1) := by decide +kernel
theorem dX6_sell_69 : decode cX6_sell 69 = .ok (.iaload, 1) := by decide +kernel
theorem dX6_sell_70 : decode cX6_sell 70 = .ok (.iconst 2, 1) := by decide +kernel
theorem dX6_sell_71 : decode cX6_sell 71 = .ok (.idiv, 1) := by decide +kernel
theorem dX6_sell_72 : decode cX6_sell 72 = .ok (.if_icmp .ge 7, 3) := by decide +kernel
theorem dX6_sell_75 : decode cX6_sell 75 = .ok (.iconst 2, 1) := by decide +kernel
theorem dX6_sell_76 : decode cX6_sell 76 = .ok (.goto 4, 3) := by decide +kernel
theorem dX6_sell_79 : decode cX6_sell 79 = .ok (.iconst 0, 1) := by decide +kernel
theorem dX6_sell_80 : decode cX6_sell 80 = .ok (.invokevirtual 110, 3) := by decide +kernel
theorem dX6_sell_83 : decode cX6_sell 83 = .ok (.ifCond .ne 5, 3) := by decide +kernel
theorem dX6_sell_86 : decode cX6_sell 86 = .ok (.iconst 0, 1) := by decide +kernel
theorem dX6_sell_87 : decode cX6_sell 87 = .ok (.ireturn, 1) := by decide +kernel
theorem dX6_sell_88 : decode cX6_sell 88 = .ok (.aload_n 0, 1) := by decide +kernel
theorem dX6_sell_89 : decode cX6_sell 89 = .ok (.getfield 22, 3) := by decide +kernel
theorem dX6_sell_92 : decode cX6_sell 92 = .ok (.iload_n 3, 1) := by decide +kernel
theorem dX6_sell_93 : decode cX6_sell 93 = .ok (.dup2, 1) := by decide +kernel
theorem dX6_sell_94 : decode cX6_sell 94 = .ok (.iaload, 1) := by decide +kernel
theorem dX6_sell_95 : decode cX6_sell 95 = .ok (.iconst 1, 1) := by decide +kernel
theorem dX6_sell_96 : decode cX6_sell 96 = .ok (.iadd, 1) := by decide +kernel
theorem dX6_sell_97 : decode cX6_sell 97 = .ok (.iastore, 1) := by decide +kernel
theorem dX6_sell_98 : decode cX6_sell 98 = .ok (.aload_n 0, 1) := by decide +kernel
theorem dX6_sell_99 : decode cX6_sell 99 = .ok (.getfield 40, 3) := by decide +kernel
theorem dX6_sell_102 : decode cX6_sell 102 = .ok (.iconst 5, 1) := by decide +kernel
theorem dX6_sell_103 : decode cX6_sell 103 = .ok (.iload_n 2, 1) := by decide +kernel
theorem dX6_sell_104 : decode cX6_sell 104 = .ok (.imul, 1) := by decide +kernel
theorem dX6_sell_105 : decode cX6_sell 105 = .ok (.iload_n 1, 1) := by decide +kernel
theorem dX6_sell_106 : decode cX6_sell 106 = .ok (.iadd, 1) := by decide +kernel
theorem dX6_sell_107 : decode cX6_sell 107 = .ok (.dup2, 1) := by decide +kernel
theorem dX6_sell_108 : decode cX6_sell 108 = .ok (.iaload, 1) := by decide +kernel
theorem dX6_sell_109 : decode cX6_sell 109 = .ok (.iconst 1, 1) := by decide +kernel
theorem dX6_sell_110 : decode cX6_sell 110 = .ok (.isub, 1) := by decide +kernel
theorem dX6_sell_111 : decode cX6_sell 111 = .ok (.iastore, 1) := by decide +kernel
theorem dX6_sell_112 : decode cX6_sell 112 = .ok (.aload_n 0, 1) := by decide +kernel
theorem dX6_sell_113 : decode cX6_sell 113 = .ok (.getfield 28, 3) := by decide +kernel
theorem dX6_sell_116 : decode cX6_sell 116 = .ok (.iload_n 2, 1) := by decide +kernel
theorem dX6_sell_117 : decode cX6_sell 117 = .ok (.dup2, 1) := by decide +kernel
theorem dX6_sell_118 : decode cX6_sell 118 = .ok (.iaload, 1) := by decide +kernel
theorem dX6_sell_119 : decode cX6_sell 119 = .ok (.aload_n 0, 1) := by decide +kernel
theorem dX6_sell_120 : decode cX6_sell 120 = .ok (.getfield 19, 3) := by decide +kernel
theorem dX6_sell_123 : decode cX6_sell 123 = .ok (.iload_n 3, 1) := by decide +kernel
theorem dX6_sell_124 : decode cX6_sell 124 = .ok (.iaload, 1) := by decide +kernel
theorem dX6_sell_125 : decode cX6_sell 125 = .ok (.iconst 2, 1) := by decide +kernel
theorem dX6_sell_126 : decode cX6_sell 126 = .ok (.idiv, 1) := by decide +kernel
theorem dX6_sell_127 : decode cX6_sell 127 = .ok (.iadd, 1) := by decide +kernel
theorem dX6_sell_128 : decode cX6_sell 128 = .ok (.iastore, 1) := by decide +kernel
theorem dX6_sell_129 : decode cX6_sell 129 = .ok (.aload_n 0, 1) := by decide +kernel
theorem dX6_sell_130 : decode cX6_sell 130 = .ok (.getfield 16, 3) := by decide +kernel
theorem dX6_sell_133 : decode cX6_sell 133 = .ok (.aload_n 0, 1) := by decide +kernel
theorem dX6_sell_134 : decode cX6_sell 134 = .ok (.getfield 25, 3) := by decide +kernel
theorem dX6_sell_137 : decode cX6_sell 137 = .ok (.iload_n 2, 1) := by decide +kernel
theorem dX6_sell_138 : decode cX6_sell 138 = .ok (.iaload, 1) := by decide +kernel
theorem dX6_sell_139 : decode cX6_sell 139 = .ok (.dup2, 1) := by decide +kernel
theorem dX6_sell_140 : decode cX6_sell 140 = .ok (.iaload, 1) := by decide +kernel
theorem dX6_sell_141 : decode cX6_sell 141 = .ok (.aload_n 0, 1) := by decide +kernel
theorem dX6_sell_142 : decode cX6_sell 142 = .ok (.getfield 19, 3) := by decide +kernel
theorem dX6_sell_145 : decode cX6_sell 145 = .ok (.iload_n 3, 1) := by decide +kernel
theorem dX6_sell_146 : decode cX6_sell 146 = .ok (.iaload, 1) := by decide +kernel
theorem dX6_sell_147 : decode cX6_sell 147 = .ok (.iconst 2, 1) := by decide +kernel
theorem dX6_sell_148 : decode cX6_sell 148 = .ok (.idiv, 1) := by decide +kernel
theorem dX6_sell_149 : decode cX6_sell 149 = .ok (.isub, 1) := by decide +kernel
theorem dX6_sell_150 : decode cX6_sell 150 = .ok (.iastore, 1) := by decide +kernel
theorem dX6_sell_151 : decode cX6_sell 151 = .ok (.aload_n 0, 1) := by decide +kernel
theorem dX6_sell_152 : decode cX6_sell 152 = .ok (.iload_n 2, 1) := by decide +kernel
theorem dX6_sell_153 : decode cX6_sell 153 = .ok (.iconst 1, 1) := by decide +kernel
theorem dX6_sell_154 : decode cX6_sell 154 = .ok (.iconst (-1), 1) := by decide +kernel
theorem dX6_sell_155 : decode cX6_sell 155 = .ok (.iconst (-1), 1) := by decide +kernel
theorem dX6_sell_156 : decode cX6_sell 156 = .ok (.invokevirtual 130, 3) := by decide +kernel
theorem dX6_sell_159 : decode cX6_sell 159 = .ok (.aload_n 0, 1) := by decide +kernel
theorem dX6_sell_160 : decode cX6_sell 160 = .ok (.getfield 28, 3) := by decide +kernel
theorem dX6_sell_163 : decode cX6_sell 163 = .ok (.iload_n 2, 1) := by decide +kernel
theorem dX6_sell_164 : decode cX6_sell 164 = .ok (.iaload, 1) := by decide +kernel
theorem dX6_sell_165 : decode cX6_sell 165 = .ok (.ireturn, 1) := by decide +kernel
theorem dX6_rolls_0 : decode cX6_rolls 0 = .ok (.aload_n 0, 1) := by decide +kernel
theorem dX6_rolls_1 : decode cX6_rolls 1 = .ok (.sipush 25173, 3) := by decide +kernel
theorem dX6_rolls_4 : decode cX6_rolls 4 = .ok (.aload_n 0, 1) := by decide +kernel
theorem dX6_rolls_5 : decode cX6_rolls 5 = .ok (.getfield 82, 3) := by decide +kernel
theorem dX6_rolls_8 : decode cX6_rolls 8 = .ok (.imul, 1) := by decide +kernel
theorem dX6_rolls_9 : decode cX6_rolls 9 = .ok (.sipush 13849, 3) := by decide +kernel
theorem dX6_rolls_12 : decode cX6_rolls 12 = .ok (.iadd, 1) := by decide +kernel
theorem dX6_rolls_13 : decode cX6_rolls 13 = .ok (.ldc 156, 2) := by decide +kernel
theorem dX6_rolls_15 : decode cX6_rolls 15 = .ok (.irem, 1) := by decide +kernel
theorem dX6_rolls_16 : decode cX6_rolls 16 = .ok (.putfield 82, 3) := by decide +kernel
theorem dX6_rolls_19 : decode cX6_rolls 19 = .ok (.iconst 1, 1) := by decide +kernel
theorem dX6_rolls_20 : decode cX6_rolls 20 = .ok (.aload_n 0, 1) := by decide +kernel
theorem dX6_rolls_21 : decode cX6_rolls 21 = .ok (.getfield 82, 3) := by decide +kernel
theorem dX6_rolls_24 : decode cX6_rolls 24 = .ok (.bipush 6, 2) := by decide +kernel
theorem dX6_rolls_26 : decode cX6_rolls 26 = .ok (.irem, 1) := by decide +kernel
theorem dX6_rolls_27 : decode cX6_rolls 27 = .ok (.iadd, 1) := by decide +kernel
theorem dX6_rolls_28 : decode cX6_rolls 28 = .ok (.aload_n 0, 1) := by decide +kernel
theorem dX6_rolls_29 : decode cX6_rolls 29 = .ok (.getfield 31, 3) := by decide +kernel
theorem dX6_rolls_32 : decode cX6_rolls 32 = .ok (.iload_n 1, 1) := by decide +kernel
theorem dX6_rolls_33 : decode cX6_rolls 33 = .ok (.iaload, 1) := by decide +kernel
theorem dX6_rolls_34 : decode cX6_rolls 34 = .ok (.iadd, 1) := by decide +kernel
theorem dX6_rolls_35 : decode cX6_rolls 35 = .ok (.ireturn, 1) := by decide +kernel
theorem dX6_isBeaten_0 : decode cX6_isBeaten 0 = .ok (.aload_n 0, 1) := by decide +kernel
theorem dX6_isBeaten_1 : decode cX6_isBeaten 1 = .ok (.getfield 28, 3) := by decide +kernel
theorem dX6_isBeaten_4 : decode cX6_isBeaten 4 = .ok (.iload_n 1, 1) := by decide +kernel
theorem dX6_isBeaten_5 : decode cX6_isBeaten 5 = .ok (.iaload, 1) := by decide +kernel
theorem dX6_isBeaten_6 : decode cX6_isBeaten 6 = .ok (.iconst 2, 1) := by decide +kernel
theorem dX6_isBeaten_7 : decode cX6_isBeaten 7 = .ok (.idiv, 1) := by decide +kernel
theorem dX6_isBeaten_8 : decode cX6_isBeaten 8 = .ok (.istore 4, 2) := by decide +kernel
theorem dX6_isBeaten_10 : decode cX6_isBeaten 10 = .ok (.aload_n 0, 1) := by decide +kernel
theorem dX6_isBeaten_11 : decode cX6_isBeaten 11 = .ok (.getfield 28, 3) := by decide +kernel
theorem dX6_isBeaten_14 : decode cX6_isBeaten 14 = .ok (.iload_n 1, 1) := by decide +kernel
theorem dX6_isBeaten_15 : decode cX6_isBeaten 15 = .ok (.dup2, 1) := by decide +kernel
theorem dX6_isBeaten_16 : decode cX6_isBeaten 16 = .ok (.iaload, 1) := by decide +kernel
theorem dX6_isBeaten_17 : decode cX6_isBeaten 17 = .ok (.iload 4, 2) := by decide +kernel
theorem dX6_isBeaten_19 : decode cX6_isBeaten 19 = .ok (.isub, 1) := by decide +kernel
theorem dX6_isBeaten_20 : decode cX6_isBeaten 20 = .ok (.iastore, 1) := by decide +kernel
theorem dX6_isBeaten_21 : decode cX6_isBeaten 21 = .ok (.aload_n 0, 1) := by decide +kernel
theorem dX6_isBeaten_22 : decode cX6_isBeaten 22 = .ok (.getfield 28, 3) := by decide +kernel
theorem dX6_isBeaten_25 : decode cX6_isBeaten 25 = .ok (.iload_n 2, 1) := by decide +kernel
theorem dX6_isBeaten_26 : decode cX6_isBeaten 26 = .ok (.dup2, 1) := by decide +kernel
theorem dX6_isBeaten_27 : decode cX6_isBeaten 27 = .ok (.iaload, 1) := by decide +kernel
theorem dX6_isBeaten_28 : decode cX6_isBeaten 28 = .ok (.iload 4, 2) := by decide +kernel
theorem dX6_isBeaten_30 : decode cX6_isBeaten 30 = .ok (.iadd, 1) := by decide +kernel
theorem dX6_isBeaten_31 : decode cX6_isBeaten 31 = .ok (.iastore, 1) := by decide +kernel
theorem dX6_isBeaten_32 : decode cX6_isBeaten 32 = .ok (.iconst 0, 1) := by decide +kernel
theorem dX6_isBeaten_33 : decode cX6_isBeaten 33 = .ok (.istore 5, 2) := by decide +kernel
theorem dX6_isBeaten_35 : decode cX6_isBeaten 35 = .ok (.iload 5, 2) := by decide +kernel
theorem dX6_isBeaten_37 : decode cX6_isBeaten 37 = .ok (.iconst 5, 1) := by decide +kernel
theorem dX6_isBeaten_38 : decode cX6_isBeaten 38 = .ok (.if_icmp .ge 51, 3) := by decide +kernel
theorem dX6_isBeaten_41 : decode cX6_isBeaten 41 = .ok (.aload_n 0, 1) := by decide +kernel
theorem dX6_isBeaten_42 : decode cX6_isBeaten 42 = .ok (.getfield 13, 3) := by decide +kernel
theorem dX6_isBeaten_45 : decode cX6_isBeaten 45 = .ok (.iconst 5, 1) := by decide +kernel
theorem dX6_isBeaten_46 : decode cX6_isBeaten 46 = .ok (.aload_n 0, 1) := by decide +kernel
theorem dX6_isBeaten_47 : decode cX6_isBeaten 47 = .ok (.getfield 25, 3) := by decide +kernel
theorem dX6_isBeaten_50 : decode cX6_isBeaten 50 = .ok (.iload_n 1, 1) := by decide +kernel
theorem dX6_isBeaten_51 : decode cX6_isBeaten 51 = .ok (.iaload, 1) := by decide +kernel
theorem dX6_isBeaten_52 : decode cX6_isBeaten 52 = .ok (.imul, 1) := by decide +kernel
theorem dX6_isBeaten_53 : decode cX6_isBeaten 53 = .ok (.iload 5, 2) := by decide +kernel
theorem dX6_isBeaten_55 : decode cX6_isBeaten 55 = .ok (.iadd, 1) := by decide +kernel
theorem dX6_isBeaten_56 : decode cX6_isBeaten 56 = .ok (.dup2, 1) := by decide +kernel
theorem dX6_isBeaten_57 : decode cX6_isBeaten 57 = .ok (.iaload, 1) := by decide +kernel
theorem dX6_isBeaten_58 : decode cX6_isBeaten 58 = .ok (.aload_n 0, 1) := by decide +kernel
theorem dX6_isBeaten_59 : decode cX6_isBeaten 59 = .ok (.getfield 40, 3) := by decide +kernel
theorem dX6_isBeaten_62 : decode cX6_isBeaten 62 = .ok (.iconst 5, 1) := by decide +kernel
theorem dX6_isBeaten_63 : decode cX6_isBeaten 63 = .ok (.iload_n 1, 1) := by decide +kernel
theorem dX6_isBeaten_64 : decode cX6_isBeaten 64 = .ok (.imul, 1) := by decide +kernel
theorem dX6_isBeaten_65 : decode cX6_isBeaten 65 = .ok (.iload 5, 2) := by decide +kernel
theorem dX6_isBeaten_67 : decode cX6_isBeaten 67 = .ok (.iadd, 1) := by decide +kernel
theorem dX6_isBeaten_68 : decode cX6_isBeaten 68 = .ok (.iaload, 1) := by decide +kernel
theorem dX6_isBeaten_69 : decode cX6_isBeaten 69 = .ok (.iadd, 1) := by decide +kernel
theorem dX6_isBeaten_70 : decode cX6_isBeaten 70 = .ok (.iastore, 1) := by decide +kernel
theorem dX6_isBeaten_71 : decode cX6_isBeaten 71 = .ok (.aload_n 0, 1) := by decide +kernel
theorem dX6_isBeaten_72 : decode cX6_isBeaten 72 = .ok (.getfield 40, 3) := by decide +kernel
theorem dX6_isBeaten_75 : decode cX6_isBeaten 75 = .ok (.iconst 5, 1) := by decide +kernel
theorem dX6_isBeaten_76 : decode cX6_isBeaten 76 = .ok (.iload_n 1, 1) := by decide +kernel
theorem dX6_isBeaten_77 : decode cX6_isBeaten 77 = .ok (.imul, 1) := by decide +kernel
theorem dX6_isBeaten_78 : decode cX6_isBeaten 78 = .ok (.iload 5, 2) := by decide +kernel
theorem dX6_isBeaten_80 : decode cX6_isBeaten 80 = .ok (.iadd, 1) := by decide +kernel
theorem dX6_isBeaten_81 : decode cX6_isBeaten 81 = .ok (.iconst 0, 1) := by decide +kernel
theorem dX6_isBeaten_82 : decode cX6_isBeaten 82 = .ok (.iastore, 1) := by decide +kernel
theorem dX6_isBeaten_83 : decode cX6_isBeaten 83 = .ok (.iinc 5 1, 3) := by decide +kernel
theorem dX6_isBeaten_86 : decode cX6_isBeaten 86 = .ok (.goto (-51), 3) := by decide +kernel
theorem dX6_isBeaten_89 : decode cX6_isBeaten 89 = .ok (.aload_n 0, 1) := by decide +kernel
theorem dX6_isBeaten_90 : decode cX6_isBeaten 90 = .ok (.getfield 25, 3) := by decide +kernel
theorem dX6_isBeaten_93 : decode cX6_isBeaten 93 = .ok (.iload_n 1, 1) := by decide +kernel
theorem dX6_isBeaten_94 : decode cX6_isBeaten 94 = .ok (.iconst 0, 1) := by decide +kernel
theorem dX6_isBeaten_95 : decode cX6_isBeaten 95 = .ok (.iastore, 1) := by decide +kernel
theorem dX6_isBeaten_96 : decode cX6_isBeaten 96 = .ok (.aload_n 0, 1) := by decide +kernel
theorem dX6_isBeaten_97 : decode cX6_isBeaten 97 = .ok (.getfield 34, 3) := by decide +kernel
theorem dX6_isBeaten_100 : decode cX6_isBeaten 100 = .ok (.iload_n 1, 1) := by decide +kernel
theorem dX6_isBeaten_101 : decode cX6_isBeaten 101 = .ok (.bipush 10, 2) := by decide +kernel
theorem dX6_isBeaten_103 : decode cX6_isBeaten 103 = .ok (.iastore, 1) := by decide +kernel
theorem dX6_isBeaten_104 : decode cX6_isBeaten 104 = .ok (.aload_n 0, 1) := by decide +kernel
theorem dX6_isBeaten_105 : decode cX6_isBeaten 105 = .ok (.getfield 37, 3) := by decide +kernel
theorem dX6_isBeaten_108 : decode cX6_isBeaten 108 = .ok (.iload_n 1, 1) := by decide +kernel
theorem dX6_isBeaten_109 : decode cX6_isBeaten 109 = .ok (.aload_n 0, 1) := by decide +kernel
theorem dX6_isBeaten_110 : decode cX6_isBeaten 110 = .ok (.getfield 37, 3) := by decide +kernel
theorem dX6_isBeaten_113 : decode cX6_isBeaten 113 = .ok (.iload_n 1, 1) := by decide +kernel
theorem dX6_isBeaten_114 : decode cX6_isBeaten 114 = .ok (.iaload, 1) := by decide +kernel
theorem dX6_isBeaten_115 : decode cX6_isBeaten 115 = .ok (.iload_n 3, 1) := by decide +kernel
theorem dX6_isBeaten_116 : decode cX6_isBeaten 116 = .ok (.bipush 10, 2) := by decide +kernel
theorem dX6_isBeaten_118 : decode cX6_isBeaten 118 = .ok (.iadd, 1) := by decide +kernel
theorem dX6_isBeaten_119 : decode cX6_isBeaten 119 = .ok (.if_icmp .le 12, 3) := by decide +kernel
theorem dX6_isBeaten_122 : decode cX6_isBeaten 122 = .ok (.aload_n 0, 1) := by decide +kernel
theorem dX6_isBeaten_123 : decode cX6_isBeaten 123 = .ok (.getfield 37, 3) := by decide +kernel
theorem dX6_isBeaten_126 : decode cX6_isBeaten 126 = .ok (.iload_n 1, 1) := by decide +kernel
theorem dX6_isBeaten_127 : decode cX6_isBeaten 127 = .ok (.iaload, 1) := by decide +kernel
theorem dX6_isBeaten_128 : decode cX6_isBeaten 128 = .ok (.goto 7, 3) := by decide +kernel
theorem dX6_isBeaten_131 : decode cX6_isBeaten 131 = .ok (.iload_n 3, 1) := by decide +kernel
theorem dX6_isBeaten_132 : decode cX6_isBeaten 132 = .ok (.bipush 10, 2) := by decide +kernel
theorem dX6_isBeaten_134 : decode cX6_isBeaten 134 = .ok (.iadd, 1) := by decide +kernel
theorem dX6_isBeaten_135 : decode cX6_isBeaten 135 = .ok (.iastore, 1) := by decide +kernel
theorem dX6_isBeaten_136 : decode cX6_isBeaten 136 = .ok (.return_, 1) := by decide +kernel
theorem dX6_attack_0 : decode cX6_attack 0 = .ok (.aload_n 0, 1) := by decide +kernel
theorem dX6_attack_1 : decode cX6_attack 1 = .ok (.invokevirtual 102, 3) := by decide +kernel
theorem dX6_attack_4 : decode cX6_attack 4 = .ok (.istore_n 2, 1) := by decide +kernel
theorem dX6_attack_5 : decode cX6_attack 5 = .ok (.aload_n 0, 1) := by decide +kernel
theorem dX6_attack_6 : decode cX6_attack 6 = .ok (.aload_n 0, 1) := by decide +kernel
theorem dX6_attack_7 : decode cX6_attack 7 = .ok (.iload_n 1, 1) := by decide +kernel
theorem dX6_attack_8 : decode cX6_attack 8 = .ok (.invokevirtual 146, 3) := by decide +kernel
theorem dX6_attack_11 : decode cX6_attack 11 = .ok (.ifCond .ne 7, 3) := by decide +kernel
theorem dX6_attack_14 : decode cX6_attack 14 = .ok (.iconst 1, 1) := by decide +kernel
theorem dX6_attack_15 : decode cX6_attack 15 = .ok (.goto 17, 3) := by decide +kernel
theorem dX6_attack_18 : decode cX6_attack 18 = .ok (.aload_n 0, 1) := by decide +kernel
theorem dX6_attack_19 : decode cX6_attack 19 = .ok (.iload_n 2, 1) := by decide +kernel
theorem dX6_attack_20 : decode cX6_attack 20 = .ok (.iload_n 1, 1) := by decide +kernel
theorem dX6_attack_21 : decode cX6_attack 21 = .ok (.invokevirtual 149, 3) := by decide +kernel
theorem dX6_attack_24 : decode cX6_attack 24 = .ok (.ifCond .eq 7, 3) := by decide +kernel
theorem dX6_attack_27 : decode cX6_attack 27 = .ok (.iconst 2, 1) := by decide +kernel
theorem dX6_attack_28 : decode cX6_attack 28 = .ok (.goto 4, 3) := by decide +kernel
theorem dX6_attack_31 : decode cX6_attack 31 = .ok (.iconst 0, 1) := by decide +kernel
theorem dX6_attack_32 : decode cX6_attack 32 = .ok (.invokevirtual 110, 3) := by decide +kernel
theorem dX6_attack_35 : decode cX6_attack 35 = .ok (.ifCond .ne 5, 3) := by decide +kernel
theorem dX6_attack_38 : decode cX6_attack 38 = .ok (.iconst 0, 1) := by decide +kernel
theorem dX6_attack_39 : decode cX6_attack 39 = .ok (.ireturn, 1) := by decide +kernel
theorem dX6_attack_40 : decode cX6_attack 40 = .ok (.iconst (-1), 1) := by decide +kernel
theorem dX6_attack_41 : decode cX6_attack 41 = .ok (.istore_n 3, 1) := by decide +kernel
theorem dX6_attack_42 : decode cX6_attack 42 = .ok (.iconst 0, 1) := by decide +kernel
theorem dX6_attack_43 : decode cX6_attack 43 = .ok (.istore 4, 2) := by decide +kernel
theorem dX6_attack_45 : decode cX6_attack 45 = .ok (.iload 4, 2) := by decide +kernel
theorem dX6_attack_47 : decode cX6_attack 47 = .ok (.iconst 3, 1) := by decide +kernel
theorem dX6_attack_48 : decode cX6_attack 48 = .ok (.if_icmp .ge 99, 3) := by decide +kernel
theorem dX6_attack_51 : decode cX6_attack 51 = .ok (.iload_n 3, 1) := by decide +kernel
theorem dX6_attack_52 : decode cX6_attack 52 = .ok (.iconst (-1), 1) := by decide +kernel
theorem dX6_attack_53 : decode cX6_attack 53 = .ok (.if_icmp .ne 94, 3) := by decide +kernel
theorem dX6_attack_56 : decode cX6_attack 56 = .ok (.aload_n 0, 1) := by decide +kernel
theorem dX6_attack_57 : decode cX6_attack 57 = .ok (.iload_n 2, 1) := by decide +kernel
theorem dX6_attack_58 : decode cX6_attack 58 = .ok (.invokevirtual 157, 3) := by decide +kernel
theorem dX6_attack_61 : decode cX6_attack 61 = .ok (.istore 5, 2) := by decide +kernel
theorem dX6_attack_63 : decode cX6_attack 63 = .ok (.iload 5, 2) := by decide +kernel
theorem dX6_attack_65 : decode cX6_attack 65 = .ok (.aload_n 0, 1) := by decide +kernel
theorem dX6_attack_66 : decode cX6_attack 66 = .ok (.iload_n 1, 1) := by decide +kernel
theorem dX6_attack_67 : decode cX6_attack 67 = .ok (.invokevirtual 157, 3) := by decide +kernel
theorem dX6_attack_70 : decode cX6_attack 70 = .ok (.isub, 1) := by decide +kernel
theorem dX6_attack_71 : decode cX6_attack 71 = .ok (.istore 5, 2) := by decide +kernel
theorem dX6_attack_73 : decode cX6_attack 73 = .ok (.aload_n 0, 1) := by decide +kernel
theorem dX6_attack_74 : decode cX6_attack 74 = .ok (.getfield 34, 3) := by decide +kernel
theorem dX6_attack_77 : decode cX6_attack 77 = .ok (.iload_n 1, 1) := by decide +kernel
theorem dX6_attack_78 : decode cX6_attack 78 = .ok (.dup2, 1) := by decide +kernel
theorem dX6_attack_79 : decode cX6_attack 79 = .ok (.iaload, 1) := by decide +kernel
theorem dX6_attack_80 : decode cX6_attack 80 = .ok (.iload 5, 2) := by decide +kernel
theorem dX6_attack_82 : decode cX6_attack 82 = .ok (.ifCond .le 8, 3) := by decide +kernel
theorem dX6_attack_85 : decode cX6_attack 85 = .ok (.iload 5, 2) := by decide +kernel
theorem dX6_attack_87 : decode cX6_attack 87 = .ok (.goto 4, 3) := by decide +kernel
theorem dX6_attack_90 : decode cX6_attack 90 = .ok (.iconst 0, 1) := by decide +kernel
theorem dX6_attack_91 : decode cX6_attack 91 = .ok (.isub, 1) := by decide +kernel
theorem dX6_attack_92 : decode cX6_attack 92 = .ok (.iastore, 1) := by decide +kernel
theorem dX6_attack_93 : decode cX6_attack 93 = .ok (.aload_n 0, 1) := by decide +kernel
theorem dX6_attack_94 : decode cX6_attack 94 = .ok (.getfield 34, 3) := by decide +kernel
theorem dX6_attack_97 : decode cX6_attack 97 = .ok (.iload_n 2, 1) := by decide +kernel
theorem dX6_attack_98 : decode cX6_attack 98 = .ok (.dup2, 1) := by decide +kernel
theorem dX6_attack_99 : decode cX6_attack 99 = .ok (.iaload, 1) := by decide +kernel
theorem dX6_attack_100 : decode cX6_attack 100 = .ok (.iload 5, 2) := by decide +kernel
theorem dX6_attack_102 : decode cX6_attack 102 = .ok (.ifCond .ge 8, 3) := by decide +kernel
theorem dX6_attack_105 : decode cX6_attack 105 = .ok (.iload 5, 2) := by decide +kernel
theorem dX6_attack_107 : decode cX6_attack 107 = .ok (.goto 4, 3) := by decide +kernel
theorem dX6_attack_110 : decode cX6_attack 110 = .ok (.iconst 0, 1) := by decide +kernel
theorem dX6_attack_111 : decode cX6_attack 111 = .ok (.iadd, 1) := by decide +kernel
theorem dX6_attack_112 : decode cX6_attack 112 = .ok (.iastore, 1) := by decide +kernel
theorem dX6_attack_113 : decode cX6_attack 113 = .ok (.aload_n 0, 1) := by decide +kernel
theorem dX6_attack_114 : decode cX6_attack 114 = .ok (.getfield 34, 3) := by decide +kernel
theorem dX6_attack_117 : decode cX6_attack 117 = .ok (.iload_n 1, 1) := by decide +kernel
theorem dX6_attack_118 : decode cX6_attack 118 = .ok (.iaload, 1) := by decide +kernel
theorem dX6_attack_119 : decode cX6_attack 119 = .ok (.ifCond .gt 7, 3) := by decide +kernel
theorem dX6_attack_122 : decode cX6_attack 122 = .ok (.iload_n 1, 1) := by decide +kernel
theorem dX6_attack_123 : decode cX6_attack 123 = .ok (.goto 17, 3) := by decide +kernel
theorem dX6_attack_126 : decode cX6_attack 126 = .ok (.aload_n 0, 1) := by decide +kernel
theorem dX6_attack_127 : decode cX6_attack 127 = .ok (.getfield 34, 3) := by decide +kernel
theorem dX6_attack_130 : decode cX6_attack 130 = .ok (.iload_n 2, 1) := by decide +kernel
theorem dX6_attack_131 : decode cX6_attack 131 = .ok (.iaload, 1) := by decide +kernel
theorem dX6_attack_132 : decode cX6_attack 132 = .ok (.ifCond .gt 7, 3) := by decide +kernel
theorem dX6_attack_135 : decode cX6_attack 135 = .ok (.iload_n 2, 1) := by decide +kernel
theorem dX6_attack_136 : decode cX6_attack 136 = .ok (.goto 4, 3) := by decide +kernel
theorem dX6_attack_139 : decode cX6_attack 139 = .ok (.iconst (-1), 1) := by decide +kernel
theorem dX6_attack_140 : decode cX6_attack 140 = .ok (.istore_n 3, 1) := by decide +kernel
theorem dX6_attack_141 : decode cX6_attack 141 = .ok (.iinc 4 1, 3) := by decide +kernel
theorem dX6_attack_144 : decode cX6_attack 144 = .ok (.goto (-99), 3) := by decide +kernel
theorem dX6_attack_147 : decode cX6_attack 147 = .ok (.iload_n 3, 1) := by decide +kernel
theorem dX6_attack_148 : decode cX6_attack 148 = .ok (.iconst (-1), 1) := by decide +kernel
theorem dX6_attack_149 : decode cX6_attack 149 = .ok (.if_icmp .eq 24, 3) := by decide +kernel
theorem dX6_attack_152 : decode cX6_attack 152 = .ok (.aload_n 0, 1) := by decide +kernel
theorem dX6_attack_153 : decode cX6_attack 153 = .ok (.iload_n 3, 1) := by decide +kernel
theorem dX6_attack_154 : decode cX6_attack 154 = .ok (.iload_n 3, 1) := by decide +kernel
theorem dX6_attack_155 : decode cX6_attack 155 = .ok (.iload_n 1, 1) := by decide +kernel
theorem dX6_attack_156 : decode cX6_attack 156 = .ok (.if_icmp .ne 7, 3) := by decide +kernel
theorem dX6_attack_159 : decode cX6_attack 159 = .ok (.iload_n 2, 1) := by decide +kernel
theorem dX6_attack_160 : decode cX6_attack 160 = .ok (.goto 4, 3) := by decide +kernel
theorem dX6_attack_163 : decode cX6_attack 163 = .ok (.iload_n 1, 1) := by decide +kernel
theorem dX6_attack_164 : decode cX6_attack 164 = .ok (.aload_n 0, 1) := by decide +kernel
theorem dX6_attack_165 : decode cX6_attack 165 = .ok (.getfield 37, 3) := by decide +kernel
theorem dX6_attack_168 : decode cX6_attack 168 = .ok (.iload_n 2, 1) := by decide +kernel
theorem dX6_attack_169 : decode cX6_attack 169 = .ok (.iaload, 1) := by decide +kernel
theorem dX6_attack_170 : decode cX6_attack 170 = .ok (.invokevirtual 161, 3) := by decide +kernel
theorem dX6_attack_173 : decode cX6_attack 173 = .ok (.aload_n 0, 1) := by decide +kernel
theorem dX6_attack_174 : decode cX6_attack 174 = .ok (.iload_n 2, 1) := by decide +kernel
theorem dX6_attack_175 : decode cX6_attack 175 = .ok (.iload_n 3, 1) := by decide +kernel
theorem dX6_attack_176 : decode cX6_attack 176 = .ok (.iload_n 2, 1) := by decide +kernel
theorem dX6_attack_177 : decode cX6_attack 177 = .ok (.if_icmp .ne 7, 3) := by decide +kernel
theorem dX6_attack_180 : decode cX6_attack 180 = .ok (.iconst 0, 1) := by decide +kernel
theorem dX6_attack_181 : decode cX6_attack 181 = .ok (.goto 4, 3) := by decide +kernel
theorem dX6_attack_184 : decode cX6_attack 184 = .ok (.iconst 3, 1) := by decide +kernel
theorem dX6_attack_185 : decode cX6_attack 185 = .ok (.iconst (-1), 1) := by decide +kernel
theorem dX6_attack_186 : decode cX6_attack 186 = .ok (.iload_n 3, 1) := by decide +kernel
theorem dX6_attack_187 : decode cX6_attack 187 = .ok (.iload_n 1, 1) := by decide +kernel
theorem dX6_attack_188 : decode cX6_attack 188 = .ok (.if_icmp .ne 7, 3) := by decide +kernel
theorem dX6_attack_191 : decode cX6_attack 191 = .ok (.iload_n 1, 1) := by decide +kernel
theorem dX6_attack_192 : decode cX6_attack 192 = .ok (.goto 4, 3) := by decide +kernel
theorem dX6_attack_195 : decode cX6_attack 195 = .ok (.iconst (-1), 1) := by decide +kernel
theorem dX6_attack_196 : decode cX6_attack 196 = .ok (.invokevirtual 130, 3) := by decide +kernel
theorem dX6_attack_199 : decode cX6_attack 199 = .ok (.iload_n 3, 1) := by decide +kernel
theorem dX6_attack_200 : decode cX6_attack 200 = .ok (.ireturn, 1) := by decide +kernel
theorem dX6_rest_0 : decode cX6_rest 0 = .ok (.aload_n 0, 1) := by decide +kernel
theorem dX6_rest_1 : decode cX6_rest 1 = .ok (.invokevirtual 102, 3) := by decide +kernel
theorem dX6_rest_4 : decode cX6_rest 4 = .ok (.istore_n 1, 1) := by decide +kernel
theorem dX6_rest_5 : decode cX6_rest 5 = .ok (.aload_n 0, 1) := by decide +kernel
theorem dX6_rest_6 : decode cX6_rest 6 = .ok (.iload_n 1, 1) := by decide +kernel
theorem dX6_rest_7 : decode cX6_rest 7 = .ok (.iconst (-1), 1) := by decide +kernel
theorem dX6_rest_8 : decode cX6_rest 8 = .ok (.if_icmp .ne 7, 3) := by decide +kernel
theorem dX6_rest_11 : decode cX6_rest 11 = .ok (.iconst 1, 1) := by decide +kernel
theorem dX6_rest_12 : decode cX6_rest 12 = .ok (.goto 4, 3) := by decide +kernel
theorem dX6_rest_15 : decode cX6_rest 15 = .ok (.iconst 0, 1) := by decide +kernel
theorem dX6_rest_16 : decode cX6_rest 16 = .ok (.invokevirtual 110, 3) := by decide +kernel
theorem dX6_rest_19 : decode cX6_rest 19 = .ok (.ifCond .ne 5, 3) := by decide +kernel
theorem dX6_rest_22 : decode cX6_rest 22 = .ok (.iconst 0, 1) := by decide +kernel
theorem dX6_rest_23 : decode cX6_rest 23 = .ok (.ireturn, 1) := by decide +kernel
theorem dX6_rest_24 : decode cX6_rest 24 = .ok (.aload_n 0, 1) := by decide +kernel
theorem dX6_rest_25 : decode cX6_rest 25 = .ok (.getfield 34, 3) := by decide +kernel
theorem dX6_rest_28 : decode cX6_rest 28 = .ok (.iload_n 1, 1) := by decide +kernel
theorem dX6_rest_29 : decode cX6_rest 29 = .ok (.dup2, 1) := by decide +kernel
theorem dX6_rest_30 : decode cX6_rest 30 = .ok (.iaload, 1) := by decide +kernel
theorem dX6_rest_31 : decode cX6_rest 31 = .ok (.aload_n 0, 1) := by decide +kernel
theorem dX6_rest_32 : decode cX6_rest 32 = .ok (.getfield 34, 3) := by decide +kernel
theorem dX6_rest_35 : decode cX6_rest 35 = .ok (.iload_n 1, 1) := by decide +kernel
theorem dX6_rest_36 : decode cX6_rest 36 = .ok (.iaload, 1) := by decide +kernel
theorem dX6_rest_37 : decode cX6_rest 37 = .ok (.bipush 20, 2) := by decide +kernel
theorem dX6_rest_39 : decode cX6_rest 39 = .ok (.if_icmp .ge 7, 3) := by decide +kernel
theorem dX6_rest_42 : decode cX6_rest 42 = .ok (.iconst 1, 1) := by decide +kernel
theorem dX6_rest_43 : decode cX6_rest 43 = .ok (.goto 4, 3) := by decide +kernel
theorem dX6_rest_46 : decode cX6_rest 46 = .ok (.iconst 0, 1) := by decide +kernel
theorem dX6_rest_47 : decode cX6_rest 47 = .ok (.iadd, 1) := by decide +kernel
theorem dX6_rest_48 : decode cX6_rest 48 = .ok (.iastore, 1) := by decide +kernel
theorem dX6_rest_49 : decode cX6_rest 49 = .ok (.aload_n 0, 1) := by decide +kernel
theorem dX6_rest_50 : decode cX6_rest 50 = .ok (.iload_n 1, 1) := by decide +kernel
theorem dX6_rest_51 : decode cX6_rest 51 = .ok (.iconst 2, 1) := by decide +kernel
theorem dX6_rest_52 : decode cX6_rest 52 = .ok (.iconst (-1), 1) := by decide +kernel
theorem dX6_rest_53 : decode cX6_rest 53 = .ok (.iconst (-1), 1) := by decide +kernel
theorem dX6_rest_54 : decode cX6_rest 54 = .ok (.invokevirtual 130, 3) := by decide +kernel
theorem dX6_rest_57 : decode cX6_rest 57 = .ok (.aload_n 0, 1) := by decide +kernel
theorem dX6_rest_58 : decode cX6_rest 58 = .ok (.getfield 34, 3) := by decide +kernel
theorem dX6_rest_61 : decode cX6_rest 61 = .ok (.iload_n 1, 1) := by decide +kernel
theorem dX6_rest_62 : decode cX6_rest 62 = .ok (.iaload, 1) := by decide +kernel
theorem dX6_rest_63 : decode cX6_rest 63 = .ok (.ireturn, 1) := by decide +kernel
theorem dX6_turn_0 : decode cX6_turn 0 = .ok (.aload_n 0, 1) := by decide +kernel
theorem dX6_turn_1 : decode cX6_turn 1 = .ok (.iconst 0, 1) := by decide +kernel
theorem dX6_turn_2 : decode cX6_turn 2 = .ok (.putfield 86, 3) := by decide +kernel
theorem dX6_turn_5 : decode cX6_turn 5 = .ok (.aload_n 0, 1) := by decide +kernel
theorem dX6_turn_6 : decode cX6_turn 6 = .ok (.invokevirtual 102, 3) := by decide +kernel
theorem dX6_turn_9 : decode cX6_turn 9 = .ok (.ireturn, 1) := by decide +kernel
theorem dX6_isAsked_0 : decode cX6_isAsked 0 = .ok (.aload_n 0, 1) := by decide +kernel
theorem dX6_isAsked_1 : decode cX6_isAsked 1 = .ok (.aload_n 0, 1) := by decide +kernel
theorem dX6_isAsked_2 : decode cX6_isAsked 2 = .ok (.iload_n 1, 1) := by decide +kernel
theorem dX6_isAsked_3 : decode cX6_isAsked 3 = .ok (.invokevirtual 146, 3) := by decide +kernel
theorem dX6_isAsked_6 : decode cX6_isAsked 6 = .ok (.ifCond .eq 7, 3) := by decide +kernel
theorem dX6_isAsked_9 : decode cX6_isAsked 9 = .ok (.iconst 0, 1) := by decide +kernel
theorem dX6_isAsked_10 : decode cX6_isAsked 10 = .ok (.goto 4, 3) := by decide +kernel
theorem dX6_isAsked_13 : decode cX6_isAsked 13 = .ok (.iconst 1, 1) := by decide +kernel
theorem dX6_isAsked_14 : decode cX6_isAsked 14 = .ok (.invokevirtual 110, 3) := by decide +kernel
theorem dX6_isAsked_17 : decode cX6_isAsked 17 = .ok (.ireturn, 1) := by decide +kernel
theorem dX6_readyAt_0 : decode cX6_readyAt 0 = .ok (.aload_n 0, 1) := by decide +kernel
theorem dX6_readyAt_1 : decode cX6_readyAt 1 = .ok (.iload_n 1, 1) := by decide +kernel
theorem dX6_readyAt_2 : decode cX6_readyAt 2 = .ok (.invokevirtual 164, 3) := by decide +kernel
theorem dX6_readyAt_5 : decode cX6_readyAt 5 = .ok (.ifCond .eq 12, 3) := by decide +kernel
theorem dX6_readyAt_8 : decode cX6_readyAt 8 = .ok (.aload_n 0, 1) := by decide +kernel
theorem dX6_readyAt_9 : decode cX6_readyAt 9 = .ok (.getfield 37, 3) := by decide +kernel
theorem dX6_readyAt_12 : decode cX6_readyAt 12 = .ok (.iload_n 1, 1) := by decide +kernel
theorem dX6_readyAt_13 : decode cX6_readyAt 13 = .ok (.iaload, 1) := by decide +kernel
theorem dX6_readyAt_14 : decode cX6_readyAt 14 = .ok (.goto 4, 3) := by decide +kernel
theorem dX6_readyAt_17 : decode cX6_readyAt 17 = .ok (.iconst 0, 1) := by decide +kernel
theorem dX6_readyAt_18 : decode cX6_readyAt 18 = .ok (.ireturn, 1) := by decide +kernel
theorem dX6_roomOf_0 : decode cX6_roomOf 0 = .ok (.aload_n 0, 1) := by decide +kernel
theorem dX6_roomOf_1 : decode cX6_roomOf 1 = .ok (.iload_n 1, 1) := by decide +kernel
theorem dX6_roomOf_2 : decode cX6_roomOf 2 = .ok (.invokevirtual 164, 3) := by decide +kernel
theorem dX6_roomOf_5 : decode cX6_roomOf 5 = .ok (.ifCond .eq 12, 3) := by decide +kernel
theorem dX6_roomOf_8 : decode cX6_roomOf 8 = .ok (.aload_n 0, 1) := by decide +kernel
theorem dX6_roomOf_9 : decode cX6_roomOf 9 = .ok (.getfield 25, 3) := by decide +kernel
theorem dX6_roomOf_12 : decode cX6_roomOf 12 = .ok (.iload_n 1, 1) := by decide +kernel
theorem dX6_roomOf_13 : decode cX6_roomOf 13 = .ok (.iaload, 1) := by decide +kernel
theorem dX6_roomOf_14 : decode cX6_roomOf 14 = .ok (.goto 4, 3) := by decide +kernel
theorem dX6_roomOf_17 : decode cX6_roomOf 17 = .ok (.iconst 0, 1) := by decide +kernel
theorem dX6_roomOf_18 : decode cX6_roomOf 18 = .ok (.ireturn, 1) := by decide +kernel
theorem dX6_coinsOf_0 : decode cX6_coinsOf 0 = .ok (.aload_n 0, 1) := by decide +kernel
theorem dX6_coinsOf_1 : decode cX6_coinsOf 1 = .ok (.iload_n 1, 1) := by decide +kernel
theorem dX6_coinsOf_2 : decode cX6_coinsOf 2 = .ok (.invokevirtual 164, 3) := by decide +kernel
theorem dX6_coinsOf_5 : decode cX6_coinsOf 5 = .ok (.ifCond .eq 12, 3) := by decide +kernel
theorem dX6_coinsOf_8 : decode cX6_coinsOf 8 = .ok (.aload_n 0, 1) := by decide +kernel
theorem dX6_coinsOf_9 : decode cX6_coinsOf 9 = .ok (.getfield 28, 3) := by decide +kernel
theorem dX6_coinsOf_12 : decode cX6_coinsOf 12 = .ok (.iload_n 1, 1) := by decide +kernel
theorem dX6_coinsOf_13 : decode cX6_coinsOf 13 = .ok (.iaload, 1) := by decide +kernel
theorem dX6_coinsOf_14 : decode cX6_coinsOf 14 = .ok (.goto 4, 3) := by decide +kernel
theorem dX6_coinsOf_17 : decode cX6_coinsOf 17 = .ok (.iconst 0, 1) := by decide +kernel
theorem dX6_coinsOf_18 : decode cX6_coinsOf 18 = .ok (.ireturn, 1) := by decide +kernel
theorem dX6_healthOf_0 : decode cX6_healthOf 0 = .ok (.aload_n 0, 1) := by decide +kernel
theorem dX6_healthOf_1 : decode cX6_healthOf 1 = .ok (.iload_n 1, 1) := by decide +kernel
theorem dX6_healthOf_2 : decode cX6_healthOf 2 = .ok (.invokevirtual 164, 3) := by decide +kernel
theorem dX6_healthOf_5 : decode cX6_healthOf 5 = .ok (.ifCond .eq 12, 3) := by decide +kernel
theorem dX6_healthOf_8 : decode cX6_healthOf 8 = .ok (.aload_n 0, 1) := by decide +kernel
theorem dX6_healthOf_9 : decode cX6_healthOf 9 = .ok (.getfield 34, 3) := by decide +kernel
theorem dX6_healthOf_12 : decode cX6_healthOf 12 = .ok (.iload_n 1, 1) := by decide +kernel
theorem dX6_healthOf_13 : decode cX6_healthOf 13 = .ok (.iaload, 1) := by decide +kernel
theorem dX6_healthOf_14 : decode cX6_healthOf 14 = .ok (.goto 4, 3) := by decide +kernel
theorem dX6_healthOf_17 : decode cX6_healthOf 17 = .ok (.iconst 0, 1) := by decide +kernel
theorem dX6_healthOf_18 : decode cX6_healthOf 18 = .ok (.ireturn, 1) := by decide +kernel
theorem dX6_goodsOf_0 : decode cX6_goodsOf 0 = .ok (.aload_n 0, 1) := by decide +kernel
theorem dX6_goodsOf_1 : decode cX6_goodsOf 1 = .ok (.aload_n 0, 1) := by decide +kernel
theorem dX6_goodsOf_2 : decode cX6_goodsOf 2 = .ok (.iload_n 1, 1) := by decide +kernel
theorem dX6_goodsOf_3 : decode cX6_goodsOf 3 = .ok (.invokevirtual 146, 3) := by decide +kernel
theorem dX6_goodsOf_6 : decode cX6_goodsOf 6 = .ok (.ifCond .eq 14, 3) := by decide +kernel
theorem dX6_goodsOf_9 : decode cX6_goodsOf 9 = .ok (.iload_n 2, 1) := by decide +kernel
theorem dX6_goodsOf_10 : decode cX6_goodsOf 10 = .ok (.invokestatic 116, 3) := by decide +kernel
theorem dX6_goodsOf_13 : decode cX6_goodsOf 13 = .ok (.ifCond .eq 7, 3) := by decide +kernel
theorem dX6_goodsOf_16 : decode cX6_goodsOf 16 = .ok (.iconst 0, 1) := by decide +kernel
theorem dX6_goodsOf_17 : decode cX6_goodsOf 17 = .ok (.goto 4, 3) := by decide +kernel
theorem dX6_goodsOf_20 : decode cX6_goodsOf 20 = .ok (.iconst 1, 1) := by decide +kernel
theorem dX6_goodsOf_21 : decode cX6_goodsOf 21 = .ok (.invokevirtual 110, 3) := by decide +kernel
theorem dX6_goodsOf_24 : decode cX6_goodsOf 24 = .ok (.ifCond .eq 16, 3) := by decide +kernel
theorem dX6_goodsOf_27 : decode cX6_goodsOf 27 = .ok (.aload_n 0, 1) := by decide +kernel
theorem dX6_goodsOf_28 : decode cX6_goodsOf 28 = .ok (.getfield 40, 3) := by decide +kernel
theorem dX6_goodsOf_31 : decode cX6_goodsOf 31 = .ok (.iconst 5, 1) := by decide +kernel
theorem dX6_goodsOf_32 : decode cX6_goodsOf 32 = .ok (.iload_n 1, 1) := by decide +kernel
theorem dX6_goodsOf_33 : decode cX6_goodsOf 33 = .ok (.imul, 1) := by decide +kernel
theorem dX6_goodsOf_34 : decode cX6_goodsOf 34 = .ok (.iload_n 2, 1) := by decide +kernel
theorem dX6_goodsOf_35 : decode cX6_goodsOf 35 = .ok (.iadd, 1) := by decide +kernel
theorem dX6_goodsOf_36 : decode cX6_goodsOf 36 = .ok (.iaload, 1) := by decide +kernel
theorem dX6_goodsOf_37 : decode cX6_goodsOf 37 = .ok (.goto 4, 3) := by decide +kernel
theorem dX6_goodsOf_40 : decode cX6_goodsOf 40 = .ok (.iconst 0, 1) := by decide +kernel
theorem dX6_goodsOf_41 : decode cX6_goodsOf 41 = .ok (.ireturn, 1) := by decide +kernel
theorem dX6_heard_0 : decode cX6_heard 0 = .ok (.aload_n 0, 1) := by decide +kernel
theorem dX6_heard_1 : decode cX6_heard 1 = .ok (.aload_n 0, 1) := by decide +kernel
theorem dX6_heard_2 : decode cX6_heard 2 = .ok (.iload_n 1, 1) := by decide +kernel
theorem dX6_heard_3 : decode cX6_heard 3 = .ok (.invokevirtual 146, 3) := by decide +kernel
theorem dX6_heard_6 : decode cX6_heard 6 = .ok (.ifCond .eq 23, 3) := by decide +kernel
theorem dX6_heard_9 : decode cX6_heard 9 = .ok (.iload_n 2, 1) := by decide +kernel
theorem dX6_heard_10 : decode cX6_heard 10 = .ok (.iconst 0, 1) := by decide +kernel
theorem dX6_heard_11 : decode cX6_heard 11 = .ok (.aload_n 0, 1) := by decide +kernel
theorem dX6_heard_12 : decode cX6_heard 12 = .ok (.getfield 43, 3) := by decide +kernel
theorem dX6_heard_15 : decode cX6_heard 15 = .ok (.iload_n 1, 1) := by decide +kernel
theorem dX6_heard_16 : decode cX6_heard 16 = .ok (.iaload, 1) := by decide +kernel
theorem dX6_heard_17 : decode cX6_heard 17 = .ok (.iconst 1, 1) := by decide +kernel
theorem dX6_heard_18 : decode cX6_heard 18 = .ok (.isub, 1) := by decide +kernel
theorem dX6_heard_19 : decode cX6_heard 19 = .ok (.invokestatic 89, 3) := by decide +kernel
theorem dX6_heard_22 : decode cX6_heard 22 = .ok (.ifCond .eq 7, 3) := by decide +kernel
theorem dX6_heard_25 : decode cX6_heard 25 = .ok (.iconst 0, 1) := by decide +kernel
theorem dX6_heard_26 : decode cX6_heard 26 = .ok (.goto 4, 3) := by decide +kernel
theorem dX6_heard_29 : decode cX6_heard 29 = .ok (.iconst 1, 1) := by decide +kernel
theorem dX6_heard_30 : decode cX6_heard 30 = .ok (.invokevirtual 110, 3) := by decide +kernel
theorem dX6_heard_33 : decode cX6_heard 33 = .ok (.ifCond .eq 17, 3) := by decide +kernel
theorem dX6_heard_36 : decode cX6_heard 36 = .ok (.aload_n 0, 1) := by decide +kernel
theorem dX6_heard_37 : decode cX6_heard 37 = .ok (.getfield 46, 3) := by decide +kernel
theorem dX6_heard_40 : decode cX6_heard 40 = .ok (.bipush 6, 2) := by decide +kernel
theorem dX6_heard_42 : decode cX6_heard 42 = .ok (.iload_n 1, 1) := by decide +kernel
theorem dX6_heard_43 : decode cX6_heard 43 = .ok (.imul, 1) := by decide +kernel
theorem dX6_heard_44 : decode cX6_heard 44 = .ok (.iload_n 2, 1) := by decide +kernel
theorem dX6_heard_45 : decode cX6_heard 45 = .ok (.iadd, 1) := by decide +kernel
theorem dX6_heard_46 : decode cX6_heard 46 = .ok (.iaload, 1) := by decide +kernel
theorem dX6_heard_47 : decode cX6_heard 47 = .ok (.goto 4, 3) := by decide +kernel
theorem dX6_heard_50 : decode cX6_heard 50 = .ok (.iconst 0, 1) := by decide +kernel
theorem dX6_heard_51 : decode cX6_heard 51 = .ok (.ireturn, 1) := by decide +kernel
theorem dX6_stageOf_0 : decode cX6_stageOf 0 = .ok (.aload_n 0, 1) := by decide +kernel
theorem dX6_stageOf_1 : decode cX6_stageOf 1 = .ok (.aload_n 0, 1) := by decide +kernel
theorem dX6_stageOf_2 : decode cX6_stageOf 2 = .ok (.iload_n 1, 1) := by decide +kernel
theorem dX6_stageOf_3 : decode cX6_stageOf 3 = .ok (.invokevirtual 146, 3) := by decide +kernel
theorem dX6_stageOf_6 : decode cX6_stageOf 6 = .ok (.ifCond .eq 15, 3) := by decide +kernel
theorem dX6_stageOf_9 : decode cX6_stageOf 9 = .ok (.aload_n 0, 1) := by decide +kernel
theorem dX6_stageOf_10 : decode cX6_stageOf 10 = .ok (.iload_n 2, 1) := by decide +kernel
theorem dX6_stageOf_11 : decode cX6_stageOf 11 = .ok (.invokevirtual 119, 3) := by decide +kernel
theorem dX6_stageOf_14 : decode cX6_stageOf 14 = .ok (.ifCond .eq 7, 3) := by decide +kernel
theorem dX6_stageOf_17 : decode cX6_stageOf 17 = .ok (.iconst 0, 1) := by decide +kernel
theorem dX6_stageOf_18 : decode cX6_stageOf 18 = .ok (.goto 4, 3) := by decide +kernel
theorem dX6_stageOf_21 : decode cX6_stageOf 21 = .ok (.iconst 1, 1) := by decide +kernel
theorem dX6_stageOf_22 : decode cX6_stageOf 22 = .ok (.invokevirtual 110, 3) := by decide +kernel
theorem dX6_stageOf_25 : decode cX6_stageOf 25 = .ok (.ifCond .eq 16, 3) := by decide +kernel
theorem dX6_stageOf_28 : decode cX6_stageOf 28 = .ok (.aload_n 0, 1) := by decide +kernel
theorem dX6_stageOf_29 : decode cX6_stageOf 29 = .ok (.getfield 64, 3) := by decide +kernel
theorem dX6_stageOf_32 : decode cX6_stageOf 32 = .ok (.iconst 3, 1) := by decide +kernel
theorem dX6_stageOf_33 : decode cX6_stageOf 33 = .ok (.iload_n 1, 1) := by decide +kernel
theorem dX6_stageOf_34 : decode cX6_stageOf 34 = .ok (.imul, 1) := by decide +kernel
theorem dX6_stageOf_35 : decode cX6_stageOf 35 = .ok (.iload_n 2, 1) := by decide +kernel
theorem dX6_stageOf_36 : decode cX6_stageOf 36 = .ok (.iadd, 1) := by decide +kernel
theorem dX6_stageOf_37 : decode cX6_stageOf 37 = .ok (.iaload, 1) := by decide +kernel
theorem dX6_stageOf_38 : decode cX6_stageOf 38 = .ok (.goto 4, 3) := by decide +kernel
theorem dX6_stageOf_41 : decode cX6_stageOf 41 = .ok (.iconst 0, 1) := by decide +kernel
theorem dX6_stageOf_42 : decode cX6_stageOf 42 = .ok (.ireturn, 1) := by decide +kernel
theorem dX6_exit_0 : decode cX6_exit 0 = .ok (.aload_n 0, 1) := by decide +kernel
theorem dX6_exit_1 : decode cX6_exit 1 = .ok (.iload_n 1, 1) := by decide +kernel
theorem dX6_exit_2 : decode cX6_exit 2 = .ok (.invokestatic 106, 3) := by decide +kernel
theorem dX6_exit_5 : decode cX6_exit 5 = .ok (.ifCond .eq 16, 3) := by decide +kernel
theorem dX6_exit_8 : decode cX6_exit 8 = .ok (.iload_n 2, 1) := by decide +kernel
theorem dX6_exit_9 : decode cX6_exit 9 = .ok (.iconst 0, 1) := by decide +kernel
theorem dX6_exit_10 : decode cX6_exit 10 = .ok (.iconst 3, 1) := by decide +kernel
theorem dX6_exit_11 : decode cX6_exit 11 = .ok (.invokestatic 89, 3) := by decide +kernel
theorem dX6_exit_14 : decode cX6_exit 14 = .ok (.ifCond .eq 7, 3) := by decide +kernel
theorem dX6_exit_17 : decode cX6_exit 17 = .ok (.iconst 0, 1) := by decide +kernel
theorem dX6_exit_18 : decode cX6_exit 18 = .ok (.goto 4, 3) := by decide +kernel
theorem dX6_exit_21 : decode cX6_exit 21 = .ok (.iconst 1, 1) := by decide +kernel
theorem dX6_exit_22 : decode cX6_exit 22 = .ok (.invokevirtual 110, 3) := by decide +kernel
theorem dX6_exit_25 : decode cX6_exit 25 = .ok (.ifCond .eq 16, 3) := by decide +kernel
theorem dX6_exit_28 : decode cX6_exit 28 = .ok (.aload_n 0, 1) := by decide +kernel
theorem dX6_exit_29 : decode cX6_exit 29 = .ok (.getfield 7, 3) := by decide +kernel
theorem dX6_exit_32 : decode cX6_exit 32 = .ok (.iconst 4, 1) := by decide +kernel
theorem dX6_exit_33 : decode cX6_exit 33 = .ok (.iload_n 1, 1) := by decide +kernel
theorem dX6_exit_34 : decode cX6_exit 34 = .ok (.imul, 1) := by decide +kernel
theorem dX6_exit_35 : decode cX6_exit 35 = .ok (.iload_n 2, 1) := by decide +kernel
theorem dX6_exit_36 : decode cX6_exit 36 = .ok (.iadd, 1) := by decide +kernel
theorem dX6_exit_37 : decode cX6_exit 37 = .ok (.iaload, 1) := by decide +kernel
theorem dX6_exit_38 : decode cX6_exit 38 = .ok (.goto 4, 3) := by decide +kernel
theorem dX6_exit_41 : decode cX6_exit 41 = .ok (.iconst 0, 1) := by decide +kernel
theorem dX6_exit_42 : decode cX6_exit 42 = .ok (.ireturn, 1) := by decide +kernel
theorem dX6_distance_0 : decode cX6_distance 0 = .ok (.aload_n 0, 1) := by decide +kernel
theorem dX6_distance_1 : decode cX6_distance 1 = .ok (.iload_n 1, 1) := by decide +kernel
theorem dX6_distance_2 : decode cX6_distance 2 = .ok (.invokestatic 106, 3) := by decide +kernel
theorem dX6_distance_5 : decode cX6_distance 5 = .ok (.ifCond .eq 14, 3) := by decide +kernel
theorem dX6_distance_8 : decode cX6_distance 8 = .ok (.iload_n 2, 1) := by decide +kernel
theorem dX6_distance_9 : decode cX6_distance 9 = .ok (.invokestatic 106, 3) := by decide +kernel
theorem dX6_distance_12 : decode cX6_distance 12 = .ok (.ifCond .eq 7, 3) := by decide +kernel
theorem dX6_distance_15 : decode cX6_distance 15 = .ok (.iconst 0, 1) := by decide +kernel
theorem dX6_distance_16 : decode cX6_distance 16 = .ok (.goto 4, 3) := by decide +kernel
theorem dX6_distance_19 : decode cX6_distance 19 = .ok (.iconst 1, 1) := by decide +kernel
theorem dX6_distance_20 : decode cX6_distance 20 = .ok (.invokevirtual 110, 3) := by decide +kernel
theorem dX6_distance_23 : decode cX6_distance 23 = .ok (.ifCond .ne 5, 3) := by decide +kernel
theorem dX6_distance_26 : decode cX6_distance 26 = .ok (.iconst 0, 1) := by decide +kernel
theorem dX6_distance_27 : decode cX6_distance 27 = .ok (.ireturn, 1) := by decide +kernel
theorem dX6_distance_28 : decode cX6_distance 28 = .ok (.iconst 0, 1) := by decide +kernel
theorem dX6_distance_29 : decode cX6_distance 29 = .ok (.istore_n 3, 1) := by decide +kernel
theorem dX6_distance_30 : decode cX6_distance 30 = .ok (.iload_n 3, 1) := by decide +kernel
theorem dX6_distance_31 : decode cX6_distance 31 = .ok (.bipush 8, 2) := by decide +kernel
theorem dX6_distance_33 : decode cX6_distance 33 = .ok (.if_icmp .ge 25, 3) := by decide +kernel
theorem dX6_distance_36 : decode cX6_distance 36 = .ok (.aload_n 0, 1) := by decide +kernel
theorem dX6_distance_37 : decode cX6_distance 37 = .ok (.getfield 79, 3) := by decide +kernel
theorem dX6_distance_40 : decode cX6_distance 40 = .ok (.iload_n 3, 1) := by decide +kernel
theorem dX6_distance_41 : decode cX6_distance 41 = .ok (.iload_n 3, 1) := by decide +kernel
theorem dX6_distance_42 : decode cX6_distance 42 = .ok (.iload_n 1, 1) := by decide +kernel
theorem dX6_distance_43 : decode cX6_distance 43 = .ok (.if_icmp .ne 7, 3) := by decide +kernel
theorem dX6_distance_46 : decode cX6_distance 46 = .ok (.iconst 0, 1) := by decide +kernel
theorem dX6_distance_47 : decode cX6_distance 47 = .ok (.goto 4, 3) := by decide +kernel
theorem dX6_distance_50 : decode cX6_distance 50 = .ok (.iconst (-1), 1) := by decide +kernel
theorem dX6_distance_51 : decode cX6_distance 51 = .ok (.iastore, 1) := by decide +kernel
theorem dX6_distance_52 : decode cX6_distance 52 = .ok (.iinc 3 1, 3) := by decide +kernel
theorem dX6_distance_55 : decode cX6_distance 55 = .ok (.goto (-25), 3) := by decide +kernel
theorem dX6_distance_58 : decode cX6_distance 58 = .ok (.iconst 0, 1) := by decide +kernel
theorem dX6_distance_59 : decode cX6_distance 59 = .ok (.istore_n 3, 1) := by decide +kernel
theorem dX6_distance_60 : decode cX6_distance 60 = .ok (.iload_n 3, 1) := by decide +kernel
theorem dX6_distance_61 : decode cX6_distance 61 = .ok (.bipush 8, 2) := by decide +kernel
theorem dX6_distance_63 : decode cX6_distance 63 = .ok (.if_icmp .ge 80, 3) := by decide +kernel
theorem dX6_distance_66 : decode cX6_distance 66 = .ok (.iconst 0, 1) := by decide +kernel
theorem dX6_distance_67 : decode cX6_distance 67 = .ok (.istore 4, 2) := by decide +kernel
theorem dX6_distance_69 : decode cX6_distance 69 = .ok (.iload 4, 2) := by decide +kernel
theorem dX6_distance_71 : decode cX6_distance 71 = .ok (.bipush 32, 2) := by decide +kernel
theorem dX6_distance_73 : decode cX6_distance 73 = .ok (.if_icmp .ge 64, 3) := by decide +kernel
theorem dX6_distance_76 : decode cX6_distance 76 = .ok (.aload_n 0, 1) := by decide +kernel
theorem dX6_distance_77 : decode cX6_distance 77 = .ok (.getfield 7, 3) := by decide +kernel
theorem dX6_distance_80 : decode cX6_distance 80 = .ok (.iload 4, 2) := by decide +kernel
theorem dX6_distance_82 : decode cX6_distance 82 = .ok (.iaload, 1) := by decide +kernel
theorem dX6_distance_83 : decode cX6_distance 83 = .ok (.iconst (-1), 1) := by decide +kernel
theorem dX6_distance_84 : decode cX6_distance 84 = .ok (.if_icmp .eq 47, 3) := by decide +kernel
theorem dX6_distance_87 : decode cX6_distance 87 = .ok (.aload_n 0, 1) := by decide +kernel
theorem dX6_distance_88 : decode cX6_distance 88 = .ok (.getfield 79, 3) := by decide +kernel
theorem dX6_distance_91 : decode cX6_distance 91 = .ok (.iload 4, 2) := by decide +kernel
theorem dX6_distance_93 : decode cX6_distance 93 = .ok (.iconst 4, 1) := by decide +kernel
theorem dX6_distance_94 : decode cX6_distance 94 = .ok (.idiv, 1) := by decide +kernel
theorem dX6_distance_95 : decode cX6_distance 95 = .ok (.iaload, 1) := by decide +kernel
theorem dX6_distance_96 : decode cX6_distance 96 = .ok (.iload_n 3, 1) := by decide +kernel
theorem dX6_distance_97 : decode cX6_distance 97 = .ok (.if_icmp .ne 34, 3) := by decide +kernel
theorem dX6_distance_100 : decode cX6_distance 100 = .ok (.aload_n 0, 1) := by decide +kernel
theorem dX6_distance_101 : decode cX6_distance 101 = .ok (.getfield 79, 3) := by decide +kernel
theorem dX6_distance_104 : decode cX6_distance 104 = .ok (.aload_n 0, 1) := by decide +kernel
theorem dX6_distance_105 : decode cX6_distance 105 = .ok (.getfield 7, 3) := by decide +kernel
theorem dX6_distance_108 : decode cX6_distance 108 = .ok (.iload 4, 2) := by decide +kernel
theorem dX6_distance_110 : decode cX6_distance 110 = .ok (.iaload, 1) := by decide +kernel
theorem dX6_distance_111 : decode cX6_distance 111 = .ok (.iaload, 1) := by decide +kernel
theorem dX6_distance_112 : decode cX6_distance 112 = .ok (.iconst (-1), 1) := by decide +kernel
theorem dX6_distance_113 : decode cX6_distance 113 = .ok (.if_icmp .ne 18, 3) := by decide +kernel
theorem dX6_distance_116 : decode cX6_distance 116 = .ok (.aload_n 0, 1) := by decide +kernel
theorem dX6_distance_117 : decode cX6_distance 117 = .ok (.getfield 79, 3) := by decide +kernel
theorem dX6_distance_120 : decode cX6_distance 120 = .ok (.aload_n 0, 1) := by decide +kernel
theorem dX6_distance_121 : decode cX6_distance 121 = .ok (.getfield 7, 3) := by decide +kernel
theorem dX6_distance_124 : decode cX6_distance 124 = .ok (.iload 4, 2) := by decide +kernel
theorem dX6_distance_126 : decode cX6_distance 126 = .ok (.iaload, 1) := by decide +kernel
theorem dX6_distance_127 : decode cX6_distance 127 = .ok (.iload_n 3, 1) := by decide +kernel
theorem dX6_distance_128 : decode cX6_distance 128 = .ok (.iconst 1, 1) := by decide +kernel
theorem dX6_distance_129 : decode cX6_distance 129 = .ok (.iadd, 1) := by decide +kernel
theorem dX6_distance_130 : decode cX6_distance 130 = .ok (.iastore, 1) := by decide +kernel
theorem dX6_distance_131 : decode cX6_distance 131 = .ok (.iinc 4 1, 3) := by decide +kernel
theorem dX6_distance_134 : decode cX6_distance 134 = .ok (.goto (-65), 3) := by decide +kernel
theorem dX6_distance_137 : decode cX6_distance 137 = .ok (.iinc 3 1, 3) := by decide +kernel
theorem dX6_distance_140 : decode cX6_distance 140 = .ok (.goto (-80), 3) := by decide +kernel
theorem dX6_distance_143 : decode cX6_distance 143 = .ok (.aload_n 0, 1) := by decide +kernel
theorem dX6_distance_144 : decode cX6_distance 144 = .ok (.getfield 79, 3) := by decide +kernel
theorem dX6_distance_147 : decode cX6_distance 147 = .ok (.iload_n 2, 1) := by decide +kernel
theorem dX6_distance_148 : decode cX6_distance 148 = .ok (.iaload, 1) := by decide +kernel
theorem dX6_distance_149 : decode cX6_distance 149 = .ok (.ireturn, 1) := by decide +kernel
theorem dX6_onFloor_0 : decode cX6_onFloor 0 = .ok (.aload_n 0, 1) := by decide +kernel
theorem dX6_onFloor_1 : decode cX6_onFloor 1 = .ok (.iload_n 1, 1) := by decide +kernel
theorem dX6_onFloor_2 : decode cX6_onFloor 2 = .ok (.invokestatic 106, 3) := by decide +kernel
theorem dX6_onFloor_5 : decode cX6_onFloor 5 = .ok (.ifCond .eq 14, 3) := by decide +kernel
theorem dX6_onFloor_8 : decode cX6_onFloor 8 = .ok (.iload_n 2, 1) := by decide +kernel
theorem dX6_onFloor_9 : decode cX6_onFloor 9 = .ok (.invokestatic 116, 3) := by decide +kernel
theorem dX6_onFloor_12 : decode cX6_onFloor 12 = .ok (.ifCond .eq 7, 3) := by decide +kernel
theorem dX6_onFloor_15 : decode cX6_onFloor 15 = .ok (.iconst 0, 1) := by decide +kernel
theorem dX6_onFloor_16 : decode cX6_onFloor 16 = .ok (.goto 4, 3) := by decide +kernel
theorem dX6_onFloor_19 : decode cX6_onFloor 19 = .ok (.iconst 1, 1) := by decide +kernel
theorem dX6_onFloor_20 : decode cX6_onFloor 20 = .ok (.invokevirtual 110, 3) := by decide +kernel
theorem dX6_onFloor_23 : decode cX6_onFloor 23 = .ok (.ifCond .eq 16, 3) := by decide +kernel
theorem dX6_onFloor_26 : decode cX6_onFloor 26 = .ok (.aload_n 0, 1) := by decide +kernel
theorem dX6_onFloor_27 : decode cX6_onFloor 27 = .ok (.getfield 13, 3) := by decide +kernel
theorem dX6_onFloor_30 : decode cX6_onFloor 30 = .ok (.iconst 5, 1) := by decide +kernel
theorem dX6_onFloor_31 : decode cX6_onFloor 31 = .ok (.iload_n 1, 1) := by decide +kernel
theorem dX6_onFloor_32 : decode cX6_onFloor 32 = .ok (.imul, 1) := by decide +kernel
theorem dX6_onFloor_33 : decode cX6_onFloor 33 = .ok (.iload_n 2, 1) := by decide +kernel
theorem dX6_onFloor_34 : decode cX6_onFloor 34 = .ok (.iadd, 1) := by decide +kernel
theorem dX6_onFloor_35 : decode cX6_onFloor 35 = .ok (.iaload, 1) := by decide +kernel
theorem dX6_onFloor_36 : decode cX6_onFloor 36 = .ok (.goto 4, 3) := by decide +kernel
theorem dX6_onFloor_39 : decode cX6_onFloor 39 = .ok (.iconst 0, 1) := by decide +kernel
theorem dX6_onFloor_40 : decode cX6_onFloor 40 = .ok (.ireturn, 1) := by decide +kernel
theorem dX6_stockOf_0 : decode cX6_stockOf 0 = .ok (.aload_n 0, 1) := by decide +kernel
theorem dX6_stockOf_1 : decode cX6_stockOf 1 = .ok (.iload_n 1, 1) := by decide +kernel
theorem dX6_stockOf_2 : decode cX6_stockOf 2 = .ok (.invokestatic 106, 3) := by decide +kernel
theorem dX6_stockOf_5 : decode cX6_stockOf 5 = .ok (.ifCond .eq 14, 3) := by decide +kernel
theorem dX6_stockOf_8 : decode cX6_stockOf 8 = .ok (.iload_n 2, 1) := by decide +kernel
theorem dX6_stockOf_9 : decode cX6_stockOf 9 = .ok (.invokestatic 116, 3) := by decide +kernel
theorem dX6_stockOf_12 : decode cX6_stockOf 12 = .ok (.ifCond .eq 7, 3) := by decide +kernel
theorem dX6_stockOf_15 : decode cX6_stockOf 15 = .ok (.iconst 0, 1) := by decide +kernel
theorem dX6_stockOf_16 : decode cX6_stockOf 16 = .ok (.goto 4, 3) := by decide +kernel
theorem dX6_stockOf_19 : decode cX6_stockOf 19 = .ok (.iconst 1, 1) := by decide +kernel
theorem dX6_stockOf_20 : decode cX6_stockOf 20 = .ok (.invokevirtual 110, 3) := by decide +kernel
theorem dX6_stockOf_23 : decode cX6_stockOf 23 = .ok (.ifCond .eq 16, 3) := by decide +kernel
theorem dX6_stockOf_26 : decode cX6_stockOf 26 = .ok (.aload_n 0, 1) := by decide +kernel
theorem dX6_stockOf_27 : decode cX6_stockOf 27 = .ok (.getfield 22, 3) := by decide +kernel
theorem dX6_stockOf_30 : decode cX6_stockOf 30 = .ok (.iconst 5, 1) := by decide +kernel
theorem dX6_stockOf_31 : decode cX6_stockOf 31 = .ok (.iload_n 1, 1) := by decide +kernel
theorem dX6_stockOf_32 : decode cX6_stockOf 32 = .ok (.imul, 1) := by decide +kernel
theorem dX6_stockOf_33 : decode cX6_stockOf 33 = .ok (.iload_n 2, 1) := by decide +kernel
theorem dX6_stockOf_34 : decode cX6_stockOf 34 = .ok (.iadd, 1) := by decide +kernel
theorem dX6_stockOf_35 : decode cX6_stockOf 35 = .ok (.iaload, 1) := by decide +kernel
theorem dX6_stockOf_36 : decode cX6_stockOf 36 = .ok (.goto 4, 3) := by decide +kernel
theorem dX6_stockOf_39 : decode cX6_stockOf 39 = .ok (.iconst 0, 1) := by decide +kernel
theorem dX6_stockOf_40 : decode cX6_stockOf 40 = .ok (.ireturn, 1) := by decide +kernel
theorem dX6_tillOf_0 : decode cX6_tillOf 0 = .ok (.aload_n 0, 1) := by decide +kernel
theorem dX6_tillOf_1 : decode cX6_tillOf 1 = .ok (.iload_n 1, 1) := by decide +kernel
theorem dX6_tillOf_2 : decode cX6_tillOf 2 = .ok (.invokestatic 106, 3) := by decide +kernel
theorem dX6_tillOf_5 : decode cX6_tillOf 5 = .ok (.ifCond .eq 7, 3) := by decide +kernel
theorem dX6_tillOf_8 : decode cX6_tillOf 8 = .ok (.iconst 0, 1) := by decide +kernel
theorem dX6_tillOf_9 : decode cX6_tillOf 9 = .ok (.goto 4, 3) := by decide +kernel
theorem dX6_tillOf_12 : decode cX6_tillOf 12 = .ok (.iconst 1, 1) := by decide +kernel
theorem dX6_tillOf_13 : decode cX6_tillOf 13 = .ok (.invokevirtual 110, 3) := by decide +kernel
theorem dX6_tillOf_16 : decode cX6_tillOf 16 = .ok (.ifCond .eq 12, 3) := by decide +kernel
theorem dX6_tillOf_19 : decode cX6_tillOf 19 = .ok (.aload_n 0, 1) := by decide +kernel
theorem dX6_tillOf_20 : decode cX6_tillOf 20 = .ok (.getfield 16, 3) := by decide +kernel
theorem dX6_tillOf_23 : decode cX6_tillOf 23 = .ok (.iload_n 1, 1) := by decide +kernel
theorem dX6_tillOf_24 : decode cX6_tillOf 24 = .ok (.iaload, 1) := by decide +kernel
theorem dX6_tillOf_25 : decode cX6_tillOf 25 = .ok (.goto 4, 3) := by decide +kernel
theorem dX6_tillOf_28 : decode cX6_tillOf 28 = .ok (.iconst 0, 1) := by decide +kernel
theorem dX6_tillOf_29 : decode cX6_tillOf 29 = .ok (.ireturn, 1) := by decide +kernel
theorem dX6_purse_0 : decode cX6_purse 0 = .ok (.aload_n 0, 1) := by decide +kernel
theorem dX6_purse_1 : decode cX6_purse 1 = .ok (.iconst 0, 1) := by decide +kernel
theorem dX6_purse_2 : decode cX6_purse 2 = .ok (.putfield 86, 3) := by decide +kernel
theorem dX6_purse_5 : decode cX6_purse 5 = .ok (.aload_n 0, 1) := by decide +kernel
theorem dX6_purse_6 : decode cX6_purse 6 = .ok (.getfield 122, 3) := by decide +kernel
theorem dX6_purse_9 : decode cX6_purse 9 = .ok (.ireturn, 1) := by decide +kernel
theorem dX6_allCoins_0 : decode cX6_allCoins 0 = .ok (.aload_n 0, 1) := by decide +kernel
theorem dX6_allCoins_1 : decode cX6_allCoins 1 = .ok (.iconst 0, 1) := by decide +kernel
theorem dX6_allCoins_2 : decode cX6_allCoins 2 = .ok (.putfield 86, 3) := by decide +kernel
theorem dX6_allCoins_5 : decode cX6_allCoins 5 = .ok (.aload_n 0, 1) := by decide +kernel
theorem dX6_allCoins_6 : decode cX6_allCoins 6 = .ok (.getfield 122, 3) := by decide +kernel
theorem dX6_allCoins_9 : decode cX6_allCoins 9 = .ok (.istore_n 1, 1) := by decide +kernel
theorem dX6_allCoins_10 : decode cX6_allCoins 10 = .ok (.iconst 0, 1) := by decide +kernel
theorem dX6_allCoins_11 : decode cX6_allCoins 11 = .ok (.istore_n 2, 1) := by decide +kernel
theorem dX6_allCoins_12 : decode cX6_allCoins 12 = .ok (.iload_n 2, 1) := by decide +kernel
theorem dX6_allCoins_13 : decode cX6_allCoins 13 = .ok (.aload_n 0, 1) := by decide +kernel
theorem dX6_allCoins_14 : decode cX6_allCoins 14 = .ok (.getfield 93, 3) := by decide +kernel
theorem dX6_allCoins_17 : decode cX6_allCoins 17 = .ok (.if_icmp .ge 18, 3) := by decide +kernel
theorem dX6_allCoins_20 : decode cX6_allCoins 20 = .ok (.iload_n 1, 1) := by decide +kernel
theorem dX6_allCoins_21 : decode cX6_allCoins 21 = .ok (.aload_n 0, 1) := by decide +kernel
theorem dX6_allCoins_22 : decode cX6_allCoins 22 = .ok (.getfield 28, 3) := by decide +kernel
theorem dX6_allCoins_25 : decode cX6_allCoins 25 = .ok (.iload_n 2, 1) := by decide +kernel
theorem dX6_allCoins_26 : decode cX6_allCoins 26 = .ok (.iaload, 1) := by decide +kernel
theorem dX6_allCoins_27 : decode cX6_allCoins 27 = .ok (.iadd, 1) := by decide +kernel
theorem dX6_allCoins_28 : decode cX6_allCoins 28 = .ok (.istore_n 1, 1) := by decide +kernel
theorem dX6_allCoins_29 : decode cX6_allCoins 29 = .ok (.iinc 2 1, 3) := by decide +kernel
theorem dX6_allCoins_32 : decode cX6_allCoins 32 = .ok (.goto (-20), 3) := by decide +kernel
theorem dX6_allCoins_35 : decode cX6_allCoins 35 = .ok (.iconst 0, 1) := by decide +kernel
theorem dX6_allCoins_36 : decode cX6_allCoins 36 = .ok (.istore_n 2, 1) := by decide +kernel
theorem dX6_allCoins_37 : decode cX6_allCoins 37 = .ok (.iload_n 2, 1) := by decide +kernel
theorem dX6_allCoins_38 : decode cX6_allCoins 38 = .ok (.bipush 8, 2) := by decide +kernel
theorem dX6_allCoins_40 : decode cX6_allCoins 40 = .ok (.if_icmp .ge 32, 3) := by decide +kernel
theorem dX6_allCoins_43 : decode cX6_allCoins 43 = .ok (.iload_n 1, 1) := by decide +kernel
theorem dX6_allCoins_44 : decode cX6_allCoins 44 = .ok (.aload_n 0, 1) := by decide +kernel
theorem dX6_allCoins_45 : decode cX6_allCoins 45 = .ok (.getfield 16, 3) := by decide +kernel
theorem dX6_allCoins_48 : decode cX6_allCoins 48 = .ok (.iload_n 2, 1) := by decide +kernel
theorem dX6_allCoins_49 : decode cX6_allCoins 49 = .ok (.iaload, 1) := by decide +kernel
theorem dX6_allCoins_50 : decode cX6_allCoins 50 = .ok (.iconst (-1), 1) := by decide +kernel
theorem dX6_allCoins_51 : decode cX6_allCoins 51 = .ok (.if_icmp .ne 7, 3) := by decide +kernel
theorem dX6_allCoins_54 : decode cX6_allCoins 54 = .ok (.iconst 0, 1) := by decide +kernel
theorem dX6_allCoins_55 : decode cX6_allCoins 55 = .ok (.goto 9, 3) := by decide +kernel
theorem dX6_allCoins_58 : decode cX6_allCoins 58 = .ok (.aload_n 0, 1) := by decide +kernel
theorem dX6_allCoins_59 : decode cX6_allCoins 59 = .ok (.getfield 16, 3) := by decide +kernel
theorem dX6_allCoins_62 : decode cX6_allCoins 62 = .ok (.iload_n 2, 1) := by decide +kernel
theorem dX6_allCoins_63 : decode cX6_allCoins 63 = .ok (.iaload, 1) := by decide +kernel
theorem dX6_allCoins_64 : decode cX6_allCoins 64 = .ok (.iadd, 1) := by decide +kernel
theorem dX6_allCoins_65 : decode cX6_allCoins 65 = .ok (.istore_n 1, 1) := by decide +kernel
theorem dX6_allCoins_66 : decode cX6_allCoins 66 = .ok (.iinc 2 1, 3) := by decide +kernel
theorem dX6_allCoins_69 : decode cX6_allCoins 69 = .ok (.goto (-32), 3) := by decide +kernel
theorem dX6_allCoins_72 : decode cX6_allCoins 72 = .ok (.iload_n 1, 1) := by decide +kernel
theorem dX6_allCoins_73 : decode cX6_allCoins 73 = .ok (.ireturn, 1) := by decide +kernel
theorem dX6_allGoods_0 : decode cX6_allGoods 0 = .ok (.aload_n 0, 1) := by decide +kernel
theorem dX6_allGoods_1 : decode cX6_allGoods 1 = .ok (.iload_n 1, 1) := by decide +kernel
theorem dX6_allGoods_2 : decode cX6_allGoods 2 = .ok (.invokestatic 116, 3) := by decide +kernel
theorem dX6_allGoods_5 : decode cX6_allGoods 5 = .ok (.ifCond .eq 7, 3) := by decide +kernel
theorem dX6_allGoods_8 : decode cX6_allGoods 8 = .ok (.iconst 0, 1) := by decide +kernel
theorem dX6_allGoods_9 : decode cX6_allGoods 9 = .ok (.goto 4, 3) := by decide +kernel
theorem dX6_allGoods_12 : decode cX6_allGoods 12 = .ok (.iconst 1, 1) := by decide +kernel
theorem dX6_allGoods_13 : decode cX6_allGoods 13 = .ok (.invokevirtual 110, 3) := by decide +kernel
theorem dX6_allGoods_16 : decode cX6_allGoods 16 = .ok (.ifCond .ne 5, 3) := by decide +kernel
theorem dX6_allGoods_19 : decode cX6_allGoods 19 = .ok (.iconst 0, 1) := by decide +kernel
theorem dX6_allGoods_20 : decode cX6_allGoods 20 = .ok (.ireturn, 1) := by decide +kernel
theorem dX6_allGoods_21 : decode cX6_allGoods 21 = .ok (.iconst 0, 1) := by decide +kernel
theorem dX6_allGoods_22 : decode cX6_allGoods 22 = .ok (.istore_n 2, 1) := by decide +kernel
theorem dX6_allGoods_23 : decode cX6_allGoods 23 = .ok (.iconst 0, 1) := by decide +kernel
theorem dX6_allGoods_24 : decode cX6_allGoods 24 = .ok (.istore_n 3, 1) := by decide +kernel
theorem dX6_allGoods_25 : decode cX6_allGoods 25 = .ok (.iload_n 3, 1) := by decide +kernel
theorem dX6_allGoods_26 : decode cX6_allGoods 26 = .ok (.aload_n 0, 1) := by decide +kernel
theorem dX6_allGoods_27 : decode cX6_allGoods 27 = .ok (.getfield 93, 3) := by decide +kernel
theorem dX6_allGoods_30 : decode cX6_allGoods 30 = .ok (.if_icmp .ge 22, 3) := by decide +kernel
theorem dX6_allGoods_33 : decode cX6_allGoods 33 = .ok (.iload_n 2, 1) := by decide +kernel
theorem dX6_allGoods_34 : decode cX6_allGoods 34 = .ok (.aload_n 0, 1) := by decide +kernel
theorem dX6_allGoods_35 : decode cX6_allGoods 35 = .ok (.getfield 40, 3) := by decide +kernel
theorem dX6_allGoods_38 : decode cX6_allGoods 38 = .ok (.iconst 5, 1) := by decide +kernel
theorem dX6_allGoods_39 : decode cX6_allGoods 39 = .ok (.iload_n 3, 1) := by decide +kernel
theorem dX6_allGoods_40 : decode cX6_allGoods 40 = .ok (.imul, 1) := by decide +kernel
theorem dX6_allGoods_41 : decode cX6_allGoods 41 = .ok (.iload_n 1, 1) := by decide +kernel
theorem dX6_allGoods_42 : decode cX6_allGoods 42 = .ok (.iadd, 1) := by decide +kernel
theorem dX6_allGoods_43 : decode cX6_allGoods 43 = .ok (.iaload, 1) := by decide +kernel
theorem dX6_allGoods_44 : decode cX6_allGoods 44 = .ok (.iadd, 1) := by decide +kernel
theorem dX6_allGoods_45 : decode cX6_allGoods 45 = .ok (.istore_n 2, 1) := by decide +kernel
theorem dX6_allGoods_46 : decode cX6_allGoods 46 = .ok (.iinc 3 1, 3) := by decide +kernel
theorem dX6_allGoods_49 : decode cX6_allGoods 49 = .ok (.goto (-24), 3) := by decide +kernel
theorem dX6_allGoods_52 : decode cX6_allGoods 52 = .ok (.iconst 0, 1) := by decide +kernel
theorem dX6_allGoods_53 : decode cX6_allGoods 53 = .ok (.istore_n 3, 1) := by decide +kernel
theorem dX6_allGoods_54 : decode cX6_allGoods 54 = .ok (.iload_n 3, 1) := by decide +kernel
theorem dX6_allGoods_55 : decode cX6_allGoods 55 = .ok (.bipush 8, 2) := by decide +kernel
theorem dX6_allGoods_57 : decode cX6_allGoods 57 = .ok (.if_icmp .ge 33, 3) := by decide +kernel
theorem dX6_allGoods_60 : decode cX6_allGoods 60 = .ok (.iload_n 2, 1) := by decide +kernel
theorem dX6_allGoods_61 : decode cX6_allGoods 61 = .ok (.aload_n 0, 1) := by decide +kernel
theorem dX6_allGoods_62 : decode cX6_allGoods 62 = .ok (.getfield 13, 3) := by decide +kernel
theorem dX6_allGoods_65 : decode cX6_allGoods 65 = .ok (.iconst 5, 1) := by decide +kernel
theorem dX6_allGoods_66 : decode cX6_allGoods 66 = .ok (.iload_n 3, 1) := by decide +kernel
theorem dX6_allGoods_67 : decode cX6_allGoods 67 = .ok (.imul, 1) := by decide +kernel
theorem dX6_allGoods_68 : decode cX6_allGoods 68 = .ok (.iload_n 1, 1) := by decide +kernel
theorem dX6_allGoods_69 : decode cX6_allGoods 69 = .ok (.iadd, 1) := by decide +kernel
theorem dX6_allGoods_70 : decode cX6_allGoods 70 = .ok (.iaload, 1) := by decide +kernel
theorem dX6_allGoods_71 : decode cX6_allGoods 71 = .ok (.aload_n 0, 1) := by decide +kernel
theorem dX6_allGoods_72 : decode cX6_allGoods 72 = .ok (.getfield 22, 3) := by decide +kernel
theorem dX6_allGoods_75 : decode cX6_allGoods 75 = .ok (.iconst 5, 1) := by decide +kernel
theorem dX6_allGoods_76 : decode cX6_allGoods 76 = .ok (.iload_n 3, 1) := by decide +kernel
theorem dX6_allGoods_77 : decode cX6_allGoods 77 = .ok (.imul, 1) := by decide +kernel
theorem dX6_allGoods_78 : decode cX6_allGoods 78 = .ok (.iload_n 1, 1) := by decide +kernel
theorem dX6_allGoods_79 : decode cX6_allGoods 79 = .ok (.iadd, 1) := by decide +kernel
theorem dX6_allGoods_80 : decode cX6_allGoods 80 = .ok (.iaload, 1) := by decide +kernel
theorem dX6_allGoods_81 : decode cX6_allGoods 81 = .ok (.iadd, 1) := by decide +kernel
theorem dX6_allGoods_82 : decode cX6_allGoods 82 = .ok (.iadd, 1) := by decide +kernel
theorem dX6_allGoods_83 : decode cX6_allGoods 83 = .ok (.istore_n 2, 1) := by decide +kernel
theorem dX6_allGoods_84 : decode cX6_allGoods 84 = .ok (.iinc 3 1, 3) := by decide +kernel
theorem dX6_allGoods_87 : decode cX6_allGoods 87 = .ok (.goto (-33), 3) := by decide +kernel
theorem dX6_allGoods_90 : decode cX6_allGoods 90 = .ok (.iload_n 2, 1) := by decide +kernel
theorem dX6_allGoods_91 : decode cX6_allGoods 91 = .ok (.ireturn, 1) := by decide +kernel
theorem dX6_calls_0 : decode cX6_calls 0 = .ok (.aload_n 0, 1) := by decide +kernel
theorem dX6_calls_1 : decode cX6_calls 1 = .ok (.iconst 0, 1) := by decide +kernel
theorem dX6_calls_2 : decode cX6_calls 2 = .ok (.putfield 86, 3) := by decide +kernel
theorem dX6_calls_5 : decode cX6_calls 5 = .ok (.aload_n 0, 1) := by decide +kernel
theorem dX6_calls_6 : decode cX6_calls 6 = .ok (.getfield 99, 3) := by decide +kernel
theorem dX6_calls_9 : decode cX6_calls 9 = .ok (.ireturn, 1) := by decide +kernel
theorem dX6_wasThere_0 : decode cX6_wasThere 0 = .ok (.aload_n 0, 1) := by decide +kernel
theorem dX6_wasThere_1 : decode cX6_wasThere 1 = .ok (.iload_n 1, 1) := by decide +kernel
theorem dX6_wasThere_2 : decode cX6_wasThere 2 = .ok (.iconst 0, 1) := by decide +kernel
theorem dX6_wasThere_3 : decode cX6_wasThere 3 = .ok (.aload_n 0, 1) := by decide +kernel
theorem dX6_wasThere_4 : decode cX6_wasThere 4 = .ok (.getfield 99, 3) := by decide +kernel
theorem dX6_wasThere_7 : decode cX6_wasThere 7 = .ok (.invokestatic 89, 3) := by decide +kernel
theorem dX6_wasThere_10 : decode cX6_wasThere 10 = .ok (.ifCond .eq 23, 3) := by decide +kernel
theorem dX6_wasThere_13 : decode cX6_wasThere 13 = .ok (.iload_n 2, 1) := by decide +kernel
theorem dX6_wasThere_14 : decode cX6_wasThere 14 = .ok (.iconst 0, 1) := by decide +kernel
theorem dX6_wasThere_15 : decode cX6_wasThere 15 = .ok (.aload_n 0, 1) := by decide +kernel
theorem dX6_wasThere_16 : decode cX6_wasThere 16 = .ok (.getfield 67, 3) := by decide +kernel
theorem dX6_wasThere_19 : decode cX6_wasThere 19 = .ok (.iload_n 1, 1) := by decide +kernel
theorem dX6_wasThere_20 : decode cX6_wasThere 20 = .ok (.iaload, 1) := by decide +kernel
theorem dX6_wasThere_21 : decode cX6_wasThere 21 = .ok (.iconst 1, 1) := by decide +kernel
theorem dX6_wasThere_22 : decode cX6_wasThere 22 = .ok (.isub, 1) := by decide +kernel
theorem dX6_wasThere_23 : decode cX6_wasThere 23 = .ok (.invokestatic 89, 3) := by decide +kernel
theorem dX6_wasThere_26 : decode cX6_wasThere 26 = .ok (.ifCond .eq 7, 3) := by decide +kernel
theorem dX6_wasThere_29 : decode cX6_wasThere 29 = .ok (.iconst 0, 1) := by decide +kernel
theorem dX6_wasThere_30 : decode cX6_wasThere 30 = .ok (.goto 4, 3) := by decide +kernel
theorem dX6_wasThere_33 : decode cX6_wasThere 33 = .ok (.iconst 1, 1) := by decide +kernel
theorem dX6_wasThere_34 : decode cX6_wasThere 34 = .ok (.invokevirtual 110, 3) := by decide +kernel
theorem dX6_wasThere_37 : decode cX6_wasThere 37 = .ok (.ireturn, 1) := by decide +kernel
theorem dX6_roomAfter_0 : decode cX6_roomAfter 0 = .ok (.aload_n 0, 1) := by decide +kernel
theorem dX6_roomAfter_1 : decode cX6_roomAfter 1 = .ok (.iload_n 1, 1) := by decide +kernel
theorem dX6_roomAfter_2 : decode cX6_roomAfter 2 = .ok (.iload_n 2, 1) := by decide +kernel
theorem dX6_roomAfter_3 : decode cX6_roomAfter 3 = .ok (.invokevirtual 167, 3) := by decide +kernel
theorem dX6_roomAfter_6 : decode cX6_roomAfter 6 = .ok (.ifCond .eq 16, 3) := by decide +kernel
theorem dX6_roomAfter_9 : decode cX6_roomAfter 9 = .ok (.aload_n 0, 1) := by decide +kernel
theorem dX6_roomAfter_10 : decode cX6_roomAfter 10 = .ok (.getfield 73, 3) := by decide +kernel
theorem dX6_roomAfter_13 : decode cX6_roomAfter 13 = .ok (.iconst 4, 1) := by decide +kernel
theorem dX6_roomAfter_14 : decode cX6_roomAfter 14 = .ok (.iload_n 1, 1) := by decide +kernel
theorem dX6_roomAfter_15 : decode cX6_roomAfter 15 = .ok (.imul, 1) := by decide +kernel
theorem dX6_roomAfter_16 : decode cX6_roomAfter 16 = .ok (.iload_n 2, 1) := by decide +kernel
theorem dX6_roomAfter_17 : decode cX6_roomAfter 17 = .ok (.iadd, 1) := by decide +kernel
theorem dX6_roomAfter_18 : decode cX6_roomAfter 18 = .ok (.iaload, 1) := by decide +kernel
theorem dX6_roomAfter_19 : decode cX6_roomAfter 19 = .ok (.goto 4, 3) := by decide +kernel
theorem dX6_roomAfter_22 : decode cX6_roomAfter 22 = .ok (.iconst 0, 1) := by decide +kernel
theorem dX6_roomAfter_23 : decode cX6_roomAfter 23 = .ok (.ireturn, 1) := by decide +kernel
theorem dX6_coinsAfter_0 : decode cX6_coinsAfter 0 = .ok (.aload_n 0, 1) := by decide +kernel
theorem dX6_coinsAfter_1 : decode cX6_coinsAfter 1 = .ok (.iload_n 1, 1) := by decide +kernel
theorem dX6_coinsAfter_2 : decode cX6_coinsAfter 2 = .ok (.iload_n 2, 1) := by decide +kernel
theorem dX6_coinsAfter_3 : decode cX6_coinsAfter 3 = .ok (.invokevirtual 167, 3) := by decide +kernel
theorem dX6_coinsAfter_6 : decode cX6_coinsAfter 6 = .ok (.ifCond .eq 16, 3) := by decide +kernel
theorem dX6_coinsAfter_9 : decode cX6_coinsAfter 9 = .ok (.aload_n 0, 1) := by decide +kernel
theorem dX6_coinsAfter_10 : decode cX6_coinsAfter 10 = .ok (.getfield 76, 3) := by decide +kernel
theorem dX6_coinsAfter_13 : decode cX6_coinsAfter 13 = .ok (.iconst 4, 1) := by decide +kernel
theorem dX6_coinsAfter_14 : decode cX6_coinsAfter 14 = .ok (.iload_n 1, 1) := by decide +kernel
theorem dX6_coinsAfter_15 : decode cX6_coinsAfter 15 = .ok (.imul, 1) := by decide +kernel
theorem dX6_coinsAfter_16 : decode cX6_coinsAfter 16 = .ok (.iload_n 2, 1) := by decide +kernel
theorem dX6_coinsAfter_17 : decode cX6_coinsAfter 17 = .ok (.iadd, 1) := by decide +kernel
theorem dX6_coinsAfter_18 : decode cX6_coinsAfter 18 = .ok (.iaload, 1) := by decide +kernel
theorem dX6_coinsAfter_19 : decode cX6_coinsAfter 19 = .ok (.goto 4, 3) := by decide +kernel
theorem dX6_coinsAfter_22 : decode cX6_coinsAfter 22 = .ok (.iconst 0, 1) := by decide +kernel
theorem dX6_coinsAfter_23 : decode cX6_coinsAfter 23 = .ok (.ireturn, 1) := by decide +kernel
theorem dX6_turnAfter_0 : decode cX6_turnAfter 0 = .ok (.aload_n 0, 1) := by decide +kernel
theorem dX6_turnAfter_1 : decode cX6_turnAfter 1 = .ok (.iload_n 1, 1) := by decide +kernel
theorem dX6_turnAfter_2 : decode cX6_turnAfter 2 = .ok (.iconst 0, 1) := by decide +kernel
theorem dX6_turnAfter_3 : decode cX6_turnAfter 3 = .ok (.aload_n 0, 1) := by decide +kernel
theorem dX6_turnAfter_4 : decode cX6_turnAfter 4 = .ok (.getfield 99, 3) := by decide +kernel
theorem dX6_turnAfter_7 : decode cX6_turnAfter 7 = .ok (.invokestatic 89, 3) := by decide +kernel
theorem dX6_turnAfter_10 : decode cX6_turnAfter 10 = .ok (.ifCond .eq 7, 3) := by decide +kernel
theorem dX6_turnAfter_13 : decode cX6_turnAfter 13 = .ok (.iconst 0, 1) := by decide +kernel
theorem dX6_turnAfter_14 : decode cX6_turnAfter 14 = .ok (.goto 4, 3) := by decide +kernel
theorem dX6_turnAfter_17 : decode cX6_turnAfter 17 = .ok (.iconst 1, 1) := by decide +kernel
theorem dX6_turnAfter_18 : decode cX6_turnAfter 18 = .ok (.invokevirtual 110, 3) := by decide +kernel
theorem dX6_turnAfter_21 : decode cX6_turnAfter 21 = .ok (.ifCond .eq 12, 3) := by decide +kernel
theorem dX6_turnAfter_24 : decode cX6_turnAfter 24 = .ok (.aload_n 0, 1) := by decide +kernel
theorem dX6_turnAfter_25 : decode cX6_turnAfter 25 = .ok (.getfield 70, 3) := by decide +kernel
theorem dX6_turnAfter_28 : decode cX6_turnAfter 28 = .ok (.iload_n 1, 1) := by decide +kernel
theorem dX6_turnAfter_29 : decode cX6_turnAfter 29 = .ok (.iaload, 1) := by decide +kernel
theorem dX6_turnAfter_30 : decode cX6_turnAfter 30 = .ok (.goto 4, 3) := by decide +kernel
theorem dX6_turnAfter_33 : decode cX6_turnAfter 33 = .ok (.iconst 0, 1) := by decide +kernel
theorem dX6_turnAfter_34 : decode cX6_turnAfter 34 = .ok (.ireturn, 1) := by decide +kernel
theorem dL_link_0 : decode cL_link 0 = .ok (.aload_n 0, 1) := by decide +kernel
theorem dL_link_1 : decode cL_link 1 = .ok (.iload_n 1, 1) := by decide +kernel
theorem dL_link_2 : decode cL_link 2 = .ok (.iload_n 2, 1) := by decide +kernel
theorem dL_link_3 : decode cL_link 3 = .ok (.iload_n 3, 1) := by decide +kernel
theorem dL_link_4 : decode cL_link 4 = .ok (.invokevirtual 7, 3) := by decide +kernel
theorem dL_link_7 : decode cL_link 7 = .ok (.goto 15, 3) := by decide +kernel
theorem dL_link_10 : decode cL_link 10 = .ok (.astore 4, 2) := by decide +kernel
theorem dL_link_12 : decode cL_link 12 = .ok (.iconst 1, 1) := by decide +kernel
theorem dL_link_13 : decode cL_link 13 = .ok (.ireturn, 1) := by decide +kernel
theorem dL_link_14 : decode cL_link 14 = .ok (.astore 4, 2) := by decide +kernel
theorem dL_link_16 : decode cL_link 16 = .ok (.iconst 2, 1) := by decide +kernel
theorem dL_link_17 : decode cL_link 17 = .ok (.ireturn, 1) := by decide +kernel
theorem dL_link_18 : decode cL_link 18 = .ok (.astore 4, 2) := by decide +kernel
theorem dL_link_20 : decode cL_link 20 = .ok (.iconst 3, 1) := by decide +kernel
theorem dL_link_21 : decode cL_link 21 = .ok (.ireturn, 1) := by decide +kernel
theorem dL_link_22 : decode cL_link 22 = .ok (.iconst 0, 1) := by decide +kernel
theorem dL_link_23 : decode cL_link 23 = .ok (.ireturn, 1) := by decide +kernel
theorem dL_shop_0 : decode cL_shop 0 = .ok (.aload_n 0, 1) := by decide +kernel
theorem dL_shop_1 : decode cL_shop 1 = .ok (.iload_n 1, 1) := by decide +kernel
theorem dL_shop_2 : decode cL_shop 2 = .ok (.iload_n 2, 1) := by decide +kernel
theorem dL_shop_3 : decode cL_shop 3 = .ok (.invokevirtual 19, 3) := by decide +kernel
theorem dL_shop_6 : decode cL_shop 6 = .ok (.goto 12, 3) := by decide +kernel
theorem dL_shop_9 : decode cL_shop 9 = .ok (.astore_n 3, 1) := by decide +kernel
theorem dL_shop_10 : decode cL_shop 10 = .ok (.iconst 1, 1) := by decide +kernel
theorem dL_shop_11 : decode cL_shop 11 = .ok (.ireturn, 1) := by decide +kernel
theorem dL_shop_12 : decode cL_shop 12 = .ok (.astore_n 3, 1) := by decide +kernel
theorem dL_shop_13 : decode cL_shop 13 = .ok (.iconst 2, 1) := by decide +kernel
theorem dL_shop_14 : decode cL_shop 14 = .ok (.ireturn, 1) := by decide +kernel
theorem dL_shop_15 : decode cL_shop 15 = .ok (.astore_n 3, 1) := by decide +kernel
theorem dL_shop_16 : decode cL_shop 16 = .ok (.iconst 3, 1) := by decide +kernel
theorem dL_shop_17 : decode cL_shop 17 = .ok (.ireturn, 1) := by decide +kernel
theorem dL_shop_18 : decode cL_shop 18 = .ok (.iconst 0, 1) := by decide +kernel
theorem dL_shop_19 : decode cL_shop 19 = .ok (.ireturn, 1) := by decide +kernel
theorem dL_stock_0 : decode cL_stock 0 = .ok (.aload 5, 2) := by decide +kernel
theorem dL_stock_2 : decode cL_stock 2 = .ok (.iconst 0, 1) := by decide +kernel
theorem dL_stock_3 : decode cL_stock 3 = .ok (.aload_n 0, 1) := by decide +kernel
theorem dL_stock_4 : decode cL_stock 4 = .ok (.iload_n 1, 1) := by decide +kernel
theorem dL_stock_5 : decode cL_stock 5 = .ok (.iload_n 2, 1) := by decide +kernel
theorem dL_stock_6 : decode cL_stock 6 = .ok (.iload_n 3, 1) := by decide +kernel
theorem dL_stock_7 : decode cL_stock 7 = .ok (.iload 4, 2) := by decide +kernel
theorem dL_stock_9 : decode cL_stock 9 = .ok (.invokevirtual 23, 3) := by decide +kernel
theorem dL_stock_12 : decode cL_stock 12 = .ok (.i2l, 1) := by decide +kernel
theorem dL_stock_13 : decode cL_stock 13 = .ok (.lastore, 1) := by decide +kernel
theorem dL_stock_14 : decode cL_stock 14 = .ok (.goto 15, 3) := by decide +kernel
theorem dL_stock_17 : decode cL_stock 17 = .ok (.astore 6, 2) := by decide +kernel
theorem dL_stock_19 : decode cL_stock 19 = .ok (.iconst 1, 1) := by decide +kernel
theorem dL_stock_20 : decode cL_stock 20 = .ok (.ireturn, 1) := by decide +kernel
theorem dL_stock_21 : decode cL_stock 21 = .ok (.astore 6, 2) := by decide +kernel
theorem dL_stock_23 : decode cL_stock 23 = .ok (.iconst 2, 1) := by decide +kernel
theorem dL_stock_24 : decode cL_stock 24 = .ok (.ireturn, 1) := by decide +kernel
theorem dL_stock_25 : decode cL_stock 25 = .ok (.astore 6, 2) := by decide +kernel
theorem dL_stock_27 : decode cL_stock 27 = .ok (.iconst 3, 1) := by decide +kernel
theorem dL_stock_28 : decode cL_stock 28 = .ok (.ireturn, 1) := by decide +kernel
theorem dL_stock_29 : decode cL_stock 29 = .ok (.iconst 0, 1) := by decide +kernel
theorem dL_stock_30 : decode cL_stock 30 = .ok (.ireturn, 1) := by decide +kernel
theorem dL_scatter_0 : decode cL_scatter 0 = .ok (.aload 4, 2) := by decide +kernel
theorem dL_scatter_2 : decode cL_scatter 2 = .ok (.iconst 0, 1) := by decide +kernel
theorem dL_scatter_3 : decode cL_scatter 3 = .ok (.aload_n 0, 1) := by decide +kernel
theorem dL_scatter_4 : decode cL_scatter 4 = .ok (.iload_n 1, 1) := by decide +kernel
theorem dL_scatter_5 : decode cL_scatter 5 = .ok (.iload_n 2, 1) := by decide +kernel
theorem dL_scatter_6 : decode cL_scatter 6 = .ok (.iload_n 3, 1) := by decide +kernel
theorem dL_scatter_7 : decode cL_scatter 7 = .ok (.invokevirtual 27, 3) := by decide +kernel
theorem dL_scatter_10 : decode cL_scatter 10 = .ok (.i2l, 1) := by decide +kernel
theorem dL_scatter_11 : decode cL_scatter 11 = .ok (.lastore, 1) := by decide +kernel
theorem dL_scatter_12 : decode cL_scatter 12 = .ok (.goto 11, 3) := by decide +kernel
theorem dL_scatter_15 : decode cL_scatter 15 = .ok (.astore 5, 2) := by decide +kernel
theorem dL_scatter_17 : decode cL_scatter 17 = .ok (.iconst 1, 1) := by decide +kernel
theorem dL_scatter_18 : decode cL_scatter 18 = .ok (.ireturn, 1) := by decide +kernel
theorem dL_scatter_19 : decode cL_scatter 19 = .ok (.astore 5, 2) := by decide +kernel
theorem dL_scatter_21 : decode cL_scatter 21 = .ok (.iconst 2, 1) := by decide +kernel
theorem dL_scatter_22 : decode cL_scatter 22 = .ok (.ireturn, 1) := by decide +kernel
theorem dL_scatter_23 : decode cL_scatter 23 = .ok (.iconst 0, 1) := by decide +kernel
theorem dL_scatter_24 : decode cL_scatter 24 = .ok (.ireturn, 1) := by decide +kernel
theorem dL_join_0 : decode cL_join 0 = .ok (.aload 4, 2) := by decide +kernel
theorem dL_join_2 : decode cL_join 2 = .ok (.iconst 0, 1) := by decide +kernel
theorem dL_join_3 : decode cL_join 3 = .ok (.aload_n 0, 1) := by decide +kernel
theorem dL_join_4 : decode cL_join 4 = .ok (.iload_n 1, 1) := by decide +kernel
theorem dL_join_5 : decode cL_join 5 = .ok (.iload_n 2, 1) := by decide +kernel
theorem dL_join_6 : decode cL_join 6 = .ok (.iload_n 3, 1) := by decide +kernel
theorem dL_join_7 : decode cL_join 7 = .ok (.invokevirtual 31, 3) := by decide +kernel
theorem dL_join_10 : decode cL_join 10 = .ok (.i2l, 1) := by decide +kernel
theorem dL_join_11 : decode cL_join 11 = .ok (.lastore, 1) := by decide +kernel
theorem dL_join_12 : decode cL_join 12 = .ok (.goto 15, 3) := by decide +kernel
theorem dL_join_15 : decode cL_join 15 = .ok (.astore 5, 2) := by decide +kernel
theorem dL_join_17 : decode cL_join 17 = .ok (.iconst 1, 1) := by decide +kernel
theorem dL_join_18 : decode cL_join 18 = .ok (.ireturn, 1) := by decide +kernel
theorem dL_join_19 : decode cL_join 19 = .ok (.astore 5, 2) := by decide +kernel
theorem dL_join_21 : decode cL_join 21 = .ok (.iconst 2, 1) := by decide +kernel
theorem dL_join_22 : decode cL_join 22 = .ok (.ireturn, 1) := by decide +kernel
theorem dL_join_23 : decode cL_join 23 = .ok (.astore 5, 2) := by decide +kernel
theorem dL_join_25 : decode cL_join 25 = .ok (.iconst 3, 1) := by decide +kernel
theorem dL_join_26 : decode cL_join 26 = .ok (.ireturn, 1) := by decide +kernel
theorem dL_join_27 : decode cL_join 27 = .ok (.iconst 0, 1) := by decide +kernel
theorem dL_join_28 : decode cL_join 28 = .ok (.ireturn, 1) := by decide +kernel
theorem dL_quest_0 : decode cL_quest 0 = .ok (.aload_n 2, 1) := by decide +kernel
theorem dL_quest_1 : decode cL_quest 1 = .ok (.iconst 0, 1) := by decide +kernel
theorem dL_quest_2 : decode cL_quest 2 = .ok (.aload_n 0, 1) := by decide +kernel
theorem dL_quest_3 : decode cL_quest 3 = .ok (.iload_n 1, 1) := by decide +kernel
theorem dL_quest_4 : decode cL_quest 4 = .ok (.invokevirtual 34, 3) := by decide +kernel
theorem dL_quest_7 : decode cL_quest 7 = .ok (.i2l, 1) := by decide +kernel
theorem dL_quest_8 : decode cL_quest 8 = .ok (.lastore, 1) := by decide +kernel
theorem dL_quest_9 : decode cL_quest 9 = .ok (.goto 9, 3) := by decide +kernel
theorem dL_quest_12 : decode cL_quest 12 = .ok (.astore_n 3, 1) := by decide +kernel
theorem dL_quest_13 : decode cL_quest 13 = .ok (.iconst 1, 1) := by decide +kernel
theorem dL_quest_14 : decode cL_quest 14 = .ok (.ireturn, 1) := by decide +kernel
theorem dL_quest_15 : decode cL_quest 15 = .ok (.astore_n 3, 1) := by decide +kernel
theorem dL_quest_16 : decode cL_quest 16 = .ok (.iconst 2, 1) := by decide +kernel
theorem dL_quest_17 : decode cL_quest 17 = .ok (.ireturn, 1) := by decide +kernel
theorem dL_quest_18 : decode cL_quest 18 = .ok (.iconst 0, 1) := by decide +kernel
theorem dL_quest_19 : decode cL_quest 19 = .ok (.ireturn, 1) := by decide +kernel
theorem dL_stage_0 : decode cL_stage 0 = .ok (.aload 5, 2) := by decide +kernel
theorem dL_stage_2 : decode cL_stage 2 = .ok (.iconst 0, 1) := by decide +kernel
theorem dL_stage_3 : decode cL_stage 3 = .ok (.aload_n 0, 1) := by decide +kernel
theorem dL_stage_4 : decode cL_stage 4 = .ok (.iload_n 1, 1) := by decide +kernel
theorem dL_stage_5 : decode cL_stage 5 = .ok (.iload_n 2, 1) := by decide +kernel
theorem dL_stage_6 : decode cL_stage 6 = .ok (.iload_n 3, 1) := by decide +kernel
theorem dL_stage_7 : decode cL_stage 7 = .ok (.iload 4, 2) := by decide +kernel
theorem dL_stage_9 : decode cL_stage 9 = .ok (.invokevirtual 38, 3) := by decide +kernel
theorem dL_stage_12 : decode cL_stage 12 = .ok (.i2l, 1) := by decide +kernel
theorem dL_stage_13 : decode cL_stage 13 = .ok (.lastore, 1) := by decide +kernel
theorem dL_stage_14 : decode cL_stage 14 = .ok (.goto 15, 3) := by decide +kernel
theorem dL_stage_17 : decode cL_stage 17 = .ok (.astore 6, 2) := by decide +kernel
theorem dL_stage_19 : decode cL_stage 19 = .ok (.iconst 1, 1) := by decide +kernel
theorem dL_stage_20 : decode cL_stage 20 = .ok (.ireturn, 1) := by decide +kernel
theorem dL_stage_21 : decode cL_stage 21 = .ok (.astore 6, 2) := by decide +kernel
theorem dL_stage_23 : decode cL_stage 23 = .ok (.iconst 2, 1) := by decide +kernel
theorem dL_stage_24 : decode cL_stage 24 = .ok (.ireturn, 1) := by decide +kernel
theorem dL_stage_25 : decode cL_stage 25 = .ok (.astore 6, 2) := by decide +kernel
theorem dL_stage_27 : decode cL_stage 27 = .ok (.iconst 3, 1) := by decide +kernel
theorem dL_stage_28 : decode cL_stage 28 = .ok (.ireturn, 1) := by decide +kernel
theorem dL_stage_29 : decode cL_stage 29 = .ok (.iconst 0, 1) := by decide +kernel
theorem dL_stage_30 : decode cL_stage 30 = .ok (.ireturn, 1) := by decide +kernel
theorem dL_endow_0 : decode cL_endow 0 = .ok (.aload_n 2, 1) := by decide +kernel
theorem dL_endow_1 : decode cL_endow 1 = .ok (.iconst 0, 1) := by decide +kernel
theorem dL_endow_2 : decode cL_endow 2 = .ok (.aload_n 0, 1) := by decide +kernel
theorem dL_endow_3 : decode cL_endow 3 = .ok (.iload_n 1, 1) := by decide +kernel
theorem dL_endow_4 : decode cL_endow 4 = .ok (.invokevirtual 41, 3) := by decide +kernel
theorem dL_endow_7 : decode cL_endow 7 = .ok (.i2l, 1) := by decide +kernel
theorem dL_endow_8 : decode cL_endow 8 = .ok (.lastore, 1) := by decide +kernel
theorem dL_endow_9 : decode cL_endow 9 = .ok (.goto 6, 3) := by decide +kernel
theorem dL_endow_12 : decode cL_endow 12 = .ok (.astore_n 3, 1) := by decide +kernel
theorem dL_endow_13 : decode cL_endow 13 = .ok (.iconst 1, 1) := by decide +kernel
theorem dL_endow_14 : decode cL_endow 14 = .ok (.ireturn, 1) := by decide +kernel
theorem dL_endow_15 : decode cL_endow 15 = .ok (.iconst 0, 1) := by decide +kernel
theorem dL_endow_16 : decode cL_endow 16 = .ok (.ireturn, 1) := by decide +kernel
theorem dL_seed_0 : decode cL_seed 0 = .ok (.aload_n 0, 1) := by decide +kernel
theorem dL_seed_1 : decode cL_seed 1 = .ok (.iload_n 1, 1) := by decide +kernel
theorem dL_seed_2 : decode cL_seed 2 = .ok (.invokevirtual 44, 3) := by decide +kernel
theorem dL_seed_5 : decode cL_seed 5 = .ok (.goto 6, 3) := by decide +kernel
theorem dL_seed_8 : decode cL_seed 8 = .ok (.astore_n 2, 1) := by decide +kernel
theorem dL_seed_9 : decode cL_seed 9 = .ok (.iconst 1, 1) := by decide +kernel
theorem dL_seed_10 : decode cL_seed 10 = .ok (.ireturn, 1) := by decide +kernel
theorem dL_seed_11 : decode cL_seed 11 = .ok (.iconst 0, 1) := by decide +kernel
theorem dL_seed_12 : decode cL_seed 12 = .ok (.ireturn, 1) := by decide +kernel
theorem dL_go_0 : decode cL_go 0 = .ok (.aload_n 2, 1) := by decide +kernel
theorem dL_go_1 : decode cL_go 1 = .ok (.iconst 0, 1) := by decide +kernel
theorem dL_go_2 : decode cL_go 2 = .ok (.aload_n 0, 1) := by decide +kernel
theorem dL_go_3 : decode cL_go 3 = .ok (.iload_n 1, 1) := by decide +kernel
theorem dL_go_4 : decode cL_go 4 = .ok (.invokevirtual 48, 3) := by decide +kernel
theorem dL_go_7 : decode cL_go 7 = .ok (.i2l, 1) := by decide +kernel
theorem dL_go_8 : decode cL_go 8 = .ok (.lastore, 1) := by decide +kernel
theorem dL_go_9 : decode cL_go 9 = .ok (.goto 9, 3) := by decide +kernel
theorem dL_go_12 : decode cL_go 12 = .ok (.astore_n 3, 1) := by decide +kernel
theorem dL_go_13 : decode cL_go 13 = .ok (.iconst 1, 1) := by decide +kernel
theorem dL_go_14 : decode cL_go 14 = .ok (.ireturn, 1) := by decide +kernel
theorem dL_go_15 : decode cL_go 15 = .ok (.astore_n 3, 1) := by decide +kernel
theorem dL_go_16 : decode cL_go 16 = .ok (.iconst 2, 1) := by decide +kernel
theorem dL_go_17 : decode cL_go 17 = .ok (.ireturn, 1) := by decide +kernel
theorem dL_go_18 : decode cL_go 18 = .ok (.iconst 0, 1) := by decide +kernel
theorem dL_go_19 : decode cL_go 19 = .ok (.ireturn, 1) := by decide +kernel
theorem dL_say_0 : decode cL_say 0 = .ok (.aload_n 2, 1) := by decide +kernel
theorem dL_say_1 : decode cL_say 1 = .ok (.iconst 0, 1) := by decide +kernel
theorem dL_say_2 : decode cL_say 2 = .ok (.aload_n 0, 1) := by decide +kernel
theorem dL_say_3 : decode cL_say 3 = .ok (.iload_n 1, 1) := by decide +kernel
theorem dL_say_4 : decode cL_say 4 = .ok (.invokevirtual 51, 3) := by decide +kernel
theorem dL_say_7 : decode cL_say 7 = .ok (.i2l, 1) := by decide +kernel
theorem dL_say_8 : decode cL_say 8 = .ok (.lastore, 1) := by decide +kernel
theorem dL_say_9 : decode cL_say 9 = .ok (.goto 9, 3) := by decide +kernel
theorem dL_say_12 : decode cL_say 12 = .ok (.astore_n 3, 1) := by decide +kernel
theorem dL_say_13 : decode cL_say 13 = .ok (.iconst 1, 1) := by decide +kernel
theorem dL_say_14 : decode cL_say 14 = .ok (.ireturn, 1) := by decide +kernel
theorem dL_say_15 : decode cL_say 15 = .ok (.astore_n 3, 1) := by decide +kernel
theorem dL_say_16 : decode cL_say 16 = .ok (.iconst 2, 1) := by decide +kernel
theorem dL_say_17 : decode cL_say 17 = .ok (.ireturn, 1) := by decide +kernel
theorem dL_say_18 : decode cL_say 18 = .ok (.iconst 0, 1) := by decide +kernel
theorem dL_say_19 : decode cL_say 19 = .ok (.ireturn, 1) := by decide +kernel
theorem dL_shout_0 : decode cL_shout 0 = .ok (.aload_n 2, 1) := by decide +kernel
theorem dL_shout_1 : decode cL_shout 1 = .ok (.iconst 0, 1) := by decide +kernel
theorem dL_shout_2 : decode cL_shout 2 = .ok (.aload_n 0, 1) := by decide +kernel
theorem dL_shout_3 : decode cL_shout 3 = .ok (.iload_n 1, 1) := by decide +kernel
theorem dL_shout_4 : decode cL_shout 4 = .ok (.invokevirtual 54, 3) := by decide +kernel
theorem dL_shout_7 : decode cL_shout 7 = .ok (.i2l, 1) := by decide +kernel
theorem dL_shout_8 : decode cL_shout 8 = .ok (.lastore, 1) := by decide +kernel
theorem dL_shout_9 : decode cL_shout 9 = .ok (.goto 9, 3) := by decide +kernel
theorem dL_shout_12 : decode cL_shout 12 = .ok (.astore_n 3, 1) := by decide +kernel
theorem dL_shout_13 : decode cL_shout 13 = .ok (.iconst 1, 1) := by decide +kernel
theorem dL_shout_14 : decode cL_shout 14 = .ok (.ireturn, 1) := by decide +kernel
theorem dL_shout_15 : decode cL_shout 15 = .ok (.astore_n 3, 1) := by decide +kernel
theorem dL_shout_16 : decode cL_shout 16 = .ok (.iconst 2, 1) := by decide +kernel
theorem dL_shout_17 : decode cL_shout 17 = .ok (.ireturn, 1) := by decide +kernel
theorem dL_shout_18 : decode cL_shout 18 = .ok (.iconst 0, 1) := by decide +kernel
theorem dL_shout_19 : decode cL_shout 19 = .ok (.ireturn, 1) := by decide +kernel
theorem dL_take_0 : decode cL_take 0 = .ok (.aload_n 2, 1) := by decide +kernel
theorem dL_take_1 : decode cL_take 1 = .ok (.iconst 0, 1) := by decide +kernel
theorem dL_take_2 : decode cL_take 2 = .ok (.aload_n 0, 1) := by decide +kernel
theorem dL_take_3 : decode cL_take 3 = .ok (.iload_n 1, 1) := by decide +kernel
theorem dL_take_4 : decode cL_take 4 = .ok (.invokevirtual 57, 3) := by decide +kernel
theorem dL_take_7 : decode cL_take 7 = .ok (.i2l, 1) := by decide +kernel
theorem dL_take_8 : decode cL_take 8 = .ok (.lastore, 1) := by decide +kernel
theorem dL_take_9 : decode cL_take 9 = .ok (.goto 9, 3) := by decide +kernel
theorem dL_take_12 : decode cL_take 12 = .ok (.astore_n 3, 1) := by decide +kernel
theorem dL_take_13 : decode cL_take 13 = .ok (.iconst 1, 1) := by decide +kernel
theorem dL_take_14 : decode cL_take 14 = .ok (.ireturn, 1) := by decide +kernel
theorem dL_take_15 : decode cL_take 15 = .ok (.astore_n 3, 1) := by decide +kernel
theorem dL_take_16 : decode cL_take 16 = .ok (.iconst 2, 1) := by decide +kernel
theorem dL_take_17 : decode cL_take 17 = .ok (.ireturn, 1) := by decide +kernel
theorem dL_take_18 : decode cL_take 18 = .ok (.iconst 0, 1) := by decide +kernel
theorem dL_take_19 : decode cL_take 19 = .ok (.ireturn, 1) := by decide +kernel
theorem dL_drop_0 : decode cL_drop 0 = .ok (.aload_n 2, 1) := by decide +kernel
theorem dL_drop_1 : decode cL_drop 1 = .ok (.iconst 0, 1) := by decide +kernel
theorem dL_drop_2 : decode cL_drop 2 = .ok (.aload_n 0, 1) := by decide +kernel
theorem dL_drop_3 : decode cL_drop 3 = .ok (.iload_n 1, 1) := by decide +kernel
theorem dL_drop_4 : decode cL_drop 4 = .ok (.invokevirtual 60, 3) := by decide +kernel
theorem dL_drop_7 : decode cL_drop 7 = .ok (.i2l, 1) := by decide +kernel
theorem dL_drop_8 : decode cL_drop 8 = .ok (.lastore, 1) := by decide +kernel
theorem dL_drop_9 : decode cL_drop 9 = .ok (.goto 9, 3) := by decide +kernel
theorem dL_drop_12 : decode cL_drop 12 = .ok (.astore_n 3, 1) := by decide +kernel
theorem dL_drop_13 : decode cL_drop 13 = .ok (.iconst 1, 1) := by decide +kernel
theorem dL_drop_14 : decode cL_drop 14 = .ok (.ireturn, 1) := by decide +kernel
theorem dL_drop_15 : decode cL_drop 15 = .ok (.astore_n 3, 1) := by decide +kernel
theorem dL_drop_16 : decode cL_drop 16 = .ok (.iconst 2, 1) := by decide +kernel
theorem dL_drop_17 : decode cL_drop 17 = .ok (.ireturn, 1) := by decide +kernel
theorem dL_drop_18 : decode cL_drop 18 = .ok (.iconst 0, 1) := by decide +kernel
theorem dL_drop_19 : decode cL_drop 19 = .ok (.ireturn, 1) := by decide +kernel
theorem dL_give_0 : decode cL_give 0 = .ok (.aload_n 3, 1) := by decide +kernel
theorem dL_give_1 : decode cL_give 1 = .ok (.iconst 0, 1) := by decide +kernel
theorem dL_give_2 : decode cL_give 2 = .ok (.aload_n 0, 1) := by decide +kernel
theorem dL_give_3 : decode cL_give 3 = .ok (.iload_n 1, 1) := by decide +kernel
theorem dL_give_4 : decode cL_give 4 = .ok (.iload_n 2, 1) := by decide +kernel
theorem dL_give_5 : decode cL_give 5 = .ok (.invokevirtual 63, 3) := by decide +kernel
theorem dL_give_8 : decode cL_give 8 = .ok (.i2l, 1) := by decide +kernel
theorem dL_give_9 : decode cL_give 9 = .ok (.lastore, 1) := by decide +kernel
theorem dL_give_10 : decode cL_give 10 = .ok (.goto 11, 3) := by decide +kernel
theorem dL_give_13 : decode cL_give 13 = .ok (.astore 4, 2) := by decide +kernel
theorem dL_give_15 : decode cL_give 15 = .ok (.iconst 1, 1) := by decide +kernel
theorem dL_give_16 : decode cL_give 16 = .ok (.ireturn, 1) := by decide +kernel
theorem dL_give_17 : decode cL_give 17 = .ok (.astore 4, 2) := by decide +kernel
theorem dL_give_19 : decode cL_give 19 = .ok (.iconst 2, 1) := by decide +kernel
theorem dL_give_20 : decode cL_give 20 = .ok (.ireturn, 1) := by decide +kernel
theorem dL_give_21 : decode cL_give 21 = .ok (.iconst 0, 1) := by decide +kernel
theorem dL_give_22 : decode cL_give 22 = .ok (.ireturn, 1) := by decide +kernel
theorem dL_pay_0 : decode cL_pay 0 = .ok (.aload_n 3, 1) := by decide +kernel
theorem dL_pay_1 : decode cL_pay 1 = .ok (.iconst 0, 1) := by decide +kernel
theorem dL_pay_2 : decode cL_pay 2 = .ok (.aload_n 0, 1) := by decide +kernel
theorem dL_pay_3 : decode cL_pay 3 = .ok (.iload_n 1, 1) := by decide +kernel
theorem dL_pay_4 : decode cL_pay 4 = .ok (.iload_n 2, 1) := by decide +kernel
theorem dL_pay_5 : decode cL_pay 5 = .ok (.invokevirtual 67, 3) := by decide +kernel
theorem dL_pay_8 : decode cL_pay 8 = .ok (.i2l, 1) := by decide +kernel
theorem dL_pay_9 : decode cL_pay 9 = .ok (.lastore, 1) := by decide +kernel
theorem dL_pay_10 : decode cL_pay 10 = .ok (.goto 15, 3) := by decide +kernel
theorem dL_pay_13 : decode cL_pay 13 = .ok (.astore 4, 2) := by decide +kernel
theorem dL_pay_15 : decode cL_pay 15 = .ok (.iconst 1, 1) := by decide +kernel
theorem dL_pay_16 : decode cL_pay 16 = .ok (.ireturn, 1) := by decide +kernel
theorem dL_pay_17 : decode cL_pay 17 = .ok (.astore 4, 2) := by decide +kernel
theorem dL_pay_19 : decode cL_pay 19 = .ok (.iconst 2, 1) := by decide +kernel
theorem dL_pay_20 : decode cL_pay 20 = .ok (.ireturn, 1) := by decide +kernel
theorem dL_pay_21 : decode cL_pay 21 = .ok (.astore 4, 2) := by decide +kernel
theorem dL_pay_23 : decode cL_pay 23 = .ok (.iconst 3, 1) := by decide +kernel
theorem dL_pay_24 : decode cL_pay 24 = .ok (.ireturn, 1) := by decide +kernel
theorem dL_pay_25 : decode cL_pay 25 = .ok (.iconst 0, 1) := by decide +kernel
theorem dL_pay_26 : decode cL_pay 26 = .ok (.ireturn, 1) := by decide +kernel
theorem dL_buy_0 : decode cL_buy 0 = .ok (.aload_n 2, 1) := by decide +kernel
theorem dL_buy_1 : decode cL_buy 1 = .ok (.iconst 0, 1) := by decide +kernel
theorem dL_buy_2 : decode cL_buy 2 = .ok (.aload_n 0, 1) := by decide +kernel
theorem dL_buy_3 : decode cL_buy 3 = .ok (.iload_n 1, 1) := by decide +kernel
theorem dL_buy_4 : decode cL_buy 4 = .ok (.invokevirtual 70, 3) := by decide +kernel
theorem dL_buy_7 : decode cL_buy 7 = .ok (.i2l, 1) := by decide +kernel
theorem dL_buy_8 : decode cL_buy 8 = .ok (.lastore, 1) := by decide +kernel
theorem dL_buy_9 : decode cL_buy 9 = .ok (.goto 9, 3) := by decide +kernel
theorem dL_buy_12 : decode cL_buy 12 = .ok (.astore_n 3, 1) := by decide +kernel
theorem dL_buy_13 : decode cL_buy 13 = .ok (.iconst 1, 1) := by decide +kernel
theorem dL_buy_14 : decode cL_buy 14 = .ok (.ireturn, 1) := by decide +kernel
theorem dL_buy_15 : decode cL_buy 15 = .ok (.astore_n 3, 1) := by decide +kernel
theorem dL_buy_16 : decode cL_buy 16 = .ok (.iconst 2, 1) := by decide +kernel
theorem dL_buy_17 : decode cL_buy 17 = .ok (.ireturn, 1) := by decide +kernel
theorem dL_buy_18 : decode cL_buy 18 = .ok (.iconst 0, 1) := by decide +kernel
theorem dL_buy_19 : decode cL_buy 19 = .ok (.ireturn, 1) := by decide +kernel
theorem dL_sell_0 : decode cL_sell 0 = .ok (.aload_n 2, 1) := by decide +kernel
theorem dL_sell_1 : decode cL_sell 1 = .ok (.iconst 0, 1) := by decide +kernel
theorem dL_sell_2 : decode cL_sell 2 = .ok (.aload_n 0, 1) := by decide +kernel
theorem dL_sell_3 : decode cL_sell 3 = .ok (.iload_n 1, 1) := by decide +kernel
theorem dL_sell_4 : decode cL_sell 4 = .ok (.invokevirtual 73, 3) := by decide +kernel
theorem dL_sell_7 : decode cL_sell 7 = .ok (.i2l, 1) := by decide +kernel
theorem dL_sell_8 : decode cL_sell 8 = .ok (.lastore, 1) := by decide +kernel
theorem dL_sell_9 : decode cL_sell 9 = .ok (.goto 9, 3) := by decide +kernel
theorem dL_sell_12 : decode cL_sell 12 = .ok (.astore_n 3, 1) := by decide +kernel
theorem dL_sell_13 : decode cL_sell 13 = .ok (.iconst 1, 1) := by decide +kernel
theorem dL_sell_14 : decode cL_sell 14 = .ok (.ireturn, 1) := by decide +kernel
theorem dL_sell_15 : decode cL_sell 15 = .ok (.astore_n 3, 1) := by decide +kernel
theorem dL_sell_16 : decode cL_sell 16 = .ok (.iconst 2, 1) := by decide +kernel
theorem dL_sell_17 : decode cL_sell 17 = .ok (.ireturn, 1) := by decide +kernel
theorem dL_sell_18 : decode cL_sell 18 = .ok (.iconst 0, 1) := by decide +kernel
theorem dL_sell_19 : decode cL_sell 19 = .ok (.ireturn, 1) := by decide +kernel
theorem dL_attack_0 : decode cL_attack 0 = .ok (.aload_n 2, 1) := by decide +kernel
theorem dL_attack_1 : decode cL_attack 1 = .ok (.iconst 0, 1) := by decide +kernel
theorem dL_attack_2 : decode cL_attack 2 = .ok (.aload_n 0, 1) := by decide +kernel
theorem dL_attack_3 : decode cL_attack 3 = .ok (.iload_n 1, 1) := by decide +kernel
theorem dL_attack_4 : decode cL_attack 4 = .ok (.invokevirtual 76, 3) := by decide +kernel
theorem dL_attack_7 : decode cL_attack 7 = .ok (.i2l, 1) := by decide +kernel
theorem dL_attack_8 : decode cL_attack 8 = .ok (.lastore, 1) := by decide +kernel
theorem dL_attack_9 : decode cL_attack 9 = .ok (.goto 9, 3) := by decide +kernel
theorem dL_attack_12 : decode cL_attack 12 = .ok (.astore_n 3, 1) := by decide +kernel
theorem dL_attack_13 : decode cL_attack 13 = .ok (.iconst 1, 1) := by decide +kernel
theorem dL_attack_14 : decode cL_attack 14 = .ok (.ireturn, 1) := by decide +kernel
theorem dL_attack_15 : decode cL_attack 15 = .ok (.astore_n 3, 1) := by decide +kernel
theorem dL_attack_16 : decode cL_attack 16 = .ok (.iconst 2, 1) := by decide +kernel
theorem dL_attack_17 : decode cL_attack 17 = .ok (.ireturn, 1) := by decide +kernel
theorem dL_attack_18 : decode cL_attack 18 = .ok (.iconst 0, 1) := by decide +kernel
theorem dL_attack_19 : decode cL_attack 19 = .ok (.ireturn, 1) := by decide +kernel
theorem dL_rest_0 : decode cL_rest 0 = .ok (.aload_n 1, 1) := by decide +kernel
theorem dL_rest_1 : decode cL_rest 1 = .ok (.iconst 0, 1) := by decide +kernel
theorem dL_rest_2 : decode cL_rest 2 = .ok (.aload_n 0, 1) := by decide +kernel
theorem dL_rest_3 : decode cL_rest 3 = .ok (.invokevirtual 79, 3) := by decide +kernel
theorem dL_rest_6 : decode cL_rest 6 = .ok (.i2l, 1) := by decide +kernel
theorem dL_rest_7 : decode cL_rest 7 = .ok (.lastore, 1) := by decide +kernel
theorem dL_rest_8 : decode cL_rest 8 = .ok (.goto 6, 3) := by decide +kernel
theorem dL_rest_11 : decode cL_rest 11 = .ok (.astore_n 2, 1) := by decide +kernel
theorem dL_rest_12 : decode cL_rest 12 = .ok (.iconst 1, 1) := by decide +kernel
theorem dL_rest_13 : decode cL_rest 13 = .ok (.ireturn, 1) := by decide +kernel
theorem dL_rest_14 : decode cL_rest 14 = .ok (.iconst 0, 1) := by decide +kernel
theorem dL_rest_15 : decode cL_rest 15 = .ok (.ireturn, 1) := by decide +kernel
theorem dL_readyAt_0 : decode cL_readyAt 0 = .ok (.aload_n 2, 1) := by decide +kernel
theorem dL_readyAt_1 : decode cL_readyAt 1 = .ok (.iconst 0, 1) := by decide +kernel
theorem dL_readyAt_2 : decode cL_readyAt 2 = .ok (.aload_n 0, 1) := by decide +kernel
theorem dL_readyAt_3 : decode cL_readyAt 3 = .ok (.iload_n 1, 1) := by decide +kernel
theorem dL_readyAt_4 : decode cL_readyAt 4 = .ok (.invokevirtual 83, 3) := by decide +kernel
theorem dL_readyAt_7 : decode cL_readyAt 7 = .ok (.i2l, 1) := by decide +kernel
theorem dL_readyAt_8 : decode cL_readyAt 8 = .ok (.lastore, 1) := by decide +kernel
theorem dL_readyAt_9 : decode cL_readyAt 9 = .ok (.goto 6, 3) := by decide +kernel
theorem dL_readyAt_12 : decode cL_readyAt 12 = .ok (.astore_n 3, 1) := by decide +kernel
theorem dL_readyAt_13 : decode cL_readyAt 13 = .ok (.iconst 1, 1) := by decide +kernel
theorem dL_readyAt_14 : decode cL_readyAt 14 = .ok (.ireturn, 1) := by decide +kernel
theorem dL_readyAt_15 : decode cL_readyAt 15 = .ok (.iconst 0, 1) := by decide +kernel
theorem dL_readyAt_16 : decode cL_readyAt 16 = .ok (.ireturn, 1) := by decide +kernel
theorem dL_roomOf_0 : decode cL_roomOf 0 = .ok (.aload_n 2, 1) := by decide +kernel
theorem dL_roomOf_1 : decode cL_roomOf 1 = .ok (.iconst 0, 1) := by decide +kernel
theorem dL_roomOf_2 : decode cL_roomOf 2 = .ok (.aload_n 0, 1) := by decide +kernel
theorem dL_roomOf_3 : decode cL_roomOf 3 = .ok (.iload_n 1, 1) := by decide +kernel
theorem dL_roomOf_4 : decode cL_roomOf 4 = .ok (.invokevirtual 86, 3) := by decide +kernel
theorem dL_roomOf_7 : decode cL_roomOf 7 = .ok (.i2l, 1) := by decide +kernel
theorem dL_roomOf_8 : decode cL_roomOf 8 = .ok (.lastore, 1) := by decide +kernel
theorem dL_roomOf_9 : decode cL_roomOf 9 = .ok (.goto 6, 3) := by decide +kernel
theorem dL_roomOf_12 : decode cL_roomOf 12 = .ok (.astore_n 3, 1) := by decide +kernel
theorem dL_roomOf_13 : decode cL_roomOf 13 = .ok (.iconst 1, 1) := by decide +kernel
theorem dL_roomOf_14 : decode cL_roomOf 14 = .ok (.ireturn, 1) := by decide +kernel
theorem dL_roomOf_15 : decode cL_roomOf 15 = .ok (.iconst 0, 1) := by decide +kernel
theorem dL_roomOf_16 : decode cL_roomOf 16 = .ok (.ireturn, 1) := by decide +kernel
theorem dL_coinsOf_0 : decode cL_coinsOf 0 = .ok (.aload_n 2, 1) := by decide +kernel
theorem dL_coinsOf_1 : decode cL_coinsOf 1 = .ok (.iconst 0, 1) := by decide +kernel
theorem dL_coinsOf_2 : decode cL_coinsOf 2 = .ok (.aload_n 0, 1) := by decide +kernel
theorem dL_coinsOf_3 : decode cL_coinsOf 3 = .ok (.iload_n 1, 1) := by decide +kernel
theorem dL_coinsOf_4 : decode cL_coinsOf 4 = .ok (.invokevirtual 89, 3) := by decide +kernel
theorem dL_coinsOf_7 : decode cL_coinsOf 7 = .ok (.i2l, 1) := by decide +kernel
theorem dL_coinsOf_8 : decode cL_coinsOf 8 = .ok (.lastore, 1) := by decide +kernel
theorem dL_coinsOf_9 : decode cL_coinsOf 9 = .ok (.goto 6, 3) := by decide +kernel
theorem dL_coinsOf_12 : decode cL_coinsOf 12 = .ok (.astore_n 3, 1) := by decide +kernel
theorem dL_coinsOf_13 : decode cL_coinsOf 13 = .ok (.iconst 1, 1) := by decide +kernel
theorem dL_coinsOf_14 : decode cL_coinsOf 14 = .ok (.ireturn, 1) := by decide +kernel
theorem dL_coinsOf_15 : decode cL_coinsOf 15 = .ok (.iconst 0, 1) := by decide +kernel
theorem dL_coinsOf_16 : decode cL_coinsOf 16 = .ok (.ireturn, 1) := by decide +kernel
theorem dL_healthOf_0 : decode cL_healthOf 0 = .ok (.aload_n 2, 1) := by decide +kernel
theorem dL_healthOf_1 : decode cL_healthOf 1 = .ok (.iconst 0, 1) := by decide +kernel
theorem dL_healthOf_2 : decode cL_healthOf 2 = .ok (.aload_n 0, 1) := by decide +kernel
theorem dL_healthOf_3 : decode cL_healthOf 3 = .ok (.iload_n 1, 1) := by decide +kernel
theorem dL_healthOf_4 : decode cL_healthOf 4 = .ok (.invokevirtual 92, 3) := by decide +kernel
theorem dL_healthOf_7 : decode cL_healthOf 7 = .ok (.i2l, 1) := by decide +kernel
theorem dL_healthOf_8 : decode cL_healthOf 8 = .ok (.lastore, 1) := by decide +kernel
theorem dL_healthOf_9 : decode cL_healthOf 9 = .ok (.goto 6, 3) := by decide +kernel
theorem dL_healthOf_12 : decode cL_healthOf 12 = .ok (.astore_n 3, 1) := by decide +kernel
theorem dL_healthOf_13 : decode cL_healthOf 13 = .ok (.iconst 1, 1) := by decide +kernel
theorem dL_healthOf_14 : decode cL_healthOf 14 = .ok (.ireturn, 1) := by decide +kernel
theorem dL_healthOf_15 : decode cL_healthOf 15 = .ok (.iconst 0, 1) := by decide +kernel
theorem dL_healthOf_16 : decode cL_healthOf 16 = .ok (.ireturn, 1) := by decide +kernel
theorem dL_goodsOf_0 : decode cL_goodsOf 0 = .ok (.aload_n 3, 1) := by decide +kernel
theorem dL_goodsOf_1 : decode cL_goodsOf 1 = .ok (.iconst 0, 1) := by decide +kernel
theorem dL_goodsOf_2 : decode cL_goodsOf 2 = .ok (.aload_n 0, 1) := by decide +kernel
theorem dL_goodsOf_3 : decode cL_goodsOf 3 = .ok (.iload_n 1, 1) := by decide +kernel
theorem dL_goodsOf_4 : decode cL_goodsOf 4 = .ok (.iload_n 2, 1) := by decide +kernel
theorem dL_goodsOf_5 : decode cL_goodsOf 5 = .ok (.invokevirtual 95, 3) := by decide +kernel
theorem dL_goodsOf_8 : decode cL_goodsOf 8 = .ok (.i2l, 1) := by decide +kernel
theorem dL_goodsOf_9 : decode cL_goodsOf 9 = .ok (.lastore, 1) := by decide +kernel
theorem dL_goodsOf_10 : decode cL_goodsOf 10 = .ok (.goto 7, 3) := by decide +kernel
theorem dL_goodsOf_13 : decode cL_goodsOf 13 = .ok (.astore 4, 2) := by decide +kernel
theorem dL_goodsOf_15 : decode cL_goodsOf 15 = .ok (.iconst 1, 1) := by decide +kernel
theorem dL_goodsOf_16 : decode cL_goodsOf 16 = .ok (.ireturn, 1) := by decide +kernel
theorem dL_goodsOf_17 : decode cL_goodsOf 17 = .ok (.iconst 0, 1) := by decide +kernel
theorem dL_goodsOf_18 : decode cL_goodsOf 18 = .ok (.ireturn, 1) := by decide +kernel
theorem dL_heard_0 : decode cL_heard 0 = .ok (.aload_n 3, 1) := by decide +kernel
theorem dL_heard_1 : decode cL_heard 1 = .ok (.iconst 0, 1) := by decide +kernel
theorem dL_heard_2 : decode cL_heard 2 = .ok (.aload_n 0, 1) := by decide +kernel
theorem dL_heard_3 : decode cL_heard 3 = .ok (.iload_n 1, 1) := by decide +kernel
theorem dL_heard_4 : decode cL_heard 4 = .ok (.iload_n 2, 1) := by decide +kernel
theorem dL_heard_5 : decode cL_heard 5 = .ok (.invokevirtual 98, 3) := by decide +kernel
theorem dL_heard_8 : decode cL_heard 8 = .ok (.i2l, 1) := by decide +kernel
theorem dL_heard_9 : decode cL_heard 9 = .ok (.lastore, 1) := by decide +kernel
theorem dL_heard_10 : decode cL_heard 10 = .ok (.goto 7, 3) := by decide +kernel
theorem dL_heard_13 : decode cL_heard 13 = .ok (.astore 4, 2) := by decide +kernel
theorem dL_heard_15 : decode cL_heard 15 = .ok (.iconst 1, 1) := by decide +kernel
theorem dL_heard_16 : decode cL_heard 16 = .ok (.ireturn, 1) := by decide +kernel
theorem dL_heard_17 : decode cL_heard 17 = .ok (.iconst 0, 1) := by decide +kernel
theorem dL_heard_18 : decode cL_heard 18 = .ok (.ireturn, 1) := by decide +kernel
theorem dL_stageOf_0 : decode cL_stageOf 0 = .ok (.aload_n 3, 1) := by decide +kernel
theorem dL_stageOf_1 : decode cL_stageOf 1 = .ok (.iconst 0, 1) := by decide +kernel
theorem dL_stageOf_2 : decode cL_stageOf 2 = .ok (.aload_n 0, 1) := by decide +kernel
theorem dL_stageOf_3 : decode cL_stageOf 3 = .ok (.iload_n 1, 1) := by decide +kernel
theorem dL_stageOf_4 : decode cL_stageOf 4 = .ok (.iload_n 2, 1) := by decide +kernel
theorem dL_stageOf_5 : decode cL_stageOf 5 = .ok (.invokevirtual 101, 3) := by decide +kernel
theorem dL_stageOf_8 : decode cL_stageOf 8 = .ok (.i2l, 1) := by decide +kernel
theorem dL_stageOf_9 : decode cL_stageOf 9 = .ok (.lastore, 1) := by decide +kernel
theorem dL_stageOf_10 : decode cL_stageOf 10 = .ok (.goto 7, 3) := by decide +kernel
theorem dL_stageOf_13 : decode cL_stageOf 13 = .ok (.astore 4, 2) := by decide +kernel
theorem dL_stageOf_15 : decode cL_stageOf 15 = .ok (.iconst 1, 1) := by decide +kernel
theorem dL_stageOf_16 : decode cL_stageOf 16 = .ok (.ireturn, 1) := by decide +kernel
theorem dL_stageOf_17 : decode cL_stageOf 17 = .ok (.iconst 0, 1) := by decide +kernel
theorem dL_stageOf_18 : decode cL_stageOf 18 = .ok (.ireturn, 1) := by decide +kernel
theorem dL_exit_0 : decode cL_exit 0 = .ok (.aload_n 3, 1) := by decide +kernel
theorem dL_exit_1 : decode cL_exit 1 = .ok (.iconst 0, 1) := by decide +kernel
theorem dL_exit_2 : decode cL_exit 2 = .ok (.aload_n 0, 1) := by decide +kernel
theorem dL_exit_3 : decode cL_exit 3 = .ok (.iload_n 1, 1) := by decide +kernel
theorem dL_exit_4 : decode cL_exit 4 = .ok (.iload_n 2, 1) := by decide +kernel
theorem dL_exit_5 : decode cL_exit 5 = .ok (.invokevirtual 104, 3) := by decide +kernel
theorem dL_exit_8 : decode cL_exit 8 = .ok (.i2l, 1) := by decide +kernel
theorem dL_exit_9 : decode cL_exit 9 = .ok (.lastore, 1) := by decide +kernel
theorem dL_exit_10 : decode cL_exit 10 = .ok (.goto 7, 3) := by decide +kernel
theorem dL_exit_13 : decode cL_exit 13 = .ok (.astore 4, 2) := by decide +kernel
theorem dL_exit_15 : decode cL_exit 15 = .ok (.iconst 1, 1) := by decide +kernel
theorem dL_exit_16 : decode cL_exit 16 = .ok (.ireturn, 1) := by decide +kernel
theorem dL_exit_17 : decode cL_exit 17 = .ok (.iconst 0, 1) := by decide +kernel
theorem dL_exit_18 : decode cL_exit 18 = .ok (.ireturn, 1) := by decide +kernel
theorem dL_distance_0 : decode cL_distance 0 = .ok (.aload_n 3, 1) := by decide +kernel
theorem dL_distance_1 : decode cL_distance 1 = .ok (.iconst 0, 1) := by decide +kernel
theorem dL_distance_2 : decode cL_distance 2 = .ok (.aload_n 0, 1) := by decide +kernel
theorem dL_distance_3 : decode cL_distance 3 = .ok (.iload_n 1, 1) := by decide +kernel
theorem dL_distance_4 : decode cL_distance 4 = .ok (.iload_n 2, 1) := by decide +kernel
theorem dL_distance_5 : decode cL_distance 5 = .ok (.invokevirtual 107, 3) := by decide +kernel
theorem dL_distance_8 : decode cL_distance 8 = .ok (.i2l, 1) := by decide +kernel
theorem dL_distance_9 : decode cL_distance 9 = .ok (.lastore, 1) := by decide +kernel
theorem dL_distance_10 : decode cL_distance 10 = .ok (.goto 7, 3) := by decide +kernel
theorem dL_distance_13 : decode cL_distance 13 = .ok (.astore 4, 2) := by decide +kernel
theorem dL_distance_15 : decode cL_distance 15 = .ok (.iconst 1, 1) := by decide +kernel
theorem dL_distance_16 : decode cL_distance 16 = .ok (.ireturn, 1) := by decide +kernel
theorem dL_distance_17 : decode cL_distance 17 = .ok (.iconst 0, 1) := by decide +kernel
theorem dL_distance_18 : decode cL_distance 18 = .ok (.ireturn, 1) := by decide +kernel
theorem dL_onFloor_0 : decode cL_onFloor 0 = .ok (.aload_n 3, 1) := by decide +kernel
theorem dL_onFloor_1 : decode cL_onFloor 1 = .ok (.iconst 0, 1) := by decide +kernel
theorem dL_onFloor_2 : decode cL_onFloor 2 = .ok (.aload_n 0, 1) := by decide +kernel
theorem dL_onFloor_3 : decode cL_onFloor 3 = .ok (.iload_n 1, 1) := by decide +kernel
theorem dL_onFloor_4 : decode cL_onFloor 4 = .ok (.iload_n 2, 1) := by decide +kernel
theorem dL_onFloor_5 : decode cL_onFloor 5 = .ok (.invokevirtual 110, 3) := by decide +kernel
theorem dL_onFloor_8 : decode cL_onFloor 8 = .ok (.i2l, 1) := by decide +kernel
theorem dL_onFloor_9 : decode cL_onFloor 9 = .ok (.lastore, 1) := by decide +kernel
theorem dL_onFloor_10 : decode cL_onFloor 10 = .ok (.goto 7, 3) := by decide +kernel
theorem dL_onFloor_13 : decode cL_onFloor 13 = .ok (.astore 4, 2) := by decide +kernel
theorem dL_onFloor_15 : decode cL_onFloor 15 = .ok (.iconst 1, 1) := by decide +kernel
theorem dL_onFloor_16 : decode cL_onFloor 16 = .ok (.ireturn, 1) := by decide +kernel
theorem dL_onFloor_17 : decode cL_onFloor 17 = .ok (.iconst 0, 1) := by decide +kernel
theorem dL_onFloor_18 : decode cL_onFloor 18 = .ok (.ireturn, 1) := by decide +kernel
theorem dL_stockOf_0 : decode cL_stockOf 0 = .ok (.aload_n 3, 1) := by decide +kernel
theorem dL_stockOf_1 : decode cL_stockOf 1 = .ok (.iconst 0, 1) := by decide +kernel
theorem dL_stockOf_2 : decode cL_stockOf 2 = .ok (.aload_n 0, 1) := by decide +kernel
theorem dL_stockOf_3 : decode cL_stockOf 3 = .ok (.iload_n 1, 1) := by decide +kernel
theorem dL_stockOf_4 : decode cL_stockOf 4 = .ok (.iload_n 2, 1) := by decide +kernel
theorem dL_stockOf_5 : decode cL_stockOf 5 = .ok (.invokevirtual 113, 3) := by decide +kernel
theorem dL_stockOf_8 : decode cL_stockOf 8 = .ok (.i2l, 1) := by decide +kernel
theorem dL_stockOf_9 : decode cL_stockOf 9 = .ok (.lastore, 1) := by decide +kernel
theorem dL_stockOf_10 : decode cL_stockOf 10 = .ok (.goto 7, 3) := by decide +kernel
theorem dL_stockOf_13 : decode cL_stockOf 13 = .ok (.astore 4, 2) := by decide +kernel
theorem dL_stockOf_15 : decode cL_stockOf 15 = .ok (.iconst 1, 1) := by decide +kernel
theorem dL_stockOf_16 : decode cL_stockOf 16 = .ok (.ireturn, 1) := by decide +kernel
theorem dL_stockOf_17 : decode cL_stockOf 17 = .ok (.iconst 0, 1) := by decide +kernel
theorem dL_stockOf_18 : decode cL_stockOf 18 = .ok (.ireturn, 1) := by decide +kernel
theorem dL_tillOf_0 : decode cL_tillOf 0 = .ok (.aload_n 2, 1) := by decide +kernel
theorem dL_tillOf_1 : decode cL_tillOf 1 = .ok (.iconst 0, 1) := by decide +kernel
theorem dL_tillOf_2 : decode cL_tillOf 2 = .ok (.aload_n 0, 1) := by decide +kernel
theorem dL_tillOf_3 : decode cL_tillOf 3 = .ok (.iload_n 1, 1) := by decide +kernel
theorem dL_tillOf_4 : decode cL_tillOf 4 = .ok (.invokevirtual 116, 3) := by decide +kernel
theorem dL_tillOf_7 : decode cL_tillOf 7 = .ok (.i2l, 1) := by decide +kernel
theorem dL_tillOf_8 : decode cL_tillOf 8 = .ok (.lastore, 1) := by decide +kernel
theorem dL_tillOf_9 : decode cL_tillOf 9 = .ok (.goto 6, 3) := by decide +kernel
theorem dL_tillOf_12 : decode cL_tillOf 12 = .ok (.astore_n 3, 1) := by decide +kernel
theorem dL_tillOf_13 : decode cL_tillOf 13 = .ok (.iconst 1, 1) := by decide +kernel
theorem dL_tillOf_14 : decode cL_tillOf 14 = .ok (.ireturn, 1) := by decide +kernel
theorem dL_tillOf_15 : decode cL_tillOf 15 = .ok (.iconst 0, 1) := by decide +kernel
theorem dL_tillOf_16 : decode cL_tillOf 16 = .ok (.ireturn, 1) := by decide +kernel
theorem dL_allGoods_0 : decode cL_allGoods 0 = .ok (.aload_n 2, 1) := by decide +kernel
theorem dL_allGoods_1 : decode cL_allGoods 1 = .ok (.iconst 0, 1) := by decide +kernel
theorem dL_allGoods_2 : decode cL_allGoods 2 = .ok (.aload_n 0, 1) := by decide +kernel
theorem dL_allGoods_3 : decode cL_allGoods 3 = .ok (.iload_n 1, 1) := by decide +kernel
theorem dL_allGoods_4 : decode cL_allGoods 4 = .ok (.invokevirtual 119, 3) := by decide +kernel
theorem dL_allGoods_7 : decode cL_allGoods 7 = .ok (.i2l, 1) := by decide +kernel
theorem dL_allGoods_8 : decode cL_allGoods 8 = .ok (.lastore, 1) := by decide +kernel
theorem dL_allGoods_9 : decode cL_allGoods 9 = .ok (.goto 6, 3) := by decide +kernel
theorem dL_allGoods_12 : decode cL_allGoods 12 = .ok (.astore_n 3, 1) := by decide +kernel
theorem dL_allGoods_13 : decode cL_allGoods 13 = .ok (.iconst 1, 1) := by decide +kernel
theorem dL_allGoods_14 : decode cL_allGoods 14 = .ok (.ireturn, 1) := by decide +kernel
theorem dL_allGoods_15 : decode cL_allGoods 15 = .ok (.iconst 0, 1) := by decide +kernel
theorem dL_allGoods_16 : decode cL_allGoods 16 = .ok (.ireturn, 1) := by decide +kernel
theorem dL_roomAfter_0 : decode cL_roomAfter 0 = .ok (.aload_n 3, 1) := by decide +kernel
theorem dL_roomAfter_1 : decode cL_roomAfter 1 = .ok (.iconst 0, 1) := by decide +kernel
theorem dL_roomAfter_2 : decode cL_roomAfter 2 = .ok (.aload_n 0, 1) := by decide +kernel
theorem dL_roomAfter_3 : decode cL_roomAfter 3 = .ok (.iload_n 1, 1) := by decide +kernel
theorem dL_roomAfter_4 : decode cL_roomAfter 4 = .ok (.iload_n 2, 1) := by decide +kernel
theorem dL_roomAfter_5 : decode cL_roomAfter 5 = .ok (.invokevirtual 122, 3) := by decide +kernel
theorem dL_roomAfter_8 : decode cL_roomAfter 8 = .ok (.i2l, 1) := by decide +kernel
theorem dL_roomAfter_9 : decode cL_roomAfter 9 = .ok (.lastore, 1) := by decide +kernel
theorem dL_roomAfter_10 : decode cL_roomAfter 10 = .ok (.goto 7, 3) := by decide +kernel
theorem dL_roomAfter_13 : decode cL_roomAfter 13 = .ok (.astore 4, 2) := by decide +kernel
theorem dL_roomAfter_15 : decode cL_roomAfter 15 = .ok (.iconst 1, 1) := by decide +kernel
theorem dL_roomAfter_16 : decode cL_roomAfter 16 = .ok (.ireturn, 1) := by decide +kernel
theorem dL_roomAfter_17 : decode cL_roomAfter 17 = .ok (.iconst 0, 1) := by decide +kernel
theorem dL_roomAfter_18 : decode cL_roomAfter 18 = .ok (.ireturn, 1) := by decide +kernel
theorem dL_coinsAfter_0 : decode cL_coinsAfter 0 = .ok (.aload_n 3, 1) := by decide +kernel
theorem dL_coinsAfter_1 : decode cL_coinsAfter 1 = .ok (.iconst 0, 1) := by decide +kernel
theorem dL_coinsAfter_2 : decode cL_coinsAfter 2 = .ok (.aload_n 0, 1) := by decide +kernel
theorem dL_coinsAfter_3 : decode cL_coinsAfter 3 = .ok (.iload_n 1, 1) := by decide +kernel
theorem dL_coinsAfter_4 : decode cL_coinsAfter 4 = .ok (.iload_n 2, 1) := by decide +kernel
theorem dL_coinsAfter_5 : decode cL_coinsAfter 5 = .ok (.invokevirtual 125, 3) := by decide +kernel
theorem dL_coinsAfter_8 : decode cL_coinsAfter 8 = .ok (.i2l, 1) := by decide +kernel
theorem dL_coinsAfter_9 : decode cL_coinsAfter 9 = .ok (.lastore, 1) := by decide +kernel
theorem dL_coinsAfter_10 : decode cL_coinsAfter 10 = .ok (.goto 7, 3) := by decide +kernel
theorem dL_coinsAfter_13 : decode cL_coinsAfter 13 = .ok (.astore 4, 2) := by decide +kernel
theorem dL_coinsAfter_15 : decode cL_coinsAfter 15 = .ok (.iconst 1, 1) := by decide +kernel
theorem dL_coinsAfter_16 : decode cL_coinsAfter 16 = .ok (.ireturn, 1) := by decide +kernel
theorem dL_coinsAfter_17 : decode cL_coinsAfter 17 = .ok (.iconst 0, 1) := by decide +kernel
theorem dL_coinsAfter_18 : decode cL_coinsAfter 18 = .ok (.ireturn, 1) := by decide +kernel
theorem dL_turnAfter_0 : decode cL_turnAfter 0 = .ok (.aload_n 2, 1) := by decide +kernel
theorem dL_turnAfter_1 : decode cL_turnAfter 1 = .ok (.iconst 0, 1) := by decide +kernel
theorem dL_turnAfter_2 : decode cL_turnAfter 2 = .ok (.aload_n 0, 1) := by decide +kernel
theorem dL_turnAfter_3 : decode cL_turnAfter 3 = .ok (.iload_n 1, 1) := by decide +kernel
theorem dL_turnAfter_4 : decode cL_turnAfter 4 = .ok (.invokevirtual 128, 3) := by decide +kernel
theorem dL_turnAfter_7 : decode cL_turnAfter 7 = .ok (.i2l, 1) := by decide +kernel
theorem dL_turnAfter_8 : decode cL_turnAfter 8 = .ok (.lastore, 1) := by decide +kernel
theorem dL_turnAfter_9 : decode cL_turnAfter 9 = .ok (.goto 6, 3) := by decide +kernel
theorem dL_turnAfter_12 : decode cL_turnAfter 12 = .ok (.astore_n 3, 1) := by decide +kernel
theorem dL_turnAfter_13 : decode cL_turnAfter 13 = .ok (.iconst 1, 1) := by decide +kernel
theorem dL_turnAfter_14 : decode cL_turnAfter 14 = .ok (.ireturn, 1) := by decide +kernel
theorem dL_turnAfter_15 : decode cL_turnAfter 15 = .ok (.iconst 0, 1) := by decide +kernel
theorem dL_turnAfter_16 : decode cL_turnAfter 16 = .ok (.ireturn, 1) := by decide +kernel
theorem dL_law_0 : decode cL_law 0 = .ok (.new 8, 3) := by decide +kernel
theorem dL_law_3 : decode cL_law 3 = .ok (.dup, 1) := by decide +kernel
theorem dL_law_4 : decode cL_law 4 = .ok (.invokespecial 131, 3) := by decide +kernel
theorem dL_law_7 : decode cL_law 7 = .ok (.astore_n 1, 1) := by decide +kernel
theorem dL_law_8 : decode cL_law 8 = .ok (.new 132, 3) := by decide +kernel
theorem dL_law_11 : decode cL_law 11 = .ok (.dup, 1) := by decide +kernel
theorem dL_law_12 : decode cL_law 12 = .ok (.invokespecial 134, 3) := by decide +kernel
theorem dL_law_15 : decode cL_law 15 = .ok (.astore_n 2, 1) := by decide +kernel
theorem dL_law_16 : decode cL_law 16 = .ok (.iconst 1, 1) := by decide +kernel
theorem dL_law_17 : decode cL_law 17 = .ok (.newarray .long, 2) := by decide +kernel
theorem dL_law_19 : decode cL_law 19 = .ok (.astore_n 3, 1) := by decide +kernel
theorem dL_law_20 : decode cL_law 20 = .ok (.iconst 0, 1) := by decide +kernel
theorem dL_law_21 : decode cL_law 21 = .ok (.istore 4, 2) := by decide +kernel
theorem dL_law_23 : decode cL_law 23 = .ok (.iload 4, 2) := by decide +kernel
theorem dL_law_25 : decode cL_law 25 = .ok (.aload_n 0, 1) := by decide +kernel
theorem dL_law_26 : decode cL_law 26 = .ok (.arraylength, 1) := by decide +kernel
theorem dL_law_27 : decode cL_law 27 = .ok (.iconst 5, 1) := by decide +kernel
theorem dL_law_28 : decode cL_law 28 = .ok (.isub, 1) := by decide +kernel
theorem dL_law_29 : decode cL_law 29 = .ok (.if_icmp .gt 2473, 3) := by decide +kernel
theorem dL_law_32 : decode cL_law 32 = .ok (.aload_n 0, 1) := by decide +kernel
theorem dL_law_33 : decode cL_law 33 = .ok (.iload 4, 2) := by decide +kernel
theorem dL_law_35 : decode cL_law 35 = .ok (.iaload, 1) := by decide +kernel
theorem dL_law_36 : decode cL_law 36 = .ok (.bipush 63, 2) := by decide +kernel
theorem dL_law_38 : decode cL_law 38 = .ok (.iand, 1) := by decide +kernel
theorem dL_law_39 : decode cL_law 39 = .ok (.tableswitch 2457 0 39 #[173, 233, 281, 373, 453, 533, 589, 681, 737, 773, 829, 885, 941, 997, 1053, 1121, 1189, 1245, 1301, 1357, 1401, 1414, 1470, 1526, 1582, 1638, 1706, 1774, 1842, 1910, 1978, 2046, 2114, 2170, 2183, 2196, 2252, 2265, 2333, 2401], 173) := by decide +kernel
theorem dL_law_212 : decode cL_law 212 = .ok (.aload_n 1, 1) := by decide +kernel
theorem dL_law_213 : decode cL_law 213 = .ok (.aload_n 0, 1) := by decide +kernel
theorem dL_law_214 : decode cL_law 214 = .ok (.iload 4, 2) := by decide +kernel
theorem dL_law_216 : decode cL_law 216 = .ok (.iconst 1, 1) := by decide +kernel
theorem dL_law_217 : decode cL_law 217 = .ok (.iadd, 1) := by decide +kernel
theorem dL_law_218 : decode cL_law 218 = .ok (.iaload, 1) := by decide +kernel
theorem dL_law_219 : decode cL_law 219 = .ok (.aload_n 0, 1) := by decide +kernel
theorem dL_law_220 : decode cL_law 220 = .ok (.iload 4, 2) := by decide +kernel
theorem dL_law_222 : decode cL_law 222 = .ok (.iconst 2, 1) := by decide +kernel
theorem dL_law_223 : decode cL_law 223 = .ok (.iadd, 1) := by decide +kernel
theorem dL_law_224 : decode cL_law 224 = .ok (.iaload, 1) := by decide +kernel
theorem dL_law_225 : decode cL_law 225 = .ok (.aload_n 0, 1) := by decide +kernel
theorem dL_law_226 : decode cL_law 226 = .ok (.iload 4, 2) := by decide +kernel
theorem dL_law_228 : decode cL_law 228 = .ok (.iconst 3, 1) := by decide +kernel
theorem dL_law_229 : decode cL_law 229 = .ok (.iadd, 1) := by decide +kernel
theorem dL_law_230 : decode cL_law 230 = .ok (.iaload, 1) := by decide +kernel
theorem dL_law_231 : decode cL_law 231 = .ok (.invokestatic 135, 3) := by decide +kernel
theorem dL_law_234 : decode cL_law 234 = .ok (.istore 5, 2) := by decide +kernel
theorem dL_law_236 : decode cL_law 236 = .ok (.aload_n 2, 1) := by decide +kernel
theorem dL_law_237 : decode cL_law 237 = .ok (.aload_n 0, 1) := by decide +kernel
theorem dL_law_238 : decode cL_law 238 = .ok (.iload 4, 2) := by decide +kernel
theorem dL_law_240 : decode cL_law 240 = .ok (.iconst 1, 1) := by decide +kernel
theorem dL_law_241 : decode cL_law 241 = .ok (.iadd, 1) := by decide +kernel
theorem dL_law_242 : decode cL_law 242 = .ok (.iaload, 1) := by decide +kernel
theorem dL_law_243 : decode cL_law 243 = .ok (.aload_n 0, 1) := by decide +kernel
theorem dL_law_244 : decode cL_law 244 = .ok (.iload 4, 2) := by decide +kernel
theorem dL_law_246 : decode cL_law 246 = .ok (.iconst 2, 1) := by decide +kernel
theorem dL_law_247 : decode cL_law 247 = .ok (.iadd, 1) := by decide +kernel
theorem dL_law_248 : decode cL_law 248 = .ok (.iaload, 1) := by decide +kernel
theorem dL_law_249 : decode cL_law 249 = .ok (.aload_n 0, 1) := by decide +kernel
theorem dL_law_250 : decode cL_law 250 = .ok (.iload 4, 2) := by decide +kernel
theorem dL_law_252 : decode cL_law 252 = .ok (.iconst 3, 1) := by decide +kernel
theorem dL_law_253 : decode cL_law 253 = .ok (.iadd, 1) := by decide +kernel
theorem dL_law_254 : decode cL_law 254 = .ok (.iaload, 1) := by decide +kernel
theorem dL_law_255 : decode cL_law 255 = .ok (.invokevirtual 140, 3) := by decide +kernel
theorem dL_law_258 : decode cL_law 258 = .ok (.aload_n 2, 1) := by decide +kernel
theorem dL_law_259 : decode cL_law 259 = .ok (.invokevirtual 141, 3) := by decide +kernel
theorem dL_law_262 : decode cL_law 262 = .ok (.iload 5, 2) := by decide +kernel
theorem dL_law_264 : decode cL_law 264 = .ok (.if_icmp .eq 5, 3) := by decide +kernel
theorem dL_law_267 : decode cL_law 267 = .ok (.iconst 0, 1) := by decide +kernel
theorem dL_law_268 : decode cL_law 268 = .ok (.ireturn, 1) := by decide +kernel
theorem dL_law_269 : decode cL_law 269 = .ok (.goto 2227, 3) := by decide +kernel
theorem dL_law_272 : decode cL_law 272 = .ok (.aload_n 1, 1) := by decide +kernel
theorem dL_law_273 : decode cL_law 273 = .ok (.aload_n 0, 1) := by decide +kernel
theorem dL_law_274 : decode cL_law 274 = .ok (.iload 4, 2) := by decide +kernel
theorem dL_law_276 : decode cL_law 276 = .ok (.iconst 1, 1) := by decide +kernel
theorem dL_law_277 : decode cL_law 277 = .ok (.iadd, 1) := by decide +kernel
theorem dL_law_278 : decode cL_law 278 = .ok (.iaload, 1) := by decide +kernel
theorem dL_law_279 : decode cL_law 279 = .ok (.aload_n 0, 1) := by decide +kernel
theorem dL_law_280 : decode cL_law 280 = .ok (.iload 4, 2) := by decide +kernel
theorem dL_law_282 : decode cL_law 282 = .ok (.iconst 2, 1) := by decide +kernel
theorem dL_law_283 : decode cL_law 283 = .ok (.iadd, 1) := by decide +kernel
theorem dL_law_284 : decode cL_law 284 = .ok (.iaload, 1) := by decide +kernel
theorem dL_law_285 : decode cL_law 285 = .ok (.invokestatic 144, 3) := by decide +kernel
theorem dL_law_288 : decode cL_law 288 = .ok (.istore 5, 2) := by decide +kernel
theorem dL_law_290 : decode cL_law 290 = .ok (.aload_n 2, 1) := by decide +kernel
theorem dL_law_291 : decode cL_law 291 = .ok (.aload_n 0, 1) := by decide +kernel
theorem dL_law_292 : decode cL_law 292 = .ok (.iload 4, 2) := by decide +kernel
theorem dL_law_294 : decode cL_law 294 = .ok (.iconst 1, 1) := by decide +kernel
theorem dL_law_295 : decode cL_law 295 = .ok (.iadd, 1) := by decide +kernel
theorem dL_law_296 : decode cL_law 296 = .ok (.iaload, 1) := by decide +kernel
theorem dL_law_297 : decode cL_law 297 = .ok (.aload_n 0, 1) := by decide +kernel
theorem dL_law_298 : decode cL_law 298 = .ok (.iload 4, 2) := by decide +kernel
theorem dL_law_300 : decode cL_law 300 = .ok (.iconst 2, 1) := by decide +kernel
theorem dL_law_301 : decode cL_law 301 = .ok (.iadd, 1) := by decide +kernel
theorem dL_law_302 : decode cL_law 302 = .ok (.iaload, 1) := by decide +kernel
theorem dL_law_303 : decode cL_law 303 = .ok (.invokevirtual 147, 3) := by decide +kernel
theorem dL_law_306 : decode cL_law 306 = .ok (.aload_n 2, 1) := by decide +kernel
theorem dL_law_307 : decode cL_law 307 = .ok (.invokevirtual 141, 3) := by decide +kernel
theorem dL_law_310 : decode cL_law 310 = .ok (.iload 5, 2) := by decide +kernel
theorem dL_law_312 : decode cL_law 312 = .ok (.if_icmp .eq 5, 3) := by decide +kernel
theorem dL_law_315 : decode cL_law 315 = .ok (.iconst 0, 1) := by decide +kernel
theorem dL_law_316 : decode cL_law 316 = .ok (.ireturn, 1) := by decide +kernel
theorem dL_law_317 : decode cL_law 317 = .ok (.goto 2179, 3) := by decide +kernel
theorem dL_law_320 : decode cL_law 320 = .ok (.aload_n 1, 1) := by decide +kernel
theorem dL_law_321 : decode cL_law 321 = .ok (.aload_n 0, 1) := by decide +kernel
theorem dL_law_322 : decode cL_law 322 = .ok (.iload 4, 2) := by decide +kernel
theorem dL_law_324 : decode cL_law 324 = .ok (.iconst 1, 1) := by decide +kernel
theorem dL_law_325 : decode cL_law 325 = .ok (.iadd, 1) := by decide +kernel
theorem dL_law_326 : decode cL_law 326 = .ok (.iaload, 1) := by decide +kernel
theorem dL_law_327 : decode cL_law 327 = .ok (.aload_n 0, 1) := by decide +kernel
theorem dL_law_328 : decode cL_law 328 = .ok (.iload 4, 2) := by decide +kernel
theorem dL_law_330 : decode cL_law 330 = .ok (.iconst 2, 1) := by decide +kernel
theorem dL_law_331 : decode cL_law 331 = .ok (.iadd, 1) := by decide +kernel
theorem dL_law_332 : decode cL_law 332 = .ok (.iaload, 1) := by decide +kernel
theorem dL_law_333 : decode cL_law 333 = .ok (.aload_n 0, 1) := by decide +kernel
theorem dL_law_334 : decode cL_law 334 = .ok (.iload 4, 2) := by decide +kernel
theorem dL_law_336 : decode cL_law 336 = .ok (.iconst 3, 1) := by decide +kernel
theorem dL_law_337 : decode cL_law 337 = .ok (.iadd, 1) := by decide +kernel
theorem dL_law_338 : decode cL_law 338 = .ok (.iaload, 1) := by decide +kernel
theorem dL_law_339 : decode cL_law 339 = .ok (.aload_n 0, 1) := by decide +kernel
theorem dL_law_340 : decode cL_law 340 = .ok (.iload 4, 2) := by decide +kernel
theorem dL_law_342 : decode cL_law 342 = .ok (.iconst 4, 1) := by decide +kernel
theorem dL_law_343 : decode cL_law 343 = .ok (.iadd, 1) := by decide +kernel
theorem dL_law_344 : decode cL_law 344 = .ok (.iaload, 1) := by decide +kernel
theorem dL_law_345 : decode cL_law 345 = .ok (.aload_n 3, 1) := by decide +kernel
theorem dL_law_346 : decode cL_law 346 = .ok (.invokestatic 148, 3) := by decide +kernel
theorem dL_law_349 : decode cL_law 349 = .ok (.istore 5, 2) := by decide +kernel
theorem dL_law_351 : decode cL_law 351 = .ok (.aload_n 2, 1) := by decide +kernel
theorem dL_law_352 : decode cL_law 352 = .ok (.aload_n 0, 1) := by decide +kernel
theorem dL_law_353 : decode cL_law 353 = .ok (.iload 4, 2) := by decide +kernel
theorem dL_law_355 : decode cL_law 355 = .ok (.iconst 1, 1) := by decide +kernel
theorem dL_law_356 : decode cL_law 356 = .ok (.iadd, 1) := by decide +kernel
theorem dL_law_357 : decode cL_law 357 = .ok (.iaload, 1) := by decide +kernel
theorem dL_law_358 : decode cL_law 358 = .ok (.aload_n 0, 1) := by decide +kernel
theorem dL_law_359 : decode cL_law 359 = .ok (.iload 4, 2) := by decide +kernel
theorem dL_law_361 : decode cL_law 361 = .ok (.iconst 2, 1) := by decide +kernel
theorem dL_law_362 : decode cL_law 362 = .ok (.iadd, 1) := by decide +kernel
theorem dL_law_363 : decode cL_law 363 = .ok (.iaload, 1) := by decide +kernel
theorem dL_law_364 : decode cL_law 364 = .ok (.aload_n 0, 1) := by decide +kernel
theorem dL_law_365 : decode cL_law 365 = .ok (.iload 4, 2) := by decide +kernel
theorem dL_law_367 : decode cL_law 367 = .ok (.iconst 3, 1) := by decide +kernel
theorem dL_law_368 : decode cL_law 368 = .ok (.iadd, 1) := by decide +kernel
theorem dL_law_369 : decode cL_law 369 = .ok (.iaload, 1) := by decide +kernel
theorem dL_law_370 : decode cL_law 370 = .ok (.aload_n 0, 1) := by decide +kernel
theorem dL_law_371 : decode cL_law 371 = .ok (.iload 4, 2) := by decide +kernel
theorem dL_law_373 : decode cL_law 373 = .ok (.iconst 4, 1) := by decide +kernel
theorem dL_law_374 : decode cL_law 374 = .ok (.iadd, 1) := by decide +kernel
theorem dL_law_375 : decode cL_law 375 = .ok (.iaload, 1) := by decide +kernel
theorem dL_law_376 : decode cL_law 376 = .ok (.invokevirtual 151, 3) := by decide +kernel
theorem dL_law_379 : decode cL_law 379 = .ok (.istore 6, 2) := by decide +kernel
theorem dL_law_381 : decode cL_law 381 = .ok (.aload_n 2, 1) := by decide +kernel
theorem dL_law_382 : decode cL_law 382 = .ok (.invokevirtual 141, 3) := by decide +kernel
theorem dL_law_385 : decode cL_law 385 = .ok (.iload 5, 2) := by decide +kernel
theorem dL_law_387 : decode cL_law 387 = .ok (.if_icmp .eq 5, 3) := by decide +kernel
theorem dL_law_390 : decode cL_law 390 = .ok (.iconst 0, 1) := by decide +kernel
theorem dL_law_391 : decode cL_law 391 = .ok (.ireturn, 1) := by decide +kernel
theorem dL_law_392 : decode cL_law 392 = .ok (.iload 5, 2) := by decide +kernel
theorem dL_law_394 : decode cL_law 394 = .ok (.ifCond .ne 15, 3) := by decide +kernel
theorem dL_law_397 : decode cL_law 397 = .ok (.aload_n 3, 1) := by decide +kernel
theorem dL_law_398 : decode cL_law 398 = .ok (.iconst 0, 1) := by decide +kernel
theorem dL_law_399 : decode cL_law 399 = .ok (.laload, 1) := by decide +kernel
theorem dL_law_400 : decode cL_law 400 = .ok (.iload 6, 2) := by decide +kernel
theorem dL_law_402 : decode cL_law 402 = .ok (.i2l, 1) := by decide +kernel
theorem dL_law_403 : decode cL_law 403 = .ok (.lcmp, 1) := by decide +kernel
theorem dL_law_404 : decode cL_law 404 = .ok (.ifCond .eq 5, 3) := by decide +kernel
theorem dL_law_407 : decode cL_law 407 = .ok (.iconst 0, 1) := by decide +kernel
theorem dL_law_408 : decode cL_law 408 = .ok (.ireturn, 1) := by decide +kernel
theorem dL_law_409 : decode cL_law 409 = .ok (.goto 2087, 3) := by decide +kernel
theorem dL_law_412 : decode cL_law 412 = .ok (.aload_n 1, 1) := by decide +kernel
theorem dL_law_413 : decode cL_law 413 = .ok (.aload_n 0, 1) := by decide +kernel
theorem dL_law_414 : decode cL_law 414 = .ok (.iload 4, 2) := by decide +kernel
theorem dL_law_416 : decode cL_law 416 = .ok (.iconst 1, 1) := by decide +kernel
theorem dL_law_417 : decode cL_law 417 = .ok (.iadd, 1) := by decide +kernel
theorem dL_law_418 : decode cL_law 418 = .ok (.iaload, 1) := by decide +kernel
theorem dL_law_419 : decode cL_law 419 = .ok (.aload_n 0, 1) := by decide +kernel
theorem dL_law_420 : decode cL_law 420 = .ok (.iload 4, 2) := by decide +kernel
theorem dL_law_422 : decode cL_law 422 = .ok (.iconst 2, 1) := by decide +kernel
theorem dL_law_423 : decode cL_law 423 = .ok (.iadd, 1) := by decide +kernel
theorem dL_law_424 : decode cL_law 424 = .ok (.iaload, 1) := by decide +kernel
theorem dL_law_425 : decode cL_law 425 = .ok (.aload_n 0, 1) := by decide +kernel
theorem dL_law_426 : decode cL_law 426 = .ok (.iload 4, 2) := by decide +kernel
theorem dL_law_428 : decode cL_law 428 = .ok (.iconst 3, 1) := by decide +kernel
theorem dL_law_429 : decode cL_law 429 = .ok (.iadd, 1) := by decide +kernel
theorem dL_law_430 : decode cL_law 430 = .ok (.iaload, 1) := by decide +kernel
theorem dL_law_431 : decode cL_law 431 = .ok (.aload_n 3, 1) := by decide +kernel
theorem dL_law_432 : decode cL_law 432 = .ok (.invokestatic 152, 3) := by decide +kernel
theorem dL_law_435 : decode cL_law 435 = .ok (.istore 5, 2) := by decide +kernel
theorem dL_law_437 : decode cL_law 437 = .ok (.aload_n 2, 1) := by decide +kernel
theorem dL_law_438 : decode cL_law 438 = .ok (.aload_n 0, 1) := by decide +kernel
theorem dL_law_439 : decode cL_law 439 = .ok (.iload 4, 2) := by decide +kernel
theorem dL_law_441 : decode cL_law 441 = .ok (.iconst 1, 1) := by decide +kernel
theorem dL_law_442 : decode cL_law 442 = .ok (.iadd, 1) := by decide +kernel
theorem dL_law_443 : decode cL_law 443 = .ok (.iaload, 1) := by decide +kernel
theorem dL_law_444 : decode cL_law 444 = .ok (.aload_n 0, 1) := by decide +kernel
theorem dL_law_445 : decode cL_law 445 = .ok (.iload 4, 2) := by decide +kernel
theorem dL_law_447 : decode cL_law 447 = .ok (.iconst 2, 1) := by decide +kernel
theorem dL_law_448 : decode cL_law 448 = .ok (.iadd, 1) := by decide +kernel
theorem dL_law_449 : decode cL_law 449 = .ok (.iaload, 1) := by decide +kernel
theorem dL_law_450 : decode cL_law 450 = .ok (.aload_n 0, 1) := by decide +kernel
theorem dL_law_451 : decode cL_law 451 = .ok (.iload 4, 2) := by decide +kernel
theorem dL_law_453 : decode cL_law 453 = .ok (.iconst 3, 1) := by decide +kernel
theorem dL_law_454 : decode cL_law 454 = .ok (.iadd, 1) := by decide +kernel
theorem dL_law_455 : decode cL_law 455 = .ok (.iaload, 1) := by decide +kernel
theorem dL_law_456 : decode cL_law 456 = .ok (.invokevirtual 155, 3) := by decide +kernel
theorem dL_law_459 : decode cL_law 459 = .ok (.istore 6, 2) := by decide +kernel
theorem dL_law_461 : decode cL_law 461 = .ok (.aload_n 2, 1) := by decide +kernel
theorem dL_law_462 : decode cL_law 462 = .ok (.invokevirtual 141, 3) := by decide +kernel
theorem dL_law_465 : decode cL_law 465 = .ok (.iload 5, 2) := by decide +kernel
theorem dL_law_467 : decode cL_law 467 = .ok (.if_icmp .eq 5, 3) := by decide +kernel
theorem dL_law_470 : decode cL_law 470 = .ok (.iconst 0, 1) := by decide +kernel
theorem dL_law_471 : decode cL_law 471 = .ok (.ireturn, 1) := by decide +kernel
theorem dL_law_472 : decode cL_law 472 = .ok (.iload 5, 2) := by decide +kernel
theorem dL_law_474 : decode cL_law 474 = .ok (.ifCond .ne 15, 3) := by decide +kernel
theorem dL_law_477 : decode cL_law 477 = .ok (.aload_n 3, 1) := by decide +kernel
theorem dL_law_478 : decode cL_law 478 = .ok (.iconst 0, 1) := by decide +kernel
theorem dL_law_479 : decode cL_law 479 = .ok (.laload, 1) := by decide +kernel
theorem dL_law_480 : decode cL_law 480 = .ok (.iload 6, 2) := by decide +kernel
theorem dL_law_482 : decode cL_law 482 = .ok (.i2l, 1) := by decide +kernel
theorem dL_law_483 : decode cL_law 483 = .ok (.lcmp, 1) := by decide +kernel
theorem dL_law_484 : decode cL_law 484 = .ok (.ifCond .eq 5, 3) := by decide +kernel
theorem dL_law_487 : decode cL_law 487 = .ok (.iconst 0, 1) := by decide +kernel
theorem dL_law_488 : decode cL_law 488 = .ok (.ireturn, 1) := by decide +kernel
theorem dL_law_489 : decode cL_law 489 = .ok (.goto 2007, 3) := by decide +kernel
theorem dL_law_492 : decode cL_law 492 = .ok (.aload_n 1, 1) := by decide +kernel
theorem dL_law_493 : decode cL_law 493 = .ok (.aload_n 0, 1) := by decide +kernel
theorem dL_law_494 : decode cL_law 494 = .ok (.iload 4, 2) := by decide +kernel
theorem dL_law_496 : decode cL_law 496 = .ok (.iconst 1, 1) := by decide +kernel
theorem dL_law_497 : decode cL_law 497 = .ok (.iadd, 1) := by decide +kernel
theorem dL_law_498 : decode cL_law 498 = .ok (.iaload, 1) := by decide +kernel
theorem dL_law_499 : decode cL_law 499 = .ok (.aload_n 0, 1) := by decide +kernel
theorem dL_law_500 : decode cL_law 500 = .ok (.iload 4, 2) := by decide +kernel
theorem dL_law_502 : decode cL_law 502 = .ok (.iconst 2, 1) := by decide +kernel
theorem dL_law_503 : decode cL_law 503 = .ok (.iadd, 1) := by decide +kernel
theorem dL_law_504 : decode cL_law 504 = .ok (.iaload, 1) := by decide +kernel
theorem dL_law_505 : decode cL_law 505 = .ok (.aload_n 0, 1) := by decide +kernel
theorem dL_law_506 : decode cL_law 506 = .ok (.iload 4, 2) := by decide +kernel
theorem dL_law_508 : decode cL_law 508 = .ok (.iconst 3, 1) := by decide +kernel
theorem dL_law_509 : decode cL_law 509 = .ok (.iadd, 1) := by decide +kernel
theorem dL_law_510 : decode cL_law 510 = .ok (.iaload, 1) := by decide +kernel
theorem dL_law_511 : decode cL_law 511 = .ok (.aload_n 3, 1) := by decide +kernel
theorem dL_law_512 : decode cL_law 512 = .ok (.invokestatic 156, 3) := by decide +kernel
theorem dL_law_515 : decode cL_law 515 = .ok (.istore 5, 2) := by decide +kernel
theorem dL_law_517 : decode cL_law 517 = .ok (.aload_n 2, 1) := by decide +kernel
theorem dL_law_518 : decode cL_law 518 = .ok (.aload_n 0, 1) := by decide +kernel
theorem dL_law_519 : decode cL_law 519 = .ok (.iload 4, 2) := by decide +kernel
theorem dL_law_521 : decode cL_law 521 = .ok (.iconst 1, 1) := by decide +kernel
theorem dL_law_522 : decode cL_law 522 = .ok (.iadd, 1) := by decide +kernel
theorem dL_law_523 : decode cL_law 523 = .ok (.iaload, 1) := by decide +kernel
theorem dL_law_524 : decode cL_law 524 = .ok (.aload_n 0, 1) := by decide +kernel
theorem dL_law_525 : decode cL_law 525 = .ok (.iload 4, 2) := by decide +kernel
theorem dL_law_527 : decode cL_law 527 = .ok (.iconst 2, 1) := by decide +kernel
theorem dL_law_528 : decode cL_law 528 = .ok (.iadd, 1) := by decide +kernel
theorem dL_law_529 : decode cL_law 529 = .ok (.iaload, 1) := by decide +kernel
theorem dL_law_530 : decode cL_law 530 = .ok (.aload_n 0, 1) := by decide +kernel
theorem dL_law_531 : decode cL_law 531 = .ok (.iload 4, 2) := by decide +kernel
theorem dL_law_533 : decode cL_law 533 = .ok (.iconst 3, 1) := by decide +kernel
theorem dL_law_534 : decode cL_law 534 = .ok (.iadd, 1) := by decide +kernel
theorem dL_law_535 : decode cL_law 535 = .ok (.iaload, 1) := by decide +kernel
theorem dL_law_536 : decode cL_law 536 = .ok (.invokevirtual 158, 3) := by decide +kernel
theorem dL_law_539 : decode cL_law 539 = .ok (.istore 6, 2) := by decide +kernel
theorem dL_law_541 : decode cL_law 541 = .ok (.aload_n 2, 1) := by decide +kernel
theorem dL_law_542 : decode cL_law 542 = .ok (.invokevirtual 141, 3) := by decide +kernel
theorem dL_law_545 : decode cL_law 545 = .ok (.iload 5, 2) := by decide +kernel
theorem dL_law_547 : decode cL_law 547 = .ok (.if_icmp .eq 5, 3) := by decide +kernel
theorem dL_law_550 : decode cL_law 550 = .ok (.iconst 0, 1) := by decide +kernel
theorem dL_law_551 : decode cL_law 551 = .ok (.ireturn, 1) := by decide +kernel
theorem dL_law_552 : decode cL_law 552 = .ok (.iload 5, 2) := by decide +kernel
theorem dL_law_554 : decode cL_law 554 = .ok (.ifCond .ne 15, 3) := by decide +kernel
theorem dL_law_557 : decode cL_law 557 = .ok (.aload_n 3, 1) := by decide +kernel
theorem dL_law_558 : decode cL_law 558 = .ok (.iconst 0, 1) := by decide +kernel
theorem dL_law_559 : decode cL_law 559 = .ok (.laload, 1) := by decide +kernel
theorem dL_law_560 : decode cL_law 560 = .ok (.iload 6, 2) := by decide +kernel
theorem dL_law_562 : decode cL_law 562 = .ok (.i2l, 1) := by decide +kernel
theorem dL_law_563 : decode cL_law 563 = .ok (.lcmp, 1) := by decide +kernel
theorem dL_law_564 : decode cL_law 564 = .ok (.ifCond .eq 5, 3) := by decide +kernel
theorem dL_law_567 : decode cL_law 567 = .ok (.iconst 0, 1) := by decide +kernel
theorem dL_law_568 : decode cL_law 568 = .ok (.ireturn, 1) := by decide +kernel
theorem dL_law_569 : decode cL_law 569 = .ok (.goto 1927, 3) := by decide +kernel
theorem dL_law_572 : decode cL_law 572 = .ok (.aload_n 1, 1) := by decide +kernel
theorem dL_law_573 : decode cL_law 573 = .ok (.aload_n 0, 1) := by decide +kernel
theorem dL_law_574 : decode cL_law 574 = .ok (.iload 4, 2) := by decide +kernel
theorem dL_law_576 : decode cL_law 576 = .ok (.iconst 1, 1) := by decide +kernel
theorem dL_law_577 : decode cL_law 577 = .ok (.iadd, 1) := by decide +kernel
theorem dL_law_578 : decode cL_law 578 = .ok (.iaload, 1) := by decide +kernel
theorem dL_law_579 : decode cL_law 579 = .ok (.aload_n 3, 1) := by decide +kernel
theorem dL_law_580 : decode cL_law 580 = .ok (.invokestatic 159, 3) := by decide +kernel
theorem dL_law_583 : decode cL_law 583 = .ok (.istore 5, 2) := by decide +kernel
theorem dL_law_585 : decode cL_law 585 = .ok (.aload_n 2, 1) := by decide +kernel
theorem dL_law_586 : decode cL_law 586 = .ok (.aload_n 0, 1) := by decide +kernel
theorem dL_law_587 : decode cL_law 587 = .ok (.iload 4, 2) := by decide +kernel
theorem dL_law_589 : decode cL_law 589 = .ok (.iconst 1, 1) := by decide +kernel
theorem dL_law_590 : decode cL_law 590 = .ok (.iadd, 1) := by decide +kernel
theorem dL_law_591 : decode cL_law 591 = .ok (.iaload, 1) := by decide +kernel
theorem dL_law_592 : decode cL_law 592 = .ok (.invokevirtual 162, 3) := by decide +kernel
theorem dL_law_595 : decode cL_law 595 = .ok (.istore 6, 2) := by decide +kernel
theorem dL_law_597 : decode cL_law 597 = .ok (.aload_n 2, 1) := by decide +kernel
theorem dL_law_598 : decode cL_law 598 = .ok (.invokevirtual 141, 3) := by decide +kernel
theorem dL_law_601 : decode cL_law 601 = .ok (.iload 5, 2) := by decide +kernel
theorem dL_law_603 : decode cL_law 603 = .ok (.if_icmp .eq 5, 3) := by decide +kernel
theorem dL_law_606 : decode cL_law 606 = .ok (.iconst 0, 1) := by decide +kernel
theorem dL_law_607 : decode cL_law 607 = .ok (.ireturn, 1) := by decide +kernel
theorem dL_law_608 : decode cL_law 608 = .ok (.iload 5, 2) := by decide +kernel
theorem dL_law_610 : decode cL_law 610 = .ok (.ifCond .ne 15, 3) := by decide +kernel
theorem dL_law_613 : decode cL_law 613 = .ok (.aload_n 3, 1) := by decide +kernel
theorem dL_law_614 : decode cL_law 614 = .ok (.iconst 0, 1) := by decide +kernel
theorem dL_law_615 : decode cL_law 615 = .ok (.laload, 1) := by decide +kernel
theorem dL_law_616 : decode cL_law 616 = .ok (.iload 6, 2) := by decide +kernel
theorem dL_law_618 : decode cL_law 618 = .ok (.i2l, 1) := by decide +kernel
theorem dL_law_619 : decode cL_law 619 = .ok (.lcmp, 1) := by decide +kernel
theorem dL_law_620 : decode cL_law 620 = .ok (.ifCond .eq 5, 3) := by decide +kernel
theorem dL_law_623 : decode cL_law 623 = .ok (.iconst 0, 1) := by decide +kernel
theorem dL_law_624 : decode cL_law 624 = .ok (.ireturn, 1) := by decide +kernel
theorem dL_law_625 : decode cL_law 625 = .ok (.goto 1871, 3) := by decide +kernel
theorem dL_law_628 : decode cL_law 628 = .ok (.aload_n 1, 1) := by decide +kernel
theorem dL_law_629 : decode cL_law 629 = .ok (.aload_n 0, 1) := by decide +kernel
theorem dL_law_630 : decode cL_law 630 = .ok (.iload 4, 2) := by decide +kernel
theorem dL_law_632 : decode cL_law 632 = .ok (.iconst 1, 1) := by decide +kernel
theorem dL_law_633 : decode cL_law 633 = .ok (.iadd, 1) := by decide +kernel
theorem dL_law_634 : decode cL_law 634 = .ok (.iaload, 1) := by decide +kernel
theorem dL_law_635 : decode cL_law 635 = .ok (.aload_n 0, 1) := by decide +kernel
theorem dL_law_636 : decode cL_law 636 = .ok (.iload 4, 2) := by decide +kernel
theorem dL_law_638 : decode cL_law 638 = .ok (.iconst 2, 1) := by decide +kernel
theorem dL_law_639 : decode cL_law 639 = .ok (.iadd, 1) := by decide +kernel
theorem dL_law_640 : decode cL_law 640 = .ok (.iaload, 1) := by decide +kernel
theorem dL_law_641 : decode cL_law 641 = .ok (.aload_n 0, 1) := by decide +kernel
theorem dL_law_642 : decode cL_law 642 = .ok (.iload 4, 2) := by decide +kernel
theorem dL_law_644 : decode cL_law 644 = .ok (.iconst 3, 1) := by decide +kernel
theorem dL_law_645 : decode cL_law 645 = .ok (.iadd, 1) := by decide +kernel
theorem dL_law_646 : decode cL_law 646 = .ok (.iaload, 1) := by decide +kernel
theorem dL_law_647 : decode cL_law 647 = .ok (.aload_n 0, 1) := by decide +kernel
theorem dL_law_648 : decode cL_law 648 = .ok (.iload 4, 2) := by decide +kernel
theorem dL_law_650 : decode cL_law 650 = .ok (.iconst 4, 1) := by decide +kernel
theorem dL_law_651 : decode cL_law 651 = .ok (.iadd, 1) := by decide +kernel
theorem dL_law_652 : decode cL_law 652 = .ok (.iaload, 1) := by decide +kernel
theorem dL_law_653 : decode cL_law 653 = .ok (.aload_n 3, 1) := by decide +kernel
theorem dL_law_654 : decode cL_law 654 = .ok (.invokestatic 163, 3) := by decide +kernel
theorem dL_law_657 : decode cL_law 657 = .ok (.istore 5, 2) := by decide +kernel
theorem dL_law_659 : decode cL_law 659 = .ok (.aload_n 2, 1) := by decide +kernel
theorem dL_law_660 : decode cL_law 660 = .ok (.aload_n 0, 1) := by decide +kernel
theorem dL_law_661 : decode cL_law 661 = .ok (.iload 4, 2) := by decide +kernel
theorem dL_law_663 : decode cL_law 663 = .ok (.iconst 1, 1) := by decide +kernel
theorem dL_law_664 : decode cL_law 664 = .ok (.iadd, 1) := by decide +kernel
theorem dL_law_665 : decode cL_law 665 = .ok (.iaload, 1) := by decide +kernel
theorem dL_law_666 : decode cL_law 666 = .ok (.aload_n 0, 1) := by decide +kernel
theorem dL_law_667 : decode cL_law 667 = .ok (.iload 4, 2) := by decide +kernel
theorem dL_law_669 : decode cL_law 669 = .ok (.iconst 2, 1) := by decide +kernel
theorem dL_law_670 : decode cL_law 670 = .ok (.iadd, 1) := by decide +kernel
theorem dL_law_671 : decode cL_law 671 = .ok (.iaload, 1) := by decide +kernel
theorem dL_law_672 : decode cL_law 672 = .ok (.aload_n 0, 1) := by decide +kernel
theorem dL_law_673 : decode cL_law 673 = .ok (.iload 4, 2) := by decide +kernel
theorem dL_law_675 : decode cL_law 675 = .ok (.iconst 3, 1) := by decide +kernel
theorem dL_law_676 : decode cL_law 676 = .ok (.iadd, 1) := by decide +kernel
theorem dL_law_677 : decode cL_law 677 = .ok (.iaload, 1) := by decide +kernel
theorem dL_law_678 : decode cL_law 678 = .ok (.aload_n 0, 1) := by decide +kernel
theorem dL_law_679 : decode cL_law 679 = .ok (.iload 4, 2) := by decide +kernel
theorem dL_law_681 : decode cL_law 681 = .ok (.iconst 4, 1) := by decide +kernel
theorem dL_law_682 : decode cL_law 682 = .ok (.iadd, 1) := by decide +kernel
theorem dL_law_683 : decode cL_law 683 = .ok (.iaload, 1) := by decide +kernel
theorem dL_law_684 : decode cL_law 684 = .ok (.invokevirtual 165, 3) := by decide +kernel
theorem dL_law_687 : decode cL_law 687 = .ok (.istore 6, 2) := by decide +kernel
theorem dL_law_689 : decode cL_law 689 = .ok (.aload_n 2, 1) := by decide +kernel
theorem dL_law_690 : decode cL_law 690 = .ok (.invokevirtual 141, 3) := by decide +kernel
theorem dL_law_693 : decode cL_law 693 = .ok (.iload 5, 2) := by decide +kernel
theorem dL_law_695 : decode cL_law 695 = .ok (.if_icmp .eq 5, 3) := by decide +kernel
theorem dL_law_698 : decode cL_law 698 = .ok (.iconst 0, 1) := by decide +kernel
theorem dL_law_699 : decode cL_law 699 = .ok (.ireturn, 1) := by decide +kernel
theorem dL_law_700 : decode cL_law 700 = .ok (.iload 5, 2) := by decide +kernel
theorem dL_law_702 : decode cL_law 702 = .ok (.ifCond .ne 15, 3) := by decide +kernel
theorem dL_law_705 : decode cL_law 705 = .ok (.aload_n 3, 1) := by decide +kernel
theorem dL_law_706 : decode cL_law 706 = .ok (.iconst 0, 1) := by decide +kernel
theorem dL_law_707 : decode cL_law 707 = .ok (.laload, 1) := by decide +kernel
theorem dL_law_708 : decode cL_law 708 = .ok (.iload 6, 2) := by decide +kernel
theorem dL_law_710 : decode cL_law 710 = .ok (.i2l, 1) := by decide +kernel
theorem dL_law_711 : decode cL_law 711 = .ok (.lcmp, 1) := by decide +kernel
theorem dL_law_712 : decode cL_law 712 = .ok (.ifCond .eq 5, 3) := by decide +kernel
theorem dL_law_715 : decode cL_law 715 = .ok (.iconst 0, 1) := by decide +kernel
theorem dL_law_716 : decode cL_law 716 = .ok (.ireturn, 1) := by decide +kernel
theorem dL_law_717 : decode cL_law 717 = .ok (.goto 1779, 3) := by decide +kernel
theorem dL_law_720 : decode cL_law 720 = .ok (.aload_n 1, 1) := by decide +kernel
theorem dL_law_721 : decode cL_law 721 = .ok (.aload_n 0, 1) := by decide +kernel
theorem dL_law_722 : decode cL_law 722 = .ok (.iload 4, 2) := by decide +kernel
theorem dL_law_724 : decode cL_law 724 = .ok (.iconst 1, 1) := by decide +kernel
theorem dL_law_725 : decode cL_law 725 = .ok (.iadd, 1) := by decide +kernel
theorem dL_law_726 : decode cL_law 726 = .ok (.iaload, 1) := by decide +kernel
theorem dL_law_727 : decode cL_law 727 = .ok (.aload_n 3, 1) := by decide +kernel
theorem dL_law_728 : decode cL_law 728 = .ok (.invokestatic 166, 3) := by decide +kernel
theorem dL_law_731 : decode cL_law 731 = .ok (.istore 5, 2) := by decide +kernel
theorem dL_law_733 : decode cL_law 733 = .ok (.aload_n 2, 1) := by decide +kernel
theorem dL_law_734 : decode cL_law 734 = .ok (.aload_n 0, 1) := by decide +kernel
theorem dL_law_735 : decode cL_law 735 = .ok (.iload 4, 2) := by decide +kernel
theorem dL_law_737 : decode cL_law 737 = .ok (.iconst 1, 1) := by decide +kernel
theorem dL_law_738 : decode cL_law 738 = .ok (.iadd, 1) := by decide +kernel
theorem dL_law_739 : decode cL_law 739 = .ok (.iaload, 1) := by decide +kernel
theorem dL_law_740 : decode cL_law 740 = .ok (.invokevirtual 168, 3) := by decide +kernel
theorem dL_law_743 : decode cL_law 743 = .ok (.istore 6, 2) := by decide +kernel
theorem dL_law_745 : decode cL_law 745 = .ok (.aload_n 2, 1) := by decide +kernel
theorem dL_law_746 : decode cL_law 746 = .ok (.invokevirtual 141, 3) := by decide +kernel
theorem dL_law_749 : decode cL_law 749 = .ok (.iload 5, 2) := by decide +kernel
theorem dL_law_751 : decode cL_law 751 = .ok (.if_icmp .eq 5, 3) := by decide +kernel
theorem dL_law_754 : decode cL_law 754 = .ok (.iconst 0, 1) := by decide +kernel
theorem dL_law_755 : decode cL_law 755 = .ok (.ireturn, 1) := by decide +kernel
theorem dL_law_756 : decode cL_law 756 = .ok (.iload 5, 2) := by decide +kernel
theorem dL_law_758 : decode cL_law 758 = .ok (.ifCond .ne 15, 3) := by decide +kernel
theorem dL_law_761 : decode cL_law 761 = .ok (.aload_n 3, 1) := by decide +kernel
theorem dL_law_762 : decode cL_law 762 = .ok (.iconst 0, 1) := by decide +kernel
theorem dL_law_763 : decode cL_law 763 = .ok (.laload, 1) := by decide +kernel
theorem dL_law_764 : decode cL_law 764 = .ok (.iload 6, 2) := by decide +kernel
theorem dL_law_766 : decode cL_law 766 = .ok (.i2l, 1) := by decide +kernel
theorem dL_law_767 : decode cL_law 767 = .ok (.lcmp, 1) := by decide +kernel
theorem dL_law_768 : decode cL_law 768 = .ok (.ifCond .eq 5, 3) := by decide +kernel
theorem dL_law_771 : decode cL_law 771 = .ok (.iconst 0, 1) := by decide +kernel
theorem dL_law_772 : decode cL_law 772 = .ok (.ireturn, 1) := by decide +kernel
theorem dL_law_773 : decode cL_law 773 = .ok (.goto 1723, 3) := by decide +kernel
theorem dL_law_776 : decode cL_law 776 = .ok (.aload_n 1, 1) := by decide +kernel
theorem dL_law_777 : decode cL_law 777 = .ok (.aload_n 0, 1) := by decide +kernel
theorem dL_law_778 : decode cL_law 778 = .ok (.iload 4, 2) := by decide +kernel
theorem dL_law_780 : decode cL_law 780 = .ok (.iconst 1, 1) := by decide +kernel
theorem dL_law_781 : decode cL_law 781 = .ok (.iadd, 1) := by decide +kernel
theorem dL_law_782 : decode cL_law 782 = .ok (.iaload, 1) := by decide +kernel
theorem dL_law_783 : decode cL_law 783 = .ok (.invokestatic 169, 3) := by decide +kernel
theorem dL_law_786 : decode cL_law 786 = .ok (.istore 5, 2) := by decide +kernel
theorem dL_law_788 : decode cL_law 788 = .ok (.aload_n 2, 1) := by decide +kernel
theorem dL_law_789 : decode cL_law 789 = .ok (.aload_n 0, 1) := by decide +kernel
theorem dL_law_790 : decode cL_law 790 = .ok (.iload 4, 2) := by decide +kernel
theorem dL_law_792 : decode cL_law 792 = .ok (.iconst 1, 1) := by decide +kernel
theorem dL_law_793 : decode cL_law 793 = .ok (.iadd, 1) := by decide +kernel
theorem dL_law_794 : decode cL_law 794 = .ok (.iaload, 1) := by decide +kernel
theorem dL_law_795 : decode cL_law 795 = .ok (.invokevirtual 172, 3) := by decide +kernel
theorem dL_law_798 : decode cL_law 798 = .ok (.aload_n 2, 1) := by decide +kernel
theorem dL_law_799 : decode cL_law 799 = .ok (.invokevirtual 141, 3) := by decide +kernel
theorem dL_law_802 : decode cL_law 802 = .ok (.iload 5, 2) := by decide +kernel
theorem dL_law_804 : decode cL_law 804 = .ok (.if_icmp .eq 5, 3) := by decide +kernel
theorem dL_law_807 : decode cL_law 807 = .ok (.iconst 0, 1) := by decide +kernel
theorem dL_law_808 : decode cL_law 808 = .ok (.ireturn, 1) := by decide +kernel
theorem dL_law_809 : decode cL_law 809 = .ok (.goto 1687, 3) := by decide +kernel
theorem dL_law_812 : decode cL_law 812 = .ok (.aload_n 1, 1) := by decide +kernel
theorem dL_law_813 : decode cL_law 813 = .ok (.aload_n 0, 1) := by decide +kernel
theorem dL_law_814 : decode cL_law 814 = .ok (.iload 4, 2) := by decide +kernel
theorem dL_law_816 : decode cL_law 816 = .ok (.iconst 1, 1) := by decide +kernel
theorem dL_law_817 : decode cL_law 817 = .ok (.iadd, 1) := by decide +kernel
theorem dL_law_818 : decode cL_law 818 = .ok (.iaload, 1) := by decide +kernel
theorem dL_law_819 : decode cL_law 819 = .ok (.aload_n 3, 1) := by decide +kernel
theorem dL_law_820 : decode cL_law 820 = .ok (.invokestatic 173, 3) := by decide +kernel
theorem dL_law_823 : decode cL_law 823 = .ok (.istore 5, 2) := by decide +kernel
theorem dL_law_825 : decode cL_law 825 = .ok (.aload_n 2, 1) := by decide +kernel
theorem dL_law_826 : decode cL_law 826 = .ok (.aload_n 0, 1) := by decide +kernel
theorem dL_law_827 : decode cL_law 827 = .ok (.iload 4, 2) := by decide +kernel
theorem dL_law_829 : decode cL_law 829 = .ok (.iconst 1, 1) := by decide +kernel
theorem dL_law_830 : decode cL_law 830 = .ok (.iadd, 1) := by decide +kernel
theorem dL_law_831 : decode cL_law 831 = .ok (.iaload, 1) := by decide +kernel
theorem dL_law_832 : decode cL_law 832 = .ok (.invokevirtual 175, 3) := by decide +kernel
theorem dL_law_835 : decode cL_law 835 = .ok (.istore 6, 2) := by decide +kernel
theorem dL_law_837 : decode cL_law 837 = .ok (.aload_n 2, 1) := by decide +kernel
theorem dL_law_838 : decode cL_law 838 = .ok (.invokevirtual 141, 3) := by decide +kernel
theorem dL_law_841 : decode cL_law 841 = .ok (.iload 5, 2) := by decide +kernel
theorem dL_law_843 : decode cL_law 843 = .ok (.if_icmp .eq 5, 3) := by decide +kernel
theorem dL_law_846 : decode cL_law 846 = .ok (.iconst 0, 1) := by decide +kernel
theorem dL_law_847 : decode cL_law 847 = .ok (.ireturn, 1) := by decide +kernel
theorem dL_law_848 : decode cL_law 848 = .ok (.iload 5, 2) := by decide +kernel
theorem dL_law_850 : decode cL_law 850 = .ok (.ifCond .ne 15, 3) := by decide +kernel
theorem dL_law_853 : decode cL_law 853 = .ok (.aload_n 3, 1) := by decide +kernel
theorem dL_law_854 : decode cL_law 854 = .ok (.iconst 0, 1) := by decide +kernel
theorem dL_law_855 : decode cL_law 855 = .ok (.laload, 1) := by decide +kernel
theorem dL_law_856 : decode cL_law 856 = .ok (.iload 6, 2) := by decide +kernel
theorem dL_law_858 : decode cL_law 858 = .ok (.i2l, 1) := by decide +kernel
theorem dL_law_859 : decode cL_law 859 = .ok (.lcmp, 1) := by decide +kernel
theorem dL_law_860 : decode cL_law 860 = .ok (.ifCond .eq 5, 3) := by decide +kernel
theorem dL_law_863 : decode cL_law 863 = .ok (.iconst 0, 1) := by decide +kernel
theorem dL_law_864 : decode cL_law 864 = .ok (.ireturn, 1) := by decide +kernel
theorem dL_law_865 : decode cL_law 865 = .ok (.goto 1631, 3) := by decide +kernel
theorem dL_law_868 : decode cL_law 868 = .ok (.aload_n 1, 1) := by decide +kernel
theorem dL_law_869 : decode cL_law 869 = .ok (.aload_n 0, 1) := by decide +kernel
theorem dL_law_870 : decode cL_law 870 = .ok (.iload 4, 2) := by decide +kernel
theorem dL_law_872 : decode cL_law 872 = .ok (.iconst 1, 1) := by decide +kernel
theorem dL_law_873 : decode cL_law 873 = .ok (.iadd, 1) := by decide +kernel
theorem dL_law_874 : decode cL_law 874 = .ok (.iaload, 1) := by decide +kernel
theorem dL_law_875 : decode cL_law 875 = .ok (.aload_n 3, 1) := by decide +kernel
theorem dL_law_876 : decode cL_law 876 = .ok (.invokestatic 176, 3) := by decide +kernel
theorem dL_law_879 : decode cL_law 879 = .ok (.istore 5, 2) := by decide +kernel
theorem dL_law_881 : decode cL_law 881 = .ok (.aload_n 2, 1) := by decide +kernel
theorem dL_law_882 : decode cL_law 882 = .ok (.aload_n 0, 1) := by decide +kernel
theorem dL_law_883 : decode cL_law 883 = .ok (.iload 4, 2) := by decide +kernel
theorem dL_law_885 : decode cL_law 885 = .ok (.iconst 1, 1) := by decide +kernel
theorem dL_law_886 : decode cL_law 886 = .ok (.iadd, 1) := by decide +kernel
theorem dL_law_887 : decode cL_law 887 = .ok (.iaload, 1) := by decide +kernel
theorem dL_law_888 : decode cL_law 888 = .ok (.invokevirtual 178, 3) := by decide +kernel
theorem dL_law_891 : decode cL_law 891 = .ok (.istore 6, 2) := by decide +kernel
theorem dL_law_893 : decode cL_law 893 = .ok (.aload_n 2, 1) := by decide +kernel
theorem dL_law_894 : decode cL_law 894 = .ok (.invokevirtual 141, 3) := by decide +kernel
theorem dL_law_897 : decode cL_law 897 = .ok (.iload 5, 2) := by decide +kernel
theorem dL_law_899 : decode cL_law 899 = .ok (.if_icmp .eq 5, 3) := by decide +kernel
theorem dL_law_902 : decode cL_law 902 = .ok (.iconst 0, 1) := by decide +kernel
theorem dL_law_903 : decode cL_law 903 = .ok (.ireturn, 1) := by decide +kernel
theorem dL_law_904 : decode cL_law 904 = .ok (.iload 5, 2) := by decide +kernel
theorem dL_law_906 : decode cL_law 906 = .ok (.ifCond .ne 15, 3) := by decide +kernel
theorem dL_law_909 : decode cL_law 909 = .ok (.aload_n 3, 1) := by decide +kernel
theorem dL_law_910 : decode cL_law 910 = .ok (.iconst 0, 1) := by decide +kernel
theorem dL_law_911 : decode cL_law 911 = .ok (.laload, 1) := by decide +kernel
theorem dL_law_912 : decode cL_law 912 = .ok (.iload 6, 2) := by decide +kernel
theorem dL_law_914 : decode cL_law 914 = .ok (.i2l, 1) := by decide +kernel
theorem dL_law_915 : decode cL_law 915 = .ok (.lcmp, 1) := by decide +kernel
theorem dL_law_916 : decode cL_law 916 = .ok (.ifCond .eq 5, 3) := by decide +kernel
theorem dL_law_919 : decode cL_law 919 = .ok (.iconst 0, 1) := by decide +kernel
theorem dL_law_920 : decode cL_law 920 = .ok (.ireturn, 1) := by decide +kernel
theorem dL_law_921 : decode cL_law 921 = .ok (.goto 1575, 3) := by decide +kernel
theorem dL_law_924 : decode cL_law 924 = .ok (.aload_n 1, 1) := by decide +kernel
theorem dL_law_925 : decode cL_law 925 = .ok (.aload_n 0, 1) := by decide +kernel
theorem dL_law_926 : decode cL_law 926 = .ok (.iload 4, 2) := by decide +kernel
theorem dL_law_928 : decode cL_law 928 = .ok (.iconst 1, 1) := by decide +kernel
theorem dL_law_929 : decode cL_law 929 = .ok (.iadd, 1) := by decide +kernel
theorem dL_law_930 : decode cL_law 930 = .ok (.iaload, 1) := by decide +kernel
theorem dL_law_931 : decode cL_law 931 = .ok (.aload_n 3, 1) := by decide +kernel
theorem dL_law_932 : decode cL_law 932 = .ok (.invokestatic 179, 3) := by decide +kernel
theorem dL_law_935 : decode cL_law 935 = .ok (.istore 5, 2) := by decide +kernel
theorem dL_law_937 : decode cL_law 937 = .ok (.aload_n 2, 1) := by decide +kernel
theorem dL_law_938 : decode cL_law 938 = .ok (.aload_n 0, 1) := by decide +kernel
theorem dL_law_939 : decode cL_law 939 = .ok (.iload 4, 2) := by decide +kernel
theorem dL_law_941 : decode cL_law 941 = .ok (.iconst 1, 1) := by decide +kernel
theorem dL_law_942 : decode cL_law 942 = .ok (.iadd, 1) := by decide +kernel
theorem dL_law_943 : decode cL_law 943 = .ok (.iaload, 1) := by decide +kernel
theorem dL_law_944 : decode cL_law 944 = .ok (.invokevirtual 181, 3) := by decide +kernel
theorem dL_law_947 : decode cL_law 947 = .ok (.istore 6, 2) := by decide +kernel
theorem dL_law_949 : decode cL_law 949 = .ok (.aload_n 2, 1) := by decide +kernel
theorem dL_law_950 : decode cL_law 950 = .ok (.invokevirtual 141, 3) := by decide +kernel
theorem dL_law_953 : decode cL_law 953 = .ok (.iload 5, 2) := by decide +kernel
theorem dL_law_955 : decode cL_law 955 = .ok (.if_icmp .eq 5, 3) := by decide +kernel
theorem dL_law_958 : decode cL_law 958 = .ok (.iconst 0, 1) := by decide +kernel
theorem dL_law_959 : decode cL_law 959 = .ok (.ireturn, 1) := by decide +kernel
theorem dL_law_960 : decode cL_law 960 = .ok (.iload 5, 2) := by decide +kernel
theorem dL_law_962 : decode cL_law 962 = .ok (.ifCond .ne 15, 3) := by decide +kernel
theorem dL_law_965 : decode cL_law 965 = .ok (.aload_n 3, 1) := by decide +kernel
theorem dL_law_966 : decode cL_law 966 = .ok (.iconst 0, 1) := by decide +kernel
theorem dL_law_967 : decode cL_law 967 = .ok (.laload, 1) := by decide +kernel
theorem dL_law_968 : decode cL_law 968 = .ok (.iload 6, 2) := by decide +kernel
theorem dL_law_970 : decode cL_law 970 = .ok (.i2l, 1) := by decide +kernel
theorem dL_law_971 : decode cL_law 971 = .ok (.lcmp, 1) := by decide +kernel
theorem dL_law_972 : decode cL_law 972 = .ok (.ifCond .eq 5, 3) := by decide +kernel
theorem dL_law_975 : decode cL_law 975 = .ok (.iconst 0, 1) := by decide +kernel
theorem dL_law_976 : decode cL_law 976 = .ok (.ireturn, 1) := by decide +kernel
theorem dL_law_977 : decode cL_law 977 = .ok (.goto 1519, 3) := by decide +kernel
theorem dL_law_980 : decode cL_law 980 = .ok (.aload_n 1, 1) := by decide +kernel
theorem dL_law_981 : decode cL_law 981 = .ok (.aload_n 0, 1) := by decide +kernel
theorem dL_law_982 : decode cL_law 982 = .ok (.iload 4, 2) := by decide +kernel
theorem dL_law_984 : decode cL_law 984 = .ok (.iconst 1, 1) := by decide +kernel
theorem dL_law_985 : decode cL_law 985 = .ok (.iadd, 1) := by decide +kernel
theorem dL_law_986 : decode cL_law 986 = .ok (.iaload, 1) := by decide +kernel
theorem dL_law_987 : decode cL_law 987 = .ok (.aload_n 3, 1) := by decide +kernel
theorem dL_law_988 : decode cL_law 988 = .ok (.invokestatic 182, 3) := by decide +kernel
theorem dL_law_991 : decode cL_law 991 = .ok (.istore 5, 2) := by decide +kernel
theorem dL_law_993 : decode cL_law 993 = .ok (.aload_n 2, 1) := by decide +kernel
theorem dL_law_994 : decode cL_law 994 = .ok (.aload_n 0, 1) := by decide +kernel
theorem dL_law_995 : decode cL_law 995 = .ok (.iload 4, 2) := by decide +kernel
theorem dL_law_997 : decode cL_law 997 = .ok (.iconst 1, 1) := by decide +kernel
theorem dL_law_998 : decode cL_law 998 = .ok (.iadd, 1) := by decide +kernel
theorem dL_law_999 : decode cL_law 999 = .ok (.iaload, 1) := by decide +kernel
theorem dL_law_1000 : decode cL_law 1000 = .ok (.invokevirtual 184, 3) := by decide +kernel
theorem dL_law_1003 : decode cL_law 1003 = .ok (.istore 6, 2) := by decide +kernel
theorem dL_law_1005 : decode cL_law 1005 = .ok (.aload_n 2, 1) := by decide +kernel
theorem dL_law_1006 : decode cL_law 1006 = .ok (.invokevirtual 141, 3) := by decide +kernel
theorem dL_law_1009 : decode cL_law 1009 = .ok (.iload 5, 2) := by decide +kernel
theorem dL_law_1011 : decode cL_law 1011 = .ok (.if_icmp .eq 5, 3) := by decide +kernel
theorem dL_law_1014 : decode cL_law 1014 = .ok (.iconst 0, 1) := by decide +kernel
theorem dL_law_1015 : decode cL_law 1015 = .ok (.ireturn, 1) := by decide +kernel
theorem dL_law_1016 : decode cL_law 1016 = .ok (.iload 5, 2) := by decide +kernel
theorem dL_law_1018 : decode cL_law 1018 = .ok (.ifCond .ne 15, 3) := by decide +kernel
theorem dL_law_1021 : decode cL_law 1021 = .ok (.aload_n 3, 1) := by decide +kernel
theorem dL_law_1022 : decode cL_law 1022 = .ok (.iconst 0, 1) := by decide +kernel
theorem dL_law_1023 : decode cL_law 1023 = .ok (.laload, 1) := by decide +kernel
theorem dL_law_1024 : decode cL_law 1024 = .ok (.iload 6, 2) := by decide +kernel
theorem dL_law_1026 : decode cL_law 1026 = .ok (.i2l, 1) := by decide +kernel
theorem dL_law_1027 : decode cL_law 1027 = .ok (.lcmp, 1) := by decide +kernel
theorem dL_law_1028 : decode cL_law 1028 = .ok (.ifCond .eq 5, 3) := by decide +kernel
theorem dL_law_1031 : decode cL_law 1031 = .ok (.iconst 0, 1) := by decide +kernel
theorem dL_law_1032 : decode cL_law 1032 = .ok (.ireturn, 1) := by decide +kernel
theorem dL_law_1033 : decode cL_law 1033 = .ok (.goto 1463, 3) := by decide +kernel
theorem dL_law_1036 : decode cL_law 1036 = .ok (.aload_n 1, 1) := by decide +kernel
theorem dL_law_1037 : decode cL_law 1037 = .ok (.aload_n 0, 1) := by decide +kernel
theorem dL_law_1038 : decode cL_law 1038 = .ok (.iload 4, 2) := by decide +kernel
theorem dL_law_1040 : decode cL_law 1040 = .ok (.iconst 1, 1) := by decide +kernel
theorem dL_law_1041 : decode cL_law 1041 = .ok (.iadd, 1) := by decide +kernel
theorem dL_law_1042 : decode cL_law 1042 = .ok (.iaload, 1) := by decide +kernel
theorem dL_law_1043 : decode cL_law 1043 = .ok (.aload_n 3, 1) := by decide +kernel
theorem dL_law_1044 : decode cL_law 1044 = .ok (.invokestatic 185, 3) := by decide +kernel
theorem dL_law_1047 : decode cL_law 1047 = .ok (.istore 5, 2) := by decide +kernel
theorem dL_law_1049 : decode cL_law 1049 = .ok (.aload_n 2, 1) := by decide +kernel
theorem dL_law_1050 : decode cL_law 1050 = .ok (.aload_n 0, 1) := by decide +kernel
theorem dL_law_1051 : decode cL_law 1051 = .ok (.iload 4, 2) := by decide +kernel
theorem dL_law_1053 : decode cL_law 1053 = .ok (.iconst 1, 1) := by decide +kernel
theorem dL_law_1054 : decode cL_law 1054 = .ok (.iadd, 1) := by decide +kernel
theorem dL_law_1055 : decode cL_law 1055 = .ok (.iaload, 1) := by decide +kernel
theorem dL_law_1056 : decode cL_law 1056 = .ok (.invokevirtual 187, 3) := by decide +kernel
theorem dL_law_1059 : decode cL_law 1059 = .ok (.istore 6, 2) := by decide +kernel
theorem dL_law_1061 : decode cL_law 1061 = .ok (.aload_n 2, 1) := by decide +kernel
theorem dL_law_1062 : decode cL_law 1062 = .ok (.invokevirtual 141, 3) := by decide +kernel
theorem dL_law_1065 : decode cL_law 1065 = .ok (.iload 5, 2) := by decide +kernel
theorem dL_law_1067 : decode cL_law 1067 = .ok (.if_icmp .eq 5, 3) := by decide +kernel
theorem dL_law_1070 : decode cL_law 1070 = .ok (.iconst 0, 1) := by decide +kernel
theorem dL_law_1071 : decode cL_law 1071 = .ok (.ireturn, 1) := by decide +kernel
theorem dL_law_1072 : decode cL_law 1072 = .ok (.iload 5, 2) := by decide +kernel
theorem dL_law_1074 : decode cL_law 1074 = .ok (.ifCond .ne 15, 3) := by decide +kernel
theorem dL_law_1077 : decode cL_law 1077 = .ok (.aload_n 3, 1) := by decide +kernel
theorem dL_law_1078 : decode cL_law 1078 = .ok (.iconst 0, 1) := by decide +kernel
theorem dL_law_1079 : decode cL_law 1079 = .ok (.laload, 1) := by decide +kernel
theorem dL_law_1080 : decode cL_law 1080 = .ok (.iload 6, 2) := by decide +kernel
theorem dL_law_1082 : decode cL_law 1082 = .ok (.i2l, 1) := by decide +kernel
theorem dL_law_1083 : decode cL_law 1083 = .ok (.lcmp, 1) := by decide +kernel
theorem dL_law_1084 : decode cL_law 1084 = .ok (.ifCond .eq 5, 3) := by decide +kernel
theorem dL_law_1087 : decode cL_law 1087 = .ok (.iconst 0, 1) := by decide +kernel
theorem dL_law_1088 : decode cL_law 1088 = .ok (.ireturn, 1) := by decide +kernel
theorem dL_law_1089 : decode cL_law 1089 = .ok (.goto 1407, 3) := by decide +kernel
theorem dL_law_1092 : decode cL_law 1092 = .ok (.aload_n 1, 1) := by decide +kernel
theorem dL_law_1093 : decode cL_law 1093 = .ok (.aload_n 0, 1) := by decide +kernel
theorem dL_law_1094 : decode cL_law 1094 = .ok (.iload 4, 2) := by decide +kernel
theorem dL_law_1096 : decode cL_law 1096 = .ok (.iconst 1, 1) := by decide +kernel
theorem dL_law_1097 : decode cL_law 1097 = .ok (.iadd, 1) := by decide +kernel
theorem dL_law_1098 : decode cL_law 1098 = .ok (.iaload, 1) := by decide +kernel
theorem dL_law_1099 : decode cL_law 1099 = .ok (.aload_n 0, 1) := by decide +kernel
theorem dL_law_1100 : decode cL_law 1100 = .ok (.iload 4, 2) := by decide +kernel
theorem dL_law_1102 : decode cL_law 1102 = .ok (.iconst 2, 1) := by decide +kernel
theorem dL_law_1103 : decode cL_law 1103 = .ok (.iadd, 1) := by decide +kernel
theorem dL_law_1104 : decode cL_law 1104 = .ok (.iaload, 1) := by decide +kernel
theorem dL_law_1105 : decode cL_law 1105 = .ok (.aload_n 3, 1) := by decide +kernel
theorem dL_law_1106 : decode cL_law 1106 = .ok (.invokestatic 188, 3) := by decide +kernel
theorem dL_law_1109 : decode cL_law 1109 = .ok (.istore 5, 2) := by decide +kernel
theorem dL_law_1111 : decode cL_law 1111 = .ok (.aload_n 2, 1) := by decide +kernel
theorem dL_law_1112 : decode cL_law 1112 = .ok (.aload_n 0, 1) := by decide +kernel
theorem dL_law_1113 : decode cL_law 1113 = .ok (.iload 4, 2) := by decide +kernel
theorem dL_law_1115 : decode cL_law 1115 = .ok (.iconst 1, 1) := by decide +kernel
theorem dL_law_1116 : decode cL_law 1116 = .ok (.iadd, 1) := by decide +kernel
theorem dL_law_1117 : decode cL_law 1117 = .ok (.iaload, 1) := by decide +kernel
theorem dL_law_1118 : decode cL_law 1118 = .ok (.aload_n 0, 1) := by decide +kernel
theorem dL_law_1119 : decode cL_law 1119 = .ok (.iload 4, 2) := by decide +kernel
theorem dL_law_1121 : decode cL_law 1121 = .ok (.iconst 2, 1) := by decide +kernel
theorem dL_law_1122 : decode cL_law 1122 = .ok (.iadd, 1) := by decide +kernel
theorem dL_law_1123 : decode cL_law 1123 = .ok (.iaload, 1) := by decide +kernel
theorem dL_law_1124 : decode cL_law 1124 = .ok (.invokevirtual 191, 3) := by decide +kernel
theorem dL_law_1127 : decode cL_law 1127 = .ok (.istore 6, 2) := by decide +kernel
theorem dL_law_1129 : decode cL_law 1129 = .ok (.aload_n 2, 1) := by decide +kernel
theorem dL_law_1130 : decode cL_law 1130 = .ok (.invokevirtual 141, 3) := by decide +kernel
theorem dL_law_1133 : decode cL_law 1133 = .ok (.iload 5, 2) := by decide +kernel
theorem dL_law_1135 : decode cL_law 1135 = .ok (.if_icmp .eq 5, 3) := by decide +kernel
theorem dL_law_1138 : decode cL_law 1138 = .ok (.iconst 0, 1) := by decide +kernel
theorem dL_law_1139 : decode cL_law 1139 = .ok (.ireturn, 1) := by decide +kernel
theorem dL_law_1140 : decode cL_law 1140 = .ok (.iload 5, 2) := by decide +kernel
theorem dL_law_1142 : decode cL_law 1142 = .ok (.ifCond .ne 15, 3) := by decide +kernel
theorem dL_law_1145 : decode cL_law 1145 = .ok (.aload_n 3, 1) := by decide +kernel
theorem dL_law_1146 : decode cL_law 1146 = .ok (.iconst 0, 1) := by decide +kernel
theorem dL_law_1147 : decode cL_law 1147 = .ok (.laload, 1) := by decide +kernel
theorem dL_law_1148 : decode cL_law 1148 = .ok (.iload 6, 2) := by decide +kernel
theorem dL_law_1150 : decode cL_law 1150 = .ok (.i2l, 1) := by decide +kernel
theorem dL_law_1151 : decode cL_law 1151 = .ok (.lcmp, 1) := by decide +kernel
theorem dL_law_1152 : decode cL_law 1152 = .ok (.ifCond .eq 5, 3) := by decide +kernel
theorem dL_law_1155 : decode cL_law 1155 = .ok (.iconst 0, 1) := by decide +kernel
theorem dL_law_1156 : decode cL_law 1156 = .ok (.ireturn, 1) := by decide +kernel
theorem dL_law_1157 : decode cL_law 1157 = .ok (.goto 1339, 3) := by decide +kernel
theorem dL_law_1160 : decode cL_law 1160 = .ok (.aload_n 1, 1) := by decide +kernel
theorem dL_law_1161 : decode cL_law 1161 = .ok (.aload_n 0, 1) := by decide +kernel
theorem dL_law_1162 : decode cL_law 1162 = .ok (.iload 4, 2) := by decide +kernel
theorem dL_law_1164 : decode cL_law 1164 = .ok (.iconst 1, 1) := by decide +kernel
theorem dL_law_1165 : decode cL_law 1165 = .ok (.iadd, 1) := by decide +kernel
theorem dL_law_1166 : decode cL_law 1166 = .ok (.iaload, 1) := by decide +kernel
theorem dL_law_1167 : decode cL_law 1167 = .ok (.aload_n 0, 1) := by decide +kernel
theorem dL_law_1168 : decode cL_law 1168 = .ok (.iload 4, 2) := by decide +kernel
theorem dL_law_1170 : decode cL_law 1170 = .ok (.iconst 2, 1) := by decide +kernel
theorem dL_law_1171 : decode cL_law 1171 = .ok (.iadd, 1) := by decide +kernel
theorem dL_law_1172 : decode cL_law 1172 = .ok (.iaload, 1) := by decide +kernel
theorem dL_law_1173 : decode cL_law 1173 = .ok (.aload_n 3, 1) := by decide +kernel
theorem dL_law_1174 : decode cL_law 1174 = .ok (.invokestatic 192, 3) := by decide +kernel
theorem dL_law_1177 : decode cL_law 1177 = .ok (.istore 5, 2) := by decide +kernel
theorem dL_law_1179 : decode cL_law 1179 = .ok (.aload_n 2, 1) := by decide +kernel
theorem dL_law_1180 : decode cL_law 1180 = .ok (.aload_n 0, 1) := by decide +kernel
theorem dL_law_1181 : decode cL_law 1181 = .ok (.iload 4, 2) := by decide +kernel
theorem dL_law_1183 : decode cL_law 1183 = .ok (.iconst 1, 1) := by decide +kernel
theorem dL_law_1184 : decode cL_law 1184 = .ok (.iadd, 1) := by decide +kernel
theorem dL_law_1185 : decode cL_law 1185 = .ok (.iaload, 1) := by decide +kernel
theorem dL_law_1186 : decode cL_law 1186 = .ok (.aload_n 0, 1) := by decide +kernel
theorem dL_law_1187 : decode cL_law 1187 = .ok (.iload 4, 2) := by decide +kernel
theorem dL_law_1189 : decode cL_law 1189 = .ok (.iconst 2, 1) := by decide +kernel
theorem dL_law_1190 : decode cL_law 1190 = .ok (.iadd, 1) := by decide +kernel
theorem dL_law_1191 : decode cL_law 1191 = .ok (.iaload, 1) := by decide +kernel
theorem dL_law_1192 : decode cL_law 1192 = .ok (.invokevirtual 194, 3) := by decide +kernel
theorem dL_law_1195 : decode cL_law 1195 = .ok (.istore 6, 2) := by decide +kernel
theorem dL_law_1197 : decode cL_law 1197 = .ok (.aload_n 2, 1) := by decide +kernel
theorem dL_law_1198 : decode cL_law 1198 = .ok (.invokevirtual 141, 3) := by decide +kernel
theorem dL_law_1201 : decode cL_law 1201 = .ok (.iload 5, 2) := by decide +kernel
theorem dL_law_1203 : decode cL_law 1203 = .ok (.if_icmp .eq 5, 3) := by decide +kernel
theorem dL_law_1206 : decode cL_law 1206 = .ok (.iconst 0, 1) := by decide +kernel
theorem dL_law_1207 : decode cL_law 1207 = .ok (.ireturn, 1) := by decide +kernel
theorem dL_law_1208 : decode cL_law 1208 = .ok (.iload 5, 2) := by decide +kernel
theorem dL_law_1210 : decode cL_law 1210 = .ok (.ifCond .ne 15, 3) := by decide +kernel
theorem dL_law_1213 : decode cL_law 1213 = .ok (.aload_n 3, 1) := by decide +kernel
theorem dL_law_1214 : decode cL_law 1214 = .ok (.iconst 0, 1) := by decide +kernel
theorem dL_law_1215 : decode cL_law 1215 = .ok (.laload, 1) := by decide +kernel
theorem dL_law_1216 : decode cL_law 1216 = .ok (.iload 6, 2) := by decide +kernel
theorem dL_law_1218 : decode cL_law 1218 = .ok (.i2l, 1) := by decide +kernel
theorem dL_law_1219 : decode cL_law 1219 = .ok (.lcmp, 1) := by decide +kernel
theorem dL_law_1220 : decode cL_law 1220 = .ok (.ifCond .eq 5, 3) := by decide +kernel
theorem dL_law_1223 : decode cL_law 1223 = .ok (.iconst 0, 1) := by decide +kernel
theorem dL_law_1224 : decode cL_law 1224 = .ok (.ireturn, 1) := by decide +kernel
theorem dL_law_1225 : decode cL_law 1225 = .ok (.goto 1271, 3) := by decide +kernel
theorem dL_law_1228 : decode cL_law 1228 = .ok (.aload_n 1, 1) := by decide +kernel
theorem dL_law_1229 : decode cL_law 1229 = .ok (.aload_n 0, 1) := by decide +kernel
theorem dL_law_1230 : decode cL_law 1230 = .ok (.iload 4, 2) := by decide +kernel
theorem dL_law_1232 : decode cL_law 1232 = .ok (.iconst 1, 1) := by decide +kernel
theorem dL_law_1233 : decode cL_law 1233 = .ok (.iadd, 1) := by decide +kernel
theorem dL_law_1234 : decode cL_law 1234 = .ok (.iaload, 1) := by decide +kernel
theorem dL_law_1235 : decode cL_law 1235 = .ok (.aload_n 3, 1) := by decide +kernel
theorem dL_law_1236 : decode cL_law 1236 = .ok (.invokestatic 195, 3) := by decide +kernel
theorem dL_law_1239 : decode cL_law 1239 = .ok (.istore 5, 2) := by decide +kernel
theorem dL_law_1241 : decode cL_law 1241 = .ok (.aload_n 2, 1) := by decide +kernel
theorem dL_law_1242 : decode cL_law 1242 = .ok (.aload_n 0, 1) := by decide +kernel
theorem dL_law_1243 : decode cL_law 1243 = .ok (.iload 4, 2) := by decide +kernel
theorem dL_law_1245 : decode cL_law 1245 = .ok (.iconst 1, 1) := by decide +kernel
theorem dL_law_1246 : decode cL_law 1246 = .ok (.iadd, 1) := by decide +kernel
theorem dL_law_1247 : decode cL_law 1247 = .ok (.iaload, 1) := by decide +kernel
theorem dL_law_1248 : decode cL_law 1248 = .ok (.invokevirtual 197, 3) := by decide +kernel
theorem dL_law_1251 : decode cL_law 1251 = .ok (.istore 6, 2) := by decide +kernel
theorem dL_law_1253 : decode cL_law 1253 = .ok (.aload_n 2, 1) := by decide +kernel
theorem dL_law_1254 : decode cL_law 1254 = .ok (.invokevirtual 141, 3) := by decide +kernel
theorem dL_law_1257 : decode cL_law 1257 = .ok (.iload 5, 2) := by decide +kernel
theorem dL_law_1259 : decode cL_law 1259 = .ok (.if_icmp .eq 5, 3) := by decide +kernel
theorem dL_law_1262 : decode cL_law 1262 = .ok (.iconst 0, 1) := by decide +kernel
theorem dL_law_1263 : decode cL_law 1263 = .ok (.ireturn, 1) := by decide +kernel
theorem dL_law_1264 : decode cL_law 1264 = .ok (.iload 5, 2) := by decide +kernel
theorem dL_law_1266 : decode cL_law 1266 = .ok (.ifCond .ne 15, 3) := by decide +kernel
theorem dL_law_1269 : decode cL_law 1269 = .ok (.aload_n 3, 1) := by decide +kernel
theorem dL_law_1270 : decode cL_law 1270 = .ok (.iconst 0, 1) := by decide +kernel
theorem dL_law_1271 : decode cL_law 1271 = .ok (.laload, 1) := by decide +kernel
theorem dL_law_1272 : decode cL_law 1272 = .ok (.iload 6, 2) := by decide +kernel
theorem dL_law_1274 : decode cL_law 1274 = .ok (.i2l, 1) := by decide +kernel
theorem dL_law_1275 : decode cL_law 1275 = .ok (.lcmp, 1) := by decide +kernel
theorem dL_law_1276 : decode cL_law 1276 = .ok (.ifCond .eq 5, 3) := by decide +kernel
theorem dL_law_1279 : decode cL_law 1279 = .ok (.iconst 0, 1) := by decide +kernel
theorem dL_law_1280 : decode cL_law 1280 = .ok (.ireturn, 1) := by decide +kernel
theorem dL_law_1281 : decode cL_law 1281 = .ok (.goto 1215, 3) := by decide +kernel
theorem dL_law_1284 : decode cL_law 1284 = .ok (.aload_n 1, 1) := by decide +kernel
theorem dL_law_1285 : decode cL_law 1285 = .ok (.aload_n 0, 1) := by decide +kernel
theorem dL_law_1286 : decode cL_law 1286 = .ok (.iload 4, 2) := by decide +kernel
theorem dL_law_1288 : decode cL_law 1288 = .ok (.iconst 1, 1) := by decide +kernel
theorem dL_law_1289 : decode cL_law 1289 = .ok (.iadd, 1) := by decide +kernel
theorem dL_law_1290 : decode cL_law 1290 = .ok (.iaload, 1) := by decide +kernel
theorem dL_law_1291 : decode cL_law 1291 = .ok (.aload_n 3, 1) := by decide +kernel
theorem dL_law_1292 : decode cL_law 1292 = .ok (.invokestatic 198, 3) := by decide +kernel
theorem dL_law_1295 : decode cL_law 1295 = .ok (.istore 5, 2) := by decide +kernel
theorem dL_law_1297 : decode cL_law 1297 = .ok (.aload_n 2, 1) := by decide +kernel
theorem dL_law_1298 : decode cL_law 1298 = .ok (.aload_n 0, 1) := by decide +kernel
theorem dL_law_1299 : decode cL_law 1299 = .ok (.iload 4, 2) := by decide +kernel
theorem dL_law_1301 : decode cL_law 1301 = .ok (.iconst 1, 1) := by decide +kernel
theorem dL_law_1302 : decode cL_law 1302 = .ok (.iadd, 1) := by decide +kernel
theorem dL_law_1303 : decode cL_law 1303 = .ok (.iaload, 1) := by decide +kernel
theorem dL_law_1304 : decode cL_law 1304 = .ok (.invokevirtual 200, 3) := by decide +kernel
theorem dL_law_1307 : decode cL_law 1307 = .ok (.istore 6, 2) := by decide +kernel
theorem dL_law_1309 : decode cL_law 1309 = .ok (.aload_n 2, 1) := by decide +kernel
theorem dL_law_1310 : decode cL_law 1310 = .ok (.invokevirtual 141, 3) := by decide +kernel
theorem dL_law_1313 : decode cL_law 1313 = .ok (.iload 5, 2) := by decide +kernel
theorem dL_law_1315 : decode cL_law 1315 = .ok (.if_icmp .eq 5, 3) := by decide +kernel
theorem dL_law_1318 : decode cL_law 1318 = .ok (.iconst 0, 1) := by decide +kernel
theorem dL_law_1319 : decode cL_law 1319 = .ok (.ireturn, 1) := by decide +kernel
theorem dL_law_1320 : decode cL_law 1320 = .ok (.iload 5, 2) := by decide +kernel
theorem dL_law_1322 : decode cL_law 1322 = .ok (.ifCond .ne 15, 3) := by decide +kernel
theorem dL_law_1325 : decode cL_law 1325 = .ok (.aload_n 3, 1) := by decide +kernel
theorem dL_law_1326 : decode cL_law 1326 = .ok (.iconst 0, 1) := by decide +kernel
theorem dL_law_1327 : decode cL_law 1327 = .ok (.laload, 1) := by decide +kernel
theorem dL_law_1328 : decode cL_law 1328 = .ok (.iload 6, 2) := by decide +kernel
theorem dL_law_1330 : decode cL_law 1330 = .ok (.i2l, 1) := by decide +kernel
theorem dL_law_1331 : decode cL_law 1331 = .ok (.lcmp, 1) := by decide +kernel
theorem dL_law_1332 : decode cL_law 1332 = .ok (.ifCond .eq 5, 3) := by decide +kernel
theorem dL_law_1335 : decode cL_law 1335 = .ok (.iconst 0, 1) := by decide +kernel
theorem dL_law_1336 : decode cL_law 1336 = .ok (.ireturn, 1) := by decide +kernel
theorem dL_law_1337 : decode cL_law 1337 = .ok (.goto 1159, 3) := by decide +kernel
theorem dL_law_1340 : decode cL_law 1340 = .ok (.aload_n 1, 1) := by decide +kernel
theorem dL_law_1341 : decode cL_law 1341 = .ok (.aload_n 0, 1) := by decide +kernel
theorem dL_law_1342 : decode cL_law 1342 = .ok (.iload 4, 2) := by decide +kernel
theorem dL_law_1344 : decode cL_law 1344 = .ok (.iconst 1, 1) := by decide +kernel
theorem dL_law_1345 : decode cL_law 1345 = .ok (.iadd, 1) := by decide +kernel
theorem dL_law_1346 : decode cL_law 1346 = .ok (.iaload, 1) := by decide +kernel
theorem dL_law_1347 : decode cL_law 1347 = .ok (.aload_n 3, 1) := by decide +kernel
theorem dL_law_1348 : decode cL_law 1348 = .ok (.invokestatic 201, 3) := by decide +kernel
theorem dL_law_1351 : decode cL_law 1351 = .ok (.istore 5, 2) := by decide +kernel
theorem dL_law_1353 : decode cL_law 1353 = .ok (.aload_n 2, 1) := by decide +kernel
theorem dL_law_1354 : decode cL_law 1354 = .ok (.aload_n 0, 1) := by decide +kernel
theorem dL_law_1355 : decode cL_law 1355 = .ok (.iload 4, 2) := by decide +kernel
theorem dL_law_1357 : decode cL_law 1357 = .ok (.iconst 1, 1) := by decide +kernel
theorem dL_law_1358 : decode cL_law 1358 = .ok (.iadd, 1) := by decide +kernel
theorem dL_law_1359 : decode cL_law 1359 = .ok (.iaload, 1) := by decide +kernel
theorem dL_law_1360 : decode cL_law 1360 = .ok (.invokevirtual 203, 3) := by decide +kernel
theorem dL_law_1363 : decode cL_law 1363 = .ok (.istore 6, 2) := by decide +kernel
theorem dL_law_1365 : decode cL_law 1365 = .ok (.aload_n 2, 1) := by decide +kernel
theorem dL_law_1366 : decode cL_law 1366 = .ok (.invokevirtual 141, 3) := by decide +kernel
theorem dL_law_1369 : decode cL_law 1369 = .ok (.iload 5, 2) := by decide +kernel
theorem dL_law_1371 : decode cL_law 1371 = .ok (.if_icmp .eq 5, 3) := by decide +kernel
theorem dL_law_1374 : decode cL_law 1374 = .ok (.iconst 0, 1) := by decide +kernel
theorem dL_law_1375 : decode cL_law 1375 = .ok (.ireturn, 1) := by decide +kernel
theorem dL_law_1376 : decode cL_law 1376 = .ok (.iload 5, 2) := by decide +kernel
theorem dL_law_1378 : decode cL_law 1378 = .ok (.ifCond .ne 15, 3) := by decide +kernel
theorem dL_law_1381 : decode cL_law 1381 = .ok (.aload_n 3, 1) := by decide +kernel
theorem dL_law_1382 : decode cL_law 1382 = .ok (.iconst 0, 1) := by decide +kernel
theorem dL_law_1383 : decode cL_law 1383 = .ok (.laload, 1) := by decide +kernel
theorem dL_law_1384 : decode cL_law 1384 = .ok (.iload 6, 2) := by decide +kernel
theorem dL_law_1386 : decode cL_law 1386 = .ok (.i2l, 1) := by decide +kernel
theorem dL_law_1387 : decode cL_law 1387 = .ok (.lcmp, 1) := by decide +kernel
theorem dL_law_1388 : decode cL_law 1388 = .ok (.ifCond .eq 5, 3) := by decide +kernel
theorem dL_law_1391 : decode cL_law 1391 = .ok (.iconst 0, 1) := by decide +kernel
theorem dL_law_1392 : decode cL_law 1392 = .ok (.ireturn, 1) := by decide +kernel
theorem dL_law_1393 : decode cL_law 1393 = .ok (.goto 1103, 3) := by decide +kernel
theorem dL_law_1396 : decode cL_law 1396 = .ok (.aload_n 1, 1) := by decide +kernel
theorem dL_law_1397 : decode cL_law 1397 = .ok (.aload_n 3, 1) := by decide +kernel
theorem dL_law_1398 : decode cL_law 1398 = .ok (.invokestatic 204, 3) := by decide +kernel
theorem dL_law_1401 : decode cL_law 1401 = .ok (.istore 5, 2) := by decide +kernel
theorem dL_law_1403 : decode cL_law 1403 = .ok (.aload_n 2, 1) := by decide +kernel
theorem dL_law_1404 : decode cL_law 1404 = .ok (.invokevirtual 207, 3) := by decide +kernel
theorem dL_law_1407 : decode cL_law 1407 = .ok (.istore 6, 2) := by decide +kernel
theorem dL_law_1409 : decode cL_law 1409 = .ok (.aload_n 2, 1) := by decide +kernel
theorem dL_law_1410 : decode cL_law 1410 = .ok (.invokevirtual 141, 3) := by decide +kernel
theorem dL_law_1413 : decode cL_law 1413 = .ok (.iload 5, 2) := by decide +kernel
theorem dL_law_1415 : decode cL_law 1415 = .ok (.if_icmp .eq 5, 3) := by decide +kernel
theorem dL_law_1418 : decode cL_law 1418 = .ok (.iconst 0, 1) := by decide +kernel
theorem dL_law_1419 : decode cL_law 1419 = .ok (.ireturn, 1) := by decide +kernel
theorem dL_law_1420 : decode cL_law 1420 = .ok (.iload 5, 2) := by decide +kernel
theorem dL_law_1422 : decode cL_law 1422 = .ok (.ifCond .ne 15, 3) := by decide +kernel
theorem dL_law_1425 : decode cL_law 1425 = .ok (.aload_n 3, 1) := by decide +kernel
theorem dL_law_1426 : decode cL_law 1426 = .ok (.iconst 0, 1) := by decide +kernel
theorem dL_law_1427 : decode cL_law 1427 = .ok (.laload, 1) := by decide +kernel
theorem dL_law_1428 : decode cL_law 1428 = .ok (.iload 6, 2) := by decide +kernel
theorem dL_law_1430 : decode cL_law 1430 = .ok (.i2l, 1) := by decide +kernel
theorem dL_law_1431 : decode cL_law 1431 = .ok (.lcmp, 1) := by decide +kernel
theorem dL_law_1432 : decode cL_law 1432 = .ok (.ifCond .eq 5, 3) := by decide +kernel
theorem dL_law_1435 : decode cL_law 1435 = .ok (.iconst 0, 1) := by decide +kernel
theorem dL_law_1436 : decode cL_law 1436 = .ok (.ireturn, 1) := by decide +kernel
theorem dL_law_1437 : decode cL_law 1437 = .ok (.goto 1059, 3) := by decide +kernel
theorem dL_law_1440 : decode cL_law 1440 = .ok (.aload_n 1, 1) := by decide +kernel
theorem dL_law_1441 : decode cL_law 1441 = .ok (.invokevirtual 208, 3) := by decide +kernel
theorem dL_law_1444 : decode cL_law 1444 = .ok (.aload_n 2, 1) := by decide +kernel
theorem dL_law_1445 : decode cL_law 1445 = .ok (.invokevirtual 211, 3) := by decide +kernel
theorem dL_law_1448 : decode cL_law 1448 = .ok (.if_icmp .eq 1048, 3) := by decide +kernel
theorem dL_law_1451 : decode cL_law 1451 = .ok (.iconst 0, 1) := by decide +kernel
theorem dL_law_1452 : decode cL_law 1452 = .ok (.ireturn, 1) := by decide +kernel
theorem dL_law_1453 : decode cL_law 1453 = .ok (.aload_n 1, 1) := by decide +kernel
theorem dL_law_1454 : decode cL_law 1454 = .ok (.aload_n 0, 1) := by decide +kernel
theorem dL_law_1455 : decode cL_law 1455 = .ok (.iload 4, 2) := by decide +kernel
theorem dL_law_1457 : decode cL_law 1457 = .ok (.iconst 1, 1) := by decide +kernel
theorem dL_law_1458 : decode cL_law 1458 = .ok (.iadd, 1) := by decide +kernel
theorem dL_law_1459 : decode cL_law 1459 = .ok (.iaload, 1) := by decide +kernel
theorem dL_law_1460 : decode cL_law 1460 = .ok (.aload_n 3, 1) := by decide +kernel
theorem dL_law_1461 : decode cL_law 1461 = .ok (.invokestatic 212, 3) := by decide +kernel
theorem dL_law_1464 : decode cL_law 1464 = .ok (.istore 5, 2) := by decide +kernel
theorem dL_law_1466 : decode cL_law 1466 = .ok (.aload_n 2, 1) := by decide +kernel
theorem dL_law_1467 : decode cL_law 1467 = .ok (.aload_n 0, 1) := by decide +kernel
theorem dL_law_1468 : decode cL_law 1468 = .ok (.iload 4, 2) := by decide +kernel
theorem dL_law_1470 : decode cL_law 1470 = .ok (.iconst 1, 1) := by decide +kernel
theorem dL_law_1471 : decode cL_law 1471 = .ok (.iadd, 1) := by decide +kernel
theorem dL_law_1472 : decode cL_law 1472 = .ok (.iaload, 1) := by decide +kernel
theorem dL_law_1473 : decode cL_law 1473 = .ok (.invokevirtual 214, 3) := by decide +kernel
theorem dL_law_1476 : decode cL_law 1476 = .ok (.istore 6, 2) := by decide +kernel
theorem dL_law_1478 : decode cL_law 1478 = .ok (.aload_n 2, 1) := by decide +kernel
theorem dL_law_1479 : decode cL_law 1479 = .ok (.invokevirtual 141, 3) := by decide +kernel
theorem dL_law_1482 : decode cL_law 1482 = .ok (.iload 5, 2) := by decide +kernel
theorem dL_law_1484 : decode cL_law 1484 = .ok (.if_icmp .eq 5, 3) := by decide +kernel
theorem dL_law_1487 : decode cL_law 1487 = .ok (.iconst 0, 1) := by decide +kernel
theorem dL_law_1488 : decode cL_law 1488 = .ok (.ireturn, 1) := by decide +kernel
theorem dL_law_1489 : decode cL_law 1489 = .ok (.iload 5, 2) := by decide +kernel
theorem dL_law_1491 : decode cL_law 1491 = .ok (.ifCond .ne 15, 3) := by decide +kernel
theorem dL_law_1494 : decode cL_law 1494 = .ok (.aload_n 3, 1) := by decide +kernel
theorem dL_law_1495 : decode cL_law 1495 = .ok (.iconst 0, 1) := by decide +kernel
theorem dL_law_1496 : decode cL_law 1496 = .ok (.laload, 1) := by decide +kernel
theorem dL_law_1497 : decode cL_law 1497 = .ok (.iload 6, 2) := by decide +kernel
theorem dL_law_1499 : decode cL_law 1499 = .ok (.i2l, 1) := by decide +kernel
theorem dL_law_1500 : decode cL_law 1500 = .ok (.lcmp, 1) := by decide +kernel
theorem dL_law_1501 : decode cL_law 1501 = .ok (.ifCond .eq 5, 3) := by decide +kernel
theorem dL_law_1504 : decode cL_law 1504 = .ok (.iconst 0, 1) := by decide +kernel
theorem dL_law_1505 : decode cL_law 1505 = .ok (.ireturn, 1) := by decide +kernel
theorem dL_law_1506 : decode cL_law 1506 = .ok (.goto 990, 3) := by decide +kernel
theorem dL_law_1509 : decode cL_law 1509 = .ok (.aload_n 1, 1) := by decide +kernel
theorem dL_law_1510 : decode cL_law 1510 = .ok (.aload_n 0, 1) := by decide +kernel
theorem dL_law_1511 : decode cL_law 1511 = .ok (.iload 4, 2) := by decide +kernel
theorem dL_law_1513 : decode cL_law 1513 = .ok (.iconst 1, 1) := by decide +kernel
theorem dL_law_1514 : decode cL_law 1514 = .ok (.iadd, 1) := by decide +kernel
theorem dL_law_1515 : decode cL_law 1515 = .ok (.iaload, 1) := by decide +kernel
theorem dL_law_1516 : decode cL_law 1516 = .ok (.aload_n 3, 1) := by decide +kernel
theorem dL_law_1517 : decode cL_law 1517 = .ok (.invokestatic 215, 3) := by decide +kernel
theorem dL_law_1520 : decode cL_law 1520 = .ok (.istore 5, 2) := by decide +kernel
theorem dL_law_1522 : decode cL_law 1522 = .ok (.aload_n 2, 1) := by decide +kernel
theorem dL_law_1523 : decode cL_law 1523 = .ok (.aload_n 0, 1) := by decide +kernel
theorem dL_law_1524 : decode cL_law 1524 = .ok (.iload 4, 2) := by decide +kernel
theorem dL_law_1526 : decode cL_law 1526 = .ok (.iconst 1, 1) := by decide +kernel
theorem dL_law_1527 : decode cL_law 1527 = .ok (.iadd, 1) := by decide +kernel
theorem dL_law_1528 : decode cL_law 1528 = .ok (.iaload, 1) := by decide +kernel
theorem dL_law_1529 : decode cL_law 1529 = .ok (.invokevirtual 217, 3) := by decide +kernel
theorem dL_law_1532 : decode cL_law 1532 = .ok (.istore 6, 2) := by decide +kernel
theorem dL_law_1534 : decode cL_law 1534 = .ok (.aload_n 2, 1) := by decide +kernel
theorem dL_law_1535 : decode cL_law 1535 = .ok (.invokevirtual 141, 3) := by decide +kernel
theorem dL_law_1538 : decode cL_law 1538 = .ok (.iload 5, 2) := by decide +kernel
theorem dL_law_1540 : decode cL_law 1540 = .ok (.if_icmp .eq 5, 3) := by decide +kernel
theorem dL_law_1543 : decode cL_law 1543 = .ok (.iconst 0, 1) := by decide +kernel
theorem dL_law_1544 : decode cL_law 1544 = .ok (.ireturn, 1) := by decide +kernel
theorem dL_law_1545 : decode cL_law 1545 = .ok (.iload 5, 2) := by decide +kernel
theorem dL_law_1547 : decode cL_law 1547 = .ok (.ifCond .ne 15, 3) := by decide +kernel
theorem dL_law_1550 : decode cL_law 1550 = .ok (.aload_n 3, 1) := by decide +kernel
theorem dL_law_1551 : decode cL_law 1551 = .ok (.iconst 0, 1) := by decide +kernel
theorem dL_law_1552 : decode cL_law 1552 = .ok (.laload, 1) := by decide +kernel
theorem dL_law_1553 : decode cL_law 1553 = .ok (.iload 6, 2) := by decide +kernel
theorem dL_law_1555 : decode cL_law 1555 = .ok (.i2l, 1) := by decide +kernel
theorem dL_law_1556 : decode cL_law 1556 = .ok (.lcmp, 1) := by decide +kernel
theorem dL_law_1557 : decode cL_law 1557 = .ok (.ifCond .eq 5, 3) := by decide +kernel
theorem dL_law_1560 : decode cL_law 1560 = .ok (.iconst 0, 1) := by decide +kernel
theorem dL_law_1561 : decode cL_law 1561 = .ok (.ireturn, 1) := by decide +kernel
theorem dL_law_1562 : decode cL_law 1562 = .ok (.goto 934, 3) := by decide +kernel
theorem dL_law_1565 : decode cL_law 1565 = .ok (.aload_n 1, 1) := by decide +kernel
theorem dL_law_1566 : decode cL_law 1566 = .ok (.aload_n 0, 1) := by decide +kernel
theorem dL_law_1567 : decode cL_law 1567 = .ok (.iload 4, 2) := by decide +kernel
theorem dL_law_1569 : decode cL_law 1569 = .ok (.iconst 1, 1) := by decide +kernel
theorem dL_law_1570 : decode cL_law 1570 = .ok (.iadd, 1) := by decide +kernel
theorem dL_law_1571 : decode cL_law 1571 = .ok (.iaload, 1) := by decide +kernel
theorem dL_law_1572 : decode cL_law 1572 = .ok (.aload_n 3, 1) := by decide +kernel
theorem dL_law_1573 : decode cL_law 1573 = .ok (.invokestatic 218, 3) := by decide +kernel
theorem dL_law_1576 : decode cL_law 1576 = .ok (.istore 5, 2) := by decide +kernel
theorem dL_law_1578 : decode cL_law 1578 = .ok (.aload_n 2, 1) := by decide +kernel
theorem dL_law_1579 : decode cL_law 1579 = .ok (.aload_n 0, 1) := by decide +kernel
theorem dL_law_1580 : decode cL_law 1580 = .ok (.iload 4, 2) := by decide +kernel
theorem dL_law_1582 : decode cL_law 1582 = .ok (.iconst 1, 1) := by decide +kernel
theorem dL_law_1583 : decode cL_law 1583 = .ok (.iadd, 1) := by decide +kernel
theorem dL_law_1584 : decode cL_law 1584 = .ok (.iaload, 1) := by decide +kernel
theorem dL_law_1585 : decode cL_law 1585 = .ok (.invokevirtual 220, 3) := by decide +kernel
theorem dL_law_1588 : decode cL_law 1588 = .ok (.istore 6, 2) := by decide +kernel
theorem dL_law_1590 : decode cL_law 1590 = .ok (.aload_n 2, 1) := by decide +kernel
theorem dL_law_1591 : decode cL_law 1591 = .ok (.invokevirtual 141, 3) := by decide +kernel
theorem dL_law_1594 : decode cL_law 1594 = .ok (.iload 5, 2) := by decide +kernel
theorem dL_law_1596 : decode cL_law 1596 = .ok (.if_icmp .eq 5, 3) := by decide +kernel
theorem dL_law_1599 : decode cL_law 1599 = .ok (.iconst 0, 1) := by decide +kernel
theorem dL_law_1600 : decode cL_law 1600 = .ok (.ireturn, 1) := by decide +kernel
theorem dL_law_1601 : decode cL_law 1601 = .ok (.iload 5, 2) := by decide +kernel
theorem dL_law_1603 : decode cL_law 1603 = .ok (.ifCond .ne 15, 3) := by decide +kernel
theorem dL_law_1606 : decode cL_law 1606 = .ok (.aload_n 3, 1) := by decide +kernel
theorem dL_law_1607 : decode cL_law 1607 = .ok (.iconst 0, 1) := by decide +kernel
theorem dL_law_1608 : decode cL_law 1608 = .ok (.laload, 1) := by decide +kernel
theorem dL_law_1609 : decode cL_law 1609 = .ok (.iload 6, 2) := by decide +kernel
theorem dL_law_1611 : decode cL_law 1611 = .ok (.i2l, 1) := by decide +kernel
theorem dL_law_1612 : decode cL_law 1612 = .ok (.lcmp, 1) := by decide +kernel
theorem dL_law_1613 : decode cL_law 1613 = .ok (.ifCond .eq 5, 3) := by decide +kernel
theorem dL_law_1616 : decode cL_law 1616 = .ok (.iconst 0, 1) := by decide +kernel
theorem dL_law_1617 : decode cL_law 1617 = .ok (.ireturn, 1) := by decide +kernel
theorem dL_law_1618 : decode cL_law 1618 = .ok (.goto 878, 3) := by decide +kernel
theorem dL_law_1621 : decode cL_law 1621 = .ok (.aload_n 1, 1) := by decide +kernel
theorem dL_law_1622 : decode cL_law 1622 = .ok (.aload_n 0, 1) := by decide +kernel
theorem dL_law_1623 : decode cL_law 1623 = .ok (.iload 4, 2) := by decide +kernel
theorem dL_law_1625 : decode cL_law 1625 = .ok (.iconst 1, 1) := by decide +kernel
theorem dL_law_1626 : decode cL_law 1626 = .ok (.iadd, 1) := by decide +kernel
theorem dL_law_1627 : decode cL_law 1627 = .ok (.iaload, 1) := by decide +kernel
theorem dL_law_1628 : decode cL_law 1628 = .ok (.aload_n 3, 1) := by decide +kernel
theorem dL_law_1629 : decode cL_law 1629 = .ok (.invokestatic 221, 3) := by decide +kernel
theorem dL_law_1632 : decode cL_law 1632 = .ok (.istore 5, 2) := by decide +kernel
theorem dL_law_1634 : decode cL_law 1634 = .ok (.aload_n 2, 1) := by decide +kernel
theorem dL_law_1635 : decode cL_law 1635 = .ok (.aload_n 0, 1) := by decide +kernel
theorem dL_law_1636 : decode cL_law 1636 = .ok (.iload 4, 2) := by decide +kernel
theorem dL_law_1638 : decode cL_law 1638 = .ok (.iconst 1, 1) := by decide +kernel
theorem dL_law_1639 : decode cL_law 1639 = .ok (.iadd, 1) := by decide +kernel
theorem dL_law_1640 : decode cL_law 1640 = .ok (.iaload, 1) := by decide +kernel
theorem dL_law_1641 : decode cL_law 1641 = .ok (.invokevirtual 223, 3) := by decide +kernel
theorem dL_law_1644 : decode cL_law 1644 = .ok (.istore 6, 2) := by decide +kernel
theorem dL_law_1646 : decode cL_law 1646 = .ok (.aload_n 2, 1) := by decide +kernel
theorem dL_law_1647 : decode cL_law 1647 = .ok (.invokevirtual 141, 3) := by decide +kernel
theorem dL_law_1650 : decode cL_law 1650 = .ok (.iload 5, 2) := by decide +kernel
theorem dL_law_1652 : decode cL_law 1652 = .ok (.if_icmp .eq 5, 3) := by decide +kernel
theorem dL_law_1655 : decode cL_law 1655 = .ok (.iconst 0, 1) := by decide +kernel
theorem dL_law_1656 : decode cL_law 1656 = .ok (.ireturn, 1) := by decide +kernel
theorem dL_law_1657 : decode cL_law 1657 = .ok (.iload 5, 2) := by decide +kernel
theorem dL_law_1659 : decode cL_law 1659 = .ok (.ifCond .ne 15, 3) := by decide +kernel
theorem dL_law_1662 : decode cL_law 1662 = .ok (.aload_n 3, 1) := by decide +kernel
theorem dL_law_1663 : decode cL_law 1663 = .ok (.iconst 0, 1) := by decide +kernel
theorem dL_law_1664 : decode cL_law 1664 = .ok (.laload, 1) := by decide +kernel
theorem dL_law_1665 : decode cL_law 1665 = .ok (.iload 6, 2) := by decide +kernel
theorem dL_law_1667 : decode cL_law 1667 = .ok (.i2l, 1) := by decide +kernel
theorem dL_law_1668 : decode cL_law 1668 = .ok (.lcmp, 1) := by decide +kernel
theorem dL_law_1669 : decode cL_law 1669 = .ok (.ifCond .eq 5, 3) := by decide +kernel
theorem dL_law_1672 : decode cL_law 1672 = .ok (.iconst 0, 1) := by decide +kernel
theorem dL_law_1673 : decode cL_law 1673 = .ok (.ireturn, 1) := by decide +kernel
theorem dL_law_1674 : decode cL_law 1674 = .ok (.goto 822, 3) := by decide +kernel
theorem dL_law_1677 : decode cL_law 1677 = .ok (.aload_n 1, 1) := by decide +kernel
theorem dL_law_1678 : decode cL_law 1678 = .ok (.aload_n 0, 1) := by decide +kernel
theorem dL_law_1679 : decode cL_law 1679 = .ok (.iload 4, 2) := by decide +kernel
theorem dL_law_1681 : decode cL_law 1681 = .ok (.iconst 1, 1) := by decide +kernel
theorem dL_law_1682 : decode cL_law 1682 = .ok (.iadd, 1) := by decide +kernel
theorem dL_law_1683 : decode cL_law 1683 = .ok (.iaload, 1) := by decide +kernel
theorem dL_law_1684 : decode cL_law 1684 = .ok (.aload_n 0, 1) := by decide +kernel
theorem dL_law_1685 : decode cL_law 1685 = .ok (.iload 4, 2) := by decide +kernel
theorem dL_law_1687 : decode cL_law 1687 = .ok (.iconst 2, 1) := by decide +kernel
theorem dL_law_1688 : decode cL_law 1688 = .ok (.iadd, 1) := by decide +kernel
theorem dL_law_1689 : decode cL_law 1689 = .ok (.iaload, 1) := by decide +kernel
theorem dL_law_1690 : decode cL_law 1690 = .ok (.aload_n 3, 1) := by decide +kernel
theorem dL_law_1691 : decode cL_law 1691 = .ok (.invokestatic 224, 3) := by decide +kernel
theorem dL_law_1694 : decode cL_law 1694 = .ok (.istore 5, 2) := by decide +kernel
theorem dL_law_1696 : decode cL_law 1696 = .ok (.aload_n 2, 1) := by decide +kernel
theorem dL_law_1697 : decode cL_law 1697 = .ok (.aload_n 0, 1) := by decide +kernel
theorem dL_law_1698 : decode cL_law 1698 = .ok (.iload 4, 2) := by decide +kernel
theorem dL_law_1700 : decode cL_law 1700 = .ok (.iconst 1, 1) := by decide +kernel
theorem dL_law_1701 : decode cL_law 1701 = .ok (.iadd, 1) := by decide +kernel
theorem dL_law_1702 : decode cL_law 1702 = .ok (.iaload, 1) := by decide +kernel
theorem dL_law_1703 : decode cL_law 1703 = .ok (.aload_n 0, 1) := by decide +kernel
theorem dL_law_1704 : decode cL_law 1704 = .ok (.iload 4, 2) := by decide +kernel
theorem dL_law_1706 : decode cL_law 1706 = .ok (.iconst 2, 1) := by decide +kernel
theorem dL_law_1707 : decode cL_law 1707 = .ok (.iadd, 1) := by decide +kernel
theorem dL_law_1708 : decode cL_law 1708 = .ok (.iaload, 1) := by decide +kernel
theorem dL_law_1709 : decode cL_law 1709 = .ok (.invokevirtual 226, 3) := by decide +kernel
theorem dL_law_1712 : decode cL_law 1712 = .ok (.istore 6, 2) := by decide +kernel
theorem dL_law_1714 : decode cL_law 1714 = .ok (.aload_n 2, 1) := by decide +kernel
theorem dL_law_1715 : decode cL_law 1715 = .ok (.invokevirtual 141, 3) := by decide +kernel
theorem dL_law_1718 : decode cL_law 1718 = .ok (.iload 5, 2) := by decide +kernel
theorem dL_law_1720 : decode cL_law 1720 = .ok (.if_icmp .eq 5, 3) := by decide +kernel
theorem dL_law_1723 : decode cL_law 1723 = .ok (.iconst 0, 1) := by decide +kernel
theorem dL_law_1724 : decode cL_law 1724 = .ok (.ireturn, 1) := by decide +kernel
theorem dL_law_1725 : decode cL_law 1725 = .ok (.iload 5, 2) := by decide +kernel
theorem dL_law_1727 : decode cL_law 1727 = .ok (.ifCond .ne 15, 3) := by decide +kernel
theorem dL_law_1730 : decode cL_law 1730 = .ok (.aload_n 3, 1) := by decide +kernel
theorem dL_law_1731 : decode cL_law 1731 = .ok (.iconst 0, 1) := by decide +kernel
theorem dL_law_1732 : decode cL_law 1732 = .ok (.laload, 1) := by decide +kernel
theorem dL_law_1733 : decode cL_law 1733 = .ok (.iload 6, 2) := by decide +kernel
theorem dL_law_1735 : decode cL_law 1735 = .ok (.i2l, 1) := by decide +kernel
theorem dL_law_1736 : decode cL_law 1736 = .ok (.lcmp, 1) := by decide +kernel
theorem dL_law_1737 : decode cL_law 1737 = .ok (.ifCond .eq 5, 3) := by decide +kernel
theorem dL_law_1740 : decode cL_law 1740 = .ok (.iconst 0, 1) := by decide +kernel
theorem dL_law_1741 : decode cL_law 1741 = .ok (.ireturn, 1) := by decide +kernel
theorem dL_law_1742 : decode cL_law 1742 = .ok (.goto 754, 3) := by decide +kernel
theorem dL_law_1745 : decode cL_law 1745 = .ok (.aload_n 1, 1) := by decide +kernel
theorem dL_law_1746 : decode cL_law 1746 = .ok (.aload_n 0, 1) := by decide +kernel
theorem dL_law_1747 : decode cL_law 1747 = .ok (.iload 4, 2) := by decide +kernel
theorem dL_law_1749 : decode cL_law 1749 = .ok (.iconst 1, 1) := by decide +kernel
theorem dL_law_1750 : decode cL_law 1750 = .ok (.iadd, 1) := by decide +kernel
theorem dL_law_1751 : decode cL_law 1751 = .ok (.iaload, 1) := by decide +kernel
theorem dL_law_1752 : decode cL_law 1752 = .ok (.aload_n 0, 1) := by decide +kernel
theorem dL_law_1753 : decode cL_law 1753 = .ok (.iload 4, 2) := by decide +kernel
theorem dL_law_1755 : decode cL_law 1755 = .ok (.iconst 2, 1) := by decide +kernel
theorem dL_law_1756 : decode cL_law 1756 = .ok (.iadd, 1) := by decide +kernel
theorem dL_law_1757 : decode cL_law 1757 = .ok (.iaload, 1) := by decide +kernel
theorem dL_law_1758 : decode cL_law 1758 = .ok (.aload_n 3, 1) := by decide +kernel
theorem dL_law_1759 : decode cL_law 1759 = .ok (.invokestatic 227, 3) := by decide +kernel
theorem dL_law_1762 : decode cL_law 1762 = .ok (.istore 5, 2) := by decide +kernel
theorem dL_law_1764 : decode cL_law 1764 = .ok (.aload_n 2, 1) := by decide +kernel
theorem dL_law_1765 : decode cL_law 1765 = .ok (.aload_n 0, 1) := by decide +kernel
theorem dL_law_1766 : decode cL_law 1766 = .ok (.iload 4, 2) := by decide +kernel
theorem dL_law_1768 : decode cL_law 1768 = .ok (.iconst 1, 1) := by decide +kernel
theorem dL_law_1769 : decode cL_law 1769 = .ok (.iadd, 1) := by decide +kernel
theorem dL_law_1770 : decode cL_law 1770 = .ok (.iaload, 1) := by decide +kernel
theorem dL_law_1771 : decode cL_law 1771 = .ok (.aload_n 0, 1) := by decide +kernel
theorem dL_law_1772 : decode cL_law 1772 = .ok (.iload 4, 2) := by decide +kernel
theorem dL_law_1774 : decode cL_law 1774 = .ok (.iconst 2, 1) := by decide +kernel
theorem dL_law_1775 : decode cL_law 1775 = .ok (.iadd, 1) := by decide +kernel
theorem dL_law_1776 : decode cL_law 1776 = .ok (.iaload, 1) := by decide +kernel
theorem dL_law_1777 : decode cL_law 1777 = .ok (.invokevirtual 229, 3) := by decide +kernel
theorem dL_law_1780 : decode cL_law 1780 = .ok (.istore 6, 2) := by decide +kernel
theorem dL_law_1782 : decode cL_law 1782 = .ok (.aload_n 2, 1) := by decide +kernel
theorem dL_law_1783 : decode cL_law 1783 = .ok (.invokevirtual 141, 3) := by decide +kernel
theorem dL_law_1786 : decode cL_law 1786 = .ok (.iload 5, 2) := by decide +kernel
theorem dL_law_1788 : decode cL_law 1788 = .ok (.if_icmp .eq 5, 3) := by decide +kernel
theorem dL_law_1791 : decode cL_law 1791 = .ok (.iconst 0, 1) := by decide +kernel
theorem dL_law_1792 : decode cL_law 1792 = .ok (.ireturn, 1) := by decide +kernel
theorem dL_law_1793 : decode cL_law 1793 = .ok (.iload 5, 2) := by decide +kernel
theorem dL_law_1795 : decode cL_law 1795 = .ok (.ifCond .ne 15, 3) := by decide +kernel
theorem dL_law_1798 : decode cL_law 1798 = .ok (.aload_n 3, 1) := by decide +kernel
theorem dL_law_1799 : decode cL_law 1799 = .ok (.iconst 0, 1) := by decide +kernel
theorem dL_law_1800 : decode cL_law 1800 = .ok (.laload, 1) := by decide +kernel
theorem dL_law_1801 : decode cL_law 1801 = .ok (.iload 6, 2) := by decide +kernel
theorem dL_law_1803 : decode cL_law 1803 = .ok (.i2l, 1) := by decide +kernel
theorem dL_law_1804 : decode cL_law 1804 = .ok (.lcmp, 1) := by decide +kernel
theorem dL_law_1805 : decode cL_law 1805 = .ok (.ifCond .eq 5, 3) := by decide +kernel
theorem dL_law_1808 : decode cL_law 1808 = .ok (.iconst 0, 1) := by decide +kernel
theorem dL_law_1809 : decode cL_law 1809 = .ok (.ireturn, 1) := by decide +kernel
theorem dL_law_1810 : decode cL_law 1810 = .ok (.goto 686, 3) := by decide +kernel
theorem dL_law_1813 : decode cL_law 1813 = .ok (.aload_n 1, 1) := by decide +kernel
theorem dL_law_1814 : decode cL_law 1814 = .ok (.aload_n 0, 1) := by decide +kernel
theorem dL_law_1815 : decode cL_law 1815 = .ok (.iload 4, 2) := by decide +kernel
theorem dL_law_1817 : decode cL_law 1817 = .ok (.iconst 1, 1) := by decide +kernel
theorem dL_law_1818 : decode cL_law 1818 = .ok (.iadd, 1) := by decide +kernel
theorem dL_law_1819 : decode cL_law 1819 = .ok (.iaload, 1) := by decide +kernel
theorem dL_law_1820 : decode cL_law 1820 = .ok (.aload_n 0, 1) := by decide +kernel
theorem dL_law_1821 : decode cL_law 1821 = .ok (.iload 4, 2) := by decide +kernel
theorem dL_law_1823 : decode cL_law 1823 = .ok (.iconst 2, 1) := by decide +kernel
theorem dL_law_1824 : decode cL_law 1824 = .ok (.iadd, 1) := by decide +kernel
theorem dL_law_1825 : decode cL_law 1825 = .ok (.iaload, 1) := by decide +kernel
theorem dL_law_1826 : decode cL_law 1826 = .ok (.aload_n 3, 1) := by decide +kernel
theorem dL_law_1827 : decode cL_law 1827 = .ok (.invokestatic 230, 3) := by decide +kernel
theorem dL_law_1830 : decode cL_law 1830 = .ok (.istore 5, 2) := by decide +kernel
theorem dL_law_1832 : decode cL_law 1832 = .ok (.aload_n 2, 1) := by decide +kernel
theorem dL_law_1833 : decode cL_law 1833 = .ok (.aload_n 0, 1) := by decide +kernel
theorem dL_law_1834 : decode cL_law 1834 = .ok (.iload 4, 2) := by decide +kernel
theorem dL_law_1836 : decode cL_law 1836 = .ok (.iconst 1, 1) := by decide +kernel
theorem dL_law_1837 : decode cL_law 1837 = .ok (.iadd, 1) := by decide +kernel
theorem dL_law_1838 : decode cL_law 1838 = .ok (.iaload, 1) := by decide +kernel
theorem dL_law_1839 : decode cL_law 1839 = .ok (.aload_n 0, 1) := by decide +kernel
theorem dL_law_1840 : decode cL_law 1840 = .ok (.iload 4, 2) := by decide +kernel
theorem dL_law_1842 : decode cL_law 1842 = .ok (.iconst 2, 1) := by decide +kernel
theorem dL_law_1843 : decode cL_law 1843 = .ok (.iadd, 1) := by decide +kernel
theorem dL_law_1844 : decode cL_law 1844 = .ok (.iaload, 1) := by decide +kernel
theorem dL_law_1845 : decode cL_law 1845 = .ok (.invokevirtual 232, 3) := by decide +kernel
theorem dL_law_1848 : decode cL_law 1848 = .ok (.istore 6, 2) := by decide +kernel
theorem dL_law_1850 : decode cL_law 1850 = .ok (.aload_n 2, 1) := by decide +kernel
theorem dL_law_1851 : decode cL_law 1851 = .ok (.invokevirtual 141, 3) := by decide +kernel
theorem dL_law_1854 : decode cL_law 1854 = .ok (.iload 5, 2) := by decide +kernel
theorem dL_law_1856 : decode cL_law 1856 = .ok (.if_icmp .eq 5, 3) := by decide +kernel
theorem dL_law_1859 : decode cL_law 1859 = .ok (.iconst 0, 1) := by decide +kernel
theorem dL_law_1860 : decode cL_law 1860 = .ok (.ireturn, 1) := by decide +kernel
theorem dL_law_1861 : decode cL_law 1861 = .ok (.iload 5, 2) := by decide +kernel
theorem dL_law_1863 : decode cL_law 1863 = .ok (.ifCond .ne 15, 3) := by decide +kernel
theorem dL_law_1866 : decode cL_law 1866 = .ok (.aload_n 3, 1) := by decide +kernel
theorem dL_law_1867 : decode cL_law 1867 = .ok (.iconst 0, 1) := by decide +kernel
theorem dL_law_1868 : decode cL_law 1868 = .ok (.laload, 1) := by decide +kernel
theorem dL_law_1869 : decode cL_law 1869 = .ok (.iload 6, 2) := by decide +kernel
theorem dL_law_1871 : decode cL_law 1871 = .ok (.i2l, 1) := by decide +kernel
theorem dL_law_1872 : decode cL_law 1872 = .ok (.lcmp, 1) := by decide +kernel
theorem dL_law_1873 : decode cL_law 1873 = .ok (.ifCond .eq 5, 3) := by decide +kernel
theorem dL_law_1876 : decode cL_law 1876 = .ok (.iconst 0, 1) := by decide +kernel
theorem dL_law_1877 : decode cL_law 1877 = .ok (.ireturn, 1) := by decide +kernel
theorem dL_law_1878 : decode cL_law 1878 = .ok (.goto 618, 3) := by decide +kernel
theorem dL_law_1881 : decode cL_law 1881 = .ok (.aload_n 1, 1) := by decide +kernel
theorem dL_law_1882 : decode cL_law 1882 = .ok (.aload_n 0, 1) := by decide +kernel
theorem dL_law_1883 : decode cL_law 1883 = .ok (.iload 4, 2) := by decide +kernel
theorem dL_law_1885 : decode cL_law 1885 = .ok (.iconst 1, 1) := by decide +kernel
theorem dL_law_1886 : decode cL_law 1886 = .ok (.iadd, 1) := by decide +kernel
theorem dL_law_1887 : decode cL_law 1887 = .ok (.iaload, 1) := by decide +kernel
theorem dL_law_1888 : decode cL_law 1888 = .ok (.aload_n 0, 1) := by decide +kernel
theorem dL_law_1889 : decode cL_law 1889 = .ok (.iload 4, 2) := by decide +kernel
theorem dL_law_1891 : decode cL_law 1891 = .ok (.iconst 2, 1) := by decide +kernel
theorem dL_law_1892 : decode cL_law 1892 = .ok (.iadd, 1) := by decide +kernel
theorem dL_law_1893 : decode cL_law 1893 = .ok (.iaload, 1) := by decide +kernel
theorem dL_law_1894 : decode cL_law 1894 = .ok (.aload_n 3, 1) := by decide +kernel
theorem dL_law_1895 : decode cL_law 1895 = .ok (.invokestatic 233, 3) := by decide +kernel
theorem dL_law_1898 : decode cL_law 1898 = .ok (.istore 5, 2) := by decide +kernel
theorem dL_law_1900 : decode cL_law 1900 = .ok (.aload_n 2, 1) := by decide +kernel
theorem dL_law_1901 : decode cL_law 1901 = .ok (.aload_n 0, 1) := by decide +kernel
theorem dL_law_1902 : decode cL_law 1902 = .ok (.iload 4, 2) := by decide +kernel
theorem dL_law_1904 : decode cL_law 1904 = .ok (.iconst 1, 1) := by decide +kernel
theorem dL_law_1905 : decode cL_law 1905 = .ok (.iadd, 1) := by decide +kernel
theorem dL_law_1906 : decode cL_law 1906 = .ok (.iaload, 1) := by decide +kernel
theorem dL_law_1907 : decode cL_law 1907 = .ok (.aload_n 0, 1) := by decide +kernel
theorem dL_law_1908 : decode cL_law 1908 = .ok (.iload 4, 2) := by decide +kernel
theorem dL_law_1910 : decode cL_law 1910 = .ok (.iconst 2, 1) := by decide +kernel
theorem dL_law_1911 : decode cL_law 1911 = .ok (.iadd, 1) := by decide +kernel
theorem dL_law_1912 : decode cL_law 1912 = .ok (.iaload, 1) := by decide +kernel
theorem dL_law_1913 : decode cL_law 1913 = .ok (.invokevirtual 235, 3) := by decide +kernel
theorem dL_law_1916 : decode cL_law 1916 = .ok (.istore 6, 2) := by decide +kernel
theorem dL_law_1918 : decode cL_law 1918 = .ok (.aload_n 2, 1) := by decide +kernel
theorem dL_law_1919 : decode cL_law 1919 = .ok (.invokevirtual 141, 3) := by decide +kernel
theorem dL_law_1922 : decode cL_law 1922 = .ok (.iload 5, 2) := by decide +kernel
theorem dL_law_1924 : decode cL_law 1924 = .ok (.if_icmp .eq 5, 3) := by decide +kernel
theorem dL_law_1927 : decode cL_law 1927 = .ok (.iconst 0, 1) := by decide +kernel
theorem dL_law_1928 : decode cL_law 1928 = .ok (.ireturn, 1) := by decide +kernel
theorem dL_law_1929 : decode cL_law 1929 = .ok (.iload 5, 2) := by decide +kernel
theorem dL_law_1931 : decode cL_law 1931 = .ok (.ifCond .ne 15, 3) := by decide +kernel
theorem dL_law_1934 : decode cL_law 1934 = .ok (.aload_n 3, 1) := by decide +kernel
theorem dL_law_1935 : decode cL_law 1935 = .ok (.iconst 0, 1) := by decide +kernel
theorem dL_law_1936 : decode cL_law 1936 = .ok (.laload, 1) := by decide +kernel
theorem dL_law_1937 : decode cL_law 1937 = .ok (.iload 6, 2) := by decide +kernel
theorem dL_law_1939 : decode cL_law 1939 = .ok (.i2l, 1) := by decide +kernel
theorem dL_law_1940 : decode cL_law 1940 = .ok (.lcmp, 1) := by decide +kernel
theorem dL_law_1941 : decode cL_law 1941 = .ok (.ifCond .eq 5, 3) := by decide +kernel
theorem dL_law_1944 : decode cL_law 1944 = .ok (.iconst 0, 1) := by decide +kernel
theorem dL_law_1945 : decode cL_law 1945 = .ok (.ireturn, 1) := by decide +kernel
theorem dL_law_1946 : decode cL_law 1946 = .ok (.goto 550, 3) := by decide +kernel
theorem dL_law_1949 : decode cL_law 1949 = .ok (.aload_n 1, 1) := by decide +kernel
theorem dL_law_1950 : decode cL_law 1950 = .ok (.aload_n 0, 1) := by decide +kernel
theorem dL_law_1951 : decode cL_law 1951 = .ok (.iload 4, 2) := by decide +kernel
theorem dL_law_1953 : decode cL_law 1953 = .ok (.iconst 1, 1) := by decide +kernel
theorem dL_law_1954 : decode cL_law 1954 = .ok (.iadd, 1) := by decide +kernel
theorem dL_law_1955 : decode cL_law 1955 = .ok (.iaload, 1) := by decide +kernel
theorem dL_law_1956 : decode cL_law 1956 = .ok (.aload_n 0, 1) := by decide +kernel
theorem dL_law_1957 : decode cL_law 1957 = .ok (.iload 4, 2) := by decide +kernel
theorem dL_law_1959 : decode cL_law 1959 = .ok (.iconst 2, 1) := by decide +kernel
theorem dL_law_1960 : decode cL_law 1960 = .ok (.iadd, 1) := by decide +kernel
theorem dL_law_1961 : decode cL_law 1961 = .ok (.iaload, 1) := by decide +kernel
theorem dL_law_1962 : decode cL_law 1962 = .ok (.aload_n 3, 1) := by decide +kernel
theorem dL_law_1963 : decode cL_law 1963 = .ok (.invokestatic 236, 3) := by decide +kernel
theorem dL_law_1966 : decode cL_law 1966 = .ok (.istore 5, 2) := by decide +kernel
theorem dL_law_1968 : decode cL_law 1968 = .ok (.aload_n 2, 1) := by decide +kernel
theorem dL_law_1969 : decode cL_law 1969 = .ok (.aload_n 0, 1) := by decide +kernel
theorem dL_law_1970 : decode cL_law 1970 = .ok (.iload 4, 2) := by decide +kernel
theorem dL_law_1972 : decode cL_law 1972 = .ok (.iconst 1, 1) := by decide +kernel
theorem dL_law_1973 : decode cL_law 1973 = .ok (.iadd, 1) := by decide +kernel
theorem dL_law_1974 : decode cL_law 1974 = .ok (.iaload, 1) := by decide +kernel
theorem dL_law_1975 : decode cL_law 1975 = .ok (.aload_n 0, 1) := by decide +kernel
theorem dL_law_1976 : decode cL_law 1976 = .ok (.iload 4, 2) := by decide +kernel
theorem dL_law_1978 : decode cL_law 1978 = .ok (.iconst 2, 1) := by decide +kernel
theorem dL_law_1979 : decode cL_law 1979 = .ok (.iadd, 1) := by decide +kernel
theorem dL_law_1980 : decode cL_law 1980 = .ok (.iaload, 1) := by decide +kernel
theorem dL_law_1981 : decode cL_law 1981 = .ok (.invokevirtual 238, 3) := by decide +kernel
theorem dL_law_1984 : decode cL_law 1984 = .ok (.istore 6, 2) := by decide +kernel
theorem dL_law_1986 : decode cL_law 1986 = .ok (.aload_n 2, 1) := by decide +kernel
theorem dL_law_1987 : decode cL_law 1987 = .ok (.invokevirtual 141, 3) := by decide +kernel
theorem dL_law_1990 : decode cL_law 1990 = .ok (.iload 5, 2) := by decide +kernel
theorem dL_law_1992 : decode cL_law 1992 = .ok (.if_icmp .eq 5, 3) := by decide +kernel
theorem dL_law_1995 : decode cL_law 1995 = .ok (.iconst 0, 1) := by decide +kernel
theorem dL_law_1996 : decode cL_law 1996 = .ok (.ireturn, 1) := by decide +kernel
theorem dL_law_1997 : decode cL_law 1997 = .ok (.iload 5, 2) := by decide +kernel
theorem dL_law_1999 : decode cL_law 1999 = .ok (.ifCond .ne 15, 3) := by decide +kernel
theorem dL_law_2002 : decode cL_law 2002 = .ok (.aload_n 3, 1) := by decide +kernel
theorem dL_law_2003 : decode cL_law 2003 = .ok (.iconst 0, 1) := by decide +kernel
theorem dL_law_2004 : decode cL_law 2004 = .ok (.laload, 1) := by decide +kernel
theorem dL_law_2005 : decode cL_law 2005 = .ok (.iload 6, 2) := by decide +kernel
theorem dL_law_2007 : decode cL_law 2007 = .ok (.i2l, 1) := by decide +kernel
theorem dL_law_2008 : decode cL_law 2008 = .ok (.lcmp, 1) := by decide +kernel
theorem dL_law_2009 : decode cL_law 2009 = .ok (.ifCond .eq 5, 3) := by decide +kernel
theorem dL_law_2012 : decode cL_law 2012 = .ok (.iconst 0, 1) := by decide +kernel
theorem dL_law_2013 : decode cL_law 2013 = .ok (.ireturn, 1) := by decide +kernel
theorem dL_law_2014 : decode cL_law 2014 = .ok (.goto 482, 3) := by decide +kernel
theorem dL_law_2017 : decode cL_law 2017 = .ok (.aload_n 1, 1) := by decide +kernel
theorem dL_law_2018 : decode cL_law 2018 = .ok (.aload_n 0, 1) := by decide +kernel
theorem dL_law_2019 : decode cL_law 2019 = .ok (.iload 4, 2) := by decide +kernel
theorem dL_law_2021 : decode cL_law 2021 = .ok (.iconst 1, 1) := by decide +kernel
theorem dL_law_2022 : decode cL_law 2022 = .ok (.iadd, 1) := by decide +kernel
theorem dL_law_2023 : decode cL_law 2023 = .ok (.iaload, 1) := by decide +kernel
theorem dL_law_2024 : decode cL_law 2024 = .ok (.aload_n 0, 1) := by decide +kernel
theorem dL_law_2025 : decode cL_law 2025 = .ok (.iload 4, 2) := by decide +kernel
theorem dL_law_2027 : decode cL_law 2027 = .ok (.iconst 2, 1) := by decide +kernel
theorem dL_law_2028 : decode cL_law 2028 = .ok (.iadd, 1) := by decide +kernel
theorem dL_law_2029 : decode cL_law 2029 = .ok (.iaload, 1) := by decide +kernel
theorem dL_law_2030 : decode cL_law 2030 = .ok (.aload_n 3, 1) := by decide +kernel
theorem dL_law_2031 : decode cL_law 2031 = .ok (.invokestatic 239, 3) := by decide +kernel
theorem dL_law_2034 : decode cL_law 2034 = .ok (.istore 5, 2) := by decide +kernel
theorem dL_law_2036 : decode cL_law 2036 = .ok (.aload_n 2, 1) := by decide +kernel
theorem dL_law_2037 : decode cL_law 2037 = .ok (.aload_n 0, 1) := by decide +kernel
theorem dL_law_2038 : decode cL_law 2038 = .ok (.iload 4, 2) := by decide +kernel
theorem dL_law_2040 : decode cL_law 2040 = .ok (.iconst 1, 1) := by decide +kernel
theorem dL_law_2041 : decode cL_law 2041 = .ok (.iadd, 1) := by decide +kernel
theorem dL_law_2042 : decode cL_law 2042 = .ok (.iaload, 1) := by decide +kernel
theorem dL_law_2043 : decode cL_law 2043 = .ok (.aload_n 0, 1) := by decide +kernel
theorem dL_law_2044 : decode cL_law 2044 = .ok (.iload 4, 2) := by decide +kernel
theorem dL_law_2046 : decode cL_law 2046 = .ok (.iconst 2, 1) := by decide +kernel
theorem dL_law_2047 : decode cL_law 2047 = .ok (.iadd, 1) := by decide +kernel
theorem dL_law_2048 : decode cL_law 2048 = .ok (.iaload, 1) := by decide +kernel
theorem dL_law_2049 : decode cL_law 2049 = .ok (.invokevirtual 241, 3) := by decide +kernel
theorem dL_law_2052 : decode cL_law 2052 = .ok (.istore 6, 2) := by decide +kernel
theorem dL_law_2054 : decode cL_law 2054 = .ok (.aload_n 2, 1) := by decide +kernel
theorem dL_law_2055 : decode cL_law 2055 = .ok (.invokevirtual 141, 3) := by decide +kernel
theorem dL_law_2058 : decode cL_law 2058 = .ok (.iload 5, 2) := by decide +kernel
theorem dL_law_2060 : decode cL_law 2060 = .ok (.if_icmp .eq 5, 3) := by decide +kernel
theorem dL_law_2063 : decode cL_law 2063 = .ok (.iconst 0, 1) := by decide +kernel
theorem dL_law_2064 : decode cL_law 2064 = .ok (.ireturn, 1) := by decide +kernel
theorem dL_law_2065 : decode cL_law 2065 = .ok (.iload 5, 2) := by decide +kernel
theorem dL_law_2067 : decode cL_law 2067 = .ok (.ifCond .ne 15, 3) := by decide +kernel
theorem dL_law_2070 : decode cL_law 2070 = .ok (.aload_n 3, 1) := by decide +kernel
theorem dL_law_2071 : decode cL_law 2071 = .ok (.iconst 0, 1) := by decide +kernel
theorem dL_law_2072 : decode cL_law 2072 = .ok (.laload, 1) := by decide +kernel
theorem dL_law_2073 : decode cL_law 2073 = .ok (.iload 6, 2) := by decide +kernel
theorem dL_law_2075 : decode cL_law 2075 = .ok (.i2l, 1) := by decide +kernel
theorem dL_law_2076 : decode cL_law 2076 = .ok (.lcmp, 1) := by decide +kernel
theorem dL_law_2077 : decode cL_law 2077 = .ok (.ifCond .eq 5, 3) := by decide +kernel
theorem dL_law_2080 : decode cL_law 2080 = .ok (.iconst 0, 1) := by decide +kernel
theorem dL_law_2081 : decode cL_law 2081 = .ok (.ireturn, 1) := by decide +kernel
theorem dL_law_2082 : decode cL_law 2082 = .ok (.goto 414, 3) := by decide +kernel
theorem dL_law_2085 : decode cL_law 2085 = .ok (.aload_n 1, 1) := by decide +kernel
theorem dL_law_2086 : decode cL_law 2086 = .ok (.aload_n 0, 1) := by decide +kernel
theorem dL_law_2087 : decode cL_law 2087 = .ok (.iload 4, 2) := by decide +kernel
theorem dL_law_2089 : decode cL_law 2089 = .ok (.iconst 1, 1) := by decide +kernel
theorem dL_law_2090 : decode cL_law 2090 = .ok (.iadd, 1) := by decide +kernel
theorem dL_law_2091 : decode cL_law 2091 = .ok (.iaload, 1) := by decide +kernel
theorem dL_law_2092 : decode cL_law 2092 = .ok (.aload_n 0, 1) := by decide +kernel
theorem dL_law_2093 : decode cL_law 2093 = .ok (.iload 4, 2) := by decide +kernel
theorem dL_law_2095 : decode cL_law 2095 = .ok (.iconst 2, 1) := by decide +kernel
theorem dL_law_2096 : decode cL_law 2096 = .ok (.iadd, 1) := by decide +kernel
theorem dL_law_2097 : decode cL_law 2097 = .ok (.iaload, 1) := by decide +kernel
theorem dL_law_2098 : decode cL_law 2098 = .ok (.aload_n 3, 1) := by decide +kernel
theorem dL_law_2099 : decode cL_law 2099 = .ok (.invokestatic 242, 3) := by decide +kernel
theorem dL_law_2102 : decode cL_law 2102 = .ok (.istore 5, 2) := by decide +kernel
theorem dL_law_2104 : decode cL_law 2104 = .ok (.aload_n 2, 1) := by decide +kernel
theorem dL_law_2105 : decode cL_law 2105 = .ok (.aload_n 0, 1) := by decide +kernel
theorem dL_law_2106 : decode cL_law 2106 = .ok (.iload 4, 2) := by decide +kernel
theorem dL_law_2108 : decode cL_law 2108 = .ok (.iconst 1, 1) := by decide +kernel
theorem dL_law_2109 : decode cL_law 2109 = .ok (.iadd, 1) := by decide +kernel
theorem dL_law_2110 : decode cL_law 2110 = .ok (.iaload, 1) := by decide +kernel
theorem dL_law_2111 : decode cL_law 2111 = .ok (.aload_n 0, 1) := by decide +kernel
theorem dL_law_2112 : decode cL_law 2112 = .ok (.iload 4, 2) := by decide +kernel
theorem dL_law_2114 : decode cL_law 2114 = .ok (.iconst 2, 1) := by decide +kernel
theorem dL_law_2115 : decode cL_law 2115 = .ok (.iadd, 1) := by decide +kernel
theorem dL_law_2116 : decode cL_law 2116 = .ok (.iaload, 1) := by decide +kernel
theorem dL_law_2117 : decode cL_law 2117 = .ok (.invokevirtual 244, 3) := by decide +kernel
theorem dL_law_2120 : decode cL_law 2120 = .ok (.istore 6, 2) := by decide +kernel
theorem dL_law_2122 : decode cL_law 2122 = .ok (.aload_n 2, 1) := by decide +kernel
theorem dL_law_2123 : decode cL_law 2123 = .ok (.invokevirtual 141, 3) := by decide +kernel
theorem dL_law_2126 : decode cL_law 2126 = .ok (.iload 5, 2) := by decide +kernel
theorem dL_law_2128 : decode cL_law 2128 = .ok (.if_icmp .eq 5, 3) := by decide +kernel
theorem dL_law_2131 : decode cL_law 2131 = .ok (.iconst 0, 1) := by decide +kernel
theorem dL_law_2132 : decode cL_law 2132 = .ok (.ireturn, 1) := by decide +kernel
theorem dL_law_2133 : decode cL_law 2133 = .ok (.iload 5, 2) := by decide +kernel
theorem dL_law_2135 : decode cL_law 2135 = .ok (.ifCond .ne 15, 3) := by decide +kernel
theorem dL_law_2138 : decode cL_law 2138 = .ok (.aload_n 3, 1) := by decide +kernel
theorem dL_law_2139 : decode cL_law 2139 = .ok (.iconst 0, 1) := by decide +kernel
theorem dL_law_2140 : decode cL_law 2140 = .ok (.laload, 1) := by decide +kernel
theorem dL_law_2141 : decode cL_law 2141 = .ok (.iload 6, 2) := by decide +kernel
theorem dL_law_2143 : decode cL_law 2143 = .ok (.i2l, 1) := by decide +kernel
theorem dL_law_2144 : decode cL_law 2144 = .ok (.lcmp, 1) := by decide +kernel
theorem dL_law_2145 : decode cL_law 2145 = .ok (.ifCond .eq 5, 3) := by decide +kernel
theorem dL_law_2148 : decode cL_law 2148 = .ok (.iconst 0, 1) := by decide +kernel
theorem dL_law_2149 : decode cL_law 2149 = .ok (.ireturn, 1) := by decide +kernel
theorem dL_law_2150 : decode cL_law 2150 = .ok (.goto 346, 3) := by decide +kernel
theorem dL_law_2153 : decode cL_law 2153 = .ok (.aload_n 1, 1) := by decide +kernel
theorem dL_law_2154 : decode cL_law 2154 = .ok (.aload_n 0, 1) := by decide +kernel
theorem dL_law_2155 : decode cL_law 2155 = .ok (.iload 4, 2) := by decide +kernel
theorem dL_law_2157 : decode cL_law 2157 = .ok (.iconst 1, 1) := by decide +kernel
theorem dL_law_2158 : decode cL_law 2158 = .ok (.iadd, 1) := by decide +kernel
theorem dL_law_2159 : decode cL_law 2159 = .ok (.iaload, 1) := by decide +kernel
theorem dL_law_2160 : decode cL_law 2160 = .ok (.aload_n 3, 1) := by decide +kernel
theorem dL_law_2161 : decode cL_law 2161 = .ok (.invokestatic 245, 3) := by decide +kernel
theorem dL_law_2164 : decode cL_law 2164 = .ok (.istore 5, 2) := by decide +kernel
theorem dL_law_2166 : decode cL_law 2166 = .ok (.aload_n 2, 1) := by decide +kernel
theorem dL_law_2167 : decode cL_law 2167 = .ok (.aload_n 0, 1) := by decide +kernel
theorem dL_law_2168 : decode cL_law 2168 = .ok (.iload 4, 2) := by decide +kernel
theorem dL_law_2170 : decode cL_law 2170 = .ok (.iconst 1, 1) := by decide +kernel
theorem dL_law_2171 : decode cL_law 2171 = .ok (.iadd, 1) := by decide +kernel
theorem dL_law_2172 : decode cL_law 2172 = .ok (.iaload, 1) := by decide +kernel
theorem dL_law_2173 : decode cL_law 2173 = .ok (.invokevirtual 247, 3) := by decide +kernel
theorem dL_law_2176 : decode cL_law 2176 = .ok (.istore 6, 2) := by decide +kernel
theorem dL_law_2178 : decode cL_law 2178 = .ok (.aload_n 2, 1) := by decide +kernel
theorem dL_law_2179 : decode cL_law 2179 = .ok (.invokevirtual 141, 3) := by decide +kernel
theorem dL_law_2182 : decode cL_law 2182 = .ok (.iload 5, 2) := by decide +kernel
theorem dL_law_2184 : decode cL_law 2184 = .ok (.if_icmp .eq 5, 3) := by decide +kernel
theorem dL_law_2187 : decode cL_law 2187 = .ok (.iconst 0, 1) := by decide +kernel
theorem dL_law_2188 : decode cL_law 2188 = .ok (.ireturn, 1) := by decide +kernel
theorem dL_law_2189 : decode cL_law 2189 = .ok (.iload 5, 2) := by decide +kernel
theorem dL_law_2191 : decode cL_law 2191 = .ok (.ifCond .ne 15, 3) := by decide +kernel
theorem dL_law_2194 : decode cL_law 2194 = .ok (.aload_n 3, 1) := by decide +kernel
theorem dL_law_2195 : decode cL_law 2195 = .ok (.iconst 0, 1) := by decide +kernel
theorem dL_law_2196 : decode cL_law 2196 = .ok (.laload, 1) := by decide +kernel
theorem dL_law_2197 : decode cL_law 2197 = .ok (.iload 6, 2) := by decide +kernel
theorem dL_law_2199 : decode cL_law 2199 = .ok (.i2l, 1) := by decide +kernel
theorem dL_law_2200 : decode cL_law 2200 = .ok (.lcmp, 1) := by decide +kernel
theorem dL_law_2201 : decode cL_law 2201 = .ok (.ifCond .eq 5, 3) := by decide +kernel
theorem dL_law_2204 : decode cL_law 2204 = .ok (.iconst 0, 1) := by decide +kernel
theorem dL_law_2205 : decode cL_law 2205 = .ok (.ireturn, 1) := by decide +kernel
theorem dL_law_2206 : decode cL_law 2206 = .ok (.goto 290, 3) := by decide +kernel
theorem dL_law_2209 : decode cL_law 2209 = .ok (.aload_n 1, 1) := by decide +kernel
theorem dL_law_2210 : decode cL_law 2210 = .ok (.invokevirtual 248, 3) := by decide +kernel
theorem dL_law_2213 : decode cL_law 2213 = .ok (.aload_n 2, 1) := by decide +kernel
theorem dL_law_2214 : decode cL_law 2214 = .ok (.invokevirtual 251, 3) := by decide +kernel
theorem dL_law_2217 : decode cL_law 2217 = .ok (.if_icmp .eq 279, 3) := by decide +kernel
theorem dL_law_2220 : decode cL_law 2220 = .ok (.iconst 0, 1) := by decide +kernel
theorem dL_law_2221 : decode cL_law 2221 = .ok (.ireturn, 1) := by decide +kernel
theorem dL_law_2222 : decode cL_law 2222 = .ok (.aload_n 1, 1) := by decide +kernel
theorem dL_law_2223 : decode cL_law 2223 = .ok (.invokevirtual 252, 3) := by decide +kernel
theorem dL_law_2226 : decode cL_law 2226 = .ok (.aload_n 2, 1) := by decide +kernel
theorem dL_law_2227 : decode cL_law 2227 = .ok (.invokevirtual 255, 3) := by decide +kernel
theorem dL_law_2230 : decode cL_law 2230 = .ok (.if_icmp .eq 266, 3) := by decide +kernel
theorem dL_law_2233 : decode cL_law 2233 = .ok (.iconst 0, 1) := by decide +kernel
theorem dL_law_2234 : decode cL_law 2234 = .ok (.ireturn, 1) := by decide +kernel
theorem dL_law_2235 : decode cL_law 2235 = .ok (.aload_n 1, 1) := by decide +kernel
theorem dL_law_2236 : decode cL_law 2236 = .ok (.aload_n 0, 1) := by decide +kernel
theorem dL_law_2237 : decode cL_law 2237 = .ok (.iload 4, 2) := by decide +kernel
theorem dL_law_2239 : decode cL_law 2239 = .ok (.iconst 1, 1) := by decide +kernel
theorem dL_law_2240 : decode cL_law 2240 = .ok (.iadd, 1) := by decide +kernel
theorem dL_law_2241 : decode cL_law 2241 = .ok (.iaload, 1) := by decide +kernel
theorem dL_law_2242 : decode cL_law 2242 = .ok (.aload_n 3, 1) := by decide +kernel
theorem dL_law_2243 : decode cL_law 2243 = .ok (.invokestatic 256, 3) := by decide +kernel
theorem dL_law_2246 : decode cL_law 2246 = .ok (.istore 5, 2) := by decide +kernel
theorem dL_law_2248 : decode cL_law 2248 = .ok (.aload_n 2, 1) := by decide +kernel
theorem dL_law_2249 : decode cL_law 2249 = .ok (.aload_n 0, 1) := by decide +kernel
theorem dL_law_2250 : decode cL_law 2250 = .ok (.iload 4, 2) := by decide +kernel
theorem dL_law_2252 : decode cL_law 2252 = .ok (.iconst 1, 1) := by decide +kernel
theorem dL_law_2253 : decode cL_law 2253 = .ok (.iadd, 1) := by decide +kernel
theorem dL_law_2254 : decode cL_law 2254 = .ok (.iaload, 1) := by decide +kernel
theorem dL_law_2255 : decode cL_law 2255 = .ok (.invokevirtual 258, 3) := by decide +kernel
theorem dL_law_2258 : decode cL_law 2258 = .ok (.istore 6, 2) := by decide +kernel
theorem dL_law_2260 : decode cL_law 2260 = .ok (.aload_n 2, 1) := by decide +kernel
theorem dL_law_2261 : decode cL_law 2261 = .ok (.invokevirtual 141, 3) := by decide +kernel
theorem dL_law_2264 : decode cL_law 2264 = .ok (.iload 5, 2) := by decide +kernel
theorem dL_law_2266 : decode cL_law 2266 = .ok (.if_icmp .eq 5, 3) := by decide +kernel
theorem dL_law_2269 : decode cL_law 2269 = .ok (.iconst 0, 1) := by decide +kernel
theorem dL_law_2270 : decode cL_law 2270 = .ok (.ireturn, 1) := by decide +kernel
theorem dL_law_2271 : decode cL_law 2271 = .ok (.iload 5, 2) := by decide +kernel
theorem dL_law_2273 : decode cL_law 2273 = .ok (.ifCond .ne 15, 3) := by decide +kernel
theorem dL_law_2276 : decode cL_law 2276 = .ok (.aload_n 3, 1) := by decide +kernel
theorem dL_law_2277 : decode cL_law 2277 = .ok (.iconst 0, 1) := by decide +kernel
theorem dL_law_2278 : decode cL_law 2278 = .ok (.laload, 1) := by decide +kernel
theorem dL_law_2279 : decode cL_law 2279 = .ok (.iload 6, 2) := by decide +kernel
theorem dL_law_2281 : decode cL_law 2281 = .ok (.i2l, 1) := by decide +kernel
theorem dL_law_2282 : decode cL_law 2282 = .ok (.lcmp, 1) := by decide +kernel
theorem dL_law_2283 : decode cL_law 2283 = .ok (.ifCond .eq 5, 3) := by decide +kernel
theorem dL_law_2286 : decode cL_law 2286 = .ok (.iconst 0, 1) := by decide +kernel
theorem dL_law_2287 : decode cL_law 2287 = .ok (.ireturn, 1) := by decide +kernel
theorem dL_law_2288 : decode cL_law 2288 = .ok (.goto 208, 3) := by decide +kernel
theorem dL_law_2291 : decode cL_law 2291 = .ok (.aload_n 1, 1) := by decide +kernel
theorem dL_law_2292 : decode cL_law 2292 = .ok (.invokevirtual 259, 3) := by decide +kernel
theorem dL_law_2295 : decode cL_law 2295 = .ok (.aload_n 2, 1) := by decide +kernel
theorem dL_law_2296 : decode cL_law 2296 = .ok (.invokevirtual 262, 3) := by decide +kernel
theorem dL_law_2299 : decode cL_law 2299 = .ok (.if_icmp .eq 197, 3) := by decide +kernel
theorem dL_law_2302 : decode cL_law 2302 = .ok (.iconst 0, 1) := by decide +kernel
theorem dL_law_2303 : decode cL_law 2303 = .ok (.ireturn, 1) := by decide +kernel
theorem dL_law_2304 : decode cL_law 2304 = .ok (.aload_n 1, 1) := by decide +kernel
theorem dL_law_2305 : decode cL_law 2305 = .ok (.aload_n 0, 1) := by decide +kernel
theorem dL_law_2306 : decode cL_law 2306 = .ok (.iload 4, 2) := by decide +kernel
theorem dL_law_2308 : decode cL_law 2308 = .ok (.iconst 1, 1) := by decide +kernel
theorem dL_law_2309 : decode cL_law 2309 = .ok (.iadd, 1) := by decide +kernel
theorem dL_law_2310 : decode cL_law 2310 = .ok (.iaload, 1) := by decide +kernel
theorem dL_law_2311 : decode cL_law 2311 = .ok (.aload_n 0, 1) := by decide +kernel
theorem dL_law_2312 : decode cL_law 2312 = .ok (.iload 4, 2) := by decide +kernel
theorem dL_law_2314 : decode cL_law 2314 = .ok (.iconst 2, 1) := by decide +kernel
theorem dL_law_2315 : decode cL_law 2315 = .ok (.iadd, 1) := by decide +kernel
theorem dL_law_2316 : decode cL_law 2316 = .ok (.iaload, 1) := by decide +kernel
theorem dL_law_2317 : decode cL_law 2317 = .ok (.aload_n 3, 1) := by decide +kernel
theorem dL_law_2318 : decode cL_law 2318 = .ok (.invokestatic 263, 3) := by decide +kernel
theorem dL_law_2321 : decode cL_law 2321 = .ok (.istore 5, 2) := by decide +kernel
theorem dL_law_2323 : decode cL_law 2323 = .ok (.aload_n 2, 1) := by decide +kernel
theorem dL_law_2324 : decode cL_law 2324 = .ok (.aload_n 0, 1) := by decide +kernel
theorem dL_law_2325 : decode cL_law 2325 = .ok (.iload 4, 2) := by decide +kernel
theorem dL_law_2327 : decode cL_law 2327 = .ok (.iconst 1, 1) := by decide +kernel
theorem dL_law_2328 : decode cL_law 2328 = .ok (.iadd, 1) := by decide +kernel
theorem dL_law_2329 : decode cL_law 2329 = .ok (.iaload, 1) := by decide +kernel
theorem dL_law_2330 : decode cL_law 2330 = .ok (.aload_n 0, 1) := by decide +kernel
theorem dL_law_2331 : decode cL_law 2331 = .ok (.iload 4, 2) := by decide +kernel
theorem dL_law_2333 : decode cL_law 2333 = .ok (.iconst 2, 1) := by decide +kernel
theorem dL_law_2334 : decode cL_law 2334 = .ok (.iadd, 1) := by decide +kernel
theorem dL_law_2335 : decode cL_law 2335 = .ok (.iaload, 1) := by decide +kernel
theorem dL_law_2336 : decode cL_law 2336 = .ok (.invokevirtual 265, 3) := by decide +kernel
theorem dL_law_2339 : decode cL_law 2339 = .ok (.istore 6, 2) := by decide +kernel
theorem dL_law_2341 : decode cL_law 2341 = .ok (.aload_n 2, 1) := by decide +kernel
theorem dL_law_2342 : decode cL_law 2342 = .ok (.invokevirtual 141, 3) := by decide +kernel
theorem dL_law_2345 : decode cL_law 2345 = .ok (.iload 5, 2) := by decide +kernel
theorem dL_law_2347 : decode cL_law 2347 = .ok (.if_icmp .eq 5, 3) := by decide +kernel
theorem dL_law_2350 : decode cL_law 2350 = .ok (.iconst 0, 1) := by decide +kernel
theorem dL_law_2351 : decode cL_law 2351 = .ok (.ireturn, 1) := by decide +kernel
theorem dL_law_2352 : decode cL_law 2352 = .ok (.iload 5, 2) := by decide +kernel
theorem dL_law_2354 : decode cL_law 2354 = .ok (.ifCond .ne 15, 3) := by decide +kernel
theorem dL_law_2357 : decode cL_law 2357 = .ok (.aload_n 3, 1) := by decide +kernel
theorem dL_law_2358 : decode cL_law 2358 = .ok (.iconst 0, 1) := by decide +kernel
theorem dL_law_2359 : decode cL_law 2359 = .ok (.laload, 1) := by decide +kernel
theorem dL_law_2360 : decode cL_law 2360 = .ok (.iload 6, 2) := by decide +kernel
theorem dL_law_2362 : decode cL_law 2362 = .ok (.i2l, 1) := by decide +kernel
theorem dL_law_2363 : decode cL_law 2363 = .ok (.lcmp, 1) := by decide +kernel
theorem dL_law_2364 : decode cL_law 2364 = .ok (.ifCond .eq 5, 3) := by decide +kernel
theorem dL_law_2367 : decode cL_law 2367 = .ok (.iconst 0, 1) := by decide +kernel
theorem dL_law_2368 : decode cL_law 2368 = .ok (.ireturn, 1) := by decide +kernel
theorem dL_law_2369 : decode cL_law 2369 = .ok (.goto 127, 3) := by decide +kernel
theorem dL_law_2372 : decode cL_law 2372 = .ok (.aload_n 1, 1) := by decide +kernel
theorem dL_law_2373 : decode cL_law 2373 = .ok (.aload_n 0, 1) := by decide +kernel
theorem dL_law_2374 : decode cL_law 2374 = .ok (.iload 4, 2) := by decide +kernel
theorem dL_law_2376 : decode cL_law 2376 = .ok (.iconst 1, 1) := by decide +kernel
theorem dL_law_2377 : decode cL_law 2377 = .ok (.iadd, 1) := by decide +kernel
theorem dL_law_2378 : decode cL_law 2378 = .ok (.iaload, 1) := by decide +kernel
theorem dL_law_2379 : decode cL_law 2379 = .ok (.aload_n 0, 1) := by decide +kernel
theorem dL_law_2380 : decode cL_law 2380 = .ok (.iload 4, 2) := by decide +kernel
theorem dL_law_2382 : decode cL_law 2382 = .ok (.iconst 2, 1) := by decide +kernel
theorem dL_law_2383 : decode cL_law 2383 = .ok (.iadd, 1) := by decide +kernel
theorem dL_law_2384 : decode cL_law 2384 = .ok (.iaload, 1) := by decide +kernel
theorem dL_law_2385 : decode cL_law 2385 = .ok (.aload_n 3, 1) := by decide +kernel
theorem dL_law_2386 : decode cL_law 2386 = .ok (.invokestatic 266, 3) := by decide +kernel
theorem dL_law_2389 : decode cL_law 2389 = .ok (.istore 5, 2) := by decide +kernel
theorem dL_law_2391 : decode cL_law 2391 = .ok (.aload_n 2, 1) := by decide +kernel
theorem dL_law_2392 : decode cL_law 2392 = .ok (.aload_n 0, 1) := by decide +kernel
theorem dL_law_2393 : decode cL_law 2393 = .ok (.iload 4, 2) := by decide +kernel
theorem dL_law_2395 : decode cL_law 2395 = .ok (.iconst 1, 1) := by decide +kernel
theorem dL_law_2396 : decode cL_law 2396 = .ok (.iadd, 1) := by decide +kernel
theorem dL_law_2397 : decode cL_law 2397 = .ok (.iaload, 1) := by decide +kernel
theorem dL_law_2398 : decode cL_law 2398 = .ok (.aload_n 0, 1) := by decide +kernel
theorem dL_law_2399 : decode cL_law 2399 = .ok (.iload 4, 2) := by decide +kernel
theorem dL_law_2401 : decode cL_law 2401 = .ok (.iconst 2, 1) := by decide +kernel
theorem dL_law_2402 : decode cL_law 2402 = .ok (.iadd, 1) := by decide +kernel
theorem dL_law_2403 : decode cL_law 2403 = .ok (.iaload, 1) := by decide +kernel
theorem dL_law_2404 : decode cL_law 2404 = .ok (.invokevirtual 268, 3) := by decide +kernel
theorem dL_law_2407 : decode cL_law 2407 = .ok (.istore 6, 2) := by decide +kernel
theorem dL_law_2409 : decode cL_law 2409 = .ok (.aload_n 2, 1) := by decide +kernel
theorem dL_law_2410 : decode cL_law 2410 = .ok (.invokevirtual 141, 3) := by decide +kernel
theorem dL_law_2413 : decode cL_law 2413 = .ok (.iload 5, 2) := by decide +kernel
theorem dL_law_2415 : decode cL_law 2415 = .ok (.if_icmp .eq 5, 3) := by decide +kernel
theorem dL_law_2418 : decode cL_law 2418 = .ok (.iconst 0, 1) := by decide +kernel
theorem dL_law_2419 : decode cL_law 2419 = .ok (.ireturn, 1) := by decide +kernel
theorem dL_law_2420 : decode cL_law 2420 = .ok (.iload 5, 2) := by decide +kernel
theorem dL_law_2422 : decode cL_law 2422 = .ok (.ifCond .ne 15, 3) := by decide +kernel
theorem dL_law_2425 : decode cL_law 2425 = .ok (.aload_n 3, 1) := by decide +kernel
theorem dL_law_2426 : decode cL_law 2426 = .ok (.iconst 0, 1) := by decide +kernel
theorem dL_law_2427 : decode cL_law 2427 = .ok (.laload, 1) := by decide +kernel
theorem dL_law_2428 : decode cL_law 2428 = .ok (.iload 6, 2) := by decide +kernel
theorem dL_law_2430 : decode cL_law 2430 = .ok (.i2l, 1) := by decide +kernel
theorem dL_law_2431 : decode cL_law 2431 = .ok (.lcmp, 1) := by decide +kernel
theorem dL_law_2432 : decode cL_law 2432 = .ok (.ifCond .eq 5, 3) := by decide +kernel
theorem dL_law_2435 : decode cL_law 2435 = .ok (.iconst 0, 1) := by decide +kernel
theorem dL_law_2436 : decode cL_law 2436 = .ok (.ireturn, 1) := by decide +kernel
theorem dL_law_2437 : decode cL_law 2437 = .ok (.goto 59, 3) := by decide +kernel
theorem dL_law_2440 : decode cL_law 2440 = .ok (.aload_n 1, 1) := by decide +kernel
theorem dL_law_2441 : decode cL_law 2441 = .ok (.aload_n 0, 1) := by decide +kernel
theorem dL_law_2442 : decode cL_law 2442 = .ok (.iload 4, 2) := by decide +kernel
theorem dL_law_2444 : decode cL_law 2444 = .ok (.iconst 1, 1) := by decide +kernel
theorem dL_law_2445 : decode cL_law 2445 = .ok (.iadd, 1) := by decide +kernel
theorem dL_law_2446 : decode cL_law 2446 = .ok (.iaload, 1) := by decide +kernel
theorem dL_law_2447 : decode cL_law 2447 = .ok (.aload_n 3, 1) := by decide +kernel
theorem dL_law_2448 : decode cL_law 2448 = .ok (.invokestatic 269, 3) := by decide +kernel
theorem dL_law_2451 : decode cL_law 2451 = .ok (.istore 5, 2) := by decide +kernel
theorem dL_law_2453 : decode cL_law 2453 = .ok (.aload_n 2, 1) := by decide +kernel
theorem dL_law_2454 : decode cL_law 2454 = .ok (.aload_n 0, 1) := by decide +kernel
theorem dL_law_2455 : decode cL_law 2455 = .ok (.iload 4, 2) := by decide +kernel
theorem dL_law_2457 : decode cL_law 2457 = .ok (.iconst 1, 1) := by decide +kernel
theorem dL_law_2458 : decode cL_law 2458 = .ok (.iadd, 1) := by decide +kernel
theorem dL_law_2459 : decode cL_law 2459 = .ok (.iaload, 1) := by decide +kernel
theorem dL_law_2460 : decode cL_law 2460 = .ok (.invokevirtual 271, 3) := by decide +kernel
theorem dL_law_2463 : decode cL_law 2463 = .ok (.istore 6, 2) := by decide +kernel
theorem dL_law_2465 : decode cL_law 2465 = .ok (.aload_n 2, 1) := by decide +kernel
theorem dL_law_2466 : decode cL_law 2466 = .ok (.invokevirtual 141, 3) := by decide +kernel
theorem dL_law_2469 : decode cL_law 2469 = .ok (.iload 5, 2) := by decide +kernel
theorem dL_law_2471 : decode cL_law 2471 = .ok (.if_icmp .eq 5, 3) := by decide +kernel
theorem dL_law_2474 : decode cL_law 2474 = .ok (.iconst 0, 1) := by decide +kernel
theorem dL_law_2475 : decode cL_law 2475 = .ok (.ireturn, 1) := by decide +kernel
theorem dL_law_2476 : decode cL_law 2476 = .ok (.iload 5, 2) := by decide +kernel
theorem dL_law_2478 : decode cL_law 2478 = .ok (.ifCond .ne 15, 3) := by decide +kernel
theorem dL_law_2481 : decode cL_law 2481 = .ok (.aload_n 3, 1) := by decide +kernel
theorem dL_law_2482 : decode cL_law 2482 = .ok (.iconst 0, 1) := by decide +kernel
theorem dL_law_2483 : decode cL_law 2483 = .ok (.laload, 1) := by decide +kernel
theorem dL_law_2484 : decode cL_law 2484 = .ok (.iload 6, 2) := by decide +kernel
theorem dL_law_2486 : decode cL_law 2486 = .ok (.i2l, 1) := by decide +kernel
theorem dL_law_2487 : decode cL_law 2487 = .ok (.lcmp, 1) := by decide +kernel
theorem dL_law_2488 : decode cL_law 2488 = .ok (.ifCond .eq 5, 3) := by decide +kernel
theorem dL_law_2491 : decode cL_law 2491 = .ok (.iconst 0, 1) := by decide +kernel
theorem dL_law_2492 : decode cL_law 2492 = .ok (.ireturn, 1) := by decide +kernel
theorem dL_law_2493 : decode cL_law 2493 = .ok (.goto 3, 3) := by decide +kernel
theorem dL_law_2496 : decode cL_law 2496 = .ok (.iinc 4 5, 3) := by decide +kernel
theorem dL_law_2499 : decode cL_law 2499 = .ok (.goto (-2476), 3) := by decide +kernel
theorem dL_law_2502 : decode cL_law 2502 = .ok (.iconst 1, 1) := by decide +kernel
theorem dL_law_2503 : decode cL_law 2503 = .ok (.ireturn, 1) := by decide +kernel
abbrev vwCl : List vw_C := [(RX0, TX0, 2), (RX1, TX1, 10), (RX2, TX2, 6), (RX3, TX3, 6), (RX4, TX4, 5), (RX5, TX5, 3), (RX6, TX6, 30)]
end
section
/-! MEMORY: a world's numbers, by cell and place; pure functions read and write it -/
abbrev Mem : Type := Nat → Nat → Int32
def mu (σ : Mem) (k i : Nat) (v : Int32) : Mem := fun a => if a = k then upd (σ k) i v else σ a
theorem mu_s (σ : Mem) (k i : Nat) (v : Int32) : mu σ k i v k = upd (σ k) i v := if_pos rfl
theorem mu_n {σ : Mem} {k a i : Nat} {v : Int32} (h : a ≠ k) : mu σ k i v a = σ a := if_neg h
def gd {α : Type} (i : Int32) (n : Nat) (a : Option α) : Option α := if i < 0 ∨ n ≤ i.toNatClampNeg then none else a
theorem gd_e {α : Type} {i : Int32} {n : Nat} {a : Option α} {r : α} (h : gd i n a = some r) : vp_in i n ∧ a = some r := by
  unfold gd at h
  by_cases q : i < 0 ∨ n ≤ i.toNatClampNeg
  · rw [if_pos q] at h; cases h
  · rw [if_neg q] at h; exact ⟨q, h⟩
def stp {α β : Type} (a : α) (k : α → β) : β := k a
theorem stp_e {α β : Type} {a : α} {k : α → β} {r : β} (h : stp a k = r) : ∃ z, z = a ∧ k z = r := ⟨a, rfl, h⟩
def jn {α β : Type} (a : α) (b : α → β) : β := b a
theorem jn_e0 {R β : Type} {a : Unit → R} {b : (Unit → R) → β} {r : β} (h : jn a b = r) : ∃ J : Unit → R, (∀ x, J x = a x) ∧ b J = r := ⟨a, fun _ => rfl, h⟩
theorem jn_e1 {A1 R β : Type} {a : A1 → R} {b : (A1 → R) → β} {r : β} (h : jn a b = r) : ∃ J : A1 → R, (∀ x1, J x1 = a x1) ∧ b J = r := ⟨a, fun _ => rfl, h⟩
theorem jn_e2 {A1 A2 R β : Type} {a : A1 → A2 → R} {b : (A1 → A2 → R) → β} {r : β} (h : jn a b = r) : ∃ J : A1 → A2 → R, (∀ x1 x2, J x1 x2 = a x1 x2) ∧ b J = r := ⟨a, fun _ _ => rfl, h⟩
theorem jn_e3 {A1 A2 A3 R β : Type} {a : A1 → A2 → A3 → R} {b : (A1 → A2 → A3 → R) → β} {r : β} (h : jn a b = r) : ∃ J : A1 → A2 → A3 → R, (∀ x1 x2 x3, J x1 x2 x3 = a x1 x2 x3) ∧ b J = r := ⟨a, fun _ _ _ => rfl, h⟩
theorem jn_e4 {A1 A2 A3 A4 R β : Type} {a : A1 → A2 → A3 → A4 → R} {b : (A1 → A2 → A3 → A4 → R) → β} {r : β} (h : jn a b = r) : ∃ J : A1 → A2 → A3 → A4 → R, (∀ x1 x2 x3 x4, J x1 x2 x3 x4 = a x1 x2 x3 x4) ∧ b J = r := ⟨a, fun _ _ _ _ => rfl, h⟩
theorem jn_e5 {A1 A2 A3 A4 A5 R β : Type} {a : A1 → A2 → A3 → A4 → A5 → R} {b : (A1 → A2 → A3 → A4 → A5 → R) → β} {r : β} (h : jn a b = r) : ∃ J : A1 → A2 → A3 → A4 → A5 → R, (∀ x1 x2 x3 x4 x5, J x1 x2 x3 x4 x5 = a x1 x2 x3 x4 x5) ∧ b J = r := ⟨a, fun _ _ _ _ _ => rfl, h⟩
theorem lp_e0 {R β : Type} {a : Unit → R} {b : (Unit → R) → β} {r : β} (h : b a = r) : ∃ J : Unit → R, (∀ x, J x = a x) ∧ b J = r := ⟨a, fun _ => rfl, h⟩
def bd {α β : Type} (a : Option α) (k : α → Option β) : Option β := match a with
  | none => none
  | some x => k x
theorem bd_e {α β : Type} {a : Option α} {k : α → Option β} {r : β} (h : bd a k = some r) : ∃ x, a = some x ∧ k x = some r := by
  cases a with
  | none => cases h
  | some x => exact ⟨x, rfl, h⟩
def bd2 {α γ β : Type} (a : Option (α × γ)) (k : α → γ → Option β) : Option β := match a with
  | none => none
  | some (x, y) => k x y
theorem bd2_e {α γ β : Type} {a : Option (α × γ)} {k : α → γ → Option β} {r : β} (h : bd2 a k = some r) : ∃ x y, a = some (x, y) ∧ k x y = some r := by
  cases a with
  | none => cases h
  | some x => exact ⟨x.1, x.2, rfl, h⟩
/-- a callee that returns (0, its answer), or throws (the number of the exception, 0) -/
def bt {β : Type} (a : Option (Nat × Int32)) (kx : Nat → Option β) (k : Int32 → Option β) : Option β := match a with
  | none => none
  | some (0, v) => k v
  | some (n + 1, _) => kx (n + 1)
theorem bt_e {β : Type} {a : Option (Nat × Int32)} {kx : Nat → Option β} {k : Int32 → Option β} {r : β} (h : bt a kx k = some r) : (∃ v, a = some (0, v) ∧ k v = some r) ∨ ∃ n v, n ≠ 0 ∧ a = some (n, v) ∧ kx n = some r := by
  match a, h with
  | none, h => cases h
  | some (0, v), h => exact Or.inl ⟨v, rfl, h⟩
  | some (n + 1, v), h => exact Or.inr ⟨n + 1, v, Nat.succ_ne_zero n, rfl, h⟩
/-- the loops' fuel: more than any run needs -/
def FU : Nat := 6000
/-! WORDS: all methods share one list -/
def BIG : List Cond := lw_tbl.filter goodWord
theorem mem_BIG {w : Cond} (i : Nat) (h : lw_tbl[i]? = some w) (hg : goodWord w = true) : w ∈ BIG := List.mem_filter.mpr ⟨List.mem_of_getElem? h, hg⟩
theorem bigG {ws : List Cond} (h : ∀ w ∈ ws, w ∈ BIG) : GoodIn BIG ws := fun w hw => ⟨h w hw, good_of_word (List.mem_filter.mp (h w hw)).2⟩
theorem bigH {args : Array Value} {s : State} {w0 : Cond} (h : ∀ w ∈ w0 :: BIG, w.before args s = true) : ∀ w ∈ BIG, w.before args s = true := fun w hw => h w (List.mem_cons_of_mem _ hw)
/-! GROUPS of cells: N cells at the addresses ad, what each holds by E -/
abbrev Ent : Type := Nat → (Nat → Int32) → va_E
def wsG (N : Nat) (ad : Nat → Nat) (E : Ent) (σ : Mem) : va_W := (List.range N).map fun k => (ad k, E k (σ k))
theorem wsG_get {N : Nat} {ad : Nat → Nat} {E : Ent} {σ : Mem} {k : Nat} (h : k < N) : (wsG N ad E σ)[k]? = some (ad k, E k (σ k)) := by
  unfold wsG
  rw [List.getElem?_map, List.getElem?_range h]
  rfl
theorem wsG_at {N : Nat} {ad : Nat → Nat} {E : Ent} {σ : Mem} {k : Nat} {q : Nat × va_E} (h : (wsG N ad E σ)[k]? = some q) : k < N ∧ q = (ad k, E k (σ k)) := by
  have hl : k < N := by
    have := (List.getElem?_eq_some_iff.mp h).1
    unfold wsG at this
    rw [List.length_map, List.length_range] at this
    exact this
  rw [wsG_get hl] at h
  exact ⟨hl, (Option.some.inj h).symm⟩
theorem wsG_set {N : Nat} {ad : Nat → Nat} {E : Ent} {σ : Mem} {k i : Nat} {v : Int32} {x : va_E} (h : k < N) (hx : x = E k (upd (σ k) i v)) : (wsG N ad E σ).set k (ad k, x) = wsG N ad E (mu σ k i v) := by
  apply List.ext_getElem?
  intro j
  by_cases hj : j < N
  · rw [wsG_get hj]
    by_cases hk : k = j
    · subst hk
      rw [List.getElem?_set_self (by unfold wsG; rw [List.length_map, List.length_range]; exact h), hx, mu_s]
    · rw [List.getElem?_set_ne hk, wsG_get hj, mu_n (fun q => hk q.symm)]
  · have h1 : (wsG N ad E (mu σ k i v))[j]? = none := by
      rw [List.getElem?_eq_none_iff]; unfold wsG; rw [List.length_map, List.length_range]; omega
    rw [h1, List.getElem?_eq_none_iff, List.length_set]; unfold wsG; rw [List.length_map, List.length_range]; omega
def injG (N : Nat) (ad : Nat → Nat) : Prop := ∀ i j : Nat, i < N → j < N → ad i = ad j → i = j
def AG (N : Nat) (ad : Nat → Nat) (sz : Nat) : Nat → Prop := fun q => (∃ k : Nat, k < N ∧ ad k = q) ∨ sz ≤ q
theorem wsG_D {N : Nat} {ad : Nat → Nat} {E : Ent} {σ : Mem} {A : Nat → Prop} (hi : injG N ad) (hA : ∀ k : Nat, k < N → A (ad k)) : va_D A (wsG N ad E σ) := by
  refine ⟨fun i j p q h1 h2 e => ?_, fun k q h => ?_⟩
  · obtain ⟨l1, rfl⟩ := wsG_at h1
    obtain ⟨l2, rfl⟩ := wsG_at h2
    exact hi i j l1 l2 e
  · obtain ⟨l1, rfl⟩ := wsG_at h
    exact hA k l1
/-- a part of a group: its place k is the group's place ι k -/
def subG (N : Nat) (ad : Nat → Nat) (E : Ent) (N' : Nat) (ad' : Nat → Nat) (E' : Ent) (ι : Nat → Nat) : Prop := ∀ k : Nat, k < N' → ι k < N ∧ ad' k = ad (ι k) ∧ E' k = E (ι k)
theorem subG.inj {N : Nat} {ad : Nat → Nat} {E : Ent} {N' : Nat} {ad' : Nat → Nat} {E' : Ent} {ι : Nat → Nat} (h : subG N ad E N' ad' E' ι) (hi : injG N ad) (hι : ∀ i j : Nat, i < N' → j < N' → ι i = ι j → i = j) : injG N' ad' := fun i j l1 l2 e => by
  obtain ⟨a1, a2, -⟩ := h i l1
  obtain ⟨b1, b2, -⟩ := h j l2
  rw [a2, b2] at e
  exact hι i j l1 l2 (hi _ _ a1 b1 e)
theorem subG.rf {N : Nat} {ad : Nat → Nat} {E : Ent} : subG N ad E N ad E (fun k => k) := fun _ h => ⟨h, rfl, rfl⟩
section GROUPP
variable {D : va_G} {N : Nat} {ad : Nat → Nat} {E : Ent} {N' : Nat} {ad' : Nat → Nat} {E' : Ent} {ι : Nat → Nat} {H H1 : Heap}
theorem subG.P (h : subG N ad E N' ad' E' ι) {σ σc : Mem} (hσ : ∀ k : Nat, k < N' → σc k = σ (ι k)) (hP : va_P D vwCl (wsG N ad E σ) H) : va_P D vwCl (wsG N' ad' E' σc) H := by
  intro k q hk
  obtain ⟨l1, rfl⟩ := wsG_at hk
  obtain ⟨a1, a2, a3⟩ := h k l1
  have := hP (ι k) _ (wsG_get a1)
  rw [a2, a3, hσ k l1]
  exact this
theorem subG.free (h : subG N ad E N' ad' E' ι) {A : Nat → Prop} {H0 : Heap} {locs : List Loc} (hS : va_S A H0 H locs) (hA : ∀ q : Nat, H0.size ≤ q → A q) (hAd : ∀ k : Nat, k < N → A (ad k)) : ∀ q : Nat, AG N' ad' H.size q → A q := by
  intro q hq
  rcases hq with ⟨k, hk, rfl⟩ | hq
  · obtain ⟨a1, a2, -⟩ := h k hk
    rw [a2]; exact hAd _ a1
  · exact hA q (Nat.le_trans hS.1 hq)
theorem subG.join (h : subG N ad E N' ad' E' ι) (hi : injG N ad) {σ σ1 τ : Mem} (hP : va_P D vwCl (wsG N ad E σ) H) (hP1 : va_P D vwCl (wsG N' ad' E' σ1) H1) (hk : ∀ q : Nat, q < H.size → ¬ AG N' ad' H.size q → H1[q]? = H[q]?)
    (h1 : ∀ k : Nat, k < N' → τ (ι k) = σ1 k) (h2 : ∀ j : Nat, j < N → (∀ k : Nat, k < N' → ι k ≠ j) → τ j = σ j) : va_P D vwCl (wsG N ad E τ) H1 := by
  intro j q hq
  obtain ⟨l1, rfl⟩ := wsG_at hq
  by_cases hj : ∃ k : Nat, k < N' ∧ ι k = j
  · obtain ⟨k, hk1, rfl⟩ := hj
    obtain ⟨a1, a2, a3⟩ := h k hk1
    have := hP1 k _ (wsG_get hk1)
    rw [a2, a3, ← h1 k hk1] at this
    exact this
  · have hj' : ∀ k : Nat, k < N' → ι k ≠ j := fun k a b => hj ⟨k, a, b⟩
    rw [h2 j l1 hj']
    have hat := hP j _ (wsG_get l1)
    refine hat.kept (hk _ hat.lt ?_)
    rintro (⟨k, hk1, e⟩ | e)
    · obtain ⟨a1, a2, -⟩ := h k hk1
      rw [a2] at e
      exact hj' k hk1 (hi _ _ a1 l1 e)
    · exact absurd hat.lt (Nat.not_lt.mpr e)
end GROUPP
end
section
/-! WHAT A METHOD NEEDS OF THE TABLES, beside the words of BIG: the classes, the nest mates' calls, the texts of exceptions -/
def NWL : List (String × Nat × MethodName × String) := [("MudCouncil", 9, ⟨"MudCouncil$Log", "<init>", "()V"⟩, "MudCouncil"), ("MudCouncil", 18, ⟨"MudCouncil$World", "<init>", "()V"⟩, "MudCouncil"), ("MudCouncil$World", 20, ⟨"MudCouncil$People", "<init>", "()V"⟩, "MudCouncil"), ("MudCouncil$World", 27, ⟨"MudCouncil$Quests", "<init>", "()V"⟩, "MudCouncil"), ("MudCouncil$Places", 39, ⟨"MudCouncil", "opposite", "(I)I"⟩, "MudCouncil"), ("MudCouncil$Places", 51, ⟨"MudCouncil", "goodsAt", "(II)I"⟩, "MudCouncil"), ("MudCouncil$Quests", 31, ⟨"MudCouncil", "stageAt", "(II)I"⟩, "MudCouncil"), ("MudCouncil$People", 49, ⟨"MudCouncil", "goodsAt", "(II)I"⟩, "MudCouncil"), ("MudCouncil$World", 115, ⟨"MudCouncil", "goodsAt", "(II)I"⟩, "MudCouncil"), ("MudCouncil$World", 167, ⟨"MudCouncil", "reachedAt", "(II)I"⟩, "MudCouncil"), ("MudCouncil$World", 176, ⟨"MudCouncil", "stageAt", "(II)I"⟩, "MudCouncil"), ("MudCouncil$People", 58, ⟨"MudCouncil", "reachedAt", "(II)I"⟩, "MudCouncil")]
def STL : List (String × Nat × String) := [("MudCouncil", 239, "there is no such room"), ("MudCouncil", 241, "there is no such direction"), ("MudCouncil", 35, "both rooms are the same"), ("MudCouncil", 56, "one of both exits is there already"), ("MudCouncil", 249, "an argument is out of its range"), ("MudCouncil", 71, "the room has a shop"), ("MudCouncil", 243, "there is no such kind"), ("MudCouncil", 76, "the room has no shop"), ("MudCouncil", 88, "all players have joined"), ("MudCouncil", 97, "there are all quests already"), ("MudCouncil", 247, "there is no such quest"), ("MudCouncil", 245, "there is no such player"), ("MudCouncil", 113, "the quest has all its stages"), ("MudCouncil", 118, "some player has reached one of its stages"), ("MudCouncil", 251, "there are no players"), ("MudCouncil", 128, "there is no exit"), ("MudCouncil", 136, "none of that kind lies there"), ("MudCouncil", 255, "the actor has none of that kind"), ("MudCouncil", 253, "the player is the actor or in another room"), ("MudCouncil", 259, "there are not so many coins"), ("MudCouncil", 257, "that kind is not traded here"), ("MudCouncil", 159, "none of that kind is in stock"), ("MudCouncil", 187, "not so many words are kept"), ("MudCouncil", 231, "there were not so many calls")]
def CAL : List (String × String) := [("java/lang/IndexOutOfBoundsException", "java/lang/IndexOutOfBoundsException"), ("java/lang/IllegalArgumentException", "java/lang/IllegalArgumentException"), ("java/lang/IllegalStateException", "java/lang/IllegalStateException")]
def DCL : List MethodName := [⟨"java/lang/RuntimeException", "<init>", "()V"⟩, ⟨"java/lang/RuntimeException", "<init>", "(Ljava/lang/String;)V"⟩, ⟨"java/lang/Exception", "<init>", "()V"⟩, ⟨"java/lang/Exception", "<init>", "(Ljava/lang/String;)V"⟩, ⟨"java/lang/Throwable", "<init>", "()V"⟩, ⟨"java/lang/Throwable", "<init>", "(Ljava/lang/String;)V"⟩]
def KK (D : va_G) (cI cJ : ClassId) (U : State) : Prop := va_K D vwCl [(cI, .int), (cJ, .long)] U ∧ (∀ q ∈ NWL, va_Nw (.methodLinkNest q.1 q.2.1 q.2.2.1 q.2.2.2) U) ∧ (∀ q ∈ STL, ∃ a : Nat, vk_R q.1 q.2.1 q.2.2 a U) ∧ (∀ q ∈ CAL, va_Nw (.castable q.1 q.2) U) ∧ ∀ x ∈ DCL, va_Nw (.declares x) U
theorem KK.warm {D : va_G} {cI cJ : ClassId} {s U : State} (hW : s.WarmedH U.vm) (h : KK D cI cJ s) : KK D cI cJ U :=
  ⟨va_K.moved hW.alike h.1, fun q hq => va_Nw.warmM hW (h.2.1 q hq), fun q hq => by
    obtain ⟨a, ha⟩ := h.2.2.1 q hq
    exact ⟨a, vk_R.warm hW ha⟩, fun q hq => va_Nw.warmC hW (h.2.2.2.1 q hq), fun q hq => va_Nw.warmD hW (h.2.2.2.2 q hq)⟩
theorem KK.same {D : va_G} {cI cJ : ClassId} {s U : State} (hv : U.vm = s.vm) (h : KK D cI cJ s) : KK D cI cJ U :=
  ⟨va_K.moved (by rw [hv]; exact Vm.Alike.refl _) h.1, fun q hq => va_Nw.same rfl hv.symm (h.2.1 q hq), fun q hq => by
    obtain ⟨a, ha⟩ := h.2.2.1 q hq
    exact ⟨a, vk_R.same hv ha⟩, fun q hq => va_Nw.same rfl hv.symm (h.2.2.2.1 q hq), fun q hq => va_Nw.same rfl hv.symm (h.2.2.2.2 q hq)⟩
/-- a method's start: its group holds σ -/
def PreG (D : va_G) (cI cJ : ClassId) (N : Nat) (ad : Nat → Nat) (E : Ent) (σ : Mem) (sz : Nat) (U : State) : Prop := U.heap.size = sz ∧ va_P D vwCl (wsG N ad E σ) U.heap ∧ KK D cI cJ U
/-- the two statics that an exception's own constructor reads -/
def ZZ (A : Nat → Prop) (U : State) (H : Heap) : Prop := vx_Zq Bundle.tN "UNASSIGNED_STACK" Bundle.steD A U H ∧ vx_Zq Bundle.tN "SUPPRESSED_SENTINEL" Bundle.listD A U H
def PreX (D : va_G) (cI cJ : ClassId) (N : Nat) (ad : Nat → Nat) (E : Ent) (σ : Mem) (sz : Nat) (U : State) : Prop := PreG D cI cJ N ad E σ sz U ∧ ZZ (AG N ad sz) U U.heap
theorem blindG {as : List Value} {D : va_G} {cI cJ : ClassId} {N : Nat} {ad : Nat → Nat} {E : Ent} {σ : Mem} {sz : Nat} : FrameBlind (va_Pc as (PreG D cI cJ N ad E σ sz)) := fun _ _ _ _ h => ⟨h.1, h.2.1, h.2.2.1, KK.same rfl h.2.2.2⟩
theorem ZZ.moved {A : Nat → Prop} {u U : State} {H : Heap} (hvm : u.vm.Alike U.vm) (h : ZZ A u H) : ZZ A U H := ⟨vx_Zq.moved hvm h.1, vx_Zq.moved hvm h.2⟩
theorem ZZ.kept {A : Nat → Prop} {U : State} {H H1 : Heap} (h : ZZ A U H) (hq : ∀ a : Nat, a < H.size → ¬ A a → H1[a]? = H[a]?) : ZZ A U H1 := ⟨vx_Zq.kept h.1 hq, vx_Zq.kept h.2 hq⟩
theorem ZZ.narrow {A B : Nat → Prop} {U : State} {H : Heap} (h : ZZ A U H) (hAB : ∀ q, B q → A q) : ZZ B U H := ⟨vx_Zq.narrow h.1 hAB, vx_Zq.narrow h.2 hAB⟩
theorem blindX {as : List Value} {D : va_G} {cI cJ : ClassId} {N : Nat} {ad : Nat → Nat} {E : Ent} {σ : Mem} {sz : Nat} : FrameBlind (va_Pc as (PreX D cI cJ N ad E σ sz)) := fun _ _ _ _ h => ⟨h.1, ⟨h.2.1.1, h.2.1.2.1, KK.same rfl h.2.1.2.2⟩, ZZ.moved (Vm.Alike.refl _) h.2.2⟩
abbrev Qgi (D : va_G) (N : Nat) (ad : Nat → Nat) (E : Ent) (r : Int32) (σ' : Mem) (sz : Nat) : Array Value → State → Outcome → State → Prop := va_Qi (fun r2 (_ : Unit) => r2 = r) (fun _ t => va_P D vwCl (wsG N ad E σ') t.heap) (AG N ad sz)
abbrev Qgv (D : va_G) (N : Nat) (ad : Nat → Nat) (E : Ent) (σ' : Mem) (sz : Nat) : Array Value → State → Outcome → State → Prop := va_Qv (fun (_ : Unit) => True) (fun _ t => va_P D vwCl (wsG N ad E σ') t.heap) (AG N ad sz)
abbrev Qgr (D : va_G) (N : Nat) (ad : Nat → Nat) (E : Ent) (a0 : Nat) (σ' : Mem) (sz : Nat) : Array Value → State → Outcome → State → Prop := va_Qr (fun (_ : Unit) => True) (fun _ a t => a = a0 ∧ va_P D vwCl (wsG N ad E σ') t.heap) (AG N ad sz)
/-- contracts: an int, nothing, a reference; mc, ms: the room of cells -/
def MGi (l : Launch) (y : MethodName) (ws : List Cond) (fr lo : Nat) (D : va_G) (cI cJ : ClassId) (N : Nat) (ad : Nat → Nat) (E : Ent) (as : List Value) (σ σ' : Mem) (r : Int32) : Prop :=
  ∀ sz : Nat, Met l y ws ({ frames := fr, cells := 0, slots := 0, locals := lo }) (va_Pc as (PreG D cI cJ N ad E σ sz)) (Qgi D N ad E r σ' sz) 0 0 (AG N ad sz)
def MGv (l : Launch) (y : MethodName) (ws : List Cond) (fr lo : Nat) (D : va_G) (cI cJ : ClassId) (N : Nat) (ad : Nat → Nat) (E : Ent) (as : List Value) (σ σ' : Mem) : Prop :=
  ∀ sz : Nat, Met l y ws ({ frames := fr, cells := 0, slots := 0, locals := lo }) (va_Pc as (PreG D cI cJ N ad E σ sz)) (Qgv D N ad E σ' sz) 0 0 (AG N ad sz)
def exn : Nat → String | 1 => "java/lang/IndexOutOfBoundsException" | 2 => "java/lang/IllegalArgumentException" | _ => "java/lang/IllegalStateException"
abbrev XCg (D : va_G) (N : Nat) (ad : Nat → Nat) (E : Ent) (e : Nat) (σ' : Mem) (sz : Nat) : String → State → State → Prop := vx_X (fun (_ : Unit) => True) (fun En _ t => En = exn e ∧ va_P D vwCl (wsG N ad E σ') t.heap) (AG N ad sz)
/-- a method that throws: with the number of the exception (0: none); its ends by Qc -/
def MGx (l : Launch) (y : MethodName) (ws : List Cond) (fr lo : Nat) (D : va_G) (cI cJ : ClassId) (N : Nat) (ad : Nat → Nat) (E : Ent) (as : List Value) (σ σ' : Mem) (e : Nat) (Qc : Nat → Array Value → State → Outcome → State → Prop) : Prop :=
  (e = 0 → ∀ sz : Nat, Met l y ws ({ frames := fr, cells := 0, slots := 0, locals := lo }) (va_Pc as (PreX D cI cJ N ad E σ sz)) (Qc sz) 0 0 (AG N ad sz)) ∧
  (e ≠ 0 → ∀ sz : Nat, vx_Met l y ws ({ frames := fr, cells := 1, slots := 6, locals := lo }) (va_Pc as (PreX D cI cJ N ad E σ sz)) (va_Qi (fun (_ : Int32) (_ : Unit) => False) (fun _ _ => True) (AG N ad sz)) (XCg D N ad E e σ' sz) 1 6 (AG N ad sz))
def CalV (C : String) (y : MethodName) (bytes : ByteArray) (maxL : Nat) (ret : Option FieldType) (n : Nat) : Prop := Cond.instanceMethod y ∈ BIG ∧ Cond.selects C y y ∈ BIG ∧ Cond.initialized C ∈ BIG ∧ Cond.code y bytes maxL ret ∈ BIG ∧ (y.cls = C ∧ y.cls ≠ "java/lang/invoke/MethodHandle" ∧ y.cls ≠ "java/lang/invoke/VarHandle" ∧ (parseMethodDescriptor y.desc).map (fun d => d.parameters.length) = some n)
def CalS (y : MethodName) (bytes : ByteArray) (maxL : Nat) (ret : Option FieldType) (n : Nat) : Prop := Cond.static y ∈ BIG ∧ Cond.initialized y.cls ∈ BIG ∧ Cond.code y bytes maxL ret ∈ BIG ∧ (y.cls ≠ "java/lang/invoke/MethodHandle" ∧ y.cls ≠ "java/lang/invoke/VarHandle" ∧ (parseMethodDescriptor y.desc).map (fun d => d.parameters.length) = some n)
theorem CalV.good {own C : String} {idx : Nat} {y : MethodName} {bytes : ByteArray} {maxL : Nat} {ret : Option FieldType} {n : Nat} (h : CalV C y bytes maxL ret n) (hl : Cond.methodLink own idx y ∈ BIG) : GoodIn BIG (wsV own idx C y (Cond.code y bytes maxL ret :: BIG)) := bigG fun w hw => by
  obtain ⟨h1, h2, h3, h4, -⟩ := h
  rcases List.mem_append.mp hw with hw | hw
  · simp only [List.mem_cons, List.not_mem_nil, or_false] at hw
    rcases hw with rfl | rfl | rfl | rfl <;> assumption
  · rcases List.mem_cons.mp hw with rfl | hw
    · exact h4
    · exact hw
theorem CalS.good {own : String} {idx : Nat} {y : MethodName} {bytes : ByteArray} {maxL : Nat} {ret : Option FieldType} {n : Nat} (h : CalS y bytes maxL ret n) (hl : Cond.methodLink own idx y ∈ BIG) : GoodIn BIG (va_wsS own idx y (Cond.code y bytes maxL ret :: BIG)) := bigG fun w hw => by
  obtain ⟨h1, h2, h3, -⟩ := h
  rcases List.mem_append.mp hw with hw | hw
  · simp only [List.mem_cons, List.not_mem_nil, or_false] at hw
    rcases hw with rfl | rfl | rfl <;> assumption
  · rcases List.mem_cons.mp hw with rfl | hw
    · exact h3
    · exact hw
theorem CalS.goodN {y : MethodName} {bytes : ByteArray} {maxL : Nat} {ret : Option FieldType} {n : Nat} (h : CalS y bytes maxL ret n) : GoodIn BIG (Cond.code y bytes maxL ret :: BIG) := bigG fun w hw => by
  rcases List.mem_cons.mp hw with rfl | hw
  · exact h.2.2.1
  · exact hw
section GROWS
variable {p : Program} {l : Launch} {e : Env} {R : Room} {s : State} {m : MethodId} {args : Array Value} {below : List Frame} {meth : Method} {c : Code} {H : Heap} {locs : List Loc} {cells slots : Nat} {Q : State → Prop}
variable {cc : ByteArray} {pc nL : Nat} {ls : Array Slot} {rest st0 : List Value} {D : va_G} {cI cJ : ClassId} {A : Nat → Prop} {N : Nat} {ad : Nat → Nat} {E : Ent} {σ : Mem}
theorem g_iald (hx : p.tables.exec = Jvm.exec) (hb : c.code = cc) (hK : KK D cI cJ s) (hP : va_P D vwCl (wsG N ad E σ) H) (k n : Nat) (hk : k < N) (hE : E k (σ k) = .inl (cI, n, .inl (σ k))) {i : Int32} (hin : vp_in i n) (hdg : decode cc pc = .ok (.iaload, 1))
    (kk : W p l e R s m args below meth c H locs cells slots Q (F0 m (pc + 1) ls (.int (σ k i.toNatClampNeg) :: rest))) : W p l e R s m args below meth c H locs cells slots Q (F0 m pc ls (.int i :: .ref (ad k) :: rest)) :=
  va_iald hx hb hK.1 hP k 0 ((wsG_get hk).trans (by rw [hE])) rfl hin hdg kk
theorem g_iast (hx : p.tables.exec = Jvm.exec) (hb : c.code = cc) (hK : KK D cI cJ s) (hP : va_P D vwCl (wsG N ad E σ) H) (hi : injG N ad) (hAd : ∀ k : Nat, k < N → A (ad k)) (hS : va_S A s.heap H locs) (k n : Nat) (hk : k < N) (hE : ∀ f, E k f = .inl (cI, n, .inl f)) {i x : Int32} (hin : vp_in i n) (hdg : decode cc pc = .ok (.iastore, 1)) {σ1 : Mem} (h1 : σ1 = mu σ k i.toNatClampNeg x)
    (kk : ∀ (H : Heap) (locs : List Loc), va_P D vwCl (wsG N ad E σ1) H → va_S A s.heap H locs → W p l e R s m args below meth c H locs cells slots Q (F0 m (pc + 1) ls rest)) : W p l e R s m args below meth c H locs cells slots Q (F0 m pc ls (.int x :: .int i :: .ref (ad k) :: rest)) := by
  subst h1
  refine va_iast hx hb hK.1 hP (wsG_D hi hAd) hS k 0 ((wsG_get hk).trans (by rw [hE])) rfl hin hdg fun H1 locs1 hP1 _ hS1 => kk H1 locs1 ?_ hS1
  rw [wsG_set hk (hE _).symm] at hP1
  exact hP1
theorem g_alen (hx : p.tables.exec = Jvm.exec) (hb : c.code = cc) (hK : KK D cI cJ s) (hP : va_P D vwCl (wsG N ad E σ) H) (k n : Nat) (hk : k < N) (hE : E k (σ k) = .inl (cI, n, .inl (σ k))) {v : Int32} (hv : Int32.ofNat n = v) (hdg : decode cc pc = .ok (.arraylength, 1))
    (kk : W p l e R s m args below meth c H locs cells slots Q (F0 m (pc + 1) ls (.int v :: rest))) : W p l e R s m args below meth c H locs cells slots Q (F0 m pc ls (.ref (ad k) :: rest)) :=
  va_alen hx hb hK.1 hP k 0 ((wsG_get hk).trans (by rw [hE])) (ty := .int) rfl hv hdg kk
theorem g_get (hx : p.tables.exec = Jvm.exec) (hb : c.code = cc) (hB : ∀ w ∈ BIG, w.before args s = true) {own C : String} (hown : s.vm.findClass own = some m.cls) (hK : KK D cI cJ s) (hP : va_P D vwCl (wsG N ad E σ) H) (k : Nat) (hk : k < N) {ci : Nat} {fs : List Value} (hE : E k (σ k) = .inr (ci, fs)) {T : u_T} {NF : Nat} (hc : vwCl[ci]? = some (C, T, NF)) (hin : ∀ w ∈ u_ws C T NF, w ∈ BIG) (j : Nat) (hj : j < NF) {index : Nat} {ref nm ds : String} (hlk : Cond.fieldLink own index ref nm ds ∈ BIG) (hT : T j = (ref, nm, ds, (T j).2.2.2)) {v : Value} (hv : fs[j]? = some v) (hdg : decode cc pc = .ok (.getfield index, 3))
    (kk : W p l e R s m args below meth c H locs cells slots Q (F0 m (pc + 3) ls (v :: rest))) : W p l e R s m args below meth c H locs cells slots Q (F0 m pc ls (.ref (ad k) :: rest)) :=
  va_get (ref := ref) hx hb hB hin hown hK.1 hP k ((wsG_get hk).trans (by rw [hE])) hc j hj (by rw [hT]; exact hB _ hlk) (fun x hx => by rw [hT] at hx ⊢; exact hx) hv hdg kk
theorem g_put (hx : p.tables.exec = Jvm.exec) (hb : c.code = cc) (hB : ∀ w ∈ BIG, w.before args s = true) {own C : String} (hown : s.vm.findClass own = some m.cls) (hK : KK D cI cJ s) (hP : va_P D vwCl (wsG N ad E σ) H) (hi : injG N ad) (hAd : ∀ k : Nat, k < N → A (ad k)) (hS : va_S A s.heap H locs) (k : Nat) (hk : k < N) {ci : Nat} (fs : (Nat → Int32) → List Value) (hE : ∀ f, E k f = .inr (ci, fs f)) {T : u_T} {NF : Nat} (hc : vwCl[ci]? = some (C, T, NF)) (hin : ∀ w ∈ u_ws C T NF, w ∈ BIG) (ty0 : Nat → FieldType) (hty : ∀ k, k < NF → parseFieldDescriptor (T k).2.2.1 = some (ty0 k)) (hnm : ∀ a, a < NF → ∀ b, b < NF → a ≠ b → (T a).2.1 ≠ (T b).2.1) (j : Nat) (hj : j < NF) {index : Nat} {ref nm : String} (hlk : Cond.fieldLink own index ref nm "I" ∈ BIG) (hT : T j = (ref, nm, "I", false)) (hset : ∀ f (v : Int32), (fs f).set j (.int v) = fs (upd f j v)) (hl : ∀ f, j < (fs f).length) {x : Int32} (hdg : decode cc pc = .ok (.putfield index, 3)) {σ1 : Mem} (h1 : σ1 = mu σ k j x)
    (kk : ∀ (H : Heap) (locs : List Loc), va_P D vwCl (wsG N ad E σ1) H → va_S A s.heap H locs → W p l e R s m args below meth c H locs cells slots Q (F0 m (pc + 3) ls rest)) : W p l e R s m args below meth c H locs cells slots Q (F0 m pc ls (.int x :: .ref (ad k) :: rest)) := by
  subst h1
  refine va_put (ref := ref) (ty := .int) hx hb hB hin ty0 hty hnm hown hK.1 hP (wsG_D hi hAd) hS k ((wsG_get hk).trans (by rw [hE])) hc j hj (by rw [hT]; exact hB _ hlk) (fun x hx => by rw [hT] at hx ⊢; exact hx) (by rw [hT]) (by rw [hT]; exact (by decide +kernel : parseFieldDescriptor "I" = some FieldType.int)) rfl rfl (hl _) hdg fun H1 locs1 hP1 _ hS1 => kk H1 locs1 ?_ hS1
  rw [wsG_set hk (by rw [hE, hset])] at hP1
  exact hP1
/-! the ends -/
theorem g_iret (hx : p.tables.exec = Jvm.exec) (hb : c.code = cc) (hr : meth.sig.returnType = some .int) (hlocks : meth.locks = false) (hP : va_P D vwCl (wsG N ad E σ) H) (hS : va_S (AG N ad s.heap.size) s.heap H locs) {r v : Int32} {σ' : Mem} (h1 : v = r) (h2 : σ = σ') (hdg : decode cc pc = .ok (.ireturn, 1)) :
    W p l e R s m args below meth c H locs 0 0 (MQ below (Qgi D N ad E r σ' s.heap.size) args s 0 0 (AG N ad s.heap.size)) (F0 m pc ls [.int v]) := by
  subst h1; subst h2
  exact W.iret hx hb hr (fun t ht _ => ⟨⟨v, (), rfl, rfl, by show va_P D vwCl _ t.heap; rw [ht]; exact hP⟩, hS.F ht⟩) hS.2.2 hdg
theorem g_zret (hx : p.tables.exec = Jvm.exec) (hb : c.code = cc) (hr : meth.sig.returnType = some .boolean) (hlocks : meth.locks = false) (hP : va_P D vwCl (wsG N ad E σ) H) (hS : va_S (AG N ad s.heap.size) s.heap H locs) {r v : Int32} {σ' : Mem} (h0 : v = 0 ∨ v = 1) (h1 : v = r) (h2 : σ = σ') (hdg : decode cc pc = .ok (.ireturn, 1)) :
    W p l e R s m args below meth c H locs 0 0 (MQ below (Qgi D N ad E r σ' s.heap.size) args s 0 0 (AG N ad s.heap.size)) (F0 m pc ls [.int v]) := by
  subst h1; subst h2
  exact W.zret hx hb hr (by rcases h0 with rfl | rfl <;> rfl) (fun t ht _ => ⟨⟨v, (), rfl, rfl, by show va_P D vwCl _ t.heap; rw [ht]; exact hP⟩, hS.F ht⟩) hS.2.2 hdg
theorem g_vret (hx : p.tables.exec = Jvm.exec) (hb : c.code = cc) (hr : meth.sig.returnType = none) (hlocks : meth.locks = false) (hP : va_P D vwCl (wsG N ad E σ) H) (hS : va_S (AG N ad s.heap.size) s.heap H locs) {σ' : Mem} (h2 : σ = σ') (hdg : decode cc pc = .ok (.return_, 1)) :
    W p l e R s m args below meth c H locs 0 0 (MQ below (Qgv D N ad E σ' s.heap.size) args s 0 0 (AG N ad s.heap.size)) (F0 m pc ls []) := by
  subst h2
  exact W.vret hx hb hr (fun t ht _ => ⟨⟨(), rfl, trivial, by show va_P D vwCl _ t.heap; rw [ht]; exact hP⟩, hS.F ht⟩) hS.2.2 hdg
theorem g_aret (hx : p.tables.exec = Jvm.exec) (hb : c.code = cc) {rt : FieldType} (hr : meth.sig.returnType = some rt) (hrt : ∃ n, rt = .object n) (hlocks : meth.locks = false) (hP : va_P D vwCl (wsG N ad E σ) H) (hS : va_S (AG N ad s.heap.size) s.heap H locs) {a0 : Nat} {σ' : Mem} (h2 : σ = σ') (hdg : decode cc pc = .ok (.areturn, 1)) :
    W p l e R s m args below meth c H locs 0 0 (MQ below (Qgr D N ad E a0 σ' s.heap.size) args s 0 0 (AG N ad s.heap.size)) (F0 m pc ls [.ref a0]) := by
  subst h2
  exact W.aret hx hb hr (Or.inl hrt) (Or.inr ⟨a0, rfl⟩) (fun t ht _ => ⟨⟨(), a0, rfl, trivial, rfl, by show va_P D vwCl _ t.heap; rw [ht]; exact hP⟩, hS.F ht⟩) hS.2.2 hdg
end GROWS
end
section
section GCALLS
variable {p : Program} {l : Launch} {e : Env} {R : Room} {s : State} {m : MethodId} {args : Array Value} {below : List Frame} {meth : Method} {c : Code} {H : Heap} {locs : List Loc} {cells slots : Nat} {Q : State → Prop}
variable {cc : ByteArray} {pc nL : Nat} {ls : Array Slot} {rest st0 : List Value} {D : va_G} {cI cJ : ClassId} {A : Nat → Prop} {N : Nat} {ad : Nat → Nat} {E : Ent} {σ : Mem}
variable {k0 N' : Nat} {ad' : Nat → Nat} {E' : Ent} {ι : Nat → Nat} {own C : String} {idx : Nat} {y : MethodName} {bytes : ByteArray} {maxL : Nat} {ret : Option FieldType} {n fr lo : Nat} {As : List Value} {b : Nat} {σc σ1 τ : Mem} {r : Int32}
/-- what the caller has: the machine, the tables, its group -/
def Gc (p : Program) (s : State) (m : MethodId) (args : Array Value) (c : Code) (H : Heap) (locs : List Loc) (cc : ByteArray) (nL : Nat) (own : String) (D : va_G) (cI cJ : ClassId) (A : Nat → Prop) (N : Nat) (ad : Nat → Nat) (E : Ent) (σ : Mem) : Prop :=
  CallFix p m c cc nL s args BIG own ∧ KK D cI cJ s ∧ injG N ad ∧ (∀ q : Nat, s.heap.size ≤ q → A q) ∧ (∀ k : Nat, k < N → A (ad k)) ∧ va_P D vwCl (wsG N ad E σ) H ∧ va_S A s.heap H locs
theorem g_cVi (G : Gc p s m args c H locs cc nL own D cI cJ A N ad E σ) (hsub : subG N ad E N' ad' E' ι) (hM : MGi l y (Cond.code y bytes maxL ret :: BIG) fr lo D cI cJ N' ad' E' (.ref b :: As) σc σ1 r) (hσ : ∀ k : Nat, k < N' → σc k = σ (ι k))
    (cal : CalV C y bytes maxL ret n) (hlk : Cond.methodLink own idx y ∈ BIG) (hR : fr + 1 ≤ R.frames ∧ 8 + (maxL + 11) + lo ≤ R.locals) (k0 : Nat) (hk0 : k0 < N') (hb0 : ad' k0 = b) {ci : Nat} {fs : List Value} {T : u_T} {NF : Nat} (he0 : E' k0 (σc k0) = .inr (ci, fs)) (hc0 : vwCl[ci]? = some (C, T, NF))
    (hn : As.length = n) (hsize : ls.size = nL) (hW : (rest.map fun v => v.category).sum ≤ 8) (hstk : st0 = As.reverse ++ .ref b :: rest) (hdg : decode cc pc = .ok (.invokevirtual idx, 3)) (hcs : cells ≤ R.cells ∧ slots ≤ R.slots)
    (h1 : ∀ k : Nat, k < N' → τ (ι k) = σ1 k) (h2 : ∀ j : Nat, j < N → (∀ k : Nat, k < N' → ι k ≠ j) → τ j = σ j)
    (kk : ∀ (H : Heap) (locs : List Loc), va_P D vwCl (wsG N ad E τ) H → va_S A s.heap H locs → W p l e R s m args below meth c H locs cells slots Q (F0 m (pc + 3) ls (.int r :: rest))) : W p l e R s m args below meth c H locs cells slots Q (F0 m pc ls st0) := by
  obtain ⟨S, hK, hi, hA, hAd, hP, hS⟩ := G
  have hPc := hsub.P hσ hP
  have hFc := hsub.free hS hA hAd
  refine va_calli (va_runV S (hM H.size) (cwV n S.2.2.2.2 (cal.good hlk) rfl rfl rfl cal.2.2.2.2 hR) ⟨blindG, va_recv hK.1 hPc hc0 ((wsG_get hk0).trans (by rw [hb0, he0])), fun U hU hW => ⟨rfl, by rw [hU], by rw [hU]; exact hPc, KK.warm hW hK⟩⟩ rfl hn hsize hstk (lv_room hW) hdg hcs) hS (fun q _ h => hFc q h) hFc (fun r' u t H1 locs1 ht hvm hw hB hz1 hk1 hS1 => ?_)
  have hB : va_P D vwCl (wsG N' ad' E' σ1) t.heap := hB
  rw [ht] at hB
  subst hw
  exact kk H1 locs1 (hsub.join hi hP hB hk1 h1 h2) hS1
theorem g_cVv (G : Gc p s m args c H locs cc nL own D cI cJ A N ad E σ) (hsub : subG N ad E N' ad' E' ι) (hM : MGv l y (Cond.code y bytes maxL ret :: BIG) fr lo D cI cJ N' ad' E' (.ref b :: As) σc σ1) (hσ : ∀ k : Nat, k < N' → σc k = σ (ι k))
    (cal : CalV C y bytes maxL ret n) (hlk : Cond.methodLink own idx y ∈ BIG) (hR : fr + 1 ≤ R.frames ∧ 8 + (maxL + 11) + lo ≤ R.locals) (k0 : Nat) (hk0 : k0 < N') (hb0 : ad' k0 = b) {ci : Nat} {fs : List Value} {T : u_T} {NF : Nat} (he0 : E' k0 (σc k0) = .inr (ci, fs)) (hc0 : vwCl[ci]? = some (C, T, NF))
    (hn : As.length = n) (hsize : ls.size = nL) (hW : (rest.map fun v => v.category).sum ≤ 8) (hstk : st0 = As.reverse ++ .ref b :: rest) (hdg : decode cc pc = .ok (.invokevirtual idx, 3)) (hcs : cells ≤ R.cells ∧ slots ≤ R.slots)
    (h1 : ∀ k : Nat, k < N' → τ (ι k) = σ1 k) (h2 : ∀ j : Nat, j < N → (∀ k : Nat, k < N' → ι k ≠ j) → τ j = σ j)
    (kk : ∀ (H : Heap) (locs : List Loc), va_P D vwCl (wsG N ad E τ) H → va_S A s.heap H locs → W p l e R s m args below meth c H locs cells slots Q (F0 m (pc + 3) ls rest)) : W p l e R s m args below meth c H locs cells slots Q (F0 m pc ls st0) := by
  obtain ⟨S, hK, hi, hA, hAd, hP, hS⟩ := G
  have hPc := hsub.P hσ hP
  have hFc := hsub.free hS hA hAd
  refine va_callv (va_runV S (hM H.size) (cwV n S.2.2.2.2 (cal.good hlk) rfl rfl rfl cal.2.2.2.2 hR) ⟨blindG, va_recv hK.1 hPc hc0 ((wsG_get hk0).trans (by rw [hb0, he0])), fun U hU hW => ⟨rfl, by rw [hU], by rw [hU]; exact hPc, KK.warm hW hK⟩⟩ rfl hn hsize hstk (lv_room hW) hdg hcs) hS (fun q _ h => hFc q h) hFc (fun u t H1 locs1 ht hvm hw hB hz1 hk1 hS1 => ?_)
  have hB : va_P D vwCl (wsG N' ad' E' σ1) t.heap := hB
  rw [ht] at hB
  exact kk H1 locs1 (hsub.join hi hP hB hk1 h1 h2) hS1
theorem g_cSi (G : Gc p s m args c H locs cc nL own D cI cJ A N ad E σ) (hsub : subG N ad E N' ad' E' ι) (hM : MGi l y (Cond.code y bytes maxL ret :: BIG) fr lo D cI cJ N' ad' E' As σc σ1 r) (hσ : ∀ k : Nat, k < N' → σc k = σ (ι k))
    (cal : CalS y bytes maxL ret n) (hlk : Cond.methodLink own idx y ∈ BIG) (hR : fr + 1 ≤ R.frames ∧ 8 + (maxL + 11) + lo ≤ R.locals)
    (hn : As.length = n) (hsize : ls.size = nL) (hW : (rest.map fun v => v.category).sum ≤ 8) (hstk : st0 = As.reverse ++ rest) (hdg : decode cc pc = .ok (.invokestatic idx, 3)) (hcs : cells ≤ R.cells ∧ slots ≤ R.slots)
    (h1 : ∀ k : Nat, k < N' → τ (ι k) = σ1 k) (h2 : ∀ j : Nat, j < N → (∀ k : Nat, k < N' → ι k ≠ j) → τ j = σ j)
    (kk : ∀ (H : Heap) (locs : List Loc), va_P D vwCl (wsG N ad E τ) H → va_S A s.heap H locs → W p l e R s m args below meth c H locs cells slots Q (F0 m (pc + 3) ls (.int r :: rest))) : W p l e R s m args below meth c H locs cells slots Q (F0 m pc ls st0) := by
  obtain ⟨S, hK, hi, hA, hAd, hP, hS⟩ := G
  have hPc := hsub.P hσ hP
  have hFc := hsub.free hS hA hAd
  refine va_calli (va_runS S (hM H.size) (va_cwS n S.2.2.2.2 (cal.good hlk) rfl rfl rfl cal.2.2.2 hR) ⟨blindG, fun U hU hW => ⟨rfl, by rw [hU], by rw [hU]; exact hPc, KK.warm hW hK⟩⟩ rfl hn hsize hstk (lv_room hW) hdg hcs) hS (fun q _ h => hFc q h) hFc (fun r' u t H1 locs1 ht hvm hw hB hz1 hk1 hS1 => ?_)
  have hB : va_P D vwCl (wsG N' ad' E' σ1) t.heap := hB
  rw [ht] at hB
  subst hw
  exact kk H1 locs1 (hsub.join hi hP hB hk1 h1 h2) hS1
theorem g_cSv (G : Gc p s m args c H locs cc nL own D cI cJ A N ad E σ) (hsub : subG N ad E N' ad' E' ι) (hM : MGv l y (Cond.code y bytes maxL ret :: BIG) fr lo D cI cJ N' ad' E' As σc σ1) (hσ : ∀ k : Nat, k < N' → σc k = σ (ι k))
    (cal : CalS y bytes maxL ret n) (hlk : Cond.methodLink own idx y ∈ BIG) (hR : fr + 1 ≤ R.frames ∧ 8 + (maxL + 11) + lo ≤ R.locals)
    (hn : As.length = n) (hsize : ls.size = nL) (hW : (rest.map fun v => v.category).sum ≤ 8) (hstk : st0 = As.reverse ++ rest) (hdg : decode cc pc = .ok (.invokestatic idx, 3)) (hcs : cells ≤ R.cells ∧ slots ≤ R.slots)
    (h1 : ∀ k : Nat, k < N' → τ (ι k) = σ1 k) (h2 : ∀ j : Nat, j < N → (∀ k : Nat, k < N' → ι k ≠ j) → τ j = σ j)
    (kk : ∀ (H : Heap) (locs : List Loc), va_P D vwCl (wsG N ad E τ) H → va_S A s.heap H locs → W p l e R s m args below meth c H locs cells slots Q (F0 m (pc + 3) ls rest)) : W p l e R s m args below meth c H locs cells slots Q (F0 m pc ls st0) := by
  obtain ⟨S, hK, hi, hA, hAd, hP, hS⟩ := G
  have hPc := hsub.P hσ hP
  have hFc := hsub.free hS hA hAd
  refine va_callv (va_runS S (hM H.size) (va_cwS n S.2.2.2.2 (cal.good hlk) rfl rfl rfl cal.2.2.2 hR) ⟨blindG, fun U hU hW => ⟨rfl, by rw [hU], by rw [hU]; exact hPc, KK.warm hW hK⟩⟩ rfl hn hsize hstk (lv_room hW) hdg hcs) hS (fun q _ h => hFc q h) hFc (fun u t H1 locs1 ht hvm hw hB hz1 hk1 hS1 => ?_)
  have hB : va_P D vwCl (wsG N' ad' E' σ1) t.heap := hB
  rw [ht] at hB
  exact kk H1 locs1 (hsub.join hi hP hB hk1 h1 h2) hS1
/-- a static method of a nest mate -/
theorem g_cNi {host : String} (G : Gc p s m args c H locs cc nL own D cI cJ A N ad E σ) (hsub : subG N ad E N' ad' E' ι) (hM : MGi l y (Cond.code y bytes maxL ret :: BIG) fr lo D cI cJ N' ad' E' As σc σ1 r) (hσ : ∀ k : Nat, k < N' → σc k = σ (ι k))
    (cal : CalS y bytes maxL ret n) (hlk : (own, idx, y, host) ∈ NWL) (hR : fr + 1 ≤ R.frames ∧ 8 + (maxL + 11) + lo ≤ R.locals)
    (hn : As.length = n) (hsize : ls.size = nL) (hW : (rest.map fun v => v.category).sum ≤ 8) (hstk : st0 = As.reverse ++ rest) (hdg : decode cc pc = .ok (.invokestatic idx, 3)) (hcs : cells ≤ R.cells ∧ slots ≤ R.slots)
    (h1 : ∀ k : Nat, k < N' → τ (ι k) = σ1 k) (h2 : ∀ j : Nat, j < N → (∀ k : Nat, k < N' → ι k ≠ j) → τ j = σ j)
    (kk : ∀ (H : Heap) (locs : List Loc), va_P D vwCl (wsG N ad E τ) H → va_S A s.heap H locs → W p l e R s m args below meth c H locs cells slots Q (F0 m (pc + 3) ls (.int r :: rest))) : W p l e R s m args below meth c H locs cells slots Q (F0 m pc ls st0) := by
  obtain ⟨S, hK, hi, hA, hAd, hP, hS⟩ := G
  have hPc := hsub.P hσ hP
  have hFc := hsub.free hS hA hAd
  refine va_calli (va_runSN S (hM H.size) ⟨va_cnB n S.2.2.2.2 cal.goodN rfl rfl rfl (hK.2.1 _ hlk) (S.2.2.2.2 _ cal.2.1) cal.2.2.2 hR, S.2.2.2.2 _ cal.1, trivial⟩ ⟨blindG, fun U hU hW => ⟨rfl, by rw [hU], by rw [hU]; exact hPc, KK.warm hW hK⟩⟩ rfl hn hsize hstk (lv_room hW) hdg hcs) hS (fun q _ h => hFc q h) hFc (fun r' u t H1 locs1 ht hvm hw hB hz1 hk1 hS1 => ?_)
  have hB : va_P D vwCl (wsG N' ad' E' σ1) t.heap := hB
  rw [ht] at hB
  subst hw
  exact kk H1 locs1 (hsub.join hi hP hB hk1 h1 h2) hS1
/-! a callee without cells; of the same group -/
theorem sub0 : subG N ad E 0 ad E (fun k => k) := fun k h => absurd h (Nat.not_lt_zero k)
theorem g_cSi0 (G : Gc p s m args c H locs cc nL own D cI cJ A N ad E σ) (hM : MGi l y (Cond.code y bytes maxL ret :: BIG) fr lo D cI cJ 0 ad E As σ σ r)
    (cal : CalS y bytes maxL ret n) (hlk : Cond.methodLink own idx y ∈ BIG) (hR : fr + 1 ≤ R.frames ∧ 8 + (maxL + 11) + lo ≤ R.locals)
    (hn : As.length = n) (hsize : ls.size = nL) (hW : (rest.map fun v => v.category).sum ≤ 8) (hstk : st0 = As.reverse ++ rest) (hdg : decode cc pc = .ok (.invokestatic idx, 3)) (hcs : cells ≤ R.cells ∧ slots ≤ R.slots)
    (kk : ∀ (H : Heap) (locs : List Loc), va_P D vwCl (wsG N ad E σ) H → va_S A s.heap H locs → W p l e R s m args below meth c H locs cells slots Q (F0 m (pc + 3) ls (.int r :: rest))) : W p l e R s m args below meth c H locs cells slots Q (F0 m pc ls st0) :=
  g_cSi G sub0 hM (fun _ _ => rfl) cal hlk hR hn hsize hW hstk hdg hcs (fun k h => absurd h (Nat.not_lt_zero k)) (fun _ _ _ => rfl) kk
theorem g_cNi0 {host : String} (G : Gc p s m args c H locs cc nL own D cI cJ A N ad E σ) (hM : MGi l y (Cond.code y bytes maxL ret :: BIG) fr lo D cI cJ 0 ad E As σ σ r)
    (cal : CalS y bytes maxL ret n) (hlk : (own, idx, y, host) ∈ NWL) (hR : fr + 1 ≤ R.frames ∧ 8 + (maxL + 11) + lo ≤ R.locals)
    (hn : As.length = n) (hsize : ls.size = nL) (hW : (rest.map fun v => v.category).sum ≤ 8) (hstk : st0 = As.reverse ++ rest) (hdg : decode cc pc = .ok (.invokestatic idx, 3)) (hcs : cells ≤ R.cells ∧ slots ≤ R.slots)
    (kk : ∀ (H : Heap) (locs : List Loc), va_P D vwCl (wsG N ad E σ) H → va_S A s.heap H locs → W p l e R s m args below meth c H locs cells slots Q (F0 m (pc + 3) ls (.int r :: rest))) : W p l e R s m args below meth c H locs cells slots Q (F0 m pc ls st0) :=
  g_cNi G sub0 hM (fun _ _ => rfl) cal hlk hR hn hsize hW hstk hdg hcs (fun k h => absurd h (Nat.not_lt_zero k)) (fun _ _ _ => rfl) kk
theorem g_cViS (G : Gc p s m args c H locs cc nL own D cI cJ A N ad E σ) (hM : MGi l y (Cond.code y bytes maxL ret :: BIG) fr lo D cI cJ N ad E (.ref (ad k0) :: As) σ σ1 r)
    (cal : CalV C y bytes maxL ret n) (hlk : Cond.methodLink own idx y ∈ BIG) (hR : fr + 1 ≤ R.frames ∧ 8 + (maxL + 11) + lo ≤ R.locals) (hk0 : k0 < N) {ci : Nat} {fs : List Value} {T : u_T} {NF : Nat} (he0 : E k0 (σ k0) = .inr (ci, fs)) (hc0 : vwCl[ci]? = some (C, T, NF))
    (hn : As.length = n) (hsize : ls.size = nL) (hW : (rest.map fun v => v.category).sum ≤ 8) (hstk : st0 = As.reverse ++ .ref (ad k0) :: rest) (hdg : decode cc pc = .ok (.invokevirtual idx, 3)) (hcs : cells ≤ R.cells ∧ slots ≤ R.slots)
    (kk : ∀ (H : Heap) (locs : List Loc), va_P D vwCl (wsG N ad E σ1) H → va_S A s.heap H locs → W p l e R s m args below meth c H locs cells slots Q (F0 m (pc + 3) ls (.int r :: rest))) : W p l e R s m args below meth c H locs cells slots Q (F0 m pc ls st0) :=
  g_cVi G subG.rf hM (fun _ _ => rfl) cal hlk hR k0 hk0 rfl he0 hc0 hn hsize hW hstk hdg hcs (fun _ _ => rfl) (fun j hj h => absurd rfl (h j hj)) kk
theorem g_cVvS (G : Gc p s m args c H locs cc nL own D cI cJ A N ad E σ) (hM : MGv l y (Cond.code y bytes maxL ret :: BIG) fr lo D cI cJ N ad E (.ref (ad k0) :: As) σ σ1)
    (cal : CalV C y bytes maxL ret n) (hlk : Cond.methodLink own idx y ∈ BIG) (hR : fr + 1 ≤ R.frames ∧ 8 + (maxL + 11) + lo ≤ R.locals) (hk0 : k0 < N) {ci : Nat} {fs : List Value} {T : u_T} {NF : Nat} (he0 : E k0 (σ k0) = .inr (ci, fs)) (hc0 : vwCl[ci]? = some (C, T, NF))
    (hn : As.length = n) (hsize : ls.size = nL) (hW : (rest.map fun v => v.category).sum ≤ 8) (hstk : st0 = As.reverse ++ .ref (ad k0) :: rest) (hdg : decode cc pc = .ok (.invokevirtual idx, 3)) (hcs : cells ≤ R.cells ∧ slots ≤ R.slots)
    (kk : ∀ (H : Heap) (locs : List Loc), va_P D vwCl (wsG N ad E σ1) H → va_S A s.heap H locs → W p l e R s m args below meth c H locs cells slots Q (F0 m (pc + 3) ls rest)) : W p l e R s m args below meth c H locs cells slots Q (F0 m pc ls st0) :=
  g_cVv G subG.rf hM (fun _ _ => rfl) cal hlk hR k0 hk0 rfl he0 hc0 hn hsize hW hstk hdg hcs (fun _ _ => rfl) (fun j hj h => absurd rfl (h j hj)) kk
/-! the contract out of the walk -/
theorem MGi.ofW {ws : List Cond} {as : List Value} {σ' : Mem} (hy : plainName y.cls = true) (hw : ws = Cond.code y cc nL ret :: BIG) (hi : injG N ad)
    (body : ∀ p e s m args below meth c, p.tables.exec = Jvm.exec → c.code = cc → meth.sig.returnType = ret → c.maxLocals = nL → meth.locks = false → s.vm.findClass y.cls = some m.cls → (∀ w ∈ BIG, w.before args s = true) → KK D cI cJ s → va_P D vwCl (wsG N ad E σ) s.heap → (∀ q : Nat, s.heap.size ≤ q → AG N ad s.heap.size q) → (∀ k : Nat, k < N → AG N ad s.heap.size (ad k)) → va_S (AG N ad s.heap.size) s.heap s.heap [] →
      W p l e ({ frames := fr, cells := 0, slots := 0, locals := lo }) s m args below meth c s.heap [] 0 0 (MQ below (Qgi D N ad E r σ' s.heap.size) args s 0 0 (AG N ad s.heap.size)) (entryFrame m as.toArray nL)) : MGi l y ws fr lo D cI cJ N ad E as σ σ' r := by
  intro sz
  subst hw
  refine Met.ofW (cc := cc) (maxL := nL) (ret := ret) hy rfl ?_
  intro p e s m args below meth c s₁ B hml hv
  obtain ⟨rfl, hsz, hP, hK⟩ := hv
  subst hsz
  exact body p e s m _ below meth c B.exec B.bytes B.returns hml B.notSynchronized (findClass_of_methodNamed B.named) (bigH (atoms_spec (ws := Cond.code y cc nL ret :: BIG) B.pre)) hK hP (fun q h => Or.inr h) (fun k h => Or.inl ⟨k, h, rfl⟩) va_S.rf
theorem MGv.ofW {ws : List Cond} {as : List Value} {σ' : Mem} (hy : plainName y.cls = true) (hw : ws = Cond.code y cc nL ret :: BIG) (hi : injG N ad)
    (body : ∀ p e s m args below meth c, p.tables.exec = Jvm.exec → c.code = cc → meth.sig.returnType = ret → c.maxLocals = nL → meth.locks = false → s.vm.findClass y.cls = some m.cls → (∀ w ∈ BIG, w.before args s = true) → KK D cI cJ s → va_P D vwCl (wsG N ad E σ) s.heap → (∀ q : Nat, s.heap.size ≤ q → AG N ad s.heap.size q) → (∀ k : Nat, k < N → AG N ad s.heap.size (ad k)) → va_S (AG N ad s.heap.size) s.heap s.heap [] →
      W p l e ({ frames := fr, cells := 0, slots := 0, locals := lo }) s m args below meth c s.heap [] 0 0 (MQ below (Qgv D N ad E σ' s.heap.size) args s 0 0 (AG N ad s.heap.size)) (entryFrame m as.toArray nL)) : MGv l y ws fr lo D cI cJ N ad E as σ σ' := by
  intro sz
  subst hw
  refine Met.ofW (cc := cc) (maxL := nL) (ret := ret) hy rfl ?_
  intro p e s m args below meth c s₁ B hml hv
  obtain ⟨rfl, hsz, hP, hK⟩ := hv
  subst hsz
  exact body p e s m _ below meth c B.exec B.bytes B.returns hml B.notSynchronized (findClass_of_methodNamed B.named) (bigH (atoms_spec (ws := Cond.code y cc nL ret :: BIG) B.pre)) hK hP (fun q h => Or.inr h) (fun k h => Or.inl ⟨k, h, rfl⟩) va_S.rf
end GCALLS
end
section
/-! THE GROUPS: a world (24 cells), the council (51), the reference (25) -/
def EW (ad : Nat → Nat) (cI : ClassId) : Ent := fun k f => match k with
  | 0 => .inr (4, [.ref (ad 1), .ref (ad 8), .ref (ad 18), .int (f 3), .int (f 4)])
  | 1 => .inr (2, [.ref (ad 2), .ref (ad 3), .ref (ad 4), .ref (ad 5), .ref (ad 6), .ref (ad 7)])
  | 2 => .inl (cI, 32, .inl f)
  | 3 => .inl (cI, 8, .inl f)
  | 4 => .inl (cI, 40, .inl f)
  | 5 => .inl (cI, 40, .inl f)
  | 6 => .inl (cI, 40, .inl f)
  | 7 => .inl (cI, 8, .inl f)
  | 8 => .inr (1, [.int (f 0), .ref (ad 9), .ref (ad 10), .ref (ad 11), .ref (ad 12), .ref (ad 13), .ref (ad 14), .ref (ad 15), .ref (ad 16), .ref (ad 17)])
  | 9 => .inl (cI, 4, .inl f)
  | 10 => .inl (cI, 4, .inl f)
  | 11 => .inl (cI, 4, .inl f)
  | 12 => .inl (cI, 4, .inl f)
  | 13 => .inl (cI, 4, .inl f)
  | 14 => .inl (cI, 20, .inl f)
  | 15 => .inl (cI, 12, .inl f)
  | 16 => .inl (cI, 24, .inl f)
  | 17 => .inl (cI, 4, .inl f)
  | 18 => .inr (3, [.int (f 0), .ref (ad 19), .ref (ad 20), .ref (ad 21), .ref (ad 22), .ref (ad 23)])
  | 19 => .inl (cI, 3, .inl f)
  | 20 => .inl (cI, 3, .inl f)
  | 21 => .inl (cI, 12, .inl f)
  | 22 => .inl (cI, 12, .inl f)
  | _ => .inl (cI, 12, .inl f)
def EX (ad : Nat → Nat) (cI : ClassId) : Ent := fun k f => match k with
  | 0 => .inr (4, [.ref (ad 1), .ref (ad 8), .ref (ad 18), .int (f 3), .int (f 4)])
  | 1 => .inr (2, [.ref (ad 2), .ref (ad 3), .ref (ad 4), .ref (ad 5), .ref (ad 6), .ref (ad 7)])
  | 2 => .inl (cI, 32, .inl f)
  | 3 => .inl (cI, 8, .inl f)
  | 4 => .inl (cI, 40, .inl f)
  | 5 => .inl (cI, 40, .inl f)
  | 6 => .inl (cI, 40, .inl f)
  | 7 => .inl (cI, 8, .inl f)
  | 8 => .inr (1, [.int (f 0), .ref (ad 9), .ref (ad 10), .ref (ad 11), .ref (ad 12), .ref (ad 13), .ref (ad 14), .ref (ad 15), .ref (ad 16), .ref (ad 17)])
  | 9 => .inl (cI, 4, .inl f)
  | 10 => .inl (cI, 4, .inl f)
  | 11 => .inl (cI, 4, .inl f)
  | 12 => .inl (cI, 4, .inl f)
  | 13 => .inl (cI, 4, .inl f)
  | 14 => .inl (cI, 20, .inl f)
  | 15 => .inl (cI, 12, .inl f)
  | 16 => .inl (cI, 24, .inl f)
  | 17 => .inl (cI, 4, .inl f)
  | 18 => .inr (3, [.int (f 0), .ref (ad 19), .ref (ad 20), .ref (ad 21), .ref (ad 22), .ref (ad 23)])
  | 19 => .inl (cI, 3, .inl f)
  | 20 => .inl (cI, 3, .inl f)
  | 21 => .inl (cI, 12, .inl f)
  | 22 => .inl (cI, 12, .inl f)
  | 23 => .inl (cI, 12, .inl f)
  | 24 => .inr (4, [.ref (ad 25), .ref (ad 32), .ref (ad 42), .int (f 3), .int (f 4)])
  | 25 => .inr (2, [.ref (ad 26), .ref (ad 27), .ref (ad 28), .ref (ad 29), .ref (ad 30), .ref (ad 31)])
  | 26 => .inl (cI, 32, .inl f)
  | 27 => .inl (cI, 8, .inl f)
  | 28 => .inl (cI, 40, .inl f)
  | 29 => .inl (cI, 40, .inl f)
  | 30 => .inl (cI, 40, .inl f)
  | 31 => .inl (cI, 8, .inl f)
  | 32 => .inr (1, [.int (f 0), .ref (ad 33), .ref (ad 34), .ref (ad 35), .ref (ad 36), .ref (ad 37), .ref (ad 38), .ref (ad 39), .ref (ad 40), .ref (ad 41)])
  | 33 => .inl (cI, 4, .inl f)
  | 34 => .inl (cI, 4, .inl f)
  | 35 => .inl (cI, 4, .inl f)
  | 36 => .inl (cI, 4, .inl f)
  | 37 => .inl (cI, 4, .inl f)
  | 38 => .inl (cI, 20, .inl f)
  | 39 => .inl (cI, 12, .inl f)
  | 40 => .inl (cI, 24, .inl f)
  | 41 => .inl (cI, 4, .inl f)
  | 42 => .inr (3, [.int (f 0), .ref (ad 43), .ref (ad 44), .ref (ad 45), .ref (ad 46), .ref (ad 47)])
  | 43 => .inl (cI, 3, .inl f)
  | 44 => .inl (cI, 3, .inl f)
  | 45 => .inl (cI, 12, .inl f)
  | 46 => .inl (cI, 12, .inl f)
  | 47 => .inl (cI, 12, .inl f)
  | 48 => .inr (5, [.ref (ad 49), .ref (ad 0), .ref (ad 24)])
  | 49 => .inr (0, [.ref (ad 50), .int (f 1)])
  | _ => .inl (cI, 2560, .inl f)
def EM (ad : Nat → Nat) (cI : ClassId) : Ent := fun k f => match k with
  | 0 => .inr (6, [.ref (ad 1), .ref (ad 2), .ref (ad 3), .ref (ad 4), .ref (ad 5), .int (f 5), .ref (ad 6), .ref (ad 7), .ref (ad 8), .ref (ad 9), .ref (ad 10), .ref (ad 11), .ref (ad 12), .ref (ad 13), .int (f 14), .int (f 15), .int (f 16), .ref (ad 14), .ref (ad 15), .ref (ad 16), .ref (ad 17), .ref (ad 18), .ref (ad 19), .int (f 23), .ref (ad 20), .ref (ad 21), .ref (ad 22), .ref (ad 23), .ref (ad 24), .int (f 29)])
  | 1 => .inl (cI, 32, .inl f)
  | 2 => .inl (cI, 40, .inl f)
  | 3 => .inl (cI, 8, .inl f)
  | 4 => .inl (cI, 40, .inl f)
  | 5 => .inl (cI, 40, .inl f)
  | 6 => .inl (cI, 4, .inl f)
  | 7 => .inl (cI, 4, .inl f)
  | 8 => .inl (cI, 4, .inl f)
  | 9 => .inl (cI, 4, .inl f)
  | 10 => .inl (cI, 4, .inl f)
  | 11 => .inl (cI, 20, .inl f)
  | 12 => .inl (cI, 4, .inl f)
  | 13 => .inl (cI, 24, .inl f)
  | 14 => .inl (cI, 3, .inl f)
  | 15 => .inl (cI, 3, .inl f)
  | 16 => .inl (cI, 12, .inl f)
  | 17 => .inl (cI, 12, .inl f)
  | 18 => .inl (cI, 12, .inl f)
  | 19 => .inl (cI, 12, .inl f)
  | 20 => .inl (cI, 1100, .inl f)
  | 21 => .inl (cI, 1100, .inl f)
  | 22 => .inl (cI, 4400, .inl f)
  | 23 => .inl (cI, 4400, .inl f)
  | _ => .inl (cI, 8, .inl f)
/-! WORDS -/
theorem kU_X0 : ∀ w ∈ u_ws RX0 TX0 2, w ∈ BIG := by decide +kernel
theorem kU_X1 : ∀ w ∈ u_ws RX1 TX1 10, w ∈ BIG := by decide +kernel
theorem kU_X2 : ∀ w ∈ u_ws RX2 TX2 6, w ∈ BIG := by decide +kernel
theorem kU_X3 : ∀ w ∈ u_ws RX3 TX3 6, w ∈ BIG := by decide +kernel
theorem kU_X4 : ∀ w ∈ u_ws RX4 TX4 5, w ∈ BIG := by decide +kernel
theorem kU_X5 : ∀ w ∈ u_ws RX5 TX5 3, w ∈ BIG := by decide +kernel
theorem kU_X6 : ∀ w ∈ u_ws RX6 TX6 30, w ∈ BIG := by decide +kernel
theorem kM_L_7 : Cond.methodLink RL 7 yX5_link ∈ BIG := mem_BIG 276 (by decide +kernel) (by decide +kernel)
theorem kM_L_19 : Cond.methodLink RL 19 yX5_shop ∈ BIG := mem_BIG 522 (by decide +kernel) (by decide +kernel)
theorem kM_L_23 : Cond.methodLink RL 23 yX5_stock ∈ BIG := mem_BIG 535 (by decide +kernel) (by decide +kernel)
theorem kM_L_27 : Cond.methodLink RL 27 yX5_scatter ∈ BIG := mem_BIG 547 (by decide +kernel) (by decide +kernel)
theorem kM_L_31 : Cond.methodLink RL 31 yX5_join ∈ BIG := mem_BIG 554 (by decide +kernel) (by decide +kernel)
theorem kM_L_34 : Cond.methodLink RL 34 yX5_quest ∈ BIG := mem_BIG 562 (by decide +kernel) (by decide +kernel)
theorem kM_L_38 : Cond.methodLink RL 38 yX5_stage ∈ BIG := mem_BIG 570 (by decide +kernel) (by decide +kernel)
theorem kM_L_41 : Cond.methodLink RL 41 yX5_endow ∈ BIG := mem_BIG 596 (by decide +kernel) (by decide +kernel)
theorem kM_L_44 : Cond.methodLink RL 44 yX5_seed ∈ BIG := mem_BIG 603 (by decide +kernel) (by decide +kernel)
theorem kM_L_48 : Cond.methodLink RL 48 yX5_go ∈ BIG := mem_BIG 611 (by decide +kernel) (by decide +kernel)
theorem kM_L_51 : Cond.methodLink RL 51 yX5_say ∈ BIG := mem_BIG 624 (by decide +kernel) (by decide +kernel)
theorem kM_L_54 : Cond.methodLink RL 54 yX5_shout ∈ BIG := mem_BIG 631 (by decide +kernel) (by decide +kernel)
theorem kM_L_57 : Cond.methodLink RL 57 yX5_take ∈ BIG := mem_BIG 638 (by decide +kernel) (by decide +kernel)
theorem kM_L_60 : Cond.methodLink RL 60 yX5_drop ∈ BIG := mem_BIG 647 (by decide +kernel) (by decide +kernel)
theorem kM_L_63 : Cond.methodLink RL 63 yX5_give ∈ BIG := mem_BIG 659 (by decide +kernel) (by decide +kernel)
theorem kM_L_67 : Cond.methodLink RL 67 yX5_pay ∈ BIG := mem_BIG 678 (by decide +kernel) (by decide +kernel)
theorem kM_L_70 : Cond.methodLink RL 70 yX5_buy ∈ BIG := mem_BIG 689 (by decide +kernel) (by decide +kernel)
theorem kM_L_73 : Cond.methodLink RL 73 yX5_sell ∈ BIG := mem_BIG 702 (by decide +kernel) (by decide +kernel)
theorem kM_L_76 : Cond.methodLink RL 76 yX5_attack ∈ BIG := mem_BIG 710 (by decide +kernel) (by decide +kernel)
theorem kM_L_79 : Cond.methodLink RL 79 yX5_rest ∈ BIG := mem_BIG 717 (by decide +kernel) (by decide +kernel)
theorem kM_L_83 : Cond.methodLink RL 83 yX5_readyAt ∈ BIG := mem_BIG 724 (by decide +kernel) (by decide +kernel)
theorem kM_L_86 : Cond.methodLink RL 86 yX5_roomOf ∈ BIG := mem_BIG 731 (by decide +kernel) (by decide +kernel)
theorem kM_L_89 : Cond.methodLink RL 89 yX5_coinsOf ∈ BIG := mem_BIG 738 (by decide +kernel) (by decide +kernel)
theorem kM_L_92 : Cond.methodLink RL 92 yX5_healthOf ∈ BIG := mem_BIG 745 (by decide +kernel) (by decide +kernel)
theorem kM_L_95 : Cond.methodLink RL 95 yX5_goodsOf ∈ BIG := mem_BIG 752 (by decide +kernel) (by decide +kernel)
theorem kM_L_98 : Cond.methodLink RL 98 yX5_heard ∈ BIG := mem_BIG 759 (by decide +kernel) (by decide +kernel)
theorem kM_L_101 : Cond.methodLink RL 101 yX5_stageOf ∈ BIG := mem_BIG 767 (by decide +kernel) (by decide +kernel)
theorem kM_L_104 : Cond.methodLink RL 104 yX5_exit ∈ BIG := mem_BIG 775 (by decide +kernel) (by decide +kernel)
theorem kM_L_107 : Cond.methodLink RL 107 yX5_distance ∈ BIG := mem_BIG 782 (by decide +kernel) (by decide +kernel)
theorem kM_L_110 : Cond.methodLink RL 110 yX5_onFloor ∈ BIG := mem_BIG 798 (by decide +kernel) (by decide +kernel)
theorem kM_L_113 : Cond.methodLink RL 113 yX5_stockOf ∈ BIG := mem_BIG 805 (by decide +kernel) (by decide +kernel)
theorem kM_L_116 : Cond.methodLink RL 116 yX5_tillOf ∈ BIG := mem_BIG 812 (by decide +kernel) (by decide +kernel)
theorem kM_L_119 : Cond.methodLink RL 119 yX5_allGoods ∈ BIG := mem_BIG 819 (by decide +kernel) (by decide +kernel)
theorem kM_L_122 : Cond.methodLink RL 122 yX5_roomAfter ∈ BIG := mem_BIG 834 (by decide +kernel) (by decide +kernel)
theorem kM_L_125 : Cond.methodLink RL 125 yX5_coinsAfter ∈ BIG := mem_BIG 860 (by decide +kernel) (by decide +kernel)
theorem kM_L_128 : Cond.methodLink RL 128 yX5_turnAfter ∈ BIG := mem_BIG 867 (by decide +kernel) (by decide +kernel)
theorem kM_L_131 : Cond.methodLink RL 131 yX5_init ∈ BIG := mem_BIG 54 (by decide +kernel) (by decide +kernel)
theorem kM_L_134 : Cond.methodLink RL 134 yX6_init ∈ BIG := mem_BIG 873 (by decide +kernel) (by decide +kernel)
theorem kM_L_135 : Cond.methodLink RL 135 yL_link ∈ BIG := mem_BIG 270 (by decide +kernel) (by decide +kernel)
theorem kM_L_140 : Cond.methodLink RL 140 yX6_link ∈ BIG := mem_BIG 972 (by decide +kernel) (by decide +kernel)
theorem kM_L_141 : Cond.methodLink RL 141 yX6_thrown ∈ BIG := mem_BIG 968 (by decide +kernel) (by decide +kernel)
theorem kM_L_144 : Cond.methodLink RL 144 yL_shop ∈ BIG := mem_BIG 519 (by decide +kernel) (by decide +kernel)
theorem kM_L_147 : Cond.methodLink RL 147 yX6_shop ∈ BIG := mem_BIG 994 (by decide +kernel) (by decide +kernel)
theorem kM_L_148 : Cond.methodLink RL 148 yL_stock ∈ BIG := mem_BIG 532 (by decide +kernel) (by decide +kernel)
theorem kM_L_151 : Cond.methodLink RL 151 yX6_stock ∈ BIG := mem_BIG 998 (by decide +kernel) (by decide +kernel)
theorem kM_L_152 : Cond.methodLink RL 152 yL_scatter ∈ BIG := mem_BIG 544 (by decide +kernel) (by decide +kernel)
theorem kM_L_155 : Cond.methodLink RL 155 yX6_scatter ∈ BIG := mem_BIG 1005 (by decide +kernel) (by decide +kernel)
theorem kM_L_156 : Cond.methodLink RL 156 yL_join ∈ BIG := mem_BIG 551 (by decide +kernel) (by decide +kernel)
theorem kM_L_158 : Cond.methodLink RL 158 yX6_join ∈ BIG := mem_BIG 1009 (by decide +kernel) (by decide +kernel)
theorem kM_L_159 : Cond.methodLink RL 159 yL_quest ∈ BIG := mem_BIG 559 (by decide +kernel) (by decide +kernel)
theorem kM_L_162 : Cond.methodLink RL 162 yX6_quest ∈ BIG := mem_BIG 1013 (by decide +kernel) (by decide +kernel)
theorem kM_L_163 : Cond.methodLink RL 163 yL_stage ∈ BIG := mem_BIG 567 (by decide +kernel) (by decide +kernel)
theorem kM_L_165 : Cond.methodLink RL 165 yX6_stage ∈ BIG := mem_BIG 1017 (by decide +kernel) (by decide +kernel)
theorem kM_L_166 : Cond.methodLink RL 166 yL_endow ∈ BIG := mem_BIG 593 (by decide +kernel) (by decide +kernel)
theorem kM_L_168 : Cond.methodLink RL 168 yX6_endow ∈ BIG := mem_BIG 1025 (by decide +kernel) (by decide +kernel)
theorem kM_L_169 : Cond.methodLink RL 169 yL_seed ∈ BIG := mem_BIG 600 (by decide +kernel) (by decide +kernel)
theorem kM_L_172 : Cond.methodLink RL 172 yX6_seed ∈ BIG := mem_BIG 1029 (by decide +kernel) (by decide +kernel)
theorem kM_L_173 : Cond.methodLink RL 173 yL_go ∈ BIG := mem_BIG 608 (by decide +kernel) (by decide +kernel)
theorem kM_L_175 : Cond.methodLink RL 175 yX6_go ∈ BIG := mem_BIG 1034 (by decide +kernel) (by decide +kernel)
theorem kM_L_176 : Cond.methodLink RL 176 yL_say ∈ BIG := mem_BIG 621 (by decide +kernel) (by decide +kernel)
theorem kM_L_178 : Cond.methodLink RL 178 yX6_say ∈ BIG := mem_BIG 1046 (by decide +kernel) (by decide +kernel)
theorem kM_L_179 : Cond.methodLink RL 179 yL_shout ∈ BIG := mem_BIG 628 (by decide +kernel) (by decide +kernel)
theorem kM_L_181 : Cond.methodLink RL 181 yX6_shout ∈ BIG := mem_BIG 1062 (by decide +kernel) (by decide +kernel)
theorem kM_L_182 : Cond.methodLink RL 182 yL_take ∈ BIG := mem_BIG 635 (by decide +kernel) (by decide +kernel)
theorem kM_L_184 : Cond.methodLink RL 184 yX6_take ∈ BIG := mem_BIG 1066 (by decide +kernel) (by decide +kernel)
theorem kM_L_185 : Cond.methodLink RL 185 yL_drop ∈ BIG := mem_BIG 644 (by decide +kernel) (by decide +kernel)
theorem kM_L_187 : Cond.methodLink RL 187 yX6_drop ∈ BIG := mem_BIG 1070 (by decide +kernel) (by decide +kernel)
theorem kM_L_188 : Cond.methodLink RL 188 yL_give ∈ BIG := mem_BIG 656 (by decide +kernel) (by decide +kernel)
theorem kM_L_191 : Cond.methodLink RL 191 yX6_give ∈ BIG := mem_BIG 1074 (by decide +kernel) (by decide +kernel)
theorem kM_L_192 : Cond.methodLink RL 192 yL_pay ∈ BIG := mem_BIG 675 (by decide +kernel) (by decide +kernel)
theorem kM_L_194 : Cond.methodLink RL 194 yX6_pay ∈ BIG := mem_BIG 1086 (by decide +kernel) (by decide +kernel)
theorem kM_L_195 : Cond.methodLink RL 195 yL_buy ∈ BIG := mem_BIG 686 (by decide +kernel) (by decide +kernel)
theorem kM_L_197 : Cond.methodLink RL 197 yX6_buy ∈ BIG := mem_BIG 1090 (by decide +kernel) (by decide +kernel)
theorem kM_L_198 : Cond.methodLink RL 198 yL_sell ∈ BIG := mem_BIG 699 (by decide +kernel) (by decide +kernel)
theorem kM_L_200 : Cond.methodLink RL 200 yX6_sell ∈ BIG := mem_BIG 1098 (by decide +kernel) (by decide +kernel)
theorem kM_L_201 : Cond.methodLink RL 201 yL_attack ∈ BIG := mem_BIG 707 (by decide +kernel) (by decide +kernel)
theorem kM_L_203 : Cond.methodLink RL 203 yX6_attack ∈ BIG := mem_BIG 1102 (by decide +kernel) (by decide +kernel)
theorem kM_L_204 : Cond.methodLink RL 204 yL_rest ∈ BIG := mem_BIG 714 (by decide +kernel) (by decide +kernel)
theorem kM_L_207 : Cond.methodLink RL 207 yX6_rest ∈ BIG := mem_BIG 1115 (by decide +kernel) (by decide +kernel)
theorem kM_L_208 : Cond.methodLink RL 208 yX5_turn ∈ BIG := mem_BIG 238 (by decide +kernel) (by decide +kernel)
theorem kM_L_211 : Cond.methodLink RL 211 yX6_turn ∈ BIG := mem_BIG 1119 (by decide +kernel) (by decide +kernel)
theorem kM_L_212 : Cond.methodLink RL 212 yL_readyAt ∈ BIG := mem_BIG 721 (by decide +kernel) (by decide +kernel)
theorem kM_L_214 : Cond.methodLink RL 214 yX6_readyAt ∈ BIG := mem_BIG 1123 (by decide +kernel) (by decide +kernel)
theorem kM_L_215 : Cond.methodLink RL 215 yL_roomOf ∈ BIG := mem_BIG 728 (by decide +kernel) (by decide +kernel)
theorem kM_L_217 : Cond.methodLink RL 217 yX6_roomOf ∈ BIG := mem_BIG 1131 (by decide +kernel) (by decide +kernel)
theorem kM_L_218 : Cond.methodLink RL 218 yL_coinsOf ∈ BIG := mem_BIG 735 (by decide +kernel) (by decide +kernel)
theorem kM_L_220 : Cond.methodLink RL 220 yX6_coinsOf ∈ BIG := mem_BIG 1135 (by decide +kernel) (by decide +kernel)
theorem kM_L_221 : Cond.methodLink RL 221 yL_healthOf ∈ BIG := mem_BIG 742 (by decide +kernel) (by decide +kernel)
theorem kM_L_223 : Cond.methodLink RL 223 yX6_healthOf ∈ BIG := mem_BIG 1139 (by decide +kernel) (by decide +kernel)
theorem kM_L_224 : Cond.methodLink RL 224 yL_goodsOf ∈ BIG := mem_BIG 749 (by decide +kernel) (by decide +kernel)
theorem kM_L_226 : Cond.methodLink RL 226 yX6_goodsOf ∈ BIG := mem_BIG 1143 (by decide +kernel) (by decide +kernel)
theorem kM_L_227 : Cond.methodLink RL 227 yL_heard ∈ BIG := mem_BIG 756 (by decide +kernel) (by decide +kernel)
theorem kM_L_229 : Cond.methodLink RL 229 yX6_heard ∈ BIG := mem_BIG 1147 (by decide +kernel) (by decide +kernel)
theorem kM_L_230 : Cond.methodLink RL 230 yL_stageOf ∈ BIG := mem_BIG 764 (by decide +kernel) (by decide +kernel)
theorem kM_L_232 : Cond.methodLink RL 232 yX6_stageOf ∈ BIG := mem_BIG 1151 (by decide +kernel) (by decide +kernel)
theorem kM_L_233 : Cond.methodLink RL 233 yL_exit ∈ BIG := mem_BIG 772 (by decide +kernel) (by decide +kernel)
theorem kM_L_235 : Cond.methodLink RL 235 yX6_exit ∈ BIG := mem_BIG 1155 (by decide +kernel) (by decide +kernel)
theorem kM_L_236 : Cond.methodLink RL 236 yL_distance ∈ BIG := mem_BIG 779 (by decide +kernel) (by decide +kernel)
theorem kM_L_238 : Cond.methodLink RL 238 yX6_distance ∈ BIG := mem_BIG 1159 (by decide +kernel) (by decide +kernel)
theorem kM_L_239 : Cond.methodLink RL 239 yL_onFloor ∈ BIG := mem_BIG 795 (by decide +kernel) (by decide +kernel)
theorem kM_L_241 : Cond.methodLink RL 241 yX6_onFloor ∈ BIG := mem_BIG 1163 (by decide +kernel) (by decide +kernel)
theorem kM_L_242 : Cond.methodLink RL 242 yL_stockOf ∈ BIG := mem_BIG 802 (by decide +kernel) (by decide +kernel)
theorem kM_L_244 : Cond.methodLink RL 244 yX6_stockOf ∈ BIG := mem_BIG 1167 (by decide +kernel) (by decide +kernel)
theorem kM_L_245 : Cond.methodLink RL 245 yL_tillOf ∈ BIG := mem_BIG 809 (by decide +kernel) (by decide +kernel)
theorem kM_L_247 : Cond.methodLink RL 247 yX6_tillOf ∈ BIG := mem_BIG 1171 (by decide +kernel) (by decide +kernel)
theorem kM_L_248 : Cond.methodLink RL 248 yX5_purse ∈ BIG := mem_BIG 246 (by decide +kernel) (by decide +kernel)
theorem kM_L_251 : Cond.methodLink RL 251 yX6_purse ∈ BIG := mem_BIG 1175 (by decide +kernel) (by decide +kernel)
theorem kM_L_252 : Cond.methodLink RL 252 yX5_allCoins ∈ BIG := mem_BIG 250 (by decide +kernel) (by decide +kernel)
theorem kM_L_255 : Cond.methodLink RL 255 yX6_allCoins ∈ BIG := mem_BIG 1179 (by decide +kernel) (by decide +kernel)
theorem kM_L_256 : Cond.methodLink RL 256 yL_allGoods ∈ BIG := mem_BIG 816 (by decide +kernel) (by decide +kernel)
theorem kM_L_258 : Cond.methodLink RL 258 yX6_allGoods ∈ BIG := mem_BIG 1183 (by decide +kernel) (by decide +kernel)
theorem kM_L_259 : Cond.methodLink RL 259 yX5_calls ∈ BIG := mem_BIG 266 (by decide +kernel) (by decide +kernel)
theorem kM_L_262 : Cond.methodLink RL 262 yX6_calls ∈ BIG := mem_BIG 1187 (by decide +kernel) (by decide +kernel)
theorem kM_L_263 : Cond.methodLink RL 263 yL_roomAfter ∈ BIG := mem_BIG 831 (by decide +kernel) (by decide +kernel)
theorem kM_L_265 : Cond.methodLink RL 265 yX6_roomAfter ∈ BIG := mem_BIG 1191 (by decide +kernel) (by decide +kernel)
theorem kM_L_266 : Cond.methodLink RL 266 yL_coinsAfter ∈ BIG := mem_BIG 857 (by decide +kernel) (by decide +kernel)
theorem kM_L_268 : Cond.methodLink RL 268 yX6_coinsAfter ∈ BIG := mem_BIG 1199 (by decide +kernel) (by decide +kernel)
theorem kM_L_269 : Cond.methodLink RL 269 yL_turnAfter ∈ BIG := mem_BIG 864 (by decide +kernel) (by decide +kernel)
theorem kM_L_271 : Cond.methodLink RL 271 yX6_turnAfter ∈ BIG := mem_BIG 1203 (by decide +kernel) (by decide +kernel)
theorem kM_X1_43 : Cond.methodLink RX1 43 yJ7_fill_53178 ∈ BIG := mem_BIG 852 (by decide +kernel) (by decide +kernel)
theorem kM_X1_53 : Cond.methodLink RX1 53 yJ9_min_7cf53 ∈ BIG := mem_BIG 459 (by decide +kernel) (by decide +kernel)
theorem kM_X2_30 : Cond.methodLink RX2 30 yX2_clear ∈ BIG := mem_BIG 88 (by decide +kernel) (by decide +kernel)
theorem kM_X2_33 : Cond.methodLink RX2 33 yJ7_fill_53178 ∈ BIG := mem_BIG 92 (by decide +kernel) (by decide +kernel)
theorem kM_X2_43 : Cond.methodLink RX2 43 yX2_stepOut ∈ BIG := mem_BIG 790 (by decide +kernel) (by decide +kernel)
theorem kM_X2_47 : Cond.methodLink RX2 47 yX2_exitFrom ∈ BIG := mem_BIG 794 (by decide +kernel) (by decide +kernel)
theorem kM_X2_54 : Cond.methodLink RX2 54 yX2_hasShop ∈ BIG := mem_BIG 262 (by decide +kernel) (by decide +kernel)
theorem kM_X4_11 : Cond.methodLink RX4 11 yX2_init ∈ BIG := mem_BIG 84 (by decide +kernel) (by decide +kernel)
theorem kM_X4_39 : Cond.methodLink RX4 39 yX2_clear ∈ BIG := mem_BIG 847 (by decide +kernel) (by decide +kernel)
theorem kM_X4_42 : Cond.methodLink RX4 42 yX1_clear ∈ BIG := mem_BIG 848 (by decide +kernel) (by decide +kernel)
theorem kM_X4_43 : Cond.methodLink RX4 43 yX3_clear ∈ BIG := mem_BIG 853 (by decide +kernel) (by decide +kernel)
theorem kM_X4_44 : Cond.methodLink RX4 44 yX4_make ∈ BIG := mem_BIG 406 (by decide +kernel) (by decide +kernel)
theorem kM_X4_48 : Cond.methodLink RX4 48 yX1_next ∈ BIG := mem_BIG 441 (by decide +kernel) (by decide +kernel)
theorem kM_X4_56 : Cond.methodLink RX4 56 yX4_perform ∈ BIG := mem_BIG 442 (by decide +kernel) (by decide +kernel)
theorem kM_X4_60 : Cond.methodLink RX4 60 yX4_costOf ∈ BIG := mem_BIG 493 (by decide +kernel) (by decide +kernel)
theorem kM_X4_64 : Cond.methodLink RX4 64 yX4_defeat ∈ BIG := mem_BIG 496 (by decide +kernel) (by decide +kernel)
theorem kM_X4_68 : Cond.methodLink RX4 68 yX4_pursueQuests ∈ BIG := mem_BIG 503 (by decide +kernel) (by decide +kernel)
theorem kM_X4_74 : Cond.methodLink RX4 74 yX2_connect ∈ BIG := mem_BIG 410 (by decide +kernel) (by decide +kernel)
theorem kM_X4_80 : Cond.methodLink RX4 80 yX2_addStock ∈ BIG := mem_BIG 415 (by decide +kernel) (by decide +kernel)
theorem kM_X4_83 : Cond.methodLink RX4 83 yX2_addToFloor ∈ BIG := mem_BIG 422 (by decide +kernel) (by decide +kernel)
theorem kM_X4_87 : Cond.methodLink RX4 87 yX1_add ∈ BIG := mem_BIG 426 (by decide +kernel) (by decide +kernel)
theorem kM_X4_90 : Cond.methodLink RX4 90 yX3_add ∈ BIG := mem_BIG 430 (by decide +kernel) (by decide +kernel)
theorem kM_X4_92 : Cond.methodLink RX4 92 yX3_addStage ∈ BIG := mem_BIG 434 (by decide +kernel) (by decide +kernel)
theorem kM_X4_98 : Cond.methodLink RX4 98 yX2_exitFrom ∈ BIG := mem_BIG 446 (by decide +kernel) (by decide +kernel)
theorem kM_X4_102 : Cond.methodLink RX4 102 yX4_tell ∈ BIG := mem_BIG 447 (by decide +kernel) (by decide +kernel)
theorem kM_X4_106 : Cond.methodLink RX4 106 yX1_addGoods ∈ BIG := mem_BIG 462 (by decide +kernel) (by decide +kernel)
theorem kM_X4_109 : Cond.methodLink RX4 109 yX1_payOut ∈ BIG := mem_BIG 467 (by decide +kernel) (by decide +kernel)
theorem kM_X4_118 : Cond.methodLink RX4 118 yX4_trade ∈ BIG := mem_BIG 472 (by decide +kernel) (by decide +kernel)
theorem kM_X4_122 : Cond.methodLink RX4 122 yX2_halfPrice ∈ BIG := mem_BIG 476 (by decide +kernel) (by decide +kernel)
theorem kM_X4_125 : Cond.methodLink RX4 125 yX4_fight ∈ BIG := mem_BIG 480 (by decide +kernel) (by decide +kernel)
theorem kM_X4_131 : Cond.methodLink RX4 131 yJ9_min_7cf53 ∈ BIG := mem_BIG 492 (by decide +kernel) (by decide +kernel)
theorem kM_X4_139 : Cond.methodLink RX4 139 yX2_leadsTo ∈ BIG := mem_BIG 451 (by decide +kernel) (by decide +kernel)
theorem kM_X4_143 : Cond.methodLink RX4 143 yX1_hear ∈ BIG := mem_BIG 455 (by decide +kernel) (by decide +kernel)
theorem kM_X4_151 : Cond.methodLink RX4 151 yX4_roll ∈ BIG := mem_BIG 484 (by decide +kernel) (by decide +kernel)
theorem kM_X4_157 : Cond.methodLink RX4 157 yJ9_abs_0f7a4 ∈ BIG := mem_BIG 489 (by decide +kernel) (by decide +kernel)
theorem kM_X4_163 : Cond.methodLink RX4 163 yJ9_max_7cf53 ∈ BIG := mem_BIG 500 (by decide +kernel) (by decide +kernel)
theorem kM_X4_179 : Cond.methodLink RX4 179 yX4_isFulfilled ∈ BIG := mem_BIG 511 (by decide +kernel) (by decide +kernel)
theorem kM_X4_186 : Cond.methodLink RX4 186 yX4_reward ∈ BIG := mem_BIG 515 (by decide +kernel) (by decide +kernel)
theorem kM_X5_26 : Cond.methodLink RX5 26 yX5_needRoom ∈ BIG := mem_BIG 280 (by decide +kernel) (by decide +kernel)
theorem kM_X5_30 : Cond.methodLink RX5 30 yX5_needDirection ∈ BIG := mem_BIG 351 (by decide +kernel) (by decide +kernel)
theorem kM_X5_44 : Cond.methodLink RX5 44 yX2_exitFrom ∈ BIG := mem_BIG 371 (by decide +kernel) (by decide +kernel)
theorem kM_X5_50 : Cond.methodLink RX5 50 yX5_opposite ∈ BIG := mem_BIG 375 (by decide +kernel) (by decide +kernel)
theorem kM_X5_59 : Cond.methodLink RX5 59 yX5_keep ∈ BIG := mem_BIG 394 (by decide +kernel) (by decide +kernel)
theorem kM_X5_63 : Cond.methodLink RX5 63 yX5_needRange ∈ BIG := mem_BIG 526 (by decide +kernel) (by decide +kernel)
theorem kM_X5_67 : Cond.methodLink RX5 67 yX2_hasShop ∈ BIG := mem_BIG 530 (by decide +kernel) (by decide +kernel)
theorem kM_X5_73 : Cond.methodLink RX5 73 yX5_needKind ∈ BIG := mem_BIG 539 (by decide +kernel) (by decide +kernel)
theorem kM_X5_99 : Cond.methodLink RX5 99 yX5_needQuest ∈ BIG := mem_BIG 574 (by decide +kernel) (by decide +kernel)
theorem kM_X5_102 : Cond.methodLink RX5 102 yX5_needStageTarget ∈ BIG := mem_BIG 579 (by decide +kernel) (by decide +kernel)
theorem kM_X5_106 : Cond.methodLink RX5 106 yX5_needStageMeasure ∈ BIG := mem_BIG 583 (by decide +kernel) (by decide +kernel)
theorem kM_X5_115 : Cond.methodLink RX5 115 yX1_isBegun ∈ BIG := mem_BIG 587 (by decide +kernel) (by decide +kernel)
theorem kM_X5_124 : Cond.methodLink RX5 124 yX5_needActor ∈ BIG := mem_BIG 615 (by decide +kernel) (by decide +kernel)
theorem kM_X5_133 : Cond.methodLink RX5 133 yX5_goodsAt ∈ BIG := mem_BIG 642 (by decide +kernel) (by decide +kernel)
theorem kM_X5_138 : Cond.methodLink RX5 138 yX5_needOwned ∈ BIG := mem_BIG 651 (by decide +kernel) (by decide +kernel)
theorem kM_X5_141 : Cond.methodLink RX5 141 yX5_needPlayer ∈ BIG := mem_BIG 663 (by decide +kernel) (by decide +kernel)
theorem kM_X5_144 : Cond.methodLink RX5 144 yX5_needCompany ∈ BIG := mem_BIG 670 (by decide +kernel) (by decide +kernel)
theorem kM_X5_150 : Cond.methodLink RX5 150 yX5_needCoins ∈ BIG := mem_BIG 682 (by decide +kernel) (by decide +kernel)
theorem kM_X5_153 : Cond.methodLink RX5 153 yX5_needTrade ∈ BIG := mem_BIG 693 (by decide +kernel) (by decide +kernel)
theorem kM_X5_167 : Cond.methodLink RX5 167 yX2_halfPrice ∈ BIG := mem_BIG 706 (by decide +kernel) (by decide +kernel)
theorem kM_X5_170 : Cond.methodLink RX5 170 yX1_next ∈ BIG := mem_BIG 242 (by decide +kernel) (by decide +kernel)
theorem kM_X5_196 : Cond.methodLink RX5 196 yX5_reachedAt ∈ BIG := mem_BIG 771 (by decide +kernel) (by decide +kernel)
theorem kM_X5_199 : Cond.methodLink RX5 199 yX2_stepsBetween ∈ BIG := mem_BIG 786 (by decide +kernel) (by decide +kernel)
theorem kM_X5_205 : Cond.methodLink RX5 205 yX1_sumOfCoins ∈ BIG := mem_BIG 254 (by decide +kernel) (by decide +kernel)
theorem kM_X5_208 : Cond.methodLink RX5 208 yX2_sumOfTills ∈ BIG := mem_BIG 258 (by decide +kernel) (by decide +kernel)
theorem kM_X5_211 : Cond.methodLink RX5 211 yX1_sumOfGoods ∈ BIG := mem_BIG 823 (by decide +kernel) (by decide +kernel)
theorem kM_X5_214 : Cond.methodLink RX5 214 yX2_sumOfGoods ∈ BIG := mem_BIG 827 (by decide +kernel) (by decide +kernel)
theorem kM_X5_216 : Cond.methodLink RX5 216 yX5_worldAfter ∈ BIG := mem_BIG 838 (by decide +kernel) (by decide +kernel)
theorem kM_X5_220 : Cond.methodLink RX5 220 yX5_needPlayerIn ∈ BIG := mem_BIG 667 (by decide +kernel) (by decide +kernel)
theorem kM_X5_224 : Cond.methodLink RX5 224 yX0_add ∈ BIG := mem_BIG 398 (by decide +kernel) (by decide +kernel)
theorem kM_X5_228 : Cond.methodLink RX5 228 yX4_play ∈ BIG := mem_BIG 402 (by decide +kernel) (by decide +kernel)
theorem kM_X5_233 : Cond.methodLink RX5 233 yX4_clear ∈ BIG := mem_BIG 843 (by decide +kernel) (by decide +kernel)
theorem kM_X6_89 : Cond.methodLink RX6 89 yX6_isIn ∈ BIG := mem_BIG 979 (by decide +kernel) (by decide +kernel)
theorem kM_X6_102 : Cond.methodLink RX6 102 yX6_actor ∈ BIG := mem_BIG 990 (by decide +kernel) (by decide +kernel)
theorem kM_X6_106 : Cond.methodLink RX6 106 yX6_isRoom ∈ BIG := mem_BIG 976 (by decide +kernel) (by decide +kernel)
theorem kM_X6_110 : Cond.methodLink RX6 110 yX6_can ∈ BIG := mem_BIG 982 (by decide +kernel) (by decide +kernel)
theorem kM_X6_113 : Cond.methodLink RX6 113 yX6_keep ∈ BIG := mem_BIG 986 (by decide +kernel) (by decide +kernel)
theorem kM_X6_116 : Cond.methodLink RX6 116 yX6_isKind ∈ BIG := mem_BIG 1002 (by decide +kernel) (by decide +kernel)
theorem kM_X6_119 : Cond.methodLink RX6 119 yX6_isQuest ∈ BIG := mem_BIG 1021 (by decide +kernel) (by decide +kernel)
theorem kM_X6_126 : Cond.methodLink RX6 126 yX6_isFulfilled ∈ BIG := mem_BIG 1042 (by decide +kernel) (by decide +kernel)
theorem kM_X6_130 : Cond.methodLink RX6 130 yX6_ends ∈ BIG := mem_BIG 1038 (by decide +kernel) (by decide +kernel)
theorem kM_X6_134 : Cond.methodLink RX6 134 yX6_isNextTo ∈ BIG := mem_BIG 1054 (by decide +kernel) (by decide +kernel)
theorem kM_X6_138 : Cond.methodLink RX6 138 yX6_hears ∈ BIG := mem_BIG 1058 (by decide +kernel) (by decide +kernel)
theorem kM_X6_142 : Cond.methodLink RX6 142 yX6_speaks ∈ BIG := mem_BIG 1050 (by decide +kernel) (by decide +kernel)
theorem kM_X6_146 : Cond.methodLink RX6 146 yX6_isPlayer ∈ BIG := mem_BIG 1078 (by decide +kernel) (by decide +kernel)
theorem kM_X6_149 : Cond.methodLink RX6 149 yX6_isAway ∈ BIG := mem_BIG 1082 (by decide +kernel) (by decide +kernel)
theorem kM_X6_152 : Cond.methodLink RX6 152 yX6_traded ∈ BIG := mem_BIG 1094 (by decide +kernel) (by decide +kernel)
theorem kM_X6_157 : Cond.methodLink RX6 157 yX6_rolls ∈ BIG := mem_BIG 1106 (by decide +kernel) (by decide +kernel)
theorem kM_X6_161 : Cond.methodLink RX6 161 yX6_isBeaten ∈ BIG := mem_BIG 1111 (by decide +kernel) (by decide +kernel)
theorem kM_X6_164 : Cond.methodLink RX6 164 yX6_isAsked ∈ BIG := mem_BIG 1127 (by decide +kernel) (by decide +kernel)
theorem kM_X6_167 : Cond.methodLink RX6 167 yX6_wasThere ∈ BIG := mem_BIG 1195 (by decide +kernel) (by decide +kernel)
theorem kF_X0_9 : Cond.fieldLink RX0 9 "MudCouncil$Log" "rows" "[I" ∈ BIG := mem_BIG 66 (by decide +kernel) (by decide +kernel)
theorem kF_X0_13 : Cond.fieldLink RX0 13 "MudCouncil$Log" "count" "I" ∈ BIG := mem_BIG 68 (by decide +kernel) (by decide +kernel)
theorem kF_X1_9 : Cond.fieldLink RX1 9 "MudCouncil$People" "count" "I" ∈ BIG := mem_BIG 127 (by decide +kernel) (by decide +kernel)
theorem kF_X1_15 : Cond.fieldLink RX1 15 "MudCouncil$People" "rooms" "[I" ∈ BIG := mem_BIG 130 (by decide +kernel) (by decide +kernel)
theorem kF_X1_19 : Cond.fieldLink RX1 19 "MudCouncil$People" "coins" "[I" ∈ BIG := mem_BIG 133 (by decide +kernel) (by decide +kernel)
theorem kF_X1_22 : Cond.fieldLink RX1 22 "MudCouncil$People" "strengths" "[I" ∈ BIG := mem_BIG 136 (by decide +kernel) (by decide +kernel)
theorem kF_X1_25 : Cond.fieldLink RX1 25 "MudCouncil$People" "healths" "[I" ∈ BIG := mem_BIG 138 (by decide +kernel) (by decide +kernel)
theorem kF_X1_28 : Cond.fieldLink RX1 28 "MudCouncil$People" "readyTimes" "[I" ∈ BIG := mem_BIG 141 (by decide +kernel) (by decide +kernel)
theorem kF_X1_31 : Cond.fieldLink RX1 31 "MudCouncil$People" "goods" "[I" ∈ BIG := mem_BIG 144 (by decide +kernel) (by decide +kernel)
theorem kF_X1_34 : Cond.fieldLink RX1 34 "MudCouncil$People" "reached" "[I" ∈ BIG := mem_BIG 147 (by decide +kernel) (by decide +kernel)
theorem kF_X1_37 : Cond.fieldLink RX1 37 "MudCouncil$People" "words" "[I" ∈ BIG := mem_BIG 150 (by decide +kernel) (by decide +kernel)
theorem kF_X1_40 : Cond.fieldLink RX1 40 "MudCouncil$People" "wordCounts" "[I" ∈ BIG := mem_BIG 152 (by decide +kernel) (by decide +kernel)
theorem kF_X2_9 : Cond.fieldLink RX2 9 "MudCouncil$Places" "exits" "[I" ∈ BIG := mem_BIG 95 (by decide +kernel) (by decide +kernel)
theorem kF_X2_15 : Cond.fieldLink RX2 15 "MudCouncil$Places" "tills" "[I" ∈ BIG := mem_BIG 96 (by decide +kernel) (by decide +kernel)
theorem kF_X2_18 : Cond.fieldLink RX2 18 "MudCouncil$Places" "prices" "[I" ∈ BIG := mem_BIG 99 (by decide +kernel) (by decide +kernel)
theorem kF_X2_21 : Cond.fieldLink RX2 21 "MudCouncil$Places" "stocks" "[I" ∈ BIG := mem_BIG 102 (by decide +kernel) (by decide +kernel)
theorem kF_X2_24 : Cond.fieldLink RX2 24 "MudCouncil$Places" "floors" "[I" ∈ BIG := mem_BIG 105 (by decide +kernel) (by decide +kernel)
theorem kF_X2_27 : Cond.fieldLink RX2 27 "MudCouncil$Places" "steps" "[I" ∈ BIG := mem_BIG 107 (by decide +kernel) (by decide +kernel)
theorem kF_X3_9 : Cond.fieldLink RX3 9 "MudCouncil$Quests" "count" "I" ∈ BIG := mem_BIG 181 (by decide +kernel) (by decide +kernel)
theorem kF_X3_15 : Cond.fieldLink RX3 15 "MudCouncil$Quests" "rewards" "[I" ∈ BIG := mem_BIG 184 (by decide +kernel) (by decide +kernel)
theorem kF_X3_19 : Cond.fieldLink RX3 19 "MudCouncil$Quests" "lengths" "[I" ∈ BIG := mem_BIG 186 (by decide +kernel) (by decide +kernel)
theorem kF_X3_22 : Cond.fieldLink RX3 22 "MudCouncil$Quests" "kinds" "[I" ∈ BIG := mem_BIG 189 (by decide +kernel) (by decide +kernel)
theorem kF_X3_25 : Cond.fieldLink RX3 25 "MudCouncil$Quests" "firsts" "[I" ∈ BIG := mem_BIG 191 (by decide +kernel) (by decide +kernel)
theorem kF_X3_28 : Cond.fieldLink RX3 28 "MudCouncil$Quests" "seconds" "[I" ∈ BIG := mem_BIG 193 (by decide +kernel) (by decide +kernel)
theorem kF_X4_12 : Cond.fieldLink RX4 12 "MudCouncil$World" "places" "LMudCouncil$Places;" ∈ BIG := mem_BIG 208 (by decide +kernel) (by decide +kernel)
theorem kF_X4_21 : Cond.fieldLink RX4 21 "MudCouncil$World" "people" "LMudCouncil$People;" ∈ BIG := mem_BIG 210 (by decide +kernel) (by decide +kernel)
theorem kF_X4_28 : Cond.fieldLink RX4 28 "MudCouncil$World" "quests" "LMudCouncil$Quests;" ∈ BIG := mem_BIG 212 (by decide +kernel) (by decide +kernel)
theorem kF_X4_32 : Cond.fieldLink RX4 32 "MudCouncil$World" "purse" "I" ∈ BIG := mem_BIG 214 (by decide +kernel) (by decide +kernel)
theorem kF_X4_36 : Cond.fieldLink RX4 36 "MudCouncil$World" "dieSeed" "I" ∈ BIG := mem_BIG 216 (by decide +kernel) (by decide +kernel)
theorem kF_X4_52 : Cond.fieldLink RX4 52 "MudCouncil$People" "readyTimes" "[I" ∈ BIG := mem_BIG 142 (by decide +kernel) (by decide +kernel)
theorem kF_X4_71 : Cond.fieldLink RX4 71 "MudCouncil$People" "coins" "[I" ∈ BIG := mem_BIG 134 (by decide +kernel) (by decide +kernel)
theorem kF_X4_77 : Cond.fieldLink RX4 77 "MudCouncil$Places" "tills" "[I" ∈ BIG := mem_BIG 97 (by decide +kernel) (by decide +kernel)
theorem kF_X4_95 : Cond.fieldLink RX4 95 "MudCouncil$People" "rooms" "[I" ∈ BIG := mem_BIG 131 (by decide +kernel) (by decide +kernel)
theorem kF_X4_112 : Cond.fieldLink RX4 112 "MudCouncil$Places" "prices" "[I" ∈ BIG := mem_BIG 100 (by decide +kernel) (by decide +kernel)
theorem kF_X4_128 : Cond.fieldLink RX4 128 "MudCouncil$People" "healths" "[I" ∈ BIG := mem_BIG 139 (by decide +kernel) (by decide +kernel)
theorem kF_X4_136 : Cond.fieldLink RX4 136 "MudCouncil$People" "count" "I" ∈ BIG := mem_BIG 129 (by decide +kernel) (by decide +kernel)
theorem kF_X4_147 : Cond.fieldLink RX4 147 "MudCouncil$Places" "stocks" "[I" ∈ BIG := mem_BIG 103 (by decide +kernel) (by decide +kernel)
theorem kF_X4_154 : Cond.fieldLink RX4 154 "MudCouncil$People" "strengths" "[I" ∈ BIG := mem_BIG 137 (by decide +kernel) (by decide +kernel)
theorem kF_X4_160 : Cond.fieldLink RX4 160 "MudCouncil$People" "goods" "[I" ∈ BIG := mem_BIG 145 (by decide +kernel) (by decide +kernel)
theorem kF_X4_166 : Cond.fieldLink RX4 166 "MudCouncil$Quests" "count" "I" ∈ BIG := mem_BIG 183 (by decide +kernel) (by decide +kernel)
theorem kF_X4_170 : Cond.fieldLink RX4 170 "MudCouncil$People" "reached" "[I" ∈ BIG := mem_BIG 148 (by decide +kernel) (by decide +kernel)
theorem kF_X4_173 : Cond.fieldLink RX4 173 "MudCouncil$Quests" "lengths" "[I" ∈ BIG := mem_BIG 188 (by decide +kernel) (by decide +kernel)
theorem kF_X4_183 : Cond.fieldLink RX4 183 "MudCouncil$Quests" "rewards" "[I" ∈ BIG := mem_BIG 185 (by decide +kernel) (by decide +kernel)
theorem kF_X4_189 : Cond.fieldLink RX4 189 "MudCouncil$Quests" "firsts" "[I" ∈ BIG := mem_BIG 192 (by decide +kernel) (by decide +kernel)
theorem kF_X4_192 : Cond.fieldLink RX4 192 "MudCouncil$Quests" "seconds" "[I" ∈ BIG := mem_BIG 194 (by decide +kernel) (by decide +kernel)
theorem kF_X4_195 : Cond.fieldLink RX4 195 "MudCouncil$Quests" "kinds" "[I" ∈ BIG := mem_BIG 190 (by decide +kernel) (by decide +kernel)
theorem kF_X5_10 : Cond.fieldLink RX5 10 "MudCouncil" "log" "LMudCouncil$Log;" ∈ BIG := mem_BIG 228 (by decide +kernel) (by decide +kernel)
theorem kF_X5_19 : Cond.fieldLink RX5 19 "MudCouncil" "now" "LMudCouncil$World;" ∈ BIG := mem_BIG 229 (by decide +kernel) (by decide +kernel)
theorem kF_X5_23 : Cond.fieldLink RX5 23 "MudCouncil" "past" "LMudCouncil$World;" ∈ BIG := mem_BIG 230 (by decide +kernel) (by decide +kernel)
theorem kF_X5_40 : Cond.fieldLink RX5 40 "MudCouncil$World" "places" "LMudCouncil$Places;" ∈ BIG := mem_BIG 209 (by decide +kernel) (by decide +kernel)
theorem kF_X5_78 : Cond.fieldLink RX5 78 "MudCouncil$World" "people" "LMudCouncil$People;" ∈ BIG := mem_BIG 211 (by decide +kernel) (by decide +kernel)
theorem kF_X5_82 : Cond.fieldLink RX5 82 "MudCouncil$People" "count" "I" ∈ BIG := mem_BIG 128 (by decide +kernel) (by decide +kernel)
theorem kF_X5_90 : Cond.fieldLink RX5 90 "MudCouncil$World" "quests" "LMudCouncil$Quests;" ∈ BIG := mem_BIG 213 (by decide +kernel) (by decide +kernel)
theorem kF_X5_94 : Cond.fieldLink RX5 94 "MudCouncil$Quests" "count" "I" ∈ BIG := mem_BIG 182 (by decide +kernel) (by decide +kernel)
theorem kF_X5_109 : Cond.fieldLink RX5 109 "MudCouncil$Quests" "lengths" "[I" ∈ BIG := mem_BIG 187 (by decide +kernel) (by decide +kernel)
theorem kF_X5_121 : Cond.fieldLink RX5 121 "MudCouncil$People" "rooms" "[I" ∈ BIG := mem_BIG 132 (by decide +kernel) (by decide +kernel)
theorem kF_X5_130 : Cond.fieldLink RX5 130 "MudCouncil$Places" "floors" "[I" ∈ BIG := mem_BIG 106 (by decide +kernel) (by decide +kernel)
theorem kF_X5_147 : Cond.fieldLink RX5 147 "MudCouncil$People" "coins" "[I" ∈ BIG := mem_BIG 135 (by decide +kernel) (by decide +kernel)
theorem kF_X5_156 : Cond.fieldLink RX5 156 "MudCouncil$Places" "stocks" "[I" ∈ BIG := mem_BIG 104 (by decide +kernel) (by decide +kernel)
theorem kF_X5_161 : Cond.fieldLink RX5 161 "MudCouncil$Places" "prices" "[I" ∈ BIG := mem_BIG 101 (by decide +kernel) (by decide +kernel)
theorem kF_X5_164 : Cond.fieldLink RX5 164 "MudCouncil$Places" "tills" "[I" ∈ BIG := mem_BIG 98 (by decide +kernel) (by decide +kernel)
theorem kF_X5_173 : Cond.fieldLink RX5 173 "MudCouncil$People" "readyTimes" "[I" ∈ BIG := mem_BIG 143 (by decide +kernel) (by decide +kernel)
theorem kF_X5_176 : Cond.fieldLink RX5 176 "MudCouncil$People" "healths" "[I" ∈ BIG := mem_BIG 140 (by decide +kernel) (by decide +kernel)
theorem kF_X5_179 : Cond.fieldLink RX5 179 "MudCouncil$People" "goods" "[I" ∈ BIG := mem_BIG 146 (by decide +kernel) (by decide +kernel)
theorem kF_X5_182 : Cond.fieldLink RX5 182 "MudCouncil$People" "wordCounts" "[I" ∈ BIG := mem_BIG 153 (by decide +kernel) (by decide +kernel)
theorem kF_X5_190 : Cond.fieldLink RX5 190 "MudCouncil$People" "words" "[I" ∈ BIG := mem_BIG 151 (by decide +kernel) (by decide +kernel)
theorem kF_X5_193 : Cond.fieldLink RX5 193 "MudCouncil$People" "reached" "[I" ∈ BIG := mem_BIG 149 (by decide +kernel) (by decide +kernel)
theorem kF_X5_202 : Cond.fieldLink RX5 202 "MudCouncil$World" "purse" "I" ∈ BIG := mem_BIG 215 (by decide +kernel) (by decide +kernel)
theorem kF_X5_215 : Cond.fieldLink RX5 215 "MudCouncil$Log" "count" "I" ∈ BIG := mem_BIG 69 (by decide +kernel) (by decide +kernel)
theorem kF_X5_236 : Cond.fieldLink RX5 236 "MudCouncil$Log" "rows" "[I" ∈ BIG := mem_BIG 67 (by decide +kernel) (by decide +kernel)
theorem kF_X6_7 : Cond.fieldLink RX6 7 "MudCouncilModel" "exits" "[I" ∈ BIG := mem_BIG 877 (by decide +kernel) (by decide +kernel)
theorem kF_X6_13 : Cond.fieldLink RX6 13 "MudCouncilModel" "floor" "[I" ∈ BIG := mem_BIG 878 (by decide +kernel) (by decide +kernel)
theorem kF_X6_16 : Cond.fieldLink RX6 16 "MudCouncilModel" "till" "[I" ∈ BIG := mem_BIG 879 (by decide +kernel) (by decide +kernel)
theorem kF_X6_19 : Cond.fieldLink RX6 19 "MudCouncilModel" "price" "[I" ∈ BIG := mem_BIG 880 (by decide +kernel) (by decide +kernel)
theorem kF_X6_22 : Cond.fieldLink RX6 22 "MudCouncilModel" "stock" "[I" ∈ BIG := mem_BIG 881 (by decide +kernel) (by decide +kernel)
theorem kF_X6_25 : Cond.fieldLink RX6 25 "MudCouncilModel" "room" "[I" ∈ BIG := mem_BIG 883 (by decide +kernel) (by decide +kernel)
theorem kF_X6_28 : Cond.fieldLink RX6 28 "MudCouncilModel" "coins" "[I" ∈ BIG := mem_BIG 884 (by decide +kernel) (by decide +kernel)
theorem kF_X6_31 : Cond.fieldLink RX6 31 "MudCouncilModel" "strength" "[I" ∈ BIG := mem_BIG 885 (by decide +kernel) (by decide +kernel)
theorem kF_X6_34 : Cond.fieldLink RX6 34 "MudCouncilModel" "health" "[I" ∈ BIG := mem_BIG 886 (by decide +kernel) (by decide +kernel)
theorem kF_X6_37 : Cond.fieldLink RX6 37 "MudCouncilModel" "ready" "[I" ∈ BIG := mem_BIG 887 (by decide +kernel) (by decide +kernel)
theorem kF_X6_40 : Cond.fieldLink RX6 40 "MudCouncilModel" "goods" "[I" ∈ BIG := mem_BIG 888 (by decide +kernel) (by decide +kernel)
theorem kF_X6_43 : Cond.fieldLink RX6 43 "MudCouncilModel" "words" "[I" ∈ BIG := mem_BIG 889 (by decide +kernel) (by decide +kernel)
theorem kF_X6_46 : Cond.fieldLink RX6 46 "MudCouncilModel" "heard" "[I" ∈ BIG := mem_BIG 890 (by decide +kernel) (by decide +kernel)
theorem kF_X6_49 : Cond.fieldLink RX6 49 "MudCouncilModel" "reward" "[I" ∈ BIG := mem_BIG 894 (by decide +kernel) (by decide +kernel)
theorem kF_X6_52 : Cond.fieldLink RX6 52 "MudCouncilModel" "stages" "[I" ∈ BIG := mem_BIG 895 (by decide +kernel) (by decide +kernel)
theorem kF_X6_55 : Cond.fieldLink RX6 55 "MudCouncilModel" "stageKind" "[I" ∈ BIG := mem_BIG 896 (by decide +kernel) (by decide +kernel)
theorem kF_X6_58 : Cond.fieldLink RX6 58 "MudCouncilModel" "stageFirst" "[I" ∈ BIG := mem_BIG 897 (by decide +kernel) (by decide +kernel)
theorem kF_X6_61 : Cond.fieldLink RX6 61 "MudCouncilModel" "stageSecond" "[I" ∈ BIG := mem_BIG 898 (by decide +kernel) (by decide +kernel)
theorem kF_X6_64 : Cond.fieldLink RX6 64 "MudCouncilModel" "reached" "[I" ∈ BIG := mem_BIG 899 (by decide +kernel) (by decide +kernel)
theorem kF_X6_67 : Cond.fieldLink RX6 67 "MudCouncilModel" "playersAfter" "[I" ∈ BIG := mem_BIG 901 (by decide +kernel) (by decide +kernel)
theorem kF_X6_70 : Cond.fieldLink RX6 70 "MudCouncilModel" "turnAfter" "[I" ∈ BIG := mem_BIG 902 (by decide +kernel) (by decide +kernel)
theorem kF_X6_73 : Cond.fieldLink RX6 73 "MudCouncilModel" "roomsAfter" "[I" ∈ BIG := mem_BIG 903 (by decide +kernel) (by decide +kernel)
theorem kF_X6_76 : Cond.fieldLink RX6 76 "MudCouncilModel" "coinsAfter" "[I" ∈ BIG := mem_BIG 904 (by decide +kernel) (by decide +kernel)
theorem kF_X6_79 : Cond.fieldLink RX6 79 "MudCouncilModel" "far" "[I" ∈ BIG := mem_BIG 905 (by decide +kernel) (by decide +kernel)
theorem kF_X6_82 : Cond.fieldLink RX6 82 "MudCouncilModel" "seed" "I" ∈ BIG := mem_BIG 892 (by decide +kernel) (by decide +kernel)
theorem kF_X6_86 : Cond.fieldLink RX6 86 "MudCouncilModel" "thrown" "I" ∈ BIG := mem_BIG 906 (by decide +kernel) (by decide +kernel)
theorem kF_X6_93 : Cond.fieldLink RX6 93 "MudCouncilModel" "players" "I" ∈ BIG := mem_BIG 882 (by decide +kernel) (by decide +kernel)
theorem kF_X6_96 : Cond.fieldLink RX6 96 "MudCouncilModel" "quests" "I" ∈ BIG := mem_BIG 893 (by decide +kernel) (by decide +kernel)
theorem kF_X6_99 : Cond.fieldLink RX6 99 "MudCouncilModel" "calls" "I" ∈ BIG := mem_BIG 900 (by decide +kernel) (by decide +kernel)
theorem kF_X6_122 : Cond.fieldLink RX6 122 "MudCouncilModel" "purse" "I" ∈ BIG := mem_BIG 891 (by decide +kernel) (by decide +kernel)
theorem kC_X4_150 : Cond.constant RX4 150 (65536) ∈ BIG := mem_BIG 488 (by decide +kernel) (by decide +kernel)
theorem kC_X5_120 : Cond.constant RX5 120 (65535) ∈ BIG := mem_BIG 607 (by decide +kernel) (by decide +kernel)
theorem kC_X6_125 : Cond.constant RX6 125 (65535) ∈ BIG := mem_BIG 1033 (by decide +kernel) (by decide +kernel)
theorem kC_X6_156 : Cond.constant RX6 156 (65536) ∈ BIG := mem_BIG 1110 (by decide +kernel) (by decide +kernel)
theorem kN_X1_49 : (RX1, 49, yX5_goodsAt, "MudCouncil") ∈ NWL := by decide +kernel
theorem kN_X1_58 : (RX1, 58, yX5_reachedAt, "MudCouncil") ∈ NWL := by decide +kernel
theorem kN_X2_39 : (RX2, 39, yX5_opposite, "MudCouncil") ∈ NWL := by decide +kernel
theorem kN_X2_51 : (RX2, 51, yX5_goodsAt, "MudCouncil") ∈ NWL := by decide +kernel
theorem kN_X3_31 : (RX3, 31, yX5_stageAt, "MudCouncil") ∈ NWL := by decide +kernel
theorem kN_X4_20 : (RX4, 20, yX1_init, "MudCouncil") ∈ NWL := by decide +kernel
theorem kN_X4_27 : (RX4, 27, yX3_init, "MudCouncil") ∈ NWL := by decide +kernel
theorem kN_X4_115 : (RX4, 115, yX5_goodsAt, "MudCouncil") ∈ NWL := by decide +kernel
theorem kN_X4_167 : (RX4, 167, yX5_reachedAt, "MudCouncil") ∈ NWL := by decide +kernel
theorem kN_X4_176 : (RX4, 176, yX5_stageAt, "MudCouncil") ∈ NWL := by decide +kernel
theorem kN_X5_9 : (RX5, 9, yX0_init, "MudCouncil") ∈ NWL := by decide +kernel
theorem kN_X5_18 : (RX5, 18, yX4_init, "MudCouncil") ∈ NWL := by decide +kernel
theorem cal_X0_add : CalV RX0 yX0_add cX0_add 7 none 5 := ⟨mem_BIG 399 (by decide +kernel) (by decide +kernel), mem_BIG 400 (by decide +kernel) (by decide +kernel), mem_BIG 38 (by decide +kernel) (by decide +kernel), mem_BIG 401 (by decide +kernel) (by decide +kernel), by decide +kernel⟩
theorem cal_X1_clear : CalV RX1 yX1_clear cX1_clear 1 none 0 := ⟨mem_BIG 849 (by decide +kernel) (by decide +kernel), mem_BIG 850 (by decide +kernel) (by decide +kernel), mem_BIG 42 (by decide +kernel) (by decide +kernel), mem_BIG 851 (by decide +kernel) (by decide +kernel), by decide +kernel⟩
theorem cal_X1_add : CalV RX1 yX1_add cX1_add 5 (some .int) 3 := ⟨mem_BIG 427 (by decide +kernel) (by decide +kernel), mem_BIG 428 (by decide +kernel) (by decide +kernel), mem_BIG 42 (by decide +kernel) (by decide +kernel), mem_BIG 429 (by decide +kernel) (by decide +kernel), by decide +kernel⟩
theorem cal_X1_next : CalV RX1 yX1_next cX1_next 3 (some .int) 0 := ⟨mem_BIG 243 (by decide +kernel) (by decide +kernel), mem_BIG 244 (by decide +kernel) (by decide +kernel), mem_BIG 42 (by decide +kernel) (by decide +kernel), mem_BIG 245 (by decide +kernel) (by decide +kernel), by decide +kernel⟩
theorem cal_X1_addGoods : CalV RX1 yX1_addGoods cX1_addGoods 5 (some .int) 3 := ⟨mem_BIG 463 (by decide +kernel) (by decide +kernel), mem_BIG 464 (by decide +kernel) (by decide +kernel), mem_BIG 42 (by decide +kernel) (by decide +kernel), mem_BIG 465 (by decide +kernel) (by decide +kernel), by decide +kernel⟩
theorem cal_X1_payOut : CalV RX1 yX1_payOut cX1_payOut 4 none 3 := ⟨mem_BIG 468 (by decide +kernel) (by decide +kernel), mem_BIG 469 (by decide +kernel) (by decide +kernel), mem_BIG 42 (by decide +kernel) (by decide +kernel), mem_BIG 470 (by decide +kernel) (by decide +kernel), by decide +kernel⟩
theorem cal_X1_hear : CalV RX1 yX1_hear cX1_hear 5 none 2 := ⟨mem_BIG 456 (by decide +kernel) (by decide +kernel), mem_BIG 457 (by decide +kernel) (by decide +kernel), mem_BIG 42 (by decide +kernel) (by decide +kernel), mem_BIG 458 (by decide +kernel) (by decide +kernel), by decide +kernel⟩
theorem cal_X1_isBegun : CalV RX1 yX1_isBegun cX1_isBegun 3 (some .boolean) 1 := ⟨mem_BIG 588 (by decide +kernel) (by decide +kernel), mem_BIG 589 (by decide +kernel) (by decide +kernel), mem_BIG 42 (by decide +kernel) (by decide +kernel), mem_BIG 590 (by decide +kernel) (by decide +kernel), by decide +kernel⟩
theorem cal_X1_sumOfCoins : CalV RX1 yX1_sumOfCoins cX1_sumOfCoins 3 (some .int) 0 := ⟨mem_BIG 255 (by decide +kernel) (by decide +kernel), mem_BIG 256 (by decide +kernel) (by decide +kernel), mem_BIG 42 (by decide +kernel) (by decide +kernel), mem_BIG 257 (by decide +kernel) (by decide +kernel), by decide +kernel⟩
theorem cal_X1_sumOfGoods : CalV RX1 yX1_sumOfGoods cX1_sumOfGoods 4 (some .int) 1 := ⟨mem_BIG 824 (by decide +kernel) (by decide +kernel), mem_BIG 825 (by decide +kernel) (by decide +kernel), mem_BIG 42 (by decide +kernel) (by decide +kernel), mem_BIG 826 (by decide +kernel) (by decide +kernel), by decide +kernel⟩
theorem cal_X2_clear : CalV RX2 yX2_clear cX2_clear 1 none 0 := ⟨mem_BIG 89 (by decide +kernel) (by decide +kernel), mem_BIG 90 (by decide +kernel) (by decide +kernel), mem_BIG 40 (by decide +kernel) (by decide +kernel), mem_BIG 91 (by decide +kernel) (by decide +kernel), by decide +kernel⟩
theorem cal_X2_exitFrom : CalV RX2 yX2_exitFrom cX2_exitFrom 3 (some .int) 2 := ⟨mem_BIG 372 (by decide +kernel) (by decide +kernel), mem_BIG 373 (by decide +kernel) (by decide +kernel), mem_BIG 40 (by decide +kernel) (by decide +kernel), mem_BIG 374 (by decide +kernel) (by decide +kernel), by decide +kernel⟩
theorem cal_X2_connect : CalV RX2 yX2_connect cX2_connect 4 none 3 := ⟨mem_BIG 411 (by decide +kernel) (by decide +kernel), mem_BIG 412 (by decide +kernel) (by decide +kernel), mem_BIG 40 (by decide +kernel) (by decide +kernel), mem_BIG 413 (by decide +kernel) (by decide +kernel), by decide +kernel⟩
theorem cal_X2_leadsTo : CalV RX2 yX2_leadsTo cX2_leadsTo 4 (some .boolean) 2 := ⟨mem_BIG 452 (by decide +kernel) (by decide +kernel), mem_BIG 453 (by decide +kernel) (by decide +kernel), mem_BIG 40 (by decide +kernel) (by decide +kernel), mem_BIG 454 (by decide +kernel) (by decide +kernel), by decide +kernel⟩
theorem cal_X2_stepsBetween : CalV RX2 yX2_stepsBetween cX2_stepsBetween 5 (some .int) 2 := ⟨mem_BIG 787 (by decide +kernel) (by decide +kernel), mem_BIG 788 (by decide +kernel) (by decide +kernel), mem_BIG 40 (by decide +kernel) (by decide +kernel), mem_BIG 789 (by decide +kernel) (by decide +kernel), by decide +kernel⟩
theorem cal_X2_stepOut : CalV RX2 yX2_stepOut cX2_stepOut 4 none 1 := ⟨mem_BIG 792 (by decide +kernel) (by decide +kernel), mem_BIG 18 (by decide +kernel) (by decide +kernel), mem_BIG 40 (by decide +kernel) (by decide +kernel), mem_BIG 793 (by decide +kernel) (by decide +kernel), by decide +kernel⟩
theorem cal_X2_hasShop : CalV RX2 yX2_hasShop cX2_hasShop 2 (some .boolean) 1 := ⟨mem_BIG 263 (by decide +kernel) (by decide +kernel), mem_BIG 264 (by decide +kernel) (by decide +kernel), mem_BIG 40 (by decide +kernel) (by decide +kernel), mem_BIG 265 (by decide +kernel) (by decide +kernel), by decide +kernel⟩
theorem cal_X2_halfPrice : CalV RX2 yX2_halfPrice cX2_halfPrice 3 (some .int) 2 := ⟨mem_BIG 477 (by decide +kernel) (by decide +kernel), mem_BIG 478 (by decide +kernel) (by decide +kernel), mem_BIG 40 (by decide +kernel) (by decide +kernel), mem_BIG 479 (by decide +kernel) (by decide +kernel), by decide +kernel⟩
theorem cal_X2_addStock : CalV RX2 yX2_addStock cX2_addStock 6 (some .int) 4 := ⟨mem_BIG 416 (by decide +kernel) (by decide +kernel), mem_BIG 417 (by decide +kernel) (by decide +kernel), mem_BIG 40 (by decide +kernel) (by decide +kernel), mem_BIG 418 (by decide +kernel) (by decide +kernel), by decide +kernel⟩
theorem cal_X2_addToFloor : CalV RX2 yX2_addToFloor cX2_addToFloor 5 (some .int) 3 := ⟨mem_BIG 423 (by decide +kernel) (by decide +kernel), mem_BIG 424 (by decide +kernel) (by decide +kernel), mem_BIG 40 (by decide +kernel) (by decide +kernel), mem_BIG 425 (by decide +kernel) (by decide +kernel), by decide +kernel⟩
theorem cal_X2_sumOfTills : CalV RX2 yX2_sumOfTills cX2_sumOfTills 3 (some .int) 0 := ⟨mem_BIG 259 (by decide +kernel) (by decide +kernel), mem_BIG 260 (by decide +kernel) (by decide +kernel), mem_BIG 40 (by decide +kernel) (by decide +kernel), mem_BIG 261 (by decide +kernel) (by decide +kernel), by decide +kernel⟩
theorem cal_X2_sumOfGoods : CalV RX2 yX2_sumOfGoods cX2_sumOfGoods 4 (some .int) 1 := ⟨mem_BIG 828 (by decide +kernel) (by decide +kernel), mem_BIG 829 (by decide +kernel) (by decide +kernel), mem_BIG 40 (by decide +kernel) (by decide +kernel), mem_BIG 830 (by decide +kernel) (by decide +kernel), by decide +kernel⟩
theorem cal_X3_clear : CalV RX3 yX3_clear cX3_clear 1 none 0 := ⟨mem_BIG 854 (by decide +kernel) (by decide +kernel), mem_BIG 855 (by decide +kernel) (by decide +kernel), mem_BIG 43 (by decide +kernel) (by decide +kernel), mem_BIG 856 (by decide +kernel) (by decide +kernel), by decide +kernel⟩
theorem cal_X3_add : CalV RX3 yX3_add cX3_add 3 (some .int) 1 := ⟨mem_BIG 431 (by decide +kernel) (by decide +kernel), mem_BIG 432 (by decide +kernel) (by decide +kernel), mem_BIG 43 (by decide +kernel) (by decide +kernel), mem_BIG 433 (by decide +kernel) (by decide +kernel), by decide +kernel⟩
theorem cal_X3_addStage : CalV RX3 yX3_addStage cX3_addStage 6 (some .int) 4 := ⟨mem_BIG 435 (by decide +kernel) (by decide +kernel), mem_BIG 436 (by decide +kernel) (by decide +kernel), mem_BIG 43 (by decide +kernel) (by decide +kernel), mem_BIG 437 (by decide +kernel) (by decide +kernel), by decide +kernel⟩
theorem cal_X4_clear : CalV RX4 yX4_clear cX4_clear 1 none 0 := ⟨mem_BIG 844 (by decide +kernel) (by decide +kernel), mem_BIG 845 (by decide +kernel) (by decide +kernel), mem_BIG 39 (by decide +kernel) (by decide +kernel), mem_BIG 846 (by decide +kernel) (by decide +kernel), by decide +kernel⟩
theorem cal_X4_play : CalV RX4 yX4_play cX4_play 12 (some .int) 5 := ⟨mem_BIG 403 (by decide +kernel) (by decide +kernel), mem_BIG 404 (by decide +kernel) (by decide +kernel), mem_BIG 39 (by decide +kernel) (by decide +kernel), mem_BIG 405 (by decide +kernel) (by decide +kernel), by decide +kernel⟩
theorem cal_X4_make : CalV RX4 yX4_make cX4_make 6 (some .int) 5 := ⟨mem_BIG 408 (by decide +kernel) (by decide +kernel), mem_BIG 2 (by decide +kernel) (by decide +kernel), mem_BIG 39 (by decide +kernel) (by decide +kernel), mem_BIG 409 (by decide +kernel) (by decide +kernel), by decide +kernel⟩
theorem cal_X4_costOf : CalS yX4_costOf cX4_costOf 1 (some .int) 1 := ⟨mem_BIG 494 (by decide +kernel) (by decide +kernel), mem_BIG 39 (by decide +kernel) (by decide +kernel), mem_BIG 495 (by decide +kernel) (by decide +kernel), by decide +kernel⟩
theorem cal_X4_perform : CalV RX4 yX4_perform cX4_perform 6 (some .int) 4 := ⟨mem_BIG 444 (by decide +kernel) (by decide +kernel), mem_BIG 3 (by decide +kernel) (by decide +kernel), mem_BIG 39 (by decide +kernel) (by decide +kernel), mem_BIG 445 (by decide +kernel) (by decide +kernel), by decide +kernel⟩
theorem cal_X4_tell : CalV RX4 yX4_tell cX4_tell 9 (some .int) 3 := ⟨mem_BIG 449 (by decide +kernel) (by decide +kernel), mem_BIG 4 (by decide +kernel) (by decide +kernel), mem_BIG 39 (by decide +kernel) (by decide +kernel), mem_BIG 450 (by decide +kernel) (by decide +kernel), by decide +kernel⟩
theorem cal_X4_trade : CalV RX4 yX4_trade cX4_trade 6 none 4 := ⟨mem_BIG 474 (by decide +kernel) (by decide +kernel), mem_BIG 5 (by decide +kernel) (by decide +kernel), mem_BIG 39 (by decide +kernel) (by decide +kernel), mem_BIG 475 (by decide +kernel) (by decide +kernel), by decide +kernel⟩
theorem cal_X4_roll : CalV RX4 yX4_roll cX4_roll 1 (some .int) 0 := ⟨mem_BIG 486 (by decide +kernel) (by decide +kernel), mem_BIG 7 (by decide +kernel) (by decide +kernel), mem_BIG 39 (by decide +kernel) (by decide +kernel), mem_BIG 487 (by decide +kernel) (by decide +kernel), by decide +kernel⟩
theorem cal_X4_fight : CalV RX4 yX4_fight cX4_fight 7 (some .int) 2 := ⟨mem_BIG 482 (by decide +kernel) (by decide +kernel), mem_BIG 6 (by decide +kernel) (by decide +kernel), mem_BIG 39 (by decide +kernel) (by decide +kernel), mem_BIG 483 (by decide +kernel) (by decide +kernel), by decide +kernel⟩
theorem cal_X4_defeat : CalV RX4 yX4_defeat cX4_defeat 6 none 3 := ⟨mem_BIG 498 (by decide +kernel) (by decide +kernel), mem_BIG 8 (by decide +kernel) (by decide +kernel), mem_BIG 39 (by decide +kernel) (by decide +kernel), mem_BIG 499 (by decide +kernel) (by decide +kernel), by decide +kernel⟩
theorem cal_X4_pursueQuests : CalV RX4 yX4_pursueQuests cX4_pursueQuests 7 none 3 := ⟨mem_BIG 505 (by decide +kernel) (by decide +kernel), mem_BIG 9 (by decide +kernel) (by decide +kernel), mem_BIG 39 (by decide +kernel) (by decide +kernel), mem_BIG 506 (by decide +kernel) (by decide +kernel), by decide +kernel⟩
theorem cal_X4_isFulfilled : CalV RX4 yX4_isFulfilled cX4_isFulfilled 7 (some .boolean) 4 := ⟨mem_BIG 513 (by decide +kernel) (by decide +kernel), mem_BIG 10 (by decide +kernel) (by decide +kernel), mem_BIG 39 (by decide +kernel) (by decide +kernel), mem_BIG 514 (by decide +kernel) (by decide +kernel), by decide +kernel⟩
theorem cal_X4_reward : CalV RX4 yX4_reward cX4_reward 4 none 2 := ⟨mem_BIG 517 (by decide +kernel) (by decide +kernel), mem_BIG 11 (by decide +kernel) (by decide +kernel), mem_BIG 39 (by decide +kernel) (by decide +kernel), mem_BIG 518 (by decide +kernel) (by decide +kernel), by decide +kernel⟩
theorem cal_X5_link : CalV RX5 yX5_link cX5_link 4 none 3 := ⟨mem_BIG 277 (by decide +kernel) (by decide +kernel), mem_BIG 278 (by decide +kernel) (by decide +kernel), mem_BIG 37 (by decide +kernel) (by decide +kernel), mem_BIG 279 (by decide +kernel) (by decide +kernel), by decide +kernel⟩
theorem cal_X5_shop : CalV RX5 yX5_shop cX5_shop 3 none 2 := ⟨mem_BIG 523 (by decide +kernel) (by decide +kernel), mem_BIG 524 (by decide +kernel) (by decide +kernel), mem_BIG 37 (by decide +kernel) (by decide +kernel), mem_BIG 525 (by decide +kernel) (by decide +kernel), by decide +kernel⟩
theorem cal_X5_stock : CalV RX5 yX5_stock cX5_stock 5 (some .int) 4 := ⟨mem_BIG 536 (by decide +kernel) (by decide +kernel), mem_BIG 537 (by decide +kernel) (by decide +kernel), mem_BIG 37 (by decide +kernel) (by decide +kernel), mem_BIG 538 (by decide +kernel) (by decide +kernel), by decide +kernel⟩
theorem cal_X5_scatter : CalV RX5 yX5_scatter cX5_scatter 4 (some .int) 3 := ⟨mem_BIG 548 (by decide +kernel) (by decide +kernel), mem_BIG 549 (by decide +kernel) (by decide +kernel), mem_BIG 37 (by decide +kernel) (by decide +kernel), mem_BIG 550 (by decide +kernel) (by decide +kernel), by decide +kernel⟩
theorem cal_X5_join : CalV RX5 yX5_join cX5_join 4 (some .int) 3 := ⟨mem_BIG 555 (by decide +kernel) (by decide +kernel), mem_BIG 556 (by decide +kernel) (by decide +kernel), mem_BIG 37 (by decide +kernel) (by decide +kernel), mem_BIG 557 (by decide +kernel) (by decide +kernel), by decide +kernel⟩
theorem cal_X5_quest : CalV RX5 yX5_quest cX5_quest 2 (some .int) 1 := ⟨mem_BIG 563 (by decide +kernel) (by decide +kernel), mem_BIG 564 (by decide +kernel) (by decide +kernel), mem_BIG 37 (by decide +kernel) (by decide +kernel), mem_BIG 565 (by decide +kernel) (by decide +kernel), by decide +kernel⟩
theorem cal_X5_stage : CalV RX5 yX5_stage cX5_stage 5 (some .int) 4 := ⟨mem_BIG 571 (by decide +kernel) (by decide +kernel), mem_BIG 572 (by decide +kernel) (by decide +kernel), mem_BIG 37 (by decide +kernel) (by decide +kernel), mem_BIG 573 (by decide +kernel) (by decide +kernel), by decide +kernel⟩
theorem cal_X5_endow : CalV RX5 yX5_endow cX5_endow 2 (some .int) 1 := ⟨mem_BIG 597 (by decide +kernel) (by decide +kernel), mem_BIG 598 (by decide +kernel) (by decide +kernel), mem_BIG 37 (by decide +kernel) (by decide +kernel), mem_BIG 599 (by decide +kernel) (by decide +kernel), by decide +kernel⟩
theorem cal_X5_seed : CalV RX5 yX5_seed cX5_seed 2 none 1 := ⟨mem_BIG 604 (by decide +kernel) (by decide +kernel), mem_BIG 605 (by decide +kernel) (by decide +kernel), mem_BIG 37 (by decide +kernel) (by decide +kernel), mem_BIG 606 (by decide +kernel) (by decide +kernel), by decide +kernel⟩
theorem cal_X5_go : CalV RX5 yX5_go cX5_go 3 (some .int) 1 := ⟨mem_BIG 612 (by decide +kernel) (by decide +kernel), mem_BIG 613 (by decide +kernel) (by decide +kernel), mem_BIG 37 (by decide +kernel) (by decide +kernel), mem_BIG 614 (by decide +kernel) (by decide +kernel), by decide +kernel⟩
theorem cal_X5_say : CalV RX5 yX5_say cX5_say 2 (some .int) 1 := ⟨mem_BIG 625 (by decide +kernel) (by decide +kernel), mem_BIG 626 (by decide +kernel) (by decide +kernel), mem_BIG 37 (by decide +kernel) (by decide +kernel), mem_BIG 627 (by decide +kernel) (by decide +kernel), by decide +kernel⟩
theorem cal_X5_shout : CalV RX5 yX5_shout cX5_shout 2 (some .int) 1 := ⟨mem_BIG 632 (by decide +kernel) (by decide +kernel), mem_BIG 633 (by decide +kernel) (by decide +kernel), mem_BIG 37 (by decide +kernel) (by decide +kernel), mem_BIG 634 (by decide +kernel) (by decide +kernel), by decide +kernel⟩
theorem cal_X5_take : CalV RX5 yX5_take cX5_take 3 (some .int) 1 := ⟨mem_BIG 639 (by decide +kernel) (by decide +kernel), mem_BIG 640 (by decide +kernel) (by decide +kernel), mem_BIG 37 (by decide +kernel) (by decide +kernel), mem_BIG 641 (by decide +kernel) (by decide +kernel), by decide +kernel⟩
theorem cal_X5_drop : CalV RX5 yX5_drop cX5_drop 2 (some .int) 1 := ⟨mem_BIG 648 (by decide +kernel) (by decide +kernel), mem_BIG 649 (by decide +kernel) (by decide +kernel), mem_BIG 37 (by decide +kernel) (by decide +kernel), mem_BIG 650 (by decide +kernel) (by decide +kernel), by decide +kernel⟩
theorem cal_X5_give : CalV RX5 yX5_give cX5_give 4 (some .int) 2 := ⟨mem_BIG 660 (by decide +kernel) (by decide +kernel), mem_BIG 661 (by decide +kernel) (by decide +kernel), mem_BIG 37 (by decide +kernel) (by decide +kernel), mem_BIG 662 (by decide +kernel) (by decide +kernel), by decide +kernel⟩
theorem cal_X5_pay : CalV RX5 yX5_pay cX5_pay 4 (some .int) 2 := ⟨mem_BIG 679 (by decide +kernel) (by decide +kernel), mem_BIG 680 (by decide +kernel) (by decide +kernel), mem_BIG 37 (by decide +kernel) (by decide +kernel), mem_BIG 681 (by decide +kernel) (by decide +kernel), by decide +kernel⟩
theorem cal_X5_buy : CalV RX5 yX5_buy cX5_buy 4 (some .int) 1 := ⟨mem_BIG 690 (by decide +kernel) (by decide +kernel), mem_BIG 691 (by decide +kernel) (by decide +kernel), mem_BIG 37 (by decide +kernel) (by decide +kernel), mem_BIG 692 (by decide +kernel) (by decide +kernel), by decide +kernel⟩
theorem cal_X5_sell : CalV RX5 yX5_sell cX5_sell 4 (some .int) 1 := ⟨mem_BIG 703 (by decide +kernel) (by decide +kernel), mem_BIG 704 (by decide +kernel) (by decide +kernel), mem_BIG 37 (by decide +kernel) (by decide +kernel), mem_BIG 705 (by decide +kernel) (by decide +kernel), by decide +kernel⟩
theorem cal_X5_attack : CalV RX5 yX5_attack cX5_attack 2 (some .int) 1 := ⟨mem_BIG 711 (by decide +kernel) (by decide +kernel), mem_BIG 712 (by decide +kernel) (by decide +kernel), mem_BIG 37 (by decide +kernel) (by decide +kernel), mem_BIG 713 (by decide +kernel) (by decide +kernel), by decide +kernel⟩
theorem cal_X5_rest : CalV RX5 yX5_rest cX5_rest 1 (some .int) 0 := ⟨mem_BIG 718 (by decide +kernel) (by decide +kernel), mem_BIG 719 (by decide +kernel) (by decide +kernel), mem_BIG 37 (by decide +kernel) (by decide +kernel), mem_BIG 720 (by decide +kernel) (by decide +kernel), by decide +kernel⟩
theorem cal_X5_turn : CalV RX5 yX5_turn cX5_turn 1 (some .int) 0 := ⟨mem_BIG 239 (by decide +kernel) (by decide +kernel), mem_BIG 240 (by decide +kernel) (by decide +kernel), mem_BIG 37 (by decide +kernel) (by decide +kernel), mem_BIG 241 (by decide +kernel) (by decide +kernel), by decide +kernel⟩
theorem cal_X5_readyAt : CalV RX5 yX5_readyAt cX5_readyAt 2 (some .int) 1 := ⟨mem_BIG 725 (by decide +kernel) (by decide +kernel), mem_BIG 726 (by decide +kernel) (by decide +kernel), mem_BIG 37 (by decide +kernel) (by decide +kernel), mem_BIG 727 (by decide +kernel) (by decide +kernel), by decide +kernel⟩
theorem cal_X5_roomOf : CalV RX5 yX5_roomOf cX5_roomOf 2 (some .int) 1 := ⟨mem_BIG 732 (by decide +kernel) (by decide +kernel), mem_BIG 733 (by decide +kernel) (by decide +kernel), mem_BIG 37 (by decide +kernel) (by decide +kernel), mem_BIG 734 (by decide +kernel) (by decide +kernel), by decide +kernel⟩
theorem cal_X5_coinsOf : CalV RX5 yX5_coinsOf cX5_coinsOf 2 (some .int) 1 := ⟨mem_BIG 739 (by decide +kernel) (by decide +kernel), mem_BIG 740 (by decide +kernel) (by decide +kernel), mem_BIG 37 (by decide +kernel) (by decide +kernel), mem_BIG 741 (by decide +kernel) (by decide +kernel), by decide +kernel⟩
theorem cal_X5_healthOf : CalV RX5 yX5_healthOf cX5_healthOf 2 (some .int) 1 := ⟨mem_BIG 746 (by decide +kernel) (by decide +kernel), mem_BIG 747 (by decide +kernel) (by decide +kernel), mem_BIG 37 (by decide +kernel) (by decide +kernel), mem_BIG 748 (by decide +kernel) (by decide +kernel), by decide +kernel⟩
theorem cal_X5_goodsOf : CalV RX5 yX5_goodsOf cX5_goodsOf 3 (some .int) 2 := ⟨mem_BIG 753 (by decide +kernel) (by decide +kernel), mem_BIG 754 (by decide +kernel) (by decide +kernel), mem_BIG 37 (by decide +kernel) (by decide +kernel), mem_BIG 755 (by decide +kernel) (by decide +kernel), by decide +kernel⟩
theorem cal_X5_heard : CalV RX5 yX5_heard cX5_heard 3 (some .int) 2 := ⟨mem_BIG 760 (by decide +kernel) (by decide +kernel), mem_BIG 761 (by decide +kernel) (by decide +kernel), mem_BIG 37 (by decide +kernel) (by decide +kernel), mem_BIG 762 (by decide +kernel) (by decide +kernel), by decide +kernel⟩
theorem cal_X5_stageOf : CalV RX5 yX5_stageOf cX5_stageOf 3 (some .int) 2 := ⟨mem_BIG 768 (by decide +kernel) (by decide +kernel), mem_BIG 769 (by decide +kernel) (by decide +kernel), mem_BIG 37 (by decide +kernel) (by decide +kernel), mem_BIG 770 (by decide +kernel) (by decide +kernel), by decide +kernel⟩
theorem cal_X5_exit : CalV RX5 yX5_exit cX5_exit 3 (some .int) 2 := ⟨mem_BIG 776 (by decide +kernel) (by decide +kernel), mem_BIG 777 (by decide +kernel) (by decide +kernel), mem_BIG 37 (by decide +kernel) (by decide +kernel), mem_BIG 778 (by decide +kernel) (by decide +kernel), by decide +kernel⟩
theorem cal_X5_distance : CalV RX5 yX5_distance cX5_distance 3 (some .int) 2 := ⟨mem_BIG 783 (by decide +kernel) (by decide +kernel), mem_BIG 784 (by decide +kernel) (by decide +kernel), mem_BIG 37 (by decide +kernel) (by decide +kernel), mem_BIG 785 (by decide +kernel) (by decide +kernel), by decide +kernel⟩
theorem cal_X5_onFloor : CalV RX5 yX5_onFloor cX5_onFloor 3 (some .int) 2 := ⟨mem_BIG 799 (by decide +kernel) (by decide +kernel), mem_BIG 800 (by decide +kernel) (by decide +kernel), mem_BIG 37 (by decide +kernel) (by decide +kernel), mem_BIG 801 (by decide +kernel) (by decide +kernel), by decide +kernel⟩
theorem cal_X5_stockOf : CalV RX5 yX5_stockOf cX5_stockOf 3 (some .int) 2 := ⟨mem_BIG 806 (by decide +kernel) (by decide +kernel), mem_BIG 807 (by decide +kernel) (by decide +kernel), mem_BIG 37 (by decide +kernel) (by decide +kernel), mem_BIG 808 (by decide +kernel) (by decide +kernel), by decide +kernel⟩
theorem cal_X5_tillOf : CalV RX5 yX5_tillOf cX5_tillOf 2 (some .int) 1 := ⟨mem_BIG 813 (by decide +kernel) (by decide +kernel), mem_BIG 814 (by decide +kernel) (by decide +kernel), mem_BIG 37 (by decide +kernel) (by decide +kernel), mem_BIG 815 (by decide +kernel) (by decide +kernel), by decide +kernel⟩
theorem cal_X5_purse : CalV RX5 yX5_purse cX5_purse 1 (some .int) 0 := ⟨mem_BIG 247 (by decide +kernel) (by decide +kernel), mem_BIG 248 (by decide +kernel) (by decide +kernel), mem_BIG 37 (by decide +kernel) (by decide +kernel), mem_BIG 249 (by decide +kernel) (by decide +kernel), by decide +kernel⟩
theorem cal_X5_allCoins : CalV RX5 yX5_allCoins cX5_allCoins 1 (some .int) 0 := ⟨mem_BIG 251 (by decide +kernel) (by decide +kernel), mem_BIG 252 (by decide +kernel) (by decide +kernel), mem_BIG 37 (by decide +kernel) (by decide +kernel), mem_BIG 253 (by decide +kernel) (by decide +kernel), by decide +kernel⟩
theorem cal_X5_allGoods : CalV RX5 yX5_allGoods cX5_allGoods 2 (some .int) 1 := ⟨mem_BIG 820 (by decide +kernel) (by decide +kernel), mem_BIG 821 (by decide +kernel) (by decide +kernel), mem_BIG 37 (by decide +kernel) (by decide +kernel), mem_BIG 822 (by decide +kernel) (by decide +kernel), by decide +kernel⟩
theorem cal_X5_calls : CalV RX5 yX5_calls cX5_calls 1 (some .int) 0 := ⟨mem_BIG 267 (by decide +kernel) (by decide +kernel), mem_BIG 268 (by decide +kernel) (by decide +kernel), mem_BIG 37 (by decide +kernel) (by decide +kernel), mem_BIG 269 (by decide +kernel) (by decide +kernel), by decide +kernel⟩
theorem cal_X5_roomAfter : CalV RX5 yX5_roomAfter cX5_roomAfter 4 (some .int) 2 := ⟨mem_BIG 835 (by decide +kernel) (by decide +kernel), mem_BIG 836 (by decide +kernel) (by decide +kernel), mem_BIG 37 (by decide +kernel) (by decide +kernel), mem_BIG 837 (by decide +kernel) (by decide +kernel), by decide +kernel⟩
theorem cal_X5_coinsAfter : CalV RX5 yX5_coinsAfter cX5_coinsAfter 4 (some .int) 2 := ⟨mem_BIG 861 (by decide +kernel) (by decide +kernel), mem_BIG 862 (by decide +kernel) (by decide +kernel), mem_BIG 37 (by decide +kernel) (by decide +kernel), mem_BIG 863 (by decide +kernel) (by decide +kernel), by decide +kernel⟩
theorem cal_X5_turnAfter : CalV RX5 yX5_turnAfter cX5_turnAfter 2 (some .int) 1 := ⟨mem_BIG 868 (by decide +kernel) (by decide +kernel), mem_BIG 869 (by decide +kernel) (by decide +kernel), mem_BIG 37 (by decide +kernel) (by decide +kernel), mem_BIG 870 (by decide +kernel) (by decide +kernel), by decide +kernel⟩
theorem cal_X5_keep : CalV RX5 yX5_keep cX5_keep 6 (some .int) 5 := ⟨mem_BIG 396 (by decide +kernel) (by decide +kernel), mem_BIG 1 (by decide +kernel) (by decide +kernel), mem_BIG 37 (by decide +kernel) (by decide +kernel), mem_BIG 397 (by decide +kernel) (by decide +kernel), by decide +kernel⟩
theorem cal_X5_worldAfter : CalV RX5 yX5_worldAfter cX5_worldAfter 4 (some (.object "MudCouncil$World")) 1 := ⟨mem_BIG 840 (by decide +kernel) (by decide +kernel), mem_BIG 19 (by decide +kernel) (by decide +kernel), mem_BIG 37 (by decide +kernel) (by decide +kernel), mem_BIG 841 (by decide +kernel) (by decide +kernel), by decide +kernel⟩
theorem cal_X5_needRoom : CalS yX5_needRoom cX5_needRoom 1 none 1 := ⟨mem_BIG 281 (by decide +kernel) (by decide +kernel), mem_BIG 37 (by decide +kernel) (by decide +kernel), mem_BIG 282 (by decide +kernel) (by decide +kernel), by decide +kernel⟩
theorem cal_X5_needDirection : CalS yX5_needDirection cX5_needDirection 1 none 1 := ⟨mem_BIG 352 (by decide +kernel) (by decide +kernel), mem_BIG 37 (by decide +kernel) (by decide +kernel), mem_BIG 353 (by decide +kernel) (by decide +kernel), by decide +kernel⟩
theorem cal_X5_needKind : CalS yX5_needKind cX5_needKind 1 none 1 := ⟨mem_BIG 540 (by decide +kernel) (by decide +kernel), mem_BIG 37 (by decide +kernel) (by decide +kernel), mem_BIG 541 (by decide +kernel) (by decide +kernel), by decide +kernel⟩
theorem cal_X5_needPlayer : CalV RX5 yX5_needPlayer cX5_needPlayer 2 none 1 := ⟨mem_BIG 665 (by decide +kernel) (by decide +kernel), mem_BIG 15 (by decide +kernel) (by decide +kernel), mem_BIG 37 (by decide +kernel) (by decide +kernel), mem_BIG 666 (by decide +kernel) (by decide +kernel), by decide +kernel⟩
theorem cal_X5_needPlayerIn : CalS yX5_needPlayerIn cX5_needPlayerIn 2 none 2 := ⟨mem_BIG 668 (by decide +kernel) (by decide +kernel), mem_BIG 37 (by decide +kernel) (by decide +kernel), mem_BIG 669 (by decide +kernel) (by decide +kernel), by decide +kernel⟩
theorem cal_X5_needQuest : CalV RX5 yX5_needQuest cX5_needQuest 2 none 1 := ⟨mem_BIG 576 (by decide +kernel) (by decide +kernel), mem_BIG 12 (by decide +kernel) (by decide +kernel), mem_BIG 37 (by decide +kernel) (by decide +kernel), mem_BIG 577 (by decide +kernel) (by decide +kernel), by decide +kernel⟩
theorem cal_X5_needRange : CalS yX5_needRange cX5_needRange 3 none 3 := ⟨mem_BIG 527 (by decide +kernel) (by decide +kernel), mem_BIG 37 (by decide +kernel) (by decide +kernel), mem_BIG 528 (by decide +kernel) (by decide +kernel), by decide +kernel⟩
theorem cal_X5_needStageTarget : CalS yX5_needStageTarget cX5_needStageTarget 2 none 2 := ⟨mem_BIG 580 (by decide +kernel) (by decide +kernel), mem_BIG 37 (by decide +kernel) (by decide +kernel), mem_BIG 581 (by decide +kernel) (by decide +kernel), by decide +kernel⟩
theorem cal_X5_needStageMeasure : CalS yX5_needStageMeasure cX5_needStageMeasure 2 none 2 := ⟨mem_BIG 584 (by decide +kernel) (by decide +kernel), mem_BIG 37 (by decide +kernel) (by decide +kernel), mem_BIG 585 (by decide +kernel) (by decide +kernel), by decide +kernel⟩
theorem cal_X5_needActor : CalV RX5 yX5_needActor cX5_needActor 2 (some .int) 0 := ⟨mem_BIG 617 (by decide +kernel) (by decide +kernel), mem_BIG 13 (by decide +kernel) (by decide +kernel), mem_BIG 37 (by decide +kernel) (by decide +kernel), mem_BIG 618 (by decide +kernel) (by decide +kernel), by decide +kernel⟩
theorem cal_X5_needCompany : CalV RX5 yX5_needCompany cX5_needCompany 3 none 2 := ⟨mem_BIG 672 (by decide +kernel) (by decide +kernel), mem_BIG 16 (by decide +kernel) (by decide +kernel), mem_BIG 37 (by decide +kernel) (by decide +kernel), mem_BIG 673 (by decide +kernel) (by decide +kernel), by decide +kernel⟩
theorem cal_X5_needOwned : CalV RX5 yX5_needOwned cX5_needOwned 3 none 2 := ⟨mem_BIG 653 (by decide +kernel) (by decide +kernel), mem_BIG 14 (by decide +kernel) (by decide +kernel), mem_BIG 37 (by decide +kernel) (by decide +kernel), mem_BIG 654 (by decide +kernel) (by decide +kernel), by decide +kernel⟩
theorem cal_X5_needTrade : CalV RX5 yX5_needTrade cX5_needTrade 3 none 2 := ⟨mem_BIG 695 (by decide +kernel) (by decide +kernel), mem_BIG 17 (by decide +kernel) (by decide +kernel), mem_BIG 37 (by decide +kernel) (by decide +kernel), mem_BIG 696 (by decide +kernel) (by decide +kernel), by decide +kernel⟩
theorem cal_X5_needCoins : CalS yX5_needCoins cX5_needCoins 2 none 2 := ⟨mem_BIG 683 (by decide +kernel) (by decide +kernel), mem_BIG 37 (by decide +kernel) (by decide +kernel), mem_BIG 684 (by decide +kernel) (by decide +kernel), by decide +kernel⟩
theorem cal_X5_opposite : CalS yX5_opposite cX5_opposite 1 (some .int) 1 := ⟨mem_BIG 376 (by decide +kernel) (by decide +kernel), mem_BIG 37 (by decide +kernel) (by decide +kernel), mem_BIG 377 (by decide +kernel) (by decide +kernel), by decide +kernel⟩
theorem cal_X5_goodsAt : CalS yX5_goodsAt cX5_goodsAt 2 (some .int) 2 := ⟨mem_BIG 420 (by decide +kernel) (by decide +kernel), mem_BIG 37 (by decide +kernel) (by decide +kernel), mem_BIG 421 (by decide +kernel) (by decide +kernel), by decide +kernel⟩
theorem cal_X5_reachedAt : CalS yX5_reachedAt cX5_reachedAt 2 (some .int) 2 := ⟨mem_BIG 508 (by decide +kernel) (by decide +kernel), mem_BIG 37 (by decide +kernel) (by decide +kernel), mem_BIG 509 (by decide +kernel) (by decide +kernel), by decide +kernel⟩
theorem cal_X5_stageAt : CalS yX5_stageAt cX5_stageAt 2 (some .int) 2 := ⟨mem_BIG 439 (by decide +kernel) (by decide +kernel), mem_BIG 37 (by decide +kernel) (by decide +kernel), mem_BIG 440 (by decide +kernel) (by decide +kernel), by decide +kernel⟩
theorem cal_X6_thrown : CalV RX6 yX6_thrown cX6_thrown 1 (some .int) 0 := ⟨mem_BIG 969 (by decide +kernel) (by decide +kernel), mem_BIG 970 (by decide +kernel) (by decide +kernel), mem_BIG 44 (by decide +kernel) (by decide +kernel), mem_BIG 971 (by decide +kernel) (by decide +kernel), by decide +kernel⟩
theorem cal_X6_can : CalV RX6 yX6_can cX6_can 2 (some .boolean) 1 := ⟨mem_BIG 984 (by decide +kernel) (by decide +kernel), mem_BIG 20 (by decide +kernel) (by decide +kernel), mem_BIG 44 (by decide +kernel) (by decide +kernel), mem_BIG 985 (by decide +kernel) (by decide +kernel), by decide +kernel⟩
theorem cal_X6_isIn : CalS yX6_isIn cX6_isIn 3 (some .boolean) 3 := ⟨mem_BIG 980 (by decide +kernel) (by decide +kernel), mem_BIG 44 (by decide +kernel) (by decide +kernel), mem_BIG 981 (by decide +kernel) (by decide +kernel), by decide +kernel⟩
theorem cal_X6_isRoom : CalS yX6_isRoom cX6_isRoom 1 (some .boolean) 1 := ⟨mem_BIG 977 (by decide +kernel) (by decide +kernel), mem_BIG 44 (by decide +kernel) (by decide +kernel), mem_BIG 978 (by decide +kernel) (by decide +kernel), by decide +kernel⟩
theorem cal_X6_isKind : CalS yX6_isKind cX6_isKind 1 (some .boolean) 1 := ⟨mem_BIG 1003 (by decide +kernel) (by decide +kernel), mem_BIG 44 (by decide +kernel) (by decide +kernel), mem_BIG 1004 (by decide +kernel) (by decide +kernel), by decide +kernel⟩
theorem cal_X6_isPlayer : CalV RX6 yX6_isPlayer cX6_isPlayer 2 (some .boolean) 1 := ⟨mem_BIG 1080 (by decide +kernel) (by decide +kernel), mem_BIG 29 (by decide +kernel) (by decide +kernel), mem_BIG 44 (by decide +kernel) (by decide +kernel), mem_BIG 1081 (by decide +kernel) (by decide +kernel), by decide +kernel⟩
theorem cal_X6_isQuest : CalV RX6 yX6_isQuest cX6_isQuest 2 (some .boolean) 1 := ⟨mem_BIG 1023 (by decide +kernel) (by decide +kernel), mem_BIG 23 (by decide +kernel) (by decide +kernel), mem_BIG 44 (by decide +kernel) (by decide +kernel), mem_BIG 1024 (by decide +kernel) (by decide +kernel), by decide +kernel⟩
theorem cal_X6_actor : CalV RX6 yX6_actor cX6_actor 3 (some .int) 0 := ⟨mem_BIG 992 (by decide +kernel) (by decide +kernel), mem_BIG 22 (by decide +kernel) (by decide +kernel), mem_BIG 44 (by decide +kernel) (by decide +kernel), mem_BIG 993 (by decide +kernel) (by decide +kernel), by decide +kernel⟩
theorem cal_X6_keep : CalV RX6 yX6_keep cX6_keep 2 none 0 := ⟨mem_BIG 988 (by decide +kernel) (by decide +kernel), mem_BIG 21 (by decide +kernel) (by decide +kernel), mem_BIG 44 (by decide +kernel) (by decide +kernel), mem_BIG 989 (by decide +kernel) (by decide +kernel), by decide +kernel⟩
theorem cal_X6_link : CalV RX6 yX6_link cX6_link 6 none 3 := ⟨mem_BIG 973 (by decide +kernel) (by decide +kernel), mem_BIG 974 (by decide +kernel) (by decide +kernel), mem_BIG 44 (by decide +kernel) (by decide +kernel), mem_BIG 975 (by decide +kernel) (by decide +kernel), by decide +kernel⟩
theorem cal_X6_shop : CalV RX6 yX6_shop cX6_shop 3 none 2 := ⟨mem_BIG 995 (by decide +kernel) (by decide +kernel), mem_BIG 996 (by decide +kernel) (by decide +kernel), mem_BIG 44 (by decide +kernel) (by decide +kernel), mem_BIG 997 (by decide +kernel) (by decide +kernel), by decide +kernel⟩
theorem cal_X6_stock : CalV RX6 yX6_stock cX6_stock 5 (some .int) 4 := ⟨mem_BIG 999 (by decide +kernel) (by decide +kernel), mem_BIG 1000 (by decide +kernel) (by decide +kernel), mem_BIG 44 (by decide +kernel) (by decide +kernel), mem_BIG 1001 (by decide +kernel) (by decide +kernel), by decide +kernel⟩
theorem cal_X6_scatter : CalV RX6 yX6_scatter cX6_scatter 4 (some .int) 3 := ⟨mem_BIG 1006 (by decide +kernel) (by decide +kernel), mem_BIG 1007 (by decide +kernel) (by decide +kernel), mem_BIG 44 (by decide +kernel) (by decide +kernel), mem_BIG 1008 (by decide +kernel) (by decide +kernel), by decide +kernel⟩
theorem cal_X6_join : CalV RX6 yX6_join cX6_join 4 (some .int) 3 := ⟨mem_BIG 1010 (by decide +kernel) (by decide +kernel), mem_BIG 1011 (by decide +kernel) (by decide +kernel), mem_BIG 44 (by decide +kernel) (by decide +kernel), mem_BIG 1012 (by decide +kernel) (by decide +kernel), by decide +kernel⟩
theorem cal_X6_quest : CalV RX6 yX6_quest cX6_quest 2 (some .int) 1 := ⟨mem_BIG 1014 (by decide +kernel) (by decide +kernel), mem_BIG 1015 (by decide +kernel) (by decide +kernel), mem_BIG 44 (by decide +kernel) (by decide +kernel), mem_BIG 1016 (by decide +kernel) (by decide +kernel), by decide +kernel⟩
theorem cal_X6_stage : CalV RX6 yX6_stage cX6_stage 9 (some .int) 4 := ⟨mem_BIG 1018 (by decide +kernel) (by decide +kernel), mem_BIG 1019 (by decide +kernel) (by decide +kernel), mem_BIG 44 (by decide +kernel) (by decide +kernel), mem_BIG 1020 (by decide +kernel) (by decide +kernel), by decide +kernel⟩
theorem cal_X6_endow : CalV RX6 yX6_endow cX6_endow 2 (some .int) 1 := ⟨mem_BIG 1026 (by decide +kernel) (by decide +kernel), mem_BIG 1027 (by decide +kernel) (by decide +kernel), mem_BIG 44 (by decide +kernel) (by decide +kernel), mem_BIG 1028 (by decide +kernel) (by decide +kernel), by decide +kernel⟩
theorem cal_X6_seed : CalV RX6 yX6_seed cX6_seed 2 none 1 := ⟨mem_BIG 1030 (by decide +kernel) (by decide +kernel), mem_BIG 1031 (by decide +kernel) (by decide +kernel), mem_BIG 44 (by decide +kernel) (by decide +kernel), mem_BIG 1032 (by decide +kernel) (by decide +kernel), by decide +kernel⟩
theorem cal_X6_isFulfilled : CalV RX6 yX6_isFulfilled cX6_isFulfilled 6 (some .boolean) 4 := ⟨mem_BIG 1044 (by decide +kernel) (by decide +kernel), mem_BIG 25 (by decide +kernel) (by decide +kernel), mem_BIG 44 (by decide +kernel) (by decide +kernel), mem_BIG 1045 (by decide +kernel) (by decide +kernel), by decide +kernel⟩
theorem cal_X6_ends : CalV RX6 yX6_ends cX6_ends 8 none 4 := ⟨mem_BIG 1040 (by decide +kernel) (by decide +kernel), mem_BIG 24 (by decide +kernel) (by decide +kernel), mem_BIG 44 (by decide +kernel) (by decide +kernel), mem_BIG 1041 (by decide +kernel) (by decide +kernel), by decide +kernel⟩
theorem cal_X6_go : CalV RX6 yX6_go cX6_go 3 (some .int) 1 := ⟨mem_BIG 1035 (by decide +kernel) (by decide +kernel), mem_BIG 1036 (by decide +kernel) (by decide +kernel), mem_BIG 44 (by decide +kernel) (by decide +kernel), mem_BIG 1037 (by decide +kernel) (by decide +kernel), by decide +kernel⟩
theorem cal_X6_hears : CalV RX6 yX6_hears cX6_hears 5 none 3 := ⟨mem_BIG 1060 (by decide +kernel) (by decide +kernel), mem_BIG 28 (by decide +kernel) (by decide +kernel), mem_BIG 44 (by decide +kernel) (by decide +kernel), mem_BIG 1061 (by decide +kernel) (by decide +kernel), by decide +kernel⟩
theorem cal_X6_isNextTo : CalV RX6 yX6_isNextTo cX6_isNextTo 3 (some .boolean) 2 := ⟨mem_BIG 1056 (by decide +kernel) (by decide +kernel), mem_BIG 27 (by decide +kernel) (by decide +kernel), mem_BIG 44 (by decide +kernel) (by decide +kernel), mem_BIG 1057 (by decide +kernel) (by decide +kernel), by decide +kernel⟩
theorem cal_X6_speaks : CalV RX6 yX6_speaks cX6_speaks 6 (some .int) 2 := ⟨mem_BIG 1052 (by decide +kernel) (by decide +kernel), mem_BIG 26 (by decide +kernel) (by decide +kernel), mem_BIG 44 (by decide +kernel) (by decide +kernel), mem_BIG 1053 (by decide +kernel) (by decide +kernel), by decide +kernel⟩
theorem cal_X6_say : CalV RX6 yX6_say cX6_say 2 (some .int) 1 := ⟨mem_BIG 1047 (by decide +kernel) (by decide +kernel), mem_BIG 1048 (by decide +kernel) (by decide +kernel), mem_BIG 44 (by decide +kernel) (by decide +kernel), mem_BIG 1049 (by decide +kernel) (by decide +kernel), by decide +kernel⟩
theorem cal_X6_shout : CalV RX6 yX6_shout cX6_shout 2 (some .int) 1 := ⟨mem_BIG 1063 (by decide +kernel) (by decide +kernel), mem_BIG 1064 (by decide +kernel) (by decide +kernel), mem_BIG 44 (by decide +kernel) (by decide +kernel), mem_BIG 1065 (by decide +kernel) (by decide +kernel), by decide +kernel⟩
theorem cal_X6_take : CalV RX6 yX6_take cX6_take 3 (some .int) 1 := ⟨mem_BIG 1067 (by decide +kernel) (by decide +kernel), mem_BIG 1068 (by decide +kernel) (by decide +kernel), mem_BIG 44 (by decide +kernel) (by decide +kernel), mem_BIG 1069 (by decide +kernel) (by decide +kernel), by decide +kernel⟩
theorem cal_X6_drop : CalV RX6 yX6_drop cX6_drop 3 (some .int) 1 := ⟨mem_BIG 1071 (by decide +kernel) (by decide +kernel), mem_BIG 1072 (by decide +kernel) (by decide +kernel), mem_BIG 44 (by decide +kernel) (by decide +kernel), mem_BIG 1073 (by decide +kernel) (by decide +kernel), by decide +kernel⟩
theorem cal_X6_isAway : CalV RX6 yX6_isAway cX6_isAway 3 (some .boolean) 2 := ⟨mem_BIG 1084 (by decide +kernel) (by decide +kernel), mem_BIG 30 (by decide +kernel) (by decide +kernel), mem_BIG 44 (by decide +kernel) (by decide +kernel), mem_BIG 1085 (by decide +kernel) (by decide +kernel), by decide +kernel⟩
theorem cal_X6_give : CalV RX6 yX6_give cX6_give 4 (some .int) 2 := ⟨mem_BIG 1075 (by decide +kernel) (by decide +kernel), mem_BIG 1076 (by decide +kernel) (by decide +kernel), mem_BIG 44 (by decide +kernel) (by decide +kernel), mem_BIG 1077 (by decide +kernel) (by decide +kernel), by decide +kernel⟩
theorem cal_X6_pay : CalV RX6 yX6_pay cX6_pay 4 (some .int) 2 := ⟨mem_BIG 1087 (by decide +kernel) (by decide +kernel), mem_BIG 1088 (by decide +kernel) (by decide +kernel), mem_BIG 44 (by decide +kernel) (by decide +kernel), mem_BIG 1089 (by decide +kernel) (by decide +kernel), by decide +kernel⟩
theorem cal_X6_traded : CalV RX6 yX6_traded cX6_traded 4 (some .int) 2 := ⟨mem_BIG 1096 (by decide +kernel) (by decide +kernel), mem_BIG 31 (by decide +kernel) (by decide +kernel), mem_BIG 44 (by decide +kernel) (by decide +kernel), mem_BIG 1097 (by decide +kernel) (by decide +kernel), by decide +kernel⟩
theorem cal_X6_buy : CalV RX6 yX6_buy cX6_buy 4 (some .int) 1 := ⟨mem_BIG 1091 (by decide +kernel) (by decide +kernel), mem_BIG 1092 (by decide +kernel) (by decide +kernel), mem_BIG 44 (by decide +kernel) (by decide +kernel), mem_BIG 1093 (by decide +kernel) (by decide +kernel), by decide +kernel⟩
theorem cal_X6_sell : CalV RX6 yX6_sell cX6_sell 4 (some .int) 1 := ⟨mem_BIG 1099 (by decide +kernel) (by decide +kernel), mem_BIG 1100 (by decide +kernel) (by decide +kernel), mem_BIG 44 (by decide +kernel) (by decide +kernel), mem_BIG 1101 (by decide +kernel) (by decide +kernel), by decide +kernel⟩
theorem cal_X6_rolls : CalV RX6 yX6_rolls cX6_rolls 2 (some .int) 1 := ⟨mem_BIG 1108 (by decide +kernel) (by decide +kernel), mem_BIG 32 (by decide +kernel) (by decide +kernel), mem_BIG 44 (by decide +kernel) (by decide +kernel), mem_BIG 1109 (by decide +kernel) (by decide +kernel), by decide +kernel⟩
theorem cal_X6_isBeaten : CalV RX6 yX6_isBeaten cX6_isBeaten 6 none 3 := ⟨mem_BIG 1113 (by decide +kernel) (by decide +kernel), mem_BIG 33 (by decide +kernel) (by decide +kernel), mem_BIG 44 (by decide +kernel) (by decide +kernel), mem_BIG 1114 (by decide +kernel) (by decide +kernel), by decide +kernel⟩
theorem cal_X6_attack : CalV RX6 yX6_attack cX6_attack 6 (some .int) 1 := ⟨mem_BIG 1103 (by decide +kernel) (by decide +kernel), mem_BIG 1104 (by decide +kernel) (by decide +kernel), mem_BIG 44 (by decide +kernel) (by decide +kernel), mem_BIG 1105 (by decide +kernel) (by decide +kernel), by decide +kernel⟩
theorem cal_X6_rest : CalV RX6 yX6_rest cX6_rest 2 (some .int) 0 := ⟨mem_BIG 1116 (by decide +kernel) (by decide +kernel), mem_BIG 1117 (by decide +kernel) (by decide +kernel), mem_BIG 44 (by decide +kernel) (by decide +kernel), mem_BIG 1118 (by decide +kernel) (by decide +kernel), by decide +kernel⟩
theorem cal_X6_turn : CalV RX6 yX6_turn cX6_turn 1 (some .int) 0 := ⟨mem_BIG 1120 (by decide +kernel) (by decide +kernel), mem_BIG 1121 (by decide +kernel) (by decide +kernel), mem_BIG 44 (by decide +kernel) (by decide +kernel), mem_BIG 1122 (by decide +kernel) (by decide +kernel), by decide +kernel⟩
theorem cal_X6_isAsked : CalV RX6 yX6_isAsked cX6_isAsked 2 (some .boolean) 1 := ⟨mem_BIG 1129 (by decide +kernel) (by decide +kernel), mem_BIG 34 (by decide +kernel) (by decide +kernel), mem_BIG 44 (by decide +kernel) (by decide +kernel), mem_BIG 1130 (by decide +kernel) (by decide +kernel), by decide +kernel⟩
theorem cal_X6_readyAt : CalV RX6 yX6_readyAt cX6_readyAt 2 (some .int) 1 := ⟨mem_BIG 1124 (by decide +kernel) (by decide +kernel), mem_BIG 1125 (by decide +kernel) (by decide +kernel), mem_BIG 44 (by decide +kernel) (by decide +kernel), mem_BIG 1126 (by decide +kernel) (by decide +kernel), by decide +kernel⟩
theorem cal_X6_roomOf : CalV RX6 yX6_roomOf cX6_roomOf 2 (some .int) 1 := ⟨mem_BIG 1132 (by decide +kernel) (by decide +kernel), mem_BIG 1133 (by decide +kernel) (by decide +kernel), mem_BIG 44 (by decide +kernel) (by decide +kernel), mem_BIG 1134 (by decide +kernel) (by decide +kernel), by decide +kernel⟩
theorem cal_X6_coinsOf : CalV RX6 yX6_coinsOf cX6_coinsOf 2 (some .int) 1 := ⟨mem_BIG 1136 (by decide +kernel) (by decide +kernel), mem_BIG 1137 (by decide +kernel) (by decide +kernel), mem_BIG 44 (by decide +kernel) (by decide +kernel), mem_BIG 1138 (by decide +kernel) (by decide +kernel), by decide +kernel⟩
theorem cal_X6_healthOf : CalV RX6 yX6_healthOf cX6_healthOf 2 (some .int) 1 := ⟨mem_BIG 1140 (by decide +kernel) (by decide +kernel), mem_BIG 1141 (by decide +kernel) (by decide +kernel), mem_BIG 44 (by decide +kernel) (by decide +kernel), mem_BIG 1142 (by decide +kernel) (by decide +kernel), by decide +kernel⟩
theorem cal_X6_goodsOf : CalV RX6 yX6_goodsOf cX6_goodsOf 3 (some .int) 2 := ⟨mem_BIG 1144 (by decide +kernel) (by decide +kernel), mem_BIG 1145 (by decide +kernel) (by decide +kernel), mem_BIG 44 (by decide +kernel) (by decide +kernel), mem_BIG 1146 (by decide +kernel) (by decide +kernel), by decide +kernel⟩
theorem cal_X6_heard : CalV RX6 yX6_heard cX6_heard 3 (some .int) 2 := ⟨mem_BIG 1148 (by decide +kernel) (by decide +kernel), mem_BIG 1149 (by decide +kernel) (by decide +kernel), mem_BIG 44 (by decide +kernel) (by decide +kernel), mem_BIG 1150 (by decide +kernel) (by decide +kernel), by decide +kernel⟩
theorem cal_X6_stageOf : CalV RX6 yX6_stageOf cX6_stageOf 3 (some .int) 2 := ⟨mem_BIG 1152 (by decide +kernel) (by decide +kernel), mem_BIG 1153 (by decide +kernel) (by decide +kernel), mem_BIG 44 (by decide +kernel) (by decide +kernel), mem_BIG 1154 (by decide +kernel) (by decide +kernel), by decide +kernel⟩
theorem cal_X6_exit : CalV RX6 yX6_exit cX6_exit 3 (some .int) 2 := ⟨mem_BIG 1156 (by decide +kernel) (by decide +kernel), mem_BIG 1157 (by decide +kernel) (by decide +kernel), mem_BIG 44 (by decide +kernel) (by decide +kernel), mem_BIG 1158 (by decide +kernel) (by decide +kernel), by decide +kernel⟩
theorem cal_X6_distance : CalV RX6 yX6_distance cX6_distance 5 (some .int) 2 := ⟨mem_BIG 1160 (by decide +kernel) (by decide +kernel), mem_BIG 1161 (by decide +kernel) (by decide +kernel), mem_BIG 44 (by decide +kernel) (by decide +kernel), mem_BIG 1162 (by decide +kernel) (by decide +kernel), by decide +kernel⟩
theorem cal_X6_onFloor : CalV RX6 yX6_onFloor cX6_onFloor 3 (some .int) 2 := ⟨mem_BIG 1164 (by decide +kernel) (by decide +kernel), mem_BIG 1165 (by decide +kernel) (by decide +kernel), mem_BIG 44 (by decide +kernel) (by decide +kernel), mem_BIG 1166 (by decide +kernel) (by decide +kernel), by decide +kernel⟩
theorem cal_X6_stockOf : CalV RX6 yX6_stockOf cX6_stockOf 3 (some .int) 2 := ⟨mem_BIG 1168 (by decide +kernel) (by decide +kernel), mem_BIG 1169 (by decide +kernel) (by decide +kernel), mem_BIG 44 (by decide +kernel) (by decide +kernel), mem_BIG 1170 (by decide +kernel) (by decide +kernel), by decide +kernel⟩
theorem cal_X6_tillOf : CalV RX6 yX6_tillOf cX6_tillOf 2 (some .int) 1 := ⟨mem_BIG 1172 (by decide +kernel) (by decide +kernel), mem_BIG 1173 (by decide +kernel) (by decide +kernel), mem_BIG 44 (by decide +kernel) (by decide +kernel), mem_BIG 1174 (by decide +kernel) (by decide +kernel), by decide +kernel⟩
theorem cal_X6_purse : CalV RX6 yX6_purse cX6_purse 1 (some .int) 0 := ⟨mem_BIG 1176 (by decide +kernel) (by decide +kernel), mem_BIG 1177 (by decide +kernel) (by decide +kernel), mem_BIG 44 (by decide +kernel) (by decide +kernel), mem_BIG 1178 (by decide +kernel) (by decide +kernel), by decide +kernel⟩
theorem cal_X6_allCoins : CalV RX6 yX6_allCoins cX6_allCoins 3 (some .int) 0 := ⟨mem_BIG 1180 (by decide +kernel) (by decide +kernel), mem_BIG 1181 (by decide +kernel) (by decide +kernel), mem_BIG 44 (by decide +kernel) (by decide +kernel), mem_BIG 1182 (by decide +kernel) (by decide +kernel), by decide +kernel⟩
theorem cal_X6_allGoods : CalV RX6 yX6_allGoods cX6_allGoods 4 (some .int) 1 := ⟨mem_BIG 1184 (by decide +kernel) (by decide +kernel), mem_BIG 1185 (by decide +kernel) (by decide +kernel), mem_BIG 44 (by decide +kernel) (by decide +kernel), mem_BIG 1186 (by decide +kernel) (by decide +kernel), by decide +kernel⟩
theorem cal_X6_calls : CalV RX6 yX6_calls cX6_calls 1 (some .int) 0 := ⟨mem_BIG 1188 (by decide +kernel) (by decide +kernel), mem_BIG 1189 (by decide +kernel) (by decide +kernel), mem_BIG 44 (by decide +kernel) (by decide +kernel), mem_BIG 1190 (by decide +kernel) (by decide +kernel), by decide +kernel⟩
theorem cal_X6_wasThere : CalV RX6 yX6_wasThere cX6_wasThere 3 (some .boolean) 2 := ⟨mem_BIG 1197 (by decide +kernel) (by decide +kernel), mem_BIG 35 (by decide +kernel) (by decide +kernel), mem_BIG 44 (by decide +kernel) (by decide +kernel), mem_BIG 1198 (by decide +kernel) (by decide +kernel), by decide +kernel⟩
theorem cal_X6_roomAfter : CalV RX6 yX6_roomAfter cX6_roomAfter 3 (some .int) 2 := ⟨mem_BIG 1192 (by decide +kernel) (by decide +kernel), mem_BIG 1193 (by decide +kernel) (by decide +kernel), mem_BIG 44 (by decide +kernel) (by decide +kernel), mem_BIG 1194 (by decide +kernel) (by decide +kernel), by decide +kernel⟩
theorem cal_X6_coinsAfter : CalV RX6 yX6_coinsAfter cX6_coinsAfter 3 (some .int) 2 := ⟨mem_BIG 1200 (by decide +kernel) (by decide +kernel), mem_BIG 1201 (by decide +kernel) (by decide +kernel), mem_BIG 44 (by decide +kernel) (by decide +kernel), mem_BIG 1202 (by decide +kernel) (by decide +kernel), by decide +kernel⟩
theorem cal_X6_turnAfter : CalV RX6 yX6_turnAfter cX6_turnAfter 2 (some .int) 1 := ⟨mem_BIG 1204 (by decide +kernel) (by decide +kernel), mem_BIG 1205 (by decide +kernel) (by decide +kernel), mem_BIG 44 (by decide +kernel) (by decide +kernel), mem_BIG 1206 (by decide +kernel) (by decide +kernel), by decide +kernel⟩
theorem kJ_min : Cond.static Lib.Math.min.name ∈ BIG ∧ Cond.initialized "java/lang/Math" ∈ BIG ∧ Cond.code Lib.Math.min.name Lib.Math.min.code 2 (some .int) ∈ BIG := ⟨mem_BIG 460 (by decide +kernel) (by decide +kernel), mem_BIG 51 (by decide +kernel) (by decide +kernel), mem_BIG 461 (by decide +kernel) (by decide +kernel)⟩
theorem kJ_max : Cond.static Lib.Math.max.name ∈ BIG ∧ Cond.initialized "java/lang/Math" ∈ BIG ∧ Cond.code Lib.Math.max.name Lib.Math.max.code 2 (some .int) ∈ BIG := ⟨mem_BIG 501 (by decide +kernel) (by decide +kernel), mem_BIG 51 (by decide +kernel) (by decide +kernel), mem_BIG 502 (by decide +kernel) (by decide +kernel)⟩
theorem kJ_abs : Cond.static Lib.Math.abs.name ∈ BIG ∧ Cond.initialized "java/lang/Math" ∈ BIG ∧ Cond.code Lib.Math.abs.name Lib.Math.abs.code 1 (some .int) ∈ BIG := ⟨mem_BIG 490 (by decide +kernel) (by decide +kernel), mem_BIG 51 (by decide +kernel) (by decide +kernel), mem_BIG 491 (by decide +kernel) (by decide +kernel)⟩
theorem kJ_X1_53 : Cond.methodLink RX1 53 Lib.Math.min.name ∈ BIG := mem_BIG 459 (by decide +kernel) (by decide +kernel)
theorem kJ_X4_131 : Cond.methodLink RX4 131 Lib.Math.min.name ∈ BIG := mem_BIG 492 (by decide +kernel) (by decide +kernel)
theorem kJ_X4_157 : Cond.methodLink RX4 157 Lib.Math.abs.name ∈ BIG := mem_BIG 489 (by decide +kernel) (by decide +kernel)
theorem kJ_X4_163 : Cond.methodLink RX4 163 Lib.Math.max.name ∈ BIG := mem_BIG 500 (by decide +kernel) (by decide +kernel)
theorem cal_fill : CalS yJ7_fill_53178 cJ7_fill_53178 4 none 2 := ⟨mem_BIG 93 (by decide +kernel) (by decide +kernel), mem_BIG 41 (by decide +kernel) (by decide +kernel), mem_BIG 94 (by decide +kernel) (by decide +kernel), by decide +kernel⟩
end
section
theorem dJ7_fill_53178_0 : decode cJ7_fill_53178 0 = .ok (.iconst 0, 1) := by decide +kernel
theorem dJ7_fill_53178_1 : decode cJ7_fill_53178 1 = .ok (.istore_n 2, 1) := by decide +kernel
theorem dJ7_fill_53178_2 : decode cJ7_fill_53178 2 = .ok (.aload_n 0, 1) := by decide +kernel
theorem dJ7_fill_53178_3 : decode cJ7_fill_53178 3 = .ok (.arraylength, 1) := by decide +kernel
theorem dJ7_fill_53178_4 : decode cJ7_fill_53178 4 = .ok (.istore_n 3, 1) := by decide +kernel
theorem dJ7_fill_53178_5 : decode cJ7_fill_53178 5 = .ok (.iload_n 2, 1) := by decide +kernel
theorem dJ7_fill_53178_6 : decode cJ7_fill_53178 6 = .ok (.iload_n 3, 1) := by decide +kernel
theorem dJ7_fill_53178_7 : decode cJ7_fill_53178 7 = .ok (.if_icmp .ge 13, 3) := by decide +kernel
theorem dJ7_fill_53178_10 : decode cJ7_fill_53178 10 = .ok (.aload_n 0, 1) := by decide +kernel
theorem dJ7_fill_53178_11 : decode cJ7_fill_53178 11 = .ok (.iload_n 2, 1) := by decide +kernel
theorem dJ7_fill_53178_12 : decode cJ7_fill_53178 12 = .ok (.iload_n 1, 1) := by decide +kernel
theorem dJ7_fill_53178_13 : decode cJ7_fill_53178 13 = .ok (.iastore, 1) := by decide +kernel
theorem dJ7_fill_53178_14 : decode cJ7_fill_53178 14 = .ok (.iinc 2 1, 3) := by decide +kernel
theorem dJ7_fill_53178_17 : decode cJ7_fill_53178 17 = .ok (.goto (-12), 3) := by decide +kernel
theorem dJ7_fill_53178_20 : decode cJ7_fill_53178 20 = .ok (.return_, 1) := by decide +kernel
theorem rt1 {α : Type} {a b : α} (h : some a = some b) : a = b := Option.some.inj h
theorem rt2 {α β : Type} {a a' : α} {b b' : β} (h : some (a, b) = some (a', b')) : a = a' ∧ b = b' := by cases h; exact ⟨rfl, rfl⟩
theorem rt3 {α β γ : Type} {a a' : α} {b b' : β} {c c' : γ} (h : some (a, b, c) = some (a', b', c')) : a = a' ∧ b = b' ∧ c = c' := by cases h; exact ⟨rfl, rfl, rfl⟩
/-- a truth value that comes from elsewhere -/
def gz {α : Type} (v : Int32) (a : Option α) : Option α := if v = 0 ∨ v = 1 then a else none
theorem gz_e {α : Type} {v : Int32} {a : Option α} {r : α} (h : gz v a = some r) : (v = 0 ∨ v = 1) ∧ a = some r := by
  unfold gz at h
  by_cases q : v = 0 ∨ v = 1
  · rw [if_pos q] at h; exact ⟨q, h⟩
  · rw [if_neg q] at h; cases h
def bt3 {β : Type} (a : Option (Nat × Int32 × Mem)) (kx : Nat → Mem → Option β) (k : Int32 → Mem → Option β) : Option β := match a with
  | none => none
  | some (0, v, σ) => k v σ
  | some (n + 1, _, σ) => kx (n + 1) σ
theorem bt3_e {β : Type} {a : Option (Nat × Int32 × Mem)} {kx : Nat → Mem → Option β} {k : Int32 → Mem → Option β} {r : β} (h : bt3 a kx k = some r) : (∃ v σ, a = some (0, v, σ) ∧ k v σ = some r) ∨ ∃ n σ, n ≠ 0 ∧ (∃ v, a = some (n, v, σ)) ∧ kx n σ = some r := by
  match a, h with
  | none, h => cases h
  | some (0, v, σ), h => exact Or.inl ⟨v, σ, rfl, h⟩
  | some (n + 1, v, σ), h => exact Or.inr ⟨n + 1, σ, Nat.succ_ne_zero n, ⟨v, rfl⟩, h⟩
theorem ne_ti {x c : Int32} (n : Int) (hc : c.toInt = n) (h : ¬ x = c) : x.toInt ≠ n := fun e => h (Int32.toInt_inj.mp (e.trans hc.symm))
def jrem (x y : Int32) : Int32 := x - x / y * y
def jmin (x y : Int32) : Int32 := if y < x then y else x
def jmax (x y : Int32) : Int32 := if x < y then y else x
def jabs (x : Int32) : Int32 := if 0 ≤ x then x else 0 - x
def fl (σ : Mem) (k n : Nat) (v : Int32) : Mem := fun a => if a = k then (fun i => if i < n then v else σ k i) else σ a
/-- the past within the council's memory; a world's memory put into the council's -/
def sh (σ : Mem) : Mem := fun k => σ (k + 24)
def mgN (σ1 σ : Mem) : Mem := fun k => if k < 24 then σ1 k else σ k
def mgP (σ1 σ : Mem) : Mem := fun k => if 24 ≤ k ∧ k < 48 then σ1 (k - 24) else σ k
theorem mgN_1 (σ1 σ : Mem) : ∀ k : Nat, k < 24 → mgN σ1 σ k = σ1 k := fun k h => if_pos h
theorem mgN_2 (σ1 σ : Mem) : ∀ j : Nat, j < 51 → (∀ k : Nat, k < 24 → k ≠ j) → mgN σ1 σ j = σ j := fun j _ h => if_neg fun q => h j q rfl
theorem mgP_1 (σ1 σ : Mem) : ∀ k : Nat, k < 24 → mgP σ1 σ (k + 24) = σ1 k := fun k h => (if_pos ⟨Nat.le_add_left 24 k, by omega⟩).trans (by rw [Nat.add_sub_cancel])
theorem mgP_2 (σ1 σ : Mem) : ∀ j : Nat, j < 51 → (∀ k : Nat, k < 24 → k + 24 ≠ j) → mgP σ1 σ j = σ j := fun j _ h => if_neg fun q => h (j - 24) (by omega) (by omega)
theorem co_24 {P : Nat → Prop} (h : ∀ k, k < 24 → P k) : ∀ k, k < 24 → P k := h
theorem sub_now {ad : Nat → Nat} {cI : ClassId} : subG 51 ad (EX ad cI) 24 ad (EW ad cI) (fun k => k) := fun k h => ⟨by (try dsimp only); omega, rfl, by
  match k, h with
  | 0, _ => rfl | 1, _ => rfl | 2, _ => rfl | 3, _ => rfl | 4, _ => rfl | 5, _ => rfl | 6, _ => rfl | 7, _ => rfl | 8, _ => rfl | 9, _ => rfl | 10, _ => rfl | 11, _ => rfl
  | 12, _ => rfl | 13, _ => rfl | 14, _ => rfl | 15, _ => rfl | 16, _ => rfl | 17, _ => rfl | 18, _ => rfl | 19, _ => rfl | 20, _ => rfl | 21, _ => rfl | 22, _ => rfl | 23, _ => rfl
  | n + 24, h => exact absurd h (by omega)⟩
theorem sub_past {ad : Nat → Nat} {cI : ClassId} : subG 51 ad (EX ad cI) 24 (fun k => ad (k + 24)) (EW (fun k => ad (k + 24)) cI) (fun k => k + 24) := fun k h => ⟨by (try dsimp only); omega, rfl, by
  match k, h with
  | 0, _ => rfl | 1, _ => rfl | 2, _ => rfl | 3, _ => rfl | 4, _ => rfl | 5, _ => rfl | 6, _ => rfl | 7, _ => rfl | 8, _ => rfl | 9, _ => rfl | 10, _ => rfl | 11, _ => rfl
  | 12, _ => rfl | 13, _ => rfl | 14, _ => rfl | 15, _ => rfl | 16, _ => rfl | 17, _ => rfl | 18, _ => rfl | 19, _ => rfl | 20, _ => rfl | 21, _ => rfl | 22, _ => rfl | 23, _ => rfl
  | n + 24, h => exact absurd h (by omega)⟩
theorem hi_now {ad : Nat → Nat} (hi : injG 51 ad) : injG 24 ad := fun i j h1 h2 e => hi i j (by omega) (by omega) e
theorem hi_past {ad : Nat → Nat} (hi : injG 51 ad) : injG 24 (fun k => ad (k + 24)) := fun i j h1 h2 e => by
  have := hi (i + 24) (j + 24) (by omega) (by omega) e
  omega
theorem wsG_congr {N : Nat} {ad : Nat → Nat} {E : Ent} {σ τ : Mem} (h : ∀ k : Nat, k < N → σ k = τ k) : wsG N ad E σ = wsG N ad E τ := by
  unfold wsG
  exact List.map_congr_left fun k hk => by rw [h k (List.mem_range.mp hk)]
set_option maxHeartbeats 4000000 in
set_option maxRecDepth 100000 in
/-- Arrays.fill(int[], int): each place holds the value then -/
theorem c_fill {l : Launch} {D : va_G} {cI cJ : ClassId} (n : Nat) (hn : n < 2 ^ 31) (a : Nat) (f : Nat → Int32) (v : Int32) : MGv l yJ7_fill_53178 (Cond.code yJ7_fill_53178 cJ7_fill_53178 4 none :: BIG) 0 0 D cI cJ 1 (fun _ => a) (fun _ g => .inl (cI, n, .inl g)) [.ref a, .int v] (fun _ => f) (fun _ => fun i => if i < n then v else f i) := by
  have hi : injG 1 (fun _ : Nat => a) := fun i j h1 h2 _ => by omega
  refine MGv.ofW (cc := cJ7_fill_53178) (nL := 4) (ret := none) (by decide) rfl hi ?_
  intro p e s m args below meth c hx hb hr hml hlocks hown hB hK hP hA hAd hS
  have hl := lv_entry ([.ref a, .int v] : List Value) (n := 4) (Nat.le_of_ble_eq_true rfl)
  rw [lg_entry_eq]
  generalize (lg_sl ([.ref a, .int v] : List Value) ++ List.replicate (4 - (lg_sl ([.ref a, .int v] : List Value)).length) Slot.unset).toArray = ls at hl ⊢
  have hl : lv_has ls 4 [(0, .ref a), (1, .int v)] := hl
  refine lv_iconst (v := 0) hx hb dJ7_fill_53178_0 (by decide) ?_
  refine lv_istore_n (lv' := [(2, .int 0), (0, .ref a), (1, .int v)]) hx hb dJ7_fill_53178_1 rfl hl (by decide) rfl (fun ls hl => ?_)
  refine lv_aload_n hx hb dJ7_fill_53178_2 rfl (lv_at hl 1 rfl) ?_
  refine g_alen (ad := fun _ : Nat => a) hx hb hK hP 0 n (by decide) rfl (v := nI n) rfl dJ7_fill_53178_3 ?_
  refine lv_istore_n (lv' := [(3, .int (nI n)), (2, .int 0), (0, .ref a), (1, .int v)]) hx hb dJ7_fill_53178_4 rfl hl (by decide) rfl (fun ls hl => ?_)
  have loop : ∀ (k i : Nat) (H : Heap) (locs : List Loc) (ls : Array Slot), i + k = n → va_P D vwCl (wsG 1 (fun _ => a) (fun _ g => .inl (cI, n, .inl g)) (fun _ => fun j => if j < i then v else f j)) H → va_S (AG 1 (fun _ => a) s.heap.size) s.heap H locs → lv_has ls 4 [(3, .int (nI n)), (2, .int (nI i)), (0, .ref a), (1, .int v)] → W p l e ({ frames := 0, cells := 0, slots := 0, locals := 0 }) s m args below meth c H locs 0 0 (MQ below (Qgv D 1 (fun _ => a) (fun _ g => .inl (cI, n, .inl g)) (fun _ => fun i => if i < n then v else f i) s.heap.size) args s 0 0 (AG 1 (fun _ => a) s.heap.size)) (F0 m 5 ls []) := by
    intro k
    induction k with
    | zero =>
      intro i H locs ls hin hP hS hl
      have : i = n := by omega
      subst this
      refine lv_iload_n hx hb dJ7_fill_53178_5 rfl (lv_at hl 1 rfl) ?_
      refine lv_iload_n hx hb dJ7_fill_53178_6 rfl (lv_at hl 0 rfl) ?_
      refine lv_icmp_ge (tgt := 20) hx hb dJ7_fill_53178_7 (by decide) (fun q => ?_) (fun q => absurd (nI_le (Nat.le_refl i) hn) q)
      exact g_vret hx hb hr hlocks hP hS rfl dJ7_fill_53178_20
    | succ k ih =>
      intro i H locs ls hin hP hS hl
      refine lv_iload_n hx hb dJ7_fill_53178_5 rfl (lv_at hl 1 rfl) ?_
      refine lv_iload_n hx hb dJ7_fill_53178_6 rfl (lv_at hl 0 rfl) ?_
      refine lv_icmp_ge (tgt := 20) hx hb dJ7_fill_53178_7 (by decide) (fun q => absurd q (nI_ge (by omega) hn)) (fun q => ?_)
      refine lv_aload_n hx hb dJ7_fill_53178_10 rfl (lv_at hl 2 rfl) ?_
      refine lv_iload_n hx hb dJ7_fill_53178_11 rfl (lv_at hl 1 rfl) ?_
      refine lv_iload_n hx hb dJ7_fill_53178_12 rfl (lv_at hl 3 rfl) ?_
      refine g_iast (ad := fun _ : Nat => a) hx hb hK hP hi hAd hS 0 n (by decide) (fun _ => rfl) (vp_in_nI (by omega) hn) dJ7_fill_53178_13 rfl (fun H locs hP hS => ?_)
      refine lv_iinc (v := nI (i + 1)) (lv' := [(2, .int (nI (i + 1))), (3, .int (nI n)), (0, .ref a), (1, .int v)]) hx hb dJ7_fill_53178_14 hl (k := 1) rfl (by rw [← nI_1]; rfl) (by decide) rfl (fun ls hl => ?_)
      refine lv_goto (tgt := 5) hx hb dJ7_fill_53178_17 (by decide) ?_
      refine ih (i + 1) H locs ls (by omega) ?_ hS (lv_sub hl [1, 0, 2, 3] rfl)
      rw [wsG_congr (τ := (fun _ => fun j => if j < i + 1 then v else f j)) (fun k hk => by
        have : k = 0 := by omega
        subst this
        rw [mu_s, nI_clamp (by omega)]
        funext j
        unfold upd
        by_cases q : j = i
        · subst q; rw [if_pos rfl, if_pos (by omega)]
        · rw [if_neg q]
          show (if j < i then v else f j) = _
          by_cases q2 : j < i
          · rw [if_pos q2, if_pos (by omega)]
          · rw [if_neg q2, if_neg (by omega)])] at hP
      exact hP
  refine loop n 0 _ _ ls (by omega) ?_ hS (lv_sub hl [0, 1, 2, 3] rfl)
  rw [wsG_congr (τ := (fun _ => fun j => if j < 0 then v else f j)) (fun k hk => by
    funext j
    rw [if_neg (Nat.not_lt_zero j)])] at hP
  exact hP
section GX
variable {p : Program} {l : Launch} {e : Env} {R : Room} {s : State} {m : MethodId} {args : Array Value} {below : List Frame} {meth : Method} {c : Code} {H : Heap} {locs : List Loc} {cells slots : Nat} {Q : State → Prop}
variable {cc : ByteArray} {pc nL : Nat} {ls : Array Slot} {rest st0 : List Value} {D : va_G} {cI cJ : ClassId} {A : Nat → Prop} {N : Nat} {ad : Nat → Nat} {E : Ent} {σ : Mem}
variable {k0 N' : Nat} {ad' : Nat → Nat} {E' : Ent} {ι : Nat → Nat} {own C : String} {idx : Nat} {y : MethodName} {bytes : ByteArray} {maxL : Nat} {ret : Option FieldType} {n fr lo : Nat} {As : List Value} {b : Nat} {σc σ1 τ : Mem} {r : Int32} {ex : Nat}
theorem g_fill {v : Int32} (G : Gc p s m args c H locs cc nL own D cI cJ A N ad E σ) (k n : Nat) (hk : k < N) (hn : n < 2 ^ 31) (hE : ∀ f, E k f = .inl (cI, n, .inl f)) (hlk : Cond.methodLink own idx yJ7_fill_53178 ∈ BIG) (hRf : fr ≤ R.frames) (hRl : lo ≤ R.locals) (hsize : ls.size = nL) (hW : rest = []) (hdg : decode cc pc = .ok (.invokestatic idx, 3)) (h1 : τ = fl σ k n v)
    (kk : ∀ (H : Heap) (locs : List Loc), va_P D vwCl (wsG N ad E τ) H → va_S A s.heap H locs → W p l e R s m args below meth c H locs cells slots Q (F0 m (pc + 3) ls rest)) (hfr : 1 ≤ fr := by decide) (hlo : 23 ≤ lo := by decide) (hcs : cells ≤ R.cells ∧ slots ≤ R.slots := by exact ⟨Nat.zero_le _, Nat.zero_le _⟩) : W p l e R s m args below meth c H locs cells slots Q (F0 m pc ls (.int v :: .ref (ad k) :: rest)) := by
  subst hW
  subst h1
  refine g_cSv (N' := 1) (ad' := fun _ => ad k) (E' := fun _ g => .inl (cI, n, .inl g)) (ι := fun _ => k) (As := [.ref (ad k), .int v]) (fr := 0) (lo := 0) (σc := fun _ => σ k) (σ1 := fun _ => fun i => if i < n then v else σ k i) G (fun j hj => ⟨hk, rfl, by funext f; exact (hE f).symm⟩) (c_fill n hn (ad k) (σ k) v) (fun _ _ => rfl) cal_fill hlk ⟨Nat.le_trans hfr hRf, Nat.le_trans hlo hRl⟩ rfl hsize (Nat.zero_le _) rfl hdg hcs (fun _ _ => if_pos rfl) (fun j _ h => if_neg fun q => h 0 (Nat.zero_lt_one) q.symm) kk
/-! throwing -/
def nms : List String := ["java/lang/RuntimeException", "java/lang/Exception"]
def ThrT (own : String) (ik ic : Nat) (cls : String) : Prop := Cond.classLink own ik cls ∈ BIG ∧ Cond.initialized cls ∈ BIG ∧ (∀ w ∈ (vx_atS own ic cls nms).filter goodWord, w ∈ BIG) ∧ (∀ w ∈ (vx_atS own ic cls nms).filter (fun w => !goodWord w), w ∈ CAL.map (fun q => Cond.castable q.1 q.2) ++ DCL.map Cond.declares) ∧ (∀ w ∈ Cond.classLink own ik cls :: Cond.initialized cls :: vx_atS own ic cls nms, vx_ot w = true) ∧ Bundle.fit cls = true
theorem ThrT.at {ik ic : Nat} {cls : String} (h : ThrT own ik ic cls) (hB : ∀ w ∈ BIG, w.before args s = true) (hK : KK D cI cJ s) : ∀ w ∈ vx_atS own ic cls nms, w.before args s = true :=
  vx_hat (B := CAL.map (fun q => Cond.castable q.1 q.2) ++ DCL.map Cond.declares) (fun w hw => hB w (h.2.2.1 w hw)) h.2.2.2.1 (fun w hw => by
    rcases List.mem_append.mp hw with hw | hw
    · obtain ⟨q, hq, rfl⟩ := List.mem_map.mp hw
      exact va_Nw.use rfl (hK.2.2.2.1 q hq)
    · obtain ⟨q, hq, rfl⟩ := List.mem_map.mp hw
      exact va_Nw.use rfl (hK.2.2.2.2 q hq))
theorem nms_fit : ∀ n ∈ nms, Bundle.fit n = true := by decide +kernel
abbrev QF : Array Value → State → Outcome → State → Prop := va_Qi (fun (_ : Int32) (_ : Unit) => False) (fun _ _ => True) (fun _ => False)
theorem g_throw {cc : ByteArray} {own text : String} {ik is ic e0 : Nat} {σ' : Mem} {Qc : Array Value → State → Outcome → State → Prop} (hx : p.tables.exec = Jvm.exec) (hb : c.code = cc) (hflag : l.stackTraces = false) (hB : ∀ w ∈ BIG, w.before args s = true) (hown : s.vm.findClass own = some m.cls) (hK : KK D cI cJ s) (hZ : ZZ (AG N ad s.heap.size) s s.heap) (hP : va_P D vwCl (wsG N ad E σ) H) (hS : va_S (AG N ad s.heap.size) s.heap H locs) (hsize : ls.size = c.maxLocals) (hlocks : meth.locks = false) (hout : ∀ x ∈ c.exceptionTable.toList, False) (h0 : e0 = ex) (h2 : σ = σ')
    (ht : ThrT own ik ic (exn e0)) (hstr : (own, is, text) ∈ STL) (d0 : decode cc pc = .ok (.new ik, 3)) (d3 : decode cc (pc + 3) = .ok (.dup, 1)) (d4 : decode cc (pc + 4) = .ok (.ldc is, 2)) (d6 : decode cc (pc + 6) = .ok (.invokespecial ic, 3)) (d9 : decode cc (pc + 9) = .ok (.athrow, 1))
    (hRf : fr ≤ R.frames) (hRl : lo ≤ R.locals) (hc : 1 ≤ R.cells ∧ 6 ≤ R.slots) (hW : (rest.map fun v => v.category).sum ≤ 8) (hfr : 6 ≤ fr := by decide) (hlo : 90 ≤ lo := by decide) : W p l e R s m args below meth c H locs 0 0 (vx_MQ below Qc (XCg D N ad E ex σ' s.heap.size) args s 1 6 (AG N ad s.heap.size)) (F0 m pc ls rest) := by
  subst h0
  subst h2
  obtain ⟨sa, hstr⟩ := hK.2.2.1 _ hstr
  refine vx_throwS (names := nms) (A := AG N ad s.heap.size) hx hb hflag hown ht.2.2.2.2.2 nms_fit (hB _ ht.1) (hB _ ht.2.1) hstr (ht.at hB hK) ht.2.2.2.2.1 hZ.1 hZ.2 hS hsize d0 d3 d4 d6 d9 (fun x hx => (hout x hx).elim) (by show 2 + 3 < R.frames; omega) (by show _ + (13 * (2 + 1) + 43) ≤ R.locals; omega) hc.1 hc.2 hlocks (fun t hvm hz hk => ?_) hS.2.2 (Nat.le_refl _) (Nat.le_refl _)
  refine ⟨(), trivial, ⟨rfl, hP.kept fun k q hq => hk _ (hP k q hq).lt⟩, ⟨Nat.le_trans hS.1 hz, fun q h1 h2 => ?_⟩⟩
  rw [hk q (Nat.lt_of_lt_of_le h1 hS.1)]
  exact hS.2.1 q h1 h2
theorem g_throwW {cc : ByteArray} {own text : String} {ik is ic e0 : Nat} {σ' : Mem} {Qc : Array Value → State → Outcome → State → Prop} (hx : p.tables.exec = Jvm.exec) (hb : c.code = cc) (hflag : l.stackTraces = false) (hB : ∀ w ∈ BIG, w.before args s = true) (hown : s.vm.findClass own = some m.cls) (hK : KK D cI cJ s) (hZ : ZZ (AG N ad s.heap.size) s s.heap) (hP : va_P D vwCl (wsG N ad E σ) H) (hS : va_S (AG N ad s.heap.size) s.heap H locs) (hsize : ls.size = c.maxLocals) (hlocks : meth.locks = false) (hout : ∀ x ∈ c.exceptionTable.toList, False) (h0 : e0 = ex) (h2 : σ = σ')
    (ht : ThrT own ik ic (exn e0)) (hstr : (own, is, text) ∈ STL) (d0 : decode cc pc = .ok (.new ik, 3)) (d3 : decode cc (pc + 3) = .ok (.dup, 1)) (d4 : decode cc (pc + 4) = .ok (.ldc_w is, 3)) (d6 : decode cc (pc + 7) = .ok (.invokespecial ic, 3)) (d9 : decode cc (pc + 10) = .ok (.athrow, 1))
    (hRf : fr ≤ R.frames) (hRl : lo ≤ R.locals) (hc : 1 ≤ R.cells ∧ 6 ≤ R.slots) (hW : (rest.map fun v => v.category).sum ≤ 8) (hfr : 6 ≤ fr := by decide) (hlo : 90 ≤ lo := by decide) : W p l e R s m args below meth c H locs 0 0 (vx_MQ below Qc (XCg D N ad E ex σ' s.heap.size) args s 1 6 (AG N ad s.heap.size)) (F0 m pc ls rest) := by
  subst h0
  subst h2
  obtain ⟨sa, hstr⟩ := hK.2.2.1 _ hstr
  refine vx_throwSW (names := nms) (A := AG N ad s.heap.size) hx hb hflag hown ht.2.2.2.2.2 nms_fit (hB _ ht.1) (hB _ ht.2.1) hstr (ht.at hB hK) ht.2.2.2.2.1 hZ.1 hZ.2 hS hsize d0 d3 d4 d6 d9 (fun x hx => (hout x hx).elim) (by show 2 + 3 < R.frames; omega) (by show _ + (13 * (2 + 1) + 43) ≤ R.locals; omega) hc.1 hc.2 hlocks (fun t hvm hz hk => ?_) hS.2.2 (Nat.le_refl _) (Nat.le_refl _)
  refine ⟨(), trivial, ⟨rfl, hP.kept fun k q hq => hk _ (hP k q hq).lt⟩, ⟨Nat.le_trans hS.1 hz, fun q h1 h2 => ?_⟩⟩
  rw [hk q (Nat.lt_of_lt_of_le h1 hS.1)]
  exact hS.2.1 q h1 h2
/-- what a callee has thrown goes on to the caller -/
theorem g_xout {ex9 q : Nat} {ce : Cell} {σ' : Mem} {Qc : Array Value → State → Outcome → State → Prop} (hout : ∀ x ∈ c.exceptionTable.toList, False) (hlocks : meth.locks = false) (hc1 : H[q]? = some ce) (hc2 : ce.vm = .none) (hc3 : s.vm.findClass (exn ex9) = some ce.cls) (h0 : ex9 = ex) (h2 : σ = σ') (hP : va_P D vwCl (wsG N ad E σ) H) (hS : va_S (AG N ad s.heap.size) s.heap H locs) : vx_W p l e R s m args below meth c H locs 1 6 (vx_MQ below Qc (XCg D N ad E ex σ' s.heap.size) args s 1 6 (AG N ad s.heap.size)) (F0 m pc ls rest) q := by
  subst h0
  subst h2
  exact vx_out (fun x hx => (hout x hx).elim) hlocks hc1 hc2 hc3 (fun t ht hvm => ⟨(), trivial, ⟨rfl, by rw [ht]; exact hP⟩, hS.F ht⟩) hS.2.2 (Nat.le_refl _) (Nat.le_refl _)
theorem MGx.ofW {ws : List Cond} {as : List Value} {σ' : Mem} {Qc : Nat → Array Value → State → Outcome → State → Prop} (hy : plainName y.cls = true) (hw : ws = Cond.code y cc nL ret :: BIG) (hi : injG N ad)
    (body : ∀ p e (R : Room) s m args below meth c (Q : State → Prop), p.tables.exec = Jvm.exec → c.code = cc → meth.sig.returnType = ret → c.maxLocals = nL → meth.locks = false → s.vm.findClass y.cls = some m.cls → (∀ w ∈ BIG, w.before args s = true) → KK D cI cJ s → ZZ (AG N ad s.heap.size) s s.heap → va_P D vwCl (wsG N ad E σ) s.heap → (∀ q : Nat, s.heap.size ≤ q → AG N ad s.heap.size q) → (∀ k : Nat, k < N → AG N ad s.heap.size (ad k)) → va_S (AG N ad s.heap.size) s.heap s.heap [] →
      fr ≤ R.frames → lo ≤ R.locals → (¬ ex = 0 → 1 ≤ R.cells ∧ 6 ≤ R.slots) → (¬ ex = 0 → ∀ x ∈ c.exceptionTable.toList, False) →
      (ex = 0 → Q = MQ below (Qc s.heap.size) args s 0 0 (AG N ad s.heap.size)) → (¬ ex = 0 → Q = vx_MQ below (va_Qi (fun (_ : Int32) (_ : Unit) => False) (fun _ _ => True) (AG N ad s.heap.size)) (XCg D N ad E ex σ' s.heap.size) args s 1 6 (AG N ad s.heap.size)) →
      W p l e R s m args below meth c s.heap [] 0 0 Q (entryFrame m as.toArray nL)) : MGx l y ws fr lo D cI cJ N ad E as σ σ' ex Qc := by
  subst hw
  refine ⟨fun h0 sz => ?_, fun h0 sz => ?_⟩
  · refine Met.ofW (cc := cc) (maxL := nL) (ret := ret) hy rfl ?_
    intro p e s m args below meth c s₁ B hml hv
    obtain ⟨rfl, ⟨hsz, hP, hK⟩, hZ⟩ := hv
    subst hsz
    exact body p e _ s m _ below meth c _ B.exec B.bytes B.returns hml B.notSynchronized (findClass_of_methodNamed B.named) (bigH (atoms_spec (ws := Cond.code y cc nL ret :: BIG) B.pre)) hK hZ hP (fun q h => Or.inr h) (fun k h => Or.inl ⟨k, h, rfl⟩) va_S.rf (Nat.le_refl _) (Nat.le_refl _) (fun h => absurd h0 h) (fun h => absurd h0 h) (fun _ => rfl) (fun h => absurd h0 h)
  · refine vx_ofW (cc := cc) (maxL := nL) (ret := ret) hy rfl ?_
    intro p e s m args below meth c s₁ B hml hout hv
    obtain ⟨rfl, ⟨hsz, hP, hK⟩, hZ⟩ := hv
    subst hsz
    exact body p e _ s m _ below meth c _ B.exec B.bytes B.returns hml B.notSynchronized (findClass_of_methodNamed B.named) (bigH (atoms_spec (ws := Cond.code y cc nL ret :: BIG) B.pre)) hK hZ hP (fun q h => Or.inr h) (fun k h => Or.inl ⟨k, h, rfl⟩) va_S.rf (Nat.le_refl _) (Nat.le_refl _) (fun _ => ⟨Nat.le_refl _, Nat.le_refl _⟩) (fun _ => hout) (fun h => absurd h h0) (fun _ => rfl)
end GX

set_option maxRecDepth 100000 in
theorem tt_X5_33_37 : ThrT RX5 33 37 "java/lang/IllegalArgumentException" := ⟨mem_BIG 355 (by decide +kernel) (by decide +kernel), mem_BIG 49 (by decide +kernel) (by decide +kernel), by decide +kernel, by decide +kernel, by decide +kernel, by decide +kernel⟩
set_option maxRecDepth 100000 in
theorem tt_X5_54_58 : ThrT RX5 54 58 "java/lang/IllegalStateException" := ⟨mem_BIG 378 (by decide +kernel) (by decide +kernel), mem_BIG 50 (by decide +kernel) (by decide +kernel), by decide +kernel, by decide +kernel, by decide +kernel, by decide +kernel⟩
set_option maxRecDepth 100000 in
theorem tt_X5_185_189 : ThrT RX5 185 189 "java/lang/IndexOutOfBoundsException" := ⟨mem_BIG 283 (by decide +kernel) (by decide +kernel), mem_BIG 48 (by decide +kernel) (by decide +kernel), by decide +kernel, by decide +kernel, by decide +kernel, by decide +kernel⟩
end
