/-! WHAT A METHOD NEEDS OF THE TABLES, beside the words of BIG: the classes, the nest mates' calls, the texts of exceptions -/
def NWL : List (String × Nat × MethodName × String) := [("MudCouncil", 9, ⟨"MudCouncil$Log", "<init>", "()V"⟩, "MudCouncil"), ("MudCouncil", 18, ⟨"MudCouncil$World", "<init>", "()V"⟩, "MudCouncil"), ("MudCouncil$World", 20, ⟨"MudCouncil$People", "<init>", "()V"⟩, "MudCouncil"), ("MudCouncil$World", 27, ⟨"MudCouncil$Quests", "<init>", "()V"⟩, "MudCouncil"), ("MudCouncil$Places", 39, ⟨"MudCouncil", "opposite", "(I)I"⟩, "MudCouncil"), ("MudCouncil$Places", 51, ⟨"MudCouncil", "goodsAt", "(II)I"⟩, "MudCouncil"), ("MudCouncil$Quests", 31, ⟨"MudCouncil", "stageAt", "(II)I"⟩, "MudCouncil"), ("MudCouncil$People", 49, ⟨"MudCouncil", "goodsAt", "(II)I"⟩, "MudCouncil"), ("MudCouncil$World", 115, ⟨"MudCouncil", "goodsAt", "(II)I"⟩, "MudCouncil"), ("MudCouncil$World", 167, ⟨"MudCouncil", "reachedAt", "(II)I"⟩, "MudCouncil"), ("MudCouncil$World", 176, ⟨"MudCouncil", "stageAt", "(II)I"⟩, "MudCouncil"), ("MudCouncil$People", 58, ⟨"MudCouncil", "reachedAt", "(II)I"⟩, "MudCouncil")]
def STL : List (String × Nat × String) := [("MudCouncil", 245, "there is no such player"), ("MudCouncil", 239, "there is no such room"), ("MudCouncil", 241, "there is no such direction"), ("MudCouncil", 35, "both rooms are the same"), ("MudCouncil", 56, "one of both exits is there already"), ("MudCouncil", 243, "there is no such kind"), ("MudCouncil", 249, "an argument is out of its range"), ("MudCouncil", 76, "the room has no shop"), ("MudCouncil", 71, "the room has a shop"), ("MudCouncil", 88, "all players have joined"), ("MudCouncil", 97, "there are all quests already"), ("MudCouncil", 247, "there is no such quest"), ("MudCouncil", 113, "the quest has all its stages"), ("MudCouncil", 118, "some player has reached one of its stages"), ("MudCouncil", 251, "there are no players"), ("MudCouncil", 128, "there is no exit"), ("MudCouncil", 136, "none of that kind lies there"), ("MudCouncil", 255, "the actor has none of that kind"), ("MudCouncil", 253, "the player is the actor or in another room"), ("MudCouncil", 259, "there are not so many coins"), ("MudCouncil", 257, "that kind is not traded here"), ("MudCouncil", 159, "none of that kind is in stock"), ("MudCouncil", 187, "not so many words are kept"), ("MudCouncil", 231, "there were not so many calls")]
def CAL : List (String × String) := [("java/lang/IndexOutOfBoundsException", "java/lang/IndexOutOfBoundsException"), ("java/lang/IllegalArgumentException", "java/lang/IllegalArgumentException"), ("java/lang/IllegalStateException", "java/lang/IllegalStateException")]
def DCL : List MethodName := [⟨"java/lang/RuntimeException", "<init>", "()V"⟩, ⟨"java/lang/RuntimeException", "<init>", "(Ljava/lang/String;)V"⟩, ⟨"java/lang/Exception", "<init>", "()V"⟩, ⟨"java/lang/Exception", "<init>", "(Ljava/lang/String;)V"⟩, ⟨"java/lang/Throwable", "<init>", "()V"⟩, ⟨"java/lang/Throwable", "<init>", "(Ljava/lang/String;)V"⟩]
def KK (D : va_G) (cI cJ : ClassId) (U : State) : Prop := va_K D vwCl [(cI, .int), (cJ, .long)] U ∧ (∀ q ∈ NWL, va_Nw (.methodLinkNest q.1 q.2.1 q.2.2.1 q.2.2.2) U) ∧ (∀ q ∈ STL, ∃ a : Nat, vk_R q.1 q.2.1 q.2.2 a U) ∧ (∀ q ∈ CAL, va_Nw (.castable q.1 q.2) U) ∧ ∀ x ∈ DCL, va_Nw (.declares x) U
theorem KK.warm {D : va_G} {cI cJ : ClassId} {s U : State} (hW : s.WarmedH U.vm) (h : KK D cI cJ s) : KK D cI cJ U :=
  ⟨va_K.moved hW.alike h.1, fun q hq => va_Nw.warmM hW (h.2.1 q hq), fun q hq => by
    obtain ⟨a, ha⟩ := h.2.2.1 q hq
    exact ⟨a, vk_R.warm hW ha⟩, fun q hq => va_Nw.warmC hW (h.2.2.2.1 q hq), fun q hq => va_Nw.warmD hW (h.2.2.2.2 q hq)⟩
theorem KK.same {D : va_G} {cI cJ : ClassId} {s U : State} (hv : U.vm = s.vm) (h : KK D cI cJ s) : KK D cI cJ U :=
  ⟨va_K.moved (by rw [hv]; exact Vm.Alike.refl _) h.1, fun q hq => va_Nw.same rfl hv.symm (h.2.1 q hq), fun q hq => by
    obtain ⟨a, ha⟩ := h.2.2.1 q hq
    exact ⟨a, vk_R.same hv ha⟩, fun q hq => va_Nw.same rfl hv.symm (h.2.2.2.1 q hq), fun q hq => va_Nw.same rfl hv.symm (h.2.2.2.2 q hq)⟩
/-- a method's start: its group holds σ -/
def PreG (D : va_G) (cI cJ : ClassId) (N : Nat) (ad : Nat → Nat) (E : Ent) (σ : Mem) (sz : Nat) (U : State) : Prop := U.heap.size = sz ∧ va_P D vwCl (wsG N ad E σ) U.heap ∧ KK D cI cJ U
/-- the two statics that an exception's own constructor reads -/
def ZZ (A : Nat → Prop) (U : State) (H : Heap) : Prop := vx_Zq Bundle.tN "UNASSIGNED_STACK" Bundle.steD A U H ∧ vx_Zq Bundle.tN "SUPPRESSED_SENTINEL" Bundle.listD A U H
def PreX (D : va_G) (cI cJ : ClassId) (N : Nat) (ad : Nat → Nat) (E : Ent) (σ : Mem) (sz : Nat) (U : State) : Prop := PreG D cI cJ N ad E σ sz U ∧ ZZ (AG N ad sz) U U.heap
theorem blindG {as : List Value} {D : va_G} {cI cJ : ClassId} {N : Nat} {ad : Nat → Nat} {E : Ent} {σ : Mem} {sz : Nat} : FrameBlind (va_Pc as (PreG D cI cJ N ad E σ sz)) := fun _ _ _ _ h => ⟨h.1, h.2.1, h.2.2.1, KK.same rfl h.2.2.2⟩
theorem ZZ.moved {A : Nat → Prop} {u U : State} {H : Heap} (hvm : u.vm.Alike U.vm) (h : ZZ A u H) : ZZ A U H := ⟨vx_Zq.moved hvm h.1, vx_Zq.moved hvm h.2⟩
theorem ZZ.kept {A : Nat → Prop} {U : State} {H H1 : Heap} (h : ZZ A U H) (hq : ∀ a : Nat, a < H.size → ¬ A a → H1[a]? = H[a]?) : ZZ A U H1 := ⟨vx_Zq.kept h.1 hq, vx_Zq.kept h.2 hq⟩
theorem ZZ.narrow {A B : Nat → Prop} {U : State} {H : Heap} (h : ZZ A U H) (hAB : ∀ q, B q → A q) : ZZ B U H := ⟨vx_Zq.narrow h.1 hAB, vx_Zq.narrow h.2 hAB⟩
theorem blindX {as : List Value} {D : va_G} {cI cJ : ClassId} {N : Nat} {ad : Nat → Nat} {E : Ent} {σ : Mem} {sz : Nat} : FrameBlind (va_Pc as (PreX D cI cJ N ad E σ sz)) := fun _ _ _ _ h => ⟨h.1, ⟨h.2.1.1, h.2.1.2.1, KK.same rfl h.2.1.2.2⟩, ZZ.moved (Vm.Alike.refl _) h.2.2⟩
abbrev Qgi (D : va_G) (N : Nat) (ad : Nat → Nat) (E : Ent) (r : Int32) (σ' : Mem) (sz : Nat) : Array Value → State → Outcome → State → Prop := va_Qi (fun r2 (_ : Unit) => r2 = r) (fun _ t => va_P D vwCl (wsG N ad E σ') t.heap) (AG N ad sz)
abbrev Qgv (D : va_G) (N : Nat) (ad : Nat → Nat) (E : Ent) (σ' : Mem) (sz : Nat) : Array Value → State → Outcome → State → Prop := va_Qv (fun (_ : Unit) => True) (fun _ t => va_P D vwCl (wsG N ad E σ') t.heap) (AG N ad sz)
abbrev Qgr (D : va_G) (N : Nat) (ad : Nat → Nat) (E : Ent) (a0 : Nat) (σ' : Mem) (sz : Nat) : Array Value → State → Outcome → State → Prop := va_Qr (fun (_ : Unit) => True) (fun _ a t => a = a0 ∧ va_P D vwCl (wsG N ad E σ') t.heap) (AG N ad sz)
/-- contracts: an int, nothing, a reference; mc, ms: the room of cells -/
def MGi (l : Launch) (y : MethodName) (ws : List Cond) (fr lo : Nat) (D : va_G) (cI cJ : ClassId) (N : Nat) (ad : Nat → Nat) (E : Ent) (as : List Value) (σ σ' : Mem) (r : Int32) : Prop :=
  ∀ sz : Nat, Met l y ws ({ frames := fr, cells := 0, slots := 0, locals := lo }) (va_Pc as (PreG D cI cJ N ad E σ sz)) (Qgi D N ad E r σ' sz) 0 0 (AG N ad sz)
def MGv (l : Launch) (y : MethodName) (ws : List Cond) (fr lo : Nat) (D : va_G) (cI cJ : ClassId) (N : Nat) (ad : Nat → Nat) (E : Ent) (as : List Value) (σ σ' : Mem) : Prop :=
  ∀ sz : Nat, Met l y ws ({ frames := fr, cells := 0, slots := 0, locals := lo }) (va_Pc as (PreG D cI cJ N ad E σ sz)) (Qgv D N ad E σ' sz) 0 0 (AG N ad sz)
def exn : Nat → String | 1 => "java/lang/IndexOutOfBoundsException" | 2 => "java/lang/IllegalArgumentException" | _ => "java/lang/IllegalStateException"
abbrev XCg (D : va_G) (N : Nat) (ad : Nat → Nat) (E : Ent) (e : Nat) (σ' : Mem) (sz : Nat) : String → State → State → Prop := vx_X (fun (_ : Unit) => True) (fun En _ t => En = exn e ∧ va_P D vwCl (wsG N ad E σ') t.heap) (AG N ad sz)
/-- a method that throws: with the number of the exception (0: none); its ends by Qc -/
def MGx (l : Launch) (y : MethodName) (ws : List Cond) (fr lo : Nat) (D : va_G) (cI cJ : ClassId) (N : Nat) (ad : Nat → Nat) (E : Ent) (as : List Value) (σ σ' : Mem) (e : Nat) (Qc : Nat → Array Value → State → Outcome → State → Prop) : Prop :=
  (e = 0 → ∀ sz : Nat, Met l y ws ({ frames := fr, cells := 0, slots := 0, locals := lo }) (va_Pc as (PreX D cI cJ N ad E σ sz)) (Qc sz) 0 0 (AG N ad sz)) ∧
  (e ≠ 0 → ∀ sz : Nat, vx_Met l y ws ({ frames := fr, cells := 1, slots := 6, locals := lo }) (va_Pc as (PreX D cI cJ N ad E σ sz)) (va_Qi (fun (_ : Int32) (_ : Unit) => False) (fun _ _ => True) (AG N ad sz)) (XCg D N ad E e σ' sz) 1 6 (AG N ad sz))
def CalV (C : String) (y : MethodName) (bytes : ByteArray) (maxL : Nat) (ret : Option FieldType) (n : Nat) : Prop := Cond.instanceMethod y ∈ BIG ∧ Cond.selects C y y ∈ BIG ∧ Cond.initialized C ∈ BIG ∧ Cond.code y bytes maxL ret ∈ BIG ∧ (y.cls = C ∧ y.cls ≠ "java/lang/invoke/MethodHandle" ∧ y.cls ≠ "java/lang/invoke/VarHandle" ∧ (parseMethodDescriptor y.desc).map (fun d => d.parameters.length) = some n)
def CalS (y : MethodName) (bytes : ByteArray) (maxL : Nat) (ret : Option FieldType) (n : Nat) : Prop := Cond.static y ∈ BIG ∧ Cond.initialized y.cls ∈ BIG ∧ Cond.code y bytes maxL ret ∈ BIG ∧ (y.cls ≠ "java/lang/invoke/MethodHandle" ∧ y.cls ≠ "java/lang/invoke/VarHandle" ∧ (parseMethodDescriptor y.desc).map (fun d => d.parameters.length) = some n)
theorem CalV.good {own C : String} {idx : Nat} {y : MethodName} {bytes : ByteArray} {maxL : Nat} {ret : Option FieldType} {n : Nat} (h : CalV C y bytes maxL ret n) (hl : Cond.methodLink own idx y ∈ BIG) : GoodIn BIG (wsV own idx C y (Cond.code y bytes maxL ret :: BIG)) := bigG fun w hw => by
  obtain ⟨h1, h2, h3, h4, -⟩ := h
  rcases List.mem_append.mp hw with hw | hw
  · simp only [List.mem_cons, List.not_mem_nil, or_false] at hw
    rcases hw with rfl | rfl | rfl | rfl <;> assumption
  · rcases List.mem_cons.mp hw with rfl | hw
    · exact h4
    · exact hw
theorem CalS.good {own : String} {idx : Nat} {y : MethodName} {bytes : ByteArray} {maxL : Nat} {ret : Option FieldType} {n : Nat} (h : CalS y bytes maxL ret n) (hl : Cond.methodLink own idx y ∈ BIG) : GoodIn BIG (va_wsS own idx y (Cond.code y bytes maxL ret :: BIG)) := bigG fun w hw => by
  obtain ⟨h1, h2, h3, -⟩ := h
  rcases List.mem_append.mp hw with hw | hw
  · simp only [List.mem_cons, List.not_mem_nil, or_false] at hw
    rcases hw with rfl | rfl | rfl <;> assumption
  · rcases List.mem_cons.mp hw with rfl | hw
    · exact h3
    · exact hw
theorem CalS.goodN {y : MethodName} {bytes : ByteArray} {maxL : Nat} {ret : Option FieldType} {n : Nat} (h : CalS y bytes maxL ret n) : GoodIn BIG (Cond.code y bytes maxL ret :: BIG) := bigG fun w hw => by
  rcases List.mem_cons.mp hw with rfl | hw
  · exact h.2.2.1
  · exact hw
section GROWS
variable {p : Program} {l : Launch} {e : Env} {R : Room} {s : State} {m : MethodId} {args : Array Value} {below : List Frame} {meth : Method} {c : Code} {H : Heap} {locs : List Loc} {cells slots : Nat} {Q : State → Prop}
variable {cc : ByteArray} {pc nL : Nat} {ls : Array Slot} {rest st0 : List Value} {D : va_G} {cI cJ : ClassId} {A : Nat → Prop} {N : Nat} {ad : Nat → Nat} {E : Ent} {σ : Mem}
theorem g_iald (hx : p.tables.exec = Jvm.exec) (hb : c.code = cc) (hK : KK D cI cJ s) (hP : va_P D vwCl (wsG N ad E σ) H) (k n : Nat) (hk : k < N) (hE : E k (σ k) = .inl (cI, n, .inl (σ k))) {i : Int32} (hin : vp_in i n) (hdg : decode cc pc = .ok (.iaload, 1))
    (kk : W p l e R s m args below meth c H locs cells slots Q (F0 m (pc + 1) ls (.int (σ k i.toNatClampNeg) :: rest))) : W p l e R s m args below meth c H locs cells slots Q (F0 m pc ls (.int i :: .ref (ad k) :: rest)) :=
  va_iald hx hb hK.1 hP k 0 ((wsG_get hk).trans (by rw [hE])) rfl hin hdg kk
theorem g_iast (hx : p.tables.exec = Jvm.exec) (hb : c.code = cc) (hK : KK D cI cJ s) (hP : va_P D vwCl (wsG N ad E σ) H) (hi : injG N ad) (hAd : ∀ k : Nat, k < N → A (ad k)) (hS : va_S A s.heap H locs) (k n : Nat) (hk : k < N) (hE : ∀ f, E k f = .inl (cI, n, .inl f)) {i x : Int32} (hin : vp_in i n) (hdg : decode cc pc = .ok (.iastore, 1)) {σ1 : Mem} (h1 : σ1 = mu σ k i.toNatClampNeg x)
    (kk : ∀ (H : Heap) (locs : List Loc), va_P D vwCl (wsG N ad E σ1) H → va_S A s.heap H locs → W p l e R s m args below meth c H locs cells slots Q (F0 m (pc + 1) ls rest)) : W p l e R s m args below meth c H locs cells slots Q (F0 m pc ls (.int x :: .int i :: .ref (ad k) :: rest)) := by
  subst h1
  refine va_iast hx hb hK.1 hP (wsG_D hi hAd) hS k 0 ((wsG_get hk).trans (by rw [hE])) rfl hin hdg fun H1 locs1 hP1 _ hS1 => kk H1 locs1 ?_ hS1
  rw [wsG_set hk (hE _).symm] at hP1
  exact hP1
theorem g_alen (hx : p.tables.exec = Jvm.exec) (hb : c.code = cc) (hK : KK D cI cJ s) (hP : va_P D vwCl (wsG N ad E σ) H) (k n : Nat) (hk : k < N) (hE : E k (σ k) = .inl (cI, n, .inl (σ k))) {v : Int32} (hv : Int32.ofNat n = v) (hdg : decode cc pc = .ok (.arraylength, 1))
    (kk : W p l e R s m args below meth c H locs cells slots Q (F0 m (pc + 1) ls (.int v :: rest))) : W p l e R s m args below meth c H locs cells slots Q (F0 m pc ls (.ref (ad k) :: rest)) :=
  va_alen hx hb hK.1 hP k 0 ((wsG_get hk).trans (by rw [hE])) (ty := .int) rfl hv hdg kk
theorem g_get (hx : p.tables.exec = Jvm.exec) (hb : c.code = cc) (hB : ∀ w ∈ BIG, w.before args s = true) {own C : String} (hown : s.vm.findClass own = some m.cls) (hK : KK D cI cJ s) (hP : va_P D vwCl (wsG N ad E σ) H) (k : Nat) (hk : k < N) {ci : Nat} {fs : List Value} (hE : E k (σ k) = .inr (ci, fs)) {T : u_T} {NF : Nat} (hc : vwCl[ci]? = some (C, T, NF)) (hin : ∀ w ∈ u_ws C T NF, w ∈ BIG) (j : Nat) (hj : j < NF) {index : Nat} {ref nm ds : String} (hlk : Cond.fieldLink own index ref nm ds ∈ BIG) (hT : T j = (ref, nm, ds, (T j).2.2.2)) {v : Value} (hv : fs[j]? = some v) (hdg : decode cc pc = .ok (.getfield index, 3))
    (kk : W p l e R s m args below meth c H locs cells slots Q (F0 m (pc + 3) ls (v :: rest))) : W p l e R s m args below meth c H locs cells slots Q (F0 m pc ls (.ref (ad k) :: rest)) :=
  va_get (ref := ref) hx hb hB hin hown hK.1 hP k ((wsG_get hk).trans (by rw [hE])) hc j hj (by rw [hT]; exact hB _ hlk) (fun x hx => by rw [hT] at hx ⊢; exact hx) hv hdg kk
theorem g_put (hx : p.tables.exec = Jvm.exec) (hb : c.code = cc) (hB : ∀ w ∈ BIG, w.before args s = true) {own C : String} (hown : s.vm.findClass own = some m.cls) (hK : KK D cI cJ s) (hP : va_P D vwCl (wsG N ad E σ) H) (hi : injG N ad) (hAd : ∀ k : Nat, k < N → A (ad k)) (hS : va_S A s.heap H locs) (k : Nat) (hk : k < N) {ci : Nat} (fs : (Nat → Int32) → List Value) (hE : ∀ f, E k f = .inr (ci, fs f)) {T : u_T} {NF : Nat} (hc : vwCl[ci]? = some (C, T, NF)) (hin : ∀ w ∈ u_ws C T NF, w ∈ BIG) (ty0 : Nat → FieldType) (hty : ∀ k, k < NF → parseFieldDescriptor (T k).2.2.1 = some (ty0 k)) (hnm : ∀ a, a < NF → ∀ b, b < NF → a ≠ b → (T a).2.1 ≠ (T b).2.1) (j : Nat) (hj : j < NF) {index : Nat} {ref nm : String} (hlk : Cond.fieldLink own index ref nm "I" ∈ BIG) (hT : T j = (ref, nm, "I", false)) (hset : ∀ f (v : Int32), (fs f).set j (.int v) = fs (upd f j v)) (hl : ∀ f, j < (fs f).length) {x : Int32} (hdg : decode cc pc = .ok (.putfield index, 3)) {σ1 : Mem} (h1 : σ1 = mu σ k j x)
    (kk : ∀ (H : Heap) (locs : List Loc), va_P D vwCl (wsG N ad E σ1) H → va_S A s.heap H locs → W p l e R s m args below meth c H locs cells slots Q (F0 m (pc + 3) ls rest)) : W p l e R s m args below meth c H locs cells slots Q (F0 m pc ls (.int x :: .ref (ad k) :: rest)) := by
  subst h1
  refine va_put (ref := ref) (ty := .int) hx hb hB hin ty0 hty hnm hown hK.1 hP (wsG_D hi hAd) hS k ((wsG_get hk).trans (by rw [hE])) hc j hj (by rw [hT]; exact hB _ hlk) (fun x hx => by rw [hT] at hx ⊢; exact hx) (by rw [hT]) (by rw [hT]; exact (by decide +kernel : parseFieldDescriptor "I" = some FieldType.int)) rfl rfl (hl _) hdg fun H1 locs1 hP1 _ hS1 => kk H1 locs1 ?_ hS1
  rw [wsG_set hk (by rw [hE, hset])] at hP1
  exact hP1
/-! the ends -/
theorem g_iret (hx : p.tables.exec = Jvm.exec) (hb : c.code = cc) (hr : meth.sig.returnType = some .int) (hlocks : meth.locks = false) (hP : va_P D vwCl (wsG N ad E σ) H) (hS : va_S (AG N ad s.heap.size) s.heap H locs) {r v : Int32} {σ' : Mem} (h1 : v = r) (h2 : σ = σ') (hdg : decode cc pc = .ok (.ireturn, 1)) :
    W p l e R s m args below meth c H locs 0 0 (MQ below (Qgi D N ad E r σ' s.heap.size) args s 0 0 (AG N ad s.heap.size)) (F0 m pc ls [.int v]) := by
  subst h1; subst h2
  exact W.iret hx hb hr (fun t ht _ => ⟨⟨v, (), rfl, rfl, by show va_P D vwCl _ t.heap; rw [ht]; exact hP⟩, hS.F ht⟩) hS.2.2 hdg
theorem g_zret (hx : p.tables.exec = Jvm.exec) (hb : c.code = cc) (hr : meth.sig.returnType = some .boolean) (hlocks : meth.locks = false) (hP : va_P D vwCl (wsG N ad E σ) H) (hS : va_S (AG N ad s.heap.size) s.heap H locs) {r v : Int32} {σ' : Mem} (h0 : v = 0 ∨ v = 1) (h1 : v = r) (h2 : σ = σ') (hdg : decode cc pc = .ok (.ireturn, 1)) :
    W p l e R s m args below meth c H locs 0 0 (MQ below (Qgi D N ad E r σ' s.heap.size) args s 0 0 (AG N ad s.heap.size)) (F0 m pc ls [.int v]) := by
  subst h1; subst h2
  exact W.zret hx hb hr (by rcases h0 with rfl | rfl <;> rfl) (fun t ht _ => ⟨⟨v, (), rfl, rfl, by show va_P D vwCl _ t.heap; rw [ht]; exact hP⟩, hS.F ht⟩) hS.2.2 hdg
theorem g_vret (hx : p.tables.exec = Jvm.exec) (hb : c.code = cc) (hr : meth.sig.returnType = none) (hlocks : meth.locks = false) (hP : va_P D vwCl (wsG N ad E σ) H) (hS : va_S (AG N ad s.heap.size) s.heap H locs) {σ' : Mem} (h2 : σ = σ') (hdg : decode cc pc = .ok (.return_, 1)) :
    W p l e R s m args below meth c H locs 0 0 (MQ below (Qgv D N ad E σ' s.heap.size) args s 0 0 (AG N ad s.heap.size)) (F0 m pc ls []) := by
  subst h2
  exact W.vret hx hb hr (fun t ht _ => ⟨⟨(), rfl, trivial, by show va_P D vwCl _ t.heap; rw [ht]; exact hP⟩, hS.F ht⟩) hS.2.2 hdg
theorem g_aret (hx : p.tables.exec = Jvm.exec) (hb : c.code = cc) {rt : FieldType} (hr : meth.sig.returnType = some rt) (hrt : ∃ n, rt = .object n) (hlocks : meth.locks = false) (hP : va_P D vwCl (wsG N ad E σ) H) (hS : va_S (AG N ad s.heap.size) s.heap H locs) {a0 : Nat} {σ' : Mem} (h2 : σ = σ') (hdg : decode cc pc = .ok (.areturn, 1)) :
    W p l e R s m args below meth c H locs 0 0 (MQ below (Qgr D N ad E a0 σ' s.heap.size) args s 0 0 (AG N ad s.heap.size)) (F0 m pc ls [.ref a0]) := by
  subst h2
  exact W.aret hx hb hr (Or.inl hrt) (Or.inr ⟨a0, rfl⟩) (fun t ht _ => ⟨⟨(), a0, rfl, trivial, rfl, by show va_P D vwCl _ t.heap; rw [ht]; exact hP⟩, hS.F ht⟩) hS.2.2 hdg
end GROWS
