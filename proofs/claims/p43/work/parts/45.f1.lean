/-! CONSTRUCTORS: rows -/
theorem k_arr : Cond.arrayClass FieldType.int ∈ BIG := by decide +kernel
theorem k_arJ : Cond.arrayClass FieldType.long ∈ BIG := by decide +kernel
theorem k_obI : Cond.instanceMethod Lib.objectInit ∈ BIG := by decide +kernel
theorem k_obC : Cond.code Lib.objectInit ⟨#[0xb1]⟩ 1 none ∈ BIG := by decide +kernel
theorem k_obX5 : Cond.methodLink RX5 1 Lib.objectInit ∈ BIG := by decide +kernel
theorem k_obX0 : Cond.methodLink RX0 1 Lib.objectInit ∈ BIG := by decide +kernel
theorem k_obX4 : Cond.methodLink RX4 3 Lib.objectInit ∈ BIG := by decide +kernel
theorem k_obX2 : Cond.methodLink RX2 3 Lib.objectInit ∈ BIG := by decide +kernel
theorem k_obX1 : Cond.methodLink RX1 3 Lib.objectInit ∈ BIG := by decide +kernel
theorem k_obX3 : Cond.methodLink RX3 3 Lib.objectInit ∈ BIG := by decide +kernel
theorem k_clX5_7 : Cond.classLink RX5 7 RX0 ∈ BIG := by decide +kernel
theorem k_clX5_16 : Cond.classLink RX5 16 RX4 ∈ BIG := by decide +kernel
theorem k_clX4_9 : Cond.classLink RX4 9 RX2 ∈ BIG := by decide +kernel
theorem k_clX4_18 : Cond.classLink RX4 18 RX1 ∈ BIG := by decide +kernel
theorem k_clX4_25 : Cond.classLink RX4 25 RX3 ∈ BIG := by decide +kernel
theorem k_clL_11 : Cond.classLink RL 11 RX5 ∈ BIG := by decide +kernel
theorem k_inX0 : Cond.instantiable RX0 2 ∈ BIG := by decide +kernel
theorem k_inX1 : Cond.instantiable RX1 10 ∈ BIG := by decide +kernel
theorem k_inX2 : Cond.instantiable RX2 6 ∈ BIG := by decide +kernel
theorem k_inX3 : Cond.instantiable RX3 6 ∈ BIG := by decide +kernel
theorem k_inX4 : Cond.instantiable RX4 5 ∈ BIG := by decide +kernel
theorem k_inX5 : Cond.instantiable RX5 3 ∈ BIG := by decide +kernel
theorem wsG_inj {A : Nat → Prop} {N : Nat} {ad : Nat → Nat} {E : Ent} {σ : Mem} (h : va_D A (wsG N ad E σ)) : injG N ad ∧ ∀ k : Nat, k < N → A (ad k) :=
  ⟨fun i j h1 h2 e => h.1 i j _ _ (wsG_get h1) (wsG_get h2) e, fun k hk => h.2 k _ (wsG_get hk)⟩
theorem arr_same {cA cI : ClassId} {U : State} {D : va_G} {cl : List vw_C} {tys : List (ClassId × FieldType)} (h : va_K D cl (tys ++ [(cA, .int)]) U) (hI : tys[0]? = some (cI, .int)) : cA = cI := by
  have h1 := (h.2 tys.length (cA, .int) (by rw [List.getElem?_append_right (Nat.le_refl _), Nat.sub_self]; rfl)).2
  have hl : 0 < tys.length := (List.getElem?_eq_some_iff.mp hI).1
  have h2 := (h.2 0 (cI, .int) (by rw [List.getElem?_append_left hl]; exact hI)).2
  exact Option.some.inj (h1.symm.trans h2)
def MGn (l : Launch) (y : MethodName) (cc : ByteArray) (nL fr lo mc ms : Nat) (D : va_G) (cI cJ : ClassId) (ci : Nat) (fs : List Value) (N ob : Nat) (E : (Nat → Nat) → Ent) (σ : Mem) : Prop :=
  ∀ h0 sz : Nat, Met l y (Cond.code y cc nL none :: BIG) ({ frames := fr, cells := mc, slots := ms, locals := lo }) (va_Pc [.ref h0] (fun U => U.heap.size = sz ∧ va_P D vwCl [(h0, .inr (ci, fs))] U.heap ∧ KK D cI cJ U)) (va_Qv (fun ad : Nat → Nat => ad ob = h0 ∧ va_D (va_A [(h0, .inr (ci, fs))] sz) (wsG N ad (E ad) σ)) (fun ad t => va_P D vwCl (wsG N ad (E ad) σ) t.heap) (va_A [(h0, .inr (ci, fs))] sz)) mc ms (va_A [(h0, .inr (ci, fs))] sz)
section CROWS
variable {p : Program} {l : Launch} {e : Env} {R : Room} {s : State} {m : MethodId} {args : Array Value} {below : List Frame} {meth : Method} {c : Code} {H : Heap} {locs : List Loc} {cells slots : Nat} {Q : State → Prop}
variable {cc : ByteArray} {pc nL : Nat} {ls : Array Slot} {rest st0 : List Value} {D : va_G} {cI cJ : ClassId} {A : Nat → Prop} {N ob : Nat} {ad : Nat → Nat} {E : (Nat → Nat) → Ent} {σ : Mem} {ci : Nat} {fs : List Value} {ws : va_W} {h0 : Nat} {fr lo mc ms : Nat} {y : MethodName}
theorem MGn.ofW (hy : plainName y.cls = true)
    (body : ∀ p e s m args below meth c h0 A, p.tables.exec = Jvm.exec → c.code = cc → meth.sig.returnType = none → c.maxLocals = nL → meth.locks = false → meth.name = y.name → s.vm.findClass y.cls = some m.cls → (∀ w ∈ BIG, w.before args s = true) → KK D cI cJ s → va_P D vwCl [(h0, .inr (ci, fs))] s.heap → va_D A [(h0, .inr (ci, fs))] → va_S A s.heap s.heap [] → (∀ q : Nat, s.heap.size ≤ q → A q) →
      W p l e ({ frames := fr, cells := mc, slots := ms, locals := lo }) s m args below meth c s.heap [] 0 0 (MQ below (va_Qv (fun ad : Nat → Nat => ad ob = h0 ∧ va_D A (wsG N ad (E ad) σ)) (fun ad t => va_P D vwCl (wsG N ad (E ad) σ) t.heap) A) args s mc ms A) (entryFrame m [Value.ref h0].toArray nL)) : MGn l y cc nL fr lo mc ms D cI cJ ci fs N ob E σ := by
  intro h0 sz
  refine Met.ofW (cc := cc) (maxL := nL) (ret := none) hy rfl ?_
  intro p e s m args below meth c s₁ B hml hv
  obtain ⟨rfl, hsz, hP, hK⟩ := hv
  subst hsz
  refine body p e s m _ below meth c h0 (va_A [(h0, .inr (ci, fs))] s.heap.size) B.exec B.bytes B.returns hml B.notSynchronized (name_of_methodNamed B.named B.method).1 (findClass_of_methodNamed B.named) (bigH (atoms_spec (ws := Cond.code y cc nL none :: BIG) B.pre)) hK hP ⟨fun i j q r hi hj _ => ?_, fun k q hq => va_A.in hq⟩ va_S.rf (fun q h => Or.inr h)
  have h1 : i < 1 := (List.getElem?_eq_some_iff.mp hi).1
  have h2 : j < 1 := (List.getElem?_eq_some_iff.mp hj).1
  omega
theorem n_obj (hx : p.tables.exec = Jvm.exec) (hb : c.code = cc) (hB : ∀ w ∈ BIG, w.before args s = true) {own : String} (hown : s.vm.findClass own = some m.cls) {idx : Nat} (hlk : Cond.methodLink own idx Lib.objectInit ∈ BIG) (hml : c.maxLocals = nL) (hsize : ls.size = nL) {a : Nat} (hdg : decode cc pc = .ok (.invokespecial idx, 3)) (hf : 1 ≤ R.frames) (hl : 12 ≤ R.locals)
    (kk : W p l e R s m args below meth c H locs cells slots Q (F0 m (pc + 3) ls [])) : W p l e R s m args below meth c H locs cells slots Q (F0 m pc ls [.ref a]) :=
  W.objInit hx hb hown (hB _ hlk) (hB _ k_obI) (hB _ k_obC) rfl (by rw [hml]; exact hsize) rfl hdg hf hl kk
theorem g_arr (hx : p.tables.exec = Jvm.exec) (hb : c.code = cc) (hB : ∀ w ∈ BIG, w.before args s = true) {own : String} (hown : s.vm.findClass own = some m.cls) (hK : KK D cI cJ s) {C : String} {T : u_T} {NF : Nat} (hin : ∀ w ∈ u_ws C T NF, w ∈ BIG) (ty0 : Nat → FieldType) (hty : ∀ k, k < NF → parseFieldDescriptor (T k).2.2.1 = some (ty0 k)) (hnm : ∀ a, a < NF → ∀ b, b < NF → a ≠ b → (T a).2.1 ≠ (T b).2.1)
    (hP : va_P D vwCl ((h0, .inr (ci, fs)) :: ws) H) (hD : va_D A ((h0, .inr (ci, fs)) :: ws)) (hS : va_S A s.heap H locs) (hA : ∀ q : Nat, s.heap.size ≤ q → A q) (hc : vwCl[ci]? = some (C, T, NF)) (k : Nat) (hk : k < NF) {idx : Nat} {nm : String} (hlk : Cond.fieldLink own idx own nm "[I" ∈ BIG) (hT : T k = (own, nm, "[I", true)) (hin2 : meth.name = "<init>") (hl : k < fs.length)
    {n : Int32} (N' : Nat) (hn : ¬ n < 0) (hN : n.toNatClampNeg = N') (hby : N' * componentBytes .int ≤ 536870912) (hcells : cells + 1 ≤ R.cells) (hslots : slots + N' ≤ R.slots) (hd1 : decode cc pc = .ok (.newarray .int, 2)) (hd2 : decode cc (pc + 2) = .ok (.putfield idx, 3))
    (kk : ∀ (q : Nat) (H : Heap) (locs : List Loc), va_P D vwCl ((h0, .inr (ci, fs.set k (.ref q))) :: (ws ++ [(q, .inl (cI, N', .inl fun _ => 0))])) H → va_D A ((h0, .inr (ci, fs.set k (.ref q))) :: (ws ++ [(q, .inl (cI, N', .inl fun _ => 0))])) → va_S A s.heap H locs → W p l e R s m args below meth c H locs (cells + 1) (slots + N') Q (F0 m (pc + 2 + 3) ls rest)) : W p l e R s m args below meth c H locs cells slots Q (F0 m pc ls (.int n :: .ref h0 :: rest)) := by
  refine va_newa (atype := .int) (a0 := (N', .inl fun _ => 0)) hx hb (hB _ k_arr) rfl hK.1 hP hD hS hA (fun cA => rfl) hn hN hby hcells hslots hd1 fun q cA H1 hK1 hP1 hD1 hS1 => ?_
  have hcA : cA = cI := arr_same hK1 rfl
  subst hcA
  refine va_putF (ref := own) (v := .ref q) (ty := .array .int) hx hb hB hin ty0 hty hnm hown hK.1 hP1 hD1 hS1 0 rfl hc k hk (by rw [hT]; exact hB _ hlk) (fun x hx => by rw [hT] at hx ⊢; exact hx) (by rw [hT]) hin2 (by rw [hT]) (by rw [hT]; exact (by decide +kernel : parseFieldDescriptor "[I" = some (FieldType.array .int))) rfl rfl hl hd2 fun H2 locs2 hP2 hD2 hS2 => ?_
  exact kk q H2 locs2 hP2 hD2 hS2
theorem n_ret (hx : p.tables.exec = Jvm.exec) (hb : c.code = cc) (hr : meth.sig.returnType = none) (hlocks : meth.locks = false) (ad : Nat → Nat) (hob : ad ob = h0) (hP : va_P D vwCl (wsG N ad (E ad) σ) H) (hD : va_D A (wsG N ad (E ad) σ)) (hS : va_S A s.heap H locs) (hdg : decode cc pc = .ok (.return_, 1)) :
    W p l e R s m args below meth c H locs mc ms (MQ below (va_Qv (fun ad : Nat → Nat => ad ob = h0 ∧ va_D A (wsG N ad (E ad) σ)) (fun ad t => va_P D vwCl (wsG N ad (E ad) σ) t.heap) A) args s mc ms A) (F0 m pc ls []) :=
  W.vret hx hb hr (fun t ht _ => ⟨⟨ad, rfl, ⟨hob, hD⟩, by show va_P D vwCl _ t.heap; rw [ht]; exact hP⟩, hS.F ht⟩) hS.2.2 hdg
theorem n_call (hx : p.tables.exec = Jvm.exec) (hb : c.code = cc) (hml : c.maxLocals = nL) {own : String} (hown : s.vm.findClass own = some m.cls) (hB : ∀ w ∈ BIG, w.before args s = true) (hK : KK D cI cJ s) {bytes : ByteArray} {maxL idx : Nat} {q : Nat} (hM : MGn l y bytes maxL fr lo mc ms D cI cJ ci fs N ob E σ) (hP : va_P D vwCl (ws ++ [(q, .inr (ci, fs))]) H) (hD : va_D A (ws ++ [(q, .inr (ci, fs))])) (hS : va_S A s.heap H locs) (hA : ∀ q : Nat, s.heap.size ≤ q → A q)
    (hcode : Cond.code y bytes maxL none ∈ BIG) (hini : Cond.initialized y.cls ∈ BIG) (hinst : Cond.instanceMethod y ∈ BIG) (hlk : Cond.methodLink own idx y ∈ BIG) (hy : y.name = "<init>") (hd : y.cls ≠ "java/lang/invoke/MethodHandle" ∧ y.cls ≠ "java/lang/invoke/VarHandle" ∧ (parseMethodDescriptor y.desc).map (fun d => d.parameters.length) = some 0)
    (k : Nat) (isR : List Nat) (hC : [k].map (fun i => (ws ++ [(q, .inr (ci, fs))])[i]?) = [(q, Sum.inr (ci, fs))].map some) (hR : isR.map (fun i => (ws ++ [(q, .inr (ci, fs))])[i]?) = ws.map some) (hnd : va_nd isR = true) (hdis : ∀ i ∈ isR, i ∉ [k])
    (hRo : fr + 1 ≤ R.frames ∧ 8 + (maxL + 11) + lo ≤ R.locals) (hsize : ls.size = nL) (hW : (rest.map fun v => v.category).sum ≤ 8) (hdg : decode cc pc = .ok (.invokespecial idx, 3)) (hcs : cells + mc ≤ R.cells ∧ slots + ms ≤ R.slots)
    (kk : ∀ (ad : Nat → Nat) (H : Heap) (locs : List Loc), ad ob = q → va_P D vwCl (ws ++ wsG N ad (E ad) σ) H → va_D A (ws ++ wsG N ad (E ad) σ) → va_S A s.heap H locs → W p l e R s m args below meth c H locs (cells + mc) (slots + ms) Q (F0 m (pc + 3) ls rest)) : W p l e R s m args below meth c H locs cells slots Q (F0 m pc ls (.ref q :: rest)) := by
  have hPc : va_P D vwCl [(q, .inr (ci, fs))] H := hP.sub (ws' := [(q, .inr (ci, fs))]) [k] (by have := hC; simp only [List.map_cons, List.map_nil, List.cons.injEq, and_true] at this; simp [this])
  have hFc := va_free (wc := [(q, .inr (ci, fs))]) hD hS hA [k] hC
  refine va_callv (va_runI (As := []) (rest := rest) ⟨hx, hb, hml, hown, hB⟩ (hM q H.size) (cwI 0 hB (bigG fun w hw => by
    rcases List.mem_cons.mp hw with rfl | hw
    · exact hcode
    · exact hw) rfl rfl rfl (hB _ hini) (hB _ hlk) (hB _ hinst) hy hd hRo) ⟨fun a U g mk q => ⟨q.1, q.2.1, q.2.2.1, KK.same rfl q.2.2.2⟩, fun U hU hW => ⟨rfl, by rw [hU], by rw [hU]; exact hPc, KK.warm hW hK⟩⟩ rfl rfl hsize rfl (lv_room hW) hdg hcs) hS (fun q _ h => hFc q h) hFc (fun u t H1 locs1 ht hvm hw hB1 hz1 hk1 hS1 => ?_)
  have hB1 : va_P D vwCl (wsG N u (E u) σ) t.heap := hB1
  rw [ht] at hB1
  obtain ⟨hP2, hD2⟩ := va_join hP hD [k] isR hC hR hnd hdis hk1 hFc hB1 hw.2
  exact kk u H1 locs1 hw.1 hP2 hD2 hS1
theorem n_callN (hx : p.tables.exec = Jvm.exec) (hb : c.code = cc) (hml : c.maxLocals = nL) {own host : String} (hown : s.vm.findClass own = some m.cls) (hB : ∀ w ∈ BIG, w.before args s = true) (hK : KK D cI cJ s) {bytes : ByteArray} {maxL idx : Nat} {q : Nat} (hM : MGn l y bytes maxL fr lo mc ms D cI cJ ci fs N ob E σ) (hP : va_P D vwCl (ws ++ [(q, .inr (ci, fs))]) H) (hD : va_D A (ws ++ [(q, .inr (ci, fs))])) (hS : va_S A s.heap H locs) (hA : ∀ q : Nat, s.heap.size ≤ q → A q)
    (hcode : Cond.code y bytes maxL none ∈ BIG) (hini : Cond.initialized y.cls ∈ BIG) (hinst : Cond.instanceMethod y ∈ BIG) (hlk : (own, idx, y, host) ∈ NWL) (hy : y.name = "<init>") (hd : y.cls ≠ "java/lang/invoke/MethodHandle" ∧ y.cls ≠ "java/lang/invoke/VarHandle" ∧ (parseMethodDescriptor y.desc).map (fun d => d.parameters.length) = some 0)
    (k : Nat) (isR : List Nat) (hC : [k].map (fun i => (ws ++ [(q, .inr (ci, fs))])[i]?) = [(q, Sum.inr (ci, fs))].map some) (hR : isR.map (fun i => (ws ++ [(q, .inr (ci, fs))])[i]?) = ws.map some) (hnd : va_nd isR = true) (hdis : ∀ i ∈ isR, i ∉ [k])
    (hRo : fr + 1 ≤ R.frames ∧ 8 + (maxL + 11) + lo ≤ R.locals) (hsize : ls.size = nL) (hW : (rest.map fun v => v.category).sum ≤ 8) (hdg : decode cc pc = .ok (.invokespecial idx, 3)) (hcs : cells + mc ≤ R.cells ∧ slots + ms ≤ R.slots)
    (kk : ∀ (ad : Nat → Nat) (H : Heap) (locs : List Loc), ad ob = q → va_P D vwCl (ws ++ wsG N ad (E ad) σ) H → va_D A (ws ++ wsG N ad (E ad) σ) → va_S A s.heap H locs → W p l e R s m args below meth c H locs (cells + mc) (slots + ms) Q (F0 m (pc + 3) ls rest)) : W p l e R s m args below meth c H locs cells slots Q (F0 m pc ls (.ref q :: rest)) := by
  have hPc : va_P D vwCl [(q, .inr (ci, fs))] H := hP.sub (ws' := [(q, .inr (ci, fs))]) [k] (by have := hC; simp only [List.map_cons, List.map_nil, List.cons.injEq, and_true] at this; simp [this])
  have hFc := va_free (wc := [(q, .inr (ci, fs))]) hD hS hA [k] hC
  refine va_callv (va_runIN (As := []) (rest := rest) ⟨hx, hb, hml, hown, hB⟩ (hM q H.size) ⟨va_cnB 0 hB (bigG fun w hw => by
    rcases List.mem_cons.mp hw with rfl | hw
    · exact hcode
    · exact hw) rfl rfl rfl (hK.2.1 _ hlk) (hB _ hini) hd hRo, hy, hB _ hinst⟩ ⟨fun a U g mk q => ⟨q.1, q.2.1, q.2.2.1, KK.same rfl q.2.2.2⟩, fun U hU hW => ⟨rfl, by rw [hU], by rw [hU]; exact hPc, KK.warm hW hK⟩⟩ rfl rfl hsize rfl (lv_room hW) hdg hcs) hS (fun q _ h => hFc q h) hFc (fun u t H1 locs1 ht hvm hw hB1 hz1 hk1 hS1 => ?_)
  have hB1 : va_P D vwCl (wsG N u (E u) σ) t.heap := hB1
  rw [ht] at hB1
  obtain ⟨hP2, hD2⟩ := va_join hP hD [k] isR hC hR hnd hdis hk1 hFc hB1 hw.2
  exact kk u H1 locs1 hw.1 hP2 hD2 hS1
end CROWS
