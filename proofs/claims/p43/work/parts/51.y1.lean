/-! THE LAW'S HELPERS: the council's cells (0 to 50), the law's arrays c (51), r (52), q (53: longs, two numbers each); in one method three more (54 to 56) -/
def j64 (h l : Int32) : Int64 := Int64.ofBitVec (h.toBitVec ++ l.toBitVec)
def j64h (x : Int64) : Int32 := Int32.ofBitVec (x.toBitVec.extractLsb' 32 32)
def j64l (x : Int64) : Int32 := Int32.ofBitVec (x.toBitVec.extractLsb' 0 32)
theorem j64_hl (x : Int64) : j64 (j64h x) (j64l x) = x := by
  apply Int64.toBitVec_inj.mp
  show (x.toBitVec.extractLsb' 32 32 ++ x.toBitVec.extractLsb' 0 32 : BitVec 64) = x.toBitVec
  apply BitVec.eq_of_getLsbD_eq
  intro i hi
  rw [BitVec.getLsbD_append]
  by_cases h : i < 32
  · rw [if_pos h, BitVec.getLsbD_extractLsb']
    simp [h]
  · rw [if_neg h, BitVec.getLsbD_extractLsb']
    have : i - 32 < 32 := by omega
    have e : 32 + (i - 32) = i := by omega
    simp [this, e]
def lrd (σ : Mem) (k i : Nat) : Int64 := j64 (σ k (2 * i)) (σ k (2 * i + 1))
def lwr (σ : Mem) (k i : Nat) (x : Int64) : Mem := mu (mu σ k (2 * i) (j64h x)) k (2 * i + 1) (j64l x)
theorem lwr_s (σ : Mem) (k i : Nat) (x : Int64) : lwr σ k i x k = upd (upd (σ k) (2 * i) (j64h x)) (2 * i + 1) (j64l x) := by
  unfold lwr; rw [mu_s, mu_s]
theorem lwr_n {σ : Mem} {k a i : Nat} {x : Int64} (h : a ≠ k) : lwr σ k i x a = σ a := by
  unfold lwr; rw [mu_n h, mu_n h]
theorem lrd_lwr (σ : Mem) (k i j : Nat) (x : Int64) : lrd (lwr σ k i x) k j = if j = i then x else lrd σ k j := by
  unfold lrd
  rw [lwr_s]
  unfold upd
  by_cases h : j = i
  · subst h
    rw [if_pos rfl, if_neg (by omega), if_pos rfl, if_pos rfl, j64_hl]
  · rw [if_neg h, if_neg (by omega), if_neg (by omega), if_neg (by omega), if_neg (by omega)]
def mgY (σ1 σ : Mem) : Mem := fun k => if k < 51 then σ1 k else σ k
theorem mgY_1 (σ1 σ : Mem) : ∀ k : Nat, k < 51 → mgY σ1 σ k = σ1 k := fun k h => if_pos h
theorem mgY_2 (n : Nat) (σ1 σ : Mem) : ∀ j : Nat, j < n → (∀ k : Nat, k < 51 → k ≠ j) → mgY σ1 σ j = σ j := fun j _ h => if_neg fun q => h j q rfl
def mgZ (σ1 σ : Mem) : Mem := fun k => if k < 54 then σ1 k else σ k
theorem mgZ_1 (σ1 σ : Mem) : ∀ k : Nat, k < 54 → mgZ σ1 σ k = σ1 k := fun k h => if_pos h
theorem mgZ_2 (n : Nat) (σ1 σ : Mem) : ∀ j : Nat, j < n → (∀ k : Nat, k < 54 → k ≠ j) → mgZ σ1 σ j = σ j := fun j _ h => if_neg fun q => h j q rfl
def EY (ad : Nat → Nat) (cI cJ : ClassId) : Ent := fun k f => if k < 51 then EX ad cI k f else if k = 51 then .inl (cI, 13, .inl f) else if k = 52 then .inl (cI, 60, .inl f) else .inl (cJ, 60, .inr (.inl fun i => j64 (f (2 * i)) (f (2 * i + 1))))
def EZ (ad : Nat → Nat) (cI cJ : ClassId) : Ent := fun k f => if k < 54 then EY ad cI cJ k f else if k = 55 then .inl (cI, 12, .inl f) else .inl (cI, 4, .inl f)
section EYZ
variable {ad : Nat → Nat} {cI cJ : ClassId}
theorem EY_x {k : Nat} (h : k < 51) : EY ad cI cJ k = EX ad cI k := by
  funext f; exact if_pos h
theorem EY_51 (f : Nat → Int32) : EY ad cI cJ 51 f = .inl (cI, 13, .inl f) := (if_neg (by decide)).trans (if_pos rfl)
theorem EY_52 (f : Nat → Int32) : EY ad cI cJ 52 f = .inl (cI, 60, .inl f) := (if_neg (by decide)).trans ((if_neg (by decide)).trans (if_pos rfl))
theorem EY_53 (f : Nat → Int32) : EY ad cI cJ 53 f = .inl (cJ, 60, .inr (.inl fun i => j64 (f (2 * i)) (f (2 * i + 1)))) := (if_neg (by decide)).trans ((if_neg (by decide)).trans (if_neg (by decide)))
theorem EZ_y {k : Nat} (h : k < 54) : EZ ad cI cJ k = EY ad cI cJ k := by
  funext f; exact if_pos h
theorem EZ_51 (f : Nat → Int32) : EZ ad cI cJ 51 f = .inl (cI, 13, .inl f) := (if_pos (by decide)).trans (EY_51 f)
theorem EZ_54 (f : Nat → Int32) : EZ ad cI cJ 54 f = .inl (cI, 4, .inl f) := (if_neg (by decide)).trans (if_neg (by decide))
theorem EZ_55 (f : Nat → Int32) : EZ ad cI cJ 55 f = .inl (cI, 12, .inl f) := (if_neg (by decide)).trans (if_pos rfl)
theorem EZ_56 (f : Nat → Int32) : EZ ad cI cJ 56 f = .inl (cI, 4, .inl f) := (if_neg (by decide)).trans (if_neg (by decide))
theorem sub_YX : subG 54 ad (EY ad cI cJ) 51 ad (EX ad cI) (fun k => k) := fun k h => ⟨by (try dsimp only); omega, rfl, (EY_x h).symm⟩
theorem sub_ZY : subG 57 ad (EZ ad cI cJ) 54 ad (EY ad cI cJ) (fun k => k) := fun k h => ⟨by (try dsimp only); omega, rfl, (EZ_y h).symm⟩
theorem sub_ZX : subG 57 ad (EZ ad cI cJ) 51 ad (EX ad cI) (fun k => k) := fun k h => ⟨by (try dsimp only); omega, rfl, ((EZ_y (by omega)).trans (EY_x h)).symm⟩
end EYZ
theorem injS {n n' : Nat} {ad : Nat → Nat} (h : n' ≤ n) (hi : injG n ad) : injG n' ad := fun i j h1 h2 e => hi i j (by omega) (by omega) e
def NC (U : State) : Prop := va_Nc (exn 1) (exn 3) U ∧ va_Nc (exn 3) (exn 1) U
theorem NC.moved {u U : State} (hvm : u.vm.Alike U.vm) (h : NC u) : NC U := ⟨va_Nc.moved hvm h.1, va_Nc.moved hvm h.2⟩
def PreY (D : va_G) (cI cJ : ClassId) (N : Nat) (ad : Nat → Nat) (E : Ent) (σ : Mem) (sz : Nat) (U : State) : Prop := PreX D cI cJ N ad E σ sz U ∧ NC U
theorem blindY {as : List Value} {D : va_G} {cI cJ : ClassId} {N : Nat} {ad : Nat → Nat} {E : Ent} {σ : Mem} {sz : Nat} : FrameBlind (va_Pc as (PreY D cI cJ N ad E σ sz)) := fun _ _ _ _ h => ⟨h.1, ⟨⟨h.2.1.1.1, h.2.1.1.2.1, KK.same rfl h.2.1.1.2.2⟩, ZZ.moved (Vm.Alike.refl _) h.2.1.2⟩, NC.moved (Vm.Alike.refl _) h.2.2⟩
/-- a method of the law: w0 its code, mc the cells that it may make -/
def MGY (l : Launch) (y : MethodName) (w0 : Cond) (fr lo mc : Nat) (D : va_G) (cI cJ : ClassId) (N : Nat) (ad : Nat → Nat) (E : Ent) (as : List Value) (σ : Mem) (Qc : Nat → Array Value → State → Outcome → State → Prop) : Prop :=
  ∀ sz : Nat, Met l y (w0 :: BIG) ({ frames := fr, cells := mc, slots := 6 * mc, locals := lo }) (va_Pc as (PreY D cI cJ N ad E σ sz)) (Qc sz) mc (6 * mc) (AG N ad sz)
def exCt : Nat → Nat | 1 => 48 | _ => 50
theorem k_ct1 : Cond.classLink RL 48 (exn 1) ∈ BIG := by decide +kernel
theorem k_ct3 : Cond.classLink RL 50 (exn 3) ∈ BIG := by decide +kernel
section YROWS
variable {p : Program} {l : Launch} {e : Env} {R : Room} {s : State} {m : MethodId} {args : Array Value} {below : List Frame} {meth : Method} {c : Code} {H : Heap} {locs : List Loc} {cells slots : Nat} {Q : State → Prop}
variable {cc : ByteArray} {pc nL : Nat} {ls : Array Slot} {rest st0 : List Value} {D : va_G} {cI cJ : ClassId} {A : Nat → Prop} {N : Nat} {ad : Nat → Nat} {E : Ent} {σ : Mem} {y : MethodName} {hh : List (Nat × Nat × Nat × Nat)} {fr lo mc : Nat}
variable {k0 N' : Nat} {ad' : Nat → Nat} {E' : Ent} {ι : Nat → Nat} {own C : String} {idx : Nat} {bytes : ByteArray} {maxL : Nat} {ret : Option FieldType} {n : Nat} {As : List Value} {b : Nat} {σc σ1 τ : Mem} {r : Int32} {ex : Nat}
/-- the contract out of the walk: a method without, with an exception table -/
theorem MGY.ofW {as : List Value} {Qc : Nat → Array Value → State → Outcome → State → Prop} (hy : plainName y.cls = true)
    (body : ∀ p e s m args below meth c, p.tables.exec = Jvm.exec → c.code = cc → meth.sig.returnType = ret → c.maxLocals = nL → meth.locks = false → s.vm.findClass y.cls = some m.cls → (∀ w ∈ BIG, w.before args s = true) → KK D cI cJ s → ZZ (AG N ad s.heap.size) s s.heap → NC s → va_P D vwCl (wsG N ad E σ) s.heap → (∀ q : Nat, s.heap.size ≤ q → AG N ad s.heap.size q) → (∀ k : Nat, k < N → AG N ad s.heap.size (ad k)) → va_S (AG N ad s.heap.size) s.heap s.heap [] →
      W p l e ({ frames := fr, cells := mc, slots := 6 * mc, locals := lo }) s m args below meth c s.heap [] 0 0 (MQ below (Qc s.heap.size) args s mc (6 * mc) (AG N ad s.heap.size)) (entryFrame m as.toArray nL)) : MGY l y (Cond.code y cc nL ret) fr lo mc D cI cJ N ad E as σ Qc := by
  intro sz
  refine Met.ofW (cc := cc) (maxL := nL) (ret := ret) hy rfl ?_
  intro p e s m args below meth c s₁ B hml hv
  obtain ⟨rfl, ⟨⟨hsz, hP, hK⟩, hZ⟩, hN⟩ := hv
  subst hsz
  exact body p e s m _ below meth c B.exec B.bytes B.returns hml B.notSynchronized (findClass_of_methodNamed B.named) (bigH (atoms_spec (ws := Cond.code y cc nL ret :: BIG) B.pre)) hK hZ hN hP (fun q h => Or.inr h) (fun k h => Or.inl ⟨k, h, rfl⟩) va_S.rf
theorem MGY.ofWT {as : List Value} {Qc : Nat → Array Value → State → Outcome → State → Prop} (hy : plainName y.cls = true)
    (body : ∀ p e s m args below meth c, p.tables.exec = Jvm.exec → c.code = cc → meth.sig.returnType = ret → c.maxLocals = nL → meth.locks = false → c.exceptionTable.toList = tableOf hh → s.vm.findClass y.cls = some m.cls → (∀ w ∈ BIG, w.before args s = true) → KK D cI cJ s → ZZ (AG N ad s.heap.size) s s.heap → NC s → va_P D vwCl (wsG N ad E σ) s.heap → (∀ q : Nat, s.heap.size ≤ q → AG N ad s.heap.size q) → (∀ k : Nat, k < N → AG N ad s.heap.size (ad k)) → va_S (AG N ad s.heap.size) s.heap s.heap [] →
      W p l e ({ frames := fr, cells := mc, slots := 6 * mc, locals := lo }) s m args below meth c s.heap [] 0 0 (MQ below (Qc s.heap.size) args s mc (6 * mc) (AG N ad s.heap.size)) (entryFrame m as.toArray nL)) : MGY l y (Cond.codeWith y cc nL ret hh) fr lo mc D cI cJ N ad E as σ Qc := by
  intro sz
  refine MetFree.of_bodyS (code := cc) (maxLocals := nL) (ret := ret) hy ?_ ?_
  · intro args s m h hn
    obtain ⟨m9, meth, c, hn9, h1, h2, h3, h4, -, h5, h6, -⟩ := Cond.codeWith_spec (atoms_spec (ws := Cond.codeWith y cc nL ret hh :: BIG) h _ List.mem_cons_self)
    cases hn.symm.trans hn9
    exact ⟨meth, c, h1, h2, h3, h4, h5, h6⟩
  · intro p e s m args below meth c s₁ B hml hv _
    have hh0 : s₁.heap = s.heap := by rw [B.state]; rfl
    obtain ⟨rfl, ⟨⟨hsz, hP, hK⟩, hZ⟩, hN⟩ := hv
    subst hsz
    have hat := atoms_spec (ws := Cond.codeWith y cc nL ret hh :: BIG) B.pre
    obtain ⟨t, a1, o, b1, b2, b3⟩ := body p e s m _ below meth c B.exec B.bytes B.returns hml B.notSynchronized (vx_table (x := y) B (hat _ List.mem_cons_self)) (findClass_of_methodNamed B.named) (bigH hat) hK hZ hN hP (fun q h => Or.inr h) (fun k h => Or.inl ⟨k, h, rfl⟩) va_S.rf s₁ hh0 (Stand.of_body B)
    exact ⟨t, o, a1, b1, b2, ⟨b3.1, b3.2⟩⟩
/-- calls of the class's methods, from any number of cells -/
theorem g_yVi (G : Gc p s m args c H locs cc nL own D cI cJ A N ad E σ) (hZ : ZZ A s s.heap) (hsub : subG N ad E N' ad' E' ι) (hM : MGx l y (Cond.code y bytes maxL ret :: BIG) fr lo D cI cJ N' ad' E' (.ref b :: As) σc σ1 0 (fun sz => Qgi D N' ad' E' r σ1 sz)) (hσ : ∀ k : Nat, k < N' → σc k = σ (ι k)) (cal : CalV C y bytes maxL ret n) (hlk : Cond.methodLink own idx y ∈ BIG) (hR : fr + 1 ≤ R.frames ∧ 8 + (maxL + 11) + lo ≤ R.locals) (k0 : Nat) (hk0 : k0 < N') (hb0 : ad' k0 = b) {ci : Nat} {fs : List Value} {T : u_T} {NF : Nat} (he0 : E' k0 (σc k0) = .inr (ci, fs)) (hc0 : vwCl[ci]? = some (C, T, NF)) (hn : As.length = n) (hsize : ls.size = nL) (hW : (rest.map fun v => v.category).sum ≤ 8) (hstk : st0 = As.reverse ++ .ref b :: rest) (hdg : decode cc pc = .ok (.invokevirtual idx, 3)) (hcs : cells ≤ R.cells ∧ slots ≤ R.slots) (h1 : ∀ k : Nat, k < N' → τ (ι k) = σ1 k) (h2 : ∀ j : Nat, j < N → (∀ k : Nat, k < N' → ι k ≠ j) → τ j = σ j)
    (kk : ∀ (H : Heap) (locs : List Loc), va_P D vwCl (wsG N ad E τ) H → va_S A s.heap H locs → W p l e R s m args below meth c H locs cells slots Q (F0 m (pc + 3) ls (.int r :: rest))) : W p l e R s m args below meth c H locs cells slots Q (F0 m pc ls st0) := by
  have hpre := fun (U : State) (hU : U.heap = H) (hW : s.WarmedH U.vm) => preX (as := (.ref b :: As)) G hZ hsub hσ hU hW
  obtain ⟨S, hK, hi, hA, hAd, hP, hS⟩ := G
  have hPc := hsub.P hσ hP
  have hFc := hsub.free hS hA hAd
  refine va_calli (va_runV S (hM.1 rfl H.size) (cwV n S.2.2.2.2 (cal.good hlk) rfl rfl rfl cal.2.2.2.2 hR) ⟨blindX, va_recv hK.1 hPc hc0 ((wsG_get hk0).trans (by rw [hb0, he0])), hpre⟩ rfl hn hsize hstk (lv_room hW) hdg hcs) hS (fun q _ h => hFc q h) hFc (fun r' u t H1 locs1 ht hvm hw hB hz1 hk1 hS1 => ?_)
  have hB : va_P D vwCl (wsG N' ad' E' σ1) t.heap := hB
  rw [ht] at hB
  subst hw
  exact kk H1 locs1 (hsub.join hi hP hB hk1 h1 h2) hS1
theorem g_yVv (G : Gc p s m args c H locs cc nL own D cI cJ A N ad E σ) (hZ : ZZ A s s.heap) (hsub : subG N ad E N' ad' E' ι) (hM : MGx l y (Cond.code y bytes maxL ret :: BIG) fr lo D cI cJ N' ad' E' (.ref b :: As) σc σ1 0 (fun sz => Qgv D N' ad' E' σ1 sz)) (hσ : ∀ k : Nat, k < N' → σc k = σ (ι k)) (cal : CalV C y bytes maxL ret n) (hlk : Cond.methodLink own idx y ∈ BIG) (hR : fr + 1 ≤ R.frames ∧ 8 + (maxL + 11) + lo ≤ R.locals) (k0 : Nat) (hk0 : k0 < N') (hb0 : ad' k0 = b) {ci : Nat} {fs : List Value} {T : u_T} {NF : Nat} (he0 : E' k0 (σc k0) = .inr (ci, fs)) (hc0 : vwCl[ci]? = some (C, T, NF)) (hn : As.length = n) (hsize : ls.size = nL) (hW : (rest.map fun v => v.category).sum ≤ 8) (hstk : st0 = As.reverse ++ .ref b :: rest) (hdg : decode cc pc = .ok (.invokevirtual idx, 3)) (hcs : cells ≤ R.cells ∧ slots ≤ R.slots) (h1 : ∀ k : Nat, k < N' → τ (ι k) = σ1 k) (h2 : ∀ j : Nat, j < N → (∀ k : Nat, k < N' → ι k ≠ j) → τ j = σ j)
    (kk : ∀ (H : Heap) (locs : List Loc), va_P D vwCl (wsG N ad E τ) H → va_S A s.heap H locs → W p l e R s m args below meth c H locs cells slots Q (F0 m (pc + 3) ls rest)) : W p l e R s m args below meth c H locs cells slots Q (F0 m pc ls st0) := by
  have hpre := fun (U : State) (hU : U.heap = H) (hW : s.WarmedH U.vm) => preX (as := (.ref b :: As)) G hZ hsub hσ hU hW
  obtain ⟨S, hK, hi, hA, hAd, hP, hS⟩ := G
  have hPc := hsub.P hσ hP
  have hFc := hsub.free hS hA hAd
  refine va_callv (va_runV S (hM.1 rfl H.size) (cwV n S.2.2.2.2 (cal.good hlk) rfl rfl rfl cal.2.2.2.2 hR) ⟨blindX, va_recv hK.1 hPc hc0 ((wsG_get hk0).trans (by rw [hb0, he0])), hpre⟩ rfl hn hsize hstk (lv_room hW) hdg hcs) hS (fun q _ h => hFc q h) hFc (fun u t H1 locs1 ht hvm hw hB hz1 hk1 hS1 => ?_)
  have hB : va_P D vwCl (wsG N' ad' E' σ1) t.heap := hB
  rw [ht] at hB
  exact kk H1 locs1 (hsub.join hi hP hB hk1 h1 h2) hS1
theorem g_yVx {Qn : Nat → Array Value → State → Outcome → State → Prop} (G : Gc p s m args c H locs cc nL own D cI cJ A N ad E σ) (hZ : ZZ A s s.heap) (hsub : subG N ad E N' ad' E' ι) (hM : MGx l y (Cond.code y bytes maxL ret :: BIG) fr lo D cI cJ N' ad' E' (.ref b :: As) σc σ1 ex Qn) (hex : ¬ ex = 0) (hσ : ∀ k : Nat, k < N' → σc k = σ (ι k)) (cal : CalV C y bytes maxL ret n) (hlk : Cond.methodLink own idx y ∈ BIG) (hR : fr + 1 ≤ R.frames ∧ 8 + (maxL + 11) + lo ≤ R.locals) (k0 : Nat) (hk0 : k0 < N') (hb0 : ad' k0 = b) {ci : Nat} {fs : List Value} {T : u_T} {NF : Nat} (he0 : E' k0 (σc k0) = .inr (ci, fs)) (hc0 : vwCl[ci]? = some (C, T, NF)) (hn : As.length = n) (hsize : ls.size = nL) (hW : (rest.map fun v => v.category).sum ≤ 8) (hstk : st0 = As.reverse ++ .ref b :: rest) (hdg : decode cc pc = .ok (.invokevirtual idx, 3)) (hcs : cells + 1 ≤ R.cells ∧ slots + 6 ≤ R.slots) (h1 : ∀ k : Nat, k < N' → τ (ι k) = σ1 k) (h2 : ∀ j : Nat, j < N → (∀ k : Nat, k < N' → ι k ≠ j) → τ j = σ j)
    (kx : ∀ (q9 : Nat) (ce : Cell) (H : Heap) (locs : List Loc), va_P D vwCl (wsG N ad E τ) H → va_S A s.heap H locs → H[q9]? = some ce → ce.vm = .none → s.vm.findClass (exn ex) = some ce.cls → vx_W p l e R s m args below meth c H locs (cells + 1) (slots + 6) Q (F0 m pc ls rest) q9) : W p l e R s m args below meth c H locs cells slots Q (F0 m pc ls st0) := by
  have hpre := fun (U : State) (hU : U.heap = H) (hW : s.WarmedH U.vm) => preX (as := (.ref b :: As)) G hZ hsub hσ hU hW
  obtain ⟨S, hK, hi, hA, hAd, hP, hS⟩ := G
  have hPc := hsub.P hσ hP
  have hFc := hsub.free hS hA hAd
  refine vx_calli (vx_runV S (hM.2 hex H.size) (cwV n S.2.2.2.2 (cal.good hlk) rfl rfl rfl cal.2.2.2.2 hR) ⟨blindX, va_recv hK.1 hPc hc0 ((wsG_get hk0).trans (by rw [hb0, he0])), hpre⟩ rfl hn hsize hstk (lv_room hW) hdg hcs) hS (fun q _ h => hFc q h) hFc (fun q _ h => hFc q h) (fun En ce q9 u t H1 locs1 ht hvm hw hB hz1 hk1 hS1 hc1 hc2 hc3 => ?_) (fun r u t H1 locs1 ht hvm hw hB hz1 hk1 hS1 => hw.elim)
  obtain ⟨rfl, hB⟩ := hB
  rw [ht] at hB
  exact kx q9 ce H1 locs1 (hsub.join hi hP hB hk1 h1 h2) hS1 hc1 hc2 hc3
/-- calls of the law's own methods: without, with a table; an int, nothing -/
theorem preY {U : State} {as : List Value} (G : Gc p s m args c H locs cc nL own D cI cJ A N ad E σ) (hZ : ZZ A s s.heap) (hN : NC s) (hsub : subG N ad E N' ad' E' ι) (hσ : ∀ k : Nat, k < N' → σc k = σ (ι k)) (hU : U.heap = H) (hW : s.WarmedH U.vm) : va_Pc as (PreY D cI cJ N' ad' E' σc H.size) as.toArray U :=
  have h := preX (as := as) G hZ hsub hσ hU hW
  ⟨h.1, h.2, NC.moved hW.alike hN⟩
theorem g_yi (G : Gc p s m args c H locs cc nL own D cI cJ A N ad E σ) (hZ : ZZ A s s.heap) (hN : NC s) (hsub : subG N ad E N' ad' E' ι) (hM : MGY l y (Cond.code y bytes maxL ret) fr lo mc D cI cJ N' ad' E' As σc (fun sz => Qgi D N' ad' E' r σ1 sz)) (hσ : ∀ k : Nat, k < N' → σc k = σ (ι k)) (cal : CalS y bytes maxL ret n) (hlk : Cond.methodLink own idx y ∈ BIG) (hR : fr + 1 ≤ R.frames ∧ 8 + (maxL + 11) + lo ≤ R.locals) (hn : As.length = n) (hsize : ls.size = nL) (hW : (rest.map fun v => v.category).sum ≤ 8) (hstk : st0 = As.reverse ++ rest) (hdg : decode cc pc = .ok (.invokestatic idx, 3)) (hcs : cells + mc ≤ R.cells ∧ slots + 6 * mc ≤ R.slots) (h1 : ∀ k : Nat, k < N' → τ (ι k) = σ1 k) (h2 : ∀ j : Nat, j < N → (∀ k : Nat, k < N' → ι k ≠ j) → τ j = σ j)
    (kk : ∀ (H : Heap) (locs : List Loc), va_P D vwCl (wsG N ad E τ) H → va_S A s.heap H locs → W p l e R s m args below meth c H locs (cells + mc) (slots + 6 * mc) Q (F0 m (pc + 3) ls (.int r :: rest))) : W p l e R s m args below meth c H locs cells slots Q (F0 m pc ls st0) := by
  have hpre := fun (U : State) (hU : U.heap = H) (hW : s.WarmedH U.vm) => preY (as := As) G hZ hN hsub hσ hU hW
  obtain ⟨S, hK, hi, hA, hAd, hP, hS⟩ := G
  have hFc := hsub.free hS hA hAd
  refine va_calli (va_runS S (hM H.size) (va_cwS n S.2.2.2.2 (cal.good hlk) rfl rfl rfl cal.2.2.2 hR) ⟨blindY, hpre⟩ rfl hn hsize hstk (lv_room hW) hdg hcs) hS (fun q _ h => hFc q h) hFc (fun r' u t H1 locs1 ht hvm hw hB hz1 hk1 hS1 => ?_)
  have hB : va_P D vwCl (wsG N' ad' E' σ1) t.heap := hB
  rw [ht] at hB
  subst hw
  exact kk H1 locs1 (hsub.join hi hP hB hk1 h1 h2) hS1
theorem g_yv (G : Gc p s m args c H locs cc nL own D cI cJ A N ad E σ) (hZ : ZZ A s s.heap) (hN : NC s) (hsub : subG N ad E N' ad' E' ι) (hM : MGY l y (Cond.code y bytes maxL ret) fr lo mc D cI cJ N' ad' E' As σc (fun sz => Qgv D N' ad' E' σ1 sz)) (hσ : ∀ k : Nat, k < N' → σc k = σ (ι k)) (cal : CalS y bytes maxL ret n) (hlk : Cond.methodLink own idx y ∈ BIG) (hR : fr + 1 ≤ R.frames ∧ 8 + (maxL + 11) + lo ≤ R.locals) (hn : As.length = n) (hsize : ls.size = nL) (hW : (rest.map fun v => v.category).sum ≤ 8) (hstk : st0 = As.reverse ++ rest) (hdg : decode cc pc = .ok (.invokestatic idx, 3)) (hcs : cells + mc ≤ R.cells ∧ slots + 6 * mc ≤ R.slots) (h1 : ∀ k : Nat, k < N' → τ (ι k) = σ1 k) (h2 : ∀ j : Nat, j < N → (∀ k : Nat, k < N' → ι k ≠ j) → τ j = σ j)
    (kk : ∀ (H : Heap) (locs : List Loc), va_P D vwCl (wsG N ad E τ) H → va_S A s.heap H locs → W p l e R s m args below meth c H locs (cells + mc) (slots + 6 * mc) Q (F0 m (pc + 3) ls rest)) : W p l e R s m args below meth c H locs cells slots Q (F0 m pc ls st0) := by
  have hpre := fun (U : State) (hU : U.heap = H) (hW : s.WarmedH U.vm) => preY (as := As) G hZ hN hsub hσ hU hW
  obtain ⟨S, hK, hi, hA, hAd, hP, hS⟩ := G
  have hFc := hsub.free hS hA hAd
  refine va_callv (va_runS S (hM H.size) (va_cwS n S.2.2.2.2 (cal.good hlk) rfl rfl rfl cal.2.2.2 hR) ⟨blindY, hpre⟩ rfl hn hsize hstk (lv_room hW) hdg hcs) hS (fun q _ h => hFc q h) hFc (fun u t H1 locs1 ht hvm hw hB hz1 hk1 hS1 => ?_)
  have hB : va_P D vwCl (wsG N' ad' E' σ1) t.heap := hB
  rw [ht] at hB
  exact kk H1 locs1 (hsub.join hi hP hB hk1 h1 h2) hS1
theorem g_ti (G : Gc p s m args c H locs cc nL own D cI cJ A N ad E σ) (hZ : ZZ A s s.heap) (hN : NC s) (hsub : subG N ad E N' ad' E' ι) (hM : MGY l y (Cond.codeWith y bytes maxL ret hh) fr lo mc D cI cJ N' ad' E' As σc (fun sz => Qgi D N' ad' E' r σ1 sz)) (hσ : ∀ k : Nat, k < N' → σc k = σ (ι k)) (cal : CalT y bytes maxL ret hh n) (hlk : Cond.methodLink own idx y ∈ BIG) (hR : fr + 1 ≤ R.frames ∧ 8 + (maxL + 11) + lo ≤ R.locals) (hn : As.length = n) (hsize : ls.size = nL) (hW : (rest.map fun v => v.category).sum ≤ 8) (hstk : st0 = As.reverse ++ rest) (hdg : decode cc pc = .ok (.invokestatic idx, 3)) (hcs : cells + mc ≤ R.cells ∧ slots + 6 * mc ≤ R.slots) (h1 : ∀ k : Nat, k < N' → τ (ι k) = σ1 k) (h2 : ∀ j : Nat, j < N → (∀ k : Nat, k < N' → ι k ≠ j) → τ j = σ j)
    (kk : ∀ (H : Heap) (locs : List Loc), va_P D vwCl (wsG N ad E τ) H → va_S A s.heap H locs → W p l e R s m args below meth c H locs (cells + mc) (slots + 6 * mc) Q (F0 m (pc + 3) ls (.int r :: rest))) : W p l e R s m args below meth c H locs cells slots Q (F0 m pc ls st0) := by
  have hpre := fun (U : State) (hU : U.heap = H) (hW : s.WarmedH U.vm) => preY (as := As) G hZ hN hsub hσ hU hW
  obtain ⟨S, hK, hi, hA, hAd, hP, hS⟩ := G
  have hFc := hsub.free hS hA hAd
  refine va_calli (vx_runSW S (hM H.size) (vx_cwSW n S.2.2.2.2 (bigG fun w hw => by
    unfold va_wsS at hw
    rcases List.mem_append.mp hw with hw | hw
    · simp only [List.mem_cons, List.not_mem_nil, or_false] at hw
      rcases hw with rfl | rfl | rfl
      · exact hlk
      · exact cal.1
      · exact cal.2.1
    · rcases List.mem_cons.mp hw with rfl | hw
      · exact cal.2.2.1
      · exact hw) rfl rfl rfl cal.2.2.2 hR) ⟨blindY, hpre⟩ rfl hn hsize hstk (lv_room hW) hdg hcs) hS (fun q _ h => hFc q h) hFc (fun r' u t H1 locs1 ht hvm hw hB hz1 hk1 hS1 => ?_)
  have hB : va_P D vwCl (wsG N' ad' E' σ1) t.heap := hB
  rw [ht] at hB
  subst hw
  exact kk H1 locs1 (hsub.join hi hP hB hk1 h1 h2) hS1
/-! ends -/
theorem g_yret (hx : p.tables.exec = Jvm.exec) (hb : c.code = cc) (hr : meth.sig.returnType = some .int) (hlocks : meth.locks = false) (hP : va_P D vwCl (wsG N ad E σ) H) (hS : va_S (AG N ad s.heap.size) s.heap H locs) {r v : Int32} {σ' : Mem} (h1 : v = r) (h2 : σ = σ') (hdg : decode cc pc = .ok (.ireturn, 1)) :
    W p l e R s m args below meth c H locs mc (6 * mc) (MQ below (Qgi D N ad E r σ' s.heap.size) args s mc (6 * mc) (AG N ad s.heap.size)) (F0 m pc ls [.int v]) := by
  subst h1; subst h2
  exact W.iret hx hb hr (fun t ht _ => ⟨⟨v, (), rfl, rfl, by show va_P D vwCl _ t.heap; rw [ht]; exact hP⟩, hS.F ht⟩) hS.2.2 hdg
theorem g_yzret (hx : p.tables.exec = Jvm.exec) (hb : c.code = cc) (hr : meth.sig.returnType = some .boolean) (hlocks : meth.locks = false) (hP : va_P D vwCl (wsG N ad E σ) H) (hS : va_S (AG N ad s.heap.size) s.heap H locs) {r v : Int32} {σ' : Mem} (h0 : v = 0 ∨ v = 1) (h1 : v = r) (h2 : σ = σ') (hdg : decode cc pc = .ok (.ireturn, 1)) :
    W p l e R s m args below meth c H locs mc (6 * mc) (MQ below (Qgi D N ad E r σ' s.heap.size) args s mc (6 * mc) (AG N ad s.heap.size)) (F0 m pc ls [.int v]) := by
  subst h1; subst h2
  exact W.zret hx hb hr (by rcases h0 with rfl | rfl <;> rfl) (fun t ht _ => ⟨⟨v, (), rfl, rfl, by show va_P D vwCl _ t.heap; rw [ht]; exact hP⟩, hS.F ht⟩) hS.2.2 hdg
theorem g_yvret (hx : p.tables.exec = Jvm.exec) (hb : c.code = cc) (hr : meth.sig.returnType = none) (hlocks : meth.locks = false) (hP : va_P D vwCl (wsG N ad E σ) H) (hS : va_S (AG N ad s.heap.size) s.heap H locs) {σ' : Mem} (h2 : σ = σ') (hdg : decode cc pc = .ok (.return_, 1)) :
    W p l e R s m args below meth c H locs mc (6 * mc) (MQ below (Qgv D N ad E σ' s.heap.size) args s mc (6 * mc) (AG N ad s.heap.size)) (F0 m pc ls []) := by
  subst h2
  exact W.vret hx hb hr (fun t ht _ => ⟨⟨(), rfl, trivial, by show va_P D vwCl _ t.heap; rw [ht]; exact hP⟩, hS.F ht⟩) hS.2.2 hdg
/-- from three arrays more back to the group -/
theorem g_zzret (hx : p.tables.exec = Jvm.exec) (hb : c.code = cc) (hr : meth.sig.returnType = some .boolean) (hlocks : meth.locks = false) {adz : Nat → Nat} {Ez : Ent} {σz : Mem} {Nz : Nat} (hsub : subG Nz adz Ez N ad E (fun k => k)) (hP : va_P D vwCl (wsG Nz adz Ez σz) H) (hS : va_S (AG N ad s.heap.size) s.heap H locs) {r v : Int32} {σ' : Mem} (h0 : v = 0 ∨ v = 1) (h1 : v = r) (h2 : ∀ k, k < N → σz k = σ' k) (hdg : decode cc pc = .ok (.ireturn, 1)) :
    W p l e R s m args below meth c H locs mc (6 * mc) (MQ below (Qgi D N ad E r σ' s.heap.size) args s mc (6 * mc) (AG N ad s.heap.size)) (F0 m pc ls [.int v]) :=
  g_yzret hx hb hr hlocks (hsub.P (fun k hk => (h2 k hk).symm) hP) hS h0 h1 rfl hdg
/-- an exception is caught: by the first, by the second handler -/
theorem g_yc1 {ce : Cell} {q bb h : Nat} {suf : List (Nat × Nat × Nat × Nat)} {ex cx : Nat} (hce : (ex = 1 ∧ cx = 48) ∨ (ex = 3 ∧ cx = 50)) (hown : s.vm.findClass RL = some m.cls) (hB : ∀ w ∈ BIG, w.before args s = true) (hK : KK D cI cJ s) (hT : c.exceptionTable.toList = tableOf ((0, bb, h, cx) :: suf)) (hcov : pc < bb) (hc1 : H[q]? = some ce) (hc2 : ce.vm = .none) (hc3 : s.vm.findClass (exn ex) = some ce.cls)
    (kk : W p l e R s m args below meth c H locs cells slots Q (F0 m h ls [.ref q])) : vx_W p l e R s m args below meth c H locs cells slots Q (F0 m pc ls rest) q := by
  refine vx_catch (own := RL) (name := exn ex) (E := exn ex) hown [] ⟨0, bb, h, cx⟩ (tableOf suf) (by rw [hT]; rfl) (fun z hz => absurd hz List.not_mem_nil) ?_ (by show cx ≠ 0; rcases hce with ⟨-, rfl⟩ | ⟨-, rfl⟩ <;> decide) ?_ (va_Nw.use rfl (hK.2.2.2.1 (exn ex, exn ex) ?_)) hc1 hc2 hc3 kk
  · simp [covers, hcov]
  · rcases hce with ⟨rfl, rfl⟩ | ⟨rfl, rfl⟩
    · exact hB _ k_ct1
    · exact hB _ k_ct3
  · rcases hce with ⟨rfl, rfl⟩ | ⟨rfl, rfl⟩ <;> simp [CAL, exn]
theorem g_yc2 {ce : Cell} {q bb h0 b0 h : Nat} {suf : List (Nat × Nat × Nat × Nat)} (hown : s.vm.findClass RL = some m.cls) (hB : ∀ w ∈ BIG, w.before args s = true) (hK : KK D cI cJ s) (hN : NC s) (hT : c.exceptionTable.toList = tableOf ((0, b0, h0, 48) :: (0, bb, h, 50) :: suf)) (hcov : pc < bb) (hc1 : H[q]? = some ce) (hc2 : ce.vm = .none) (hc3 : s.vm.findClass (exn 3) = some ce.cls)
    (kk : W p l e R s m args below meth c H locs cells slots Q (F0 m h ls [.ref q])) : vx_W p l e R s m args below meth c H locs cells slots Q (F0 m pc ls rest) q := by
  refine vx_catch (own := RL) (name := exn 3) (E := exn 3) hown (tableOf [(0, b0, h0, 48)]) ⟨0, bb, h, 50⟩ (tableOf suf) (by rw [hT]; rfl) (fun z hz => ?_) ?_ (show (50 : Nat) ≠ 0 by decide) (hB _ k_ct3) (va_Nw.use rfl (hK.2.2.2.1 (exn 3, exn 3) ?_)) hc1 hc2 hc3 kk
  · obtain ⟨w, hw, rfl⟩ := List.mem_map.mp hz
    rcases List.mem_cons.mp hw with rfl | hw
    · exact Or.inr ⟨(show (48 : Nat) ≠ 0 by decide), exn 1, hB _ k_ct1, hN.2⟩
    · exact absurd hw List.not_mem_nil
  · simp [covers, hcov]
  · simp [CAL, exn]
/-! longs -/
theorem g_ylald (hx : p.tables.exec = Jvm.exec) (hb : c.code = cc) (hK : KK D cI cJ s) (hP : va_P D vwCl (wsG N ad E σ) H) (k : Nat) (hk : k < N) (hE : ∀ f : Nat → Int32, E k f = .inl (cJ, 60, .inr (.inl fun i => j64 (f (2 * i)) (f (2 * i + 1))))) {i : Int32} (hin : vp_in i 60) (hdg : decode cc pc = .ok (.laload, 1))
    (kk : W p l e R s m args below meth c H locs cells slots Q (F0 m (pc + 1) ls (.long (lrd σ k i.toNatClampNeg) :: rest))) : W p l e R s m args below meth c H locs cells slots Q (F0 m pc ls (.int i :: .ref (ad k) :: rest)) :=
  va_lald (cA := cJ) (n := 60) (f := fun j => j64 (σ k (2 * j)) (σ k (2 * j + 1))) hx hb hK.1 hP k 1 ((wsG_get hk).trans (by rw [hE])) rfl hin hdg kk
theorem g_ylast (hx : p.tables.exec = Jvm.exec) (hb : c.code = cc) (hK : KK D cI cJ s) (hP : va_P D vwCl (wsG N ad E σ) H) (hi : injG N ad) (hAd : ∀ k : Nat, k < N → A (ad k)) (hS : va_S A s.heap H locs) (k : Nat) (hk : k < N) (hE : ∀ f : Nat → Int32, E k f = .inl (cJ, 60, .inr (.inl fun i => j64 (f (2 * i)) (f (2 * i + 1))))) {i : Int32} {x : Int64} (hin : vp_in i 60) (hdg : decode cc pc = .ok (.lastore, 1)) {σ1 : Mem} (h1 : σ1 = lwr σ k i.toNatClampNeg x)
    (kk : ∀ (H : Heap) (locs : List Loc), va_P D vwCl (wsG N ad E σ1) H → va_S A s.heap H locs → W p l e R s m args below meth c H locs cells slots Q (F0 m (pc + 1) ls rest)) : W p l e R s m args below meth c H locs cells slots Q (F0 m pc ls (.long x :: .int i :: .ref (ad k) :: rest)) := by
  subst h1
  refine va_last (cA := cJ) (n := 60) (f := fun j => j64 (σ k (2 * j)) (σ k (2 * j + 1))) hx hb hK.1 hP (wsG_D hi hAd) hS k 1 ((wsG_get hk).trans (by rw [hE])) rfl hin hdg fun H1 locs1 hP1 _ hS1 => kk H1 locs1 ?_ hS1
  have e1 : vp_updL (fun j => j64 (σ k (2 * j)) (σ k (2 * j + 1))) i.toNatClampNeg x = fun j => j64 (lwr σ k i.toNatClampNeg x k (2 * j)) (lwr σ k i.toNatClampNeg x k (2 * j + 1)) := by
    funext j
    have := lrd_lwr σ k i.toNatClampNeg j x
    unfold lrd at this
    rw [this]
    rfl
  rw [e1, ← hE] at hP1
  have e2 : (wsG N ad E σ).set k (ad k, E k (lwr σ k i.toNatClampNeg x k)) = wsG N ad E (lwr σ k i.toNatClampNeg x) := by
    unfold lwr
    rw [← wsG_set hk (σ := mu σ k (2 * i.toNatClampNeg) (j64h x)) rfl, ← wsG_set hk (σ := σ) (i := 2 * i.toNatClampNeg) (v := j64h x) rfl, List.set_set]
    rw [mu_s]
  rw [e2] at hP1
  exact hP1
end YROWS
