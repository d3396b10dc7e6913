section GCALLS
variable {p : Program} {l : Launch} {e : Env} {R : Room} {s : State} {m : MethodId} {args : Array Value} {below : List Frame} {meth : Method} {c : Code} {H : Heap} {locs : List Loc} {cells slots : Nat} {Q : State → Prop}
variable {cc : ByteArray} {pc nL : Nat} {ls : Array Slot} {rest st0 : List Value} {D : va_G} {cI cJ : ClassId} {A : Nat → Prop} {N : Nat} {ad : Nat → Nat} {E : Ent} {σ : Mem}
variable {k0 N' : Nat} {ad' : Nat → Nat} {E' : Ent} {ι : Nat → Nat} {own C : String} {idx : Nat} {y : MethodName} {bytes : ByteArray} {maxL : Nat} {ret : Option FieldType} {n fr lo : Nat} {As : List Value} {b : Nat} {σc σ1 τ : Mem} {r : Int32}
/-- what the caller has: the machine, the tables, its group -/
def Gc (p : Program) (s : State) (m : MethodId) (args : Array Value) (c : Code) (H : Heap) (locs : List Loc) (cc : ByteArray) (nL : Nat) (own : String) (D : va_G) (cI cJ : ClassId) (A : Nat → Prop) (N : Nat) (ad : Nat → Nat) (E : Ent) (σ : Mem) : Prop :=
  CallFix p m c cc nL s args BIG own ∧ KK D cI cJ s ∧ injG N ad ∧ (∀ q : Nat, s.heap.size ≤ q → A q) ∧ (∀ k : Nat, k < N → A (ad k)) ∧ va_P D vwCl (wsG N ad E σ) H ∧ va_S A s.heap H locs
theorem g_cVi (G : Gc p s m args c H locs cc nL own D cI cJ A N ad E σ) (hsub : subG N ad E N' ad' E' ι) (hM : MGi l y (Cond.code y bytes maxL ret :: BIG) fr lo D cI cJ N' ad' E' (.ref b :: As) σc σ1 r) (hσ : ∀ k : Nat, k < N' → σc k = σ (ι k))
    (cal : CalV C y bytes maxL ret n) (hlk : Cond.methodLink own idx y ∈ BIG) (hR : fr + 1 ≤ R.frames ∧ 8 + (maxL + 11) + lo ≤ R.locals) (k0 : Nat) (hk0 : k0 < N') (hb0 : ad' k0 = b) {ci : Nat} {fs : List Value} {T : u_T} {NF : Nat} (he0 : E' k0 (σc k0) = .inr (ci, fs)) (hc0 : vwCl[ci]? = some (C, T, NF))
    (hn : As.length = n) (hsize : ls.size = nL) (hW : (rest.map fun v => v.category).sum ≤ 8) (hstk : st0 = As.reverse ++ .ref b :: rest) (hdg : decode cc pc = .ok (.invokevirtual idx, 3)) (hcs : cells ≤ R.cells ∧ slots ≤ R.slots)
    (h1 : ∀ k : Nat, k < N' → τ (ι k) = σ1 k) (h2 : ∀ j : Nat, j < N → (∀ k : Nat, k < N' → ι k ≠ j) → τ j = σ j)
    (kk : ∀ (H : Heap) (locs : List Loc), va_P D vwCl (wsG N ad E τ) H → va_S A s.heap H locs → W p l e R s m args below meth c H locs cells slots Q (F0 m (pc + 3) ls (.int r :: rest))) : W p l e R s m args below meth c H locs cells slots Q (F0 m pc ls st0) := by
  obtain ⟨S, hK, hi, hA, hAd, hP, hS⟩ := G
  have hPc := hsub.P hσ hP
  have hFc := hsub.free hS hA hAd
  refine va_calli (va_runV S (hM H.size) (cwV n S.2.2.2.2 (cal.good hlk) rfl rfl rfl cal.2.2.2.2 hR) ⟨blindG, va_recv hK.1 hPc hc0 ((wsG_get hk0).trans (by rw [hb0, he0])), fun U hU hW => ⟨rfl, by rw [hU], by rw [hU]; exact hPc, KK.warm hW hK⟩⟩ rfl hn hsize hstk (lv_room hW) hdg hcs) hS (fun q _ h => hFc q h) hFc (fun r' u t H1 locs1 ht hvm hw hB hz1 hk1 hS1 => ?_)
  have hB : va_P D vwCl (wsG N' ad' E' σ1) t.heap := hB
  rw [ht] at hB
  subst hw
  exact kk H1 locs1 (hsub.join hi hP hB hk1 h1 h2) hS1
theorem g_cVv (G : Gc p s m args c H locs cc nL own D cI cJ A N ad E σ) (hsub : subG N ad E N' ad' E' ι) (hM : MGv l y (Cond.code y bytes maxL ret :: BIG) fr lo D cI cJ N' ad' E' (.ref b :: As) σc σ1) (hσ : ∀ k : Nat, k < N' → σc k = σ (ι k))
    (cal : CalV C y bytes maxL ret n) (hlk : Cond.methodLink own idx y ∈ BIG) (hR : fr + 1 ≤ R.frames ∧ 8 + (maxL + 11) + lo ≤ R.locals) (k0 : Nat) (hk0 : k0 < N') (hb0 : ad' k0 = b) {ci : Nat} {fs : List Value} {T : u_T} {NF : Nat} (he0 : E' k0 (σc k0) = .inr (ci, fs)) (hc0 : vwCl[ci]? = some (C, T, NF))
    (hn : As.length = n) (hsize : ls.size = nL) (hW : (rest.map fun v => v.category).sum ≤ 8) (hstk : st0 = As.reverse ++ .ref b :: rest) (hdg : decode cc pc = .ok (.invokevirtual idx, 3)) (hcs : cells ≤ R.cells ∧ slots ≤ R.slots)
    (h1 : ∀ k : Nat, k < N' → τ (ι k) = σ1 k) (h2 : ∀ j : Nat, j < N → (∀ k : Nat, k < N' → ι k ≠ j) → τ j = σ j)
    (kk : ∀ (H : Heap) (locs : List Loc), va_P D vwCl (wsG N ad E τ) H → va_S A s.heap H locs → W p l e R s m args below meth c H locs cells slots Q (F0 m (pc + 3) ls rest)) : W p l e R s m args below meth c H locs cells slots Q (F0 m pc ls st0) := by
  obtain ⟨S, hK, hi, hA, hAd, hP, hS⟩ := G
  have hPc := hsub.P hσ hP
  have hFc := hsub.free hS hA hAd
  refine va_callv (va_runV S (hM H.size) (cwV n S.2.2.2.2 (cal.good hlk) rfl rfl rfl cal.2.2.2.2 hR) ⟨blindG, va_recv hK.1 hPc hc0 ((wsG_get hk0).trans (by rw [hb0, he0])), fun U hU hW => ⟨rfl, by rw [hU], by rw [hU]; exact hPc, KK.warm hW hK⟩⟩ rfl hn hsize hstk (lv_room hW) hdg hcs) hS (fun q _ h => hFc q h) hFc (fun u t H1 locs1 ht hvm hw hB hz1 hk1 hS1 => ?_)
  have hB : va_P D vwCl (wsG N' ad' E' σ1) t.heap := hB
  rw [ht] at hB
  exact kk H1 locs1 (hsub.join hi hP hB hk1 h1 h2) hS1
theorem g_cSi (G : Gc p s m args c H locs cc nL own D cI cJ A N ad E σ) (hsub : subG N ad E N' ad' E' ι) (hM : MGi l y (Cond.code y bytes maxL ret :: BIG) fr lo D cI cJ N' ad' E' As σc σ1 r) (hσ : ∀ k : Nat, k < N' → σc k = σ (ι k))
    (cal : CalS y bytes maxL ret n) (hlk : Cond.methodLink own idx y ∈ BIG) (hR : fr + 1 ≤ R.frames ∧ 8 + (maxL + 11) + lo ≤ R.locals)
    (hn : As.length = n) (hsize : ls.size = nL) (hW : (rest.map fun v => v.category).sum ≤ 8) (hstk : st0 = As.reverse ++ rest) (hdg : decode cc pc = .ok (.invokestatic idx, 3)) (hcs : cells ≤ R.cells ∧ slots ≤ R.slots)
    (h1 : ∀ k : Nat, k < N' → τ (ι k) = σ1 k) (h2 : ∀ j : Nat, j < N → (∀ k : Nat, k < N' → ι k ≠ j) → τ j = σ j)
    (kk : ∀ (H : Heap) (locs : List Loc), va_P D vwCl (wsG N ad E τ) H → va_S A s.heap H locs → W p l e R s m args below meth c H locs cells slots Q (F0 m (pc + 3) ls (.int r :: rest))) : W p l e R s m args below meth c H locs cells slots Q (F0 m pc ls st0) := by
  obtain ⟨S, hK, hi, hA, hAd, hP, hS⟩ := G
  have hPc := hsub.P hσ hP
  have hFc := hsub.free hS hA hAd
  refine va_calli (va_runS S (hM H.size) (va_cwS n S.2.2.2.2 (cal.good hlk) rfl rfl rfl cal.2.2.2 hR) ⟨blindG, fun U hU hW => ⟨rfl, by rw [hU], by rw [hU]; exact hPc, KK.warm hW hK⟩⟩ rfl hn hsize hstk (lv_room hW) hdg hcs) hS (fun q _ h => hFc q h) hFc (fun r' u t H1 locs1 ht hvm hw hB hz1 hk1 hS1 => ?_)
  have hB : va_P D vwCl (wsG N' ad' E' σ1) t.heap := hB
  rw [ht] at hB
  subst hw
  exact kk H1 locs1 (hsub.join hi hP hB hk1 h1 h2) hS1
theorem g_cSv (G : Gc p s m args c H locs cc nL own D cI cJ A N ad E σ) (hsub : subG N ad E N' ad' E' ι) (hM : MGv l y (Cond.code y bytes maxL ret :: BIG) fr lo D cI cJ N' ad' E' As σc σ1) (hσ : ∀ k : Nat, k < N' → σc k = σ (ι k))
    (cal : CalS y bytes maxL ret n) (hlk : Cond.methodLink own idx y ∈ BIG) (hR : fr + 1 ≤ R.frames ∧ 8 + (maxL + 11) + lo ≤ R.locals)
    (hn : As.length = n) (hsize : ls.size = nL) (hW : (rest.map fun v => v.category).sum ≤ 8) (hstk : st0 = As.reverse ++ rest) (hdg : decode cc pc = .ok (.invokestatic idx, 3)) (hcs : cells ≤ R.cells ∧ slots ≤ R.slots)
    (h1 : ∀ k : Nat, k < N' → τ (ι k) = σ1 k) (h2 : ∀ j : Nat, j < N → (∀ k : Nat, k < N' → ι k ≠ j) → τ j = σ j)
    (kk : ∀ (H : Heap) (locs : List Loc), va_P D vwCl (wsG N ad E τ) H → va_S A s.heap H locs → W p l e R s m args below meth c H locs cells slots Q (F0 m (pc + 3) ls rest)) : W p l e R s m args below meth c H locs cells slots Q (F0 m pc ls st0) := by
  obtain ⟨S, hK, hi, hA, hAd, hP, hS⟩ := G
  have hPc := hsub.P hσ hP
  have hFc := hsub.free hS hA hAd
  refine va_callv (va_runS S (hM H.size) (va_cwS n S.2.2.2.2 (cal.good hlk) rfl rfl rfl cal.2.2.2 hR) ⟨blindG, fun U hU hW => ⟨rfl, by rw [hU], by rw [hU]; exact hPc, KK.warm hW hK⟩⟩ rfl hn hsize hstk (lv_room hW) hdg hcs) hS (fun q _ h => hFc q h) hFc (fun u t H1 locs1 ht hvm hw hB hz1 hk1 hS1 => ?_)
  have hB : va_P D vwCl (wsG N' ad' E' σ1) t.heap := hB
  rw [ht] at hB
  exact kk H1 locs1 (hsub.join hi hP hB hk1 h1 h2) hS1
/-- a static method of a nest mate -/
theorem g_cNi {host : String} (G : Gc p s m args c H locs cc nL own D cI cJ A N ad E σ) (hsub : subG N ad E N' ad' E' ι) (hM : MGi l y (Cond.code y bytes maxL ret :: BIG) fr lo D cI cJ N' ad' E' As σc σ1 r) (hσ : ∀ k : Nat, k < N' → σc k = σ (ι k))
    (cal : CalS y bytes maxL ret n) (hlk : (own, idx, y, host) ∈ NWL) (hR : fr + 1 ≤ R.frames ∧ 8 + (maxL + 11) + lo ≤ R.locals)
    (hn : As.length = n) (hsize : ls.size = nL) (hW : (rest.map fun v => v.category).sum ≤ 8) (hstk : st0 = As.reverse ++ rest) (hdg : decode cc pc = .ok (.invokestatic idx, 3)) (hcs : cells ≤ R.cells ∧ slots ≤ R.slots)
    (h1 : ∀ k : Nat, k < N' → τ (ι k) = σ1 k) (h2 : ∀ j : Nat, j < N → (∀ k : Nat, k < N' → ι k ≠ j) → τ j = σ j)
    (kk : ∀ (H : Heap) (locs : List Loc), va_P D vwCl (wsG N ad E τ) H → va_S A s.heap H locs → W p l e R s m args below meth c H locs cells slots Q (F0 m (pc + 3) ls (.int r :: rest))) : W p l e R s m args below meth c H locs cells slots Q (F0 m pc ls st0) := by
  obtain ⟨S, hK, hi, hA, hAd, hP, hS⟩ := G
  have hPc := hsub.P hσ hP
  have hFc := hsub.free hS hA hAd
  refine va_calli (va_runSN S (hM H.size) ⟨va_cnB n S.2.2.2.2 cal.goodN rfl rfl rfl (hK.2.1 _ hlk) (S.2.2.2.2 _ cal.2.1) cal.2.2.2 hR, S.2.2.2.2 _ cal.1, trivial⟩ ⟨blindG, fun U hU hW => ⟨rfl, by rw [hU], by rw [hU]; exact hPc, KK.warm hW hK⟩⟩ rfl hn hsize hstk (lv_room hW) hdg hcs) hS (fun q _ h => hFc q h) hFc (fun r' u t H1 locs1 ht hvm hw hB hz1 hk1 hS1 => ?_)
  have hB : va_P D vwCl (wsG N' ad' E' σ1) t.heap := hB
  rw [ht] at hB
  subst hw
  exact kk H1 locs1 (hsub.join hi hP hB hk1 h1 h2) hS1
/-! a callee without cells; of the same group -/
theorem sub0 : subG N ad E 0 ad E (fun k => k) := fun k h => absurd h (Nat.not_lt_zero k)
theorem g_cSi0 (G : Gc p s m args c H locs cc nL own D cI cJ A N ad E σ) (hM : MGi l y (Cond.code y bytes maxL ret :: BIG) fr lo D cI cJ 0 ad E As σ σ r)
    (cal : CalS y bytes maxL ret n) (hlk : Cond.methodLink own idx y ∈ BIG) (hR : fr + 1 ≤ R.frames ∧ 8 + (maxL + 11) + lo ≤ R.locals)
    (hn : As.length = n) (hsize : ls.size = nL) (hW : (rest.map fun v => v.category).sum ≤ 8) (hstk : st0 = As.reverse ++ rest) (hdg : decode cc pc = .ok (.invokestatic idx, 3)) (hcs : cells ≤ R.cells ∧ slots ≤ R.slots)
    (kk : ∀ (H : Heap) (locs : List Loc), va_P D vwCl (wsG N ad E σ) H → va_S A s.heap H locs → W p l e R s m args below meth c H locs cells slots Q (F0 m (pc + 3) ls (.int r :: rest))) : W p l e R s m args below meth c H locs cells slots Q (F0 m pc ls st0) :=
  g_cSi G sub0 hM (fun _ _ => rfl) cal hlk hR hn hsize hW hstk hdg hcs (fun k h => absurd h (Nat.not_lt_zero k)) (fun _ _ _ => rfl) kk
theorem g_cNi0 {host : String} (G : Gc p s m args c H locs cc nL own D cI cJ A N ad E σ) (hM : MGi l y (Cond.code y bytes maxL ret :: BIG) fr lo D cI cJ 0 ad E As σ σ r)
    (cal : CalS y bytes maxL ret n) (hlk : (own, idx, y, host) ∈ NWL) (hR : fr + 1 ≤ R.frames ∧ 8 + (maxL + 11) + lo ≤ R.locals)
    (hn : As.length = n) (hsize : ls.size = nL) (hW : (rest.map fun v => v.category).sum ≤ 8) (hstk : st0 = As.reverse ++ rest) (hdg : decode cc pc = .ok (.invokestatic idx, 3)) (hcs : cells ≤ R.cells ∧ slots ≤ R.slots)
    (kk : ∀ (H : Heap) (locs : List Loc), va_P D vwCl (wsG N ad E σ) H → va_S A s.heap H locs → W p l e R s m args below meth c H locs cells slots Q (F0 m (pc + 3) ls (.int r :: rest))) : W p l e R s m args below meth c H locs cells slots Q (F0 m pc ls st0) :=
  g_cNi G sub0 hM (fun _ _ => rfl) cal hlk hR hn hsize hW hstk hdg hcs (fun k h => absurd h (Nat.not_lt_zero k)) (fun _ _ _ => rfl) kk
theorem g_cViS (G : Gc p s m args c H locs cc nL own D cI cJ A N ad E σ) (hM : MGi l y (Cond.code y bytes maxL ret :: BIG) fr lo D cI cJ N ad E (.ref (ad k0) :: As) σ σ1 r)
    (cal : CalV C y bytes maxL ret n) (hlk : Cond.methodLink own idx y ∈ BIG) (hR : fr + 1 ≤ R.frames ∧ 8 + (maxL + 11) + lo ≤ R.locals) (hk0 : k0 < N) {ci : Nat} {fs : List Value} {T : u_T} {NF : Nat} (he0 : E k0 (σ k0) = .inr (ci, fs)) (hc0 : vwCl[ci]? = some (C, T, NF))
    (hn : As.length = n) (hsize : ls.size = nL) (hW : (rest.map fun v => v.category).sum ≤ 8) (hstk : st0 = As.reverse ++ .ref (ad k0) :: rest) (hdg : decode cc pc = .ok (.invokevirtual idx, 3)) (hcs : cells ≤ R.cells ∧ slots ≤ R.slots)
    (kk : ∀ (H : Heap) (locs : List Loc), va_P D vwCl (wsG N ad E σ1) H → va_S A s.heap H locs → W p l e R s m args below meth c H locs cells slots Q (F0 m (pc + 3) ls (.int r :: rest))) : W p l e R s m args below meth c H locs cells slots Q (F0 m pc ls st0) :=
  g_cVi G subG.rf hM (fun _ _ => rfl) cal hlk hR k0 hk0 rfl he0 hc0 hn hsize hW hstk hdg hcs (fun _ _ => rfl) (fun j hj h => absurd rfl (h j hj)) kk
theorem g_cVvS (G : Gc p s m args c H locs cc nL own D cI cJ A N ad E σ) (hM : MGv l y (Cond.code y bytes maxL ret :: BIG) fr lo D cI cJ N ad E (.ref (ad k0) :: As) σ σ1)
    (cal : CalV C y bytes maxL ret n) (hlk : Cond.methodLink own idx y ∈ BIG) (hR : fr + 1 ≤ R.frames ∧ 8 + (maxL + 11) + lo ≤ R.locals) (hk0 : k0 < N) {ci : Nat} {fs : List Value} {T : u_T} {NF : Nat} (he0 : E k0 (σ k0) = .inr (ci, fs)) (hc0 : vwCl[ci]? = some (C, T, NF))
    (hn : As.length = n) (hsize : ls.size = nL) (hW : (rest.map fun v => v.category).sum ≤ 8) (hstk : st0 = As.reverse ++ .ref (ad k0) :: rest) (hdg : decode cc pc = .ok (.invokevirtual idx, 3)) (hcs : cells ≤ R.cells ∧ slots ≤ R.slots)
    (kk : ∀ (H : Heap) (locs : List Loc), va_P D vwCl (wsG N ad E σ1) H → va_S A s.heap H locs → W p l e R s m args below meth c H locs cells slots Q (F0 m (pc + 3) ls rest)) : W p l e R s m args below meth c H locs cells slots Q (F0 m pc ls st0) :=
  g_cVv G subG.rf hM (fun _ _ => rfl) cal hlk hR k0 hk0 rfl he0 hc0 hn hsize hW hstk hdg hcs (fun _ _ => rfl) (fun j hj h => absurd rfl (h j hj)) kk
/-! the contract out of the walk -/
theorem MGi.ofW {ws : List Cond} {as : List Value} {σ' : Mem} (hy : plainName y.cls = true) (hw : ws = Cond.code y cc nL ret :: BIG) (hi : injG N ad)
    (body : ∀ p e s m args below meth c, p.tables.exec = Jvm.exec → c.code = cc → meth.sig.returnType = ret → c.maxLocals = nL → meth.locks = false → s.vm.findClass y.cls = some m.cls → (∀ w ∈ BIG, w.before args s = true) → KK D cI cJ s → va_P D vwCl (wsG N ad E σ) s.heap → (∀ q : Nat, s.heap.size ≤ q → AG N ad s.heap.size q) → (∀ k : Nat, k < N → AG N ad s.heap.size (ad k)) → va_S (AG N ad s.heap.size) s.heap s.heap [] →
      W p l e ({ frames := fr, cells := 0, slots := 0, locals := lo }) s m args below meth c s.heap [] 0 0 (MQ below (Qgi D N ad E r σ' s.heap.size) args s 0 0 (AG N ad s.heap.size)) (entryFrame m as.toArray nL)) : MGi l y ws fr lo D cI cJ N ad E as σ σ' r := by
  intro sz
  subst hw
  refine Met.ofW (cc := cc) (maxL := nL) (ret := ret) hy rfl ?_
  intro p e s m args below meth c s₁ B hml hv
  obtain ⟨rfl, hsz, hP, hK⟩ := hv
  subst hsz
  exact body p e s m _ below meth c B.exec B.bytes B.returns hml B.notSynchronized (findClass_of_methodNamed B.named) (bigH (atoms_spec (ws := Cond.code y cc nL ret :: BIG) B.pre)) hK hP (fun q h => Or.inr h) (fun k h => Or.inl ⟨k, h, rfl⟩) va_S.rf
theorem MGv.ofW {ws : List Cond} {as : List Value} {σ' : Mem} (hy : plainName y.cls = true) (hw : ws = Cond.code y cc nL ret :: BIG) (hi : injG N ad)
    (body : ∀ p e s m args below meth c, p.tables.exec = Jvm.exec → c.code = cc → meth.sig.returnType = ret → c.maxLocals = nL → meth.locks = false → s.vm.findClass y.cls = some m.cls → (∀ w ∈ BIG, w.before args s = true) → KK D cI cJ s → va_P D vwCl (wsG N ad E σ) s.heap → (∀ q : Nat, s.heap.size ≤ q → AG N ad s.heap.size q) → (∀ k : Nat, k < N → AG N ad s.heap.size (ad k)) → va_S (AG N ad s.heap.size) s.heap s.heap [] →
      W p l e ({ frames := fr, cells := 0, slots := 0, locals := lo }) s m args below meth c s.heap [] 0 0 (MQ below (Qgv D N ad E σ' s.heap.size) args s 0 0 (AG N ad s.heap.size)) (entryFrame m as.toArray nL)) : MGv l y ws fr lo D cI cJ N ad E as σ σ' := by
  intro sz
  subst hw
  refine Met.ofW (cc := cc) (maxL := nL) (ret := ret) hy rfl ?_
  intro p e s m args below meth c s₁ B hml hv
  obtain ⟨rfl, hsz, hP, hK⟩ := hv
  subst hsz
  exact body p e s m _ below meth c B.exec B.bytes B.returns hml B.notSynchronized (findClass_of_methodNamed B.named) (bigH (atoms_spec (ws := Cond.code y cc nL ret :: BIG) B.pre)) hK hP (fun q h => Or.inr h) (fun k h => Or.inl ⟨k, h, rfl⟩) va_S.rf
end GCALLS
