/-! THE LAW'S HELPERS: the council's cells and the array for an answer -/
def EY (ad : Nat → Nat) (cI cJ : ClassId) : Ent := fun k f => if k < 51 then EX ad cI k f else .inl (cJ, 1, .inr (.inl fun i => (f i).toInt64))
theorem EY_x {ad : Nat → Nat} {cI cJ : ClassId} {k : Nat} (h : k < 51) : EY ad cI cJ k = EX ad cI k := by
  funext f; exact if_pos h
theorem EY_o {ad : Nat → Nat} {cI cJ : ClassId} (f : Nat → Int32) : EY ad cI cJ 51 f = .inl (cJ, 1, .inr (.inl fun i => (f i).toInt64)) := if_neg (by decide)
theorem sub_Y {ad : Nat → Nat} {cI cJ : ClassId} : subG 52 ad (EY ad cI cJ) 51 ad (EX ad cI) (fun k => k) := fun k h => ⟨by (try dsimp only); omega, rfl, (EY_x h).symm⟩
def NC (U : State) : Prop := ∀ a b : Nat, 1 ≤ a → a ≤ 3 → 1 ≤ b → b ≤ 3 → a ≠ b → va_Nc (exn a) (exn b) U
theorem NC.moved {u U : State} (hvm : u.vm.Alike U.vm) (h : NC u) : NC U := fun a b h1 h2 h3 h4 h5 => va_Nc.moved hvm (h a b h1 h2 h3 h4 h5)
def PreY (D : va_G) (cI cJ : ClassId) (ad : Nat → Nat) (σ : Mem) (sz : Nat) (U : State) : Prop := PreX D cI cJ 52 ad (EY ad cI cJ) σ sz U ∧ NC U
theorem blindY {as : List Value} {D : va_G} {cI cJ : ClassId} {ad : Nat → Nat} {σ : Mem} {sz : Nat} : FrameBlind (va_Pc as (PreY D cI cJ ad σ sz)) := fun _ _ _ _ h => ⟨h.1, ⟨⟨h.2.1.1.1, h.2.1.1.2.1, KK.same rfl h.2.1.1.2.2⟩, ZZ.moved (Vm.Alike.refl _) h.2.1.2⟩, NC.moved (Vm.Alike.refl _) h.2.2⟩
def MGy (l : Launch) (y : MethodName) (cc : ByteArray) (nL : Nat) (hh : List (Nat × Nat × Nat × Nat)) (fr lo : Nat) (D : va_G) (cI cJ : ClassId) (ad : Nat → Nat) (as : List Value) (σ σ' : Mem) (r : Int32) : Prop :=
  ∀ sz : Nat, Met l y (Cond.codeWith y cc nL (some .int) hh :: BIG) ({ frames := fr, cells := 1, slots := 6, locals := lo }) (va_Pc as (PreY D cI cJ ad σ sz)) (Qgi D 52 ad (EY ad cI cJ) r σ' sz) 1 6 (AG 52 ad sz)
def exCt : Nat → Nat | 1 => 13 | 2 => 15 | _ => 17
theorem k_ct1 : Cond.classLink RL 13 (exn 1) ∈ BIG := by decide +kernel
theorem k_ct2 : Cond.classLink RL 15 (exn 2) ∈ BIG := by decide +kernel
theorem k_ct3 : Cond.classLink RL 17 (exn 3) ∈ BIG := by decide +kernel
theorem k_ct {e : Nat} (h1 : 1 ≤ e) (h2 : e ≤ 3) : Cond.classLink RL (exCt e) (exn e) ∈ BIG := by
  rcases (show e = 1 ∨ e = 2 ∨ e = 3 by omega) with rfl | rfl | rfl
  · exact k_ct1
  · exact k_ct2
  · exact k_ct3
theorem k_ca {e : Nat} (h1 : 1 ≤ e) (h2 : e ≤ 3) : (exn e, exn e) ∈ CAL := by
  rcases (show e = 1 ∨ e = 2 ∨ e = 3 by omega) with rfl | rfl | rfl <;> simp [CAL, exn]
section YROWS
variable {p : Program} {l : Launch} {e : Env} {R : Room} {s : State} {m : MethodId} {args : Array Value} {below : List Frame} {meth : Method} {c : Code} {H : Heap} {locs : List Loc} {cells slots : Nat} {Q : State → Prop}
variable {cc : ByteArray} {pc nL : Nat} {ls : Array Slot} {rest st0 : List Value} {D : va_G} {cI cJ : ClassId} {A : Nat → Prop} {N : Nat} {ad : Nat → Nat} {E : Ent} {σ : Mem} {y : MethodName} {hh : List (Nat × Nat × Nat × Nat)} {fr lo : Nat}
theorem MGy.ofW {as : List Value} {σ' : Mem} {r : Int32} (hy : plainName y.cls = true) (hi : injG 52 ad)
    (body : ∀ p e s m args below meth c, p.tables.exec = Jvm.exec → c.code = cc → meth.sig.returnType = some .int → c.maxLocals = nL → meth.locks = false → c.exceptionTable.toList = tableOf hh → s.vm.findClass y.cls = some m.cls → (∀ w ∈ BIG, w.before args s = true) → KK D cI cJ s → ZZ (AG 52 ad s.heap.size) s s.heap → NC s → va_P D vwCl (wsG 52 ad (EY ad cI cJ) σ) s.heap → (∀ q : Nat, s.heap.size ≤ q → AG 52 ad s.heap.size q) → (∀ k : Nat, k < 52 → AG 52 ad s.heap.size (ad k)) → va_S (AG 52 ad s.heap.size) s.heap s.heap [] →
      W p l e ({ frames := fr, cells := 1, slots := 6, locals := lo }) s m args below meth c s.heap [] 0 0 (MQ below (Qgi D 52 ad (EY ad cI cJ) r σ' s.heap.size) args s 1 6 (AG 52 ad s.heap.size)) (entryFrame m as.toArray nL)) : MGy l y cc nL hh fr lo D cI cJ ad as σ σ' r := by
  intro sz
  refine MetFree.of_bodyS (code := cc) (maxLocals := nL) (ret := some .int) hy ?_ ?_
  · intro args s m h hn
    obtain ⟨m9, meth, c, hn9, h1, h2, h3, h4, -, h5, h6, -⟩ := Cond.codeWith_spec (atoms_spec (ws := Cond.codeWith y cc nL (some .int) hh :: BIG) h _ List.mem_cons_self)
    cases hn.symm.trans hn9
    exact ⟨meth, c, h1, h2, h3, h4, h5, h6⟩
  · intro p e s m args below meth c s₁ B hml hv _
    have hh0 : s₁.heap = s.heap := by rw [B.state]; rfl
    obtain ⟨rfl, ⟨⟨hsz, hP, hK⟩, hZ⟩, hN⟩ := hv
    subst hsz
    have hat := atoms_spec (ws := Cond.codeWith y cc nL (some .int) hh :: BIG) B.pre
    obtain ⟨t, a1, o, b1, b2, b3⟩ := body p e s m _ below meth c B.exec B.bytes B.returns hml B.notSynchronized (vx_table (x := y) B (hat _ List.mem_cons_self)) (findClass_of_methodNamed B.named) (bigH hat) hK hZ hN hP (fun q h => Or.inr h) (fun k h => Or.inl ⟨k, h, rfl⟩) va_S.rf s₁ hh0 (Stand.of_body B)
    exact ⟨t, o, a1, b1, b2, ⟨b3.1, b3.2⟩⟩
theorem g_last (hx : p.tables.exec = Jvm.exec) (hb : c.code = cc) (hK : KK D cI cJ s) (hP : va_P D vwCl (wsG N ad E σ) H) (hi : injG N ad) (hAd : ∀ k : Nat, k < N → A (ad k)) (hS : va_S A s.heap H locs) (k : Nat) (hk : k < N) (hE : ∀ f, E k f = .inl (cJ, 1, .inr (.inl fun i => (f i).toInt64))) {x : Int32} (hdg : decode cc pc = .ok (.lastore, 1))
    (kk : ∀ (H : Heap) (locs : List Loc), va_P D vwCl (wsG N ad E (mu σ k 0 x)) H → va_S A s.heap H locs → W p l e R s m args below meth c H locs cells slots Q (F0 m (pc + 1) ls rest)) : W p l e R s m args below meth c H locs cells slots Q (F0 m pc ls (.long x.toInt64 :: .int 0 :: .ref (ad k) :: rest)) := by
  refine va_last hx hb hK.1 hP (wsG_D hi hAd) hS k 1 ((wsG_get hk).trans (by rw [hE])) rfl (vp_in_nI (n := 0) (N := 1) (by decide) (by decide)) hdg fun H1 locs1 hP1 _ hS1 => kk H1 locs1 ?_ hS1
  have hu : (fun i => (upd (σ k) 0 x i).toInt64) = vp_updL (fun i => (σ k i).toInt64) 0 x.toInt64 := by
    funext j
    unfold upd vp_updL
    by_cases q : j = 0
    · rw [if_pos q, if_pos q]
    · rw [if_neg q, if_neg q]
  rw [show (0 : Int32).toNatClampNeg = 0 from rfl, ← hu, wsG_set hk (hE (upd (σ k) 0 x)).symm] at hP1
  exact hP1
theorem g_iretY (hx : p.tables.exec = Jvm.exec) (hb : c.code = cc) (hr : meth.sig.returnType = some .int) (hlocks : meth.locks = false) (hP : va_P D vwCl (wsG N ad E σ) H) (hS : va_S (AG N ad s.heap.size) s.heap H locs) {r v : Int32} {σ' : Mem} (h1 : v = r) (h2 : ∀ k : Nat, k < N → σ k = σ' k) (hdg : decode cc pc = .ok (.ireturn, 1)) :
    W p l e R s m args below meth c H locs 1 6 (MQ below (Qgi D N ad E r σ' s.heap.size) args s 1 6 (AG N ad s.heap.size)) (F0 m pc ls [.int v]) := by
  subst h1
  rw [wsG_congr h2] at hP
  exact W.iret hx hb hr (fun t ht _ => ⟨⟨v, (), rfl, rfl, by show va_P D vwCl _ t.heap; rw [ht]; exact hP⟩, hS.F ht⟩) hS.2.2 hdg
theorem g_catch {ex : Nat} {ce : Cell} {q : Nat} (hown : s.vm.findClass RL = some m.cls) (hB : ∀ w ∈ BIG, w.before args s = true) (hK : KK D cI cJ s) (hN : NC s) (hT : c.exceptionTable.toList = tableOf hh) (h1 : 1 ≤ ex) (h3 : ex ≤ 3) (pre : List (Nat × Nat × Nat × Nat)) (b h : Nat) (suf : List (Nat × Nat × Nat × Nat)) (hsp : hh = pre ++ (0, b, h, exCt ex) :: suf) (hpre : ∀ z ∈ pre, ∃ a, 1 ≤ a ∧ a ≤ 3 ∧ ex ≠ a ∧ z.2.2.2 = exCt a) (hcov : pc < b) (hc1 : H[q]? = some ce) (hc2 : ce.vm = .none) (hc3 : s.vm.findClass (exn ex) = some ce.cls)
    (kk : W p l e R s m args below meth c H locs cells slots Q (F0 m h ls [.ref q])) : vx_W p l e R s m args below meth c H locs cells slots Q (F0 m pc ls rest) q := by
  have hne : ∀ a, exCt a ≠ 0 := fun a => by unfold exCt; split <;> decide
  refine vx_catch (own := RL) (name := exn ex) (E := exn ex) hown (tableOf pre) ⟨0, b, h, exCt ex⟩ (tableOf suf) (by rw [hT, hsp]; unfold tableOf; rw [List.map_append, List.map_cons]) (fun z hz => ?_) ?_ (hne ex) (hB _ (k_ct h1 h3)) (va_Nw.use rfl (hK.2.2.2.1 _ (k_ca h1 h3))) hc1 hc2 hc3 kk
  · obtain ⟨w, hw, rfl⟩ := List.mem_map.mp hz
    obtain ⟨a, a1, a2, a3, a4⟩ := hpre w hw
    refine Or.inr ⟨by show w.2.2.2 ≠ 0; rw [a4]; exact hne a, exn a, ?_, hN ex a h1 h3 a1 a2 a3⟩
    show (Cond.classLink RL w.2.2.2 (exn a)).before args s = true
    rw [a4]
    exact hB _ (k_ct a1 a2)
  · simp [covers, hcov]
end YROWS
