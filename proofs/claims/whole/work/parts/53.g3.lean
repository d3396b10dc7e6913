/-! THE LAW: the council (0 to 50), the array for an answer (51), the reference (52 to 76) -/
def EZ (ad : Nat → Nat) (cI cJ : ClassId) : Ent := fun k f => if k < 52 then EY ad cI cJ k f else EM (fun j => ad (j + 52)) cI (k - 52) f
def sh2 (ρ : Mem) : Mem := fun k => ρ (k + 52)
def mgZ (σ ρ : Mem) : Mem := fun k => if k < 52 then σ k else ρ k
def mgM (μ ρ : Mem) : Mem := fun k => if 52 ≤ k then μ (k - 52) else ρ k
theorem sh2_Z (σ ρ : Mem) : sh2 (mgZ σ ρ) = sh2 ρ := by
  funext k
  show (if k + 52 < 52 then σ (k + 52) else ρ (k + 52)) = ρ (k + 52)
  rw [if_neg (by omega)]
theorem sh2_M (μ ρ : Mem) : sh2 (mgM μ ρ) = μ := by
  funext k
  show (if 52 ≤ k + 52 then μ (k + 52 - 52) else ρ (k + 52)) = μ k
  rw [if_pos (by omega), Nat.add_sub_cancel]
theorem EZ_y {ad : Nat → Nat} {cI cJ : ClassId} {k : Nat} (h : k < 52) : EZ ad cI cJ k = EY ad cI cJ k := by
  funext f; exact if_pos h
theorem EZ_m {ad : Nat → Nat} {cI cJ : ClassId} {k : Nat} : EZ ad cI cJ (k + 52) = EM (fun j => ad (j + 52)) cI k := by
  funext f
  show (if k + 52 < 52 then _ else EM (fun j => ad (j + 52)) cI (k + 52 - 52) f) = _
  rw [if_neg (by omega), Nat.add_sub_cancel]
theorem EZ_o {ad : Nat → Nat} {cI cJ : ClassId} (f : Nat → Int32) : EZ ad cI cJ 51 f = .inl (cJ, 1, .inr (.inl fun i => (f i).toInt64)) := (congrFun (EZ_y (by decide)) f).trans (EY_o f)
theorem sub_ZY {ad : Nat → Nat} {cI cJ : ClassId} : subG 77 ad (EZ ad cI cJ) 52 ad (EY ad cI cJ) (fun k => k) := fun k h => ⟨by (try dsimp only); omega, rfl, (EZ_y h).symm⟩
theorem sub_ZX {ad : Nat → Nat} {cI cJ : ClassId} : subG 77 ad (EZ ad cI cJ) 51 ad (EX ad cI) (fun k => k) := fun k h => ⟨by (try dsimp only); omega, rfl, ((EZ_y (by omega)).trans (EY_x h)).symm⟩
theorem sub_ZM {ad : Nat → Nat} {cI cJ : ClassId} : subG 77 ad (EZ ad cI cJ) 25 (fun j => ad (j + 52)) (EM (fun j => ad (j + 52)) cI) (fun k => k + 52) := fun k h => ⟨by (try dsimp only); omega, rfl, EZ_m.symm⟩
theorem inj77 {ad : Nat → Nat} (hi : injG 77 ad) : injG 52 ad := fun i j h1 h2 e => hi i j (by omega) (by omega) e
theorem inj77M {ad : Nat → Nat} (hi : injG 77 ad) : injG 25 (fun j => ad (j + 52)) := fun i j h1 h2 e => by
  have := hi (i + 52) (j + 52) (by omega) (by omega) e
  omega
section LROWS
variable {p : Program} {l : Launch} {e : Env} {R : Room} {s : State} {m : MethodId} {args : Array Value} {below : List Frame} {meth : Method} {c : Code} {H : Heap} {locs : List Loc} {cells slots : Nat} {Q : State → Prop}
variable {cc : ByteArray} {pc nL : Nat} {ls : Array Slot} {rest st0 : List Value} {D : va_G} {cI cJ : ClassId} {A : Nat → Prop} {ad : Nat → Nat} {ρ σr : Mem} {y : MethodName} {hh : List (Nat × Nat × Nat × Nat)} {fr lo n idx : Nat} {As : List Value} {r : Int32} {own : String} {bytes : ByteArray} {maxL : Nat}
/-- the call of a helper -/
theorem g_cY (G : Gc p s m args c H locs cc nL own D cI cJ A 77 ad (EZ ad cI cJ) ρ) (hZ : ZZ A s s.heap) (hN : NC s) (hM : MGy l y bytes maxL hh fr lo D cI cJ ad As ρ σr r) (hcode : Cond.codeWith y bytes maxL (some .int) hh ∈ BIG) (hst : Cond.static y ∈ BIG) (hini : Cond.initialized y.cls ∈ BIG) (hlk : Cond.methodLink own idx y ∈ BIG) (hd : y.cls ≠ "java/lang/invoke/MethodHandle" ∧ y.cls ≠ "java/lang/invoke/VarHandle" ∧ (parseMethodDescriptor y.desc).map (fun d => d.parameters.length) = some n)
    (hR : fr + 1 ≤ R.frames ∧ 8 + (maxL + 11) + lo ≤ R.locals) (hn : As.length = n) (hsize : ls.size = nL) (hW : (rest.map fun v => v.category).sum ≤ 8) (hstk : st0 = As.reverse ++ rest) (hdg : decode cc pc = .ok (.invokestatic idx, 3)) (hcs : cells + 1 ≤ R.cells ∧ slots + 6 ≤ R.slots)
    (kk : ∀ (H : Heap) (locs : List Loc), va_P D vwCl (wsG 77 ad (EZ ad cI cJ) (mgZ σr ρ)) H → va_S A s.heap H locs → W p l e R s m args below meth c H locs (cells + 1) (slots + 6) Q (F0 m (pc + 3) ls (.int r :: rest))) : W p l e R s m args below meth c H locs cells slots Q (F0 m pc ls st0) := by
  have hpre := fun (U : State) (hU : U.heap = H) (hW : s.WarmedH U.vm) => preX (as := As) G hZ (sub_ZY (ad := ad) (cI := cI) (cJ := cJ)) (σc := ρ) (fun _ _ => rfl) hU hW
  obtain ⟨S, hK, hi, hA, hAd, hP, hS⟩ := G
  have hFc := (sub_ZY (ad := ad) (cI := cI) (cJ := cJ)).free hS hA hAd
  refine va_calli (vx_runSW S (hM H.size) (vx_cwSW n S.2.2.2.2 (bigG fun w hw => by
    unfold va_wsS at hw
    rcases List.mem_append.mp hw with hw | hw
    · simp only [List.mem_cons, List.not_mem_nil, or_false] at hw
      rcases hw with rfl | rfl | rfl <;> assumption
    · rcases List.mem_cons.mp hw with rfl | hw
      · exact hcode
      · exact hw) rfl rfl rfl hd hR) ⟨blindY, fun U hU hW => ⟨(hpre U hU hW).1, (hpre U hU hW).2, NC.moved hW.alike hN⟩⟩ rfl hn hsize hstk (lv_room hW) hdg hcs) hS (fun q _ h => hFc q h) hFc (fun r' u t H1 locs1 ht hvm hw hB hz1 hk1 hS1 => ?_)
  have hB : va_P D vwCl (wsG 52 ad (EY ad cI cJ) σr) t.heap := hB
  rw [ht] at hB
  subst hw
  exact kk H1 locs1 ((sub_ZY (ad := ad) (cI := cI) (cJ := cJ)).join hi hP hB hk1 (fun k hk => if_pos hk) (fun j _ h => if_neg fun q => h j q rfl)) hS1
/-- the script's int at i + d -/
theorem g_arg (hx : p.tables.exec = Jvm.exec) (hb : c.code = cc) {b L i : Nat} {xs : Nat → Int32} (hX : va_X b L xs s s.heap) (hbl : b < s.heap.size) (hbA : ¬ A b) (hS : va_S A s.heap H locs) (h0 : ls[0]? = some (.val (.ref b))) (h4 : ls[4]? = some (.val (.int (nI i)))) (d : Nat) (hd : i + d < L) (hL : L < 2 ^ 31) {nd : Int} (hnd : Int32.ofInt nd = nI d) (d0 : decode cc pc = .ok (.aload_n 0, 1)) (d1 : decode cc (pc + 1) = .ok (.iload 4, 2)) (d2 : decode cc (pc + 3) = .ok (.iconst nd, 1)) (d3 : decode cc (pc + 4) = .ok (.iadd, 1)) (d4 : decode cc (pc + 5) = .ok (.iaload, 1))
    (kk : W p l e R s m args below meth c H locs cells slots Q (F0 m (pc + 6) ls (.int (xs (i + d)) :: rest))) : W p l e R s m args below meth c H locs cells slots Q (F0 m pc ls rest) := by
  refine lv_aload_n hx hb d0 rfl h0 ?_
  refine lv_iload hx hb d1 h4 ?_
  refine lv_iconst (v := nI d) hx hb d2 hnd ?_
  refine lv_iadd hx hb d3 ?_
  rw [nI_add]
  refine va_sld hx hb hX hbl hbA hS (vp_in_nI hd hL) d4 ?_
  rw [N_nI (by omega)]
  exact kk
theorem g_lald (hx : p.tables.exec = Jvm.exec) (hb : c.code = cc) (hK : KK D cI cJ s) {σ : Mem} {N : Nat} {E : Ent} (hP : va_P D vwCl (wsG N ad E σ) H) (k : Nat) (hk : k < N) (hE : ∀ f, E k f = .inl (cJ, 1, .inr (.inl fun i => (f i).toInt64))) (hdg : decode cc pc = .ok (.laload, 1))
    (kk : W p l e R s m args below meth c H locs cells slots Q (F0 m (pc + 1) ls (.long (σ k 0).toInt64 :: rest))) : W p l e R s m args below meth c H locs cells slots Q (F0 m pc ls (.int 0 :: .ref (ad k) :: rest)) :=
  va_lald hx hb hK.1 hP k 1 ((wsG_get hk).trans (by rw [hE])) rfl (vp_in_nI (n := 0) (N := 1) (by decide) (by decide)) hdg kk
/-- what holds all through the law's loop -/
def LC (p : Program) (l : Launch) (R : Room) (s : State) (m : MethodId) (args : Array Value) (c : Code) (A : Nat → Prop) (b L i : Nat) (xs : Nat → Int32) (D : va_G) (cI cJ : ClassId) (ad : Nat → Nat) : Prop :=
  CallFix p m c cL_law 7 s args BIG RL ∧ KK D cI cJ s ∧ injG 77 ad ∧ (∀ q : Nat, s.heap.size ≤ q → A q) ∧ (∀ k : Nat, k < 77 → A (ad k)) ∧ ZZ A s s.heap ∧ NC s ∧ va_X b L xs s s.heap ∧ b < s.heap.size ∧ ¬ A b ∧ L < 2 ^ 31 ∧ i + 5 ≤ L ∧ l.stackTraces = false ∧ 12 ≤ R.frames ∧ 436 ≤ R.locals
/-- what a case owes: the loop's next head -/
def Nxt (p : Program) (l : Launch) (e : Env) (R : Room) (s : State) (m : MethodId) (args : Array Value) (below : List Frame) (meth : Method) (c : Code) (A : Nat → Prop) (b i k0 : Nat) (D : va_G) (cI cJ : ClassId) (ad : Nat → Nat) (cells slots : Nat) (Q : State → Prop) : Prop :=
  ∀ (ρ : Mem) (k : Nat) (M : Nat → Mem) (H : Heap) (locs : List Loc) (ls : Array Slot), k ≤ k0 + 1 → SX k ρ (sh2 ρ) M → va_P D vwCl (wsG 77 ad (EZ ad cI cJ) ρ) H → va_S A s.heap H locs → lv_has ls 7 [(4, .int (nI i)), (0, .ref b), (1, .ref (ad 48)), (2, .ref (ad 52)), (3, .ref (ad 51))] → W p l e R s m args below meth c H locs (cells + 1) (slots + 6) Q (F0 m 2496 ls [])
/-- the council's memory behind a helper -/
def rY (τ' ρ : Mem) (ex : Nat) (v : Int32) : Mem := fun k => if k < 51 then τ' k else if k = 51 then (if ex = 0 then upd (ρ 51) 0 v else ρ 51) else ρ k
def rV (τ' ρ : Mem) : Mem := fun k => if k < 51 then τ' k else ρ k
theorem rY_1 (τ' ρ : Mem) (ex : Nat) (v : Int32) : ∀ k, k < 51 → rY τ' ρ ex v k = τ' k := fun k h => if_pos h
theorem rY_2 (τ' ρ : Mem) (ex : Nat) (v : Int32) : rY τ' ρ ex v 51 = if ex = 0 then upd (ρ 51) 0 v else ρ 51 := rfl
theorem rV_1 (τ' ρ : Mem) : ∀ k, k < 51 → rV τ' ρ k = τ' k := fun k h => if_pos h
theorem rV_2 (τ' ρ : Mem) : rV τ' ρ 51 = ρ 51 := rfl
/-- the council and the reference, behind a case -/
theorem SX.putY {k : Nat} {τ' μ' ρ σ : Mem} {M : Nat → Mem} (h : SX k τ' μ' M) (h1 : ∀ k, k < 51 → σ k = τ' k) : SX k (mgM μ' (mgZ σ ρ)) (sh2 (mgM μ' (mgZ σ ρ))) M := by
  rw [sh2_M]
  have e : ∀ k, k < 51 → mgM μ' (mgZ σ ρ) k = τ' k := fun k hk => by
    unfold mgM mgZ
    rw [if_neg (by omega), if_pos (by omega), h1 k hk]
  exact h.same (fun k hk _ => e k (by omega)) (e 49 (by decide)) (e 50 (by decide)) WSm.rf rfl fun _ _ _ => rfl
theorem SX.putM {k : Nat} {ρ μ' : Mem} {M : Nat → Mem} (h : SX k ρ μ' M) : SX k (mgM μ' ρ) (sh2 (mgM μ' ρ)) M := by
  rw [sh2_M]
  have e : ∀ k, k < 51 → mgM μ' ρ k = ρ k := fun k hk => if_neg (by omega)
  exact h.same (fun k hk _ => e k (by omega)) (e 49 (by decide)) (e 50 (by decide)) WSm.rf rfl fun _ _ _ => rfl
theorem mgM_1 (μ' ρ : Mem) : ∀ k : Nat, k < 25 → mgM μ' ρ (k + 52) = μ' k := fun k _ => by
  unfold mgM; rw [if_pos (by omega), Nat.add_sub_cancel]
theorem mgM_2 (μ' ρ : Mem) : ∀ j : Nat, j < 77 → (∀ k : Nat, k < 25 → k + 52 ≠ j) → mgM μ' ρ j = ρ j := fun j _ h => if_neg fun q => h (j - 52) (by omega) (by omega)
theorem mgM_3 (ρ : Mem) : mgM (sh2 ρ) ρ = ρ := by
  funext k
  unfold mgM sh2
  split
  · rw [Nat.sub_add_cancel (by assumption)]
  · rfl
theorem lcmp_0 (x : Int64) : lg_cmp x x = 0 := by simp [lg_cmp]
end LROWS
