theorem lp_e1 {A1 R β : Type} {a : A1 → R} {b : (A1 → R) → β} {r : β} (h : b a = r) : ∃ J : A1 → R, (∀ x1, J x1 = a x1) ∧ b J = r := ⟨a, fun _ => rfl, h⟩
theorem lp_e2 {A1 A2 R β : Type} {a : A1 → A2 → R} {b : (A1 → A2 → R) → β} {r : β} (h : b a = r) : ∃ J : A1 → A2 → R, (∀ x1 x2, J x1 x2 = a x1 x2) ∧ b J = r := ⟨a, fun _ _ => rfl, h⟩
theorem lp_e3 {A1 A2 A3 R β : Type} {a : A1 → A2 → A3 → R} {b : (A1 → A2 → A3 → R) → β} {r : β} (h : b a = r) : ∃ J : A1 → A2 → A3 → R, (∀ x1 x2 x3, J x1 x2 x3 = a x1 x2 x3) ∧ b J = r := ⟨a, fun _ _ _ => rfl, h⟩
theorem lp_e4 {A1 A2 A3 A4 R β : Type} {a : A1 → A2 → A3 → A4 → R} {b : (A1 → A2 → A3 → A4 → R) → β} {r : β} (h : b a = r) : ∃ J : A1 → A2 → A3 → A4 → R, (∀ x1 x2 x3 x4, J x1 x2 x3 x4 = a x1 x2 x3 x4) ∧ b J = r := ⟨a, fun _ _ _ _ => rfl, h⟩
theorem lp_e5 {A1 A2 A3 A4 A5 R β : Type} {a : A1 → A2 → A3 → A4 → A5 → R} {b : (A1 → A2 → A3 → A4 → A5 → R) → β} {r : β} (h : b a = r) : ∃ J : A1 → A2 → A3 → A4 → A5 → R, (∀ x1 x2 x3 x4 x5, J x1 x2 x3 x4 x5 = a x1 x2 x3 x4 x5) ∧ b J = r := ⟨a, fun _ _ _ _ _ => rfl, h⟩
theorem dJ7_fill_53178_0 : decode cJ7_fill_53178 0 = .ok (.iconst 0, 1) := by decide +kernel
theorem dJ7_fill_53178_1 : decode cJ7_fill_53178 1 = .ok (.istore_n 2, 1) := by decide +kernel
theorem dJ7_fill_53178_2 : decode cJ7_fill_53178 2 = .ok (.aload_n 0, 1) := by decide +kernel
theorem dJ7_fill_53178_3 : decode cJ7_fill_53178 3 = .ok (.arraylength, 1) := by decide +kernel
theorem dJ7_fill_53178_4 : decode cJ7_fill_53178 4 = .ok (.istore_n 3, 1) := by decide +kernel
theorem dJ7_fill_53178_5 : decode cJ7_fill_53178 5 = .ok (.iload_n 2, 1) := by decide +kernel
theorem dJ7_fill_53178_6 : decode cJ7_fill_53178 6 = .ok (.iload_n 3, 1) := by decide +kernel
theorem dJ7_fill_53178_7 : decode cJ7_fill_53178 7 = .ok (.if_icmp .ge 13, 3) := by decide +kernel
theorem dJ7_fill_53178_10 : decode cJ7_fill_53178 10 = .ok (.aload_n 0, 1) := by decide +kernel
theorem dJ7_fill_53178_11 : decode cJ7_fill_53178 11 = .ok (.iload_n 2, 1) := by decide +kernel
theorem dJ7_fill_53178_12 : decode cJ7_fill_53178 12 = .ok (.iload_n 1, 1) := by decide +kernel
theorem dJ7_fill_53178_13 : decode cJ7_fill_53178 13 = .ok (.iastore, 1) := by decide +kernel
theorem dJ7_fill_53178_14 : decode cJ7_fill_53178 14 = .ok (.iinc 2 1, 3) := by decide +kernel
theorem dJ7_fill_53178_17 : decode cJ7_fill_53178 17 = .ok (.goto (-12), 3) := by decide +kernel
theorem dJ7_fill_53178_20 : decode cJ7_fill_53178 20 = .ok (.return_, 1) := by decide +kernel
theorem rt1 {α : Type} {a b : α} (h : some a = some b) : a = b := Option.some.inj h
theorem rt2 {α β : Type} {a a' : α} {b b' : β} (h : some (a, b) = some (a', b')) : a = a' ∧ b = b' := by cases h; exact ⟨rfl, rfl⟩
theorem rt3 {α β γ : Type} {a a' : α} {b b' : β} {c c' : γ} (h : some (a, b, c) = some (a', b', c')) : a = a' ∧ b = b' ∧ c = c' := by cases h; exact ⟨rfl, rfl, rfl⟩
/-- a truth value that comes from elsewhere -/
def gz {α : Type} (v : Int32) (a : Option α) : Option α := if v = 0 ∨ v = 1 then a else none
theorem gz_e {α : Type} {v : Int32} {a : Option α} {r : α} (h : gz v a = some r) : (v = 0 ∨ v = 1) ∧ a = some r := by
  unfold gz at h
  by_cases q : v = 0 ∨ v = 1
  · rw [if_pos q] at h; exact ⟨q, h⟩
  · rw [if_neg q] at h; cases h
def bt3 {β : Type} (a : Option (Nat × Int32 × Mem)) (kx : Nat → Mem → Option β) (k : Int32 → Mem → Option β) : Option β := match a with
  | none => none
  | some (0, v, σ) => k v σ
  | some (n + 1, _, σ) => kx (n + 1) σ
theorem bt3_e {β : Type} {a : Option (Nat × Int32 × Mem)} {kx : Nat → Mem → Option β} {k : Int32 → Mem → Option β} {r : β} (h : bt3 a kx k = some r) : (∃ v σ, a = some (0, v, σ) ∧ k v σ = some r) ∨ ∃ n σ, n ≠ 0 ∧ (∃ v, a = some (n, v, σ)) ∧ kx n σ = some r := by
  match a, h with
  | none, h => cases h
  | some (0, v, σ), h => exact Or.inl ⟨v, σ, rfl, h⟩
  | some (n + 1, v, σ), h => exact Or.inr ⟨n + 1, σ, Nat.succ_ne_zero n, ⟨v, rfl⟩, h⟩
theorem ne_ti {x c : Int32} (n : Int) (hc : c.toInt = n) (h : ¬ x = c) : x.toInt ≠ n := fun e => h (Int32.toInt_inj.mp (e.trans hc.symm))
def jrem (x y : Int32) : Int32 := x - x / y * y
def jmin (x y : Int32) : Int32 := if y < x then y else x
def jmax (x y : Int32) : Int32 := if x < y then y else x
def jabs (x : Int32) : Int32 := if 0 ≤ x then x else 0 - x
def fl (σ : Mem) (k n : Nat) (v : Int32) : Mem := fun a => if a = k then (fun i => if i < n then v else σ k i) else σ a
/-- the past within the council's memory; a world's memory put into the council's -/
def sh (σ : Mem) : Mem := fun k => σ (k + 24)
def mgN (σ1 σ : Mem) : Mem := fun k => if k < 24 then σ1 k else σ k
def mgP (σ1 σ : Mem) : Mem := fun k => if 24 ≤ k ∧ k < 48 then σ1 (k - 24) else σ k
theorem mgN_1 (σ1 σ : Mem) : ∀ k : Nat, k < 24 → mgN σ1 σ k = σ1 k := fun k h => if_pos h
theorem mgN_2 (σ1 σ : Mem) : ∀ j : Nat, j < 51 → (∀ k : Nat, k < 24 → k ≠ j) → mgN σ1 σ j = σ j := fun j _ h => if_neg fun q => h j q rfl
theorem mgP_1 (σ1 σ : Mem) : ∀ k : Nat, k < 24 → mgP σ1 σ (k + 24) = σ1 k := fun k h => (if_pos ⟨Nat.le_add_left 24 k, by omega⟩).trans (by rw [Nat.add_sub_cancel])
theorem mgP_2 (σ1 σ : Mem) : ∀ j : Nat, j < 51 → (∀ k : Nat, k < 24 → k + 24 ≠ j) → mgP σ1 σ j = σ j := fun j _ h => if_neg fun q => h (j - 24) (by omega) (by omega)
theorem co_24 {P : Nat → Prop} (h : ∀ k, k < 24 → P k) : ∀ k, k < 24 → P k := h
theorem sub_now {ad : Nat → Nat} {cI : ClassId} : subG 51 ad (EX ad cI) 24 ad (EW ad cI) (fun k => k) := fun k h => ⟨by (try dsimp only); omega, rfl, by
  match k, h with
  | 0, _ => rfl | 1, _ => rfl | 2, _ => rfl | 3, _ => rfl | 4, _ => rfl | 5, _ => rfl | 6, _ => rfl | 7, _ => rfl | 8, _ => rfl | 9, _ => rfl | 10, _ => rfl | 11, _ => rfl
  | 12, _ => rfl | 13, _ => rfl | 14, _ => rfl | 15, _ => rfl | 16, _ => rfl | 17, _ => rfl | 18, _ => rfl | 19, _ => rfl | 20, _ => rfl | 21, _ => rfl | 22, _ => rfl | 23, _ => rfl
  | n + 24, h => exact absurd h (by omega)⟩
theorem sub_past {ad : Nat → Nat} {cI : ClassId} : subG 51 ad (EX ad cI) 24 (fun k => ad (k + 24)) (EW (fun k => ad (k + 24)) cI) (fun k => k + 24) := fun k h => ⟨by (try dsimp only); omega, rfl, by
  match k, h with
  | 0, _ => rfl | 1, _ => rfl | 2, _ => rfl | 3, _ => rfl | 4, _ => rfl | 5, _ => rfl | 6, _ => rfl | 7, _ => rfl | 8, _ => rfl | 9, _ => rfl | 10, _ => rfl | 11, _ => rfl
  | 12, _ => rfl | 13, _ => rfl | 14, _ => rfl | 15, _ => rfl | 16, _ => rfl | 17, _ => rfl | 18, _ => rfl | 19, _ => rfl | 20, _ => rfl | 21, _ => rfl | 22, _ => rfl | 23, _ => rfl
  | n + 24, h => exact absurd h (by omega)⟩
theorem hi_now {ad : Nat → Nat} (hi : injG 51 ad) : injG 24 ad := fun i j h1 h2 e => hi i j (by omega) (by omega) e
theorem hi_past {ad : Nat → Nat} (hi : injG 51 ad) : injG 24 (fun k => ad (k + 24)) := fun i j h1 h2 e => by
  have := hi (i + 24) (j + 24) (by omega) (by omega) e
  omega
theorem wsG_congr {N : Nat} {ad : Nat → Nat} {E : Ent} {σ τ : Mem} (h : ∀ k : Nat, k < N → σ k = τ k) : wsG N ad E σ = wsG N ad E τ := by
  unfold wsG
  exact List.map_congr_left fun k hk => by rw [h k (List.mem_range.mp hk)]
set_option maxHeartbeats 4000000 in
set_option maxRecDepth 100000 in
/-- Arrays.fill(int[], int): each place holds the value then -/
theorem c_fill {l : Launch} {D : va_G} {cI cJ : ClassId} (n : Nat) (hn : n < 2 ^ 31) (a : Nat) (f : Nat → Int32) (v : Int32) : MGv l yJ7_fill_53178 (Cond.code yJ7_fill_53178 cJ7_fill_53178 4 none :: BIG) 0 0 D cI cJ 1 (fun _ => a) (fun _ g => .inl (cI, n, .inl g)) [.ref a, .int v] (fun _ => f) (fun _ => fun i => if i < n then v else f i) := by
  have hi : injG 1 (fun _ : Nat => a) := fun i j h1 h2 _ => by omega
  refine MGv.ofW (cc := cJ7_fill_53178) (nL := 4) (ret := none) (by decide) rfl hi ?_
  intro p e s m args below meth c hx hb hr hml hlocks hown hB hK hP hA hAd hS
  have hl := lv_entry ([.ref a, .int v] : List Value) (n := 4) (Nat.le_of_ble_eq_true rfl)
  rw [lg_entry_eq]
  generalize (lg_sl ([.ref a, .int v] : List Value) ++ List.replicate (4 - (lg_sl ([.ref a, .int v] : List Value)).length) Slot.unset).toArray = ls at hl ⊢
  have hl : lv_has ls 4 [(0, .ref a), (1, .int v)] := hl
  refine lv_iconst (v := 0) hx hb dJ7_fill_53178_0 (by decide) ?_
  refine lv_istore_n (lv' := [(2, .int 0), (0, .ref a), (1, .int v)]) hx hb dJ7_fill_53178_1 rfl hl (by decide) rfl (fun ls hl => ?_)
  refine lv_aload_n hx hb dJ7_fill_53178_2 rfl (lv_at hl 1 rfl) ?_
  refine g_alen (ad := fun _ : Nat => a) hx hb hK hP 0 n (by decide) rfl (v := nI n) rfl dJ7_fill_53178_3 ?_
  refine lv_istore_n (lv' := [(3, .int (nI n)), (2, .int 0), (0, .ref a), (1, .int v)]) hx hb dJ7_fill_53178_4 rfl hl (by decide) rfl (fun ls hl => ?_)
  have loop : ∀ (k i : Nat) (H : Heap) (locs : List Loc) (ls : Array Slot), i + k = n → va_P D vwCl (wsG 1 (fun _ => a) (fun _ g => .inl (cI, n, .inl g)) (fun _ => fun j => if j < i then v else f j)) H → va_S (AG 1 (fun _ => a) s.heap.size) s.heap H locs → lv_has ls 4 [(3, .int (nI n)), (2, .int (nI i)), (0, .ref a), (1, .int v)] → W p l e ({ frames := 0, cells := 0, slots := 0, locals := 0 }) s m args below meth c H locs 0 0 (MQ below (Qgv D 1 (fun _ => a) (fun _ g => .inl (cI, n, .inl g)) (fun _ => fun i => if i < n then v else f i) s.heap.size) args s 0 0 (AG 1 (fun _ => a) s.heap.size)) (F0 m 5 ls []) := by
    intro k
    induction k with
    | zero =>
      intro i H locs ls hin hP hS hl
      have : i = n := by omega
      subst this
      refine lv_iload_n hx hb dJ7_fill_53178_5 rfl (lv_at hl 1 rfl) ?_
      refine lv_iload_n hx hb dJ7_fill_53178_6 rfl (lv_at hl 0 rfl) ?_
      refine lv_icmp_ge (tgt := 20) hx hb dJ7_fill_53178_7 (by decide) (fun q => ?_) (fun q => absurd (nI_le (Nat.le_refl i) hn) q)
      exact g_vret hx hb hr hlocks hP hS rfl dJ7_fill_53178_20
    | succ k ih =>
      intro i H locs ls hin hP hS hl
      refine lv_iload_n hx hb dJ7_fill_53178_5 rfl (lv_at hl 1 rfl) ?_
      refine lv_iload_n hx hb dJ7_fill_53178_6 rfl (lv_at hl 0 rfl) ?_
      refine lv_icmp_ge (tgt := 20) hx hb dJ7_fill_53178_7 (by decide) (fun q => absurd q (nI_ge (by omega) hn)) (fun q => ?_)
      refine lv_aload_n hx hb dJ7_fill_53178_10 rfl (lv_at hl 2 rfl) ?_
      refine lv_iload_n hx hb dJ7_fill_53178_11 rfl (lv_at hl 1 rfl) ?_
      refine lv_iload_n hx hb dJ7_fill_53178_12 rfl (lv_at hl 3 rfl) ?_
      refine g_iast (ad := fun _ : Nat => a) hx hb hK hP hi hAd hS 0 n (by decide) (fun _ => rfl) (vp_in_nI (by omega) hn) dJ7_fill_53178_13 rfl (fun H locs hP hS => ?_)
      refine lv_iinc (v := nI (i + 1)) (lv' := [(2, .int (nI (i + 1))), (3, .int (nI n)), (0, .ref a), (1, .int v)]) hx hb dJ7_fill_53178_14 hl (k := 1) rfl (by rw [← nI_1]; rfl) (by decide) rfl (fun ls hl => ?_)
      refine lv_goto (tgt := 5) hx hb dJ7_fill_53178_17 (by decide) ?_
      refine ih (i + 1) H locs ls (by omega) ?_ hS (lv_sub hl [1, 0, 2, 3] rfl)
      rw [wsG_congr (τ := (fun _ => fun j => if j < i + 1 then v else f j)) (fun k hk => by
        have : k = 0 := by omega
        subst this
        rw [mu_s, nI_clamp (by omega)]
        funext j
        unfold upd
        by_cases q : j = i
        · subst q; rw [if_pos rfl, if_pos (by omega)]
        · rw [if_neg q]
          show (if j < i then v else f j) = _
          by_cases q2 : j < i
          · rw [if_pos q2, if_pos (by omega)]
          · rw [if_neg q2, if_neg (by omega)])] at hP
      exact hP
  refine loop n 0 _ _ ls (by omega) ?_ hS (lv_sub hl [0, 1, 2, 3] rfl)
  rw [wsG_congr (τ := (fun _ => fun j => if j < 0 then v else f j)) (fun k hk => by
    funext j
    rw [if_neg (Nat.not_lt_zero j)])] at hP
  exact hP
section GX
variable {p : Program} {l : Launch} {e : Env} {R : Room} {s : State} {m : MethodId} {args : Array Value} {below : List Frame} {meth : Method} {c : Code} {H : Heap} {locs : List Loc} {cells slots : Nat} {Q : State → Prop}
variable {cc : ByteArray} {pc nL : Nat} {ls : Array Slot} {rest st0 : List Value} {D : va_G} {cI cJ : ClassId} {A : Nat → Prop} {N : Nat} {ad : Nat → Nat} {E : Ent} {σ : Mem}
variable {k0 N' : Nat} {ad' : Nat → Nat} {E' : Ent} {ι : Nat → Nat} {own C : String} {idx : Nat} {y : MethodName} {bytes : ByteArray} {maxL : Nat} {ret : Option FieldType} {n fr lo : Nat} {As : List Value} {b : Nat} {σc σ1 τ : Mem} {r : Int32} {ex : Nat}
theorem g_fill {v : Int32} (G : Gc p s m args c H locs cc nL own D cI cJ A N ad E σ) (k n : Nat) (hk : k < N) (hn : n < 2 ^ 31) (hE : ∀ f, E k f = .inl (cI, n, .inl f)) (hlk : Cond.methodLink own idx yJ7_fill_53178 ∈ BIG) (hRf : fr ≤ R.frames) (hRl : lo ≤ R.locals) (hsize : ls.size = nL) (hW : rest = []) (hdg : decode cc pc = .ok (.invokestatic idx, 3)) (h1 : τ = fl σ k n v)
    (kk : ∀ (H : Heap) (locs : List Loc), va_P D vwCl (wsG N ad E τ) H → va_S A s.heap H locs → W p l e R s m args below meth c H locs cells slots Q (F0 m (pc + 3) ls rest)) (hfr : 1 ≤ fr := by decide) (hlo : 23 ≤ lo := by decide) (hcs : cells ≤ R.cells ∧ slots ≤ R.slots := by exact ⟨Nat.zero_le _, Nat.zero_le _⟩) : W p l e R s m args below meth c H locs cells slots Q (F0 m pc ls (.int v :: .ref (ad k) :: rest)) := by
  subst hW
  subst h1
  refine g_cSv (N' := 1) (ad' := fun _ => ad k) (E' := fun _ g => .inl (cI, n, .inl g)) (ι := fun _ => k) (As := [.ref (ad k), .int v]) (fr := 0) (lo := 0) (σc := fun _ => σ k) (σ1 := fun _ => fun i => if i < n then v else σ k i) G (fun j hj => ⟨hk, rfl, by funext f; exact (hE f).symm⟩) (c_fill n hn (ad k) (σ k) v) (fun _ _ => rfl) cal_fill hlk ⟨Nat.le_trans hfr hRf, Nat.le_trans hlo hRl⟩ rfl hsize (Nat.zero_le _) rfl hdg hcs (fun _ _ => if_pos rfl) (fun j _ h => if_neg fun q => h 0 (Nat.zero_lt_one) q.symm) kk
/-! throwing -/
def nms : List String := ["java/lang/RuntimeException", "java/lang/Exception"]
def ThrT (own : String) (ik ic : Nat) (cls : String) : Prop := Cond.classLink own ik cls ∈ BIG ∧ Cond.initialized cls ∈ BIG ∧ (∀ w ∈ (vx_atS own ic cls nms).filter goodWord, w ∈ BIG) ∧ (∀ w ∈ (vx_atS own ic cls nms).filter (fun w => !goodWord w), w ∈ CAL.map (fun q => Cond.castable q.1 q.2) ++ DCL.map Cond.declares) ∧ (∀ w ∈ Cond.classLink own ik cls :: Cond.initialized cls :: vx_atS own ic cls nms, vx_ot w = true) ∧ Bundle.fit cls = true
theorem ThrT.at {ik ic : Nat} {cls : String} (h : ThrT own ik ic cls) (hB : ∀ w ∈ BIG, w.before args s = true) (hK : KK D cI cJ s) : ∀ w ∈ vx_atS own ic cls nms, w.before args s = true :=
  vx_hat (B := CAL.map (fun q => Cond.castable q.1 q.2) ++ DCL.map Cond.declares) (fun w hw => hB w (h.2.2.1 w hw)) h.2.2.2.1 (fun w hw => by
    rcases List.mem_append.mp hw with hw | hw
    · obtain ⟨q, hq, rfl⟩ := List.mem_map.mp hw
      exact va_Nw.use rfl (hK.2.2.2.1 q hq)
    · obtain ⟨q, hq, rfl⟩ := List.mem_map.mp hw
      exact va_Nw.use rfl (hK.2.2.2.2 q hq))
theorem nms_fit : ∀ n ∈ nms, Bundle.fit n = true := by decide +kernel
abbrev QF : Array Value → State → Outcome → State → Prop := va_Qi (fun (_ : Int32) (_ : Unit) => False) (fun _ _ => True) (fun _ => False)
theorem g_throw {cc : ByteArray} {own text : String} {ik is ic e0 : Nat} {σ' : Mem} {Qc : Array Value → State → Outcome → State → Prop} (hx : p.tables.exec = Jvm.exec) (hb : c.code = cc) (hflag : l.stackTraces = false) (hB : ∀ w ∈ BIG, w.before args s = true) (hown : s.vm.findClass own = some m.cls) (hK : KK D cI cJ s) (hZ : ZZ (AG N ad s.heap.size) s s.heap) (hP : va_P D vwCl (wsG N ad E σ) H) (hS : va_S (AG N ad s.heap.size) s.heap H locs) (hsize : ls.size = c.maxLocals) (hlocks : meth.locks = false) (hout : ∀ x ∈ c.exceptionTable.toList, False) (h0 : e0 = ex) (h2 : σ = σ')
    (ht : ThrT own ik ic (exn e0)) (hstr : (own, is, text) ∈ STL) (d0 : decode cc pc = .ok (.new ik, 3)) (d3 : decode cc (pc + 3) = .ok (.dup, 1)) (d4 : decode cc (pc + 4) = .ok (.ldc is, 2)) (d6 : decode cc (pc + 6) = .ok (.invokespecial ic, 3)) (d9 : decode cc (pc + 9) = .ok (.athrow, 1))
    (hRf : fr ≤ R.frames) (hRl : lo ≤ R.locals) (hc : 1 ≤ R.cells ∧ 6 ≤ R.slots) (hW : (rest.map fun v => v.category).sum ≤ 8) (hfr : 6 ≤ fr := by decide) (hlo : 90 ≤ lo := by decide) : W p l e R s m args below meth c H locs 0 0 (vx_MQ below Qc (XCg D N ad E ex σ' s.heap.size) args s 1 6 (AG N ad s.heap.size)) (F0 m pc ls rest) := by
  subst h0
  subst h2
  obtain ⟨sa, hstr⟩ := hK.2.2.1 _ hstr
  refine vx_throwS (names := nms) (A := AG N ad s.heap.size) hx hb hflag hown ht.2.2.2.2.2 nms_fit (hB _ ht.1) (hB _ ht.2.1) hstr (ht.at hB hK) ht.2.2.2.2.1 hZ.1 hZ.2 hS hsize d0 d3 d4 d6 d9 (fun x hx => (hout x hx).elim) (by show 2 + 3 < R.frames; omega) (by show _ + (13 * (2 + 1) + 43) ≤ R.locals; omega) hc.1 hc.2 hlocks (fun t hvm hz hk => ?_) hS.2.2 (Nat.le_refl _) (Nat.le_refl _)
  refine ⟨(), trivial, ⟨rfl, hP.kept fun k q hq => hk _ (hP k q hq).lt⟩, ⟨Nat.le_trans hS.1 hz, fun q h1 h2 => ?_⟩⟩
  rw [hk q (Nat.lt_of_lt_of_le h1 hS.1)]
  exact hS.2.1 q h1 h2
theorem g_throwW {cc : ByteArray} {own text : String} {ik is ic e0 : Nat} {σ' : Mem} {Qc : Array Value → State → Outcome → State → Prop} (hx : p.tables.exec = Jvm.exec) (hb : c.code = cc) (hflag : l.stackTraces = false) (hB : ∀ w ∈ BIG, w.before args s = true) (hown : s.vm.findClass own = some m.cls) (hK : KK D cI cJ s) (hZ : ZZ (AG N ad s.heap.size) s s.heap) (hP : va_P D vwCl (wsG N ad E σ) H) (hS : va_S (AG N ad s.heap.size) s.heap H locs) (hsize : ls.size = c.maxLocals) (hlocks : meth.locks = false) (hout : ∀ x ∈ c.exceptionTable.toList, False) (h0 : e0 = ex) (h2 : σ = σ')
    (ht : ThrT own ik ic (exn e0)) (hstr : (own, is, text) ∈ STL) (d0 : decode cc pc = .ok (.new ik, 3)) (d3 : decode cc (pc + 3) = .ok (.dup, 1)) (d4 : decode cc (pc + 4) = .ok (.ldc_w is, 3)) (d6 : decode cc (pc + 7) = .ok (.invokespecial ic, 3)) (d9 : decode cc (pc + 10) = .ok (.athrow, 1))
    (hRf : fr ≤ R.frames) (hRl : lo ≤ R.locals) (hc : 1 ≤ R.cells ∧ 6 ≤ R.slots) (hW : (rest.map fun v => v.category).sum ≤ 8) (hfr : 6 ≤ fr := by decide) (hlo : 90 ≤ lo := by decide) : W p l e R s m args below meth c H locs 0 0 (vx_MQ below Qc (XCg D N ad E ex σ' s.heap.size) args s 1 6 (AG N ad s.heap.size)) (F0 m pc ls rest) := by
  subst h0
  subst h2
  obtain ⟨sa, hstr⟩ := hK.2.2.1 _ hstr
  refine vx_throwSW (names := nms) (A := AG N ad s.heap.size) hx hb hflag hown ht.2.2.2.2.2 nms_fit (hB _ ht.1) (hB _ ht.2.1) hstr (ht.at hB hK) ht.2.2.2.2.1 hZ.1 hZ.2 hS hsize d0 d3 d4 d6 d9 (fun x hx => (hout x hx).elim) (by show 2 + 3 < R.frames; omega) (by show _ + (13 * (2 + 1) + 43) ≤ R.locals; omega) hc.1 hc.2 hlocks (fun t hvm hz hk => ?_) hS.2.2 (Nat.le_refl _) (Nat.le_refl _)
  refine ⟨(), trivial, ⟨rfl, hP.kept fun k q hq => hk _ (hP k q hq).lt⟩, ⟨Nat.le_trans hS.1 hz, fun q h1 h2 => ?_⟩⟩
  rw [hk q (Nat.lt_of_lt_of_le h1 hS.1)]
  exact hS.2.1 q h1 h2
/-- what a callee has thrown goes on to the caller -/
theorem g_xout {ex9 q : Nat} {ce : Cell} {σ' : Mem} {Qc : Array Value → State → Outcome → State → Prop} (hout : ∀ x ∈ c.exceptionTable.toList, False) (hlocks : meth.locks = false) (hc1 : H[q]? = some ce) (hc2 : ce.vm = .none) (hc3 : s.vm.findClass (exn ex9) = some ce.cls) (h0 : ex9 = ex) (h2 : σ = σ') (hP : va_P D vwCl (wsG N ad E σ) H) (hS : va_S (AG N ad s.heap.size) s.heap H locs) : vx_W p l e R s m args below meth c H locs 1 6 (vx_MQ below Qc (XCg D N ad E ex σ' s.heap.size) args s 1 6 (AG N ad s.heap.size)) (F0 m pc ls rest) q := by
  subst h0
  subst h2
  exact vx_out (fun x hx => (hout x hx).elim) hlocks hc1 hc2 hc3 (fun t ht hvm => ⟨(), trivial, ⟨rfl, by rw [ht]; exact hP⟩, hS.F ht⟩) hS.2.2 (Nat.le_refl _) (Nat.le_refl _)
theorem MGx.ofW {ws : List Cond} {as : List Value} {σ' : Mem} {Qc : Nat → Array Value → State → Outcome → State → Prop} (hy : plainName y.cls = true) (hw : ws = Cond.code y cc nL ret :: BIG) (hi : injG N ad)
    (body : ∀ p e (R : Room) s m args below meth c (Q : State → Prop), p.tables.exec = Jvm.exec → c.code = cc → meth.sig.returnType = ret → c.maxLocals = nL → meth.locks = false → s.vm.findClass y.cls = some m.cls → (∀ w ∈ BIG, w.before args s = true) → KK D cI cJ s → ZZ (AG N ad s.heap.size) s s.heap → va_P D vwCl (wsG N ad E σ) s.heap → (∀ q : Nat, s.heap.size ≤ q → AG N ad s.heap.size q) → (∀ k : Nat, k < N → AG N ad s.heap.size (ad k)) → va_S (AG N ad s.heap.size) s.heap s.heap [] →
      fr ≤ R.frames → lo ≤ R.locals → (¬ ex = 0 → 1 ≤ R.cells ∧ 6 ≤ R.slots) → (¬ ex = 0 → ∀ x ∈ c.exceptionTable.toList, False) →
      (ex = 0 → Q = MQ below (Qc s.heap.size) args s 0 0 (AG N ad s.heap.size)) → (¬ ex = 0 → Q = vx_MQ below (va_Qi (fun (_ : Int32) (_ : Unit) => False) (fun _ _ => True) (AG N ad s.heap.size)) (XCg D N ad E ex σ' s.heap.size) args s 1 6 (AG N ad s.heap.size)) →
      W p l e R s m args below meth c s.heap [] 0 0 Q (entryFrame m as.toArray nL)) : MGx l y ws fr lo D cI cJ N ad E as σ σ' ex Qc := by
  subst hw
  refine ⟨fun h0 sz => ?_, fun h0 sz => ?_⟩
  · refine Met.ofW (cc := cc) (maxL := nL) (ret := ret) hy rfl ?_
    intro p e s m args below meth c s₁ B hml hv
    obtain ⟨rfl, ⟨hsz, hP, hK⟩, hZ⟩ := hv
    subst hsz
    exact body p e _ s m _ below meth c _ B.exec B.bytes B.returns hml B.notSynchronized (findClass_of_methodNamed B.named) (bigH (atoms_spec (ws := Cond.code y cc nL ret :: BIG) B.pre)) hK hZ hP (fun q h => Or.inr h) (fun k h => Or.inl ⟨k, h, rfl⟩) va_S.rf (Nat.le_refl _) (Nat.le_refl _) (fun h => absurd h0 h) (fun h => absurd h0 h) (fun _ => rfl) (fun h => absurd h0 h)
  · refine vx_ofW (cc := cc) (maxL := nL) (ret := ret) hy rfl ?_
    intro p e s m args below meth c s₁ B hml hout hv
    obtain ⟨rfl, ⟨hsz, hP, hK⟩, hZ⟩ := hv
    subst hsz
    exact body p e _ s m _ below meth c _ B.exec B.bytes B.returns hml B.notSynchronized (findClass_of_methodNamed B.named) (bigH (atoms_spec (ws := Cond.code y cc nL ret :: BIG) B.pre)) hK hZ hP (fun q h => Or.inr h) (fun k h => Or.inl ⟨k, h, rfl⟩) va_S.rf (Nat.le_refl _) (Nat.le_refl _) (fun _ => ⟨Nat.le_refl _, Nat.le_refl _⟩) (fun _ => hout) (fun h => absurd h h0) (fun _ => rfl)
end GX

set_option maxRecDepth 100000 in
theorem tt_X5_33_37 : ThrT RX5 33 37 "java/lang/IllegalArgumentException" := ⟨mem_BIG 357 (by decide +kernel) (by decide +kernel), mem_BIG 32 (by decide +kernel) (by decide +kernel), by decide +kernel, by decide +kernel, by decide +kernel, by decide +kernel⟩
set_option maxRecDepth 100000 in
theorem tt_X5_54_58 : ThrT RX5 54 58 "java/lang/IllegalStateException" := ⟨mem_BIG 376 (by decide +kernel) (by decide +kernel), mem_BIG 33 (by decide +kernel) (by decide +kernel), by decide +kernel, by decide +kernel, by decide +kernel, by decide +kernel⟩
set_option maxRecDepth 100000 in
theorem tt_X5_185_189 : ThrT RX5 185 189 "java/lang/IndexOutOfBoundsException" := ⟨mem_BIG 250 (by decide +kernel) (by decide +kernel), mem_BIG 31 (by decide +kernel) (by decide +kernel), by decide +kernel, by decide +kernel, by decide +kernel, by decide +kernel⟩
