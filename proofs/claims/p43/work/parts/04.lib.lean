/-! MEMORY: a world's numbers, by cell and place; pure functions read and write it -/
abbrev Mem : Type := Nat → Nat → Int32
def mu (σ : Mem) (k i : Nat) (v : Int32) : Mem := fun a => if a = k then upd (σ k) i v else σ a
theorem mu_s (σ : Mem) (k i : Nat) (v : Int32) : mu σ k i v k = upd (σ k) i v := if_pos rfl
theorem mu_n {σ : Mem} {k a i : Nat} {v : Int32} (h : a ≠ k) : mu σ k i v a = σ a := if_neg h
def gd {α : Type} (i : Int32) (n : Nat) (a : Option α) : Option α := if i < 0 ∨ n ≤ i.toNatClampNeg then none else a
theorem gd_e {α : Type} {i : Int32} {n : Nat} {a : Option α} {r : α} (h : gd i n a = some r) : vp_in i n ∧ a = some r := by
  unfold gd at h
  by_cases q : i < 0 ∨ n ≤ i.toNatClampNeg
  · rw [if_pos q] at h; cases h
  · rw [if_neg q] at h; exact ⟨q, h⟩
def stp {α β : Type} (a : α) (k : α → β) : β := k a
theorem stp_e {α β : Type} {a : α} {k : α → β} {r : β} (h : stp a k = r) : ∃ z, z = a ∧ k z = r := ⟨a, rfl, h⟩
def jn {α β : Type} (a : α) (b : α → β) : β := b a
theorem jn_e0 {R β : Type} {a : Unit → R} {b : (Unit → R) → β} {r : β} (h : jn a b = r) : ∃ J : Unit → R, (∀ x, J x = a x) ∧ b J = r := ⟨a, fun _ => rfl, h⟩
theorem jn_e1 {A1 R β : Type} {a : A1 → R} {b : (A1 → R) → β} {r : β} (h : jn a b = r) : ∃ J : A1 → R, (∀ x1, J x1 = a x1) ∧ b J = r := ⟨a, fun _ => rfl, h⟩
theorem jn_e2 {A1 A2 R β : Type} {a : A1 → A2 → R} {b : (A1 → A2 → R) → β} {r : β} (h : jn a b = r) : ∃ J : A1 → A2 → R, (∀ x1 x2, J x1 x2 = a x1 x2) ∧ b J = r := ⟨a, fun _ _ => rfl, h⟩
theorem jn_e3 {A1 A2 A3 R β : Type} {a : A1 → A2 → A3 → R} {b : (A1 → A2 → A3 → R) → β} {r : β} (h : jn a b = r) : ∃ J : A1 → A2 → A3 → R, (∀ x1 x2 x3, J x1 x2 x3 = a x1 x2 x3) ∧ b J = r := ⟨a, fun _ _ _ => rfl, h⟩
theorem jn_e4 {A1 A2 A3 A4 R β : Type} {a : A1 → A2 → A3 → A4 → R} {b : (A1 → A2 → A3 → A4 → R) → β} {r : β} (h : jn a b = r) : ∃ J : A1 → A2 → A3 → A4 → R, (∀ x1 x2 x3 x4, J x1 x2 x3 x4 = a x1 x2 x3 x4) ∧ b J = r := ⟨a, fun _ _ _ _ => rfl, h⟩
theorem jn_e5 {A1 A2 A3 A4 A5 R β : Type} {a : A1 → A2 → A3 → A4 → A5 → R} {b : (A1 → A2 → A3 → A4 → A5 → R) → β} {r : β} (h : jn a b = r) : ∃ J : A1 → A2 → A3 → A4 → A5 → R, (∀ x1 x2 x3 x4 x5, J x1 x2 x3 x4 x5 = a x1 x2 x3 x4 x5) ∧ b J = r := ⟨a, fun _ _ _ _ _ => rfl, h⟩
theorem lp_e0 {R β : Type} {a : Unit → R} {b : (Unit → R) → β} {r : β} (h : b a = r) : ∃ J : Unit → R, (∀ x, J x = a x) ∧ b J = r := ⟨a, fun _ => rfl, h⟩
def bd {α β : Type} (a : Option α) (k : α → Option β) : Option β := match a with
  | none => none
  | some x => k x
theorem bd_e {α β : Type} {a : Option α} {k : α → Option β} {r : β} (h : bd a k = some r) : ∃ x, a = some x ∧ k x = some r := by
  cases a with
  | none => cases h
  | some x => exact ⟨x, rfl, h⟩
def bd2 {α γ β : Type} (a : Option (α × γ)) (k : α → γ → Option β) : Option β := match a with
  | none => none
  | some (x, y) => k x y
theorem bd2_e {α γ β : Type} {a : Option (α × γ)} {k : α → γ → Option β} {r : β} (h : bd2 a k = some r) : ∃ x y, a = some (x, y) ∧ k x y = some r := by
  cases a with
  | none => cases h
  | some x => exact ⟨x.1, x.2, rfl, h⟩
/-- a callee that returns (0, its answer), or throws (the number of the exception, 0) -/
def bt {β : Type} (a : Option (Nat × Int32)) (kx : Nat → Option β) (k : Int32 → Option β) : Option β := match a with
  | none => none
  | some (0, v) => k v
  | some (n + 1, _) => kx (n + 1)
theorem bt_e {β : Type} {a : Option (Nat × Int32)} {kx : Nat → Option β} {k : Int32 → Option β} {r : β} (h : bt a kx k = some r) : (∃ v, a = some (0, v) ∧ k v = some r) ∨ ∃ n v, n ≠ 0 ∧ a = some (n, v) ∧ kx n = some r := by
  match a, h with
  | none, h => cases h
  | some (0, v), h => exact Or.inl ⟨v, rfl, h⟩
  | some (n + 1, v), h => exact Or.inr ⟨n + 1, v, Nat.succ_ne_zero n, rfl, h⟩
/-- the loops' fuel: more than any run needs -/
def FU : Nat := 6000
/-! WORDS: all methods share one list -/
def BIG : List Cond := lw_tbl.filter goodWord
theorem mem_BIG {w : Cond} (i : Nat) (h : lw_tbl[i]? = some w) (hg : goodWord w = true) : w ∈ BIG := List.mem_filter.mpr ⟨List.mem_of_getElem? h, hg⟩
theorem bigG {ws : List Cond} (h : ∀ w ∈ ws, w ∈ BIG) : GoodIn BIG ws := fun w hw => ⟨h w hw, good_of_word (List.mem_filter.mp (h w hw)).2⟩
theorem bigH {args : Array Value} {s : State} {w0 : Cond} (h : ∀ w ∈ w0 :: BIG, w.before args s = true) : ∀ w ∈ BIG, w.before args s = true := fun w hw => h w (List.mem_cons_of_mem _ hw)
/-! GROUPS of cells: N cells at the addresses ad, what each holds by E -/
abbrev Ent : Type := Nat → (Nat → Int32) → va_E
def wsG (N : Nat) (ad : Nat → Nat) (E : Ent) (σ : Mem) : va_W := (List.range N).map fun k => (ad k, E k (σ k))
theorem wsG_get {N : Nat} {ad : Nat → Nat} {E : Ent} {σ : Mem} {k : Nat} (h : k < N) : (wsG N ad E σ)[k]? = some (ad k, E k (σ k)) := by
  unfold wsG
  rw [List.getElem?_map, List.getElem?_range h]
  rfl
theorem wsG_at {N : Nat} {ad : Nat → Nat} {E : Ent} {σ : Mem} {k : Nat} {q : Nat × va_E} (h : (wsG N ad E σ)[k]? = some q) : k < N ∧ q = (ad k, E k (σ k)) := by
  have hl : k < N := by
    have := (List.getElem?_eq_some_iff.mp h).1
    unfold wsG at this
    rw [List.length_map, List.length_range] at this
    exact this
  rw [wsG_get hl] at h
  exact ⟨hl, (Option.some.inj h).symm⟩
theorem wsG_set {N : Nat} {ad : Nat → Nat} {E : Ent} {σ : Mem} {k i : Nat} {v : Int32} {x : va_E} (h : k < N) (hx : x = E k (upd (σ k) i v)) : (wsG N ad E σ).set k (ad k, x) = wsG N ad E (mu σ k i v) := by
  apply List.ext_getElem?
  intro j
  by_cases hj : j < N
  · rw [wsG_get hj]
    by_cases hk : k = j
    · subst hk
      rw [List.getElem?_set_self (by unfold wsG; rw [List.length_map, List.length_range]; exact h), hx, mu_s]
    · rw [List.getElem?_set_ne hk, wsG_get hj, mu_n (fun q => hk q.symm)]
  · have h1 : (wsG N ad E (mu σ k i v))[j]? = none := by
      rw [List.getElem?_eq_none_iff]; unfold wsG; rw [List.length_map, List.length_range]; omega
    rw [h1, List.getElem?_eq_none_iff, List.length_set]; unfold wsG; rw [List.length_map, List.length_range]; omega
def injG (N : Nat) (ad : Nat → Nat) : Prop := ∀ i j : Nat, i < N → j < N → ad i = ad j → i = j
def AG (N : Nat) (ad : Nat → Nat) (sz : Nat) : Nat → Prop := fun q => (∃ k : Nat, k < N ∧ ad k = q) ∨ sz ≤ q
theorem wsG_D {N : Nat} {ad : Nat → Nat} {E : Ent} {σ : Mem} {A : Nat → Prop} (hi : injG N ad) (hA : ∀ k : Nat, k < N → A (ad k)) : va_D A (wsG N ad E σ) := by
  refine ⟨fun i j p q h1 h2 e => ?_, fun k q h => ?_⟩
  · obtain ⟨l1, rfl⟩ := wsG_at h1
    obtain ⟨l2, rfl⟩ := wsG_at h2
    exact hi i j l1 l2 e
  · obtain ⟨l1, rfl⟩ := wsG_at h
    exact hA k l1
/-- a part of a group: its place k is the group's place ι k -/
def subG (N : Nat) (ad : Nat → Nat) (E : Ent) (N' : Nat) (ad' : Nat → Nat) (E' : Ent) (ι : Nat → Nat) : Prop := ∀ k : Nat, k < N' → ι k < N ∧ ad' k = ad (ι k) ∧ E' k = E (ι k)
theorem subG.inj {N : Nat} {ad : Nat → Nat} {E : Ent} {N' : Nat} {ad' : Nat → Nat} {E' : Ent} {ι : Nat → Nat} (h : subG N ad E N' ad' E' ι) (hi : injG N ad) (hι : ∀ i j : Nat, i < N' → j < N' → ι i = ι j → i = j) : injG N' ad' := fun i j l1 l2 e => by
  obtain ⟨a1, a2, -⟩ := h i l1
  obtain ⟨b1, b2, -⟩ := h j l2
  rw [a2, b2] at e
  exact hι i j l1 l2 (hi _ _ a1 b1 e)
theorem subG.rf {N : Nat} {ad : Nat → Nat} {E : Ent} : subG N ad E N ad E (fun k => k) := fun _ h => ⟨h, rfl, rfl⟩
section GROUPP
variable {D : va_G} {N : Nat} {ad : Nat → Nat} {E : Ent} {N' : Nat} {ad' : Nat → Nat} {E' : Ent} {ι : Nat → Nat} {H H1 : Heap}
theorem subG.P (h : subG N ad E N' ad' E' ι) {σ σc : Mem} (hσ : ∀ k : Nat, k < N' → σc k = σ (ι k)) (hP : va_P D vwCl (wsG N ad E σ) H) : va_P D vwCl (wsG N' ad' E' σc) H := by
  intro k q hk
  obtain ⟨l1, rfl⟩ := wsG_at hk
  obtain ⟨a1, a2, a3⟩ := h k l1
  have := hP (ι k) _ (wsG_get a1)
  rw [a2, a3, hσ k l1]
  exact this
theorem subG.free (h : subG N ad E N' ad' E' ι) {A : Nat → Prop} {H0 : Heap} {locs : List Loc} (hS : va_S A H0 H locs) (hA : ∀ q : Nat, H0.size ≤ q → A q) (hAd : ∀ k : Nat, k < N → A (ad k)) : ∀ q : Nat, AG N' ad' H.size q → A q := by
  intro q hq
  rcases hq with ⟨k, hk, rfl⟩ | hq
  · obtain ⟨a1, a2, -⟩ := h k hk
    rw [a2]; exact hAd _ a1
  · exact hA q (Nat.le_trans hS.1 hq)
theorem subG.join (h : subG N ad E N' ad' E' ι) (hi : injG N ad) {σ σ1 τ : Mem} (hP : va_P D vwCl (wsG N ad E σ) H) (hP1 : va_P D vwCl (wsG N' ad' E' σ1) H1) (hk : ∀ q : Nat, q < H.size → ¬ AG N' ad' H.size q → H1[q]? = H[q]?)
    (h1 : ∀ k : Nat, k < N' → τ (ι k) = σ1 k) (h2 : ∀ j : Nat, j < N → (∀ k : Nat, k < N' → ι k ≠ j) → τ j = σ j) : va_P D vwCl (wsG N ad E τ) H1 := by
  intro j q hq
  obtain ⟨l1, rfl⟩ := wsG_at hq
  by_cases hj : ∃ k : Nat, k < N' ∧ ι k = j
  · obtain ⟨k, hk1, rfl⟩ := hj
    obtain ⟨a1, a2, a3⟩ := h k hk1
    have := hP1 k _ (wsG_get hk1)
    rw [a2, a3, ← h1 k hk1] at this
    exact this
  · have hj' : ∀ k : Nat, k < N' → ι k ≠ j := fun k a b => hj ⟨k, a, b⟩
    rw [h2 j l1 hj']
    have hat := hP j _ (wsG_get l1)
    refine hat.kept (hk _ hat.lt ?_)
    rintro (⟨k, hk1, e⟩ | e)
    · obtain ⟨a1, a2, -⟩ := h k hk1
      rw [a2] at e
      exact hj' k hk1 (hi _ _ a1 l1 e)
    · exact absurd hat.lt (Nat.not_lt.mpr e)
end GROUPP
