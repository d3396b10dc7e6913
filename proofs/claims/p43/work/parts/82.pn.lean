/-! ALL THAT IS MADE -/
def f_ST (a1 a2 : Int32) (σ7 : Mem) : Option (Int32 × Mem) :=
gd 8 13 <|
if (σ7 51 (8 : Int32).toNatClampNeg) = 0 then (
some (1, σ7))
else (
gd 8 13 <|
nz (σ7 51 (8 : Int32).toNatClampNeg) <|
L_L_makes_606 FU (fun (x17 : Int32) (σ18 : Mem) =>
bd2 (f_L_stages σ18 (jrem a1 (σ7 51 (8 : Int32).toNatClampNeg)) (jrem a2 4) (jrem (a1 / 8) 4) (1 + (jrem (a2 / 4) 5))) fun v19 σ20 =>
gd (9 + (jrem a1 (σ7 51 (8 : Int32).toNatClampNeg))) 13 <|
jn (fun (y22 : Int32) (σ21 : Mem) =>
gd (9 + (jrem a1 (σ7 51 (8 : Int32).toNatClampNeg))) 13 <|
jn (fun (y25 : Int32) (y26 : Int32) (y27 : Int32) (σ24 : Mem) =>
gd y25 13 <| stp (mu σ24 51 y25.toNatClampNeg (y26 + y27)) fun σ29 =>
gd 6 13 <|
jn (fun (y31 : Int32) (y32 : Int32) (y33 : Int32) (σ30 : Mem) =>
gd y31 13 <| stp (mu σ30 51 y31.toNatClampNeg (y32 + y33)) fun σ35 =>
jn (fun (y37 : Int32) (y38 : Int32) (σ36 : Mem) =>
if y37 = y38 then (
some (1, σ36))
else (
some (0, σ36))) fun (J39 : Int32 → Int32 → Mem → Option (Int32 × Mem)) =>
if y22 = 0 then (
J39 v19 (-8) σ35)
else (
gd (9 + (jrem a1 (σ7 51 (8 : Int32).toNatClampNeg))) 13 <|
J39 v19 (σ35 51 (9 + (jrem a1 (σ7 51 (8 : Int32).toNatClampNeg))).toNatClampNeg) σ35)) fun (J34 : Int32 → Int32 → Int32 → Mem → Option (Int32 × Mem)) =>
if y22 = 0 then (
J34 6 (σ29 51 (6 : Int32).toNatClampNeg) 0 σ29)
else (
J34 6 (σ29 51 (6 : Int32).toNatClampNeg) 1 σ29)) fun (J28 : Int32 → Int32 → Int32 → Mem → Option (Int32 × Mem)) =>
if y22 = 0 then (
J28 (9 + (jrem a1 (σ7 51 (8 : Int32).toNatClampNeg))) (σ21 51 (9 + (jrem a1 (σ7 51 (8 : Int32).toNatClampNeg))).toNatClampNeg) 0 σ21)
else (
J28 (9 + (jrem a1 (σ7 51 (8 : Int32).toNatClampNeg))) (σ21 51 (9 + (jrem a1 (σ7 51 (8 : Int32).toNatClampNeg))).toNatClampNeg) 1 σ21)) fun (J23 : Int32 → Mem → Option (Int32 × Mem)) =>
jn (fun (σ44 : Mem) =>
J23 0 σ44) fun (J45 : Mem → Option (Int32 × Mem)) =>
if 4 ≤ (σ20 51 (9 + (jrem a1 (σ7 51 (8 : Int32).toNatClampNeg))).toNatClampNeg) then (
J45 σ20)
else (
if x17 = 0 then (
J23 1 σ20)
else (
J45 σ20))) a1 a2 (jrem a1 (σ7 51 (8 : Int32).toNatClampNeg)) 0 0 σ7)
theorem pk_div8 {x : Nat} (hx : x < 2 ^ 30) (d : Nat) (h0 : 0 < d) (hd : d < 2 ^ 31) : nI x / nI d = nI (x / d) := pk_div (by omega) h0 hd
theorem cl7 {n : Nat} (h : n ≤ 4) : ((4 : Int32) ≤ nI n) = (n = 4) := propext ⟨fun z => by
  by_cases q : n = 4
  · exact q
  · exact absurd z (nI_ge (b := 4) (by omega) (by omega)), fun z => by rw [z]; exact Int32.le_refl _⟩
theorem cl8 {n : Nat} (h : n ≤ 3) : ((3 : Int32) ≤ nI n) = (n = 3) := propext ⟨fun z => by
  by_cases q : n = 3
  · exact q
  · exact absurd z (nI_ge (b := 3) (by omega) (by omega)), fun z => by rw [z]; exact Int32.le_refl _⟩
section MAKE
variable {c : Nat} {ρ μ : Mem} {M : Nat → Mem} {x y : Nat}
theorem makes_2 (S : SX c ρ μ M) (W : WI c (ρ 51) μ) (hc : c < 60) (hx : x < 2 ^ 30) (hy : y < 2 ^ 30) : ∃ c' ρ' μ' M', f_L_makes ρ (nI 2) (nI x) (nI y) = some (1, ρ') ∧ Out c ρ μ c' ρ' μ' M' := by
  have rx8 : jrem (nI x) 8 = nI (x % 8) := jrem_nI (d := 8) (by omega) (by decide) (by decide)
  have ry5 : jrem (nI y) 5 = nI (y % 5) := jrem_nI (d := 5) (by omega) (by decide) (by decide)
  have dy5 : nI y / 5 = nI (y / 5) := pk_div8 hy 5 (by decide) (by decide)
  have ry9 : jrem (nI (y / 5)) 9 = nI (y / 5 % 9) := jrem_nI (d := 9) (by omega) (by decide) (by decide)
  obtain ⟨a, ha⟩ : ∃ a, a = x % 8 := ⟨_, rfl⟩
  obtain ⟨k, hk⟩ : ∃ k, k = y % 5 := ⟨_, rfl⟩
  obtain ⟨n, hn⟩ : ∃ n, n = y / 5 % 9 := ⟨_, rfl⟩
  rw [← ha] at rx8
  rw [← hk] at ry5
  rw [← hn] at ry9
  have ha8 : a < 8 := by omega
  have hk5 : k < 5 := by omega
  have hn8 : n ≤ 8 := by omega
  clear ha hk hn
  have g1k : ∀ {α : Type} (x : Option α), gd (nI (1 + k)) 13 x = x := fun x => gd_ok (by omega) (by decide)
  have N1k : (nI (1 + k)).toNatClampNeg = 1 + k := N_nI (by omega)
  have E6 : mu ρ 51 (1 + k) (ρ 51 (1 + k) + nI (1 + n)) 51 6 = nI c := by rw [mu_pl (by omega)]; exact W.1.1
  obtain ⟨σ2, e2⟩ : ∃ σ2, σ2 = mu (mu ρ 51 (1 + k) (ρ 51 (1 + k) + nI (1 + n))) 51 6 (nI (c + 1)) := ⟨_, rfl⟩
  obtain ⟨v, τ', M', μ'', x1, x2, x3⟩ := mks_scatter S W hc ha8 hk5 hn8 e2
  refine ⟨c + 1, mgY τ' σ2, μ'', M', ?_, x3⟩
  unfold f_L_makes
  rw [if_neg (by decide), if_neg (by decide), if_pos (by decide)]
  simp only [rx8, ry5, dy5, ry9, n1a, p_floor S ha8 hk5, bt_0, g1k, N1k, stp_s, gl6, tc6, E6, nI_1]
  rw [← e2, x1, bt3_0, if_pos (by rw [x2, ← n1a, Int32.add_assoc])]
theorem makes_1 (S : SX c ρ μ M) (W : WI c (ρ 51) μ) (hc : c < 60) (hx : x < 2 ^ 30) (hy : y < 2 ^ 30) : ∃ c' ρ' μ' M', f_L_makes ρ (nI 1) (nI x) (nI y) = some (1, ρ') ∧ Out c ρ μ c' ρ' μ' M' := by
  have rx8 : jrem (nI x) 8 = nI (x % 8) := jrem_nI (d := 8) (by omega) (by decide) (by decide)
  have dx8 : nI x / 8 = nI (x / 8) := pk_div8 hx 8 (by decide) (by decide)
  have rk : jrem (nI (x / 8)) 5 = nI (x / 8 % 5) := jrem_nI (d := 5) (by omega) (by decide) (by decide)
  have ry6 : jrem (nI y) 6 = nI (y % 6) := jrem_nI (d := 6) (by omega) (by decide) (by decide)
  have dy6 : nI y / 6 = nI (y / 6) := pk_div8 hy 6 (by decide) (by decide)
  have rp : jrem (nI (y / 6)) 20 = nI (y / 6 % 20) := jrem_nI (d := 20) (by omega) (by decide) (by decide)
  have ry3 : jrem (nI y) 300 = nI (y % 300) := jrem_nI (d := 300) (by omega) (by decide) (by decide)
  obtain ⟨a, ha⟩ : ∃ a, a = x % 8 := ⟨_, rfl⟩
  obtain ⟨k, hk⟩ : ∃ k, k = x / 8 % 5 := ⟨_, rfl⟩
  obtain ⟨n, hn⟩ : ∃ n, n = y % 6 := ⟨_, rfl⟩
  obtain ⟨p, hp⟩ : ∃ p, p = y / 6 % 20 := ⟨_, rfl⟩
  obtain ⟨t, ht⟩ : ∃ t, t = y % 300 := ⟨_, rfl⟩
  rw [← ha] at rx8
  rw [← hk] at rk
  rw [← hn] at ry6
  rw [← hp] at rp
  rw [← ht] at ry3
  have ha8 : a < 8 := by omega
  have hk5 : k < 5 := by omega
  have hn8 : n ≤ 20 := by omega
  have hp8 : p ≤ 50 := by omega
  have ht8 : t ≤ 300 := by omega
  clear ha hk hn hp ht
  obtain ⟨mk, mk1, mk2, mk3⟩ := W.2.1
  have hbit : ((nI mk >>> (nI a &&& 31)) &&& 1 = 1) = (μ 3 a ≠ -1) := by
    rw [bit_r mk1 ha8]
    refine propext ⟨fun z z' => ?_, fun z => ?_⟩
    · rw [(mk3 a ha8).mpr z'] at z; exact absurd z (by decide)
    · have : mk / 2 ^ a % 2 = 1 := by
        have : ¬ mk / 2 ^ a % 2 = 0 := fun q => z ((mk3 a ha8).mp q)
        omega
      rw [this]; rfl
  by_cases hs : μ 3 a = -1
  · have hs' : ((nI mk >>> (nI a &&& 31)) &&& 1 = 1) = False := by rw [hbit]; exact eq_false fun z => z hs
    obtain ⟨σ2, e2⟩ : ∃ σ2, σ2 = mu (mu (mu ρ 51 12 (ρ 51 12 ||| (1 <<< (nI a &&& 31)))) 51 0 (ρ 51 0 + nI t)) 51 6 (nI (c + 1)) := ⟨_, rfl⟩
    obtain ⟨τ', M', μ'', x1, x2, x3⟩ := mks_shop S W hc ha8 ht8 hs e2
    rw [mk2] at e2
    have E0 : mu ρ 51 12 (nI mk ||| (1 <<< (nI a &&& 31))) 51 0 = ρ 51 0 := mu_pl (by decide)
    have E6 : mu (mu ρ 51 12 (nI mk ||| (1 <<< (nI a &&& 31)))) 51 0 (ρ 51 0 + nI t) 51 6 = nI c := by rw [mu_pl (by decide), mu_pl (by decide)]; exact W.1.1
    refine ⟨c + 1, mgY τ' σ2, μ'', M', ?_, x3⟩
    unfold f_L_makes
    rw [if_neg (by decide), if_pos (by decide)]
    simp only [rx8, ry3, gl12, tc12, mk2, hs', if_false, stp_s, gl0, tc0, E0, gl6, tc6, E6, nI_1]
    rw [← e2, x1, bt3_0, p_till x3.2.2.1 ha8, bt_0, if_pos x2]
  · have hs' : ((nI mk >>> (nI a &&& 31)) &&& 1 = 1) = True := by rw [hbit]; exact eq_true hs
    have g1k : ∀ {α : Type} (x : Option α), gd (nI (1 + k)) 13 x = x := fun x => gd_ok (by omega) (by decide)
    have N1k : (nI (1 + k)).toNatClampNeg = 1 + k := N_nI (by omega)
    have E6 : mu ρ 51 (1 + k) (ρ 51 (1 + k) + nI n) 51 6 = nI c := by rw [mu_pl (by omega)]; exact W.1.1
    obtain ⟨σ2, e2⟩ : ∃ σ2, σ2 = mu (mu ρ 51 (1 + k) (ρ 51 (1 + k) + nI n)) 51 6 (nI (c + 1)) := ⟨_, rfl⟩
    obtain ⟨v, τ', M', μ'', x1, x2, x3⟩ := mks_stock S W hc ha8 hk5 hn8 hp8 hs e2
    refine ⟨c + 1, mgY τ' σ2, μ'', M', ?_, x3⟩
    unfold f_L_makes
    rw [if_neg (by decide), if_pos (by decide)]
    simp only [rx8, dx8, rk, ry6, dy6, rp, gl12, tc12, mk2, hs', if_true, n1a, p_stock S ha8 hk5, bt_0, g1k, N1k, stp_s, gl6, tc6, E6, nI_1]
    rw [← e2, x1, bt3_0, if_pos x2]
theorem makes_4 (S : SX c ρ μ M) (W : WI c (ρ 51) μ) (hc : c < 60) (hx : x < 2 ^ 30) (hy : y < 2 ^ 30) : ∃ c' ρ' μ' M', f_L_makes ρ (nI 4) (nI x) (nI y) = some (1, ρ') ∧ Out c ρ μ c' ρ' μ' M' := by
  have ry : jrem (nI y) 90 = nI (y % 90) := jrem_nI (d := 90) (by omega) (by decide) (by decide)
  obtain ⟨n, hn⟩ : ∃ n, n = y % 90 := ⟨_, rfl⟩
  rw [← hn] at ry
  have E6 : mu ρ 51 0 (ρ 51 0 + nI (1 + n)) 51 6 = nI c := by rw [mu_pl (by decide)]; exact W.1.1
  obtain ⟨σ2, e2⟩ : ∃ σ2, σ2 = mu (mu ρ 51 0 (ρ 51 0 + nI (1 + n))) 51 6 (nI (c + 1)) := ⟨_, rfl⟩
  obtain ⟨v, τ', M', μ'', x1, x2, x3⟩ := mks_endow S W hc (n := 1 + n) (by omega) (by omega) e2
  refine ⟨c + 1, mgY τ' σ2, μ'', M', ?_, x3⟩
  unfold f_L_makes
  rw [if_neg (by decide), if_neg (by decide), if_neg (by decide), jn_s, if_neg (by decide)]
  dsimp only
  rw [if_pos (by decide)]
  simp only [ry, n1a, p_purse S, bd_s, stp_s, gl0, tc0, gl6, tc6, E6, nI_1]
  rw [← e2, x1, bt3_0, if_pos (by rw [x2, ← n1a, Int32.add_assoc])]
theorem makes_0 (S : SX c ρ μ M) (W : WI c (ρ 51) μ) (hc : c < 60) (hx : x < 2 ^ 30) (hy : y < 2 ^ 30) : ∃ c' ρ' μ' M', f_L_makes ρ (nI 0) (nI x) (nI y) = some (1, ρ') ∧ Out c ρ μ c' ρ' μ' M' := by
  have rx8 : jrem (nI x) 8 = nI (x % 8) := jrem_nI (d := 8) (by omega) (by decide) (by decide)
  have dx8 : nI x / 8 = nI (x / 8) := pk_div8 hx 8 (by decide) (by decide)
  have r7 : jrem (nI (x / 8)) 7 = nI (x / 8 % 7) := jrem_nI (d := 7) (by omega) (by decide) (by decide)
  have ry4 : jrem (nI y) 4 = nI (y % 4) := jrem_nI (d := 4) (by omega) (by decide) (by decide)
  have ry2 : jrem (nI y + 2) 4 = nI ((y % 4 + 2) % 4) := by
    rw [show (2 : Int32) = nI 2 from rfl, nI_add, show (4 : Int32) = nI 4 from rfl, jrem_nI (by omega) (by decide) (by decide)]
    exact congrArg nI (by omega)
  have rb : jrem (nI (x % 8) + 1 + nI (x / 8 % 7)) 8 = nI ((x % 8 + 1 + x / 8 % 7) % 8) := by
    rw [nI_1, nI_add, show (8 : Int32) = nI 8 from rfl, jrem_nI (by omega) (by decide) (by decide)]
  obtain ⟨b, hb⟩ : ∃ b, b = (x % 8 + 1 + x / 8 % 7) % 8 := ⟨_, rfl⟩
  obtain ⟨a, ha⟩ : ∃ a, a = x % 8 := ⟨_, rfl⟩
  obtain ⟨d, hd⟩ : ∃ d, d = y % 4 := ⟨_, rfl⟩
  have hab : a ≠ b := by omega
  rw [← hb] at rb
  rw [← ha] at rx8 rb
  rw [← hd] at ry4 ry2
  have ha8 : a < 8 := by omega
  have hb8 : b < 8 := by omega
  have hd4 : d < 4 := by omega
  clear ha hb hd
  have hp4 : (d + 2) % 4 < 4 := by omega
  have nonneg : ∀ i, i < 32 → (0 ≤ μ 1 i) = (μ 1 i ≠ -1) := fun i hi => by
    have hI := S.iw
    obtain ⟨-, -, -, -, h5, -⟩ := id hI
    rcases h5 i hi with h | ⟨q, q1, h⟩
    · rw [h]; decide
    · rw [h]; exact propext ⟨fun _ z => nI_neg1 (by omega) z, fun _ => nI_pos' (by omega)⟩
  have n1 := nonneg (a * 4 + d) (by omega)
  have n2 := nonneg (b * 4 + (d + 2) % 4) (by omega)
  have c6 : ρ 51 6 = nI c := W.1.1
  have q01 : ((0 : Int32) = 1) = False := by decide
  rcases mks_link S W hc ha8 hb8 hd4 hab with ⟨⟨h1, h2⟩, τ', M', μ'', x1, x2, x3, x4, x5⟩ | ⟨h12, x1⟩
  · have eL : f_L_links ρ (nI a) (nI d) (nI b) = some (1, mgY τ' ρ) := by
      unfold f_L_links
      rw [x1, bt3_0, stp_s]
    obtain ⟨σ3, e3⟩ : ∃ σ3, σ3 = mgY τ' ρ := ⟨_, rfl⟩
    have k3 : ∀ k, 51 ≤ k → σ3 k = ρ k := fun k hk => by rw [e3]; exact mgY_K τ' ρ k hk
    rw [← e3] at eL
    rw [h1] at n1
    rw [h2] at n2
    have n1' : ((0 : Int32) ≤ -1) = False := by decide
    obtain ⟨σ4, e4⟩ : ∃ σ4, σ4 = mu σ3 51 6 (nI (c + 1)) := ⟨_, rfl⟩
    refine ⟨c + 1, σ4, μ'', M', ?_, Nat.le_succ _, Nat.le_refl _, x2.g fun k hk => by rw [e4, mu_n (by omega), e3, mgY_1 _ _ _ hk], ?_, x3, by rw [x4]; exact Nat.le_refl _, by rw [e4, mu_n (by decide), k3 52 (by decide)], by rw [e4, mu_n (by decide), k3 53 (by decide)]⟩
    · unfold f_L_makes
      rw [if_pos (by decide)]
      simp only [rx8, dx8, r7, rb, ry4, ry2, p_exit S ha8 hd4, p_exit S hb8 hp4, bt_0, jn_s, h1, h2, n1', if_false, eL, bd2_s, gl6, tc6, i10, k3 51 (by decide), c6, nI_1 c, stp_s, if_true]
      rw [← e4]
    · rw [e4, mu_s, k3 51 (by decide)]; exact x5
  · have eL : f_L_links ρ (nI a) (nI d) (nI b) = some (0, mgY ρ ρ) := by
      unfold f_L_links
      rw [x1, bt3_1, if_pos rfl, stp_s]
    obtain ⟨σ3, e3⟩ : ∃ σ3, σ3 = mgY ρ ρ := ⟨_, rfl⟩
    have k3 : ∀ k, 51 ≤ k → σ3 k = ρ k := fun k hk => by rw [e3]; exact mgY_K ρ ρ k hk
    rw [← e3] at eL
    obtain ⟨σ4, e4⟩ : ∃ σ4, σ4 = mu σ3 51 6 (nI c + 0) := ⟨_, rfl⟩
    have S4 : SX c σ4 μ M := S.g fun k hk => by rw [e4, mu_n (by omega), e3, mgY_1 _ _ _ hk]
    refine ⟨c, σ4, μ, M, ?_, Nat.le_refl _, Nat.le_succ _, S4, ?_, HK.rf, Nat.le_refl _, by rw [e4, mu_n (by decide), k3 52 (by decide)], by rw [e4, mu_n (by decide), k3 53 (by decide)]⟩
    · unfold f_L_makes
      rw [if_pos (by decide)]
      by_cases h1 : μ 1 (a * 4 + d) = -1
      · have h2 : μ 1 (b * 4 + (d + 2) % 4) ≠ -1 := fun z => h12 ⟨h1, z⟩
        have n1' : ((0 : Int32) ≤ -1) = False := by decide
        simp only [rx8, dx8, r7, rb, ry4, ry2, p_exit S ha8 hd4, p_exit S hb8 hp4, bt_0, jn_s, h1, n2, eq_true h2, n1', if_false, if_true, eL, bd2_s, gl6, tc6, i00, k3 51 (by decide), c6, stp_s]
        rw [← e4]
      · simp only [rx8, dx8, r7, rb, ry4, ry2, p_exit S ha8 hd4, p_exit S hb8 hp4, bt_0, jn_s, n1, eq_true (show μ 1 (a * 4 + d) ≠ -1 from h1), if_false, if_true, eL, bd2_s, gl6, tc6, i00, k3 51 (by decide), c6, stp_s]
        rw [← e4]
    · rw [e4, mu_s, k3 51 (by decide), upd_self (by rw [c6, Int32.add_zero])]; exact W
end MAKE
