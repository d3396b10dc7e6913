/-! A SIMPLER WORLD, no machine: pure functions over flat arrays (25 cells) -/
def f_X6_thrown (σ : Mem) : Option (Int32) :=
some (σ 0 29)
def f_X6_can (σ : Mem) (a0 : Int32) : Option (Int32 × Mem) :=
stp (mu σ 0 29 a0) fun σ1 =>
if a0 = 0 then (
some (1, σ1))
else (
some (0, σ1))
def f_X6_isIn (a0 a1 a2 : Int32) : Option (Int32) :=
if a0 < a1 then (
some 0)
else (
if a2 < a0 then (
some 0)
else (
some 1))
def f_X6_isRoom (a0 : Int32) : Option (Int32) :=
bd (f_X6_isIn a0 0 7) fun v1 =>
gz v1 <| some v1
def f_X6_isKind (a0 : Int32) : Option (Int32) :=
bd (f_X6_isIn a0 0 4) fun v1 =>
gz v1 <| some v1
def f_X6_isPlayer (σ : Mem) (a0 : Int32) : Option (Int32) :=
bd (f_X6_isIn a0 0 ((σ 0 5) - 1)) fun v1 =>
gz v1 <| some v1
def f_X6_isQuest (σ : Mem) (a0 : Int32) : Option (Int32) :=
bd (f_X6_isIn a0 0 ((σ 0 16) - 1)) fun v1 =>
gz v1 <| some v1
def L_X6_actor_9 : Nat → (Int32 → Option (Int32)) → Mem → Int32 → Int32 → Option (Int32)
  | 0, _, _, _, _ => none
  | n + 1, k, σ3, x1, x2 =>
    if x2 < 0 then (
    k x1)
    else (
    jn (fun (y7 : Int32) =>
    L_X6_actor_9 n k σ3 y7 (x2 + (-1))) fun (J8 : Int32 → Option (Int32)) =>
    jn (fun (_ : Unit) =>
    J8 x2) fun (J9 : Unit → Option (Int32)) =>
    if x1 = (-1) then (
    J9 ())
    else (
    gd x2 4 <|
    gd x1 4 <|
    if (σ3 10 x1.toNatClampNeg) < (σ3 10 x2.toNatClampNeg) then (
    J8 x1)
    else (
    J9 ())))
def f_X6_actor (σ : Mem) : Option (Int32) :=
L_X6_actor_9 FU (fun (x5 : Int32) =>
some x5) σ (-1) ((σ 0 5) - 1)
def L_X6_keep_38 : Nat → (Mem → Option (Mem)) → Int32 → Mem → Option (Mem)
  | 0, _, _, _ => none
  | n + 1, k, x5, σ6 =>
    if (σ6 0 5) ≤ x5 then (
    k σ6)
    else (
    gd x5 4 <|
    gd ((4 * (σ6 0 23)) + x5) 4400 <| stp (mu σ6 22 ((4 * (σ6 0 23)) + x5).toNatClampNeg (σ6 6 x5.toNatClampNeg)) fun σ10 =>
    gd x5 4 <|
    gd ((4 * (σ10 0 23)) + x5) 4400 <| stp (mu σ10 23 ((4 * (σ10 0 23)) + x5).toNatClampNeg (σ10 7 x5.toNatClampNeg)) fun σ11 =>
    L_X6_keep_38 n k (x5 + 1) σ11)
def f_X6_keep (σ : Mem) : Option (Mem) :=
stp (mu σ 0 23 ((σ 0 23) + 1)) fun σ1 =>
gd (σ1 0 23) 1100 <| stp (mu σ1 20 (σ1 0 23).toNatClampNeg (σ1 0 5)) fun σ2 =>
bd (f_X6_actor σ2) fun v3 =>
gd (σ2 0 23) 1100 <| stp (mu σ2 21 (σ2 0 23).toNatClampNeg v3) fun σ4 =>
L_X6_keep_38 FU (fun (σ8 : Mem) =>
some σ8) 0 σ4
def f_X6_link (σ : Mem) (a0 a1 a2 : Int32) : Option (Mem) :=
bd (f_X6_isRoom a0) fun v1 =>
jn (fun (y2 : Int32) (σ3 : Mem) =>
jn (fun (y5 : Int32) (σ6 : Mem) =>
bd2 (f_X6_can σ6 y5) fun v8 σ9 =>
if v8 = 0 then (
some σ9)
else (
gd ((4 * a0) + a1) 32 <| stp (mu σ9 1 ((4 * a0) + a1).toNatClampNeg a2) fun σ11 =>
gd ((4 * a2) + (jrem (a1 + 2) 4)) 32 <| stp (mu σ11 1 ((4 * a2) + (jrem (a1 + 2) 4)).toNatClampNeg a0) fun σ12 =>
bd (f_X6_keep σ12) fun σ13 =>
some σ13)) fun (J7 : Int32 → Mem → Option (Mem)) =>
if y2 = 0 then (
J7 1 σ3)
else (
if a0 = a2 then (
J7 2 σ3)
else (
gd ((4 * a0) + a1) 32 <|
jn (fun (σ16 : Mem) =>
J7 3 σ16) fun (J17 : Mem → Option (Mem)) =>
if (σ3 1 ((4 * a0) + a1).toNatClampNeg) = (-1) then (
gd ((4 * a2) + (jrem (a1 + 2) 4)) 32 <|
if (σ3 1 ((4 * a2) + (jrem (a1 + 2) 4)).toNatClampNeg) = (-1) then (
J7 0 σ3)
else (
J17 σ3))
else (
J17 σ3)))) fun (J4 : Int32 → Mem → Option (Mem)) =>
jn (fun (σ20 : Mem) =>
J4 0 σ20) fun (J21 : Mem → Option (Mem)) =>
if v1 = 0 then (
J21 σ)
else (
bd (f_X6_isRoom a2) fun v23 =>
if v23 = 0 then (
J21 σ)
else (
bd (f_X6_isIn a1 0 3) fun v25 =>
if v25 = 0 then (
J21 σ)
else (
J4 1 σ)))
def f_X6_shop (σ : Mem) (a0 a1 : Int32) : Option (Mem) :=
bd (f_X6_isRoom a0) fun v1 =>
jn (fun (y2 : Int32) (σ3 : Mem) =>
bd2 (f_X6_can σ3 y2) fun v5 σ6 =>
if v5 = 0 then (
some σ6)
else (
gd a0 8 <| stp (mu σ6 3 a0.toNatClampNeg a1) fun σ8 =>
bd (f_X6_keep σ8) fun σ9 =>
some σ9)) fun (J4 : Int32 → Mem → Option (Mem)) =>
if v1 = 0 then (
J4 1 σ)
else (
bd (f_X6_isIn a1 0 1000) fun v11 =>
if v11 = 0 then (
J4 2 σ)
else (
gd a0 8 <|
if (σ 3 a0.toNatClampNeg) = (-1) then (
J4 0 σ)
else (
J4 3 σ)))
def f_X6_stock (σ : Mem) (a0 a1 a2 a3 : Int32) : Option (Int32 × Mem) :=
bd (f_X6_isRoom a0) fun v1 =>
jn (fun (y2 : Int32) (σ3 : Mem) =>
bd2 (f_X6_can σ3 y2) fun v5 σ6 =>
if v5 = 0 then (
some (0, σ6))
else (
gd ((5 * a0) + a1) 40 <|
gd ((5 * a0) + a1) 40 <| stp (mu σ6 5 ((5 * a0) + a1).toNatClampNeg ((σ6 5 ((5 * a0) + a1).toNatClampNeg) + a2)) fun σ8 =>
gd ((5 * a0) + a1) 40 <| stp (mu σ8 4 ((5 * a0) + a1).toNatClampNeg a3) fun σ9 =>
bd (f_X6_keep σ9) fun σ10 =>
gd ((5 * a0) + a1) 40 <|
some ((σ10 5 ((5 * a0) + a1).toNatClampNeg), σ10))) fun (J4 : Int32 → Mem → Option (Int32 × Mem)) =>
jn (fun (σ11 : Mem) =>
J4 1 σ11) fun (J12 : Mem → Option (Int32 × Mem)) =>
if v1 = 0 then (
J12 σ)
else (
bd (f_X6_isKind a1) fun v14 =>
if v14 = 0 then (
J12 σ)
else (
bd (f_X6_isIn a2 0 20) fun v16 =>
jn (fun (σ17 : Mem) =>
J4 2 σ17) fun (J18 : Mem → Option (Int32 × Mem)) =>
if v16 = 0 then (
J18 σ)
else (
bd (f_X6_isIn a3 0 50) fun v20 =>
if v20 = 0 then (
J18 σ)
else (
gd a0 8 <|
if (σ 3 a0.toNatClampNeg) = (-1) then (
J4 3 σ)
else (
J4 0 σ)))))
def f_X6_scatter (σ : Mem) (a0 a1 a2 : Int32) : Option (Int32 × Mem) :=
bd (f_X6_isRoom a0) fun v1 =>
jn (fun (y2 : Int32) (σ3 : Mem) =>
bd2 (f_X6_can σ3 y2) fun v5 σ6 =>
if v5 = 0 then (
some (0, σ6))
else (
gd ((5 * a0) + a1) 40 <|
gd ((5 * a0) + a1) 40 <| stp (mu σ6 2 ((5 * a0) + a1).toNatClampNeg ((σ6 2 ((5 * a0) + a1).toNatClampNeg) + a2)) fun σ8 =>
bd (f_X6_keep σ8) fun σ9 =>
gd ((5 * a0) + a1) 40 <|
some ((σ9 2 ((5 * a0) + a1).toNatClampNeg), σ9))) fun (J4 : Int32 → Mem → Option (Int32 × Mem)) =>
jn (fun (σ10 : Mem) =>
J4 1 σ10) fun (J11 : Mem → Option (Int32 × Mem)) =>
if v1 = 0 then (
J11 σ)
else (
bd (f_X6_isKind a1) fun v13 =>
if v13 = 0 then (
J11 σ)
else (
bd (f_X6_isIn a2 1 9) fun v15 =>
if v15 = 0 then (
J4 2 σ)
else (
J4 0 σ)))
def f_X6_join (σ : Mem) (a0 a1 a2 : Int32) : Option (Int32 × Mem) :=
bd (f_X6_isRoom a0) fun v1 =>
jn (fun (y2 : Int32) (σ3 : Mem) =>
bd2 (f_X6_can σ3 y2) fun v5 σ6 =>
if v5 = 0 then (
some (0, σ6))
else (
gd (σ6 0 5) 4 <| stp (mu σ6 6 (σ6 0 5).toNatClampNeg a0) fun σ8 =>
gd (σ8 0 5) 4 <| stp (mu σ8 7 (σ8 0 5).toNatClampNeg a1) fun σ9 =>
gd (σ9 0 5) 4 <| stp (mu σ9 8 (σ9 0 5).toNatClampNeg a2) fun σ10 =>
gd (σ10 0 5) 4 <| stp (mu σ10 9 (σ10 0 5).toNatClampNeg 20) fun σ11 =>
stp (mu σ11 0 5 ((σ11 0 5) + 1)) fun σ12 =>
bd (f_X6_keep σ12) fun σ13 =>
some (((σ13 0 5) - 1), σ13))) fun (J4 : Int32 → Mem → Option (Int32 × Mem)) =>
if v1 = 0 then (
J4 1 σ)
else (
bd (f_X6_isIn a1 0 200) fun v15 =>
jn (fun (σ16 : Mem) =>
J4 2 σ16) fun (J17 : Mem → Option (Int32 × Mem)) =>
if v15 = 0 then (
J17 σ)
else (
bd (f_X6_isIn a2 0 6) fun v19 =>
if v19 = 0 then (
J17 σ)
else (
if (σ 0 5) = 4 then (
J4 3 σ)
else (
J4 0 σ))))
def f_X6_quest (σ : Mem) (a0 : Int32) : Option (Int32 × Mem) :=
bd (f_X6_isIn a0 0 100) fun v1 =>
jn (fun (y2 : Int32) (σ3 : Mem) =>
bd2 (f_X6_can σ3 y2) fun v5 σ6 =>
if v5 = 0 then (
some (0, σ6))
else (
gd (σ6 0 16) 3 <| stp (mu σ6 14 (σ6 0 16).toNatClampNeg a0) fun σ8 =>
stp (mu σ8 0 16 ((σ8 0 16) + 1)) fun σ9 =>
bd (f_X6_keep σ9) fun σ10 =>
some (((σ10 0 16) - 1), σ10))) fun (J4 : Int32 → Mem → Option (Int32 × Mem)) =>
if v1 = 0 then (
J4 1 σ)
else (
if (σ 0 16) = 3 then (
J4 2 σ)
else (
J4 0 σ))
def L_X6_stage_103 : Nat → (Int32 → Mem → Option (Int32 × Mem)) → Int32 → Int32 → Int32 → Int32 → Int32 → Int32 → Int32 → Int32 → Mem → Option (Int32 × Mem)
  | 0, _, _, _, _, _, _, _, _, _, _ => none
  | n + 1, k, x7, x8, x9, x10, x11, x12, x13, x14, σ15 =>
    if (σ15 0 5) ≤ x14 then (
    k x13 σ15)
    else (
    bd (f_X6_isQuest σ15 x7) fun v41 =>
    if v41 = 0 then (
    k x13 σ15)
    else (
    jn (fun (y43 : Int32) (σ44 : Mem) =>
    L_X6_stage_103 n k x7 x8 x9 x10 x11 x12 y43 (x14 + 1) σ44) fun (J45 : Int32 → Mem → Option (Int32 × Mem)) =>
    jn (fun (σ46 : Mem) =>
    J45 1 σ46) fun (J47 : Mem → Option (Int32 × Mem)) =>
    if x13 = 0 then (
    gd ((3 * x14) + x7) 12 <|
    if (σ15 19 ((3 * x14) + x7).toNatClampNeg) ≤ 0 then (
    J45 0 σ15)
    else (
    J47 σ15))
    else (
    J47 σ15)))
def f_X6_stage (σ : Mem) (a0 a1 a2 a3 : Int32) : Option (Int32 × Mem) :=
jn (fun (y1 : Int32) (σ2 : Mem) =>
jn (fun (y4 : Int32) (σ5 : Mem) =>
L_X6_stage_103 FU (fun (x17 : Int32) (σ18 : Mem) =>
bd (f_X6_isQuest σ18 a0) fun v19 =>
jn (fun (y20 : Int32) (σ21 : Mem) =>
bd2 (f_X6_can σ21 y20) fun v23 σ24 =>
if v23 = 0 then (
some (0, σ24))
else (
gd a0 3 <|
gd ((4 * a0) + (σ24 15 a0.toNatClampNeg)) 12 <| stp (mu σ24 16 ((4 * a0) + (σ24 15 a0.toNatClampNeg)).toNatClampNeg a1) fun σ26 =>
gd ((4 * a0) + (σ24 15 a0.toNatClampNeg)) 12 <| stp (mu σ26 17 ((4 * a0) + (σ24 15 a0.toNatClampNeg)).toNatClampNeg a2) fun σ27 =>
gd ((4 * a0) + (σ24 15 a0.toNatClampNeg)) 12 <| stp (mu σ27 18 ((4 * a0) + (σ24 15 a0.toNatClampNeg)).toNatClampNeg a3) fun σ28 =>
gd a0 3 <|
gd a0 3 <| stp (mu σ28 15 a0.toNatClampNeg ((σ28 15 a0.toNatClampNeg) + 1)) fun σ29 =>
bd (f_X6_keep σ29) fun σ30 =>
gd a0 3 <|
some ((σ30 15 a0.toNatClampNeg), σ30))) fun (J22 : Int32 → Mem → Option (Int32 × Mem)) =>
jn (fun (σ31 : Mem) =>
J22 1 σ31) fun (J32 : Mem → Option (Int32 × Mem)) =>
if v19 = 0 then (
J32 σ18)
else (
if y1 = 0 then (
J32 σ18)
else (
if y4 = 0 then (
J22 2 σ18)
else (
gd a0 3 <|
jn (fun (σ36 : Mem) =>
J22 3 σ36) fun (J37 : Mem → Option (Int32 × Mem)) =>
if (σ18 15 a0.toNatClampNeg) = 4 then (
J37 σ18)
else (
if x17 = 0 then (
J22 0 σ18)
else (
J37 σ18)))))) a0 a1 a2 a3 y1 y4 0 0 σ5) fun (J6 : Int32 → Mem → Option (Int32 × Mem)) =>
if a1 = 1 then (
bd (f_X6_isIn a3 1 9) fun v57 =>
J6 v57 σ2)
else (
if a1 = 2 then (
bd (f_X6_isIn a3 0 99) fun v56 =>
J6 v56 σ2)
else (
jn (fun (σ52 : Mem) =>
J6 1 σ52) fun (J53 : Mem → Option (Int32 × Mem)) =>
if a1 = 0 then (
J53 σ2)
else (
if a1 = 3 then (
J53 σ2)
else (
J6 0 σ2))))) fun (J3 : Int32 → Mem → Option (Int32 × Mem)) =>
if a1 = 1 then (
bd (f_X6_isKind a2) fun v69 =>
J3 v69 σ)
else (
if a1 = 3 then (
bd (f_X6_isIn a2 0 3) fun v68 =>
J3 v68 σ)
else (
jn (fun (σ60 : Mem) =>
J3 1 σ60) fun (J61 : Mem → Option (Int32 × Mem)) =>
jn (fun (σ62 : Mem) =>
bd (f_X6_isRoom a2) fun v64 =>
if v64 = 0 then (
J3 0 σ62)
else (
J61 σ62)) fun (J63 : Mem → Option (Int32 × Mem)) =>
if a1 = 0 then (
J63 σ)
else (
if a1 = 2 then (
J63 σ)
else (
J61 σ))))
def f_X6_endow (σ : Mem) (a0 : Int32) : Option (Int32 × Mem) :=
bd (f_X6_isIn a0 1 1000) fun v1 =>
jn (fun (y2 : Int32) (σ3 : Mem) =>
bd2 (f_X6_can σ3 y2) fun v5 σ6 =>
if v5 = 0 then (
some (0, σ6))
else (
stp (mu σ6 0 14 ((σ6 0 14) + a0)) fun σ8 =>
bd (f_X6_keep σ8) fun σ9 =>
some ((σ9 0 14), σ9))) fun (J4 : Int32 → Mem → Option (Int32 × Mem)) =>
if v1 = 0 then (
J4 1 σ)
else (
J4 0 σ)
def f_X6_seed (σ : Mem) (a0 : Int32) : Option (Mem) :=
bd (f_X6_isIn a0 0 65535) fun v1 =>
jn (fun (y2 : Int32) (σ3 : Mem) =>
bd2 (f_X6_can σ3 y2) fun v5 σ6 =>
if v5 = 0 then (
some σ6)
else (
stp (mu σ6 0 15 a0) fun σ8 =>
bd (f_X6_keep σ8) fun σ9 =>
some σ9)) fun (J4 : Int32 → Mem → Option (Mem)) =>
if v1 = 0 then (
J4 1 σ)
else (
J4 0 σ)
def f_X6_isFulfilled (σ : Mem) (a0 a1 a2 a3 : Int32) : Option (Int32) :=
gd a0 12 <|
gd a0 12 <|
if (σ 16 a0.toNatClampNeg) = 1 then (
gd ((5 * a1) + (σ 17 a0.toNatClampNeg)) 20 <|
gd a0 12 <|
if (σ 11 ((5 * a1) + (σ 17 a0.toNatClampNeg)).toNatClampNeg) < (σ 18 a0.toNatClampNeg) then (
some 0)
else (
some 1))
else (
gd a0 12 <|
if (σ 16 a0.toNatClampNeg) = 3 then (
if a3 = (σ 17 a0.toNatClampNeg) then (
some 1)
else (
some 0))
else (
gd a1 4 <|
if (σ 6 a1.toNatClampNeg) = (σ 17 a0.toNatClampNeg) then (
gd a0 12 <|
jn (fun (_ : Unit) =>
some 1) fun (J4 : Unit → Option (Int32)) =>
if (σ 16 a0.toNatClampNeg) = 0 then (
J4 ())
else (
gd a0 12 <|
if a2 = (σ 18 a0.toNatClampNeg) then (
J4 ())
else (
some 0)))
else (
some 0)))
def L_X6_ends_13 : Nat → (Mem → Option (Mem)) → Int32 → Int32 → Int32 → Int32 → Mem → Option (Mem)
  | 0, _, _, _, _, _, _ => none
  | n + 1, k, x2, x3, x4, x5, σ6 =>
    if (σ6 0 16) ≤ x5 then (
    k σ6)
    else (
    gd ((3 * x2) + x5) 12 <|
    gd x5 3 <|
    jn (fun (σ11 : Mem) =>
    L_X6_ends_13 n k x2 x3 x4 (x5 + 1) σ11) fun (J12 : Mem → Option (Mem)) =>
    if (σ6 15 x5.toNatClampNeg) ≤ (σ6 19 ((3 * x2) + x5).toNatClampNeg) then (
    J12 σ6)
    else (
    gd ((3 * x2) + x5) 12 <|
    bd (f_X6_isFulfilled σ6 ((4 * x5) + (σ6 19 ((3 * x2) + x5).toNatClampNeg)) x2 x3 x4) fun v14 =>
    if v14 = 0 then (
    J12 σ6)
    else (
    gd ((3 * x2) + x5) 12 <|
    gd ((3 * x2) + x5) 12 <| stp (mu σ6 19 ((3 * x2) + x5).toNatClampNeg ((σ6 19 ((3 * x2) + x5).toNatClampNeg) + 1)) fun σ16 =>
    gd ((3 * x2) + x5) 12 <|
    gd x5 3 <|
    jn (fun (y17 : Int32) (σ18 : Mem) =>
    gd x2 4 <|
    gd x2 4 <| stp (mu σ18 7 x2.toNatClampNeg ((σ18 7 x2.toNatClampNeg) + y17)) fun σ20 =>
    stp (mu σ20 0 14 ((σ20 0 14) - y17)) fun σ21 =>
    L_X6_ends_13 n k x2 x3 x4 (x5 + 1) σ21) fun (J19 : Int32 → Mem → Option (Mem)) =>
    if (σ16 15 x5.toNatClampNeg) ≤ (σ16 19 ((3 * x2) + x5).toNatClampNeg) then (
    gd x5 3 <|
    if (σ16 0 14) ≤ (σ16 14 x5.toNatClampNeg) then (
    J19 (σ16 0 14) σ16)
    else (
    gd x5 3 <|
    J19 (σ16 14 x5.toNatClampNeg) σ16))
    else (
    J19 0 σ16))))
def f_X6_ends (σ : Mem) (a0 a1 a2 a3 : Int32) : Option (Mem) :=
gd a0 4 <|
gd a0 4 <| stp (mu σ 10 a0.toNatClampNeg ((σ 10 a0.toNatClampNeg) + a1)) fun σ1 =>
L_X6_ends_13 FU (fun (σ8 : Mem) =>
bd (f_X6_keep σ8) fun σ9 =>
some σ9) a0 a2 a3 0 σ1
def f_X6_go (σ : Mem) (a0 : Int32) : Option (Int32 × Mem) :=
bd (f_X6_actor σ) fun v1 =>
bd (f_X6_isIn a0 0 3) fun v2 =>
jn (fun (y3 : Int32) (σ4 : Mem) =>
bd2 (f_X6_can σ4 y3) fun v6 σ7 =>
if v6 = 0 then (
some (0, σ7))
else (
gd v1 4 <|
gd ((4 * (σ7 6 v1.toNatClampNeg)) + a0) 32 <|
gd v1 4 <| stp (mu σ7 6 v1.toNatClampNeg (σ7 1 ((4 * (σ7 6 v1.toNatClampNeg)) + a0).toNatClampNeg)) fun σ9 =>
bd (f_X6_ends σ9 v1 2 (-1) (-1)) fun σ10 =>
gd v1 4 <|
some ((σ10 6 v1.toNatClampNeg), σ10))) fun (J5 : Int32 → Mem → Option (Int32 × Mem)) =>
if v2 = 0 then (
J5 1 σ)
else (
jn (fun (σ12 : Mem) =>
J5 2 σ12) fun (J13 : Mem → Option (Int32 × Mem)) =>
if v1 = (-1) then (
J13 σ)
else (
gd v1 4 <|
gd ((4 * (σ 6 v1.toNatClampNeg)) + a0) 32 <|
if (σ 1 ((4 * (σ 6 v1.toNatClampNeg)) + a0).toNatClampNeg) = (-1) then (
J13 σ)
else (
J5 0 σ)))
def L_X6_hears_3 : Nat → (Mem → Option (Mem)) → Int32 → Int32 → Int32 → Int32 → Mem → Option (Mem)
  | 0, _, _, _, _, _, _ => none
  | n + 1, k, x1, x2, x3, x4, σ5 =>
    if x4 ≤ 0 then (
    k σ5)
    else (
    gd (((6 * x1) + x4) - 1) 24 <|
    gd ((6 * x1) + x4) 24 <| stp (mu σ5 13 ((6 * x1) + x4).toNatClampNeg (σ5 13 (((6 * x1) + x4) - 1).toNatClampNeg)) fun σ17 =>
    L_X6_hears_3 n k x1 x2 x3 (x4 + (-1)) σ17)
def f_X6_hears (σ : Mem) (a0 a1 a2 : Int32) : Option (Mem) :=
L_X6_hears_3 FU (fun (σ7 : Mem) =>
gd (6 * a0) 24 <| stp (mu σ7 13 (6 * a0).toNatClampNeg ((100 * a1) + a2)) fun σ8 =>
gd a0 4 <|
gd a0 4 <|
jn (fun (y11 : Int32) (y12 : Int32) (y9 : Int32) (σ10 : Mem) =>
gd y11 4 <| stp (mu σ10 12 y11.toNatClampNeg (y12 + y9)) fun σ14 =>
some σ14) fun (J13 : Int32 → Int32 → Int32 → Mem → Option (Mem)) =>
if 6 ≤ (σ8 12 a0.toNatClampNeg) then (
J13 a0 (σ8 12 a0.toNatClampNeg) 0 σ8)
else (
J13 a0 (σ8 12 a0.toNatClampNeg) 1 σ8)) a0 a1 a2 5 σ
def f_X6_isNextTo (σ : Mem) (a0 a1 : Int32) : Option (Int32) :=
gd (4 * a0) 32 <|
jn (fun (_ : Unit) =>
some 1) fun (J1 : Unit → Option (Int32)) =>
if (σ 1 (4 * a0).toNatClampNeg) = a1 then (
J1 ())
else (
gd ((4 * a0) + 1) 32 <|
if (σ 1 ((4 * a0) + 1).toNatClampNeg) = a1 then (
J1 ())
else (
gd ((4 * a0) + 2) 32 <|
if (σ 1 ((4 * a0) + 2).toNatClampNeg) = a1 then (
J1 ())
else (
gd ((4 * a0) + 3) 32 <|
if (σ 1 ((4 * a0) + 3).toNatClampNeg) = a1 then (
J1 ())
else (
some 0))))
def L_X6_speaks_44 : Nat → (Int32 → Mem → Option (Int32 × Mem)) → Int32 → Int32 → Int32 → Int32 → Int32 → Mem → Option (Int32 × Mem)
  | 0, _, _, _, _, _, _, _ => none
  | n + 1, k, x9, x10, x11, x12, x13, σ14 =>
    if (σ14 0 5) ≤ x13 then (
    k x12 σ14)
    else (
    jn (fun (x20 : Int32) (σ21 : Mem) =>
    L_X6_speaks_44 n k x9 x10 x11 x20 (x13 + 1) σ21) fun (J22 : Int32 → Mem → Option (Int32 × Mem)) =>
    if x13 = x11 then (
    J22 x12 σ14)
    else (
    gd x13 4 <|
    gd x11 4 <|
    jn (fun (σ24 : Mem) =>
    bd (f_X6_hears σ24 x13 x11 x9) fun σ26 =>
    J22 (x12 + 1) σ26) fun (J25 : Mem → Option (Int32 × Mem)) =>
    if (σ14 6 x13.toNatClampNeg) = (σ14 6 x11.toNatClampNeg) then (
    J25 σ14)
    else (
    if x10 = 0 then (
    J22 x12 σ14)
    else (
    gd x11 4 <|
    gd x13 4 <|
    bd (f_X6_isNextTo σ14 (σ14 6 x11.toNatClampNeg) (σ14 6 x13.toNatClampNeg)) fun v29 =>
    if v29 = 0 then (
    J22 x12 σ14)
    else (
    J25 σ14)))))
def f_X6_speaks (σ : Mem) (a0 a1 : Int32) : Option (Int32 × Mem) :=
bd (f_X6_actor σ) fun v1 =>
bd (f_X6_isIn a0 0 99) fun v2 =>
jn (fun (y3 : Int32) (σ4 : Mem) =>
bd2 (f_X6_can σ4 y3) fun v6 σ7 =>
if v6 = 0 then (
some (0, σ7))
else (
L_X6_speaks_44 FU (fun (x16 : Int32) (σ17 : Mem) =>
bd (f_X6_ends σ17 v1 1 a0 (-1)) fun σ18 =>
some (x16, σ18)) a0 a1 v1 0 0 σ7)) fun (J5 : Int32 → Mem → Option (Int32 × Mem)) =>
if v2 = 0 then (
J5 1 σ)
else (
if v1 = (-1) then (
J5 2 σ)
else (
J5 0 σ))
def f_X6_say (σ : Mem) (a0 : Int32) : Option (Int32 × Mem) :=
bd2 (f_X6_speaks σ a0 0) fun v1 σ2 =>
some (v1, σ2)
def f_X6_shout (σ : Mem) (a0 : Int32) : Option (Int32 × Mem) :=
bd2 (f_X6_speaks σ a0 1) fun v1 σ2 =>
some (v1, σ2)
def f_X6_take (σ : Mem) (a0 : Int32) : Option (Int32 × Mem) :=
bd (f_X6_actor σ) fun v1 =>
bd (f_X6_isKind a0) fun v2 =>
jn (fun (y3 : Int32) (σ4 : Mem) =>
bd2 (f_X6_can σ4 y3) fun v6 σ7 =>
if v6 = 0 then (
some (0, σ7))
else (
gd v1 4 <|
gd ((5 * (σ7 6 v1.toNatClampNeg)) + a0) 40 <|
gd ((5 * (σ7 6 v1.toNatClampNeg)) + a0) 40 <| stp (mu σ7 2 ((5 * (σ7 6 v1.toNatClampNeg)) + a0).toNatClampNeg ((σ7 2 ((5 * (σ7 6 v1.toNatClampNeg)) + a0).toNatClampNeg) - 1)) fun σ9 =>
gd ((5 * v1) + a0) 20 <|
gd ((5 * v1) + a0) 20 <| stp (mu σ9 11 ((5 * v1) + a0).toNatClampNeg ((σ9 11 ((5 * v1) + a0).toNatClampNeg) + 1)) fun σ10 =>
bd (f_X6_ends σ10 v1 1 (-1) (-1)) fun σ11 =>
gd ((5 * v1) + a0) 20 <|
some ((σ11 11 ((5 * v1) + a0).toNatClampNeg), σ11))) fun (J5 : Int32 → Mem → Option (Int32 × Mem)) =>
if v2 = 0 then (
J5 1 σ)
else (
jn (fun (σ13 : Mem) =>
J5 2 σ13) fun (J14 : Mem → Option (Int32 × Mem)) =>
if v1 = (-1) then (
J14 σ)
else (
gd v1 4 <|
gd ((5 * (σ 6 v1.toNatClampNeg)) + a0) 40 <|
if (σ 2 ((5 * (σ 6 v1.toNatClampNeg)) + a0).toNatClampNeg) = 0 then (
J14 σ)
else (
J5 0 σ)))
def f_X6_drop (σ : Mem) (a0 : Int32) : Option (Int32 × Mem) :=
bd (f_X6_actor σ) fun v1 =>
bd (f_X6_isKind a0) fun v2 =>
jn (fun (y3 : Int32) (σ4 : Mem) =>
bd2 (f_X6_can σ4 y3) fun v6 σ7 =>
if v6 = 0 then (
some (0, σ7))
else (
gd ((5 * v1) + a0) 20 <|
gd ((5 * v1) + a0) 20 <| stp (mu σ7 11 ((5 * v1) + a0).toNatClampNeg ((σ7 11 ((5 * v1) + a0).toNatClampNeg) - 1)) fun σ9 =>
gd v1 4 <|
gd ((5 * (σ9 6 v1.toNatClampNeg)) + a0) 40 <|
gd ((5 * (σ9 6 v1.toNatClampNeg)) + a0) 40 <| stp (mu σ9 2 ((5 * (σ9 6 v1.toNatClampNeg)) + a0).toNatClampNeg ((σ9 2 ((5 * (σ9 6 v1.toNatClampNeg)) + a0).toNatClampNeg) + 1)) fun σ10 =>
bd (f_X6_ends σ10 v1 1 (-1) (-1)) fun σ11 =>
gd ((5 * v1) + a0) 20 <|
some ((σ11 11 ((5 * v1) + a0).toNatClampNeg), σ11))) fun (J5 : Int32 → Mem → Option (Int32 × Mem)) =>
if v2 = 0 then (
J5 1 σ)
else (
jn (fun (σ13 : Mem) =>
J5 2 σ13) fun (J14 : Mem → Option (Int32 × Mem)) =>
if v1 = (-1) then (
J14 σ)
else (
gd ((5 * v1) + a0) 20 <|
if (σ 11 ((5 * v1) + a0).toNatClampNeg) = 0 then (
J14 σ)
else (
J5 0 σ)))
def f_X6_isAway (σ : Mem) (a0 a1 : Int32) : Option (Int32) :=
jn (fun (_ : Unit) =>
some 1) fun (J1 : Unit → Option (Int32)) =>
if a0 = (-1) then (
J1 ())
else (
if a1 = a0 then (
J1 ())
else (
gd a1 4 <|
gd a0 4 <|
if (σ 6 a1.toNatClampNeg) = (σ 6 a0.toNatClampNeg) then (
some 0)
else (
J1 ())))
def f_X6_give (σ : Mem) (a0 a1 : Int32) : Option (Int32 × Mem) :=
bd (f_X6_actor σ) fun v1 =>
bd (f_X6_isPlayer σ a0) fun v2 =>
jn (fun (y3 : Int32) (σ4 : Mem) =>
bd2 (f_X6_can σ4 y3) fun v6 σ7 =>
if v6 = 0 then (
some (0, σ7))
else (
gd ((5 * v1) + a1) 20 <|
gd ((5 * v1) + a1) 20 <| stp (mu σ7 11 ((5 * v1) + a1).toNatClampNeg ((σ7 11 ((5 * v1) + a1).toNatClampNeg) - 1)) fun σ9 =>
gd ((5 * a0) + a1) 20 <|
gd ((5 * a0) + a1) 20 <| stp (mu σ9 11 ((5 * a0) + a1).toNatClampNeg ((σ9 11 ((5 * a0) + a1).toNatClampNeg) + 1)) fun σ10 =>
bd (f_X6_ends σ10 v1 1 (-1) (-1)) fun σ11 =>
gd ((5 * v1) + a1) 20 <|
some ((σ11 11 ((5 * v1) + a1).toNatClampNeg), σ11))) fun (J5 : Int32 → Mem → Option (Int32 × Mem)) =>
jn (fun (σ12 : Mem) =>
J5 1 σ12) fun (J13 : Mem → Option (Int32 × Mem)) =>
if v2 = 0 then (
J13 σ)
else (
bd (f_X6_isKind a1) fun v15 =>
if v15 = 0 then (
J13 σ)
else (
bd (f_X6_isAway σ v1 a0) fun v17 =>
jn (fun (σ18 : Mem) =>
J5 2 σ18) fun (J19 : Mem → Option (Int32 × Mem)) =>
if v17 = 0 then (
gd ((5 * v1) + a1) 20 <|
if (σ 11 ((5 * v1) + a1).toNatClampNeg) = 0 then (
J19 σ)
else (
J5 0 σ))
else (
J19 σ)))
def f_X6_pay (σ : Mem) (a0 a1 : Int32) : Option (Int32 × Mem) :=
bd (f_X6_actor σ) fun v1 =>
bd (f_X6_isPlayer σ a0) fun v2 =>
jn (fun (y3 : Int32) (σ4 : Mem) =>
bd2 (f_X6_can σ4 y3) fun v6 σ7 =>
if v6 = 0 then (
some (0, σ7))
else (
gd v1 4 <|
gd v1 4 <| stp (mu σ7 7 v1.toNatClampNeg ((σ7 7 v1.toNatClampNeg) - a1)) fun σ9 =>
gd a0 4 <|
gd a0 4 <| stp (mu σ9 7 a0.toNatClampNeg ((σ9 7 a0.toNatClampNeg) + a1)) fun σ10 =>
bd (f_X6_ends σ10 v1 1 (-1) (-1)) fun σ11 =>
gd v1 4 <|
some ((σ11 7 v1.toNatClampNeg), σ11))) fun (J5 : Int32 → Mem → Option (Int32 × Mem)) =>
if v2 = 0 then (
J5 1 σ)
else (
bd (f_X6_isIn a1 1 1000) fun v13 =>
if v13 = 0 then (
J5 2 σ)
else (
bd (f_X6_isAway σ v1 a0) fun v15 =>
jn (fun (σ16 : Mem) =>
J5 3 σ16) fun (J17 : Mem → Option (Int32 × Mem)) =>
if v15 = 0 then (
gd v1 4 <|
if a1 ≤ (σ 7 v1.toNatClampNeg) then (
J5 0 σ)
else (
J17 σ))
else (
J17 σ)))
def f_X6_traded (σ : Mem) (a0 a1 : Int32) : Option (Int32) :=
jn (fun (y1 : Int32) =>
jn (fun (_ : Unit) =>
some (-1)) fun (J3 : Unit → Option (Int32)) =>
if y1 = (-1) then (
J3 ())
else (
gd y1 40 <|
if (σ 4 y1.toNatClampNeg) = 0 then (
J3 ())
else (
some y1))) fun (J2 : Int32 → Option (Int32)) =>
jn (fun (_ : Unit) =>
J2 (-1)) fun (J6 : Unit → Option (Int32)) =>
if a0 = (-1) then (
J6 ())
else (
gd a0 4 <|
gd (σ 6 a0.toNatClampNeg) 8 <|
if (σ 3 (σ 6 a0.toNatClampNeg).toNatClampNeg) = (-1) then (
J6 ())
else (
gd a0 4 <|
J2 ((5 * (σ 6 a0.toNatClampNeg)) + a1)))
def f_X6_buy (σ : Mem) (a0 : Int32) : Option (Int32 × Mem) :=
bd (f_X6_actor σ) fun v1 =>
bd (f_X6_isKind a0) fun v2 =>
jn (fun (y3 : Int32) (σ4 : Mem) =>
bd (f_X6_isKind a0) fun v6 =>
jn (fun (y7 : Int32) (σ8 : Mem) =>
bd2 (f_X6_can σ8 y7) fun v10 σ11 =>
if v10 = 0 then (
some (0, σ11))
else (
gd y3 40 <|
gd y3 40 <| stp (mu σ11 5 y3.toNatClampNeg ((σ11 5 y3.toNatClampNeg) - 1)) fun σ13 =>
gd ((5 * v1) + a0) 20 <|
gd ((5 * v1) + a0) 20 <| stp (mu σ13 11 ((5 * v1) + a0).toNatClampNeg ((σ13 11 ((5 * v1) + a0).toNatClampNeg) + 1)) fun σ14 =>
gd v1 4 <|
gd y3 40 <|
gd v1 4 <| stp (mu σ14 7 v1.toNatClampNeg ((σ14 7 v1.toNatClampNeg) - (σ14 4 y3.toNatClampNeg))) fun σ15 =>
gd v1 4 <|
gd (σ15 6 v1.toNatClampNeg) 8 <|
gd y3 40 <|
gd (σ15 6 v1.toNatClampNeg) 8 <| stp (mu σ15 3 (σ15 6 v1.toNatClampNeg).toNatClampNeg ((σ15 3 (σ15 6 v1.toNatClampNeg).toNatClampNeg) + (σ15 4 y3.toNatClampNeg))) fun σ16 =>
bd (f_X6_ends σ16 v1 1 (-1) (-1)) fun σ17 =>
gd v1 4 <|
some ((σ17 7 v1.toNatClampNeg), σ17))) fun (J9 : Int32 → Mem → Option (Int32 × Mem)) =>
if v6 = 0 then (
J9 1 σ4)
else (
jn (fun (σ19 : Mem) =>
J9 2 σ19) fun (J20 : Mem → Option (Int32 × Mem)) =>
if y3 = (-1) then (
J20 σ4)
else (
gd y3 40 <|
if (σ4 5 y3.toNatClampNeg) = 0 then (
J20 σ4)
else (
gd v1 4 <|
gd y3 40 <|
if (σ4 4 y3.toNatClampNeg) ≤ (σ4 7 v1.toNatClampNeg) then (
J9 0 σ4)
else (
J20 σ4))))) fun (J5 : Int32 → Mem → Option (Int32 × Mem)) =>
if v2 = 0 then (
J5 (-1) σ)
else (
bd (f_X6_traded σ v1 a0) fun v25 =>
J5 v25 σ)
def f_X6_sell (σ : Mem) (a0 : Int32) : Option (Int32 × Mem) :=
bd (f_X6_actor σ) fun v1 =>
bd (f_X6_isKind a0) fun v2 =>
jn (fun (y3 : Int32) (σ4 : Mem) =>
bd (f_X6_isKind a0) fun v6 =>
jn (fun (y7 : Int32) (σ8 : Mem) =>
bd2 (f_X6_can σ8 y7) fun v10 σ11 =>
if v10 = 0 then (
some (0, σ11))
else (
gd y3 40 <|
gd y3 40 <| stp (mu σ11 5 y3.toNatClampNeg ((σ11 5 y3.toNatClampNeg) + 1)) fun σ13 =>
gd ((5 * v1) + a0) 20 <|
gd ((5 * v1) + a0) 20 <| stp (mu σ13 11 ((5 * v1) + a0).toNatClampNeg ((σ13 11 ((5 * v1) + a0).toNatClampNeg) - 1)) fun σ14 =>
gd v1 4 <|
gd y3 40 <|
gd v1 4 <| stp (mu σ14 7 v1.toNatClampNeg ((σ14 7 v1.toNatClampNeg) + ((σ14 4 y3.toNatClampNeg) / 2))) fun σ15 =>
gd v1 4 <|
gd (σ15 6 v1.toNatClampNeg) 8 <|
gd y3 40 <|
gd (σ15 6 v1.toNatClampNeg) 8 <| stp (mu σ15 3 (σ15 6 v1.toNatClampNeg).toNatClampNeg ((σ15 3 (σ15 6 v1.toNatClampNeg).toNatClampNeg) - ((σ15 4 y3.toNatClampNeg) / 2))) fun σ16 =>
bd (f_X6_ends σ16 v1 1 (-1) (-1)) fun σ17 =>
gd v1 4 <|
some ((σ17 7 v1.toNatClampNeg), σ17))) fun (J9 : Int32 → Mem → Option (Int32 × Mem)) =>
if v6 = 0 then (
J9 1 σ4)
else (
jn (fun (σ19 : Mem) =>
J9 2 σ19) fun (J20 : Mem → Option (Int32 × Mem)) =>
if y3 = (-1) then (
J20 σ4)
else (
gd ((5 * v1) + a0) 20 <|
if (σ4 11 ((5 * v1) + a0).toNatClampNeg) = 0 then (
J20 σ4)
else (
gd v1 4 <|
gd (σ4 6 v1.toNatClampNeg) 8 <|
gd y3 40 <|
if ((σ4 4 y3.toNatClampNeg) / 2) ≤ (σ4 3 (σ4 6 v1.toNatClampNeg).toNatClampNeg) then (
J9 0 σ4)
else (
J20 σ4))))) fun (J5 : Int32 → Mem → Option (Int32 × Mem)) =>
if v2 = 0 then (
J5 (-1) σ)
else (
bd (f_X6_traded σ v1 a0) fun v25 =>
J5 v25 σ)
def f_X6_rolls (σ : Mem) (a0 : Int32) : Option (Int32 × Mem) :=
stp (mu σ 0 15 (jrem ((25173 * (σ 0 15)) + 13849) 65536)) fun σ1 =>
gd a0 4 <|
some (((1 + (jrem (σ1 0 15) 6)) + (σ1 8 a0.toNatClampNeg)), σ1)
def L_X6_isBeaten_35 : Nat → (Mem → Option (Mem)) → Int32 → Int32 → Int32 → Mem → Option (Mem)
  | 0, _, _, _, _, _ => none
  | n + 1, k, x3, x4, x5, σ6 =>
    if 5 ≤ x5 then (
    k σ6)
    else (
    gd x3 4 <|
    gd ((5 * (σ6 6 x3.toNatClampNeg)) + x5) 40 <|
    gd ((5 * x3) + x5) 20 <|
    gd ((5 * (σ6 6 x3.toNatClampNeg)) + x5) 40 <| stp (mu σ6 2 ((5 * (σ6 6 x3.toNatClampNeg)) + x5).toNatClampNeg ((σ6 2 ((5 * (σ6 6 x3.toNatClampNeg)) + x5).toNatClampNeg) + (σ6 11 ((5 * x3) + x5).toNatClampNeg))) fun σ18 =>
    gd ((5 * x3) + x5) 20 <| stp (mu σ18 11 ((5 * x3) + x5).toNatClampNeg 0) fun σ19 =>
    L_X6_isBeaten_35 n k x3 x4 (x5 + 1) σ19)
def f_X6_isBeaten (σ : Mem) (a0 a1 a2 : Int32) : Option (Mem) :=
gd a0 4 <|
gd a0 4 <|
gd a0 4 <| stp (mu σ 7 a0.toNatClampNeg ((σ 7 a0.toNatClampNeg) - ((σ 7 a0.toNatClampNeg) / 2))) fun σ1 =>
gd a1 4 <|
gd a1 4 <| stp (mu σ1 7 a1.toNatClampNeg ((σ1 7 a1.toNatClampNeg) + ((σ 7 a0.toNatClampNeg) / 2))) fun σ2 =>
L_X6_isBeaten_35 FU (fun (σ8 : Mem) =>
gd a0 4 <| stp (mu σ8 6 a0.toNatClampNeg 0) fun σ9 =>
gd a0 4 <| stp (mu σ9 9 a0.toNatClampNeg 10) fun σ10 =>
gd a0 4 <|
jn (fun (y13 : Int32) (y11 : Int32) (σ12 : Mem) =>
gd y13 4 <| stp (mu σ12 10 y13.toNatClampNeg y11) fun σ15 =>
some σ15) fun (J14 : Int32 → Int32 → Mem → Option (Mem)) =>
if (σ10 10 a0.toNatClampNeg) ≤ (a2 + 10) then (
J14 a0 (a2 + 10) σ10)
else (
gd a0 4 <|
J14 a0 (σ10 10 a0.toNatClampNeg) σ10)) a0 a2 0 σ2
def L_X6_attack_45 : Nat → (Int32 → Mem → Option (Int32 × Mem)) → Int32 → Int32 → Int32 → Int32 → Mem → Option (Int32 × Mem)
  | 0, _, _, _, _, _, _ => none
  | n + 1, k, x9, x10, x11, x12, σ13 =>
    if 3 ≤ x12 then (
    k x11 σ13)
    else (
    if x11 = (-1) then (
    bd2 (f_X6_rolls σ13 x10) fun v54 σ55 =>
    bd2 (f_X6_rolls σ55 x9) fun v56 σ57 =>
    gd x9 4 <|
    jn (fun (y60 : Int32) (y61 : Int32) (y58 : Int32) (σ59 : Mem) =>
    gd y60 4 <| stp (mu σ59 9 y60.toNatClampNeg (y61 - y58)) fun σ63 =>
    gd x10 4 <|
    jn (fun (y66 : Int32) (y67 : Int32) (y64 : Int32) (σ65 : Mem) =>
    gd y66 4 <| stp (mu σ65 9 y66.toNatClampNeg (y67 + y64)) fun σ69 =>
    gd x9 4 <|
    jn (fun (y70 : Int32) (σ71 : Mem) =>
    L_X6_attack_45 n k x9 x10 y70 (x12 + 1) σ71) fun (J72 : Int32 → Mem → Option (Int32 × Mem)) =>
    if 0 < (σ69 9 x9.toNatClampNeg) then (
    gd x10 4 <|
    if 0 < (σ69 9 x10.toNatClampNeg) then (
    J72 (-1) σ69)
    else (
    J72 x10 σ69))
    else (
    J72 x9 σ69)) fun (J68 : Int32 → Int32 → Int32 → Mem → Option (Int32 × Mem)) =>
    if 0 ≤ (v54 - v56) then (
    J68 x10 (σ63 9 x10.toNatClampNeg) 0 σ63)
    else (
    J68 x10 (σ63 9 x10.toNatClampNeg) (v54 - v56) σ63)) fun (J62 : Int32 → Int32 → Int32 → Mem → Option (Int32 × Mem)) =>
    if (v54 - v56) ≤ 0 then (
    J62 x9 (σ57 9 x9.toNatClampNeg) 0 σ57)
    else (
    J62 x9 (σ57 9 x9.toNatClampNeg) (v54 - v56) σ57))
    else (
    k x11 σ13))
def f_X6_attack (σ : Mem) (a0 : Int32) : Option (Int32 × Mem) :=
bd (f_X6_actor σ) fun v1 =>
bd (f_X6_isPlayer σ a0) fun v2 =>
jn (fun (y3 : Int32) (σ4 : Mem) =>
bd2 (f_X6_can σ4 y3) fun v6 σ7 =>
if v6 = 0 then (
some (0, σ7))
else (
L_X6_attack_45 FU (fun (x15 : Int32) (σ16 : Mem) =>
jn (fun (σ17 : Mem) =>
jn (fun (y21 : Int32) (y19 : Int32) (σ20 : Mem) =>
jn (fun (y25 : Int32) (y26 : Int32) (y27 : Int32) (y23 : Int32) (σ24 : Mem) =>
bd (f_X6_ends σ24 y25 y26 y27 y23) fun σ29 =>
some (x15, σ29)) fun (J28 : Int32 → Int32 → Int32 → Int32 → Mem → Option (Int32 × Mem)) =>
if x15 = a0 then (
J28 y21 y19 (-1) a0 σ20)
else (
J28 y21 y19 (-1) (-1) σ20)) fun (J22 : Int32 → Int32 → Mem → Option (Int32 × Mem)) =>
if x15 = v1 then (
J22 v1 0 σ17)
else (
J22 v1 3 σ17)) fun (J18 : Mem → Option (Int32 × Mem)) =>
if x15 = (-1) then (
J18 σ16)
else (
jn (fun (y35 : Int32) (y33 : Int32) (σ34 : Mem) =>
gd v1 4 <|
bd (f_X6_isBeaten σ34 y35 y33 (σ34 10 v1.toNatClampNeg)) fun σ37 =>
jn (fun (y40 : Int32) (y38 : Int32) (σ39 : Mem) =>
jn (fun (y44 : Int32) (y45 : Int32) (y46 : Int32) (y42 : Int32) (σ43 : Mem) =>
bd (f_X6_ends σ43 y44 y45 y46 y42) fun σ48 =>
some (x15, σ48)) fun (J47 : Int32 → Int32 → Int32 → Int32 → Mem → Option (Int32 × Mem)) =>
if x15 = a0 then (
J47 y40 y38 (-1) a0 σ39)
else (
J47 y40 y38 (-1) (-1) σ39)) fun (J41 : Int32 → Int32 → Mem → Option (Int32 × Mem)) =>
if x15 = v1 then (
J41 v1 0 σ37)
else (
J41 v1 3 σ37)) fun (J36 : Int32 → Int32 → Mem → Option (Int32 × Mem)) =>
if x15 = a0 then (
J36 x15 v1 σ16)
else (
J36 x15 a0 σ16))) a0 v1 (-1) 0 σ7)) fun (J5 : Int32 → Mem → Option (Int32 × Mem)) =>
if v2 = 0 then (
J5 1 σ)
else (
bd (f_X6_isAway σ v1 a0) fun v78 =>
if v78 = 0 then (
J5 0 σ)
else (
J5 2 σ))
def f_X6_rest (σ : Mem) : Option (Int32 × Mem) :=
bd (f_X6_actor σ) fun v1 =>
jn (fun (y2 : Int32) (σ3 : Mem) =>
bd2 (f_X6_can σ3 y2) fun v5 σ6 =>
if v5 = 0 then (
some (0, σ6))
else (
gd v1 4 <|
gd v1 4 <|
jn (fun (y10 : Int32) (y11 : Int32) (y8 : Int32) (σ9 : Mem) =>
gd y10 4 <| stp (mu σ9 9 y10.toNatClampNeg (y11 + y8)) fun σ13 =>
bd (f_X6_ends σ13 v1 2 (-1) (-1)) fun σ14 =>
gd v1 4 <|
some ((σ14 9 v1.toNatClampNeg), σ14)) fun (J12 : Int32 → Int32 → Int32 → Mem → Option (Int32 × Mem)) =>
if 20 ≤ (σ6 9 v1.toNatClampNeg) then (
J12 v1 (σ6 9 v1.toNatClampNeg) 0 σ6)
else (
J12 v1 (σ6 9 v1.toNatClampNeg) 1 σ6))) fun (J4 : Int32 → Mem → Option (Int32 × Mem)) =>
if v1 = (-1) then (
J4 1 σ)
else (
J4 0 σ)
def f_X6_turn (σ : Mem) : Option (Int32 × Mem) :=
stp (mu σ 0 29 0) fun σ1 =>
bd (f_X6_actor σ1) fun v2 =>
some (v2, σ1)
def f_X6_isAsked (σ : Mem) (a0 : Int32) : Option (Int32 × Mem) :=
bd (f_X6_isPlayer σ a0) fun v1 =>
jn (fun (y2 : Int32) (σ3 : Mem) =>
bd2 (f_X6_can σ3 y2) fun v5 σ6 =>
gz v5 <| some (v5, σ6)) fun (J4 : Int32 → Mem → Option (Int32 × Mem)) =>
if v1 = 0 then (
J4 1 σ)
else (
J4 0 σ)
def f_X6_readyAt (σ : Mem) (a0 : Int32) : Option (Int32 × Mem) :=
bd2 (f_X6_isAsked σ a0) fun v1 σ2 =>
if v1 = 0 then (
some (0, σ2))
else (
gd a0 4 <|
some ((σ2 10 a0.toNatClampNeg), σ2))
def f_X6_roomOf (σ : Mem) (a0 : Int32) : Option (Int32 × Mem) :=
bd2 (f_X6_isAsked σ a0) fun v1 σ2 =>
if v1 = 0 then (
some (0, σ2))
else (
gd a0 4 <|
some ((σ2 6 a0.toNatClampNeg), σ2))
def f_X6_coinsOf (σ : Mem) (a0 : Int32) : Option (Int32 × Mem) :=
bd2 (f_X6_isAsked σ a0) fun v1 σ2 =>
if v1 = 0 then (
some (0, σ2))
else (
gd a0 4 <|
some ((σ2 7 a0.toNatClampNeg), σ2))
def f_X6_healthOf (σ : Mem) (a0 : Int32) : Option (Int32 × Mem) :=
bd2 (f_X6_isAsked σ a0) fun v1 σ2 =>
if v1 = 0 then (
some (0, σ2))
else (
gd a0 4 <|
some ((σ2 9 a0.toNatClampNeg), σ2))
def f_X6_goodsOf (σ : Mem) (a0 a1 : Int32) : Option (Int32 × Mem) :=
bd (f_X6_isPlayer σ a0) fun v1 =>
jn (fun (y2 : Int32) (σ3 : Mem) =>
bd2 (f_X6_can σ3 y2) fun v5 σ6 =>
if v5 = 0 then (
some (0, σ6))
else (
gd ((5 * a0) + a1) 20 <|
some ((σ6 11 ((5 * a0) + a1).toNatClampNeg), σ6))) fun (J4 : Int32 → Mem → Option (Int32 × Mem)) =>
jn (fun (σ8 : Mem) =>
J4 1 σ8) fun (J9 : Mem → Option (Int32 × Mem)) =>
if v1 = 0 then (
J9 σ)
else (
bd (f_X6_isKind a1) fun v11 =>
if v11 = 0 then (
J9 σ)
else (
J4 0 σ))
def f_X6_heard (σ : Mem) (a0 a1 : Int32) : Option (Int32 × Mem) :=
bd (f_X6_isPlayer σ a0) fun v1 =>
jn (fun (y2 : Int32) (σ3 : Mem) =>
bd2 (f_X6_can σ3 y2) fun v5 σ6 =>
if v5 = 0 then (
some (0, σ6))
else (
gd ((6 * a0) + a1) 24 <|
some ((σ6 13 ((6 * a0) + a1).toNatClampNeg), σ6))) fun (J4 : Int32 → Mem → Option (Int32 × Mem)) =>
jn (fun (σ8 : Mem) =>
J4 1 σ8) fun (J9 : Mem → Option (Int32 × Mem)) =>
if v1 = 0 then (
J9 σ)
else (
gd a0 4 <|
bd (f_X6_isIn a1 0 ((σ 12 a0.toNatClampNeg) - 1)) fun v11 =>
if v11 = 0 then (
J9 σ)
else (
J4 0 σ))
def f_X6_stageOf (σ : Mem) (a0 a1 : Int32) : Option (Int32 × Mem) :=
bd (f_X6_isPlayer σ a0) fun v1 =>
jn (fun (y2 : Int32) (σ3 : Mem) =>
bd2 (f_X6_can σ3 y2) fun v5 σ6 =>
if v5 = 0 then (
some (0, σ6))
else (
gd ((3 * a0) + a1) 12 <|
some ((σ6 19 ((3 * a0) + a1).toNatClampNeg), σ6))) fun (J4 : Int32 → Mem → Option (Int32 × Mem)) =>
jn (fun (σ8 : Mem) =>
J4 1 σ8) fun (J9 : Mem → Option (Int32 × Mem)) =>
if v1 = 0 then (
J9 σ)
else (
bd (f_X6_isQuest σ a1) fun v11 =>
if v11 = 0 then (
J9 σ)
else (
J4 0 σ))
def f_X6_exit (σ : Mem) (a0 a1 : Int32) : Option (Int32 × Mem) :=
bd (f_X6_isRoom a0) fun v1 =>
jn (fun (y2 : Int32) (σ3 : Mem) =>
bd2 (f_X6_can σ3 y2) fun v5 σ6 =>
if v5 = 0 then (
some (0, σ6))
else (
gd ((4 * a0) + a1) 32 <|
some ((σ6 1 ((4 * a0) + a1).toNatClampNeg), σ6))) fun (J4 : Int32 → Mem → Option (Int32 × Mem)) =>
jn (fun (σ8 : Mem) =>
J4 1 σ8) fun (J9 : Mem → Option (Int32 × Mem)) =>
if v1 = 0 then (
J9 σ)
else (
bd (f_X6_isIn a1 0 3) fun v11 =>
if v11 = 0 then (
J9 σ)
else (
J4 0 σ))
def L_X6_distance_69 : Nat → (Mem → Option (Int32 × Mem)) → Int32 → Int32 → Int32 → Mem → Option (Int32 × Mem)
  | 0, _, _, _, _, _ => none
  | n + 1, k, x20, x21, x22, σ23 =>
    if 32 ≤ x22 then (
    k σ23)
    else (
    gd x22 32 <|
    jn (fun (σ27 : Mem) =>
    L_X6_distance_69 n k x20 x21 (x22 + 1) σ27) fun (J28 : Mem → Option (Int32 × Mem)) =>
    if (σ23 1 x22.toNatClampNeg) = (-1) then (
    J28 σ23)
    else (
    gd (x22 / 4) 8 <|
    if (σ23 24 (x22 / 4).toNatClampNeg) = x21 then (
    gd x22 32 <|
    gd (σ23 1 x22.toNatClampNeg) 8 <|
    if (σ23 24 (σ23 1 x22.toNatClampNeg).toNatClampNeg) = (-1) then (
    gd x22 32 <|
    gd (σ23 1 x22.toNatClampNeg) 8 <| stp (mu σ23 24 (σ23 1 x22.toNatClampNeg).toNatClampNeg (x21 + 1)) fun σ32 =>
    L_X6_distance_69 n k x20 x21 (x22 + 1) σ32)
    else (
    J28 σ23))
    else (
    J28 σ23)))
def L_X6_distance_60 : Nat → (Mem → Option (Int32 × Mem)) → Int32 → Int32 → Mem → Option (Int32 × Mem)
  | 0, _, _, _, _ => none
  | n + 1, k, x14, x15, σ16 =>
    if 8 ≤ x15 then (
    k σ16)
    else (
    L_X6_distance_69 FU (fun (σ25 : Mem) =>
    L_X6_distance_60 n k x14 (x15 + 1) σ25) x14 x15 0 σ16)
def L_X6_distance_30 : Nat → (Mem → Option (Int32 × Mem)) → Int32 → Int32 → Int32 → Mem → Option (Int32 × Mem)
  | 0, _, _, _, _, _ => none
  | n + 1, k, x8, x9, x10, σ11 =>
    if 8 ≤ x10 then (
    k σ11)
    else (
    jn (fun (y36 : Int32) (y34 : Int32) (σ35 : Mem) =>
    gd y36 8 <| stp (mu σ35 24 y36.toNatClampNeg y34) fun σ38 =>
    L_X6_distance_30 n k x8 x9 (x10 + 1) σ38) fun (J37 : Int32 → Int32 → Mem → Option (Int32 × Mem)) =>
    if x10 = x8 then (
    J37 x10 0 σ11)
    else (
    J37 x10 (-1) σ11))
def f_X6_distance (σ : Mem) (a0 a1 : Int32) : Option (Int32 × Mem) :=
bd (f_X6_isRoom a0) fun v1 =>
jn (fun (y2 : Int32) (σ3 : Mem) =>
bd2 (f_X6_can σ3 y2) fun v5 σ6 =>
if v5 = 0 then (
some (0, σ6))
else (
L_X6_distance_30 FU (fun (σ13 : Mem) =>
L_X6_distance_60 FU (fun (σ18 : Mem) =>
gd a1 8 <|
some ((σ18 24 a1.toNatClampNeg), σ18)) a1 0 σ13) a0 a1 0 σ6)) fun (J4 : Int32 → Mem → Option (Int32 × Mem)) =>
jn (fun (σ40 : Mem) =>
J4 1 σ40) fun (J41 : Mem → Option (Int32 × Mem)) =>
if v1 = 0 then (
J41 σ)
else (
bd (f_X6_isRoom a1) fun v43 =>
if v43 = 0 then (
J41 σ)
else (
J4 0 σ))
def f_X6_onFloor (σ : Mem) (a0 a1 : Int32) : Option (Int32 × Mem) :=
bd (f_X6_isRoom a0) fun v1 =>
jn (fun (y2 : Int32) (σ3 : Mem) =>
bd2 (f_X6_can σ3 y2) fun v5 σ6 =>
if v5 = 0 then (
some (0, σ6))
else (
gd ((5 * a0) + a1) 40 <|
some ((σ6 2 ((5 * a0) + a1).toNatClampNeg), σ6))) fun (J4 : Int32 → Mem → Option (Int32 × Mem)) =>
jn (fun (σ8 : Mem) =>
J4 1 σ8) fun (J9 : Mem → Option (Int32 × Mem)) =>
if v1 = 0 then (
J9 σ)
else (
bd (f_X6_isKind a1) fun v11 =>
if v11 = 0 then (
J9 σ)
else (
J4 0 σ))
def f_X6_stockOf (σ : Mem) (a0 a1 : Int32) : Option (Int32 × Mem) :=
bd (f_X6_isRoom a0) fun v1 =>
jn (fun (y2 : Int32) (σ3 : Mem) =>
bd2 (f_X6_can σ3 y2) fun v5 σ6 =>
if v5 = 0 then (
some (0, σ6))
else (
gd ((5 * a0) + a1) 40 <|
some ((σ6 5 ((5 * a0) + a1).toNatClampNeg), σ6))) fun (J4 : Int32 → Mem → Option (Int32 × Mem)) =>
jn (fun (σ8 : Mem) =>
J4 1 σ8) fun (J9 : Mem → Option (Int32 × Mem)) =>
if v1 = 0 then (
J9 σ)
else (
bd (f_X6_isKind a1) fun v11 =>
if v11 = 0 then (
J9 σ)
else (
J4 0 σ))
def f_X6_tillOf (σ : Mem) (a0 : Int32) : Option (Int32 × Mem) :=
bd (f_X6_isRoom a0) fun v1 =>
jn (fun (y2 : Int32) (σ3 : Mem) =>
bd2 (f_X6_can σ3 y2) fun v5 σ6 =>
if v5 = 0 then (
some (0, σ6))
else (
gd a0 8 <|
some ((σ6 3 a0.toNatClampNeg), σ6))) fun (J4 : Int32 → Mem → Option (Int32 × Mem)) =>
if v1 = 0 then (
J4 1 σ)
else (
J4 0 σ)
def f_X6_purse (σ : Mem) : Option (Int32 × Mem) :=
stp (mu σ 0 29 0) fun σ1 =>
some ((σ1 0 14), σ1)
def L_X6_allCoins_37 : Nat → (Int32 → Mem → Option (Int32 × Mem)) → Int32 → Int32 → Mem → Option (Int32 × Mem)
  | 0, _, _, _, _ => none
  | n + 1, k, x8, x9, σ10 =>
    if 8 ≤ x9 then (
    k x8 σ10)
    else (
    gd x9 8 <|
    jn (fun (y17 : Int32) (y15 : Int32) (σ16 : Mem) =>
    L_X6_allCoins_37 n k (y17 + y15) (x9 + 1) σ16) fun (J18 : Int32 → Int32 → Mem → Option (Int32 × Mem)) =>
    if (σ10 3 x9.toNatClampNeg) = (-1) then (
    J18 x8 0 σ10)
    else (
    gd x9 8 <|
    L_X6_allCoins_37 n k (x8 + (σ10 3 x9.toNatClampNeg)) (x9 + 1) σ10))
def L_X6_allCoins_12 : Nat → (Int32 → Mem → Option (Int32 × Mem)) → Int32 → Int32 → Mem → Option (Int32 × Mem)
  | 0, _, _, _, _ => none
  | n + 1, k, x2, x3, σ4 =>
    if (σ4 0 5) ≤ x3 then (
    k x2 σ4)
    else (
    gd x3 4 <|
    L_X6_allCoins_12 n k (x2 + (σ4 7 x3.toNatClampNeg)) (x3 + 1) σ4)
def f_X6_allCoins (σ : Mem) : Option (Int32 × Mem) :=
stp (mu σ 0 29 0) fun σ1 =>
L_X6_allCoins_12 FU (fun (x6 : Int32) (σ7 : Mem) =>
L_X6_allCoins_37 FU (fun (x12 : Int32) (σ13 : Mem) =>
some (x12, σ13)) x6 0 σ7) (σ1 0 14) 0 σ1
def L_X6_allGoods_54 : Nat → (Int32 → Mem → Option (Int32 × Mem)) → Int32 → Int32 → Int32 → Mem → Option (Int32 × Mem)
  | 0, _, _, _, _, _ => none
  | n + 1, k, x15, x16, x17, σ18 =>
    if 8 ≤ x17 then (
    k x16 σ18)
    else (
    gd ((5 * x17) + x15) 40 <|
    gd ((5 * x17) + x15) 40 <|
    L_X6_allGoods_54 n k x15 (x16 + ((σ18 2 ((5 * x17) + x15).toNatClampNeg) + (σ18 5 ((5 * x17) + x15).toNatClampNeg))) (x17 + 1) σ18)
def L_X6_allGoods_25 : Nat → (Int32 → Mem → Option (Int32 × Mem)) → Int32 → Int32 → Int32 → Mem → Option (Int32 × Mem)
  | 0, _, _, _, _, _ => none
  | n + 1, k, x8, x9, x10, σ11 =>
    if (σ11 0 5) ≤ x10 then (
    k x9 σ11)
    else (
    gd ((5 * x10) + x8) 20 <|
    L_X6_allGoods_25 n k x8 (x9 + (σ11 11 ((5 * x10) + x8).toNatClampNeg)) (x10 + 1) σ11)
def f_X6_allGoods (σ : Mem) (a0 : Int32) : Option (Int32 × Mem) :=
bd (f_X6_isKind a0) fun v1 =>
jn (fun (y2 : Int32) (σ3 : Mem) =>
bd2 (f_X6_can σ3 y2) fun v5 σ6 =>
if v5 = 0 then (
some (0, σ6))
else (
L_X6_allGoods_25 FU (fun (x13 : Int32) (σ14 : Mem) =>
L_X6_allGoods_54 FU (fun (x20 : Int32) (σ21 : Mem) =>
some (x20, σ21)) a0 x13 0 σ14) a0 0 0 σ6)) fun (J4 : Int32 → Mem → Option (Int32 × Mem)) =>
if v1 = 0 then (
J4 1 σ)
else (
J4 0 σ)
def f_X6_calls (σ : Mem) : Option (Int32 × Mem) :=
stp (mu σ 0 29 0) fun σ1 =>
some ((σ1 0 23), σ1)
def f_X6_wasThere (σ : Mem) (a0 a1 : Int32) : Option (Int32 × Mem) :=
bd (f_X6_isIn a0 0 (σ 0 23)) fun v1 =>
jn (fun (y2 : Int32) (σ3 : Mem) =>
bd2 (f_X6_can σ3 y2) fun v5 σ6 =>
gz v5 <| some (v5, σ6)) fun (J4 : Int32 → Mem → Option (Int32 × Mem)) =>
jn (fun (σ7 : Mem) =>
J4 1 σ7) fun (J8 : Mem → Option (Int32 × Mem)) =>
if v1 = 0 then (
J8 σ)
else (
gd a0 1100 <|
bd (f_X6_isIn a1 0 ((σ 20 a0.toNatClampNeg) - 1)) fun v10 =>
if v10 = 0 then (
J8 σ)
else (
J4 0 σ))
def f_X6_roomAfter (σ : Mem) (a0 a1 : Int32) : Option (Int32 × Mem) :=
bd2 (f_X6_wasThere σ a0 a1) fun v1 σ2 =>
if v1 = 0 then (
some (0, σ2))
else (
gd ((4 * a0) + a1) 4400 <|
some ((σ2 22 ((4 * a0) + a1).toNatClampNeg), σ2))
def f_X6_coinsAfter (σ : Mem) (a0 a1 : Int32) : Option (Int32 × Mem) :=
bd2 (f_X6_wasThere σ a0 a1) fun v1 σ2 =>
if v1 = 0 then (
some (0, σ2))
else (
gd ((4 * a0) + a1) 4400 <|
some ((σ2 23 ((4 * a0) + a1).toNatClampNeg), σ2))
def f_X6_turnAfter (σ : Mem) (a0 : Int32) : Option (Int32 × Mem) :=
bd (f_X6_isIn a0 0 (σ 0 23)) fun v1 =>
jn (fun (y2 : Int32) (σ3 : Mem) =>
bd2 (f_X6_can σ3 y2) fun v5 σ6 =>
if v5 = 0 then (
some (0, σ6))
else (
gd a0 1100 <|
some ((σ6 21 a0.toNatClampNeg), σ6))) fun (J4 : Int32 → Mem → Option (Int32 × Mem)) =>
if v1 = 0 then (
J4 1 σ)
else (
J4 0 σ)
