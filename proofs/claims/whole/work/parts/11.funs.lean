/-! ===== what each method does to the abstract heap (laid by program out of the listing) ===== -/
/-- Integer.compare -/
def f_icmp (x y : Int32) : Option Int32 := if y ≤ x then (if x = y then some 0 else some 1) else some (-1)
def f_X3_init (h : Hea) (a0 : Nat) : Option (Hea) :=
  (pI h a0 3 0 0).bind fun h1 =>
  bind2 (nwO h1 (cI 0 6 (fun _ => 0))) fun q2 h3 =>
  (pR h3 a0 3 1 q2).bind fun h4 =>
  bind2 (nwO h4 (cI 0 6 (fun _ => 0))) fun q5 h6 =>
  (pR h6 a0 3 2 q5).bind fun h7 =>
  bind2 (nwO h7 (cI 0 6 (fun _ => 0))) fun q8 h9 =>
  (pR h9 a0 3 3 q8).bind fun h10 =>
  bind2 (nwO h10 (cI 0 6 (fun _ => 0))) fun q11 h12 =>
  (pR h12 a0 3 4 q11).bind fun h13 =>
  bind2 (nwO h13 (cI 0 6 (fun _ => 0))) fun q14 h15 =>
  (pR h15 a0 3 5 q14).bind fun h16 =>
  some h16
def f_X1_restart_12 : Nat → Hea → Nat → Int32 → Option (Hea)
  | 0, _, _, _ => none
  | n + 1, h, y0, y3 =>
    if 8 ≤ y3 then (
      some h
    ) else (
      (gR h y0 1 2).bind fun x1 =>
      (stI h 0 x1 y3 5).bind fun h2 =>
      f_X1_restart_12 n h2 y0 (y3 + 1)
    )
def f_X1_restart_33 : Nat → Hea → Nat → Int32 → Option (Hea)
  | 0, _, _, _ => none
  | n + 1, h, y0, y3 =>
    if 64 ≤ y3 then (
      some h
    ) else (
      (gR h y0 1 3).bind fun x1 =>
      (stI h 0 x1 y3 0).bind fun h2 =>
      f_X1_restart_33 n h2 y0 (y3 + 1)
    )
def f_X1_restart (h : Hea) (a0 : Nat) (a1 : Int32) (a2 : Int32) : Option (Hea) :=
  (pI h a0 1 0 a1).bind fun h1 =>
  (pI h1 a0 1 1 a2).bind fun h2 =>
  (f_X1_restart_12 lots h2 a0 0).bind fun h3 =>
  (f_X1_restart_33 lots h3 a0 0).bind fun h4 =>
  (gR h4 a0 1 4).bind fun x5 =>
  (stI h4 0 x5 0 0).bind fun h6 =>
  (pI h6 a0 1 5 1).bind fun h7 =>
  (pI h7 a0 1 6 0).bind fun h8 =>
  (gR h8 a0 1 9).bind fun x9 =>
  (pI h8 x9 3 0 0).bind fun h10 =>
  (pI h10 a0 1 10 0).bind fun h11 =>
  some h11
def f_X1_init (h : Hea) (a0 : Nat) : Option (Hea) :=
  bind2 (nwO h (cI 0 8 (fun _ => 0))) fun q1 h2 =>
  (pR h2 a0 1 2 q1).bind fun h3 =>
  bind2 (nwO h3 (cI 0 64 (fun _ => 0))) fun q4 h5 =>
  (pR h5 a0 1 3 q4).bind fun h6 =>
  bind2 (nwO h6 (cI 0 12 (fun _ => 0))) fun q7 h8 =>
  (pR h8 a0 1 4 q7).bind fun h9 =>
  bind2 (nwO h9 (cI 0 6 (fun _ => 0))) fun q10 h11 =>
  (pR h11 a0 1 7 q10).bind fun h12 =>
  bind2 (nwO h12 (cI 0 6 (fun _ => 0))) fun q13 h14 =>
  (pR h14 a0 1 8 q13).bind fun h15 =>
  bind2 (nwO h15 (cO 3 [.int 0, .null, .null, .null, .null, .null])) fun q16 h17 =>
  (f_X3_init h17 q16).bind fun h18 =>
  (pR h18 a0 1 9 q16).bind fun h19 =>
  bind2 (nwO h19 (cI 0 6 (fun _ => 0))) fun q20 h21 =>
  (pR h21 a0 1 11 q20).bind fun h22 =>
  bind2 (nwO h22 (cI 0 6 (fun _ => 0))) fun q23 h24 =>
  (pR h24 a0 1 12 q23).bind fun h25 =>
  bind2 (nwO h25 (cI 0 6 (fun _ => 0))) fun q26 h27 =>
  (pR h27 a0 1 13 q26).bind fun h28 =>
  (isO h28 a0 1).bind fun _ =>
  (f_X1_restart h28 a0 10 3).bind fun h29 =>
  some h29
def f_X2_init (h : Hea) (a0 : Nat) : Option (Hea) :=
  bind2 (nwO h (cR 6 8 (fun _ => none))) fun q1 h2 =>
  (pR h2 a0 2 0 q1).bind fun h3 =>
  (pI h3 a0 2 1 0).bind fun h4 =>
  (gR h4 a0 2 0).bind fun x5 =>
  bind2 (nwO h4 (cO 3 [.int 0, .null, .null, .null, .null, .null])) fun q6 h7 =>
  (f_X3_init h7 q6).bind fun h8 =>
  (stR h8 6 3 x5 0 q6).bind fun h9 =>
  (gR h9 a0 2 0).bind fun x10 =>
  bind2 (nwO h9 (cO 3 [.int 0, .null, .null, .null, .null, .null])) fun q11 h12 =>
  (f_X3_init h12 q11).bind fun h13 =>
  (stR h13 6 3 x10 1 q11).bind fun h14 =>
  (gR h14 a0 2 0).bind fun x15 =>
  bind2 (nwO h14 (cO 3 [.int 0, .null, .null, .null, .null, .null])) fun q16 h17 =>
  (f_X3_init h17 q16).bind fun h18 =>
  (stR h18 6 3 x15 2 q16).bind fun h19 =>
  (gR h19 a0 2 0).bind fun x20 =>
  bind2 (nwO h19 (cO 3 [.int 0, .null, .null, .null, .null, .null])) fun q21 h22 =>
  (f_X3_init h22 q21).bind fun h23 =>
  (stR h23 6 3 x20 3 q21).bind fun h24 =>
  (gR h24 a0 2 0).bind fun x25 =>
  bind2 (nwO h24 (cO 3 [.int 0, .null, .null, .null, .null, .null])) fun q26 h27 =>
  (f_X3_init h27 q26).bind fun h28 =>
  (stR h28 6 3 x25 4 q26).bind fun h29 =>
  (gR h29 a0 2 0).bind fun x30 =>
  bind2 (nwO h29 (cO 3 [.int 0, .null, .null, .null, .null, .null])) fun q31 h32 =>
  (f_X3_init h32 q31).bind fun h33 =>
  (stR h33 6 3 x30 5 q31).bind fun h34 =>
  (gR h34 a0 2 0).bind fun x35 =>
  bind2 (nwO h34 (cO 3 [.int 0, .null, .null, .null, .null, .null])) fun q36 h37 =>
  (f_X3_init h37 q36).bind fun h38 =>
  (stR h38 6 3 x35 6 q36).bind fun h39 =>
  (gR h39 a0 2 0).bind fun x40 =>
  bind2 (nwO h39 (cO 3 [.int 0, .null, .null, .null, .null, .null])) fun q41 h42 =>
  (f_X3_init h42 q41).bind fun h43 =>
  (stR h43 6 3 x40 7 q41).bind fun h44 =>
  some h44
def f_X0_init (h : Hea) (a0 : Nat) : Option (Hea) :=
  bind2 (nwO h (cO 3 [.int 0, .null, .null, .null, .null, .null])) fun q1 h2 =>
  (f_X3_init h2 q1).bind fun h3 =>
  (pR h3 a0 0 0 q1).bind fun h4 =>
  bind2 (nwO h4 (cI 0 4 (fun _ => 0))) fun q5 h6 =>
  (pR h6 a0 0 1 q5).bind fun h7 =>
  some h7
def f_X6_init (h : Hea) (a0 : Nat) : Option (Hea) :=
  bind2 (nwO h (cO 3 [.int 0, .null, .null, .null, .null, .null])) fun q1 h2 =>
  (f_X3_init h2 q1).bind fun h3 =>
  (pR h3 a0 6 2 q1).bind fun h4 =>
  bind2 (nwO h4 (cI 0 48 (fun _ => 0))) fun q5 h6 =>
  (pR h6 a0 6 3 q5).bind fun h7 =>
  bind2 (nwO h7 (cI 0 48 (fun _ => 0))) fun q8 h9 =>
  (pR h9 a0 6 4 q8).bind fun h10 =>
  some h10
def f_X5_init (h : Hea) (a0 : Nat) : Option (Hea) :=
  bind2 (nwO h (cJ 8 (fun _ => 0))) fun q1 h2 =>
  (pR h2 a0 5 0 q1).bind fun h3 =>
  bind2 (nwO h3 (cJ 8 (fun _ => 0))) fun q4 h5 =>
  (pR h5 a0 5 1 q4).bind fun h6 =>
  bind2 (nwO h6 (cJ 8 (fun _ => 0))) fun q7 h8 =>
  (pR h8 a0 5 2 q7).bind fun h9 =>
  bind2 (nwO h9 (cJ 8 (fun _ => 0))) fun q10 h11 =>
  (pR h11 a0 5 3 q10).bind fun h12 =>
  some h12
def f_X4_init (h : Hea) (a0 : Nat) : Option (Hea) :=
  bind2 (nwO h (cI 1 0 (fun _ => 0))) fun q1 h2 =>
  (pR h2 a0 4 0 q1).bind fun h3 =>
  (pI h3 a0 4 1 0).bind fun h4 =>
  (pI h4 a0 4 2 0).bind fun h5 =>
  (pI h5 a0 4 3 0).bind fun h6 =>
  (pI h6 a0 4 4 0).bind fun h7 =>
  (pI h7 a0 4 5 0).bind fun h8 =>
  (pI h8 a0 4 6 (-1)).bind fun h9 =>
  (pI h9 a0 4 7 0).bind fun h10 =>
  some h10
def f_X7_init (h : Hea) (a0 : Nat) : Option (Hea) :=
  bind2 (nwO h (cO 1 [.int 0, .int 0, .null, .null, .null, .int 0, .int 0, .null, .null, .null, .int 0, .null, .null, .null])) fun q1 h2 =>
  (f_X1_init h2 q1).bind fun h3 =>
  (pR h3 a0 7 0 q1).bind fun h4 =>
  bind2 (nwO h4 (cO 2 [.null, .int 0])) fun q5 h6 =>
  (f_X2_init h6 q5).bind fun h7 =>
  (pR h7 a0 7 1 q5).bind fun h8 =>
  bind2 (nwO h8 (cO 1 [.int 0, .int 0, .null, .null, .null, .int 0, .int 0, .null, .null, .null, .int 0, .null, .null, .null])) fun q9 h10 =>
  (f_X1_init h10 q9).bind fun h11 =>
  (pR h11 a0 7 2 q9).bind fun h12 =>
  bind2 (nwO h12 (cR 4 2 (fun _ => none))) fun q13 h14 =>
  (pR h14 a0 7 3 q13).bind fun h15 =>
  bind2 (nwO h15 (cR 5 2 (fun _ => none))) fun q16 h17 =>
  (pR h17 a0 7 4 q16).bind fun h18 =>
  bind2 (nwO h18 (cI 2 2 (fun _ => 0))) fun q19 h20 =>
  (pR h20 a0 7 5 q19).bind fun h21 =>
  bind2 (nwO h21 (cO 0 [.null, .null])) fun q22 h23 =>
  (f_X0_init h23 q22).bind fun h24 =>
  (pR h24 a0 7 6 q22).bind fun h25 =>
  bind2 (nwO h25 (cO 6 [.int 0, .int 0, .null, .null, .null])) fun q26 h27 =>
  (f_X6_init h27 q26).bind fun h28 =>
  (pR h28 a0 7 7 q26).bind fun h29 =>
  bind2 (nwO h29 (cO 5 [.null, .null, .null, .null])) fun q30 h31 =>
  (f_X5_init h31 q30).bind fun h32 =>
  (pR h32 a0 7 8 q30).bind fun h33 =>
  bind2 (nwO h33 (cO 4 [.null, .int 0, .int 0, .int 0, .int 0, .int 0, .int 0, .int 0])) fun q34 h35 =>
  (f_X4_init h35 q34).bind fun h36 =>
  (pR h36 a0 7 9 q34).bind fun h37 =>
  bind2 (nwO h37 (cI 1 150 (fun _ => 0))) fun q38 h39 =>
  (pR h39 a0 7 10 q38).bind fun h40 =>
  (pI h40 a0 7 11 0).bind fun h41 =>
  (pJ h41 a0 7 12 0).bind fun h42 =>
  (pJ h42 a0 7 13 1).bind fun h43 =>
  (pI h43 a0 7 14 0).bind fun h44 =>
  (pI h44 a0 7 15 0).bind fun h45 =>
  (pI h45 a0 7 16 0).bind fun h46 =>
  (gR h46 a0 7 3).bind fun x47 =>
  bind2 (nwO h46 (cO 1 [.int 0, .int 0, .null, .null, .null, .int 0, .int 0, .null, .null, .null, .int 0, .null, .null, .null])) fun q48 h49 =>
  (f_X1_init h49 q48).bind fun h50 =>
  (stR h50 4 1 x47 0 q48).bind fun h51 =>
  (gR h51 a0 7 4).bind fun x52 =>
  bind2 (nwO h51 (cO 2 [.null, .int 0])) fun q53 h54 =>
  (f_X2_init h54 q53).bind fun h55 =>
  (stR h55 5 2 x52 0 q53).bind fun h56 =>
  (gR h56 a0 7 3).bind fun x57 =>
  bind2 (nwO h56 (cO 1 [.int 0, .int 0, .null, .null, .null, .int 0, .int 0, .null, .null, .null, .int 0, .null, .null, .null])) fun q58 h59 =>
  (f_X1_init h59 q58).bind fun h60 =>
  (stR h60 4 1 x57 1 q58).bind fun h61 =>
  (gR h61 a0 7 4).bind fun x62 =>
  bind2 (nwO h61 (cO 2 [.null, .int 0])) fun q63 h64 =>
  (f_X2_init h64 q63).bind fun h65 =>
  (stR h65 5 2 x62 1 q63).bind fun h66 =>
  some h66
def f_X7_within (a0 : Int32) (a1 : Int32) (a2 : Int32) : Option (Int32) :=
  (
    if a0 < a1 then (
      some (0 : Int32)
    ) else (
      if a2 < a0 then (
        some (0 : Int32)
      ) else (
        some (1 : Int32)
      )
    )
  ).bind fun v1 =>
  zb v1
def f_X7_refuseBad (h : Hea) (a0 : Nat) : Option (Int32 × Hea) :=
  (gI h a0 7 14).bind fun x1 =>
  (pI h a0 7 14 (x1 + 1)).bind fun h2 =>
  some ((-2), h2)
def f_X7_house (h : Hea) (a0 : Nat) (a1 : Int32) (a2 : Int32) : Option (Int32 × Hea) :=
  (f_X7_within a1 0 25).bind fun x1 =>
  if x1 = 0 then (
    (isO h a0 7).bind fun _ =>
    bind2 (f_X7_refuseBad h a0) fun x2 h3 =>
    some (x2, h3)
  ) else (
    (f_X7_within a2 0 25).bind fun x4 =>
    if x4 = 0 then (
      (isO h a0 7).bind fun _ =>
      bind2 (f_X7_refuseBad h a0) fun x11 h12 =>
      some (x11, h12)
    ) else (
      (gR h a0 7 0).bind fun x5 =>
      (gI h x5 1 6).bind fun x6 =>
      (gR h a0 7 0).bind fun x7 =>
      (isO h x7 1).bind fun _ =>
      (f_X1_restart h x7 a1 a2).bind fun h8 =>
      (gR h8 a0 7 1).bind fun x9 =>
      (pI h8 x9 2 1 0).bind fun h10 =>
      some (x6, h10)
    )
  )
def f_X7_isRoom (a0 : Int32) : Option (Int32) :=
  (f_X7_within a0 0 7).bind fun x1 =>
  zb x1
def f_X7_room (h : Hea) (a0 : Nat) (a1 : Int32) (a2 : Int32) : Option (Int32 × Hea) :=
  (f_X7_isRoom a1).bind fun x1 =>
  if x1 = 0 then (
    (isO h a0 7).bind fun _ =>
    bind2 (f_X7_refuseBad h a0) fun x2 h3 =>
    some (x2, h3)
  ) else (
    (f_X7_within a2 0 9).bind fun x4 =>
    if x4 = 0 then (
      (isO h a0 7).bind fun _ =>
      bind2 (f_X7_refuseBad h a0) fun x11 h12 =>
      some (x11, h12)
    ) else (
      (gR h a0 7 0).bind fun x5 =>
      (gR h x5 1 2).bind fun x6 =>
      (ldI h 0 x6 a1).bind fun x7 =>
      (gR h a0 7 0).bind fun x8 =>
      (gR h x8 1 2).bind fun x9 =>
      (stI h 0 x9 a1 a2).bind fun h10 =>
      some (x7, h10)
    )
  )
def f_X1_creaksBetween (h : Hea) (a0 : Nat) (a1 : Int32) (a2 : Int32) : Option (Int32) :=
  (gR h a0 1 3).bind fun x1 =>
  (ldI h 0 x1 ((a1 * 8) + a2)).bind fun x2 =>
  some x2
def f_X1_hang (h : Hea) (a0 : Nat) (a1 : Int32) (a2 : Int32) (a3 : Int32) : Option (Hea) :=
  (gR h a0 1 3).bind fun x1 =>
  (stI h 0 x1 ((a1 * 8) + a2) a3).bind fun h2 =>
  (gR h2 a0 1 3).bind fun x3 =>
  (stI h2 0 x3 ((a2 * 8) + a1) a3).bind fun h4 =>
  some h4
def f_X7_door (h : Hea) (a0 : Nat) (a1 : Int32) (a2 : Int32) (a3 : Int32) : Option (Int32 × Hea) :=
  (f_X7_isRoom a1).bind fun x1 =>
  if x1 = 0 then (
    (isO h a0 7).bind fun _ =>
    bind2 (f_X7_refuseBad h a0) fun x2 h3 =>
    some (x2, h3)
  ) else (
    (f_X7_isRoom a2).bind fun x4 =>
    if x4 = 0 then (
      (isO h a0 7).bind fun _ =>
      bind2 (f_X7_refuseBad h a0) fun x5 h6 =>
      some (x5, h6)
    ) else (
      if a1 = a2 then (
        (isO h a0 7).bind fun _ =>
        bind2 (f_X7_refuseBad h a0) fun x7 h8 =>
        some (x7, h8)
      ) else (
        (f_X7_within a3 1 9).bind fun x9 =>
        if x9 = 0 then (
          (isO h a0 7).bind fun _ =>
          bind2 (f_X7_refuseBad h a0) fun x14 h15 =>
          some (x14, h15)
        ) else (
          (gR h a0 7 0).bind fun x10 =>
          (isO h x10 1).bind fun _ =>
          (f_X1_creaksBetween h x10 a1 a2).bind fun x11 =>
          (gR h a0 7 0).bind fun x12 =>
          (isO h x12 1).bind fun _ =>
          (f_X1_hang h x12 a1 a2 a3).bind fun h13 =>
          some (x11, h13)
        )
      )
    )
  )
def f_X7_refuseFull (h : Hea) (a0 : Nat) : Option (Int32 × Hea) :=
  (gI h a0 7 16).bind fun x1 =>
  (pI h a0 7 16 (x1 + 1)).bind fun h2 =>
  some ((-4), h2)
def f_X7_list (h : Hea) (a0 : Nat) (a1 : Int32) : Option (Int32 × Hea) :=
  (f_X7_isRoom a1).bind fun x1 =>
  if x1 = 0 then (
    (isO h a0 7).bind fun _ =>
    bind2 (f_X7_refuseBad h a0) fun x16 h17 =>
    some (x16, h17)
  ) else (
    (gR h a0 7 0).bind fun x2 =>
    (gI h x2 1 5).bind fun x3 =>
    if x3 < 12 then (
      (gR h a0 7 0).bind fun x4 =>
      (gR h x4 1 4).bind fun x5 =>
      (gR h a0 7 0).bind fun x6 =>
      (gI h x6 1 5).bind fun x7 =>
      (stI h 0 x5 x7 a1).bind fun h8 =>
      (gR h8 a0 7 0).bind fun x9 =>
      (gI h8 x9 1 5).bind fun x10 =>
      (pI h8 x9 1 5 (x10 + 1)).bind fun h11 =>
      (gR h11 a0 7 0).bind fun x12 =>
      (gI h11 x12 1 5).bind fun x13 =>
      some (x13, h11)
    ) else (
      (isO h a0 7).bind fun _ =>
      bind2 (f_X7_refuseFull h a0) fun x14 h15 =>
      some (x14, h15)
    )
  )
def f_X7_only (h : Hea) (a0 : Nat) (a1 : Int32) : Option (Int32 × Hea) :=
  (f_X7_isRoom a1).bind fun x1 =>
  if x1 = 0 then (
    (isO h a0 7).bind fun _ =>
    bind2 (f_X7_refuseBad h a0) fun x9 h10 =>
    some (x9, h10)
  ) else (
    (gR h a0 7 0).bind fun x2 =>
    (gI h x2 1 5).bind fun x3 =>
    (gR h a0 7 0).bind fun x4 =>
    (gR h x4 1 4).bind fun x5 =>
    (stI h 0 x5 0 a1).bind fun h6 =>
    (gR h6 a0 7 0).bind fun x7 =>
    (pI h6 x7 1 5 1).bind fun h8 =>
    some (x3, h8)
  )
def f_X7_eyes (h : Hea) (a0 : Nat) (a1 : Int32) : Option (Int32 × Hea) :=
  (f_X7_within a1 0 25).bind fun x1 =>
  if x1 = 0 then (
    (isO h a0 7).bind fun _ =>
    bind2 (f_X7_refuseBad h a0) fun x6 h7 =>
    some (x6, h7)
  ) else (
    (gR h a0 7 0).bind fun x2 =>
    (gI h x2 1 0).bind fun x3 =>
    (gR h a0 7 0).bind fun x4 =>
    (pI h x4 1 0 a1).bind fun h5 =>
    some (x3, h5)
  )
def f_X3_place (h : Hea) (a0 : Nat) (a1 : Int32) (a2 : Int32) : Option (Hea) :=
  (gR h a0 3 1).bind fun x1 =>
  (stI h 0 x1 a1 a2).bind fun h2 =>
  (gR h2 a0 3 2).bind fun x3 =>
  (stI h2 0 x3 a1 0).bind fun h4 =>
  (gR h4 a0 3 3).bind fun x5 =>
  (stI h4 0 x5 a1 0).bind fun h6 =>
  (gR h6 a0 3 4).bind fun x7 =>
  (stI h6 0 x7 a1 (-1)).bind fun h8 =>
  (gR h8 a0 3 5).bind fun x9 =>
  (stI h8 0 x9 a1 0).bind fun h10 =>
  some h10
def f_X1_bring (h : Hea) (a0 : Nat) (a1 : Int32) (a2 : Int32) (a3 : Int32) : Option (Int32 × Hea) :=
  (gI h a0 1 6).bind fun x1 =>
  (gR h a0 1 7).bind fun x2 =>
  (stI h 0 x2 x1 a1).bind fun h3 =>
  (gR h3 a0 1 8).bind fun x4 =>
  (stI h3 0 x4 x1 a3).bind fun h5 =>
  (gR h5 a0 1 9).bind fun x6 =>
  (isO h5 x6 3).bind fun _ =>
  (f_X3_place h5 x6 x1 a2).bind fun h7 =>
  (gI h7 a0 1 6).bind fun x8 =>
  (pI h7 a0 1 6 (x8 + 1)).bind fun h9 =>
  some (x1, h9)
def f_X7_heir (h : Hea) (a0 : Nat) (a1 : Int32) (a2 : Int32) (a3 : Int32) : Option (Int32 × Hea) :=
  (f_X7_within a1 0 5).bind fun x1 =>
  if x1 = 0 then (
    (isO h a0 7).bind fun _ =>
    bind2 (f_X7_refuseBad h a0) fun x2 h3 =>
    some (x2, h3)
  ) else (
    (f_X7_isRoom a2).bind fun x4 =>
    if x4 = 0 then (
      (isO h a0 7).bind fun _ =>
      bind2 (f_X7_refuseBad h a0) fun x5 h6 =>
      some (x5, h6)
    ) else (
      (f_X7_within a3 0 9).bind fun x7 =>
      if x7 = 0 then (
        (isO h a0 7).bind fun _ =>
        bind2 (f_X7_refuseBad h a0) fun x17 h18 =>
        some (x17, h18)
      ) else (
        (gR h a0 7 0).bind fun x8 =>
        (gI h x8 1 6).bind fun x9 =>
        if x9 < 6 then (
          (gR h a0 7 1).bind fun x10 =>
          (pI h x10 2 1 0).bind fun h11 =>
          (gR h11 a0 7 0).bind fun x12 =>
          (isO h11 x12 1).bind fun _ =>
          bind2 (f_X1_bring h11 x12 a1 a2 a3) fun x13 h14 =>
          some (x13, h14)
        ) else (
          (isO h a0 7).bind fun _ =>
          bind2 (f_X7_refuseFull h a0) fun x15 h16 =>
          some (x15, h16)
        )
      )
    )
  )
def f_X7_type (h : Hea) (a0 : Nat) (a1 : Int32) : Option (Int32 × Hea) :=
  (f_X7_within a1 0 127).bind fun x1 =>
  if x1 = 0 then (
    (isO h a0 7).bind fun _ =>
    bind2 (f_X7_refuseBad h a0) fun x11 h12 =>
    some (x11, h12)
  ) else (
    (gI h a0 7 11).bind fun x2 =>
    if x2 < 150 then (
      (gR h a0 7 10).bind fun x3 =>
      (gI h a0 7 11).bind fun x4 =>
      (stB h x3 x4 a1.toInt8.toInt32).bind fun h5 =>
      (gI h5 a0 7 11).bind fun x6 =>
      (pI h5 a0 7 11 (x6 + 1)).bind fun h7 =>
      (gI h7 a0 7 11).bind fun x8 =>
      some (x8, h7)
    ) else (
      (isO h a0 7).bind fun _ =>
      bind2 (f_X7_refuseFull h a0) fun x9 h10 =>
      some (x9, h10)
    )
  )
def f_X7_clear (h : Hea) (a0 : Nat) : Option (Int32 × Hea) :=
  (gI h a0 7 11).bind fun x1 =>
  (pI h a0 7 11 0).bind fun h2 =>
  some (x1, h2)
def f_X4_isLetter (a0 : Int32) : Option (Int32) :=
  (
    if a0 < 97 then (
      some (0 : Int32)
    ) else (
      if 122 < a0 then (
        some (0 : Int32)
      ) else (
        some (1 : Int32)
      )
    )
  ).bind fun v1 =>
  zb v1
def f_X4_isFigure (a0 : Int32) : Option (Int32) :=
  (
    if a0 < 48 then (
      some (0 : Int32)
    ) else (
      if 57 < a0 then (
        some (0 : Int32)
      ) else (
        some (1 : Int32)
      )
    )
  ).bind fun v1 =>
  zb v1
def f_X4_advance_0 : Nat → Hea → Nat → Option (Hea)
  | 0, _, _ => none
  | n + 1, h, y0 =>
    (gI h y0 4 2).bind fun x1 =>
    (gI h y0 4 1).bind fun x2 =>
    if x2 ≤ x1 then (
      some h
    ) else (
      (gR h y0 4 0).bind fun x3 =>
      (gI h y0 4 2).bind fun x4 =>
      (ldI h 1 x3 x4).bind fun x5 =>
      if x5 = 32 then (
        (gI h y0 4 2).bind fun x6 =>
        (pI h y0 4 2 (x6 + 1)).bind fun h7 =>
        f_X4_advance_0 n h7 y0
      ) else (
        some h
      )
    )
def f_X4_advance_144 : Nat → Hea → Nat → Option (Hea)
  | 0, _, _ => none
  | n + 1, h, y0 =>
    (gI h y0 4 2).bind fun x1 =>
    (gI h y0 4 1).bind fun x2 =>
    if x2 ≤ x1 then (
      some h
    ) else (
      (gR h y0 4 0).bind fun x3 =>
      (gI h y0 4 2).bind fun x4 =>
      (ldI h 1 x3 x4).bind fun x5 =>
      (f_X4_isFigure x5).bind fun x6 =>
      if x6 = 0 then (
        some h
      ) else (
        (gI h y0 4 5).bind fun x7 =>
        (gR h y0 4 0).bind fun x8 =>
        (gI h y0 4 2).bind fun x9 =>
        (ldI h 1 x8 x9).bind fun x10 =>
        (pI h y0 4 5 ((x7 * 10) + (x10 - 48))).bind fun h11 =>
        (gI h11 y0 4 2).bind fun x12 =>
        (pI h11 y0 4 2 (x12 + 1)).bind fun h13 =>
        f_X4_advance_144 n h13 y0
      )
    )
def f_X4_advance_85 : Nat → Hea → Nat → Option (Hea)
  | 0, _, _ => none
  | n + 1, h, y0 =>
    (gI h y0 4 2).bind fun x1 =>
    (gI h y0 4 1).bind fun x2 =>
    if x2 ≤ x1 then (
      some h
    ) else (
      (gR h y0 4 0).bind fun x3 =>
      (gI h y0 4 2).bind fun x4 =>
      (ldI h 1 x3 x4).bind fun x5 =>
      (f_X4_isLetter x5).bind fun x6 =>
      if x6 = 0 then (
        some h
      ) else (
        (gI h y0 4 2).bind fun x7 =>
        (pI h y0 4 2 (x7 + 1)).bind fun h8 =>
        f_X4_advance_85 n h8 y0
      )
    )
def f_X4_advance (h : Hea) (a0 : Nat) : Option (Hea) :=
  (f_X4_advance_0 lots h a0).bind fun h1 =>
  (gI h1 a0 4 2).bind fun x2 =>
  (pI h1 a0 4 3 x2).bind fun h3 =>
  (gI h3 a0 4 2).bind fun x4 =>
  (gI h3 a0 4 1).bind fun x5 =>
  (
    if x4 < x5 then (
      (gR h3 a0 4 0).bind fun x7 =>
      (gI h3 a0 4 2).bind fun x8 =>
      (ldI h3 1 x7 x8).bind fun x9 =>
      (f_X4_isLetter x9).bind fun x10 =>
      if x10 = 0 then (
        (gR h3 a0 4 0).bind fun x11 =>
        (gI h3 a0 4 2).bind fun x12 =>
        (ldI h3 1 x11 x12).bind fun x13 =>
        (f_X4_isFigure x13).bind fun x14 =>
        if x14 = 0 then (
          (gR h3 a0 4 0).bind fun x15 =>
          (gI h3 a0 4 2).bind fun x16 =>
          (ldI h3 1 x15 x16).bind fun x17 =>
          (
            if x17 = 59 then (
              some (3 : Int32)
            ) else (
              some (4 : Int32)
            )
          ).bind fun v18 =>
          (pI h3 a0 4 4 v18).bind fun h19 =>
          (gI h19 a0 4 2).bind fun x20 =>
          (pI h19 a0 4 2 (x20 + 1)).bind fun h21 =>
          some h21
        ) else (
          (pI h3 a0 4 5 0).bind fun h22 =>
          (f_X4_advance_144 lots h22 a0).bind fun h23 =>
          (gI h23 a0 4 2).bind fun x24 =>
          (gI h23 a0 4 3).bind fun x25 =>
          (
            if 2 < (x24 - x25) then (
              some (4 : Int32)
            ) else (
              some (2 : Int32)
            )
          ).bind fun v26 =>
          (pI h23 a0 4 4 v26).bind fun h27 =>
          some h27
        )
      ) else (
        (pI h3 a0 4 4 1).bind fun h28 =>
        (f_X4_advance_85 lots h28 a0).bind fun h29 =>
        some h29
      )
    ) else (
      (pI h3 a0 4 4 0).bind fun h30 =>
      some h30
    )
  ).bind fun h6 =>
  some h6
def f_X4_goesOn (h : Hea) (a0 : Nat) : Option (Int32) :=
  (gI h a0 4 6).bind fun x1 =>
  (
    if x1 = (-1) then (
      (gI h a0 4 7).bind fun x3 =>
      if x3 = 0 then (
        some (1 : Int32)
      ) else (
        (gI h a0 4 4).bind fun x4 =>
        if x4 = 0 then (
          some (0 : Int32)
        ) else (
          some (1 : Int32)
        )
      )
    ) else (
      some (0 : Int32)
    )
  ).bind fun v2 =>
  zb v2
def f_X4_isWord_28 : Nat → Hea → Nat → Nat → Int32 → Option (Int32)
  | 0, _, _, _, _ => none
  | n + 1, h, y0, y1, y2 =>
    (sLen y1).bind fun x1 =>
    if x1 ≤ y2 then (
      some 1
    ) else (
      (gR h y0 4 0).bind fun x2 =>
      (gI h y0 4 3).bind fun x3 =>
      (ldI h 1 x2 (x3 + y2)).bind fun x4 =>
      (sCh y1 y2).bind fun x5 =>
      if x4 = x5 then (
        f_X4_isWord_28 n h y0 y1 (y2 + 1)
      ) else (
        some 0
      )
    )
def f_X4_isWord (h : Hea) (a0 : Nat) (a1 : Nat) : Option (Int32) :=
  (gI h a0 4 4).bind fun x1 =>
  if x1 = 1 then (
    (gI h a0 4 2).bind fun x2 =>
    (gI h a0 4 3).bind fun x3 =>
    (sLen a1).bind fun x4 =>
    if (x2 - x3) = x4 then (
      f_X4_isWord_28 lots h a0 a1 0
    ) else (
      some 0
    )
  ) else (
    some 0
  )
def f_X4_number (h : Hea) (a0 : Nat) (a1 : Int32) (a2 : Int32) : Option (Int32 × Hea) :=
  (gI h a0 4 6).bind fun x1 =>
  if x1 = (-1) then (
    (gI h a0 4 4).bind fun x2 =>
    if x2 = 2 then (
      (gI h a0 4 5).bind fun x5 =>
      (f_X7_within x5 a1 a2).bind fun x6 =>
      if x6 = 0 then (
        (gI h a0 4 3).bind fun x9 =>
        (pI h a0 4 6 x9).bind fun h10 =>
        some ((-1), h10)
      ) else (
        (gI h a0 4 5).bind fun x7 =>
        (isO h a0 4).bind fun _ =>
        (f_X4_advance h a0).bind fun h8 =>
        some (x7, h8)
      )
    ) else (
      (gI h a0 4 3).bind fun x3 =>
      (pI h a0 4 6 x3).bind fun h4 =>
      some ((-1), h4)
    )
  ) else (
    some ((-1), h)
  )
def f_X4_takeHouse (h : Hea) (a0 : Nat) (a1 : Nat) : Option (Hea) :=
  (isO h a0 4).bind fun _ =>
  (f_X4_isWord h a0 4).bind fun x1 =>
  if x1 = 0 then (
    (gI h a0 4 3).bind fun x10 =>
    (pI h a0 4 6 x10).bind fun h11 =>
    some h11
  ) else (
    (isO h a0 4).bind fun _ =>
    (f_X4_advance h a0).bind fun h2 =>
    (isO h2 a0 4).bind fun _ =>
    bind2 (f_X4_number h2 a0 0 25) fun x3 h4 =>
    (isO h4 a0 4).bind fun _ =>
    bind2 (f_X4_number h4 a0 0 25) fun x5 h6 =>
    (gI h6 a0 4 6).bind fun x7 =>
    (
      if x7 = (-1) then (
        (isO h6 a1 1).bind fun _ =>
        (f_X1_restart h6 a1 x3 x5).bind fun h9 =>
        some h9
      ) else (
        some h6
      )
    ).bind fun h8 =>
    some h8
  )
def f_X4_takeRoom (h : Hea) (a0 : Nat) (a1 : Nat) : Option (Hea) :=
  (isO h a0 4).bind fun _ =>
  (f_X4_advance h a0).bind fun h1 =>
  (isO h1 a0 4).bind fun _ =>
  bind2 (f_X4_number h1 a0 0 7) fun x2 h3 =>
  (isO h3 a0 4).bind fun _ =>
  bind2 (f_X4_number h3 a0 0 9) fun x4 h5 =>
  (gI h5 a0 4 6).bind fun x6 =>
  (
    if x6 = (-1) then (
      (gR h5 a1 1 2).bind fun x8 =>
      (stI h5 0 x8 x2 x4).bind fun h9 =>
      some h9
    ) else (
      some h5
    )
  ).bind fun h7 =>
  some h7
def f_X4_takeDoor (h : Hea) (a0 : Nat) (a1 : Nat) : Option (Hea) :=
  (isO h a0 4).bind fun _ =>
  (f_X4_advance h a0).bind fun h1 =>
  (isO h1 a0 4).bind fun _ =>
  bind2 (f_X4_number h1 a0 0 7) fun x2 h3 =>
  (gI h3 a0 4 3).bind fun x4 =>
  (isO h3 a0 4).bind fun _ =>
  bind2 (f_X4_number h3 a0 0 7) fun x5 h6 =>
  (gI h6 a0 4 6).bind fun x7 =>
  (
    if x7 = (-1) then (
      if x2 = x5 then (
        (pI h6 a0 4 6 x4).bind fun h9 =>
        some h9
      ) else (
        some h6
      )
    ) else (
      some h6
    )
  ).bind fun h8 =>
  (isO h8 a0 4).bind fun _ =>
  bind2 (f_X4_number h8 a0 1 9) fun x10 h11 =>
  (gI h11 a0 4 6).bind fun x12 =>
  (
    if x12 = (-1) then (
      (isO h11 a1 1).bind fun _ =>
      (f_X1_hang h11 a1 x2 x5 x10).bind fun h14 =>
      some h14
    ) else (
      some h11
    )
  ).bind fun h13 =>
  some h13
def f_X4_takeList_6 : Nat → Hea → Nat → Nat → Int32 → Option (Hea)
  | 0, _, _, _, _ => none
  | n + 1, h, y0, y1, y2 =>
    if 12 ≤ y2 then (
      some h
    ) else (
      if y2 = 0 then (
        (isO h y0 4).bind fun _ =>
        bind2 (f_X4_number h y0 0 7) fun x1 h2 =>
        (gI h2 y0 4 6).bind fun x3 =>
        if x3 = (-1) then (
          (gR h2 y1 1 4).bind fun x4 =>
          (stI h2 0 x4 y2 x1).bind fun h5 =>
          (pI h5 y1 1 5 (y2 + 1)).bind fun h6 =>
          f_X4_takeList_6 n h6 y0 y1 (y2 + 1)
        ) else (
          some h2
        )
      ) else (
        (gI h y0 4 4).bind fun x7 =>
        if x7 = 2 then (
          (isO h y0 4).bind fun _ =>
          bind2 (f_X4_number h y0 0 7) fun x8 h9 =>
          (gI h9 y0 4 6).bind fun x10 =>
          if x10 = (-1) then (
            (gR h9 y1 1 4).bind fun x11 =>
            (stI h9 0 x11 y2 x8).bind fun h12 =>
            (pI h12 y1 1 5 (y2 + 1)).bind fun h13 =>
            f_X4_takeList_6 n h13 y0 y1 (y2 + 1)
          ) else (
            some h9
          )
        ) else (
          some h
        )
      )
    )
def f_X4_takeList (h : Hea) (a0 : Nat) (a1 : Nat) : Option (Hea) :=
  (isO h a0 4).bind fun _ =>
  (f_X4_advance h a0).bind fun h1 =>
  f_X4_takeList_6 lots h1 a0 a1 0
def f_X4_takeHeir (h : Hea) (a0 : Nat) (a1 : Nat) : Option (Hea) :=
  (isO h a0 4).bind fun _ =>
  (f_X4_advance h a0).bind fun h1 =>
  (isO h1 a0 4).bind fun _ =>
  bind2 (f_X4_number h1 a0 0 5) fun x2 h3 =>
  (isO h3 a0 4).bind fun _ =>
  bind2 (f_X4_number h3 a0 0 7) fun x4 h5 =>
  (isO h5 a0 4).bind fun _ =>
  bind2 (f_X4_number h5 a0 0 9) fun x6 h7 =>
  (gI h7 a0 4 6).bind fun x8 =>
  (
    if x8 = (-1) then (
      (isO h7 a1 1).bind fun _ =>
      bind2 (f_X1_bring h7 a1 x2 x4 x6) fun x10 h11 =>
      some h11
    ) else (
      some h7
    )
  ).bind fun h9 =>
  some h9
def f_X4_takeStop (h : Hea) (a0 : Nat) : Option (Hea) :=
  (gI h a0 4 6).bind fun x1 =>
  (
    if x1 = (-1) then (
      (gI h a0 4 4).bind fun x3 =>
      if x3 = 3 then (
        some h
      ) else (
        (gI h a0 4 3).bind fun x4 =>
        (pI h a0 4 6 x4).bind fun h5 =>
        some h5
      )
    ) else (
      some h
    )
  ).bind fun h2 =>
  (gI h2 a0 4 6).bind fun x6 =>
  (
    if x6 = (-1) then (
      (isO h2 a0 4).bind fun _ =>
      (f_X4_advance h2 a0).bind fun h8 =>
      some h8
    ) else (
      some h2
    )
  ).bind fun h7 =>
  some h7
def f_X4_takeItem (h : Hea) (a0 : Nat) (a1 : Nat) : Option (Hea) :=
  (gI h a0 4 7).bind fun x1 =>
  (
    if x1 = 0 then (
      (isO h a0 4).bind fun _ =>
      (f_X4_takeHouse h a0 a1).bind fun h16 =>
      some h16
    ) else (
      (isO h a0 4).bind fun _ =>
      (f_X4_isWord h a0 0).bind fun x3 =>
      if x3 = 0 then (
        (isO h a0 4).bind fun _ =>
        (f_X4_isWord h a0 1).bind fun x4 =>
        if x4 = 0 then (
          (isO h a0 4).bind fun _ =>
          (f_X4_isWord h a0 2).bind fun x5 =>
          if x5 = 0 then (
            (isO h a0 4).bind fun _ =>
            (f_X4_isWord h a0 3).bind fun x6 =>
            if x6 = 0 then (
              (gI h a0 4 3).bind fun x7 =>
              (pI h a0 4 6 x7).bind fun h8 =>
              some h8
            ) else (
              (gI h a1 1 6).bind fun x9 =>
              if 6 ≤ x9 then (
                (gI h a0 4 3).bind fun x10 =>
                (pI h a0 4 6 x10).bind fun h11 =>
                some h11
              ) else (
                (isO h a0 4).bind fun _ =>
                (f_X4_takeHeir h a0 a1).bind fun h12 =>
                some h12
              )
            )
          ) else (
            (isO h a0 4).bind fun _ =>
            (f_X4_takeList h a0 a1).bind fun h13 =>
            some h13
          )
        ) else (
          (isO h a0 4).bind fun _ =>
          (f_X4_takeDoor h a0 a1).bind fun h14 =>
          some h14
        )
      ) else (
        (isO h a0 4).bind fun _ =>
        (f_X4_takeRoom h a0 a1).bind fun h15 =>
        some h15
      )
    )
  ).bind fun h2 =>
  (isO h2 a0 4).bind fun _ =>
  (f_X4_takeStop h2 a0).bind fun h17 =>
  (gI h17 a0 4 7).bind fun x18 =>
  (pI h17 a0 4 7 (x18 + 1)).bind fun h19 =>
  some h19
def f_X4_readInto_37 : Nat → Hea → Nat → Nat → Int32 → Option (Hea)
  | 0, _, _, _, _ => none
  | n + 1, h, y0, y1, y4 =>
    if 150 ≤ y4 then (
      some h
    ) else (
      (isO h y0 4).bind fun _ =>
      (f_X4_goesOn h y0).bind fun x1 =>
      if x1 = 0 then (
        some h
      ) else (
        (isO h y0 4).bind fun _ =>
        (f_X4_takeItem h y0 y1).bind fun h2 =>
        f_X4_readInto_37 n h2 y0 y1 (y4 + 1)
      )
    )
def f_X4_readInto (h : Hea) (a0 : Nat) (a1 : Nat) (a2 : Nat) (a3 : Int32) : Option (Int32 × Hea) :=
  (pR h a0 4 0 a2).bind fun h1 =>
  (alen h1 1 a2).bind fun x2 =>
  (pI h1 a0 4 1 (if x2 < a3 then x2 else a3)).bind fun h3 =>
  (pI h3 a0 4 2 0).bind fun h4 =>
  (pI h4 a0 4 6 (-1)).bind fun h5 =>
  (pI h5 a0 4 7 0).bind fun h6 =>
  (isO h6 a0 4).bind fun _ =>
  (f_X4_advance h6 a0).bind fun h7 =>
  (f_X4_readInto_37 lots h7 a0 a1 0).bind fun h8 =>
  (gI h8 a0 4 6).bind fun x9 =>
  (
    if x9 = (-1) then (
      (gI h8 a0 4 7).bind fun x12 =>
      some x12
    ) else (
      (gI h8 a0 4 6).bind fun x11 =>
      some ((-10) - x11)
    )
  ).bind fun v10 =>
  some (v10, h8)
def f_X3_take (h : Hea) (a0 : Nat) (a1 : Nat) : Option (Hea) :=
  (gI h a1 3 0).bind fun x1 =>
  (pI h a0 3 0 x1).bind fun h2 =>
  (gR h2 a1 3 1).bind fun x3 =>
  (gR h2 a0 3 1).bind fun x4 =>
  (cpI h2 x3 x4 6).bind fun h5 =>
  (gR h5 a1 3 2).bind fun x6 =>
  (gR h5 a0 3 2).bind fun x7 =>
  (cpI h5 x6 x7 6).bind fun h8 =>
  (gR h8 a1 3 3).bind fun x9 =>
  (gR h8 a0 3 3).bind fun x10 =>
  (cpI h8 x9 x10 6).bind fun h11 =>
  (gR h11 a1 3 4).bind fun x12 =>
  (gR h11 a0 3 4).bind fun x13 =>
  (cpI h11 x12 x13 6).bind fun h14 =>
  (gR h14 a1 3 5).bind fun x15 =>
  (gR h14 a0 3 5).bind fun x16 =>
  (cpI h14 x15 x16 6).bind fun h17 =>
  some h17
def f_X1_take (h : Hea) (a0 : Nat) (a1 : Nat) : Option (Hea) :=
  (gI h a1 1 0).bind fun x1 =>
  (pI h a0 1 0 x1).bind fun h2 =>
  (gI h2 a1 1 1).bind fun x3 =>
  (pI h2 a0 1 1 x3).bind fun h4 =>
  (gR h4 a1 1 2).bind fun x5 =>
  (gR h4 a0 1 2).bind fun x6 =>
  (cpI h4 x5 x6 8).bind fun h7 =>
  (gR h7 a1 1 3).bind fun x8 =>
  (gR h7 a0 1 3).bind fun x9 =>
  (cpI h7 x8 x9 64).bind fun h10 =>
  (gR h10 a1 1 4).bind fun x11 =>
  (gR h10 a0 1 4).bind fun x12 =>
  (cpI h10 x11 x12 12).bind fun h13 =>
  (gI h13 a1 1 5).bind fun x14 =>
  (pI h13 a0 1 5 x14).bind fun h15 =>
  (gI h15 a1 1 6).bind fun x16 =>
  (pI h15 a0 1 6 x16).bind fun h17 =>
  (gR h17 a1 1 7).bind fun x18 =>
  (gR h17 a0 1 7).bind fun x19 =>
  (cpI h17 x18 x19 6).bind fun h20 =>
  (gR h20 a1 1 8).bind fun x21 =>
  (gR h20 a0 1 8).bind fun x22 =>
  (cpI h20 x21 x22 6).bind fun h23 =>
  (gR h23 a0 1 9).bind fun x24 =>
  (gR h23 a1 1 9).bind fun x25 =>
  (isO h23 x24 3).bind fun _ =>
  (f_X3_take h23 x24 x25).bind fun h26 =>
  (gI h26 a1 1 10).bind fun x27 =>
  (pI h26 a0 1 10 x27).bind fun h28 =>
  (gR h28 a1 1 11).bind fun x29 =>
  (gR h28 a0 1 11).bind fun x30 =>
  (cpI h28 x29 x30 6).bind fun h31 =>
  (gR h31 a1 1 12).bind fun x32 =>
  (gR h31 a0 1 12).bind fun x33 =>
  (cpI h31 x32 x33 6).bind fun h34 =>
  (gR h34 a1 1 13).bind fun x35 =>
  (gR h34 a0 1 13).bind fun x36 =>
  (cpI h34 x35 x36 6).bind fun h37 =>
  some h37
def f_X7_read (h : Hea) (a0 : Nat) : Option (Int32 × Hea) :=
  (gR h a0 7 9).bind fun x1 =>
  (gR h a0 7 2).bind fun x2 =>
  (gR h a0 7 10).bind fun x3 =>
  (gI h a0 7 11).bind fun x4 =>
  (isO h x1 4).bind fun _ =>
  bind2 (f_X4_readInto h x1 x2 x3 x4) fun x5 h6 =>
  (
    if x5 < 0 then (
      some h6
    ) else (
      (gR h6 a0 7 0).bind fun x8 =>
      (gR h6 a0 7 2).bind fun x9 =>
      (isO h6 x8 1).bind fun _ =>
      (f_X1_take h6 x8 x9).bind fun h10 =>
      (gR h10 a0 7 1).bind fun x11 =>
      (pI h10 x11 2 1 0).bind fun h12 =>
      some h12
    )
  ).bind fun h7 =>
  some (x5, h7)
def f_X7_isHeir (h : Hea) (a0 : Nat) (a1 : Int32) : Option (Int32) :=
  (gR h a0 7 0).bind fun x1 =>
  (gI h x1 1 6).bind fun x2 =>
  (f_X7_within a1 0 (x2 - 1)).bind fun x3 =>
  zb x3
def f_X7_refuseNo (h : Hea) (a0 : Nat) : Option (Int32 × Hea) :=
  (gI h a0 7 15).bind fun x1 =>
  (pI h a0 7 15 (x1 + 1)).bind fun h2 =>
  some ((-3), h2)
def f_X2_dropOldest_9 : Nat → Hea → Nat → Int32 → Option (Hea)
  | 0, _, _, _ => none
  | n + 1, h, y0, y2 =>
    if 8 ≤ y2 then (
      some h
    ) else (
      (gR h y0 2 0).bind fun x1 =>
      (gR h y0 2 0).bind fun x2 =>
      (ldR h 6 x2 y2).bind fun x3 =>
      (stR h 6 3 x1 (y2 - 1) x3).bind fun h4 =>
      f_X2_dropOldest_9 n h4 y0 (y2 + 1)
    )
def f_X2_dropOldest (h : Hea) (a0 : Nat) : Option (Hea) :=
  (gR h a0 2 0).bind fun x1 =>
  (ldR h 6 x1 0).bind fun x2 =>
  (f_X2_dropOldest_9 lots h a0 1).bind fun h3 =>
  (gR h3 a0 2 0).bind fun x4 =>
  (stR h3 6 3 x4 7 x2).bind fun h5 =>
  (pI h5 a0 2 1 7).bind fun h6 =>
  some h6
def f_X2_keep (h : Hea) (a0 : Nat) (a1 : Nat) : Option (Hea) :=
  (gI h a0 2 1).bind fun x1 =>
  (
    if x1 < 8 then (
      some h
    ) else (
      (isO h a0 2).bind fun _ =>
      (f_X2_dropOldest h a0).bind fun h3 =>
      some h3
    )
  ).bind fun h2 =>
  (gR h2 a0 2 0).bind fun x4 =>
  (gI h2 a0 2 1).bind fun x5 =>
  (ldR h2 6 x4 x5).bind fun x6 =>
  (isO h2 x6 3).bind fun _ =>
  (f_X3_take h2 x6 a1).bind fun h7 =>
  (gI h7 a0 2 1).bind fun x8 =>
  (pI h7 a0 2 1 (x8 + 1)).bind fun h9 =>
  some h9
def f_X3_go (h : Hea) (a0 : Nat) (a1 : Int32) (a2 : Int32) : Option (Hea) :=
  (gR h a0 3 1).bind fun x1 =>
  (stI h 0 x1 a1 a2).bind fun h2 =>
  (gR h2 a0 3 2).bind fun x3 =>
  (stI h2 0 x3 a1 0).bind fun h4 =>
  (gR h4 a0 3 5).bind fun x5 =>
  (stI h4 0 x5 a1 1).bind fun h6 =>
  some h6
def f_X7_move (h : Hea) (a0 : Nat) (a1 : Int32) (a2 : Int32) : Option (Int32 × Hea) :=
  (isO h a0 7).bind fun _ =>
  (f_X7_isHeir h a0 a1).bind fun x1 =>
  if x1 = 0 then (
    (isO h a0 7).bind fun _ =>
    bind2 (f_X7_refuseBad h a0) fun x2 h3 =>
    some (x2, h3)
  ) else (
    (f_X7_isRoom a2).bind fun x4 =>
    if x4 = 0 then (
      (isO h a0 7).bind fun _ =>
      bind2 (f_X7_refuseBad h a0) fun x24 h25 =>
      some (x24, h25)
    ) else (
      (gR h a0 7 0).bind fun x5 =>
      (gR h x5 1 9).bind fun x6 =>
      (gR h a0 7 0).bind fun x7 =>
      (gR h x6 3 1).bind fun x8 =>
      (ldI h 0 x8 a1).bind fun x9 =>
      (isO h x7 1).bind fun _ =>
      (f_X1_creaksBetween h x7 x9 a2).bind fun x10 =>
      (gR h x6 3 3).bind fun x11 =>
      (ldI h 0 x11 a1).bind fun x12 =>
      if x12 = 0 then (
        if x10 = 0 then (
          (isO h a0 7).bind fun _ =>
          bind2 (f_X7_refuseNo h a0) fun x15 h16 =>
          some (x15, h16)
        ) else (
          (gR h x6 3 5).bind fun x17 =>
          (ldI h 0 x17 a1).bind fun x18 =>
          if x18 = 1 then (
            (isO h a0 7).bind fun _ =>
            bind2 (f_X7_refuseNo h a0) fun x22 h23 =>
            some (x22, h23)
          ) else (
            (gR h a0 7 1).bind fun x19 =>
            (isO h x19 2).bind fun _ =>
            (f_X2_keep h x19 x6).bind fun h20 =>
            (isO h20 x6 3).bind fun _ =>
            (f_X3_go h20 x6 a1 a2).bind fun h21 =>
            some (x10, h21)
          )
        )
      ) else (
        (isO h a0 7).bind fun _ =>
        bind2 (f_X7_refuseNo h a0) fun x13 h14 =>
        some (x13, h14)
      )
    )
  )
def f_X1_hasCompany_2 : Nat → Hea → Nat → Nat → Int32 → Int32 → Option (Int32)
  | 0, _, _, _, _, _ => none
  | n + 1, h, y0, y1, y2, y3 =>
    (gI h y0 1 6).bind fun x1 =>
    if x1 ≤ y3 then (
      some 0
    ) else (
      if y3 = y2 then (
        f_X1_hasCompany_2 n h y0 y1 y2 (y3 + 1)
      ) else (
        (gR h y1 3 3).bind fun x2 =>
        (ldI h 0 x2 y3).bind fun x3 =>
        if x3 = 0 then (
          (gR h y1 3 1).bind fun x4 =>
          (ldI h 0 x4 y3).bind fun x5 =>
          (gR h y1 3 1).bind fun x6 =>
          (ldI h 0 x6 y2).bind fun x7 =>
          if x5 = x7 then (
            some 1
          ) else (
            f_X1_hasCompany_2 n h y0 y1 y2 (y3 + 1)
          )
        ) else (
          f_X1_hasCompany_2 n h y0 y1 y2 (y3 + 1)
        )
      )
    )
def f_X1_hasCompany (h : Hea) (a0 : Nat) (a1 : Nat) (a2 : Int32) : Option (Int32) :=
  f_X1_hasCompany_2 lots h a0 a1 a2 0
def f_X1_hidden (h : Hea) (a0 : Nat) (a1 : Nat) (a2 : Int32) : Option (Int32) :=
  (gR h a1 3 2).bind fun x1 =>
  (ldI h 0 x1 a2).bind fun x2 =>
  (gR h a0 1 2).bind fun x3 =>
  (gR h a1 3 1).bind fun x4 =>
  (ldI h 0 x4 a2).bind fun x5 =>
  (ldI h 0 x3 x5).bind fun x6 =>
  (gR h a0 1 8).bind fun x7 =>
  (ldI h 0 x7 a2).bind fun x8 =>
  (gR h a0 1 7).bind fun x9 =>
  (ldI h 0 x9 a2).bind fun x10 =>
  if x10 = 1 then (
    some (if 0 < (x6 + x8) - 3 then (x6 + x8) - 3 else 0)
  ) else
  if x10 = 2 then (
    (isO h a0 1).bind fun _ =>
    (f_X1_hasCompany h a0 a1 a2).bind fun x11 =>
    (
      if x11 = 0 then (
        some (x6 + x8)
      ) else (
        some ((x6 + x8) / 2)
      )
    ).bind fun v12 =>
    some v12
  ) else
  if x10 = 3 then (
    some ((x6 + x8) + (if x2 < 5 then x2 else 5))
  ) else
  if x10 = 4 then (
    (
      if x2 = 0 then (
        some (if 0 < (if 0 < (x6 + x8) - 3 then (x6 + x8) - 3 else 0) - 2 then (if 0 < (x6 + x8) - 3 then (x6 + x8) - 3 else 0) - 2 else 0)
      ) else (
        some (if 0 < (x6 + x8) - 3 then (x6 + x8) - 3 else 0)
      )
    ).bind fun v13 =>
    some v13
  ) else
  if x10 = 5 then (
    (gI h a0 1 1).bind fun x14 =>
    some (if (x6 + x8) + (if x2 < 5 then x2 else 5) < x14 then (x6 + x8) + (if x2 < 5 then x2 else 5) else x14)
  ) else
  (
    some (x6 + x8)
  )
def f_X1_goingOut_4 : Nat → Hea → Nat → Nat → Int32 → Int32 → Option (Int32)
  | 0, _, _, _, _, _ => none
  | n + 1, h, y0, y1, y2, y3 =>
    (gI h y0 1 6).bind fun x1 =>
    if x1 ≤ y3 then (
      some y2
    ) else (
      (gR h y1 3 3).bind fun x2 =>
      (ldI h 0 x2 y3).bind fun x3 =>
      (
        if x3 = 0 then (
          (isO h y0 1).bind fun _ =>
          (f_X1_hidden h y0 y1 y3).bind fun x5 =>
          (gI h y0 1 1).bind fun x6 =>
          if x6 ≤ x5 then (
            some y2
          ) else (
            some (y2 ||| ((1 : Int32) <<< (y3 &&& 31)))
          )
        ) else (
          some y2
        )
      ).bind fun v4 =>
      f_X1_goingOut_4 n h y0 y1 v4 (y3 + 1)
    )
def f_X1_goingOut (h : Hea) (a0 : Nat) (a1 : Nat) : Option (Int32) :=
  (f_X1_goingOut_4 lots h a0 a1 0 0).bind fun v1 =>
  some v1
def f_X1_lookedInto (h : Hea) (a0 : Nat) (a1 : Int32) : Option (Int32) :=
  (gI h a0 1 5).bind fun x1 =>
  if 1 ≤ x1 then (
    (gI h a0 1 5).bind fun x2 =>
    (nz x2).bind fun _ =>
    (
      if (a1 - a1 / 7 * 7) = 6 then (
        (gR h a0 1 4).bind fun x6 =>
        (gI h a0 1 5).bind fun x7 =>
        (ldI h 0 x6 ((x7 - 1) - (a1 - a1 / x2 * x2))).bind fun x8 =>
        some x8
      ) else (
        (gR h a0 1 4).bind fun x4 =>
        (ldI h 0 x4 (a1 - a1 / x2 * x2)).bind fun x5 =>
        some x5
      )
    ).bind fun v3 =>
    some v3
  ) else (
    (gR h a0 1 4).bind fun x9 =>
    (ldI h 0 x9 0).bind fun x10 =>
    some x10
  )
def f_X1_inSight_15 : Nat → Hea → Nat → Nat → Int32 → Int32 → Int32 → Option (Int32)
  | 0, _, _, _, _, _, _ => none
  | n + 1, h, y0, y1, y3, y4, y5 =>
    (gI h y0 1 6).bind fun x1 =>
    if x1 ≤ y5 then (
      some y4
    ) else (
      (gR h y1 3 3).bind fun x2 =>
      (ldI h 0 x2 y5).bind fun x3 =>
      (
        if x3 = 0 then (
          (gR h y1 3 1).bind fun x5 =>
          (ldI h 0 x5 y5).bind fun x6 =>
          if x6 = y3 then (
            some (y4 ||| ((1 : Int32) <<< (y5 &&& 31)))
          ) else (
            some y4
          )
        ) else (
          some y4
        )
      ).bind fun v4 =>
      f_X1_inSight_15 n h y0 y1 y3 v4 (y5 + 1)
    )
def f_X1_inSight (h : Hea) (a0 : Nat) (a1 : Nat) (a2 : Int32) : Option (Int32) :=
  (gI h a1 3 0).bind fun x1 =>
  (isO h a0 1).bind fun _ =>
  (f_X1_lookedInto h a0 x1).bind fun x2 =>
  (f_X1_inSight_15 lots h a0 a1 x2 0 0).bind fun v3 =>
  some (v3 &&& (a2 ^^^ (-1)))
def f_X1_beingFound_14 : Nat → Hea → Nat → Nat → Int32 → Int32 → Int32 → Int32 → Option (Int32)
  | 0, _, _, _, _, _, _, _ => none
  | n + 1, h, y0, y1, y3, y4, y5, y6 =>
    (gI h y0 1 6).bind fun x1 =>
    if x1 ≤ y6 then (
      some y5
    ) else (
      (
        if ((y4 >>> (y6 &&& 31)) &&& 1) = 1 then (
          (isO h y0 1).bind fun _ =>
          (f_X1_hidden h y0 y1 y6).bind fun x3 =>
          if y3 ≤ x3 then (
            some y5
          ) else (
            some (y5 ||| ((1 : Int32) <<< (y6 &&& 31)))
          )
        ) else (
          some y5
        )
      ).bind fun v2 =>
      f_X1_beingFound_14 n h y0 y1 y3 y4 v2 (y6 + 1)
    )
def f_X1_beingFound (h : Hea) (a0 : Nat) (a1 : Nat) (a2 : Int32) (a3 : Int32) : Option (Int32) :=
  (isO h a0 1).bind fun _ =>
  (f_X1_inSight h a0 a1 a2).bind fun x1 =>
  (f_X1_beingFound_14 lots h a0 a1 a3 x1 0 0).bind fun v2 =>
  some v2
def f_X3_leave (h : Hea) (a0 : Nat) (a1 : Int32) (a2 : Int32) : Option (Hea) :=
  (gR h a0 3 3).bind fun x1 =>
  (stI h 0 x1 a1 a2).bind fun h2 =>
  (gR h2 a0 3 4).bind fun x3 =>
  (gI h2 a0 3 0).bind fun x4 =>
  (stI h2 0 x3 a1 x4).bind fun h5 =>
  some h5
def f_X3_close_3 : Nat → Hea → Nat → Int32 → Int32 → Int32 → Int32 → Option (Hea)
  | 0, _, _, _, _, _, _ => none
  | n + 1, h, y0, y1, y2, y3, y4 =>
    if y1 ≤ y4 then (
      some h
    ) else (
      (
        if ((y2 >>> (y4 &&& 31)) &&& 1) = 1 then (
          (isO h y0 3).bind fun _ =>
          (f_X3_leave h y0 y4 1).bind fun h8 =>
          some h8
        ) else (
          if ((y3 >>> (y4 &&& 31)) &&& 1) = 1 then (
            (isO h y0 3).bind fun _ =>
            (f_X3_leave h y0 y4 2).bind fun h7 =>
            some h7
          ) else (
            (gR h y0 3 3).bind fun x2 =>
            (ldI h 0 x2 y4).bind fun x3 =>
            if x3 = 0 then (
              (gR h y0 3 2).bind fun x4 =>
              (ldI h 0 x4 y4).bind fun x5 =>
              (stI h 0 x4 y4 (x5 + 1)).bind fun h6 =>
              some h6
            ) else (
              some h
            )
          )
        )
      ).bind fun h1 =>
      (gR h1 y0 3 5).bind fun x9 =>
      (stI h1 0 x9 y4 0).bind fun h10 =>
      f_X3_close_3 n h10 y0 y1 y2 y3 (y4 + 1)
    )
def f_X3_close (h : Hea) (a0 : Nat) (a1 : Int32) (a2 : Int32) (a3 : Int32) : Option (Hea) :=
  (f_X3_close_3 lots h a0 a1 a2 a3 0).bind fun h1 =>
  (gI h1 a0 3 0).bind fun x2 =>
  (pI h1 a0 3 0 (x2 + 1)).bind fun h3 =>
  some h3
def f_X1_runNight (h : Hea) (a0 : Nat) (a1 : Nat) (a2 : Int32) : Option (Int32 × Hea) :=
  (isO h a0 1).bind fun _ =>
  (f_X1_goingOut h a0 a1).bind fun x1 =>
  (isO h a0 1).bind fun _ =>
  (f_X1_beingFound h a0 a1 x1 a2).bind fun x2 =>
  (gI h a0 1 6).bind fun x3 =>
  (isO h a1 3).bind fun _ =>
  (f_X3_close h a1 x3 x1 x2).bind fun h4 =>
  some (x2, h4)
def f_X7_night (h : Hea) (a0 : Nat) : Option (Int32 × Hea) :=
  (gR h a0 7 1).bind fun x1 =>
  (gR h a0 7 0).bind fun x2 =>
  (gR h x2 1 9).bind fun x3 =>
  (isO h x1 2).bind fun _ =>
  (f_X2_keep h x1 x3).bind fun h4 =>
  (gR h4 a0 7 0).bind fun x5 =>
  (gR h4 a0 7 0).bind fun x6 =>
  (gR h4 x6 1 9).bind fun x7 =>
  (gR h4 a0 7 0).bind fun x8 =>
  (gI h4 x8 1 0).bind fun x9 =>
  (isO h4 x5 1).bind fun _ =>
  bind2 (f_X1_runNight h4 x5 x7 x9) fun x10 h11 =>
  some (x10, h11)
def f_X2_bringBack (h : Hea) (a0 : Nat) (a1 : Nat) : Option (Hea) :=
  (gI h a0 2 1).bind fun x1 =>
  (
    if x1 ≤ 0 then (
      some h
    ) else (
      (gI h a0 2 1).bind fun x3 =>
      (pI h a0 2 1 (x3 - 1)).bind fun h4 =>
      (gR h4 a0 2 0).bind fun x5 =>
      (gI h4 a0 2 1).bind fun x6 =>
      (ldR h4 6 x5 x6).bind fun x7 =>
      (isO h4 a1 3).bind fun _ =>
      (f_X3_take h4 a1 x7).bind fun h8 =>
      some h8
    )
  ).bind fun h2 =>
  some h2
def f_X7_undo (h : Hea) (a0 : Nat) : Option (Int32 × Hea) :=
  (gR h a0 7 1).bind fun x1 =>
  (gI h x1 2 1).bind fun x2 =>
  if x2 = 0 then (
    (isO h a0 7).bind fun _ =>
    bind2 (f_X7_refuseNo h a0) fun x10 h11 =>
    some (x10, h11)
  ) else (
    (gR h a0 7 1).bind fun x3 =>
    (gR h a0 7 0).bind fun x4 =>
    (gR h x4 1 9).bind fun x5 =>
    (isO h x3 2).bind fun _ =>
    (f_X2_bringBack h x3 x5).bind fun h6 =>
    (gR h6 a0 7 0).bind fun x7 =>
    (gR h6 x7 1 9).bind fun x8 =>
    (gI h6 x8 3 0).bind fun x9 =>
    some (x9, h6)
  )
def f_X7_of (h : Hea) (a0 : Nat) (a1 : Int32) (a2 : Int32) : Option (Int32 × Hea) :=
  (isO h a0 7).bind fun _ =>
  (f_X7_isHeir h a0 a1).bind fun x1 =>
  if x1 = 0 then (
    (isO h a0 7).bind fun _ =>
    bind2 (f_X7_refuseBad h a0) fun x22 h23 =>
    some (x22, h23)
  ) else (
    (gR h a0 7 0).bind fun x2 =>
    (gR h x2 1 9).bind fun x3 =>
    if a2 = 0 then (
      (gR h a0 7 0).bind fun x4 =>
      (gR h x4 1 7).bind fun x5 =>
      (ldI h 0 x5 a1).bind fun x6 =>
      some (x6, h)
    ) else
    if a2 = 1 then (
      (gR h x3 3 1).bind fun x7 =>
      (ldI h 0 x7 a1).bind fun x8 =>
      some (x8, h)
    ) else
    if a2 = 2 then (
      (gR h a0 7 0).bind fun x9 =>
      (gR h x9 1 8).bind fun x10 =>
      (ldI h 0 x10 a1).bind fun x11 =>
      some (x11, h)
    ) else
    if a2 = 3 then (
      (gR h x3 3 2).bind fun x12 =>
      (ldI h 0 x12 a1).bind fun x13 =>
      some (x13, h)
    ) else
    if a2 = 4 then (
      (gR h a0 7 0).bind fun x14 =>
      (isO h x14 1).bind fun _ =>
      (f_X1_hidden h x14 x3 a1).bind fun x15 =>
      some (x15, h)
    ) else
    if a2 = 5 then (
      (gR h x3 3 3).bind fun x16 =>
      (ldI h 0 x16 a1).bind fun x17 =>
      some (x17, h)
    ) else
    if a2 = 6 then (
      (gR h x3 3 4).bind fun x18 =>
      (ldI h 0 x18 a1).bind fun x19 =>
      some (x19, h)
    ) else
    (
      (isO h a0 7).bind fun _ =>
      bind2 (f_X7_refuseBad h a0) fun x20 h21 =>
      some (x20, h21)
    )
  )
def f_X7_looks (h : Hea) (a0 : Nat) (a1 : Int32) : Option (Int32 × Hea) :=
  (f_X7_within a1 0 99).bind fun x1 =>
  if x1 = 0 then (
    (isO h a0 7).bind fun _ =>
    bind2 (f_X7_refuseBad h a0) fun x4 h5 =>
    some (x4, h5)
  ) else (
    (gR h a0 7 0).bind fun x2 =>
    (isO h x2 1).bind fun _ =>
    (f_X1_lookedInto h x2 a1).bind fun x3 =>
    some (x3, h)
  )
def f_X0_after_13 : Nat → Hea → Nat → Nat → Int32 → Int32 → Option (Hea)
  | 0, _, _, _, _, _ => none
  | n + 1, h, y0, y1, y2, y3 =>
    if y2 ≤ y3 then (
      some h
    ) else (
      (gR h y0 0 0).bind fun x1 =>
      (gI h y1 1 0).bind fun x2 =>
      (isO h y1 1).bind fun _ =>
      bind2 (f_X1_runNight h y1 x1 x2) fun x3 h4 =>
      f_X0_after_13 n h4 y0 y1 y2 (y3 + 1)
    )
def f_X0_after (h : Hea) (a0 : Nat) (a1 : Nat) (a2 : Int32) : Option (Nat × Hea) :=
  (gR h a0 0 0).bind fun x1 =>
  (gR h a1 1 9).bind fun x2 =>
  (isO h x1 3).bind fun _ =>
  (f_X3_take h x1 x2).bind fun h3 =>
  (f_X0_after_13 lots h3 a0 a1 a2 0).bind fun h4 =>
  (gR h4 a0 0 0).bind fun x5 =>
  some (x5, h4)
def f_X7_byThen (h : Hea) (a0 : Nat) (a1 : Int32) (a2 : Int32) (a3 : Int32) : Option (Int32 × Hea) :=
  (isO h a0 7).bind fun _ =>
  (f_X7_isHeir h a0 a1).bind fun x1 =>
  if x1 = 0 then (
    (isO h a0 7).bind fun _ =>
    bind2 (f_X7_refuseBad h a0) fun x2 h3 =>
    some (x2, h3)
  ) else (
    (f_X7_within a2 1 60).bind fun x4 =>
    if x4 = 0 then (
      (isO h a0 7).bind fun _ =>
      bind2 (f_X7_refuseBad h a0) fun x5 h6 =>
      some (x5, h6)
    ) else (
      (f_X7_within a3 0 1).bind fun x7 =>
      if x7 = 0 then (
        (isO h a0 7).bind fun _ =>
        bind2 (f_X7_refuseBad h a0) fun x17 h18 =>
        some (x17, h18)
      ) else (
        (gR h a0 7 6).bind fun x8 =>
        (gR h a0 7 0).bind fun x9 =>
        (isO h x8 0).bind fun _ =>
        bind2 (f_X0_after h x8 x9 a2) fun x10 h11 =>
        (
          if a3 = 0 then (
            (gR h11 x10 3 3).bind fun x15 =>
            (ldI h11 0 x15 a1).bind fun x16 =>
            some x16
          ) else (
            (gR h11 x10 3 4).bind fun x13 =>
            (ldI h11 0 x13 a1).bind fun x14 =>
            some x14
          )
        ).bind fun v12 =>
        some (v12, h11)
      )
    )
  )
def f_X0_firstFound_15 : Nat → Hea → Nat → Nat → Int32 → Int32 → Option (Int32 × Hea)
  | 0, _, _, _, _, _ => none
  | n + 1, h, y0, y1, y2, y3 =>
    if 60 ≤ y3 then (
      some (y2, h)
    ) else (
      if y2 = 0 then (
        (gR h y0 0 0).bind fun x1 =>
        (gI h y1 1 0).bind fun x2 =>
        (isO h y1 1).bind fun _ =>
        bind2 (f_X1_runNight h y1 x1 x2) fun x3 h4 =>
        f_X0_firstFound_15 n h4 y0 y1 x3 (y3 + 1)
      ) else (
        some (y2, h)
      )
    )
def f_X0_firstFound (h : Hea) (a0 : Nat) (a1 : Nat) : Option (Int32 × Hea) :=
  (gR h a0 0 0).bind fun x1 =>
  (gR h a1 1 9).bind fun x2 =>
  (isO h x1 3).bind fun _ =>
  (f_X3_take h x1 x2).bind fun h3 =>
  bind2 (f_X0_firstFound_15 lots h3 a0 a1 0 0) fun v4 h5 =>
  some (v4, h5)
def f_X7_first (h : Hea) (a0 : Nat) (a1 : Int32) : Option (Int32 × Hea) :=
  (f_X7_within a1 0 1).bind fun x1 =>
  if x1 = 0 then (
    (isO h a0 7).bind fun _ =>
    bind2 (f_X7_refuseBad h a0) fun x10 h11 =>
    some (x10, h11)
  ) else (
    (gR h a0 7 6).bind fun x2 =>
    (gR h a0 7 0).bind fun x3 =>
    (isO h x2 0).bind fun _ =>
    bind2 (f_X0_firstFound h x2 x3) fun x4 h5 =>
    if x4 = 0 then (
      some ((-1), h5)
    ) else (
      (
        if a1 = 0 then (
          (gR h5 a0 7 6).bind fun x7 =>
          (gR h5 x7 0 0).bind fun x8 =>
          (gI h5 x8 3 0).bind fun x9 =>
          some (x9 - 1)
        ) else (
          some x4
        )
      ).bind fun v6 =>
      some (v6, h5)
    )
  )
def f_X7_passed (h : Hea) (a0 : Nat) : Option (Int32) :=
  (gR h a0 7 0).bind fun x1 =>
  (gR h x1 1 9).bind fun x2 =>
  (gR h a0 7 0).bind fun x3 =>
  (isO h x3 1).bind fun _ =>
  (f_X1_goingOut h x3 x2).bind fun x4 =>
  (gR h a0 7 0).bind fun x5 =>
  (isO h x5 1).bind fun _ =>
  (f_X1_inSight h x5 x2 x4).bind fun x6 =>
  (gR h a0 7 0).bind fun x7 =>
  (gR h a0 7 0).bind fun x8 =>
  (gI h x8 1 0).bind fun x9 =>
  (isO h x7 1).bind fun _ =>
  (f_X1_beingFound h x7 x2 x4 x9).bind fun x10 =>
  some (x6 &&& (x10 ^^^ (-1)))
def f_X7_isIn (h : Hea) (a0 : Nat) (a1 : Int32) : Option (Int32) :=
  (gR h a0 7 0).bind fun x1 =>
  (gR h x1 1 9).bind fun x2 =>
  (gR h x2 3 3).bind fun x3 =>
  (ldI h 0 x3 a1).bind fun x4 =>
  (
    if x4 = 0 then (
      some (1 : Int32)
    ) else (
      some (0 : Int32)
    )
  ).bind fun v5 =>
  zb v5
def f_X0_runUntilNoMoreIn_3 : Nat → Hea → Nat → Nat → Int32 → Int32 → Int32 → Option (Hea)
  | 0, _, _, _, _, _, _ => none
  | n + 1, h, y0, y1, y2, y3, y4 =>
    if 60 ≤ y4 then (
      some h
    ) else (
      (gR h y0 0 0).bind fun x1 =>
      (gR h x1 3 3).bind fun x2 =>
      (ldI h 0 x2 y2).bind fun x3 =>
      if x3 = 0 then (
        (gR h y0 0 0).bind fun x4 =>
        (gI h y1 1 0).bind fun x5 =>
        (isO h y1 1).bind fun _ =>
        bind2 (f_X1_runNight h y1 x4 x5) fun x6 h7 =>
        f_X0_runUntilNoMoreIn_3 n h7 y0 y1 y2 y3 (y4 + 1)
      ) else (
        (gR h y0 0 0).bind fun x8 =>
        (gR h x8 3 3).bind fun x9 =>
        (ldI h 0 x9 y3).bind fun x10 =>
        if x10 = 0 then (
          (gR h y0 0 0).bind fun x11 =>
          (gI h y1 1 0).bind fun x12 =>
          (isO h y1 1).bind fun _ =>
          bind2 (f_X1_runNight h y1 x11 x12) fun x13 h14 =>
          f_X0_runUntilNoMoreIn_3 n h14 y0 y1 y2 y3 (y4 + 1)
        ) else (
          some h
        )
      )
    )
def f_X0_runUntilNoMoreIn (h : Hea) (a0 : Nat) (a1 : Nat) (a2 : Int32) (a3 : Int32) : Option (Hea) :=
  (f_X0_runUntilNoMoreIn_3 lots h a0 a1 a2 a3 0).bind fun h1 =>
  some h1
def f_X0_foundNight (h : Hea) (a0 : Nat) (a1 : Int32) : Option (Int32) :=
  (gR h a0 0 0).bind fun x1 =>
  (gR h x1 3 3).bind fun x2 =>
  (ldI h 0 x2 a1).bind fun x3 =>
  (
    if x3 = 2 then (
      (gR h a0 0 0).bind fun x5 =>
      (gR h x5 3 4).bind fun x6 =>
      (ldI h 0 x6 a1).bind fun x7 =>
      some x7
    ) else (
      some (2147483647 : Int32)
    )
  ).bind fun v4 =>
  some v4
def f_X0_bestRoom_9 : Nat → Hea → Nat → Nat → Int32 → Int32 → Int32 → Int32 → Option (Int32 × Hea)
  | 0, _, _, _, _, _, _, _ => none
  | n + 1, h, y0, y1, y2, y3, y4, y5 =>
    if 8 ≤ y5 then (
      some (y3, h)
    ) else (
      (gR h y0 0 0).bind fun x1 =>
      (gR h y1 1 9).bind fun x2 =>
      (isO h x1 3).bind fun _ =>
      (f_X3_take h x1 x2).bind fun h3 =>
      (gR h3 y0 0 0).bind fun x4 =>
      (gR h3 x4 3 1).bind fun x5 =>
      (stI h3 0 x5 y2 y5).bind fun h6 =>
      (isO h6 y0 0).bind fun _ =>
      (f_X0_runUntilNoMoreIn h6 y0 y1 y2 y2).bind fun h7 =>
      (isO h7 y0 0).bind fun _ =>
      (f_X0_foundNight h7 y0 y2).bind fun x8 =>
      bind2 (
        if y4 ≤ x8 then (
          some (y3, y4)
        ) else (
          some (y5, x8)
        )
      ) fun v9 v10 =>
      f_X0_bestRoom_9 n h7 y0 y1 y2 v9 v10 (y5 + 1)
    )
def f_X0_bestRoom (h : Hea) (a0 : Nat) (a1 : Nat) (a2 : Int32) : Option (Int32 × Hea) :=
  bind2 (f_X0_bestRoom_9 lots h a0 a1 a2 (-1) 2147483647 0) fun v1 h2 =>
  some (v1, h2)
def f_X7_hide (h : Hea) (a0 : Nat) (a1 : Int32) : Option (Int32 × Hea) :=
  (isO h a0 7).bind fun _ =>
  (f_X7_isHeir h a0 a1).bind fun x1 =>
  if x1 = 0 then (
    (isO h a0 7).bind fun _ =>
    bind2 (f_X7_refuseBad h a0) fun x9 h10 =>
    some (x9, h10)
  ) else (
    (isO h a0 7).bind fun _ =>
    (f_X7_isIn h a0 a1).bind fun x2 =>
    if x2 = 0 then (
      (isO h a0 7).bind fun _ =>
      bind2 (f_X7_refuseNo h a0) fun x7 h8 =>
      some (x7, h8)
    ) else (
      (gR h a0 7 6).bind fun x3 =>
      (gR h a0 7 0).bind fun x4 =>
      (isO h x3 0).bind fun _ =>
      bind2 (f_X0_bestRoom h x3 x4 a1) fun x5 h6 =>
      some (x5, h6)
    )
  )
def f_X6_empty_2 : Nat → Hea → Nat → Int32 → Option (Hea)
  | 0, _, _, _ => none
  | n + 1, h, y0, y1 =>
    if 48 ≤ y1 then (
      some h
    ) else (
      (stI h 0 y0 y1 2147483647).bind fun h1 =>
      f_X6_empty_2 n h1 y0 (y1 + 1)
    )
def f_X6_empty (h : Hea) (a0 : Nat) : Option (Hea) :=
  (f_X6_empty_2 lots h a0 0).bind fun h1 =>
  some h1
def f_X6_lower (h : Hea) (a0 : Nat) (a1 : Int32) (a2 : Int32) (a3 : Int32) : Option (Hea) :=
  (ldI h 0 a0 ((a1 * 6) + (if 5 < a2 then 5 else a2))).bind fun x1 =>
  (stI h 0 a0 ((a1 * 6) + (if 5 < a2 then 5 else a2)) (if a3 < x1 then a3 else x1)).bind fun h2 =>
  some h2
def f_X6_spreadFrom_3 : Nat → Hea → Nat → Nat → Int32 → Int32 → Int32 → Option (Hea)
  | 0, _, _, _, _, _, _ => none
  | n + 1, h, y0, y1, y2, y3, y4 =>
    if 8 ≤ y4 then (
      some h
    ) else (
      (isO h y1 1).bind fun _ =>
      (f_X1_creaksBetween h y1 y2 y4).bind fun x1 =>
      (
        if x1 ≤ 0 then (
          some h
        ) else (
          (gR h y0 6 4).bind fun x3 =>
          (f_X6_lower h x3 y4 0 (y3 + x1)).bind fun h4 =>
          some h4
        )
      ).bind fun h2 =>
      f_X6_spreadFrom_3 n h2 y0 y1 y2 y3 (y4 + 1)
    )
def f_X6_spreadFrom (h : Hea) (a0 : Nat) (a1 : Nat) (a2 : Int32) (a3 : Int32) : Option (Hea) :=
  (f_X6_spreadFrom_3 lots h a0 a1 a2 a3 0).bind fun h1 =>
  some h1
def f_X6_spread_22 : Nat → Hea → Nat → Nat → Int32 → Option (Hea)
  | 0, _, _, _, _ => none
  | n + 1, h, y0, y1, y3 =>
    if 48 ≤ y3 then (
      some h
    ) else (
      (gR h y0 6 3).bind fun x1 =>
      (ldI h 0 x1 y3).bind fun x2 =>
      (
        if x2 = 2147483647 then (
          some h
        ) else (
          (gR h y0 6 3).bind fun x4 =>
          (ldI h 0 x4 y3).bind fun x5 =>
          (isO h y0 6).bind fun _ =>
          (f_X6_spreadFrom h y0 y1 (y3 / 6) x5).bind fun h6 =>
          some h6
        )
      ).bind fun h3 =>
      f_X6_spread_22 n h3 y0 y1 (y3 + 1)
    )
def f_X6_spread (h : Hea) (a0 : Nat) (a1 : Nat) (a2 : Int32) : Option (Hea) :=
  (gR h a0 6 3).bind fun x1 =>
  (gR h a0 6 4).bind fun x2 =>
  (cpI h x1 x2 48).bind fun h3 =>
  if a2 = 0 then (
    some h3
  ) else (
    (f_X6_spread_22 lots h3 a0 a1 0).bind fun h4 =>
    some h4
  )
def f_X6_passNight_26 : Nat → Hea → Nat → Nat → Int32 → Int32 → Int32 → Int32 → Option (Int32 × Hea)
  | 0, _, _, _, _, _, _, _ => none
  | n + 1, h, y0, y1, y2, y3, y4, y5 =>
    if 48 ≤ y5 then (
      some (y4, h)
    ) else (
      (gR h y0 6 4).bind fun x1 =>
      (ldI h 0 x1 y5).bind fun x2 =>
      bind2 (
        if x2 = 2147483647 then (
          some (y4, h)
        ) else (
          (gR h y0 6 2).bind fun x5 =>
          (gR h x5 3 1).bind fun x6 =>
          (stI h 0 x6 y2 (y5 / 6)).bind fun h7 =>
          (gR h7 y0 6 2).bind fun x8 =>
          (gR h7 x8 3 2).bind fun x9 =>
          (stI h7 0 x9 y2 (y5 - y5 / 6 * 6)).bind fun h10 =>
          (gR h10 y0 6 2).bind fun x11 =>
          (isO h10 y1 1).bind fun _ =>
          (f_X1_hidden h10 y1 x11 y2).bind fun x12 =>
          (gI h10 y1 1 1).bind fun x13 =>
          if x13 ≤ x12 then (
            (gR h10 y0 6 2).bind fun x14 =>
            (gR h10 x14 3 1).bind fun x15 =>
            (ldI h10 0 x15 y2).bind fun x16 =>
            if x16 = y3 then (
              (gI h10 y1 1 0).bind fun x27 =>
              if x27 ≤ x12 then (
                (gR h10 y0 6 3).bind fun x28 =>
                (gR h10 y0 6 2).bind fun x29 =>
                (gR h10 x29 3 1).bind fun x30 =>
                (ldI h10 0 x30 y2).bind fun x31 =>
                (gR h10 y0 6 2).bind fun x32 =>
                (gR h10 x32 3 2).bind fun x33 =>
                (ldI h10 0 x33 y2).bind fun x34 =>
                (gR h10 y0 6 4).bind fun x35 =>
                (ldI h10 0 x35 y5).bind fun x36 =>
                (f_X6_lower h10 x28 x31 (x34 + 1) x36).bind fun h37 =>
                some (y4, h37)
              ) else (
                (gR h10 y0 6 4).bind fun x38 =>
                (ldI h10 0 x38 y5).bind fun x39 =>
                some ((if x39 < y4 then x39 else y4), h10)
              )
            ) else (
              (gR h10 y0 6 3).bind fun x17 =>
              (gR h10 y0 6 2).bind fun x18 =>
              (gR h10 x18 3 1).bind fun x19 =>
              (ldI h10 0 x19 y2).bind fun x20 =>
              (gR h10 y0 6 2).bind fun x21 =>
              (gR h10 x21 3 2).bind fun x22 =>
              (ldI h10 0 x22 y2).bind fun x23 =>
              (gR h10 y0 6 4).bind fun x24 =>
              (ldI h10 0 x24 y5).bind fun x25 =>
              (f_X6_lower h10 x17 x20 (x23 + 1) x25).bind fun h26 =>
              some (y4, h26)
            )
          ) else (
            some (y4, h10)
          )
        )
      ) fun v3 h4 =>
      f_X6_passNight_26 n h4 y0 y1 y2 y3 v3 (y5 + 1)
    )
def f_X6_passNight (h : Hea) (a0 : Nat) (a1 : Nat) (a2 : Int32) : Option (Hea) :=
  (gR h a0 6 2).bind fun x1 =>
  (gI h x1 3 0).bind fun x2 =>
  (isO h a1 1).bind fun _ =>
  (f_X1_lookedInto h a1 x2).bind fun x3 =>
  (gR h a0 6 3).bind fun x4 =>
  (f_X6_empty h x4).bind fun h5 =>
  bind2 (f_X6_passNight_26 lots h5 a0 a1 a2 x3 2147483647 0) fun v6 h7 =>
  (
    if v6 = 2147483647 then (
      some h7
    ) else (
      (gR h7 a0 6 2).bind fun x9 =>
      (gI h7 x9 3 0).bind fun x10 =>
      (pI h7 a0 6 0 x10).bind fun h11 =>
      (pI h11 a0 6 1 v6).bind fun h12 =>
      some h12
    )
  ).bind fun h8 =>
  (gR h8 a0 6 2).bind fun x13 =>
  (gI h8 x13 3 0).bind fun x14 =>
  (pI h8 x13 3 0 (x14 + 1)).bind fun h15 =>
  some h15
def f_X6_search_56 : Nat → Hea → Nat → Nat → Int32 → Int32 → Option (Hea)
  | 0, _, _, _, _, _ => none
  | n + 1, h, y0, y1, y2, y3 =>
    if 12 ≤ y3 then (
      some h
    ) else (
      (gI h y0 6 0).bind fun x1 =>
      if x1 = (-1) then (
        (
          if 0 < y3 then (
            some (1 : Int32)
          ) else (
            (gR h y1 1 9).bind fun x3 =>
            (gR h x3 3 5).bind fun x4 =>
            (ldI h 0 x4 y2).bind fun x5 =>
            if x5 = 0 then (
              some (1 : Int32)
            ) else (
              some (0 : Int32)
            )
          )
        ).bind fun v2 =>
        (isO h y0 6).bind fun _ =>
        (f_X6_spread h y0 y1 v2).bind fun h6 =>
        (isO h6 y0 6).bind fun _ =>
        (f_X6_passNight h6 y0 y1 y2).bind fun h7 =>
        f_X6_search_56 n h7 y0 y1 y2 (y3 + 1)
      ) else (
        some h
      )
    )
def f_X6_search (h : Hea) (a0 : Nat) (a1 : Nat) (a2 : Int32) : Option (Hea) :=
  (gR h a0 6 2).bind fun x1 =>
  (gR h a1 1 9).bind fun x2 =>
  (isO h x1 3).bind fun _ =>
  (f_X3_take h x1 x2).bind fun h3 =>
  (pI h3 a0 6 0 (-1)).bind fun h4 =>
  (pI h4 a0 6 1 (-1)).bind fun h5 =>
  (gR h5 a0 6 3).bind fun x6 =>
  (f_X6_empty h5 x6).bind fun h7 =>
  (gR h7 a0 6 3).bind fun x8 =>
  (gR h7 a0 6 2).bind fun x9 =>
  (gR h7 x9 3 1).bind fun x10 =>
  (ldI h7 0 x10 a2).bind fun x11 =>
  (gR h7 a0 6 2).bind fun x12 =>
  (gR h7 x12 3 2).bind fun x13 =>
  (ldI h7 0 x13 a2).bind fun x14 =>
  (f_X6_lower h7 x8 x11 x14 0).bind fun h15 =>
  (f_X6_search_56 lots h15 a0 a1 a2 0).bind fun h16 =>
  some h16
def f_X7_way (h : Hea) (a0 : Nat) (a1 : Int32) (a2 : Int32) : Option (Int32 × Hea) :=
  (isO h a0 7).bind fun _ =>
  (f_X7_isHeir h a0 a1).bind fun x1 =>
  if x1 = 0 then (
    (isO h a0 7).bind fun _ =>
    bind2 (f_X7_refuseBad h a0) fun x2 h3 =>
    some (x2, h3)
  ) else (
    (f_X7_within a2 0 1).bind fun x4 =>
    if x4 = 0 then (
      (isO h a0 7).bind fun _ =>
      bind2 (f_X7_refuseBad h a0) fun x16 h17 =>
      some (x16, h17)
    ) else (
      (isO h a0 7).bind fun _ =>
      (f_X7_isIn h a0 a1).bind fun x5 =>
      if x5 = 0 then (
        (isO h a0 7).bind fun _ =>
        bind2 (f_X7_refuseNo h a0) fun x14 h15 =>
        some (x14, h15)
      ) else (
        (gR h a0 7 7).bind fun x6 =>
        (gR h a0 7 0).bind fun x7 =>
        (isO h x6 6).bind fun _ =>
        (f_X6_search h x6 x7 a1).bind fun h8 =>
        (
          if a2 = 0 then (
            (gR h8 a0 7 7).bind fun x12 =>
            (gI h8 x12 6 0).bind fun x13 =>
            some x13
          ) else (
            (gR h8 a0 7 7).bind fun x10 =>
            (gI h8 x10 6 1).bind fun x11 =>
            some x11
          )
        ).bind fun v9 =>
        some (v9, h8)
      )
    )
  )
def f_X0_goThroughLeastDoor_13 : Nat → Hea → Nat → Nat → Int32 → Int32 → Int32 → Option (Hea)
  | 0, _, _, _, _, _, _ => none
  | n + 1, h, y0, y1, y2, y3, y4 =>
    if 8 ≤ y4 then (
      some h
    ) else (
      (isO h y1 1).bind fun _ =>
      (f_X1_creaksBetween h y1 y3 y4).bind fun x1 =>
      if x1 ≤ 0 then (
        f_X0_goThroughLeastDoor_13 n h y0 y1 y2 y3 (y4 + 1)
      ) else (
        (gR h y0 0 0).bind fun x2 =>
        (isO h x2 3).bind fun _ =>
        (f_X3_go h x2 y2 y4).bind fun h3 =>
        some h3
      )
    )
def f_X0_goThroughLeastDoor (h : Hea) (a0 : Nat) (a1 : Nat) (a2 : Int32) : Option (Hea) :=
  (gR h a0 0 0).bind fun x1 =>
  (gR h x1 3 1).bind fun x2 =>
  (ldI h 0 x2 a2).bind fun x3 =>
  f_X0_goThroughLeastDoor_13 lots h a0 a1 a2 x3 0
def f_X0_begin (h : Hea) (a0 : Nat) (a1 : Nat) (a2 : Int32) (a3 : Int32) : Option (Hea) :=
  (gR h a0 0 0).bind fun x1 =>
  (gR h a1 1 9).bind fun x2 =>
  (isO h x1 3).bind fun _ =>
  (f_X3_take h x1 x2).bind fun h3 =>
  (
    if a2 = (-1) then (
      some h3
    ) else (
      (isO h3 a0 0).bind fun _ =>
      (f_X0_goThroughLeastDoor h3 a0 a1 a2).bind fun h5 =>
      some h5
    )
  ).bind fun h4 =>
  (
    if a3 = (-1) then (
      some h4
    ) else (
      (isO h4 a0 0).bind fun _ =>
      (f_X0_goThroughLeastDoor h4 a0 a1 a3).bind fun h7 =>
      some h7
    )
  ).bind fun h6 =>
  some h6
def f_X0_restingPairs_3 : Nat → Hea → Nat → Nat → Int32 → Int32 → Int32 → Option (Hea)
  | 0, _, _, _, _, _, _ => none
  | n + 1, h, y0, y1, y2, y3, y4 =>
    if 4 ≤ y4 then (
      some h
    ) else (
      (
        if (y4 &&& 1) = 0 then (
          some (-1 : Int32)
        ) else (
          some y2
        )
      ).bind fun v1 =>
      (
        if (y4 &&& 2) = 0 then (
          some (-1 : Int32)
        ) else (
          some y3
        )
      ).bind fun v2 =>
      (isO h y0 0).bind fun _ =>
      (f_X0_begin h y0 y1 v1 v2).bind fun h3 =>
      (isO h3 y0 0).bind fun _ =>
      (f_X0_runUntilNoMoreIn h3 y0 y1 y2 y3).bind fun h4 =>
      (gR h4 y0 0 1).bind fun x5 =>
      (isO h4 y0 0).bind fun _ =>
      (f_X0_foundNight h4 y0 y2).bind fun x6 =>
      (isO h4 y0 0).bind fun _ =>
      (f_X0_foundNight h4 y0 y3).bind fun x7 =>
      (f_icmp x6 x7).bind fun x8 =>
      (stI h4 0 x5 y4 (1 - x8)).bind fun h9 =>
      f_X0_restingPairs_3 n h9 y0 y1 y2 y3 (y4 + 1)
    )
def f_X0_restingPairs_79 : Nat → Hea → Nat → Int32 → Int32 → Option (Int32)
  | 0, _, _, _, _ => none
  | n + 1, h, y0, y4, y5 =>
    if 4 ≤ y5 then (
      some y4
    ) else (
      (gR h y0 0 1).bind fun x1 =>
      (ldI h 0 x1 y5).bind fun x2 =>
      (gR h y0 0 1).bind fun x3 =>
      (ldI h 0 x3 (y5 ^^^ 1)).bind fun x4 =>
      (
        if x2 < x4 then (
          some y4
        ) else (
          (gR h y0 0 1).bind fun x6 =>
          (ldI h 0 x6 y5).bind fun x7 =>
          (gR h y0 0 1).bind fun x8 =>
          (ldI h 0 x8 (y5 ^^^ 2)).bind fun x9 =>
          if x9 < x7 then (
            some y4
          ) else (
            some (y4 ||| ((1 : Int32) <<< (y5 &&& 31)))
          )
        )
      ).bind fun v5 =>
      f_X0_restingPairs_79 n h y0 v5 (y5 + 1)
    )
def f_X0_restingPairs (h : Hea) (a0 : Nat) (a1 : Nat) (a2 : Int32) (a3 : Int32) : Option (Int32 × Hea) :=
  (f_X0_restingPairs_3 lots h a0 a1 a2 a3 0).bind fun h1 =>
  (f_X0_restingPairs_79 lots h1 a0 0 0).bind fun v2 =>
  some (v2, h1)
def f_X7_choose (h : Hea) (a0 : Nat) (a1 : Int32) (a2 : Int32) : Option (Int32 × Hea) :=
  (isO h a0 7).bind fun _ =>
  (f_X7_isHeir h a0 a1).bind fun x1 =>
  if x1 = 0 then (
    (isO h a0 7).bind fun _ =>
    bind2 (f_X7_refuseBad h a0) fun x2 h3 =>
    some (x2, h3)
  ) else (
    (isO h a0 7).bind fun _ =>
    (f_X7_isHeir h a0 a2).bind fun x4 =>
    if x4 = 0 then (
      (isO h a0 7).bind fun _ =>
      bind2 (f_X7_refuseBad h a0) fun x5 h6 =>
      some (x5, h6)
    ) else (
      if a1 = a2 then (
        (isO h a0 7).bind fun _ =>
        bind2 (f_X7_refuseBad h a0) fun x17 h18 =>
        some (x17, h18)
      ) else (
        (isO h a0 7).bind fun _ =>
        (f_X7_isIn h a0 a1).bind fun x7 =>
        if x7 = 0 then (
          (isO h a0 7).bind fun _ =>
          bind2 (f_X7_refuseNo h a0) fun x8 h9 =>
          some (x8, h9)
        ) else (
          (isO h a0 7).bind fun _ =>
          (f_X7_isIn h a0 a2).bind fun x10 =>
          if x10 = 0 then (
            (isO h a0 7).bind fun _ =>
            bind2 (f_X7_refuseNo h a0) fun x15 h16 =>
            some (x15, h16)
          ) else (
            (gR h a0 7 6).bind fun x11 =>
            (gR h a0 7 0).bind fun x12 =>
            (isO h x11 0).bind fun _ =>
            bind2 (f_X0_restingPairs h x11 x12 a1 a2) fun x13 h14 =>
            some (x13, h14)
          )
        )
      )
    )
  )
def f_X0_leastHidden_6 : Nat → Hea → Nat → Nat → Int32 → Int32 → Int32 → Option (Int32)
  | 0, _, _, _, _, _, _ => none
  | n + 1, h, y0, y1, y2, y3, y4 =>
    (gI h y1 1 6).bind fun x1 =>
    if x1 ≤ y4 then (
      some y3
    ) else (
      (
        if ((y2 >>> (y4 &&& 31)) &&& 1) = 1 then (
          (gR h y0 0 0).bind fun x3 =>
          (isO h y1 1).bind fun _ =>
          (f_X1_hidden h y1 x3 y4).bind fun x4 =>
          some (if x4 < y3 then x4 else y3)
        ) else (
          some y3
        )
      ).bind fun v2 =>
      f_X0_leastHidden_6 n h y0 y1 y2 v2 (y4 + 1)
    )
def f_X0_leastHidden (h : Hea) (a0 : Nat) (a1 : Nat) (a2 : Int32) : Option (Int32) :=
  (f_X0_leastHidden_6 lots h a0 a1 a2 2147483647 0).bind fun v1 =>
  some v1
def f_X0_luckyEyes_20 : Nat → Hea → Nat → Nat → Int32 → Int32 → Int32 → Int32 → Option (Int32 × Hea)
  | 0, _, _, _, _, _, _, _ => none
  | n + 1, h, y0, y1, y2, y3, y4, y5 =>
    if 60 ≤ y5 then (
      some (y4, h)
    ) else (
      if y3 ≤ 0 then (
        some (y4, h)
      ) else (
        (gR h y0 0 0).bind fun x1 =>
        (gR h y0 0 0).bind fun x2 =>
        (isO h y1 1).bind fun _ =>
        (f_X1_goingOut h y1 x2).bind fun x3 =>
        (isO h y1 1).bind fun _ =>
        (f_X1_inSight h y1 x1 x3).bind fun x4 =>
        (
          if ((x4 >>> (y2 &&& 31)) &&& 1) = 1 then (
            (gR h y0 0 0).bind fun x6 =>
            (isO h y1 1).bind fun _ =>
            (f_X1_hidden h y1 x6 y2).bind fun x7 =>
            some (y4 + (if 0 < y3 - x7 then y3 - x7 else 0))
          ) else (
            some y4
          )
        ).bind fun v5 =>
        (isO h y0 0).bind fun _ =>
        (f_X0_leastHidden h y0 y1 x4).bind fun x8 =>
        (gR h y0 0 0).bind fun x9 =>
        (isO h y1 1).bind fun _ =>
        bind2 (f_X1_runNight h y1 x9 0) fun x10 h11 =>
        f_X0_luckyEyes_20 n h11 y0 y1 y2 (if x8 < y3 then x8 else y3) v5 (y5 + 1)
      )
    )
def f_X0_luckyEyes (h : Hea) (a0 : Nat) (a1 : Nat) (a2 : Int32) : Option (Int32 × Hea) :=
  (gR h a0 0 0).bind fun x1 =>
  (gR h a1 1 9).bind fun x2 =>
  (isO h x1 3).bind fun _ =>
  (f_X3_take h x1 x2).bind fun h3 =>
  bind2 (f_X0_luckyEyes_20 lots h3 a0 a1 a2 25 0 0) fun v4 h5 =>
  some (v4, h5)
def f_X7_greatestShared_11 : Nat → Int32 → Int32 → Int32 → Option (Int32)
  | 0, _, _, _ => none
  | n + 1, y2, y3, y4 =>
    if 32 ≤ y4 then (
      some y2
    ) else (
      if y3 ≤ 0 then (
        some y2
      ) else (
        (nz y3).bind fun _ =>
        f_X7_greatestShared_11 n y3 (y2 - y2 / y3 * y3) (y4 + 1)
      )
    )
def f_X7_greatestShared (a0 : Int32) (a1 : Int32) : Option (Int32) :=
  (f_X7_greatestShared_11 lots (if a1 < 1 then 1 else a1) a0 0).bind fun v1 =>
  some (if 1 < v1 then v1 else 1)
def f_X7_odds (h : Hea) (a0 : Nat) (a1 : Int32) : Option (Int32 × Hea) :=
  (isO h a0 7).bind fun _ =>
  (f_X7_isHeir h a0 a1).bind fun x1 =>
  if x1 = 0 then (
    (isO h a0 7).bind fun _ =>
    bind2 (f_X7_refuseBad h a0) fun x9 h10 =>
    some (x9, h10)
  ) else (
    (gR h a0 7 6).bind fun x2 =>
    (gR h a0 7 0).bind fun x3 =>
    (isO h x2 0).bind fun _ =>
    bind2 (f_X0_luckyEyes h x2 x3 a1) fun x4 h5 =>
    (f_X7_greatestShared x4 25).bind fun x6 =>
    (nz x6).bind fun _ =>
    (pJ h5 a0 7 12 ((x4 / x6).toInt64)).bind fun h7 =>
    (nz x6).bind fun _ =>
    (pJ h7 a0 7 13 ((25 / x6).toInt64)).bind fun h8 =>
    some (1, h8)
  )
def f_X1_witness (h : Hea) (a0 : Nat) (a1 : Int32) (a2 : Int32) (a3 : Int32) : Option (Int32 × Hea) :=
  (gR h a0 1 11).bind fun x1 =>
  (gI h a0 1 10).bind fun x2 =>
  (stI h 0 x1 x2 a1).bind fun h3 =>
  (gR h3 a0 1 12).bind fun x4 =>
  (gI h3 a0 1 10).bind fun x5 =>
  (stI h3 0 x4 x5 a2).bind fun h6 =>
  (gR h6 a0 1 13).bind fun x7 =>
  (gI h6 a0 1 10).bind fun x8 =>
  (stI h6 0 x7 x8 a3).bind fun h9 =>
  (gI h9 a0 1 10).bind fun x10 =>
  (pI h9 a0 1 10 (x10 + 1)).bind fun h11 =>
  (gI h11 a0 1 10).bind fun x12 =>
  some (x12, h11)
def f_X7_seen (h : Hea) (a0 : Nat) (a1 : Int32) (a2 : Int32) (a3 : Int32) : Option (Int32 × Hea) :=
  (f_X7_isRoom a1).bind fun x1 =>
  if x1 = 0 then (
    (isO h a0 7).bind fun _ =>
    bind2 (f_X7_refuseBad h a0) fun x2 h3 =>
    some (x2, h3)
  ) else (
    (f_X7_within a2 0 12).bind fun x4 =>
    if x4 = 0 then (
      (isO h a0 7).bind fun _ =>
      bind2 (f_X7_refuseBad h a0) fun x5 h6 =>
      some (x5, h6)
    ) else (
      (f_X7_within a3 0 1).bind fun x7 =>
      if x7 = 0 then (
        (isO h a0 7).bind fun _ =>
        bind2 (f_X7_refuseBad h a0) fun x15 h16 =>
        some (x15, h16)
      ) else (
        (gR h a0 7 0).bind fun x8 =>
        (gI h x8 1 10).bind fun x9 =>
        if x9 < 6 then (
          (gR h a0 7 0).bind fun x10 =>
          (isO h x10 1).bind fun _ =>
          bind2 (f_X1_witness h x10 a1 a2 a3) fun x11 h12 =>
          some (x11, h12)
        ) else (
          (isO h a0 7).bind fun _ =>
          bind2 (f_X7_refuseFull h a0) fun x13 h14 =>
          some (x13, h14)
        )
      )
    )
  )
def f_X7_forget (h : Hea) (a0 : Nat) : Option (Int32 × Hea) :=
  (gR h a0 7 0).bind fun x1 =>
  (gI h x1 1 10).bind fun x2 =>
  (gR h a0 7 0).bind fun x3 =>
  (pI h x3 1 10 0).bind fun h4 =>
  some (x2, h4)
def f_X5_fits_2 : Nat → Hea → Nat → Int32 → Int32 → Int32 → Option (Int32)
  | 0, _, _, _, _, _ => none
  | n + 1, h, y0, y1, y2, y3 =>
    (gI h y0 1 10).bind fun x1 =>
    if x1 ≤ y3 then (
      some 1
    ) else (
      (gR h y0 1 13).bind fun x2 =>
      (ldI h 0 x2 y3).bind fun x3 =>
      (
        if x3 = 1 then (
          some (1 : Int32)
        ) else (
          some (0 : Int32)
        )
      ).bind fun v4 =>
      (gR h y0 1 12).bind fun x5 =>
      (ldI h 0 x5 y3).bind fun x6 =>
      if x6 = y1 then (
        (gR h y0 1 11).bind fun x7 =>
        (ldI h 0 x7 y3).bind fun x8 =>
        (
          if x8 = y2 then (
            some (1 : Int32)
          ) else (
            some (0 : Int32)
          )
        ).bind fun v9 =>
        if v9 = v4 then (
          f_X5_fits_2 n h y0 y1 y2 (y3 + 1)
        ) else (
          some 0
        )
      ) else (
        f_X5_fits_2 n h y0 y1 y2 (y3 + 1)
      )
    )
def f_X5_fits (h : Hea) (a0 : Nat) (a1 : Int32) (a2 : Int32) : Option (Int32) :=
  f_X5_fits_2 lots h a0 a1 a2 0
def f_X5_begin_2 : Nat → Hea → Nat → Int32 → Nat → Int32 → Option (Hea)
  | 0, _, _, _, _, _ => none
  | n + 1, h, y0, y1, y2, y3 =>
    if 8 ≤ y3 then (
      some h
    ) else (
      (f_X5_fits h y0 y1 y3).bind fun x1 =>
      (
        if x1 = 0 then (
          some (0 : Int64)
        ) else (
          some (1 : Int64)
        )
      ).bind fun v2 =>
      (stJ h y2 y3 v2).bind fun h3 =>
      f_X5_begin_2 n h3 y0 y1 y2 (y3 + 1)
    )
def f_X5_begin (h : Hea) (a0 : Nat) (a1 : Int32) (a2 : Nat) : Option (Hea) :=
  (f_X5_begin_2 lots h a0 a1 a2 0).bind fun h1 =>
  some h1
def f_X5_arriving_10 : Nat → Hea → Nat → Nat → Int32 → Int64 → Int32 → Option (Int64)
  | 0, _, _, _, _, _, _ => none
  | n + 1, h, y0, y1, y2, y3, y5 =>
    if 8 ≤ y5 then (
      some y3
    ) else (
      (isO h y1 1).bind fun _ =>
      (f_X1_creaksBetween h y1 y5 y2).bind fun x1 =>
      (
        if x1 ≤ 0 then (
          some y3
        ) else (
          (gR h y0 5 3).bind fun x3 =>
          (ldJ h x3 y5).bind fun x4 =>
          some (y3 + x4)
        )
      ).bind fun v2 =>
      f_X5_arriving_10 n h y0 y1 y2 v2 (y5 + 1)
    )
def f_X5_arriving (h : Hea) (a0 : Nat) (a1 : Nat) (a2 : Int32) : Option (Int64) :=
  (gR h a0 5 3).bind fun x1 =>
  (ldJ h x1 a2).bind fun x2 =>
  (f_X5_arriving_10 lots h a0 a1 a2 x2 0).bind fun v3 =>
  some v3
def f_X5_extend_15 : Nat → Hea → Nat → Nat → Int32 → Nat → Int32 → Option (Hea)
  | 0, _, _, _, _, _, _ => none
  | n + 1, h, y0, y1, y2, y3, y4 =>
    if 8 ≤ y4 then (
      some h
    ) else (
      (f_X5_fits h y1 y2 y4).bind fun x1 =>
      (
        if x1 = 0 then (
          some (0 : Int64)
        ) else (
          (isO h y0 5).bind fun _ =>
          (f_X5_arriving h y0 y1 y4).bind fun x3 =>
          some x3
        )
      ).bind fun v2 =>
      (stJ h y3 y4 v2).bind fun h4 =>
      f_X5_extend_15 n h4 y0 y1 y2 y3 (y4 + 1)
    )
def f_X5_extend (h : Hea) (a0 : Nat) (a1 : Nat) (a2 : Int32) (a3 : Nat) : Option (Hea) :=
  (gR h a0 5 3).bind fun x1 =>
  (cpJ h a3 x1 8).bind fun h2 =>
  (f_X5_extend_15 lots h2 a0 a1 a2 a3 0).bind fun h3 =>
  some h3
def f_X5_countThrough_11 : Nat → Hea → Nat → Nat → Int32 → Int32 → Option (Hea)
  | 0, _, _, _, _, _ => none
  | n + 1, h, y0, y1, y2, y3 =>
    if y2 < y3 then (
      some h
    ) else (
      (gR h y0 5 1).bind fun x1 =>
      (isO h y0 5).bind fun _ =>
      (f_X5_extend h y0 y1 y3 x1).bind fun h2 =>
      f_X5_countThrough_11 n h2 y0 y1 y2 (y3 + 1)
    )
def f_X5_countThrough_45 : Nat → Hea → Nat → Nat → Int32 → Int32 → Option (Hea)
  | 0, _, _, _, _, _ => none
  | n + 1, h, y0, y1, y2, y3 =>
    if y3 < y2 then (
      some h
    ) else (
      (gR h y0 5 2).bind fun x1 =>
      (isO h y0 5).bind fun _ =>
      (f_X5_extend h y0 y1 y3 x1).bind fun h2 =>
      f_X5_countThrough_45 n h2 y0 y1 y2 (y3 + (-1))
    )
def f_X5_countThrough_68 : Nat → Hea → Nat → Int32 → Option (Hea)
  | 0, _, _, _ => none
  | n + 1, h, y0, y3 =>
    if 8 ≤ y3 then (
      some h
    ) else (
      (gR h y0 5 0).bind fun x1 =>
      (gR h y0 5 1).bind fun x2 =>
      (ldJ h x2 y3).bind fun x3 =>
      (gR h y0 5 2).bind fun x4 =>
      (ldJ h x4 y3).bind fun x5 =>
      (stJ h x1 y3 (x3 * x5)).bind fun h6 =>
      f_X5_countThrough_68 n h6 y0 (y3 + 1)
    )
def f_X5_countThrough (h : Hea) (a0 : Nat) (a1 : Nat) (a2 : Int32) : Option (Hea) :=
  (gR h a0 5 1).bind fun x1 =>
  (f_X5_begin h a1 0 x1).bind fun h2 =>
  (f_X5_countThrough_11 lots h2 a0 a1 a2 1).bind fun h3 =>
  (gR h3 a0 5 2).bind fun x4 =>
  (f_X5_begin h3 a1 12 x4).bind fun h5 =>
  (f_X5_countThrough_45 lots h5 a0 a1 a2 11).bind fun h6 =>
  (f_X5_countThrough_68 lots h6 a0 0).bind fun h7 =>
  some h7
def f_X5_roomsPossible_4 : Nat → Hea → Nat → Int32 → Int32 → Option (Int32)
  | 0, _, _, _, _ => none
  | n + 1, h, y0, y1, y2 =>
    if 8 ≤ y2 then (
      some y1
    ) else (
      (gR h y0 5 0).bind fun x1 =>
      (ldJ h x1 y2).bind fun x2 =>
      (
        if (lg_cmp x2 0) ≤ 0 then (
          some y1
        ) else (
          some (y1 ||| ((1 : Int32) <<< (y2 &&& 31)))
        )
      ).bind fun v3 =>
      f_X5_roomsPossible_4 n h y0 v3 (y2 + 1)
    )
def f_X5_roomsPossible (h : Hea) (a0 : Nat) : Option (Int32) :=
  (f_X5_roomsPossible_4 lots h a0 0 0).bind fun v1 =>
  some v1
def f_X7_may (h : Hea) (a0 : Nat) (a1 : Int32) : Option (Int32 × Hea) :=
  (f_X7_within a1 0 12).bind fun x1 =>
  if x1 = 0 then (
    (isO h a0 7).bind fun _ =>
    bind2 (f_X7_refuseBad h a0) fun x7 h8 =>
    some (x7, h8)
  ) else (
    (gR h a0 7 8).bind fun x2 =>
    (gR h a0 7 0).bind fun x3 =>
    (isO h x2 5).bind fun _ =>
    (f_X5_countThrough h x2 x3 a1).bind fun h4 =>
    (gR h4 a0 7 8).bind fun x5 =>
    (isO h4 x5 5).bind fun _ =>
    (f_X5_roomsPossible h4 x5).bind fun x6 =>
    some (x6, h4)
  )
def f_X5_total_4 : Nat → Hea → Nat → Int64 → Int32 → Option (Int64)
  | 0, _, _, _, _ => none
  | n + 1, h, y0, y1, y3 =>
    if 8 ≤ y3 then (
      some y1
    ) else (
      (gR h y0 5 0).bind fun x1 =>
      (ldJ h x1 y3).bind fun x2 =>
      f_X5_total_4 n h y0 (y1 + x2) (y3 + 1)
    )
def f_X5_total (h : Hea) (a0 : Nat) : Option (Int64) :=
  (f_X5_total_4 lots h a0 0 0).bind fun v1 =>
  some v1
def f_X7_ways (h : Hea) (a0 : Nat) : Option (Int64 × Hea) :=
  (gR h a0 7 8).bind fun x1 =>
  (gR h a0 7 0).bind fun x2 =>
  (isO h x1 5).bind fun _ =>
  (f_X5_countThrough h x1 x2 0).bind fun h3 =>
  (gR h3 a0 7 8).bind fun x4 =>
  (isO h3 x4 5).bind fun _ =>
  (f_X5_total h3 x4).bind fun x5 =>
  some (x5, h3)
def f_X5_roomThatTells_23 : Nat → Hea → Nat → Int64 → Int32 → Int64 → Int32 → Option (Int32)
  | 0, _, _, _, _, _, _ => none
  | n + 1, h, y0, y1, y3, y4, y6 =>
    if 8 ≤ y6 then (
      some y3
    ) else (
      (gR h y0 5 0).bind fun x1 =>
      (ldJ h x1 y6).bind fun x2 =>
      (gR h y0 5 0).bind fun x3 =>
      (ldJ h x3 y6).bind fun x4 =>
      bind2 (
        if 0 ≤ (lg_cmp (if y1 - x4 < x2 then x2 else y1 - x4) y4) then (
          some (y3, y4)
        ) else (
          some (y6, (if y1 - x4 < x2 then x2 else y1 - x4))
        )
      ) fun v5 v6 =>
      f_X5_roomThatTells_23 n h y0 y1 v5 v6 (y6 + 1)
    )
def f_X5_roomThatTells (h : Hea) (a0 : Nat) : Option (Int32) :=
  (isO h a0 5).bind fun _ =>
  (f_X5_total h a0).bind fun x1 =>
  if (lg_cmp x1 0) = 0 then (
    some (-1)
  ) else (
    (f_X5_roomThatTells_23 lots h a0 x1 (-1) (x1 + 1) 0).bind fun v2 =>
    some v2
  )
def f_X7_peek (h : Hea) (a0 : Nat) (a1 : Int32) : Option (Int32 × Hea) :=
  (f_X7_within a1 0 12).bind fun x1 =>
  if x1 = 0 then (
    (isO h a0 7).bind fun _ =>
    bind2 (f_X7_refuseBad h a0) fun x7 h8 =>
    some (x7, h8)
  ) else (
    (gR h a0 7 8).bind fun x2 =>
    (gR h a0 7 0).bind fun x3 =>
    (isO h x2 5).bind fun _ =>
    (f_X5_countThrough h x2 x3 a1).bind fun h4 =>
    (gR h4 a0 7 8).bind fun x5 =>
    (isO h4 x5 5).bind fun _ =>
    (f_X5_roomThatTells h4 x5).bind fun x6 =>
    some (x6, h4)
  )
def f_X0_moveBySeed_6 : Nat → Hea → Nat → Nat → Int64 → Int32 → Option (Int64 × Hea)
  | 0, _, _, _, _, _ => none
  | n + 1, h, y0, y1, y4, y6 =>
    (gI h y1 1 6).bind fun x1 =>
    if x1 ≤ y6 then (
      some (y4, h)
    ) else (
      (gR h y0 0 0).bind fun x2 =>
      (gR h x2 3 3).bind fun x3 =>
      (ldI h 0 x3 y6).bind fun x4 =>
      (
        if x4 = 0 then (
          (gR h y0 0 0).bind fun x6 =>
          (gR h x6 3 1).bind fun x7 =>
          (ldI h 0 x7 y6).bind fun x8 =>
          (isO h y1 1).bind fun _ =>
          (f_X1_creaksBetween h y1 x8 ((((((y4 * 1103515245) + 12345) - ((y4 * 1103515245) + 12345) / 2147483648 * 2147483648) / 65536) - ((((y4 * 1103515245) + 12345) - ((y4 * 1103515245) + 12345) / 2147483648 * 2147483648) / 65536) / 8 * 8).toInt32)).bind fun x9 =>
          if x9 ≤ 0 then (
            some h
          ) else (
            (gR h y0 0 0).bind fun x10 =>
            (isO h x10 3).bind fun _ =>
            (f_X3_go h x10 y6 ((((((y4 * 1103515245) + 12345) - ((y4 * 1103515245) + 12345) / 2147483648 * 2147483648) / 65536) - ((((y4 * 1103515245) + 12345) - ((y4 * 1103515245) + 12345) / 2147483648 * 2147483648) / 65536) / 8 * 8).toInt32)).bind fun h11 =>
            some h11
          )
        ) else (
          some h
        )
      ).bind fun h5 =>
      f_X0_moveBySeed_6 n h5 y0 y1 (((y4 * 1103515245) + 12345) - ((y4 * 1103515245) + 12345) / 2147483648 * 2147483648) (y6 + 1)
    )
def f_X0_moveBySeed (h : Hea) (a0 : Nat) (a1 : Nat) (a2 : Int64) : Option (Int64 × Hea) :=
  bind2 (f_X0_moveBySeed_6 lots h a0 a1 a2 0) fun v1 h2 =>
  some (v1, h2)
def f_X1_heirsThat_5 : Nat → Hea → Nat → Nat → Int32 → Int32 → Int32 → Option (Int32)
  | 0, _, _, _, _, _, _ => none
  | n + 1, h, y0, y1, y2, y3, y4 =>
    (gI h y0 1 6).bind fun x1 =>
    if x1 ≤ y4 then (
      some y3
    ) else (
      (gR h y1 3 3).bind fun x2 =>
      (ldI h 0 x2 y4).bind fun x3 =>
      (
        if x3 = y2 then (
          some (y3 + 1)
        ) else (
          some y3
        )
      ).bind fun v4 =>
      f_X1_heirsThat_5 n h y0 y1 y2 v4 (y4 + 1)
    )
def f_X1_heirsThat (h : Hea) (a0 : Nat) (a1 : Nat) (a2 : Int32) : Option (Int32) :=
  (f_X1_heirsThat_5 lots h a0 a1 a2 0 0).bind fun v1 =>
  some v1
def f_X0_foundBySeed_18 : Nat → Hea → Nat → Nat → Int32 → Int64 → Int32 → Option (Hea)
  | 0, _, _, _, _, _, _ => none
  | n + 1, h, y0, y1, y3, y4, y6 =>
    if y3 ≤ y6 then (
      some h
    ) else (
      (isO h y0 0).bind fun _ =>
      bind2 (f_X0_moveBySeed h y0 y1 y4) fun x1 h2 =>
      (gR h2 y0 0 0).bind fun x3 =>
      (gI h2 y1 1 0).bind fun x4 =>
      (isO h2 y1 1).bind fun _ =>
      bind2 (f_X1_runNight h2 y1 x3 x4) fun x5 h6 =>
      f_X0_foundBySeed_18 n h6 y0 y1 y3 x1 (y6 + 1)
    )
def f_X0_foundBySeed (h : Hea) (a0 : Nat) (a1 : Nat) (a2 : Int32) (a3 : Int32) : Option (Int32 × Hea) :=
  (gR h a0 0 0).bind fun x1 =>
  (gR h a1 1 9).bind fun x2 =>
  (isO h x1 3).bind fun _ =>
  (f_X3_take h x1 x2).bind fun h3 =>
  (f_X0_foundBySeed_18 lots h3 a0 a1 a3 a2.toInt64 0).bind fun h4 =>
  (gR h4 a0 0 0).bind fun x5 =>
  (isO h4 a1 1).bind fun _ =>
  (f_X1_heirsThat h4 a1 x5 2).bind fun x6 =>
  some (x6, h4)
def f_X7_nights (h : Hea) (a0 : Nat) (a1 : Int32) (a2 : Int32) : Option (Int32 × Hea) :=
  (f_X7_within a1 0 999999).bind fun x1 =>
  if x1 = 0 then (
    (isO h a0 7).bind fun _ =>
    bind2 (f_X7_refuseBad h a0) fun x2 h3 =>
    some (x2, h3)
  ) else (
    (f_X7_within a2 0 30).bind fun x4 =>
    if x4 = 0 then (
      (isO h a0 7).bind fun _ =>
      bind2 (f_X7_refuseBad h a0) fun x9 h10 =>
      some (x9, h10)
    ) else (
      (gR h a0 7 6).bind fun x5 =>
      (gR h a0 7 0).bind fun x6 =>
      (isO h x5 0).bind fun _ =>
      bind2 (f_X0_foundBySeed h x5 x6 a1 a2) fun x7 h8 =>
      some (x7, h8)
    )
  )
def f_X7_part (h : Hea) (a0 : Nat) (a1 : Int32) : Option (Int64 × Hea) :=
  (f_X7_within a1 0 1).bind fun x1 =>
  if x1 = 0 then (
    (isO h a0 7).bind fun _ =>
    bind2 (f_X7_refuseBad h a0) fun x5 h6 =>
    some (x5.toInt64, h6)
  ) else (
    (
      if a1 = 0 then (
        (gJ h a0 7 12).bind fun x4 =>
        some x4
      ) else (
        (gJ h a0 7 13).bind fun x3 =>
        some x3
      )
    ).bind fun v2 =>
    some (v2, h)
  )
def f_X2_take_10 : Nat → Hea → Nat → Nat → Int32 → Option (Hea)
  | 0, _, _, _, _ => none
  | n + 1, h, y0, y1, y2 =>
    (gI h y0 2 1).bind fun x1 =>
    if x1 ≤ y2 then (
      some h
    ) else (
      (gR h y0 2 0).bind fun x2 =>
      (ldR h 6 x2 y2).bind fun x3 =>
      (gR h y1 2 0).bind fun x4 =>
      (ldR h 6 x4 y2).bind fun x5 =>
      (isO h x3 3).bind fun _ =>
      (f_X3_take h x3 x5).bind fun h6 =>
      f_X2_take_10 n h6 y0 y1 (y2 + 1)
    )
def f_X2_take (h : Hea) (a0 : Nat) (a1 : Nat) : Option (Hea) :=
  (gI h a1 2 1).bind fun x1 =>
  (pI h a0 2 1 x1).bind fun h2 =>
  (f_X2_take_10 lots h2 a0 a1 0).bind fun h3 =>
  some h3
def f_X7_image (h : Hea) (a0 : Nat) (a1 : Int32) : Option (Int32 × Hea) :=
  (f_X7_within a1 0 1).bind fun x1 =>
  if x1 = 0 then (
    (isO h a0 7).bind fun _ =>
    bind2 (f_X7_refuseBad h a0) fun x12 h13 =>
    some (x12, h13)
  ) else (
    (gR h a0 7 3).bind fun x2 =>
    (ldR h 4 x2 a1).bind fun x3 =>
    (gR h a0 7 0).bind fun x4 =>
    (isO h x3 1).bind fun _ =>
    (f_X1_take h x3 x4).bind fun h5 =>
    (gR h5 a0 7 4).bind fun x6 =>
    (ldR h5 5 x6 a1).bind fun x7 =>
    (gR h5 a0 7 1).bind fun x8 =>
    (isO h5 x7 2).bind fun _ =>
    (f_X2_take h5 x7 x8).bind fun h9 =>
    (gR h9 a0 7 5).bind fun x10 =>
    (stZ h9 x10 a1 1).bind fun h11 =>
    some (1, h11)
  )
def f_X7_from (h : Hea) (a0 : Nat) (a1 : Int32) : Option (Int32 × Hea) :=
  (f_X7_within a1 0 1).bind fun x1 =>
  if x1 = 0 then (
    (isO h a0 7).bind fun _ =>
    bind2 (f_X7_refuseBad h a0) fun x14 h15 =>
    some (x14, h15)
  ) else (
    (gR h a0 7 5).bind fun x2 =>
    (ldI h 2 x2 a1).bind fun x3 =>
    if x3 = 0 then (
      (isO h a0 7).bind fun _ =>
      bind2 (f_X7_refuseNo h a0) fun x12 h13 =>
      some (x12, h13)
    ) else (
      (gR h a0 7 0).bind fun x4 =>
      (gR h a0 7 3).bind fun x5 =>
      (ldR h 4 x5 a1).bind fun x6 =>
      (isO h x4 1).bind fun _ =>
      (f_X1_take h x4 x6).bind fun h7 =>
      (gR h7 a0 7 1).bind fun x8 =>
      (gR h7 a0 7 4).bind fun x9 =>
      (ldR h7 5 x9 a1).bind fun x10 =>
      (isO h7 x8 2).bind fun _ =>
      (f_X2_take h7 x8 x10).bind fun h11 =>
      some (1, h11)
    )
  )
def f_X7_status (h : Hea) (a0 : Nat) (a1 : Int32) : Option (Int32 × Hea) :=
  if a1 = 0 then (
    (gI h a0 7 14).bind fun x1 =>
    some (x1, h)
  ) else
  if a1 = 1 then (
    (gI h a0 7 15).bind fun x2 =>
    some (x2, h)
  ) else
  if a1 = 2 then (
    (gI h a0 7 16).bind fun x3 =>
    some (x3, h)
  ) else
  (
    (isO h a0 7).bind fun _ =>
    bind2 (f_X7_refuseBad h a0) fun x4 h5 =>
    some ((-1), h5)
  )
def f_X7_counted (h : Hea) (a0 : Nat) (a1 : Int32) : Option (Int32) :=
  if a1 = 0 then (
    (gR h a0 7 0).bind fun x1 =>
    (gI h x1 1 6).bind fun x2 =>
    some x2
  ) else
  if a1 = 1 then (
    (gR h a0 7 0).bind fun x3 =>
    (gI h x3 1 0).bind fun x4 =>
    some x4
  ) else
  if a1 = 2 then (
    (gR h a0 7 0).bind fun x5 =>
    (gI h x5 1 1).bind fun x6 =>
    some x6
  ) else
  if a1 = 3 then (
    (gR h a0 7 0).bind fun x7 =>
    (gR h x7 1 9).bind fun x8 =>
    (gI h x8 3 0).bind fun x9 =>
    some x9
  ) else
  if a1 = 4 then (
    (gR h a0 7 0).bind fun x10 =>
    (gR h a0 7 0).bind fun x11 =>
    (gR h x11 1 9).bind fun x12 =>
    (isO h x10 1).bind fun _ =>
    (f_X1_heirsThat h x10 x12 0).bind fun x13 =>
    some x13
  ) else
  if a1 = 5 then (
    (gR h a0 7 0).bind fun x14 =>
    (gI h x14 1 5).bind fun x15 =>
    some x15
  ) else
  if a1 = 6 then (
    (gR h a0 7 0).bind fun x16 =>
    (gI h x16 1 10).bind fun x17 =>
    some x17
  ) else
  if a1 = 7 then (
    (gR h a0 7 1).bind fun x18 =>
    (gI h x18 2 1).bind fun x19 =>
    some x19
  ) else
  (
    (gI h a0 7 11).bind fun x20 =>
    some x20
  )
def f_X7_count (h : Hea) (a0 : Nat) (a1 : Int32) : Option (Int32 × Hea) :=
  (f_X7_within a1 0 8).bind fun x1 =>
  if x1 = 0 then (
    (isO h a0 7).bind fun _ =>
    bind2 (f_X7_refuseBad h a0) fun x3 h4 =>
    some (x3, h4)
  ) else (
    (isO h a0 7).bind fun _ =>
    (f_X7_counted h a0 a1).bind fun x2 =>
    some (x2, h)
  )
def f_X1_digestRooms_5 : Nat → Hea → Nat → Int64 → Int32 → Option (Int64)
  | 0, _, _, _, _ => none
  | n + 1, h, y0, y3, y5 =>
    if 8 ≤ y5 then (
      some y3
    ) else (
      (gR h y0 1 2).bind fun x1 =>
      (ldI h 0 x1 y5).bind fun x2 =>
      f_X1_digestRooms_5 n h y0 ((31 * y3) + x2.toInt64) (y5 + 1)
    )
def f_X1_digestRooms_49 : Nat → Hea → Nat → Int64 → Int32 → Int32 → Option (Int64)
  | 0, _, _, _, _, _ => none
  | n + 1, h, y0, y3, y5, y6 =>
    if 8 ≤ y6 then (
      some y3
    ) else (
      (isO h y0 1).bind fun _ =>
      (f_X1_creaksBetween h y0 y5 y6).bind fun x1 =>
      f_X1_digestRooms_49 n h y0 ((31 * y3) + x1.toInt64) y5 (y6 + 1)
    )
def f_X1_digestRooms_36 : Nat → Hea → Nat → Int64 → Int32 → Option (Int64)
  | 0, _, _, _, _ => none
  | n + 1, h, y0, y3, y5 =>
    if 8 ≤ y5 then (
      some y3
    ) else (
      (f_X1_digestRooms_49 lots h y0 y3 y5 (y5 + 1)).bind fun v1 =>
      f_X1_digestRooms_36 n h y0 v1 (y5 + 1)
    )
def f_X1_digestRooms_87 : Nat → Hea → Nat → Int64 → Int32 → Option (Int64)
  | 0, _, _, _, _ => none
  | n + 1, h, y0, y3, y5 =>
    (gI h y0 1 5).bind fun x1 =>
    if x1 ≤ y5 then (
      some y3
    ) else (
      (gR h y0 1 4).bind fun x2 =>
      (ldI h 0 x2 y5).bind fun x3 =>
      f_X1_digestRooms_87 n h y0 ((31 * y3) + x3.toInt64) (y5 + 1)
    )
def f_X1_digestRooms (h : Hea) (a0 : Nat) (a1 : Int64) : Option (Int64) :=
  (f_X1_digestRooms_5 lots h a0 a1 0).bind fun v1 =>
  (f_X1_digestRooms_36 lots h a0 v1 0).bind fun v2 =>
  (f_X1_digestRooms_87 lots h a0 v2 0).bind fun v3 =>
  some v3
def f_X1_digestHeirs_5 : Nat → Hea → Nat → Int64 → Int32 → Option (Int64)
  | 0, _, _, _, _ => none
  | n + 1, h, y0, y3, y5 =>
    (gI h y0 1 6).bind fun x1 =>
    if x1 ≤ y5 then (
      some y3
    ) else (
      (gR h y0 1 7).bind fun x2 =>
      (ldI h 0 x2 y5).bind fun x3 =>
      (gR h y0 1 9).bind fun x4 =>
      (gR h x4 3 1).bind fun x5 =>
      (ldI h 0 x5 y5).bind fun x6 =>
      (gR h y0 1 8).bind fun x7 =>
      (ldI h 0 x7 y5).bind fun x8 =>
      (gR h y0 1 9).bind fun x9 =>
      (gR h x9 3 2).bind fun x10 =>
      (ldI h 0 x10 y5).bind fun x11 =>
      (gR h y0 1 9).bind fun x12 =>
      (gR h x12 3 3).bind fun x13 =>
      (ldI h 0 x13 y5).bind fun x14 =>
      (gR h y0 1 9).bind fun x15 =>
      (gR h x15 3 4).bind fun x16 =>
      (ldI h 0 x16 y5).bind fun x17 =>
      (gR h y0 1 9).bind fun x18 =>
      (gR h x18 3 5).bind fun x19 =>
      (ldI h 0 x19 y5).bind fun x20 =>
      f_X1_digestHeirs_5 n h y0 ((31 * ((31 * ((31 * ((31 * ((31 * ((31 * ((31 * y3) + x3.toInt64)) + x6.toInt64)) + x8.toInt64)) + x11.toInt64)) + x14.toInt64)) + x17.toInt64)) + x20.toInt64) (y5 + 1)
    )
def f_X1_digestHeirs (h : Hea) (a0 : Nat) (a1 : Int64) : Option (Int64) :=
  (f_X1_digestHeirs_5 lots h a0 a1 0).bind fun v1 =>
  some v1
def f_X1_digestSeen_5 : Nat → Hea → Nat → Int64 → Int32 → Option (Int64)
  | 0, _, _, _, _ => none
  | n + 1, h, y0, y3, y5 =>
    (gI h y0 1 10).bind fun x1 =>
    if x1 ≤ y5 then (
      some y3
    ) else (
      (gR h y0 1 11).bind fun x2 =>
      (ldI h 0 x2 y5).bind fun x3 =>
      (gR h y0 1 12).bind fun x4 =>
      (ldI h 0 x4 y5).bind fun x5 =>
      (gR h y0 1 13).bind fun x6 =>
      (ldI h 0 x6 y5).bind fun x7 =>
      f_X1_digestSeen_5 n h y0 ((31 * ((31 * ((31 * y3) + x3.toInt64)) + x5.toInt64)) + x7.toInt64) (y5 + 1)
    )
def f_X1_digestSeen (h : Hea) (a0 : Nat) (a1 : Int64) : Option (Int64) :=
  (f_X1_digestSeen_5 lots h a0 a1 0).bind fun v1 =>
  some v1
def f_X7_digest_6 : Nat → Hea → Nat → Int64 → Int32 → Option (Int64)
  | 0, _, _, _, _ => none
  | n + 1, h, y0, y1, y3 =>
    if 8 < y3 then (
      some y1
    ) else (
      (isO h y0 7).bind fun _ =>
      (f_X7_counted h y0 y3).bind fun x1 =>
      f_X7_digest_6 n h y0 ((31 * y1) + x1.toInt64) (y3 + 1)
    )
def f_X7_digest (h : Hea) (a0 : Nat) : Option (Int64) :=
  (f_X7_digest_6 lots h a0 1033 0).bind fun v1 =>
  (gR h a0 7 0).bind fun x2 =>
  (isO h x2 1).bind fun _ =>
  (f_X1_digestRooms h x2 v1).bind fun x3 =>
  (gR h a0 7 0).bind fun x4 =>
  (isO h x4 1).bind fun _ =>
  (f_X1_digestHeirs h x4 x3).bind fun x5 =>
  (gR h a0 7 0).bind fun x6 =>
  (isO h x6 1).bind fun _ =>
  (f_X1_digestSeen h x6 x5).bind fun x7 =>
  (gJ h a0 7 12).bind fun x8 =>
  (gJ h a0 7 13).bind fun x9 =>
  some ((31 * ((31 * x7) + x8)) + x9)
def f_X8_begin_2 : Nat → Hea → Nat → Int32 → Option (Hea)
  | 0, _, _, _ => none
  | n + 1, h, y0, y3 =>
    if 151 ≤ y3 then (
      some h
    ) else (
      (stI h 0 y0 y3 0).bind fun h1 =>
      f_X8_begin_2 n h1 y0 (y3 + 1)
    )
def f_X8_begin_33 : Nat → Hea → Nat → Int32 → Option (Hea)
  | 0, _, _, _ => none
  | n + 1, h, y0, y3 =>
    if 8 ≤ y3 then (
      some h
    ) else (
      (stI h 0 y0 (7 + y3) 5).bind fun h1 =>
      f_X8_begin_33 n h1 y0 (y3 + 1)
    )
def f_X8_begin (h : Hea) (a0 : Nat) (a1 : Int32) (a2 : Int32) : Option (Hea) :=
  (f_X8_begin_2 lots h a0 0).bind fun h1 =>
  (stI h1 0 a0 1 a1).bind fun h2 =>
  (stI h2 0 a0 2 a2).bind fun h3 =>
  (stI h3 0 a0 4 1).bind fun h4 =>
  (f_X8_begin_33 lots h4 a0 0).bind fun h5 =>
  some h5
def f_X8_init (h : Hea) (a0 : Nat) : Option (Hea) :=
  bind2 (nwO h (cI 0 399 (fun _ => 0))) fun q1 h2 =>
  (pR h2 a0 8 0 q1).bind fun h3 =>
  bind2 (nwO h3 (cI 0 798 (fun _ => 0))) fun q4 h5 =>
  (pR h5 a0 8 1 q4).bind fun h6 =>
  bind2 (nwO h6 (cI 2 2 (fun _ => 0))) fun q7 h8 =>
  (pR h8 a0 8 2 q7).bind fun h9 =>
  bind2 (nwO h9 (cI 0 3 (fun _ => 0))) fun q10 h11 =>
  (pR h11 a0 8 3 q10).bind fun h12 =>
  (pJ h12 a0 8 5 1).bind fun h13 =>
  bind2 (nwO h13 (cI 0 6 (fun _ => 0))) fun q14 h15 =>
  (pR h15 a0 8 8 q14).bind fun h16 =>
  bind2 (nwO h16 (cI 0 6 (fun _ => 0))) fun q17 h18 =>
  (pR h18 a0 8 9 q17).bind fun h19 =>
  bind2 (nwO h19 (cI 0 6 (fun _ => 0))) fun q20 h21 =>
  (pR h21 a0 8 10 q20).bind fun h22 =>
  bind2 (nwO h22 (cI 0 6 (fun _ => 0))) fun q23 h24 =>
  (pR h24 a0 8 11 q23).bind fun h25 =>
  bind2 (nwO h25 (cI 0 6 (fun _ => 0))) fun q26 h27 =>
  (pR h27 a0 8 12 q26).bind fun h28 =>
  bind2 (nwO h28 (cI 0 48 (fun _ => 0))) fun q29 h30 =>
  (pR h30 a0 8 13 q29).bind fun h31 =>
  bind2 (nwO h31 (cI 0 48 (fun _ => 0))) fun q32 h33 =>
  (pR h33 a0 8 14 q32).bind fun h34 =>
  bind2 (nwO h34 (cI 0 4 (fun _ => 0))) fun q35 h36 =>
  (pR h36 a0 8 15 q35).bind fun h37 =>
  bind2 (nwO h37 (cI 0 4 (fun _ => 0))) fun q38 h39 =>
  (pR h39 a0 8 16 q38).bind fun h40 =>
  bind2 (nwO h40 (cJ 104 (fun _ => 0))) fun q41 h42 =>
  (pR h42 a0 8 17 q41).bind fun h43 =>
  bind2 (nwO h43 (cJ 104 (fun _ => 0))) fun q44 h45 =>
  (pR h45 a0 8 18 q44).bind fun h46 =>
  bind2 (nwO h46 (cI 0 150 (fun _ => 0))) fun q47 h48 =>
  (pR h48 a0 8 19 q47).bind fun h49 =>
  bind2 (nwO h49 (cI 0 151 (fun _ => 0))) fun q50 h51 =>
  (pR h51 a0 8 25 q50).bind fun h52 =>
  bind2 (nwO h52 (cI 0 3 (fun _ => 0))) fun q53 h54 =>
  (pR h54 a0 8 26 q53).bind fun h55 =>
  (gR h55 a0 8 0).bind fun x56 =>
  (f_X8_begin h55 x56 10 3).bind fun h57 =>
  some h57
def f_X8_in (a0 : Int64) (a2 : Int64) (a4 : Int64) : Option (Int32) :=
  (
    if (lg_cmp a0 a2) < 0 then (
      some (0 : Int32)
    ) else (
      if 0 < (lg_cmp a0 a4) then (
        some (0 : Int32)
      ) else (
        some (1 : Int32)
      )
    )
  ).bind fun v1 =>
  zb v1
def f_X8_bad (h : Hea) (a0 : Nat) (a1 : Int32) : Option (Int32 × Hea) :=
  (gR h a0 8 3).bind fun x1 =>
  (ldI h 0 x1 0).bind fun x2 =>
  (stI h 0 x1 0 (x2 + 1)).bind fun h3 =>
  some (a1, h3)
def f_X8_no (h : Hea) (a0 : Nat) : Option (Int32 × Hea) :=
  (gR h a0 8 3).bind fun x1 =>
  (ldI h 0 x1 1).bind fun x2 =>
  (stI h 0 x1 1 (x2 + 1)).bind fun h3 =>
  some ((-3), h3)
def f_X8_full (h : Hea) (a0 : Nat) : Option (Int32 × Hea) :=
  (gR h a0 8 3).bind fun x1 =>
  (ldI h 0 x1 2).bind fun x2 =>
  (stI h 0 x1 2 (x2 + 1)).bind fun h3 =>
  some ((-4), h3)
def f_X8_heirs (h : Hea) (a0 : Nat) : Option (Int32) :=
  (gR h a0 8 0).bind fun x1 =>
  (ldI h 0 x1 0).bind fun x2 =>
  some x2
def f_X8_isHeir (h : Hea) (a0 : Nat) (a1 : Int32) : Option (Int32) :=
  (isO h a0 8).bind fun _ =>
  (f_X8_heirs h a0).bind fun x1 =>
  (f_X8_in a1.toInt64 0 ((x1 - 1).toInt64)).bind fun x2 =>
  zb x2
def f_X8_isRoom (a0 : Int32) : Option (Int32) :=
  (f_X8_in a0.toInt64 0 7).bind fun x1 =>
  zb x1
def f_X8_get (h : Hea) (a0 : Nat) (a1 : Int32) (a2 : Int32) : Option (Int32) :=
  (gR h a0 8 0).bind fun x1 =>
  (ldI h 0 x1 ((91 + (7 * a1)) + a2)).bind fun x2 =>
  some x2
def f_X8_set (h : Hea) (a0 : Nat) (a1 : Int32) (a2 : Int32) (a3 : Int32) : Option (Hea) :=
  (gR h a0 8 0).bind fun x1 =>
  (stI h 0 x1 ((91 + (7 * a1)) + a2) a3).bind fun h2 =>
  some h2
def f_X8_creaks (h : Hea) (a0 : Nat) (a1 : Int32) (a2 : Int32) : Option (Int32) :=
  (gR h a0 8 0).bind fun x1 =>
  (ldI h 0 x1 ((15 + (8 * a1)) + a2)).bind fun x2 =>
  some x2
def f_X8_house (h : Hea) (a0 : Nat) (a1 : Int32) (a2 : Int32) : Option (Int32 × Hea) :=
  (f_X8_in a1.toInt64 0 25).bind fun x1 =>
  if x1 = 0 then (
    (isO h a0 8).bind fun _ =>
    bind2 (f_X8_bad h a0 (-2)) fun x2 h3 =>
    some (x2, h3)
  ) else (
    (f_X8_in a2.toInt64 0 25).bind fun x4 =>
    if x4 = 0 then (
      (isO h a0 8).bind fun _ =>
      bind2 (f_X8_bad h a0 (-2)) fun x8 h9 =>
      some (x8, h9)
    ) else (
      (isO h a0 8).bind fun _ =>
      (f_X8_heirs h a0).bind fun x5 =>
      (gR h a0 8 0).bind fun x6 =>
      (f_X8_begin h x6 a1 a2).bind fun h7 =>
      some (x5, h7)
    )
  )
def f_X8_room (h : Hea) (a0 : Nat) (a1 : Int32) (a2 : Int32) : Option (Int32 × Hea) :=
  (f_X8_isRoom a1).bind fun x1 =>
  if x1 = 0 then (
    (isO h a0 8).bind fun _ =>
    bind2 (f_X8_bad h a0 (-2)) fun x2 h3 =>
    some (x2, h3)
  ) else (
    (f_X8_in a2.toInt64 0 9).bind fun x4 =>
    if x4 = 0 then (
      (isO h a0 8).bind fun _ =>
      bind2 (f_X8_bad h a0 (-2)) fun x9 h10 =>
      some (x9, h10)
    ) else (
      (gR h a0 8 0).bind fun x5 =>
      (ldI h 0 x5 (7 + a1)).bind fun x6 =>
      (gR h a0 8 0).bind fun x7 =>
      (stI h 0 x7 (7 + a1) a2).bind fun h8 =>
      some (x6, h8)
    )
  )
def f_X8_layDoor (h : Hea) (a0 : Nat) (a1 : Int32) (a2 : Int32) (a3 : Int32) : Option (Hea) :=
  (stI h 0 a0 ((15 + (8 * a1)) + a2) a3).bind fun h1 =>
  (stI h1 0 a0 ((15 + (8 * a2)) + a1) a3).bind fun h2 =>
  some h2
def f_X8_door (h : Hea) (a0 : Nat) (a1 : Int32) (a2 : Int32) (a3 : Int32) : Option (Int32 × Hea) :=
  (f_X8_isRoom a1).bind fun x1 =>
  if x1 = 0 then (
    (isO h a0 8).bind fun _ =>
    bind2 (f_X8_bad h a0 (-2)) fun x2 h3 =>
    some (x2, h3)
  ) else (
    (f_X8_isRoom a2).bind fun x4 =>
    if x4 = 0 then (
      (isO h a0 8).bind fun _ =>
      bind2 (f_X8_bad h a0 (-2)) fun x5 h6 =>
      some (x5, h6)
    ) else (
      if a1 = a2 then (
        (isO h a0 8).bind fun _ =>
        bind2 (f_X8_bad h a0 (-2)) fun x7 h8 =>
        some (x7, h8)
      ) else (
        (f_X8_in a3.toInt64 1 9).bind fun x9 =>
        if x9 = 0 then (
          (isO h a0 8).bind fun _ =>
          bind2 (f_X8_bad h a0 (-2)) fun x13 h14 =>
          some (x13, h14)
        ) else (
          (isO h a0 8).bind fun _ =>
          (f_X8_creaks h a0 a1 a2).bind fun x10 =>
          (gR h a0 8 0).bind fun x11 =>
          (f_X8_layDoor h x11 a1 a2 a3).bind fun h12 =>
          some (x10, h12)
        )
      )
    )
  )
def f_X8_list (h : Hea) (a0 : Nat) (a1 : Int32) : Option (Int32 × Hea) :=
  (f_X8_isRoom a1).bind fun x1 =>
  if x1 = 0 then (
    (isO h a0 8).bind fun _ =>
    bind2 (f_X8_bad h a0 (-2)) fun x15 h16 =>
    some (x15, h16)
  ) else (
    (gR h a0 8 0).bind fun x2 =>
    (ldI h 0 x2 4).bind fun x3 =>
    if x3 = 12 then (
      (isO h a0 8).bind fun _ =>
      bind2 (f_X8_full h a0) fun x13 h14 =>
      some (x13, h14)
    ) else (
      (gR h a0 8 0).bind fun x4 =>
      (gR h a0 8 0).bind fun x5 =>
      (ldI h 0 x5 4).bind fun x6 =>
      (stI h 0 x4 (79 + x6) a1).bind fun h7 =>
      (gR h7 a0 8 0).bind fun x8 =>
      (ldI h7 0 x8 4).bind fun x9 =>
      (stI h7 0 x8 4 (x9 + 1)).bind fun h10 =>
      (gR h10 a0 8 0).bind fun x11 =>
      (ldI h10 0 x11 4).bind fun x12 =>
      some (x12, h10)
    )
  )
def f_X8_only (h : Hea) (a0 : Nat) (a1 : Int32) : Option (Int32 × Hea) :=
  (f_X8_isRoom a1).bind fun x1 =>
  if x1 = 0 then (
    (isO h a0 8).bind fun _ =>
    bind2 (f_X8_bad h a0 (-2)) fun x8 h9 =>
    some (x8, h9)
  ) else (
    (gR h a0 8 0).bind fun x2 =>
    (ldI h 0 x2 4).bind fun x3 =>
    (gR h a0 8 0).bind fun x4 =>
    (stI h 0 x4 79 a1).bind fun h5 =>
    (gR h5 a0 8 0).bind fun x6 =>
    (stI h5 0 x6 4 1).bind fun h7 =>
    some (x3, h7)
  )
def f_X8_eyes (h : Hea) (a0 : Nat) (a1 : Int32) : Option (Int32 × Hea) :=
  (f_X8_in a1.toInt64 0 25).bind fun x1 =>
  if x1 = 0 then (
    (isO h a0 8).bind fun _ =>
    bind2 (f_X8_bad h a0 (-2)) fun x6 h7 =>
    some (x6, h7)
  ) else (
    (gR h a0 8 0).bind fun x2 =>
    (ldI h 0 x2 1).bind fun x3 =>
    (gR h a0 8 0).bind fun x4 =>
    (stI h 0 x4 1 a1).bind fun h5 =>
    some (x3, h5)
  )
def f_X8_layHeir_14 : Nat → Hea → Nat → Int32 → Int32 → Option (Hea)
  | 0, _, _, _, _ => none
  | n + 1, h, y0, y4, y5 =>
    if 7 ≤ y5 then (
      some h
    ) else (
      (stI h 0 y0 (y4 + y5) 0).bind fun h1 =>
      f_X8_layHeir_14 n h1 y0 y4 (y5 + 1)
    )
def f_X8_layHeir (h : Hea) (a0 : Nat) (a1 : Int32) (a2 : Int32) (a3 : Int32) : Option (Hea) :=
  (ldI h 0 a0 0).bind fun x1 =>
  (f_X8_layHeir_14 lots h a0 (91 + (7 * x1)) 0).bind fun h2 =>
  (stI h2 0 a0 ((91 + (7 * x1)) + 0) a1).bind fun h3 =>
  (stI h3 0 a0 ((91 + (7 * x1)) + 1) a2).bind fun h4 =>
  (stI h4 0 a0 ((91 + (7 * x1)) + 2) a3).bind fun h5 =>
  (stI h5 0 a0 ((91 + (7 * x1)) + 5) (-1)).bind fun h6 =>
  (ldI h6 0 a0 0).bind fun x7 =>
  (stI h6 0 a0 0 (x7 + 1)).bind fun h8 =>
  some h8
def f_X8_heir (h : Hea) (a0 : Nat) (a1 : Int32) (a2 : Int32) (a3 : Int32) : Option (Int32 × Hea) :=
  (f_X8_in a1.toInt64 0 5).bind fun x1 =>
  if x1 = 0 then (
    (isO h a0 8).bind fun _ =>
    bind2 (f_X8_bad h a0 (-2)) fun x2 h3 =>
    some (x2, h3)
  ) else (
    (f_X8_isRoom a2).bind fun x4 =>
    if x4 = 0 then (
      (isO h a0 8).bind fun _ =>
      bind2 (f_X8_bad h a0 (-2)) fun x5 h6 =>
      some (x5, h6)
    ) else (
      (f_X8_in a3.toInt64 0 9).bind fun x7 =>
      if x7 = 0 then (
        (isO h a0 8).bind fun _ =>
        bind2 (f_X8_bad h a0 (-2)) fun x16 h17 =>
        some (x16, h17)
      ) else (
        (isO h a0 8).bind fun _ =>
        (f_X8_heirs h a0).bind fun x8 =>
        if x8 = 6 then (
          (isO h a0 8).bind fun _ =>
          bind2 (f_X8_full h a0) fun x14 h15 =>
          some (x14, h15)
        ) else (
          (gR h a0 8 0).bind fun x9 =>
          (f_X8_layHeir h x9 a1 a2 a3).bind fun h10 =>
          (gR h10 a0 8 0).bind fun x11 =>
          (stI h10 0 x11 6 0).bind fun h12 =>
          (isO h12 a0 8).bind fun _ =>
          (f_X8_heirs h12 a0).bind fun x13 =>
          some (x13 - 1, h12)
        )
      )
    )
  )
def f_X8_layHand_22 : Nat → Hea → Nat → Int32 → Option (Hea)
  | 0, _, _, _ => none
  | n + 1, h, y0, y1 =>
    (isO h y0 8).bind fun _ =>
    (f_X8_heirs h y0).bind fun x1 =>
    if x1 ≤ y1 then (
      some h
    ) else (
      (gR h y0 8 8).bind fun x2 =>
      (isO h y0 8).bind fun _ =>
      (f_X8_get h y0 y1 1).bind fun x3 =>
      (stI h 0 x2 y1 x3).bind fun h4 =>
      (gR h4 y0 8 9).bind fun x5 =>
      (isO h4 y0 8).bind fun _ =>
      (f_X8_get h4 y0 y1 3).bind fun x6 =>
      (stI h4 0 x5 y1 x6).bind fun h7 =>
      (gR h7 y0 8 10).bind fun x8 =>
      (isO h7 y0 8).bind fun _ =>
      (f_X8_get h7 y0 y1 4).bind fun x9 =>
      (stI h7 0 x8 y1 x9).bind fun h10 =>
      (gR h10 y0 8 11).bind fun x11 =>
      (isO h10 y0 8).bind fun _ =>
      (f_X8_get h10 y0 y1 5).bind fun x12 =>
      (stI h10 0 x11 y1 x12).bind fun h13 =>
      f_X8_layHand_22 n h13 y0 (y1 + 1)
    )
def f_X8_layHand (h : Hea) (a0 : Nat) : Option (Hea) :=
  (gR h a0 8 0).bind fun x1 =>
  (ldI h 0 x1 3).bind fun x2 =>
  (pI h a0 8 6 x2).bind fun h3 =>
  (gR h3 a0 8 0).bind fun x4 =>
  (ldI h3 0 x4 1).bind fun x5 =>
  (pI h3 a0 8 7 x5).bind fun h6 =>
  (f_X8_layHand_22 lots h6 a0 0).bind fun h7 =>
  some h7
def f_X8_isOther_4 : Nat → Hea → Nat → Int32 → Int32 → Int32 → Option (Int32)
  | 0, _, _, _, _, _ => none
  | n + 1, h, y0, y1, y2, y3 =>
    (isO h y0 8).bind fun _ =>
    (f_X8_heirs h y0).bind fun x1 =>
    if x1 ≤ y3 then (
      some y2
    ) else (
      (
        if y2 = 0 then (
          if y3 = y1 then (
            some (0 : Int32)
          ) else (
            (gR h y0 8 10).bind fun x3 =>
            (ldI h 0 x3 y3).bind fun x4 =>
            if x4 = 0 then (
              (gR h y0 8 8).bind fun x5 =>
              (ldI h 0 x5 y3).bind fun x6 =>
              (gR h y0 8 8).bind fun x7 =>
              (ldI h 0 x7 y1).bind fun x8 =>
              if x6 = x8 then (
                some (1 : Int32)
              ) else (
                some (0 : Int32)
              )
            ) else (
              some (0 : Int32)
            )
          )
        ) else (
          some (1 : Int32)
        )
      ).bind fun v2 =>
      f_X8_isOther_4 n h y0 y1 v2 (y3 + 1)
    )
def f_X8_isOther (h : Hea) (a0 : Nat) (a1 : Int32) : Option (Int32) :=
  (f_X8_isOther_4 lots h a0 a1 0 0).bind fun v1 =>
  zb v1
def f_X8_least (a0 : Int32) (a1 : Int32) : Option (Int32) :=
  (
    if a1 ≤ a0 then (
      some a1
    ) else (
      some a0
    )
  ).bind fun v1 =>
  some v1
def f_X8_most (a0 : Int32) (a1 : Int32) : Option (Int32) :=
  (
    if a0 ≤ a1 then (
      some a1
    ) else (
      some a0
    )
  ).bind fun v1 =>
  some v1
def f_X8_hiddenOf (h : Hea) (a0 : Nat) (a1 : Int32) : Option (Int32) :=
  (gR h a0 8 0).bind fun x1 =>
  (gR h a0 8 8).bind fun x2 =>
  (ldI h 0 x2 a1).bind fun x3 =>
  (ldI h 0 x1 (7 + x3)).bind fun x4 =>
  (isO h a0 8).bind fun _ =>
  (f_X8_get h a0 a1 2).bind fun x5 =>
  (gR h a0 8 9).bind fun x6 =>
  (ldI h 0 x6 a1).bind fun x7 =>
  (f_X8_least 5 x7).bind fun x8 =>
  (f_X8_most 0 ((x4 + x5) - 3)).bind fun x9 =>
  (isO h a0 8).bind fun _ =>
  (f_X8_get h a0 a1 0).bind fun x10 =>
  if x10 = 1 then (
    some x9
  ) else
  if x10 = 2 then (
    (isO h a0 8).bind fun _ =>
    (f_X8_isOther h a0 a1).bind fun x11 =>
    (
      if x11 = 0 then (
        some (x4 + x5)
      ) else (
        some ((x4 + x5) / 2)
      )
    ).bind fun v12 =>
    some v12
  ) else
  if x10 = 3 then (
    some ((x4 + x5) + x8)
  ) else
  if x10 = 4 then (
    (gR h a0 8 9).bind fun x13 =>
    (ldI h 0 x13 a1).bind fun x14 =>
    (
      if x14 = 0 then (
        (f_X8_most 0 (x9 - 2)).bind fun x16 =>
        some x16
      ) else (
        some x9
      )
    ).bind fun v15 =>
    some v15
  ) else
  if x10 = 5 then (
    (gR h a0 8 0).bind fun x17 =>
    (ldI h 0 x17 2).bind fun x18 =>
    (f_X8_least ((x4 + x5) + x8) x18).bind fun x19 =>
    some x19
  ) else
  (
    some (x4 + x5)
  )
def f_X8_looksIn (h : Hea) (a0 : Nat) (a1 : Int32) : Option (Int32) :=
  (gR h a0 8 0).bind fun x1 =>
  (ldI h 0 x1 4).bind fun x2 =>
  (nz x2).bind fun _ =>
  (gR h a0 8 0).bind fun x3 =>
  (
    if (a1 - a1 / 7 * 7) = 6 then (
      (gR h a0 8 0).bind fun x5 =>
      (ldI h 0 x5 4).bind fun x6 =>
      some ((x6 - 1) - (a1 - a1 / x2 * x2))
    ) else (
      some (a1 - a1 / x2 * x2)
    )
  ).bind fun v4 =>
  (ldI h 0 x3 (79 + v4)).bind fun x7 =>
  some x7
def f_X8_goNight_13 : Nat → Hea → Nat → Int32 → Option (Hea)
  | 0, _, _, _ => none
  | n + 1, h, y0, y3 =>
    (isO h y0 8).bind fun _ =>
    (f_X8_heirs h y0).bind fun x1 =>
    if x1 ≤ y3 then (
      some h
    ) else (
      (gR h y0 8 12).bind fun x2 =>
      (isO h y0 8).bind fun _ =>
      (f_X8_hiddenOf h y0 y3).bind fun x3 =>
      (stI h 0 x2 y3 x3).bind fun h4 =>
      f_X8_goNight_13 n h4 y0 (y3 + 1)
    )
def f_X8_goNight_40 : Nat → Hea → Nat → Int32 → Int32 → Int32 → Option (Int32 × Hea)
  | 0, _, _, _, _, _ => none
  | n + 1, h, y0, y1, y2, y3 =>
    (isO h y0 8).bind fun _ =>
    (f_X8_heirs h y0).bind fun x1 =>
    if x1 ≤ y3 then (
      some (y1, h)
    ) else (
      (gR h y0 8 10).bind fun x2 =>
      (ldI h 0 x2 y3).bind fun x3 =>
      bind2 (
        if x3 = 0 then (
          (gR h y0 8 12).bind fun x6 =>
          (ldI h 0 x6 y3).bind fun x7 =>
          (gR h y0 8 0).bind fun x8 =>
          (ldI h 0 x8 2).bind fun x9 =>
          (
            if x9 ≤ x7 then (
              (gR h y0 8 8).bind fun x11 =>
              (ldI h 0 x11 y3).bind fun x12 =>
              if x12 = y2 then (
                (gR h y0 8 12).bind fun x13 =>
                (ldI h 0 x13 y3).bind fun x14 =>
                (gI h y0 8 7).bind fun x15 =>
                if x15 ≤ x14 then (
                  some (0 : Int32)
                ) else (
                  some (2 : Int32)
                )
              ) else (
                some (0 : Int32)
              )
            ) else (
              some (1 : Int32)
            )
          ).bind fun v10 =>
          (gR h y0 8 10).bind fun x16 =>
          (stI h 0 x16 y3 v10).bind fun h17 =>
          (gR h17 y0 8 11).bind fun x18 =>
          (
            if v10 = 0 then (
              some (-1 : Int32)
            ) else (
              (gI h17 y0 8 6).bind fun x20 =>
              some x20
            )
          ).bind fun v19 =>
          (stI h17 0 x18 y3 v19).bind fun h21 =>
          (gR h21 y0 8 9).bind fun x22 =>
          (ldI h21 0 x22 y3).bind fun x23 =>
          (
            if v10 = 0 then (
              some (1 : Int32)
            ) else (
              some (0 : Int32)
            )
          ).bind fun v24 =>
          (stI h21 0 x22 y3 (x23 + v24)).bind fun h25 =>
          (
            if v10 = 2 then (
              some ((1 : Int32) <<< (y3 &&& 31))
            ) else (
              some (0 : Int32)
            )
          ).bind fun v26 =>
          some (y1 ||| v26, h25)
        ) else (
          some (y1, h)
        )
      ) fun v4 h5 =>
      f_X8_goNight_40 n h5 y0 v4 y2 (y3 + 1)
    )
def f_X8_goNight (h : Hea) (a0 : Nat) : Option (Int32 × Hea) :=
  (gI h a0 8 6).bind fun x1 =>
  (isO h a0 8).bind fun _ =>
  (f_X8_looksIn h a0 x1).bind fun x2 =>
  (f_X8_goNight_13 lots h a0 0).bind fun h3 =>
  bind2 (f_X8_goNight_40 lots h3 a0 0 x2 0) fun v4 h5 =>
  (gI h5 a0 8 6).bind fun x6 =>
  (pI h5 a0 8 6 (x6 + 1)).bind fun h7 =>
  some (v4, h7)
def f_X8_keep_14 : Nat → Hea → Nat → Int32 → Option (Hea)
  | 0, _, _, _ => none
  | n + 1, h, y0, y1 =>
    if 217 ≤ y1 then (
      some h
    ) else (
      (gR h y0 8 0).bind fun x1 =>
      (gR h y0 8 0).bind fun x2 =>
      (ldI h 0 x2 (182 + y1)).bind fun x3 =>
      (stI h 0 x1 (151 + y1) x3).bind fun h4 =>
      f_X8_keep_14 n h4 y0 (y1 + 1)
    )
def f_X8_keep_111 : Nat → Hea → Nat → Int32 → Int32 → Int32 → Option (Hea)
  | 0, _, _, _, _, _ => none
  | n + 1, h, y0, y1, y2, y3 =>
    if 4 ≤ y3 then (
      some h
    ) else (
      (gR h y0 8 0).bind fun x1 =>
      (isO h y0 8).bind fun _ =>
      (f_X8_get h y0 y2 (3 + y3)).bind fun x2 =>
      (stI h 0 x1 (((y1 + 2) + (5 * y2)) + y3) x2).bind fun h3 =>
      f_X8_keep_111 n h3 y0 y1 y2 (y3 + 1)
    )
def f_X8_keep_85 : Nat → Hea → Nat → Int32 → Int32 → Option (Hea)
  | 0, _, _, _, _ => none
  | n + 1, h, y0, y1, y2 =>
    if 6 ≤ y2 then (
      some h
    ) else (
      (gR h y0 8 0).bind fun x1 =>
      (isO h y0 8).bind fun _ =>
      (f_X8_get h y0 y2 1).bind fun x2 =>
      (stI h 0 x1 ((y1 + 1) + (5 * y2)) x2).bind fun h3 =>
      (f_X8_keep_111 lots h3 y0 y1 y2 0).bind fun h4 =>
      f_X8_keep_85 n h4 y0 y1 (y2 + 1)
    )
def f_X8_keep (h : Hea) (a0 : Nat) : Option (Hea) :=
  (gR h a0 8 0).bind fun x1 =>
  (ldI h 0 x1 6).bind fun x2 =>
  (
    if x2 = 8 then (
      (f_X8_keep_14 lots h a0 0).bind fun h4 =>
      (gR h4 a0 8 0).bind fun x5 =>
      (stI h4 0 x5 6 7).bind fun h6 =>
      some h6
    ) else (
      some h
    )
  ).bind fun h3 =>
  (gR h3 a0 8 0).bind fun x7 =>
  (ldI h3 0 x7 6).bind fun x8 =>
  (gR h3 a0 8 0).bind fun x9 =>
  (gR h3 a0 8 0).bind fun x10 =>
  (ldI h3 0 x10 3).bind fun x11 =>
  (stI h3 0 x9 (151 + (31 * x8)) x11).bind fun h12 =>
  (f_X8_keep_85 lots h12 a0 (151 + (31 * x8)) 0).bind fun h13 =>
  (gR h13 a0 8 0).bind fun x14 =>
  (ldI h13 0 x14 6).bind fun x15 =>
  (stI h13 0 x14 6 (x15 + 1)).bind fun h16 =>
  some h16
def f_X8_move (h : Hea) (a0 : Nat) (a1 : Int32) (a2 : Int32) : Option (Int32 × Hea) :=
  (isO h a0 8).bind fun _ =>
  (f_X8_isHeir h a0 a1).bind fun x1 =>
  if x1 = 0 then (
    (isO h a0 8).bind fun _ =>
    bind2 (f_X8_bad h a0 (-2)) fun x2 h3 =>
    some (x2, h3)
  ) else (
    (f_X8_isRoom a2).bind fun x4 =>
    if x4 = 0 then (
      (isO h a0 8).bind fun _ =>
      bind2 (f_X8_bad h a0 (-2)) fun x19 h20 =>
      some (x19, h20)
    ) else (
      (isO h a0 8).bind fun _ =>
      (f_X8_get h a0 a1 1).bind fun x5 =>
      (isO h a0 8).bind fun _ =>
      (f_X8_creaks h a0 x5 a2).bind fun x6 =>
      (isO h a0 8).bind fun _ =>
      (f_X8_get h a0 a1 4).bind fun x7 =>
      if x7 = 0 then (
        if x6 = 0 then (
          (isO h a0 8).bind fun _ =>
          bind2 (f_X8_no h a0) fun x10 h11 =>
          some (x10, h11)
        ) else (
          (isO h a0 8).bind fun _ =>
          (f_X8_get h a0 a1 6).bind fun x12 =>
          if x12 = 1 then (
            (isO h a0 8).bind fun _ =>
            bind2 (f_X8_no h a0) fun x17 h18 =>
            some (x17, h18)
          ) else (
            (isO h a0 8).bind fun _ =>
            (f_X8_keep h a0).bind fun h13 =>
            (isO h13 a0 8).bind fun _ =>
            (f_X8_set h13 a0 a1 1 a2).bind fun h14 =>
            (isO h14 a0 8).bind fun _ =>
            (f_X8_set h14 a0 a1 3 0).bind fun h15 =>
            (isO h15 a0 8).bind fun _ =>
            (f_X8_set h15 a0 a1 6 1).bind fun h16 =>
            some (x6, h16)
          )
        )
      ) else (
        (isO h a0 8).bind fun _ =>
        bind2 (f_X8_no h a0) fun x8 h9 =>
        some (x8, h9)
      )
    )
  )
def f_X8_night_25 : Nat → Hea → Nat → Int32 → Option (Hea)
  | 0, _, _, _ => none
  | n + 1, h, y0, y2 =>
    (isO h y0 8).bind fun _ =>
    (f_X8_heirs h y0).bind fun x1 =>
    if x1 ≤ y2 then (
      some h
    ) else (
      (gR h y0 8 9).bind fun x2 =>
      (ldI h 0 x2 y2).bind fun x3 =>
      (isO h y0 8).bind fun _ =>
      (f_X8_set h y0 y2 3 x3).bind fun h4 =>
      (gR h4 y0 8 10).bind fun x5 =>
      (ldI h4 0 x5 y2).bind fun x6 =>
      (isO h4 y0 8).bind fun _ =>
      (f_X8_set h4 y0 y2 4 x6).bind fun h7 =>
      (gR h7 y0 8 11).bind fun x8 =>
      (ldI h7 0 x8 y2).bind fun x9 =>
      (isO h7 y0 8).bind fun _ =>
      (f_X8_set h7 y0 y2 5 x9).bind fun h10 =>
      (isO h10 y0 8).bind fun _ =>
      (f_X8_set h10 y0 y2 6 0).bind fun h11 =>
      f_X8_night_25 n h11 y0 (y2 + 1)
    )
def f_X8_night (h : Hea) (a0 : Nat) : Option (Int32 × Hea) :=
  (isO h a0 8).bind fun _ =>
  (f_X8_keep h a0).bind fun h1 =>
  (isO h1 a0 8).bind fun _ =>
  (f_X8_layHand h1 a0).bind fun h2 =>
  (isO h2 a0 8).bind fun _ =>
  bind2 (f_X8_goNight h2 a0) fun x3 h4 =>
  (gR h4 a0 8 0).bind fun x5 =>
  (gI h4 a0 8 6).bind fun x6 =>
  (stI h4 0 x5 3 x6).bind fun h7 =>
  (f_X8_night_25 lots h7 a0 0).bind fun h8 =>
  some (x3, h8)
def f_X8_undo_81 : Nat → Hea → Nat → Int32 → Int32 → Int32 → Option (Hea)
  | 0, _, _, _, _, _ => none
  | n + 1, h, y0, y1, y2, y3 =>
    if 4 ≤ y3 then (
      some h
    ) else (
      (gR h y0 8 0).bind fun x1 =>
      (ldI h 0 x1 (((y1 + 2) + (5 * y2)) + y3)).bind fun x2 =>
      (isO h y0 8).bind fun _ =>
      (f_X8_set h y0 y2 (3 + y3) x2).bind fun h3 =>
      f_X8_undo_81 n h3 y0 y1 y2 (y3 + 1)
    )
def f_X8_undo_55 : Nat → Hea → Nat → Int32 → Int32 → Option (Hea)
  | 0, _, _, _, _ => none
  | n + 1, h, y0, y1, y2 =>
    if 6 ≤ y2 then (
      some h
    ) else (
      (gR h y0 8 0).bind fun x1 =>
      (ldI h 0 x1 ((y1 + 1) + (5 * y2))).bind fun x2 =>
      (isO h y0 8).bind fun _ =>
      (f_X8_set h y0 y2 1 x2).bind fun h3 =>
      (f_X8_undo_81 lots h3 y0 y1 y2 0).bind fun h4 =>
      f_X8_undo_55 n h4 y0 y1 (y2 + 1)
    )
def f_X8_undo (h : Hea) (a0 : Nat) : Option (Int32 × Hea) :=
  (gR h a0 8 0).bind fun x1 =>
  (ldI h 0 x1 6).bind fun x2 =>
  if x2 = 0 then (
    (isO h a0 8).bind fun _ =>
    bind2 (f_X8_no h a0) fun x15 h16 =>
    some (x15, h16)
  ) else (
    (gR h a0 8 0).bind fun x3 =>
    (ldI h 0 x3 6).bind fun x4 =>
    (stI h 0 x3 6 (x4 - 1)).bind fun h5 =>
    (gR h5 a0 8 0).bind fun x6 =>
    (ldI h5 0 x6 6).bind fun x7 =>
    (gR h5 a0 8 0).bind fun x8 =>
    (gR h5 a0 8 0).bind fun x9 =>
    (ldI h5 0 x9 (151 + (31 * x7))).bind fun x10 =>
    (stI h5 0 x8 3 x10).bind fun h11 =>
    (f_X8_undo_55 lots h11 a0 (151 + (31 * x7)) 0).bind fun h12 =>
    (gR h12 a0 8 0).bind fun x13 =>
    (ldI h12 0 x13 3).bind fun x14 =>
    some (x14, h12)
  )
def f_X8_of (h : Hea) (a0 : Nat) (a1 : Int32) (a2 : Int32) : Option (Int32 × Hea) :=
  (isO h a0 8).bind fun _ =>
  (f_X8_isHeir h a0 a1).bind fun x1 =>
  if x1 = 0 then (
    (isO h a0 8).bind fun _ =>
    bind2 (f_X8_bad h a0 (-2)) fun x2 h3 =>
    some (x2, h3)
  ) else (
    (f_X8_in a2.toInt64 0 6).bind fun x4 =>
    if x4 = 0 then (
      (isO h a0 8).bind fun _ =>
      bind2 (f_X8_bad h a0 (-2)) fun x10 h11 =>
      some (x10, h11)
    ) else (
      (isO h a0 8).bind fun _ =>
      (f_X8_layHand h a0).bind fun h5 =>
      (
        if 4 ≤ a2 then (
          if a2 = 4 then (
            (isO h5 a0 8).bind fun _ =>
            (f_X8_hiddenOf h5 a0 a1).bind fun x8 =>
            some x8
          ) else (
            (isO h5 a0 8).bind fun _ =>
            (f_X8_get h5 a0 a1 (a2 - 1)).bind fun x7 =>
            some x7
          )
        ) else (
          (isO h5 a0 8).bind fun _ =>
          (f_X8_get h5 a0 a1 a2).bind fun x9 =>
          some x9
        )
      ).bind fun v6 =>
      some (v6, h5)
    )
  )
def f_X8_looks (h : Hea) (a0 : Nat) (a1 : Int32) : Option (Int32 × Hea) :=
  (f_X8_in a1.toInt64 0 99).bind fun x1 =>
  bind2 (
    if x1 = 0 then (
      (isO h a0 8).bind fun _ =>
      bind2 (f_X8_bad h a0 (-2)) fun x4 h5 =>
      some (x4, h5)
    ) else (
      (isO h a0 8).bind fun _ =>
      (f_X8_looksIn h a0 a1).bind fun x6 =>
      some (x6, h)
    )
  ) fun v2 h3 =>
  some (v2, h3)
def f_X8_byThen_44 : Nat → Hea → Nat → Int32 → Int32 → Option (Hea)
  | 0, _, _, _, _ => none
  | n + 1, h, y0, y2, y4 =>
    if y2 ≤ y4 then (
      some h
    ) else (
      (isO h y0 8).bind fun _ =>
      bind2 (f_X8_goNight h y0) fun x1 h2 =>
      f_X8_byThen_44 n h2 y0 y2 (y4 + 1)
    )
def f_X8_byThen (h : Hea) (a0 : Nat) (a1 : Int32) (a2 : Int32) (a3 : Int32) : Option (Int32 × Hea) :=
  (isO h a0 8).bind fun _ =>
  (f_X8_isHeir h a0 a1).bind fun x1 =>
  if x1 = 0 then (
    (isO h a0 8).bind fun _ =>
    bind2 (f_X8_bad h a0 (-2)) fun x2 h3 =>
    some (x2, h3)
  ) else (
    (f_X8_in a2.toInt64 1 60).bind fun x4 =>
    if x4 = 0 then (
      (isO h a0 8).bind fun _ =>
      bind2 (f_X8_bad h a0 (-2)) fun x5 h6 =>
      some (x5, h6)
    ) else (
      (f_X8_in a3.toInt64 0 1).bind fun x7 =>
      if x7 = 0 then (
        (isO h a0 8).bind fun _ =>
        bind2 (f_X8_bad h a0 (-2)) fun x15 h16 =>
        some (x15, h16)
      ) else (
        (isO h a0 8).bind fun _ =>
        (f_X8_layHand h a0).bind fun h8 =>
        (f_X8_byThen_44 lots h8 a0 a2 0).bind fun h9 =>
        (
          if a3 = 0 then (
            (gR h9 a0 8 10).bind fun x13 =>
            (ldI h9 0 x13 a1).bind fun x14 =>
            some x14
          ) else (
            (gR h9 a0 8 11).bind fun x11 =>
            (ldI h9 0 x11 a1).bind fun x12 =>
            some x12
          )
        ).bind fun v10 =>
        some (v10, h9)
      )
    )
  )
def f_X8_goTill_4 : Nat → Hea → Nat → Int32 → Int32 → Option (Int32 × Hea)
  | 0, _, _, _, _ => none
  | n + 1, h, y0, y1, y2 =>
    if 60 ≤ y2 then (
      some (y1, h)
    ) else (
      if y1 = 0 then (
        (isO h y0 8).bind fun _ =>
        bind2 (f_X8_goNight h y0) fun x1 h2 =>
        f_X8_goTill_4 n h2 y0 x1 (y2 + 1)
      ) else (
        some (y1, h)
      )
    )
def f_X8_goTill (h : Hea) (a0 : Nat) : Option (Int32 × Hea) :=
  bind2 (f_X8_goTill_4 lots h a0 0 0) fun v1 h2 =>
  some (v1, h2)
def f_X8_first (h : Hea) (a0 : Nat) (a1 : Int32) : Option (Int32 × Hea) :=
  (f_X8_in a1.toInt64 0 1).bind fun x1 =>
  if x1 = 0 then (
    (isO h a0 8).bind fun _ =>
    bind2 (f_X8_bad h a0 (-2)) fun x7 h8 =>
    some (x7, h8)
  ) else (
    (isO h a0 8).bind fun _ =>
    (f_X8_layHand h a0).bind fun h2 =>
    (isO h2 a0 8).bind fun _ =>
    bind2 (f_X8_goTill h2 a0) fun x3 h4 =>
    (
      if x3 = 0 then (
        some (-1 : Int32)
      ) else (
        if a1 = 0 then (
          (gI h4 a0 8 6).bind fun x6 =>
          some (x6 - 1)
        ) else (
          some x3
        )
      )
    ).bind fun v5 =>
    some (v5, h4)
  )
def f_X8_passed_19 : Nat → Hea → Nat → Int32 → Int32 → Int32 → Option (Int32)
  | 0, _, _, _, _, _ => none
  | n + 1, h, y0, y1, y2, y3 =>
    (isO h y0 8).bind fun _ =>
    (f_X8_heirs h y0).bind fun x1 =>
    if x1 ≤ y3 then (
      some y1
    ) else (
      (isO h y0 8).bind fun _ =>
      (f_X8_hiddenOf h y0 y3).bind fun x2 =>
      (gR h y0 8 10).bind fun x3 =>
      (ldI h 0 x3 y3).bind fun x4 =>
      (
        if x4 = 0 then (
          (gR h y0 8 8).bind fun x6 =>
          (ldI h 0 x6 y3).bind fun x7 =>
          if x7 = y2 then (
            (gR h y0 8 0).bind fun x8 =>
            (ldI h 0 x8 2).bind fun x9 =>
            if x2 < x9 then (
              some (0 : Int32)
            ) else (
              (gI h y0 8 7).bind fun x10 =>
              if x2 < x10 then (
                some (0 : Int32)
              ) else (
                some (1 : Int32)
              )
            )
          ) else (
            some (0 : Int32)
          )
        ) else (
          some (0 : Int32)
        )
      ).bind fun v5 =>
      (
        if v5 = 0 then (
          some (0 : Int32)
        ) else (
          some ((1 : Int32) <<< (y3 &&& 31))
        )
      ).bind fun v11 =>
      f_X8_passed_19 n h y0 (y1 ||| v11) y2 (y3 + 1)
    )
def f_X8_passed (h : Hea) (a0 : Nat) : Option (Int32 × Hea) :=
  (gR h a0 8 0).bind fun x1 =>
  (ldI h 0 x1 3).bind fun x2 =>
  (isO h a0 8).bind fun _ =>
  (f_X8_looksIn h a0 x2).bind fun x3 =>
  (isO h a0 8).bind fun _ =>
  (f_X8_layHand h a0).bind fun h4 =>
  (f_X8_passed_19 lots h4 a0 0 x3 0).bind fun v5 =>
  some (v5, h4)
def f_X8_foundIn_2 : Nat → Hea → Nat → Int32 → Int32 → Option (Int32 × Hea)
  | 0, _, _, _, _ => none
  | n + 1, h, y0, y1, y2 =>
    if 60 ≤ y2 then (
      some (1000000, h)
    ) else (
      (isO h y0 8).bind fun _ =>
      bind2 (f_X8_goNight h y0) fun x1 h2 =>
      if ((x1 >>> (y1 &&& 31)) &&& 1) = 1 then (
        some (y2, h2)
      ) else (
        f_X8_foundIn_2 n h2 y0 y1 (y2 + 1)
      )
    )
def f_X8_foundIn (h : Hea) (a0 : Nat) (a1 : Int32) : Option (Int32 × Hea) :=
  f_X8_foundIn_2 lots h a0 a1 0
def f_X8_hide_37 : Nat → Hea → Nat → Int32 → Int32 → Int32 → Int32 → Option (Int32 × Hea)
  | 0, _, _, _, _, _, _ => none
  | n + 1, h, y0, y1, y2, y3, y4 =>
    if 8 ≤ y4 then (
      some (y2, h)
    ) else (
      (isO h y0 8).bind fun _ =>
      (f_X8_layHand h y0).bind fun h1 =>
      (gR h1 y0 8 8).bind fun x2 =>
      (stI h1 0 x2 y1 y4).bind fun h3 =>
      (isO h3 y0 8).bind fun _ =>
      bind2 (f_X8_foundIn h3 y0 y1) fun x4 h5 =>
      (
        if y3 ≤ x4 then (
          some y2
        ) else (
          some y4
        )
      ).bind fun v6 =>
      (f_X8_least y3 x4).bind fun x7 =>
      f_X8_hide_37 n h5 y0 y1 v6 x7 (y4 + 1)
    )
def f_X8_hide (h : Hea) (a0 : Nat) (a1 : Int32) : Option (Int32 × Hea) :=
  (isO h a0 8).bind fun _ =>
  (f_X8_isHeir h a0 a1).bind fun x1 =>
  if x1 = 0 then (
    (isO h a0 8).bind fun _ =>
    bind2 (f_X8_bad h a0 (-2)) fun x7 h8 =>
    some (x7, h8)
  ) else (
    (isO h a0 8).bind fun _ =>
    (f_X8_get h a0 a1 4).bind fun x2 =>
    if x2 = 0 then (
      bind2 (f_X8_hide_37 lots h a0 a1 (-1) 1000000 0) fun v3 h4 =>
      some (v3, h4)
    ) else (
      (isO h a0 8).bind fun _ =>
      bind2 (f_X8_no h a0) fun x5 h6 =>
      some (x5, h6)
    )
  )
def f_X8_moveAll_2 : Nat → Hea → Nat → Int32 → Option (Hea)
  | 0, _, _, _ => none
  | n + 1, h, y0, y1 =>
    if 48 ≤ y1 then (
      some h
    ) else (
      (gR h y0 8 14).bind fun x1 =>
      (gR h y0 8 13).bind fun x2 =>
      (ldI h 0 x2 y1).bind fun x3 =>
      (stI h 0 x1 y1 x3).bind fun h4 =>
      f_X8_moveAll_2 n h4 y0 (y1 + 1)
    )
def f_X8_moveAll_36 : Nat → Hea → Nat → Int32 → Int32 → Option (Hea)
  | 0, _, _, _, _ => none
  | n + 1, h, y0, y1, y2 =>
    if 8 ≤ y2 then (
      some h
    ) else (
      (gR h y0 8 13).bind fun x1 =>
      (ldI h 0 x1 y1).bind fun x2 =>
      if 1000000 ≤ x2 then (
        some h
      ) else (
        (isO h y0 8).bind fun _ =>
        (f_X8_creaks h y0 (y1 / 6) y2).bind fun x3 =>
        (gR h y0 8 14).bind fun x4 =>
        (
          if x3 ≤ 0 then (
            (gR h y0 8 14).bind fun x6 =>
            (ldI h 0 x6 (6 * y2)).bind fun x7 =>
            some x7
          ) else (
            (gR h y0 8 14).bind fun x8 =>
            (ldI h 0 x8 (6 * y2)).bind fun x9 =>
            (gR h y0 8 13).bind fun x10 =>
            (ldI h 0 x10 y1).bind fun x11 =>
            (f_X8_least x9 (x11 + x3)).bind fun x12 =>
            some x12
          )
        ).bind fun v5 =>
        (stI h 0 x4 (6 * y2) v5).bind fun h13 =>
        f_X8_moveAll_36 n h13 y0 y1 (y2 + 1)
      )
    )
def f_X8_moveAll_28 : Nat → Hea → Nat → Int32 → Option (Hea)
  | 0, _, _, _ => none
  | n + 1, h, y0, y1 =>
    if 48 ≤ y1 then (
      some h
    ) else (
      (f_X8_moveAll_36 lots h y0 y1 0).bind fun h1 =>
      f_X8_moveAll_28 n h1 y0 (y1 + 1)
    )
def f_X8_moveAll_122 : Nat → Hea → Nat → Int32 → Option (Hea)
  | 0, _, _, _ => none
  | n + 1, h, y0, y1 =>
    if 48 ≤ y1 then (
      some h
    ) else (
      (gR h y0 8 13).bind fun x1 =>
      (gR h y0 8 14).bind fun x2 =>
      (ldI h 0 x2 y1).bind fun x3 =>
      (stI h 0 x1 y1 x3).bind fun h4 =>
      f_X8_moveAll_122 n h4 y0 (y1 + 1)
    )
def f_X8_moveAll (h : Hea) (a0 : Nat) : Option (Hea) :=
  (f_X8_moveAll_2 lots h a0 0).bind fun h1 =>
  (f_X8_moveAll_28 lots h1 a0 0).bind fun h2 =>
  (f_X8_moveAll_122 lots h2 a0 0).bind fun h3 =>
  some h3
def f_X8_nightOfOne_6 : Nat → Hea → Nat → Int32 → Option (Hea)
  | 0, _, _, _ => none
  | n + 1, h, y0, y4 =>
    if 48 ≤ y4 then (
      some h
    ) else (
      (gR h y0 8 14).bind fun x1 =>
      (stI h 0 x1 y4 1000000).bind fun h2 =>
      f_X8_nightOfOne_6 n h2 y0 (y4 + 1)
    )
def f_X8_nightOfOne_31 : Nat → Hea → Nat → Int32 → Int32 → Int32 → Int32 → Option (Int32 × Hea)
  | 0, _, _, _, _, _, _ => none
  | n + 1, h, y0, y1, y2, y3, y4 =>
    if 48 ≤ y4 then (
      some (y3, h)
    ) else (
      (gR h y0 8 13).bind fun x1 =>
      (ldI h 0 x1 y4).bind fun x2 =>
      bind2 (
        if 1000000 ≤ x2 then (
          some (y3, h)
        ) else (
          (gR h y0 8 8).bind fun x5 =>
          (stI h 0 x5 y1 (y4 / 6)).bind fun h6 =>
          (gR h6 y0 8 9).bind fun x7 =>
          (stI h6 0 x7 y1 (y4 - y4 / 6 * 6)).bind fun h8 =>
          (isO h8 y0 8).bind fun _ =>
          (f_X8_hiddenOf h8 y0 y1).bind fun x9 =>
          (gR h8 y0 8 0).bind fun x10 =>
          (ldI h8 0 x10 2).bind fun x11 =>
          (
            if x9 < x11 then (
              some (0 : Int32)
            ) else (
              (isO h8 y0 8).bind fun _ =>
              (f_X8_looksIn h8 y0 y2).bind fun x13 =>
              (gR h8 y0 8 8).bind fun x14 =>
              (ldI h8 0 x14 y1).bind fun x15 =>
              if x13 = x15 then (
                (gR h8 y0 8 0).bind fun x16 =>
                (ldI h8 0 x16 1).bind fun x17 =>
                if x17 ≤ x9 then (
                  some (0 : Int32)
                ) else (
                  some (1 : Int32)
                )
              ) else (
                some (0 : Int32)
              )
            )
          ).bind fun v12 =>
          (f_X8_least 5 ((y4 - y4 / 6 * 6) + 1)).bind fun x18 =>
          (
            if v12 = 0 then (
              some y3
            ) else (
              (gR h8 y0 8 13).bind fun x20 =>
              (ldI h8 0 x20 y4).bind fun x21 =>
              (f_X8_least y3 x21).bind fun x22 =>
              some x22
            )
          ).bind fun v19 =>
          (gR h8 y0 8 14).bind fun x23 =>
          (gR h8 y0 8 0).bind fun x24 =>
          (ldI h8 0 x24 2).bind fun x25 =>
          (
            if x9 < x25 then (
              (gR h8 y0 8 14).bind fun x27 =>
              (ldI h8 0 x27 ((6 * (y4 / 6)) + x18)).bind fun x28 =>
              some x28
            ) else (
              if v12 = 0 then (
                (gR h8 y0 8 14).bind fun x31 =>
                (ldI h8 0 x31 ((6 * (y4 / 6)) + x18)).bind fun x32 =>
                (gR h8 y0 8 13).bind fun x33 =>
                (ldI h8 0 x33 y4).bind fun x34 =>
                (f_X8_least x32 x34).bind fun x35 =>
                some x35
              ) else (
                (gR h8 y0 8 14).bind fun x29 =>
                (ldI h8 0 x29 ((6 * (y4 / 6)) + x18)).bind fun x30 =>
                some x30
              )
            )
          ).bind fun v26 =>
          (stI h8 0 x23 ((6 * (y4 / 6)) + x18) v26).bind fun h36 =>
          some (v19, h36)
        )
      ) fun v3 h4 =>
      f_X8_nightOfOne_31 n h4 y0 y1 y2 v3 (y4 + 1)
    )
def f_X8_nightOfOne_224 : Nat → Hea → Nat → Int32 → Option (Hea)
  | 0, _, _, _ => none
  | n + 1, h, y0, y4 =>
    if 48 ≤ y4 then (
      some h
    ) else (
      (gR h y0 8 13).bind fun x1 =>
      (gR h y0 8 14).bind fun x2 =>
      (ldI h 0 x2 y4).bind fun x3 =>
      (stI h 0 x1 y4 x3).bind fun h4 =>
      f_X8_nightOfOne_224 n h4 y0 (y4 + 1)
    )
def f_X8_nightOfOne (h : Hea) (a0 : Nat) (a1 : Int32) (a2 : Int32) : Option (Int32 × Hea) :=
  (f_X8_nightOfOne_6 lots h a0 0).bind fun h1 =>
  bind2 (f_X8_nightOfOne_31 lots h1 a0 a1 a2 1000000 0) fun v2 h3 =>
  (f_X8_nightOfOne_224 lots h3 a0 0).bind fun h4 =>
  some (v2, h4)
def f_X8_way_45 : Nat → Hea → Nat → Int32 → Option (Hea)
  | 0, _, _, _ => none
  | n + 1, h, y0, y3 =>
    if 48 ≤ y3 then (
      some h
    ) else (
      (gR h y0 8 13).bind fun x1 =>
      (stI h 0 x1 y3 1000000).bind fun h2 =>
      f_X8_way_45 n h2 y0 (y3 + 1)
    )
def f_X8_way_93 : Nat → Hea → Nat → Int32 → Int32 → Int32 → Option (Int32 × Hea)
  | 0, _, _, _, _, _ => none
  | n + 1, h, y0, y1, y2, y3 =>
    if 12 ≤ y3 then (
      some ((-1), h)
    ) else (
      (
        if 0 < y3 then (
          (isO h y0 8).bind fun _ =>
          (f_X8_moveAll h y0).bind fun h2 =>
          some h2
        ) else (
          (isO h y0 8).bind fun _ =>
          (f_X8_get h y0 y1 6).bind fun x3 =>
          if x3 = 0 then (
            (isO h y0 8).bind fun _ =>
            (f_X8_moveAll h y0).bind fun h4 =>
            some h4
          ) else (
            some h
          )
        )
      ).bind fun h1 =>
      (gR h1 y0 8 0).bind fun x5 =>
      (ldI h1 0 x5 3).bind fun x6 =>
      (isO h1 y0 8).bind fun _ =>
      bind2 (f_X8_nightOfOne h1 y0 y1 (x6 + y3)) fun x7 h8 =>
      if 1000000 ≤ x7 then (
        f_X8_way_93 n h8 y0 y1 y2 (y3 + 1)
      ) else (
        if y2 = 0 then (
          (gR h8 y0 8 0).bind fun x9 =>
          (ldI h8 0 x9 3).bind fun x10 =>
          some (x10 + y3, h8)
        ) else (
          some (x7, h8)
        )
      )
    )
def f_X8_way (h : Hea) (a0 : Nat) (a1 : Int32) (a2 : Int32) : Option (Int32 × Hea) :=
  (isO h a0 8).bind fun _ =>
  (f_X8_isHeir h a0 a1).bind fun x1 =>
  if x1 = 0 then (
    (isO h a0 8).bind fun _ =>
    bind2 (f_X8_bad h a0 (-2)) fun x2 h3 =>
    some (x2, h3)
  ) else (
    (f_X8_in a2.toInt64 0 1).bind fun x4 =>
    if x4 = 0 then (
      (isO h a0 8).bind fun _ =>
      bind2 (f_X8_bad h a0 (-2)) fun x15 h16 =>
      some (x15, h16)
    ) else (
      (isO h a0 8).bind fun _ =>
      (f_X8_get h a0 a1 4).bind fun x5 =>
      if x5 = 0 then (
        (isO h a0 8).bind fun _ =>
        (f_X8_layHand h a0).bind fun h6 =>
        (f_X8_way_45 lots h6 a0 0).bind fun h7 =>
        (gR h7 a0 8 13).bind fun x8 =>
        (isO h7 a0 8).bind fun _ =>
        (f_X8_get h7 a0 a1 1).bind fun x9 =>
        (isO h7 a0 8).bind fun _ =>
        (f_X8_get h7 a0 a1 3).bind fun x10 =>
        (f_X8_least 5 x10).bind fun x11 =>
        (stI h7 0 x8 ((6 * x9) + x11) 0).bind fun h12 =>
        f_X8_way_93 lots h12 a0 a1 a2 0
      ) else (
        (isO h a0 8).bind fun _ =>
        bind2 (f_X8_no h a0) fun x13 h14 =>
        some (x13, h14)
      )
    )
  )
def f_X8_goAside_2 : Nat → Hea → Nat → Int32 → Int32 → Option (Hea)
  | 0, _, _, _, _ => none
  | n + 1, h, y0, y1, y2 =>
    if 8 ≤ y2 then (
      some h
    ) else (
      (isO h y0 8).bind fun _ =>
      (f_X8_get h y0 y1 1).bind fun x1 =>
      (isO h y0 8).bind fun _ =>
      (f_X8_creaks h y0 x1 y2).bind fun x2 =>
      if x2 ≤ 0 then (
        f_X8_goAside_2 n h y0 y1 (y2 + 1)
      ) else (
        (gR h y0 8 8).bind fun x3 =>
        (stI h 0 x3 y1 y2).bind fun h4 =>
        (gR h4 y0 8 9).bind fun x5 =>
        (stI h4 0 x5 y1 0).bind fun h6 =>
        some h6
      )
    )
def f_X8_goAside (h : Hea) (a0 : Nat) (a1 : Int32) : Option (Hea) :=
  f_X8_goAside_2 lots h a0 a1 0
def f_X8_layHas_44 : Nat → Hea → Nat → Int32 → Int32 → Int32 → Int32 → Int32 → Option (Int32 × Int32 × Hea)
  | 0, _, _, _, _, _, _, _ => none
  | n + 1, h, y0, y1, y2, y4, y5, y6 =>
    if 60 ≤ y6 then (
      some (y4, y5, h)
    ) else (
      (isO h y0 8).bind fun _ =>
      bind2 (f_X8_goNight h y0) fun x1 h2 =>
      (
        if ((x1 >>> (y1 &&& 31)) &&& 1) = 1 then (
          some y6
        ) else (
          some y4
        )
      ).bind fun v3 =>
      (
        if ((x1 >>> (y2 &&& 31)) &&& 1) = 1 then (
          some y6
        ) else (
          some y5
        )
      ).bind fun v4 =>
      f_X8_layHas_44 n h2 y0 y1 y2 v3 v4 (y6 + 1)
    )
def f_X8_layHas_2 : Nat → Hea → Nat → Int32 → Int32 → Int32 → Option (Hea)
  | 0, _, _, _, _, _ => none
  | n + 1, h, y0, y1, y2, y3 =>
    if 4 ≤ y3 then (
      some h
    ) else (
      (isO h y0 8).bind fun _ =>
      (f_X8_layHand h y0).bind fun h1 =>
      (
        if (y3 &&& 1) = 1 then (
          (isO h1 y0 8).bind fun _ =>
          (f_X8_goAside h1 y0 y1).bind fun h3 =>
          some h3
        ) else (
          some h1
        )
      ).bind fun h2 =>
      (
        if y3 ≤ 1 then (
          some h2
        ) else (
          (isO h2 y0 8).bind fun _ =>
          (f_X8_goAside h2 y0 y2).bind fun h5 =>
          some h5
        )
      ).bind fun h4 =>
      bind3 (f_X8_layHas_44 lots h4 y0 y1 y2 1000000 1000000 0) fun v6 v7 h8 =>
      (gR h8 y0 8 15).bind fun x9 =>
      (
        if v7 ≤ v6 then (
          if v6 = v7 then (
            some (1 : Int32)
          ) else (
            some (0 : Int32)
          )
        ) else (
          some (2 : Int32)
        )
      ).bind fun v10 =>
      (stI h8 0 x9 y3 v10).bind fun h11 =>
      (gR h11 y0 8 16).bind fun x12 =>
      (gR h11 y0 8 15).bind fun x13 =>
      (ldI h11 0 x13 y3).bind fun x14 =>
      (stI h11 0 x12 y3 (2 - x14)).bind fun h15 =>
      f_X8_layHas_2 n h15 y0 y1 y2 (y3 + 1)
    )
def f_X8_layHas (h : Hea) (a0 : Nat) (a1 : Int32) (a2 : Int32) : Option (Hea) :=
  (f_X8_layHas_2 lots h a0 a1 a2 0).bind fun h1 =>
  some h1
def f_X8_choose_62 : Nat → Hea → Nat → Int32 → Int32 → Option (Int32)
  | 0, _, _, _, _ => none
  | n + 1, h, y0, y3, y4 =>
    if 4 ≤ y4 then (
      some y3
    ) else (
      (gR h y0 8 15).bind fun x1 =>
      (ldI h 0 x1 y4).bind fun x2 =>
      (gR h y0 8 15).bind fun x3 =>
      (ldI h 0 x3 (y4 ^^^ 1)).bind fun x4 =>
      (
        if x2 < x4 then (
          some (0 : Int32)
        ) else (
          (gR h y0 8 16).bind fun x6 =>
          (ldI h 0 x6 y4).bind fun x7 =>
          (gR h y0 8 16).bind fun x8 =>
          (ldI h 0 x8 (y4 ^^^ 2)).bind fun x9 =>
          if x7 < x9 then (
            some (0 : Int32)
          ) else (
            some (1 : Int32)
          )
        )
      ).bind fun v5 =>
      (
        if v5 = 0 then (
          some (0 : Int32)
        ) else (
          some ((1 : Int32) <<< (y4 &&& 31))
        )
      ).bind fun v10 =>
      f_X8_choose_62 n h y0 (y3 ||| v10) (y4 + 1)
    )
def f_X8_choose (h : Hea) (a0 : Nat) (a1 : Int32) (a2 : Int32) : Option (Int32 × Hea) :=
  (isO h a0 8).bind fun _ =>
  (f_X8_isHeir h a0 a1).bind fun x1 =>
  if x1 = 0 then (
    (isO h a0 8).bind fun _ =>
    bind2 (f_X8_bad h a0 (-2)) fun x2 h3 =>
    some (x2, h3)
  ) else (
    (isO h a0 8).bind fun _ =>
    (f_X8_isHeir h a0 a2).bind fun x4 =>
    if x4 = 0 then (
      (isO h a0 8).bind fun _ =>
      bind2 (f_X8_bad h a0 (-2)) fun x5 h6 =>
      some (x5, h6)
    ) else (
      if a1 = a2 then (
        (isO h a0 8).bind fun _ =>
        bind2 (f_X8_bad h a0 (-2)) fun x15 h16 =>
        some (x15, h16)
      ) else (
        (isO h a0 8).bind fun _ =>
        (f_X8_get h a0 a1 4).bind fun x7 =>
        if x7 = 0 then (
          (isO h a0 8).bind fun _ =>
          (f_X8_get h a0 a2 4).bind fun x10 =>
          if x10 = 0 then (
            (isO h a0 8).bind fun _ =>
            (f_X8_layHas h a0 a1 a2).bind fun h11 =>
            (f_X8_choose_62 lots h11 a0 0 0).bind fun v12 =>
            some (v12, h11)
          ) else (
            (isO h a0 8).bind fun _ =>
            bind2 (f_X8_no h a0) fun x13 h14 =>
            some (x13, h14)
          )
        ) else (
          (isO h a0 8).bind fun _ =>
          bind2 (f_X8_no h a0) fun x8 h9 =>
          some (x8, h9)
        )
      )
    )
  )
def f_X8_fraction_5 : Nat → Hea → Int32 → Int32 → Option (Int32)
  | 0, _, _, _ => none
  | n + 1, h, y3, y4 =>
    if y4 = 0 then (
      some y3
    ) else (
      (nz y4).bind fun _ =>
      f_X8_fraction_5 n h y4 (y3 - y3 / y4 * y4)
    )
def f_X8_fraction (h : Hea) (a0 : Nat) (a1 : Int32) (a2 : Int32) : Option (Hea) :=
  (f_X8_fraction_5 lots h a1 a2).bind fun v1 =>
  (nz v1).bind fun _ =>
  (pJ h a0 8 4 ((a1 / v1).toInt64)).bind fun h2 =>
  (nz v1).bind fun _ =>
  (pJ h2 a0 8 5 ((a2 / v1).toInt64)).bind fun h3 =>
  some h3
def f_X8_odds_19 : Nat → Hea → Nat → Int32 → Int32 → Int32 → Option (Int32 × Hea)
  | 0, _, _, _, _, _ => none
  | n + 1, h, y0, y1, y2, y3 =>
    if 26 ≤ y3 then (
      some (y2, h)
    ) else (
      (isO h y0 8).bind fun _ =>
      (f_X8_layHand h y0).bind fun h1 =>
      (pI h1 y0 8 7 y3).bind fun h2 =>
      (isO h2 y0 8).bind fun _ =>
      bind2 (f_X8_goTill h2 y0) fun x3 h4 =>
      f_X8_odds_19 n h4 y0 y1 (y2 + ((x3 >>> (y1 &&& 31)) &&& 1)) (y3 + 1)
    )
def f_X8_odds (h : Hea) (a0 : Nat) (a1 : Int32) : Option (Int32 × Hea) :=
  (isO h a0 8).bind fun _ =>
  (f_X8_isHeir h a0 a1).bind fun x1 =>
  if x1 = 0 then (
    (isO h a0 8).bind fun _ =>
    bind2 (f_X8_bad h a0 (-2)) fun x5 h6 =>
    some (x5, h6)
  ) else (
    bind2 (f_X8_odds_19 lots h a0 a1 0 1) fun v2 h3 =>
    (isO h3 a0 8).bind fun _ =>
    (f_X8_fraction h3 a0 v2 25).bind fun h4 =>
    some (1, h4)
  )
def f_X8_seen (h : Hea) (a0 : Nat) (a1 : Int32) (a2 : Int32) (a3 : Int32) : Option (Int32 × Hea) :=
  (f_X8_isRoom a1).bind fun x1 =>
  if x1 = 0 then (
    (isO h a0 8).bind fun _ =>
    bind2 (f_X8_bad h a0 (-2)) fun x2 h3 =>
    some (x2, h3)
  ) else (
    (f_X8_in a2.toInt64 0 12).bind fun x4 =>
    if x4 = 0 then (
      (isO h a0 8).bind fun _ =>
      bind2 (f_X8_bad h a0 (-2)) fun x5 h6 =>
      some (x5, h6)
    ) else (
      (f_X8_in a3.toInt64 0 1).bind fun x7 =>
      if x7 = 0 then (
        (isO h a0 8).bind fun _ =>
        bind2 (f_X8_bad h a0 (-2)) fun x25 h26 =>
        some (x25, h26)
      ) else (
        (gR h a0 8 0).bind fun x8 =>
        (ldI h 0 x8 5).bind fun x9 =>
        if x9 = 6 then (
          (isO h a0 8).bind fun _ =>
          bind2 (f_X8_full h a0) fun x23 h24 =>
          some (x23, h24)
        ) else (
          (gR h a0 8 0).bind fun x10 =>
          (ldI h 0 x10 5).bind fun x11 =>
          (gR h a0 8 0).bind fun x12 =>
          (stI h 0 x12 (133 + (3 * x11)) a1).bind fun h13 =>
          (gR h13 a0 8 0).bind fun x14 =>
          (stI h13 0 x14 ((133 + (3 * x11)) + 1) a2).bind fun h15 =>
          (gR h15 a0 8 0).bind fun x16 =>
          (stI h15 0 x16 ((133 + (3 * x11)) + 2) a3).bind fun h17 =>
          (gR h17 a0 8 0).bind fun x18 =>
          (ldI h17 0 x18 5).bind fun x19 =>
          (stI h17 0 x18 5 (x19 + 1)).bind fun h20 =>
          (gR h20 a0 8 0).bind fun x21 =>
          (ldI h20 0 x21 5).bind fun x22 =>
          some (x22, h20)
        )
      )
    )
  )
def f_X8_forget (h : Hea) (a0 : Nat) : Option (Int32 × Hea) :=
  (gR h a0 8 0).bind fun x1 =>
  (ldI h 0 x1 5).bind fun x2 =>
  (gR h a0 8 0).bind fun x3 =>
  (stI h 0 x3 5 0).bind fun h4 =>
  some (x2, h4)
def f_X8_mayBe_5 : Nat → Hea → Nat → Int32 → Int32 → Int32 → Int32 → Option (Int32)
  | 0, _, _, _, _, _, _ => none
  | n + 1, h, y0, y1, y2, y3, y4 =>
    (gR h y0 8 0).bind fun x1 =>
    (ldI h 0 x1 5).bind fun x2 =>
    if x2 ≤ y4 then (
      some y3
    ) else (
      (
        if y3 = 0 then (
          some (0 : Int32)
        ) else (
          (gR h y0 8 0).bind fun x4 =>
          (ldI h 0 x4 ((133 + (3 * y4)) + 1)).bind fun x5 =>
          if x5 = y2 then (
            (gR h y0 8 0).bind fun x6 =>
            (ldI h 0 x6 (133 + (3 * y4))).bind fun x7 =>
            (
              if x7 = y1 then (
                some (1 : Int32)
              ) else (
                some (0 : Int32)
              )
            ).bind fun v8 =>
            (gR h y0 8 0).bind fun x9 =>
            (ldI h 0 x9 ((133 + (3 * y4)) + 2)).bind fun x10 =>
            (
              if x10 = 1 then (
                some (1 : Int32)
              ) else (
                some (0 : Int32)
              )
            ).bind fun v11 =>
            if v8 = v11 then (
              some (1 : Int32)
            ) else (
              some (0 : Int32)
            )
          ) else (
            some (1 : Int32)
          )
        )
      ).bind fun v3 =>
      f_X8_mayBe_5 n h y0 y1 y2 v3 (y4 + 1)
    )
def f_X8_mayBe (h : Hea) (a0 : Nat) (a1 : Int32) (a2 : Int32) : Option (Int32) :=
  (f_X8_mayBe_5 lots h a0 a1 a2 1 0).bind fun v1 =>
  zb v1
def f_X8_isStep (h : Hea) (a0 : Nat) (a1 : Int32) (a2 : Int32) : Option (Int32) :=
  (
    if a1 = a2 then (
      some (1 : Int32)
    ) else (
      (isO h a0 8).bind fun _ =>
      (f_X8_creaks h a0 a1 a2).bind fun x2 =>
      if x2 ≤ 0 then (
        some (0 : Int32)
      ) else (
        some (1 : Int32)
      )
    )
  ).bind fun v1 =>
  zb v1
def f_X8_layWays_29 : Nat → Hea → Nat → Int32 → Int32 → Int64 → Int32 → Option (Int64)
  | 0, _, _, _, _, _, _ => none
  | n + 1, h, y0, y1, y2, y3, y5 =>
    if 8 ≤ y5 then (
      some y3
    ) else (
      if y1 ≤ 0 then (
        some y3
      ) else (
        (isO h y0 8).bind fun _ =>
        (f_X8_isStep h y0 y5 y2).bind fun x1 =>
        (
          if x1 = 0 then (
            some (0 : Int64)
          ) else (
            (gR h y0 8 17).bind fun x3 =>
            (ldJ h x3 ((8 * (y1 - 1)) + y5)).bind fun x4 =>
            some x4
          )
        ).bind fun v2 =>
        f_X8_layWays_29 n h y0 y1 y2 (y3 + v2) (y5 + 1)
      )
    )
def f_X8_layWays_10 : Nat → Hea → Nat → Int32 → Int32 → Option (Hea)
  | 0, _, _, _, _ => none
  | n + 1, h, y0, y1, y2 =>
    if 8 ≤ y2 then (
      some h
    ) else (
      (
        if y1 = 0 then (
          some (1 : Int64)
        ) else (
          some (0 : Int64)
        )
      ).bind fun v1 =>
      (f_X8_layWays_29 lots h y0 y1 y2 v1 0).bind fun v2 =>
      (gR h y0 8 17).bind fun x3 =>
      (isO h y0 8).bind fun _ =>
      (f_X8_mayBe h y0 y2 y1).bind fun x4 =>
      (
        if x4 = 0 then (
          some (0 : Int64)
        ) else (
          some v2
        )
      ).bind fun v5 =>
      (stJ h x3 ((8 * y1) + y2) v5).bind fun h6 =>
      f_X8_layWays_10 n h6 y0 y1 (y2 + 1)
    )
def f_X8_layWays_2 : Nat → Hea → Nat → Int32 → Option (Hea)
  | 0, _, _, _ => none
  | n + 1, h, y0, y1 =>
    if 12 < y1 then (
      some h
    ) else (
      (f_X8_layWays_10 lots h y0 y1 0).bind fun h1 =>
      f_X8_layWays_2 n h1 y0 (y1 + 1)
    )
def f_X8_layWays_144 : Nat → Hea → Nat → Int32 → Int32 → Int64 → Int32 → Option (Int64)
  | 0, _, _, _, _, _, _ => none
  | n + 1, h, y0, y1, y2, y3, y5 =>
    if 8 ≤ y5 then (
      some y3
    ) else (
      if 12 ≤ y1 then (
        some y3
      ) else (
        (isO h y0 8).bind fun _ =>
        (f_X8_isStep h y0 y2 y5).bind fun x1 =>
        (
          if x1 = 0 then (
            some (0 : Int64)
          ) else (
            (isO h y0 8).bind fun _ =>
            (f_X8_mayBe h y0 y5 (y1 + 1)).bind fun x3 =>
            if x3 = 0 then (
              some (0 : Int64)
            ) else (
              (gR h y0 8 18).bind fun x4 =>
              (ldJ h x4 ((8 * (y1 + 1)) + y5)).bind fun x5 =>
              some x5
            )
          )
        ).bind fun v2 =>
        f_X8_layWays_144 n h y0 y1 y2 (y3 + v2) (y5 + 1)
      )
    )
def f_X8_layWays_123 : Nat → Hea → Nat → Int32 → Int32 → Option (Hea)
  | 0, _, _, _, _ => none
  | n + 1, h, y0, y1, y2 =>
    if 8 ≤ y2 then (
      some h
    ) else (
      (
        if y1 = 12 then (
          some (1 : Int64)
        ) else (
          some (0 : Int64)
        )
      ).bind fun v1 =>
      (f_X8_layWays_144 lots h y0 y1 y2 v1 0).bind fun v2 =>
      (gR h y0 8 18).bind fun x3 =>
      (stJ h x3 ((8 * y1) + y2) v2).bind fun h4 =>
      f_X8_layWays_123 n h4 y0 y1 (y2 + 1)
    )
def f_X8_layWays_117 : Nat → Hea → Nat → Int32 → Option (Hea)
  | 0, _, _, _ => none
  | n + 1, h, y0, y1 =>
    if y1 < 0 then (
      some h
    ) else (
      (f_X8_layWays_123 lots h y0 y1 0).bind fun h1 =>
      f_X8_layWays_117 n h1 y0 (y1 + (-1))
    )
def f_X8_layWays (h : Hea) (a0 : Nat) : Option (Hea) :=
  (f_X8_layWays_2 lots h a0 0).bind fun h1 =>
  (f_X8_layWays_117 lots h1 a0 12).bind fun h2 =>
  some h2
def f_X8_waysBy (h : Hea) (a0 : Nat) (a1 : Int32) (a2 : Int32) : Option (Int64) :=
  (gR h a0 8 17).bind fun x1 =>
  (ldJ h x1 ((8 * a1) + a2)).bind fun x2 =>
  (gR h a0 8 18).bind fun x3 =>
  (ldJ h x3 ((8 * a1) + a2)).bind fun x4 =>
  some (x2 * x4)
def f_X8_allWays_4 : Nat → Hea → Nat → Int64 → Int32 → Option (Int64)
  | 0, _, _, _, _ => none
  | n + 1, h, y0, y1, y3 =>
    if 8 ≤ y3 then (
      some y1
    ) else (
      (isO h y0 8).bind fun _ =>
      (f_X8_waysBy h y0 0 y3).bind fun x1 =>
      f_X8_allWays_4 n h y0 (y1 + x1) (y3 + 1)
    )
def f_X8_allWays (h : Hea) (a0 : Nat) : Option (Int64) :=
  (f_X8_allWays_4 lots h a0 0 0).bind fun v1 =>
  some v1
def f_X8_may_27 : Nat → Hea → Nat → Int32 → Int32 → Int32 → Option (Int32)
  | 0, _, _, _, _, _ => none
  | n + 1, h, y0, y1, y2, y3 =>
    if 8 ≤ y3 then (
      some y2
    ) else (
      (isO h y0 8).bind fun _ =>
      (f_X8_waysBy h y0 y1 y3).bind fun x1 =>
      (
        if (lg_cmp x1 0) ≤ 0 then (
          some (0 : Int32)
        ) else (
          some ((1 : Int32) <<< (y3 &&& 31))
        )
      ).bind fun v2 =>
      f_X8_may_27 n h y0 y1 (y2 ||| v2) (y3 + 1)
    )
def f_X8_may (h : Hea) (a0 : Nat) (a1 : Int32) : Option (Int32 × Hea) :=
  (f_X8_in a1.toInt64 0 12).bind fun x1 =>
  if x1 = 0 then (
    (isO h a0 8).bind fun _ =>
    bind2 (f_X8_bad h a0 (-2)) fun x4 h5 =>
    some (x4, h5)
  ) else (
    (isO h a0 8).bind fun _ =>
    (f_X8_layWays h a0).bind fun h2 =>
    (f_X8_may_27 lots h2 a0 a1 0 0).bind fun v3 =>
    some (v3, h2)
  )
def f_X8_ways (h : Hea) (a0 : Nat) : Option (Int64 × Hea) :=
  (isO h a0 8).bind fun _ =>
  (f_X8_layWays h a0).bind fun h1 =>
  (isO h1 a0 8).bind fun _ =>
  (f_X8_allWays h1 a0).bind fun x2 =>
  some (x2, h1)
def f_X8_peek_37 : Nat → Hea → Nat → Int32 → Int64 → Int32 → Int64 → Int32 → Option (Int32)
  | 0, _, _, _, _, _, _, _ => none
  | n + 1, h, y0, y1, y2, y4, y5, y7 =>
    if 8 ≤ y7 then (
      some y4
    ) else (
      if (lg_cmp y2 0) ≤ 0 then (
        some y4
      ) else (
        (isO h y0 8).bind fun _ =>
        (f_X8_waysBy h y0 y1 y7).bind fun x1 =>
        (
          if (lg_cmp x1 (y2 - x1)) ≤ 0 then (
            some (y2 - x1)
          ) else (
            some x1
          )
        ).bind fun v2 =>
        (
          if y4 = (-1) then (
            some (1 : Int32)
          ) else (
            if 0 ≤ (lg_cmp v2 y5) then (
              some (0 : Int32)
            ) else (
              some (1 : Int32)
            )
          )
        ).bind fun v3 =>
        (
          if v3 = 0 then (
            some y4
          ) else (
            some y7
          )
        ).bind fun v4 =>
        (
          if v3 = 0 then (
            some y5
          ) else (
            some v2
          )
        ).bind fun v5 =>
        f_X8_peek_37 n h y0 y1 y2 v4 v5 (y7 + 1)
      )
    )
def f_X8_peek (h : Hea) (a0 : Nat) (a1 : Int32) : Option (Int32 × Hea) :=
  (f_X8_in a1.toInt64 0 12).bind fun x1 =>
  if x1 = 0 then (
    (isO h a0 8).bind fun _ =>
    bind2 (f_X8_bad h a0 (-2)) fun x5 h6 =>
    some (x5, h6)
  ) else (
    (isO h a0 8).bind fun _ =>
    (f_X8_layWays h a0).bind fun h2 =>
    (isO h2 a0 8).bind fun _ =>
    (f_X8_allWays h2 a0).bind fun x3 =>
    (f_X8_peek_37 lots h2 a0 a1 x3 (-1) x3 0).bind fun v4 =>
    some (v4, h2)
  )
def f_X8_nights_50 : Nat → Hea → Nat → Int64 → Int32 → Option (Int64 × Hea)
  | 0, _, _, _, _ => none
  | n + 1, h, y0, y3, y6 =>
    (isO h y0 8).bind fun _ =>
    (f_X8_heirs h y0).bind fun x1 =>
    if x1 ≤ y6 then (
      some (y3, h)
    ) else (
      (gR h y0 8 10).bind fun x2 =>
      (ldI h 0 x2 y6).bind fun x3 =>
      (
        if x3 = 0 then (
          (gR h y0 8 8).bind fun x5 =>
          (ldI h 0 x5 y6).bind fun x6 =>
          (isO h y0 8).bind fun _ =>
          (f_X8_creaks h y0 x6 ((((((y3 * 1103515245) + 12345) - ((y3 * 1103515245) + 12345) / 2147483648 * 2147483648) / 65536) - ((((y3 * 1103515245) + 12345) - ((y3 * 1103515245) + 12345) / 2147483648 * 2147483648) / 65536) / 8 * 8).toInt32)).bind fun x7 =>
          if x7 ≤ 0 then (
            some h
          ) else (
            (gR h y0 8 8).bind fun x8 =>
            (stI h 0 x8 y6 ((((((y3 * 1103515245) + 12345) - ((y3 * 1103515245) + 12345) / 2147483648 * 2147483648) / 65536) - ((((y3 * 1103515245) + 12345) - ((y3 * 1103515245) + 12345) / 2147483648 * 2147483648) / 65536) / 8 * 8).toInt32)).bind fun h9 =>
            (gR h9 y0 8 9).bind fun x10 =>
            (stI h9 0 x10 y6 0).bind fun h11 =>
            some h11
          )
        ) else (
          some h
        )
      ).bind fun h4 =>
      f_X8_nights_50 n h4 y0 (((y3 * 1103515245) + 12345) - ((y3 * 1103515245) + 12345) / 2147483648 * 2147483648) (y6 + 1)
    )
def f_X8_nights_41 : Nat → Hea → Nat → Int32 → Int64 → Int32 → Option (Hea)
  | 0, _, _, _, _, _ => none
  | n + 1, h, y0, y2, y3, y5 =>
    if y2 ≤ y5 then (
      some h
    ) else (
      bind2 (f_X8_nights_50 lots h y0 y3 0) fun v1 h2 =>
      (isO h2 y0 8).bind fun _ =>
      bind2 (f_X8_goNight h2 y0) fun x3 h4 =>
      f_X8_nights_41 n h4 y0 y2 v1 (y5 + 1)
    )
def f_X8_nights_152 : Nat → Hea → Nat → Int32 → Int32 → Option (Int32)
  | 0, _, _, _, _ => none
  | n + 1, h, y0, y5, y6 =>
    (isO h y0 8).bind fun _ =>
    (f_X8_heirs h y0).bind fun x1 =>
    if x1 ≤ y6 then (
      some y5
    ) else (
      (gR h y0 8 10).bind fun x2 =>
      (ldI h 0 x2 y6).bind fun x3 =>
      (
        if x3 = 2 then (
          some (1 : Int32)
        ) else (
          some (0 : Int32)
        )
      ).bind fun v4 =>
      f_X8_nights_152 n h y0 (y5 + v4) (y6 + 1)
    )
def f_X8_nights (h : Hea) (a0 : Nat) (a1 : Int32) (a2 : Int32) : Option (Int32 × Hea) :=
  (f_X8_in a1.toInt64 0 999999).bind fun x1 =>
  if x1 = 0 then (
    (isO h a0 8).bind fun _ =>
    bind2 (f_X8_bad h a0 (-2)) fun x2 h3 =>
    some (x2, h3)
  ) else (
    (f_X8_in a2.toInt64 0 30).bind fun x4 =>
    if x4 = 0 then (
      (isO h a0 8).bind fun _ =>
      bind2 (f_X8_bad h a0 (-2)) fun x8 h9 =>
      some (x8, h9)
    ) else (
      (isO h a0 8).bind fun _ =>
      (f_X8_layHand h a0).bind fun h5 =>
      (f_X8_nights_41 lots h5 a0 a2 a1.toInt64 0).bind fun h6 =>
      (f_X8_nights_152 lots h6 a0 0 0).bind fun v7 =>
      some (v7, h6)
    )
  )
def f_X8_type (h : Hea) (a0 : Nat) (a1 : Int32) : Option (Int32 × Hea) :=
  (f_X8_in a1.toInt64 0 127).bind fun x1 =>
  if x1 = 0 then (
    (isO h a0 8).bind fun _ =>
    bind2 (f_X8_bad h a0 (-2)) fun x11 h12 =>
    some (x11, h12)
  ) else (
    (gI h a0 8 20).bind fun x2 =>
    if x2 = 150 then (
      (isO h a0 8).bind fun _ =>
      bind2 (f_X8_full h a0) fun x9 h10 =>
      some (x9, h10)
    ) else (
      (gR h a0 8 19).bind fun x3 =>
      (gI h a0 8 20).bind fun x4 =>
      (stI h 0 x3 x4 a1).bind fun h5 =>
      (gI h5 a0 8 20).bind fun x6 =>
      (pI h5 a0 8 20 (x6 + 1)).bind fun h7 =>
      (gI h7 a0 8 20).bind fun x8 =>
      some (x8, h7)
    )
  )
def f_X8_clear (h : Hea) (a0 : Nat) : Option (Int32 × Hea) :=
  (gI h a0 8 20).bind fun x1 =>
  (pI h a0 8 20 0).bind fun h2 =>
  some (x1, h2)
def f_X8_isSmall (a0 : Int32) : Option (Int32) :=
  (f_X8_in a0.toInt64 97 122).bind fun x1 =>
  zb x1
def f_X8_isFigure (a0 : Int32) : Option (Int32) :=
  (f_X8_in a0.toInt64 48 57).bind fun x1 =>
  zb x1
def f_X8_lookAt_5 : Nat → Hea → Nat → Option (Hea)
  | 0, _, _ => none
  | n + 1, h, y0 =>
    (gI h y0 8 21).bind fun x1 =>
    (gI h y0 8 20).bind fun x2 =>
    if x2 ≤ x1 then (
      some h
    ) else (
      (gR h y0 8 19).bind fun x3 =>
      (gI h y0 8 21).bind fun x4 =>
      (ldI h 0 x3 x4).bind fun x5 =>
      if x5 = 32 then (
        (gI h y0 8 21).bind fun x6 =>
        (pI h y0 8 21 (x6 + 1)).bind fun h7 =>
        f_X8_lookAt_5 n h7 y0
      ) else (
        some h
      )
    )
def f_X8_lookAt_136 : Nat → Hea → Nat → Int32 → Option (Hea)
  | 0, _, _, _ => none
  | n + 1, h, y0, y3 =>
    if y3 = 0 then (
      some h
    ) else (
      (gI h y0 8 21).bind fun x1 =>
      (gI h y0 8 22).bind fun x2 =>
      (gI h y0 8 20).bind fun x3 =>
      if x3 ≤ (x1 + x2) then (
        some h
      ) else (
        (gR h y0 8 19).bind fun x4 =>
        (gI h y0 8 21).bind fun x5 =>
        (gI h y0 8 22).bind fun x6 =>
        (ldI h 0 x4 (x5 + x6)).bind fun x7 =>
        (gI h y0 8 23).bind fun x8 =>
        (
          if x8 = 1 then (
            (f_X8_isSmall x7).bind fun x11 =>
            some x11
          ) else (
            (f_X8_isFigure x7).bind fun x10 =>
            some x10
          )
        ).bind fun v9 =>
        (gI h y0 8 22).bind fun x12 =>
        (
          if v9 = 0 then (
            some (0 : Int32)
          ) else (
            some (1 : Int32)
          )
        ).bind fun v13 =>
        (pI h y0 8 22 (x12 + v13)).bind fun h14 =>
        f_X8_lookAt_136 n h14 y0 v9
      )
    )
def f_X8_lookAt_218 : Nat → Hea → Nat → Int32 → Option (Hea)
  | 0, _, _, _ => none
  | n + 1, h, y0, y4 =>
    (gI h y0 8 22).bind fun x1 =>
    if x1 ≤ y4 then (
      some h
    ) else (
      if 2 ≤ y4 then (
        some h
      ) else (
        (gI h y0 8 23).bind fun x2 =>
        if x2 = 2 then (
          (gI h y0 8 24).bind fun x3 =>
          (gR h y0 8 19).bind fun x4 =>
          (gI h y0 8 21).bind fun x5 =>
          (ldI h 0 x4 (x5 + y4)).bind fun x6 =>
          (pI h y0 8 24 (((10 * x3) + x6) - 48)).bind fun h7 =>
          f_X8_lookAt_218 n h7 y0 (y4 + 1)
        ) else (
          some h
        )
      )
    )
def f_X8_lookAt (h : Hea) (a0 : Nat) (a1 : Int32) : Option (Hea) :=
  (pI h a0 8 21 a1).bind fun h1 =>
  (f_X8_lookAt_5 lots h1 a0).bind fun h2 =>
  (pI h2 a0 8 22 0).bind fun h3 =>
  (pI h3 a0 8 23 0).bind fun h4 =>
  (pI h4 a0 8 24 0).bind fun h5 =>
  (gI h5 a0 8 21).bind fun x6 =>
  (gI h5 a0 8 20).bind fun x7 =>
  if x6 = x7 then (
    some h5
  ) else (
    (gR h5 a0 8 19).bind fun x8 =>
    (gI h5 a0 8 21).bind fun x9 =>
    (ldI h5 0 x8 x9).bind fun x10 =>
    (f_X8_isSmall x10).bind fun x11 =>
    (
      if x11 = 0 then (
        (f_X8_isFigure x10).bind fun x13 =>
        if x13 = 0 then (
          if x10 = 59 then (
            some (3 : Int32)
          ) else (
            some (4 : Int32)
          )
        ) else (
          some (2 : Int32)
        )
      ) else (
        some (1 : Int32)
      )
    ).bind fun v12 =>
    (pI h5 a0 8 23 v12).bind fun h14 =>
    (pI h14 a0 8 22 1).bind fun h15 =>
    (gI h15 a0 8 23).bind fun x16 =>
    (
      if 3 ≤ x16 then (
        some (0 : Int32)
      ) else (
        some (1 : Int32)
      )
    ).bind fun v17 =>
    (f_X8_lookAt_136 lots h15 a0 v17).bind fun h18 =>
    (f_X8_lookAt_218 lots h18 a0 0).bind fun h19 =>
    (gI h19 a0 8 23).bind fun x20 =>
    (
      if x20 = 2 then (
        (gI h19 a0 8 22).bind fun x23 =>
        if x23 ≤ 2 then (
          (gI h19 a0 8 23).bind fun x24 =>
          some x24
        ) else (
          some (4 : Int32)
        )
      ) else (
        (gI h19 a0 8 23).bind fun x22 =>
        some x22
      )
    ).bind fun v21 =>
    (pI h19 a0 8 23 v21).bind fun h25 =>
    some h25
  )
def f_X8_goBehind (h : Hea) (a0 : Nat) : Option (Hea) :=
  (gI h a0 8 21).bind fun x1 =>
  (gI h a0 8 22).bind fun x2 =>
  (isO h a0 8).bind fun _ =>
  (f_X8_lookAt h a0 (x1 + x2)).bind fun h3 =>
  some h3
def f_X8_isWord_26 : Nat → Hea → Nat → Int32 → Int32 → Int32 → Int32 → Int32 → Int32 → Int32 → Int32 → Option (Int32)
  | 0, _, _, _, _, _, _, _, _, _, _ => none
  | n + 1, h, y0, y1, y2, y3, y4, y5, y6, y7, y8 =>
    if y1 ≤ y8 then (
      some y7
    ) else (
      if y7 = 0 then (
        some y7
      ) else (
        (gR h y0 8 19).bind fun x1 =>
        (gI h y0 8 21).bind fun x2 =>
        (ldI h 0 x1 (x2 + y8)).bind fun x3 =>
        (
          if y8 = 0 then (
            some y2
          ) else (
            if y8 = 1 then (
              some y3
            ) else (
              if y8 = 2 then (
                some y4
              ) else (
                if y8 = 3 then (
                  some y5
                ) else (
                  some y6
                )
              )
            )
          )
        ).bind fun v4 =>
        (
          if x3 = v4 then (
            some (1 : Int32)
          ) else (
            some (0 : Int32)
          )
        ).bind fun v5 =>
        f_X8_isWord_26 n h y0 y1 y2 y3 y4 y5 y6 v5 (y8 + 1)
      )
    )
def f_X8_isWord (h : Hea) (a0 : Nat) (a1 : Int32) (a2 : Int32) (a3 : Int32) (a4 : Int32) (a5 : Int32) (a6 : Int32) : Option (Int32) :=
  (gI h a0 8 23).bind fun x1 =>
  (
    if x1 = 1 then (
      (gI h a0 8 22).bind fun x3 =>
      if x3 = a1 then (
        some (1 : Int32)
      ) else (
        some (0 : Int32)
      )
    ) else (
      some (0 : Int32)
    )
  ).bind fun v2 =>
  (f_X8_isWord_26 lots h a0 a1 a2 a3 a4 a5 a6 v2 0).bind fun v4 =>
  zb v4
def f_X8_takes (h : Hea) (a0 : Nat) (a1 : Int32) (a2 : Int32) (a3 : Int32) : Option (Int32 × Hea) :=
  (gI h a0 8 23).bind fun x1 =>
  if x1 = 2 then (
    (gI h a0 8 24).bind fun x2 =>
    (f_X8_in x2.toInt64 a2.toInt64 a3.toInt64).bind fun x3 =>
    if x3 = 0 then (
      some (0, h)
    ) else (
      (gR h a0 8 26).bind fun x4 =>
      (gI h a0 8 24).bind fun x5 =>
      (stI h 0 x4 a1 x5).bind fun h6 =>
      (isO h6 a0 8).bind fun _ =>
      (f_X8_goBehind h6 a0).bind fun h7 =>
      some (1, h7)
    )
  ) else (
    some (0, h)
  )
def f_X8_takesFirst (h : Hea) (a0 : Nat) : Option (Int32 × Hea) :=
  (isO h a0 8).bind fun _ =>
  (f_X8_isWord h a0 5 104 111 117 115 101).bind fun x1 =>
  if x1 = 0 then (
    some (0, h)
  ) else (
    (isO h a0 8).bind fun _ =>
    (f_X8_goBehind h a0).bind fun h2 =>
    (isO h2 a0 8).bind fun _ =>
    bind2 (f_X8_takes h2 a0 0 0 25) fun x3 h4 =>
    if x3 = 0 then (
      some (0, h4)
    ) else (
      (isO h4 a0 8).bind fun _ =>
      bind2 (f_X8_takes h4 a0 1 0 25) fun x5 h6 =>
      if x5 = 0 then (
        some (0, h6)
      ) else (
        (gR h6 a0 8 25).bind fun x7 =>
        (gR h6 a0 8 26).bind fun x8 =>
        (ldI h6 0 x8 0).bind fun x9 =>
        (gR h6 a0 8 26).bind fun x10 =>
        (ldI h6 0 x10 1).bind fun x11 =>
        (f_X8_begin h6 x7 x9 x11).bind fun h12 =>
        (gI h12 a0 8 23).bind fun x13 =>
        (
          if x13 = 3 then (
            some (1 : Int32)
          ) else (
            some (0 : Int32)
          )
        ).bind fun v14 =>
        (zb v14).bind fun z => some (z, h12)
      )
    )
  )
def f_X8_takesRoom (h : Hea) (a0 : Nat) : Option (Int32 × Hea) :=
  (isO h a0 8).bind fun _ =>
  (f_X8_goBehind h a0).bind fun h1 =>
  (isO h1 a0 8).bind fun _ =>
  bind2 (f_X8_takes h1 a0 0 0 7) fun x2 h3 =>
  if x2 = 0 then (
    some (0, h3)
  ) else (
    (isO h3 a0 8).bind fun _ =>
    bind2 (f_X8_takes h3 a0 1 0 9) fun x4 h5 =>
    if x4 = 0 then (
      some (0, h5)
    ) else (
      (gR h5 a0 8 25).bind fun x6 =>
      (gR h5 a0 8 26).bind fun x7 =>
      (ldI h5 0 x7 0).bind fun x8 =>
      (gR h5 a0 8 26).bind fun x9 =>
      (ldI h5 0 x9 1).bind fun x10 =>
      (stI h5 0 x6 (7 + x8) x10).bind fun h11 =>
      some (1, h11)
    )
  )
def f_X8_takesDoor (h : Hea) (a0 : Nat) : Option (Int32 × Hea) :=
  (isO h a0 8).bind fun _ =>
  (f_X8_goBehind h a0).bind fun h1 =>
  (isO h1 a0 8).bind fun _ =>
  bind2 (f_X8_takes h1 a0 0 0 7) fun x2 h3 =>
  if x2 = 0 then (
    some (0, h3)
  ) else (
    (gI h3 a0 8 23).bind fun x4 =>
    if x4 = 2 then (
      (gI h3 a0 8 24).bind fun x17 =>
      (gR h3 a0 8 26).bind fun x18 =>
      (ldI h3 0 x18 0).bind fun x19 =>
      if x17 = x19 then (
        some (0, h3)
      ) else (
        (isO h3 a0 8).bind fun _ =>
        bind2 (f_X8_takes h3 a0 1 0 7) fun x20 h21 =>
        if x20 = 0 then (
          some (0, h21)
        ) else (
          (isO h21 a0 8).bind fun _ =>
          bind2 (f_X8_takes h21 a0 2 1 9) fun x22 h23 =>
          if x22 = 0 then (
            some (0, h23)
          ) else (
            (gR h23 a0 8 25).bind fun x24 =>
            (gR h23 a0 8 26).bind fun x25 =>
            (ldI h23 0 x25 0).bind fun x26 =>
            (gR h23 a0 8 26).bind fun x27 =>
            (ldI h23 0 x27 1).bind fun x28 =>
            (gR h23 a0 8 26).bind fun x29 =>
            (ldI h23 0 x29 2).bind fun x30 =>
            (f_X8_layDoor h23 x24 x26 x28 x30).bind fun h31 =>
            some (1, h31)
          )
        )
      )
    ) else (
      (isO h3 a0 8).bind fun _ =>
      bind2 (f_X8_takes h3 a0 1 0 7) fun x5 h6 =>
      if x5 = 0 then (
        some (0, h6)
      ) else (
        (isO h6 a0 8).bind fun _ =>
        bind2 (f_X8_takes h6 a0 2 1 9) fun x7 h8 =>
        if x7 = 0 then (
          some (0, h8)
        ) else (
          (gR h8 a0 8 25).bind fun x9 =>
          (gR h8 a0 8 26).bind fun x10 =>
          (ldI h8 0 x10 0).bind fun x11 =>
          (gR h8 a0 8 26).bind fun x12 =>
          (ldI h8 0 x12 1).bind fun x13 =>
          (gR h8 a0 8 26).bind fun x14 =>
          (ldI h8 0 x14 2).bind fun x15 =>
          (f_X8_layDoor h8 x9 x11 x13 x15).bind fun h16 =>
          some (1, h16)
        )
      )
    )
  )
def f_X8_takesList_6 : Nat → Hea → Nat → Int32 → Option (Int32 × Hea)
  | 0, _, _, _ => none
  | n + 1, h, y0, y1 =>
    if y1 = 0 then (
      if y1 = 12 then (
        some (0, h)
      ) else (
        (isO h y0 8).bind fun _ =>
        bind2 (f_X8_takes h y0 0 0 7) fun x1 h2 =>
        if x1 = 0 then (
          some (0, h2)
        ) else (
          (gR h2 y0 8 25).bind fun x3 =>
          (gR h2 y0 8 26).bind fun x4 =>
          (ldI h2 0 x4 0).bind fun x5 =>
          (stI h2 0 x3 (79 + y1) x5).bind fun h6 =>
          f_X8_takesList_6 n h6 y0 (y1 + 1)
        )
      )
    ) else (
      (gI h y0 8 23).bind fun x7 =>
      if x7 = 2 then (
        if y1 = 12 then (
          some (0, h)
        ) else (
          (isO h y0 8).bind fun _ =>
          bind2 (f_X8_takes h y0 0 0 7) fun x10 h11 =>
          if x10 = 0 then (
            some (0, h11)
          ) else (
            (gR h11 y0 8 25).bind fun x12 =>
            (gR h11 y0 8 26).bind fun x13 =>
            (ldI h11 0 x13 0).bind fun x14 =>
            (stI h11 0 x12 (79 + y1) x14).bind fun h15 =>
            f_X8_takesList_6 n h15 y0 (y1 + 1)
          )
        )
      ) else (
        (gR h y0 8 25).bind fun x8 =>
        (stI h 0 x8 4 y1).bind fun h9 =>
        some (1, h9)
      )
    )
def f_X8_takesList (h : Hea) (a0 : Nat) : Option (Int32 × Hea) :=
  (isO h a0 8).bind fun _ =>
  (f_X8_goBehind h a0).bind fun h1 =>
  f_X8_takesList_6 lots h1 a0 0
def f_X8_takesHeir (h : Hea) (a0 : Nat) : Option (Int32 × Hea) :=
  (gR h a0 8 25).bind fun x1 =>
  (ldI h 0 x1 0).bind fun x2 =>
  if x2 = 6 then (
    some (0, h)
  ) else (
    (isO h a0 8).bind fun _ =>
    (f_X8_goBehind h a0).bind fun h3 =>
    (isO h3 a0 8).bind fun _ =>
    bind2 (f_X8_takes h3 a0 0 0 5) fun x4 h5 =>
    if x4 = 0 then (
      some (0, h5)
    ) else (
      (isO h5 a0 8).bind fun _ =>
      bind2 (f_X8_takes h5 a0 1 0 7) fun x6 h7 =>
      if x6 = 0 then (
        some (0, h7)
      ) else (
        (isO h7 a0 8).bind fun _ =>
        bind2 (f_X8_takes h7 a0 2 0 9) fun x8 h9 =>
        if x8 = 0 then (
          some (0, h9)
        ) else (
          (gR h9 a0 8 25).bind fun x10 =>
          (gR h9 a0 8 26).bind fun x11 =>
          (ldI h9 0 x11 0).bind fun x12 =>
          (gR h9 a0 8 26).bind fun x13 =>
          (ldI h9 0 x13 1).bind fun x14 =>
          (gR h9 a0 8 26).bind fun x15 =>
          (ldI h9 0 x15 2).bind fun x16 =>
          (f_X8_layHeir h9 x10 x12 x14 x16).bind fun h17 =>
          some (1, h17)
        )
      )
    )
  )
def f_X8_takesItem (h : Hea) (a0 : Nat) : Option (Int32 × Hea) :=
  (isO h a0 8).bind fun _ =>
  (f_X8_isWord h a0 4 114 111 111 109 0).bind fun x1 =>
  if x1 = 0 then (
    (isO h a0 8).bind fun _ =>
    (f_X8_isWord h a0 4 100 111 111 114 0).bind fun x2 =>
    if x2 = 0 then (
      (isO h a0 8).bind fun _ =>
      (f_X8_isWord h a0 4 108 105 115 116 0).bind fun x3 =>
      if x3 = 0 then (
        (isO h a0 8).bind fun _ =>
        (f_X8_isWord h a0 4 104 101 105 114 0).bind fun x4 =>
        bind2 (
          if x4 = 0 then (
            some ((0 : Int32), h)
          ) else (
            (isO h a0 8).bind fun _ =>
            bind2 (f_X8_takesHeir h a0) fun x7 h8 =>
            if x7 = 0 then (
              some ((0 : Int32), h8)
            ) else (
              some ((1 : Int32), h8)
            )
          )
        ) fun v5 h6 =>
        (zb v5).bind fun z => some (z, h6)
      ) else (
        (isO h a0 8).bind fun _ =>
        bind2 (f_X8_takesList h a0) fun x9 h10 =>
        (zb x9).bind fun z => some (z, h10)
      )
    ) else (
      (isO h a0 8).bind fun _ =>
      bind2 (f_X8_takesDoor h a0) fun x11 h12 =>
      (zb x11).bind fun z => some (z, h12)
    )
  ) else (
    (isO h a0 8).bind fun _ =>
    bind2 (f_X8_takesRoom h a0) fun x13 h14 =>
    (zb x13).bind fun z => some (z, h14)
  )
def f_X8_read_68 : Nat → Hea → Nat → Int32 → Option (Hea)
  | 0, _, _, _ => none
  | n + 1, h, y0, y2 =>
    if 151 ≤ y2 then (
      some h
    ) else (
      (gR h y0 8 0).bind fun x1 =>
      (gR h y0 8 25).bind fun x2 =>
      (ldI h 0 x2 y2).bind fun x3 =>
      (stI h 0 x1 y2 x3).bind fun h4 =>
      f_X8_read_68 n h4 y0 (y2 + 1)
    )
def f_X8_read_26 : Nat → Hea → Nat → Int32 → Option (Int32 × Hea)
  | 0, _, _, _ => none
  | n + 1, h, y0, y1 =>
    (gI h y0 8 23).bind fun x1 =>
    if x1 = 0 then (
      (f_X8_read_68 lots h y0 0).bind fun h2 =>
      some (y1, h2)
    ) else (
      (isO h y0 8).bind fun _ =>
      bind2 (f_X8_takesItem h y0) fun x3 h4 =>
      if x3 = 0 then (
        (gI h4 y0 8 21).bind fun x5 =>
        some ((-10) - x5, h4)
      ) else (
        (gI h4 y0 8 23).bind fun x6 =>
        if x6 = 3 then (
          (isO h4 y0 8).bind fun _ =>
          (f_X8_goBehind h4 y0).bind fun h7 =>
          f_X8_read_26 n h7 y0 (y1 + 1)
        ) else (
          (gI h4 y0 8 21).bind fun x8 =>
          some ((-10) - x8, h4)
        )
      )
    )
def f_X8_read (h : Hea) (a0 : Nat) : Option (Int32 × Hea) :=
  (isO h a0 8).bind fun _ =>
  (f_X8_lookAt h a0 0).bind fun h1 =>
  (isO h1 a0 8).bind fun _ =>
  bind2 (f_X8_takesFirst h1 a0) fun x2 h3 =>
  if x2 = 0 then (
    (gI h3 a0 8 21).bind fun x5 =>
    some ((-10) - x5, h3)
  ) else (
    (isO h3 a0 8).bind fun _ =>
    (f_X8_goBehind h3 a0).bind fun h4 =>
    f_X8_read_26 lots h4 a0 1
  )
def f_X8_part (h : Hea) (a0 : Nat) (a1 : Int32) : Option (Int64 × Hea) :=
  bind2 (
    if a1 = 0 then (
      (gJ h a0 8 4).bind fun x6 =>
      some (x6, h)
    ) else (
      if a1 = 1 then (
        (gJ h a0 8 5).bind fun x5 =>
        some (x5, h)
      ) else (
        (isO h a0 8).bind fun _ =>
        bind2 (f_X8_bad h a0 (-2)) fun x3 h4 =>
        some (x3.toInt64, h4)
      )
    )
  ) fun v1 h2 =>
  some (v1, h2)
def f_X8_image_19 : Nat → Hea → Nat → Int32 → Int32 → Option (Hea)
  | 0, _, _, _, _ => none
  | n + 1, h, y0, y1, y2 =>
    if 399 ≤ y2 then (
      some h
    ) else (
      (gR h y0 8 1).bind fun x1 =>
      (gR h y0 8 0).bind fun x2 =>
      (ldI h 0 x2 y2).bind fun x3 =>
      (stI h 0 x1 ((399 * y1) + y2) x3).bind fun h4 =>
      f_X8_image_19 n h4 y0 y1 (y2 + 1)
    )
def f_X8_image (h : Hea) (a0 : Nat) (a1 : Int32) : Option (Int32 × Hea) :=
  (f_X8_in a1.toInt64 0 1).bind fun x1 =>
  if x1 = 0 then (
    (isO h a0 8).bind fun _ =>
    bind2 (f_X8_bad h a0 (-2)) fun x5 h6 =>
    some (x5, h6)
  ) else (
    (f_X8_image_19 lots h a0 a1 0).bind fun h2 =>
    (gR h2 a0 8 2).bind fun x3 =>
    (stZ h2 x3 a1 1).bind fun h4 =>
    some (1, h4)
  )
def f_X8_from_33 : Nat → Hea → Nat → Int32 → Int32 → Option (Hea)
  | 0, _, _, _, _ => none
  | n + 1, h, y0, y1, y2 =>
    if 399 ≤ y2 then (
      some h
    ) else (
      (gR h y0 8 0).bind fun x1 =>
      (gR h y0 8 1).bind fun x2 =>
      (ldI h 0 x2 ((399 * y1) + y2)).bind fun x3 =>
      (stI h 0 x1 y2 x3).bind fun h4 =>
      f_X8_from_33 n h4 y0 y1 (y2 + 1)
    )
def f_X8_from (h : Hea) (a0 : Nat) (a1 : Int32) : Option (Int32 × Hea) :=
  (f_X8_in a1.toInt64 0 1).bind fun x1 =>
  if x1 = 0 then (
    (isO h a0 8).bind fun _ =>
    bind2 (f_X8_bad h a0 (-2)) fun x7 h8 =>
    some (x7, h8)
  ) else (
    (gR h a0 8 2).bind fun x2 =>
    (ldI h 2 x2 a1).bind fun x3 =>
    if x3 = 0 then (
      (isO h a0 8).bind fun _ =>
      bind2 (f_X8_no h a0) fun x5 h6 =>
      some (x5, h6)
    ) else (
      (f_X8_from_33 lots h a0 a1 0).bind fun h4 =>
      some (1, h4)
    )
  )
def f_X8_status (h : Hea) (a0 : Nat) (a1 : Int32) : Option (Int32 × Hea) :=
  (f_X8_in a1.toInt64 0 2).bind fun x1 =>
  bind2 (
    if x1 = 0 then (
      (isO h a0 8).bind fun _ =>
      bind2 (f_X8_bad h a0 (-1)) fun x4 h5 =>
      some (x4, h5)
    ) else (
      (gR h a0 8 3).bind fun x6 =>
      (ldI h 0 x6 a1).bind fun x7 =>
      some (x7, h)
    )
  ) fun v2 h3 =>
  some (v2, h3)
def f_X8_manyIn_4 : Nat → Hea → Nat → Int32 → Int32 → Option (Int32)
  | 0, _, _, _, _ => none
  | n + 1, h, y0, y1, y2 =>
    (isO h y0 8).bind fun _ =>
    (f_X8_heirs h y0).bind fun x1 =>
    if x1 ≤ y2 then (
      some y1
    ) else (
      (isO h y0 8).bind fun _ =>
      (f_X8_get h y0 y2 4).bind fun x2 =>
      (
        if x2 = 0 then (
          some (1 : Int32)
        ) else (
          some (0 : Int32)
        )
      ).bind fun v3 =>
      f_X8_manyIn_4 n h y0 (y1 + v3) (y2 + 1)
    )
def f_X8_manyIn (h : Hea) (a0 : Nat) : Option (Int32) :=
  (f_X8_manyIn_4 lots h a0 0 0).bind fun v1 =>
  some v1
def f_X8_counted (h : Hea) (a0 : Nat) (a1 : Int32) : Option (Int32) :=
  if a1 = 4 then (
    (isO h a0 8).bind fun _ =>
    (f_X8_manyIn h a0).bind fun x1 =>
    some x1
  ) else
  if a1 = 5 then (
    (gR h a0 8 0).bind fun x2 =>
    (ldI h 0 x2 4).bind fun x3 =>
    some x3
  ) else
  if a1 = 6 then (
    (gR h a0 8 0).bind fun x4 =>
    (ldI h 0 x4 5).bind fun x5 =>
    some x5
  ) else
  if a1 = 7 then (
    (gR h a0 8 0).bind fun x6 =>
    (ldI h 0 x6 6).bind fun x7 =>
    some x7
  ) else
  if a1 = 8 then (
    (gI h a0 8 20).bind fun x8 =>
    some x8
  ) else
  (
    (gR h a0 8 0).bind fun x9 =>
    (ldI h 0 x9 a1).bind fun x10 =>
    some x10
  )
def f_X8_count (h : Hea) (a0 : Nat) (a1 : Int32) : Option (Int32 × Hea) :=
  (f_X8_in a1.toInt64 0 8).bind fun x1 =>
  bind2 (
    if x1 = 0 then (
      (isO h a0 8).bind fun _ =>
      bind2 (f_X8_bad h a0 (-2)) fun x4 h5 =>
      some (x4, h5)
    ) else (
      (isO h a0 8).bind fun _ =>
      (f_X8_counted h a0 a1).bind fun x6 =>
      some (x6, h)
    )
  ) fun v2 h3 =>
  some (v2, h3)
def f_X8_sums_6 : Nat → Hea → Nat → Int32 → Int32 → Int64 → Int32 → Option (Int64)
  | 0, _, _, _, _, _, _ => none
  | n + 1, h, y0, y3, y4, y5, y7 =>
    if y4 ≤ y7 then (
      some y5
    ) else (
      (gR h y0 8 0).bind fun x1 =>
      (ldI h 0 x1 (y3 + y7)).bind fun x2 =>
      f_X8_sums_6 n h y0 y3 y4 ((31 * y5) + x2.toInt64) (y7 + 1)
    )
def f_X8_sums (h : Hea) (a0 : Nat) (a1 : Int64) (a3 : Int32) (a4 : Int32) : Option (Int64) :=
  (f_X8_sums_6 lots h a0 a3 a4 a1 0).bind fun v1 =>
  some v1
def f_X8_digest_6 : Nat → Hea → Nat → Int64 → Int32 → Option (Int64)
  | 0, _, _, _, _ => none
  | n + 1, h, y0, y1, y3 =>
    if 9 ≤ y3 then (
      some y1
    ) else (
      (isO h y0 8).bind fun _ =>
      (f_X8_counted h y0 y3).bind fun x1 =>
      f_X8_digest_6 n h y0 ((31 * y1) + x1.toInt64) (y3 + 1)
    )
def f_X8_digest_54 : Nat → Hea → Nat → Int64 → Int32 → Int32 → Option (Int64)
  | 0, _, _, _, _, _ => none
  | n + 1, h, y0, y1, y3, y4 =>
    if 8 ≤ y4 then (
      some y1
    ) else (
      (isO h y0 8).bind fun _ =>
      (f_X8_creaks h y0 y3 y4).bind fun x1 =>
      f_X8_digest_54 n h y0 ((31 * y1) + x1.toInt64) y3 (y4 + 1)
    )
def f_X8_digest_43 : Nat → Hea → Nat → Int64 → Int32 → Option (Int64)
  | 0, _, _, _, _ => none
  | n + 1, h, y0, y1, y3 =>
    if 8 ≤ y3 then (
      some y1
    ) else (
      (f_X8_digest_54 lots h y0 y1 y3 (y3 + 1)).bind fun v1 =>
      f_X8_digest_43 n h y0 v1 (y3 + 1)
    )
def f_X8_digest (h : Hea) (a0 : Nat) : Option (Int64) :=
  (f_X8_digest_6 lots h a0 1033 0).bind fun v1 =>
  (isO h a0 8).bind fun _ =>
  (f_X8_sums h a0 v1 7 8).bind fun x2 =>
  (f_X8_digest_43 lots h a0 x2 0).bind fun v3 =>
  (gR h a0 8 0).bind fun x4 =>
  (ldI h 0 x4 4).bind fun x5 =>
  (isO h a0 8).bind fun _ =>
  (f_X8_sums h a0 v3 79 x5).bind fun x6 =>
  (isO h a0 8).bind fun _ =>
  (f_X8_heirs h a0).bind fun x7 =>
  (isO h a0 8).bind fun _ =>
  (f_X8_sums h a0 x6 91 (7 * x7)).bind fun x8 =>
  (gR h a0 8 0).bind fun x9 =>
  (ldI h 0 x9 5).bind fun x10 =>
  (isO h a0 8).bind fun _ =>
  (f_X8_sums h a0 x8 133 (3 * x10)).bind fun x11 =>
  (gJ h a0 8 4).bind fun x12 =>
  (gJ h a0 8 5).bind fun x13 =>
  some ((31 * ((31 * x11) + x12)) + x13)
