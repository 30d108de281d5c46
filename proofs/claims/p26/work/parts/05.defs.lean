/-! what each method computes (by program, out of the bytecode) -/
def f_X10_isPlace (x0 : Int32) (h : HP) : Int32 :=
  if x0 < 0 then
    (0 : Int32)
  else
    if (4 : Int32) ≤ x0 then
      (0 : Int32)
    else
      (1 : Int32)
theorem b_X10_isPlace (x0 : Int32) (h : HP) : f_X10_isPlace x0 h = 0 ∨ f_X10_isPlace x0 h = 1 := by
  unfold f_X10_isPlace
  (repeat' split) <;> first | exact Or.inl rfl | exact Or.inr rfl | (simp; done)
def f_X5_firstOf (o0 : Nat) (x1 : Int32) (h : HP) : Int32 :=
  ((h o0 0) * x1) + ((h o0 1) * ((x1 * (x1 - (1 : Int32))) / (2 : Int32)))
def f_X5_allFrames (o0 : Nat) (h : HP) : Int32 :=
  f_X5_firstOf o0 (30 : Int32) h
def f_X5_hasFrame (o0 : Nat) (x1 : Int32) (h : HP) : Int32 :=
  if x1 < 0 then
    (0 : Int32)
  else
    if (f_X5_allFrames o0 h) ≤ x1 then
      (0 : Int32)
    else
      (1 : Int32)
theorem b_X5_hasFrame (o0 : Nat) (x1 : Int32) (h : HP) : f_X5_hasFrame o0 x1 h = 0 ∨ f_X5_hasFrame o0 x1 h = 1 := by
  unfold f_X5_hasFrame
  (repeat' split) <;> first | exact Or.inl rfl | exact Or.inr rfl | (simp; done)
def f_X5_isCheck (x0 : Int32) (h : HP) : Int32 :=
  if (jrem x0 (5 : Int32)) = (4 : Int32) then
    (1 : Int32)
  else
    (0 : Int32)
theorem b_X5_isCheck (x0 : Int32) (h : HP) : f_X5_isCheck x0 h = 0 ∨ f_X5_isCheck x0 h = 1 := by
  unfold f_X5_isCheck
  (repeat' split) <;> first | exact Or.inl rfl | exact Or.inr rfl | (simp; done)
def f_X8_atFirst (x0 : Int32) (x1 : Int32) (h : HP) : Int32 :=
  jrem (((7 : Int32) * x0) + ((3 : Int32) * x1)) (16 : Int32)
def f_X8_indexOf_L2 : Nat → Nat → Int32 → Int32 → HP → Option (Int32)
  | 0, _, _, _, _ => none
  | n + 1, o0, x1, x2, h =>
  if (h o0 2) ≤ x2 then
    some (-1 : Int32)
  else
    if (40 : Int32) ≤ x2 then
      some (-1 : Int32)
    else
      gd (inB x2 40) (
      if (h (o0 + 1) x2.toNatClampNeg) = x1 then
        some x2
      else
        f_X8_indexOf_L2 n o0 x1 (x2 + (1 : Int32)) h)
def f_X8_indexOf (o0 : Nat) (x1 : Int32) (h : HP) : Option (Int32) :=
  f_X8_indexOf_L2 FU o0 x1 (0 : Int32) h
def f_X8_dataAt (o0 : Nat) (x1 : Int32) (x2 : Int32) (h : HP) : Option (Int32) :=
  ob (f_X8_indexOf o0 ((x1 * (4 : Int32)) + x2) h) (fun q6 =>
  if 0 ≤ q6 then
    some (f_X10_at (o0 + 2) q6 h)
  else
    some (f_X8_atFirst x1 x2 h))
def f_X8_standsAt_L23 : Nat → Nat → Int32 → Int32 → Int32 → Int32 → HP → Option (Int32)
  | 0, _, _, _, _, _, _ => none
  | n + 1, o0, x1, x2, x3, x4, h =>
  if x1 ≤ x4 then
    some x3
  else
    ob (f_X8_dataAt o0 x4 x2 h) (fun q34 =>
    f_X8_standsAt_L23 n o0 x1 x2 (x3 + q34) (x4 + (1 : Int32)) h)
def f_X8_standsAt (o0 : Nat) (x1 : Int32) (x2 : Int32) (h : HP) : Option (Int32) :=
  if (f_X5_isCheck x1 h) = 0 then
    ob (f_X8_dataAt o0 x1 x2 h) (fun q10 =>
    some q10)
  else
    ob (f_X8_standsAt_L23 FU o0 x1 x2 (0 : Int32) ((x1 - (5 : Int32)) + (1 : Int32)) h) (fun q23 =>
    some (jrem q23 (16 : Int32)))
def f_X8_drop (o0 : Nat) (x1 : Int32) (h : HP) : HP :=
  if x1 < 0 then
    h
  else
    if x1 < (h o0 2) then
      tb (hset h o0 2 ((h o0 2) - (1 : Int32))) (fun h24 =>
      tb (f_X10_put (o0 + 1) x1 (f_X10_at (o0 + 1) (h24 o0 2) h24) h24) (fun q39 =>
      tb (f_X10_put (o0 + 2) x1 (f_X10_at (o0 + 2) (q39 o0 2) q39) q39) (fun q58 =>
      q58)))
    else
      h
def f_X8_write (o0 : Nat) (x1 : Int32) (x2 : Int32) (x3 : Int32) (h : HP) : Option (Int32 × HP) :=
  ob (f_X8_indexOf o0 ((x1 * (4 : Int32)) + x2) h) (fun q10 =>
  if x3 = (f_X8_atFirst x1 x2 h) then
    tb (f_X8_drop o0 q10 h) (fun q27 =>
    some ((1 : Int32), q27))
  else
    if 0 ≤ q10 then
      tb (
        if 0 ≤ q10 then
          (q10, h)
        else
          (h o0 2, hset h o0 2 ((h o0 2) + (1 : Int32)))) (fun j50 =>
      tb (f_X10_put (o0 + 1) j50.1 ((x1 * (4 : Int32)) + x2) j50.2) (fun q77 =>
      tb (f_X10_put (o0 + 2) j50.1 x3 q77) (fun q87 =>
      some ((1 : Int32), q87))))
    else
      if (h o0 2) < (40 : Int32) then
        tb (
          if 0 ≤ q10 then
            (q10, h)
          else
            (h o0 2, hset h o0 2 ((h o0 2) + (1 : Int32)))) (fun j50 =>
        tb (f_X10_put (o0 + 1) j50.1 ((x1 * (4 : Int32)) + x2) j50.2) (fun q77 =>
        tb (f_X10_put (o0 + 2) j50.1 x3 q77) (fun q87 =>
        some ((1 : Int32), q87))))
      else
        some ((0 : Int32), h))
def f_X10_pressSymbol (x1 : Int32) (x2 : Int32) (x3 : Int32) (h : HP) : Option (Int32 × HP) :=
  if (f_X5_hasFrame 2 x1 h) = 0 then
    some ((-1 : Int32), h)
  else
    if (f_X10_isPlace x2 h) = 0 then
      some ((-2 : Int32), h)
    else
      if x3 < 0 then
        some ((-2 : Int32), h)
      else
        if x3 < (16 : Int32) then
          if (f_X5_isCheck x1 h) = 0 then
            ob (f_X8_standsAt 5 x1 x2 h) (fun q55 =>
            if q55 = x3 then
              some ((-5 : Int32), h)
            else
              ob (f_X8_write 5 x1 x2 x3 h) (fun q79 =>
              if q79.1 = 0 then
                some ((-3 : Int32), q79.2)
              else
                some (q55, q79.2)))
          else
            some ((-4 : Int32), h)
        else
          some ((-2 : Int32), h)
def f_X2_stateAt (x1 : Int32) (h : HP) : Int32 :=
  if x1 < 0 then
    (0 : Int32)
  else
    if (4 : Int32) ≤ x1 then
      (0 : Int32)
    else
      h 26 x1.toNatClampNeg
def f_X2_dropOldest_L8 : Nat → Int32 → HP → Option (HP)
  | 0, _, _ => none
  | n + 1, x2, h =>
  if (4 : Int32) ≤ x2 then
    some h
  else
    gd (inB x2 4) (
    gd (inB (x2 - (1 : Int32)) 4) (
    gd (isSt (h 26 x2.toNatClampNeg)) (
    f_X2_dropOldest_L8 n (x2 + (1 : Int32)) (hset h 26 (x2 - (1 : Int32)).toNatClampNeg (h 26 x2.toNatClampNeg)))))
def f_X2_dropOldest  (h : HP) : Option (HP) :=
  if f_X2_stateAt (0 : Int32) h = 0 then
    none
  else gd (isSt (f_X2_stateAt (0 : Int32) h)) (
    ob (f_X2_dropOldest_L8 FU (1 : Int32) h) (fun q8 =>
    ob (
      if (4 : Int32) ≤ 0 then
        some q8
      else
        gd (inB ((4 : Int32) - (1 : Int32)) 4) (
        some (hset q8 26 ((4 : Int32) - (1 : Int32)).toNatClampNeg (f_X2_stateAt (0 : Int32) h)))) (fun j42 =>
    some (hset j42 25 1 ((j42 25 1) - (1 : Int32))))))
def f_X1_copyFrom (o0 : Nat) (o1 : Nat) (h : HP) : HP :=
  tb (hset h o0 0 (h o1 0)) (fun h10 =>
  tb (hset h10 o0 1 (h10 o1 1)) (fun h18 =>
  tb (hset h18 o0 2 (h18 o1 2)) (fun h26 =>
  tb (hset h26 o0 3 (h26 o1 3)) (fun h34 =>
  tb (hset h34 o0 4 (h34 o1 4)) (fun h42 =>
  hset h42 o0 5 (h42 o1 5))))))
def f_X4_copyFrom (o0 : Nat) (o1 : Nat) (h : HP) : HP :=
  tb (hcpy h (o1 + 1) (o0 + 1) 32) (fun h17 =>
  hset h17 o0 1 (h17 o1 1))
def f_X5_copyFrom (o0 : Nat) (o1 : Nat) (h : HP) : HP :=
  tb (hset h o0 0 (h o1 0)) (fun h10 =>
  tb (hset h10 o0 1 (h10 o1 1)) (fun h18 =>
  tb (hset h18 o0 2 (h18 o1 2)) (fun h26 =>
  tb (hset h26 o0 3 (h26 o1 3)) (fun h34 =>
  tb (hset h34 o0 4 (h34 o1 4)) (fun h42 =>
  hset h42 o0 5 (h42 o1 5))))))
def f_X8_copyFrom (o0 : Nat) (o1 : Nat) (h : HP) : HP :=
  tb (hcpy h (o1 + 1) (o0 + 1) 40) (fun h16 =>
  tb (hcpy h16 (o1 + 2) (o0 + 2) 40) (fun h32 =>
  hset h32 o0 2 (h32 o1 2)))
def f_X6_copyFrom (o0 : Nat) (o1 : Nat) (h : HP) : HP :=
  tb (f_X5_copyFrom (o0 + 1) (o1 + 1) h) (fun q8 =>
  tb (f_X4_copyFrom (o0 + 2) (o1 + 2) q8) (fun q19 =>
  tb (f_X8_copyFrom (o0 + 4) (o1 + 4) q19) (fun q30 =>
  tb (f_X1_copyFrom (o0 + 7) (o1 + 7) q30) (fun q41 =>
  q41))))
def f_X2_add (o1 : Nat) (h : HP) : Option (HP) :=
  ob (
    if (h 25 1) < (4 : Int32) then
      some h
    else
      ob (f_X2_dropOldest h) (fun q9 =>
      some q9)) (fun j5 =>
  if f_X2_stateAt (j5 25 1) j5 = 0 then
    some j5
  else gd (isSt (f_X2_stateAt (j5 25 1) j5)) (
    tb (f_X6_copyFrom ((f_X2_stateAt (j5 25 1) j5).toNatClampNeg) o1 j5) (fun q27 =>
    some (hset q27 25 1 ((q27 25 1) + (1 : Int32))))))
def f_X10_recorded (x1 : Int32) (h : HP) : Option (Int32 × HP) :=
  if x1 < 0 then
    some (x1, h)
  else
    ob (f_X2_add 9 h) (fun q12 =>
    some (x1, q12))
def f_X10_press (x1 : Int32) (x2 : Int32) (x3 : Int32) (h : HP) : Option (Int32 × HP) :=
  tb (f_X6_copyFrom 9 1 h) (fun q8 =>
  ob (f_X10_pressSymbol x1 x2 x3 q8) (fun q16 =>
  ob (f_X10_recorded q16.1 q16.2) (fun q19 =>
  some (q19.1, q19.2))))
def f_X4_add (o0 : Nat) (x1 : Int32) (x2 : Int32) (x3 : Int32) (x4 : Int32) (h : HP) : Int32 × HP :=
  if (h o0 1) < (8 : Int32) then
    tb (f_X10_put (o0 + 1) ((h o0 1) * (4 : Int32)) x1 h) (fun q22 =>
    tb (f_X10_put (o0 + 1) (((q22 o0 1) * (4 : Int32)) + (1 : Int32)) x2 q22) (fun q38 =>
    tb (f_X10_put (o0 + 1) (((q38 o0 1) * (4 : Int32)) + (2 : Int32)) x3 q38) (fun q54 =>
    tb (f_X10_put (o0 + 1) (((q54 o0 1) * (4 : Int32)) + (3 : Int32)) x4 q54) (fun q71 =>
    ((1 : Int32), hset q71 o0 1 ((q71 o0 1) + (1 : Int32)))))))
  else
    ((0 : Int32), h)
def f_X7_damagedIn_L10 : Nat → Int32 → Int32 → Int32 → Int32 → HP → Option (Int32)
  | 0, _, _, _, _, _ => none
  | n + 1, x2, x3, x4, x5, h =>
  if x2 ≤ x5 then
    some x4
  else
    if (3810 : Int32) ≤ x5 then
      some x4
    else
      gd (inB x5 3810) (
      f_X7_damagedIn_L10 n x2 x3 (if ((h 67 x5.toNatClampNeg) &&& x3) = 0 then x4 else (x4 + (1 : Int32))) (x5 + (1 : Int32)) h)
def f_X7_damagedIn (x1 : Int32) (x2 : Int32) (x3 : Int32) (h : HP) : Option (Int32) :=
  ob (f_X7_damagedIn_L10 FU x2 x3 (0 : Int32) (jmax x1 (0 : Int32)) h) (fun q10 =>
  some q10)
def f_X4_isLike_L19 : Nat → Nat → Nat → Int32 → Int32 → HP → Option (Int32)
  | 0, _, _, _, _, _ => none
  | n + 1, o0, o1, x2, x3, h =>
  if x2 = 0 then
    some x2
  else
    if ((h o0 1) * (4 : Int32)) ≤ x3 then
      some x2
    else
      tb ((if (f_X10_at (o0 + 1) x3 h) = (f_X10_at (o1 + 1) x3 h) then (1 : Int32) else (0 : Int32))) (fun v57 =>
      f_X4_isLike_L19 n o0 o1 v57 (x3 + (1 : Int32)) h)
def f_X4_isLike (o0 : Nat) (o1 : Nat) (h : HP) : Option (Int32) :=
  tb ((if (h o0 1) = (h o1 1) then (1 : Int32) else (0 : Int32))) (fun v16 =>
  ob (f_X4_isLike_L19 FU o0 o1 v16 (0 : Int32) h) (fun q19 =>
  gd (is01 q19) (
  some q19)))
def f_X5_hasSpiralOf (o0 : Nat) (o1 : Nat) (h : HP) : Int32 :=
  if (h o0 0) = (h o1 0) then
    if (h o0 1) = (h o1 1) then
      (1 : Int32)
    else
      (0 : Int32)
  else
    (0 : Int32)
theorem b_X5_hasSpiralOf (o0 : Nat) (o1 : Nat) (h : HP) : f_X5_hasSpiralOf o0 o1 h = 0 ∨ f_X5_hasSpiralOf o0 o1 h = 1 := by
  unfold f_X5_hasSpiralOf
  (repeat' split) <;> first | exact Or.inl rfl | exact Or.inr rfl | (simp; done)
def f_X5_dataAhead (x0 : Int32) (h : HP) : Int32 :=
  if (jrem x0 (5 : Int32)) = 0 then
    x0 - (2 : Int32)
  else
    x0 - (1 : Int32)
def f_X5_dataBehind (x0 : Int32) (h : HP) : Int32 :=
  if (jrem x0 (5 : Int32)) = (3 : Int32) then
    x0 + (2 : Int32)
  else
    x0 + (1 : Int32)
def f_X7_canBeFilled (x1 : Int32) (x2 : Int32) (h : HP) : Int32 :=
  if (f_X5_isCheck x1 h) = 0 then
    if (f_X5_dataAhead x1 h) < 0 then
      (0 : Int32)
    else
      if x2 ≤ (f_X5_dataBehind x1 h) then
        (0 : Int32)
      else
        if (1 : Int32) < (f_X10_at 68 (f_X5_dataAhead x1 h) h) then
          (0 : Int32)
        else
          if (1 : Int32) < (f_X10_at 68 (f_X5_dataBehind x1 h) h) then
            (0 : Int32)
          else
            (1 : Int32)
  else
    (0 : Int32)
theorem b_X7_canBeFilled (x1 : Int32) (x2 : Int32) (h : HP) : f_X7_canBeFilled x1 x2 h = 0 ∨ f_X7_canBeFilled x1 x2 h = 1 := by
  unfold f_X7_canBeFilled
  (repeat' split) <;> first | exact Or.inl rfl | exact Or.inr rfl | (simp; done)
def f_X7_judgeGroup_L40 : Nat → Int32 → Int32 → Int32 → Int32 → HP → Option (HP)
  | 0, _, _, _, _, _ => none
  | n + 1, x2, x3, x5, x6, h =>
  if x2 ≤ x6 then
    some h
  else
    tb (f_X10_put 68 x6 (if ((f_X10_at 67 x6 h) &&& x3) = 0 then (0 : Int32) else x5) h) (fun q72 =>
    f_X7_judgeGroup_L40 n x2 x3 x5 (x6 + (1 : Int32)) q72)
def f_X7_judgeGroup (x1 : Int32) (x2 : Int32) (x3 : Int32) (h : HP) : Option (HP) :=
  ob (
    if (x2 - x1) = (5 : Int32) then
      ob (f_X7_damagedIn x1 x2 x3 h) (fun q11 =>
      if q11 = (1 : Int32) then
        some (1 : Int32)
      else
        some (0 : Int32))
    else
      some (0 : Int32)) (fun j4 =>
  tb ((if j4 = 0 then (3 : Int32) else (1 : Int32))) (fun v35 =>
  ob (f_X7_judgeGroup_L40 FU x2 x3 v35 x1 h) (fun q40 =>
  some q40)))
def f_X7_judge_L10 : Nat → Int32 → Int32 → Int32 → HP → Option (HP)
  | 0, _, _, _, _ => none
  | n + 1, x1, x2, x3, h =>
  if x2 ≤ x3 then
    some h
  else
    ob (f_X7_judgeGroup x3 (jmin (x3 + (5 : Int32)) x2) x1 h) (fun q25 =>
    f_X7_judge_L10 n x1 x2 (x3 + (5 : Int32)) q25)
def f_X7_judge_L36 : Nat → Int32 → Int32 → HP → Option (HP)
  | 0, _, _, _ => none
  | n + 1, x2, x3, h =>
  if x2 ≤ x3 then
    some h
  else
    tb (
      if (f_X10_at 68 x3 h) = (3 : Int32) then
        if (f_X7_canBeFilled x3 x2 h) = 0 then
          h
        else
          tb (f_X10_put 68 x3 (2 : Int32) h) (fun q68 =>
          q68)
      else
        h) (fun j50 =>
    f_X7_judge_L36 n x2 (x3 + (1 : Int32)) j50)
def f_X7_judge (x1 : Int32) (h : HP) : Option (HP) :=
  ob (f_X7_judge_L10 FU x1 (f_X5_allFrames 64 h) (0 : Int32) h) (fun q10 =>
  ob (f_X7_judge_L36 FU (f_X5_allFrames 64 h) (0 : Int32) q10) (fun q36 =>
  some q36))
def f_X4_fromOf (o0 : Nat) (x1 : Int32) (h : HP) : Int32 :=
  f_X10_at (o0 + 1) (x1 * (4 : Int32)) h
def f_X4_innerOf (o0 : Nat) (x1 : Int32) (h : HP) : Int32 :=
  f_X10_at (o0 + 1) ((x1 * (4 : Int32)) + (2 : Int32)) h
def f_X4_outerOf (o0 : Nat) (x1 : Int32) (h : HP) : Int32 :=
  f_X10_at (o0 + 1) ((x1 * (4 : Int32)) + (3 : Int32)) h
def f_X4_toOf (o0 : Nat) (x1 : Int32) (h : HP) : Int32 :=
  f_X10_at (o0 + 1) ((x1 * (4 : Int32)) + (1 : Int32)) h
def f_X5_framesOf (o0 : Nat) (x1 : Int32) (h : HP) : Int32 :=
  (h o0 0) + ((h o0 1) * x1)
def f_X7_markRow_L7 : Nat → Int32 → Int32 → Int32 → HP → Option (HP)
  | 0, _, _, _, _ => none
  | n + 1, x2, x3, x4, h =>
  if x2 < x4 then
    some h
  else
    if (3810 : Int32) ≤ x4 then
      some h
    else
      gd (inB x4 3810) (
      gd (inB x4 3810) (
      f_X7_markRow_L7 n x2 x3 (x4 + (1 : Int32)) (hset h 67 x4.toNatClampNeg ((h 67 x4.toNatClampNeg) ||| x3))))
def f_X7_markRow (x1 : Int32) (x2 : Int32) (x3 : Int32) (h : HP) : Option (HP) :=
  ob (f_X7_markRow_L7 FU x2 x3 (jmax x1 (0 : Int32)) h) (fun q7 =>
  some q7)
def f_X7_markScratch_L49 : Nat → Int32 → Int32 → Int32 → Int32 → Int32 → HP → Option (HP)
  | 0, _, _, _, _, _, _ => none
  | n + 1, x1, x2, x3, x4, x5, h =>
  if x4 < x5 then
    some h
  else
    ob (f_X7_markRow ((f_X5_firstOf 64 x5 h) + ((x2 * (f_X5_framesOf 64 x5 h)) / (360 : Int32))) ((f_X5_firstOf 64 x5 h) + (((x3 * (f_X5_framesOf 64 x5 h)) - (1 : Int32)) / (360 : Int32))) ((1 : Int32) <<< (x1 &&& 31)) h) (fun q106 =>
    f_X7_markScratch_L49 n x1 x2 x3 x4 (x5 + (1 : Int32)) q106)
def f_X7_markScratch (x1 : Int32) (h : HP) : Option (HP) :=
  ob (f_X7_markScratch_L49 FU x1 (f_X4_fromOf 65 x1 h) ((f_X4_toOf 65 x1 h) + (1 : Int32)) (jmin (f_X4_outerOf 65 x1 h) (29 : Int32)) (jmax (f_X4_innerOf 65 x1 h) (0 : Int32)) h) (fun q49 =>
  some q49)
def f_J7_fill_53178_L5 : Nat → Nat → Int32 → Int32 → Int32 → HP → Option (HP)
  | 0, _, _, _, _, _ => none
  | n + 1, o0, x1, x2, x3, h =>
  if x3 ≤ x2 then
    some h
  else
    gd (inB x2 (ln o0)) (
    f_J7_fill_53178_L5 n o0 x1 (x2 + (1 : Int32)) x3 (hset h o0 x2.toNatClampNeg x1))
def f_J7_fill_53178 (o0 : Nat) (x1 : Int32) (h : HP) : Option (HP) :=
  ob (f_J7_fill_53178_L5 FU o0 x1 (0 : Int32) (Int32.ofNat (ln o0)) h) (fun q5 =>
  some q5)
def f_X7_of_L60 : Nat → Nat → Int32 → HP → Option (HP)
  | 0, _, _, _ => none
  | n + 1, o1, x2, h =>
  if (h 65 1) ≤ x2 then
    some h
  else
    ob (f_X7_markScratch x2 h) (fun q73 =>
    f_X7_of_L60 n o1 (x2 + (1 : Int32)) q73)
def f_X7_of (o1 : Nat) (h : HP) : Option (HP) :=
  if (f_X5_hasSpiralOf 64 (o1 + 1) h) = 0 then
    tb (f_X5_copyFrom 64 (o1 + 1) h) (fun q36 =>
    tb (f_X4_copyFrom 65 (o1 + 2) q36) (fun q47 =>
    ob (f_J7_fill_53178 67 (0 : Int32) q47) (fun q55 =>
    ob (f_X7_of_L60 FU o1 (0 : Int32) q55) (fun q60 =>
    ob (f_X7_judge (-1 : Int32) q60) (fun q84 =>
    some q84)))))
  else
    ob (f_X4_isLike 65 (o1 + 2) h) (fun q22 =>
    if q22 = 0 then
      tb (f_X5_copyFrom 64 (o1 + 1) h) (fun q36 =>
      tb (f_X4_copyFrom 65 (o1 + 2) q36) (fun q47 =>
      ob (f_J7_fill_53178 67 (0 : Int32) q47) (fun q55 =>
      ob (f_X7_of_L60 FU o1 (0 : Int32) q55) (fun q60 =>
      ob (f_X7_judge (-1 : Int32) q60) (fun q84 =>
      some q84)))))
    else
      some h)
def f_X10_addScratch (x1 : Int32) (x2 : Int32) (x3 : Int32) (x4 : Int32) (h : HP) : Option (Int32 × HP) :=
  tb ((if x1 < 0 then (0 : Int32) else (if x2 < x1 then (0 : Int32) else (if (360 : Int32) ≤ x2 then (0 : Int32) else (1 : Int32))))) (fun v21 =>
  tb ((if x3 < 0 then (0 : Int32) else (if x4 < x3 then (0 : Int32) else (if (30 : Int32) ≤ x4 then (0 : Int32) else (1 : Int32))))) (fun v45 =>
  if v21 = 0 then
    some ((-2 : Int32), h)
  else
    if v45 = 0 then
      some ((-2 : Int32), h)
    else
      tb (f_X4_add 3 x1 x2 x3 x4 h) (fun q72 =>
      if q72.1 = 0 then
        some ((-3 : Int32), q72.2)
      else
        ob (f_X7_of 1 q72.2) (fun q89 =>
        ob (f_X7_damagedIn (0 : Int32) (3810 : Int32) (-1 : Int32) q89) (fun q97 =>
        some (q97, q89))))))
def f_X10_scratch (x1 : Int32) (x2 : Int32) (x3 : Int32) (x4 : Int32) (h : HP) : Option (Int32 × HP) :=
  tb (f_X6_copyFrom 9 1 h) (fun q8 =>
  ob (f_X10_addScratch x1 x2 x3 x4 q8) (fun q18 =>
  ob (f_X10_recorded q18.1 q18.2) (fun q21 =>
  some (q21.1, q21.2))))
def f_X4_has (o0 : Nat) (x1 : Int32) (h : HP) : Int32 :=
  if x1 < 0 then
    (0 : Int32)
  else
    if (h o0 1) ≤ x1 then
      (0 : Int32)
    else
      (1 : Int32)
theorem b_X4_has (o0 : Nat) (x1 : Int32) (h : HP) : f_X4_has o0 x1 h = 0 ∨ f_X4_has o0 x1 h = 1 := by
  unfold f_X4_has
  (repeat' split) <;> first | exact Or.inl rfl | exact Or.inr rfl | (simp; done)
def f_X4_drop_L13 : Nat → Nat → Int32 → HP → Option (HP)
  | 0, _, _, _ => none
  | n + 1, o0, x2, h =>
  if ((32 : Int32) - (4 : Int32)) ≤ x2 then
    some h
  else
    tb (f_X10_put (o0 + 1) x2 (f_X10_at (o0 + 1) (x2 + (4 : Int32)) h) h) (fun q39 =>
    f_X4_drop_L13 n o0 (x2 + (1 : Int32)) q39)
def f_X4_drop (o0 : Nat) (x1 : Int32) (h : HP) : Option (HP) :=
  if (f_X4_has o0 x1 h) = 0 then
    some h
  else
    ob (f_X4_drop_L13 FU o0 (x1 * (4 : Int32)) h) (fun q13 =>
    some (hset q13 o0 1 ((q13 o0 1) - (1 : Int32))))
def f_X10_polishAway (x1 : Int32) (h : HP) : Option (Int32 × HP) :=
  if (f_X4_has 3 x1 h) = 0 then
    some ((-1 : Int32), h)
  else
    ob (f_X4_drop 3 x1 h) (fun q24 =>
    ob (f_X7_of 1 q24) (fun q35 =>
    ob (f_X7_damagedIn (0 : Int32) (3810 : Int32) (-1 : Int32) q35) (fun q43 =>
    some (q43, q35))))
def f_X10_polish (x1 : Int32) (h : HP) : Option (Int32 × HP) :=
  tb (f_X6_copyFrom 9 1 h) (fun q8 =>
  ob (f_X10_polishAway x1 q8) (fun q14 =>
  ob (f_X10_recorded q14.1 q14.2) (fun q17 =>
  some (q17.1, q17.2))))
def f_X1_goToStart (o0 : Nat) (o1 : Nat) (h : HP) : HP :=
  tb (hset h o0 0 (0 : Int32)) (fun h8 =>
  hset h8 o0 1 (f_X5_framesOf o1 (0 : Int32) h8))
def f_X5_change (o0 : Nat) (x1 : Int32) (x2 : Int32) (h : HP) : HP :=
  if x1 = 0 then
    hset h o0 0 x2
  else
  if x1 = 1 then
    hset h o0 1 x2
  else
  if x1 = 2 then
    hset h o0 2 x2
  else
  if x1 = 3 then
    hset h o0 3 x2
  else
  if x1 = 4 then
    hset h o0 4 x2
  else
    hset h o0 5 x2
def f_X5_isInRange (x0 : Int32) (x1 : Int32) (h : HP) : Int32 :=
  if x0 = 0 then
    if x1 < (8 : Int32) then
      (0 : Int32)
    else
      if (40 : Int32) < x1 then
        (0 : Int32)
      else
        (1 : Int32)
  else
  if x0 = 1 then
    if x1 < 0 then
      (0 : Int32)
    else
      if (6 : Int32) < x1 then
        (0 : Int32)
      else
        (1 : Int32)
  else
  if x0 = 2 then
    if x1 < (1 : Int32) then
      (0 : Int32)
    else
      if (9 : Int32) < x1 then
        (0 : Int32)
      else
        (1 : Int32)
  else
  if x0 = 3 then
    if x1 < 0 then
      (0 : Int32)
    else
      if (5 : Int32) < x1 then
        (0 : Int32)
      else
        (1 : Int32)
  else
  if x0 = 4 then
    if x1 < (60 : Int32) then
      (0 : Int32)
    else
      if (140 : Int32) < x1 then
        (0 : Int32)
      else
        (1 : Int32)
  else
  if x0 = 5 then
    if x1 < 0 then
      (0 : Int32)
    else
      if (20 : Int32) < x1 then
        (0 : Int32)
      else
        (1 : Int32)
  else
    (0 : Int32)
theorem b_X5_isInRange (x0 : Int32) (x1 : Int32) (h : HP) : f_X5_isInRange x0 x1 h = 0 ∨ f_X5_isInRange x0 x1 h = 1 := by
  unfold f_X5_isInRange
  (repeat' split) <;> first | exact Or.inl rfl | exact Or.inr rfl | (simp; done)
def f_X5_settingAt (o0 : Nat) (x1 : Int32) (h : HP) : Int32 :=
  if x1 = 0 then
    h o0 0
  else
  if x1 = 1 then
    h o0 1
  else
  if x1 = 2 then
    h o0 2
  else
  if x1 = 3 then
    h o0 3
  else
  if x1 = 4 then
    h o0 4
  else
    h o0 5
def f_X10_set (x1 : Int32) (x2 : Int32) (h : HP) : Option (Int32 × HP) :=
  if (f_X5_isInRange x1 x2 h) = 0 then
    some ((-2 : Int32), h)
  else
    if (f_X5_settingAt 2 x1 h) = x2 then
      some ((-5 : Int32), h)
    else
      tb (f_X6_copyFrom 9 1 h) (fun q39 =>
      tb (f_X5_change 2 x1 x2 q39) (fun q51 =>
      tb (
        if (1 : Int32) < x1 then
          q51
        else
          tb (f_X1_goToStart 8 2 q51) (fun q73 =>
          q73)) (fun j56 =>
      ob (f_X10_recorded (f_X5_settingAt 2 x1 h) j56) (fun q78 =>
      some (q78.1, q78.2)))))
def f_X1_isNear (o0 : Nat) (x1 : Int32) (o2 : Nat) (h : HP) : Int32 :=
  if (h o2 3) < (jabs ((h o0 1) - x1)) then
    (0 : Int32)
  else
    (1 : Int32)
theorem b_X1_isNear (o0 : Nat) (x1 : Int32) (o2 : Nat) (h : HP) : f_X1_isNear o0 x1 o2 h = 0 ∨ f_X1_isNear o0 x1 o2 h = 1 := by
  unfold f_X1_isNear
  (repeat' split) <;> first | exact Or.inl rfl | exact Or.inr rfl | (simp; done)
def f_X1_spin (o0 : Nat) (x1 : Int32) (x2 : Int32) (o3 : Nat) (h : HP) : HP :=
  tb (hset h o0 1 (if x2 ≤ (h o0 1) then (jmax x2 ((h o0 1) - (x1 * (h o3 2)))) else (jmin x2 ((h o0 1) + (x1 * (h o3 2)))))) (fun h47 =>
  hset h47 o0 2 ((h47 o0 2) + x1))
def f_X5_turnOf_L2 : Nat → Nat → Int32 → Int32 → HP → Option (Int32)
  | 0, _, _, _, _ => none
  | n + 1, o0, x1, x2, h =>
  if (29 : Int32) ≤ x2 then
    some x2
  else
    if x1 < (f_X5_firstOf o0 (x2 + (1 : Int32)) h) then
      some x2
    else
      f_X5_turnOf_L2 n o0 x1 (x2 + (1 : Int32)) h
def f_X5_turnOf (o0 : Nat) (x1 : Int32) (h : HP) : Option (Int32) :=
  ob (f_X5_turnOf_L2 FU o0 x1 (0 : Int32) h) (fun q2 =>
  some q2)
def f_X7_isDamaged (x1 : Int32) (h : HP) : Int32 :=
  if (f_X10_at 67 x1 h) = 0 then
    (0 : Int32)
  else
    (1 : Int32)
theorem b_X7_isDamaged (x1 : Int32) (h : HP) : f_X7_isDamaged x1 h = 0 ∨ f_X7_isDamaged x1 h = 1 := by
  unfold f_X7_isDamaged
  (repeat' split) <;> first | exact Or.inl rfl | exact Or.inr rfl | (simp; done)
def f_X1_readFrames_L15 : Nat → Nat → Nat → Int32 → Int32 → Int32 → Int32 → Int32 → HP → Option (Int32 × Int32 × HP)
  | 0, _, _, _, _, _, _, _, _ => none
  | n + 1, o0, o2, x1, x4, x5, x6, x7, h =>
  if (100000 : Int32) ≤ x7 then
    some (x4, x5, h)
  else
    if x1 ≤ x4 then
      some (x4, x5, h)
    else
      if x6 ≤ (h o0 0) then
        some (x4, x5, h)
      else
        ob (f_X5_turnOf o2 (h o0 0) h) (fun q43 =>
        tb (f_X1_spin o0 (1 : Int32) (f_X5_framesOf o2 q43 h) o2 h) (fun q56 =>
        tb (
          if (f_X1_isNear o0 (f_X5_framesOf o2 q43 h) o2 q56) = 0 then
            (x4, x5, q56)
          else
            tb (x5 + (if (f_X7_isDamaged (q56 o0 0) q56) = 0 then (1 : Int32) else (0 : Int32))) (fun v88 =>
            (x4 + (1 : Int32), v88, hset q56 o0 0 ((q56 o0 0) + (1 : Int32))))) (fun j66 =>
        f_X1_readFrames_L15 n o0 o2 x1 j66.1 j66.2.1 x6 (x7 + (1 : Int32)) j66.2.2)))
def f_X1_readFrames (o0 : Nat) (x1 : Int32) (o2 : Nat) (h : HP) : Option (Int32 × HP) :=
  ob (f_X1_readFrames_L15 FU o0 o2 x1 (0 : Int32) (0 : Int32) (f_X5_allFrames o2 h) (0 : Int32) h) (fun q15 =>
  tb (hset q15.2.2 o0 3 ((q15.2.2 o0 3) + q15.1)) (fun h122 =>
  some (q15.2.1, hset h122 o0 4 ((h122 o0 4) + q15.2.1))))
def f_X10_playFrames (x1 : Int32) (h : HP) : Option (Int32 × HP) :=
  if x1 < (1 : Int32) then
    some ((-2 : Int32), h)
  else
    if x1 ≤ (999 : Int32) then
      if (h 8 0) < (f_X5_allFrames 2 h) then
        ob (f_X7_of 1 h) (fun q64 =>
        ob (f_X1_readFrames 8 x1 2 q64) (fun q67 =>
        some (q67.1, q67.2)))
      else
        some ((-5 : Int32), h)
    else
      some ((-2 : Int32), h)
def f_X10_play (x1 : Int32) (h : HP) : Option (Int32 × HP) :=
  tb (f_X6_copyFrom 9 1 h) (fun q8 =>
  ob (f_X10_playFrames x1 q8) (fun q14 =>
  ob (f_X10_recorded q14.1 q14.2) (fun q17 =>
  some (q17.1, q17.2))))
def f_X1_jump (o0 : Nat) (x1 : Int32) (x2 : Int32) (o3 : Nat) (x4 : Int32) (h : HP) : Int32 × HP :=
  tb (
    if (((x2 - x1) * x4) / (100 : Int32)) = 0 then
      tb ((if (x2 - x1) ≤ 0 then (-1 : Int32) else (1 : Int32))) (fun v30 =>
      v30)
    else
      ((x2 - x1) * x4) / (100 : Int32)) (fun j17 =>
  tb (jmax (0 : Int32) (jmin (29 : Int32) (x1 + j17))) (fun v45 =>
  tb (f_X1_spin o0 ((h o3 5) + (jabs (v45 - x1))) (f_X5_framesOf o3 v45 h) o3 h) (fun q71 =>
  tb (hset q71 o0 0 (f_X5_firstOf o3 v45 q71)) (fun h86 =>
  (v45, hset h86 o0 5 ((h86 o0 5) + (1 : Int32)))))))
def f_X1_goTo_L20 : Nat → Nat → Nat → Int32 → Int32 → Int32 → Int32 → HP → Option (HP)
  | 0, _, _, _, _, _, _, _ => none
  | n + 1, o0, o2, x3, x4, x5, x6, h =>
  if (100000 : Int32) ≤ x6 then
    some h
  else
    if x5 = x4 then
      some h
    else
      tb (f_X1_jump o0 x5 x4 o2 x3 h) (fun q41 =>
      f_X1_goTo_L20 n o0 o2 x3 x4 q41.1 (x6 + (1 : Int32)) q41.2)
def f_X1_goTo_L63 : Nat → Nat → Nat → Int32 → Int32 → HP → Option (HP)
  | 0, _, _, _, _, _ => none
  | n + 1, o0, o2, x6, x7, h =>
  if (100000 : Int32) ≤ x7 then
    some h
  else
    if (f_X1_isNear o0 x6 o2 h) = 0 then
      tb (f_X1_spin o0 (1 : Int32) x6 o2 h) (fun q85 =>
      f_X1_goTo_L63 n o0 o2 x6 (x7 + (1 : Int32)) q85)
    else
      some h
def f_X1_goTo (o0 : Nat) (x1 : Int32) (o2 : Nat) (x3 : Int32) (h : HP) : Option (HP) :=
  ob (f_X5_turnOf o2 x1 h) (fun q2 =>
  ob (f_X5_turnOf o2 (h o0 0) h) (fun q12 =>
  ob (f_X1_goTo_L20 FU o0 o2 x3 q2 q12 (0 : Int32) h) (fun q20 =>
  ob (f_X1_goTo_L63 FU o0 o2 (f_X5_framesOf o2 q2 q20) (0 : Int32) q20) (fun q63 =>
  tb (
    if (q63 o0 0) ≤ x1 then
      q63
    else
      tb (hset q63 o0 2 ((q63 o0 2) + (((f_X5_firstOf o2 q2 q63) + (f_X5_framesOf o2 q2 q20)) - (q63 o0 0)))) (fun h132 =>
      hset h132 o0 0 (f_X5_firstOf o2 q2 q63))) (fun j107 =>
  tb (hset j107 o0 2 ((j107 o0 2) + (x1 - (j107 o0 0)))) (fun h152 =>
  some (hset h152 o0 0 x1)))))))
def f_X10_seekFrame (x1 : Int32) (h : HP) : Option (Int32 × HP) :=
  if (f_X5_hasFrame 2 x1 h) = 0 then
    some ((-1 : Int32), h)
  else
    ob (f_X1_goTo 8 x1 2 (h 2 4) h) (fun q52 =>
    some ((q52 8 2) - (h 8 2), q52))
def f_X10_seek (x1 : Int32) (h : HP) : Option (Int32 × HP) :=
  tb (f_X6_copyFrom 9 1 h) (fun q8 =>
  ob (f_X10_seekFrame x1 q8) (fun q14 =>
  ob (f_X10_recorded q14.1 q14.2) (fun q17 =>
  some (q17.1, q17.2))))
def f_X2_takeLatest (o1 : Nat) (h : HP) : Option (Int32 × HP) :=
  if f_X2_stateAt ((h 25 1) - (1 : Int32)) h = 0 then
    some ((0 : Int32), h)
  else gd (isSt (f_X2_stateAt ((h 25 1) - (1 : Int32)) h)) (
    tb (f_X6_copyFrom o1 ((f_X2_stateAt ((h 25 1) - (1 : Int32)) h).toNatClampNeg) h) (fun q19 =>
    some ((1 : Int32), hset q19 25 1 ((q19 25 1) - (1 : Int32)))))
def f_X10_undo  (h : HP) : Option (Int32 × HP) :=
  ob (f_X2_takeLatest 1 h) (fun q8 =>
  if q8.1 = 0 then
    some ((-5 : Int32), q8.2)
  else
    some (q8.2 25 1, q8.2))
def f_X5_groups (o0 : Nat) (h : HP) : Int32 :=
  (f_X5_allFrames o0 h) / (5 : Int32)
def f_X5_groupOf (o0 : Nat) (x1 : Int32) (h : HP) : Int32 :=
  if (f_X5_groups o0 h) ≤ (x1 / (5 : Int32)) then
    (-5 : Int32)
  else
    x1 / (5 : Int32)
def f_X7_howIs (x1 : Int32) (h : HP) : Int32 :=
  f_X10_at 68 x1 h
def f_X8_flatOf (x0 : Int32) (h : HP) : Int32 :=
  (3 : Int32) + (jrem x0 (4 : Int32))
def f_X8_pitOf (x0 : Int32) (h : HP) : Int32 :=
  (3 : Int32) + (x0 / (4 : Int32))
def f_X8_balanceOf_L4 : Nat → Nat → Int32 → Int32 → Int32 → HP → Option (Int32)
  | 0, _, _, _, _, _ => none
  | n + 1, o0, x1, x2, x3, h =>
  if (4 : Int32) ≤ x3 then
    some x2
  else
    ob (f_X8_standsAt o0 x1 x3 h) (fun q12 =>
    tb (x2 + ((f_X8_pitOf q12 h) - (f_X8_flatOf q12 h))) (fun v30 =>
    f_X8_balanceOf_L4 n o0 x1 v30 (x3 + (1 : Int32)) h))
def f_X8_balanceOf (o0 : Nat) (x1 : Int32) (h : HP) : Option (Int32) :=
  ob (f_X8_balanceOf_L4 FU o0 x1 (0 : Int32) (0 : Int32) h) (fun q4 =>
  some q4)
def f_X8_lengthOf_L4 : Nat → Nat → Int32 → Int32 → Int32 → HP → Option (Int32)
  | 0, _, _, _, _, _ => none
  | n + 1, o0, x1, x2, x3, h =>
  if (4 : Int32) ≤ x3 then
    some x2
  else
    ob (f_X8_standsAt o0 x1 x3 h) (fun q12 =>
    tb (x2 + ((f_X8_pitOf q12 h) + (f_X8_flatOf q12 h))) (fun v30 =>
    f_X8_lengthOf_L4 n o0 x1 v30 (x3 + (1 : Int32)) h))
def f_X8_lengthOf (o0 : Nat) (x1 : Int32) (h : HP) : Option (Int32) :=
  ob (f_X8_lengthOf_L4 FU o0 x1 (0 : Int32) (0 : Int32) h) (fun q4 =>
  some q4)
def f_X8_longestRunOf_L4 : Nat → Nat → Int32 → Int32 → Int32 → HP → Option (Int32)
  | 0, _, _, _, _, _ => none
  | n + 1, o0, x1, x2, x3, h =>
  if (4 : Int32) ≤ x3 then
    some x2
  else
    ob (f_X8_standsAt o0 x1 x3 h) (fun q12 =>
    tb (jmax x2 (jmax (f_X8_pitOf q12 h) (f_X8_flatOf q12 h))) (fun v34 =>
    f_X8_longestRunOf_L4 n o0 x1 v34 (x3 + (1 : Int32)) h))
def f_X8_longestRunOf (o0 : Nat) (x1 : Int32) (h : HP) : Option (Int32) :=
  ob (f_X8_longestRunOf_L4 FU o0 x1 (0 : Int32) (0 : Int32) h) (fun q4 =>
  some q4)
def f_X10_frame (x1 : Int32) (x2 : Int32) (h : HP) : Option (Int32 × HP) :=
  if (f_X5_hasFrame 2 x1 h) = 0 then
    some ((-1 : Int32), h)
  else
    if x2 = 0 then
      ob (f_X5_turnOf 2 x1 h) (fun q70 =>
      some (q70, h))
    else
    if x2 = 1 then
      ob (f_X5_turnOf 2 x1 h) (fun q78 =>
      some (x1 - (f_X5_firstOf 2 q78 h), h))
    else
    if x2 = 2 then
      some (f_X5_groupOf 2 x1 h, h)
    else
    if x2 = 3 then
      if (f_X5_isCheck x1 h) = 0 then
        some ((0 : Int32), h)
      else
        some ((1 : Int32), h)
    else
    if x2 = 4 then
      ob (f_X7_of 1 h) (fun q113 =>
      if (f_X7_isDamaged x1 q113) = 0 then
        some ((0 : Int32), q113)
      else
        some ((1 : Int32), q113))
    else
    if x2 = 5 then
      ob (f_X7_of 1 h) (fun q137 =>
      some (f_X7_howIs x1 q137, q137))
    else
    if x2 = 6 then
      ob (f_X8_lengthOf 5 x1 h) (fun q153 =>
      some (q153, h))
    else
    if x2 = 7 then
      ob (f_X8_balanceOf 5 x1 h) (fun q165 =>
      some (q165 + (100 : Int32), h))
    else
    if x2 = 8 then
      ob (f_X8_longestRunOf 5 x1 h) (fun q180 =>
      some (q180, h))
    else
      some ((-2 : Int32), h)
def f_X10_filledSymbol (x1 : Int32) (x2 : Int32) (h : HP) : Option (Int32) :=
  ob (f_X8_standsAt 5 (f_X5_dataAhead x1 h) x2 h) (fun q12 =>
  ob (f_X8_standsAt 5 (f_X5_dataBehind x1 h) x2 h) (fun q28 =>
  some ((q12 + q28) / (2 : Int32))))
def f_X10_toldSymbol (x1 : Int32) (x2 : Int32) (h : HP) : Option (Int32 × HP) :=
  ob (f_X7_of 1 h) (fun q8 =>
  if (f_X7_howIs x1 q8) = (3 : Int32) then
    some ((-5 : Int32), q8)
  else
    if (f_X7_howIs x1 q8) = (2 : Int32) then
      ob (f_X10_filledSymbol x1 x2 q8) (fun q32 =>
      some (q32, q8))
    else
      ob (f_X8_standsAt 5 x1 x2 q8) (fun q47 =>
      some (q47, q8)))
def f_X10_symbol (x1 : Int32) (x2 : Int32) (x3 : Int32) (h : HP) : Option (Int32 × HP) :=
  if (f_X5_hasFrame 2 x1 h) = 0 then
    some ((-1 : Int32), h)
  else
    if (f_X10_isPlace x2 h) = 0 then
      some ((-2 : Int32), h)
    else
      if x3 = 0 then
        ob (f_X8_standsAt 5 x1 x2 h) (fun q48 =>
        some (q48, h))
      else
        ob (f_X10_toldSymbol x1 x2 h) (fun q33 =>
        some (q33.1, q33.2))
def f_X8_lengthOfAll_L5 : Nat → Nat → Int32 → Int32 → Int32 → HP → Option (Int32)
  | 0, _, _, _, _, _ => none
  | n + 1, o0, x2, x3, x4, h =>
  if x2 ≤ x4 then
    some x3
  else
    ob (f_X8_lengthOf o0 x4 h) (fun q15 =>
    f_X8_lengthOfAll_L5 n o0 x2 (x3 + q15) (x4 + (1 : Int32)) h)
def f_X8_lengthOfAll (o0 : Nat) (x1 : Int32) (x2 : Int32) (h : HP) : Option (Int32) :=
  ob (f_X8_lengthOfAll_L5 FU o0 x2 (0 : Int32) x1 h) (fun q5 =>
  some q5)
def f_X10_turn (x1 : Int32) (x2 : Int32) (h : HP) : Option (Int32 × HP) :=
  if x1 < 0 then
    some ((-1 : Int32), h)
  else
    if x1 < (30 : Int32) then
      if x2 = 0 then
        some (f_X5_framesOf 2 x1 h, h)
      else
      if x2 = 1 then
        some (f_X5_firstOf 2 x1 h, h)
      else
      if x2 = 2 then
        ob (f_X7_of 1 h) (fun q81 =>
        ob (f_X7_damagedIn (f_X5_firstOf 2 x1 h) ((f_X5_firstOf 2 x1 h) + (f_X5_framesOf 2 x1 h)) (-1 : Int32) q81) (fun q90 =>
        some (q90, q81)))
      else
      if x2 = 3 then
        ob (f_X8_lengthOfAll 5 (f_X5_firstOf 2 x1 h) ((f_X5_firstOf 2 x1 h) + (f_X5_framesOf 2 x1 h)) h) (fun q106 =>
        some (q106, h))
      else
        some ((-2 : Int32), h)
    else
      some ((-1 : Int32), h)
def f_X10_scratchOf (x1 : Int32) (x2 : Int32) (h : HP) : Option (Int32 × HP) :=
  if (f_X4_has 3 x1 h) = 0 then
    some ((-1 : Int32), h)
  else
    if x2 = 0 then
      some (f_X4_fromOf 3 x1 h, h)
    else
    if x2 = 1 then
      some (f_X4_toOf 3 x1 h, h)
    else
    if x2 = 2 then
      some (f_X4_innerOf 3 x1 h, h)
    else
    if x2 = 3 then
      some (f_X4_outerOf 3 x1 h, h)
    else
    if x2 = 4 then
      ob (f_X7_of 1 h) (fun q108 =>
      ob (f_X7_damagedIn (0 : Int32) (3810 : Int32) ((1 : Int32) <<< (x1 &&& 31)) q108) (fun q118 =>
      some (q118, q108)))
    else
      some ((-2 : Int32), h)
def f_X5_isSetting (x0 : Int32) (h : HP) : Int32 :=
  if x0 < 0 then
    (0 : Int32)
  else
    if (5 : Int32) < x0 then
      (0 : Int32)
    else
      (1 : Int32)
theorem b_X5_isSetting (x0 : Int32) (h : HP) : f_X5_isSetting x0 h = 0 ∨ f_X5_isSetting x0 h = 1 := by
  unfold f_X5_isSetting
  (repeat' split) <;> first | exact Or.inl rfl | exact Or.inr rfl | (simp; done)
def f_X10_countSetting (x1 : Int32) (h : HP) : Int32 :=
  if (f_X5_isSetting x1 h) = 0 then
    (-2 : Int32)
  else
    f_X5_settingAt 2 x1 h
def f_X7_framesThatAre_L13 : Nat → Int32 → Int32 → Int32 → Int32 → HP → Option (Int32)
  | 0, _, _, _, _, _ => none
  | n + 1, x1, x2, x3, x4, h =>
  if x3 ≤ x4 then
    some x2
  else
    if (3810 : Int32) ≤ x4 then
      some x2
    else
      gd (inB x4 3810) (
      f_X7_framesThatAre_L13 n x1 (if (h 68 x4.toNatClampNeg) = x1 then (x2 + (1 : Int32)) else x2) x3 (x4 + (1 : Int32)) h)
def f_X7_framesThatAre (x1 : Int32) (h : HP) : Option (Int32) :=
  ob (f_X7_framesThatAre_L13 FU x1 (0 : Int32) (f_X5_allFrames 64 h) (0 : Int32) h) (fun q13 =>
  some q13)
def f_X10_count (x1 : Int32) (h : HP) : Option (Int32 × HP) :=
  if x1 = 0 then
    some (f_X5_allFrames 2 h, h)
  else
  if x1 = 1 then
    some (f_X5_groups 2 h, h)
  else
  if x1 = 2 then
    some (h 3 1, h)
  else
  if x1 = 3 then
    some (h 8 0, h)
  else
  if x1 = 4 then
    ob (f_X5_turnOf 2 (h 8 0) h) (fun q145 =>
    some (q145, h))
  else
  if x1 = 5 then
    some (h 8 1, h)
  else
  if x1 = 6 then
    some (h 8 2, h)
  else
  if x1 = 7 then
    some (h 8 3, h)
  else
  if x1 = 8 then
    some (h 8 4, h)
  else
  if x1 = 9 then
    some (h 8 5, h)
  else
  if x1 = 10 then
    ob (f_X7_of 1 h) (fun q212 =>
    ob (f_X7_framesThatAre (0 : Int32) q212) (fun q216 =>
    some (q216, q212)))
  else
  if x1 = 11 then
    ob (f_X7_of 1 h) (fun q228 =>
    ob (f_X7_framesThatAre (1 : Int32) q228) (fun q232 =>
    some (q232, q228)))
  else
  if x1 = 12 then
    ob (f_X7_of 1 h) (fun q244 =>
    ob (f_X7_framesThatAre (2 : Int32) q244) (fun q248 =>
    some (q248, q244)))
  else
  if x1 = 13 then
    ob (f_X7_of 1 h) (fun q260 =>
    ob (f_X7_framesThatAre (3 : Int32) q260) (fun q264 =>
    some (q264, q260)))
  else
  if x1 = 14 then
    some (h 5 2, h)
  else
  if x1 = 15 then
    some (h 25 1, h)
  else
  if x1 = 16 then
    some (h 59 1, h)
  else
    some (f_X10_countSetting (x1 - (17 : Int32)) h, h)
def f_X10_isToldRight_L23 : Nat → Int32 → Int32 → Int32 → Int32 → HP → Option (Int32)
  | 0, _, _, _, _, _ => none
  | n + 1, x1, x2, x3, x4, h =>
  if (4 : Int32) ≤ x4 then
    some x3
  else
    if x3 = 0 then
      some x3
    else
      if x2 = (2 : Int32) then
        ob (f_X10_filledSymbol x1 x4 h) (fun q42 =>
        ob (f_X8_standsAt 5 x1 x4 h) (fun q55 =>
        tb ((if q42 = q55 then (1 : Int32) else (0 : Int32))) (fun v66 =>
        f_X10_isToldRight_L23 n x1 x2 v66 (x4 + (1 : Int32)) h)))
      else
        some x3
def f_X10_isToldRight (x1 : Int32) (h : HP) : Option (Int32) :=
  tb ((if (f_X7_howIs x1 h) = (3 : Int32) then (0 : Int32) else (1 : Int32))) (fun v19 =>
  ob (f_X10_isToldRight_L23 FU x1 (f_X7_howIs x1 h) v19 (0 : Int32) h) (fun q23 =>
  gd (is01 q23) (
  some q23)))
def f_X10_right_L30 : Nat → Int32 → Int32 → Int32 → Int32 → HP → Option (Int32 × Int32)
  | 0, _, _, _, _, _ => none
  | n + 1, x1, x2, x3, x4, h =>
  if x3 ≤ x4 then
    some (x1, x2)
  else
    ob (
      if (f_X5_isCheck x4 h) = 0 then
        ob (f_X10_isToldRight x4 h) (fun q51 =>
        tb (x2 + (if q51 = 0 then (0 : Int32) else (1 : Int32))) (fun v63 =>
        some (x1 + (1 : Int32), v63)))
      else
        some (x1, x2)) (fun j41 =>
    f_X10_right_L30 n j41.1 j41.2 x3 (x4 + (1 : Int32)) h)
def f_X10_right  (h : HP) : Option (UInt64 × HP) :=
  ob (f_X7_of 1 h) (fun q23 =>
  ob (f_X10_right_L30 FU (0 : Int32) (0 : Int32) (f_X5_allFrames 2 h) (0 : Int32) q23) (fun q30 =>
  if q30.1 = 0 then
    some (FP.dconst1, q23)
  else
    gd (dok (FP.ddiv (FP.i2d q30.2) (FP.i2d q30.1))) (
    some (FP.ddiv (FP.i2d q30.2) (FP.i2d q30.1), q23))))
def f_X10_trySeek (x1 : Int32) (x2 : Int32) (h : HP) : Option (Int32 × HP) :=
  tb (f_X1_copyFrom 69 8 h) (fun q11 =>
  ob (f_X1_goTo 69 x1 2 x2 q11) (fun q27 =>
  some ((q27 69 2) - (q27 8 2), q27)))
def f_X10_ifSought (x1 : Int32) (x2 : Int32) (h : HP) : Option (Int32 × HP) :=
  if (f_X5_hasFrame 2 x1 h) = 0 then
    some ((-1 : Int32), h)
  else
    if x2 = 0 then
      ob (f_X10_trySeek x1 (h 2 4) h) (fun q40 =>
      if x2 = 0 then
        some (q40.1, q40.2)
      else
        some ((q40.2 69 5) - (q40.2 8 5), q40.2))
    else
      if x2 = (1 : Int32) then
        ob (f_X10_trySeek x1 (h 2 4) h) (fun q40 =>
        if x2 = 0 then
          some (q40.1, q40.2)
        else
          some ((q40.2 69 5) - (q40.2 8 5), q40.2))
      else
        some ((-2 : Int32), h)
def f_X10_bestGuess_L31 : Nat → Int32 → Int32 → Int32 → Int32 → HP → Option (Int32 × HP)
  | 0, _, _, _, _, _ => none
  | n + 1, x1, x2, x3, x4, h =>
  if (140 : Int32) < x4 then
    some (x2, h)
  else
    ob (f_X10_trySeek x1 x4 h) (fun q43 =>
    f_X10_bestGuess_L31 n x1 (if x3 ≤ q43.1 then x2 else x4) (if x3 ≤ q43.1 then x3 else q43.1) (x4 + (1 : Int32)) q43.2)
def f_X10_bestGuess (x1 : Int32) (h : HP) : Option (Int32 × HP) :=
  if (f_X5_hasFrame 2 x1 h) = 0 then
    some ((-1 : Int32), h)
  else
    ob (f_X10_trySeek x1 (60 : Int32) h) (fun q23 =>
    ob (f_X10_bestGuess_L31 FU x1 (60 : Int32) q23.1 (61 : Int32) q23.2) (fun q31 =>
    some (q31.1, q31.2)))
def f_X7_missingWithout (x1 : Int32) (h : HP) : Option (Int32 × HP) :=
  ob (f_X7_judge (((1 : Int32) <<< (x1 &&& 31)) ^^^ (-1 : Int32)) h) (fun q6 =>
  ob (f_X7_framesThatAre (3 : Int32) q6) (fun q11 =>
  some (q11, q6)))
def f_X10_polishFirst_L49 : Nat → Int32 → Int32 → Int32 → HP → Option (Int32 × Int32 × HP)
  | 0, _, _, _, _ => none
  | n + 1, x2, x3, x4, h =>
  if (h 3 1) ≤ x4 then
    some (x2, x3, h)
  else
    ob (f_X7_missingWithout x4 h) (fun q70 =>
    f_X10_polishFirst_L49 n (if x3 ≤ q70.1 then x2 else x4) (if x3 ≤ q70.1 then x3 else q70.1) (x4 + (1 : Int32)) q70.2)
def f_X10_polishFirst (x1 : Int32) (h : HP) : Option (Int32 × HP) :=
  if x1 = 0 then
    if (h 3 1) = 0 then
      some ((-5 : Int32), h)
    else
      ob (f_X7_of 1 h) (fun q38 =>
      ob (f_X7_missingWithout (0 : Int32) q38) (fun q42 =>
      ob (f_X10_polishFirst_L49 FU (0 : Int32) q42.1 (1 : Int32) q42.2) (fun q49 =>
      ob (f_X7_judge (-1 : Int32) q49.2.2) (fun q98 =>
      if x1 = 0 then
        some (q49.1, q98)
      else
        some (q49.2.1, q98)))))
  else
    if x1 = (1 : Int32) then
      if (h 3 1) = 0 then
        some ((-5 : Int32), h)
      else
        ob (f_X7_of 1 h) (fun q38 =>
        ob (f_X7_missingWithout (0 : Int32) q38) (fun q42 =>
        ob (f_X10_polishFirst_L49 FU (0 : Int32) q42.1 (1 : Int32) q42.2) (fun q49 =>
        ob (f_X7_judge (-1 : Int32) q49.2.2) (fun q98 =>
        if x1 = 0 then
          some (q49.1, q98)
        else
          some (q49.2.1, q98)))))
    else
      some ((-2 : Int32), h)
def f_X10_gap_L46 : Nat → Int32 → Int32 → Int32 → Int32 → Int32 → HP → Option (Int32 × Int32)
  | 0, _, _, _, _, _, _ => none
  | n + 1, x2, x3, x4, x5, x6, h =>
  if x5 ≤ x6 then
    some (x2, x3)
  else
    tb ((if (f_X7_howIs x6 h) = (3 : Int32) then (x4 + (1 : Int32)) else (0 : Int32))) (fun v74 =>
    f_X10_gap_L46 n (if v74 ≤ x2 then x2 else v74) (if v74 ≤ x2 then x3 else ((x6 - v74) + (1 : Int32))) v74 x5 (x6 + (1 : Int32)) h)
def f_X10_gap (x1 : Int32) (h : HP) : Option (Int32 × HP) :=
  if x1 = 0 then
    ob (f_X7_of 1 h) (fun q39 =>
    ob (f_X10_gap_L46 FU (0 : Int32) (0 : Int32) (0 : Int32) (f_X5_allFrames 2 h) (0 : Int32) q39) (fun q46 =>
    if q46.1 = 0 then
      some ((-5 : Int32), q39)
    else
      if x1 = 0 then
        some (q46.2, q39)
      else
        some (q46.1, q39)))
  else
    if x1 = (1 : Int32) then
      ob (f_X7_of 1 h) (fun q39 =>
      ob (f_X10_gap_L46 FU (0 : Int32) (0 : Int32) (0 : Int32) (f_X5_allFrames 2 h) (0 : Int32) q39) (fun q46 =>
      if q46.1 = 0 then
        some ((-5 : Int32), q39)
      else
        if x1 = 0 then
          some (q46.2, q39)
        else
          some (q46.1, q39)))
    else
      some ((-2 : Int32), h)
def f_L_low (x0 : Int32) (x1 : Int32) (h : HP) : Option (Int32) :=
  gd (nz x1) (
  some (jrem (x0 &&& (2147483647 : Int32)) x1))
def f_L_does (x1 : Int32) (h : HP) : Option (Int32 × HP) :=
  ob (f_X10_count (0 : Int32) h) (fun q7 =>
  ob (f_L_low (x1 >>> ((4 : Int32) &&& 31)) q7.1 q7.2) (fun q10 =>
  if x1 &&& (15 : Int32) = 0 then
    ob (f_L_low (x1 >>> ((4 : Int32) &&& 31)) (360 : Int32) q7.2) (fun q82 =>
    ob (f_L_low (x1 >>> ((8 : Int32) &&& 31)) (30 : Int32) q7.2) (fun q93 =>
    ob (f_L_low (x1 >>> ((6 : Int32) &&& 31)) (if (40 : Int32) ≤ ((360 : Int32) - q82) then (40 : Int32) else ((360 : Int32) - q82)) q7.2) (fun q129 =>
    ob (f_L_low (x1 >>> ((10 : Int32) &&& 31)) ((30 : Int32) - q93) q7.2) (fun q146 =>
    ob (f_X10_scratch q82 (q82 + q129) q93 (q93 + q146) q7.2) (fun q150 =>
    if q150.1 = (-3 : Int32) then
      some ((0 : Int32), q150.2)
    else
      some (q150.1, q150.2))))))
  else
  if x1 &&& (15 : Int32) = 1 then
    ob (f_L_low (x1 >>> ((4 : Int32) &&& 31)) (360 : Int32) q7.2) (fun q82 =>
    ob (f_L_low (x1 >>> ((8 : Int32) &&& 31)) (30 : Int32) q7.2) (fun q93 =>
    ob (f_L_low (x1 >>> ((6 : Int32) &&& 31)) (if (40 : Int32) ≤ ((360 : Int32) - q82) then (40 : Int32) else ((360 : Int32) - q82)) q7.2) (fun q129 =>
    ob (f_L_low (x1 >>> ((10 : Int32) &&& 31)) ((30 : Int32) - q93) q7.2) (fun q146 =>
    ob (f_X10_scratch q82 (q82 + q129) q93 (q93 + q146) q7.2) (fun q150 =>
    if q150.1 = (-3 : Int32) then
      some ((0 : Int32), q150.2)
    else
      some (q150.1, q150.2))))))
  else
  if x1 &&& (15 : Int32) = 2 then
    ob (f_L_low (x1 >>> ((4 : Int32) &&& 31)) (360 : Int32) q7.2) (fun q82 =>
    ob (f_L_low (x1 >>> ((8 : Int32) &&& 31)) (30 : Int32) q7.2) (fun q93 =>
    ob (f_L_low (x1 >>> ((6 : Int32) &&& 31)) (if (40 : Int32) ≤ ((360 : Int32) - q82) then (40 : Int32) else ((360 : Int32) - q82)) q7.2) (fun q129 =>
    ob (f_L_low (x1 >>> ((10 : Int32) &&& 31)) ((30 : Int32) - q93) q7.2) (fun q146 =>
    ob (f_X10_scratch q82 (q82 + q129) q93 (q93 + q146) q7.2) (fun q150 =>
    if q150.1 = (-3 : Int32) then
      some ((0 : Int32), q150.2)
    else
      some (q150.1, q150.2))))))
  else
  if x1 &&& (15 : Int32) = 3 then
    ob (f_X10_count (2 : Int32) q7.2) (fun q168 =>
    if q168.1 = 0 then
      some ((0 : Int32), q168.2)
    else
      ob (f_X10_count (2 : Int32) q168.2) (fun q184 =>
      ob (f_L_low (x1 >>> ((4 : Int32) &&& 31)) q184.1 q184.2) (fun q187 =>
      ob (f_X10_polish q187 q184.2) (fun q190 =>
      some (q190.1, q190.2)))))
  else
  if x1 &&& (15 : Int32) = 4 then
    ob (f_L_low (x1 >>> ((6 : Int32) &&& 31)) (4 : Int32) q7.2) (fun q201 =>
    ob (f_L_low (x1 >>> ((8 : Int32) &&& 31)) (16 : Int32) q7.2) (fun q210 =>
    ob (f_X10_press q10 q201 q210 q7.2) (fun q213 =>
    if q213.1 = (-4 : Int32) then
      some ((0 : Int32), q213.2)
    else
      if q213.1 = (-5 : Int32) then
        some ((0 : Int32), q213.2)
      else
        if q213.1 = (-3 : Int32) then
          some ((0 : Int32), q213.2)
        else
          some (q213.1, q213.2))))
  else
  if x1 &&& (15 : Int32) = 5 then
    ob (f_L_low (x1 >>> ((6 : Int32) &&& 31)) (4 : Int32) q7.2) (fun q201 =>
    ob (f_L_low (x1 >>> ((8 : Int32) &&& 31)) (16 : Int32) q7.2) (fun q210 =>
    ob (f_X10_press q10 q201 q210 q7.2) (fun q213 =>
    if q213.1 = (-4 : Int32) then
      some ((0 : Int32), q213.2)
    else
      if q213.1 = (-5 : Int32) then
        some ((0 : Int32), q213.2)
      else
        if q213.1 = (-3 : Int32) then
          some ((0 : Int32), q213.2)
        else
          some (q213.1, q213.2))))
  else
  if x1 &&& (15 : Int32) = 6 then
    ob (f_L_low (x1 >>> ((6 : Int32) &&& 31)) (4 : Int32) q7.2) (fun q201 =>
    ob (f_L_low (x1 >>> ((8 : Int32) &&& 31)) (16 : Int32) q7.2) (fun q210 =>
    ob (f_X10_press q10 q201 q210 q7.2) (fun q213 =>
    if q213.1 = (-4 : Int32) then
      some ((0 : Int32), q213.2)
    else
      if q213.1 = (-5 : Int32) then
        some ((0 : Int32), q213.2)
      else
        if q213.1 = (-3 : Int32) then
          some ((0 : Int32), q213.2)
        else
          some (q213.1, q213.2))))
  else
  if x1 &&& (15 : Int32) = 7 then
    ob (f_L_low (x1 >>> ((4 : Int32) &&& 31)) (6 : Int32) q7.2) (fun q246 =>
    ob (
      if q246 = 0 then
        ob (f_L_low (x1 >>> ((7 : Int32) &&& 31)) (5 : Int32) q7.2) (fun q263 =>
        some ((8 : Int32) + q263))
      else
        if q246 = (1 : Int32) then
          ob (f_L_low (x1 >>> ((7 : Int32) &&& 31)) (2 : Int32) q7.2) (fun q281 =>
          some q281)
        else
          if q246 = (2 : Int32) then
            ob (f_L_low (x1 >>> ((7 : Int32) &&& 31)) (9 : Int32) q7.2) (fun q300 =>
            some ((1 : Int32) + q300))
          else
            if q246 = (3 : Int32) then
              ob (f_L_low (x1 >>> ((7 : Int32) &&& 31)) (6 : Int32) q7.2) (fun q319 =>
              some q319)
            else
              if q246 = (4 : Int32) then
                ob (f_L_low (x1 >>> ((7 : Int32) &&& 31)) (81 : Int32) q7.2) (fun q339 =>
                some ((60 : Int32) + q339))
              else
                ob (f_L_low (x1 >>> ((7 : Int32) &&& 31)) (21 : Int32) q7.2) (fun q352 =>
                some q352)) (fun j253 =>
    ob (f_X10_set q246 j253 q7.2) (fun q362 =>
    if q362.1 = (-5 : Int32) then
      some ((0 : Int32), q362.2)
    else
      some (q362.1, q362.2))))
  else
  if x1 &&& (15 : Int32) = 8 then
    ob (f_L_low (x1 >>> ((4 : Int32) &&& 31)) (60 : Int32) q7.2) (fun q385 =>
    ob (f_X10_play ((1 : Int32) + q385) q7.2) (fun q389 =>
    if q389.1 = (-5 : Int32) then
      some ((0 : Int32), q389.2)
    else
      some (q389.1, q389.2)))
  else
  if x1 &&& (15 : Int32) = 9 then
    ob (f_L_low (x1 >>> ((4 : Int32) &&& 31)) (60 : Int32) q7.2) (fun q385 =>
    ob (f_X10_play ((1 : Int32) + q385) q7.2) (fun q389 =>
    if q389.1 = (-5 : Int32) then
      some ((0 : Int32), q389.2)
    else
      some (q389.1, q389.2)))
  else
  if x1 &&& (15 : Int32) = 10 then
    ob (f_L_low (x1 >>> ((4 : Int32) &&& 31)) (60 : Int32) q7.2) (fun q385 =>
    ob (f_X10_play ((1 : Int32) + q385) q7.2) (fun q389 =>
    if q389.1 = (-5 : Int32) then
      some ((0 : Int32), q389.2)
    else
      some (q389.1, q389.2)))
  else
    ob (f_X10_seek q10 q7.2) (fun q407 =>
    some (q407.1, q407.2))))
def f_L_isFrameSo_L169 : Nat → Int32 → Int32 → Int32 → HP → Option (Int32 × HP)
  | 0, _, _, _, _ => none
  | n + 1, x4, x8, x9, h =>
  if (5 : Int32) ≤ x9 then
    some (x8, h)
  else
    if x4 < 0 then
      some (x8, h)
    else
      ob (f_X10_frame (((5 : Int32) * x4) + x9) (4 : Int32) h) (fun q191 =>
      f_L_isFrameSo_L169 n x4 (x8 + q191.1) (x9 + (1 : Int32)) q191.2)
def f_L_isFrameSo_L419 : Nat → Int32 → Int32 → Int32 → Int32 → Int32 → HP → Option (Int32 × HP)
  | 0, _, _, _, _, _, _ => none
  | n + 1, x1, x6, x15, x18, x19, h =>
  if (5 : Int32) ≤ x19 then
    some (x18, h)
  else
    if x6 = 0 then
      some (x18, h)
    else
      ob (f_X10_symbol (x1 - x19) x15 (0 : Int32) h) (fun q440 =>
      f_L_isFrameSo_L419 n x1 x6 x15 (x18 + q440.1) (x19 + (1 : Int32)) q440.2)
def f_L_isFrameSo_L387 : Nat → Int32 → Int32 → Int32 → Int32 → Int32 → Int32 → Int32 → Int32 → Int32 → Int32 → HP → Option (Int32 × Int32 × Int32 × Int32 × HP)
  | 0, _, _, _, _, _, _, _, _, _, _, _ => none
  | n + 1, x1, x5, x6, x7, x9, x10, x12, x13, x14, x15, h =>
  if (4 : Int32) ≤ x15 then
    some (x7, x12, x13, x14, h)
  else
    ob (f_X10_symbol x1 x15 (0 : Int32) h) (fun q398 =>
    ob (f_X10_symbol x1 x15 (1 : Int32) q398.2) (fun q408 =>
    ob (f_L_isFrameSo_L419 FU x1 x6 x15 (0 : Int32) (1 : Int32) q408.2) (fun q419 =>
    ob (
      if x7 = 0 then
        some ((0 : Int32), q419.2)
      else
        if q398.1 < 0 then
          some ((0 : Int32), q419.2)
        else
          if (16 : Int32) ≤ q398.1 then
            some ((0 : Int32), q419.2)
          else
            if x6 = 0 then
              if (2 : Int32) ≤ x5 then
                if x5 = (3 : Int32) then
                  if q408.1 = (-5 : Int32) then
                    some ((1 : Int32), q419.2)
                  else
                    some ((0 : Int32), q419.2)
                else
                  ob (f_X10_symbol x9 x15 (0 : Int32) q419.2) (fun q524 =>
                  ob (f_X10_symbol x10 x15 (0 : Int32) q524.2) (fun q533 =>
                  if q408.1 = ((q524.1 + q533.1) / (2 : Int32)) then
                    some ((1 : Int32), q533.2)
                  else
                    some ((0 : Int32), q533.2)))
              else
                if q408.1 = q398.1 then
                  some ((1 : Int32), q419.2)
                else
                  some ((0 : Int32), q419.2)
            else
              if q398.1 = (jrem q419.1 (16 : Int32)) then
                if (2 : Int32) ≤ x5 then
                  if x5 = (3 : Int32) then
                    if q408.1 = (-5 : Int32) then
                      some ((1 : Int32), q419.2)
                    else
                      some ((0 : Int32), q419.2)
                  else
                    ob (f_X10_symbol x9 x15 (0 : Int32) q419.2) (fun q524 =>
                    ob (f_X10_symbol x10 x15 (0 : Int32) q524.2) (fun q533 =>
                    if q408.1 = ((q524.1 + q533.1) / (2 : Int32)) then
                      some ((1 : Int32), q533.2)
                    else
                      some ((0 : Int32), q533.2)))
                else
                  if q408.1 = q398.1 then
                    some ((1 : Int32), q419.2)
                  else
                    some ((0 : Int32), q419.2)
              else
                some ((0 : Int32), q419.2)) (fun j454 =>
    tb (x13 + ((3 : Int32) + (q398.1 / (4 : Int32)))) (fun v570 =>
    tb (x14 + ((3 : Int32) + (jrem q398.1 (4 : Int32)))) (fun v577 =>
    tb ((if ((3 : Int32) + (q398.1 / (4 : Int32))) ≤ x12 then x12 else ((3 : Int32) + (q398.1 / (4 : Int32))))) (fun v593 =>
    tb ((if ((3 : Int32) + (jrem q398.1 (4 : Int32))) ≤ v593 then v593 else ((3 : Int32) + (jrem q398.1 (4 : Int32))))) (fun v609 =>
    f_L_isFrameSo_L387 n x1 x5 x6 j454.1 x9 x10 v609 v570 v577 (x15 + (1 : Int32)) j454.2))))))))
def f_L_isFrameSo (x1 : Int32) (h : HP) : Option (Int32 × HP) :=
  ob (f_X10_count (0 : Int32) h) (fun q2 =>
  ob (f_X10_frame x1 (0 : Int32) q2.2) (fun q9 =>
  ob (f_X10_frame x1 (2 : Int32) q9.2) (fun q16 =>
  ob (f_X10_frame x1 (5 : Int32) q16.2) (fun q24 =>
  ob (f_X10_frame x1 (3 : Int32) q24.2) (fun q32 =>
  tb ((if q32.1 = (1 : Int32) then (1 : Int32) else (0 : Int32))) (fun v44 =>
  ob (f_X10_turn q9.1 (1 : Int32) q32.2) (fun q49 =>
  ob (f_X10_frame x1 (1 : Int32) q49.2) (fun q55 =>
  ob (
    if (q49.1 + q55.1) = x1 then
      ob (f_X10_frame x1 (1 : Int32) q55.2) (fun q66 =>
      ob (f_X10_turn q9.1 (0 : Int32) q66.2) (fun q72 =>
      if q72.1 ≤ q66.1 then
        some ((0 : Int32), q72.2)
      else
        if (if q16.1 = (-5 : Int32) then (1 : Int32) else (0 : Int32)) = (if x1 < ((q2.1 / (5 : Int32)) * (5 : Int32)) then (0 : Int32) else (1 : Int32)) then
          if v44 = (if q16.1 < 0 then (0 : Int32) else (if (jrem x1 (5 : Int32)) = (4 : Int32) then (1 : Int32) else (0 : Int32))) then
            ob (f_X10_frame x1 (4 : Int32) q72.2) (fun q142 =>
            if (if q24.1 = 0 then (1 : Int32) else (0 : Int32)) = (if q142.1 = 0 then (1 : Int32) else (0 : Int32)) then
              some ((1 : Int32), q142.2)
            else
              some ((0 : Int32), q142.2))
          else
            some ((0 : Int32), q72.2)
        else
          some ((0 : Int32), q72.2)))
    else
      some ((0 : Int32), q55.2)) (fun j60 =>
  ob (f_L_isFrameSo_L169 FU q16.1 (0 : Int32) (0 : Int32) j60.2) (fun q169 =>
  ob (
    if j60.1 = 0 then
      some ((0 : Int32), q169.2)
    else
      ob (f_X10_frame x1 (4 : Int32) q169.2) (fun q222 =>
      if (if q24.1 = (1 : Int32) then (1 : Int32) else (0 : Int32)) = (if q222.1 = (1 : Int32) then (if q169.1 = (1 : Int32) then (1 : Int32) else (0 : Int32)) else (0 : Int32)) then
        some ((1 : Int32), q222.2)
      else
        some ((0 : Int32), q222.2))) (fun j205 =>
  tb ((if (jrem x1 (5 : Int32)) = 0 then (x1 - (2 : Int32)) else (x1 - (1 : Int32)))) (fun v265 =>
  tb ((if (jrem x1 (5 : Int32)) = (3 : Int32) then (x1 + (2 : Int32)) else (x1 + (1 : Int32)))) (fun v283 =>
  ob (
    if v44 = 0 then
      if v265 < 0 then
        some ((0 : Int32), j205.2)
      else
        if q2.1 ≤ v283 then
          some ((0 : Int32), j205.2)
        else
          ob (f_X10_frame v265 (5 : Int32) j205.2) (fun q305 =>
          if (2 : Int32) ≤ q305.1 then
            some ((0 : Int32), q305.2)
          else
            ob (f_X10_frame v283 (5 : Int32) q305.2) (fun q316 =>
            if (2 : Int32) ≤ q316.1 then
              some ((0 : Int32), q316.2)
            else
              some ((1 : Int32), q316.2)))
    else
      some ((0 : Int32), j205.2)) (fun j287 =>
  tb ((if j205.1 = 0 then (0 : Int32) else (if q24.1 = (2 : Int32) then (if j287.1 = 0 then (0 : Int32) else (if q24.1 = (3 : Int32) then (if j287.1 = 0 then (if q24.1 < 0 then (0 : Int32) else (if (4 : Int32) ≤ q24.1 then (0 : Int32) else (1 : Int32))) else (0 : Int32)) else (if q24.1 < 0 then (0 : Int32) else (if (4 : Int32) ≤ q24.1 then (0 : Int32) else (1 : Int32))))) else (if q24.1 = (3 : Int32) then (if j287.1 = 0 then (if q24.1 < 0 then (0 : Int32) else (if (4 : Int32) ≤ q24.1 then (0 : Int32) else (1 : Int32))) else (0 : Int32)) else (if q24.1 < 0 then (0 : Int32) else (if (4 : Int32) ≤ q24.1 then (0 : Int32) else (1 : Int32))))))) (fun v373 =>
  ob (f_L_isFrameSo_L387 FU x1 q24.1 v44 v373 v265 v283 (0 : Int32) (0 : Int32) (0 : Int32) (0 : Int32) j287.2) (fun q387 =>
  if q387.1 = 0 then
    some ((0 : Int32), q387.2.2.2.2)
  else
    ob (f_X10_frame x1 (6 : Int32) q387.2.2.2.2) (fun q626 =>
    if q626.1 = (q387.2.2.1 + q387.2.2.2.1) then
      ob (f_X10_frame x1 (7 : Int32) q626.2) (fun q641 =>
      if q641.1 = ((q387.2.2.1 - q387.2.2.2.1) + (100 : Int32)) then
        ob (f_X10_frame x1 (8 : Int32) q641.2) (fun q659 =>
        if q659.1 = q387.2.1 then
          some ((1 : Int32), q659.2)
        else
          some ((0 : Int32), q659.2))
      else
        some ((0 : Int32), q641.2))
    else
      some ((0 : Int32), q626.2))))))))))))))))))
def f_L_isWholeSo_L139 : Nat → Int32 → Int32 → Int32 → Int32 → HP → Option (Int32 × Int32 × Int32 × HP)
  | 0, _, _, _, _, _ => none
  | n + 1, x2, x3, x4, x5, h =>
  if (30 : Int32) ≤ x5 then
    some (x2, x3, x4, h)
  else
    ob (
      if x2 = 0 then
        some ((0 : Int32), h)
      else
        ob (f_X10_turn x5 (1 : Int32) h) (fun q154 =>
        if q154.1 = x3 then
          ob (f_X10_turn x5 (0 : Int32) q154.2) (fun q165 =>
          ob (f_X10_count (17 : Int32) q165.2) (fun q171 =>
          ob (f_X10_count (18 : Int32) q171.2) (fun q179 =>
          if q165.1 = (q171.1 + (x5 * q179.1)) then
            some ((1 : Int32), q179.2)
          else
            some ((0 : Int32), q179.2))))
        else
          some ((0 : Int32), q154.2))) (fun j147 =>
    ob (f_X10_turn x5 (0 : Int32) j147.2) (fun q198 =>
    ob (f_X10_turn x5 (2 : Int32) q198.2) (fun q209 =>
    f_L_isWholeSo_L139 n j147.1 (x3 + q198.1) (x4 + q209.1) (x5 + (1 : Int32)) q209.2)))
def f_L_isWholeSo  (h : HP) : Option (Int32 × HP) :=
  ob (f_X10_count (0 : Int32) h) (fun q2 =>
  ob (f_X10_count (10 : Int32) q2.2) (fun q9 =>
  ob (f_X10_count (11 : Int32) q9.2) (fun q15 =>
  ob (f_X10_count (12 : Int32) q15.2) (fun q22 =>
  ob (f_X10_count (13 : Int32) q22.2) (fun q29 =>
  ob (
    if (((q9.1 + q15.1) + q22.1) + q29.1) = q2.1 then
      ob (f_X10_count (1 : Int32) q29.2) (fun q39 =>
      if q39.1 = (q2.1 / (5 : Int32)) then
        ob (f_X10_count (14 : Int32) q39.2) (fun q51 =>
        if (40 : Int32) < q51.1 then
          some ((0 : Int32), q51.2)
        else
          ob (f_X10_count (8 : Int32) q51.2) (fun q62 =>
          ob (f_X10_count (7 : Int32) q62.2) (fun q68 =>
          if q68.1 < q62.1 then
            some ((0 : Int32), q68.2)
          else
            ob (f_X10_count (7 : Int32) q68.2) (fun q77 =>
            ob (f_X10_count (6 : Int32) q77.2) (fun q83 =>
            if q83.1 < q77.1 then
              some ((0 : Int32), q83.2)
            else
              ob (f_X10_count (3 : Int32) q83.2) (fun q91 =>
              if q2.1 < q91.1 then
                some ((0 : Int32), q91.2)
              else
                ob (f_X10_count (2 : Int32) q91.2) (fun q100 =>
                if 0 < q100.1 then
                  some ((1 : Int32), q100.2)
                else
                  ob (f_X10_count (10 : Int32) q100.2) (fun q109 =>
                  if q109.1 = q2.1 then
                    ob (f_X10_right q109.2) (fun q117 =>
                    if (dcl q117.1 FP.dconst1) = 0 then
                      some ((1 : Int32), q117.2)
                    else
                      some ((0 : Int32), q117.2))
                  else
                    some ((0 : Int32), q109.2)))))))))
      else
        some ((0 : Int32), q39.2))
    else
      some ((0 : Int32), q29.2)) (fun j34 =>
  ob (f_L_isWholeSo_L139 FU j34.1 (0 : Int32) (0 : Int32) (0 : Int32) j34.2) (fun q139 =>
  if q139.1 = 0 then
    some ((0 : Int32), q139.2.2.2)
  else
    if q139.2.1 = q2.1 then
      ob (f_X10_count (10 : Int32) q139.2.2.2) (fun q236 =>
      if q139.2.2.1 = (q2.1 - q236.1) then
        ob (f_X10_count (5 : Int32) q236.2) (fun q245 =>
        ob (f_X10_count (17 : Int32) q245.2) (fun q251 =>
        if q245.1 < q251.1 then
          some ((0 : Int32), q251.2)
        else
          ob (f_X10_count (5 : Int32) q251.2) (fun q259 =>
          ob (f_X10_count (17 : Int32) q259.2) (fun q265 =>
          ob (f_X10_count (18 : Int32) q265.2) (fun q273 =>
          if (q265.1 + ((29 : Int32) * q273.1)) < q259.1 then
            some ((0 : Int32), q273.2)
          else
            some ((1 : Int32), q273.2))))))
      else
        some ((0 : Int32), q236.2))
    else
      some ((0 : Int32), q139.2.2.2))))))))
def f_L_isGapSo_L13 : Nat → Int32 → Int32 → Int32 → Int32 → Int32 → HP → Option (Int32 × Int32 × Int32 × HP)
  | 0, _, _, _, _, _, _ => none
  | n + 1, x1, x2, x3, x4, x5, h =>
  ob (f_X10_count (0 : Int32) h) (fun q17 =>
  if q17.1 ≤ x5 then
    some (x1, x2, x4, q17.2)
  else
    ob (f_X10_frame x5 (5 : Int32) q17.2) (fun q27 =>
    tb ((if q27.1 = (3 : Int32) then (1 : Int32) else (0 : Int32))) (fun v39 =>
    tb (x4 + (if v39 = 0 then (0 : Int32) else (1 : Int32))) (fun v54 =>
    tb ((if v39 = 0 then (0 : Int32) else (x3 + (1 : Int32)))) (fun v68 =>
    tb ((if v68 ≤ x2 then x1 else ((x5 - v68) + (1 : Int32)))) (fun v84 =>
    f_L_isGapSo_L13 n v84 (if v68 ≤ x2 then x2 else v68) v68 v54 (x5 + (1 : Int32)) q27.2))))))
def f_L_isGapSo  (h : HP) : Option (Int32 × HP) :=
  ob (f_L_isGapSo_L13 FU (-5 : Int32) (0 : Int32) (0 : Int32) (0 : Int32) (0 : Int32) h) (fun q13 =>
  ob (f_X10_count (13 : Int32) q13.2.2.2) (fun q107 =>
  if q13.2.2.1 = q107.1 then
    ob (f_X10_gap (0 : Int32) q107.2) (fun q115 =>
    if q115.1 = q13.1 then
      ob (f_X10_gap (1 : Int32) q115.2) (fun q124 =>
      if q124.1 = (if q13.2.1 = 0 then (-5 : Int32) else q13.2.1) then
        some ((1 : Int32), q124.2)
      else
        some ((0 : Int32), q124.2))
    else
      some ((0 : Int32), q115.2))
  else
    some ((0 : Int32), q107.2)))
def f_L_isSeekSo (x1 : Int32) (x2 : Int32) (h : HP) : Option (Int32 × HP) :=
  ob (f_X10_ifSought x1 (0 : Int32) h) (fun q3 =>
  ob (f_X10_ifSought x1 (1 : Int32) q3.2) (fun q10 =>
  ob (f_X10_bestGuess x1 q10.2) (fun q17 =>
  ob (f_X10_count (21 : Int32) q17.2) (fun q25 =>
  ob (f_X10_count (6 : Int32) q25.2) (fun q33 =>
  ob (f_X10_count (9 : Int32) q33.2) (fun q41 =>
  ob (
    if q17.1 < (60 : Int32) then
      some ((0 : Int32), q41.2)
    else
      if (140 : Int32) < q17.1 then
        some ((0 : Int32), q41.2)
      else
        ob (f_X10_seek x1 q41.2) (fun q63 =>
        if q63.1 = q3.1 then
          ob (f_X10_count (3 : Int32) q63.2) (fun q72 =>
          if q72.1 = x1 then
            ob (f_X10_count (4 : Int32) q72.2) (fun q81 =>
            ob (f_X10_frame x1 (0 : Int32) q81.2) (fun q87 =>
            if q81.1 = q87.1 then
              ob (f_X10_count (6 : Int32) q87.2) (fun q96 =>
              if q96.1 = (q33.1 + q3.1) then
                ob (f_X10_count (9 : Int32) q96.2) (fun q109 =>
                if q109.1 = (q41.1 + q10.1) then
                  some ((1 : Int32), q109.2)
                else
                  some ((0 : Int32), q109.2))
              else
                some ((0 : Int32), q96.2))
            else
              some ((0 : Int32), q87.2)))
          else
            some ((0 : Int32), q72.2))
        else
          some ((0 : Int32), q63.2))) (fun j50 =>
  ob (f_X10_undo j50.2) (fun q128 =>
  ob (f_X10_set (4 : Int32) q17.1 q128.2) (fun q137 =>
  ob (f_X10_ifSought x1 (0 : Int32) q137.2) (fun q145 =>
  ob (
    if q137.1 < 0 then
      some (q128.1, q145.2)
    else
      ob (f_X10_undo q145.2) (fun q156 =>
      some (q156.1, q156.2))) (fun j152 =>
  ob (f_X10_set (4 : Int32) x2 j152.2) (fun q169 =>
  ob (f_X10_ifSought x1 (0 : Int32) q169.2) (fun q177 =>
  ob (
    if q169.1 < 0 then
      some (j152.1, q177.2)
    else
      ob (f_X10_undo q177.2) (fun q188 =>
      some (q188.1, q188.2))) (fun j184 =>
  if j50.1 = 0 then
    some ((0 : Int32), j184.2)
  else
    if j184.1 < 0 then
      some ((0 : Int32), j184.2)
    else
      if q3.1 < q145.1 then
        some ((0 : Int32), j184.2)
      else
        if q177.1 < q145.1 then
          some ((0 : Int32), j184.2)
        else
          if q145.1 < q177.1 then
            ob (f_X10_count (21 : Int32) j184.2) (fun q237 =>
            if q237.1 = q25.1 then
              ob (f_X10_count (6 : Int32) q237.2) (fun q248 =>
              if q248.1 = q33.1 then
                some ((1 : Int32), q248.2)
              else
                some ((0 : Int32), q248.2))
            else
              some ((0 : Int32), q237.2))
          else
            if x2 < q17.1 then
              some ((0 : Int32), j184.2)
            else
              ob (f_X10_count (21 : Int32) j184.2) (fun q237 =>
              if q237.1 = q25.1 then
                ob (f_X10_count (6 : Int32) q237.2) (fun q248 =>
                if q248.1 = q33.1 then
                  some ((1 : Int32), q248.2)
                else
                  some ((0 : Int32), q248.2))
              else
                some ((0 : Int32), q237.2))))))))))))))))
def f_L_isPlaySo (x1 : Int32) (x2 : Int32) (h : HP) : Option (Int32 × HP) :=
  ob (f_X10_play (x1 + x2) h) (fun q4 =>
  if q4.1 = (-5 : Int32) then
    ob (f_X10_count (3 : Int32) q4.2) (fun q16 =>
    ob (f_X10_count (0 : Int32) q16.2) (fun q21 =>
    if q16.1 = q21.1 then
      some ((1 : Int32), q21.2)
    else
      some ((0 : Int32), q21.2)))
  else
    ob (f_X10_count (3 : Int32) q4.2) (fun q35 =>
    ob (f_X10_count (6 : Int32) q35.2) (fun q43 =>
    ob (f_X10_undo q43.2) (fun q49 =>
    ob (f_X10_play x1 q49.2) (fun q56 =>
    ob (f_X10_play x2 q56.2) (fun q63 =>
    ob (
      if (q56.1 + (if q63.1 = (-5 : Int32) then (0 : Int32) else q63.1)) = q4.1 then
        ob (f_X10_count (3 : Int32) q63.2) (fun q90 =>
        if q90.1 = q35.1 then
          ob (f_X10_count (6 : Int32) q90.2) (fun q101 =>
          if q101.1 = q43.1 then
            some ((1 : Int32), q101.2)
          else
            some ((0 : Int32), q101.2))
        else
          some ((0 : Int32), q90.2))
      else
        some ((0 : Int32), q63.2)) (fun j85 =>
    ob (
      if q63.1 = (-5 : Int32) then
        some (q49.1, j85.2)
      else
        ob (f_X10_undo j85.2) (fun q129 =>
        some (q129.1, q129.2))) (fun j120 =>
    ob (f_X10_undo j120.2) (fun q135 =>
    if j85.1 = 0 then
      some ((0 : Int32), q135.2)
    else
      if q135.1 < 0 then
        some ((0 : Int32), q135.2)
      else
        some ((1 : Int32), q135.2))))))))))
def f_L_isPolishSo_L22 : Nat → Int32 → Int32 → Int32 → HP → Option (Int32 × Int32 × HP)
  | 0, _, _, _, _ => none
  | n + 1, x3, x4, x5, h =>
  ob (f_X10_count (2 : Int32) h) (fun q26 =>
  if q26.1 ≤ x5 then
    some (x3, x4, q26.2)
  else
    ob (f_X10_count (0 : Int32) q26.2) (fun q34 =>
    ob (f_X10_count (10 : Int32) q34.2) (fun q40 =>
    ob (f_X10_scratchOf x5 (4 : Int32) q40.2) (fun q50 =>
    ob (f_X10_polish x5 q50.2) (fun q58 =>
    ob (f_X10_count (13 : Int32) q58.2) (fun q66 =>
    if (q34.1 - q40.1) < q58.1 then
      none
    else
      if q58.1 < ((q34.1 - q40.1) - q50.1) then
        none
      else
        ob (f_X10_count (0 : Int32) q66.2) (fun q92 =>
        ob (f_X10_count (10 : Int32) q92.2) (fun q98 =>
        if q58.1 = (q92.1 - q98.1) then
          tb ((if x3 = (-5 : Int32) then x5 else (if x4 ≤ q66.1 then x3 else x5))) (fun v126 =>
          ob (f_X10_undo q98.2) (fun q143 =>
          f_L_isPolishSo_L22 n v126 (if v126 = x5 then q66.1 else x4) (x5 + (1 : Int32)) q143.2))
        else
          none))))))))
def f_L_isPolishSo  (h : HP) : Option (Int32 × HP) :=
  ob (f_X10_polishFirst (0 : Int32) h) (fun q2 =>
  ob (f_X10_polishFirst (1 : Int32) q2.2) (fun q8 =>
  ob (f_L_isPolishSo_L22 FU (-5 : Int32) (-5 : Int32) (0 : Int32) q8.2) (fun q22 =>
  if q2.1 = q22.1 then
    if q8.1 = q22.2.1 then
      some ((1 : Int32), q22.2.2)
    else
      some ((0 : Int32), q22.2.2)
  else
    some ((0 : Int32), q22.2.2))))
