/-! what each method computes (by program, out of the bytecode) -/
def f_X10_isPlace (x0 : Int32) (h : HP) : Int32 :=
  if x0 < 0 then
    (0 : Int32)
  else
    if (4 : Int32) ≤ x0 then
      (0 : Int32)
    else
      (1 : Int32)
theorem b_X10_isPlace (x0 : Int32) (h : HP) : f_X10_isPlace x0 h = 0 ∨ f_X10_isPlace x0 h = 1 := by
  unfold f_X10_isPlace
  (repeat' split) <;> first | exact Or.inl rfl | exact Or.inr rfl | (simp; done)
def f_X5_firstOf (o0 : Nat) (x1 : Int32) (h : HP) : Int32 :=
  ((h o0 0) * x1) + ((h o0 1) * ((x1 * (x1 - (1 : Int32))) / (2 : Int32)))
def f_X5_allFrames (o0 : Nat) (h : HP) : Int32 :=
  f_X5_firstOf o0 (30 : Int32) h
def f_X5_hasFrame (o0 : Nat) (x1 : Int32) (h : HP) : Int32 :=
  if x1 < 0 then
    (0 : Int32)
  else
    if (f_X5_allFrames o0 h) ≤ x1 then
      (0 : Int32)
    else
      (1 : Int32)
theorem b_X5_hasFrame (o0 : Nat) (x1 : Int32) (h : HP) : f_X5_hasFrame o0 x1 h = 0 ∨ f_X5_hasFrame o0 x1 h = 1 := by
  unfold f_X5_hasFrame
  (repeat' split) <;> first | exact Or.inl rfl | exact Or.inr rfl | (simp; done)
def f_X5_isCheck (x0 : Int32) (h : HP) : Int32 :=
  if (jrem x0 (5 : Int32)) = (4 : Int32) then
    (1 : Int32)
  else
    (0 : Int32)
theorem b_X5_isCheck (x0 : Int32) (h : HP) : f_X5_isCheck x0 h = 0 ∨ f_X5_isCheck x0 h = 1 := by
  unfold f_X5_isCheck
  (repeat' split) <;> first | exact Or.inl rfl | exact Or.inr rfl | (simp; done)
def f_X8_atFirst (x0 : Int32) (x1 : Int32) (h : HP) : Int32 :=
  jrem (((7 : Int32) * x0) + ((3 : Int32) * x1)) (16 : Int32)
def f_X8_indexOf_L2 : Nat → Nat → Int32 → Int32 → HP → Option (Int32)
  | 0, _, _, _, _ => none
  | n + 1, o0, x1, x2, h =>
  if (h o0 2) ≤ x2 then
    some (-1 : Int32)
  else
    if (40 : Int32) ≤ x2 then
      some (-1 : Int32)
    else
      gd (inB x2 40) (
      if (h (o0 + 1) x2.toNatClampNeg) = x1 then
        some x2
      else
        f_X8_indexOf_L2 n o0 x1 (x2 + (1 : Int32)) h)
def f_X8_indexOf (o0 : Nat) (x1 : Int32) (h : HP) : Option (Int32) :=
  f_X8_indexOf_L2 FU o0 x1 (0 : Int32) h
def f_X8_dataAt (o0 : Nat) (x1 : Int32) (x2 : Int32) (h : HP) : Option (Int32) :=
  ob (f_X8_indexOf o0 ((x1 * (4 : Int32)) + x2) h) (fun q6 =>
  if 0 ≤ q6 then
    some (f_X10_at (o0 + 2) q6 h)
  else
    some (f_X8_atFirst x1 x2 h))
def f_X8_standsAt_L23 : Nat → Nat → Int32 → Int32 → Int32 → Int32 → HP → Option (Int32)
  | 0, _, _, _, _, _, _ => none
  | n + 1, o0, x1, x2, x3, x4, h =>
  if x1 ≤ x4 then
    some x3
  else
    ob (f_X8_dataAt o0 x4 x2 h) (fun q34 =>
    f_X8_standsAt_L23 n o0 x1 x2 (x3 + q34) (x4 + (1 : Int32)) h)
def f_X8_standsAt (o0 : Nat) (x1 : Int32) (x2 : Int32) (h : HP) : Option (Int32) :=
  if (f_X5_isCheck x1 h) = 0 then
    ob (f_X8_dataAt o0 x1 x2 h) (fun q10 =>
    some q10)
  else
    ob (f_X8_standsAt_L23 FU o0 x1 x2 (0 : Int32) ((x1 - (5 : Int32)) + (1 : Int32)) h) (fun q23 =>
    some (jrem q23 (16 : Int32)))
def f_X8_drop (o0 : Nat) (x1 : Int32) (h : HP) : HP :=
  if x1 < 0 then
    h
  else
    if x1 < (h o0 2) then
      tb (hset h o0 2 ((h o0 2) - (1 : Int32))) (fun h24 =>
      tb (f_X10_put (o0 + 1) x1 (f_X10_at (o0 + 1) (h24 o0 2) h24) h24) (fun q39 =>
      tb (f_X10_put (o0 + 2) x1 (f_X10_at (o0 + 2) (q39 o0 2) q39) q39) (fun q58 =>
      q58)))
    else
      h
def f_X8_write (o0 : Nat) (x1 : Int32) (x2 : Int32) (x3 : Int32) (h : HP) : Option (Int32 × HP) :=
  ob (f_X8_indexOf o0 ((x1 * (4 : Int32)) + x2) h) (fun q10 =>
  if x3 = (f_X8_atFirst x1 x2 h) then
    tb (f_X8_drop o0 q10 h) (fun q27 =>
    some ((1 : Int32), q27))
  else
    if 0 ≤ q10 then
      tb (
        if 0 ≤ q10 then
          (q10, h)
        else
          (h o0 2, hset h o0 2 ((h o0 2) + (1 : Int32)))) (fun j50 =>
      tb (f_X10_put (o0 + 1) j50.1 ((x1 * (4 : Int32)) + x2) j50.2) (fun q77 =>
      tb (f_X10_put (o0 + 2) j50.1 x3 q77) (fun q87 =>
      some ((1 : Int32), q87))))
    else
      if (h o0 2) < (40 : Int32) then
        tb (
          if 0 ≤ q10 then
            (q10, h)
          else
            (h o0 2, hset h o0 2 ((h o0 2) + (1 : Int32)))) (fun j50 =>
        tb (f_X10_put (o0 + 1) j50.1 ((x1 * (4 : Int32)) + x2) j50.2) (fun q77 =>
        tb (f_X10_put (o0 + 2) j50.1 x3 q77) (fun q87 =>
        some ((1 : Int32), q87))))
      else
        some ((0 : Int32), h))
def f_X10_pressSymbol (x1 : Int32) (x2 : Int32) (x3 : Int32) (h : HP) : Option (Int32 × HP) :=
  if (f_X5_hasFrame 2 x1 h) = 0 then
    some ((-1 : Int32), h)
  else
    if (f_X10_isPlace x2 h) = 0 then
      some ((-2 : Int32), h)
    else
      if x3 < 0 then
        some ((-2 : Int32), h)
      else
        if x3 < (16 : Int32) then
          if (f_X5_isCheck x1 h) = 0 then
            ob (f_X8_standsAt 5 x1 x2 h) (fun q55 =>
            if q55 = x3 then
              some ((-5 : Int32), h)
            else
              ob (f_X8_write 5 x1 x2 x3 h) (fun q79 =>
              if q79.1 = 0 then
                some ((-3 : Int32), q79.2)
              else
                some (q55, q79.2)))
          else
            some ((-4 : Int32), h)
        else
          some ((-2 : Int32), h)
def f_X2_stateAt (x1 : Int32) (h : HP) : Int32 :=
  if x1 < 0 then
    (0 : Int32)
  else
    if (4 : Int32) ≤ x1 then
      (0 : Int32)
    else
      h 26 x1.toNatClampNeg
def f_X2_dropOldest_L8 : Nat → Int32 → HP → Option (HP)
  | 0, _, _ => none
  | n + 1, x2, h =>
  if (4 : Int32) ≤ x2 then
    some h
  else
    gd (inB x2 4) (
    gd (inB (x2 - (1 : Int32)) 4) (
    gd (isSt (h 26 x2.toNatClampNeg)) (
    f_X2_dropOldest_L8 n (x2 + (1 : Int32)) (hset h 26 (x2 - (1 : Int32)).toNatClampNeg (h 26 x2.toNatClampNeg)))))
def f_X2_dropOldest  (h : HP) : Option (HP) :=
  if f_X2_stateAt (0 : Int32) h = 0 then
    none
  else gd (isSt (f_X2_stateAt (0 : Int32) h)) (
    ob (f_X2_dropOldest_L8 FU (1 : Int32) h) (fun q8 =>
    ob (
      if (4 : Int32) ≤ 0 then
        some q8
      else
        gd (inB ((4 : Int32) - (1 : Int32)) 4) (
        some (hset q8 26 ((4 : Int32) - (1 : Int32)).toNatClampNeg (f_X2_stateAt (0 : Int32) h)))) (fun j42 =>
    some (hset j42 25 1 ((j42 25 1) - (1 : Int32))))))
def f_X1_copyFrom (o0 : Nat) (o1 : Nat) (h : HP) : HP :=
  tb (hset h o0 0 (h o1 0)) (fun h10 =>
  tb (hset h10 o0 1 (h10 o1 1)) (fun h18 =>
  tb (hset h18 o0 2 (h18 o1 2)) (fun h26 =>
  tb (hset h26 o0 3 (h26 o1 3)) (fun h34 =>
  tb (hset h34 o0 4 (h34 o1 4)) (fun h42 =>
  hset h42 o0 5 (h42 o1 5))))))
def f_X4_copyFrom (o0 : Nat) (o1 : Nat) (h : HP) : HP :=
  tb (hcpy h (o1 + 1) (o0 + 1) 32) (fun h17 =>
  hset h17 o0 1 (h17 o1 1))
def f_X5_copyFrom (o0 : Nat) (o1 : Nat) (h : HP) : HP :=
  tb (hset h o0 0 (h o1 0)) (fun h10 =>
  tb (hset h10 o0 1 (h10 o1 1)) (fun h18 =>
  tb (hset h18 o0 2 (h18 o1 2)) (fun h26 =>
  tb (hset h26 o0 3 (h26 o1 3)) (fun h34 =>
  tb (hset h34 o0 4 (h34 o1 4)) (fun h42 =>
  hset h42 o0 5 (h42 o1 5))))))
def f_X8_copyFrom (o0 : Nat) (o1 : Nat) (h : HP) : HP :=
  tb (hcpy h (o1 + 1) (o0 + 1) 40) (fun h16 =>
  tb (hcpy h16 (o1 + 2) (o0 + 2) 40) (fun h32 =>
  hset h32 o0 2 (h32 o1 2)))
def f_X6_copyFrom (o0 : Nat) (o1 : Nat) (h : HP) : HP :=
  tb (f_X5_copyFrom (o0 + 1) (o1 + 1) h) (fun q8 =>
  tb (f_X4_copyFrom (o0 + 2) (o1 + 2) q8) (fun q19 =>
  tb (f_X8_copyFrom (o0 + 4) (o1 + 4) q19) (fun q30 =>
  tb (f_X1_copyFrom (o0 + 7) (o1 + 7) q30) (fun q41 =>
  q41))))
def f_X2_add (o1 : Nat) (h : HP) : Option (HP) :=
  ob (
    if (h 25 1) < (4 : Int32) then
      some h
    else
      ob (f_X2_dropOldest h) (fun q9 =>
      some q9)) (fun j5 =>
  if f_X2_stateAt (j5 25 1) j5 = 0 then
    some j5
  else gd (isSt (f_X2_stateAt (j5 25 1) j5)) (
    tb (f_X6_copyFrom ((f_X2_stateAt (j5 25 1) j5).toNatClampNeg) o1 j5) (fun q27 =>
    some (hset q27 25 1 ((q27 25 1) + (1 : Int32))))))
def f_X10_recorded (x1 : Int32) (h : HP) : Option (Int32 × HP) :=
  if x1 < 0 then
    some (x1, h)
  else
    ob (f_X2_add 9 h) (fun q12 =>
    some (x1, q12))
def f_X10_press (x1 : Int32) (x2 : Int32) (x3 : Int32) (h : HP) : Option (Int32 × HP) :=
  tb (f_X6_copyFrom 9 1 h) (fun q8 =>
  ob (f_X10_pressSymbol x1 x2 x3 q8) (fun q16 =>
  ob (f_X10_recorded q16.1 q16.2) (fun q19 =>
  some (q19.1, q19.2))))
def f_X4_add (o0 : Nat) (x1 : Int32) (x2 : Int32) (x3 : Int32) (x4 : Int32) (h : HP) : Int32 × HP :=
  if (h o0 1) < (8 : Int32) then
    tb (f_X10_put (o0 + 1) ((h o0 1) * (4 : Int32)) x1 h) (fun q22 =>
    tb (f_X10_put (o0 + 1) (((q22 o0 1) * (4 : Int32)) + (1 : Int32)) x2 q22) (fun q38 =>
    tb (f_X10_put (o0 + 1) (((q38 o0 1) * (4 : Int32)) + (2 : Int32)) x3 q38) (fun q54 =>
    tb (f_X10_put (o0 + 1) (((q54 o0 1) * (4 : Int32)) + (3 : Int32)) x4 q54) (fun q71 =>
    ((1 : Int32), hset q71 o0 1 ((q71 o0 1) + (1 : Int32)))))))
  else
    ((0 : Int32), h)
def f_X7_damagedIn_L10 : Nat → Int32 → Int32 → Int32 → Int32 → HP → Option (Int32)
  | 0, _, _, _, _, _ => none
  | n + 1, x2, x3, x4, x5, h =>
  if x2 ≤ x5 then
    some x4
  else
    if (3810 : Int32) ≤ x5 then
      some x4
    else
      gd (inB x5 3810) (
      f_X7_damagedIn_L10 n x2 x3 (if ((h 67 x5.toNatClampNeg) &&& x3) = 0 then x4 else (x4 + (1 : Int32))) (x5 + (1 : Int32)) h)
def f_X7_damagedIn (x1 : Int32) (x2 : Int32) (x3 : Int32) (h : HP) : Option (Int32) :=
  ob (f_X7_damagedIn_L10 FU x2 x3 (0 : Int32) (jmax x1 (0 : Int32)) h) (fun q10 =>
  some q10)
def f_X4_isLike_L19 : Nat → Nat → Nat → Int32 → Int32 → HP → Option (Int32)
  | 0, _, _, _, _, _ => none
  | n + 1, o0, o1, x2, x3, h =>
  if x2 = 0 then
    some x2
  else
    if ((h o0 1) * (4 : Int32)) ≤ x3 then
      some x2
    else
      tb ((if (f_X10_at (o0 + 1) x3 h) = (f_X10_at (o1 + 1) x3 h) then (1 : Int32) else (0 : Int32))) (fun v57 =>
      f_X4_isLike_L19 n o0 o1 v57 (x3 + (1 : Int32)) h)
def f_X4_isLike (o0 : Nat) (o1 : Nat) (h : HP) : Option (Int32) :=
  tb ((if (h o0 1) = (h o1 1) then (1 : Int32) else (0 : Int32))) (fun v16 =>
  ob (f_X4_isLike_L19 FU o0 o1 v16 (0 : Int32) h) (fun q19 =>
  gd (is01 q19) (
  some q19)))
def f_X5_hasSpiralOf (o0 : Nat) (o1 : Nat) (h : HP) : Int32 :=
  if (h o0 0) = (h o1 0) then
    if (h o0 1) = (h o1 1) then
      (1 : Int32)
    else
      (0 : Int32)
  else
    (0 : Int32)
theorem b_X5_hasSpiralOf (o0 : Nat) (o1 : Nat) (h : HP) : f_X5_hasSpiralOf o0 o1 h = 0 ∨ f_X5_hasSpiralOf o0 o1 h = 1 := by
  unfold f_X5_hasSpiralOf
  (repeat' split) <;> first | exact Or.inl rfl | exact Or.inr rfl | (simp; done)
def f_X5_dataAhead (x0 : Int32) (h : HP) : Int32 :=
  if (jrem x0 (5 : Int32)) = 0 then
    x0 - (2 : Int32)
  else
    x0 - (1 : Int32)
def f_X5_dataBehind (x0 : Int32) (h : HP) : Int32 :=
  if (jrem x0 (5 : Int32)) = (3 : Int32) then
    x0 + (2 : Int32)
  else
    x0 + (1 : Int32)
def f_X7_canBeFilled (x1 : Int32) (x2 : Int32) (h : HP) : Int32 :=
  if (f_X5_isCheck x1 h) = 0 then
    if (f_X5_dataAhead x1 h) < 0 then
      (0 : Int32)
    else
      if x2 ≤ (f_X5_dataBehind x1 h) then
        (0 : Int32)
      else
        if (1 : Int32) < (f_X10_at 68 (f_X5_dataAhead x1 h) h) then
          (0 : Int32)
        else
          if (1 : Int32) < (f_X10_at 68 (f_X5_dataBehind x1 h) h) then
            (0 : Int32)
          else
            (1 : Int32)
  else
    (0 : Int32)
theorem b_X7_canBeFilled (x1 : Int32) (x2 : Int32) (h : HP) : f_X7_canBeFilled x1 x2 h = 0 ∨ f_X7_canBeFilled x1 x2 h = 1 := by
  unfold f_X7_canBeFilled
  (repeat' split) <;> first | exact Or.inl rfl | exact Or.inr rfl | (simp; done)
def f_X7_judgeGroup_L40 : Nat → Int32 → Int32 → Int32 → Int32 → HP → Option (HP)
  | 0, _, _, _, _, _ => none
  | n + 1, x2, x3, x5, x6, h =>
  if x2 ≤ x6 then
    some h
  else
    tb (f_X10_put 68 x6 (if ((f_X10_at 67 x6 h) &&& x3) = 0 then (0 : Int32) else x5) h) (fun q72 =>
    f_X7_judgeGroup_L40 n x2 x3 x5 (x6 + (1 : Int32)) q72)
def f_X7_judgeGroup (x1 : Int32) (x2 : Int32) (x3 : Int32) (h : HP) : Option (HP) :=
  ob (
    if (x2 - x1) = (5 : Int32) then
      ob (f_X7_damagedIn x1 x2 x3 h) (fun q11 =>
      if q11 = (1 : Int32) then
        some (1 : Int32)
      else
        some (0 : Int32))
    else
      some (0 : Int32)) (fun j4 =>
  tb ((if j4 = 0 then (3 : Int32) else (1 : Int32))) (fun v35 =>
  ob (f_X7_judgeGroup_L40 FU x2 x3 v35 x1 h) (fun q40 =>
  some q40)))
def f_X7_judge_L10 : Nat → Int32 → Int32 → Int32 → HP → Option (HP)
  | 0, _, _, _, _ => none
  | n + 1, x1, x2, x3, h =>
  if x2 ≤ x3 then
    some h
  else
    ob (f_X7_judgeGroup x3 (jmin (x3 + (5 : Int32)) x2) x1 h) (fun q25 =>
    f_X7_judge_L10 n x1 x2 (x3 + (5 : Int32)) q25)
def f_X7_judge_L36 : Nat → Int32 → Int32 → HP → Option (HP)
  | 0, _, _, _ => none
  | n + 1, x2, x3, h =>
  if x2 ≤ x3 then
    some h
  else
    tb (
      if (f_X10_at 68 x3 h) = (3 : Int32) then
        if (f_X7_canBeFilled x3 x2 h) = 0 then
          h
        else
          tb (f_X10_put 68 x3 (2 : Int32) h) (fun q68 =>
          q68)
      else
        h) (fun j50 =>
    f_X7_judge_L36 n x2 (x3 + (1 : Int32)) j50)
def f_X7_judge (x1 : Int32) (h : HP) : Option (HP) :=
  ob (f_X7_judge_L10 FU x1 (f_X5_allFrames 64 h) (0 : Int32) h) (fun q10 =>
  ob (f_X7_judge_L36 FU (f_X5_allFrames 64 h) (0 : Int32) q10) (fun q36 =>
  some q36))
def f_X4_fromOf (o0 : Nat) (x1 : Int32) (h : HP) : Int32 :=
  f_X10_at (o0 + 1) (x1 * (4 : Int32)) h
def f_X4_innerOf (o0 : Nat) (x1 : Int32) (h : HP) : Int32 :=
  f_X10_at (o0 + 1) ((x1 * (4 : Int32)) + (2 : Int32)) h
def f_X4_outerOf (o0 : Nat) (x1 : Int32) (h : HP) : Int32 :=
  f_X10_at (o0 + 1) ((x1 * (4 : Int32)) + (3 : Int32)) h
def f_X4_toOf (o0 : Nat) (x1 : Int32) (h : HP) : Int32 :=
  f_X10_at (o0 + 1) ((x1 * (4 : Int32)) + (1 : Int32)) h
def f_X5_framesOf (o0 : Nat) (x1 : Int32) (h : HP) : Int32 :=
  (h o0 0) + ((h o0 1) * x1)
def f_X7_markRow_L7 : Nat → Int32 → Int32 → Int32 → HP → Option (HP)
  | 0, _, _, _, _ => none
  | n + 1, x2, x3, x4, h =>
  if x2 < x4 then
    some h
  else
    if (3810 : Int32) ≤ x4 then
      some h
    else
      gd (inB x4 3810) (
      gd (inB x4 3810) (
      f_X7_markRow_L7 n x2 x3 (x4 + (1 : Int32)) (hset h 67 x4.toNatClampNeg ((h 67 x4.toNatClampNeg) ||| x3))))
def f_X7_markRow (x1 : Int32) (x2 : Int32) (x3 : Int32) (h : HP) : Option (HP) :=
  ob (f_X7_markRow_L7 FU x2 x3 (jmax x1 (0 : Int32)) h) (fun q7 =>
  some q7)
def f_X7_markScratch_L49 : Nat → Int32 → Int32 → Int32 → Int32 → Int32 → HP → Option (HP)
  | 0, _, _, _, _, _, _ => none
  | n + 1, x1, x2, x3, x4, x5, h =>
  if x4 < x5 then
    some h
  else
    ob (f_X7_markRow ((f_X5_firstOf 64 x5 h) + ((x2 * (f_X5_framesOf 64 x5 h)) / (360 : Int32))) ((f_X5_firstOf 64 x5 h) + (((x3 * (f_X5_framesOf 64 x5 h)) - (1 : Int32)) / (360 : Int32))) ((1 : Int32) <<< (x1 &&& 31)) h) (fun q106 =>
    f_X7_markScratch_L49 n x1 x2 x3 x4 (x5 + (1 : Int32)) q106)
def f_X7_markScratch (x1 : Int32) (h : HP) : Option (HP) :=
  ob (f_X7_markScratch_L49 FU x1 (f_X4_fromOf 65 x1 h) ((f_X4_toOf 65 x1 h) + (1 : Int32)) (jmin (f_X4_outerOf 65 x1 h) (29 : Int32)) (jmax (f_X4_innerOf 65 x1 h) (0 : Int32)) h) (fun q49 =>
  some q49)
def f_J7_fill_53178_L5 : Nat → Nat → Int32 → Int32 → Int32 → HP → Option (HP)
  | 0, _, _, _, _, _ => none
  | n + 1, o0, x1, x2, x3, h =>
  if x3 ≤ x2 then
    some h
  else
    gd (inB x2 (ln o0)) (
    f_J7_fill_53178_L5 n o0 x1 (x2 + (1 : Int32)) x3 (hset h o0 x2.toNatClampNeg x1))
def f_J7_fill_53178 (o0 : Nat) (x1 : Int32) (h : HP) : Option (HP) :=
  ob (f_J7_fill_53178_L5 FU o0 x1 (0 : Int32) (Int32.ofNat (ln o0)) h) (fun q5 =>
  some q5)
def f_X7_of_L60 : Nat → Nat → Int32 → HP → Option (HP)
  | 0, _, _, _ => none
  | n + 1, o1, x2, h =>
  if (h 65 1) ≤ x2 then
    some h
  else
    ob (f_X7_markScratch x2 h) (fun q73 =>
    f_X7_of_L60 n o1 (x2 + (1 : Int32)) q73)
def f_X7_of (o1 : Nat) (h : HP) : Option (HP) :=
  if (f_X5_hasSpiralOf 64 (o1 + 1) h) = 0 then
    tb (f_X5_copyFrom 64 (o1 + 1) h) (fun q36 =>
    tb (f_X4_copyFrom 65 (o1 + 2) q36) (fun q47 =>
    ob (f_J7_fill_53178 67 (0 : Int32) q47) (fun q55 =>
    ob (f_X7_of_L60 FU o1 (0 : Int32) q55) (fun q60 =>
    ob (f_X7_judge (-1 : Int32) q60) (fun q84 =>
    some q84)))))
  else
    ob (f_X4_isLike 65 (o1 + 2) h) (fun q22 =>
    if q22 = 0 then
      tb (f_X5_copyFrom 64 (o1 + 1) h) (fun q36 =>
      tb (f_X4_copyFrom 65 (o1 + 2) q36) (fun q47 =>
      ob (f_J7_fill_53178 67 (0 : Int32) q47) (fun q55 =>
      ob (f_X7_of_L60 FU o1 (0 : Int32) q55) (fun q60 =>
      ob (f_X7_judge (-1 : Int32) q60) (fun q84 =>
      some q84)))))
    else
      some h)
def f_X10_addScratch (x1 : Int32) (x2 : Int32) (x3 : Int32) (x4 : Int32) (h : HP) : Option (Int32 × HP) :=
  tb ((if x1 < 0 then (0 : Int32) else (if x2 < x1 then (0 : Int32) else (if (360 : Int32) ≤ x2 then (0 : Int32) else (1 : Int32))))) (fun v21 =>
  tb ((if x3 < 0 then (0 : Int32) else (if x4 < x3 then (0 : Int32) else (if (30 : Int32) ≤ x4 then (0 : Int32) else (1 : Int32))))) (fun v45 =>
  if v21 = 0 then
    some ((-2 : Int32), h)
  else
    if v45 = 0 then
      some ((-2 : Int32), h)
    else
      tb (f_X4_add 3 x1 x2 x3 x4 h) (fun q72 =>
      if q72.1 = 0 then
        some ((-3 : Int32), q72.2)
      else
        ob (f_X7_of 1 q72.2) (fun q89 =>
        ob (f_X7_damagedIn (0 : Int32) (3810 : Int32) (-1 : Int32) q89) (fun q97 =>
        some (q97, q89))))))
def f_X10_scratch (x1 : Int32) (x2 : Int32) (x3 : Int32) (x4 : Int32) (h : HP) : Option (Int32 × HP) :=
  tb (f_X6_copyFrom 9 1 h) (fun q8 =>
  ob (f_X10_addScratch x1 x2 x3 x4 q8) (fun q18 =>
  ob (f_X10_recorded q18.1 q18.2) (fun q21 =>
  some (q21.1, q21.2))))
def f_X4_has (o0 : Nat) (x1 : Int32) (h : HP) : Int32 :=
  if x1 < 0 then
    (0 : Int32)
  else
    if (h o0 1) ≤ x1 then
      (0 : Int32)
    else
      (1 : Int32)
theorem b_X4_has (o0 : Nat) (x1 : Int32) (h : HP) : f_X4_has o0 x1 h = 0 ∨ f_X4_has o0 x1 h = 1 := by
  unfold f_X4_has
  (repeat' split) <;> first | exact Or.inl rfl | exact Or.inr rfl | (simp; done)
def f_X4_drop_L13 : Nat → Nat → Int32 → HP → Option (HP)
  | 0, _, _, _ => none
  | n + 1, o0, x2, h =>
  if ((32 : Int32) - (4 : Int32)) ≤ x2 then
    some h
  else
    tb (f_X10_put (o0 + 1) x2 (f_X10_at (o0 + 1) (x2 + (4 : Int32)) h) h) (fun q39 =>
    f_X4_drop_L13 n o0 (x2 + (1 : Int32)) q39)
def f_X4_drop (o0 : Nat) (x1 : Int32) (h : HP) : Option (HP) :=
  if (f_X4_has o0 x1 h) = 0 then
    some h
  else
    ob (f_X4_drop_L13 FU o0 (x1 * (4 : Int32)) h) (fun q13 =>
    some (hset q13 o0 1 ((q13 o0 1) - (1 : Int32))))
def f_X10_polishAway (x1 : Int32) (h : HP) : Option (Int32 × HP) :=
  if (f_X4_has 3 x1 h) = 0 then
    some ((-1 : Int32), h)
  else
    ob (f_X4_drop 3 x1 h) (fun q24 =>
    ob (f_X7_of 1 q24) (fun q35 =>
    ob (f_X7_damagedIn (0 : Int32) (3810 : Int32) (-1 : Int32) q35) (fun q43 =>
    some (q43, q35))))
def f_X10_polish (x1 : Int32) (h : HP) : Option (Int32 × HP) :=
  tb (f_X6_copyFrom 9 1 h) (fun q8 =>
  ob (f_X10_polishAway x1 q8) (fun q14 =>
  ob (f_X10_recorded q14.1 q14.2) (fun q17 =>
  some (q17.1, q17.2))))
def f_X1_goToStart (o0 : Nat) (o1 : Nat) (h : HP) : HP :=
  tb (hset h o0 0 (0 : Int32)) (fun h8 =>
  hset h8 o0 1 (f_X5_framesOf o1 (0 : Int32) h8))
def f_X5_change (o0 : Nat) (x1 : Int32) (x2 : Int32) (h : HP) : HP :=
  if x1 = 0 then
    hset h o0 0 x2
  else
  if x1 = 1 then
    hset h o0 1 x2
  else
  if x1 = 2 then
    hset h o0 2 x2
  else
  if x1 = 3 then
    hset h o0 3 x2
  else
  if x1 = 4 then
    hset h o0 4 x2
  else
    hset h o0 5 x2
def f_X5_isInRange (x0 : Int32) (x1 : Int32) (h : HP) : Int32 :=
  if x0 = 0 then
    if x1 < (8 : Int32) then
      (0 : Int32)
    else
      if (40 : Int32) < x1 then
        (0 : Int32)
      else
        (1 : Int32)
  else
  if x0 = 1 then
    if x1 < 0 then
      (0 : Int32)
    else
      if (6 : Int32) < x1 then
        (0 : Int32)
      else
        (1 : Int32)
  else
  if x0 = 2 then
    if x1 < (1 : Int32) then
      (0 : Int32)
    else
      if (9 : Int32) < x1 then
        (0 : Int32)
      else
        (1 : Int32)
  else
  if x0 = 3 then
    if x1 < 0 then
      (0 : Int32)
    else
      if (5 : Int32) < x1 then
        (0 : Int32)
      else
        (1 : Int32)
  else
  if x0 = 4 then
    if x1 < (60 : Int32) then
      (0 : Int32)
    else
      if (140 : Int32) < x1 then
        (0 : Int32)
      else
        (1 : Int32)
  else
  if x0 = 5 then
    if x1 < 0 then
      (0 : Int32)
    else
      if (20 : Int32) < x1 then
        (0 : Int32)
      else
        (1 : Int32)
  else
    (0 : Int32)
theorem b_X5_isInRange (x0 : Int32) (x1 : Int32) (h : HP) : f_X5_isInRange x0 x1 h = 0 ∨ f_X5_isInRange x0 x1 h = 1 := by
  unfold f_X5_isInRange
  (repeat' split) <;> first | exact Or.inl rfl | exact Or.inr rfl | (simp; done)
def f_X5_settingAt (o0 : Nat) (x1 : Int32) (h : HP) : Int32 :=
  if x1 = 0 then
    h o0 0
  else
  if x1 = 1 then
    h o0 1
  else
  if x1 = 2 then
    h o0 2
  else
  if x1 = 3 then
    h o0 3
  else
  if x1 = 4 then
    h o0 4
  else
    h o0 5
def f_X10_set (x1 : Int32) (x2 : Int32) (h : HP) : Option (Int32 × HP) :=
  if (f_X5_isInRange x1 x2 h) = 0 then
    some ((-2 : Int32), h)
  else
    if (f_X5_settingAt 2 x1 h) = x2 then
      some ((-5 : Int32), h)
    else
      tb (f_X6_copyFrom 9 1 h) (fun q39 =>
      tb (f_X5_change 2 x1 x2 q39) (fun q51 =>
      tb (
        if (1 : Int32) < x1 then
          q51
        else
          tb (f_X1_goToStart 8 2 q51) (fun q73 =>
          q73)) (fun j56 =>
      ob (f_X10_recorded (f_X5_settingAt 2 x1 h) j56) (fun q78 =>
      some (q78.1, q78.2)))))
def f_X1_isNear (o0 : Nat) (x1 : Int32) (o2 : Nat) (h : HP) : Int32 :=
  if (h o2 3) < (jabs ((h o0 1) - x1)) then
    (0 : Int32)
  else
    (1 : Int32)
theorem b_X1_isNear (o0 : Nat) (x1 : Int32) (o2 : Nat) (h : HP) : f_X1_isNear o0 x1 o2 h = 0 ∨ f_X1_isNear o0 x1 o2 h = 1 := by
  unfold f_X1_isNear
  (repeat' split) <;> first | exact Or.inl rfl | exact Or.inr rfl | (simp; done)
def f_X1_spin (o0 : Nat) (x1 : Int32) (x2 : Int32) (o3 : Nat) (h : HP) : HP :=
  tb (hset h o0 1 (if x2 ≤ (h o0 1) then (jmax x2 ((h o0 1) - (x1 * (h o3 2)))) else (jmin x2 ((h o0 1) + (x1 * (h o3 2)))))) (fun h47 =>
  hset h47 o0 2 ((h47 o0 2) + x1))
def f_X5_turnOf_L2 : Nat → Nat → Int32 → Int32 → HP → Option (Int32)
  | 0, _, _, _, _ => none
  | n + 1, o0, x1, x2, h =>
  if (29 : Int32) ≤ x2 then
    some x2
  else
    if x1 < (f_X5_firstOf o0 (x2 + (1 : Int32)) h) then
      some x2
    else
      f_X5_turnOf_L2 n o0 x1 (x2 + (1 : Int32)) h
def f_X5_turnOf (o0 : Nat) (x1 : Int32) (h : HP) : Option (Int32) :=
  ob (f_X5_turnOf_L2 FU o0 x1 (0 : Int32) h) (fun q2 =>
  some q2)
def f_X7_isDamaged (x1 : Int32) (h : HP) : Int32 :=
  if (f_X10_at 67 x1 h) = 0 then
    (0 : Int32)
  else
    (1 : Int32)
theorem b_X7_isDamaged (x1 : Int32) (h : HP) : f_X7_isDamaged x1 h = 0 ∨ f_X7_isDamaged x1 h = 1 := by
  unfold f_X7_isDamaged
  (repeat' split) <;> first | exact Or.inl rfl | exact Or.inr rfl | (simp; done)
def f_X1_readFrames_L15 : Nat → Nat → Nat → Int32 → Int32 → Int32 → Int32 → Int32 → HP → Option (Int32 × Int32 × HP)
  | 0, _, _, _, _, _, _, _, _ => none
  | n + 1, o0, o2, x1, x4, x5, x6, x7, h =>
  if (100000 : Int32) ≤ x7 then
    some (x4, x5, h)
  else
    if x1 ≤ x4 then
      some (x4, x5, h)
    else
      if x6 ≤ (h o0 0) then
        some (x4, x5, h)
      else
        ob (f_X5_turnOf o2 (h o0 0) h) (fun q43 =>
        tb (f_X1_spin o0 (1 : Int32) (f_X5_framesOf o2 q43 h) o2 h) (fun q56 =>
        tb (
          if (f_X1_isNear o0 (f_X5_framesOf o2 q43 h) o2 q56) = 0 then
            (x4, x5, q56)
          else
            tb (x5 + (if (f_X7_isDamaged (q56 o0 0) q56) = 0 then (1 : Int32) else (0 : Int32))) (fun v88 =>
            (x4 + (1 : Int32), v88, hset q56 o0 0 ((q56 o0 0) + (1 : Int32))))) (fun j66 =>
        f_X1_readFrames_L15 n o0 o2 x1 j66.1 j66.2.1 x6 (x7 + (1 : Int32)) j66.2.2)))
def f_X1_readFrames (o0 : Nat) (x1 : Int32) (o2 : Nat) (h : HP) : Option (Int32 × HP) :=
  ob (f_X1_readFrames_L15 FU o0 o2 x1 (0 : Int32) (0 : Int32) (f_X5_allFrames o2 h) (0 : Int32) h) (fun q15 =>
  tb (hset q15.2.2 o0 3 ((q15.2.2 o0 3) + q15.1)) (fun h122 =>
  some (q15.2.1, hset h122 o0 4 ((h122 o0 4) + q15.2.1))))
def f_X10_playFrames (x1 : Int32) (h : HP) : Option (Int32 × HP) :=
  if x1 < (1 : Int32) then
    some ((-2 : Int32), h)
  else
    if x1 ≤ (999 : Int32) then
      if (h 8 0) < (f_X5_allFrames 2 h) then
        ob (f_X7_of 1 h) (fun q64 =>
        ob (f_X1_readFrames 8 x1 2 q64) (fun q67 =>
        some (q67.1, q67.2)))
      else
        some ((-5 : Int32), h)
    else
      some ((-2 : Int32), h)
def f_X10_play (x1 : Int32) (h : HP) : Option (Int32 × HP) :=
  tb (f_X6_copyFrom 9 1 h) (fun q8 =>
  ob (f_X10_playFrames x1 q8) (fun q14 =>
  ob (f_X10_recorded q14.1 q14.2) (fun q17 =>
  some (q17.1, q17.2))))
def f_X1_jump (o0 : Nat) (x1 : Int32) (x2 : Int32) (o3 : Nat) (x4 : Int32) (h : HP) : Int32 × HP :=
  tb (
    if (((x2 - x1) * x4) / (100 : Int32)) = 0 then
      tb ((if (x2 - x1) ≤ 0 then (-1 : Int32) else (1 : Int32))) (fun v30 =>
      v30)
    else
      ((x2 - x1) * x4) / (100 : Int32)) (fun j17 =>
  tb (jmax (0 : Int32) (jmin (29 : Int32) (x1 + j17))) (fun v45 =>
  tb (f_X1_spin o0 ((h o3 5) + (jabs (v45 - x1))) (f_X5_framesOf o3 v45 h) o3 h) (fun q71 =>
  tb (hset q71 o0 0 (f_X5_firstOf o3 v45 q71)) (fun h86 =>
  (v45, hset h86 o0 5 ((h86 o0 5) + (1 : Int32)))))))
def f_X1_goTo_L20 : Nat → Nat → Nat → Int32 → Int32 → Int32 → Int32 → HP → Option (HP)
  | 0, _, _, _, _, _, _, _ => none
  | n + 1, o0, o2, x3, x4, x5, x6, h =>
  if (100000 : Int32) ≤ x6 then
    some h
  else
    if x5 = x4 then
      some h
    else
      tb (f_X1_jump o0 x5 x4 o2 x3 h) (fun q41 =>
      f_X1_goTo_L20 n o0 o2 x3 x4 q41.1 (x6 + (1 : Int32)) q41.2)
def f_X1_goTo_L63 : Nat → Nat → Nat → Int32 → Int32 → HP → Option (HP)
  | 0, _, _, _, _, _ => none
  | n + 1, o0, o2, x6, x7, h =>
  if (100000 : Int32) ≤ x7 then
    some h
  else
    if (f_X1_isNear o0 x6 o2 h) = 0 then
      tb (f_X1_spin o0 (1 : Int32) x6 o2 h) (fun q85 =>
      f_X1_goTo_L63 n o0 o2 x6 (x7 + (1 : Int32)) q85)
    else
      some h
def f_X1_goTo (o0 : Nat) (x1 : Int32) (o2 : Nat) (x3 : Int32) (h : HP) : Option (HP) :=
  ob (f_X5_turnOf o2 x1 h) (fun q2 =>
  ob (f_X5_turnOf o2 (h o0 0) h) (fun q12 =>
  ob (f_X1_goTo_L20 FU o0 o2 x3 q2 q12 (0 : Int32) h) (fun q20 =>
  ob (f_X1_goTo_L63 FU o0 o2 (f_X5_framesOf o2 q2 q20) (0 : Int32) q20) (fun q63 =>
  tb (
    if (q63 o0 0) ≤ x1 then
      q63
    else
      tb (hset q63 o0 2 ((q63 o0 2) + (((f_X5_firstOf o2 q2 q63) + (f_X5_framesOf o2 q2 q20)) - (q63 o0 0)))) (fun h132 =>
      hset h132 o0 0 (f_X5_firstOf o2 q2 q63))) (fun j107 =>
  tb (hset j107 o0 2 ((j107 o0 2) + (x1 - (j107 o0 0)))) (fun h152 =>
  some (hset h152 o0 0 x1)))))))
def f_X10_seekFrame (x1 : Int32) (h : HP) : Option (Int32 × HP) :=
  if (f_X5_hasFrame 2 x1 h) = 0 then
    some ((-1 : Int32), h)
  else
    ob (f_X1_goTo 8 x1 2 (h 2 4) h) (fun q52 =>
    some ((q52 8 2) - (h 8 2), q52))
def f_X10_seek (x1 : Int32) (h : HP) : Option (Int32 × HP) :=
  tb (f_X6_copyFrom 9 1 h) (fun q8 =>
  ob (f_X10_seekFrame x1 q8) (fun q14 =>
  ob (f_X10_recorded q14.1 q14.2) (fun q17 =>
  some (q17.1, q17.2))))
def f_X3_append (x1 : Int32) (h : HP) : Int32 × HP :=
  if (h 59 1) < 0 then
    ((0 : Int32), h)
  else
    if (h 59 1) < (60 : Int32) then
      tb (hset h 60 (h 59 1).toNatClampNeg (vp_nar .char x1)) (fun h33 =>
      ((1 : Int32), hset h33 59 1 ((h33 59 1) + (1 : Int32))))
    else
      ((0 : Int32), h)
def f_X10_type (x1 : Int32) (h : HP) : Int32 × HP :=
  tb (f_X3_append x1 h) (fun q5 =>
  if q5.1 = 0 then
    ((-3 : Int32), q5.2)
  else
    (q5.2 59 1, q5.2))
def f_X3_clear  (h : HP) : Int32 × HP :=
  (h 59 1, hset h 59 1 (0 : Int32))
def f_X10_clearText  (h : HP) : Int32 × HP :=
  tb (f_X3_clear h) (fun q4 =>
  (q4.1, q4.2))
def f_X9_highest (x0 : Int32) (h : HP) : Int32 :=
  if x0 = 65 then
    (359 : Int32)
  else
  if x0 = 66 then
    (15 : Int32)
  else
  if x0 = 67 then
    (15 : Int32)
  else
  if x0 = 68 then
    (9 : Int32)
  else
  if x0 = 69 then
    (15 : Int32)
  else
  if x0 = 70 then
    (9999 : Int32)
  else
  if x0 = 71 then
    (15 : Int32)
  else
  if x0 = 72 then
    (15 : Int32)
  else
  if x0 = 73 then
    (15 : Int32)
  else
  if x0 = 74 then
    (15 : Int32)
  else
  if x0 = 75 then
    (15 : Int32)
  else
  if x0 = 76 then
    (15 : Int32)
  else
  if x0 = 77 then
    (15 : Int32)
  else
  if x0 = 78 then
    (999 : Int32)
  else
  if x0 = 79 then
    (15 : Int32)
  else
  if x0 = 80 then
    (3 : Int32)
  else
  if x0 = 81 then
    (15 : Int32)
  else
  if x0 = 82 then
    (15 : Int32)
  else
  if x0 = 83 then
    (15 : Int32)
  else
  if x0 = 84 then
    (29 : Int32)
  else
    (15 : Int32)
def f_X9_lowest (x0 : Int32) (h : HP) : Int32 :=
  if x0 = (78 : Int32) then
    (1 : Int32)
  else
    (0 : Int32)
def f_X3_longerBy (x1 : Int32) (x2 : Int32) (x3 : Int32) (h : HP) : Int32 :=
  tb ((if x2 ≤ 0 then (0 : Int32) else (if x1 = 0 then (1 : Int32) else (0 : Int32)))) (fun v13 =>
  if v13 = 0 then
    if (h 59 5) < 0 then
      (-1 : Int32)
    else
      if (h 59 1) ≤ (h 59 5) then
        (-1 : Int32)
      else
        if (h 59 5) < (60 : Int32) then
          if (h 60 (h 59 5).toNatClampNeg) < (48 : Int32) then
            (-1 : Int32)
          else
            if (h 60 (h 59 5).toNatClampNeg) ≤ (57 : Int32) then
              tb ((x1 * (10 : Int32)) + ((h 60 (h 59 5).toNatClampNeg) - (48 : Int32))) (fun v89 =>
              if v89 < (f_X9_lowest x3 h) then
                (-1 : Int32)
              else
                if (f_X9_highest x3 h) < v89 then
                  (-1 : Int32)
                else
                  v89)
            else
              (-1 : Int32)
        else
          (-1 : Int32)
  else
    (-1 : Int32))
def f_X3_readNumber_L15 : Nat → Int32 → Int32 → Int32 → Int32 → HP → Option (Int32 × Int32 × HP)
  | 0, _, _, _, _, _ => none
  | n + 1, x1, x3, x4, x5, h =>
  if (4 : Int32) ≤ x4 then
    some (x3, x4, h)
  else
    if x5 < 0 then
      some (x3, x4, h)
    else
      tb (hset h 59 5 ((h 59 5) + (1 : Int32))) (fun h47 =>
      tb (f_X3_longerBy x5 (x4 + (1 : Int32)) x1 h47) (fun v50 =>
      f_X3_readNumber_L15 n x1 x5 (x4 + (1 : Int32)) v50 h47))
def f_X3_readNumber (x1 : Int32) (x2 : Int32) (h : HP) : Option (Int32 × HP) :=
  tb (f_X3_longerBy (0 : Int32) (0 : Int32) x1 h) (fun v13 =>
  ob (f_X3_readNumber_L15 FU x1 (0 : Int32) (0 : Int32) v13 h) (fun q15 =>
  tb (f_X10_put 62 x2 q15.1 q15.2.2) (fun q61 =>
  if q15.2.1 ≤ 0 then
    some ((0 : Int32), q61)
  else
    some ((1 : Int32), q61))))
def f_X3_hasSign (x1 : Int32) (x2 : Int32) (h : HP) : Int32 :=
  if x1 < 0 then
    (0 : Int32)
  else
    if (h 59 1) ≤ x1 then
      (0 : Int32)
    else
      if (60 : Int32) ≤ x1 then
        (0 : Int32)
      else
        if (h 60 x1.toNatClampNeg) = x2 then
          (1 : Int32)
        else
          (0 : Int32)
theorem b_X3_hasSign (x1 : Int32) (x2 : Int32) (h : HP) : f_X3_hasSign x1 x2 h = 0 ∨ f_X3_hasSign x1 x2 h = 1 := by
  unfold f_X3_hasSign
  (repeat' split) <;> first | exact Or.inl rfl | exact Or.inr rfl | (simp; done)
def f_X3_readSign (x1 : Int32) (h : HP) : Int32 × HP :=
  (f_X3_hasSign (h 59 5) x1 h, hset h 59 5 ((h 59 5) + (if (f_X3_hasSign (h 59 5) x1 h) = 0 then (0 : Int32) else (1 : Int32))))
def f_X3_sameAs_L2 : Nat → Nat → Int32 → HP → Option (Int32)
  | 0, _, _, _ => none
  | n + 1, s1, x2, h =>
  if (slen s1) ≤ x2 then
    some x2
  else
    gd (inB x2 (lenL.getD s1 0)) (
    if (f_X3_hasSign ((h 59 5) + x2) (schr s1 x2) h) = 0 then
      some x2
    else
      f_X3_sameAs_L2 n s1 (x2 + (1 : Int32)) h)
def f_X3_sameAs (s1 : Nat) (h : HP) : Option (Int32) :=
  ob (f_X3_sameAs_L2 FU s1 (0 : Int32) h) (fun q2 =>
  some q2)
def f_X3_readWord_L12 : Nat → Int32 → Int32 → Int32 → HP → Option (Int32 × HP)
  | 0, _, _, _, _ => none
  | n + 1, x1, x3, x4, h =>
  if x3 ≤ x4 then
    some ((0 : Int32), hset h 59 5 ((h 59 5) + x1))
  else
    gd (inB x4 5) (
    ob (f_X3_sameAs x4.toNatClampNeg h) (fun q30 =>
    if q30 = (slen x4.toNatClampNeg) then
      some (nI (x4.toNatClampNeg + 1), hset h 59 5 ((h 59 5) + q30))
    else
      f_X3_readWord_L12 n (jmax x1 q30) x3 (x4 + (1 : Int32)) h))
def f_X3_readWord  (h : HP) : Option (Int32 × HP) :=
  f_X3_readWord_L12 FU (0 : Int32) (5 : Int32) (0 : Int32) h
def f_X9_isKind (x0 : Int32) (h : HP) : Int32 :=
  if x0 < (65 : Int32) then
    (0 : Int32)
  else
    if (90 : Int32) < x0 then
      (0 : Int32)
    else
      (1 : Int32)
theorem b_X9_isKind (x0 : Int32) (h : HP) : f_X9_isKind x0 h = 0 ∨ f_X9_isKind x0 h = 1 := by
  unfold f_X9_isKind
  (repeat' split) <;> first | exact Or.inl rfl | exact Or.inr rfl | (simp; done)
def f_X3_readOrder_L37 : Nat → Nat → Int32 → Int32 → HP → Option (Int32 × HP)
  | 0, _, _, _, _ => none
  | n + 1, w1, x2, x3, h =>
  if (slen (5 + w1)) ≤ x3 then
    some ((1 : Int32), hset h 59 4 ((h 59 4) + (1 : Int32)))
  else
    gd (inB x3 (lenL.getD (5 + w1) 0)) (
    if (f_X9_isKind (schr (5 + w1) x3) h) = 0 then
      tb (f_X3_readSign (schr (5 + w1) x3) h) (fun q93 =>
      if q93.1 = 0 then
        some ((0 : Int32), q93.2)
      else
        tb (x2 + (if (f_X9_isKind (schr (5 + w1) x3) h) = 0 then (0 : Int32) else (1 : Int32))) (fun v113 =>
        f_X3_readOrder_L37 n w1 v113 (x3 + (1 : Int32)) q93.2))
    else
      ob (f_X3_readNumber (schr (5 + w1) x3) (((h 59 4) * (4 : Int32)) + x2) h) (fun q81 =>
      if q81.1 = 0 then
        some ((0 : Int32), q81.2)
      else
        tb (x2 + (if (f_X9_isKind (schr (5 + w1) x3) h) = 0 then (0 : Int32) else (1 : Int32))) (fun v113 =>
        f_X3_readOrder_L37 n w1 v113 (x3 + (1 : Int32)) q81.2)))
def f_X3_readOrder  (h : HP) : Option (Int32 × HP) :=
  ob (f_X3_readWord h) (fun q1 =>
  if q1.1 = 0 then
    some ((0 : Int32), q1.2)
  else gd (isWd q1.1) (
    if (q1.2 59 4) < (10 : Int32) then
      gd (inB (q1.2 59 4) 10) (
      f_X3_readOrder_L37 FU ((q1.1).toNatClampNeg - 1) (0 : Int32) (0 : Int32) (hset q1.2 61 (q1.2 59 4).toNatClampNeg (nI (((q1.1).toNatClampNeg - 1) + 1))))
    else
      some ((0 : Int32), q1.2)))
def f_X3_readAll_L12 : Nat → Int32 → HP → Option (Int32 × HP)
  | 0, _, _ => none
  | n + 1, x1, h =>
  if (10 : Int32) ≤ x1 then
    some (h 59 5, h)
  else
    ob (f_X3_readOrder h) (fun q19 =>
    if q19.1 = 0 then
      some (q19.2 59 5, q19.2)
    else
      if (q19.2 59 5) < (q19.2 59 1) then
        tb (f_X3_readSign (59 : Int32) q19.2) (fun q47 =>
        if q47.1 = 0 then
          some (q47.2 59 5, q47.2)
        else
          f_X3_readAll_L12 n (x1 + (1 : Int32)) q47.2)
      else
        some ((-5 : Int32), q19.2))
def f_X3_readAll  (h : HP) : Option (Int32 × HP) :=
  tb (hset h 59 5 (0 : Int32)) (fun h7 =>
  f_X3_readAll_L12 FU (0 : Int32) (hset h7 59 4 (0 : Int32)))
def f_X10_fault  (h : HP) : Option (Int32 × HP) :=
  ob (f_X3_readAll h) (fun q4 =>
  some (q4.1, q4.2))
def f_X3_numberOf (x1 : Int32) (x2 : Int32) (h : HP) : Int32 :=
  f_X10_at 62 ((x1 * (4 : Int32)) + x2) h
def f_X3_wordOf (x1 : Int32) (h : HP) : Int32 :=
  if x1 < 0 then
    (0 : Int32)
  else
    if (10 : Int32) ≤ x1 then
      (0 : Int32)
    else
      h 61 x1.toNatClampNeg
def f_X10_doOrder (x1 : Int32) (h : HP) : Option (Int32 × HP) :=
  if f_X3_wordOf x1 h = 0 then
    some ((-5 : Int32), h)
  else gd (isWd (f_X3_wordOf x1 h)) (
    gd (inB (nI ((f_X3_wordOf x1 h).toNatClampNeg - 1)) 5) (
    if nI ((nI ((f_X3_wordOf x1 h).toNatClampNeg - 1)).toNatClampNeg + 1) = 1 then
      ob (f_X10_addScratch (f_X3_numberOf x1 (0 : Int32) h) (f_X3_numberOf x1 (1 : Int32) h) (f_X3_numberOf x1 (2 : Int32) h) (f_X3_numberOf x1 (3 : Int32) h) h) (fun q107 =>
      some (q107.1, q107.2))
    else
    if nI ((nI ((f_X3_wordOf x1 h).toNatClampNeg - 1)).toNatClampNeg + 1) = 2 then
      ob (f_X10_polishAway (f_X3_numberOf x1 (0 : Int32) h) h) (fun q113 =>
      some (q113.1, q113.2))
    else
    if nI ((nI ((f_X3_wordOf x1 h).toNatClampNeg - 1)).toNatClampNeg + 1) = 3 then
      ob (f_X10_seekFrame (f_X3_numberOf x1 (0 : Int32) h) h) (fun q119 =>
      some (q119.1, q119.2))
    else
    if nI ((nI ((f_X3_wordOf x1 h).toNatClampNeg - 1)).toNatClampNeg + 1) = 4 then
      ob (f_X10_playFrames (f_X3_numberOf x1 (0 : Int32) h) h) (fun q125 =>
      some (q125.1, q125.2))
    else
    if nI ((nI ((f_X3_wordOf x1 h).toNatClampNeg - 1)).toNatClampNeg + 1) = 5 then
      ob (f_X10_pressSymbol (f_X3_numberOf x1 (0 : Int32) h) (f_X3_numberOf x1 (1 : Int32) h) (f_X3_numberOf x1 (2 : Int32) h) h) (fun q135 =>
      some (q135.1, q135.2))
    else
      some ((-5 : Int32), h)))
def f_X10_doAll_L32 : Nat → Int32 → HP → Option (Int32 × HP)
  | 0, _, _ => none
  | n + 1, x2, h =>
  if (h 59 4) ≤ x2 then
    ob (f_X10_recorded (h 59 4) h) (fun q86 =>
    some (q86.1, q86.2))
  else
    ob (f_X10_doOrder x2 h) (fun q45 =>
    if 0 ≤ q45.1 then
      f_X10_doAll_L32 n (x2 + (1 : Int32)) q45.2
    else
      if q45.1 = (-5 : Int32) then
        f_X10_doAll_L32 n (x2 + (1 : Int32)) q45.2
      else
        tb (f_X6_copyFrom 1 9 q45.2) (fun q67 =>
        some (q45.1, q67)))
def f_X10_doAll  (h : HP) : Option (Int32 × HP) :=
  ob (f_X3_readAll h) (fun q4 =>
  if q4.1 = (-5 : Int32) then
    tb (f_X6_copyFrom 9 1 q4.2) (fun q27 =>
    f_X10_doAll_L32 FU (0 : Int32) q27)
  else
    some ((-100 : Int32) - q4.1, q4.2))
def f_X2_takeLatest (o1 : Nat) (h : HP) : Option (Int32 × HP) :=
  if f_X2_stateAt ((h 25 1) - (1 : Int32)) h = 0 then
    some ((0 : Int32), h)
  else gd (isSt (f_X2_stateAt ((h 25 1) - (1 : Int32)) h)) (
    tb (f_X6_copyFrom o1 ((f_X2_stateAt ((h 25 1) - (1 : Int32)) h).toNatClampNeg) h) (fun q19 =>
    some ((1 : Int32), hset q19 25 1 ((q19 25 1) - (1 : Int32)))))
def f_X10_undo  (h : HP) : Option (Int32 × HP) :=
  ob (f_X2_takeLatest 1 h) (fun q8 =>
  if q8.1 = 0 then
    some ((-5 : Int32), q8.2)
  else
    some (q8.2 25 1, q8.2))
def f_X10_keep  (h : HP) : Int32 × HP :=
  tb (f_X6_copyFrom 17 1 h) (fun q8 =>
  tb (hset q8 0 3 (1 : Int32)) (fun h17 =>
  (h17 8 2, h17)))
def f_X10_restore  (h : HP) : Option (Int32 × HP) :=
  if (h 0 3) = 0 then
    some ((-5 : Int32), h)
  else
    tb (f_X6_copyFrom 9 1 h) (fun q18 =>
    tb (f_X6_copyFrom 1 17 q18) (fun q29 =>
    ob (f_X10_recorded (q29 8 2) q29) (fun q43 =>
    some (q43.1, q43.2))))
def f_X5_groups (o0 : Nat) (h : HP) : Int32 :=
  (f_X5_allFrames o0 h) / (5 : Int32)
def f_X5_groupOf (o0 : Nat) (x1 : Int32) (h : HP) : Int32 :=
  if (f_X5_groups o0 h) ≤ (x1 / (5 : Int32)) then
    (-5 : Int32)
  else
    x1 / (5 : Int32)
def f_X7_howIs (x1 : Int32) (h : HP) : Int32 :=
  f_X10_at 68 x1 h
def f_X8_flatOf (x0 : Int32) (h : HP) : Int32 :=
  (3 : Int32) + (jrem x0 (4 : Int32))
def f_X8_pitOf (x0 : Int32) (h : HP) : Int32 :=
  (3 : Int32) + (x0 / (4 : Int32))
def f_X8_balanceOf_L4 : Nat → Nat → Int32 → Int32 → Int32 → HP → Option (Int32)
  | 0, _, _, _, _, _ => none
  | n + 1, o0, x1, x2, x3, h =>
  if (4 : Int32) ≤ x3 then
    some x2
  else
    ob (f_X8_standsAt o0 x1 x3 h) (fun q12 =>
    tb (x2 + ((f_X8_pitOf q12 h) - (f_X8_flatOf q12 h))) (fun v30 =>
    f_X8_balanceOf_L4 n o0 x1 v30 (x3 + (1 : Int32)) h))
def f_X8_balanceOf (o0 : Nat) (x1 : Int32) (h : HP) : Option (Int32) :=
  ob (f_X8_balanceOf_L4 FU o0 x1 (0 : Int32) (0 : Int32) h) (fun q4 =>
  some q4)
def f_X8_lengthOf_L4 : Nat → Nat → Int32 → Int32 → Int32 → HP → Option (Int32)
  | 0, _, _, _, _, _ => none
  | n + 1, o0, x1, x2, x3, h =>
  if (4 : Int32) ≤ x3 then
    some x2
  else
    ob (f_X8_standsAt o0 x1 x3 h) (fun q12 =>
    tb (x2 + ((f_X8_pitOf q12 h) + (f_X8_flatOf q12 h))) (fun v30 =>
    f_X8_lengthOf_L4 n o0 x1 v30 (x3 + (1 : Int32)) h))
def f_X8_lengthOf (o0 : Nat) (x1 : Int32) (h : HP) : Option (Int32) :=
  ob (f_X8_lengthOf_L4 FU o0 x1 (0 : Int32) (0 : Int32) h) (fun q4 =>
  some q4)
def f_X8_longestRunOf_L4 : Nat → Nat → Int32 → Int32 → Int32 → HP → Option (Int32)
  | 0, _, _, _, _, _ => none
  | n + 1, o0, x1, x2, x3, h =>
  if (4 : Int32) ≤ x3 then
    some x2
  else
    ob (f_X8_standsAt o0 x1 x3 h) (fun q12 =>
    tb (jmax x2 (jmax (f_X8_pitOf q12 h) (f_X8_flatOf q12 h))) (fun v34 =>
    f_X8_longestRunOf_L4 n o0 x1 v34 (x3 + (1 : Int32)) h))
def f_X8_longestRunOf (o0 : Nat) (x1 : Int32) (h : HP) : Option (Int32) :=
  ob (f_X8_longestRunOf_L4 FU o0 x1 (0 : Int32) (0 : Int32) h) (fun q4 =>
  some q4)
def f_X10_frame (x1 : Int32) (x2 : Int32) (h : HP) : Option (Int32 × HP) :=
  if (f_X5_hasFrame 2 x1 h) = 0 then
    some ((-1 : Int32), h)
  else
    if x2 = 0 then
      ob (f_X5_turnOf 2 x1 h) (fun q70 =>
      some (q70, h))
    else
    if x2 = 1 then
      ob (f_X5_turnOf 2 x1 h) (fun q78 =>
      some (x1 - (f_X5_firstOf 2 q78 h), h))
    else
    if x2 = 2 then
      some (f_X5_groupOf 2 x1 h, h)
    else
    if x2 = 3 then
      if (f_X5_isCheck x1 h) = 0 then
        some ((0 : Int32), h)
      else
        some ((1 : Int32), h)
    else
    if x2 = 4 then
      ob (f_X7_of 1 h) (fun q113 =>
      if (f_X7_isDamaged x1 q113) = 0 then
        some ((0 : Int32), q113)
      else
        some ((1 : Int32), q113))
    else
    if x2 = 5 then
      ob (f_X7_of 1 h) (fun q137 =>
      some (f_X7_howIs x1 q137, q137))
    else
    if x2 = 6 then
      ob (f_X8_lengthOf 5 x1 h) (fun q153 =>
      some (q153, h))
    else
    if x2 = 7 then
      ob (f_X8_balanceOf 5 x1 h) (fun q165 =>
      some (q165 + (100 : Int32), h))
    else
    if x2 = 8 then
      ob (f_X8_longestRunOf 5 x1 h) (fun q180 =>
      some (q180, h))
    else
      some ((-2 : Int32), h)
def f_X10_filledSymbol (x1 : Int32) (x2 : Int32) (h : HP) : Option (Int32) :=
  ob (f_X8_standsAt 5 (f_X5_dataAhead x1 h) x2 h) (fun q12 =>
  ob (f_X8_standsAt 5 (f_X5_dataBehind x1 h) x2 h) (fun q28 =>
  some ((q12 + q28) / (2 : Int32))))
def f_X10_toldSymbol (x1 : Int32) (x2 : Int32) (h : HP) : Option (Int32 × HP) :=
  ob (f_X7_of 1 h) (fun q8 =>
  if (f_X7_howIs x1 q8) = (3 : Int32) then
    some ((-5 : Int32), q8)
  else
    if (f_X7_howIs x1 q8) = (2 : Int32) then
      ob (f_X10_filledSymbol x1 x2 q8) (fun q32 =>
      some (q32, q8))
    else
      ob (f_X8_standsAt 5 x1 x2 q8) (fun q47 =>
      some (q47, q8)))
def f_X10_symbol (x1 : Int32) (x2 : Int32) (x3 : Int32) (h : HP) : Option (Int32 × HP) :=
  if (f_X5_hasFrame 2 x1 h) = 0 then
    some ((-1 : Int32), h)
  else
    if (f_X10_isPlace x2 h) = 0 then
      some ((-2 : Int32), h)
    else
      if x3 = 0 then
        ob (f_X8_standsAt 5 x1 x2 h) (fun q48 =>
        some (q48, h))
      else
        ob (f_X10_toldSymbol x1 x2 h) (fun q33 =>
        some (q33.1, q33.2))
def f_X8_lengthOfAll_L5 : Nat → Nat → Int32 → Int32 → Int32 → HP → Option (Int32)
  | 0, _, _, _, _, _ => none
  | n + 1, o0, x2, x3, x4, h =>
  if x2 ≤ x4 then
    some x3
  else
    ob (f_X8_lengthOf o0 x4 h) (fun q15 =>
    f_X8_lengthOfAll_L5 n o0 x2 (x3 + q15) (x4 + (1 : Int32)) h)
def f_X8_lengthOfAll (o0 : Nat) (x1 : Int32) (x2 : Int32) (h : HP) : Option (Int32) :=
  ob (f_X8_lengthOfAll_L5 FU o0 x2 (0 : Int32) x1 h) (fun q5 =>
  some q5)
def f_X10_turn (x1 : Int32) (x2 : Int32) (h : HP) : Option (Int32 × HP) :=
  if x1 < 0 then
    some ((-1 : Int32), h)
  else
    if x1 < (30 : Int32) then
      if x2 = 0 then
        some (f_X5_framesOf 2 x1 h, h)
      else
      if x2 = 1 then
        some (f_X5_firstOf 2 x1 h, h)
      else
      if x2 = 2 then
        ob (f_X7_of 1 h) (fun q81 =>
        ob (f_X7_damagedIn (f_X5_firstOf 2 x1 h) ((f_X5_firstOf 2 x1 h) + (f_X5_framesOf 2 x1 h)) (-1 : Int32) q81) (fun q90 =>
        some (q90, q81)))
      else
      if x2 = 3 then
        ob (f_X8_lengthOfAll 5 (f_X5_firstOf 2 x1 h) ((f_X5_firstOf 2 x1 h) + (f_X5_framesOf 2 x1 h)) h) (fun q106 =>
        some (q106, h))
      else
        some ((-2 : Int32), h)
    else
      some ((-1 : Int32), h)
def f_X10_scratchOf (x1 : Int32) (x2 : Int32) (h : HP) : Option (Int32 × HP) :=
  if (f_X4_has 3 x1 h) = 0 then
    some ((-1 : Int32), h)
  else
    if x2 = 0 then
      some (f_X4_fromOf 3 x1 h, h)
    else
    if x2 = 1 then
      some (f_X4_toOf 3 x1 h, h)
    else
    if x2 = 2 then
      some (f_X4_innerOf 3 x1 h, h)
    else
    if x2 = 3 then
      some (f_X4_outerOf 3 x1 h, h)
    else
    if x2 = 4 then
      ob (f_X7_of 1 h) (fun q108 =>
      ob (f_X7_damagedIn (0 : Int32) (3810 : Int32) ((1 : Int32) <<< (x1 &&& 31)) q108) (fun q118 =>
      some (q118, q108)))
    else
      some ((-2 : Int32), h)
def f_X5_isSetting (x0 : Int32) (h : HP) : Int32 :=
  if x0 < 0 then
    (0 : Int32)
  else
    if (5 : Int32) < x0 then
      (0 : Int32)
    else
      (1 : Int32)
theorem b_X5_isSetting (x0 : Int32) (h : HP) : f_X5_isSetting x0 h = 0 ∨ f_X5_isSetting x0 h = 1 := by
  unfold f_X5_isSetting
  (repeat' split) <;> first | exact Or.inl rfl | exact Or.inr rfl | (simp; done)
def f_X10_countSetting (x1 : Int32) (h : HP) : Int32 :=
  if (f_X5_isSetting x1 h) = 0 then
    (-2 : Int32)
  else
    f_X5_settingAt 2 x1 h
def f_X7_framesThatAre_L13 : Nat → Int32 → Int32 → Int32 → Int32 → HP → Option (Int32)
  | 0, _, _, _, _, _ => none
  | n + 1, x1, x2, x3, x4, h =>
  if x3 ≤ x4 then
    some x2
  else
    if (3810 : Int32) ≤ x4 then
      some x2
    else
      gd (inB x4 3810) (
      f_X7_framesThatAre_L13 n x1 (if (h 68 x4.toNatClampNeg) = x1 then (x2 + (1 : Int32)) else x2) x3 (x4 + (1 : Int32)) h)
def f_X7_framesThatAre (x1 : Int32) (h : HP) : Option (Int32) :=
  ob (f_X7_framesThatAre_L13 FU x1 (0 : Int32) (f_X5_allFrames 64 h) (0 : Int32) h) (fun q13 =>
  some q13)
def f_X10_count (x1 : Int32) (h : HP) : Option (Int32 × HP) :=
  if x1 = 0 then
    some (f_X5_allFrames 2 h, h)
  else
  if x1 = 1 then
    some (f_X5_groups 2 h, h)
  else
  if x1 = 2 then
    some (h 3 1, h)
  else
  if x1 = 3 then
    some (h 8 0, h)
  else
  if x1 = 4 then
    ob (f_X5_turnOf 2 (h 8 0) h) (fun q145 =>
    some (q145, h))
  else
  if x1 = 5 then
    some (h 8 1, h)
  else
  if x1 = 6 then
    some (h 8 2, h)
  else
  if x1 = 7 then
    some (h 8 3, h)
  else
  if x1 = 8 then
    some (h 8 4, h)
  else
  if x1 = 9 then
    some (h 8 5, h)
  else
  if x1 = 10 then
    ob (f_X7_of 1 h) (fun q212 =>
    ob (f_X7_framesThatAre (0 : Int32) q212) (fun q216 =>
    some (q216, q212)))
  else
  if x1 = 11 then
    ob (f_X7_of 1 h) (fun q228 =>
    ob (f_X7_framesThatAre (1 : Int32) q228) (fun q232 =>
    some (q232, q228)))
  else
  if x1 = 12 then
    ob (f_X7_of 1 h) (fun q244 =>
    ob (f_X7_framesThatAre (2 : Int32) q244) (fun q248 =>
    some (q248, q244)))
  else
  if x1 = 13 then
    ob (f_X7_of 1 h) (fun q260 =>
    ob (f_X7_framesThatAre (3 : Int32) q260) (fun q264 =>
    some (q264, q260)))
  else
  if x1 = 14 then
    some (h 5 2, h)
  else
  if x1 = 15 then
    some (h 25 1, h)
  else
  if x1 = 16 then
    some (h 59 1, h)
  else
    some (f_X10_countSetting (x1 - (17 : Int32)) h, h)
def f_X10_isToldRight_L23 : Nat → Int32 → Int32 → Int32 → Int32 → HP → Option (Int32)
  | 0, _, _, _, _, _ => none
  | n + 1, x1, x2, x3, x4, h =>
  if (4 : Int32) ≤ x4 then
    some x3
  else
    if x3 = 0 then
      some x3
    else
      if x2 = (2 : Int32) then
        ob (f_X10_filledSymbol x1 x4 h) (fun q42 =>
        ob (f_X8_standsAt 5 x1 x4 h) (fun q55 =>
        tb ((if q42 = q55 then (1 : Int32) else (0 : Int32))) (fun v66 =>
        f_X10_isToldRight_L23 n x1 x2 v66 (x4 + (1 : Int32)) h)))
      else
        some x3
def f_X10_isToldRight (x1 : Int32) (h : HP) : Option (Int32) :=
  tb ((if (f_X7_howIs x1 h) = (3 : Int32) then (0 : Int32) else (1 : Int32))) (fun v19 =>
  ob (f_X10_isToldRight_L23 FU x1 (f_X7_howIs x1 h) v19 (0 : Int32) h) (fun q23 =>
  gd (is01 q23) (
  some q23)))
def f_X10_right_L30 : Nat → Int32 → Int32 → Int32 → Int32 → HP → Option (Int32 × Int32)
  | 0, _, _, _, _, _ => none
  | n + 1, x1, x2, x3, x4, h =>
  if x3 ≤ x4 then
    some (x1, x2)
  else
    ob (
      if (f_X5_isCheck x4 h) = 0 then
        ob (f_X10_isToldRight x4 h) (fun q51 =>
        tb (x2 + (if q51 = 0 then (0 : Int32) else (1 : Int32))) (fun v63 =>
        some (x1 + (1 : Int32), v63)))
      else
        some (x1, x2)) (fun j41 =>
    f_X10_right_L30 n j41.1 j41.2 x3 (x4 + (1 : Int32)) h)
def f_X10_right  (h : HP) : Option (UInt64 × HP) :=
  ob (f_X7_of 1 h) (fun q23 =>
  ob (f_X10_right_L30 FU (0 : Int32) (0 : Int32) (f_X5_allFrames 2 h) (0 : Int32) q23) (fun q30 =>
  if q30.1 = 0 then
    some (FP.dconst1, q23)
  else
    gd (dok (FP.ddiv (FP.i2d q30.2) (FP.i2d q30.1))) (
    some (FP.ddiv (FP.i2d q30.2) (FP.i2d q30.1), q23))))
def f_X10_trySeek (x1 : Int32) (x2 : Int32) (h : HP) : Option (Int32 × HP) :=
  tb (f_X1_copyFrom 69 8 h) (fun q11 =>
  ob (f_X1_goTo 69 x1 2 x2 q11) (fun q27 =>
  some ((q27 69 2) - (q27 8 2), q27)))
def f_X10_ifSought (x1 : Int32) (x2 : Int32) (h : HP) : Option (Int32 × HP) :=
  if (f_X5_hasFrame 2 x1 h) = 0 then
    some ((-1 : Int32), h)
  else
    if x2 = 0 then
      ob (f_X10_trySeek x1 (h 2 4) h) (fun q40 =>
      if x2 = 0 then
        some (q40.1, q40.2)
      else
        some ((q40.2 69 5) - (q40.2 8 5), q40.2))
    else
      if x2 = (1 : Int32) then
        ob (f_X10_trySeek x1 (h 2 4) h) (fun q40 =>
        if x2 = 0 then
          some (q40.1, q40.2)
        else
          some ((q40.2 69 5) - (q40.2 8 5), q40.2))
      else
        some ((-2 : Int32), h)
def f_X10_bestGuess_L31 : Nat → Int32 → Int32 → Int32 → Int32 → HP → Option (Int32 × HP)
  | 0, _, _, _, _, _ => none
  | n + 1, x1, x2, x3, x4, h =>
  if (140 : Int32) < x4 then
    some (x2, h)
  else
    ob (f_X10_trySeek x1 x4 h) (fun q43 =>
    f_X10_bestGuess_L31 n x1 (if x3 ≤ q43.1 then x2 else x4) (if x3 ≤ q43.1 then x3 else q43.1) (x4 + (1 : Int32)) q43.2)
def f_X10_bestGuess (x1 : Int32) (h : HP) : Option (Int32 × HP) :=
  if (f_X5_hasFrame 2 x1 h) = 0 then
    some ((-1 : Int32), h)
  else
    ob (f_X10_trySeek x1 (60 : Int32) h) (fun q23 =>
    ob (f_X10_bestGuess_L31 FU x1 (60 : Int32) q23.1 (61 : Int32) q23.2) (fun q31 =>
    some (q31.1, q31.2)))
def f_X7_missingWithout (x1 : Int32) (h : HP) : Option (Int32 × HP) :=
  ob (f_X7_judge (((1 : Int32) <<< (x1 &&& 31)) ^^^ (-1 : Int32)) h) (fun q6 =>
  ob (f_X7_framesThatAre (3 : Int32) q6) (fun q11 =>
  some (q11, q6)))
def f_X10_polishFirst_L49 : Nat → Int32 → Int32 → Int32 → HP → Option (Int32 × Int32 × HP)
  | 0, _, _, _, _ => none
  | n + 1, x2, x3, x4, h =>
  if (h 3 1) ≤ x4 then
    some (x2, x3, h)
  else
    ob (f_X7_missingWithout x4 h) (fun q70 =>
    f_X10_polishFirst_L49 n (if x3 ≤ q70.1 then x2 else x4) (if x3 ≤ q70.1 then x3 else q70.1) (x4 + (1 : Int32)) q70.2)
def f_X10_polishFirst (x1 : Int32) (h : HP) : Option (Int32 × HP) :=
  if x1 = 0 then
    if (h 3 1) = 0 then
      some ((-5 : Int32), h)
    else
      ob (f_X7_of 1 h) (fun q38 =>
      ob (f_X7_missingWithout (0 : Int32) q38) (fun q42 =>
      ob (f_X10_polishFirst_L49 FU (0 : Int32) q42.1 (1 : Int32) q42.2) (fun q49 =>
      ob (f_X7_judge (-1 : Int32) q49.2.2) (fun q98 =>
      if x1 = 0 then
        some (q49.1, q98)
      else
        some (q49.2.1, q98)))))
  else
    if x1 = (1 : Int32) then
      if (h 3 1) = 0 then
        some ((-5 : Int32), h)
      else
        ob (f_X7_of 1 h) (fun q38 =>
        ob (f_X7_missingWithout (0 : Int32) q38) (fun q42 =>
        ob (f_X10_polishFirst_L49 FU (0 : Int32) q42.1 (1 : Int32) q42.2) (fun q49 =>
        ob (f_X7_judge (-1 : Int32) q49.2.2) (fun q98 =>
        if x1 = 0 then
          some (q49.1, q98)
        else
          some (q49.2.1, q98)))))
    else
      some ((-2 : Int32), h)
def f_X10_gap_L46 : Nat → Int32 → Int32 → Int32 → Int32 → Int32 → HP → Option (Int32 × Int32)
  | 0, _, _, _, _, _, _ => none
  | n + 1, x2, x3, x4, x5, x6, h =>
  if x5 ≤ x6 then
    some (x2, x3)
  else
    tb ((if (f_X7_howIs x6 h) = (3 : Int32) then (x4 + (1 : Int32)) else (0 : Int32))) (fun v74 =>
    f_X10_gap_L46 n (if v74 ≤ x2 then x2 else v74) (if v74 ≤ x2 then x3 else ((x6 - v74) + (1 : Int32))) v74 x5 (x6 + (1 : Int32)) h)
def f_X10_gap (x1 : Int32) (h : HP) : Option (Int32 × HP) :=
  if x1 = 0 then
    ob (f_X7_of 1 h) (fun q39 =>
    ob (f_X10_gap_L46 FU (0 : Int32) (0 : Int32) (0 : Int32) (f_X5_allFrames 2 h) (0 : Int32) q39) (fun q46 =>
    if q46.1 = 0 then
      some ((-5 : Int32), q39)
    else
      if x1 = 0 then
        some (q46.2, q39)
      else
        some (q46.1, q39)))
  else
    if x1 = (1 : Int32) then
      ob (f_X7_of 1 h) (fun q39 =>
      ob (f_X10_gap_L46 FU (0 : Int32) (0 : Int32) (0 : Int32) (f_X5_allFrames 2 h) (0 : Int32) q39) (fun q46 =>
      if q46.1 = 0 then
        some ((-5 : Int32), q39)
      else
        if x1 = 0 then
          some (q46.2, q39)
        else
          some (q46.1, q39)))
    else
      some ((-2 : Int32), h)
def f_X11_in (x0 : Int32) (x1 : Int32) (x2 : Int32) (h : HP) : Int32 :=
  if x0 < x1 then
    (0 : Int32)
  else
    if x2 < x0 then
      (0 : Int32)
    else
      (1 : Int32)
theorem b_X11_in (x0 : Int32) (x1 : Int32) (x2 : Int32) (h : HP) : f_X11_in x0 x1 x2 h = 0 ∨ f_X11_in x0 x1 x2 h = 1 := by
  unfold f_X11_in
  (repeat' split) <;> first | exact Or.inl rfl | exact Or.inr rfl | (simp; done)
def f_X11_size (x0 : Int32) (h : HP) : Int32 :=
  if 0 ≤ x0 then
    x0
  else
    -x0
def f_X11_putAside_L2 : Nat → Int32 → HP → Option (HP)
  | 0, _, _ => none
  | n + 1, x1, h =>
  if (166 : Int32) ≤ x1 then
    some h
  else
    gd (inB x1 166) (
    gd (inB x1 166) (
    f_X11_putAside_L2 n (x1 + (1 : Int32)) (hset h 72 x1.toNatClampNeg (h 71 x1.toNatClampNeg))))
def f_X11_putAside  (h : HP) : Option (HP) :=
  ob (f_X11_putAside_L2 FU (0 : Int32) h) (fun q2 =>
  some q2)
def f_X11_putBack_L2 : Nat → Int32 → HP → Option (HP)
  | 0, _, _ => none
  | n + 1, x1, h =>
  if (166 : Int32) ≤ x1 then
    some h
  else
    gd (inB x1 166) (
    gd (inB x1 166) (
    f_X11_putBack_L2 n (x1 + (1 : Int32)) (hset h 71 x1.toNatClampNeg (h 72 x1.toNatClampNeg))))
def f_X11_putBack  (h : HP) : Option (HP) :=
  ob (f_X11_putBack_L2 FU (0 : Int32) h) (fun q2 =>
  some q2)
def f_X11_act_L20 : Nat → Int32 → HP → Option (HP)
  | 0, _, _ => none
  | n + 1, x2, h =>
  if (498 : Int32) ≤ x2 then
    some h
  else
    gd (inB ((166 : Int32) + x2) 664) (
    gd (inB x2 664) (
    f_X11_act_L20 n (x2 + (1 : Int32)) (hset h 73 x2.toNatClampNeg (h 73 ((166 : Int32) + x2).toNatClampNeg))))
def f_X11_act_L61 : Nat → Int32 → HP → Option (HP)
  | 0, _, _ => none
  | n + 1, x2, h =>
  if (166 : Int32) ≤ x2 then
    some h
  else
    gd (inB x2 166) (
    gd (inB (((166 : Int32) * (h 70 3)) + x2) 664) (
    f_X11_act_L61 n (x2 + (1 : Int32)) (hset h 73 (((166 : Int32) * (h 70 3)) + x2).toNatClampNeg (h 72 x2.toNatClampNeg))))
def f_X11_act (x1 : Int32) (h : HP) : Option (Int32 × HP) :=
  if 0 ≤ x1 then
    ob (
      if (h 70 3) = (4 : Int32) then
        ob (f_X11_act_L20 FU (0 : Int32) h) (fun q20 =>
        some (hset q20 70 3 ((q20 70 3) - (1 : Int32))))
      else
        some h) (fun j15 =>
    ob (f_X11_act_L61 FU (0 : Int32) j15) (fun q61 =>
    some (x1, hset q61 70 3 ((q61 70 3) + (1 : Int32)))))
  else
    ob (f_X11_putBack h) (fun q5 =>
    some (x1, q5))
def f_X11_framesOf (x1 : Int32) (h : HP) : Int32 :=
  (h 71 0) + (x1 * (h 71 1))
def f_X11_start (x1 : Int32) (h : HP) : Int32 :=
  (x1 * (h 71 0)) + (((x1 * (x1 - (1 : Int32))) / (2 : Int32)) * (h 71 1))
def f_X11_frames  (h : HP) : Int32 :=
  f_X11_start (30 : Int32) h
def f_X11_isFrame (x1 : Int32) (h : HP) : Int32 :=
  f_X11_in x1 (0 : Int32) ((f_X11_frames h) - (1 : Int32)) h
theorem b_X11_isFrame (x1 : Int32) (h : HP) : f_X11_isFrame x1 h = 0 ∨ f_X11_isFrame x1 h = 1 := by
  unfold f_X11_isFrame
  (repeat' split) <;> first | exact Or.inl rfl | exact Or.inr rfl | exact b_X11_in .. | (simp; done)
def f_X11_turnOf_L2 : Nat → Int32 → Int32 → HP → Option (Int32)
  | 0, _, _, _ => none
  | n + 1, x1, x2, h =>
  if (29 : Int32) ≤ x2 then
    some x2
  else
    if x1 < (f_X11_start (x2 + (1 : Int32)) h) then
      some x2
    else
      f_X11_turnOf_L2 n x1 (x2 + (1 : Int32)) h
def f_X11_turnOf (x1 : Int32) (h : HP) : Option (Int32) :=
  ob (f_X11_turnOf_L2 FU x1 (0 : Int32) h) (fun q2 =>
  some q2)
def f_X11_isCheck (x0 : Int32) (h : HP) : Int32 :=
  if (jrem x0 (5 : Int32)) = (4 : Int32) then
    (1 : Int32)
  else
    (0 : Int32)
theorem b_X11_isCheck (x0 : Int32) (h : HP) : f_X11_isCheck x0 h = 0 ∨ f_X11_isCheck x0 h = 1 := by
  unfold f_X11_isCheck
  (repeat' split) <;> first | exact Or.inl rfl | exact Or.inr rfl | (simp; done)
def f_X11_hasGroup (x1 : Int32) (h : HP) : Int32 :=
  if ((f_X11_frames h) / (5 : Int32)) ≤ (x1 / (5 : Int32)) then
    (0 : Int32)
  else
    (1 : Int32)
theorem b_X11_hasGroup (x1 : Int32) (h : HP) : f_X11_hasGroup x1 h = 0 ∨ f_X11_hasGroup x1 h = 1 := by
  unfold f_X11_hasGroup
  (repeat' split) <;> first | exact Or.inl rfl | exact Or.inr rfl | (simp; done)
def f_X11_findPressed_L2 : Nat → Int32 → Int32 → Int32 → HP → Option (Int32)
  | 0, _, _, _, _ => none
  | n + 1, x1, x2, x3, h =>
  if (h 71 45) ≤ x3 then
    some (-5 : Int32)
  else
    gd (inB ((46 : Int32) + ((3 : Int32) * x3)) 166) (
    if (h 71 ((46 : Int32) + ((3 : Int32) * x3)).toNatClampNeg) = x1 then
      gd (inB (((46 : Int32) + ((3 : Int32) * x3)) + (1 : Int32)) 166) (
      if (h 71 (((46 : Int32) + ((3 : Int32) * x3)) + (1 : Int32)).toNatClampNeg) = x2 then
        some x3
      else
        f_X11_findPressed_L2 n x1 x2 (x3 + (1 : Int32)) h)
    else
      f_X11_findPressed_L2 n x1 x2 (x3 + (1 : Int32)) h)
def f_X11_findPressed (x1 : Int32) (x2 : Int32) (h : HP) : Option (Int32) :=
  f_X11_findPressed_L2 FU x1 x2 (0 : Int32) h
def f_X11_atFirst (x0 : Int32) (x1 : Int32) (h : HP) : Int32 :=
  jrem (((7 : Int32) * x0) + ((3 : Int32) * x1)) (16 : Int32)
def f_X11_dataSymbol (x1 : Int32) (x2 : Int32) (h : HP) : Option (Int32) :=
  ob (f_X11_findPressed x1 x2 h) (fun q3 =>
  if q3 = (-5 : Int32) then
    some (f_X11_atFirst x1 x2 h)
  else
    gd (inB (((46 : Int32) + ((3 : Int32) * q3)) + (2 : Int32)) 166) (
    some (h 71 (((46 : Int32) + ((3 : Int32) * q3)) + (2 : Int32)).toNatClampNeg)))
def f_X11_symbolOf_L19 : Nat → Int32 → Int32 → Int32 → Int32 → HP → Option (Int32)
  | 0, _, _, _, _, _ => none
  | n + 1, x1, x2, x3, x4, h =>
  if (5 : Int32) ≤ x4 then
    some x3
  else
    ob (f_X11_dataSymbol (x1 - x4) x2 h) (fun q32 =>
    f_X11_symbolOf_L19 n x1 x2 (x3 + q32) (x4 + (1 : Int32)) h)
def f_X11_symbolOf (x1 : Int32) (x2 : Int32) (h : HP) : Option (Int32) :=
  if (f_X11_isCheck x1 h) = 0 then
    ob (f_X11_dataSymbol x1 x2 h) (fun q10 =>
    some q10)
  else
    ob (f_X11_symbolOf_L19 FU x1 x2 (0 : Int32) (1 : Int32) h) (fun q19 =>
    some (jrem q19 (16 : Int32)))
def f_X11_pit (x0 : Int32) (h : HP) : Int32 :=
  (3 : Int32) + (x0 / (4 : Int32))
def f_X11_flat (x0 : Int32) (h : HP) : Int32 :=
  (3 : Int32) + (jrem x0 (4 : Int32))
def f_X11_pits_L4 : Nat → Int32 → Int32 → Int32 → HP → Option (Int32)
  | 0, _, _, _, _ => none
  | n + 1, x1, x2, x3, h =>
  if (4 : Int32) ≤ x3 then
    some x2
  else
    ob (f_X11_symbolOf x1 x3 h) (fun q13 =>
    f_X11_pits_L4 n x1 (x2 + (f_X11_pit q13 h)) (x3 + (1 : Int32)) h)
def f_X11_pits (x1 : Int32) (h : HP) : Option (Int32) :=
  ob (f_X11_pits_L4 FU x1 (0 : Int32) (0 : Int32) h) (fun q4 =>
  some q4)
def f_X11_flats_L4 : Nat → Int32 → Int32 → Int32 → HP → Option (Int32)
  | 0, _, _, _, _ => none
  | n + 1, x1, x2, x3, h =>
  if (4 : Int32) ≤ x3 then
    some x2
  else
    ob (f_X11_symbolOf x1 x3 h) (fun q13 =>
    f_X11_flats_L4 n x1 (x2 + (f_X11_flat q13 h)) (x3 + (1 : Int32)) h)
def f_X11_flats (x1 : Int32) (h : HP) : Option (Int32) :=
  ob (f_X11_flats_L4 FU x1 (0 : Int32) (0 : Int32) h) (fun q4 =>
  some q4)
def f_X11_longestRun_L4 : Nat → Int32 → Int32 → Int32 → HP → Option (Int32)
  | 0, _, _, _, _ => none
  | n + 1, x1, x2, x3, h =>
  if (4 : Int32) ≤ x3 then
    some x2
  else
    ob (f_X11_symbolOf x1 x3 h) (fun q12 =>
    tb ((if (f_X11_pit q12 h) ≤ x2 then x2 else (f_X11_pit q12 h))) (fun v35 =>
    tb ((if (f_X11_flat q12 h) ≤ v35 then v35 else (f_X11_flat q12 h))) (fun v54 =>
    f_X11_longestRun_L4 n x1 v54 (x3 + (1 : Int32)) h)))
def f_X11_longestRun (x1 : Int32) (h : HP) : Option (Int32) :=
  ob (f_X11_longestRun_L4 FU x1 (0 : Int32) (0 : Int32) h) (fun q4 =>
  some q4)
def f_X11_damages (x1 : Int32) (x2 : Int32) (x3 : Int32) (h : HP) : Option (Int32) :=
  gd (inB (((13 : Int32) + ((4 : Int32) * x1)) + (2 : Int32)) 166) (
  gd (inB (((13 : Int32) + ((4 : Int32) * x1)) + (3 : Int32)) 166) (
  if (f_X11_in x2 (h 71 (((13 : Int32) + ((4 : Int32) * x1)) + (2 : Int32)).toNatClampNeg) (h 71 (((13 : Int32) + ((4 : Int32) * x1)) + (3 : Int32)).toNatClampNeg) h) = 0 then
    some (0 : Int32)
  else
    gd (inB (((13 : Int32) + ((4 : Int32) * x1)) + (1 : Int32)) 166) (
    if (((h 71 (((13 : Int32) + ((4 : Int32) * x1)) + (1 : Int32)).toNatClampNeg) + (1 : Int32)) * (f_X11_framesOf x2 h)) ≤ ((360 : Int32) * x3) then
      some (0 : Int32)
    else
      gd (inB ((13 : Int32) + ((4 : Int32) * x1)) 166) (
      if ((360 : Int32) * (x3 + (1 : Int32))) ≤ ((h 71 ((13 : Int32) + ((4 : Int32) * x1)).toNatClampNeg) * (f_X11_framesOf x2 h)) then
        some (0 : Int32)
      else
        some (1 : Int32)))))
def f_X11_lay_L25 : Nat → Int32 → Int32 → Int32 → Int32 → Int32 → HP → Option (Int32)
  | 0, _, _, _, _, _, _ => none
  | n + 1, x1, x2, x3, x4, x5, h =>
  if (h 71 12) ≤ x5 then
    some x4
  else
    ob (
      if x4 = 0 then
        if x5 = x1 then
          some (0 : Int32)
        else
          ob (f_X11_damages x5 x2 x3 h) (fun q53 =>
          if q53 = 0 then
            some (0 : Int32)
          else
            some (1 : Int32))
      else
        some (1 : Int32)) (fun j39 =>
    f_X11_lay_L25 n x1 x2 x3 j39 (x5 + (1 : Int32)) h)
def f_X11_lay_L10 : Nat → Int32 → Int32 → Int32 → HP → Option (HP)
  | 0, _, _, _, _ => none
  | n + 1, x1, x2, x3, h =>
  if (f_X11_framesOf x2 h) ≤ x3 then
    some h
  else
    ob (f_X11_lay_L25 FU x1 x2 x3 (0 : Int32) (0 : Int32) h) (fun q25 =>
    gd (inB ((f_X11_start x2 h) + x3) 3810) (
    f_X11_lay_L10 n x1 x2 (x3 + (1 : Int32)) (hset h 76 ((f_X11_start x2 h) + x3).toNatClampNeg (vp_nar .boolean q25))))
def f_X11_lay_L2 : Nat → Int32 → Int32 → HP → Option (HP)
  | 0, _, _, _ => none
  | n + 1, x1, x2, h =>
  if (30 : Int32) ≤ x2 then
    some h
  else
    ob (f_X11_lay_L10 FU x1 x2 (0 : Int32) h) (fun q10 =>
    f_X11_lay_L2 n x1 (x2 + (1 : Int32)) q10)
def f_X11_lay (x1 : Int32) (h : HP) : Option (HP) :=
  ob (f_X11_lay_L2 FU x1 (0 : Int32) h) (fun q2 =>
  some q2)
def f_X11_damaged_L10 : Nat → Int32 → Int32 → HP → Option (Int32)
  | 0, _, _, _ => none
  | n + 1, x1, x2, h =>
  if (f_X11_frames h) ≤ x2 then
    some x1
  else
    gd (inB x2 3810) (
    tb (x1 + (if (h 76 x2.toNatClampNeg) = 0 then (0 : Int32) else (1 : Int32))) (fun v34 =>
    f_X11_damaged_L10 n v34 (x2 + (1 : Int32)) h))
def f_X11_damaged  (h : HP) : Option (Int32 × HP) :=
  ob (f_X11_lay (-5 : Int32) h) (fun q3 =>
  ob (f_X11_damaged_L10 FU (0 : Int32) (0 : Int32) q3) (fun q10 =>
  some (q10, q3)))
def f_X11_isSound_L15 : Nat → Int32 → Int32 → Int32 → HP → Option (Int32)
  | 0, _, _, _, _ => none
  | n + 1, x1, x2, x3, h =>
  if (5 : Int32) ≤ x3 then
    some x2
  else
    if (f_X11_hasGroup x1 h) = 0 then
      some x2
    else
      gd (inB (((x1 / (5 : Int32)) * (5 : Int32)) + x3) 3810) (
      tb (x2 + (if (h 76 (((x1 / (5 : Int32)) * (5 : Int32)) + x3).toNatClampNeg) = 0 then (0 : Int32) else (1 : Int32))) (fun v50 =>
      f_X11_isSound_L15 n x1 v50 (x3 + (1 : Int32)) h))
def f_X11_isSound (x1 : Int32) (h : HP) : Option (Int32) :=
  gd (inB x1 3810) (
  if (h 76 x1.toNatClampNeg) = 0 then
    some (1 : Int32)
  else
    ob (f_X11_isSound_L15 FU x1 (0 : Int32) (0 : Int32) h) (fun q15 =>
    if q15 = (1 : Int32) then
      some (1 : Int32)
    else
      some (0 : Int32)))
def f_X11_beside (x0 : Int32) (x1 : Int32) (h : HP) : Int32 :=
  if (f_X11_isCheck ((x0 + x1) + (5 : Int32)) h) = 0 then
    x0 + x1
  else
    x0 + ((2 : Int32) * x1)
def f_X11_how (x1 : Int32) (h : HP) : Option (Int32) :=
  gd (inB x1 3810) (
  if (h 76 x1.toNatClampNeg) = 0 then
    some (0 : Int32)
  else
    ob (f_X11_isSound x1 h) (fun q13 =>
    if q13 = 0 then
      ob (
        if (f_X11_isCheck x1 h) = 0 then
          if (f_X11_beside x1 (-1 : Int32) h) < 0 then
            some (0 : Int32)
          else
            if (f_X11_frames h) ≤ (f_X11_beside x1 (1 : Int32) h) then
              some (0 : Int32)
            else
              ob (f_X11_isSound (f_X11_beside x1 (-1 : Int32) h) h) (fun q54 =>
              if q54 = 0 then
                some (0 : Int32)
              else
                ob (f_X11_isSound (f_X11_beside x1 (1 : Int32) h) h) (fun q62 =>
                if q62 = 0 then
                  some (0 : Int32)
                else
                  some (1 : Int32)))
        else
          some (0 : Int32)) (fun j37 =>
      if j37 = 0 then
        some (3 : Int32)
      else
        some (2 : Int32))
    else
      some (1 : Int32)))
def f_X11_toldSymbol (x1 : Int32) (x2 : Int32) (h : HP) : Option (Int32) :=
  ob (f_X11_how x1 h) (fun q2 =>
  if (2 : Int32) ≤ q2 then
    ob (f_X11_symbolOf (f_X11_beside x1 (-1 : Int32) h) x2 h) (fun q25 =>
    ob (f_X11_symbolOf (f_X11_beside x1 (1 : Int32) h) x2 h) (fun q35 =>
    some ((q25 + q35) / (2 : Int32))))
  else
    ob (f_X11_symbolOf x1 x2 h) (fun q12 =>
    some q12))
def f_X11_framesThat_L4 : Nat → Int32 → Int32 → Int32 → HP → Option (Int32)
  | 0, _, _, _, _ => none
  | n + 1, x1, x2, x3, h =>
  if (f_X11_frames h) ≤ x3 then
    some x2
  else
    ob (f_X11_how x3 h) (fun q15 =>
    tb (x2 + (if q15 = x1 then (1 : Int32) else (0 : Int32))) (fun v28 =>
    f_X11_framesThat_L4 n x1 v28 (x3 + (1 : Int32)) h))
def f_X11_framesThat (x1 : Int32) (h : HP) : Option (Int32) :=
  ob (f_X11_framesThat_L4 FU x1 (0 : Int32) (0 : Int32) h) (fun q4 =>
  some q4)
def f_X11_tick (x1 : Int32) (h : HP) : HP :=
  tb (hset h 71 7 ((h 71 7) + (if ((f_X11_framesOf x1 h) - (h 71 7)) ≤ (h 71 2) then (if (-(h 71 2)) ≤ ((f_X11_framesOf x1 h) - (h 71 7)) then ((f_X11_framesOf x1 h) - (h 71 7)) else (-(h 71 2))) else (h 71 2)))) (fun h66 =>
  hset h66 71 8 ((h66 71 8) + (1 : Int32)))
def f_X11_isNear (x1 : Int32) (h : HP) : Int32 :=
  if (h 71 3) < (f_X11_size ((f_X11_framesOf x1 h) - (h 71 7)) h) then
    (0 : Int32)
  else
    (1 : Int32)
theorem b_X11_isNear (x1 : Int32) (h : HP) : f_X11_isNear x1 h = 0 ∨ f_X11_isNear x1 h = 1 := by
  unfold f_X11_isNear
  (repeat' split) <;> first | exact Or.inl rfl | exact Or.inr rfl | (simp; done)
def f_X11_jumps_L92 : Nat → Int32 → Int32 → Int32 → HP → Option (HP)
  | 0, _, _, _, _ => none
  | n + 1, x4, x5, x6, h =>
  if x5 ≤ x6 then
    some h
  else
    tb (f_X11_tick x4 h) (fun q102 =>
    f_X11_jumps_L92 n x4 x5 (x6 + (1 : Int32)) q102)
def f_X11_jumps (x1 : Int32) (h : HP) : Option (HP) :=
  ob (f_X11_turnOf (h 71 6) h) (fun q8 =>
  tb ((if (((x1 - q8) * (h 71 4)) / (100 : Int32)) = 0 then (if x1 ≤ q8 then (-1 : Int32) else (1 : Int32)) else (((x1 - q8) * (h 71 4)) / (100 : Int32)))) (fun v44 =>
  tb ((if 0 ≤ (q8 + v44) then (if (q8 + v44) < (30 : Int32) then (q8 + v44) else (29 : Int32)) else (0 : Int32))) (fun v71 =>
  ob (f_X11_jumps_L92 FU v71 ((h 71 5) + (f_X11_size (v71 - q8) h)) (0 : Int32) h) (fun q92 =>
  tb (hset q92 71 6 (f_X11_start v71 q92)) (fun h125 =>
  some (hset h125 71 11 ((h125 71 11) + (1 : Int32))))))))
def f_X11_seeks_L24 : Nat → Int32 → HP → Option (HP)
  | 0, _, _ => none
  | n + 1, x3, h =>
  ob (f_X11_turnOf (h 71 6) h) (fun q32 =>
  if q32 = x3 then
    some h
  else
    ob (f_X11_jumps x3 h) (fun q41 =>
    f_X11_seeks_L24 n x3 q41))
def f_X11_seeks_L47 : Nat → Int32 → HP → Option (HP)
  | 0, _, _ => none
  | n + 1, x3, h =>
  if (f_X11_isNear x3 h) = 0 then
    tb (f_X11_tick x3 h) (fun q57 =>
    f_X11_seeks_L47 n x3 q57)
  else
    some h
def f_X11_seeks (x1 : Int32) (h : HP) : Option (Int32 × HP) :=
  if (f_X11_isFrame x1 h) = 0 then
    some ((-1 : Int32), h)
  else
    ob (f_X11_turnOf x1 h) (fun q20 =>
    ob (f_X11_seeks_L24 FU q20 h) (fun q24 =>
    ob (f_X11_seeks_L47 FU q20 q24) (fun q47 =>
    tb (
      if (q47 71 6) ≤ x1 then
        q47
      else
        tb (hset q47 71 8 ((q47 71 8) + ((f_X11_start (q20 + (1 : Int32)) q47) - (q47 71 6)))) (fun h100 =>
        hset h100 71 6 (f_X11_start q20 h100))) (fun j71 =>
    tb (hset j71 71 8 ((j71 71 8) + (x1 - (j71 71 6)))) (fun h131 =>
    tb (hset h131 71 6 x1) (fun h139 =>
    some ((h139 71 8) - (h 71 8), h139)))))))
def f_X11_plays_L41 : Nat → Int32 → Int32 → HP → Option (Int32 × HP)
  | 0, _, _, _ => none
  | n + 1, x2, x3, h =>
  if x2 ≤ 0 then
    some (x3, h)
  else
    if (f_X11_frames h) ≤ (h 71 6) then
      some (x3, h)
    else
      ob (f_X11_turnOf (h 71 6) h) (fun q67 =>
      tb (f_X11_tick q67 h) (fun q75 =>
      ob (
        if (f_X11_isNear q67 q75) = 0 then
          some (x2, x3, q75)
        else
          gd (inB (q75 71 6) 3810) (
          tb (x3 + (if (q75 76 (q75 71 6).toNatClampNeg) = 0 then (1 : Int32) else (0 : Int32))) (fun v109 =>
          tb (hset q75 71 6 ((q75 71 6) + (1 : Int32))) (fun h122 =>
          some (x2 + (-1 : Int32), v109, hset h122 71 9 ((h122 71 9) + (1 : Int32))))))) (fun j84 =>
      f_X11_plays_L41 n j84.1 j84.2.1 j84.2.2)))
def f_X11_plays (x1 : Int32) (h : HP) : Option (Int32 × HP) :=
  if (f_X11_in x1 (1 : Int32) (999 : Int32) h) = 0 then
    some ((-2 : Int32), h)
  else
    if (h 71 6) = (f_X11_frames h) then
      some ((-5 : Int32), h)
    else
      ob (f_X11_lay (-5 : Int32) h) (fun q34 =>
      ob (f_X11_plays_L41 FU x1 (0 : Int32) q34) (fun q41 =>
      some (q41.1, hset q41.2 71 10 ((q41.2 71 10) + q41.1))))
def f_X11_presses_L209 : Nat → Int32 → Int32 → HP → Option (HP)
  | 0, _, _, _ => none
  | n + 1, x5, x6, h =>
  if (3 : Int32) ≤ x6 then
    some h
  else
    gd (inB (((46 : Int32) + ((3 : Int32) * (h 71 45))) + x6) 166) (
    gd (inB (((46 : Int32) + ((3 : Int32) * x5)) + x6) 166) (
    tb (hset h 71 (((46 : Int32) + ((3 : Int32) * x5)) + x6).toNatClampNeg (h 71 (((46 : Int32) + ((3 : Int32) * (h 71 45))) + x6).toNatClampNeg)) (fun h251 =>
    gd (inB (((46 : Int32) + ((3 : Int32) * (h251 71 45))) + x6) 166) (
    f_X11_presses_L209 n x5 (x6 + (1 : Int32)) (hset h251 71 (((46 : Int32) + ((3 : Int32) * (h251 71 45))) + x6).toNatClampNeg (0 : Int32))))))
def f_X11_presses (x1 : Int32) (x2 : Int32) (x3 : Int32) (h : HP) : Option (Int32 × HP) :=
  if (f_X11_isFrame x1 h) = 0 then
    some ((-1 : Int32), h)
  else
    if (f_X11_in x2 (0 : Int32) (3 : Int32) h) = 0 then
      some ((-2 : Int32), h)
    else
      if (f_X11_in x3 (0 : Int32) (15 : Int32) h) = 0 then
        some ((-2 : Int32), h)
      else
        if (f_X11_isCheck x1 h) = 0 then
          ob (f_X11_dataSymbol x1 x2 h) (fun q45 =>
          if q45 = x3 then
            some ((-5 : Int32), h)
          else
            ob (f_X11_findPressed x1 x2 h) (fun q62 =>
            if q62 = (-5 : Int32) then
              if (h 71 45) = (40 : Int32) then
                some ((-3 : Int32), h)
              else
                tb ((if q62 = (-5 : Int32) then (h 71 45) else q62)) (fun v108 =>
                tb (hset h 71 45 (if v108 = (h 71 45) then (v108 + (1 : Int32)) else (h 71 45))) (fun h144 =>
                gd (inB ((46 : Int32) + ((3 : Int32) * v108)) 166) (
                tb (hset h144 71 ((46 : Int32) + ((3 : Int32) * v108)).toNatClampNeg x1) (fun h157 =>
                gd (inB (((46 : Int32) + ((3 : Int32) * v108)) + (1 : Int32)) 166) (
                tb (hset h157 71 (((46 : Int32) + ((3 : Int32) * v108)) + (1 : Int32)).toNatClampNeg x2) (fun h172 =>
                gd (inB (((46 : Int32) + ((3 : Int32) * v108)) + (2 : Int32)) 166) (
                tb (hset h172 71 (((46 : Int32) + ((3 : Int32) * v108)) + (2 : Int32)).toNatClampNeg x3) (fun h189 =>
                if x3 = (f_X11_atFirst x1 x2 h189) then
                  ob (f_X11_presses_L209 FU v108 (0 : Int32) (hset h189 71 45 ((h189 71 45) - (1 : Int32)))) (fun q209 =>
                  some (q45, q209))
                else
                  some (q45, h189)))))))))
            else
              tb ((if q62 = (-5 : Int32) then (h 71 45) else q62)) (fun v108 =>
              tb (hset h 71 45 (if v108 = (h 71 45) then (v108 + (1 : Int32)) else (h 71 45))) (fun h144 =>
              gd (inB ((46 : Int32) + ((3 : Int32) * v108)) 166) (
              tb (hset h144 71 ((46 : Int32) + ((3 : Int32) * v108)).toNatClampNeg x1) (fun h157 =>
              gd (inB (((46 : Int32) + ((3 : Int32) * v108)) + (1 : Int32)) 166) (
              tb (hset h157 71 (((46 : Int32) + ((3 : Int32) * v108)) + (1 : Int32)).toNatClampNeg x2) (fun h172 =>
              gd (inB (((46 : Int32) + ((3 : Int32) * v108)) + (2 : Int32)) 166) (
              tb (hset h172 71 (((46 : Int32) + ((3 : Int32) * v108)) + (2 : Int32)).toNatClampNeg x3) (fun h189 =>
              if x3 = (f_X11_atFirst x1 x2 h189) then
                ob (f_X11_presses_L209 FU v108 (0 : Int32) (hset h189 71 45 ((h189 71 45) - (1 : Int32)))) (fun q209 =>
                some (q45, q209))
              else
                some (q45, h189)))))))))))
        else
          some ((-4 : Int32), h)
def f_X11_scratches (x1 : Int32) (x2 : Int32) (x3 : Int32) (x4 : Int32) (h : HP) : Option (Int32 × HP) :=
  if (f_X11_in x1 (0 : Int32) (359 : Int32) h) = 0 then
    some ((-2 : Int32), h)
  else
    if (f_X11_in x2 x1 (359 : Int32) h) = 0 then
      some ((-2 : Int32), h)
    else
      if (f_X11_in x3 (0 : Int32) (29 : Int32) h) = 0 then
        some ((-2 : Int32), h)
      else
        if (f_X11_in x4 x3 (29 : Int32) h) = 0 then
          some ((-2 : Int32), h)
        else
          if (h 71 12) = (8 : Int32) then
            some ((-3 : Int32), h)
          else
            gd (inB ((13 : Int32) + ((4 : Int32) * (h 71 12))) 166) (
            tb (hset h 71 ((13 : Int32) + ((4 : Int32) * (h 71 12))).toNatClampNeg x1) (fun h84 =>
            gd (inB (((13 : Int32) + ((4 : Int32) * (h 71 12))) + (1 : Int32)) 166) (
            tb (hset h84 71 (((13 : Int32) + ((4 : Int32) * (h 71 12))) + (1 : Int32)).toNatClampNeg x2) (fun h94 =>
            gd (inB (((13 : Int32) + ((4 : Int32) * (h 71 12))) + (2 : Int32)) 166) (
            tb (hset h94 71 (((13 : Int32) + ((4 : Int32) * (h 71 12))) + (2 : Int32)).toNatClampNeg x3) (fun h104 =>
            gd (inB (((13 : Int32) + ((4 : Int32) * (h 71 12))) + (3 : Int32)) 166) (
            tb (hset h104 71 (((13 : Int32) + ((4 : Int32) * (h 71 12))) + (3 : Int32)).toNatClampNeg x4) (fun h115 =>
            some ((0 : Int32), hset h115 71 12 ((h115 71 12) + (1 : Int32)))))))))))
def f_X11_polishes_L37 : Nat → Int32 → HP → Option (HP)
  | 0, _, _ => none
  | n + 1, x2, h =>
  if ((13 : Int32) + ((4 : Int32) * (h 71 12))) ≤ x2 then
    some h
  else
    gd (inB (x2 + (4 : Int32)) 166) (
    gd (inB x2 166) (
    f_X11_polishes_L37 n (x2 + (1 : Int32)) (hset h 71 x2.toNatClampNeg (h 71 (x2 + (4 : Int32)).toNatClampNeg))))
def f_X11_polishes_L75 : Nat → Int32 → HP → Option (HP)
  | 0, _, _ => none
  | n + 1, x2, h =>
  if (4 : Int32) ≤ x2 then
    some h
  else
    gd (inB (((13 : Int32) + ((4 : Int32) * (h 71 12))) + x2) 166) (
    f_X11_polishes_L75 n (x2 + (1 : Int32)) (hset h 71 (((13 : Int32) + ((4 : Int32) * (h 71 12))) + x2).toNatClampNeg (0 : Int32)))
def f_X11_polishes (x1 : Int32) (h : HP) : Option (Int32 × HP) :=
  if (f_X11_in x1 (0 : Int32) ((h 71 12) - (1 : Int32)) h) = 0 then
    some ((-1 : Int32), h)
  else
    ob (f_X11_polishes_L37 FU ((13 : Int32) + ((4 : Int32) * x1)) (hset h 71 12 ((h 71 12) - (1 : Int32)))) (fun q37 =>
    ob (f_X11_polishes_L75 FU (0 : Int32) q37) (fun q75 =>
    some ((0 : Int32), q75)))
def f_X11_press (x1 : Int32) (x2 : Int32) (x3 : Int32) (h : HP) : Option (Int32 × HP) :=
  ob (f_X11_putAside h) (fun q1 =>
  ob (f_X11_presses x1 x2 x3 q1) (fun q9 =>
  ob (f_X11_act q9.1 q9.2) (fun q12 =>
  some (q12.1, q12.2))))
def f_X11_scratch (x1 : Int32) (x2 : Int32) (x3 : Int32) (x4 : Int32) (h : HP) : Option (Int32 × HP) :=
  ob (f_X11_putAside h) (fun q1 =>
  ob (f_X11_scratches x1 x2 x3 x4 q1) (fun q11 =>
  ob (f_X11_act q11.1 q11.2) (fun q14 =>
  if 0 ≤ q14.1 then
    ob (f_X11_damaged q14.2) (fun q30 =>
    some (q30.1, q30.2))
  else
    some (q14.1, q14.2))))
def f_X11_polish (x1 : Int32) (h : HP) : Option (Int32 × HP) :=
  ob (f_X11_putAside h) (fun q1 =>
  ob (f_X11_polishes x1 q1) (fun q7 =>
  ob (f_X11_act q7.1 q7.2) (fun q10 =>
  if 0 ≤ q10.1 then
    ob (f_X11_damaged q10.2) (fun q23 =>
    some (q23.1, q23.2))
  else
    some (q10.1, q10.2))))
def f_X11_low (x0 : Int32) (h : HP) : Int32 :=
  if x0 = 0 then
    (8 : Int32)
  else
    if x0 = (2 : Int32) then
      (1 : Int32)
    else
      if x0 = (4 : Int32) then
        (60 : Int32)
      else
        (0 : Int32)
def f_X11_high (x0 : Int32) (h : HP) : Int32 :=
  if x0 = 0 then
    (40 : Int32)
  else
    if x0 = (1 : Int32) then
      (6 : Int32)
    else
      if x0 = (2 : Int32) then
        (9 : Int32)
      else
        if x0 = (3 : Int32) then
          (5 : Int32)
        else
          if x0 = (4 : Int32) then
            (140 : Int32)
          else
            (20 : Int32)
def f_X11_set (x1 : Int32) (x2 : Int32) (h : HP) : Option (Int32 × HP) :=
  if (f_X11_in x1 (0 : Int32) (5 : Int32) h) = 0 then
    some ((-2 : Int32), h)
  else
    if (f_X11_in x2 (f_X11_low x1 h) (f_X11_high x1 h) h) = 0 then
      some ((-2 : Int32), h)
    else
      gd (inB x1 166) (
      if (h 71 x1.toNatClampNeg) = x2 then
        some ((-5 : Int32), h)
      else
        ob (f_X11_putAside h) (fun q43 =>
        gd (inB x1 166) (
        tb (
          if (1 : Int32) < x1 then
            hset q43 71 x1.toNatClampNeg x2
          else
            tb (hset q43 71 x1.toNatClampNeg x2) (fun h59 =>
            tb (hset h59 71 6 (0 : Int32)) (fun h67 =>
            hset h67 71 7 (h67 71 0)))) (fun j55 =>
        ob (f_X11_act (h 71 x1.toNatClampNeg) j55) (fun q81 =>
        some (q81.1, q81.2))))))
def f_X11_play (x1 : Int32) (h : HP) : Option (Int32 × HP) :=
  ob (f_X11_putAside h) (fun q1 =>
  ob (f_X11_plays x1 q1) (fun q7 =>
  ob (f_X11_act q7.1 q7.2) (fun q10 =>
  some (q10.1, q10.2))))
def f_X11_seek (x1 : Int32) (h : HP) : Option (Int32 × HP) :=
  ob (f_X11_putAside h) (fun q1 =>
  ob (f_X11_seeks x1 q1) (fun q7 =>
  ob (f_X11_act q7.1 q7.2) (fun q10 =>
  some (q10.1, q10.2))))
def f_X11_type (x1 : Int32) (h : HP) : Option (Int32 × HP) :=
  if (h 70 7) = (60 : Int32) then
    some ((-3 : Int32), h)
  else
    gd (inB (h 70 7) 60) (
    tb (hset h 75 (h 70 7).toNatClampNeg x1) (fun h24 =>
    tb (hset h24 70 7 ((h24 70 7) + (1 : Int32))) (fun h33 =>
    some (h33 70 7, h33))))
def f_X11_clearText  (h : HP) : Int32 × HP :=
  (h 70 7, hset h 70 7 (0 : Int32))
def f_X11_sign (x1 : Int32) (x2 : Int32) (h : HP) : Option (Int32 × HP) :=
  ob (
    if (h 70 7) ≤ (h 70 9) then
      some (0 : Int32)
    else
      gd (inB (h 70 9) 60) (
      some (h 75 (h 70 9).toNatClampNeg))) (fun j8 =>
  tb (hset h 70 10 (if (h 70 10) = 0 then (if (h 70 7) ≤ (h 70 9) then (1 : Int32) else (if (f_X11_in j8 x1 x2 h) = 0 then (1 : Int32) else (0 : Int32))) else (1 : Int32))) (fun h63 =>
  some (j8, hset h63 70 9 ((h63 70 9) + (if (h63 70 10) = 0 then (1 : Int32) else (0 : Int32))))))
def f_X11_isNext (x1 : Int32) (h : HP) : Option (Int32) :=
  if (h 70 10) = 0 then
    if (h 70 7) ≤ (h 70 9) then
      some (0 : Int32)
    else
      gd (inB (h 70 9) 60) (
      if (h 75 (h 70 9).toNatClampNeg) = x1 then
        some (1 : Int32)
      else
        some (0 : Int32))
  else
    some (0 : Int32)
def f_X11_signs (x1 : Int32) (x2 : Int32) (x3 : Int32) (x4 : Int32) (h : HP) : Option (HP) :=
  ob (f_X11_sign x1 x1 h) (fun q3 =>
  ob (f_X11_sign x2 x2 q3.2) (fun q11 =>
  ob (
    if x3 = 0 then
      some ((0 : Int32), q11.2)
    else
      ob (f_X11_sign x3 x3 q11.2) (fun q27 =>
      some (q27.1, q27.2))) (fun j17 =>
  if x4 = 0 then
    some j17.2
  else
    ob (f_X11_sign x4 x4 j17.2) (fun q46 =>
    some q46.2))))
def f_X11_number_L14 : Nat → Int32 → Int32 → HP → Option (Int32 × HP)
  | 0, _, _, _ => none
  | n + 1, x2, x3, h =>
  if x3 ≤ 0 then
    some (x3, h)
  else
    if (h 70 10) = 0 then
      if (h 70 7) ≤ (h 70 9) then
        some (x3, h)
      else
        gd (inB (h 70 9) 60) (
        if (f_X11_in (h 75 (h 70 9).toNatClampNeg) (48 : Int32) (57 : Int32) h) = 0 then
          some (x3, h)
        else
          gd (inB (h 70 9) 60) (
          if x2 < ((((10 : Int32) * x3) + (h 75 (h 70 9).toNatClampNeg)) - (48 : Int32)) then
            some (x3, h)
          else
            gd (inB (h 70 9) 60) (
            tb ((((10 : Int32) * x3) + (h 75 (h 70 9).toNatClampNeg)) - (48 : Int32)) (fun v93 =>
            f_X11_number_L14 n x2 v93 (hset h 70 9 ((h 70 9) + (1 : Int32)))))))
    else
      some (x3, h)
def f_X11_number (x1 : Int32) (x2 : Int32) (h : HP) : Option (Int32 × HP) :=
  ob (f_X11_sign ((48 : Int32) + x1) (57 : Int32) h) (fun q7 =>
  ob (f_X11_number_L14 FU x2 (q7.1 - (48 : Int32)) q7.2) (fun q14 =>
  some (q14.1, q14.2)))
def f_X11_behind (x1 : Int32) (x2 : Int32) (x3 : Int32) (h : HP) : Option (Int32 × HP) :=
  ob (f_X11_sign x1 x1 h) (fun q3 =>
  ob (f_X11_number x2 x3 q3.2) (fun q11 =>
  some (q11.1, q11.2)))
def f_X11_orderOfS (x1 : Int32) (h : HP) : Option (Int32 × HP) :=
  ob (f_X11_isNext (99 : Int32) h) (fun q3 =>
  if q3 = 0 then
    ob (f_X11_signs (101 : Int32) (101 : Int32) (107 : Int32) (61 : Int32) h) (fun q102 =>
    ob (f_X11_number (0 : Int32) (9999 : Int32) q102) (fun q110 =>
    if x1 = 0 then
      some ((0 : Int32), q110.2)
    else
      ob (f_X11_seeks q110.1 q110.2) (fun q120 =>
      some (q120.1, q120.2))))
  else
    ob (f_X11_signs (99 : Int32) (114 : Int32) (97 : Int32) (116 : Int32) h) (fun q18 =>
    ob (f_X11_signs (99 : Int32) (104 : Int32) (61 : Int32) (0 : Int32) q18) (fun q29 =>
    ob (f_X11_number (0 : Int32) (359 : Int32) q29) (fun q37 =>
    ob (f_X11_behind (45 : Int32) (0 : Int32) (359 : Int32) q37.2) (fun q48 =>
    ob (f_X11_behind (64 : Int32) (0 : Int32) (29 : Int32) q48.2) (fun q58 =>
    ob (f_X11_behind (45 : Int32) (0 : Int32) (29 : Int32) q58.2) (fun q69 =>
    if x1 = 0 then
      some ((0 : Int32), q69.2)
    else
      ob (f_X11_scratches q37.1 q48.1 q58.1 q69.1 q69.2) (fun q85 =>
      some (q85.1, q85.2)))))))))
def f_X11_orderOfP (x1 : Int32) (h : HP) : Option (Int32 × HP) :=
  ob (f_X11_isNext (111 : Int32) h) (fun q3 =>
  if q3 = 0 then
    ob (f_X11_isNext (108 : Int32) h) (fun q60 =>
    if q60 = 0 then
      ob (f_X11_signs (114 : Int32) (101 : Int32) (115 : Int32) (115 : Int32) h) (fun q110 =>
      ob (f_X11_sign (61 : Int32) (61 : Int32) q110) (fun q118 =>
      ob (f_X11_number (0 : Int32) (9999 : Int32) q118.2) (fun q127 =>
      ob (f_X11_sign (46 : Int32) (46 : Int32) q127.2) (fun q136 =>
      ob (f_X11_sign (48 : Int32) (51 : Int32) q136.2) (fun q146 =>
      ob (f_X11_behind (58 : Int32) (0 : Int32) (15 : Int32) q146.2) (fun q160 =>
      if x1 = 0 then
        some ((0 : Int32), q160.2)
      else
        ob (f_X11_presses q127.1 (q146.1 - (48 : Int32)) q160.1 q160.2) (fun q175 =>
        some (q175.1, q175.2))))))))
    else
      ob (f_X11_signs (108 : Int32) (97 : Int32) (121 : Int32) (61 : Int32) h) (fun q75 =>
      ob (f_X11_number (1 : Int32) (999 : Int32) q75) (fun q83 =>
      if x1 = 0 then
        some ((0 : Int32), q83.2)
      else
        ob (f_X11_plays q83.1 q83.2) (fun q93 =>
        some (q93.1, q93.2)))))
  else
    ob (f_X11_signs (111 : Int32) (108 : Int32) (105 : Int32) (115 : Int32) h) (fun q18 =>
    ob (f_X11_signs (104 : Int32) (61 : Int32) (0 : Int32) (0 : Int32) q18) (fun q28 =>
    ob (f_X11_sign (48 : Int32) (57 : Int32) q28) (fun q36 =>
    if x1 = 0 then
      some ((0 : Int32), q36.2)
    else
      ob (f_X11_polishes (q36.1 - (48 : Int32)) q36.2) (fun q49 =>
      some (q49.1, q49.2))))))
def f_X11_go_L14 : Nat → Int32 → Int32 → Int32 → HP → Option (Int32 × HP)
  | 0, _, _, _, _ => none
  | n + 1, x1, x2, x3, h =>
  if x3 = 0 then
    some (x2, h)
  else
    ob (f_X11_isNext (115 : Int32) h) (fun q21 =>
    ob (
      if q21 = 0 then
        ob (f_X11_sign (112 : Int32) (112 : Int32) h) (fun q47 =>
        some (q47.1, q47.2))
      else
        ob (f_X11_sign (115 : Int32) (115 : Int32) h) (fun q36 =>
        some (q36.1, q36.2))) (fun j28 =>
    ob (
      if (j28.2 70 10) = 0 then
        if q21 = 0 then
          ob (f_X11_orderOfP x1 j28.2) (fun q78 =>
          some (q78.1, q78.2))
        else
          ob (f_X11_orderOfS x1 j28.2) (fun q70 =>
          some (q70.1, q70.2))
      else
        some ((0 : Int32), j28.2)) (fun j56 =>
    if 0 ≤ j56.1 then
      tb ((if (j56.2 70 10) = 0 then (if (j56.2 70 7) ≤ (j56.2 70 9) then (0 : Int32) else (1 : Int32)) else (0 : Int32))) (fun v124 =>
      ob (
        if v124 = 0 then
          some (v124, j56.2)
        else
          ob (f_X11_sign (59 : Int32) (59 : Int32) j56.2) (fun q134 =>
          tb ((if (q134.2 70 10) = 0 then (1 : Int32) else (0 : Int32))) (fun v151 =>
          some (v151, q134.2)))) (fun j126 =>
      f_X11_go_L14 n x1 (x2 + (1 : Int32)) j126.1 j126.2))
    else
      if j56.1 = (-5 : Int32) then
        tb ((if (j56.2 70 10) = 0 then (if (j56.2 70 7) ≤ (j56.2 70 9) then (0 : Int32) else (1 : Int32)) else (0 : Int32))) (fun v124 =>
        ob (
          if v124 = 0 then
            some (v124, j56.2)
          else
            ob (f_X11_sign (59 : Int32) (59 : Int32) j56.2) (fun q134 =>
            tb ((if (q134.2 70 10) = 0 then (1 : Int32) else (0 : Int32))) (fun v151 =>
            some (v151, q134.2)))) (fun j126 =>
        f_X11_go_L14 n x1 (x2 + (1 : Int32)) j126.1 j126.2))
      else
        some (j56.1, j56.2))))
def f_X11_go (x1 : Int32) (h : HP) : Option (Int32 × HP) :=
  tb (hset h 70 9 (0 : Int32)) (fun h7 =>
  f_X11_go_L14 FU x1 (0 : Int32) (1 : Int32) (hset h7 70 10 (0 : Int32)))
def f_X11_fault  (h : HP) : Option (Int32 × HP) :=
  ob (f_X11_go (0 : Int32) h) (fun q2 =>
  if (q2.2 70 10) = 0 then
    some ((-5 : Int32), q2.2)
  else
    some (q2.2 70 9, q2.2))
def f_X11_doAll  (h : HP) : Option (Int32 × HP) :=
  ob (f_X11_go (0 : Int32) h) (fun q2 =>
  if (q2.2 70 10) = 0 then
    ob (f_X11_putAside q2.2) (fun q22 =>
    ob (f_X11_go (1 : Int32) q22) (fun q28 =>
    ob (f_X11_act q28.1 q28.2) (fun q31 =>
    some (q31.1, q31.2))))
  else
    some ((-100 : Int32) - (q2.2 70 9), q2.2))
def f_X11_undo_L22 : Nat → Int32 → HP → Option (HP)
  | 0, _, _ => none
  | n + 1, x1, h =>
  if (166 : Int32) ≤ x1 then
    some h
  else
    gd (inB (((166 : Int32) * (h 70 3)) + x1) 664) (
    gd (inB x1 166) (
    f_X11_undo_L22 n (x1 + (1 : Int32)) (hset h 71 x1.toNatClampNeg (h 73 (((166 : Int32) * (h 70 3)) + x1).toNatClampNeg))))
def f_X11_undo  (h : HP) : Option (Int32 × HP) :=
  if (h 70 3) = 0 then
    some ((-5 : Int32), h)
  else
    ob (f_X11_undo_L22 FU (0 : Int32) (hset h 70 3 ((h 70 3) - (1 : Int32)))) (fun q22 =>
    some (q22 70 3, q22))
def f_X11_keep_L2 : Nat → Int32 → HP → Option (HP)
  | 0, _, _ => none
  | n + 1, x1, h =>
  if (166 : Int32) ≤ x1 then
    some h
  else
    gd (inB x1 166) (
    gd (inB x1 166) (
    f_X11_keep_L2 n (x1 + (1 : Int32)) (hset h 74 x1.toNatClampNeg (h 71 x1.toNatClampNeg))))
def f_X11_keep  (h : HP) : Option (Int32 × HP) :=
  ob (f_X11_keep_L2 FU (0 : Int32) h) (fun q2 =>
  tb (hset q2 70 5 (1 : Int32)) (fun h33 =>
  some (h33 71 8, h33)))
def f_X11_restore_L16 : Nat → Int32 → HP → Option (HP)
  | 0, _, _ => none
  | n + 1, x1, h =>
  if (166 : Int32) ≤ x1 then
    some h
  else
    gd (inB x1 166) (
    gd (inB x1 166) (
    f_X11_restore_L16 n (x1 + (1 : Int32)) (hset h 71 x1.toNatClampNeg (h 74 x1.toNatClampNeg))))
def f_X11_restore  (h : HP) : Option (Int32 × HP) :=
  if (h 70 5) = 0 then
    some ((-5 : Int32), h)
  else
    ob (f_X11_putAside h) (fun q11 =>
    ob (f_X11_restore_L16 FU (0 : Int32) q11) (fun q16 =>
    ob (f_X11_act (q16 71 8) q16) (fun q49 =>
    some (q49.1, q49.2))))
def f_X11_frame (x1 : Int32) (x2 : Int32) (h : HP) : Option (Int32 × HP) :=
  if (f_X11_isFrame x1 h) = 0 then
    some ((-1 : Int32), h)
  else
    ob (f_X11_lay (-5 : Int32) h) (fun q13 =>
    if x2 = 0 then
      ob (f_X11_turnOf x1 q13) (fun q70 =>
      some (q70, q13))
    else
    if x2 = 1 then
      ob (f_X11_turnOf x1 q13) (fun q78 =>
      some (x1 - (f_X11_start q78 q13), q13))
    else
    if x2 = 2 then
      if (f_X11_hasGroup x1 q13) = 0 then
        some ((-5 : Int32), q13)
      else
        some (x1 / (5 : Int32), q13)
    else
    if x2 = 3 then
      if (f_X11_isCheck x1 q13) = 0 then
        some ((0 : Int32), q13)
      else
        some ((1 : Int32), q13)
    else
    if x2 = 4 then
      gd (inB x1 3810) (
      if (q13 76 x1.toNatClampNeg) = 0 then
        some ((0 : Int32), q13)
      else
        some ((1 : Int32), q13))
    else
    if x2 = 5 then
      ob (f_X11_how x1 q13) (fun q133 =>
      some (q133, q13))
    else
    if x2 = 6 then
      ob (f_X11_pits x1 q13) (fun q139 =>
      ob (f_X11_flats x1 q13) (fun q144 =>
      some (q139 + q144, q13)))
    else
    if x2 = 7 then
      ob (f_X11_pits x1 q13) (fun q151 =>
      ob (f_X11_flats x1 q13) (fun q156 =>
      some ((q151 - q156) + (100 : Int32), q13)))
    else
    if x2 = 8 then
      ob (f_X11_longestRun x1 q13) (fun q166 =>
      some (q166, q13))
    else
      some ((-2 : Int32), q13))
def f_X11_symbol (x1 : Int32) (x2 : Int32) (x3 : Int32) (h : HP) : Option (Int32 × HP) :=
  if (f_X11_isFrame x1 h) = 0 then
    some ((-1 : Int32), h)
  else
    if (f_X11_in x2 (0 : Int32) (3 : Int32) h) = 0 then
      some ((-2 : Int32), h)
    else
      ob (f_X11_lay (-5 : Int32) h) (fun q25 =>
      if x3 = 0 then
        ob (f_X11_symbolOf x1 x2 q25) (fun q35 =>
        some (q35, q25))
      else
        ob (f_X11_how x1 q25) (fun q43 =>
        if q43 = (3 : Int32) then
          some ((-5 : Int32), q25)
        else
          ob (f_X11_toldSymbol x1 x2 q25) (fun q58 =>
          some (q58, q25))))
def f_X11_turn_L42 : Nat → Int32 → Int32 → Int32 → Int32 → Int32 → HP → Option (Int32 × Int32)
  | 0, _, _, _, _, _, _ => none
  | n + 1, x1, x2, x3, x4, x5, h =>
  if (f_X11_start (x1 + (1 : Int32)) h) ≤ x5 then
    some (x3, x4)
  else
    if x2 ≤ (1 : Int32) then
      some (x3, x4)
    else
      gd (inB x5 3810) (
      tb (x3 + (if (h 76 x5.toNatClampNeg) = 0 then (0 : Int32) else (1 : Int32))) (fun v76 =>
      ob (
        if x2 = (3 : Int32) then
          ob (f_X11_pits x5 h) (fun q87 =>
          ob (f_X11_flats x5 h) (fun q93 =>
          some (q87 + q93)))
        else
          some (0 : Int32)) (fun j81 =>
      f_X11_turn_L42 n x1 x2 v76 (x4 + j81) (x5 + (1 : Int32)) h)))
def f_X11_turn (x1 : Int32) (x2 : Int32) (h : HP) : Option (Int32 × HP) :=
  if (f_X11_in x1 (0 : Int32) (29 : Int32) h) = 0 then
    some ((-1 : Int32), h)
  else
    if (f_X11_in x2 (0 : Int32) (3 : Int32) h) = 0 then
      some ((-2 : Int32), h)
    else
      ob (f_X11_lay (-5 : Int32) h) (fun q27 =>
      ob (f_X11_turn_L42 FU x1 x2 (0 : Int32) (0 : Int32) (f_X11_start x1 q27) q27) (fun q42 =>
      if x2 = 0 then
        some (f_X11_framesOf x1 q27, q27)
      else
        if x2 = (1 : Int32) then
          some (f_X11_start x1 q27, q27)
        else
          if x2 = (2 : Int32) then
            some (q42.1, q27)
          else
            some (q42.2, q27)))
def f_X11_scratchOf_L51 : Nat → Int32 → Int32 → Int32 → Int32 → HP → Option (Int32)
  | 0, _, _, _, _, _ => none
  | n + 1, x1, x3, x4, x5, h =>
  if (f_X11_framesOf x4 h) ≤ x5 then
    some x3
  else
    ob (f_X11_damages x1 x4 x5 h) (fun q69 =>
    tb (x3 + (if q69 = 0 then (0 : Int32) else (1 : Int32))) (fun v81 =>
    f_X11_scratchOf_L51 n x1 v81 x4 (x5 + (1 : Int32)) h))
def f_X11_scratchOf_L36 : Nat → Int32 → Int32 → Int32 → Int32 → HP → Option (Int32)
  | 0, _, _, _, _, _ => none
  | n + 1, x1, x2, x3, x4, h =>
  if (30 : Int32) ≤ x4 then
    some x3
  else
    if x2 = (4 : Int32) then
      ob (f_X11_scratchOf_L51 FU x1 x3 x4 (0 : Int32) h) (fun q51 =>
      f_X11_scratchOf_L36 n x1 x2 q51 (x4 + (1 : Int32)) h)
    else
      some x3
def f_X11_scratchOf (x1 : Int32) (x2 : Int32) (h : HP) : Option (Int32) :=
  if (f_X11_in x1 (0 : Int32) ((h 71 12) - (1 : Int32)) h) = 0 then
    some (-1 : Int32)
  else
    if (f_X11_in x2 (0 : Int32) (4 : Int32) h) = 0 then
      some (-2 : Int32)
    else
      ob (f_X11_scratchOf_L36 FU x1 x2 (0 : Int32) (0 : Int32) h) (fun q36 =>
      if x2 = (4 : Int32) then
        some q36
      else
        gd (inB (((13 : Int32) + ((4 : Int32) * x1)) + x2) 166) (
        some (h 71 (((13 : Int32) + ((4 : Int32) * x1)) + x2).toNatClampNeg)))
def f_X11_count (x1 : Int32) (h : HP) : Option (Int32 × HP) :=
  ob (f_X11_lay (-5 : Int32) h) (fun q3 =>
  if x1 = 0 then
    some (f_X11_frames q3, q3)
  else
  if x1 = 1 then
    some ((f_X11_frames q3) / (5 : Int32), q3)
  else
  if x1 = 2 then
    some (q3 71 12, q3)
  else
  if x1 = 3 then
    some (q3 71 6, q3)
  else
  if x1 = 4 then
    ob (f_X11_turnOf (q3 71 6) q3) (fun q148 =>
    some (q148, q3))
  else
  if x1 = 5 then
    gd (inB (((7 : Int32) + x1) - (5 : Int32)) 166) (
    some (q3 71 (((7 : Int32) + x1) - (5 : Int32)).toNatClampNeg, q3))
  else
  if x1 = 6 then
    gd (inB (((7 : Int32) + x1) - (5 : Int32)) 166) (
    some (q3 71 (((7 : Int32) + x1) - (5 : Int32)).toNatClampNeg, q3))
  else
  if x1 = 7 then
    gd (inB (((7 : Int32) + x1) - (5 : Int32)) 166) (
    some (q3 71 (((7 : Int32) + x1) - (5 : Int32)).toNatClampNeg, q3))
  else
  if x1 = 8 then
    gd (inB (((7 : Int32) + x1) - (5 : Int32)) 166) (
    some (q3 71 (((7 : Int32) + x1) - (5 : Int32)).toNatClampNeg, q3))
  else
  if x1 = 9 then
    gd (inB (((7 : Int32) + x1) - (5 : Int32)) 166) (
    some (q3 71 (((7 : Int32) + x1) - (5 : Int32)).toNatClampNeg, q3))
  else
  if x1 = 10 then
    ob (f_X11_framesThat (x1 - (10 : Int32)) q3) (fun q169 =>
    some (q169, q3))
  else
  if x1 = 11 then
    ob (f_X11_framesThat (x1 - (10 : Int32)) q3) (fun q169 =>
    some (q169, q3))
  else
  if x1 = 12 then
    ob (f_X11_framesThat (x1 - (10 : Int32)) q3) (fun q169 =>
    some (q169, q3))
  else
  if x1 = 13 then
    ob (f_X11_framesThat (x1 - (10 : Int32)) q3) (fun q169 =>
    some (q169, q3))
  else
  if x1 = 14 then
    some (q3 71 45, q3)
  else
  if x1 = 15 then
    some (q3 70 3, q3)
  else
  if x1 = 16 then
    some (q3 70 7, q3)
  else
  if x1 = 17 then
    gd (inB (x1 - (17 : Int32)) 166) (
    some (q3 71 (x1 - (17 : Int32)).toNatClampNeg, q3))
  else
  if x1 = 18 then
    gd (inB (x1 - (17 : Int32)) 166) (
    some (q3 71 (x1 - (17 : Int32)).toNatClampNeg, q3))
  else
  if x1 = 19 then
    gd (inB (x1 - (17 : Int32)) 166) (
    some (q3 71 (x1 - (17 : Int32)).toNatClampNeg, q3))
  else
  if x1 = 20 then
    gd (inB (x1 - (17 : Int32)) 166) (
    some (q3 71 (x1 - (17 : Int32)).toNatClampNeg, q3))
  else
  if x1 = 21 then
    gd (inB (x1 - (17 : Int32)) 166) (
    some (q3 71 (x1 - (17 : Int32)).toNatClampNeg, q3))
  else
  if x1 = 22 then
    gd (inB (x1 - (17 : Int32)) 166) (
    some (q3 71 (x1 - (17 : Int32)).toNatClampNeg, q3))
  else
    some ((-2 : Int32), q3))
def f_X11_right_L39 : Nat → Int32 → Int32 → Int32 → HP → Option (Int32)
  | 0, _, _, _, _ => none
  | n + 1, x3, x4, x5, h =>
  if (4 : Int32) ≤ x5 then
    some x4
  else
    if x4 = 0 then
      some x4
    else
      ob (f_X11_toldSymbol x3 x5 h) (fun q54 =>
      ob (f_X11_symbolOf x3 x5 h) (fun q61 =>
      tb ((if q54 = q61 then (1 : Int32) else (0 : Int32))) (fun v72 =>
      f_X11_right_L39 n x3 v72 (x5 + (1 : Int32)) h)))
def f_X11_right_L12 : Nat → Int32 → Int32 → Int32 → HP → Option (Int32 × Int32)
  | 0, _, _, _, _ => none
  | n + 1, x1, x2, x3, h =>
  if (f_X11_frames h) ≤ x3 then
    some (x1, x2)
  else
    ob (f_X11_how x3 h) (fun q22 =>
    tb ((if (3 : Int32) ≤ q22 then (0 : Int32) else (1 : Int32))) (fun v34 =>
    ob (f_X11_right_L39 FU x3 v34 (0 : Int32) h) (fun q39 =>
    tb (x1 + (if (f_X11_isCheck x3 h) = 0 then (1 : Int32) else (0 : Int32))) (fun v94 =>
    tb (x2 + (if q39 = 0 then (0 : Int32) else (if (f_X11_isCheck x3 h) = 0 then (1 : Int32) else (0 : Int32)))) (fun v114 =>
    f_X11_right_L12 n v94 v114 (x3 + (1 : Int32)) h)))))
def f_X11_right  (h : HP) : Option (UInt64 × HP) :=
  ob (f_X11_lay (-5 : Int32) h) (fun q3 =>
  ob (f_X11_right_L12 FU (0 : Int32) (0 : Int32) (0 : Int32) q3) (fun q12 =>
  gd (dok (FP.ddiv (FP.i2d q12.2) (FP.i2d q12.1))) (
  some (FP.ddiv (FP.i2d q12.2) (FP.i2d q12.1), q3))))
def f_X11_ifSought (x1 : Int32) (x2 : Int32) (h : HP) : Option (Int32 × HP) :=
  if (f_X11_isFrame x1 h) = 0 then
    some ((-1 : Int32), h)
  else
    if (f_X11_in x2 (0 : Int32) (1 : Int32) h) = 0 then
      some ((-2 : Int32), h)
    else
      ob (f_X11_putAside h) (fun q23 =>
      ob (f_X11_seeks x1 q23) (fun q28 =>
      ob (f_X11_putBack q28.2) (fun q50 =>
      if x2 = 0 then
        some (q28.1, q50)
      else
        some ((q28.2 71 11) - (q28.2 72 11), q50))))
def f_X11_bestGuess_L23 : Nat → Int32 → Int32 → Int32 → Int32 → HP → Option (Int32 × HP)
  | 0, _, _, _, _, _ => none
  | n + 1, x1, x2, x3, x4, h =>
  if (140 : Int32) < x4 then
    some (x2, h)
  else
    tb (hset h 71 4 x4) (fun h41 =>
    ob (f_X11_seeks x1 h41) (fun q41 =>
    tb ((if x2 = (-5 : Int32) then x4 else (if x3 ≤ q41.1 then x2 else x4))) (fun v64 =>
    ob (f_X11_putBack q41.2) (fun q79 =>
    f_X11_bestGuess_L23 n x1 v64 (if v64 = x4 then q41.1 else x3) (x4 + (1 : Int32)) q79))))
def f_X11_bestGuess (x1 : Int32) (h : HP) : Option (Int32 × HP) :=
  if (f_X11_isFrame x1 h) = 0 then
    some ((-1 : Int32), h)
  else
    ob (f_X11_putAside h) (fun q11 =>
    ob (f_X11_bestGuess_L23 FU x1 (-5 : Int32) (0 : Int32) (60 : Int32) q11) (fun q23 =>
    some (q23.1, q23.2)))
def f_X11_polishFirst_L20 : Nat → Int32 → Int32 → Int32 → HP → Option (Int32 × Int32 × HP)
  | 0, _, _, _, _ => none
  | n + 1, x2, x3, x4, h =>
  if (h 71 12) ≤ x4 then
    some (x2, x3, h)
  else
    ob (f_X11_lay x4 h) (fun q35 =>
    ob (f_X11_framesThat (3 : Int32) q35) (fun q40 =>
    tb ((if x2 = (-5 : Int32) then x4 else (if x3 ≤ q40 then x2 else x4))) (fun v63 =>
    f_X11_polishFirst_L20 n v63 (if v63 = x4 then q40 else x3) (x4 + (1 : Int32)) q35)))
def f_X11_polishFirst (x1 : Int32) (h : HP) : Option (Int32 × HP) :=
  if (f_X11_in x1 (0 : Int32) (1 : Int32) h) = 0 then
    some ((-2 : Int32), h)
  else
    ob (f_X11_polishFirst_L20 FU (-5 : Int32) (0 : Int32) (0 : Int32) h) (fun q20 =>
    if q20.1 = (-5 : Int32) then
      some ((-5 : Int32), q20.2.2)
    else
      if x1 = 0 then
        some (q20.1, q20.2.2)
      else
        some (q20.2.1, q20.2.2))
def f_X11_gap_L29 : Nat → Int32 → Int32 → Int32 → Int32 → HP → Option (Int32 × Int32)
  | 0, _, _, _, _, _ => none
  | n + 1, x2, x3, x4, x5, h =>
  if (f_X11_frames h) ≤ x5 then
    some (x2, x3)
  else
    ob (f_X11_how x5 h) (fun q41 =>
    tb ((if q41 = (3 : Int32) then (x4 + (1 : Int32)) else (0 : Int32))) (fun v56 =>
    tb ((if v56 ≤ x3 then x2 else ((x5 - v56) + (1 : Int32)))) (fun v75 =>
    f_X11_gap_L29 n v75 (if v56 ≤ x3 then x3 else v56) v56 (x5 + (1 : Int32)) h)))
def f_X11_gap (x1 : Int32) (h : HP) : Option (Int32 × HP) :=
  if (f_X11_in x1 (0 : Int32) (1 : Int32) h) = 0 then
    some ((-2 : Int32), h)
  else
    ob (f_X11_lay (-5 : Int32) h) (fun q15 =>
    ob (f_X11_gap_L29 FU (-5 : Int32) (0 : Int32) (0 : Int32) (0 : Int32) q15) (fun q29 =>
    if q29.2 = 0 then
      some ((-5 : Int32), q15)
    else
      if x1 = 0 then
        some (q29.1, q15)
      else
        some (q29.2, q15)))
