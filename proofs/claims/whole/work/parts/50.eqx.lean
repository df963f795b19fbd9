/-! ===== what each frame does, up to the next cut: printed by program ===== -/
/- TickBound.feed -/
set_option maxRecDepth 100000 in
theorem ex_12_0 {nl : Int32} (x1 x2 x3 : Int32) (d : zd_D) : zx nl 12 0 [z_r 0, z_i x1, z_i x2, z_i x3] [] d =
  if 96 < (d.1 35 1) + 12 then
    some (some (.inl (-1000000003)), d)
  else
    (zx nl 13 0 [z_r 35, z_i x1, none] [] d).bind fun q => zx nl 12 13 [z_r 0, z_i x1, z_i x2, z_i x3] (q.1.toList ++ []) q.2 := zx_di 600 rfl
/- TickBound.feed -/
set_option maxRecDepth 100000 in
theorem ex_12_13 {nl : Int32} (x1 x2 x3 : Int32) (d : zd_D) : zx nl 12 13 [z_r 0, z_i x1, z_i x2, z_i x3] [] d =
  (zx nl 13 0 [z_r 35, z_i x2, none] [] d).bind fun q => zx nl 12 17 [z_r 0, z_i x1, z_i x2, z_i x3] (q.1.toList ++ []) q.2 := zx_di 600 rfl
/- TickBound.feed -/
set_option maxRecDepth 100000 in
theorem ex_12_17 {nl : Int32} (x1 x2 x3 : Int32) (d : zd_D) : zx nl 12 17 [z_r 0, z_i x1, z_i x2, z_i x3] [] d =
  (zx nl 13 0 [z_r 35, z_i x3, none] [] d).bind fun q => zx nl 12 21 [z_r 0, z_i x1, z_i x2, z_i x3] (q.1.toList ++ []) q.2 := zx_di 600 rfl
/- TickBound.feed -/
set_option maxRecDepth 100000 in
theorem ex_12_21 {nl : Int32} (x1 x2 x3 : Int32) (d : zd_D) : zx nl 12 21 [z_r 0, z_i x1, z_i x2, z_i x3] [] d =
  some (some (.inl (d.1 35 1)), d) := zx_di 600 rfl
/- TickBound$Tape.append -/
set_option maxRecDepth 100000 in
theorem ex_13_0 {nl : Int32} (x1 : Int32) (d : zd_D) : zx nl 13 0 [z_r 35, z_i x1, none] [] d =
  zx nl 13 3 [z_r 35, z_i x1, z_i 24] [] d := zx_di 600 rfl
/- TickBound$Tape.append -/
set_option maxRecDepth 100000 in
theorem ex_13_3 {nl : Int32} (x1 x2 : Int32) (d : zd_D) : zx nl 13 3 [z_r 35, z_i x1, z_i x2] [] d =
  if x2 < 0 then
    some (none, d)
  else
    if d.1 35 1 < 96 then
      cond (mx_in (d.1 35 1) 96) (
        zx nl 13 3 [z_r 35, z_i x1, z_i (x2 + (-8))] [] (zd_u (zd_u d 36 (d.1 35 1).toNatClampNeg ((Int32.toInt8 ((Int32.toInt8 ((x1.toUInt32 >>> (x2.toUInt32 &&& Int32.toUInt32 31)).toInt32)).toInt32)).toInt32)) 35 1 ((d.1 35 1) + 1))) none
    else
      some (none, d) := zx_di 600 rfl
/- TickBound.trim -/
set_option maxRecDepth 100000 in
theorem ex_14_0 {nl : Int32} (x1 : Int32) (d : zd_D) : zx nl 14 0 [z_r 0, z_i x1] [] d =
  if x1 < 0 then
    some (some (.inl (-1000000001)), d)
  else
    if d.1 35 1 < x1 then
      some (some (.inl (-1000000001)), d)
    else
      some (some (.inl x1), (zd_u d 35 1 x1)) := zx_di 600 rfl
/- TickBound.machine -/
set_option maxRecDepth 100000 in
theorem ex_15_0 {nl : Int32} (d : zd_D) : zx nl 15 0 [z_r 0, none] [] d =
  (zx nl 16 0 [z_r 35, z_r 2, none, none, none, none] [] d).bind fun q => zx nl 15 6 [z_r 0, none] (q.1.toList ++ []) q.2 := zx_di 600 rfl
/- TickBound.machine -/
set_option maxRecDepth 100000 in
theorem ex_15_6 {nl : Int32} (y0 : Int32) (d : zd_D) : zx nl 15 6 [z_r 0, none] [(.inl y0)] d =
  if 0 < y0 then
    some (some (.inl y0), (zd_u (zd_u (zd_u (zd_u d 35 1 0) 0 9 0) 0 10 0) 45 0 0))
  else
    some (some (.inl y0), (zd_u d 35 1 0)) := zx_di 600 rfl
/- TickBound$Tape.readMachine -/
set_option maxRecDepth 100000 in
theorem ex_16_0 {nl : Int32} (d : zd_D) : zx nl 16 0 [z_r 35, z_r 2, none, none, none, none] [] d =
  (zx nl 17 0 [z_r 35, none] [] (zd_u (zd_s d 37 (va_cpy (d.1 2) (d.1 37) 0 0 8)) 35 3 0)).bind fun q => zx nl 16 12 [z_r 35, z_r 2, none, none, none, none] (q.1.toList ++ []) q.2 := zx_di 600 rfl
/- TickBound$Tape.readMachine -/
set_option maxRecDepth 100000 in
theorem ex_16_12 {nl : Int32} (d : zd_D) : zx nl 16 12 [z_r 35, z_r 2, none, none, none, none] [] d =
  zx nl 16 17 [z_r 35, z_r 2, z_i 0, z_i 0, none, none] [] d := zx_di 600 rfl
/- TickBound$Tape.readMachine -/
set_option maxRecDepth 100000 in
theorem ex_16_17 {nl : Int32} (x2 x3 : Int32) (d : zd_D) : zx nl 16 17 [z_r 35, z_r 2, z_i x2, z_i x3, none, none] [] d =
  if 8 < x3 then
    some (some (.inl ((-100) - (d.1 35 2))), d)
  else
    if 0 < x3 then
      if d.1 35 2 = d.1 35 1 then
        (zx nl 20 0 [z_r 35, z_r 2, z_i x3, none] [] d).bind fun q => zx nl 16 31 [z_r 35, z_r 2, z_i x2, z_i x3, none, none] (q.1.toList ++ []) q.2
      else
        (zx nl 22 0 [z_r 35, none] [] d).bind fun q => zx nl 16 34 [z_r 35, z_r 2, z_i x2, z_i x3, none, none] (q.1.toList ++ []) q.2
    else
      (zx nl 22 0 [z_r 35, none] [] d).bind fun q => zx nl 16 34 [z_r 35, z_r 2, z_i x2, z_i x3, none, none] (q.1.toList ++ []) q.2 := zx_di 600 rfl
/- TickBound$Tape.readMachine -/
set_option maxRecDepth 100000 in
theorem ex_16_31 {nl : Int32} (x2 x3 y0 : Int32) (d : zd_D) : zx nl 16 31 [z_r 35, z_r 2, z_i x2, z_i x3, none, none] [(.inl y0)] d =
  some (some (.inl y0), d) := zx_di 600 rfl
/- TickBound$Tape.readMachine -/
set_option maxRecDepth 100000 in
theorem ex_16_34 {nl : Int32} (x2 x3 y0 : Int32) (d : zd_D) : zx nl 16 34 [z_r 35, z_r 2, z_i x2, z_i x3, none, none] [(.inl y0)] d =
  if y0 < 0 then
    some (some (.inl ((-100) - (d.1 35 2))), d)
  else
    if (x2 >>> (y0 &&& 31)) &&& 1 = 1 then
      some (some (.inl ((-100) - (d.1 35 2))), d)
    else
      (zx nl 17 0 [z_r 35, none] [] d).bind fun q => zx nl 16 57 [z_r 35, z_r 2, z_i (x2 ||| ((1 : Int32) <<< (y0 &&& 31))), z_i x3, z_i y0, none] (q.1.toList ++ []) q.2 := zx_di 600 rfl
/- TickBound$Tape.readMachine -/
set_option maxRecDepth 100000 in
theorem ex_16_57 {nl : Int32} (x2 x3 x4 : Int32) (d : zd_D) : zx nl 16 57 [z_r 35, z_r 2, z_i x2, z_i x3, z_i x4, none] [] d =
  (zx nl 30 0 [z_r 35, z_i x4] [] d).bind fun q => zx nl 16 60 [z_r 35, z_r 2, z_i x2, z_i x3, z_i x4, none] (q.1.toList ++ []) q.2 := zx_di 600 rfl
/- TickBound$Tape.readMachine -/
set_option maxRecDepth 100000 in
theorem ex_16_60 {nl : Int32} (x2 x3 x4 y0 : Int32) (d : zd_D) : zx nl 16 60 [z_r 35, z_r 2, z_i x2, z_i x3, z_i x4, none] [(.inl y0)] d =
  if y0 < 0 then
    some (some (.inl ((-100) - (d.1 35 2))), d)
  else
    cond (mx_in x4 8) (
      (zx nl 17 0 [z_r 35, none] [] (zd_u d 37 x4.toNatClampNeg y0)).bind fun q => zx nl 16 75 [z_r 35, z_r 2, z_i x2, z_i x3, z_i x4, z_i y0] (q.1.toList ++ []) q.2) none := zx_di 600 rfl
/- TickBound$Tape.readMachine -/
set_option maxRecDepth 100000 in
theorem ex_16_75 {nl : Int32} (x2 x3 x4 x5 : Int32) (d : zd_D) : zx nl 16 75 [z_r 35, z_r 2, z_i x2, z_i x3, z_i x4, z_i x5] [] d =
  zx nl 16 17 [z_r 35, z_r 2, z_i x2, z_i (x3 + 1), none, none] [] d := zx_di 600 rfl
/- TickBound$Tape.nextWord -/
set_option maxRecDepth 100000 in
theorem ex_17_0 {nl : Int32} (d : zd_D) : zx nl 17 0 [z_r 35, none] [] d =
  zx nl 17 7 [z_r 35, z_i (d.1 35 3)] [] (zd_u d 35 2 (d.1 35 3)) := zx_di 600 rfl
/- TickBound$Tape.nextWord -/
set_option maxRecDepth 100000 in
theorem ex_17_7 {nl : Int32} (x1 : Int32) (d : zd_D) : zx nl 17 7 [z_r 35, z_i x1] [] d =
  if d.1 35 2 < d.1 35 1 then
    cond (mx_in (d.1 35 2) 96) (
      if d.1 36 (d.1 35 2).toNatClampNeg = 32 then
        zx nl 17 7 [z_r 35, z_i x1] [] (zd_u d 35 2 ((d.1 35 2) + 1))
      else
        zx nl 17 27 [z_r 35, z_i x1] [] d) none
  else
    zx nl 17 27 [z_r 35, z_i x1] [] d := zx_di 600 rfl
/- TickBound$Tape.nextWord -/
set_option maxRecDepth 100000 in
theorem ex_17_27 {nl : Int32} (x1 : Int32) (d : zd_D) : zx nl 17 27 [z_r 35, z_i x1] [] d =
  if 0 < d.1 35 2 then
    if d.1 35 2 = x1 then
      if d.1 35 2 < d.1 35 1 then
        zx nl 17 54 [z_r 35, none] [] (zd_u (zd_u d 35 4 1) 35 3 ((d.1 35 2) + 1))
      else
        zx nl 17 54 [z_r 35, none] [] (zd_u (zd_u d 35 4 1) 35 3 (d.1 35 2))
    else
      if d.1 35 2 < d.1 35 1 then
        zx nl 17 54 [z_r 35, none] [] (zd_u (zd_u d 35 4 0) 35 3 ((d.1 35 2) + 1))
      else
        zx nl 17 54 [z_r 35, none] [] (zd_u (zd_u d 35 4 0) 35 3 (d.1 35 2))
  else
    if d.1 35 2 < d.1 35 1 then
      zx nl 17 54 [z_r 35, none] [] (zd_u (zd_u d 35 4 0) 35 3 ((d.1 35 2) + 1))
    else
      zx nl 17 54 [z_r 35, none] [] (zd_u (zd_u d 35 4 0) 35 3 (d.1 35 2)) := zx_di 600 rfl
/- TickBound$Tape.nextWord -/
set_option maxRecDepth 100000 in
theorem ex_17_54 {nl : Int32} (d : zd_D) : zx nl 17 54 [z_r 35, none] [] d =
  if d.1 35 2 < d.1 35 1 then
    cond (mx_in (d.1 35 2) 96) (
      if d.1 36 (d.1 35 2).toNatClampNeg < 97 then
        if d.1 35 2 < d.1 35 1 then
          cond (mx_in (d.1 35 2) 96) (
            if d.1 36 (d.1 35 2).toNatClampNeg < 48 then
              some (none, d)
            else
              if 57 < d.1 36 (d.1 35 2).toNatClampNeg then
                some (none, d)
              else
                zx nl 17 99 [z_r 35, none] [] d) none
        else
          some (none, d)
      else
        if 122 < d.1 36 (d.1 35 2).toNatClampNeg then
          if d.1 35 2 < d.1 35 1 then
            cond (mx_in (d.1 35 2) 96) (
              if d.1 36 (d.1 35 2).toNatClampNeg < 48 then
                some (none, d)
              else
                if 57 < d.1 36 (d.1 35 2).toNatClampNeg then
                  some (none, d)
                else
                  zx nl 17 99 [z_r 35, none] [] d) none
          else
            some (none, d)
        else
          zx nl 17 67 [z_r 35, none] [] d) none
  else
    if d.1 35 2 < d.1 35 1 then
      cond (mx_in (d.1 35 2) 96) (
        if d.1 36 (d.1 35 2).toNatClampNeg < 48 then
          some (none, d)
        else
          if 57 < d.1 36 (d.1 35 2).toNatClampNeg then
            some (none, d)
          else
            zx nl 17 99 [z_r 35, none] [] d) none
    else
      some (none, d) := zx_di 600 rfl
/- TickBound$Tape.nextWord -/
set_option maxRecDepth 100000 in
theorem ex_17_67 {nl : Int32} (d : zd_D) : zx nl 17 67 [z_r 35, none] [] d =
  if d.1 35 3 < d.1 35 1 then
    cond (mx_in (d.1 35 3) 96) (
      if d.1 36 (d.1 35 3).toNatClampNeg < 97 then
        some (none, d)
      else
        if 122 < d.1 36 (d.1 35 3).toNatClampNeg then
          some (none, d)
        else
          zx nl 17 67 [z_r 35, none] [] (zd_u d 35 3 ((d.1 35 3) + 1))) none
  else
    some (none, d) := zx_di 600 rfl
/- TickBound$Tape.nextWord -/
set_option maxRecDepth 100000 in
theorem ex_17_99 {nl : Int32} (d : zd_D) : zx nl 17 99 [z_r 35, none] [] d =
  if d.1 35 3 < d.1 35 1 then
    cond (mx_in (d.1 35 3) 96) (
      if d.1 36 (d.1 35 3).toNatClampNeg < 48 then
        some (none, d)
      else
        if 57 < d.1 36 (d.1 35 3).toNatClampNeg then
          some (none, d)
        else
          zx nl 17 99 [z_r 35, none] [] (zd_u d 35 3 ((d.1 35 3) + 1))) none
  else
    some (none, d) := zx_di 600 rfl
/- TickBound$Tape.acceptDraft -/
set_option maxRecDepth 100000 in
theorem ex_20_0 {nl : Int32} (x2 : Int32) (d : zd_D) : zx nl 20 0 [z_r 35, z_r 2, z_i x2, none] [] d =
  zx nl 20 3 [z_r 35, z_r 2, z_i x2, z_i 0] [] d := zx_di 600 rfl
/- TickBound$Tape.acceptDraft -/
set_option maxRecDepth 100000 in
theorem ex_20_3 {nl : Int32} (x2 x3 : Int32) (d : zd_D) : zx nl 20 3 [z_r 35, z_r 2, z_i x2, z_i x3] [] d =
  if x3 < 8 then
    cond (mx_in x3 8) (
      (zx nl 21 0 [z_i x3, z_i (d.1 37 x3.toNatClampNeg)] [] d).bind fun q => zx nl 20 12 [z_r 35, z_r 2, z_i x2, z_i x3] (q.1.toList ++ []) q.2) none
  else
    some (some (.inl x2), (zd_s d 2 (va_cpy (d.1 37) (d.1 2) 0 0 8))) := zx_di 600 rfl
/- TickBound$Tape.acceptDraft -/
set_option maxRecDepth 100000 in
theorem ex_20_12 {nl : Int32} (x2 x3 y0 : Int32) (d : zd_D) : zx nl 20 12 [z_r 35, z_r 2, z_i x2, z_i x3] [(.inl y0)] d =
  if y0 = 0 then
    some (some (.inl (-1000000002)), d)
  else
    zx nl 20 3 [z_r 35, z_r 2, z_i x2, z_i (x3 + 1)] [] d := zx_di 600 rfl
/- TickBound$Tape.isRightValue -/
set_option maxRecDepth 100000 in
theorem ex_21_0 {nl : Int32} (x0 x1 : Int32) (d : zd_D) : zx nl 21 0 [z_i x0, z_i x1] [] d =
  if x0 = 0 then
    if x1 = 1 then
      some (some (.inl 1), d)
    else
      if x1 = 2 then
        some (some (.inl 1), d)
      else
        if x1 = 4 then
          some (some (.inl 1), d)
        else
          some (some (.inl 0), d)
  else
    if x0 = 1 then
      if x1 = 1 then
        some (some (.inl 1), d)
      else
        if x1 = 2 then
          some (some (.inl 1), d)
        else
          if x1 = 4 then
            some (some (.inl 1), d)
          else
            some (some (.inl 0), d)
    else
      if x0 = 2 then
        if 9 < x1 then
          some (some (.inl 0), d)
        else
          some (some (.inl 1), d)
      else
        if x0 = 3 then
          if 99 < x1 then
            some (some (.inl 0), d)
          else
            some (some (.inl 1), d)
        else
          if 9 < x1 then
            some (some (.inl 0), d)
          else
            some (some (.inl 1), d) := zx_di 600 rfl
/- TickBound$Tape.partHere -/
set_option maxRecDepth 100000 in
theorem ex_22_0 {nl : Int32} (d : zd_D) : zx nl 22 0 [z_r 35, none] [] d =
  zx nl 22 3 [z_r 35, z_i 0] [] d := zx_di 600 rfl
/- TickBound$Tape.partHere -/
set_option maxRecDepth 100000 in
theorem ex_22_3 {nl : Int32} (x1 : Int32) (d : zd_D) : zx nl 22 3 [z_r 35, z_i x1] [] d =
  if x1 < 8 then
    if x1 = 0 then
      (zx nl 24 0 [z_r 35, z_r 1000001, none] [] d).bind fun q => zx nl 22 10 [z_r 35, z_i x1] (q.1.toList ++ []) q.2
    else
      if x1 = 1 then
        (zx nl 24 0 [z_r 35, z_r 1000002, none] [] d).bind fun q => zx nl 22 10 [z_r 35, z_i x1] (q.1.toList ++ []) q.2
      else
        if x1 = 2 then
          (zx nl 24 0 [z_r 35, z_r 1000003, none] [] d).bind fun q => zx nl 22 10 [z_r 35, z_i x1] (q.1.toList ++ []) q.2
        else
          if x1 = 3 then
            (zx nl 24 0 [z_r 35, z_r 1000004, none] [] d).bind fun q => zx nl 22 10 [z_r 35, z_i x1] (q.1.toList ++ []) q.2
          else
            if x1 = 4 then
              (zx nl 24 0 [z_r 35, z_r 1000005, none] [] d).bind fun q => zx nl 22 10 [z_r 35, z_i x1] (q.1.toList ++ []) q.2
            else
              if x1 = 5 then
                (zx nl 24 0 [z_r 35, z_r 1000006, none] [] d).bind fun q => zx nl 22 10 [z_r 35, z_i x1] (q.1.toList ++ []) q.2
              else
                if x1 = 6 then
                  (zx nl 24 0 [z_r 35, z_r 1000007, none] [] d).bind fun q => zx nl 22 10 [z_r 35, z_i x1] (q.1.toList ++ []) q.2
                else
                  (zx nl 24 0 [z_r 35, z_r 1000008, none] [] d).bind fun q => zx nl 22 10 [z_r 35, z_i x1] (q.1.toList ++ []) q.2
  else
    some (some (.inl (-1)), d) := zx_di 600 rfl
/- TickBound$Tape.partHere -/
set_option maxRecDepth 100000 in
theorem ex_22_10 {nl : Int32} (x1 y0 : Int32) (d : zd_D) : zx nl 22 10 [z_r 35, z_i x1] [(.inl y0)] d =
  if y0 = 0 then
    zx nl 22 3 [z_r 35, z_i (x1 + 1)] [] d
  else
    some (some (.inl x1), d) := zx_di 600 rfl
/- TickBound$Tape.wordIs -/
set_option maxRecDepth 100000 in
theorem ex_24_0 {nl : Int32} (c0 : Nat) (h : c0 = 1000001 ∨ c0 = 1000002 ∨ c0 = 1000003 ∨ c0 = 1000004 ∨ c0 = 1000005 ∨ c0 = 1000006 ∨ c0 = 1000007 ∨ c0 = 1000008 ∨ c0 = 1000009 ∨ c0 = 1000010 ∨ c0 = 1000011 ∨ c0 = 1000012 ∨ c0 = 1000013 ∨ c0 = 1000014) (d : zd_D) : zx nl 24 0 [z_r 35, z_r c0, none] [] d =
  if d.1 35 4 = 0 then
    mx_rt 3 0 (
      if (d.1 35 3) - (d.1 35 2) = (Int32.ofNat (zt_ln.getD ((c0 + 100000) - 1100001) 0)) >>> (0 &&& 31) then
        zx nl 24 16 [z_r 35, z_r c0, z_i 0] [] d
      else
        some (some (.inl 0), d))
  else
    some (some (.inl 0), d) := by rcases h with rfl | rfl | rfl | rfl | rfl | rfl | rfl | rfl | rfl | rfl | rfl | rfl | rfl | rfl <;> exact zx_di 600 rfl
/- TickBound$Tape.wordIs -/
set_option maxRecDepth 100000 in
theorem ex_24_16 {nl : Int32} (c0 : Nat) (x2 : Int32) (h : c0 = 1000001 ∨ c0 = 1000002 ∨ c0 = 1000003 ∨ c0 = 1000004 ∨ c0 = 1000005 ∨ c0 = 1000006 ∨ c0 = 1000007 ∨ c0 = 1000008 ∨ c0 = 1000009 ∨ c0 = 1000010 ∨ c0 = 1000011 ∨ c0 = 1000012 ∨ c0 = 1000013 ∨ c0 = 1000014) (d : zd_D) : zx nl 24 16 [z_r 35, z_r c0, z_i x2] [] d =
  mx_rt 3 0 (
    if x2 < (Int32.ofNat (zt_ln.getD ((c0 + 100000) - 1100001) 0)) >>> (0 &&& 31) then
      cond (mx_in ((d.1 35 2) + x2) 96) (
        if x2 < 0 then
          none
        else
          if x2 < Int32.ofNat (zt_ln.getD ((c0 + 100000) - 1100001) 0) then
            if 1 = 1 ∧ mx_in x2 (zt_ln.getD ((c0 + 100000) - 1100001) 0) = true then
              mx_rt 2 (((Int32.toUInt32 (((zt_by.getD ((c0 + 100000) - 1100001) []).getD x2.toNatClampNeg 0) &&& 255)) % 65536).toInt32) (
                mx_rt 2 (((Int32.toUInt32 (((zt_by.getD ((c0 + 100000) - 1100001) []).getD x2.toNatClampNeg 0) &&& 255)) % 65536).toInt32) (
                  if d.1 36 ((d.1 35 2) + x2).toNatClampNeg = ((Int32.toUInt32 (((zt_by.getD ((c0 + 100000) - 1100001) []).getD x2.toNatClampNeg 0) &&& 255)) % 65536).toInt32 then
                    zx nl 24 16 [z_r 35, z_r c0, z_i (x2 + 1)] [] d
                  else
                    some (some (.inl 0), d)))
            else
              none
          else
            none) none
    else
      some (some (.inl 1), d)) := by rcases h with rfl | rfl | rfl | rfl | rfl | rfl | rfl | rfl | rfl | rfl | rfl | rfl | rfl | rfl <;> exact zx_di 600 rfl
/- TickBound$Tape.valueHere -/
set_option maxRecDepth 100000 in
theorem ex_30_0 {nl : Int32} (x1 : Int32) (d : zd_D) : zx nl 30 0 [z_r 35, z_i x1] [] d =
  if x1 = 2 then
    (zx nl 31 0 [z_r 35, z_r 1000009, z_r 1000010, z_r 1000011] [] d).bind fun q => zx nl 30 8 [z_r 35, z_i x1] (q.1.toList ++ []) q.2
  else
    if x1 = 5 then
      (zx nl 31 0 [z_r 35, z_r 1000012, z_r 1000013, z_r 1000014] [] d).bind fun q => zx nl 30 17 [z_r 35, z_i x1] (q.1.toList ++ []) q.2
    else
      (zx nl 32 0 [z_r 35, none, none] [] d).bind fun q => zx nl 30 20 [z_r 35, z_i x1] (q.1.toList ++ []) q.2 := zx_di 600 rfl
/- TickBound$Tape.valueHere -/
set_option maxRecDepth 100000 in
theorem ex_30_8 {nl : Int32} (x1 y0 : Int32) (d : zd_D) : zx nl 30 8 [z_r 35, z_i x1] [(.inl y0)] d =
  some (some (.inl y0), d) := zx_di 600 rfl
/- TickBound$Tape.valueHere -/
set_option maxRecDepth 100000 in
theorem ex_30_17 {nl : Int32} (x1 y0 : Int32) (d : zd_D) : zx nl 30 17 [z_r 35, z_i x1] [(.inl y0)] d =
  some (some (.inl y0), d) := zx_di 600 rfl
/- TickBound$Tape.valueHere -/
set_option maxRecDepth 100000 in
theorem ex_30_20 {nl : Int32} (x1 y0 : Int32) (d : zd_D) : zx nl 30 20 [z_r 35, z_i x1] [(.inl y0)] d =
  some (some (.inl y0), d) := zx_di 600 rfl
/- TickBound$Tape.oneOf -/
set_option maxRecDepth 100000 in
theorem ex_31_0 {nl : Int32} (c0 : Nat) (h : c0 = 1000009 ∨ c0 = 1000012) (d : zd_D) : zx nl 31 0 [z_r 35, z_r c0, z_r (c0 + 1), z_r (c0 + 2)] [] d =
  (zx nl 24 0 [z_r 35, z_r c0, none] [] d).bind fun q => zx nl 31 3 [z_r 35, z_r c0, z_r (c0 + 1), z_r (c0 + 2)] (q.1.toList ++ []) q.2 := by rcases h with rfl | rfl <;> exact zx_di 600 rfl
/- TickBound$Tape.oneOf -/
set_option maxRecDepth 100000 in
theorem ex_31_3 {nl : Int32} (c0 : Nat) (y0 : Int32) (h : c0 = 1000009 ∨ c0 = 1000012) (d : zd_D) : zx nl 31 3 [z_r 35, z_r c0, z_r (c0 + 1), z_r (c0 + 2)] [(.inl y0)] d =
  if y0 = 0 then
    (zx nl 24 0 [z_r 35, z_r (c0 + 1), none] [] d).bind fun q => zx nl 31 9 [z_r 35, z_r c0, z_r (c0 + 1), z_r (c0 + 2)] (q.1.toList ++ []) q.2
  else
    some (some (.inl 0), d) := by rcases h with rfl | rfl <;> exact zx_di 600 rfl
/- TickBound$Tape.oneOf -/
set_option maxRecDepth 100000 in
theorem ex_31_9 {nl : Int32} (c0 : Nat) (y0 : Int32) (h : c0 = 1000009 ∨ c0 = 1000012) (d : zd_D) : zx nl 31 9 [z_r 35, z_r c0, z_r (c0 + 1), z_r (c0 + 2)] [(.inl y0)] d =
  if y0 = 0 then
    (zx nl 24 0 [z_r 35, z_r (c0 + 2), none] [] d).bind fun q => zx nl 31 15 [z_r 35, z_r c0, z_r (c0 + 1), z_r (c0 + 2)] (q.1.toList ++ []) q.2
  else
    some (some (.inl 1), d) := by rcases h with rfl | rfl <;> exact zx_di 600 rfl
/- TickBound$Tape.oneOf -/
set_option maxRecDepth 100000 in
theorem ex_31_15 {nl : Int32} (c0 : Nat) (y0 : Int32) (h : c0 = 1000009 ∨ c0 = 1000012) (d : zd_D) : zx nl 31 15 [z_r 35, z_r c0, z_r (c0 + 1), z_r (c0 + 2)] [(.inl y0)] d =
  if y0 = 0 then
    some (some (.inl (-1)), d)
  else
    some (some (.inl 2), d) := by rcases h with rfl | rfl <;> exact zx_di 600 rfl
/- TickBound$Tape.numberHere -/
set_option maxRecDepth 100000 in
theorem ex_32_0 {nl : Int32} (d : zd_D) : zx nl 32 0 [z_r 35, none, none] [] d =
  if d.1 35 4 = 0 then
    if d.1 35 2 < d.1 35 1 then
      cond (mx_in (d.1 35 2) 96) (
        if d.1 36 (d.1 35 2).toNatClampNeg < 48 then
          some (some (.inl (-1)), d)
        else
          if 57 < d.1 36 (d.1 35 2).toNatClampNeg then
            some (some (.inl (-1)), d)
          else
            if 3 < (d.1 35 3) - (d.1 35 2) then
              some (some (.inl (-1)), d)
            else
              zx nl 32 30 [z_r 35, z_i 0, z_i (d.1 35 2)] [] d) none
    else
      some (some (.inl (-1)), d)
  else
    some (some (.inl (-1)), d) := zx_di 600 rfl
/- TickBound$Tape.numberHere -/
set_option maxRecDepth 100000 in
theorem ex_32_30 {nl : Int32} (x1 x2 : Int32) (d : zd_D) : zx nl 32 30 [z_r 35, z_i x1, z_i x2] [] d =
  if x2 < d.1 35 3 then
    cond (mx_in x2 96) (
      zx nl 32 30 [z_r 35, z_i ((10 * x1) + ((d.1 36 x2.toNatClampNeg) - 48)), z_i (x2 + 1)] [] d) none
  else
    some (some (.inl x1), d) := zx_di 600 rfl
/- TickBound.is -/
set_option maxRecDepth 100000 in
theorem ex_35_0 {nl : Int32} (x1 : Int32) (d : zd_D) : zx nl 35 0 [z_r 0, z_i x1] [] d =
  if x1 < 0 then
    some (some (.inl (-1000000001)), d)
  else
    if 8 < x1 then
      some (some (.inl (-1000000001)), d)
    else
      if x1 = 8 then
        (zx nl 36 0 [z_r 1] [] d).bind fun q => zx nl 35 13 [z_r 0, z_i x1] (q.1.toList ++ []) q.2
      else
        cond (mx_in x1 8) (
          some (some (.inl (d.1 2 x1.toNatClampNeg)), d)) none := zx_di 600 rfl
/- TickBound.is -/
set_option maxRecDepth 100000 in
theorem ex_35_13 {nl : Int32} (x1 y0 : Int32) (d : zd_D) : zx nl 35 13 [z_r 0, z_i x1] [(.inl y0)] d =
  some (some (.inl y0), d) := zx_di 600 rfl
/- TickBound$State.remembers -/
set_option maxRecDepth 100000 in
theorem ex_36_0 {nl : Int32} (d : zd_D) : zx nl 36 0 [z_r 1] [] d =
  if d.1 2 2 = 1 then
    some (some (.inl 1), d)
  else
    if d.1 2 2 = 2 then
      if d.1 2 1 = 4 then
        some (some (.inl 3), d)
      else
        some (some (.inl (d.1 2 1)), d)
    else
      some (some (.inl (d.1 2 1)), d) := zx_di 600 rfl
/- TickBound.memory -/
set_option maxRecDepth 100000 in
theorem ex_37_0 {nl : Int32} (x1 x2 : Int32) (d : zd_D) : zx nl 37 0 [z_r 0, z_i x1, z_i x2, none] [] d =
  if x1 < 0 then
    some (some (.inl (-1000000001)), d)
  else
    if x1 < 32 then
      cond (mx_in x1 32) (
        cond (mx_in x1 32) (
          some (some (.inl (d.1 14 x1.toNatClampNeg)), (zd_u d 14 x1.toNatClampNeg x2))) none) none
    else
      some (some (.inl (-1000000001)), d) := zx_di 600 rfl
/- TickBound.lock -/
set_option maxRecDepth 100000 in
theorem ex_38_0 {nl : Int32} (x1 x2 : Int32) (d : zd_D) : zx nl 38 0 [z_r 0, z_i x1, z_i x2, none] [] d =
  if x1 < 0 then
    some (some (.inl (-1000000001)), d)
  else
    if x1 < 16 then
      if x2 < 0 then
        some (some (.inl (-1000000001)), d)
      else
        if 1 < x2 then
          some (some (.inl (-1000000001)), d)
        else
          if ((d.1 1 4) >>> (x1 &&& 31)) &&& 1 = x2 then
            some (some (.inl (((d.1 1 4) >>> (x1 &&& 31)) &&& 1)), d)
          else
            some (some (.inl (((d.1 1 4) >>> (x1 &&& 31)) &&& 1)), (zd_u (zd_u (zd_u d 1 4 ((d.1 1 4) ^^^ ((1 : Int32) <<< (x1 &&& 31)))) 0 9 0) 0 10 0))
    else
      some (some (.inl (-1000000001)), d) := zx_di 600 rfl
/- TickBound.order -/
set_option maxRecDepth 100000 in
theorem ex_40_0 {nl : Int32} (x1 x2 x3 x4 : Int32) (d : zd_D) : zx nl 40 0 [z_r 0, z_i x1, z_i x2, z_i x3, z_i x4] [] d =
  (zx nl 41 0 [z_i x1, z_i x2, z_i x3, z_i x4] [] d).bind fun q => zx nl 40 5 [z_r 0, z_i x1, z_i x2, z_i x3, z_i x4] (q.1.toList ++ []) q.2 := zx_di 600 rfl
/- TickBound.order -/
set_option maxRecDepth 100000 in
theorem ex_40_5 {nl : Int32} (x1 x2 x3 x4 y0 : Int32) (d : zd_D) : zx nl 40 5 [z_r 0, z_i x1, z_i x2, z_i x3, z_i x4] [(.inl y0)] d =
  if y0 = 0 then
    some (some (.inl (-1000000001)), d)
  else
    if d.1 3 0 < 28 then
      (zx nl 44 0 [z_r 3, z_i x1, z_i x2, z_i x3, z_i x4] [] d).bind fun q => zx nl 40 24 [z_r 0, z_i x1, z_i x2, z_i x3, z_i x4] (q.1.toList ++ []) q.2
    else
      some (some (.inl (-1000000003)), d) := zx_di 600 rfl
/- TickBound.order -/
set_option maxRecDepth 100000 in
theorem ex_40_24 {nl : Int32} (x1 x2 x3 x4 : Int32) (d : zd_D) : zx nl 40 24 [z_r 0, z_i x1, z_i x2, z_i x3, z_i x4] [] d =
  some (some (.inl ((d.1 3 0) - 1)), (zd_u (zd_u (zd_u d 0 9 0) 0 10 0) 45 0 0)) := zx_di 600 rfl
/- TickBound.isRightOrder -/
set_option maxRecDepth 100000 in
theorem ex_41_0 {nl : Int32} (x0 x1 x2 x3 : Int32) (d : zd_D) : zx nl 41 0 [z_i x0, z_i x1, z_i x2, z_i x3] [] d =
  if x1 < 0 then
    some (some (.inl 0), d)
  else
    if x1 < 4 then
      if x0 = 0 then
        if x2 < 0 then
          some (some (.inl 0), d)
        else
          if x2 < 4 then
            if x3 < (-999) then
              some (some (.inl 0), d)
            else
              if 999 < x3 then
                some (some (.inl 0), d)
              else
                some (some (.inl 1), d)
          else
            some (some (.inl 0), d)
      else
        if x0 = 1 then
          if x2 = 4 then
            if x3 < 0 then
              some (some (.inl 0), d)
            else
              if x3 < 32 then
                some (some (.inl 1), d)
              else
                some (some (.inl 0), d)
          else
            if x2 < 0 then
              some (some (.inl 0), d)
            else
              if x2 < 4 then
                if x3 < (-999) then
                  some (some (.inl 0), d)
                else
                  if 999 < x3 then
                    some (some (.inl 0), d)
                  else
                    some (some (.inl 1), d)
              else
                some (some (.inl 0), d)
        else
          if x0 = 2 then
            if x2 = 4 then
              if x3 < 0 then
                some (some (.inl 0), d)
              else
                if x3 < 32 then
                  some (some (.inl 1), d)
                else
                  some (some (.inl 0), d)
            else
              if x2 < 0 then
                some (some (.inl 0), d)
              else
                if x2 < 4 then
                  if x3 < (-999) then
                    some (some (.inl 0), d)
                  else
                    if 999 < x3 then
                      some (some (.inl 0), d)
                    else
                      some (some (.inl 1), d)
                else
                  some (some (.inl 0), d)
          else
            if x0 = 3 then
              if x2 < 0 then
                some (some (.inl 0), d)
              else
                if x2 < 29 then
                  if x3 < (-999) then
                    some (some (.inl 0), d)
                  else
                    if 999 < x3 then
                      some (some (.inl 0), d)
                    else
                      some (some (.inl 1), d)
                else
                  some (some (.inl 0), d)
            else
              if x0 = 4 then
                if x2 < 0 then
                  some (some (.inl 0), d)
                else
                  if x2 < 29 then
                    if x3 = 0 then
                      some (some (.inl 1), d)
                    else
                      some (some (.inl 0), d)
                  else
                    some (some (.inl 0), d)
              else
                if x0 = 5 then
                  if x2 < 0 then
                    some (some (.inl 0), d)
                  else
                    if x2 < 4 then
                      if x3 < 0 then
                        some (some (.inl 0), d)
                      else
                        if x3 < 4 then
                          some (some (.inl 1), d)
                        else
                          some (some (.inl 0), d)
                    else
                      some (some (.inl 0), d)
                else
                  if x0 = 6 then
                    if x2 < 0 then
                      some (some (.inl 0), d)
                    else
                      if x2 < 4 then
                        if x3 < 0 then
                          some (some (.inl 0), d)
                        else
                          if x3 < 4 then
                            some (some (.inl 1), d)
                          else
                            some (some (.inl 0), d)
                      else
                        some (some (.inl 0), d)
                  else
                    if x0 = 7 then
                      if x2 = 0 then
                        if x3 = 0 then
                          some (some (.inl 1), d)
                        else
                          some (some (.inl 0), d)
                      else
                        some (some (.inl 0), d)
                    else
                      some (some (.inl 0), d)
    else
      some (some (.inl 0), d) := zx_di 600 rfl
/- TickBound$Program.addOrder -/
set_option maxRecDepth 100000 in
theorem ex_44_0 {nl : Int32} (x1 x2 x3 x4 : Int32) (d : zd_D) : zx nl 44 0 [z_r 3, z_i x1, z_i x2, z_i x3, z_i x4] [] d =
  cond (mx_in (d.1 3 0) 28) (
    cond (mx_in (d.1 3 0) 28) (
      cond (mx_in (d.1 3 0) 28) (
        cond (mx_in (d.1 3 0) 28) (
          cond (mx_in (d.1 3 0) 28) (
            (zx nl 45 0 [z_i x1, z_i x3, z_i x4] [] (zd_u (zd_u (zd_u (zd_u (zd_u d 4 (d.1 3 0).toNatClampNeg x1) 5 (d.1 3 0).toNatClampNeg x2) 6 (d.1 3 0).toNatClampNeg x3) 7 (d.1 3 0).toNatClampNeg x4) 8 (d.1 3 0).toNatClampNeg 0)).bind fun q => zx nl 44 38 [z_r 3, z_i x1, z_i x2, z_i x3, z_i x4] (q.1.toList ++ [(.inl (d.1 3 0)), (.inr (.inr (some 9)))]) q.2) none) none) none) none) none := zx_di 600 rfl
/- TickBound$Program.addOrder -/
set_option maxRecDepth 100000 in
theorem ex_44_38 {nl : Int32} (x1 x2 x3 x4 y1 y2 : Int32) (d : zd_D) : zx nl 44 38 [z_r 3, z_i x1, z_i x2, z_i x3, z_i x4] [(.inl y2), (.inl y1), (.inr (.inr (some 9)))] d =
  cond (mx_in y1 28) (
    (zx nl 48 0 [z_r 3, none] [] (zd_u (zd_u d 9 y1.toNatClampNeg y2) 3 0 ((d.1 3 0) + 1))).bind fun q => zx nl 44 47 [z_r 3, z_i x1, z_i x2, z_i x3, z_i x4] (q.1.toList ++ []) q.2) none := zx_di 600 rfl
/- TickBound$Program.addOrder -/
set_option maxRecDepth 100000 in
theorem ex_44_47 {nl : Int32} (x1 x2 x3 x4 : Int32) (d : zd_D) : zx nl 44 47 [z_r 3, z_i x1, z_i x2, z_i x3, z_i x4] [] d =
  some (none, d) := zx_di 600 rfl
/- TickBound$Program.lineOf -/
set_option maxRecDepth 100000 in
theorem ex_45_0 {nl : Int32} (x0 x1 x2 : Int32) (d : zd_D) : zx nl 45 0 [z_i x0, z_i x1, z_i x2] [] d =
  (zx nl 46 0 [z_i x0, z_i 1, none, none] [] d).bind fun q => zx nl 45 3 [z_i x0, z_i x1, z_i x2] (q.1.toList ++ []) q.2 := zx_di 600 rfl
/- TickBound$Program.lineOf -/
set_option maxRecDepth 100000 in
theorem ex_45_3 {nl : Int32} (x0 x1 x2 y0 : Int32) (d : zd_D) : zx nl 45 3 [z_i x0, z_i x1, z_i x2] [(.inl y0)] d =
  if y0 = 0 then
    some (some (.inl (-2)), d)
  else
    if x1 = 4 then
      some (some (.inl (x2 / 2)), d)
    else
      some (some (.inl (-1)), d) := zx_di 600 rfl
/- TickBound.isUnder -/
set_option maxRecDepth 100000 in
theorem ex_46_0 {nl : Int32} (x0 x1 : Int32) (d : zd_D) : zx nl 46 0 [z_i x0, z_i x1, none, none] [] d =
  zx nl 46 5 [none, z_i x1, z_i x0, z_i 0] [] d := zx_di 600 rfl
/- TickBound.isUnder -/
set_option maxRecDepth 100000 in
theorem ex_46_5 {nl : Int32} (x1 x2 x3 : Int32) (d : zd_D) : zx nl 46 5 [none, z_i x1, z_i x2, z_i x3] [] d =
  if x3 < 8 then
    if x2 < 0 then
      some (some (.inl 0), d)
    else
      if x2 < 8 then
        if x2 = x1 then
          some (some (.inl 1), d)
        else
          if 0 = 0 ∧ mx_in x2 8 = true then
            zx nl 46 5 [none, z_i x1, z_i (zt_ab x2.toNatClampNeg), z_i (x3 + 1)] [] d
          else
            none
      else
        some (some (.inl 0), d)
  else
    some (some (.inl 0), d) := zx_di 600 rfl
/- TickBound$Program.findEdges -/
set_option maxRecDepth 100000 in
theorem ex_48_0 {nl : Int32} (c0 : Nat) (h : c0 = 3 ∨ c0 = 20) (d : zd_D) : zx nl 48 0 [z_r c0, none] [] d =
  zx nl 48 6 [z_r c0, z_i 0] [] (zd_u d c0 7 0) := by rcases h with rfl | rfl <;> exact zx_di 600 rfl
/- TickBound$Program.findEdges -/
set_option maxRecDepth 100000 in
theorem ex_48_6 {nl : Int32} (c0 : Nat) (x1 : Int32) (h : c0 = 3 ∨ c0 = 20) (d : zd_D) : zx nl 48 6 [z_r c0, z_i x1] [] d =
  if x1 < d.1 c0 0 then
    cond (mx_in x1 29) (
      (zx nl 49 0 [z_r c0, z_i x1, none, none] [] (zd_u d (c0 + 7) x1.toNatClampNeg (d.1 c0 7))).bind fun q => zx nl 48 19 [z_r c0, z_i x1] (q.1.toList ++ []) q.2) none
  else
    cond (mx_in (d.1 c0 0) 29) (
      some (none, (zd_u d (c0 + 7) (d.1 c0 0).toNatClampNeg (d.1 c0 7)))) none := by rcases h with rfl | rfl <;> exact zx_di 600 rfl
/- TickBound$Program.findEdges -/
set_option maxRecDepth 100000 in
theorem ex_48_19 {nl : Int32} (c0 : Nat) (x1 : Int32) (h : c0 = 3 ∨ c0 = 20) (d : zd_D) : zx nl 48 19 [z_r c0, z_i x1] [] d =
  zx nl 48 6 [z_r c0, z_i (x1 + 1)] [] d := by rcases h with rfl | rfl <;> exact zx_di 600 rfl
/- TickBound$Program.addEdgesOf -/
set_option maxRecDepth 100000 in
theorem ex_49_0 {nl : Int32} (c0 : Nat) (x1 : Int32) (h : c0 = 3 ∨ c0 = 20) (d : zd_D) : zx nl 49 0 [z_r c0, z_i x1, none, none] [] d =
  cond (mx_in x1 28) (
    cond (mx_in x1 28) (
      if d.1 (c0 + 1) x1.toNatClampNeg = 3 then
        (zx nl 50 0 [z_r c0, z_i x1, z_i (if (if d.1 c0 0 < d.1 (c0 + 3) x1.toNatClampNeg then d.1 c0 0 else d.1 (c0 + 3) x1.toNatClampNeg) < x1 + 1 then (if d.1 c0 0 < d.1 (c0 + 3) x1.toNatClampNeg then d.1 c0 0 else d.1 (c0 + 3) x1.toNatClampNeg) else x1 + 1)] [] d).bind fun q => zx nl 49 23 [z_r c0, z_i x1, z_i (x1 + 1), z_i (if d.1 c0 0 < d.1 (c0 + 3) x1.toNatClampNeg then d.1 c0 0 else d.1 (c0 + 3) x1.toNatClampNeg)] (q.1.toList ++ []) q.2
      else
        if d.1 (c0 + 1) x1.toNatClampNeg = 4 then
          (zx nl 50 0 [z_r c0, z_i x1, z_i (if d.1 c0 0 < d.1 (c0 + 3) x1.toNatClampNeg then d.1 c0 0 else d.1 (c0 + 3) x1.toNatClampNeg)] [] d).bind fun q => zx nl 49 37 [z_r c0, z_i x1, z_i (x1 + 1), z_i (if d.1 c0 0 < d.1 (c0 + 3) x1.toNatClampNeg then d.1 c0 0 else d.1 (c0 + 3) x1.toNatClampNeg)] (q.1.toList ++ []) q.2
        else
          if d.1 (c0 + 1) x1.toNatClampNeg = 5 then
            (zx nl 50 0 [z_r c0, z_i x1, z_i (x1 + 1)] [] d).bind fun q => zx nl 49 46 [z_r c0, z_i x1, z_i (x1 + 1), z_i (if d.1 c0 0 < d.1 (c0 + 3) x1.toNatClampNeg then d.1 c0 0 else d.1 (c0 + 3) x1.toNatClampNeg)] (q.1.toList ++ []) q.2
          else
            if d.1 (c0 + 1) x1.toNatClampNeg = 6 then
              (zx nl 50 0 [z_r c0, z_i x1, z_i (x1 + 1)] [] d).bind fun q => zx nl 49 46 [z_r c0, z_i x1, z_i (x1 + 1), z_i (if d.1 c0 0 < d.1 (c0 + 3) x1.toNatClampNeg then d.1 c0 0 else d.1 (c0 + 3) x1.toNatClampNeg)] (q.1.toList ++ []) q.2
            else
              if d.1 (c0 + 1) x1.toNatClampNeg = 7 then
                (zx nl 51 0 [z_r c0, z_i x1, none] [] d).bind fun q => zx nl 49 41 [z_r c0, z_i x1, z_i (x1 + 1), z_i (if d.1 c0 0 < d.1 (c0 + 3) x1.toNatClampNeg then d.1 c0 0 else d.1 (c0 + 3) x1.toNatClampNeg)] (q.1.toList ++ []) q.2
              else
                (zx nl 50 0 [z_r c0, z_i x1, z_i (x1 + 1)] [] d).bind fun q => zx nl 49 46 [z_r c0, z_i x1, z_i (x1 + 1), z_i (if d.1 c0 0 < d.1 (c0 + 3) x1.toNatClampNeg then d.1 c0 0 else d.1 (c0 + 3) x1.toNatClampNeg)] (q.1.toList ++ []) q.2) none) none := by rcases h with rfl | rfl <;> exact zx_di 600 rfl
/- TickBound$Program.addEdgesOf -/
set_option maxRecDepth 100000 in
theorem ex_49_23 {nl : Int32} (c0 : Nat) (x1 x2 x3 : Int32) (h : c0 = 3 ∨ c0 = 20) (d : zd_D) : zx nl 49 23 [z_r c0, z_i x1, z_i x2, z_i x3] [] d =
  if x2 = x3 then
    some (none, d)
  else
    (zx nl 50 0 [z_r c0, z_i x1, z_i (if x2 < x3 then x3 else x2)] [] d).bind fun q => zx nl 49 32 [z_r c0, z_i x1, z_i x2, z_i x3] (q.1.toList ++ []) q.2 := by rcases h with rfl | rfl <;> exact zx_di 600 rfl
/- TickBound$Program.addEdgesOf -/
set_option maxRecDepth 100000 in
theorem ex_49_32 {nl : Int32} (c0 : Nat) (x1 x2 x3 : Int32) (h : c0 = 3 ∨ c0 = 20) (d : zd_D) : zx nl 49 32 [z_r c0, z_i x1, z_i x2, z_i x3] [] d =
  some (none, d) := by rcases h with rfl | rfl <;> exact zx_di 600 rfl
/- TickBound$Program.addEdgesOf -/
set_option maxRecDepth 100000 in
theorem ex_49_37 {nl : Int32} (c0 : Nat) (x1 x2 x3 : Int32) (h : c0 = 3 ∨ c0 = 20) (d : zd_D) : zx nl 49 37 [z_r c0, z_i x1, z_i x2, z_i x3] [] d =
  some (none, d) := by rcases h with rfl | rfl <;> exact zx_di 600 rfl
/- TickBound$Program.addEdgesOf -/
set_option maxRecDepth 100000 in
theorem ex_49_41 {nl : Int32} (c0 : Nat) (x1 x2 x3 : Int32) (h : c0 = 3 ∨ c0 = 20) (d : zd_D) : zx nl 49 41 [z_r c0, z_i x1, z_i x2, z_i x3] [] d =
  some (none, d) := by rcases h with rfl | rfl <;> exact zx_di 600 rfl
/- TickBound$Program.addEdgesOf -/
set_option maxRecDepth 100000 in
theorem ex_49_46 {nl : Int32} (c0 : Nat) (x1 x2 x3 : Int32) (h : c0 = 3 ∨ c0 = 20) (d : zd_D) : zx nl 49 46 [z_r c0, z_i x1, z_i x2, z_i x3] [] d =
  some (none, d) := by rcases h with rfl | rfl <;> exact zx_di 600 rfl
/- TickBound$Program.addEdge -/
set_option maxRecDepth 100000 in
theorem ex_50_0 {nl : Int32} (c0 : Nat) (x1 x2 : Int32) (h : c0 = 3 ∨ c0 = 20) (d : zd_D) : zx nl 50 0 [z_r c0, z_i x1, z_i x2] [] d =
  cond (mx_in (d.1 c0 7) 812) (
    cond (mx_in (d.1 c0 7) 812) (
      cond (mx_in (d.1 c0 7) 812) (
        some (none, (zd_u (zd_u (zd_u (zd_u d (c0 + 8) (d.1 c0 7).toNatClampNeg x1) (c0 + 9) (d.1 c0 7).toNatClampNeg x2) (c0 + 10) (d.1 c0 7).toNatClampNeg (-1000000005)) c0 7 ((d.1 c0 7) + 1)))) none) none) none := by rcases h with rfl | rfl <;> exact zx_di 600 rfl
/- TickBound$Program.addPlaceEdges -/
set_option maxRecDepth 100000 in
theorem ex_51_0 {nl : Int32} (c0 : Nat) (x1 : Int32) (h : c0 = 3 ∨ c0 = 20) (d : zd_D) : zx nl 51 0 [z_r c0, z_i x1, none] [] d =
  zx nl 51 3 [z_r c0, z_i x1, z_i 0] [] d := by rcases h with rfl | rfl <;> exact zx_di 600 rfl
/- TickBound$Program.addPlaceEdges -/
set_option maxRecDepth 100000 in
theorem ex_51_3 {nl : Int32} (c0 : Nat) (x1 x2 : Int32) (h : c0 = 3 ∨ c0 = 20) (d : zd_D) : zx nl 51 3 [z_r c0, z_i x1, z_i x2] [] d =
  if x2 < d.1 c0 0 then
    cond (mx_in x1 28) (
      if ((d.1 (c0 + 5) x1.toNatClampNeg) >>> (x2 &&& 31)) &&& 1 = 1 then
        (zx nl 50 0 [z_r c0, z_i x1, z_i x2] [] d).bind fun q => zx nl 51 21 [z_r c0, z_i x1, z_i x2] (q.1.toList ++ []) q.2
      else
        zx nl 51 3 [z_r c0, z_i x1, z_i (x2 + 1)] [] d) none
  else
    cond (mx_in x1 28) (
      if (d.1 (c0 + 5) x1.toNatClampNeg) >>> ((d.1 c0 0) &&& 31) = 0 then
        some (none, d)
      else
        (zx nl 50 0 [z_r c0, z_i x1, z_i (d.1 c0 0)] [] d).bind fun q => zx nl 51 36 [z_r c0, z_i x1, z_i x2] (q.1.toList ++ []) q.2) none := by rcases h with rfl | rfl <;> exact zx_di 600 rfl
/- TickBound$Program.addPlaceEdges -/
set_option maxRecDepth 100000 in
theorem ex_51_21 {nl : Int32} (c0 : Nat) (x1 x2 : Int32) (h : c0 = 3 ∨ c0 = 20) (d : zd_D) : zx nl 51 21 [z_r c0, z_i x1, z_i x2] [] d =
  zx nl 51 3 [z_r c0, z_i x1, z_i (x2 + 1)] [] d := by rcases h with rfl | rfl <;> exact zx_di 600 rfl
/- TickBound$Program.addPlaceEdges -/
set_option maxRecDepth 100000 in
theorem ex_51_36 {nl : Int32} (c0 : Nat) (x1 x2 : Int32) (h : c0 = 3 ∨ c0 = 20) (d : zd_D) : zx nl 51 36 [z_r c0, z_i x1, z_i x2] [] d =
  some (none, d) := by rcases h with rfl | rfl <;> exact zx_di 600 rfl
/- TickBound.clear -/
set_option maxRecDepth 100000 in
theorem ex_52_0 {nl : Int32} (d : zd_D) : zx nl 52 0 [z_r 0, none] [] d =
  (zx nl 53 0 [z_r 3] [] d).bind fun q => zx nl 52 9 [z_r 0, z_i (d.1 3 0)] (q.1.toList ++ []) q.2 := zx_di 600 rfl
/- TickBound.clear -/
set_option maxRecDepth 100000 in
theorem ex_52_9 {nl : Int32} (x1 : Int32) (d : zd_D) : zx nl 52 9 [z_r 0, z_i x1] [] d =
  some (some (.inl x1), (zd_u (zd_u (zd_u d 0 9 0) 0 10 0) 45 0 0)) := zx_di 600 rfl
/- TickBound$Program.removeAll -/
set_option maxRecDepth 100000 in
theorem ex_53_0 {nl : Int32} (d : zd_D) : zx nl 53 0 [z_r 3] [] d =
  (zx nl 48 0 [z_r 3, none] [] (zd_u d 3 0 0)).bind fun q => zx nl 53 5 [z_r 3] (q.1.toList ++ []) q.2 := zx_di 600 rfl
/- TickBound$Program.removeAll -/
set_option maxRecDepth 100000 in
theorem ex_53_5 {nl : Int32} (d : zd_D) : zx nl 53 5 [z_r 3] [] d =
  some (none, d) := zx_di 600 rfl
/- TickBound.told -/
set_option maxRecDepth 100000 in
theorem ex_54_0 {nl : Int32} (x1 x2 : Int32) (d : zd_D) : zx nl 54 0 [z_r 0, z_i x1, z_i x2, none] [] d =
  if x1 < 0 then
    some (some (.inl (-1000000001)), d)
  else
    if x1 < d.1 3 0 then
      if x2 = 0 then
        cond (mx_in x1 28) (
          some (some (.inl (d.1 4 x1.toNatClampNeg)), d)) none
      else
        if x2 = 1 then
          cond (mx_in x1 28) (
            some (some (.inl (d.1 5 x1.toNatClampNeg)), d)) none
        else
          if x2 = 2 then
            cond (mx_in x1 28) (
              some (some (.inl (d.1 6 x1.toNatClampNeg)), d)) none
          else
            if x2 = 3 then
              cond (mx_in x1 28) (
                some (some (.inl (d.1 7 x1.toNatClampNeg)), d)) none
            else
              if x2 = 4 then
                cond (mx_in x1 28) (
                  some (some (.inl (d.1 8 x1.toNatClampNeg)), d)) none
              else
                if x2 = 5 then
                  cond (mx_in (x1 + 1) 29) (
                    cond (mx_in x1 29) (
                      some (some (.inl ((d.1 10 (x1 + 1).toNatClampNeg) - (d.1 10 x1.toNatClampNeg))), d)) none) none
                else
                  if x2 = 6 then
                    (zx nl 56 0 [z_r 0] [] d).bind fun q => zx nl 54 51 [z_r 0, z_i x1, z_i x2, z_r 3] (q.1.toList ++ []) q.2
                  else
                    if x2 = 7 then
                      (zx nl 56 0 [z_r 0] [] d).bind fun q => zx nl 54 59 [z_r 0, z_i x1, z_i x2, z_r 3] (q.1.toList ++ []) q.2
                    else
                      some (some (.inl (-1000000001)), d)
    else
      some (some (.inl (-1000000001)), d) := zx_di 600 rfl
/- TickBound.told -/
set_option maxRecDepth 100000 in
theorem ex_54_51 {nl : Int32} (x1 x2 : Int32) (d : zd_D) : zx nl 54 51 [z_r 0, z_i x1, z_i x2, z_r 3] [] d =
  cond (mx_in x1 28) (
    some (some (.inl (d.1 57 x1.toNatClampNeg)), d)) none := zx_di 600 rfl
/- TickBound.told -/
set_option maxRecDepth 100000 in
theorem ex_54_59 {nl : Int32} (x1 x2 : Int32) (d : zd_D) : zx nl 54 59 [z_r 0, z_i x1, z_i x2, z_r 3] [] d =
  (zx nl 68 0 [z_r 53, z_i x1, none] [] d).bind fun q => zx nl 54 63 [z_r 0, z_i x1, z_i x2, z_r 3] (q.1.toList ++ []) q.2 := zx_di 600 rfl
/- TickBound.told -/
set_option maxRecDepth 100000 in
theorem ex_54_63 {nl : Int32} (x1 x2 y0 : Int32) (d : zd_D) : zx nl 54 63 [z_r 0, z_i x1, z_i x2, z_r 3] [(.inl y0)] d =
  some (some (.inl y0), d) := zx_di 600 rfl
/- TickBound.freshenFlow -/
set_option maxRecDepth 100000 in
theorem ex_56_0 {nl : Int32} (d : zd_D) : zx nl 56 0 [z_r 0] [] d =
  if d.1 0 9 = 0 then
    (zx nl 57 0 [z_r 53, z_i (d.1 1 4), z_i (d.1 2 3), none, none, none] [] d).bind fun q => zx nl 56 14 [z_r 0] (q.1.toList ++ []) q.2
  else
    some (none, d) := zx_di 600 rfl
/- TickBound.freshenFlow -/
set_option maxRecDepth 100000 in
theorem ex_56_14 {nl : Int32} (d : zd_D) : zx nl 56 14 [z_r 0] [] d =
  some (none, (zd_u d 0 9 1)) := zx_di 600 rfl
/- TickBound$Flow.settle -/
set_option maxRecDepth 100000 in
theorem ex_57_0 {nl : Int32} (x1 x2 : Int32) (d : zd_D) : zx nl 57 0 [z_r 53, z_i x1, z_i x2, none, none, none] [] d =
  (zx nl 36 0 [z_r 1] [] (zd_u d 53 2 (d.1 2 0))).bind fun q => zx nl 57 11 [z_r 53, z_i x1, z_i x2, none, none, none] (q.1.toList ++ [(.inr (.inr (some 53)))]) q.2 := zx_di 600 rfl
/- TickBound$Flow.settle -/
set_option maxRecDepth 100000 in
theorem ex_57_11 {nl : Int32} (x1 x2 y1 : Int32) (d : zd_D) : zx nl 57 11 [z_r 53, z_i x1, z_i x2, none, none, none] [(.inl y1), (.inr (.inr (some 53)))] d =
  (zx nl 58 0 [z_r 54, z_i 0, none, none] [] (zd_u (zd_u d 53 3 y1) 53 4 x1)).bind fun q => zx nl 57 19 [z_r 53, z_i x1, z_i x2, none, none, none] (q.1.toList ++ []) q.2 := zx_di 600 rfl
/- TickBound$Flow.settle -/
set_option maxRecDepth 100000 in
theorem ex_57_19 {nl : Int32} (x1 x2 : Int32) (d : zd_D) : zx nl 57 19 [z_r 53, z_i x1, z_i x2, none, none, none] [] d =
  (zx nl 59 0 [z_r 54, z_i 0, z_i 16, z_i (d.1 53 3), none] [] d).bind fun q => zx nl 57 26 [z_r 53, z_i x1, z_i x2, none, none, none] (q.1.toList ++ []) q.2 := zx_di 600 rfl
/- TickBound$Flow.settle -/
set_option maxRecDepth 100000 in
theorem ex_57_26 {nl : Int32} (x1 x2 : Int32) (d : zd_D) : zx nl 57 26 [z_r 53, z_i x1, z_i x2, none, none, none] [] d =
  (zx nl 58 0 [z_r 55, z_i 0, none, none] [] d).bind fun q => zx nl 57 30 [z_r 53, z_i x1, z_i x2, none, none, none] (q.1.toList ++ []) q.2 := zx_di 600 rfl
/- TickBound$Flow.settle -/
set_option maxRecDepth 100000 in
theorem ex_57_30 {nl : Int32} (x1 x2 : Int32) (d : zd_D) : zx nl 57 30 [z_r 53, z_i x1, z_i x2, none, none, none] [] d =
  zx nl 57 35 [z_r 53, none, z_i x2, z_i 1, z_i 0, none] [] d := zx_di 600 rfl
/- TickBound$Flow.settle -/
set_option maxRecDepth 100000 in
theorem ex_57_35 {nl : Int32} (x2 x3 x4 : Int32) (d : zd_D) : zx nl 57 35 [z_r 53, none, z_i x2, z_i x3, z_i x4, none] [] d =
  if x4 < 2241 then
    if x3 = 0 then
      (zx nl 67 0 [z_r 53, z_i x2, none, none, none, none] [] d).bind fun q => zx nl 57 63 [z_r 53, none, z_i x2, z_i x3, z_i x4, none] (q.1.toList ++ []) q.2
    else
      zx nl 57 45 [z_r 53, none, z_i x2, z_i 0, z_i x4, z_i 0] [] d
  else
    (zx nl 67 0 [z_r 53, z_i x2, none, none, none, none] [] d).bind fun q => zx nl 57 63 [z_r 53, none, z_i x2, z_i x3, z_i x4, none] (q.1.toList ++ []) q.2 := zx_di 600 rfl
/- TickBound$Flow.settle -/
set_option maxRecDepth 100000 in
theorem ex_57_45 {nl : Int32} (x2 x3 x4 x5 : Int32) (d : zd_D) : zx nl 57 45 [z_r 53, none, z_i x2, z_i x3, z_i x4, z_i x5] [] d =
  if x5 < d.1 3 0 then
    (zx nl 61 0 [z_r 53, z_i x5, none, none, none, none] [] d).bind fun q => zx nl 57 54 [z_r 53, none, z_i x2, z_i x3, z_i x4, z_i x5] (q.1.toList ++ [(.inl x3)]) q.2
  else
    zx nl 57 35 [z_r 53, none, z_i x2, z_i x3, z_i (x4 + 1), none] [] d := zx_di 600 rfl
/- TickBound$Flow.settle -/
set_option maxRecDepth 100000 in
theorem ex_57_54 {nl : Int32} (x2 x3 x4 x5 y0 y1 : Int32) (d : zd_D) : zx nl 57 54 [z_r 53, none, z_i x2, z_i x3, z_i x4, z_i x5] [(.inl y1), (.inl y0)] d =
  zx nl 57 45 [z_r 53, none, z_i x2, z_i (y0 ||| y1), z_i x4, z_i (x5 + 1)] [] d := zx_di 600 rfl
/- TickBound$Flow.settle -/
set_option maxRecDepth 100000 in
theorem ex_57_63 {nl : Int32} (x2 x3 x4 : Int32) (d : zd_D) : zx nl 57 63 [z_r 53, none, z_i x2, z_i x3, z_i x4, none] [] d =
  (zx nl 72 0 [z_r 53, none, none, none] [] d).bind fun q => zx nl 57 65 [z_r 53, none, z_i x2, z_i x3, z_i x4, none] (q.1.toList ++ []) q.2 := zx_di 600 rfl
/- TickBound$Flow.settle -/
set_option maxRecDepth 100000 in
theorem ex_57_65 {nl : Int32} (x2 x3 x4 : Int32) (d : zd_D) : zx nl 57 65 [z_r 53, none, z_i x2, z_i x3, z_i x4, none] [] d =
  some (none, d) := zx_di 600 rfl
/- java/util/Arrays.fill -/
set_option maxRecDepth 100000 in
theorem ex_58_0 {nl : Int32} (c0 : Nat) (x1 : Int32) (h : c0 = 40 ∨ c0 = 42 ∨ c0 = 46 ∨ c0 = 50 ∨ c0 = 54 ∨ c0 = 55) (d : zd_D) : zx nl 58 0 [z_r c0, z_i x1, none, none] [] d =
  zx nl 58 6 [z_r c0, z_i x1, z_i 0, z_i (Int32.ofNat (zd_l c0))] [] d := by rcases h with rfl | rfl | rfl | rfl | rfl | rfl <;> exact zx_di 600 rfl
/- java/util/Arrays.fill -/
set_option maxRecDepth 100000 in
theorem ex_58_6 {nl : Int32} (c0 : Nat) (x1 x2 x3 : Int32) (h : c0 = 40 ∨ c0 = 42 ∨ c0 = 46 ∨ c0 = 50 ∨ c0 = 54 ∨ c0 = 55) (d : zd_D) : zx nl 58 6 [z_r c0, z_i x1, z_i x2, z_i x3] [] d =
  if x2 < x3 then
    cond (mx_in x2 (zd_l c0)) (
      zx nl 58 6 [z_r c0, z_i x1, z_i (x2 + 1), z_i x3] [] (zd_u d c0 x2.toNatClampNeg x1)) none
  else
    some (none, d) := by rcases h with rfl | rfl | rfl | rfl | rfl | rfl <;> exact zx_di 600 rfl
/- java/util/Arrays.fill -/
set_option maxRecDepth 100000 in
theorem ex_59_0 {nl : Int32} (c0 : Nat) (x1 x2 x3 : Int32) (h : c0 = 44 ∨ c0 = 54) (d : zd_D) : zx nl 59 0 [z_r c0, z_i x1, z_i x2, z_i x3, none] [] d =
  if x2 < x1 then
    none
  else
    if x1 < 0 then
      none
    else
      if Int32.ofNat (zd_l c0) < x2 then
        none
      else
        zx nl 59 8 [z_r c0, none, z_i x2, z_i x3, z_i x1] [] d := by rcases h with rfl | rfl <;> exact zx_di 600 rfl
/- java/util/Arrays.fill -/
set_option maxRecDepth 100000 in
theorem ex_59_8 {nl : Int32} (c0 : Nat) (x2 x3 x4 : Int32) (h : c0 = 44 ∨ c0 = 54) (d : zd_D) : zx nl 59 8 [z_r c0, none, z_i x2, z_i x3, z_i x4] [] d =
  if x4 < x2 then
    cond (mx_in x4 (zd_l c0)) (
      zx nl 59 8 [z_r c0, none, z_i x2, z_i x3, z_i (x4 + 1)] [] (zd_u d c0 x4.toNatClampNeg x3)) none
  else
    some (none, d) := by rcases h with rfl | rfl <;> exact zx_di 600 rfl
/- TickBound$Flow.passOn -/
set_option maxRecDepth 100000 in
theorem ex_61_0 {nl : Int32} (x1 : Int32) (d : zd_D) : zx nl 61 0 [z_r 53, z_i x1, none, none, none, none] [] d =
  (zx nl 62 0 [z_r 53, z_i x1, none] [] d).bind fun q => zx nl 61 3 [z_r 53, z_i x1, none, none, none, none] (q.1.toList ++ []) q.2 := zx_di 600 rfl
/- TickBound$Flow.passOn -/
set_option maxRecDepth 100000 in
theorem ex_61_3 {nl : Int32} (x1 : Int32) (d : zd_D) : zx nl 61 3 [z_r 53, z_i x1, none, none, none, none] [] d =
  cond (mx_in x1 28) (
    (zx nl 65 0 [z_r 53, z_i x1, none] [] d).bind fun q => zx nl 61 10 [z_r 53, z_i x1, none, none, none, none] (q.1.toList ++ [(.inl (d.1 55 x1.toNatClampNeg))]) q.2) none := zx_di 600 rfl
/- TickBound$Flow.passOn -/
set_option maxRecDepth 100000 in
theorem ex_61_10 {nl : Int32} (x1 y0 y1 : Int32) (d : zd_D) : zx nl 61 10 [z_r 53, z_i x1, none, none, none, none] [(.inl y1), (.inl y0)] d =
  cond (mx_in x1 29) (
    zx nl 61 21 [z_r 53, z_i x1, z_i (y0 ||| y1), z_i 0, z_i (d.1 10 x1.toNatClampNeg), none] [] d) none := zx_di 600 rfl
/- TickBound$Flow.passOn -/
set_option maxRecDepth 100000 in
theorem ex_61_21 {nl : Int32} (x1 x2 x3 x4 : Int32) (d : zd_D) : zx nl 61 21 [z_r 53, z_i x1, z_i x2, z_i x3, z_i x4, none] [] d =
  cond (mx_in (x1 + 1) 29) (
    if x4 < d.1 10 (x1 + 1).toNatClampNeg then
      cond (mx_in x4 812) (
        if d.1 12 x4.toNatClampNeg < d.1 3 0 then
          (zx nl 66 0 [z_r 53, z_i (d.1 12 x4.toNatClampNeg), z_i x2, none, none, none] [] d).bind fun q => zx nl 61 46 [z_r 53, z_i x1, z_i x2, z_i x3, z_i x4, z_i (d.1 12 x4.toNatClampNeg)] (q.1.toList ++ [(.inl x3)]) q.2
        else
          zx nl 61 21 [z_r 53, z_i x1, z_i x2, z_i x3, z_i (x4 + 1), none] [] d) none
    else
      mx_rt 1 x3 (
        some (some (.inl x3), d))) none := zx_di 600 rfl
/- TickBound$Flow.passOn -/
set_option maxRecDepth 100000 in
theorem ex_61_46 {nl : Int32} (x1 x2 x3 x4 x5 y0 y1 : Int32) (d : zd_D) : zx nl 61 46 [z_r 53, z_i x1, z_i x2, z_i x3, z_i x4, z_i x5] [(.inl y1), (.inl y0)] d =
  zx nl 61 21 [z_r 53, z_i x1, z_i x2, z_i (y0 ||| y1), z_i (x4 + 1), none] [] d := zx_di 600 rfl
/- TickBound$Flow.ageLines -/
set_option maxRecDepth 100000 in
theorem ex_62_0 {nl : Int32} (x1 : Int32) (d : zd_D) : zx nl 62 0 [z_r 53, z_i x1, none] [] d =
  if ¬ (x1 * 16) < 0 ∧ ¬ (0 : Int32) < 0 ∧ ¬ (16 : Int32) < 0 ∧ (x1 * 16).toNatClampNeg + 16 ≤ 448 ∧ 0 + 16 ≤ 16 then
    cond (mx_in x1 28) (
      if d.1 9 x1.toNatClampNeg = (-1) then
        (zx nl 63 0 [z_r 53, z_i (d.1 53 3), z_i 0, z_i 0, none] [] (zd_s d 56 (va_cpy (d.1 54) (d.1 56) (x1 * 16).toNatClampNeg 0 16))).bind fun q => zx nl 62 25 [z_r 53, z_i x1, z_i (d.1 9 x1.toNatClampNeg)] (q.1.toList ++ []) q.2
      else
        if d.1 9 x1.toNatClampNeg < 0 then
          some (none, (zd_s d 56 (va_cpy (d.1 54) (d.1 56) (x1 * 16).toNatClampNeg 0 16)))
        else
          if ((d.1 53 4) >>> ((d.1 9 x1.toNatClampNeg) &&& 31)) &&& 1 = 1 then
            some (none, (zd_s d 56 (va_cpy (d.1 54) (d.1 56) (x1 * 16).toNatClampNeg 0 16)))
          else
            cond (mx_in (d.1 9 x1.toNatClampNeg) 16) (
              (zx nl 63 0 [z_r 53, z_i ((zd_s d 56 (va_cpy (d.1 54) (d.1 56) (x1 * 16).toNatClampNeg 0 16)).1 56 (d.1 9 x1.toNatClampNeg).toNatClampNeg), z_i ((d.1 53 2) - 1), z_i (d.1 9 x1.toNatClampNeg), none] [] (zd_s d 56 (va_cpy (d.1 54) (d.1 56) (x1 * 16).toNatClampNeg 0 16))).bind fun q => zx nl 62 43 [z_r 53, z_i x1, z_i (d.1 9 x1.toNatClampNeg)] (q.1.toList ++ []) q.2) none) none
  else
    none := zx_di 600 rfl
/- TickBound$Flow.ageLines -/
set_option maxRecDepth 100000 in
theorem ex_62_25 {nl : Int32} (x1 x2 : Int32) (d : zd_D) : zx nl 62 25 [z_r 53, z_i x1, z_i x2] [] d =
  some (none, d) := zx_di 600 rfl
/- TickBound$Flow.ageLines -/
set_option maxRecDepth 100000 in
theorem ex_62_43 {nl : Int32} (x1 x2 : Int32) (d : zd_D) : zx nl 62 43 [z_r 53, z_i x1, z_i x2] [] d =
  cond (mx_in x2 16) (
    some (none, (zd_u d 56 x2.toNatClampNeg 0))) none := zx_di 600 rfl
/- TickBound$Flow.ageBelow -/
set_option maxRecDepth 100000 in
theorem ex_63_0 {nl : Int32} (x1 x2 x3 : Int32) (d : zd_D) : zx nl 63 0 [z_r 53, z_i x1, z_i x2, z_i x3, none] [] d =
  zx nl 63 3 [z_r 53, z_i x1, z_i x2, z_i x3, z_i 0] [] d := zx_di 600 rfl
/- TickBound$Flow.ageBelow -/
set_option maxRecDepth 100000 in
theorem ex_63_3 {nl : Int32} (x1 x2 x3 x4 : Int32) (d : zd_D) : zx nl 63 3 [z_r 53, z_i x1, z_i x2, z_i x3, z_i x4] [] d =
  if x4 < 16 then
    if (x4 ^^^ x3) &&& x2 = 0 then
      cond (mx_in x4 16) (
        if d.1 56 x4.toNatClampNeg < x1 then
          cond (mx_in x4 16) (
            cond (mx_in x4 16) (
              zx nl 63 3 [z_r 53, z_i x1, z_i x2, z_i x3, z_i (x4 + 1)] [] (zd_u d 56 x4.toNatClampNeg ((d.1 56 x4.toNatClampNeg) + 1))) none) none
        else
          zx nl 63 3 [z_r 53, z_i x1, z_i x2, z_i x3, z_i (x4 + 1)] [] d) none
    else
      zx nl 63 3 [z_r 53, z_i x1, z_i x2, z_i x3, z_i (x4 + 1)] [] d
  else
    some (none, d) := zx_di 600 rfl
/- TickBound$Flow.mayCome -/
set_option maxRecDepth 100000 in
theorem ex_65_0 {nl : Int32} (x1 : Int32) (d : zd_D) : zx nl 65 0 [z_r 53, z_i x1, none] [] d =
  cond (mx_in x1 28) (
    if d.1 9 x1.toNatClampNeg < 0 then
      if d.1 9 x1.toNatClampNeg = (-2) then
        some (some (.inl 0), d)
      else
        some (some (.inl 65535), d)
    else
      if ((d.1 53 4) >>> ((d.1 9 x1.toNatClampNeg) &&& 31)) &&& 1 = 1 then
        some (some (.inl 0), d)
      else
        some (some (.inl ((1 : Int32) <<< ((d.1 9 x1.toNatClampNeg) &&& 31))), d)) none := zx_di 600 rfl
/- TickBound$Flow.meet -/
set_option maxRecDepth 100000 in
theorem ex_66_0 {nl : Int32} (x1 x2 : Int32) (d : zd_D) : zx nl 66 0 [z_r 53, z_i x1, z_i x2, none, none, none] [] d =
  cond (mx_in x1 28) (
    if x2 &&& ((d.1 55 x1.toNatClampNeg) ^^^ (-1)) = 0 then
      cond (mx_in x1 28) (
        cond (mx_in x1 28) (
          zx nl 66 28 [z_r 53, none, none, z_i 0, z_i (x1 * 16), z_i 0] [] (zd_u d 55 x1.toNatClampNeg ((d.1 55 x1.toNatClampNeg) ||| x2))) none) none
    else
      cond (mx_in x1 28) (
        cond (mx_in x1 28) (
          zx nl 66 28 [z_r 53, none, none, z_i 1, z_i (x1 * 16), z_i 0] [] (zd_u d 55 x1.toNatClampNeg ((d.1 55 x1.toNatClampNeg) ||| x2))) none) none) none := zx_di 600 rfl
/- TickBound$Flow.meet -/
set_option maxRecDepth 100000 in
theorem ex_66_28 {nl : Int32} (x3 x4 x5 : Int32) (d : zd_D) : zx nl 66 28 [z_r 53, none, none, z_i x3, z_i x4, z_i x5] [] d =
  if x5 < 16 then
    cond (mx_in (x4 + x5) 448) (
      cond (mx_in x5 16) (
        if d.1 54 (x4 + x5).toNatClampNeg < d.1 56 x5.toNatClampNeg then
          cond (mx_in x5 16) (
            cond (mx_in (x4 + x5) 448) (
              zx nl 66 28 [z_r 53, none, none, z_i 1, z_i x4, z_i (x5 + 1)] [] (zd_u d 54 (x4 + x5).toNatClampNeg (d.1 56 x5.toNatClampNeg))) none) none
        else
          zx nl 66 28 [z_r 53, none, none, z_i x3, z_i x4, z_i (x5 + 1)] [] d) none) none
  else
    mx_rt 1 x3 (
      some (some (.inl x3), d)) := zx_di 600 rfl
/- TickBound$Flow.settleCosts -/
set_option maxRecDepth 100000 in
theorem ex_67_0 {nl : Int32} (x1 : Int32) (d : zd_D) : zx nl 67 0 [z_r 53, z_i x1, none, none, none, none] [] d =
  zx nl 67 3 [z_r 53, z_i x1, z_i 0, none, none, none] [] d := zx_di 600 rfl
/- TickBound$Flow.settleCosts -/
set_option maxRecDepth 100000 in
theorem ex_67_3 {nl : Int32} (x1 x2 : Int32) (d : zd_D) : zx nl 67 3 [z_r 53, z_i x1, z_i x2, none, none, none] [] d =
  if x2 < d.1 3 0 then
    cond (mx_in x2 28) (
      (zx nl 68 0 [z_r 53, z_i x2, none] [] d).bind fun q => zx nl 67 22 [z_r 53, z_i x1, z_i x2, none, none, none] (q.1.toList ++ [(.inr (.inr (some 2))), (.inl (d.1 4 x2.toNatClampNeg)), (.inl x2), (.inr (.inr (some 57)))]) q.2) none
  else
    zx nl 67 33 [z_r 53, none, z_i 0, none, none, none] [] d := zx_di 600 rfl
/- TickBound$Flow.settleCosts -/
set_option maxRecDepth 100000 in
theorem ex_67_22 {nl : Int32} (x1 x2 y1 y2 y4 : Int32) (d : zd_D) : zx nl 67 22 [z_r 53, z_i x1, z_i x2, none, none, none] [(.inl y4), (.inr (.inr (some 2))), (.inl y2), (.inl y1), (.inr (.inr (some 57)))] d =
  if y4 = 0 then
    (zx nl 69 0 [z_i y2, z_r 2, z_i 0] [] d).bind fun q => zx nl 67 27 [z_r 53, z_i x1, z_i x2, none, none, none] (q.1.toList ++ [(.inl y1), (.inr (.inr (some 57)))]) q.2
  else
    (zx nl 69 0 [z_i y2, z_r 2, z_i x1] [] d).bind fun q => zx nl 67 27 [z_r 53, z_i x1, z_i x2, none, none, none] (q.1.toList ++ [(.inl y1), (.inr (.inr (some 57)))]) q.2 := zx_di 600 rfl
/- TickBound$Flow.settleCosts -/
set_option maxRecDepth 100000 in
theorem ex_67_27 {nl : Int32} (x1 x2 y1 y2 : Int32) (d : zd_D) : zx nl 67 27 [z_r 53, z_i x1, z_i x2, none, none, none] [(.inl y2), (.inl y1), (.inr (.inr (some 57)))] d =
  cond (mx_in y1 28) (
    zx nl 67 3 [z_r 53, z_i x1, z_i (x2 + 1), none, none, none] [] (zd_u d 57 y1.toNatClampNeg y2)) none := zx_di 600 rfl
/- TickBound$Flow.settleCosts -/
set_option maxRecDepth 100000 in
theorem ex_67_33 {nl : Int32} (x2 : Int32) (d : zd_D) : zx nl 67 33 [z_r 53, none, z_i x2, none, none, none] [] d =
  if x2 < d.1 3 7 then
    cond (mx_in x2 812) (
      cond (mx_in x2 812) (
        if d.1 12 x2.toNatClampNeg < d.1 3 0 then
          (zx nl 70 0 [z_r 3, z_i (d.1 11 x2.toNatClampNeg), z_i (d.1 12 x2.toNatClampNeg)] [] d).bind fun q => zx nl 67 60 [z_r 53, none, z_i x2, z_i (d.1 11 x2.toNatClampNeg), z_i (d.1 12 x2.toNatClampNeg), none] (q.1.toList ++ []) q.2
        else
          cond (mx_in (d.1 11 x2.toNatClampNeg) 28) (
            cond (mx_in x2 812) (
              zx nl 67 33 [z_r 53, none, z_i (x2 + 1), none, none, none] [] (zd_u d 58 x2.toNatClampNeg ((d.1 57 (d.1 11 x2.toNatClampNeg).toNatClampNeg) + 0))) none) none) none) none
  else
    some (none, d) := zx_di 600 rfl
/- TickBound$Flow.settleCosts -/
set_option maxRecDepth 100000 in
theorem ex_67_60 {nl : Int32} (x2 x3 x4 y0 : Int32) (d : zd_D) : zx nl 67 60 [z_r 53, none, z_i x2, z_i x3, z_i x4, none] [(.inl y0)] d =
  if y0 = 0 then
    cond (mx_in x3 28) (
      cond (mx_in x2 812) (
        zx nl 67 33 [z_r 53, none, z_i (x2 + 1), none, none, none] [] (zd_u d 58 x2.toNatClampNeg ((d.1 57 x3.toNatClampNeg) + 0))) none) none
  else
    cond (mx_in x3 28) (
      cond (mx_in x2 812) (
        zx nl 67 33 [z_r 53, none, z_i (x2 + 1), none, none, none] [] (zd_u d 58 x2.toNatClampNeg ((d.1 57 x3.toNatClampNeg) + (d.1 2 6)))) none) none := zx_di 600 rfl
/- TickBound$Flow.tells -/
set_option maxRecDepth 100000 in
theorem ex_68_0 {nl : Int32} (x1 : Int32) (d : zd_D) : zx nl 68 0 [z_r 53, z_i x1, none] [] d =
  cond (mx_in x1 28) (
    if d.1 9 x1.toNatClampNeg < 0 then
      if d.1 9 x1.toNatClampNeg = (-2) then
        some (some (.inl (-1000000005)), d)
      else
        some (some (.inl 2), d)
    else
      if ((d.1 53 4) >>> ((d.1 9 x1.toNatClampNeg) &&& 31)) &&& 1 = 1 then
        some (some (.inl 0), d)
      else
        cond (mx_in ((x1 * 16) + (d.1 9 x1.toNatClampNeg)) 448) (
          if d.1 54 ((x1 * 16) + (d.1 9 x1.toNatClampNeg)).toNatClampNeg < d.1 53 3 then
            some (some (.inl 0), d)
          else
            cond (mx_in x1 28) (
              if ((d.1 55 x1.toNatClampNeg) >>> ((d.1 9 x1.toNatClampNeg) &&& 31)) &&& 1 = 0 then
                some (some (.inl 1), d)
              else
                some (some (.inl 2), d)) none) none) none := zx_di 600 rfl
/- TickBound.costOf -/
set_option maxRecDepth 100000 in
theorem ex_69_0 {nl : Int32} (x0 x2 : Int32) (d : zd_D) : zx nl 69 0 [z_i x0, z_r 2, z_i x2] [] d =
  if x0 = 1 then
    some (some (.inl (1 + x2)), d)
  else
    if x0 = 2 then
      some (some (.inl (2 + x2)), d)
    else
      if x0 = 3 then
        some (some (.inl (1 + (d.1 2 4))), d)
      else
        if x0 = 4 then
          some (some (.inl 2), d)
        else
          if x0 = 5 then
            some (some (.inl (1 + (8 * (d.1 2 7)))), d)
          else
            if x0 = 6 then
              some (some (.inl (3 + (8 * (d.1 2 7)))), d)
            else
              if x0 = 7 then
                some (some (.inl 2), d)
              else
                some (some (.inl 1), d) := zx_di 600 rfl
/- TickBound$Program.stalls -/
set_option maxRecDepth 100000 in
theorem ex_70_0 {nl : Int32} (x1 x2 : Int32) (d : zd_D) : zx nl 70 0 [z_r 3, z_i x1, z_i x2] [] d =
  cond (mx_in x1 28) (
    if d.1 4 x1.toNatClampNeg = 1 then
      cond (mx_in x1 28) (
        (zx nl 71 0 [z_r 3, z_i x2, z_i (d.1 5 x1.toNatClampNeg)] [] d).bind fun q => zx nl 70 13 [z_r 3, z_i x1, z_i x2] (q.1.toList ++ []) q.2) none
    else
      some (some (.inl 0), d)) none := zx_di 600 rfl
/- TickBound$Program.stalls -/
set_option maxRecDepth 100000 in
theorem ex_70_13 {nl : Int32} (x1 x2 y0 : Int32) (d : zd_D) : zx nl 70 13 [z_r 3, z_i x1, z_i x2] [(.inl y0)] d =
  if y0 = 0 then
    some (some (.inl 0), d)
  else
    some (some (.inl 1), d) := zx_di 600 rfl
/- TickBound$Program.reads -/
set_option maxRecDepth 100000 in
theorem ex_71_0 {nl : Int32} (x1 x2 : Int32) (d : zd_D) : zx nl 71 0 [z_r 3, z_i x1, z_i x2] [] d =
  cond (mx_in x1 28) (
    if d.1 4 x1.toNatClampNeg = 0 then
      cond (mx_in x1 28) (
        if d.1 6 x1.toNatClampNeg = x2 then
          some (some (.inl 1), d)
        else
          some (some (.inl 0), d)) none
    else
      if d.1 4 x1.toNatClampNeg = 1 then
        cond (mx_in x1 28) (
          if d.1 6 x1.toNatClampNeg = x2 then
            some (some (.inl 1), d)
          else
            some (some (.inl 0), d)) none
      else
        if d.1 4 x1.toNatClampNeg = 2 then
          cond (mx_in x1 28) (
            if d.1 5 x1.toNatClampNeg = x2 then
              some (some (.inl 1), d)
            else
              cond (mx_in x1 28) (
                if d.1 6 x1.toNatClampNeg = x2 then
                  some (some (.inl 1), d)
                else
                  some (some (.inl 0), d)) none) none
        else
          if d.1 4 x1.toNatClampNeg = 3 then
            cond (mx_in x1 28) (
              if d.1 5 x1.toNatClampNeg = x2 then
                some (some (.inl 1), d)
              else
                some (some (.inl 0), d)) none
          else
            if d.1 4 x1.toNatClampNeg = 4 then
              some (some (.inl 0), d)
            else
              if d.1 4 x1.toNatClampNeg = 5 then
                cond (mx_in x1 28) (
                  if d.1 6 x1.toNatClampNeg = x2 then
                    some (some (.inl 1), d)
                  else
                    cond (mx_in x1 28) (
                      if d.1 7 x1.toNatClampNeg = x2 then
                        some (some (.inl 1), d)
                      else
                        some (some (.inl 0), d)) none) none
              else
                if d.1 4 x1.toNatClampNeg = 6 then
                  cond (mx_in x1 28) (
                    if d.1 6 x1.toNatClampNeg = x2 then
                      some (some (.inl 1), d)
                    else
                      cond (mx_in x1 28) (
                        if d.1 7 x1.toNatClampNeg = x2 then
                          some (some (.inl 1), d)
                        else
                          some (some (.inl 0), d)) none) none
                else
                  if d.1 4 x1.toNatClampNeg = 7 then
                    cond (mx_in x1 28) (
                      if d.1 5 x1.toNatClampNeg = x2 then
                        some (some (.inl 1), d)
                      else
                        some (some (.inl 0), d)) none
                  else
                    some (some (.inl 0), d)) none := zx_di 600 rfl
/- TickBound$Flow.settleFactors -/
set_option maxRecDepth 100000 in
theorem ex_72_0 {nl : Int32} (d : zd_D) : zx nl 72 0 [z_r 53, none, none, none] [] d =
  cond (mx_in (d.1 3 0) 29) (
    zx nl 72 14 [z_r 53, z_i ((d.1 3 0) - 1), none, none] [] (zd_u d 59 (d.1 3 0).toNatClampNeg 0)) none := zx_di 600 rfl
/- TickBound$Flow.settleFactors -/
set_option maxRecDepth 100000 in
theorem ex_72_14 {nl : Int32} (x1 : Int32) (d : zd_D) : zx nl 72 14 [z_r 53, z_i x1, none, none] [] d =
  if x1 < 0 then
    some (none, d)
  else
    cond (mx_in x1 29) (
      zx nl 72 25 [z_r 53, z_i x1, z_i 0, z_i (d.1 10 x1.toNatClampNeg)] [] d) none := zx_di 600 rfl
/- TickBound$Flow.settleFactors -/
set_option maxRecDepth 100000 in
theorem ex_72_25 {nl : Int32} (x1 x2 x3 : Int32) (d : zd_D) : zx nl 72 25 [z_r 53, z_i x1, z_i x2, z_i x3] [] d =
  cond (mx_in (x1 + 1) 29) (
    if x3 < d.1 10 (x1 + 1).toNatClampNeg then
      cond (mx_in x3 812) (
        cond (mx_in x3 812) (
          if d.1 11 x3.toNatClampNeg < d.1 12 x3.toNatClampNeg then
            cond (mx_in x3 812) (
              cond (mx_in x3 812) (
                cond (mx_in (d.1 12 x3.toNatClampNeg) 29) (
                  zx nl 72 25 [z_r 53, z_i x1, z_i (if x2 < (d.1 58 x3.toNatClampNeg) + (d.1 59 (d.1 12 x3.toNatClampNeg).toNatClampNeg) then (d.1 58 x3.toNatClampNeg) + (d.1 59 (d.1 12 x3.toNatClampNeg).toNatClampNeg) else x2), z_i (x3 + 1)] [] d) none) none) none
          else
            zx nl 72 25 [z_r 53, z_i x1, z_i x2, z_i (x3 + 1)] [] d) none) none
    else
      cond (mx_in x1 29) (
        zx nl 72 14 [z_r 53, z_i (x1 + (-1)), none, none] [] (zd_u d 59 x1.toNatClampNeg x2)) none) none := zx_di 600 rfl
/- TickBound.as -/
set_option maxRecDepth 100000 in
theorem ex_74_0 {nl : Int32} (x1 x2 : Int32) (d : zd_D) : zx nl 74 0 [z_r 0, z_i x1, z_i x2] [] d =
  if x1 < 0 then
    some (some (.inl (-1000000001)), d)
  else
    if x1 < d.1 3 0 then
      if x2 < 0 then
        some (some (.inl (-1000000001)), d)
      else
        if x2 < 8 then
          cond (mx_in x1 28) (
            (zx nl 46 0 [z_i (d.1 4 x1.toNatClampNeg), z_i x2, none, none] [] d).bind fun q => zx nl 74 17 [z_r 0, z_i x1, z_i x2] (q.1.toList ++ []) q.2) none
        else
          some (some (.inl (-1000000001)), d)
    else
      some (some (.inl (-1000000001)), d) := zx_di 600 rfl
/- TickBound.as -/
set_option maxRecDepth 100000 in
theorem ex_74_17 {nl : Int32} (x1 x2 y0 : Int32) (d : zd_D) : zx nl 74 17 [z_r 0, z_i x1, z_i x2] [(.inl y0)] d =
  if y0 = 0 then
    some (some (.inl (-1000000012)), d)
  else
    cond (mx_in x1 28) (
      some (some (.inl (d.1 7 x1.toNatClampNeg)), d)) none := zx_di 600 rfl
/- TickBound.places -/
set_option maxRecDepth 100000 in
theorem ex_75_0 {nl : Int32} (x1 x2 : Int32) (d : zd_D) : zx nl 75 0 [z_r 0, z_i x1, z_i x2, none] [] d =
  if x1 < 0 then
    some (some (.inl (-1000000001)), d)
  else
    if x1 < d.1 3 0 then
      if x2 < 0 then
        some (some (.inl (-1000000001)), d)
      else
        if x2 < 536870912 then
          cond (mx_in x1 28) (
            if d.1 4 x1.toNatClampNeg = 7 then
              cond (mx_in x1 28) (
                cond (mx_in x1 28) (
                  (zx nl 48 0 [z_r 3, none] [] (zd_u d 8 x1.toNatClampNeg x2)).bind fun q => zx nl 75 39 [z_r 0, z_i x1, z_i x2, z_i (d.1 8 x1.toNatClampNeg)] (q.1.toList ++ []) q.2) none) none
            else
              some (some (.inl (-1000000012)), d)) none
        else
          some (some (.inl (-1000000001)), d)
    else
      some (some (.inl (-1000000001)), d) := zx_di 600 rfl
/- TickBound.places -/
set_option maxRecDepth 100000 in
theorem ex_75_39 {nl : Int32} (x1 x2 x3 : Int32) (d : zd_D) : zx nl 75 39 [z_r 0, z_i x1, z_i x2, z_i x3] [] d =
  some (some (.inl x3), (zd_u (zd_u (zd_u d 0 9 0) 0 10 0) 45 0 0)) := zx_di 600 rfl
/- TickBound.run -/
set_option maxRecDepth 100000 in
theorem ex_76_0 {nl : Int32} (x1 : Int32) (d : zd_D) : zx nl 76 0 [z_r 0, z_i x1] [] d =
  (zx nl 77 0 [z_r 38, z_i x1, z_r 45, none, none, none, none] [] d).bind fun q => zx nl 76 6 [z_r 0, z_i x1] (q.1.toList ++ []) q.2 := zx_di 600 rfl
/- TickBound.run -/
set_option maxRecDepth 100000 in
theorem ex_76_6 {nl : Int32} (x1 : Int32) (d : zd_D) : zx nl 76 6 [z_r 0, z_i x1] [] d =
  some (some (.inl (d.1 45 9)), d) := zx_di 600 rfl
/- TickBound$Stepper.walk -/
set_option maxRecDepth 100000 in
theorem ex_77_0 {nl : Int32} (c0 : Nat) (x1 : Int32) (h : c0 = 45 ∨ c0 = 49) (d : zd_D) : zx nl 77 0 [z_r 38, z_i x1, z_r c0, none, none, none, none] [] d =
  (zx nl 78 0 [z_r 39, z_r 2] [] d).bind fun q => zx nl 77 6 [z_r 38, z_i x1, z_r c0, none, none, none, none] (q.1.toList ++ []) q.2 := by rcases h with rfl | rfl <;> exact zx_di 600 rfl
/- TickBound$Stepper.walk -/
set_option maxRecDepth 100000 in
theorem ex_77_6 {nl : Int32} (c0 : Nat) (x1 : Int32) (h : c0 = 45 ∨ c0 = 49) (d : zd_D) : zx nl 77 6 [z_r 38, z_i x1, z_r c0, none, none, none, none] [] d =
  (zx nl 59 0 [z_r 44, z_i 0, z_i (d.1 3 7), z_i 0, none] [] (zd_u (zd_s d 43 (va_cpy (d.1 14) (d.1 43) 0 0 32)) 38 4 0)).bind fun q => zx nl 77 26 [z_r 38, z_i x1, z_r c0, none, none, none, none] (q.1.toList ++ []) q.2 := by rcases h with rfl | rfl <;> exact zx_di 600 rfl
/- TickBound$Stepper.walk -/
set_option maxRecDepth 100000 in
theorem ex_77_26 {nl : Int32} (c0 : Nat) (x1 : Int32) (h : c0 = 45 ∨ c0 = 49) (d : zd_D) : zx nl 77 26 [z_r 38, z_i x1, z_r c0, none, none, none, none] [] d =
  (zx nl 79 0 [z_r c0, z_i x1] [] d).bind fun q => zx nl 77 29 [z_r 38, z_i x1, z_r c0, none, none, none, none] (q.1.toList ++ []) q.2 := by rcases h with rfl | rfl <;> exact zx_di 600 rfl
/- TickBound$Stepper.walk -/
set_option maxRecDepth 100000 in
theorem ex_77_29 {nl : Int32} (c0 : Nat) (x1 : Int32) (h : c0 = 45 ∨ c0 = 49) (d : zd_D) : zx nl 77 29 [z_r 38, z_i x1, z_r c0, none, none, none, none] [] d =
  zx nl 77 36 [z_r 38, none, z_r c0, z_i (-1), z_i 0, z_i 0, none] [] d := by rcases h with rfl | rfl <;> exact zx_di 600 rfl
/- TickBound$Stepper.walk -/
set_option maxRecDepth 100000 in
theorem ex_77_36 {nl : Int32} (c0 : Nat) (x3 x4 x5 : Int32) (h : c0 = 45 ∨ c0 = 49) (d : zd_D) : zx nl 77 36 [z_r 38, none, z_r c0, z_i x3, z_i x4, z_i x5, none] [] d =
  if x5 < 600 then
    if x4 < d.1 3 0 then
      (zx nl 80 0 [z_r 38, z_i x4, z_r c0, none, none, none] [] d).bind fun q => zx nl 77 48 [z_r 38, none, z_r c0, z_i x3, z_i x4, z_i x5, none] (q.1.toList ++ []) q.2
    else
      if x4 < d.1 3 0 then
        some (none, (zd_u (zd_u d c0 8 x4) c0 9 4))
      else
        some (none, (zd_u (zd_u d c0 8 x4) c0 9 0))
  else
    if x4 < d.1 3 0 then
      some (none, (zd_u (zd_u d c0 8 x4) c0 9 4))
    else
      some (none, (zd_u (zd_u d c0 8 x4) c0 9 0)) := by rcases h with rfl | rfl <;> exact zx_di 600 rfl
/- TickBound$Stepper.walk -/
set_option maxRecDepth 100000 in
theorem ex_77_48 {nl : Int32} (c0 : Nat) (x3 x4 x5 y0 : Int32) (h : c0 = 45 ∨ c0 = 49) (d : zd_D) : zx nl 77 48 [z_r 38, none, z_r c0, z_i x3, z_i x4, z_i x5, none] [(.inl y0)] d =
  if y0 < 0 then
    cond (mx_in (d.1 c0 2) 600) (
      cond (mx_in (d.1 c0 2) 600) (
        some (none, (zd_u (zd_u (zd_u (zd_u (zd_u (zd_u d c0 1 ((d.1 c0 1) + 1)) (c0 + 2) (d.1 c0 2).toNatClampNeg x4) (c0 + 3) (d.1 c0 2).toNatClampNeg ((d.1 c0 1) + 1)) c0 2 ((d.1 c0 2) + 1)) c0 8 x4) c0 9 (-y0)))) none) none
  else
    if x3 < 0 then
      cond (mx_in (d.1 c0 2) 600) (
        cond (mx_in (d.1 c0 2) 600) (
          (zx nl 94 0 [z_r 38, z_i x4, z_i (if d.1 3 0 < y0 then d.1 3 0 else y0), z_r c0, none] [] (zd_u (zd_u (zd_u (zd_u d c0 1 ((d.1 c0 1) + (d.1 38 6))) (c0 + 2) (d.1 c0 2).toNatClampNeg x4) (c0 + 3) (d.1 c0 2).toNatClampNeg ((d.1 c0 1) + (d.1 38 6))) c0 2 ((d.1 c0 2) + 1))).bind fun q => zx nl 77 101 [z_r 38, none, z_r c0, z_i x3, z_i x4, z_i x5, z_i (if d.1 3 0 < y0 then d.1 3 0 else y0)] (q.1.toList ++ []) q.2) none) none
    else
      (zx nl 70 0 [z_r 3, z_i x3, z_i x4] [] d).bind fun q => zx nl 77 68 [z_r 38, none, z_r c0, z_i x3, z_i x4, z_i x5, z_i y0] (q.1.toList ++ []) q.2 := by rcases h with rfl | rfl <;> exact zx_di 600 rfl
/- TickBound$Stepper.walk -/
set_option maxRecDepth 100000 in
theorem ex_77_68 {nl : Int32} (c0 : Nat) (x3 x4 x5 x6 y0 : Int32) (h : c0 = 45 ∨ c0 = 49) (d : zd_D) : zx nl 77 68 [z_r 38, none, z_r c0, z_i x3, z_i x4, z_i x5, z_i x6] [(.inl y0)] d =
  if y0 = 0 then
    cond (mx_in (d.1 c0 2) 600) (
      cond (mx_in (d.1 c0 2) 600) (
        (zx nl 94 0 [z_r 38, z_i x4, z_i (if d.1 3 0 < x6 then d.1 3 0 else x6), z_r c0, none] [] (zd_u (zd_u (zd_u (zd_u d c0 1 ((d.1 c0 1) + (d.1 38 6))) (c0 + 2) (d.1 c0 2).toNatClampNeg x4) (c0 + 3) (d.1 c0 2).toNatClampNeg ((d.1 c0 1) + (d.1 38 6))) c0 2 ((d.1 c0 2) + 1))).bind fun q => zx nl 77 101 [z_r 38, none, z_r c0, z_i x3, z_i x4, z_i x5, z_i (if d.1 3 0 < x6 then d.1 3 0 else x6)] (q.1.toList ++ []) q.2) none) none
  else
    cond (mx_in (d.1 c0 2) 600) (
      cond (mx_in (d.1 c0 2) 600) (
        (zx nl 94 0 [z_r 38, z_i x4, z_i (if d.1 3 0 < x6 then d.1 3 0 else x6), z_r c0, none] [] (zd_u (zd_u (zd_u (zd_u (zd_u (zd_u d c0 6 ((d.1 c0 6) + 1)) 38 6 ((d.1 38 6) + (d.1 2 6))) c0 1 ((d.1 c0 1) + ((d.1 38 6) + (d.1 2 6)))) (c0 + 2) (d.1 c0 2).toNatClampNeg x4) (c0 + 3) (d.1 c0 2).toNatClampNeg ((d.1 c0 1) + ((d.1 38 6) + (d.1 2 6)))) c0 2 ((d.1 c0 2) + 1))).bind fun q => zx nl 77 101 [z_r 38, none, z_r c0, z_i x3, z_i x4, z_i x5, z_i (if d.1 3 0 < x6 then d.1 3 0 else x6)] (q.1.toList ++ []) q.2) none) none := by rcases h with rfl | rfl <;> exact zx_di 600 rfl
/- TickBound$Stepper.walk -/
set_option maxRecDepth 100000 in
theorem ex_77_101 {nl : Int32} (c0 : Nat) (x3 x4 x5 x6 : Int32) (h : c0 = 45 ∨ c0 = 49) (d : zd_D) : zx nl 77 101 [z_r 38, none, z_r c0, z_i x3, z_i x4, z_i x5, z_i x6] [] d =
  zx nl 77 36 [z_r 38, none, z_r c0, z_i x4, z_i x6, z_i (x5 + 1), none] [] d := by rcases h with rfl | rfl <;> exact zx_di 600 rfl
/- TickBound$Cache.begin -/
set_option maxRecDepth 100000 in
theorem ex_78_0 {nl : Int32} (d : zd_D) : zx nl 78 0 [z_r 39, z_r 2] [] d =
  (zx nl 58 0 [z_r 40, z_i (-1), none, none] [] (zd_u (zd_u (zd_u (zd_u d 39 0 (d.1 2 0)) 39 1 (d.1 2 1)) 39 2 (d.1 2 2)) 39 3 0)).bind fun q => zx nl 78 22 [z_r 39, z_r 2] (q.1.toList ++ []) q.2 := zx_di 600 rfl
/- TickBound$Cache.begin -/
set_option maxRecDepth 100000 in
theorem ex_78_22 {nl : Int32} (d : zd_D) : zx nl 78 22 [z_r 39, z_r 2] [] d =
  (zx nl 58 0 [z_r 42, z_i 0, none, none] [] d).bind fun q => zx nl 78 26 [z_r 39, z_r 2] (q.1.toList ++ []) q.2 := zx_di 600 rfl
/- TickBound$Cache.begin -/
set_option maxRecDepth 100000 in
theorem ex_78_26 {nl : Int32} (d : zd_D) : zx nl 78 26 [z_r 39, z_r 2] [] d =
  some (none, d) := zx_di 600 rfl
/- TickBound$Run.begin -/
set_option maxRecDepth 100000 in
theorem ex_79_0 {nl : Int32} (c0 : Nat) (x1 : Int32) (h : c0 = 45 ∨ c0 = 49) (d : zd_D) : zx nl 79 0 [z_r c0, z_i x1] [] d =
  (zx nl 58 0 [z_r (c0 + 1), z_i 0, none, none] [] (zd_u (zd_u (zd_u (zd_u (zd_u (zd_u (zd_u (zd_u d c0 0 1) c0 1 0) c0 2 0) c0 3 0) c0 4 0) c0 5 0) c0 6 0) c0 7 1)).bind fun q => zx nl 79 28 [z_r c0, z_i x1] (q.1.toList ++ []) q.2 := by rcases h with rfl | rfl <;> exact zx_di 600 rfl
/- TickBound$Run.begin -/
set_option maxRecDepth 100000 in
theorem ex_79_28 {nl : Int32} (c0 : Nat) (x1 : Int32) (h : c0 = 45 ∨ c0 = 49) (d : zd_D) : zx nl 79 28 [z_r c0, z_i x1] [] d =
  some (none, (zd_u d (c0 + 1) 0 x1)) := by rcases h with rfl | rfl <;> exact zx_di 600 rfl
/- TickBound$Stepper.perform -/
set_option maxRecDepth 100000 in
theorem ex_80_0 {nl : Int32} (c0 : Nat) (x1 : Int32) (h : c0 = 45 ∨ c0 = 49) (d : zd_D) : zx nl 80 0 [z_r 38, z_i x1, z_r c0, none, none, none] [] d =
  cond (mx_in x1 28) (
    cond (mx_in x1 28) (
      cond (mx_in x1 28) (
        if d.1 4 x1.toNatClampNeg = 1 then
          (zx nl 81 0 [z_r 38, z_i x1, z_r c0, none, none, none, none] [] (zd_u d 38 6 1)).bind fun q => zx nl 80 28 [z_r 38, z_i x1, z_r c0, z_r (c0 + 1), z_i (d.1 5 x1.toNatClampNeg), z_i (d.1 6 x1.toNatClampNeg)] (q.1.toList ++ []) q.2
        else
          if d.1 4 x1.toNatClampNeg = 2 then
            (zx nl 81 0 [z_r 38, z_i x1, z_r c0, none, none, none, none] [] (zd_u d 38 6 1)).bind fun q => zx nl 80 28 [z_r 38, z_i x1, z_r c0, z_r (c0 + 1), z_i (d.1 5 x1.toNatClampNeg), z_i (d.1 6 x1.toNatClampNeg)] (q.1.toList ++ []) q.2
          else
            if d.1 4 x1.toNatClampNeg = 3 then
              (zx nl 88 0 [z_r 38, z_i x1, z_r c0, none, none, none] [] (zd_u d 38 6 1)).bind fun q => zx nl 80 33 [z_r 38, z_i x1, z_r c0, z_r (c0 + 1), z_i (d.1 5 x1.toNatClampNeg), z_i (d.1 6 x1.toNatClampNeg)] (q.1.toList ++ []) q.2
            else
              if d.1 4 x1.toNatClampNeg = 4 then
                cond (mx_in (d.1 5 x1.toNatClampNeg) 4) (
                  some (some (.inl (d.1 6 x1.toNatClampNeg)), (zd_u (zd_u (zd_u d 38 6 1) 38 6 (1 + 1)) (c0 + 1) (d.1 5 x1.toNatClampNeg).toNatClampNeg (x1 + 1)))) none
              else
                if d.1 4 x1.toNatClampNeg = 5 then
                  (zx nl 90 0 [z_r 38, z_i x1, z_r c0, none, none] [] (zd_u d 38 6 1)).bind fun q => zx nl 80 74 [z_r 38, z_i x1, z_r c0, z_r (c0 + 1), z_i (d.1 5 x1.toNatClampNeg), z_i (d.1 6 x1.toNatClampNeg)] (q.1.toList ++ []) q.2
                else
                  if d.1 4 x1.toNatClampNeg = 6 then
                    (zx nl 90 0 [z_r 38, z_i x1, z_r c0, none, none] [] (zd_u d 38 6 1)).bind fun q => zx nl 80 74 [z_r 38, z_i x1, z_r c0, z_r (c0 + 1), z_i (d.1 5 x1.toNatClampNeg), z_i (d.1 6 x1.toNatClampNeg)] (q.1.toList ++ []) q.2
                  else
                    if d.1 4 x1.toNatClampNeg = 7 then
                      cond (mx_in x1 28) (
                        cond (mx_in (d.1 5 x1.toNatClampNeg) 4) (
                          if d.1 (c0 + 1) (d.1 5 x1.toNatClampNeg).toNatClampNeg < 0 then
                            some (some (.inl (-3)), (zd_u (zd_u d 38 6 1) 38 6 (1 + 1)))
                          else
                            if d.1 (c0 + 1) (d.1 5 x1.toNatClampNeg).toNatClampNeg < 29 then
                              if ((d.1 8 x1.toNatClampNeg) >>> ((d.1 (c0 + 1) (d.1 5 x1.toNatClampNeg).toNatClampNeg) &&& 31)) &&& 1 = 1 then
                                cond (mx_in (d.1 5 x1.toNatClampNeg) 4) (
                                  some (some (.inl (d.1 (c0 + 1) (d.1 5 x1.toNatClampNeg).toNatClampNeg)), (zd_u (zd_u d 38 6 1) 38 6 (1 + 1)))) none
                              else
                                some (some (.inl (-3)), (zd_u (zd_u d 38 6 1) 38 6 (1 + 1)))
                            else
                              some (some (.inl (-3)), (zd_u (zd_u d 38 6 1) 38 6 (1 + 1)))) none) none
                    else
                      cond (mx_in (d.1 6 x1.toNatClampNeg) 4) (
                        cond (mx_in x1 28) (
                          cond (mx_in (d.1 5 x1.toNatClampNeg) 4) (
                            some (some (.inl (x1 + 1)), (zd_u (zd_u d 38 6 1) (c0 + 1) (d.1 5 x1.toNatClampNeg).toNatClampNeg ((d.1 (c0 + 1) (d.1 6 x1.toNatClampNeg).toNatClampNeg) + (d.1 7 x1.toNatClampNeg))))) none) none) none) none) none) none := by rcases h with rfl | rfl <;> exact zx_di 600 rfl
/- TickBound$Stepper.perform -/
set_option maxRecDepth 100000 in
theorem ex_80_28 {nl : Int32} (c0 : Nat) (x1 x4 x5 y0 : Int32) (h : c0 = 45 ∨ c0 = 49) (d : zd_D) : zx nl 80 28 [z_r 38, z_i x1, z_r c0, z_r (c0 + 1), z_i x4, z_i x5] [(.inl y0)] d =
  some (some (.inl y0), d) := by rcases h with rfl | rfl <;> exact zx_di 600 rfl
/- TickBound$Stepper.perform -/
set_option maxRecDepth 100000 in
theorem ex_80_33 {nl : Int32} (c0 : Nat) (x1 x4 x5 y0 : Int32) (h : c0 = 45 ∨ c0 = 49) (d : zd_D) : zx nl 80 33 [z_r 38, z_i x1, z_r c0, z_r (c0 + 1), z_i x4, z_i x5] [(.inl y0)] d =
  some (some (.inl y0), d) := by rcases h with rfl | rfl <;> exact zx_di 600 rfl
/- TickBound$Stepper.perform -/
set_option maxRecDepth 100000 in
theorem ex_80_74 {nl : Int32} (c0 : Nat) (x1 x4 x5 y0 : Int32) (h : c0 = 45 ∨ c0 = 49) (d : zd_D) : zx nl 80 74 [z_r 38, z_i x1, z_r c0, z_r (c0 + 1), z_i x4, z_i x5] [(.inl y0)] d =
  some (some (.inl y0), d) := by rcases h with rfl | rfl <;> exact zx_di 600 rfl
/- TickBound$Stepper.performLoad -/
set_option maxRecDepth 100000 in
theorem ex_81_0 {nl : Int32} (c0 : Nat) (x1 : Int32) (h : c0 = 45 ∨ c0 = 49) (d : zd_D) : zx nl 81 0 [z_r 38, z_i x1, z_r c0, none, none, none, none] [] d =
  cond (mx_in x1 28) (
    cond (mx_in x1 28) (
      if d.1 6 x1.toNatClampNeg = 4 then
        cond (mx_in x1 28) (
          if d.1 7 x1.toNatClampNeg < 0 then
            some (some (.inl (-2)), d)
          else
            if d.1 7 x1.toNatClampNeg < 32 then
              if ((d.1 1 4) >>> (((d.1 7 x1.toNatClampNeg) / 2) &&& 31)) &&& 1 = 1 then
                cond (mx_in x1 28) (
                  if d.1 4 x1.toNatClampNeg = 2 then
                    cond (mx_in (d.1 5 x1.toNatClampNeg) 4) (
                      cond (mx_in (d.1 7 x1.toNatClampNeg) 32) (
                        some (some (.inl (x1 + 1)), (zd_u (zd_u (zd_u d c0 3 ((d.1 c0 3) + 1)) 38 6 ((d.1 38 6) + 1)) 43 (d.1 7 x1.toNatClampNeg).toNatClampNeg (d.1 (c0 + 1) (d.1 5 x1.toNatClampNeg).toNatClampNeg)))) none) none
                  else
                    cond (mx_in (d.1 7 x1.toNatClampNeg) 32) (
                      cond (mx_in (d.1 5 x1.toNatClampNeg) 4) (
                        some (some (.inl (x1 + 1)), (zd_u (zd_u d c0 3 ((d.1 c0 3) + 1)) (c0 + 1) (d.1 5 x1.toNatClampNeg).toNatClampNeg (d.1 43 (d.1 7 x1.toNatClampNeg).toNatClampNeg)))) none) none) none
              else
                (zx nl 82 0 [z_r 39, z_i ((d.1 7 x1.toNatClampNeg) / 2), none, none, none, none] [] d).bind fun q => zx nl 81 56 [z_r 38, z_i x1, z_r c0, z_i (d.1 5 x1.toNatClampNeg), z_i (d.1 6 x1.toNatClampNeg), z_i (d.1 7 x1.toNatClampNeg), z_i ((d.1 7 x1.toNatClampNeg) / 2)] (q.1.toList ++ []) q.2
            else
              some (some (.inl (-2)), d)) none
      else
        cond (mx_in (d.1 6 x1.toNatClampNeg) 4) (
          cond (mx_in x1 28) (
            if (d.1 (c0 + 1) (d.1 6 x1.toNatClampNeg).toNatClampNeg) + (d.1 7 x1.toNatClampNeg) < 0 then
              some (some (.inl (-2)), d)
            else
              if (d.1 (c0 + 1) (d.1 6 x1.toNatClampNeg).toNatClampNeg) + (d.1 7 x1.toNatClampNeg) < 32 then
                if ((d.1 1 4) >>> ((((d.1 (c0 + 1) (d.1 6 x1.toNatClampNeg).toNatClampNeg) + (d.1 7 x1.toNatClampNeg)) / 2) &&& 31)) &&& 1 = 1 then
                  cond (mx_in x1 28) (
                    if d.1 4 x1.toNatClampNeg = 2 then
                      cond (mx_in (d.1 5 x1.toNatClampNeg) 4) (
                        cond (mx_in ((d.1 (c0 + 1) (d.1 6 x1.toNatClampNeg).toNatClampNeg) + (d.1 7 x1.toNatClampNeg)) 32) (
                          some (some (.inl (x1 + 1)), (zd_u (zd_u (zd_u d c0 3 ((d.1 c0 3) + 1)) 38 6 ((d.1 38 6) + 1)) 43 ((d.1 (c0 + 1) (d.1 6 x1.toNatClampNeg).toNatClampNeg) + (d.1 7 x1.toNatClampNeg)).toNatClampNeg (d.1 (c0 + 1) (d.1 5 x1.toNatClampNeg).toNatClampNeg)))) none) none
                    else
                      cond (mx_in ((d.1 (c0 + 1) (d.1 6 x1.toNatClampNeg).toNatClampNeg) + (d.1 7 x1.toNatClampNeg)) 32) (
                        cond (mx_in (d.1 5 x1.toNatClampNeg) 4) (
                          some (some (.inl (x1 + 1)), (zd_u (zd_u d c0 3 ((d.1 c0 3) + 1)) (c0 + 1) (d.1 5 x1.toNatClampNeg).toNatClampNeg (d.1 43 ((d.1 (c0 + 1) (d.1 6 x1.toNatClampNeg).toNatClampNeg) + (d.1 7 x1.toNatClampNeg)).toNatClampNeg)))) none) none) none
                else
                  (zx nl 82 0 [z_r 39, z_i (((d.1 (c0 + 1) (d.1 6 x1.toNatClampNeg).toNatClampNeg) + (d.1 7 x1.toNatClampNeg)) / 2), none, none, none, none] [] d).bind fun q => zx nl 81 56 [z_r 38, z_i x1, z_r c0, z_i (d.1 5 x1.toNatClampNeg), z_i (d.1 6 x1.toNatClampNeg), z_i ((d.1 (c0 + 1) (d.1 6 x1.toNatClampNeg).toNatClampNeg) + (d.1 7 x1.toNatClampNeg)), z_i (((d.1 (c0 + 1) (d.1 6 x1.toNatClampNeg).toNatClampNeg) + (d.1 7 x1.toNatClampNeg)) / 2)] (q.1.toList ++ []) q.2
              else
                some (some (.inl (-2)), d)) none) none) none) none := by rcases h with rfl | rfl <;> exact zx_di 600 rfl
/- TickBound$Stepper.performLoad -/
set_option maxRecDepth 100000 in
theorem ex_81_56 {nl : Int32} (c0 : Nat) (x1 x3 x4 x5 x6 y0 : Int32) (h : c0 = 45 ∨ c0 = 49) (d : zd_D) : zx nl 81 56 [z_r 38, z_i x1, z_r c0, z_i x3, z_i x4, z_i x5, z_i x6] [(.inl y0)] d =
  if y0 = 0 then
    cond (mx_in x1 28) (
      if d.1 4 x1.toNatClampNeg = 2 then
        cond (mx_in x3 4) (
          cond (mx_in x5 32) (
            some (some (.inl (x1 + 1)), (zd_u (zd_u (zd_u (zd_u d c0 4 ((d.1 c0 4) + 1)) 38 6 ((d.1 38 6) + (d.1 2 3))) 38 6 (((d.1 38 6) + (d.1 2 3)) + 1)) 43 x5.toNatClampNeg (d.1 (c0 + 1) x3.toNatClampNeg)))) none) none
      else
        cond (mx_in x5 32) (
          cond (mx_in x3 4) (
            some (some (.inl (x1 + 1)), (zd_u (zd_u (zd_u d c0 4 ((d.1 c0 4) + 1)) 38 6 ((d.1 38 6) + (d.1 2 3))) (c0 + 1) x3.toNatClampNeg (d.1 43 x5.toNatClampNeg)))) none) none) none
  else
    cond (mx_in x1 28) (
      if d.1 4 x1.toNatClampNeg = 2 then
        cond (mx_in x3 4) (
          cond (mx_in x5 32) (
            some (some (.inl (x1 + 1)), (zd_u (zd_u (zd_u d c0 3 ((d.1 c0 3) + 1)) 38 6 ((d.1 38 6) + 1)) 43 x5.toNatClampNeg (d.1 (c0 + 1) x3.toNatClampNeg)))) none) none
      else
        cond (mx_in x5 32) (
          cond (mx_in x3 4) (
            some (some (.inl (x1 + 1)), (zd_u (zd_u d c0 3 ((d.1 c0 3) + 1)) (c0 + 1) x3.toNatClampNeg (d.1 43 x5.toNatClampNeg)))) none) none) none := by rcases h with rfl | rfl <;> exact zx_di 600 rfl
/- TickBound$Cache.hits -/
set_option maxRecDepth 100000 in
theorem ex_82_0 {nl : Int32} (x1 : Int32) (d : zd_D) : zx nl 82 0 [z_r 39, z_i x1, none, none, none, none] [] d =
  (zx nl 83 0 [z_r 39, z_i ((x1 &&& ((d.1 39 0) - 1)) * (d.1 39 1)), z_i x1, none] [] d).bind fun q => zx nl 82 16 [z_r 39, z_i x1, z_i (x1 &&& ((d.1 39 0) - 1)), z_i ((x1 &&& ((d.1 39 0) - 1)) * (d.1 39 1)), none, none] (q.1.toList ++ []) q.2 := zx_di 600 rfl
/- TickBound$Cache.hits -/
set_option maxRecDepth 100000 in
theorem ex_82_16 {nl : Int32} (x1 x2 x3 y0 : Int32) (d : zd_D) : zx nl 82 16 [z_r 39, z_i x1, z_i x2, z_i x3, none, none] [(.inl y0)] d =
  if y0 < 0 then
    (zx nl 84 0 [z_r 39, z_i x2, z_i x3, none] [] d).bind fun q => zx nl 82 29 [z_r 39, z_i x1, z_i x2, z_i x3, z_i y0, z_i 0] (q.1.toList ++ []) q.2
  else
    if d.1 39 2 = 0 then
      cond (mx_in (x3 + y0) 16) (
        (zx nl 87 0 [z_r 39, z_i x2, z_i y0, none, none] [] (zd_u (zd_u d 39 3 ((d.1 39 3) + 1)) 41 (x3 + y0).toNatClampNeg ((d.1 39 3) + 1))).bind fun q => zx nl 82 60 [z_r 39, z_i x1, z_i x2, z_i x3, z_i y0, z_i 1] (q.1.toList ++ []) q.2) none
    else
      (zx nl 87 0 [z_r 39, z_i x2, z_i y0, none, none] [] d).bind fun q => zx nl 82 60 [z_r 39, z_i x1, z_i x2, z_i x3, z_i y0, z_i 1] (q.1.toList ++ []) q.2 := zx_di 600 rfl
/- TickBound$Cache.hits -/
set_option maxRecDepth 100000 in
theorem ex_82_29 {nl : Int32} (x1 x2 x3 x4 x5 y0 : Int32) (d : zd_D) : zx nl 82 29 [z_r 39, z_i x1, z_i x2, z_i x3, z_i x4, z_i x5] [(.inl y0)] d =
  cond (mx_in (x3 + y0) 16) (
    if x5 = 0 then
      cond (mx_in (x3 + y0) 16) (
        (zx nl 87 0 [z_r 39, z_i x2, z_i y0, none, none] [] (zd_u (zd_u (zd_u d 40 (x3 + y0).toNatClampNeg x1) 39 3 ((d.1 39 3) + 1)) 41 (x3 + y0).toNatClampNeg ((d.1 39 3) + 1))).bind fun q => zx nl 82 60 [z_r 39, z_i x1, z_i x2, z_i x3, z_i y0, z_i x5] (q.1.toList ++ []) q.2) none
    else
      if d.1 39 2 = 0 then
        cond (mx_in (x3 + y0) 16) (
          (zx nl 87 0 [z_r 39, z_i x2, z_i y0, none, none] [] (zd_u (zd_u (zd_u d 40 (x3 + y0).toNatClampNeg x1) 39 3 ((d.1 39 3) + 1)) 41 (x3 + y0).toNatClampNeg ((d.1 39 3) + 1))).bind fun q => zx nl 82 60 [z_r 39, z_i x1, z_i x2, z_i x3, z_i y0, z_i x5] (q.1.toList ++ []) q.2) none
      else
        (zx nl 87 0 [z_r 39, z_i x2, z_i y0, none, none] [] (zd_u d 40 (x3 + y0).toNatClampNeg x1)).bind fun q => zx nl 82 60 [z_r 39, z_i x1, z_i x2, z_i x3, z_i y0, z_i x5] (q.1.toList ++ []) q.2) none := zx_di 600 rfl
/- TickBound$Cache.hits -/
set_option maxRecDepth 100000 in
theorem ex_82_60 {nl : Int32} (x1 x2 x3 x4 x5 : Int32) (d : zd_D) : zx nl 82 60 [z_r 39, z_i x1, z_i x2, z_i x3, z_i x4, z_i x5] [] d =
  mx_rt 1 x5 (
    some (some (.inl x5), d)) := zx_di 600 rfl
/- TickBound$Cache.placeOf -/
set_option maxRecDepth 100000 in
theorem ex_83_0 {nl : Int32} (x1 x2 : Int32) (d : zd_D) : zx nl 83 0 [z_r 39, z_i x1, z_i x2, none] [] d =
  zx nl 83 3 [z_r 39, z_i x1, z_i x2, z_i 0] [] d := zx_di 600 rfl
/- TickBound$Cache.placeOf -/
set_option maxRecDepth 100000 in
theorem ex_83_3 {nl : Int32} (x1 x2 x3 : Int32) (d : zd_D) : zx nl 83 3 [z_r 39, z_i x1, z_i x2, z_i x3] [] d =
  if x3 < d.1 39 1 then
    cond (mx_in (x1 + x3) 16) (
      if d.1 40 (x1 + x3).toNatClampNeg = x2 then
        some (some (.inl x3), d)
      else
        zx nl 83 3 [z_r 39, z_i x1, z_i x2, z_i (x3 + 1)] [] d) none
  else
    some (some (.inl (-1)), d) := zx_di 600 rfl
/- TickBound$Cache.placeToFill -/
set_option maxRecDepth 100000 in
theorem ex_84_0 {nl : Int32} (x1 x2 : Int32) (d : zd_D) : zx nl 84 0 [z_r 39, z_i x1, z_i x2, none] [] d =
  (zx nl 83 0 [z_r 39, z_i x2, z_i (-1), none] [] d).bind fun q => zx nl 84 4 [z_r 39, z_i x1, z_i x2, none] (q.1.toList ++ []) q.2 := zx_di 600 rfl
/- TickBound$Cache.placeToFill -/
set_option maxRecDepth 100000 in
theorem ex_84_4 {nl : Int32} (x1 x2 y0 : Int32) (d : zd_D) : zx nl 84 4 [z_r 39, z_i x1, z_i x2, none] [(.inl y0)] d =
  if y0 < 0 then
    if d.1 39 2 = 2 then
      (zx nl 85 0 [z_r 39, z_i (x1 * 3), none] [] d).bind fun q => zx nl 84 18 [z_r 39, z_i x1, z_i x2, z_i y0] (q.1.toList ++ []) q.2
    else
      (zx nl 86 0 [z_r 39, z_i x2, none, none] [] d).bind fun q => zx nl 84 22 [z_r 39, z_i x1, z_i x2, z_i y0] (q.1.toList ++ []) q.2
  else
    some (some (.inl y0), d) := zx_di 600 rfl
/- TickBound$Cache.placeToFill -/
set_option maxRecDepth 100000 in
theorem ex_84_18 {nl : Int32} (x1 x2 x3 y0 : Int32) (d : zd_D) : zx nl 84 18 [z_r 39, z_i x1, z_i x2, z_i x3] [(.inl y0)] d =
  some (some (.inl y0), d) := zx_di 600 rfl
/- TickBound$Cache.placeToFill -/
set_option maxRecDepth 100000 in
theorem ex_84_22 {nl : Int32} (x1 x2 x3 y0 : Int32) (d : zd_D) : zx nl 84 22 [z_r 39, z_i x1, z_i x2, z_i x3] [(.inl y0)] d =
  some (some (.inl y0), d) := zx_di 600 rfl
/- TickBound$Cache.placeByBits -/
set_option maxRecDepth 100000 in
theorem ex_85_0 {nl : Int32} (x1 : Int32) (d : zd_D) : zx nl 85 0 [z_r 39, z_i x1, none] [] d =
  if d.1 39 1 = 1 then
    some (some (.inl 0), d)
  else
    if d.1 39 1 = 2 then
      cond (mx_in x1 12) (
        some (some (.inl (d.1 42 x1.toNatClampNeg)), d)) none
    else
      cond (mx_in x1 12) (
        cond (mx_in ((x1 + 1) + (d.1 42 x1.toNatClampNeg)) 12) (
          some (some (.inl ((2 * (d.1 42 x1.toNatClampNeg)) + (d.1 42 ((x1 + 1) + (d.1 42 x1.toNatClampNeg)).toNatClampNeg))), d)) none) none := zx_di 600 rfl
/- TickBound$Cache.placeByStamps -/
set_option maxRecDepth 100000 in
theorem ex_86_0 {nl : Int32} (x1 : Int32) (d : zd_D) : zx nl 86 0 [z_r 39, z_i x1, none, none] [] d =
  zx nl 86 5 [z_r 39, z_i x1, z_i 0, z_i 1] [] d := zx_di 600 rfl
/- TickBound$Cache.placeByStamps -/
set_option maxRecDepth 100000 in
theorem ex_86_5 {nl : Int32} (x1 x2 x3 : Int32) (d : zd_D) : zx nl 86 5 [z_r 39, z_i x1, z_i x2, z_i x3] [] d =
  if x3 < d.1 39 1 then
    cond (mx_in (x1 + x3) 16) (
      cond (mx_in (x1 + x2) 16) (
        if d.1 41 (x1 + x3).toNatClampNeg < d.1 41 (x1 + x2).toNatClampNeg then
          zx nl 86 5 [z_r 39, z_i x1, z_i x3, z_i (x3 + 1)] [] d
        else
          zx nl 86 5 [z_r 39, z_i x1, z_i x2, z_i (x3 + 1)] [] d) none) none
  else
    some (some (.inl x2), d) := zx_di 600 rfl
/- TickBound$Cache.turnBits -/
set_option maxRecDepth 100000 in
theorem ex_87_0 {nl : Int32} (x1 x2 : Int32) (d : zd_D) : zx nl 87 0 [z_r 39, z_i x1, z_i x2, none, none] [] d =
  if d.1 39 1 = 2 then
    cond (mx_in (x1 * 3) 12) (
      some (none, (zd_u d 42 (x1 * 3).toNatClampNeg (1 - x2)))) none
  else
    if d.1 39 1 = 4 then
      cond (mx_in (x1 * 3) 12) (
        cond (mx_in (((x1 * 3) + 1) + (x2 / 2)) 12) (
          some (none, (zd_u (zd_u d 42 (x1 * 3).toNatClampNeg (1 - (x2 / 2))) 42 (((x1 * 3) + 1) + (x2 / 2)).toNatClampNeg (1 - (x2 - x2 / 2 * 2))))) none) none
    else
      some (none, d) := zx_di 600 rfl
/- TickBound$Stepper.performBranch -/
set_option maxRecDepth 100000 in
theorem ex_88_0 {nl : Int32} (c0 : Nat) (x1 : Int32) (h : c0 = 45 ∨ c0 = 49) (d : zd_D) : zx nl 88 0 [z_r 38, z_i x1, z_r c0, none, none, none] [] d =
  cond (mx_in x1 28) (
    cond (mx_in (d.1 5 x1.toNatClampNeg) 4) (
      cond (mx_in x1 28) (
        if d.1 (c0 + 1) (d.1 5 x1.toNatClampNeg).toNatClampNeg < d.1 7 x1.toNatClampNeg then
          if d.1 2 5 = 1 then
            cond (mx_in x1 28) (
              some (some (.inl (d.1 6 x1.toNatClampNeg)), (zd_u d 38 4 ((d.1 38 4) ||| ((1 : Int32) <<< (x1 &&& 31)))))) none
          else
            if d.1 2 5 = 2 then
              if ((d.1 38 4) >>> (x1 &&& 31)) &&& 1 = 1 then
                cond (mx_in x1 28) (
                  some (some (.inl (d.1 6 x1.toNatClampNeg)), (zd_u d 38 4 ((d.1 38 4) ||| ((1 : Int32) <<< (x1 &&& 31)))))) none
              else
                cond (mx_in x1 28) (
                  some (some (.inl (d.1 6 x1.toNatClampNeg)), (zd_u (zd_u (zd_u d c0 5 ((d.1 c0 5) + 1)) 38 6 ((d.1 38 6) + (d.1 2 4))) 38 4 ((d.1 38 4) ||| ((1 : Int32) <<< (x1 &&& 31)))))) none
            else
              cond (mx_in x1 28) (
                some (some (.inl (d.1 6 x1.toNatClampNeg)), (zd_u (zd_u (zd_u d c0 5 ((d.1 c0 5) + 1)) 38 6 ((d.1 38 6) + (d.1 2 4))) 38 4 ((d.1 38 4) ||| ((1 : Int32) <<< (x1 &&& 31)))))) none
        else
          if d.1 2 5 = 1 then
            some (some (.inl (x1 + 1)), (zd_u (zd_u (zd_u d c0 5 ((d.1 c0 5) + 1)) 38 6 ((d.1 38 6) + (d.1 2 4))) 38 4 ((d.1 38 4) &&& (((1 : Int32) <<< (x1 &&& 31)) ^^^ (-1)))))
          else
            if d.1 2 5 = 2 then
              if ((d.1 38 4) >>> (x1 &&& 31)) &&& 1 = 1 then
                some (some (.inl (x1 + 1)), (zd_u (zd_u (zd_u d c0 5 ((d.1 c0 5) + 1)) 38 6 ((d.1 38 6) + (d.1 2 4))) 38 4 ((d.1 38 4) &&& (((1 : Int32) <<< (x1 &&& 31)) ^^^ (-1)))))
              else
                some (some (.inl (x1 + 1)), (zd_u d 38 4 ((d.1 38 4) &&& (((1 : Int32) <<< (x1 &&& 31)) ^^^ (-1)))))
            else
              some (some (.inl (x1 + 1)), (zd_u d 38 4 ((d.1 38 4) &&& (((1 : Int32) <<< (x1 &&& 31)) ^^^ (-1)))))) none) none) none := by rcases h with rfl | rfl <;> exact zx_di 600 rfl
/- TickBound$Stepper.performLong -/
set_option maxRecDepth 100000 in
theorem ex_90_0 {nl : Int32} (c0 : Nat) (x1 : Int32) (h : c0 = 45 ∨ c0 = 49) (d : zd_D) : zx nl 90 0 [z_r 38, z_i x1, z_r c0, none, none] [] d =
  cond (mx_in x1 28) (
    cond (mx_in (d.1 6 x1.toNatClampNeg) 4) (
      cond (mx_in x1 28) (
        cond (mx_in (d.1 7 x1.toNatClampNeg) 4) (
          (zx nl 91 0 [z_i ((d.1 (c0 + 1) (d.1 7 x1.toNatClampNeg).toNatClampNeg) &&& 255)] [] d).bind fun q => zx nl 90 30 [z_r 38, z_i x1, z_r c0, z_i (d.1 (c0 + 1) (d.1 6 x1.toNatClampNeg).toNatClampNeg), z_i (d.1 (c0 + 1) (d.1 7 x1.toNatClampNeg).toNatClampNeg)] (q.1.toList ++ [(.inl (d.1 2 7)), (.inl (d.1 38 6)), (.inr (.inr (some 38)))]) q.2) none) none) none) none := by rcases h with rfl | rfl <;> exact zx_di 600 rfl
/- TickBound$Stepper.performLong -/
set_option maxRecDepth 100000 in
theorem ex_90_30 {nl : Int32} (c0 : Nat) (x1 x3 x4 y1 y2 y3 : Int32) (h : c0 = 45 ∨ c0 = 49) (d : zd_D) : zx nl 90 30 [z_r 38, z_i x1, z_r c0, z_i x3, z_i x4] [(.inl y3), (.inl y2), (.inl y1), (.inr (.inr (some 38)))] d =
  cond (mx_in x1 28) (
    if d.1 4 x1.toNatClampNeg = 5 then
      cond (mx_in x1 28) (
        cond (mx_in (d.1 5 x1.toNatClampNeg) 4) (
          some (some (.inl (x1 + 1)), (zd_u (zd_u d 38 6 (y1 + (y2 * y3))) (c0 + 1) (d.1 5 x1.toNatClampNeg).toNatClampNeg (x3 * x4)))) none) none
    else
      if x4 = 0 then
        some (some (.inl (-1)), (zd_u d 38 6 (y1 + (y2 * y3))))
      else
        cond (mx_in x1 28) (
          if x4 = 0 then
            none
          else
            cond (mx_in (d.1 5 x1.toNatClampNeg) 4) (
              some (some (.inl (x1 + 1)), (zd_u (zd_u (zd_u d 38 6 (y1 + (y2 * y3))) 38 6 ((y1 + (y2 * y3)) + 2)) (c0 + 1) (d.1 5 x1.toNatClampNeg).toNatClampNeg (x3 / x4)))) none) none) none := by rcases h with rfl | rfl <;> exact zx_di 600 rfl
/- java/lang/Integer.bitCount -/
set_option maxRecDepth 100000 in
theorem ex_91_0 {nl : Int32} (x0 : Int32) (d : zd_D) : zx nl 91 0 [z_i x0] [] d =
  some (some (.inl ((((((((x0 - (((x0.toUInt32 >>> ((Int32.toUInt32 1) &&& Int32.toUInt32 31)).toInt32) &&& 1431655765)) &&& 858993459) + ((((x0 - (((x0.toUInt32 >>> ((Int32.toUInt32 1) &&& Int32.toUInt32 31)).toInt32) &&& 1431655765)).toUInt32 >>> ((Int32.toUInt32 2) &&& Int32.toUInt32 31)).toInt32) &&& 858993459)) + (((((x0 - (((x0.toUInt32 >>> ((Int32.toUInt32 1) &&& Int32.toUInt32 31)).toInt32) &&& 1431655765)) &&& 858993459) + ((((x0 - (((x0.toUInt32 >>> ((Int32.toUInt32 1) &&& Int32.toUInt32 31)).toInt32) &&& 1431655765)).toUInt32 >>> ((Int32.toUInt32 2) &&& Int32.toUInt32 31)).toInt32) &&& 858993459)).toUInt32 >>> ((Int32.toUInt32 4) &&& Int32.toUInt32 31)).toInt32)) &&& 252645135) + (((((((x0 - (((x0.toUInt32 >>> ((Int32.toUInt32 1) &&& Int32.toUInt32 31)).toInt32) &&& 1431655765)) &&& 858993459) + ((((x0 - (((x0.toUInt32 >>> ((Int32.toUInt32 1) &&& Int32.toUInt32 31)).toInt32) &&& 1431655765)).toUInt32 >>> ((Int32.toUInt32 2) &&& Int32.toUInt32 31)).toInt32) &&& 858993459)) + (((((x0 - (((x0.toUInt32 >>> ((Int32.toUInt32 1) &&& Int32.toUInt32 31)).toInt32) &&& 1431655765)) &&& 858993459) + ((((x0 - (((x0.toUInt32 >>> ((Int32.toUInt32 1) &&& Int32.toUInt32 31)).toInt32) &&& 1431655765)).toUInt32 >>> ((Int32.toUInt32 2) &&& Int32.toUInt32 31)).toInt32) &&& 858993459)).toUInt32 >>> ((Int32.toUInt32 4) &&& Int32.toUInt32 31)).toInt32)) &&& 252645135).toUInt32 >>> ((Int32.toUInt32 8) &&& Int32.toUInt32 31)).toInt32)) + ((((((((x0 - (((x0.toUInt32 >>> ((Int32.toUInt32 1) &&& Int32.toUInt32 31)).toInt32) &&& 1431655765)) &&& 858993459) + ((((x0 - (((x0.toUInt32 >>> ((Int32.toUInt32 1) &&& Int32.toUInt32 31)).toInt32) &&& 1431655765)).toUInt32 >>> ((Int32.toUInt32 2) &&& Int32.toUInt32 31)).toInt32) &&& 858993459)) + (((((x0 - (((x0.toUInt32 >>> ((Int32.toUInt32 1) &&& Int32.toUInt32 31)).toInt32) &&& 1431655765)) &&& 858993459) + ((((x0 - (((x0.toUInt32 >>> ((Int32.toUInt32 1) &&& Int32.toUInt32 31)).toInt32) &&& 1431655765)).toUInt32 >>> ((Int32.toUInt32 2) &&& Int32.toUInt32 31)).toInt32) &&& 858993459)).toUInt32 >>> ((Int32.toUInt32 4) &&& Int32.toUInt32 31)).toInt32)) &&& 252645135) + (((((((x0 - (((x0.toUInt32 >>> ((Int32.toUInt32 1) &&& Int32.toUInt32 31)).toInt32) &&& 1431655765)) &&& 858993459) + ((((x0 - (((x0.toUInt32 >>> ((Int32.toUInt32 1) &&& Int32.toUInt32 31)).toInt32) &&& 1431655765)).toUInt32 >>> ((Int32.toUInt32 2) &&& Int32.toUInt32 31)).toInt32) &&& 858993459)) + (((((x0 - (((x0.toUInt32 >>> ((Int32.toUInt32 1) &&& Int32.toUInt32 31)).toInt32) &&& 1431655765)) &&& 858993459) + ((((x0 - (((x0.toUInt32 >>> ((Int32.toUInt32 1) &&& Int32.toUInt32 31)).toInt32) &&& 1431655765)).toUInt32 >>> ((Int32.toUInt32 2) &&& Int32.toUInt32 31)).toInt32) &&& 858993459)).toUInt32 >>> ((Int32.toUInt32 4) &&& Int32.toUInt32 31)).toInt32)) &&& 252645135).toUInt32 >>> ((Int32.toUInt32 8) &&& Int32.toUInt32 31)).toInt32)).toUInt32 >>> ((Int32.toUInt32 16) &&& Int32.toUInt32 31)).toInt32)) &&& 63)), d) := zx_di 600 rfl
/- TickBound$Stepper.takeEdge -/
set_option maxRecDepth 100000 in
theorem ex_94_0 {nl : Int32} (c0 : Nat) (x1 x2 : Int32) (h : c0 = 45 ∨ c0 = 49) (d : zd_D) : zx nl 94 0 [z_r 38, z_i x1, z_i x2, z_r c0, none] [] d =
  if x1 < x2 then
    some (none, d)
  else
    (zx nl 95 0 [z_r 3, z_i x1, z_i x2, none] [] d).bind fun q => zx nl 94 8 [z_r 38, z_i x1, z_i x2, z_r c0, none] (q.1.toList ++ []) q.2 := by rcases h with rfl | rfl <;> exact zx_di 600 rfl
/- TickBound$Stepper.takeEdge -/
set_option maxRecDepth 100000 in
theorem ex_94_8 {nl : Int32} (c0 : Nat) (x1 x2 y0 : Int32) (h : c0 = 45 ∨ c0 = 49) (d : zd_D) : zx nl 94 8 [z_r 38, z_i x1, z_i x2, z_r c0, none] [(.inl y0)] d =
  if y0 < 0 then
    some (none, d)
  else
    cond (mx_in y0 812) (
      cond (mx_in y0 812) (
        cond (mx_in y0 812) (
          if d.1 13 y0.toNatClampNeg = (-1000000005) then
            some (none, (zd_u d 44 y0.toNatClampNeg ((d.1 44 y0.toNatClampNeg) + 1)))
          else
            cond (mx_in y0 812) (
              cond (mx_in y0 812) (
                if d.1 13 y0.toNatClampNeg < (zd_u d 44 y0.toNatClampNeg ((d.1 44 y0.toNatClampNeg) + 1)).1 44 y0.toNatClampNeg then
                  some (none, (zd_u (zd_u d 44 y0.toNatClampNeg ((d.1 44 y0.toNatClampNeg) + 1)) c0 7 0))
                else
                  some (none, (zd_u d 44 y0.toNatClampNeg ((d.1 44 y0.toNatClampNeg) + 1)))) none) none) none) none) none := by rcases h with rfl | rfl <;> exact zx_di 600 rfl
/- TickBound$Program.edgeBetween -/
set_option maxRecDepth 100000 in
theorem ex_95_0 {nl : Int32} (x1 x2 : Int32) (d : zd_D) : zx nl 95 0 [z_r 3, z_i x1, z_i x2, none] [] d =
  cond (mx_in x1 29) (
    zx nl 95 6 [z_r 3, z_i x1, z_i x2, z_i (d.1 10 x1.toNatClampNeg)] [] d) none := zx_di 600 rfl
/- TickBound$Program.edgeBetween -/
set_option maxRecDepth 100000 in
theorem ex_95_6 {nl : Int32} (x1 x2 x3 : Int32) (d : zd_D) : zx nl 95 6 [z_r 3, z_i x1, z_i x2, z_i x3] [] d =
  cond (mx_in (x1 + 1) 29) (
    if x3 < d.1 10 (x1 + 1).toNatClampNeg then
      cond (mx_in x3 812) (
        if d.1 12 x3.toNatClampNeg = x2 then
          some (some (.inl x3), d)
        else
          zx nl 95 6 [z_r 3, z_i x1, z_i x2, z_i (x3 + 1)] [] d) none
    else
      some (some (.inl (-1)), d)) none := zx_di 600 rfl
/- TickBound.ran -/
set_option maxRecDepth 100000 in
theorem ex_96_0 {nl : Int32} (x1 : Int32) (d : zd_D) : zx nl 96 0 [z_r 0, z_i x1] [] d =
  if x1 < 0 then
    some (some (.inl (-1000000001)), d)
  else
    if 12 < x1 then
      some (some (.inl (-1000000001)), d)
    else
      if d.1 45 0 = 0 then
        some (some (.inl (-1000000002)), d)
      else
        (zx nl 97 0 [z_r 45, z_i x1] [] d).bind fun q => zx nl 96 15 [z_r 0, z_i x1] (q.1.toList ++ []) q.2 := zx_di 600 rfl
/- TickBound.ran -/
set_option maxRecDepth 100000 in
theorem ex_96_15 {nl : Int32} (x1 y0 : Int32) (d : zd_D) : zx nl 96 15 [z_r 0, z_i x1] [(.inl y0)] d =
  some (some (.inl y0), d) := zx_di 600 rfl
/- TickBound$Run.number -/
set_option maxRecDepth 100000 in
theorem ex_97_0 {nl : Int32} (x1 : Int32) (d : zd_D) : zx nl 97 0 [z_r 45, z_i x1] [] d =
  if x1 = 0 then
    some (some (.inl (d.1 45 1)), d)
  else
    if x1 = 1 then
      some (some (.inl (d.1 45 2)), d)
    else
      if x1 = 2 then
        some (some (.inl (d.1 45 3)), d)
      else
        if x1 = 3 then
          some (some (.inl (d.1 45 4)), d)
        else
          if x1 = 4 then
            some (some (.inl (d.1 45 5)), d)
          else
            if x1 = 5 then
              some (some (.inl (d.1 45 6)), d)
            else
              if x1 = 6 then
                if x1 < 6 then
                  some (some (.inl (-1000000001)), d)
                else
                  if x1 < 10 then
                    cond (mx_in (x1 - 6) 4) (
                      some (some (.inl (d.1 46 (x1 - 6).toNatClampNeg)), d)) none
                  else
                    some (some (.inl (-1000000001)), d)
              else
                if x1 = 7 then
                  if x1 < 6 then
                    some (some (.inl (-1000000001)), d)
                  else
                    if x1 < 10 then
                      cond (mx_in (x1 - 6) 4) (
                        some (some (.inl (d.1 46 (x1 - 6).toNatClampNeg)), d)) none
                    else
                      some (some (.inl (-1000000001)), d)
                else
                  if x1 = 8 then
                    if x1 < 6 then
                      some (some (.inl (-1000000001)), d)
                    else
                      if x1 < 10 then
                        cond (mx_in (x1 - 6) 4) (
                          some (some (.inl (d.1 46 (x1 - 6).toNatClampNeg)), d)) none
                      else
                        some (some (.inl (-1000000001)), d)
                  else
                    if x1 = 9 then
                      if x1 < 6 then
                        some (some (.inl (-1000000001)), d)
                      else
                        if x1 < 10 then
                          cond (mx_in (x1 - 6) 4) (
                            some (some (.inl (d.1 46 (x1 - 6).toNatClampNeg)), d)) none
                        else
                          some (some (.inl (-1000000001)), d)
                    else
                      if x1 = 10 then
                        if d.1 45 7 = 0 then
                          some (some (.inl 0), d)
                        else
                          some (some (.inl 1), d)
                      else
                        if x1 = 11 then
                          some (some (.inl (d.1 45 8)), d)
                        else
                          if x1 = 12 then
                            some (some (.inl (d.1 45 9)), d)
                          else
                            if x1 < 6 then
                              some (some (.inl (-1000000001)), d)
                            else
                              if x1 < 10 then
                                cond (mx_in (x1 - 6) 4) (
                                  some (some (.inl (d.1 46 (x1 - 6).toNatClampNeg)), d)) none
                              else
                                some (some (.inl (-1000000001)), d) := zx_di 600 rfl
/- TickBound.step -/
set_option maxRecDepth 100000 in
theorem ex_98_0 {nl : Int32} (x1 x2 : Int32) (d : zd_D) : zx nl 98 0 [z_r 0, z_i x1, z_i x2] [] d =
  if x1 < 0 then
    some (some (.inl (-1000000001)), d)
  else
    if x2 < 0 then
      some (some (.inl (-1000000001)), d)
    else
      if 1 < x2 then
        some (some (.inl (-1000000001)), d)
      else
        if d.1 45 0 = 0 then
          some (some (.inl (-1000000002)), d)
        else
          if x1 < d.1 45 2 then
            if x2 = 0 then
              cond (mx_in x1 600) (
                some (some (.inl (d.1 47 x1.toNatClampNeg)), d)) none
            else
              cond (mx_in x1 600) (
                some (some (.inl (d.1 48 x1.toNatClampNeg)), d)) none
          else
            some (some (.inl (-1000000005)), d) := zx_di 600 rfl
/- TickBound.shown -/
set_option maxRecDepth 100000 in
theorem ex_99_0 {nl : Int32} (x1 x2 : Int32) (d : zd_D) : zx nl 99 0 [z_r 0, z_i x1, z_i x2, none, none, none] [] d =
  if x1 < 0 then
    some (some (.inl (-1000000001)), d)
  else
    if 7 < x1 then
      some (some (.inl (-1000000001)), d)
    else
      if x2 < 0 then
        some (some (.inl (-1000000001)), d)
      else
        if 1 < x2 then
          some (some (.inl (-1000000001)), d)
        else
          zx nl 99 19 [z_r 0, z_i x1, z_i x2, z_i (-1000000005), z_i (-1000000005), z_i 0] [] d := zx_di 600 rfl
/- TickBound.shown -/
set_option maxRecDepth 100000 in
theorem ex_99_19 {nl : Int32} (x1 x2 x3 x4 x5 : Int32) (d : zd_D) : zx nl 99 19 [z_r 0, z_i x1, z_i x2, z_i x3, z_i x4, z_i x5] [] d =
  if x5 < (1 : Int32) <<< (x1 &&& 31) then
    (zx nl 77 0 [z_r 38, z_i x5, z_r 49, none, none, none, none] [] d).bind fun q => zx nl 99 30 [z_r 0, z_i x1, z_i x2, z_i x3, z_i x4, z_i x5] (q.1.toList ++ []) q.2
  else
    if x2 = 0 then
      some (some (.inl x3), d)
    else
      some (some (.inl x4), d) := zx_di 600 rfl
/- TickBound.shown -/
set_option maxRecDepth 100000 in
theorem ex_99_30 {nl : Int32} (x1 x2 x3 x4 x5 : Int32) (d : zd_D) : zx nl 99 30 [z_r 0, z_i x1, z_i x2, z_i x3, z_i x4, z_i x5] [] d =
  if d.1 49 9 = 0 then
    if d.1 49 7 = 0 then
      zx nl 99 19 [z_r 0, z_i x1, z_i x2, z_i x3, z_i x4, z_i (x5 + 1)] [] d
    else
      if x3 < d.1 49 1 then
        zx nl 99 19 [z_r 0, z_i x1, z_i x2, z_i (d.1 49 1), z_i x5, z_i (x5 + 1)] [] d
      else
        zx nl 99 19 [z_r 0, z_i x1, z_i x2, z_i x3, z_i x4, z_i (x5 + 1)] [] d
  else
    zx nl 99 19 [z_r 0, z_i x1, z_i x2, z_i x3, z_i x4, z_i (x5 + 1)] [] d := zx_di 600 rfl
/- TickBound.edges -/
set_option maxRecDepth 100000 in
theorem ex_100_0 {nl : Int32} (d : zd_D) : zx nl 100 0 [z_r 0] [] d =
  some (some (.inl (d.1 3 7)), d) := zx_di 600 rfl
/- TickBound.edge -/
set_option maxRecDepth 100000 in
theorem ex_101_0 {nl : Int32} (x1 x2 : Int32) (d : zd_D) : zx nl 101 0 [z_r 0, z_i x1, z_i x2, none] [] d =
  if x1 < 0 then
    some (some (.inl (-1000000001)), d)
  else
    if x1 < d.1 3 7 then
      if x2 = 0 then
        cond (mx_in x1 812) (
          some (some (.inl (d.1 11 x1.toNatClampNeg)), d)) none
      else
        if x2 = 1 then
          cond (mx_in x1 812) (
            some (some (.inl (d.1 12 x1.toNatClampNeg)), d)) none
        else
          if x2 = 2 then
            cond (mx_in x1 812) (
              cond (mx_in x1 812) (
                if d.1 11 x1.toNatClampNeg < d.1 12 x1.toNatClampNeg then
                  some (some (.inl 0), d)
                else
                  some (some (.inl 1), d)) none) none
          else
            if x2 = 3 then
              cond (mx_in x1 812) (
                some (some (.inl (d.1 13 x1.toNatClampNeg)), d)) none
            else
              if x2 = 4 then
                (zx nl 56 0 [z_r 0] [] d).bind fun q => zx nl 101 37 [z_r 0, z_i x1, z_i x2, z_r 3] (q.1.toList ++ []) q.2
              else
                some (some (.inl (-1000000001)), d)
    else
      some (some (.inl (-1000000001)), d) := zx_di 600 rfl
/- TickBound.edge -/
set_option maxRecDepth 100000 in
theorem ex_101_37 {nl : Int32} (x1 x2 : Int32) (d : zd_D) : zx nl 101 37 [z_r 0, z_i x1, z_i x2, z_r 3] [] d =
  cond (mx_in x1 812) (
    some (some (.inl (d.1 58 x1.toNatClampNeg)), d)) none := zx_di 600 rfl
/- TickBound.turns -/
set_option maxRecDepth 100000 in
theorem ex_103_0 {nl : Int32} (x1 x2 : Int32) (d : zd_D) : zx nl 103 0 [z_r 0, z_i x1, z_i x2, none] [] d =
  if x1 < 0 then
    some (some (.inl (-1000000001)), d)
  else
    if x1 < d.1 3 7 then
      if x2 = (-1000000005) then
        cond (mx_in x1 812) (
          cond (mx_in x1 812) (
            if d.1 11 x1.toNatClampNeg < d.1 12 x1.toNatClampNeg then
              some (some (.inl (-1000000012)), d)
            else
              cond (mx_in x1 812) (
                cond (mx_in x1 812) (
                  some (some (.inl (d.1 13 x1.toNatClampNeg)), (zd_u (zd_u d 13 x1.toNatClampNeg x2) 0 10 0))) none) none) none) none
      else
        if x2 < 0 then
          some (some (.inl (-1000000001)), d)
        else
          if 9 < x2 then
            some (some (.inl (-1000000001)), d)
          else
            cond (mx_in x1 812) (
              cond (mx_in x1 812) (
                if d.1 11 x1.toNatClampNeg < d.1 12 x1.toNatClampNeg then
                  some (some (.inl (-1000000012)), d)
                else
                  cond (mx_in x1 812) (
                    cond (mx_in x1 812) (
                      some (some (.inl (d.1 13 x1.toNatClampNeg)), (zd_u (zd_u d 13 x1.toNatClampNeg x2) 0 10 0))) none) none) none) none
    else
      some (some (.inl (-1000000001)), d) := zx_di 600 rfl
/- TickBound.blocks -/
set_option maxRecDepth 100000 in
theorem ex_104_0 {nl : Int32} (d : zd_D) : zx nl 104 0 [z_r 0, none, none] [] d =
  zx nl 104 5 [z_r 0, z_i 0, z_i 0] [] d := zx_di 600 rfl
/- TickBound.blocks -/
set_option maxRecDepth 100000 in
theorem ex_104_5 {nl : Int32} (x1 x2 : Int32) (d : zd_D) : zx nl 104 5 [z_r 0, z_i x1, z_i x2] [] d =
  if x2 < d.1 3 0 then
    (zx nl 105 0 [z_r 3, z_i x2, none] [] d).bind fun q => zx nl 104 16 [z_r 0, z_i x1, z_i x2] (q.1.toList ++ []) q.2
  else
    some (some (.inl x1), d) := zx_di 600 rfl
/- TickBound.blocks -/
set_option maxRecDepth 100000 in
theorem ex_104_16 {nl : Int32} (x1 x2 y0 : Int32) (d : zd_D) : zx nl 104 16 [z_r 0, z_i x1, z_i x2] [(.inl y0)] d =
  if y0 = 0 then
    zx nl 104 5 [z_r 0, z_i x1, z_i (x2 + 1)] [] d
  else
    zx nl 104 5 [z_r 0, z_i (x1 + 1), z_i (x2 + 1)] [] d := zx_di 600 rfl
/- TickBound$Program.startsBlock -/
set_option maxRecDepth 100000 in
theorem ex_105_0 {nl : Int32} (x1 : Int32) (d : zd_D) : zx nl 105 0 [z_r 3, z_i x1, none] [] d =
  if x1 = 0 then
    some (some (.inl 1), d)
  else
    cond (mx_in (x1 - 1) 28) (
      (zx nl 46 0 [z_i (d.1 4 (x1 - 1).toNatClampNeg), z_i 3, none, none] [] d).bind fun q => zx nl 105 10 [z_r 3, z_i x1, none] (q.1.toList ++ []) q.2) none := zx_di 600 rfl
/- TickBound$Program.startsBlock -/
set_option maxRecDepth 100000 in
theorem ex_105_10 {nl : Int32} (x1 y0 : Int32) (d : zd_D) : zx nl 105 10 [z_r 3, z_i x1, none] [(.inl y0)] d =
  if y0 = 0 then
    zx nl 105 16 [z_r 3, z_i x1, z_i 0] [] d
  else
    some (some (.inl 1), d) := zx_di 600 rfl
/- TickBound$Program.startsBlock -/
set_option maxRecDepth 100000 in
theorem ex_105_16 {nl : Int32} (x1 x2 : Int32) (d : zd_D) : zx nl 105 16 [z_r 3, z_i x1, z_i x2] [] d =
  if x2 < d.1 3 7 then
    cond (mx_in x2 812) (
      if d.1 12 x2.toNatClampNeg = x1 then
        cond (mx_in x2 812) (
          if d.1 11 x2.toNatClampNeg = x1 - 1 then
            zx nl 105 16 [z_r 3, z_i x1, z_i (x2 + 1)] [] d
          else
            some (some (.inl 1), d)) none
      else
        zx nl 105 16 [z_r 3, z_i x1, z_i (x2 + 1)] [] d) none
  else
    some (some (.inl 0), d) := zx_di 600 rfl
/- TickBound.block -/
set_option maxRecDepth 100000 in
theorem ex_106_0 {nl : Int32} (x1 x2 : Int32) (d : zd_D) : zx nl 106 0 [z_r 0, z_i x1, z_i x2, none] [] d =
  if x1 < 0 then
    some (some (.inl (-1000000001)), d)
  else
    if x2 < 0 then
      some (some (.inl (-1000000001)), d)
    else
      if 1 < x2 then
        some (some (.inl (-1000000001)), d)
      else
        (zx nl 107 0 [z_r 3, z_i x1, none, none] [] d).bind fun q => zx nl 106 14 [z_r 0, z_i x1, z_i x2, none] (q.1.toList ++ []) q.2 := zx_di 600 rfl
/- TickBound.block -/
set_option maxRecDepth 100000 in
theorem ex_106_14 {nl : Int32} (x1 x2 y0 : Int32) (d : zd_D) : zx nl 106 14 [z_r 0, z_i x1, z_i x2, none] [(.inl y0)] d =
  if y0 < d.1 3 0 then
    if x2 = 0 then
      some (some (.inl y0), d)
    else
      (zx nl 107 0 [z_r 3, z_i (x1 + 1), none, none] [] d).bind fun q => zx nl 106 34 [z_r 0, z_i x1, z_i x2, z_i y0] (q.1.toList ++ []) q.2
  else
    some (some (.inl (-1000000001)), d) := zx_di 600 rfl
/- TickBound.block -/
set_option maxRecDepth 100000 in
theorem ex_106_34 {nl : Int32} (x1 x2 x3 y0 : Int32) (d : zd_D) : zx nl 106 34 [z_r 0, z_i x1, z_i x2, z_i x3] [(.inl y0)] d =
  some (some (.inl (y0 - 1)), d) := zx_di 600 rfl
/- TickBound$Program.blockStart -/
set_option maxRecDepth 100000 in
theorem ex_107_0 {nl : Int32} (x1 : Int32) (d : zd_D) : zx nl 107 0 [z_r 3, z_i x1, none, none] [] d =
  zx nl 107 5 [z_r 3, z_i x1, z_i 0, z_i 0] [] d := zx_di 600 rfl
/- TickBound$Program.blockStart -/
set_option maxRecDepth 100000 in
theorem ex_107_5 {nl : Int32} (x1 x2 x3 : Int32) (d : zd_D) : zx nl 107 5 [z_r 3, z_i x1, z_i x2, z_i x3] [] d =
  if x3 < d.1 3 0 then
    (zx nl 105 0 [z_r 3, z_i x3, none] [] d).bind fun q => zx nl 107 12 [z_r 3, z_i x1, z_i x2, z_i x3] (q.1.toList ++ []) q.2
  else
    some (some (.inl (d.1 3 0)), d) := zx_di 600 rfl
/- TickBound$Program.blockStart -/
set_option maxRecDepth 100000 in
theorem ex_107_12 {nl : Int32} (x1 x2 x3 y0 : Int32) (d : zd_D) : zx nl 107 12 [z_r 3, z_i x1, z_i x2, z_i x3] [(.inl y0)] d =
  if y0 = 0 then
    zx nl 107 5 [z_r 3, z_i x1, z_i x2, z_i (x3 + 1)] [] d
  else
    if x2 = x1 then
      some (some (.inl x3), d)
    else
      zx nl 107 5 [z_r 3, z_i x1, z_i (x2 + 1), z_i (x3 + 1)] [] d := zx_di 600 rfl
/- TickBound.age -/
set_option maxRecDepth 100000 in
theorem ex_108_0 {nl : Int32} (x1 x2 : Int32) (d : zd_D) : zx nl 108 0 [z_r 0, z_i x1, z_i x2, none] [] d =
  if x1 < 0 then
    some (some (.inl (-1000000001)), d)
  else
    if x1 < d.1 3 0 then
      if x2 < 0 then
        some (some (.inl (-1000000001)), d)
      else
        if x2 < 16 then
          (zx nl 56 0 [z_r 0] [] d).bind fun q => zx nl 108 11 [z_r 0, z_i x1, z_i x2, none] (q.1.toList ++ []) q.2
        else
          some (some (.inl (-1000000001)), d)
    else
      some (some (.inl (-1000000001)), d) := zx_di 600 rfl
/- TickBound.age -/
set_option maxRecDepth 100000 in
theorem ex_108_11 {nl : Int32} (x1 x2 : Int32) (d : zd_D) : zx nl 108 11 [z_r 0, z_i x1, z_i x2, none] [] d =
  cond (mx_in ((x1 * 16) + x2) 448) (
    (zx nl 36 0 [z_r 1] [] d).bind fun q => zx nl 108 25 [z_r 0, z_i x1, z_i x2, z_i (d.1 54 ((x1 * 16) + x2).toNatClampNeg)] (q.1.toList ++ [(.inl (d.1 54 ((x1 * 16) + x2).toNatClampNeg))]) q.2) none := zx_di 600 rfl
/- TickBound.age -/
set_option maxRecDepth 100000 in
theorem ex_108_25 {nl : Int32} (x1 x2 x3 y0 y1 : Int32) (d : zd_D) : zx nl 108 25 [z_r 0, z_i x1, z_i x2, z_i x3] [(.inl y1), (.inl y0)] d =
  if y0 < y1 then
    some (some (.inl x3), d)
  else
    some (some (.inl (-1000000005)), d) := zx_di 600 rfl
/- TickBound.may -/
set_option maxRecDepth 100000 in
theorem ex_109_0 {nl : Int32} (x1 x2 : Int32) (d : zd_D) : zx nl 109 0 [z_r 0, z_i x1, z_i x2] [] d =
  if x1 < 0 then
    some (some (.inl (-1000000001)), d)
  else
    if x1 < d.1 3 0 then
      if x2 < 0 then
        some (some (.inl (-1000000001)), d)
      else
        if x2 < 16 then
          (zx nl 56 0 [z_r 0] [] d).bind fun q => zx nl 109 11 [z_r 0, z_i x1, z_i x2] (q.1.toList ++ []) q.2
        else
          some (some (.inl (-1000000001)), d)
    else
      some (some (.inl (-1000000001)), d) := zx_di 600 rfl
/- TickBound.may -/
set_option maxRecDepth 100000 in
theorem ex_109_11 {nl : Int32} (x1 x2 : Int32) (d : zd_D) : zx nl 109 11 [z_r 0, z_i x1, z_i x2] [] d =
  cond (mx_in x1 28) (
    some (some (.inl (((d.1 55 x1.toNatClampNeg) >>> (x2 &&& 31)) &&& 1)), d)) none := zx_di 600 rfl
/- TickBound.bound -/
set_option maxRecDepth 100000 in
theorem ex_110_0 {nl : Int32} (d : zd_D) : zx nl 110 0 [z_r 0] [] d =
  (zx nl 111 0 [z_r 0] [] d).bind fun q => zx nl 110 2 [z_r 0] (q.1.toList ++ []) q.2 := zx_di 600 rfl
/- TickBound.bound -/
set_option maxRecDepth 100000 in
theorem ex_110_2 {nl : Int32} (d : zd_D) : zx nl 110 2 [z_r 0] [] d =
  some (some (.inl (d.1 60 0)), d) := zx_di 600 rfl
/- TickBound.freshenPaths -/
set_option maxRecDepth 100000 in
theorem ex_111_0 {nl : Int32} (d : zd_D) : zx nl 111 0 [z_r 0] [] d =
  (zx nl 56 0 [z_r 0] [] d).bind fun q => zx nl 111 2 [z_r 0] (q.1.toList ++ []) q.2 := zx_di 600 rfl
/- TickBound.freshenPaths -/
set_option maxRecDepth 100000 in
theorem ex_111_2 {nl : Int32} (d : zd_D) : zx nl 111 2 [z_r 0] [] d =
  if d.1 0 10 = 0 then
    (zx nl 112 0 [z_r 60, none] [] d).bind fun q => zx nl 111 8 [z_r 0] (q.1.toList ++ []) q.2
  else
    some (none, d) := zx_di 600 rfl
/- TickBound.freshenPaths -/
set_option maxRecDepth 100000 in
theorem ex_111_8 {nl : Int32} (d : zd_D) : zx nl 111 8 [z_r 0] [] d =
  some (none, (zd_u d 0 10 1)) := zx_di 600 rfl
/- TickBound$Paths.solve -/
set_option maxRecDepth 100000 in
theorem ex_112_0 {nl : Int32} (d : zd_D) : zx nl 112 0 [z_r 60, none] [] d =
  if d.1 3 0 = 0 then
    some (none, (zd_u d 60 0 0))
  else
    (zx nl 113 0 [z_r 60, none, none, none] [] d).bind fun q => zx nl 112 10 [z_r 60, none] (q.1.toList ++ []) q.2 := zx_di 600 rfl
/- TickBound$Paths.solve -/
set_option maxRecDepth 100000 in
theorem ex_112_10 {nl : Int32} (d : zd_D) : zx nl 112 10 [z_r 60, none] [] d =
  (zx nl 115 0 [z_r 60, none] [] d).bind fun q => zx nl 112 12 [z_r 60, none] (q.1.toList ++ []) q.2 := zx_di 600 rfl
/- TickBound$Paths.solve -/
set_option maxRecDepth 100000 in
theorem ex_112_12 {nl : Int32} (y0 : Int32) (d : zd_D) : zx nl 112 12 [z_r 60, none] [(.inl y0)] d =
  if y0 = 0 then
    (zx nl 116 0 [z_r 60, none, none] [] d).bind fun q => zx nl 112 19 [z_r 60, none] (q.1.toList ++ []) q.2
  else
    some (none, (zd_u d 60 0 (-1000000005))) := zx_di 600 rfl
/- TickBound$Paths.solve -/
set_option maxRecDepth 100000 in
theorem ex_112_19 {nl : Int32} (d : zd_D) : zx nl 112 19 [z_r 60, none] [] d =
  if 600 < d.1 60 1 then
    some (none, (zd_u d 60 0 (-1000000004)))
  else
    if d.1 60 6 = 0 then
      if (17400 : Int32) = 17400 ∧ 0 = 0 ∧ d.2.2 = false then
        zx nl 112 37 [z_r 60, z_i 0] [] (zd_u (fun k => if k = 130 then (fun _ => 0) else d.1 k, d.2.1, true) 60 6 1)
      else
        none
    else
      zx nl 112 37 [z_r 60, z_i 0] [] d := zx_di 600 rfl
/- TickBound$Paths.solve -/
set_option maxRecDepth 100000 in
theorem ex_112_37 {nl : Int32} (x1 : Int32) (d : zd_D) : zx nl 112 37 [z_r 60, z_i x1] [] d =
  if x1 < d.1 60 1 then
    (zx nl 117 0 [z_r 60, z_i x1, none, none, none, none, none] [] d).bind fun q => zx nl 112 44 [z_r 60, z_i x1] (q.1.toList ++ []) q.2
  else
    if d.1 60 6 = 0 then
      none
    else
      cond (Nat.beq (zd_c d 130) 100) (
        cond (mx_in (((d.1 60 1) - 1) * 29) 17400) (
          if d.1 130 (((d.1 60 1) - 1) * 29).toNatClampNeg = (-1) then
            some (none, (zd_u d 60 0 (-1000000005)))
          else
            some (none, (zd_u d 60 0 (d.1 130 (((d.1 60 1) - 1) * 29).toNatClampNeg)))) none) none := zx_di 600 rfl
/- TickBound$Paths.solve -/
set_option maxRecDepth 100000 in
theorem ex_112_44 {nl : Int32} (x1 : Int32) (d : zd_D) : zx nl 112 44 [z_r 60, z_i x1] [] d =
  zx nl 112 37 [z_r 60, z_i (x1 + 1)] [] d := zx_di 600 rfl
/- TickBound$Paths.findReached -/
set_option maxRecDepth 100000 in
theorem ex_113_0 {nl : Int32} (d : zd_D) : zx nl 113 0 [z_r 60, none, none, none] [] d =
  zx nl 113 8 [z_r 60, z_i 0, z_i 0, none] [] (zd_u d 60 4 1) := zx_di 600 rfl
/- TickBound$Paths.findReached -/
set_option maxRecDepth 100000 in
theorem ex_113_8 {nl : Int32} (x1 x2 : Int32) (d : zd_D) : zx nl 113 8 [z_r 60, z_i x1, z_i x2, none] [] d =
  if x2 < 29 then
    if d.1 60 4 = x1 then
      some (none, d)
    else
      zx nl 113 21 [z_r 60, z_i (d.1 60 4), z_i x2, z_i 0] [] d
  else
    some (none, d) := zx_di 600 rfl
/- TickBound$Paths.findReached -/
set_option maxRecDepth 100000 in
theorem ex_113_21 {nl : Int32} (x1 x2 x3 : Int32) (d : zd_D) : zx nl 113 21 [z_r 60, z_i x1, z_i x2, z_i x3] [] d =
  if x3 < d.1 3 7 then
    cond (mx_in x3 812) (
      if ((d.1 60 4) >>> ((d.1 11 x3.toNatClampNeg) &&& 31)) &&& 1 = 1 then
        cond (mx_in x3 812) (
          zx nl 113 21 [z_r 60, z_i x1, z_i x2, z_i (x3 + 1)] [] (zd_u d 60 4 ((d.1 60 4) ||| ((1 : Int32) <<< ((d.1 12 x3.toNatClampNeg) &&& 31))))) none
      else
        zx nl 113 21 [z_r 60, z_i x1, z_i x2, z_i (x3 + 1)] [] d) none
  else
    zx nl 113 8 [z_r 60, z_i x1, z_i (x2 + 1), none] [] d := zx_di 600 rfl
/- TickBound$Paths.lacksNumberOrPlace -/
set_option maxRecDepth 100000 in
theorem ex_115_0 {nl : Int32} (d : zd_D) : zx nl 115 0 [z_r 60, none] [] d =
  zx nl 115 3 [z_r 60, z_i 0] [] d := zx_di 600 rfl
/- TickBound$Paths.lacksNumberOrPlace -/
set_option maxRecDepth 100000 in
theorem ex_115_3 {nl : Int32} (x1 : Int32) (d : zd_D) : zx nl 115 3 [z_r 60, z_i x1] [] d =
  if x1 < d.1 3 0 then
    if ((d.1 60 4) >>> (x1 &&& 31)) &&& 1 = 1 then
      cond (mx_in x1 29) (
        cond (mx_in (x1 + 1) 29) (
          if d.1 10 x1.toNatClampNeg = d.1 10 (x1 + 1).toNatClampNeg then
            some (some (.inl 1), d)
          else
            zx nl 115 3 [z_r 60, z_i (x1 + 1)] [] d) none) none
    else
      zx nl 115 3 [z_r 60, z_i (x1 + 1)] [] d
  else
    zx nl 115 32 [z_r 60, z_i 0] [] d := zx_di 600 rfl
/- TickBound$Paths.lacksNumberOrPlace -/
set_option maxRecDepth 100000 in
theorem ex_115_32 {nl : Int32} (x1 : Int32) (d : zd_D) : zx nl 115 32 [z_r 60, z_i x1] [] d =
  if x1 < d.1 3 7 then
    cond (mx_in x1 812) (
      if ((d.1 60 4) >>> ((d.1 11 x1.toNatClampNeg) &&& 31)) &&& 1 = 1 then
        cond (mx_in x1 812) (
          cond (mx_in x1 812) (
            if d.1 11 x1.toNatClampNeg < d.1 12 x1.toNatClampNeg then
              zx nl 115 32 [z_r 60, z_i (x1 + 1)] [] d
            else
              cond (mx_in x1 812) (
                if d.1 13 x1.toNatClampNeg = (-1000000005) then
                  some (some (.inl 1), d)
                else
                  zx nl 115 32 [z_r 60, z_i (x1 + 1)] [] d) none) none) none
      else
        zx nl 115 32 [z_r 60, z_i (x1 + 1)] [] d) none
  else
    some (some (.inl 0), d) := zx_di 600 rfl
/- TickBound$Paths.weighTurns -/
set_option maxRecDepth 100000 in
theorem ex_116_0 {nl : Int32} (d : zd_D) : zx nl 116 0 [z_r 60, none, none] [] d =
  zx nl 116 6 [z_r 60, z_i 0, none] [] (zd_u d 60 1 1) := zx_di 600 rfl
/- TickBound$Paths.weighTurns -/
set_option maxRecDepth 100000 in
theorem ex_116_6 {nl : Int32} (x1 : Int32) (d : zd_D) : zx nl 116 6 [z_r 60, z_i x1, none] [] d =
  if x1 < d.1 3 7 then
    if 600 < d.1 60 1 then
      some (none, d)
    else
      cond (mx_in x1 812) (
        cond (mx_in x1 812) (
          cond (mx_in x1 812) (
            if d.1 11 x1.toNatClampNeg < d.1 12 x1.toNatClampNeg then
              cond (mx_in x1 812) (
                if 0 < d.1 13 x1.toNatClampNeg then
                  cond (mx_in x1 812) (
                    zx nl 116 6 [z_r 60, z_i (x1 + 1), none] [] (zd_u (zd_u (zd_u d 61 x1.toNatClampNeg 0) 61 x1.toNatClampNeg (d.1 60 1)) 60 1 ((d.1 60 1) * ((d.1 13 x1.toNatClampNeg) + 1)))) none
                else
                  zx nl 116 6 [z_r 60, z_i (x1 + 1), none] [] (zd_u d 61 x1.toNatClampNeg 0)) none
            else
              cond (mx_in x1 812) (
                if 0 < d.1 13 x1.toNatClampNeg then
                  cond (mx_in x1 812) (
                    zx nl 116 6 [z_r 60, z_i (x1 + 1), none] [] (zd_u (zd_u (zd_u d 61 x1.toNatClampNeg (-1)) 61 x1.toNatClampNeg (d.1 60 1)) 60 1 ((d.1 60 1) * ((d.1 13 x1.toNatClampNeg) + 1)))) none
                else
                  zx nl 116 6 [z_r 60, z_i (x1 + 1), none] [] (zd_u d 61 x1.toNatClampNeg (-1))) none) none) none) none
  else
    some (none, d) := zx_di 600 rfl
/- TickBound$Paths.solveMix -/
set_option maxRecDepth 100000 in
theorem ex_117_0 {nl : Int32} (x1 : Int32) (d : zd_D) : zx nl 117 0 [z_r 60, z_i x1, none, none, none, none, none] [] d =
  if d.1 60 6 = 0 then
    none
  else
    cond (Nat.beq (zd_c d 130) 100) (
      cond (mx_in ((x1 * 29) + (d.1 3 0)) 17400) (
        zx nl 117 20 [z_r 60, z_i x1, z_i (x1 * 29), z_i ((d.1 3 0) - 1), none, none, none] [] (zd_u d 130 ((x1 * 29) + (d.1 3 0)).toNatClampNeg 0)) none) none := zx_di 600 rfl
/- TickBound$Paths.solveMix -/
set_option maxRecDepth 100000 in
theorem ex_117_20 {nl : Int32} (x1 x2 x3 : Int32) (d : zd_D) : zx nl 117 20 [z_r 60, z_i x1, z_i x2, z_i x3, none, none, none] [] d =
  if x3 < 0 then
    some (none, d)
  else
    if ((d.1 60 4) >>> (x3 &&& 31)) &&& 1 = 1 then
      cond (mx_in (x3 + 1) 29) (
        cond (mx_in x3 29) (
          zx nl 117 45 [z_r 60, z_i x1, z_i x2, z_i x3, z_i (-1), z_i (d.1 10 (x3 + 1).toNatClampNeg), z_i (d.1 10 x3.toNatClampNeg)] [] d) none) none
    else
      cond (mx_in x3 29) (
        zx nl 117 45 [z_r 60, z_i x1, z_i x2, z_i x3, z_i (-1), z_i 0, z_i (d.1 10 x3.toNatClampNeg)] [] d) none := zx_di 600 rfl
/- TickBound$Paths.solveMix -/
set_option maxRecDepth 100000 in
theorem ex_117_45 {nl : Int32} (x1 x2 x3 x4 x5 x6 : Int32) (d : zd_D) : zx nl 117 45 [z_r 60, z_i x1, z_i x2, z_i x3, z_i x4, z_i x5, z_i x6] [] d =
  if x6 < x5 then
    (zx nl 118 0 [z_r 60, z_i x1, z_i x6, none, none] [] d).bind fun q => zx nl 117 53 [z_r 60, z_i x1, z_i x2, z_i x3, z_i x4, z_i x5, z_i x6] (q.1.toList ++ [(.inl x4)]) q.2
  else
    if d.1 60 6 = 0 then
      none
    else
      cond (Nat.beq (zd_c d 130) 100) (
        cond (mx_in (x2 + x3) 17400) (
          zx nl 117 20 [z_r 60, z_i x1, z_i x2, z_i (x3 + (-1)), none, none, none] [] (zd_u d 130 (x2 + x3).toNatClampNeg x4)) none) none := zx_di 600 rfl
/- TickBound$Paths.solveMix -/
set_option maxRecDepth 100000 in
theorem ex_117_53 {nl : Int32} (x1 x2 x3 x4 x5 x6 y0 y1 : Int32) (d : zd_D) : zx nl 117 53 [z_r 60, z_i x1, z_i x2, z_i x3, z_i x4, z_i x5, z_i x6] [(.inl y1), (.inl y0)] d =
  zx nl 117 45 [z_r 60, z_i x1, z_i x2, z_i x3, z_i (if y0 < y1 then y1 else y0), z_i x5, z_i (x6 + 1)] [] d := zx_di 600 rfl
/- TickBound$Paths.sumBy -/
set_option maxRecDepth 100000 in
theorem ex_118_0 {nl : Int32} (x1 x2 : Int32) (d : zd_D) : zx nl 118 0 [z_r 60, z_i x1, z_i x2, none, none] [] d =
  cond (mx_in x2 812) (
    if d.1 61 x2.toNatClampNeg = 0 then
      if x1 < 0 then
        some (some (.inl (-1)), d)
      else
        if d.1 60 6 = 0 then
          cond (mx_in x2 812) (
            none) none
        else
          cond (mx_in x2 812) (
            cond (Nat.beq (zd_c d 130) 100) (
              cond (mx_in ((x1 * 29) + (d.1 12 x2.toNatClampNeg)) 17400) (
                if d.1 130 ((x1 * 29) + (d.1 12 x2.toNatClampNeg)).toNatClampNeg = (-1) then
                  some (some (.inl (-1)), d)
                else
                  cond (mx_in x2 812) (
                    some (some (.inl ((d.1 130 ((x1 * 29) + (d.1 12 x2.toNatClampNeg)).toNatClampNeg) + (d.1 58 x2.toNatClampNeg))), d)) none) none) none) none
    else
      (zx nl 119 0 [z_r 60, z_i x1, z_i x2, none] [] d).bind fun q => zx nl 118 11 [z_r 60, z_i x1, z_i x2, none, none] (q.1.toList ++ []) q.2) none := zx_di 600 rfl
/- TickBound$Paths.sumBy -/
set_option maxRecDepth 100000 in
theorem ex_118_11 {nl : Int32} (x1 x2 y0 : Int32) (d : zd_D) : zx nl 118 11 [z_r 60, z_i x1, z_i x2, none, none] [(.inl y0)] d =
  if y0 < 0 then
    some (some (.inl (-1)), d)
  else
    if d.1 60 6 = 0 then
      cond (mx_in x2 812) (
        none) none
    else
      cond (mx_in x2 812) (
        cond (Nat.beq (zd_c d 130) 100) (
          cond (mx_in ((y0 * 29) + (d.1 12 x2.toNatClampNeg)) 17400) (
            if d.1 130 ((y0 * 29) + (d.1 12 x2.toNatClampNeg)).toNatClampNeg = (-1) then
              some (some (.inl (-1)), d)
            else
              cond (mx_in x2 812) (
                some (some (.inl ((d.1 130 ((y0 * 29) + (d.1 12 x2.toNatClampNeg)).toNatClampNeg) + (d.1 58 x2.toNatClampNeg))), d)) none) none) none) none := zx_di 600 rfl
/- TickBound$Paths.mixBehind -/
set_option maxRecDepth 100000 in
theorem ex_119_0 {nl : Int32} (x1 x2 : Int32) (d : zd_D) : zx nl 119 0 [z_r 60, z_i x1, z_i x2, none] [] d =
  cond (mx_in x2 812) (
    if d.1 61 x2.toNatClampNeg = 0 then
      some (some (.inl x1), d)
    else
      cond (mx_in x2 812) (
        cond (mx_in x2 812) (
          if d.1 61 x2.toNatClampNeg = (-1) then
            some (some (.inl (-1)), d)
          else
            if d.1 13 x2.toNatClampNeg < 1 then
              some (some (.inl (-1)), d)
            else
              cond (mx_in x2 812) (
                if d.1 61 x2.toNatClampNeg = 0 then
                  none
                else
                  if (d.1 13 x2.toNatClampNeg) + 1 = 0 then
                    none
                  else
                    if 0 < (x1 / (d.1 61 x2.toNatClampNeg)) - (x1 / (d.1 61 x2.toNatClampNeg)) / ((d.1 13 x2.toNatClampNeg) + 1) * ((d.1 13 x2.toNatClampNeg) + 1) then
                      cond (mx_in x2 812) (
                        some (some (.inl (x1 - (d.1 61 x2.toNatClampNeg))), d)) none
                    else
                      some (some (.inl (-1)), d)) none) none) none) none := zx_di 600 rfl
/- TickBound.way -/
set_option maxRecDepth 100000 in
theorem ex_120_0 {nl : Int32} (x1 : Int32) (d : zd_D) : zx nl 120 0 [z_r 0, z_i x1] [] d =
  if x1 < 0 then
    some (some (.inl (-1000000001)), d)
  else
    (zx nl 111 0 [z_r 0] [] d).bind fun q => zx nl 120 6 [z_r 0, z_i x1] (q.1.toList ++ []) q.2 := zx_di 600 rfl
/- TickBound.way -/
set_option maxRecDepth 100000 in
theorem ex_120_6 {nl : Int32} (x1 : Int32) (d : zd_D) : zx nl 120 6 [z_r 0, z_i x1] [] d =
  if d.1 60 0 < 0 then
    some (some (.inl (d.1 60 0)), d)
  else
    (zx nl 121 0 [z_r 60, z_i x1, none, none, none, none] [] d).bind fun q => zx nl 120 18 [z_r 0, z_i x1] (q.1.toList ++ []) q.2 := zx_di 600 rfl
/- TickBound.way -/
set_option maxRecDepth 100000 in
theorem ex_120_18 {nl : Int32} (x1 y0 : Int32) (d : zd_D) : zx nl 120 18 [z_r 0, z_i x1] [(.inl y0)] d =
  some (some (.inl y0), d) := zx_di 600 rfl
/- TickBound$Paths.orderOfWay -/
set_option maxRecDepth 100000 in
theorem ex_121_0 {nl : Int32} (x1 : Int32) (d : zd_D) : zx nl 121 0 [z_r 60, z_i x1, none, none, none, none] [] d =
  if d.1 60 6 = 0 then
    some (some (.inl (-1000000005)), d)
  else
    zx nl 121 15 [z_r 60, z_i x1, z_i 0, z_i ((d.1 60 1) - 1), z_i 0, none] [] d := zx_di 600 rfl
/- TickBound$Paths.orderOfWay -/
set_option maxRecDepth 100000 in
theorem ex_121_15 {nl : Int32} (x1 x2 x3 x4 : Int32) (d : zd_D) : zx nl 121 15 [z_r 60, z_i x1, z_i x2, z_i x3, z_i x4, none] [] d =
  if x4 < x1 then
    if x2 < d.1 3 0 then
      (zx nl 122 0 [z_r 60, z_i x3, z_i x2, none] [] d).bind fun q => zx nl 121 27 [z_r 60, z_i x1, z_i x2, z_i x3, z_i x4, none] (q.1.toList ++ []) q.2
    else
      if x2 < d.1 3 0 then
        some (some (.inl x2), d)
      else
        some (some (.inl (-1000000005)), d)
  else
    if x2 < d.1 3 0 then
      some (some (.inl x2), d)
    else
      some (some (.inl (-1000000005)), d) := zx_di 600 rfl
/- TickBound$Paths.orderOfWay -/
set_option maxRecDepth 100000 in
theorem ex_121_27 {nl : Int32} (x1 x2 x3 x4 y0 : Int32) (d : zd_D) : zx nl 121 27 [z_r 60, z_i x1, z_i x2, z_i x3, z_i x4, none] [(.inl y0)] d =
  if y0 < 0 then
    some (some (.inl (-1000000005)), d)
  else
    (zx nl 119 0 [z_r 60, z_i x3, z_i y0, none] [] d).bind fun q => zx nl 121 36 [z_r 60, z_i x1, z_i x2, z_i x3, z_i x4, z_i y0] (q.1.toList ++ []) q.2 := zx_di 600 rfl
/- TickBound$Paths.orderOfWay -/
set_option maxRecDepth 100000 in
theorem ex_121_36 {nl : Int32} (x1 x2 x3 x4 x5 y0 : Int32) (d : zd_D) : zx nl 121 36 [z_r 60, z_i x1, z_i x2, z_i x3, z_i x4, z_i x5] [(.inl y0)] d =
  cond (mx_in x5 812) (
    zx nl 121 15 [z_r 60, z_i x1, z_i (d.1 12 x5.toNatClampNeg), z_i y0, z_i (x4 + 1), none] [] d) none := zx_di 600 rfl
/- TickBound$Paths.edgeOfWay -/
set_option maxRecDepth 100000 in
theorem ex_122_0 {nl : Int32} (x1 x2 : Int32) (d : zd_D) : zx nl 122 0 [z_r 60, z_i x1, z_i x2, none] [] d =
  cond (mx_in x2 29) (
    zx nl 122 7 [z_r 60, z_i x1, z_i x2, z_i (d.1 10 x2.toNatClampNeg)] [] d) none := zx_di 600 rfl
