/-! ===== what each frame does, up to the next cut: printed by program ===== -/
/- TickBound$Paths.edgeOfWay -/
set_option maxRecDepth 100000 in
theorem ex_122_7 {nl : Int32} (x1 x2 x3 : Int32) (d : zd_D) : zx nl 122 7 [z_r 60, z_i x1, z_i x2, z_i x3] [] d =
  cond (mx_in (x2 + 1) 29) (
    if x3 < d.1 10 (x2 + 1).toNatClampNeg then
      (zx nl 118 0 [z_r 60, z_i x1, z_i x3, none, none] [] d).bind fun q => zx nl 122 20 [z_r 60, z_i x1, z_i x2, z_i x3] (q.1.toList ++ []) q.2
    else
      some (some (.inl (-1)), d)) none := zx_di 600 rfl
/- TickBound$Paths.edgeOfWay -/
set_option maxRecDepth 100000 in
theorem ex_122_20 {nl : Int32} (x1 x2 x3 y0 : Int32) (d : zd_D) : zx nl 122 20 [z_r 60, z_i x1, z_i x2, z_i x3] [(.inl y0)] d =
  if d.1 60 6 = 0 then
    none
  else
    cond (Nat.beq (zd_c d 130) 100) (
      cond (mx_in ((x1 * 29) + x2) 17400) (
        if y0 = d.1 130 ((x1 * 29) + x2).toNatClampNeg then
          some (some (.inl x3), d)
        else
          zx nl 122 7 [z_r 60, z_i x1, z_i x2, z_i (x3 + 1)] [] d) none) none := zx_di 600 rfl
/- TickBound.factor -/
set_option maxRecDepth 100000 in
theorem ex_123_0 {nl : Int32} (x1 : Int32) (d : zd_D) : zx nl 123 0 [z_r 0, z_i x1] [] d =
  if x1 < 0 then
    some (some (.inl (-1000000001)), d)
  else
    if x1 < d.1 3 0 then
      (zx nl 56 0 [z_r 0] [] d).bind fun q => zx nl 123 8 [z_r 0, z_i x1] (q.1.toList ++ []) q.2
    else
      some (some (.inl (-1000000001)), d) := zx_di 600 rfl
/- TickBound.factor -/
set_option maxRecDepth 100000 in
theorem ex_123_8 {nl : Int32} (x1 : Int32) (d : zd_D) : zx nl 123 8 [z_r 0, z_i x1] [] d =
  cond (mx_in x1 29) (
    some (some (.inl (d.1 59 x1.toNatClampNeg)), d)) none := zx_di 600 rfl
/- TickBound.shares -/
set_option maxRecDepth 100000 in
theorem ex_124_0 {nl : Int32} (x1 : Int32) (d : zd_D) : zx nl 124 0 [z_r 0, z_i x1] [] d =
  if x1 < 0 then
    some (some (.inl (-1000000001)), d)
  else
    if x1 < d.1 3 7 then
      cond (mx_in x1 812) (
        cond (mx_in x1 812) (
          if d.1 11 x1.toNatClampNeg < d.1 12 x1.toNatClampNeg then
            some (some (.inl (-1000000012)), d)
          else
            (zx nl 56 0 [z_r 0] [] d).bind fun q => zx nl 124 16 [z_r 0, z_i x1] (q.1.toList ++ []) q.2) none) none
    else
      some (some (.inl (-1000000001)), d) := zx_di 600 rfl
/- TickBound.shares -/
set_option maxRecDepth 100000 in
theorem ex_124_16 {nl : Int32} (x1 : Int32) (d : zd_D) : zx nl 124 16 [z_r 0, z_i x1] [] d =
  cond (mx_in x1 812) (
    cond (mx_in x1 812) (
      cond (mx_in (d.1 12 x1.toNatClampNeg) 29) (
        cond (mx_in x1 812) (
          cond (mx_in (d.1 11 x1.toNatClampNeg) 29) (
            some (some (.inl (if 0 < ((d.1 58 x1.toNatClampNeg) + (d.1 59 (d.1 12 x1.toNatClampNeg).toNatClampNeg)) - (d.1 59 (d.1 11 x1.toNatClampNeg).toNatClampNeg) then ((d.1 58 x1.toNatClampNeg) + (d.1 59 (d.1 12 x1.toNatClampNeg).toNatClampNeg)) - (d.1 59 (d.1 11 x1.toNatClampNeg).toNatClampNeg) else 0)), d)) none) none) none) none) none := zx_di 600 rfl
/- TickBound.proves -/
set_option maxRecDepth 100000 in
theorem ex_126_0 {nl : Int32} (d : zd_D) : zx nl 126 0 [z_r 0, none, none] [] d =
  (zx nl 127 0 [z_r 3, none, none] [] d).bind fun q => zx nl 126 4 [z_r 0, none, none] (q.1.toList ++ []) q.2 := zx_di 600 rfl
/- TickBound.proves -/
set_option maxRecDepth 100000 in
theorem ex_126_4 {nl : Int32} (y0 : Int32) (d : zd_D) : zx nl 126 4 [z_r 0, none, none] [(.inl y0)] d =
  (zx nl 128 0 [z_r 3, none, none] [] d).bind fun q => zx nl 126 8 [z_r 0, none, none] (q.1.toList ++ [(.inl y0)]) q.2 := zx_di 600 rfl
/- TickBound.proves -/
set_option maxRecDepth 100000 in
theorem ex_126_8 {nl : Int32} (y0 y1 : Int32) (d : zd_D) : zx nl 126 8 [z_r 0, none, none] [(.inl y1), (.inl y0)] d =
  if y0 < y1 then
    some (some (.inl (-1000000005)), d)
  else
    (zx nl 56 0 [z_r 0] [] d).bind fun q => zx nl 126 13 [z_r 0, none, none] (q.1.toList ++ []) q.2 := zx_di 600 rfl
/- TickBound.proves -/
set_option maxRecDepth 100000 in
theorem ex_126_13 {nl : Int32} (d : zd_D) : zx nl 126 13 [z_r 0, none, none] [] d =
  if 0 < d.1 3 0 then
    zx nl 126 29 [z_r 0, z_i (d.1 59 0), z_i 0] [] d
  else
    zx nl 126 29 [z_r 0, z_i 0, z_i 0] [] d := zx_di 600 rfl
/- TickBound.proves -/
set_option maxRecDepth 100000 in
theorem ex_126_29 {nl : Int32} (x1 x2 : Int32) (d : zd_D) : zx nl 126 29 [z_r 0, z_i x1, z_i x2] [] d =
  if x2 < d.1 3 7 then
    cond (mx_in x2 812) (
      cond (mx_in x2 812) (
        if d.1 11 x2.toNatClampNeg < d.1 12 x2.toNatClampNeg then
          zx nl 126 29 [z_r 0, z_i x1, z_i (x2 + 1)] [] d
        else
          cond (mx_in x2 812) (
            cond (mx_in x2 812) (
              cond (mx_in (d.1 12 x2.toNatClampNeg) 29) (
                cond (mx_in x2 812) (
                  cond (mx_in (d.1 11 x2.toNatClampNeg) 29) (
                    cond (mx_in x2 812) (
                      zx nl 126 29 [z_r 0, z_i (x1 + ((if 0 < ((d.1 58 x2.toNatClampNeg) + (d.1 59 (d.1 12 x2.toNatClampNeg).toNatClampNeg)) - (d.1 59 (d.1 11 x2.toNatClampNeg).toNatClampNeg) then ((d.1 58 x2.toNatClampNeg) + (d.1 59 (d.1 12 x2.toNatClampNeg).toNatClampNeg)) - (d.1 59 (d.1 11 x2.toNatClampNeg).toNatClampNeg) else 0) * (d.1 13 x2.toNatClampNeg))), z_i (x2 + 1)] [] d) none) none) none) none) none) none) none) none
  else
    some (some (.inl x1), d) := zx_di 600 rfl
/- TickBound$Program.numberedTurns -/
set_option maxRecDepth 100000 in
theorem ex_127_0 {nl : Int32} (d : zd_D) : zx nl 127 0 [z_r 3, none, none] [] d =
  zx nl 127 5 [z_r 3, z_i 0, z_i 0] [] d := zx_di 600 rfl
/- TickBound$Program.numberedTurns -/
set_option maxRecDepth 100000 in
theorem ex_127_5 {nl : Int32} (x1 x2 : Int32) (d : zd_D) : zx nl 127 5 [z_r 3, z_i x1, z_i x2] [] d =
  if x2 < d.1 3 7 then
    cond (mx_in x2 812) (
      if d.1 13 x2.toNatClampNeg = (-1000000005) then
        zx nl 127 5 [z_r 3, z_i x1, z_i (x2 + 1)] [] d
      else
        zx nl 127 5 [z_r 3, z_i (x1 + 1), z_i (x2 + 1)] [] d) none
  else
    some (some (.inl x1), d) := zx_di 600 rfl
/- TickBound$Program.allTurns -/
set_option maxRecDepth 100000 in
theorem ex_128_0 {nl : Int32} (d : zd_D) : zx nl 128 0 [z_r 3, none, none] [] d =
  zx nl 128 5 [z_r 3, z_i 0, z_i 0] [] d := zx_di 600 rfl
/- TickBound$Program.allTurns -/
set_option maxRecDepth 100000 in
theorem ex_128_5 {nl : Int32} (x1 x2 : Int32) (d : zd_D) : zx nl 128 5 [z_r 3, z_i x1, z_i x2] [] d =
  if x2 < d.1 3 7 then
    cond (mx_in x2 812) (
      cond (mx_in x2 812) (
        if d.1 11 x2.toNatClampNeg < d.1 12 x2.toNatClampNeg then
          zx nl 128 5 [z_r 3, z_i x1, z_i (x2 + 1)] [] d
        else
          zx nl 128 5 [z_r 3, z_i (x1 + 1), z_i (x2 + 1)] [] d) none) none
  else
    some (some (.inl x1), d) := zx_di 600 rfl
/- TickBound.locks -/
set_option maxRecDepth 100000 in
theorem ex_129_0 {nl : Int32} (x1 x2 : Int32) (d : zd_D) : zx nl 129 0 [z_r 0, z_i x1, z_i x2, none, none, none, none, none, none] [] d =
  if x1 < 0 then
    some (some (.inl (-1000000001)), d)
  else
    if 8 < x1 then
      some (some (.inl (-1000000001)), d)
    else
      if x2 < 0 then
        some (some (.inl (-1000000001)), d)
      else
        if 1 < x2 then
          some (some (.inl (-1000000001)), d)
        else
          (zx nl 111 0 [z_r 0] [] d).bind fun q => zx nl 129 14 [z_r 0, z_i x1, z_i x2, none, none, none, none, none, none] (q.1.toList ++ []) q.2 := zx_di 600 rfl
/- TickBound.locks -/
set_option maxRecDepth 100000 in
theorem ex_129_14 {nl : Int32} (x1 x2 : Int32) (d : zd_D) : zx nl 129 14 [z_r 0, z_i x1, z_i x2, none, none, none, none, none, none] [] d =
  if d.1 60 0 < 0 then
    some (some (.inl (d.1 60 0)), d)
  else
    (zx nl 130 0 [z_r 3, z_i 8, none, none, none] [] d).bind fun q => zx nl 129 27 [z_r 0, z_i x1, z_i x2, none, none, none, none, none, none] (q.1.toList ++ []) q.2 := zx_di 600 rfl
/- TickBound.locks -/
set_option maxRecDepth 100000 in
theorem ex_129_27 {nl : Int32} (x1 x2 y0 : Int32) (d : zd_D) : zx nl 129 27 [z_r 0, z_i x1, z_i x2, none, none, none, none, none, none] [(.inl y0)] d =
  (zx nl 91 0 [z_i y0] [] d).bind fun q => zx nl 129 31 [z_r 0, z_i x1, z_i x2, z_i y0, none, none, none, none, none] (q.1.toList ++ [(.inl x1)]) q.2 := zx_di 600 rfl
/- TickBound.locks -/
set_option maxRecDepth 100000 in
theorem ex_129_31 {nl : Int32} (x1 x2 x3 y0 y1 : Int32) (d : zd_D) : zx nl 129 31 [z_r 0, z_i x1, z_i x2, z_i x3, none, none, none, none, none] [(.inl y1), (.inl y0)] d =
  (zx nl 131 0 [z_r 0, z_i x3, z_i (if y1 < y0 then y1 else y0), z_i 0, none, none, none, none, none] [] d).bind fun q => zx nl 129 38 [z_r 0, z_i x1, z_i x2, z_i x3, z_i (if y1 < y0 then y1 else y0), none, none, none, none] (q.1.toList ++ []) q.2 := zx_di 600 rfl
/- TickBound.locks -/
set_option maxRecDepth 100000 in
theorem ex_129_38 {nl : Int32} (x1 x2 x3 x4 y0 : Int32) (d : zd_D) : zx nl 129 38 [z_r 0, z_i x1, z_i x2, z_i x3, z_i x4, none, none, none, none] [(.inl y0)] d =
  (zx nl 132 0 [z_r 0, z_i y0, z_i (d.1 2 3)] [] d).bind fun q => zx nl 129 47 [z_r 0, z_i x1, z_i x2, z_i x3, z_i x4, z_i y0, none, none, none] (q.1.toList ++ []) q.2 := zx_di 600 rfl
/- TickBound.locks -/
set_option maxRecDepth 100000 in
theorem ex_129_47 {nl : Int32} (x1 x2 x3 x4 x5 y0 : Int32) (d : zd_D) : zx nl 129 47 [z_r 0, z_i x1, z_i x2, z_i x3, z_i x4, z_i x5, none, none, none] [(.inl y0)] d =
  zx nl 129 53 [z_r 0, none, z_i x2, z_i x3, none, z_i x5, z_i y0, z_i (x4 - 1), none] [] d := zx_di 600 rfl
/- TickBound.locks -/
set_option maxRecDepth 100000 in
theorem ex_129_53 {nl : Int32} (x2 x3 x5 x6 x7 : Int32) (d : zd_D) : zx nl 129 53 [z_r 0, none, z_i x2, z_i x3, none, z_i x5, z_i x6, z_i x7, none] [] d =
  if x7 < 0 then
    if x2 = 0 then
      some (some (.inl x6), d)
    else
      some (some (.inl x5), d)
  else
    (zx nl 131 0 [z_r 0, z_i x3, z_i x7, z_i x6, none, none, none, none, none] [] d).bind fun q => zx nl 129 60 [z_r 0, none, z_i x2, z_i x3, none, z_i x5, z_i x6, z_i x7, none] (q.1.toList ++ []) q.2 := zx_di 600 rfl
/- TickBound.locks -/
set_option maxRecDepth 100000 in
theorem ex_129_60 {nl : Int32} (x2 x3 x5 x6 x7 y0 : Int32) (d : zd_D) : zx nl 129 60 [z_r 0, none, z_i x2, z_i x3, none, z_i x5, z_i x6, z_i x7, none] [(.inl y0)] d =
  (zx nl 132 0 [z_r 0, z_i y0, z_i (d.1 2 3)] [] d).bind fun q => zx nl 129 69 [z_r 0, none, z_i x2, z_i x3, none, z_i x5, z_i x6, z_i x7, z_i y0] (q.1.toList ++ []) q.2 := zx_di 600 rfl
/- TickBound.locks -/
set_option maxRecDepth 100000 in
theorem ex_129_69 {nl : Int32} (x2 x3 x5 x6 x7 x8 y0 : Int32) (d : zd_D) : zx nl 129 69 [z_r 0, none, z_i x2, z_i x3, none, z_i x5, z_i x6, z_i x7, z_i x8] [(.inl y0)] d =
  if x6 < y0 then
    if x2 = 0 then
      some (some (.inl x6), d)
    else
      some (some (.inl x5), d)
  else
    zx nl 129 53 [z_r 0, none, z_i x2, z_i x3, none, z_i x8, z_i x6, z_i (x7 + (-1)), none] [] d := zx_di 600 rfl
/- TickBound$Program.toldLines -/
set_option maxRecDepth 100000 in
theorem ex_130_0 {nl : Int32} (x1 : Int32) (d : zd_D) : zx nl 130 0 [z_r 3, z_i x1, none, none, none] [] d =
  zx nl 130 5 [z_r 3, z_i x1, z_i 0, z_i 0, none] [] d := zx_di 600 rfl
/- TickBound$Program.toldLines -/
set_option maxRecDepth 100000 in
theorem ex_130_5 {nl : Int32} (x1 x2 x3 : Int32) (d : zd_D) : zx nl 130 5 [z_r 3, z_i x1, z_i x2, z_i x3, none] [] d =
  if x3 < d.1 3 0 then
    cond (mx_in x3 28) (
      if d.1 9 x3.toNatClampNeg < 0 then
        zx nl 130 5 [z_r 3, z_i x1, z_i x2, z_i (x3 + 1), none] [] d
      else
        cond (mx_in x3 28) (
          zx nl 130 5 [z_r 3, z_i x1, z_i (x2 ||| ((1 : Int32) <<< ((d.1 9 x3.toNatClampNeg) &&& 31))), z_i (x3 + 1), none] [] d) none) none
  else
    zx nl 130 30 [none, z_i x1, z_i x2, z_i 0, z_i 0] [] d := zx_di 600 rfl
/- TickBound$Program.toldLines -/
set_option maxRecDepth 100000 in
theorem ex_130_30 {nl : Int32} (x1 x2 x3 x4 : Int32) (d : zd_D) : zx nl 130 30 [none, z_i x1, z_i x2, z_i x3, z_i x4] [] d =
  if x4 < 16 then
    (zx nl 91 0 [z_i x3] [] d).bind fun q => zx nl 130 35 [none, z_i x1, z_i x2, z_i x3, z_i x4] (q.1.toList ++ []) q.2
  else
    some (some (.inl x3), d) := zx_di 600 rfl
/- TickBound$Program.toldLines -/
set_option maxRecDepth 100000 in
theorem ex_130_35 {nl : Int32} (x1 x2 x3 x4 y0 : Int32) (d : zd_D) : zx nl 130 35 [none, z_i x1, z_i x2, z_i x3, z_i x4] [(.inl y0)] d =
  if y0 < x1 then
    zx nl 130 30 [none, z_i x1, z_i x2, z_i (x3 ||| (x2 &&& ((1 : Int32) <<< (x4 &&& 31)))), z_i (x4 + 1)] [] d
  else
    some (some (.inl x3), d) := zx_di 600 rfl
/- TickBound.bestLocks -/
set_option maxRecDepth 100000 in
theorem ex_131_0 {nl : Int32} (x1 x2 x3 : Int32) (d : zd_D) : zx nl 131 0 [z_r 0, z_i x1, z_i x2, z_i x3, none, none, none, none, none] [] d =
  zx nl 131 9 [z_r 0, z_i x1, z_i x2, z_i x3, z_i 0, z_i 2000000000, z_i 0, z_i 0, none] [] d := zx_di 600 rfl
/- TickBound.bestLocks -/
set_option maxRecDepth 100000 in
theorem ex_131_9 {nl : Int32} (x1 x2 x3 x4 x5 x6 x7 : Int32) (d : zd_D) : zx nl 131 9 [z_r 0, z_i x1, z_i x2, z_i x3, z_i x4, z_i x5, z_i x6, z_i x7, none] [] d =
  (zx nl 91 0 [z_i x1] [] d).bind fun q => zx nl 131 13 [z_r 0, z_i x1, z_i x2, z_i x3, z_i x4, z_i x5, z_i x6, z_i x7, none] (q.1.toList ++ [(.inl 1), (.inl x7)]) q.2 := zx_di 600 rfl
/- TickBound.bestLocks -/
set_option maxRecDepth 100000 in
theorem ex_131_13 {nl : Int32} (x1 x2 x3 x4 x5 x6 x7 y0 y1 y2 : Int32) (d : zd_D) : zx nl 131 13 [z_r 0, z_i x1, z_i x2, z_i x3, z_i x4, z_i x5, z_i x6, z_i x7, none] [(.inl y2), (.inl y1), (.inl y0)] d =
  if y0 < y1 <<< (y2 &&& 31) then
    if x3 < x5 then
      (zx nl 91 0 [z_i x6] [] d).bind fun q => zx nl 131 20 [z_r 0, z_i x1, z_i x2, z_i x3, z_i x4, z_i x5, z_i x6, z_i x7, none] (q.1.toList ++ []) q.2
    else
      some (some (.inl x4), d)
  else
    some (some (.inl x4), d) := zx_di 600 rfl
/- TickBound.bestLocks -/
set_option maxRecDepth 100000 in
theorem ex_131_20 {nl : Int32} (x1 x2 x3 x4 x5 x6 x7 y0 : Int32) (d : zd_D) : zx nl 131 20 [z_r 0, z_i x1, z_i x2, z_i x3, z_i x4, z_i x5, z_i x6, z_i x7, none] [(.inl y0)] d =
  if y0 = x2 then
    (zx nl 132 0 [z_r 0, z_i x6, z_i (d.1 2 3)] [] d).bind fun q => zx nl 131 30 [z_r 0, z_i x1, z_i x2, z_i x3, z_i x4, z_i x5, z_i x6, z_i x7, none] (q.1.toList ++ []) q.2
  else
    zx nl 131 9 [z_r 0, z_i x1, z_i x2, z_i x3, z_i x4, z_i x5, z_i ((x6 - x1) &&& x1), z_i (x7 + 1), none] [] d := zx_di 600 rfl
/- TickBound.bestLocks -/
set_option maxRecDepth 100000 in
theorem ex_131_30 {nl : Int32} (x1 x2 x3 x4 x5 x6 x7 y0 : Int32) (d : zd_D) : zx nl 131 30 [z_r 0, z_i x1, z_i x2, z_i x3, z_i x4, z_i x5, z_i x6, z_i x7, none] [(.inl y0)] d =
  if y0 < x5 then
    zx nl 131 9 [z_r 0, z_i x1, z_i x2, z_i x3, z_i x6, z_i y0, z_i ((x6 - x1) &&& x1), z_i (x7 + 1), none] [] d
  else
    zx nl 131 9 [z_r 0, z_i x1, z_i x2, z_i x3, z_i x4, z_i x5, z_i ((x6 - x1) &&& x1), z_i (x7 + 1), none] [] d := zx_di 600 rfl
/- TickBound.boundIf -/
set_option maxRecDepth 100000 in
theorem ex_132_0 {nl : Int32} (x1 x2 : Int32) (d : zd_D) : zx nl 132 0 [z_r 0, z_i x1, z_i x2] [] d =
  (zx nl 57 0 [z_r 53, z_i x1, z_i x2, none, none, none] [] d).bind fun q => zx nl 132 5 [z_r 0, z_i x1, z_i x2] (q.1.toList ++ []) q.2 := zx_di 600 rfl
/- TickBound.boundIf -/
set_option maxRecDepth 100000 in
theorem ex_132_5 {nl : Int32} (x1 x2 : Int32) (d : zd_D) : zx nl 132 5 [z_r 0, z_i x1, z_i x2] [] d =
  (zx nl 112 0 [z_r 60, none] [] d).bind fun q => zx nl 132 8 [z_r 0, z_i x1, z_i x2] (q.1.toList ++ []) q.2 := zx_di 600 rfl
/- TickBound.boundIf -/
set_option maxRecDepth 100000 in
theorem ex_132_8 {nl : Int32} (x1 x2 : Int32) (d : zd_D) : zx nl 132 8 [z_r 0, z_i x1, z_i x2] [] d =
  some (some (.inl (d.1 60 0)), (zd_u (zd_u d 0 9 0) 0 10 0)) := zx_di 600 rfl
/- TickBound.shared -/
set_option maxRecDepth 100000 in
theorem ex_133_0 {nl : Int32} (x1 x2 : Int32) (d : zd_D) : zx nl 133 0 [z_r 0, z_i x1, z_i x2] [] d =
  if x1 < 1 then
    some (some (.inl (-1000000001)), d)
  else
    if 9 < x1 then
      some (some (.inl (-1000000001)), d)
    else
      if x2 < 0 then
        some (some (.inl (-1000000001)), d)
      else
        if 99 < x2 then
          some (some (.inl (-1000000001)), d)
        else
          (zx nl 132 0 [z_r 0, z_i (d.1 1 4), z_i ((d.1 2 3) + ((x1 - 1) * x2))] [] d).bind fun q => zx nl 133 29 [z_r 0, z_i x1, z_i x2] (q.1.toList ++ []) q.2 := zx_di 600 rfl
/- TickBound.shared -/
set_option maxRecDepth 100000 in
theorem ex_133_29 {nl : Int32} (x1 x2 y0 : Int32) (d : zd_D) : zx nl 133 29 [z_r 0, z_i x1, z_i x2] [(.inl y0)] d =
  some (some (.inl y0), d) := zx_di 600 rfl
/- TickBound.work -/
set_option maxRecDepth 100000 in
theorem ex_134_0 {nl : Int32} (x1 x2 : Int32) (d : zd_D) : zx nl 134 0 [z_r 0, z_i x1, z_i x2] [] d =
  if x1 < 1 then
    some (some (.inl (-1000000001)), d)
  else
    if 9999 < x1 then
      some (some (.inl (-1000000001)), d)
    else
      if x2 < 1 then
        some (some (.inl (-1000000001)), d)
      else
        if 9999 < x2 then
          some (some (.inl (-1000000001)), d)
        else
          if d.1 15 0 < 8 then
            cond (mx_in (d.1 15 0) 8) (
              cond (mx_in (d.1 15 0) 8) (
                some (some (.inl (((d.1 15 0) + 1) - 1)), (zd_u (zd_u (zd_u d 16 (d.1 15 0).toNatClampNeg x1) 17 (d.1 15 0).toNatClampNeg x2) 15 0 ((d.1 15 0) + 1)))) none) none
          else
            some (some (.inl (-1000000003)), d) := zx_di 600 rfl
/- TickBound.answer -/
set_option maxRecDepth 100000 in
theorem ex_137_0 {nl : Int32} (x1 : Int32) (d : zd_D) : zx nl 137 0 [z_r 0, z_i x1] [] d =
  if x1 < 0 then
    some (some (.inl (-1000000001)), d)
  else
    if x1 < d.1 15 0 then
      (zx nl 138 0 [z_r 15, z_i x1, none, none, none, none] [] d).bind fun q => zx nl 137 15 [z_r 0, z_i x1] (q.1.toList ++ []) q.2
    else
      some (some (.inl (-1000000001)), d) := zx_di 600 rfl
/- TickBound.answer -/
set_option maxRecDepth 100000 in
theorem ex_137_15 {nl : Int32} (x1 y0 : Int32) (d : zd_D) : zx nl 137 15 [z_r 0, z_i x1] [(.inl y0)] d =
  some (some (.inl y0), d) := zx_di 600 rfl
/- TickBound$Works.answerOf -/
set_option maxRecDepth 100000 in
theorem ex_138_0 {nl : Int32} (x1 : Int32) (d : zd_D) : zx nl 138 0 [z_r 15, z_i x1, none, none, none, none] [] d =
  cond (mx_in x1 8) (
    zx nl 138 8 [z_r 15, z_i x1, z_i (d.1 16 x1.toNatClampNeg), z_i 0, none, none] [] d) none := zx_di 600 rfl
/- TickBound$Works.answerOf -/
set_option maxRecDepth 100000 in
theorem ex_138_8 {nl : Int32} (x1 x2 x3 : Int32) (d : zd_D) : zx nl 138 8 [z_r 15, z_i x1, z_i x2, z_i x3, none, none] [] d =
  if 9999 < x3 then
    some (some (.inl (-1000000005)), d)
  else
    cond (mx_in x1 8) (
      if d.1 17 x1.toNatClampNeg < x2 then
        some (some (.inl (-1000000005)), d)
      else
        cond (mx_in x1 8) (
          zx nl 138 25 [z_r 15, z_i x1, z_i x2, z_i x3, z_i (d.1 16 x1.toNatClampNeg), z_i 0] [] d) none) none := zx_di 600 rfl
/- TickBound$Works.answerOf -/
set_option maxRecDepth 100000 in
theorem ex_138_25 {nl : Int32} (x1 x2 x3 x4 x5 : Int32) (d : zd_D) : zx nl 138 25 [z_r 15, z_i x1, z_i x2, z_i x3, z_i x4, z_i x5] [] d =
  if x5 < x1 then
    cond (mx_in x5 8) (
      if 0 < d.1 17 x5.toNatClampNeg then
        cond (mx_in x5 8) (
          cond (mx_in x5 8) (
            cond (mx_in x5 8) (
              if d.1 17 x5.toNatClampNeg = 0 then
                none
              else
                zx nl 138 25 [z_r 15, z_i x1, z_i x2, z_i x3, z_i (x4 + ((d.1 16 x5.toNatClampNeg) * (((x2 + (d.1 17 x5.toNatClampNeg)) - 1) / (d.1 17 x5.toNatClampNeg)))), z_i (x5 + 1)] [] d) none) none) none
      else
        zx nl 138 25 [z_r 15, z_i x1, z_i x2, z_i x3, z_i x4, z_i (x5 + 1)] [] d) none
  else
    if x4 = x2 then
      some (some (.inl x2), d)
    else
      zx nl 138 8 [z_r 15, z_i x1, z_i x4, z_i (x3 + 1), none, none] [] d := zx_di 600 rfl
/- TickBound.fits -/
set_option maxRecDepth 100000 in
theorem ex_139_0 {nl : Int32} (d : zd_D) : zx nl 139 0 [z_r 0, none] [] d =
  zx nl 139 3 [z_r 0, z_i 0] [] d := zx_di 600 rfl
/- TickBound.fits -/
set_option maxRecDepth 100000 in
theorem ex_139_3 {nl : Int32} (x1 : Int32) (d : zd_D) : zx nl 139 3 [z_r 0, z_i x1] [] d =
  if x1 < d.1 15 0 then
    (zx nl 138 0 [z_r 15, z_i x1, none, none, none, none] [] d).bind fun q => zx nl 139 14 [z_r 0, z_i x1] (q.1.toList ++ []) q.2
  else
    some (some (.inl (-1)), d) := zx_di 600 rfl
/- TickBound.fits -/
set_option maxRecDepth 100000 in
theorem ex_139_14 {nl : Int32} (x1 y0 : Int32) (d : zd_D) : zx nl 139 14 [z_r 0, z_i x1] [(.inl y0)] d =
  if y0 = (-1000000005) then
    some (some (.inl x1), d)
  else
    zx nl 139 3 [z_r 0, z_i (x1 + 1)] [] d := zx_di 600 rfl
/- TickBound.sheet -/
set_option maxRecDepth 100000 in
theorem ex_140_0 {nl : Int32} (x1 x2 x3 : Int32) (d : zd_D) : zx nl 140 0 [z_r 0, z_i x1, z_i x2, z_i x3] [] d =
  if x1 < 0 then
    some (some (.inl (-1000000001)), d)
  else
    if x1 < 4 then
      if x2 < (-1) then
        some (some (.inl (-1000000001)), d)
      else
        if 3 < x2 then
          some (some (.inl (-1000000001)), d)
        else
          if x2 = (-1) then
            zx nl 140 15 [z_r 0, z_i x1, none, none] [] d
          else
            if 32 < x3 then
              some (some (.inl (-1000000001)), d)
            else
              if x3 < 0 then
                some (some (.inl (-1000000014)), d)
              else
                zx nl 140 33 [z_r 0, z_i x1, z_i x2, z_i x3] [] d
    else
      some (some (.inl (-1000000001)), d) := zx_di 600 rfl
/- TickBound.sheet -/
set_option maxRecDepth 100000 in
theorem ex_140_15 {nl : Int32} (x1 : Int32) (h1 : x1 = 0 ∨ x1 = 1 ∨ x1 = 2 ∨ x1 = 3) (d : zd_D) : zx nl 140 15 [z_r 0, z_i x1, none, none] [] d =
  some (some (.inl 0), (zd_u d (zd_rr 62 x1.toNatClampNeg) 0 0)) := by rcases h1 with rfl | rfl | rfl | rfl <;> exact zx_di 600 rfl
/- TickBound.sheet -/
set_option maxRecDepth 100000 in
theorem ex_140_33 {nl : Int32} (x1 x2 x3 : Int32) (h1 : x1 = 0 ∨ x1 = 1 ∨ x1 = 2 ∨ x1 = 3) (d : zd_D) : zx nl 140 33 [z_r 0, z_i x1, z_i x2, z_i x3] [] d =
  (zx nl 142 0 [z_r (zd_rr 62 x1.toNatClampNeg), z_i x2, z_i x3] [] d).bind fun q => zx nl 140 40 [z_r 0, z_i x1, z_i x2, z_i x3] (q.1.toList ++ []) q.2 := by rcases h1 with rfl | rfl | rfl | rfl <;> exact zx_di 600 rfl
/- TickBound.sheet -/
set_option maxRecDepth 100000 in
theorem ex_140_40 {nl : Int32} (x1 x2 x3 : Int32) (d : zd_D) : zx nl 140 40 [z_r 0, z_i x1, z_i x2, z_i x3] [] d =
  some (some (.inl x3), d) := zx_di 600 rfl
/- TickBound$Sheet.begin -/
set_option maxRecDepth 100000 in
theorem ex_142_0 {nl : Int32} (c0 : Nat) (x1 x2 : Int32) (h : c0 = 65 ∨ c0 = 67 ∨ c0 = 69 ∨ c0 = 71) (d : zd_D) : zx nl 142 0 [z_r c0, z_i x1, z_i x2] [] d =
  (zx nl 143 0 [z_r (c0 + 1), some (.inr (.inl (Int32.toInt64 0))), none, none, none] [] (zd_u (zd_u (zd_u d c0 0 1) c0 1 x1) c0 2 x2)).bind fun q => zx nl 142 13 [z_r c0, z_i x1, z_i x2] (q.1.toList ++ []) q.2 := by rcases h with rfl | rfl | rfl | rfl <;> exact zx_di 600 rfl
/- TickBound$Sheet.begin -/
set_option maxRecDepth 100000 in
theorem ex_142_13 {nl : Int32} (c0 : Nat) (x1 x2 : Int32) (h : c0 = 65 ∨ c0 = 67 ∨ c0 = 69 ∨ c0 = 71) (d : zd_D) : zx nl 142 13 [z_r c0, z_i x1, z_i x2] [] d =
  some (none, d) := by rcases h with rfl | rfl | rfl | rfl <;> exact zx_di 600 rfl
/- java/util/Arrays.fill -/
set_option maxRecDepth 100000 in
theorem ex_143_0 {nl : Int32} (c0 : Nat) (x1 : Int64) (h : c0 = 66 ∨ c0 = 68 ∨ c0 = 70 ∨ c0 = 72) (d : zd_D) : zx nl 143 0 [z_r c0, some (.inr (.inl x1)), none, none, none] [] d =
  zx nl 143 6 [z_r c0, some (.inr (.inl x1)), none, z_i 0, z_i (Int32.ofNat 32)] [] d := by rcases h with rfl | rfl | rfl | rfl <;> exact zx_di 600 rfl
/- java/util/Arrays.fill -/
set_option maxRecDepth 100000 in
theorem ex_143_6 {nl : Int32} (c0 : Nat) (x3 x4 : Int32) (x1 : Int64) (h : c0 = 66 ∨ c0 = 68 ∨ c0 = 70 ∨ c0 = 72) (d : zd_D) : zx nl 143 6 [z_r c0, some (.inr (.inl x1)), none, z_i x3, z_i x4] [] d =
  if x3 < x4 then
    cond (mx_in x3 32) (
      zx nl 143 6 [z_r c0, some (.inr (.inl x1)), none, z_i (x3 + 1), z_i x4] [] (zd_ul d c0 x3.toNatClampNeg x1)) none
  else
    some (none, d) := by rcases h with rfl | rfl | rfl | rfl <;> exact zx_di 600 rfl
/- TickBound.mark -/
set_option maxRecDepth 100000 in
theorem ex_144_0 {nl : Int32} (x1 x2 x3 : Int32) (d : zd_D) : zx nl 144 0 [z_r 0, z_i x1, z_i x2, z_i x3, none] [] d =
  if x1 < 0 then
    some (some (.inl (-1000000001)), d)
  else
    if x1 < 4 then
      zx nl 144 6 [z_r 0, z_i x1, z_i x2, z_i x3, none] [] d
    else
      some (some (.inl (-1000000001)), d) := zx_di 600 rfl
/- TickBound.mark -/
set_option maxRecDepth 100000 in
theorem ex_144_6 {nl : Int32} (x1 x2 x3 : Int32) (h1 : x1 = 0 ∨ x1 = 1 ∨ x1 = 2 ∨ x1 = 3) (d : zd_D) : zx nl 144 6 [z_r 0, z_i x1, z_i x2, z_i x3, none] [] d =
  if d.1 (zd_rr 62 x1.toNatClampNeg) 0 = 0 then
    some (some (.inl (-1000000011)), d)
  else
    if x2 < 0 then
      some (some (.inl (-1000000013)), d)
    else
      if d.1 (zd_rr 62 x1.toNatClampNeg) 2 < x2 then
        some (some (.inl (-1000000013)), d)
      else
        if (d.1 (zd_rr 62 x1.toNatClampNeg) 2) - x2 < 1 then
          some (some (.inl (-1000000013)), d)
        else
          if d.1 (zd_rr 62 x1.toNatClampNeg) 1 = 0 then
            cond (mx_in x2 32) (
              some (some (.inl 1), (zd_ul d ((zd_rr 62 x1.toNatClampNeg) + 1) x2.toNatClampNeg (Int32.toInt64 ((Int32.toInt8 x3).toInt32))))) none
          else
            if d.1 (zd_rr 62 x1.toNatClampNeg) 1 = 1 then
              cond (mx_in x2 32) (
                some (some (.inl 1), (zd_ul d ((zd_rr 62 x1.toNatClampNeg) + 1) x2.toNatClampNeg (Int32.toInt64 ((Int32.toInt16 x3).toInt32))))) none
            else
              cond (mx_in x2 32) (
                some (some (.inl 1), (zd_ul d ((zd_rr 62 x1.toNatClampNeg) + 1) x2.toNatClampNeg (Int32.toInt64 x3)))) none := by rcases h1 with rfl | rfl | rfl | rfl <;> exact zx_di 600 rfl
/- TickBound.pour -/
set_option maxRecDepth 100000 in
theorem ex_147_0 {nl : Int32} (x1 x2 x3 x4 : Int32) (d : zd_D) : zx nl 147 0 [z_r 0, z_i x1, z_i x2, z_i x3, z_i x4, none, none] [] d =
  if x1 < 0 then
    some (some (.inl (-1000000001)), d)
  else
    if x1 < 4 then
      if x3 < 0 then
        some (some (.inl (-1000000001)), d)
      else
        if x3 < 32 then
          if x4 < 0 then
            some (some (.inl (-1000000001)), d)
          else
            if 32 - x3 < x4 then
              some (some (.inl (-1000000001)), d)
            else
              zx nl 147 18 [z_r 0, z_i x1, z_i x2, z_i x3, z_i x4, none, none] [] d
        else
          some (some (.inl (-1000000001)), d)
    else
      some (some (.inl (-1000000001)), d) := zx_di 600 rfl
/- TickBound.pour -/
set_option maxRecDepth 100000 in
theorem ex_147_18 {nl : Int32} (x1 x2 x3 x4 : Int32) (h1 : x1 = 0 ∨ x1 = 1 ∨ x1 = 2 ∨ x1 = 3) (d : zd_D) : zx nl 147 18 [z_r 0, z_i x1, z_i x2, z_i x3, z_i x4, none, none] [] d =
  if d.1 (zd_rr 62 x1.toNatClampNeg) 0 = 0 then
    some (some (.inl (-1000000011)), d)
  else
    if x2 < 0 then
      some (some (.inl (-1000000013)), d)
    else
      if x4 < 0 then
        some (some (.inl (-1000000013)), d)
      else
        if d.1 (zd_rr 62 x1.toNatClampNeg) 2 < x2 then
          some (some (.inl (-1000000013)), d)
        else
          if (d.1 (zd_rr 62 x1.toNatClampNeg) 2) - x2 < x4 then
            some (some (.inl (-1000000013)), d)
          else
            zx nl 147 38 [z_r 0, none, z_i x2, z_i x3, z_i x4, z_r (zd_rr 62 x1.toNatClampNeg), z_i 0] [] d := by rcases h1 with rfl | rfl | rfl | rfl <;> exact zx_di 600 rfl
/- TickBound.pour -/
set_option maxRecDepth 100000 in
theorem ex_147_38 {nl : Int32} (c0 : Nat) (x2 x3 x4 x6 : Int32) (h : c0 = 65 ∨ c0 = 67 ∨ c0 = 69 ∨ c0 = 71) (d : zd_D) : zx nl 147 38 [z_r 0, none, z_i x2, z_i x3, z_i x4, z_r c0, z_i x6] [] d =
  if x6 < x4 then
    cond (mx_in (x2 + x6) 32) (
      cond (mx_in (x3 + x6) 32) (
        zx nl 147 38 [z_r 0, none, z_i x2, z_i x3, z_i x4, z_r c0, z_i (x6 + 1)] [] (zd_u d 14 (x3 + x6).toNatClampNeg (Int64.toInt32 (d.2.1 (c0 + 1) (x2 + x6).toNatClampNeg)))) none) none
  else
    some (some (.inl x4), d) := by rcases h with rfl | rfl | rfl | rfl <;> exact zx_di 600 rfl
/- TickBound.copy -/
set_option maxRecDepth 100000 in
theorem ex_148_0 {nl : Int32} (x1 x2 x3 x4 x5 : Int32) (d : zd_D) : zx nl 148 0 [z_r 0, z_i x1, z_i x2, z_i x3, z_i x4, z_i x5, none, none] [] d =
  if x1 < 0 then
    some (some (.inl (-1000000001)), d)
  else
    if x1 < 4 then
      if x3 < 0 then
        some (some (.inl (-1000000001)), d)
      else
        if x3 < 4 then
          zx nl 148 9 [z_r 0, z_i x1, z_i x2, z_i x3, z_i x4, z_i x5, none, none] [] d
        else
          some (some (.inl (-1000000001)), d)
    else
      some (some (.inl (-1000000001)), d) := zx_di 600 rfl
/- TickBound.copy -/
set_option maxRecDepth 100000 in
theorem ex_148_9 {nl : Int32} (x1 x2 x3 x4 x5 : Int32) (h1 : x1 = 0 ∨ x1 = 1 ∨ x1 = 2 ∨ x1 = 3) (h3 : x3 = 0 ∨ x3 = 1 ∨ x3 = 2 ∨ x3 = 3) (d : zd_D) : zx nl 148 9 [z_r 0, z_i x1, z_i x2, z_i x3, z_i x4, z_i x5, none, none] [] d =
  if d.1 (zd_rr 62 x1.toNatClampNeg) 0 = 0 then
    some (some (.inl (-1000000011)), d)
  else
    if d.1 (zd_rr 62 x3.toNatClampNeg) 0 = 0 then
      some (some (.inl (-1000000011)), d)
    else
      if d.1 (zd_rr 62 x1.toNatClampNeg) 1 = d.1 (zd_rr 62 x3.toNatClampNeg) 1 then
        if x2 < 0 then
          some (some (.inl (-1000000013)), d)
        else
          if x5 < 0 then
            some (some (.inl (-1000000013)), d)
          else
            if d.1 (zd_rr 62 x1.toNatClampNeg) 2 < x2 then
              some (some (.inl (-1000000013)), d)
            else
              if (d.1 (zd_rr 62 x1.toNatClampNeg) 2) - x2 < x5 then
                some (some (.inl (-1000000013)), d)
              else
                if x4 < 0 then
                  some (some (.inl (-1000000013)), d)
                else
                  if x5 < 0 then
                    some (some (.inl (-1000000013)), d)
                  else
                    if d.1 (zd_rr 62 x3.toNatClampNeg) 2 < x4 then
                      some (some (.inl (-1000000013)), d)
                    else
                      if (d.1 (zd_rr 62 x3.toNatClampNeg) 2) - x4 < x5 then
                        some (some (.inl (-1000000013)), d)
                      else
                        if ¬ x2 < 0 ∧ ¬ x4 < 0 ∧ ¬ x5 < 0 ∧ x2.toNatClampNeg + x5.toNatClampNeg ≤ 32 ∧ x4.toNatClampNeg + x5.toNatClampNeg ≤ 32 then
                          some (some (.inl x5), (zd_sl d ((zd_rr 62 x3.toNatClampNeg) + 1) (va_cpy (d.2.1 ((zd_rr 62 x1.toNatClampNeg) + 1)) (d.2.1 ((zd_rr 62 x3.toNatClampNeg) + 1)) x2.toNatClampNeg x4.toNatClampNeg x5.toNatClampNeg)))
                        else
                          none
      else
        some (some (.inl (-1000000012)), d) := by rcases h1 with rfl | rfl | rfl | rfl <;> rcases h3 with rfl | rfl | rfl | rfl <;> exact zx_di 600 rfl
/- TickBound.lay -/
set_option maxRecDepth 100000 in
theorem ex_149_0 {nl : Int32} (x1 x2 x3 : Int32) (d : zd_D) : zx nl 149 0 [z_r 0, z_i x1, z_i x2, z_i x3, none, none] [] d =
  if x1 < 0 then
    some (some (.inl (-1000000001)), d)
  else
    if x1 < 6 then
      if x2 < 0 then
        some (some (.inl (-1000000001)), d)
      else
        if 3 < x2 then
          some (some (.inl (-1000000001)), d)
        else
          if x2 = 1 then
            if x3 < 0 then
              some (some (.inl (-1000000001)), d)
            else
              if x3 < d.1 3 0 then
                if x2 = 2 then
                  if x3 < 0 then
                    some (some (.inl (-1000000001)), d)
                  else
                    if x3 < 4 then
                      if x2 = 2 then
                        zx nl 149 29 [z_r 0, z_i x1, z_i x2, z_i x3, none, none] [] d
                      else
                        zx nl 149 38 [z_r 0, z_i x1, z_i x2, z_i x3, none, none] [] d
                    else
                      some (some (.inl (-1000000001)), d)
                else
                  if x2 = 2 then
                    zx nl 149 29 [z_r 0, z_i x1, z_i x2, z_i x3, none, none] [] d
                  else
                    zx nl 149 38 [z_r 0, z_i x1, z_i x2, z_i x3, none, none] [] d
              else
                some (some (.inl (-1000000001)), d)
          else
            if x2 = 2 then
              if x3 < 0 then
                some (some (.inl (-1000000001)), d)
              else
                if x3 < 4 then
                  if x2 = 2 then
                    zx nl 149 29 [z_r 0, z_i x1, z_i x2, z_i x3, none, none] [] d
                  else
                    zx nl 149 38 [z_r 0, z_i x1, z_i x2, z_i x3, none, none] [] d
                else
                  some (some (.inl (-1000000001)), d)
            else
              if x2 = 2 then
                zx nl 149 29 [z_r 0, z_i x1, z_i x2, z_i x3, none, none] [] d
              else
                zx nl 149 38 [z_r 0, z_i x1, z_i x2, z_i x3, none, none] [] d
    else
      some (some (.inl (-1000000001)), d) := zx_di 600 rfl
/- TickBound.lay -/
set_option maxRecDepth 100000 in
theorem ex_149_29 {nl : Int32} (x1 x2 x3 : Int32) (h3 : x3 = 0 ∨ x3 = 1 ∨ x3 = 2 ∨ x3 = 3) (d : zd_D) : zx nl 149 29 [z_r 0, z_i x1, z_i x2, z_i x3, none, none] [] d =
  if d.1 (zd_rr 62 x3.toNatClampNeg) 0 = 0 then
    some (some (.inl (-1000000011)), d)
  else
    zx nl 149 38 [z_r 0, z_i x1, z_i x2, z_i x3, none, none] [] d := by rcases h3 with rfl | rfl | rfl | rfl <;> exact zx_di 600 rfl
/- TickBound.lay -/
set_option maxRecDepth 100000 in
theorem ex_149_38 {nl : Int32} (x1 x2 x3 : Int32) (h1 : x1 = 0 ∨ x1 = 1 ∨ x1 = 2 ∨ x1 = 3 ∨ x1 = 4 ∨ x1 = 5) (d : zd_D) : zx nl 149 38 [z_r 0, z_i x1, z_i x2, z_i x3, none, none] [] d =
  if x2 = 1 then
    cond (mx_in x3 28) (
      cond (mx_in x3 28) (
        some (some (.inl (d.1 (zd_rr 63 x1.toNatClampNeg) 0)), (zd_u (zd_u (zd_u d (zd_rr 63 x1.toNatClampNeg) 0 x2) (zd_rr 63 x1.toNatClampNeg) 1 (d.1 4 x3.toNatClampNeg)) (zd_rr 63 x1.toNatClampNeg) 2 (d.1 9 x3.toNatClampNeg)))) none) none
  else
    if x2 = 2 then
      zx nl 149 63 [z_r 0, none, none, z_i x3, z_r (zd_rr 63 x1.toNatClampNeg), z_i (d.1 (zd_rr 63 x1.toNatClampNeg) 0)] [] (zd_u d (zd_rr 63 x1.toNatClampNeg) 0 x2)
    else
      some (some (.inl (d.1 (zd_rr 63 x1.toNatClampNeg) 0)), (zd_u d (zd_rr 63 x1.toNatClampNeg) 0 x2)) := by rcases h1 with rfl | rfl | rfl | rfl | rfl | rfl <;> exact zx_di 600 rfl
/- TickBound.lay -/
set_option maxRecDepth 100000 in
theorem ex_149_63 {nl : Int32} (c0 : Nat) (x3 x5 : Int32) (h : c0 = 73 ∨ c0 = 76 ∨ c0 = 79 ∨ c0 = 82 ∨ c0 = 85 ∨ c0 = 88) (h3 : x3 = 0 ∨ x3 = 1 ∨ x3 = 2 ∨ x3 = 3) (d : zd_D) : zx nl 149 63 [z_r 0, none, none, z_i x3, z_r c0, z_i x5] [] d =
  cond (d.1 (zd_rr 62 x3.toNatClampNeg) 0 == 0 || d.1 (zd_rr 62 x3.toNatClampNeg) 0 == 1) (
    some (some (.inl x5), (zd_sl (zd_u (zd_u (zd_u d (c0 + 1) 0 (d.1 (zd_rr 62 x3.toNatClampNeg) 0)) (c0 + 1) 1 (d.1 (zd_rr 62 x3.toNatClampNeg) 1)) (c0 + 1) 2 (d.1 (zd_rr 62 x3.toNatClampNeg) 2)) ((c0 + 1) + 1) (va_cpy (d.2.1 ((zd_rr 62 x3.toNatClampNeg) + 1)) (d.2.1 ((c0 + 1) + 1)) 0 0 32)))) none := by rcases h with rfl | rfl | rfl | rfl | rfl | rfl <;> rcases h3 with rfl | rfl | rfl | rfl <;> exact zx_di 600 rfl
/- TickBound.ask -/
set_option maxRecDepth 100000 in
theorem ex_153_0 {nl : Int32} (x1 x2 : Int32) (d : zd_D) : zx nl 153 0 [z_r 0, z_i x1, z_i x2, none, none] [] d =
  if x1 < 0 then
    some (some (.inl (-1000000001)), d)
  else
    if x1 < 6 then
      if x2 < 0 then
        some (some (.inl (-1000000001)), d)
      else
        if x2 < 8 then
          zx nl 153 9 [z_r 0, z_i x1, z_i x2, none, none] [] d
        else
          some (some (.inl (-1000000001)), d)
    else
      some (some (.inl (-1000000001)), d) := zx_di 600 rfl
/- TickBound.ask -/
set_option maxRecDepth 100000 in
theorem ex_153_9 {nl : Int32} (x1 x2 : Int32) (h1 : x1 = 0 ∨ x1 = 1 ∨ x1 = 2 ∨ x1 = 3 ∨ x1 = 4 ∨ x1 = 5) (d : zd_D) : zx nl 153 9 [z_r 0, z_i x1, z_i x2, none, none] [] d =
  if d.1 (zd_rr 63 x1.toNatClampNeg) 0 = 0 then
    some (some (.inl (-1000000011)), d)
  else
    if d.1 (zd_rr 63 x1.toNatClampNeg) 0 = 1 then
      (zx nl 46 0 [z_i (d.1 (zd_rr 63 x1.toNatClampNeg) 1), z_i x2, none, none] [] d).bind fun q => zx nl 153 27 [z_r 0, z_i x1, z_i x2, z_r (zd_rr 63 x1.toNatClampNeg), none] (q.1.toList ++ []) q.2
    else
      some (some (.inl (-1000000012)), d) := by rcases h1 with rfl | rfl | rfl | rfl | rfl | rfl <;> exact zx_di 600 rfl
/- TickBound.ask -/
set_option maxRecDepth 100000 in
theorem ex_153_27 {nl : Int32} (c0 : Nat) (x1 x2 y0 : Int32) (h : c0 = 73 ∨ c0 = 76 ∨ c0 = 79 ∨ c0 = 82 ∨ c0 = 85 ∨ c0 = 88) (d : zd_D) : zx nl 153 27 [z_r 0, z_i x1, z_i x2, z_r c0, none] [(.inl y0)] d =
  if y0 = 0 then
    some (some (.inl (-1000000012)), d)
  else
    if d.1 c0 2 < 0 then
      (zx nl 69 0 [z_i (d.1 c0 1), z_r 2, z_i (d.1 2 3)] [] d).bind fun q => zx nl 153 62 [z_r 0, z_i x1, z_i x2, z_r c0, z_i 0] (q.1.toList ++ []) q.2
    else
      if ((d.1 1 4) >>> ((d.1 c0 2) &&& 31)) &&& 1 = 1 then
        (zx nl 69 0 [z_i (d.1 c0 1), z_r 2, z_i 0] [] d).bind fun q => zx nl 153 62 [z_r 0, z_i x1, z_i x2, z_r c0, z_i 1] (q.1.toList ++ []) q.2
      else
        (zx nl 69 0 [z_i (d.1 c0 1), z_r 2, z_i (d.1 2 3)] [] d).bind fun q => zx nl 153 62 [z_r 0, z_i x1, z_i x2, z_r c0, z_i 0] (q.1.toList ++ []) q.2 := by rcases h with rfl | rfl | rfl | rfl | rfl | rfl <;> exact zx_di 600 rfl
/- TickBound.ask -/
set_option maxRecDepth 100000 in
theorem ex_153_62 {nl : Int32} (c0 : Nat) (x1 x2 x4 y0 : Int32) (h : c0 = 73 ∨ c0 = 76 ∨ c0 = 79 ∨ c0 = 82 ∨ c0 = 85 ∨ c0 = 88) (d : zd_D) : zx nl 153 62 [z_r 0, z_i x1, z_i x2, z_r c0, z_i x4] [(.inl y0)] d =
  some (some (.inl y0), d) := by rcases h with rfl | rfl | rfl | rfl | rfl | rfl <;> exact zx_di 600 rfl
/- TickBound.item -/
set_option maxRecDepth 100000 in
theorem ex_154_0 {nl : Int32} (x1 x2 : Int32) (d : zd_D) : zx nl 154 0 [z_r 0, z_i x1, z_i x2, none] [] d =
  if x1 < 0 then
    some (some (.inl (-1000000001)), d)
  else
    if x1 < 6 then
      zx nl 154 6 [z_r 0, z_i x1, z_i x2, none] [] d
    else
      some (some (.inl (-1000000001)), d) := zx_di 600 rfl
/- TickBound.item -/
set_option maxRecDepth 100000 in
theorem ex_154_6 {nl : Int32} (x1 x2 : Int32) (h1 : x1 = 0 ∨ x1 = 1 ∨ x1 = 2 ∨ x1 = 3 ∨ x1 = 4 ∨ x1 = 5) (d : zd_D) : zx nl 154 6 [z_r 0, z_i x1, z_i x2, none] [] d =
  if d.1 (zd_rr 63 x1.toNatClampNeg) 0 = 0 then
    some (some (.inl (-1000000011)), d)
  else
    if d.1 (zd_rr 63 x1.toNatClampNeg) 0 = 2 then
      if x2 < 0 then
        some (some (.inl (-1000000013)), d)
      else
        if d.1 ((zd_rr 63 x1.toNatClampNeg) + 1) 2 < x2 then
          some (some (.inl (-1000000013)), d)
        else
          if (d.1 ((zd_rr 63 x1.toNatClampNeg) + 1) 2) - x2 < 1 then
            some (some (.inl (-1000000013)), d)
          else
            cond (mx_in x2 32) (
              some (some (.inl (Int64.toInt32 (d.2.1 (((zd_rr 63 x1.toNatClampNeg) + 1) + 1) x2.toNatClampNeg))), d)) none
    else
      some (some (.inl (-1000000012)), d) := by rcases h1 with rfl | rfl | rfl | rfl | rfl | rfl <;> exact zx_di 600 rfl
/- TickBound.tell -/
set_option maxRecDepth 100000 in
theorem ex_155_0 {nl : Int32} (x1 : Int32) (d : zd_D) : zx nl 155 0 [z_r 0, z_i x1] [] d =
  if d.1 0 14 < 60 then
    cond (mx_in (d.1 0 14) 60) (
      some (some (.inl ((d.1 0 14) + 1)), (zd_u (zd_u d 64 (d.1 0 14).toNatClampNeg x1) 0 14 ((d.1 0 14) + 1)))) none
  else
    some (some (.inl (-1000000003)), d) := zx_di 600 rfl
/- TickBound.check -/
set_option maxRecDepth 100000 in
theorem ex_156_0 {nl : Int32} (d : zd_D) : zx nl 156 0 [z_r 0, none, none, none] [] d =
  (zx nl 128 0 [z_r 3, none, none] [] (zd_u d 0 14 0)).bind fun q => zx nl 156 12 [z_r 0, z_i (d.1 0 14), z_r 3, none] (q.1.toList ++ []) q.2 := zx_di 600 rfl
/- TickBound.check -/
set_option maxRecDepth 100000 in
theorem ex_156_12 {nl : Int32} (x1 y0 : Int32) (d : zd_D) : zx nl 156 12 [z_r 0, z_i x1, z_r 3, none] [(.inl y0)] d =
  if x1 = (d.1 3 0) + y0 then
    (zx nl 157 0 [z_r 0, z_i (d.1 3 0), z_i x1, none] [] d).bind fun q => zx nl 156 24 [z_r 0, z_i x1, z_r 3, z_i y0] (q.1.toList ++ []) q.2
  else
    some (some (.inl (-1000000002)), d) := zx_di 600 rfl
/- TickBound.check -/
set_option maxRecDepth 100000 in
theorem ex_156_24 {nl : Int32} (x1 x3 y0 : Int32) (d : zd_D) : zx nl 156 24 [z_r 0, z_i x1, z_r 3, z_i x3] [(.inl y0)] d =
  if y0 = 0 then
    (zx nl 127 0 [z_r 3, none, none] [] d).bind fun q => zx nl 156 29 [z_r 0, z_i x1, z_r 3, z_i x3] (q.1.toList ++ []) q.2
  else
    some (some (.inl (-1000000002)), d) := zx_di 600 rfl
/- TickBound.check -/
set_option maxRecDepth 100000 in
theorem ex_156_29 {nl : Int32} (x1 x3 y0 : Int32) (d : zd_D) : zx nl 156 29 [z_r 0, z_i x1, z_r 3, z_i x3] [(.inl y0)] d =
  if y0 < x3 then
    some (some (.inl (-1000000005)), d)
  else
    (zx nl 56 0 [z_r 0] [] d).bind fun q => zx nl 156 35 [z_r 0, z_i x1, z_r 3, z_i x3] (q.1.toList ++ []) q.2 := zx_di 600 rfl
/- TickBound.check -/
set_option maxRecDepth 100000 in
theorem ex_156_35 {nl : Int32} (x1 x3 : Int32) (d : zd_D) : zx nl 156 35 [z_r 0, z_i x1, z_r 3, z_i x3] [] d =
  (zx nl 158 0 [z_r 0, none, none, none, none, none, none, none, none, none] [] d).bind fun q => zx nl 156 37 [z_r 0, z_i x1, z_r 3, z_i x3] (q.1.toList ++ []) q.2 := zx_di 600 rfl
/- TickBound.check -/
set_option maxRecDepth 100000 in
theorem ex_156_37 {nl : Int32} (x1 x3 y0 : Int32) (d : zd_D) : zx nl 156 37 [z_r 0, z_i x1, z_r 3, z_i x3] [(.inl y0)] d =
  some (some (.inl y0), d) := zx_di 600 rfl
/- TickBound.someBelowZero -/
set_option maxRecDepth 100000 in
theorem ex_157_0 {nl : Int32} (x1 x2 : Int32) (d : zd_D) : zx nl 157 0 [z_r 0, z_i x1, z_i x2, none] [] d =
  zx nl 157 3 [z_r 0, none, z_i x2, z_i x1] [] d := zx_di 600 rfl
/- TickBound.someBelowZero -/
set_option maxRecDepth 100000 in
theorem ex_157_3 {nl : Int32} (x2 x3 : Int32) (d : zd_D) : zx nl 157 3 [z_r 0, none, z_i x2, z_i x3] [] d =
  if x3 < x2 then
    cond (mx_in x3 60) (
      if d.1 64 x3.toNatClampNeg < 0 then
        some (some (.inl 1), d)
      else
        zx nl 157 3 [z_r 0, none, z_i x2, z_i (x3 + 1)] [] d) none
  else
    some (some (.inl 0), d) := zx_di 600 rfl
/- TickBound.provedByWaiting -/
set_option maxRecDepth 100000 in
theorem ex_158_0 {nl : Int32} (d : zd_D) : zx nl 158 0 [z_r 0, none, none, none, none, none, none, none, none, none] [] d =
  if 0 < d.1 3 0 then
    zx nl 158 21 [z_r 0, z_r 3, some (.inr (.inl (Int32.toInt64 (d.1 64 0)))), none, z_i (d.1 3 0), z_i 0, none, none, none, none] [] d
  else
    zx nl 158 21 [z_r 0, z_r 3, some (.inr (.inl (Int32.toInt64 0))), none, z_i (d.1 3 0), z_i 0, none, none, none, none] [] d := zx_di 600 rfl
/- TickBound.record -/
set_option maxRecDepth 100000 in
theorem ex_159_0 {nl : Int32} (d : zd_D) : zx nl 159 0 [z_r 0, none, none, none, none] [] d =
  if d.1 45 0 = 0 then
    some (some (.inl (-1000000002)), (zd_u d 0 14 0))
  else
    zx nl 159 15 [z_r 0, z_i (d.1 0 14), z_i 0, none, none] [] (zd_u d 0 14 0) := zx_di 600 rfl
/- TickBound.record -/
set_option maxRecDepth 100000 in
theorem ex_159_15 {nl : Int32} (x1 x2 : Int32) (d : zd_D) : zx nl 159 15 [z_r 0, z_i x1, z_i x2, none, none] [] d =
  if x2 < x1 then
    if x2 / 2 < d.1 45 2 then
      if x2 - x2 / 2 * 2 = 0 then
        cond (mx_in (x2 / 2) 600) (
          cond (mx_in x2 60) (
            if d.1 64 x2.toNatClampNeg = d.1 47 (x2 / 2).toNatClampNeg then
              zx nl 159 15 [z_r 0, z_i x1, z_i (x2 + 1), none, none] [] d
            else
              some (some (.inl (1 + x2)), d)) none) none
      else
        cond (mx_in (x2 / 2) 600) (
          cond (mx_in x2 60) (
            if d.1 64 x2.toNatClampNeg = d.1 48 (x2 / 2).toNatClampNeg then
              zx nl 159 15 [z_r 0, z_i x1, z_i (x2 + 1), none, none] [] d
            else
              some (some (.inl (1 + x2)), d)) none) none
    else
      some (some (.inl (1 + x2)), d)
  else
    some (some (.inl 0), d) := zx_di 600 rfl
/- TickBound.keep -/
set_option maxRecDepth 100000 in
theorem ex_160_0 {nl : Int32} (d : zd_D) : zx nl 160 0 [z_r 0] [] d =
  (zx nl 161 0 [z_r 18, z_r 1] [] d).bind fun q => zx nl 160 5 [z_r 0] (q.1.toList ++ []) q.2 := zx_di 600 rfl
/- TickBound.keep -/
set_option maxRecDepth 100000 in
theorem ex_160_5 {nl : Int32} (d : zd_D) : zx nl 160 5 [z_r 0] [] d =
  some (some (.inl (d.1 20 0)), (zd_u d 0 2 1)) := zx_di 600 rfl
/- TickBound$State.become -/
set_option maxRecDepth 100000 in
theorem ex_161_0 {nl : Int32} (c0 c1 : Nat) (h : (c0 = 1 ∧ c1 = 18) ∨ (c0 = 18 ∧ c1 = 1)) (d : zd_D) : zx nl 161 0 [z_r c0, z_r c1] [] d =
  (zx nl 162 0 [z_r (c0 + 2), z_r (c1 + 2)] [] (zd_s d (c0 + 1) (va_cpy (d.1 (c1 + 1)) (d.1 (c0 + 1)) 0 0 8))).bind fun q => zx nl 161 13 [z_r c0, z_r c1] (q.1.toList ++ []) q.2 := by rcases h with ⟨rfl, rfl⟩ | ⟨rfl, rfl⟩ <;> exact zx_di 600 rfl
/- TickBound$State.become -/
set_option maxRecDepth 100000 in
theorem ex_161_13 {nl : Int32} (c0 c1 : Nat) (h : (c0 = 1 ∧ c1 = 18) ∨ (c0 = 18 ∧ c1 = 1)) (d : zd_D) : zx nl 161 13 [z_r c0, z_r c1] [] d =
  if ¬ (0 : Int32) < 0 ∧ ¬ (0 : Int32) < 0 ∧ ¬ (d.1 (c1 + 14) 0) < 0 ∧ 0 + (d.1 (c1 + 14) 0).toNatClampNeg ≤ 8 ∧ 0 + (d.1 (c1 + 14) 0).toNatClampNeg ≤ 8 then
    if ¬ (0 : Int32) < 0 ∧ ¬ (0 : Int32) < 0 ∧ ¬ (d.1 (c1 + 14) 0) < 0 ∧ 0 + (d.1 (c1 + 14) 0).toNatClampNeg ≤ 8 ∧ 0 + (d.1 (c1 + 14) 0).toNatClampNeg ≤ 8 then
      some (none, (zd_u (zd_s (zd_s (zd_u (zd_s d (c0 + 13) (va_cpy (d.1 (c1 + 13)) (d.1 (c0 + 13)) 0 0 32)) (c0 + 14) 0 (d.1 (c1 + 14) 0)) ((c0 + 14) + 1) (va_cpy (d.1 ((c1 + 14) + 1)) (d.1 ((c0 + 14) + 1)) 0 0 (d.1 (c1 + 14) 0).toNatClampNeg)) ((c0 + 14) + 2) (va_cpy (d.1 ((c1 + 14) + 2)) (d.1 ((c0 + 14) + 2)) 0 0 (d.1 (c1 + 14) 0).toNatClampNeg)) c0 4 (d.1 c1 4)))
    else
      none
  else
    none := by rcases h with ⟨rfl, rfl⟩ | ⟨rfl, rfl⟩ <;> exact zx_di 600 rfl
/- TickBound$Program.become -/
set_option maxRecDepth 100000 in
theorem ex_162_0 {nl : Int32} (c0 c1 : Nat) (h : (c0 = 3 ∧ c1 = 20) ∨ (c0 = 20 ∧ c1 = 3)) (d : zd_D) : zx nl 162 0 [z_r c0, z_r c1] [] d =
  if ¬ (0 : Int32) < 0 ∧ ¬ (0 : Int32) < 0 ∧ ¬ (d.1 c1 0) < 0 ∧ 0 + (d.1 c1 0).toNatClampNeg ≤ 28 ∧ 0 + (d.1 c1 0).toNatClampNeg ≤ 28 then
    if ¬ (0 : Int32) < 0 ∧ ¬ (0 : Int32) < 0 ∧ ¬ (d.1 c1 0) < 0 ∧ 0 + (d.1 c1 0).toNatClampNeg ≤ 28 ∧ 0 + (d.1 c1 0).toNatClampNeg ≤ 28 then
      if ¬ (0 : Int32) < 0 ∧ ¬ (0 : Int32) < 0 ∧ ¬ (d.1 c1 0) < 0 ∧ 0 + (d.1 c1 0).toNatClampNeg ≤ 28 ∧ 0 + (d.1 c1 0).toNatClampNeg ≤ 28 then
        if ¬ (0 : Int32) < 0 ∧ ¬ (0 : Int32) < 0 ∧ ¬ (d.1 c1 0) < 0 ∧ 0 + (d.1 c1 0).toNatClampNeg ≤ 28 ∧ 0 + (d.1 c1 0).toNatClampNeg ≤ 28 then
          if ¬ (0 : Int32) < 0 ∧ ¬ (0 : Int32) < 0 ∧ ¬ (d.1 c1 0) < 0 ∧ 0 + (d.1 c1 0).toNatClampNeg ≤ 28 ∧ 0 + (d.1 c1 0).toNatClampNeg ≤ 28 then
            if ¬ (0 : Int32) < 0 ∧ ¬ (0 : Int32) < 0 ∧ ¬ (d.1 c1 0) < 0 ∧ 0 + (d.1 c1 0).toNatClampNeg ≤ 28 ∧ 0 + (d.1 c1 0).toNatClampNeg ≤ 28 then
              (zx nl 48 0 [z_r c0, none] [] (zd_s (zd_s (zd_s (zd_s (zd_s (zd_s (zd_u d c0 0 (d.1 c1 0)) (c0 + 1) (va_cpy (d.1 (c1 + 1)) (d.1 (c0 + 1)) 0 0 (d.1 c1 0).toNatClampNeg)) (c0 + 2) (va_cpy (d.1 (c1 + 2)) (d.1 (c0 + 2)) 0 0 (d.1 c1 0).toNatClampNeg)) (c0 + 3) (va_cpy (d.1 (c1 + 3)) (d.1 (c0 + 3)) 0 0 (d.1 c1 0).toNatClampNeg)) (c0 + 4) (va_cpy (d.1 (c1 + 4)) (d.1 (c0 + 4)) 0 0 (d.1 c1 0).toNatClampNeg)) (c0 + 5) (va_cpy (d.1 (c1 + 5)) (d.1 (c0 + 5)) 0 0 (d.1 c1 0).toNatClampNeg)) (c0 + 6) (va_cpy (d.1 (c1 + 6)) (d.1 (c0 + 6)) 0 0 (d.1 c1 0).toNatClampNeg))).bind fun q => zx nl 162 60 [z_r c0, z_r c1] (q.1.toList ++ []) q.2
            else
              none
          else
            none
        else
          none
      else
        none
    else
      none
  else
    none := by rcases h with ⟨rfl, rfl⟩ | ⟨rfl, rfl⟩ <;> exact zx_di 600 rfl
/- TickBound$Program.become -/
set_option maxRecDepth 100000 in
theorem ex_162_60 {nl : Int32} (c0 c1 : Nat) (h : (c0 = 3 ∧ c1 = 20) ∨ (c0 = 20 ∧ c1 = 3)) (d : zd_D) : zx nl 162 60 [z_r c0, z_r c1] [] d =
  if ¬ (0 : Int32) < 0 ∧ ¬ (0 : Int32) < 0 ∧ ¬ (d.1 c0 7) < 0 ∧ 0 + (d.1 c0 7).toNatClampNeg ≤ 812 ∧ 0 + (d.1 c0 7).toNatClampNeg ≤ 812 then
    some (none, (zd_s d (c0 + 10) (va_cpy (d.1 (c1 + 10)) (d.1 (c0 + 10)) 0 0 (d.1 c0 7).toNatClampNeg)))
  else
    none := by rcases h with ⟨rfl, rfl⟩ | ⟨rfl, rfl⟩ <;> exact zx_di 600 rfl
/- TickBound.back -/
set_option maxRecDepth 100000 in
theorem ex_164_0 {nl : Int32} (d : zd_D) : zx nl 164 0 [z_r 0] [] d =
  if d.1 0 2 = 0 then
    some (some (.inl (-1000000002)), d)
  else
    (zx nl 161 0 [z_r 1, z_r 18] [] d).bind fun q => zx nl 164 10 [z_r 0] (q.1.toList ++ []) q.2 := zx_di 600 rfl
/- TickBound.back -/
set_option maxRecDepth 100000 in
theorem ex_164_10 {nl : Int32} (d : zd_D) : zx nl 164 10 [z_r 0] [] d =
  some (some (.inl (d.1 3 0)), (zd_u (zd_u (zd_u d 0 9 0) 0 10 0) 45 0 0)) := zx_di 600 rfl
/- TickBound.count -/
set_option maxRecDepth 100000 in
theorem ex_165_0 {nl : Int32} (x1 : Int32) (d : zd_D) : zx nl 165 0 [z_r 0, z_i x1] [] d =
  if x1 = 0 then
    some (some (.inl (d.1 3 0)), d)
  else
    if x1 = 1 then
      (zx nl 128 0 [z_r 3, none, none] [] d).bind fun q => zx nl 165 11 [z_r 0, z_i x1] (q.1.toList ++ []) q.2
    else
      if x1 = 2 then
        (zx nl 127 0 [z_r 3, none, none] [] d).bind fun q => zx nl 165 16 [z_r 0, z_i x1] (q.1.toList ++ []) q.2
      else
        if x1 = 3 then
          (zx nl 91 0 [z_i (d.1 1 4)] [] d).bind fun q => zx nl 165 21 [z_r 0, z_i x1] (q.1.toList ++ []) q.2
        else
          if x1 = 4 then
            some (some (.inl (d.1 15 0)), d)
          else
            if x1 = 5 then
              some (some (.inl (d.1 0 14)), d)
            else
              if x1 = 6 then
                some (some (.inl (d.1 35 1)), d)
              else
                some (some (.inl (-1000000001)), d) := zx_di 600 rfl
/- TickBound.count -/
set_option maxRecDepth 100000 in
theorem ex_165_11 {nl : Int32} (x1 y0 : Int32) (d : zd_D) : zx nl 165 11 [z_r 0, z_i x1] [(.inl y0)] d =
  some (some (.inl y0), d) := zx_di 600 rfl
/- TickBound.count -/
set_option maxRecDepth 100000 in
theorem ex_165_16 {nl : Int32} (x1 y0 : Int32) (d : zd_D) : zx nl 165 16 [z_r 0, z_i x1] [(.inl y0)] d =
  some (some (.inl y0), d) := zx_di 600 rfl
/- TickBound.count -/
set_option maxRecDepth 100000 in
theorem ex_165_21 {nl : Int32} (x1 y0 : Int32) (d : zd_D) : zx nl 165 21 [z_r 0, z_i x1] [(.inl y0)] d =
  some (some (.inl y0), d) := zx_di 600 rfl
