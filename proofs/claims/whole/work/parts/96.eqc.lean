/-! ===== check: the equations that are too long to be done at once ===== -/
theorem ex_158_21 {nl : Int32} (x4 x5 : Int32) (x2 : Int64) (d : zd_D) : zx nl 158 21 [z_r 0, z_r 3, some (.inr (.inl x2)), none, z_i x4, z_i x5, none, none, none, none] [] d =
  if x5 < d.1 3 7 then zx nl 158 25 [z_r 0, z_r 3, some (.inr (.inl x2)), none, z_i x4, z_i x5, none, none, none, none] [] d
  else zx nl 158 96 [z_r 0, z_r 3, some (.inr (.inl x2)), none, z_i x4, z_i x5, none, none, none, none] [] d := zx_di 4 rfl
theorem ex_158_25 {nl : Int32} (x4 x5 : Int32) (x2 : Int64) (d : zd_D) : zx nl 158 25 [z_r 0, z_r 3, some (.inr (.inl x2)), none, z_i x4, z_i x5, none, none, none, none] [] d =
  cond (mx_in x5 812) (cond (mx_in (d.1 11 x5.toNatClampNeg) 60) (
    zx nl 158 34 [z_r 0, z_r 3, some (.inr (.inl x2)), none, z_i x4, z_i x5, some (.inr (.inl (Int32.toInt64 (d.1 64 (d.1 11 x5.toNatClampNeg).toNatClampNeg)))), none, none, none] [] d) none) none := zx_di 9 rfl
theorem ex_158_34 {nl : Int32} (x4 x5 : Int32) (x2 x6 : Int64) (d : zd_D) : zx nl 158 34 [z_r 0, z_r 3, some (.inr (.inl x2)), none, z_i x4, z_i x5, some (.inr (.inl x6)), none, none, none] [] d =
  cond (mx_in x5 812) (cond (mx_in x5 812) (
    if d.1 11 x5.toNatClampNeg < d.1 12 x5.toNatClampNeg then zx nl 158 61 [z_r 0, z_r 3, some (.inr (.inl x2)), none, z_i x4, z_i x5, some (.inr (.inl x6)), none, none, none] [] d
    else zx nl 158 37 [z_r 0, z_r 3, some (.inr (.inl x2)), none, z_i x4, z_i x5, some (.inr (.inl x6)), none, none, none] [.inl 1] d) none) none := zx_di 15 rfl
theorem ex_158_37 {nl : Int32} (x4 x5 : Int32) (x2 x6 : Int64) (d : zd_D) : zx nl 158 37 [z_r 0, z_r 3, some (.inr (.inl x2)), none, z_i x4, z_i x5, some (.inr (.inl x6)), none, none, none] [.inl 1] d =
  cond (mx_in x4 60) (cond (mx_in x4 60) (cond (mx_in x5 812) (
    zx nl 158 61 [z_r 0, z_r 3, some (.inr (.inl (x2 + (Int32.toInt64 (d.1 64 x4.toNatClampNeg)) * (Int32.toInt64 (d.1 13 x5.toNatClampNeg))))), none, z_i (x4 + 1), z_i x5, some (.inr (.inl (x6 + Int32.toInt64 (d.1 64 x4.toNatClampNeg)))), none, none, none] [] d) none) none) none := zx_di 24 rfl
theorem ex_158_61 {nl : Int32} (x4 x5 : Int32) (x2 x6 : Int64) (d : zd_D) : zx nl 158 61 [z_r 0, z_r 3, some (.inr (.inl x2)), none, z_i x4, z_i x5, some (.inr (.inl x6)), none, none, none] [] d =
  cond (mx_in x5 812) (
    if d.1 12 x5.toNatClampNeg < d.1 3 0 then zx nl 158 68 [z_r 0, z_r 3, some (.inr (.inl x2)), none, z_i x4, z_i x5, some (.inr (.inl x6)), none, none, none] [] d
    else zx nl 158 77 [z_r 0, z_r 3, some (.inr (.inl x2)), none, z_i x4, z_i x5, some (.inr (.inl x6)), none, none, none] [] d) none := zx_di 7 rfl
theorem ex_158_68 {nl : Int32} (x4 x5 : Int32) (x2 x6 : Int64) (d : zd_D) : zx nl 158 68 [z_r 0, z_r 3, some (.inr (.inl x2)), none, z_i x4, z_i x5, some (.inr (.inl x6)), none, none, none] [] d =
  cond (mx_in x5 812) (cond (mx_in (d.1 12 x5.toNatClampNeg) 60) (
    zx nl 158 78 [z_r 0, z_r 3, some (.inr (.inl x2)), none, z_i x4, z_i x5, some (.inr (.inl x6)), none, none, none] [.inr (.inl (Int32.toInt64 (d.1 64 (d.1 12 x5.toNatClampNeg).toNatClampNeg)))] d) none) none := zx_di 9 rfl
theorem ex_158_77 {nl : Int32} (x4 x5 : Int32) (x2 x6 : Int64) (d : zd_D) : zx nl 158 77 [z_r 0, z_r 3, some (.inr (.inl x2)), none, z_i x4, z_i x5, some (.inr (.inl x6)), none, none, none] [] d =
  zx nl 158 78 [z_r 0, z_r 3, some (.inr (.inl x2)), none, z_i x4, z_i x5, some (.inr (.inl x6)), none, none, none] [.inr (.inl 0)] d := zx_di 1 rfl
theorem ex_158_78 {nl : Int32} (x4 x5 : Int32) (x2 x6 y : Int64) (d : zd_D) : zx nl 158 78 [z_r 0, z_r 3, some (.inr (.inl x2)), none, z_i x4, z_i x5, some (.inr (.inl x6)), none, none, none] [.inr (.inl y)] d =
  cond (mx_in x5 812) (
    zx nl 158 89 [z_r 0, z_r 3, some (.inr (.inl x2)), none, z_i x4, z_i x5, some (.inr (.inl x6)), none, some (.inr (.inl y)), none] [.inl (lg_cmp x6 (y + Int32.toInt64 (d.1 58 x5.toNatClampNeg)))] d) none := zx_di 11 rfl
theorem ex_158_89 {nl : Int32} (x4 x5 v : Int32) (x2 x6 y : Int64) (d : zd_D) : zx nl 158 89 [z_r 0, z_r 3, some (.inr (.inl x2)), none, z_i x4, z_i x5, some (.inr (.inl x6)), none, some (.inr (.inl y)), none] [.inl v] d =
  if v < 0 then some (some (.inl ((-11) - x5)), d)
  else zx nl 158 21 [z_r 0, z_r 3, some (.inr (.inl x2)), none, z_i x4, z_i (x5 + 1), none, none, none, none] [] d := zx_di 600 rfl
theorem ex_158_96 {nl : Int32} (x4 x5 : Int32) (x2 : Int64) (d : zd_D) : zx nl 158 96 [z_r 0, z_r 3, some (.inr (.inl x2)), none, z_i x4, z_i x5, none, none, none, none] [] d =
  zx nl 158 99 [z_r 0, z_r 3, some (.inr (.inl x2)), none, z_i x4, z_i x5, none, none, none, none] [.inl (lg_cmp x2 0)] d := zx_di 3 rfl
theorem ex_158_99 {nl : Int32} (x4 x5 v : Int32) (x2 : Int64) (d : zd_D) : zx nl 158 99 [z_r 0, z_r 3, some (.inr (.inl x2)), none, z_i x4, z_i x5, none, none, none, none] [.inl v] d =
  if v < 0 then zx nl 158 104 [z_r 0, z_r 3, some (.inr (.inl x2)), none, z_i x4, z_i x5, none, none, none, none] [] d
  else zx nl 158 100 [z_r 0, z_r 3, some (.inr (.inl x2)), none, z_i x4, z_i x5, none, none, none, none] [] d := zx_di 1 rfl
theorem ex_158_104 {nl : Int32} (x4 x5 : Int32) (x2 : Int64) (d : zd_D) : zx nl 158 104 [z_r 0, z_r 3, some (.inr (.inl x2)), none, z_i x4, z_i x5, none, none, none, none] [] d =
  some (some (.inl (-1000000012)), d) := zx_di 600 rfl
theorem ex_158_100 {nl : Int32} (x4 x5 : Int32) (x2 : Int64) (d : zd_D) : zx nl 158 100 [z_r 0, z_r 3, some (.inr (.inl x2)), none, z_i x4, z_i x5, none, none, none, none] [] d =
  zx nl 158 103 [z_r 0, z_r 3, some (.inr (.inl x2)), none, z_i x4, z_i x5, none, none, none, none] [.inl (lg_cmp x2 2000000000)] d := zx_di 3 rfl
theorem ex_158_103 {nl : Int32} (x4 x5 v : Int32) (x2 : Int64) (d : zd_D) : zx nl 158 103 [z_r 0, z_r 3, some (.inr (.inl x2)), none, z_i x4, z_i x5, none, none, none, none] [.inl v] d =
  if 0 < v then some (some (.inl (-1000000012)), d) else some (some (.inl (Int64.toInt32 x2)), d) := zx_di 600 rfl
theorem em_275_59 (x2 x5 : Int32) (x3 : Int64) (d : zd_D) : zm 275 59 [z_r 91, none, z_i x2, some (.inr (.inl x3)), none, z_i x5, none, none, none] [] d =
  if x5 < d.1 91 15 then zm 275 63 [z_r 91, none, z_i x2, some (.inr (.inl x3)), none, z_i x5, none, none, none] [] d
  else zm 275 124 [z_r 91, none, z_i x2, some (.inr (.inl x3)), none, z_i x5, none, none, none] [] d := zm_di 4 rfl
theorem em_275_63 (x2 x5 : Int32) (x3 : Int64) (d : zd_D) : zm 275 63 [z_r 91, none, z_i x2, some (.inr (.inl x3)), none, z_i x5, none, none, none] [] d =
    cond (mx_in x5 820) (
      cond (mx_in x5 820) (
        cond (mx_in (d.1 98 x5.toNatClampNeg) 60) (
          (zm 276 0 [z_r 91, z_i x5, none, none] [] d).bind fun q => zm 275 79 [z_r 91, none, z_i x2, some (.inr (.inl x3)), none, z_i x5, z_i (d.1 99 x5.toNatClampNeg), none, none] (q.1.toList ++ [(.inr (.inl (Int32.toInt64 (d.1 129 (d.1 98 x5.toNatClampNeg).toNatClampNeg))))]) q.2) none) none) none := zm_di 600 rfl
theorem em_275_86 (x2 x5 x6 y1 : Int32) (x3 x7 y0 : Int64) (d : zd_D) : zm 275 86 [z_r 91, none, z_i x2, some (.inr (.inl x3)), none, z_i x5, z_i x6, some (.inr (.inl x7)), none] [(.inl y1), (.inr (.inl y0))] d =
  if x6 < x2 then zm 275 90 [z_r 91, none, z_i x2, some (.inr (.inl x3)), none, z_i x5, z_i x6, some (.inr (.inl x7)), none] [.inr (.inl (Int32.toInt64 y1)), .inr (.inl y0)] d
  else zm 275 95 [z_r 91, none, z_i x2, some (.inr (.inl x3)), none, z_i x5, z_i x6, some (.inr (.inl x7)), none] [.inr (.inl (Int32.toInt64 y1)), .inr (.inl y0)] d := zm_di 4 rfl
theorem em_275_90 (x2 x5 x6 : Int32) (x3 x7 y0 y1 : Int64) (d : zd_D) : zm 275 90 [z_r 91, none, z_i x2, some (.inr (.inl x3)), none, z_i x5, z_i x6, some (.inr (.inl x7)), none] [.inr (.inl y1), .inr (.inl y0)] d =
  cond (mx_in x6 60) (zm 275 96 [z_r 91, none, z_i x2, some (.inr (.inl x3)), none, z_i x5, z_i x6, some (.inr (.inl x7)), none] [.inl (d.1 129 x6.toNatClampNeg), .inr (.inl y1), .inr (.inl y0)] d) none := zm_di 5 rfl
theorem em_275_95 (x2 x5 x6 : Int32) (x3 x7 y0 y1 : Int64) (d : zd_D) : zm 275 95 [z_r 91, none, z_i x2, some (.inr (.inl x3)), none, z_i x5, z_i x6, some (.inr (.inl x7)), none] [.inr (.inl y1), .inr (.inl y0)] d =
  zm 275 96 [z_r 91, none, z_i x2, some (.inr (.inl x3)), none, z_i x5, z_i x6, some (.inr (.inl x7)), none] [.inl 0, .inr (.inl y1), .inr (.inl y0)] d := zm_di 1 rfl
theorem em_275_96 (x2 x5 x6 v : Int32) (x3 x7 y0 y1 : Int64) (d : zd_D) : zm 275 96 [z_r 91, none, z_i x2, some (.inr (.inl x3)), none, z_i x5, z_i x6, some (.inr (.inl x7)), none] [.inl v, .inr (.inl y1), .inr (.inl y0)] d =
  zm 275 99 [z_r 91, none, z_i x2, some (.inr (.inl x3)), none, z_i x5, z_i x6, some (.inr (.inl x7)), none] [.inl (lg_cmp y0 (y1 + Int32.toInt64 v))] d := zm_di 3 rfl
theorem em_275_99 (x2 x5 x6 v : Int32) (x3 x7 : Int64) (d : zd_D) : zm 275 99 [z_r 91, none, z_i x2, some (.inr (.inl x3)), none, z_i x5, z_i x6, some (.inr (.inl x7)), none] [.inl v] d =
  if v < 0 then zm 275 100 [z_r 91, none, z_i x2, some (.inr (.inl x3)), none, z_i x5, z_i x6, some (.inr (.inl x7)), none] [] d
  else zm 275 104 [z_r 91, none, z_i x2, some (.inr (.inl x3)), none, z_i x5, z_i x6, some (.inr (.inl x7)), none] [] d := zm_di 1 rfl
theorem em_275_100 (x2 x5 x6 : Int32) (x3 x7 : Int64) (d : zd_D) : zm 275 100 [z_r 91, none, z_i x2, some (.inr (.inl x3)), none, z_i x5, z_i x6, some (.inr (.inl x7)), none] [] d =
  some (some (.inl ((-11) - x5)), d) := zm_di 600 rfl
theorem em_275_104 (x2 x5 x6 : Int32) (x3 x7 : Int64) (d : zd_D) : zm 275 104 [z_r 91, none, z_i x2, some (.inr (.inl x3)), none, z_i x5, z_i x6, some (.inr (.inl x7)), none] [] d =
      cond (mx_in x5 820) (
        cond (mx_in x5 820) (
          if d.1 98 x5.toNatClampNeg < d.1 99 x5.toNatClampNeg then
            zm 275 59 [z_r 91, none, z_i x2, some (.inr (.inl (x3 + 0))), none, z_i (x5 + 1), none, none, none] [] d
          else
            (zm 276 0 [z_r 91, z_i x5, none, none] [] d).bind fun q => zm 275 112 [z_r 91, none, z_i x2, some (.inr (.inl x3)), none, z_i x5, z_i x6, some (.inr (.inl x7)), none] (q.1.toList ++ [(.inr (.inl x3))]) q.2) none) none := zm_di 600 rfl
theorem em_275_124 (x2 x5 : Int32) (x3 : Int64) (d : zd_D) : zm 275 124 [z_r 91, none, z_i x2, some (.inr (.inl x3)), none, z_i x5, none, none, none] [] d =
  zm 275 127 [z_r 91, none, z_i x2, some (.inr (.inl x3)), none, z_i x5, none, none, none] [.inl (lg_cmp x3 2000000000)] d := zm_di 3 rfl
theorem em_275_127 (x2 x5 v : Int32) (x3 : Int64) (d : zd_D) : zm 275 127 [z_r 91, none, z_i x2, some (.inr (.inl x3)), none, z_i x5, none, none, none] [.inl v] d =
  if 0 < v then zm 275 132 [z_r 91, none, z_i x2, some (.inr (.inl x3)), none, z_i x5, none, none, none] [] d
  else zm 275 128 [z_r 91, none, z_i x2, some (.inr (.inl x3)), none, z_i x5, none, none, none] [] d := zm_di 1 rfl
theorem em_275_132 (x2 x5 : Int32) (x3 : Int64) (d : zd_D) : zm 275 132 [z_r 91, none, z_i x2, some (.inr (.inl x3)), none, z_i x5, none, none, none] [] d =
  some (some (.inl (-1000000012)), d) := zm_di 600 rfl
theorem em_275_128 (x2 x5 : Int32) (x3 : Int64) (d : zd_D) : zm 275 128 [z_r 91, none, z_i x2, some (.inr (.inl x3)), none, z_i x5, none, none, none] [] d =
  zm 275 131 [z_r 91, none, z_i x2, some (.inr (.inl x3)), none, z_i x5, none, none, none] [.inl (lg_cmp x3 0)] d := zm_di 3 rfl
theorem em_275_131 (x2 x5 v : Int32) (x3 : Int64) (d : zd_D) : zm 275 131 [z_r 91, none, z_i x2, some (.inr (.inl x3)), none, z_i x5, none, none, none] [.inl v] d =
  if v < 0 then some (some (.inl (-1000000012)), d) else some (some (.inl (Int64.toInt32 x3)), d) := zm_di 600 rfl
