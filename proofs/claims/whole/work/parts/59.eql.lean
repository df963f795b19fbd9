set_option maxRecDepth 100000 in
set_option maxHeartbeats 20000000 in
theorem ex_158_21 {nl : Int32} (x4 x5 : Int32) (x2 : Int64) (d : zd_D) : zx nl 158 21 [z_r 0, z_r 3, some (.inr (.inl x2)), none, z_i x4, z_i x5, none, none, none, none] [] d =
  if x5 < d.1 3 7 then
    cond (mx_in x5 812) (
      cond (mx_in (d.1 11 x5.toNatClampNeg) 60) (
        cond (mx_in x5 812) (
          cond (mx_in x5 812) (
            if d.1 11 x5.toNatClampNeg < d.1 12 x5.toNatClampNeg then
              cond (mx_in x5 812) (
                if d.1 12 x5.toNatClampNeg < d.1 3 0 then
                  cond (mx_in x5 812) (
                    cond (mx_in (d.1 12 x5.toNatClampNeg) 60) (
                      cond (mx_in x5 812) (
                        if lg_cmp (Int32.toInt64 (d.1 64 (d.1 11 x5.toNatClampNeg).toNatClampNeg)) ((Int32.toInt64 (d.1 64 (d.1 12 x5.toNatClampNeg).toNatClampNeg)) + (Int32.toInt64 (d.1 58 x5.toNatClampNeg))) < 0 then
                          some (some (.inl ((-11) - x5)), d)
                        else
                          zx nl 158 21 [z_r 0, z_r 3, some (.inr (.inl x2)), none, z_i x4, z_i (x5 + 1), none, none, none, none] [] d) none) none) none
                else
                  cond (mx_in x5 812) (
                    if lg_cmp (Int32.toInt64 (d.1 64 (d.1 11 x5.toNatClampNeg).toNatClampNeg)) ((Int32.toInt64 0) + (Int32.toInt64 (d.1 58 x5.toNatClampNeg))) < 0 then
                      some (some (.inl ((-11) - x5)), d)
                    else
                      zx nl 158 21 [z_r 0, z_r 3, some (.inr (.inl x2)), none, z_i x4, z_i (x5 + 1), none, none, none, none] [] d) none) none
            else
              cond (mx_in x4 60) (
                cond (mx_in x4 60) (
                  cond (mx_in x5 812) (
                    cond (mx_in x5 812) (
                      if d.1 12 x5.toNatClampNeg < d.1 3 0 then
                        cond (mx_in x5 812) (
                          cond (mx_in (d.1 12 x5.toNatClampNeg) 60) (
                            cond (mx_in x5 812) (
                              if lg_cmp ((Int32.toInt64 (d.1 64 (d.1 11 x5.toNatClampNeg).toNatClampNeg)) + (Int32.toInt64 (d.1 64 x4.toNatClampNeg))) ((Int32.toInt64 (d.1 64 (d.1 12 x5.toNatClampNeg).toNatClampNeg)) + (Int32.toInt64 (d.1 58 x5.toNatClampNeg))) < 0 then
                                some (some (.inl ((-11) - x5)), d)
                              else
                                zx nl 158 21 [z_r 0, z_r 3, some (.inr (.inl (x2 + ((Int32.toInt64 (d.1 64 x4.toNatClampNeg)) * (Int32.toInt64 (d.1 13 x5.toNatClampNeg)))))), none, z_i (x4 + 1), z_i (x5 + 1), none, none, none, none] [] d) none) none) none
                      else
                        cond (mx_in x5 812) (
                          if lg_cmp ((Int32.toInt64 (d.1 64 (d.1 11 x5.toNatClampNeg).toNatClampNeg)) + (Int32.toInt64 (d.1 64 x4.toNatClampNeg))) ((Int32.toInt64 0) + (Int32.toInt64 (d.1 58 x5.toNatClampNeg))) < 0 then
                            some (some (.inl ((-11) - x5)), d)
                          else
                            zx nl 158 21 [z_r 0, z_r 3, some (.inr (.inl (x2 + ((Int32.toInt64 (d.1 64 x4.toNatClampNeg)) * (Int32.toInt64 (d.1 13 x5.toNatClampNeg)))))), none, z_i (x4 + 1), z_i (x5 + 1), none, none, none, none] [] d) none) none) none) none) none) none) none) none) none
  else
    if lg_cmp x2 (Int32.toInt64 0) < 0 then
      some (some (.inl (-1000000012)), d)
    else
      if 0 < lg_cmp x2 (Int32.toInt64 2000000000) then
        some (some (.inl (-1000000012)), d)
      else
        some (some (.inl (Int64.toInt32 x2)), d) := zx_di 600 rfl
set_option maxRecDepth 100000 in
set_option maxHeartbeats 20000000 in
theorem em_275_59 (x2 x5 : Int32) (x3 : Int64) (d : zd_D) : zm 275 59 [z_r 91, none, z_i x2, some (.inr (.inl x3)), none, z_i x5, none, none, none] [] d =
  if x5 < d.1 91 15 then
    cond (mx_in x5 820) (
      cond (mx_in x5 820) (
        cond (mx_in (d.1 98 x5.toNatClampNeg) 60) (
          (zm 276 0 [z_r 91, z_i x5, none, none] [] d).bind fun q => zm 275 79 [z_r 91, none, z_i x2, some (.inr (.inl x3)), none, z_i x5, z_i (d.1 99 x5.toNatClampNeg), none, none] (q.1.toList ++ [(.inr (.inl (Int32.toInt64 (d.1 129 (d.1 98 x5.toNatClampNeg).toNatClampNeg))))]) q.2) none) none) none
  else
    if 0 < lg_cmp x3 (Int32.toInt64 2000000000) then
      some (some (.inl (-1000000012)), d)
    else
      if lg_cmp x3 (Int32.toInt64 0) < 0 then
        some (some (.inl (-1000000012)), d)
      else
        some (some (.inl (Int64.toInt32 x3)), d) := zm_di 600 rfl
set_option maxRecDepth 100000 in
set_option maxHeartbeats 20000000 in
theorem em_275_86 (x2 x5 x6 y1 : Int32) (x3 x7 y0 : Int64) (d : zd_D) : zm 275 86 [z_r 91, none, z_i x2, some (.inr (.inl x3)), none, z_i x5, z_i x6, some (.inr (.inl x7)), none] [(.inl y1), (.inr (.inl y0))] d =
  if x6 < x2 then
    cond (mx_in x6 60) (
      if lg_cmp y0 ((Int32.toInt64 y1) + (Int32.toInt64 (d.1 129 x6.toNatClampNeg))) < 0 then
        some (some (.inl ((-11) - x5)), d)
      else
        cond (mx_in x5 820) (
          cond (mx_in x5 820) (
            if d.1 98 x5.toNatClampNeg < d.1 99 x5.toNatClampNeg then
              zm 275 59 [z_r 91, none, z_i x2, some (.inr (.inl (x3 + (Int32.toInt64 0)))), none, z_i (x5 + 1), none, none, none] [] d
            else
              (zm 276 0 [z_r 91, z_i x5, none, none] [] d).bind fun q => zm 275 112 [z_r 91, none, z_i x2, some (.inr (.inl x3)), none, z_i x5, z_i x6, some (.inr (.inl x7)), none] (q.1.toList ++ [(.inr (.inl x3))]) q.2) none) none) none
  else
    if lg_cmp y0 ((Int32.toInt64 y1) + (Int32.toInt64 0)) < 0 then
      some (some (.inl ((-11) - x5)), d)
    else
      cond (mx_in x5 820) (
        cond (mx_in x5 820) (
          if d.1 98 x5.toNatClampNeg < d.1 99 x5.toNatClampNeg then
            zm 275 59 [z_r 91, none, z_i x2, some (.inr (.inl (x3 + (Int32.toInt64 0)))), none, z_i (x5 + 1), none, none, none] [] d
          else
            (zm 276 0 [z_r 91, z_i x5, none, none] [] d).bind fun q => zm 275 112 [z_r 91, none, z_i x2, some (.inr (.inl x3)), none, z_i x5, z_i x6, some (.inr (.inl x7)), none] (q.1.toList ++ [(.inr (.inl x3))]) q.2) none) none := zm_di 600 rfl
/- TickBoundModel.work, by hand: three pieces -/
set_option maxRecDepth 100000 in
theorem em_258_0 (x1 x2 : Int32) (d : zd_D) : zm 258 0 [z_r 91, z_i x1, z_i x2] [] d =
  if x1 < 1 then
    some (some (.inl (-1000000001)), d)
  else
    if 9999 < x1 then
      some (some (.inl (-1000000001)), d)
    else
      if x2 < 1 then
        some (some (.inl (-1000000001)), d)
      else
        if 9999 < x2 then
          some (some (.inl (-1000000001)), d)
        else
          if d.1 92 10 = 8 then
            some (some (.inl (-1000000003)), d)
          else
            cond (mx_in (184 + (2 * (d.1 92 10))) 1020) (
              zm 258 32 [z_r 91, z_i x1, z_i x2] [] (zd_u d 92 (184 + (2 * (d.1 92 10))).toNatClampNeg x1)) none := zm_di 46 rfl
set_option maxRecDepth 100000 in
theorem em_258_32 (x1 x2 : Int32) (d : zd_D) : zm 258 32 [z_r 91, z_i x1, z_i x2] [] d =
  cond (mx_in ((184 + (2 * (d.1 92 10))) + 1) 1020) (
    zm 258 46 [z_r 91, z_i x1, z_i x2] [] (zd_u d 92 ((184 + (2 * (d.1 92 10))) + 1).toNatClampNeg x2)) none := zm_di 14 rfl
set_option maxRecDepth 100000 in
theorem em_258_46 (x1 x2 : Int32) (d : zd_D) : zm 258 46 [z_r 91, z_i x1, z_i x2] [] d =
  some (some (.inl (((d.1 92 10) + 1) - 1)), (zd_u d 92 10 ((d.1 92 10) + 1))) := zm_di 600 rfl
