/- TickBoundModel.work, by hand: three pieces -/
set_option maxRecDepth 100000 in
theorem em_258_0 (x1 x2 : Int32) (d : zd_D) : zm 258 0 [z_r 91, z_i x1, z_i x2] [] d =
  if x1 < 1 then
    some (some (.inl (-1000000001)), d)
  else
    if 9999 < x1 then
      some (some (.inl (-1000000001)), d)
    else
      if x2 < 1 then
        some (some (.inl (-1000000001)), d)
      else
        if 9999 < x2 then
          some (some (.inl (-1000000001)), d)
        else
          if d.1 92 10 = 8 then
            some (some (.inl (-1000000003)), d)
          else
            cond (mx_in (184 + (2 * (d.1 92 10))) 1020) (
              zm 258 32 [z_r 91, z_i x1, z_i x2] [] (zd_u d 92 (184 + (2 * (d.1 92 10))).toNatClampNeg x1)) none := zm_di 46 rfl
set_option maxRecDepth 100000 in
theorem em_258_32 (x1 x2 : Int32) (d : zd_D) : zm 258 32 [z_r 91, z_i x1, z_i x2] [] d =
  cond (mx_in ((184 + (2 * (d.1 92 10))) + 1) 1020) (
    zm 258 46 [z_r 91, z_i x1, z_i x2] [] (zd_u d 92 ((184 + (2 * (d.1 92 10))) + 1).toNatClampNeg x2)) none := zm_di 14 rfl
set_option maxRecDepth 100000 in
theorem em_258_46 (x1 x2 : Int32) (d : zd_D) : zm 258 46 [z_r 91, z_i x1, z_i x2] [] d =
  some (some (.inl (((d.1 92 10) + 1) - 1)), (zd_u d 92 10 ((d.1 92 10) + 1))) := zm_di 600 rfl
