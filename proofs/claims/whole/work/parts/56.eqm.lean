/-! ===== what each frame does, up to the next cut: printed by program ===== -/
/- TickBoundModel.shown -/
set_option maxRecDepth 100000 in
theorem em_238_28 (x1 x2 x3 x4 x5 : Int32) (d : zd_D) : zm 238 28 [z_r 91, z_i x1, z_i x2, z_i x3, z_i x4, z_i x5] [] d =
  if d.1 101 12 = 0 then
    if d.1 101 10 = 1 then
      if x3 = (-1000000005) then
        zm 238 19 [z_r 91, z_i x1, z_i x2, z_i (d.1 101 0), z_i x5, z_i (x5 + 1)] [] d
      else
        if x3 < d.1 101 0 then
          zm 238 19 [z_r 91, z_i x1, z_i x2, z_i (d.1 101 0), z_i x5, z_i (x5 + 1)] [] d
        else
          zm 238 19 [z_r 91, z_i x1, z_i x2, z_i x3, z_i x4, z_i (x5 + 1)] [] d
    else
      zm 238 19 [z_r 91, z_i x1, z_i x2, z_i x3, z_i x4, z_i (x5 + 1)] [] d
  else
    zm 238 19 [z_r 91, z_i x1, z_i x2, z_i x3, z_i x4, z_i (x5 + 1)] [] d := zm_di 600 rfl
/- TickBoundModel.age -/
set_option maxRecDepth 100000 in
theorem em_239_0 (x1 x2 : Int32) (d : zd_D) : zm 239 0 [z_r 91, z_i x1, z_i x2] [] d =
  if x1 < 0 then
    some (some (.inl (-1000000001)), d)
  else
    if (d.1 92 8) - 1 < x1 then
      some (some (.inl (-1000000001)), d)
    else
      if x2 < 0 then
        some (some (.inl (-1000000001)), d)
      else
        if 15 < x2 then
          some (some (.inl (-1000000001)), d)
        else
          (zm 190 0 [z_r 91, none] [] d).bind fun q => zm 239 13 [z_r 91, z_i x1, z_i x2] (q.1.toList ++ []) q.2 := zm_di 600 rfl
/- TickBoundModel.age -/
set_option maxRecDepth 100000 in
theorem em_239_13 (x1 x2 : Int32) (d : zd_D) : zm 239 13 [z_r 91, z_i x1, z_i x2] [] d =
  cond (mx_in ((16 * x1) + x2) 464) (
    if d.1 113 ((16 * x1) + x2).toNatClampNeg < 4 then
      cond (mx_in ((16 * x1) + x2) 464) (
        some (some (.inl (d.1 113 ((16 * x1) + x2).toNatClampNeg)), d)) none
    else
      some (some (.inl (-1000000005)), d)) none := zm_di 600 rfl
/- TickBoundModel.may -/
set_option maxRecDepth 100000 in
theorem em_240_0 (x1 x2 : Int32) (d : zd_D) : zm 240 0 [z_r 91, z_i x1, z_i x2] [] d =
  if x1 < 0 then
    some (some (.inl (-1000000001)), d)
  else
    if (d.1 92 8) - 1 < x1 then
      some (some (.inl (-1000000001)), d)
    else
      if x2 < 0 then
        some (some (.inl (-1000000001)), d)
      else
        if 15 < x2 then
          some (some (.inl (-1000000001)), d)
        else
          (zm 190 0 [z_r 91, none] [] d).bind fun q => zm 240 13 [z_r 91, z_i x1, z_i x2] (q.1.toList ++ []) q.2 := zm_di 600 rfl
/- TickBoundModel.may -/
set_option maxRecDepth 100000 in
theorem em_240_13 (x1 x2 : Int32) (d : zd_D) : zm 240 13 [z_r 91, z_i x1, z_i x2] [] d =
  cond (mx_in x1 29) (
    some (some (.inl (((d.1 114 x1.toNatClampNeg) >>> (x2 &&& 31)) &&& 1)), d)) none := zm_di 600 rfl
/- TickBoundModel.bound -/
set_option maxRecDepth 100000 in
theorem em_241_0 (d : zd_D) : zm 241 0 [z_r 91] [] d =
  (zm 242 0 [z_r 91, none, none, none, none, none] [] d).bind fun q => zm 241 2 [z_r 91] (q.1.toList ++ []) q.2 := zm_di 600 rfl
/- TickBoundModel.bound -/
set_option maxRecDepth 100000 in
theorem em_241_2 (y0 : Int32) (d : zd_D) : zm 241 2 [z_r 91] [(.inl y0)] d =
  some (some (.inl y0), d) := zm_di 600 rfl
/- TickBoundModel.findBound -/
set_option maxRecDepth 100000 in
theorem em_242_0 (d : zd_D) : zm 242 0 [z_r 91, none, none, none, none, none] [] d =
  if d.1 92 8 = 0 then
    some (some (.inl 0), d)
  else
    (zm 190 0 [z_r 91, none] [] d).bind fun q => zm 242 9 [z_r 91, none, none, none, none, none] (q.1.toList ++ []) q.2 := zm_di 600 rfl
/- TickBoundModel.findBound -/
set_option maxRecDepth 100000 in
theorem em_242_9 (d : zd_D) : zm 242 9 [z_r 91, none, none, none, none, none] [] d =
  (zm 243 0 [z_r 91, none, none] [] d).bind fun q => zm 242 11 [z_r 91, none, none, none, none, none] (q.1.toList ++ []) q.2 := zm_di 600 rfl
/- TickBoundModel.findBound -/
set_option maxRecDepth 100000 in
theorem em_242_11 (y0 : Int32) (d : zd_D) : zm 242 11 [z_r 91, none, none, none, none, none] [(.inl y0)] d =
  if y0 = 0 then
    zm 242 19 [z_r 91, none, z_i 0, none, none, none] [] d
  else
    some (some (.inl y0), d) := zm_di 600 rfl
/- TickBoundModel.findBound -/
set_option maxRecDepth 100000 in
theorem em_242_19 (x2 : Int32) (d : zd_D) : zm 242 19 [z_r 91, none, z_i x2, none, none, none] [] d =
  if x2 < d.1 91 15 then
    (zm 215 0 [z_r 91, z_i x2, none, none] [] d).bind fun q => zm 242 29 [z_r 91, none, z_i x2, none, none, none] (q.1.toList ++ [(.inl x2), (.inr (.inr (some 119)))]) q.2
  else
    zm 242 35 [z_r 91, none, z_i 0, none, none, none] [] d := zm_di 600 rfl
/- TickBoundModel.findBound -/
set_option maxRecDepth 100000 in
theorem em_242_29 (x2 y1 y2 : Int32) (d : zd_D) : zm 242 29 [z_r 91, none, z_i x2, none, none, none] [(.inl y2), (.inl y1), (.inr (.inr (some 119)))] d =
  cond (mx_in y1 820) (
    zm 242 19 [z_r 91, none, z_i (x2 + 1), none, none, none] [] (zd_u d 119 y1.toNatClampNeg y2)) none := zm_di 600 rfl
/- TickBoundModel.findBound -/
set_option maxRecDepth 100000 in
theorem em_242_35 (x2 : Int32) (d : zd_D) : zm 242 35 [z_r 91, none, z_i x2, none, none, none] [] d =
  if x2 < d.1 91 43 then
    zm 242 47 [z_r 91, none, z_i x2, z_i ((d.1 92 8) - 1), none, none] [] d
  else
    cond (mx_in (29 * ((d.1 91 43) - 1)) 17400) (
      if d.1 120 (29 * ((d.1 91 43) - 1)).toNatClampNeg < 0 then
        some (some (.inl (-1000000005)), d)
      else
        some (some (.inl (d.1 120 (29 * ((d.1 91 43) - 1)).toNatClampNeg)), d)) none := zm_di 600 rfl
/- TickBoundModel.findBound -/
set_option maxRecDepth 100000 in
theorem em_242_47 (x2 x3 : Int32) (d : zd_D) : zm 242 47 [z_r 91, none, z_i x2, z_i x3, none, none] [] d =
  if x3 < 0 then
    zm 242 35 [z_r 91, none, z_i (x2 + 1), none, none, none] [] d
  else
    cond (mx_in x3 30) (
      zm 242 57 [z_r 91, none, z_i x2, z_i x3, z_i (-1), z_i (d.1 100 x3.toNatClampNeg)] [] d) none := zm_di 600 rfl
/- TickBoundModel.findBound -/
set_option maxRecDepth 100000 in
theorem em_242_57 (x2 x3 x4 x5 : Int32) (d : zd_D) : zm 242 57 [z_r 91, none, z_i x2, z_i x3, z_i x4, z_i x5] [] d =
  cond (mx_in (x3 + 1) 30) (
    if x5 < d.1 100 (x3 + 1).toNatClampNeg then
      (zm 245 0 [z_r 91, z_i x5, z_i x2, none, none, none] [] d).bind fun q => zm 242 70 [z_r 91, none, z_i x2, z_i x3, z_i x4, z_i x5] (q.1.toList ++ [(.inl x4)]) q.2
    else
      cond (mx_in ((29 * x2) + x3) 17400) (
        zm 242 47 [z_r 91, none, z_i x2, z_i (x3 + (-1)), none, none] [] (zd_u d 120 ((29 * x2) + x3).toNatClampNeg x4)) none) none := zm_di 600 rfl
/- TickBoundModel.findBound -/
set_option maxRecDepth 100000 in
theorem em_242_70 (x2 x3 x4 x5 y0 y1 : Int32) (d : zd_D) : zm 242 70 [z_r 91, none, z_i x2, z_i x3, z_i x4, z_i x5] [(.inl y1), (.inl y0)] d =
  if y1 < y0 then
    zm 242 57 [z_r 91, none, z_i x2, z_i x3, z_i y0, z_i (x5 + 1)] [] d
  else
    zm 242 57 [z_r 91, none, z_i x2, z_i x3, z_i y1, z_i (x5 + 1)] [] d := zm_di 600 rfl
/- TickBoundModel.whyNone -/
set_option maxRecDepth 100000 in
theorem em_243_0 (d : zd_D) : zm 243 0 [z_r 91, none, none] [] d =
  (zm 244 0 [z_r 91, none, none] [] d).bind fun q => zm 243 2 [z_r 91, none, none] (q.1.toList ++ []) q.2 := zm_di 600 rfl
/- TickBoundModel.whyNone -/
set_option maxRecDepth 100000 in
theorem em_243_2 (d : zd_D) : zm 243 2 [z_r 91, none, none] [] d =
  zm 243 5 [z_r 91, z_i 0, none] [] d := zm_di 600 rfl
/- TickBoundModel.whyNone -/
set_option maxRecDepth 100000 in
theorem em_243_5 (x1 : Int32) (d : zd_D) : zm 243 5 [z_r 91, z_i x1, none] [] d =
  if x1 < d.1 92 8 then
    cond (mx_in x1 29) (
      if d.1 117 x1.toNatClampNeg = 0 then
        zm 243 5 [z_r 91, z_i (x1 + 1), none] [] d
      else
        cond (mx_in x1 30) (
          cond (mx_in (x1 + 1) 30) (
            if d.1 100 x1.toNatClampNeg = d.1 100 (x1 + 1).toNatClampNeg then
              some (some (.inl (-1000000005)), d)
            else
              zm 243 5 [z_r 91, z_i (x1 + 1), none] [] d) none) none) none
  else
    zm 243 39 [z_r 91, z_i 0, z_i 0] [] (zd_u d 91 43 1) := zm_di 600 rfl
/- TickBoundModel.whyNone -/
set_option maxRecDepth 100000 in
theorem em_243_39 (x1 x2 : Int32) (d : zd_D) : zm 243 39 [z_r 91, z_i x1, z_i x2] [] d =
  if x2 < d.1 91 15 then
    cond (mx_in x2 820) (
      cond (mx_in x2 820) (
        if d.1 98 x2.toNatClampNeg < d.1 99 x2.toNatClampNeg then
          zm 243 39 [z_r 91, z_i x1, z_i (x2 + 1)] [] d
        else
          cond (mx_in (200 + x2) 1020) (
            if (d.1 92 (200 + x2).toNatClampNeg) - 1 < 0 then
              cond (mx_in x2 820) (
                cond (mx_in (d.1 98 x2.toNatClampNeg) 29) (
                  if d.1 117 (d.1 98 x2.toNatClampNeg).toNatClampNeg = 0 then
                    zm 243 39 [z_r 91, z_i x1, z_i (x2 + 1)] [] d
                  else
                    some (some (.inl (-1000000005)), d)) none) none
            else
              cond (mx_in x2 820) (
                if x1 = 0 then
                  cond (mx_in (200 + x2) 1020) (
                    if x1 = 0 then
                      if 600 < (d.1 91 43) * (((d.1 92 (200 + x2).toNatClampNeg) - 1) + 1) then
                        zm 243 39 [z_r 91, z_i 1, z_i (x2 + 1)] [] (zd_u (zd_u d 118 x2.toNatClampNeg (d.1 91 43)) 91 43 ((d.1 91 43) * (((d.1 92 (200 + x2).toNatClampNeg) - 1) + 1)))
                      else
                        zm 243 39 [z_r 91, z_i 0, z_i (x2 + 1)] [] (zd_u (zd_u d 118 x2.toNatClampNeg (d.1 91 43)) 91 43 ((d.1 91 43) * (((d.1 92 (200 + x2).toNatClampNeg) - 1) + 1)))
                    else
                      zm 243 39 [z_r 91, z_i 1, z_i (x2 + 1)] [] (zd_u (zd_u d 118 x2.toNatClampNeg (d.1 91 43)) 91 43 ((d.1 91 43) * (((d.1 92 (200 + x2).toNatClampNeg) - 1) + 1)))) none
                else
                  if x1 = 0 then
                    if 600 < d.1 91 43 then
                      zm 243 39 [z_r 91, z_i 1, z_i (x2 + 1)] [] (zd_u (zd_u d 118 x2.toNatClampNeg (d.1 91 43)) 91 43 (d.1 91 43))
                    else
                      zm 243 39 [z_r 91, z_i 0, z_i (x2 + 1)] [] (zd_u (zd_u d 118 x2.toNatClampNeg (d.1 91 43)) 91 43 (d.1 91 43))
                  else
                    zm 243 39 [z_r 91, z_i 1, z_i (x2 + 1)] [] (zd_u (zd_u d 118 x2.toNatClampNeg (d.1 91 43)) 91 43 (d.1 91 43))) none) none) none) none
  else
    if x1 = 0 then
      some (some (.inl 0), d)
    else
      some (some (.inl (-1000000004)), d) := zm_di 600 rfl
/- TickBoundModel.findComes -/
set_option maxRecDepth 100000 in
theorem em_244_0 (d : zd_D) : zm 244 0 [z_r 91, none, none] [] d =
  zm 244 3 [z_r 91, z_i 0, none] [] d := zm_di 600 rfl
/- TickBoundModel.findComes -/
set_option maxRecDepth 100000 in
theorem em_244_3 (x1 : Int32) (d : zd_D) : zm 244 3 [z_r 91, z_i x1, none] [] d =
  if d.1 92 8 < x1 then
    zm 244 23 [z_r 91, z_i 1, none] [] d
  else
    if x1 = 0 then
      cond (mx_in x1 29) (
        zm 244 3 [z_r 91, z_i (x1 + 1), none] [] (zd_u d 117 x1.toNatClampNeg (1 &&& 1))) none
    else
      cond (mx_in x1 29) (
        zm 244 3 [z_r 91, z_i (x1 + 1), none] [] (zd_u d 117 x1.toNatClampNeg (0 &&& 1))) none := zm_di 600 rfl
/- TickBoundModel.findComes -/
set_option maxRecDepth 100000 in
theorem em_244_23 (x1 : Int32) (d : zd_D) : zm 244 23 [z_r 91, z_i x1, none] [] d =
  if x1 = 0 then
    some (none, d)
  else
    zm 244 30 [z_r 91, z_i 0, z_i 0] [] d := zm_di 600 rfl
/- TickBoundModel.findComes -/
set_option maxRecDepth 100000 in
theorem em_244_30 (x1 x2 : Int32) (d : zd_D) : zm 244 30 [z_r 91, z_i x1, z_i x2] [] d =
  if x2 < d.1 91 15 then
    cond (mx_in x2 820) (
      cond (mx_in (d.1 98 x2.toNatClampNeg) 29) (
        if d.1 117 (d.1 98 x2.toNatClampNeg).toNatClampNeg = 0 then
          zm 244 30 [z_r 91, z_i x1, z_i (x2 + 1)] [] d
        else
          cond (mx_in x2 820) (
            cond (mx_in (d.1 99 x2.toNatClampNeg) 29) (
              if d.1 117 (d.1 99 x2.toNatClampNeg).toNatClampNeg = 0 then
                cond (mx_in x2 820) (
                  cond (mx_in (d.1 99 x2.toNatClampNeg) 29) (
                    zm 244 30 [z_r 91, z_i 1, z_i (x2 + 1)] [] (zd_u d 117 (d.1 99 x2.toNatClampNeg).toNatClampNeg (1 &&& 1))) none) none
              else
                zm 244 30 [z_r 91, z_i x1, z_i (x2 + 1)] [] d) none) none) none) none
  else
    zm 244 23 [z_r 91, z_i x1, none] [] d := zm_di 600 rfl
/- TickBoundModel.sumBy -/
set_option maxRecDepth 100000 in
theorem em_245_0 (x1 x2 : Int32) (d : zd_D) : zm 245 0 [z_r 91, z_i x1, z_i x2, none, none, none] [] d =
  cond (mx_in x1 820) (
    cond (mx_in x1 820) (
      cond (mx_in x1 820) (
        if d.1 98 x1.toNatClampNeg < d.1 99 x1.toNatClampNeg then
          if d.1 99 x1.toNatClampNeg = d.1 92 8 then
            cond (mx_in x1 820) (
              some (some (.inl ((d.1 119 x1.toNatClampNeg) + 0)), d)) none
          else
            cond (mx_in ((29 * x2) + (d.1 99 x1.toNatClampNeg)) 17400) (
              if d.1 120 ((29 * x2) + (d.1 99 x1.toNatClampNeg)).toNatClampNeg < 0 then
                some (some (.inl (-1)), d)
              else
                cond (mx_in x1 820) (
                  some (some (.inl ((d.1 119 x1.toNatClampNeg) + (d.1 120 ((29 * x2) + (d.1 99 x1.toNatClampNeg)).toNatClampNeg))), d)) none) none
        else
          cond (mx_in (200 + x1) 1020) (
            if (d.1 92 (200 + x1).toNatClampNeg) - 1 < 0 then
              some (some (.inl (-1)), d)
            else
              cond (mx_in x1 820) (
                if d.1 118 x1.toNatClampNeg = 0 then
                  none
                else
                  cond (mx_in (200 + x1) 1020) (
                    if ((d.1 92 (200 + x1).toNatClampNeg) - 1) + 1 = 0 then
                      none
                    else
                      if (x2 / (d.1 118 x1.toNatClampNeg)) - (x2 / (d.1 118 x1.toNatClampNeg)) / (((d.1 92 (200 + x1).toNatClampNeg) - 1) + 1) * (((d.1 92 (200 + x1).toNatClampNeg) - 1) + 1) = 0 then
                        some (some (.inl (-1)), d)
                      else
                        cond (mx_in x1 820) (
                          if d.1 99 x1.toNatClampNeg = d.1 92 8 then
                            cond (mx_in x1 820) (
                              some (some (.inl ((d.1 119 x1.toNatClampNeg) + 0)), d)) none
                          else
                            cond (mx_in ((29 * (x2 - (d.1 118 x1.toNatClampNeg))) + (d.1 99 x1.toNatClampNeg)) 17400) (
                              if d.1 120 ((29 * (x2 - (d.1 118 x1.toNatClampNeg))) + (d.1 99 x1.toNatClampNeg)).toNatClampNeg < 0 then
                                some (some (.inl (-1)), d)
                              else
                                cond (mx_in x1 820) (
                                  some (some (.inl ((d.1 119 x1.toNatClampNeg) + (d.1 120 ((29 * (x2 - (d.1 118 x1.toNatClampNeg))) + (d.1 99 x1.toNatClampNeg)).toNatClampNeg))), d)) none) none) none) none) none) none) none) none) none := zm_di 600 rfl
/- TickBoundModel.way -/
set_option maxRecDepth 100000 in
theorem em_247_0 (x1 : Int32) (d : zd_D) : zm 247 0 [z_r 91, z_i x1, none, none, none, none, none] [] d =
  if x1 < 0 then
    some (some (.inl (-1000000001)), d)
  else
    (zm 242 0 [z_r 91, none, none, none, none, none] [] d).bind fun q => zm 247 6 [z_r 91, z_i x1, none, none, none, none, none] (q.1.toList ++ []) q.2 := zm_di 600 rfl
/- TickBoundModel.way -/
set_option maxRecDepth 100000 in
theorem em_247_6 (x1 y0 : Int32) (d : zd_D) : zm 247 6 [z_r 91, z_i x1, none, none, none, none, none] [(.inl y0)] d =
  if y0 < 0 then
    some (some (.inl y0), d)
  else
    zm 247 21 [z_r 91, z_i x1, none, z_i ((d.1 91 43) - 1), z_i 0, z_i 0, none] [] d := zm_di 600 rfl
/- TickBoundModel.way -/
set_option maxRecDepth 100000 in
theorem em_247_21 (x1 x3 x4 x5 : Int32) (d : zd_D) : zm 247 21 [z_r 91, z_i x1, none, z_i x3, z_i x4, z_i x5, none] [] d =
  if x5 < x1 then
    if x4 < d.1 92 8 then
      cond (mx_in x4 30) (
        zm 247 36 [z_r 91, z_i x1, none, z_i x3, z_i x4, z_i x5, z_i (d.1 100 x4.toNatClampNeg)] [] d) none
    else
      if x4 < d.1 92 8 then
        some (some (.inl x4), d)
      else
        some (some (.inl (-1000000005)), d)
  else
    if x4 < d.1 92 8 then
      some (some (.inl x4), d)
    else
      some (some (.inl (-1000000005)), d) := zm_di 600 rfl
/- TickBoundModel.way -/
set_option maxRecDepth 100000 in
theorem em_247_36 (x1 x3 x4 x5 x6 : Int32) (d : zd_D) : zm 247 36 [z_r 91, z_i x1, none, z_i x3, z_i x4, z_i x5, z_i x6] [] d =
  (zm 245 0 [z_r 91, z_i x6, z_i x3, none, none, none] [] d).bind fun q => zm 247 40 [z_r 91, z_i x1, none, z_i x3, z_i x4, z_i x5, z_i x6] (q.1.toList ++ []) q.2 := zm_di 600 rfl
/- TickBoundModel.way -/
set_option maxRecDepth 100000 in
theorem em_247_40 (x1 x3 x4 x5 x6 y0 : Int32) (d : zd_D) : zm 247 40 [z_r 91, z_i x1, none, z_i x3, z_i x4, z_i x5, z_i x6] [(.inl y0)] d =
  cond (mx_in ((29 * x3) + x4) 17400) (
    if y0 = d.1 120 ((29 * x3) + x4).toNatClampNeg then
      cond (mx_in x6 820) (
        cond (mx_in x6 820) (
          if d.1 98 x6.toNatClampNeg < d.1 99 x6.toNatClampNeg then
            cond (mx_in x6 820) (
              zm 247 21 [z_r 91, z_i x1, none, z_i (x3 - 0), z_i (d.1 99 x6.toNatClampNeg), z_i (x5 + 1), none] [] d) none
          else
            cond (mx_in x6 820) (
              cond (mx_in x6 820) (
                zm 247 21 [z_r 91, z_i x1, none, z_i (x3 - (d.1 118 x6.toNatClampNeg)), z_i (d.1 99 x6.toNatClampNeg), z_i (x5 + 1), none] [] d) none) none) none) none
    else
      zm 247 36 [z_r 91, z_i x1, none, z_i x3, z_i x4, z_i x5, z_i (x6 + 1)] [] d) none := zm_di 600 rfl
/- TickBoundModel.factor -/
set_option maxRecDepth 100000 in
theorem em_248_0 (x1 : Int32) (d : zd_D) : zm 248 0 [z_r 91, z_i x1] [] d =
  if x1 < 0 then
    some (some (.inl (-1000000001)), d)
  else
    if (d.1 92 8) - 1 < x1 then
      some (some (.inl (-1000000001)), d)
    else
      (zm 249 0 [z_r 91, none, none] [] d).bind fun q => zm 248 8 [z_r 91, z_i x1] (q.1.toList ++ []) q.2 := zm_di 600 rfl
/- TickBoundModel.factor -/
set_option maxRecDepth 100000 in
theorem em_248_8 (x1 : Int32) (d : zd_D) : zm 248 8 [z_r 91, z_i x1] [] d =
  cond (mx_in x1 29) (
    some (some (.inl (d.1 121 x1.toNatClampNeg)), d)) none := zm_di 600 rfl
/- TickBoundModel.findOwn -/
set_option maxRecDepth 100000 in
theorem em_249_0 (d : zd_D) : zm 249 0 [z_r 91, none, none] [] d =
  (zm 190 0 [z_r 91, none] [] d).bind fun q => zm 249 2 [z_r 91, none, none] (q.1.toList ++ []) q.2 := zm_di 600 rfl
/- TickBoundModel.findOwn -/
set_option maxRecDepth 100000 in
theorem em_249_2 (d : zd_D) : zm 249 2 [z_r 91, none, none] [] d =
  cond (mx_in (d.1 92 8) 29) (
    zm 249 18 [z_r 91, z_i ((d.1 92 8) - 1), none] [] (zd_u d 121 (d.1 92 8).toNatClampNeg 0)) none := zm_di 600 rfl
/- TickBoundModel.findOwn -/
set_option maxRecDepth 100000 in
theorem em_249_18 (x1 : Int32) (d : zd_D) : zm 249 18 [z_r 91, z_i x1, none] [] d =
  if x1 < 0 then
    some (none, d)
  else
    cond (mx_in x1 29) (
      cond (mx_in x1 30) (
        zm 249 31 [z_r 91, z_i x1, z_i (d.1 100 x1.toNatClampNeg)] [] (zd_u d 121 x1.toNatClampNeg 0)) none) none := zm_di 600 rfl
/- TickBoundModel.findOwn -/
set_option maxRecDepth 100000 in
theorem em_249_31 (x1 x2 : Int32) (d : zd_D) : zm 249 31 [z_r 91, z_i x1, z_i x2] [] d =
  cond (mx_in (x1 + 1) 30) (
    if x2 < d.1 100 (x1 + 1).toNatClampNeg then
      cond (mx_in x2 820) (
        cond (mx_in x2 820) (
          if d.1 98 x2.toNatClampNeg < d.1 99 x2.toNatClampNeg then
            cond (mx_in x1 29) (
              (zm 215 0 [z_r 91, z_i x2, none, none] [] d).bind fun q => zm 249 58 [z_r 91, z_i x1, z_i x2] (q.1.toList ++ [(.inl (d.1 121 x1.toNatClampNeg)), (.inl x1), (.inr (.inr (some 121)))]) q.2) none
          else
            cond (mx_in x1 29) (
              cond (mx_in x1 29) (
                zm 249 31 [z_r 91, z_i x1, z_i (x2 + 1)] [] (zd_u d 121 x1.toNatClampNeg (d.1 121 x1.toNatClampNeg))) none) none) none) none
    else
      zm 249 18 [z_r 91, z_i (x1 + (-1)), none] [] d) none := zm_di 600 rfl
/- TickBoundModel.findOwn -/
set_option maxRecDepth 100000 in
theorem em_249_58 (x1 x2 y1 y2 y3 : Int32) (d : zd_D) : zm 249 58 [z_r 91, z_i x1, z_i x2] [(.inl y3), (.inl y2), (.inl y1), (.inr (.inr (some 121)))] d =
  cond (mx_in x2 820) (
    cond (mx_in (d.1 99 x2.toNatClampNeg) 29) (
      if y3 + (d.1 121 (d.1 99 x2.toNatClampNeg).toNatClampNeg) < y2 then
        cond (mx_in y1 29) (
          zm 249 31 [z_r 91, z_i x1, z_i (x2 + 1)] [] (zd_u d 121 y1.toNatClampNeg y2)) none
      else
        cond (mx_in y1 29) (
          zm 249 31 [z_r 91, z_i x1, z_i (x2 + 1)] [] (zd_u d 121 y1.toNatClampNeg (y3 + (d.1 121 (d.1 99 x2.toNatClampNeg).toNatClampNeg)))) none) none) none := zm_di 600 rfl
/- TickBoundModel.shares -/
set_option maxRecDepth 100000 in
theorem em_250_0 (x1 : Int32) (d : zd_D) : zm 250 0 [z_r 91, z_i x1] [] d =
  (zm 249 0 [z_r 91, none, none] [] d).bind fun q => zm 250 2 [z_r 91, z_i x1] (q.1.toList ++ []) q.2 := zm_di 600 rfl
/- TickBoundModel.shares -/
set_option maxRecDepth 100000 in
theorem em_250_2 (x1 : Int32) (d : zd_D) : zm 250 2 [z_r 91, z_i x1] [] d =
  if x1 < 0 then
    some (some (.inl (-1000000001)), d)
  else
    if (d.1 91 15) - 1 < x1 then
      some (some (.inl (-1000000001)), d)
    else
      cond (mx_in x1 820) (
        cond (mx_in x1 820) (
          if d.1 98 x1.toNatClampNeg < d.1 99 x1.toNatClampNeg then
            some (some (.inl (-1000000012)), d)
          else
            (zm 251 0 [z_r 91, z_i x1] [] d).bind fun q => zm 250 19 [z_r 91, z_i x1] (q.1.toList ++ []) q.2) none) none := zm_di 600 rfl
/- TickBoundModel.shares -/
set_option maxRecDepth 100000 in
theorem em_250_19 (x1 y0 : Int32) (d : zd_D) : zm 250 19 [z_r 91, z_i x1] [(.inl y0)] d =
  some (some (.inl y0), d) := zm_di 600 rfl
/- TickBoundModel.sharesOf -/
set_option maxRecDepth 100000 in
theorem em_251_0 (x1 : Int32) (d : zd_D) : zm 251 0 [z_r 91, z_i x1] [] d =
  (zm 215 0 [z_r 91, z_i x1, none, none] [] d).bind fun q => zm 251 4 [z_r 91, z_i x1] (q.1.toList ++ [(.inl 0)]) q.2 := zm_di 600 rfl
/- TickBoundModel.sharesOf -/
set_option maxRecDepth 100000 in
theorem em_251_4 (x1 y0 y1 : Int32) (d : zd_D) : zm 251 4 [z_r 91, z_i x1] [(.inl y1), (.inl y0)] d =
  cond (mx_in x1 820) (
    cond (mx_in (d.1 99 x1.toNatClampNeg) 29) (
      cond (mx_in x1 820) (
        cond (mx_in (d.1 98 x1.toNatClampNeg) 29) (
          if (y1 + (d.1 121 (d.1 99 x1.toNatClampNeg).toNatClampNeg)) - (d.1 121 (d.1 98 x1.toNatClampNeg).toNatClampNeg) < y0 then
            some (some (.inl y0), d)
          else
            some (some (.inl ((y1 + (d.1 121 (d.1 99 x1.toNatClampNeg).toNatClampNeg)) - (d.1 121 (d.1 98 x1.toNatClampNeg).toNatClampNeg))), d)) none) none) none) none := zm_di 600 rfl
/- TickBoundModel.proves -/
set_option maxRecDepth 100000 in
theorem em_252_0 (d : zd_D) : zm 252 0 [z_r 91, none, none] [] d =
  (zm 249 0 [z_r 91, none, none] [] d).bind fun q => zm 252 2 [z_r 91, none, none] (q.1.toList ++ []) q.2 := zm_di 600 rfl
/- TickBoundModel.proves -/
set_option maxRecDepth 100000 in
theorem em_252_2 (d : zd_D) : zm 252 2 [z_r 91, none, none] [] d =
  (zm 253 0 [z_r 91, z_i 1, none, none] [] d).bind fun q => zm 252 5 [z_r 91, none, none] (q.1.toList ++ []) q.2 := zm_di 600 rfl
/- TickBoundModel.proves -/
set_option maxRecDepth 100000 in
theorem em_252_5 (y0 : Int32) (d : zd_D) : zm 252 5 [z_r 91, none, none] [(.inl y0)] d =
  (zm 253 0 [z_r 91, z_i 0, none, none] [] d).bind fun q => zm 252 8 [z_r 91, none, none] (q.1.toList ++ [(.inl y0)]) q.2 := zm_di 600 rfl
/- TickBoundModel.proves -/
set_option maxRecDepth 100000 in
theorem em_252_8 (y0 y1 : Int32) (d : zd_D) : zm 252 8 [z_r 91, none, none] [(.inl y1), (.inl y0)] d =
  if y0 = y1 then
    if d.1 92 8 = 0 then
      zm 252 26 [z_r 91, z_i 0, z_i 0] [] d
    else
      zm 252 26 [z_r 91, z_i (d.1 121 0), z_i 0] [] d
  else
    some (some (.inl (-1000000005)), d) := zm_di 600 rfl
/- TickBoundModel.proves -/
set_option maxRecDepth 100000 in
theorem em_252_26 (x1 x2 : Int32) (d : zd_D) : zm 252 26 [z_r 91, z_i x1, z_i x2] [] d =
  if x2 < d.1 91 15 then
    cond (mx_in x2 820) (
      cond (mx_in x2 820) (
        if d.1 98 x2.toNatClampNeg < d.1 99 x2.toNatClampNeg then
          zm 252 26 [z_r 91, z_i (x1 + 0), z_i (x2 + 1)] [] d
        else
          (zm 251 0 [z_r 91, z_i x2] [] d).bind fun q => zm 252 38 [z_r 91, z_i x1, z_i x2] (q.1.toList ++ [(.inl x1)]) q.2) none) none
  else
    some (some (.inl x1), d) := zm_di 600 rfl
/- TickBoundModel.proves -/
set_option maxRecDepth 100000 in
theorem em_252_38 (x1 x2 y0 y1 : Int32) (d : zd_D) : zm 252 38 [z_r 91, z_i x1, z_i x2] [(.inl y1), (.inl y0)] d =
  cond (mx_in (200 + x2) 1020) (
    zm 252 26 [z_r 91, z_i (y0 + (y1 * ((d.1 92 (200 + x2).toNatClampNeg) - 1))), z_i (x2 + 1)] [] d) none := zm_di 600 rfl
/- TickBoundModel.turnMany -/
set_option maxRecDepth 100000 in
theorem em_253_0 (x1 : Int32) (d : zd_D) : zm 253 0 [z_r 91, z_i x1, none, none] [] d =
  zm 253 5 [z_r 91, z_i x1, z_i 0, z_i 0] [] d := zm_di 600 rfl
/- TickBoundModel.turnMany -/
set_option maxRecDepth 100000 in
theorem em_253_5 (x1 x2 x3 : Int32) (d : zd_D) : zm 253 5 [z_r 91, z_i x1, z_i x2, z_i x3] [] d =
  if x3 < d.1 91 15 then
    cond (mx_in x3 820) (
      cond (mx_in x3 820) (
        if d.1 98 x3.toNatClampNeg < d.1 99 x3.toNatClampNeg then
          zm 253 5 [z_r 91, z_i x1, z_i (x2 + 0), z_i (x3 + 1)] [] d
        else
          if x1 = 0 then
            zm 253 5 [z_r 91, z_i x1, z_i (x2 + 1), z_i (x3 + 1)] [] d
          else
            cond (mx_in (200 + x3) 1020) (
              if (d.1 92 (200 + x3).toNatClampNeg) - 1 < 0 then
                zm 253 5 [z_r 91, z_i x1, z_i (x2 + 0), z_i (x3 + 1)] [] d
              else
                zm 253 5 [z_r 91, z_i x1, z_i (x2 + 1), z_i (x3 + 1)] [] d) none) none) none
  else
    some (some (.inl x2), d) := zm_di 600 rfl
/- TickBoundModel.locks -/
set_option maxRecDepth 100000 in
theorem em_254_0 (x1 x2 : Int32) (d : zd_D) : zm 254 0 [z_r 91, z_i x1, z_i x2, none, none, none, none, none, none] [] d =
  if x1 < 0 then
    some (some (.inl (-1000000001)), d)
  else
    if 8 < x1 then
      some (some (.inl (-1000000001)), d)
    else
      if x2 < 0 then
        some (some (.inl (-1000000001)), d)
      else
        if 1 < x2 then
          some (some (.inl (-1000000001)), d)
        else
          (zm 242 0 [z_r 91, none, none, none, none, none] [] d).bind fun q => zm 254 14 [z_r 91, z_i x1, z_i x2, none, none, none, none, none, none] (q.1.toList ++ []) q.2 := zm_di 600 rfl
/- TickBoundModel.locks -/
set_option maxRecDepth 100000 in
theorem em_254_14 (x1 x2 y0 : Int32) (d : zd_D) : zm 254 14 [z_r 91, z_i x1, z_i x2, none, none, none, none, none, none] [(.inl y0)] d =
  if y0 < 0 then
    some (some (.inl y0), d)
  else
    (zm 255 0 [z_r 91, none, none] [] d).bind fun q => zm 254 26 [z_r 91, z_i x1, z_i x2, z_i y0, z_i (d.1 92 9), none, none, none, none] (q.1.toList ++ []) q.2 := zm_di 600 rfl
/- TickBoundModel.locks -/
set_option maxRecDepth 100000 in
theorem em_254_26 (x1 x2 x3 x4 : Int32) (d : zd_D) : zm 254 26 [z_r 91, z_i x1, z_i x2, z_i x3, z_i x4, none, none, none, none] [] d =
  zm 254 33 [z_r 91, z_i x1, z_i x2, none, z_i x4, z_i (-1), z_i 0, z_i 0, none] [] d := zm_di 600 rfl
/- TickBoundModel.locks -/
set_option maxRecDepth 100000 in
theorem em_254_33 (x1 x2 x4 x5 x6 x7 : Int32) (d : zd_D) : zm 254 33 [z_r 91, z_i x1, z_i x2, none, z_i x4, z_i x5, z_i x6, z_i x7, none] [] d =
  if x7 < (1 : Int32) <<< ((d.1 91 46) &&& 31) then
    (zm 233 0 [z_i x7, none, none] [] d).bind fun q => zm 254 41 [z_r 91, z_i x1, z_i x2, none, z_i x4, z_i x5, z_i x6, z_i x7, none] (q.1.toList ++ []) q.2
  else
    if x2 = 0 then
      some (some (.inl x5), (zd_u d 92 9 x4))
    else
      (zm 256 0 [z_r 91, z_i x6, none, none] [] (zd_u d 92 9 x4)).bind fun q => zm 254 85 [z_r 91, z_i x1, z_i x2, none, z_i x4, z_i x5, z_i x6, z_i x7, none] (q.1.toList ++ []) q.2 := zm_di 600 rfl
/- TickBoundModel.locks -/
set_option maxRecDepth 100000 in
theorem em_254_41 (x1 x2 x4 x5 x6 x7 y0 : Int32) (d : zd_D) : zm 254 41 [z_r 91, z_i x1, z_i x2, none, z_i x4, z_i x5, z_i x6, z_i x7, none] [(.inl y0)] d =
  if x1 < y0 then
    zm 254 33 [z_r 91, z_i x1, z_i x2, none, z_i x4, z_i x5, z_i x6, z_i (x7 + 1), none] [] d
  else
    (zm 256 0 [z_r 91, z_i x7, none, none] [] d).bind fun q => zm 254 50 [z_r 91, z_i x1, z_i x2, none, z_i x4, z_i x5, z_i x6, z_i x7, none] (q.1.toList ++ [(.inl 9), (.inr (.inr (some 92)))]) q.2 := zm_di 600 rfl
/- TickBoundModel.locks -/
set_option maxRecDepth 100000 in
theorem em_254_50 (x1 x2 x4 x5 x6 x7 y1 y2 : Int32) (d : zd_D) : zm 254 50 [z_r 91, z_i x1, z_i x2, none, z_i x4, z_i x5, z_i x6, z_i x7, none] [(.inl y2), (.inl y1), (.inr (.inr (some 92)))] d =
  cond (mx_in y1 1020) (
    (zm 242 0 [z_r 91, none, none, none, none, none] [] (zd_u d 92 y1.toNatClampNeg y2)).bind fun q => zm 254 53 [z_r 91, z_i x1, z_i x2, none, z_i x4, z_i x5, z_i x6, z_i x7, none] (q.1.toList ++ []) q.2) none := zm_di 600 rfl
/- TickBoundModel.locks -/
set_option maxRecDepth 100000 in
theorem em_254_53 (x1 x2 x4 x5 x6 x7 y0 : Int32) (d : zd_D) : zm 254 53 [z_r 91, z_i x1, z_i x2, none, z_i x4, z_i x5, z_i x6, z_i x7, none] [(.inl y0)] d =
  if x5 < 0 then
    zm 254 33 [z_r 91, z_i x1, z_i x2, none, z_i x4, z_i y0, z_i x7, z_i (x7 + 1), none] [] d
  else
    if y0 < x5 then
      zm 254 33 [z_r 91, z_i x1, z_i x2, none, z_i x4, z_i y0, z_i x7, z_i (x7 + 1), none] [] d
    else
      if y0 = x5 then
        (zm 233 0 [z_i x7, none, none] [] d).bind fun q => zm 254 64 [z_r 91, z_i x1, z_i x2, none, z_i x4, z_i x5, z_i x6, z_i x7, z_i y0] (q.1.toList ++ []) q.2
      else
        zm 254 33 [z_r 91, z_i x1, z_i x2, none, z_i x4, z_i x5, z_i x6, z_i (x7 + 1), none] [] d := zm_di 600 rfl
/- TickBoundModel.locks -/
set_option maxRecDepth 100000 in
theorem em_254_64 (x1 x2 x4 x5 x6 x7 x8 y0 : Int32) (d : zd_D) : zm 254 64 [z_r 91, z_i x1, z_i x2, none, z_i x4, z_i x5, z_i x6, z_i x7, z_i x8] [(.inl y0)] d =
  (zm 233 0 [z_i x6, none, none] [] d).bind fun q => zm 254 66 [z_r 91, z_i x1, z_i x2, none, z_i x4, z_i x5, z_i x6, z_i x7, z_i x8] (q.1.toList ++ [(.inl y0)]) q.2 := zm_di 600 rfl
/- TickBoundModel.locks -/
set_option maxRecDepth 100000 in
theorem em_254_66 (x1 x2 x4 x5 x6 x7 x8 y0 y1 : Int32) (d : zd_D) : zm 254 66 [z_r 91, z_i x1, z_i x2, none, z_i x4, z_i x5, z_i x6, z_i x7, z_i x8] [(.inl y1), (.inl y0)] d =
  if y0 < y1 then
    zm 254 33 [z_r 91, z_i x1, z_i x2, none, z_i x4, z_i x8, z_i x7, z_i (x7 + 1), none] [] d
  else
    zm 254 33 [z_r 91, z_i x1, z_i x2, none, z_i x4, z_i x5, z_i x6, z_i (x7 + 1), none] [] d := zm_di 600 rfl
/- TickBoundModel.locks -/
set_option maxRecDepth 100000 in
theorem em_254_85 (x1 x2 x4 x5 x6 x7 y0 : Int32) (d : zd_D) : zm 254 85 [z_r 91, z_i x1, z_i x2, none, z_i x4, z_i x5, z_i x6, z_i x7, none] [(.inl y0)] d =
  some (some (.inl y0), d) := zm_di 600 rfl
/- TickBoundModel.findLines -/
set_option maxRecDepth 100000 in
theorem em_255_0 (d : zd_D) : zm 255 0 [z_r 91, none, none] [] d =
  zm 255 5 [z_r 91, z_i 0, z_i 0] [] d := zm_di 600 rfl
/- TickBoundModel.findLines -/
set_option maxRecDepth 100000 in
theorem em_255_5 (x1 x2 : Int32) (d : zd_D) : zm 255 5 [z_r 91, z_i x1, z_i x2] [] d =
  if x2 < d.1 92 8 then
    (zm 198 0 [z_r 91, z_i x2] [] d).bind fun q => zm 255 15 [z_r 91, z_i x1, z_i x2] (q.1.toList ++ [(.inl x1)]) q.2
  else
    zm 255 33 [z_r 91, z_i x1, z_i 0] [] (zd_u d 91 46 0) := zm_di 600 rfl
/- TickBoundModel.findLines -/
set_option maxRecDepth 100000 in
theorem em_255_15 (x1 x2 y0 y1 : Int32) (d : zd_D) : zm 255 15 [z_r 91, z_i x1, z_i x2] [(.inl y1), (.inl y0)] d =
  if y1 < 0 then
    zm 255 5 [z_r 91, z_i (y0 ||| 0), z_i (x2 + 1)] [] d
  else
    (zm 198 0 [z_r 91, z_i x2] [] d).bind fun q => zm 255 20 [z_r 91, z_i x1, z_i x2] (q.1.toList ++ [(.inl 1), (.inl y0)]) q.2 := zm_di 600 rfl
/- TickBoundModel.findLines -/
set_option maxRecDepth 100000 in
theorem em_255_20 (x1 x2 y0 y1 y2 : Int32) (d : zd_D) : zm 255 20 [z_r 91, z_i x1, z_i x2] [(.inl y2), (.inl y1), (.inl y0)] d =
  zm 255 5 [z_r 91, z_i (y0 ||| (y1 <<< (y2 &&& 31))), z_i (x2 + 1)] [] d := zm_di 600 rfl
/- TickBoundModel.findLines -/
set_option maxRecDepth 100000 in
theorem em_255_33 (x1 x2 : Int32) (d : zd_D) : zm 255 33 [z_r 91, z_i x1, z_i x2] [] d =
  if x2 < 16 then
    if (x1 >>> (x2 &&& 31)) &&& 1 = 1 then
      if d.1 91 46 < 8 then
        cond (mx_in (d.1 91 46) 8) (
          zm 255 33 [z_r 91, z_i x1, z_i (x2 + 1)] [] (zd_u (zd_u d 122 (d.1 91 46).toNatClampNeg x2) 91 46 ((d.1 91 46) + 1))) none
      else
        zm 255 33 [z_r 91, z_i x1, z_i (x2 + 1)] [] d
    else
      zm 255 33 [z_r 91, z_i x1, z_i (x2 + 1)] [] d
  else
    some (none, d) := zm_di 600 rfl
/- TickBoundModel.linesOf -/
set_option maxRecDepth 100000 in
theorem em_256_0 (x1 : Int32) (d : zd_D) : zm 256 0 [z_r 91, z_i x1, none, none] [] d =
  zm 256 5 [z_r 91, z_i x1, z_i 0, z_i 0] [] d := zm_di 600 rfl
/- TickBoundModel.linesOf -/
set_option maxRecDepth 100000 in
theorem em_256_5 (x1 x2 x3 : Int32) (d : zd_D) : zm 256 5 [z_r 91, z_i x1, z_i x2, z_i x3] [] d =
  if x3 < d.1 91 46 then
    if (x1 >>> (x3 &&& 31)) &&& 1 = 1 then
      cond (mx_in x3 8) (
        zm 256 5 [z_r 91, z_i x1, z_i (x2 ||| ((1 : Int32) <<< ((d.1 122 x3.toNatClampNeg) &&& 31))), z_i (x3 + 1)] [] d) none
    else
      zm 256 5 [z_r 91, z_i x1, z_i (x2 ||| 0), z_i (x3 + 1)] [] d
  else
    some (some (.inl x2), d) := zm_di 600 rfl
/- TickBoundModel.shared -/
set_option maxRecDepth 100000 in
theorem em_257_0 (x1 x2 : Int32) (d : zd_D) : zm 257 0 [z_r 91, z_i x1, z_i x2, none] [] d =
  if x1 < 1 then
    some (some (.inl (-1000000001)), d)
  else
    if 9 < x1 then
      some (some (.inl (-1000000001)), d)
    else
      if x2 < 0 then
        some (some (.inl (-1000000001)), d)
      else
        if 99 < x2 then
          some (some (.inl (-1000000001)), d)
        else
          (zm 242 0 [z_r 91, none, none, none, none, none] [] (zd_u d 91 38 ((d.1 92 3) + ((x1 - 1) * x2)))).bind fun q => zm 257 26 [z_r 91, z_i x1, z_i x2, none] (q.1.toList ++ []) q.2 := zm_di 600 rfl
/- TickBoundModel.shared -/
set_option maxRecDepth 100000 in
theorem em_257_26 (x1 x2 y0 : Int32) (d : zd_D) : zm 257 26 [z_r 91, z_i x1, z_i x2, none] [(.inl y0)] d =
  some (some (.inl y0), (zd_u d 91 38 (-1))) := zm_di 600 rfl
/- TickBoundModel.answer -/
set_option maxRecDepth 100000 in
theorem em_259_0 (x1 : Int32) (d : zd_D) : zm 259 0 [z_r 91, z_i x1] [] d =
  if x1 < 0 then
    some (some (.inl (-1000000001)), d)
  else
    if (d.1 92 10) - 1 < x1 then
      some (some (.inl (-1000000001)), d)
    else
      (zm 260 0 [z_r 91, z_i x1, none] [] d).bind fun q => zm 259 13 [z_r 91, z_i x1] (q.1.toList ++ []) q.2 := zm_di 600 rfl
/- TickBoundModel.answer -/
set_option maxRecDepth 100000 in
theorem em_259_13 (x1 y0 : Int32) (d : zd_D) : zm 259 13 [z_r 91, z_i x1] [(.inl y0)] d =
  some (some (.inl y0), d) := zm_di 600 rfl
/- TickBoundModel.answerOf -/
set_option maxRecDepth 100000 in
theorem em_260_0 (x1 : Int32) (d : zd_D) : zm 260 0 [z_r 91, z_i x1, none] [] d =
  zm 260 3 [z_r 91, z_i x1, z_i 1] [] d := zm_di 600 rfl
/- TickBoundModel.answerOf -/
set_option maxRecDepth 100000 in
theorem em_260_3 (x1 x2 : Int32) (d : zd_D) : zm 260 3 [z_r 91, z_i x1, z_i x2] [] d =
  cond (mx_in ((184 + (2 * x1)) + 1) 1020) (
    if d.1 92 ((184 + (2 * x1)) + 1).toNatClampNeg < x2 then
      cond (mx_in ((184 + (2 * x1)) + 1) 1020) (
        if d.1 92 ((184 + (2 * x1)) + 1).toNatClampNeg < x2 then
          some (some (.inl (-1000000005)), d)
        else
          some (some (.inl x2), d)) none
    else
      (zm 261 0 [z_r 91, z_i x1, z_i x2, none, none, none] [] d).bind fun q => zm 260 19 [z_r 91, z_i x1, z_i x2] (q.1.toList ++ []) q.2) none := zm_di 600 rfl
/- TickBoundModel.answerOf -/
set_option maxRecDepth 100000 in
theorem em_260_19 (x1 x2 y0 : Int32) (d : zd_D) : zm 260 19 [z_r 91, z_i x1, z_i x2] [(.inl y0)] d =
  if y0 = x2 then
    cond (mx_in ((184 + (2 * x1)) + 1) 1020) (
      if d.1 92 ((184 + (2 * x1)) + 1).toNatClampNeg < x2 then
        some (some (.inl (-1000000005)), d)
      else
        some (some (.inl x2), d)) none
  else
    zm 260 3 [z_r 91, z_i x1, z_i (x2 + 1)] [] d := zm_di 600 rfl
/- TickBoundModel.needs -/
set_option maxRecDepth 100000 in
theorem em_261_0 (x1 x2 : Int32) (d : zd_D) : zm 261 0 [z_r 91, z_i x1, z_i x2, none, none, none] [] d =
  cond (mx_in (184 + (2 * x1)) 1020) (
    zm 261 12 [z_r 91, z_i x1, z_i x2, z_i (d.1 92 (184 + (2 * x1)).toNatClampNeg), z_i 0, none] [] d) none := zm_di 600 rfl
/- TickBoundModel.needs -/
set_option maxRecDepth 100000 in
theorem em_261_12 (x1 x2 x3 x4 : Int32) (d : zd_D) : zm 261 12 [z_r 91, z_i x1, z_i x2, z_i x3, z_i x4, none] [] d =
  if x4 < x1 then
    cond (mx_in ((184 + (2 * x4)) + 1) 1020) (
      if d.1 92 ((184 + (2 * x4)) + 1).toNatClampNeg = 0 then
        none
      else
        cond (mx_in (184 + (2 * x4)) 1020) (
          zm 261 12 [z_r 91, z_i x1, z_i x2, z_i (x3 + ((((x2 + (d.1 92 ((184 + (2 * x4)) + 1).toNatClampNeg)) - 1) / (d.1 92 ((184 + (2 * x4)) + 1).toNatClampNeg)) * (d.1 92 (184 + (2 * x4)).toNatClampNeg))), z_i (x4 + 1), none] [] d) none) none
  else
    some (some (.inl x3), d) := zm_di 600 rfl
/- TickBoundModel.fits -/
set_option maxRecDepth 100000 in
theorem em_262_0 (d : zd_D) : zm 262 0 [z_r 91, none] [] d =
  zm 262 3 [z_r 91, z_i 0] [] d := zm_di 600 rfl
/- TickBoundModel.fits -/
set_option maxRecDepth 100000 in
theorem em_262_3 (x1 : Int32) (d : zd_D) : zm 262 3 [z_r 91, z_i x1] [] d =
  if x1 < d.1 92 10 then
    (zm 260 0 [z_r 91, z_i x1, none] [] d).bind fun q => zm 262 12 [z_r 91, z_i x1] (q.1.toList ++ []) q.2
  else
    some (some (.inl (-1)), d) := zm_di 600 rfl
/- TickBoundModel.fits -/
set_option maxRecDepth 100000 in
theorem em_262_12 (x1 y0 : Int32) (d : zd_D) : zm 262 12 [z_r 91, z_i x1] [(.inl y0)] d =
  if y0 = (-1000000005) then
    some (some (.inl x1), d)
  else
    zm 262 3 [z_r 91, z_i (x1 + 1)] [] d := zm_di 600 rfl
/- TickBoundModel.sheet -/
set_option maxRecDepth 100000 in
theorem em_263_0 (x1 x2 x3 : Int32) (d : zd_D) : zm 263 0 [z_r 91, z_i x1, z_i x2, z_i x3, none] [] d =
  if x1 < 0 then
    some (some (.inl (-1000000001)), d)
  else
    if 3 < x1 then
      some (some (.inl (-1000000001)), d)
    else
      if x2 < (-1) then
        some (some (.inl (-1000000001)), d)
      else
        if 3 < x2 then
          some (some (.inl (-1000000001)), d)
        else
          if x2 < 0 then
            if x2 < 0 then
              cond (mx_in x1 10) (
                if x2 < 0 then
                  cond (mx_in x1 10) (
                    zm 263 38 [z_r 91, z_i x1, none, none, z_i 0] [] (zd_u (zd_u d 123 x1.toNatClampNeg x2) 124 x1.toNatClampNeg 0)) none
                else
                  cond (mx_in x1 10) (
                    zm 263 38 [z_r 91, z_i x1, none, none, z_i 0] [] (zd_u (zd_u d 123 x1.toNatClampNeg x2) 124 x1.toNatClampNeg x3)) none) none
            else
              if x3 < 0 then
                some (some (.inl (-1000000014)), d)
              else
                cond (mx_in x1 10) (
                  if x2 < 0 then
                    cond (mx_in x1 10) (
                      zm 263 38 [z_r 91, z_i x1, none, none, z_i 0] [] (zd_u (zd_u d 123 x1.toNatClampNeg x2) 124 x1.toNatClampNeg 0)) none
                  else
                    cond (mx_in x1 10) (
                      zm 263 38 [z_r 91, z_i x1, none, none, z_i 0] [] (zd_u (zd_u d 123 x1.toNatClampNeg x2) 124 x1.toNatClampNeg x3)) none) none
          else
            if 32 < x3 then
              some (some (.inl (-1000000001)), d)
            else
              if x2 < 0 then
                cond (mx_in x1 10) (
                  if x2 < 0 then
                    cond (mx_in x1 10) (
                      zm 263 38 [z_r 91, z_i x1, none, none, z_i 0] [] (zd_u (zd_u d 123 x1.toNatClampNeg x2) 124 x1.toNatClampNeg 0)) none
                  else
                    cond (mx_in x1 10) (
                      zm 263 38 [z_r 91, z_i x1, none, none, z_i 0] [] (zd_u (zd_u d 123 x1.toNatClampNeg x2) 124 x1.toNatClampNeg x3)) none) none
              else
                if x3 < 0 then
                  some (some (.inl (-1000000014)), d)
                else
                  cond (mx_in x1 10) (
                    if x2 < 0 then
                      cond (mx_in x1 10) (
                        zm 263 38 [z_r 91, z_i x1, none, none, z_i 0] [] (zd_u (zd_u d 123 x1.toNatClampNeg x2) 124 x1.toNatClampNeg 0)) none
                    else
                      cond (mx_in x1 10) (
                        zm 263 38 [z_r 91, z_i x1, none, none, z_i 0] [] (zd_u (zd_u d 123 x1.toNatClampNeg x2) 124 x1.toNatClampNeg x3)) none) none := zm_di 600 rfl
/- TickBoundModel.sheet -/
set_option maxRecDepth 100000 in
theorem em_263_38 (x1 x4 : Int32) (d : zd_D) : zm 263 38 [z_r 91, z_i x1, none, none, z_i x4] [] d =
  if x4 < 32 then
    cond (mx_in ((32 * x1) + x4) 320) (
      zm 263 38 [z_r 91, z_i x1, none, none, z_i (x4 + 1)] [] (zd_u d 125 ((32 * x1) + x4).toNatClampNeg 0)) none
  else
    cond (mx_in x1 10) (
      some (some (.inl (d.1 124 x1.toNatClampNeg)), d)) none := zm_di 600 rfl
/- TickBoundModel.mark -/
set_option maxRecDepth 100000 in
theorem em_265_0 (x1 x2 x3 : Int32) (d : zd_D) : zm 265 0 [z_r 91, z_i x1, z_i x2, z_i x3] [] d =
  if x1 < 0 then
    some (some (.inl (-1000000001)), d)
  else
    if 3 < x1 then
      some (some (.inl (-1000000001)), d)
    else
      cond (mx_in x1 10) (
        if d.1 123 x1.toNatClampNeg < 0 then
          some (some (.inl (-1000000011)), d)
        else
          cond (mx_in x1 10) (
            if x2 < 0 then
              some (some (.inl (-1000000013)), d)
            else
              if (d.1 124 x1.toNatClampNeg) - 1 < x2 then
                some (some (.inl (-1000000013)), d)
              else
                cond (mx_in x1 10) (
                  if d.1 123 x1.toNatClampNeg = 0 then
                    cond (mx_in ((32 * x1) + x2) 320) (
                      some (some (.inl 1), (zd_u d 125 ((32 * x1) + x2).toNatClampNeg ((x3 <<< (24 &&& 31)) >>> (24 &&& 31))))) none
                  else
                    if d.1 123 x1.toNatClampNeg = 1 then
                      cond (mx_in ((32 * x1) + x2) 320) (
                        some (some (.inl 1), (zd_u d 125 ((32 * x1) + x2).toNatClampNeg ((x3 <<< (16 &&& 31)) >>> (16 &&& 31))))) none
                    else
                      cond (mx_in ((32 * x1) + x2) 320) (
                        some (some (.inl 1), (zd_u d 125 ((32 * x1) + x2).toNatClampNeg x3))) none) none) none) none := zm_di 600 rfl
/- TickBoundModel.pour -/
set_option maxRecDepth 100000 in
theorem em_267_0 (x1 x2 x3 x4 : Int32) (d : zd_D) : zm 267 0 [z_r 91, z_i x1, z_i x2, z_i x3, z_i x4, none] [] d =
  if x1 < 0 then
    some (some (.inl (-1000000001)), d)
  else
    if 3 < x1 then
      some (some (.inl (-1000000001)), d)
    else
      if x3 < 0 then
        some (some (.inl (-1000000001)), d)
      else
        if 31 < x3 then
          some (some (.inl (-1000000001)), d)
        else
          if x4 < 0 then
            some (some (.inl (-1000000001)), d)
          else
            if 32 < x4 then
              some (some (.inl (-1000000001)), d)
            else
              if 32 < x3 + x4 then
                some (some (.inl (-1000000001)), d)
              else
                cond (mx_in x1 10) (
                  if d.1 123 x1.toNatClampNeg < 0 then
                    some (some (.inl (-1000000011)), d)
                  else
                    if x2 < 0 then
                      some (some (.inl (-1000000013)), d)
                    else
                      cond (mx_in x1 10) (
                        if (d.1 124 x1.toNatClampNeg) - x4 < x2 then
                          some (some (.inl (-1000000013)), d)
                        else
                          zm 267 42 [z_r 91, z_i x1, z_i x2, z_i x3, z_i x4, z_i 0] [] d) none) none := zm_di 600 rfl
/- TickBoundModel.pour -/
set_option maxRecDepth 100000 in
theorem em_267_42 (x1 x2 x3 x4 x5 : Int32) (d : zd_D) : zm 267 42 [z_r 91, z_i x1, z_i x2, z_i x3, z_i x4, z_i x5] [] d =
  if x5 < x4 then
    cond (mx_in (((32 * x1) + x2) + x5) 320) (
      cond (mx_in ((152 + x3) + x5) 1020) (
        zm 267 42 [z_r 91, z_i x1, z_i x2, z_i x3, z_i x4, z_i (x5 + 1)] [] (zd_u d 92 ((152 + x3) + x5).toNatClampNeg (d.1 125 (((32 * x1) + x2) + x5).toNatClampNeg))) none) none
  else
    some (some (.inl x4), d) := zm_di 600 rfl
/- TickBoundModel.copy -/
set_option maxRecDepth 100000 in
theorem em_268_0 (x1 x2 x3 x4 x5 : Int32) (d : zd_D) : zm 268 0 [z_r 91, z_i x1, z_i x2, z_i x3, z_i x4, z_i x5, none] [] d =
  if x1 < 0 then
    some (some (.inl (-1000000001)), d)
  else
    if 3 < x1 then
      some (some (.inl (-1000000001)), d)
    else
      if x3 < 0 then
        some (some (.inl (-1000000001)), d)
      else
        if 3 < x3 then
          some (some (.inl (-1000000001)), d)
        else
          cond (mx_in x1 10) (
            if d.1 123 x1.toNatClampNeg < 0 then
              some (some (.inl (-1000000011)), d)
            else
              cond (mx_in x3 10) (
                if d.1 123 x3.toNatClampNeg < 0 then
                  some (some (.inl (-1000000011)), d)
                else
                  cond (mx_in x1 10) (
                    cond (mx_in x3 10) (
                      if d.1 123 x1.toNatClampNeg = d.1 123 x3.toNatClampNeg then
                        if x2 < 0 then
                          some (some (.inl (-1000000013)), d)
                        else
                          if x4 < 0 then
                            some (some (.inl (-1000000013)), d)
                          else
                            if x5 < 0 then
                              some (some (.inl (-1000000013)), d)
                            else
                              cond (mx_in x1 10) (
                                if (d.1 124 x1.toNatClampNeg) - x5 < x2 then
                                  some (some (.inl (-1000000013)), d)
                                else
                                  cond (mx_in x3 10) (
                                    if (d.1 124 x3.toNatClampNeg) - x5 < x4 then
                                      some (some (.inl (-1000000013)), d)
                                    else
                                      zm 268 58 [z_r 91, z_i x1, z_i x2, z_i x3, z_i x4, z_i x5, z_i 0] [] d) none) none
                      else
                        some (some (.inl (-1000000012)), d)) none) none) none) none := zm_di 600 rfl
/- TickBoundModel.copy -/
set_option maxRecDepth 100000 in
theorem em_268_58 (x1 x2 x3 x4 x5 x6 : Int32) (d : zd_D) : zm 268 58 [z_r 91, z_i x1, z_i x2, z_i x3, z_i x4, z_i x5, z_i x6] [] d =
  if x6 < x5 then
    cond (mx_in (((32 * x1) + x2) + x6) 320) (
      cond (mx_in x6 32) (
        zm 268 58 [z_r 91, z_i x1, z_i x2, z_i x3, z_i x4, z_i x5, z_i (x6 + 1)] [] (zd_u d 126 x6.toNatClampNeg (d.1 125 (((32 * x1) + x2) + x6).toNatClampNeg))) none) none
  else
    zm 268 80 [z_r 91, none, none, z_i x3, z_i x4, z_i x5, z_i 0] [] d := zm_di 600 rfl
/- TickBoundModel.copy -/
set_option maxRecDepth 100000 in
theorem em_268_80 (x3 x4 x5 x6 : Int32) (d : zd_D) : zm 268 80 [z_r 91, none, none, z_i x3, z_i x4, z_i x5, z_i x6] [] d =
  if x6 < x5 then
    cond (mx_in x6 32) (
      cond (mx_in (((32 * x3) + x4) + x6) 320) (
        zm 268 80 [z_r 91, none, none, z_i x3, z_i x4, z_i x5, z_i (x6 + 1)] [] (zd_u d 125 (((32 * x3) + x4) + x6).toNatClampNeg (d.1 126 x6.toNatClampNeg))) none) none
  else
    some (some (.inl x5), d) := zm_di 600 rfl
/- TickBoundModel.lay -/
set_option maxRecDepth 100000 in
theorem em_269_0 (x1 x2 x3 : Int32) (d : zd_D) : zm 269 0 [z_r 91, z_i x1, z_i x2, z_i x3, none, none] [] d =
  if x1 < 0 then
    some (some (.inl (-1000000001)), d)
  else
    if 5 < x1 then
      some (some (.inl (-1000000001)), d)
    else
      if x2 < 0 then
        some (some (.inl (-1000000001)), d)
      else
        if 3 < x2 then
          some (some (.inl (-1000000001)), d)
        else
          if x2 = 1 then
            if x3 < 0 then
              some (some (.inl (-1000000001)), d)
            else
              if (d.1 92 8) - 1 < x3 then
                some (some (.inl (-1000000001)), d)
              else
                if x2 = 2 then
                  if x3 < 0 then
                    some (some (.inl (-1000000001)), d)
                  else
                    if 3 < x3 then
                      some (some (.inl (-1000000001)), d)
                    else
                      if x2 = 2 then
                        cond (mx_in x3 10) (
                          if d.1 123 x3.toNatClampNeg < 0 then
                            some (some (.inl (-1000000011)), d)
                          else
                            cond (mx_in x1 6) (
                              cond (mx_in x1 6) (
                                if x2 = 1 then
                                  zm 269 49 [z_r 91, z_i x1, z_i x2, z_i x3, z_i (d.1 127 x1.toNatClampNeg), z_i 0] [] (zd_u d 127 x1.toNatClampNeg x2)
                                else
                                  if x2 = 2 then
                                    cond (mx_in x3 10) (
                                      cond (mx_in (4 + x1) 10) (
                                        cond (mx_in x3 10) (
                                          cond (mx_in (4 + x1) 10) (
                                            zm 269 98 [z_r 91, z_i x1, none, z_i x3, z_i (d.1 127 x1.toNatClampNeg), z_i 0] [] (zd_u (zd_u (zd_u d 127 x1.toNatClampNeg x2) 123 (4 + x1).toNatClampNeg (d.1 123 x3.toNatClampNeg)) 124 (4 + x1).toNatClampNeg (d.1 124 x3.toNatClampNeg))) none) none) none) none
                                  else
                                    some (some (.inl (d.1 127 x1.toNatClampNeg)), (zd_u d 127 x1.toNatClampNeg x2))) none) none) none
                      else
                        cond (mx_in x1 6) (
                          cond (mx_in x1 6) (
                            if x2 = 1 then
                              zm 269 49 [z_r 91, z_i x1, z_i x2, z_i x3, z_i (d.1 127 x1.toNatClampNeg), z_i 0] [] (zd_u d 127 x1.toNatClampNeg x2)
                            else
                              if x2 = 2 then
                                cond (mx_in x3 10) (
                                  cond (mx_in (4 + x1) 10) (
                                    cond (mx_in x3 10) (
                                      cond (mx_in (4 + x1) 10) (
                                        zm 269 98 [z_r 91, z_i x1, none, z_i x3, z_i (d.1 127 x1.toNatClampNeg), z_i 0] [] (zd_u (zd_u (zd_u d 127 x1.toNatClampNeg x2) 123 (4 + x1).toNatClampNeg (d.1 123 x3.toNatClampNeg)) 124 (4 + x1).toNatClampNeg (d.1 124 x3.toNatClampNeg))) none) none) none) none
                              else
                                some (some (.inl (d.1 127 x1.toNatClampNeg)), (zd_u d 127 x1.toNatClampNeg x2))) none) none
                else
                  if x2 = 2 then
                    cond (mx_in x3 10) (
                      if d.1 123 x3.toNatClampNeg < 0 then
                        some (some (.inl (-1000000011)), d)
                      else
                        cond (mx_in x1 6) (
                          cond (mx_in x1 6) (
                            if x2 = 1 then
                              zm 269 49 [z_r 91, z_i x1, z_i x2, z_i x3, z_i (d.1 127 x1.toNatClampNeg), z_i 0] [] (zd_u d 127 x1.toNatClampNeg x2)
                            else
                              if x2 = 2 then
                                cond (mx_in x3 10) (
                                  cond (mx_in (4 + x1) 10) (
                                    cond (mx_in x3 10) (
                                      cond (mx_in (4 + x1) 10) (
                                        zm 269 98 [z_r 91, z_i x1, none, z_i x3, z_i (d.1 127 x1.toNatClampNeg), z_i 0] [] (zd_u (zd_u (zd_u d 127 x1.toNatClampNeg x2) 123 (4 + x1).toNatClampNeg (d.1 123 x3.toNatClampNeg)) 124 (4 + x1).toNatClampNeg (d.1 124 x3.toNatClampNeg))) none) none) none) none
                              else
                                some (some (.inl (d.1 127 x1.toNatClampNeg)), (zd_u d 127 x1.toNatClampNeg x2))) none) none) none
                  else
                    cond (mx_in x1 6) (
                      cond (mx_in x1 6) (
                        if x2 = 1 then
                          zm 269 49 [z_r 91, z_i x1, z_i x2, z_i x3, z_i (d.1 127 x1.toNatClampNeg), z_i 0] [] (zd_u d 127 x1.toNatClampNeg x2)
                        else
                          if x2 = 2 then
                            cond (mx_in x3 10) (
                              cond (mx_in (4 + x1) 10) (
                                cond (mx_in x3 10) (
                                  cond (mx_in (4 + x1) 10) (
                                    zm 269 98 [z_r 91, z_i x1, none, z_i x3, z_i (d.1 127 x1.toNatClampNeg), z_i 0] [] (zd_u (zd_u (zd_u d 127 x1.toNatClampNeg x2) 123 (4 + x1).toNatClampNeg (d.1 123 x3.toNatClampNeg)) 124 (4 + x1).toNatClampNeg (d.1 124 x3.toNatClampNeg))) none) none) none) none
                          else
                            some (some (.inl (d.1 127 x1.toNatClampNeg)), (zd_u d 127 x1.toNatClampNeg x2))) none) none
          else
            if x2 = 2 then
              if x3 < 0 then
                some (some (.inl (-1000000001)), d)
              else
                if 3 < x3 then
                  some (some (.inl (-1000000001)), d)
                else
                  if x2 = 2 then
                    cond (mx_in x3 10) (
                      if d.1 123 x3.toNatClampNeg < 0 then
                        some (some (.inl (-1000000011)), d)
                      else
                        cond (mx_in x1 6) (
                          cond (mx_in x1 6) (
                            if x2 = 1 then
                              zm 269 49 [z_r 91, z_i x1, z_i x2, z_i x3, z_i (d.1 127 x1.toNatClampNeg), z_i 0] [] (zd_u d 127 x1.toNatClampNeg x2)
                            else
                              if x2 = 2 then
                                cond (mx_in x3 10) (
                                  cond (mx_in (4 + x1) 10) (
                                    cond (mx_in x3 10) (
                                      cond (mx_in (4 + x1) 10) (
                                        zm 269 98 [z_r 91, z_i x1, none, z_i x3, z_i (d.1 127 x1.toNatClampNeg), z_i 0] [] (zd_u (zd_u (zd_u d 127 x1.toNatClampNeg x2) 123 (4 + x1).toNatClampNeg (d.1 123 x3.toNatClampNeg)) 124 (4 + x1).toNatClampNeg (d.1 124 x3.toNatClampNeg))) none) none) none) none
                              else
                                some (some (.inl (d.1 127 x1.toNatClampNeg)), (zd_u d 127 x1.toNatClampNeg x2))) none) none) none
                  else
                    cond (mx_in x1 6) (
                      cond (mx_in x1 6) (
                        if x2 = 1 then
                          zm 269 49 [z_r 91, z_i x1, z_i x2, z_i x3, z_i (d.1 127 x1.toNatClampNeg), z_i 0] [] (zd_u d 127 x1.toNatClampNeg x2)
                        else
                          if x2 = 2 then
                            cond (mx_in x3 10) (
                              cond (mx_in (4 + x1) 10) (
                                cond (mx_in x3 10) (
                                  cond (mx_in (4 + x1) 10) (
                                    zm 269 98 [z_r 91, z_i x1, none, z_i x3, z_i (d.1 127 x1.toNatClampNeg), z_i 0] [] (zd_u (zd_u (zd_u d 127 x1.toNatClampNeg x2) 123 (4 + x1).toNatClampNeg (d.1 123 x3.toNatClampNeg)) 124 (4 + x1).toNatClampNeg (d.1 124 x3.toNatClampNeg))) none) none) none) none
                          else
                            some (some (.inl (d.1 127 x1.toNatClampNeg)), (zd_u d 127 x1.toNatClampNeg x2))) none) none
            else
              if x2 = 2 then
                cond (mx_in x3 10) (
                  if d.1 123 x3.toNatClampNeg < 0 then
                    some (some (.inl (-1000000011)), d)
                  else
                    cond (mx_in x1 6) (
                      cond (mx_in x1 6) (
                        if x2 = 1 then
                          zm 269 49 [z_r 91, z_i x1, z_i x2, z_i x3, z_i (d.1 127 x1.toNatClampNeg), z_i 0] [] (zd_u d 127 x1.toNatClampNeg x2)
                        else
                          if x2 = 2 then
                            cond (mx_in x3 10) (
                              cond (mx_in (4 + x1) 10) (
                                cond (mx_in x3 10) (
                                  cond (mx_in (4 + x1) 10) (
                                    zm 269 98 [z_r 91, z_i x1, none, z_i x3, z_i (d.1 127 x1.toNatClampNeg), z_i 0] [] (zd_u (zd_u (zd_u d 127 x1.toNatClampNeg x2) 123 (4 + x1).toNatClampNeg (d.1 123 x3.toNatClampNeg)) 124 (4 + x1).toNatClampNeg (d.1 124 x3.toNatClampNeg))) none) none) none) none
                          else
                            some (some (.inl (d.1 127 x1.toNatClampNeg)), (zd_u d 127 x1.toNatClampNeg x2))) none) none) none
              else
                cond (mx_in x1 6) (
                  cond (mx_in x1 6) (
                    if x2 = 1 then
                      zm 269 49 [z_r 91, z_i x1, z_i x2, z_i x3, z_i (d.1 127 x1.toNatClampNeg), z_i 0] [] (zd_u d 127 x1.toNatClampNeg x2)
                    else
                      if x2 = 2 then
                        cond (mx_in x3 10) (
                          cond (mx_in (4 + x1) 10) (
                            cond (mx_in x3 10) (
                              cond (mx_in (4 + x1) 10) (
                                zm 269 98 [z_r 91, z_i x1, none, z_i x3, z_i (d.1 127 x1.toNatClampNeg), z_i 0] [] (zd_u (zd_u (zd_u d 127 x1.toNatClampNeg x2) 123 (4 + x1).toNatClampNeg (d.1 123 x3.toNatClampNeg)) 124 (4 + x1).toNatClampNeg (d.1 124 x3.toNatClampNeg))) none) none) none) none
                      else
                        some (some (.inl (d.1 127 x1.toNatClampNeg)), (zd_u d 127 x1.toNatClampNeg x2))) none) none := zm_di 600 rfl
/- TickBoundModel.lay -/
set_option maxRecDepth 100000 in
theorem em_269_49 (x1 x2 x3 x4 x5 : Int32) (d : zd_D) : zm 269 49 [z_r 91, z_i x1, z_i x2, z_i x3, z_i x4, z_i x5] [] d =
  if x5 < 4 then
    cond (mx_in ((12 + (4 * x3)) + x5) 1020) (
      cond (mx_in ((4 * x1) + x5) 24) (
        zm 269 49 [z_r 91, z_i x1, z_i x2, z_i x3, z_i x4, z_i (x5 + 1)] [] (zd_u d 128 ((4 * x1) + x5).toNatClampNeg (d.1 92 ((12 + (4 * x3)) + x5).toNatClampNeg))) none) none
  else
    if x2 = 2 then
      cond (mx_in x3 10) (
        cond (mx_in (4 + x1) 10) (
          cond (mx_in x3 10) (
            cond (mx_in (4 + x1) 10) (
              zm 269 98 [z_r 91, z_i x1, none, z_i x3, z_i x4, z_i 0] [] (zd_u (zd_u d 123 (4 + x1).toNatClampNeg (d.1 123 x3.toNatClampNeg)) 124 (4 + x1).toNatClampNeg (d.1 124 x3.toNatClampNeg))) none) none) none) none
    else
      some (some (.inl x4), d) := zm_di 600 rfl
/- TickBoundModel.lay -/
set_option maxRecDepth 100000 in
theorem em_269_98 (x1 x3 x4 x5 : Int32) (d : zd_D) : zm 269 98 [z_r 91, z_i x1, none, z_i x3, z_i x4, z_i x5] [] d =
  if x5 < 32 then
    cond (mx_in ((32 * x3) + x5) 320) (
      cond (mx_in ((32 * (4 + x1)) + x5) 320) (
        zm 269 98 [z_r 91, z_i x1, none, z_i x3, z_i x4, z_i (x5 + 1)] [] (zd_u d 125 ((32 * (4 + x1)) + x5).toNatClampNeg (d.1 125 ((32 * x3) + x5).toNatClampNeg))) none) none
  else
    some (some (.inl x4), d) := zm_di 600 rfl
/- TickBoundModel.ask -/
set_option maxRecDepth 100000 in
theorem em_271_0 (x1 x2 : Int32) (d : zd_D) : zm 271 0 [z_r 91, z_i x1, z_i x2, none, none, none] [] d =
  if x2 < 0 then
    some (some (.inl (-1000000001)), d)
  else
    if 7 < x2 then
      some (some (.inl (-1000000001)), d)
    else
      if x1 < 0 then
        some (some (.inl (-1000000001)), d)
      else
        if 5 < x1 then
          some (some (.inl (-1000000001)), d)
        else
          cond (mx_in x1 6) (
            if d.1 127 x1.toNatClampNeg = 0 then
              some (some (.inl (-1000000011)), d)
            else
              cond (mx_in x1 6) (
                if d.1 127 x1.toNatClampNeg = 1 then
                  cond (mx_in (4 * x1) 24) (
                    if d.1 128 (4 * x1).toNatClampNeg = 1 then
                      cond (mx_in ((4 * x1) + 2) 24) (
                        if d.1 128 ((4 * x1) + 2).toNatClampNeg = 4 then
                          cond (mx_in ((4 * x1) + 3) 24) (
                            if ((d.1 92 9) >>> (((d.1 128 ((4 * x1) + 3).toNatClampNeg) / 2) &&& 31)) &&& 1 = 1 then
                              (zm 209 0 [z_i (d.1 128 (4 * x1).toNatClampNeg), z_i x2] [] d).bind fun q => zm 271 56 [z_r 91, z_i x1, z_i x2, z_i 0, z_i (d.1 128 (4 * x1).toNatClampNeg), z_i 1] (q.1.toList ++ []) q.2
                            else
                              (zm 209 0 [z_i (d.1 128 (4 * x1).toNatClampNeg), z_i x2] [] d).bind fun q => zm 271 56 [z_r 91, z_i x1, z_i x2, z_i 0, z_i (d.1 128 (4 * x1).toNatClampNeg), z_i 0] (q.1.toList ++ []) q.2) none
                        else
                          (zm 209 0 [z_i (d.1 128 (4 * x1).toNatClampNeg), z_i x2] [] d).bind fun q => zm 271 56 [z_r 91, z_i x1, z_i x2, z_i 0, z_i (d.1 128 (4 * x1).toNatClampNeg), z_i 0] (q.1.toList ++ []) q.2) none
                    else
                      if d.1 128 (4 * x1).toNatClampNeg = 2 then
                        cond (mx_in ((4 * x1) + 2) 24) (
                          if d.1 128 ((4 * x1) + 2).toNatClampNeg = 4 then
                            cond (mx_in ((4 * x1) + 3) 24) (
                              if ((d.1 92 9) >>> (((d.1 128 ((4 * x1) + 3).toNatClampNeg) / 2) &&& 31)) &&& 1 = 1 then
                                (zm 209 0 [z_i (d.1 128 (4 * x1).toNatClampNeg), z_i x2] [] d).bind fun q => zm 271 56 [z_r 91, z_i x1, z_i x2, z_i 0, z_i (d.1 128 (4 * x1).toNatClampNeg), z_i 1] (q.1.toList ++ []) q.2
                              else
                                (zm 209 0 [z_i (d.1 128 (4 * x1).toNatClampNeg), z_i x2] [] d).bind fun q => zm 271 56 [z_r 91, z_i x1, z_i x2, z_i 0, z_i (d.1 128 (4 * x1).toNatClampNeg), z_i 0] (q.1.toList ++ []) q.2) none
                          else
                            (zm 209 0 [z_i (d.1 128 (4 * x1).toNatClampNeg), z_i x2] [] d).bind fun q => zm 271 56 [z_r 91, z_i x1, z_i x2, z_i 0, z_i (d.1 128 (4 * x1).toNatClampNeg), z_i 0] (q.1.toList ++ []) q.2) none
                      else
                        (zm 209 0 [z_i (d.1 128 (4 * x1).toNatClampNeg), z_i x2] [] d).bind fun q => zm 271 56 [z_r 91, z_i x1, z_i x2, z_i 0, z_i (d.1 128 (4 * x1).toNatClampNeg), z_i 0] (q.1.toList ++ []) q.2) none
                else
                  some (some (.inl (-1000000012)), d)) none) none := zm_di 600 rfl
/- TickBoundModel.ask -/
set_option maxRecDepth 100000 in
theorem em_271_56 (x1 x2 x3 x4 x5 y0 : Int32) (d : zd_D) : zm 271 56 [z_r 91, z_i x1, z_i x2, z_i x3, z_i x4, z_i x5] [(.inl y0)] d =
  if y0 = 0 then
    some (some (.inl (-1000000012)), d)
  else
    (zm 207 0 [z_r 91, z_i x4, z_i x5, none] [] d).bind fun q => zm 271 61 [z_r 91, z_i x1, z_i x2, z_i x3, z_i x4, z_i x5] (q.1.toList ++ []) q.2 := zm_di 600 rfl
/- TickBoundModel.ask -/
set_option maxRecDepth 100000 in
theorem em_271_61 (x1 x2 x3 x4 x5 y0 : Int32) (d : zd_D) : zm 271 61 [z_r 91, z_i x1, z_i x2, z_i x3, z_i x4, z_i x5] [(.inl y0)] d =
  some (some (.inl y0), d) := zm_di 600 rfl
/- TickBoundModel.item -/
set_option maxRecDepth 100000 in
theorem em_273_0 (x1 x2 : Int32) (d : zd_D) : zm 273 0 [z_r 91, z_i x1, z_i x2, none] [] d =
  if x1 < 0 then
    some (some (.inl (-1000000001)), d)
  else
    if 5 < x1 then
      some (some (.inl (-1000000001)), d)
    else
      cond (mx_in x1 6) (
        if d.1 127 x1.toNatClampNeg = 0 then
          some (some (.inl (-1000000011)), d)
        else
          cond (mx_in x1 6) (
            if d.1 127 x1.toNatClampNeg = 2 then
              cond (mx_in (4 + x1) 10) (
                if x2 < 0 then
                  some (some (.inl (-1000000013)), d)
                else
                  if (d.1 124 (4 + x1).toNatClampNeg) - 1 < x2 then
                    some (some (.inl (-1000000013)), d)
                  else
                    cond (mx_in ((32 * (4 + x1)) + x2) 320) (
                      some (some (.inl (d.1 125 ((32 * (4 + x1)) + x2).toNatClampNeg)), d)) none) none
            else
              some (some (.inl (-1000000012)), d)) none) none := zm_di 600 rfl
/- TickBoundModel.tell -/
set_option maxRecDepth 100000 in
theorem em_274_0 (x1 : Int32) (d : zd_D) : zm 274 0 [z_r 91, z_i x1] [] d =
  if d.1 91 53 = 60 then
    some (some (.inl (-1000000003)), d)
  else
    cond (mx_in (d.1 91 53) 60) (
      some (some (.inl ((d.1 91 53) + 1)), (zd_u (zd_u d 129 (d.1 91 53).toNatClampNeg x1) 91 53 ((d.1 91 53) + 1)))) none := zm_di 600 rfl
/- TickBoundModel.check -/
set_option maxRecDepth 100000 in
theorem em_275_0 (d : zd_D) : zm 275 0 [z_r 91, none, none, none, none, none, none, none, none] [] d =
  (zm 190 0 [z_r 91, none] [] (zd_u d 91 53 0)).bind fun q => zm 275 8 [z_r 91, z_i (d.1 91 53), none, none, none, none, none, none, none] (q.1.toList ++ []) q.2 := zm_di 600 rfl
/- TickBoundModel.check -/
set_option maxRecDepth 100000 in
theorem em_275_8 (x1 : Int32) (d : zd_D) : zm 275 8 [z_r 91, z_i x1, none, none, none, none, none, none, none] [] d =
  (zm 253 0 [z_r 91, z_i 0, none, none] [] d).bind fun q => zm 275 18 [z_r 91, z_i x1, z_i (d.1 92 8), none, none, none, none, none, none] (q.1.toList ++ [(.inl (d.1 92 8)), (.inl x1)]) q.2 := zm_di 600 rfl
/- TickBoundModel.check -/
set_option maxRecDepth 100000 in
theorem em_275_18 (x1 x2 y0 y1 y2 : Int32) (d : zd_D) : zm 275 18 [z_r 91, z_i x1, z_i x2, none, none, none, none, none, none] [(.inl y2), (.inl y1), (.inl y0)] d =
  if y0 = y1 + y2 then
    zm 275 25 [z_r 91, z_i x1, z_i x2, z_i x2, none, none, none, none, none] [] d
  else
    some (some (.inl (-1000000002)), d) := zm_di 600 rfl
/- TickBoundModel.check -/
set_option maxRecDepth 100000 in
theorem em_275_25 (x1 x2 x3 : Int32) (d : zd_D) : zm 275 25 [z_r 91, z_i x1, z_i x2, z_i x3, none, none, none, none, none] [] d =
  if x3 < x1 then
    cond (mx_in x3 60) (
      if d.1 129 x3.toNatClampNeg < 0 then
        some (some (.inl (-1000000002)), d)
      else
        zm 275 25 [z_r 91, z_i x1, z_i x2, z_i (x3 + 1), none, none, none, none, none] [] d) none
  else
    (zm 253 0 [z_r 91, z_i 1, none, none] [] d).bind fun q => zm 275 40 [z_r 91, z_i x1, z_i x2, z_i x3, none, none, none, none, none] (q.1.toList ++ []) q.2 := zm_di 600 rfl
/- TickBoundModel.check -/
set_option maxRecDepth 100000 in
theorem em_275_40 (x1 x2 x3 y0 : Int32) (d : zd_D) : zm 275 40 [z_r 91, z_i x1, z_i x2, z_i x3, none, none, none, none, none] [(.inl y0)] d =
  (zm 253 0 [z_r 91, z_i 0, none, none] [] d).bind fun q => zm 275 43 [z_r 91, z_i x1, z_i x2, z_i x3, none, none, none, none, none] (q.1.toList ++ [(.inl y0)]) q.2 := zm_di 600 rfl
/- TickBoundModel.check -/
set_option maxRecDepth 100000 in
theorem em_275_43 (x1 x2 x3 y0 y1 : Int32) (d : zd_D) : zm 275 43 [z_r 91, z_i x1, z_i x2, z_i x3, none, none, none, none, none] [(.inl y1), (.inl y0)] d =
  if y0 = y1 then
    if x2 = 0 then
      zm 275 59 [z_r 91, none, z_i x2, some (.inr (.inl (Int32.toInt64 0))), none, z_i 0, none, none, none] [] d
    else
      zm 275 59 [z_r 91, none, z_i x2, some (.inr (.inl (Int32.toInt64 (d.1 129 0)))), none, z_i 0, none, none, none] [] d
  else
    some (some (.inl (-1000000005)), d) := zm_di 600 rfl
/- TickBoundModel.check -/
set_option maxRecDepth 100000 in
theorem em_275_79 (x2 x5 x6 y1 : Int32) (x3 y0 : Int64) (d : zd_D) : zm 275 79 [z_r 91, none, z_i x2, some (.inr (.inl x3)), none, z_i x5, z_i x6, none, none] [(.inl y1), (.inr (.inl y0))] d =
  (zm 215 0 [z_r 91, z_i x5, none, none] [] d).bind fun q => zm 275 86 [z_r 91, none, z_i x2, some (.inr (.inl x3)), none, z_i x5, z_i x6, some (.inr (.inl (y0 + (Int32.toInt64 y1)))), none] (q.1.toList ++ [(.inr (.inl (y0 + (Int32.toInt64 y1))))]) q.2 := zm_di 600 rfl
/- TickBoundModel.check -/
set_option maxRecDepth 100000 in
theorem em_275_112 (x2 x5 x6 y1 : Int32) (x3 x7 y0 : Int64) (d : zd_D) : zm 275 112 [z_r 91, none, z_i x2, some (.inr (.inl x3)), none, z_i x5, z_i x6, some (.inr (.inl x7)), none] [(.inl y1), (.inr (.inl y0))] d =
  cond (mx_in (200 + x5) 1020) (
    zm 275 59 [z_r 91, none, z_i x2, some (.inr (.inl (y0 + ((Int32.toInt64 y1) * (Int32.toInt64 ((d.1 92 (200 + x5).toNatClampNeg) - 1)))))), none, z_i (x5 + 1), none, none, none] [] d) none := zm_di 600 rfl
/- TickBoundModel.toldOf -/
set_option maxRecDepth 100000 in
theorem em_276_0 (x1 : Int32) (d : zd_D) : zm 276 0 [z_r 91, z_i x1, none, none] [] d =
  zm 276 8 [z_r 91, z_i x1, z_i (d.1 92 8), z_i 0] [] d := zm_di 600 rfl
/- TickBoundModel.toldOf -/
set_option maxRecDepth 100000 in
theorem em_276_8 (x1 x2 x3 : Int32) (d : zd_D) : zm 276 8 [z_r 91, z_i x1, z_i x2, z_i x3] [] d =
  if x3 < x1 then
    cond (mx_in x3 820) (
      cond (mx_in x3 820) (
        if d.1 98 x3.toNatClampNeg < d.1 99 x3.toNatClampNeg then
          zm 276 8 [z_r 91, z_i x1, z_i (x2 + 0), z_i (x3 + 1)] [] d
        else
          zm 276 8 [z_r 91, z_i x1, z_i (x2 + 1), z_i (x3 + 1)] [] d) none) none
  else
    cond (mx_in x1 820) (
      cond (mx_in x1 820) (
        if d.1 98 x1.toNatClampNeg < d.1 99 x1.toNatClampNeg then
          some (some (.inl 0), d)
        else
          cond (mx_in x2 60) (
            some (some (.inl (d.1 129 x2.toNatClampNeg)), d)) none) none) none := zm_di 600 rfl
/- TickBoundModel.record -/
set_option maxRecDepth 100000 in
theorem em_277_0 (d : zd_D) : zm 277 0 [z_r 91, none, none, none] [] d =
  if d.1 91 19 = 0 then
    some (some (.inl (-1000000002)), (zd_u d 91 53 0))
  else
    zm 277 14 [z_r 91, z_i (d.1 91 53), z_i 0, none] [] (zd_u d 91 53 0) := zm_di 600 rfl
/- TickBoundModel.record -/
set_option maxRecDepth 100000 in
theorem em_277_14 (x1 x2 : Int32) (d : zd_D) : zm 277 14 [z_r 91, z_i x1, z_i x2, none] [] d =
  if x2 < x1 then
    if x2 / 2 < d.1 102 1 then
      if x2 - x2 / 2 * 2 = 0 then
        cond (mx_in (x2 / 2) 600) (
          if x2 / 2 < d.1 102 1 then
            cond (mx_in x2 60) (
              if d.1 129 x2.toNatClampNeg = d.1 103 (x2 / 2).toNatClampNeg then
                zm 277 14 [z_r 91, z_i x1, z_i (x2 + 1), none] [] d
              else
                some (some (.inl (1 + x2)), d)) none
          else
            some (some (.inl (1 + x2)), d)) none
      else
        cond (mx_in (x2 / 2) 600) (
          if x2 / 2 < d.1 102 1 then
            cond (mx_in x2 60) (
              if d.1 129 x2.toNatClampNeg = d.1 104 (x2 / 2).toNatClampNeg then
                zm 277 14 [z_r 91, z_i x1, z_i (x2 + 1), none] [] d
              else
                some (some (.inl (1 + x2)), d)) none
          else
            some (some (.inl (1 + x2)), d)) none
    else
      if x2 / 2 < d.1 102 1 then
        cond (mx_in x2 60) (
          if d.1 129 x2.toNatClampNeg = 0 then
            zm 277 14 [z_r 91, z_i x1, z_i (x2 + 1), none] [] d
          else
            some (some (.inl (1 + x2)), d)) none
      else
        some (some (.inl (1 + x2)), d)
  else
    some (some (.inl 0), d) := zm_di 600 rfl
/- TickBoundModel.keep -/
set_option maxRecDepth 100000 in
theorem em_278_0 (d : zd_D) : zm 278 0 [z_r 91, none] [] d =
  zm 278 3 [z_r 91, z_i 0] [] d := zm_di 600 rfl
/- TickBoundModel.keep -/
set_option maxRecDepth 100000 in
theorem em_278_3 (x1 : Int32) (d : zd_D) : zm 278 3 [z_r 91, z_i x1] [] d =
  if x1 < 1020 then
    cond (mx_in x1 1020) (
      cond (mx_in x1 1020) (
        zm 278 3 [z_r 91, z_i (x1 + 1)] [] (zd_u d 93 x1.toNatClampNeg (d.1 92 x1.toNatClampNeg))) none) none
  else
    some (some (.inl (d.1 92 8)), (zd_u d 91 2 1)) := zm_di 600 rfl
/- TickBoundModel.back -/
set_option maxRecDepth 100000 in
theorem em_279_0 (d : zd_D) : zm 279 0 [z_r 91, none] [] d =
  if d.1 91 2 = 0 then
    some (some (.inl (-1000000002)), d)
  else
    zm 279 8 [z_r 91, z_i 0] [] d := zm_di 600 rfl
/- TickBoundModel.back -/
set_option maxRecDepth 100000 in
theorem em_279_8 (x1 : Int32) (d : zd_D) : zm 279 8 [z_r 91, z_i x1] [] d =
  if x1 < 1020 then
    cond (mx_in x1 1020) (
      cond (mx_in x1 1020) (
        zm 279 8 [z_r 91, z_i (x1 + 1)] [] (zd_u d 92 x1.toNatClampNeg (d.1 93 x1.toNatClampNeg))) none) none
  else
    some (some (.inl (d.1 92 8)), (zd_u d 91 19 0)) := zm_di 600 rfl
/- TickBoundModel.count -/
set_option maxRecDepth 100000 in
theorem em_280_0 (x1 : Int32) (d : zd_D) : zm 280 0 [z_r 91, z_i x1] [] d =
  (zm 191 0 [z_r 91, none, none] [] d).bind fun q => zm 280 2 [z_r 91, z_i x1] (q.1.toList ++ []) q.2 := zm_di 600 rfl
/- TickBoundModel.count -/
set_option maxRecDepth 100000 in
theorem em_280_2 (x1 : Int32) (d : zd_D) : zm 280 2 [z_r 91, z_i x1] [] d =
  if x1 = 0 then
    some (some (.inl (d.1 92 8)), d)
  else
    if x1 = 1 then
      (zm 253 0 [z_r 91, z_i 0, none, none] [] d).bind fun q => zm 280 12 [z_r 91, z_i x1] (q.1.toList ++ []) q.2
    else
      if x1 = 2 then
        (zm 253 0 [z_r 91, z_i 1, none, none] [] d).bind fun q => zm 280 16 [z_r 91, z_i x1] (q.1.toList ++ []) q.2
      else
        if x1 = 3 then
          (zm 233 0 [z_i (d.1 92 9), none, none] [] d).bind fun q => zm 280 22 [z_r 91, z_i x1] (q.1.toList ++ []) q.2
        else
          if x1 = 4 then
            some (some (.inl (d.1 92 10)), d)
          else
            if x1 = 5 then
              some (some (.inl (d.1 91 53)), d)
            else
              if x1 = 6 then
                some (some (.inl (d.1 91 4)), d)
              else
                some (some (.inl (-1000000001)), d) := zm_di 600 rfl
/- TickBoundModel.count -/
set_option maxRecDepth 100000 in
theorem em_280_12 (x1 y0 : Int32) (d : zd_D) : zm 280 12 [z_r 91, z_i x1] [(.inl y0)] d =
  some (some (.inl y0), d) := zm_di 600 rfl
/- TickBoundModel.count -/
set_option maxRecDepth 100000 in
theorem em_280_16 (x1 y0 : Int32) (d : zd_D) : zm 280 16 [z_r 91, z_i x1] [(.inl y0)] d =
  some (some (.inl y0), d) := zm_di 600 rfl
/- TickBoundModel.count -/
set_option maxRecDepth 100000 in
theorem em_280_22 (x1 y0 : Int32) (d : zd_D) : zm 280 22 [z_r 91, z_i x1] [(.inl y0)] d =
  some (some (.inl y0), d) := zm_di 600 rfl
