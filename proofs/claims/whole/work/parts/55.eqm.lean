/-! ===== what each frame does, up to the next cut: printed by program ===== -/
/- TickBoundModel.feed -/
set_option maxRecDepth 100000 in
theorem em_167_0 (x1 x2 x3 : Int32) (d : zd_D) : zm 167 0 [z_r 91, z_i x1, z_i x2, z_i x3, none, none] [] d =
  if 96 < (d.1 91 4) + 12 then
    some (some (.inl (-1000000003)), d)
  else
    zm 167 11 [z_r 91, z_i x1, z_i x2, z_i x3, z_i 0, none] [] d := zm_di 600 rfl
/- TickBoundModel.feed -/
set_option maxRecDepth 100000 in
theorem em_167_11 (x1 x2 x3 x4 : Int32) (d : zd_D) : zm 167 11 [z_r 91, z_i x1, z_i x2, z_i x3, z_i x4, none] [] d =
  if x4 < 12 then
    if x4 < 4 then
      cond (mx_in ((d.1 91 4) + x4) 96) (
        zm 167 11 [z_r 91, z_i x1, z_i x2, z_i x3, z_i (x4 + 1), none] [] (zd_u d 94 ((d.1 91 4) + x4).toNatClampNeg ((x1 >>> ((24 - (8 * (x4 - x4 / 4 * 4))) &&& 31)) &&& 255))) none
    else
      if x4 < 8 then
        cond (mx_in ((d.1 91 4) + x4) 96) (
          zm 167 11 [z_r 91, z_i x1, z_i x2, z_i x3, z_i (x4 + 1), none] [] (zd_u d 94 ((d.1 91 4) + x4).toNatClampNeg ((x2 >>> ((24 - (8 * (x4 - x4 / 4 * 4))) &&& 31)) &&& 255))) none
      else
        cond (mx_in ((d.1 91 4) + x4) 96) (
          zm 167 11 [z_r 91, z_i x1, z_i x2, z_i x3, z_i (x4 + 1), none] [] (zd_u d 94 ((d.1 91 4) + x4).toNatClampNeg ((x3 >>> ((24 - (8 * (x4 - x4 / 4 * 4))) &&& 31)) &&& 255))) none
  else
    some (some (.inl ((d.1 91 4) + 12)), (zd_u d 91 4 ((d.1 91 4) + 12))) := zm_di 600 rfl
/- TickBoundModel.trim -/
set_option maxRecDepth 100000 in
theorem em_168_0 (x1 : Int32) (d : zd_D) : zm 168 0 [z_r 91, z_i x1] [] d =
  if x1 < 0 then
    some (some (.inl (-1000000001)), d)
  else
    if d.1 91 4 < x1 then
      some (some (.inl (-1000000001)), d)
    else
      some (some (.inl x1), (zd_u d 91 4 x1)) := zm_di 600 rfl
/- TickBoundModel.machine -/
set_option maxRecDepth 100000 in
theorem em_170_0 (d : zd_D) : zm 170 0 [z_r 91, none, none] [] d =
  zm 170 15 [z_r 91, z_i 0, none] [] (zd_u (zd_u (zd_u (zd_u d 91 7 0) 91 11 (-1)) 91 13 0) 91 14 0) := zm_di 600 rfl
/- TickBoundModel.machine -/
set_option maxRecDepth 100000 in
theorem em_170_15 (x1 : Int32) (d : zd_D) : zm 170 15 [z_r 91, z_i x1, none] [] d =
  if x1 < 8 then
    cond (mx_in x1 8) (
      zm 170 15 [z_r 91, z_i (x1 + 1), none] [] (zd_u d 97 x1.toNatClampNeg (-1))) none
  else
    (zm 171 0 [z_r 91, none] [] d).bind fun q => zm 170 27 [z_r 91, z_i x1, none] (q.1.toList ++ []) q.2 := zm_di 600 rfl
/- TickBoundModel.machine -/
set_option maxRecDepth 100000 in
theorem em_170_27 (x1 : Int32) (d : zd_D) : zm 170 27 [z_r 91, z_i x1, none] [] d =
  (zm 176 0 [z_r 91, none, none] [] d).bind fun q => zm 170 29 [z_r 91, z_i x1, none] (q.1.toList ++ []) q.2 := zm_di 600 rfl
/- TickBoundModel.machine -/
set_option maxRecDepth 100000 in
theorem em_170_29 (x1 y0 : Int32) (d : zd_D) : zm 170 29 [z_r 91, z_i x1, none] [(.inl y0)] d =
  zm 170 31 [z_r 91, z_i y0, none] [] d := zm_di 600 rfl
/- TickBoundModel.machine -/
set_option maxRecDepth 100000 in
theorem em_170_31 (x1 : Int32) (d : zd_D) : zm 170 31 [z_r 91, z_i x1, none] [] d =
  if x1 = 0 then
    if x1 = 0 then
      some (some (.inl ((-100) - (d.1 91 8))), (zd_u d 91 4 0))
    else
      if d.1 91 14 = 0 then
        zm 170 58 [z_r 91, none, z_i 0] [] (zd_u d 91 4 0)
      else
        some (some (.inl (-1000000002)), (zd_u d 91 4 0))
  else
    if d.1 91 9 = 0 then
      if x1 = 0 then
        some (some (.inl ((-100) - (d.1 91 8))), (zd_u d 91 4 0))
      else
        if d.1 91 14 = 0 then
          zm 170 58 [z_r 91, none, z_i 0] [] (zd_u d 91 4 0)
        else
          some (some (.inl (-1000000002)), (zd_u d 91 4 0))
    else
      (zm 176 0 [z_r 91, none, none] [] d).bind fun q => zm 170 38 [z_r 91, z_i x1, none] (q.1.toList ++ []) q.2 := zm_di 600 rfl
/- TickBoundModel.machine -/
set_option maxRecDepth 100000 in
theorem em_170_38 (x1 y0 : Int32) (d : zd_D) : zm 170 38 [z_r 91, z_i x1, none] [(.inl y0)] d =
  zm 170 31 [z_r 91, z_i y0, none] [] d := zm_di 600 rfl
/- TickBoundModel.machine -/
set_option maxRecDepth 100000 in
theorem em_170_58 (x2 : Int32) (d : zd_D) : zm 170 58 [z_r 91, none, z_i x2] [] d =
  if x2 < 8 then
    cond (mx_in x2 8) (
      if d.1 97 x2.toNatClampNeg < 0 then
        cond (mx_in x2 1020) (
          cond (mx_in x2 1020) (
            zm 170 58 [z_r 91, none, z_i (x2 + 1)] [] (zd_u d 92 x2.toNatClampNeg (d.1 92 x2.toNatClampNeg))) none) none
      else
        cond (mx_in x2 8) (
          cond (mx_in x2 1020) (
            zm 170 58 [z_r 91, none, z_i (x2 + 1)] [] (zd_u d 92 x2.toNatClampNeg (d.1 97 x2.toNatClampNeg))) none) none) none
  else
    some (some (.inl (d.1 91 13)), (zd_u d 91 19 0)) := zm_di 600 rfl
/- TickBoundModel.go -/
set_option maxRecDepth 100000 in
theorem em_171_0 (d : zd_D) : zm 171 0 [z_r 91, none] [] d =
  zm 171 1 [z_r 91, none] [] d := zm_di 600 rfl
/- TickBoundModel.go -/
set_option maxRecDepth 100000 in
theorem em_171_1 (d : zd_D) : zm 171 1 [z_r 91, none] [] d =
  if d.1 91 7 < d.1 91 4 then
    cond (mx_in (d.1 91 7) 96) (
      if d.1 94 (d.1 91 7).toNatClampNeg = 32 then
        zm 171 1 [z_r 91, none] [] (zd_u d 91 7 ((d.1 91 7) + 1))
      else
        zm 171 21 [z_r 91, none] [] d) none
  else
    zm 171 21 [z_r 91, none] [] d := zm_di 600 rfl
/- TickBoundModel.go -/
set_option maxRecDepth 100000 in
theorem em_171_21 (d : zd_D) : zm 171 21 [z_r 91, none] [] d =
  if d.1 91 7 = d.1 91 11 then
    zm 171 35 [z_r 91, z_i 1] [] (zd_u d 91 8 (d.1 91 7))
  else
    zm 171 35 [z_r 91, z_i 0] [] (zd_u d 91 8 (d.1 91 7)) := zm_di 600 rfl
/- TickBoundModel.go -/
set_option maxRecDepth 100000 in
theorem em_171_35 (x1 : Int32) (d : zd_D) : zm 171 35 [z_r 91, z_i x1] [] d =
  if d.1 91 8 = d.1 91 4 then
    some (none, (zd_u d 91 9 0))
  else
    if d.1 91 8 < d.1 91 4 then
      cond (mx_in (d.1 91 8) 96) (
        if d.1 94 (d.1 91 8).toNatClampNeg < 97 then
          if d.1 91 8 < d.1 91 4 then
            cond (mx_in (d.1 91 8) 96) (
              if d.1 94 (d.1 91 8).toNatClampNeg < 48 then
                some (none, (zd_u d 91 9 3))
              else
                cond (mx_in (d.1 91 8) 96) (
                  if 57 < d.1 94 (d.1 91 8).toNatClampNeg then
                    some (none, (zd_u d 91 9 3))
                  else
                    if d.1 91 8 < d.1 91 4 then
                      cond (mx_in (d.1 91 8) 96) (
                        if d.1 94 (d.1 91 8).toNatClampNeg < 97 then
                          (zm 175 0 [z_r 91] [] d).bind fun q => zm 171 64 [z_r 91, z_i x1] (q.1.toList ++ []) q.2
                        else
                          cond (mx_in (d.1 91 8) 96) (
                            if 122 < d.1 94 (d.1 91 8).toNatClampNeg then
                              (zm 175 0 [z_r 91] [] d).bind fun q => zm 171 64 [z_r 91, z_i x1] (q.1.toList ++ []) q.2
                            else
                              (zm 174 0 [z_r 91, none, none, none, none] [] d).bind fun q => zm 171 61 [z_r 91, z_i x1] (q.1.toList ++ []) q.2) none) none
                    else
                      (zm 175 0 [z_r 91] [] d).bind fun q => zm 171 64 [z_r 91, z_i x1] (q.1.toList ++ []) q.2) none) none
          else
            some (none, (zd_u d 91 9 3))
        else
          cond (mx_in (d.1 91 8) 96) (
            if 122 < d.1 94 (d.1 91 8).toNatClampNeg then
              if d.1 91 8 < d.1 91 4 then
                cond (mx_in (d.1 91 8) 96) (
                  if d.1 94 (d.1 91 8).toNatClampNeg < 48 then
                    some (none, (zd_u d 91 9 3))
                  else
                    cond (mx_in (d.1 91 8) 96) (
                      if 57 < d.1 94 (d.1 91 8).toNatClampNeg then
                        some (none, (zd_u d 91 9 3))
                      else
                        if d.1 91 8 < d.1 91 4 then
                          cond (mx_in (d.1 91 8) 96) (
                            if d.1 94 (d.1 91 8).toNatClampNeg < 97 then
                              (zm 175 0 [z_r 91] [] d).bind fun q => zm 171 64 [z_r 91, z_i x1] (q.1.toList ++ []) q.2
                            else
                              cond (mx_in (d.1 91 8) 96) (
                                if 122 < d.1 94 (d.1 91 8).toNatClampNeg then
                                  (zm 175 0 [z_r 91] [] d).bind fun q => zm 171 64 [z_r 91, z_i x1] (q.1.toList ++ []) q.2
                                else
                                  (zm 174 0 [z_r 91, none, none, none, none] [] d).bind fun q => zm 171 61 [z_r 91, z_i x1] (q.1.toList ++ []) q.2) none) none
                        else
                          (zm 175 0 [z_r 91] [] d).bind fun q => zm 171 64 [z_r 91, z_i x1] (q.1.toList ++ []) q.2) none) none
              else
                some (none, (zd_u d 91 9 3))
            else
              if d.1 91 8 < d.1 91 4 then
                cond (mx_in (d.1 91 8) 96) (
                  if d.1 94 (d.1 91 8).toNatClampNeg < 97 then
                    (zm 175 0 [z_r 91] [] d).bind fun q => zm 171 64 [z_r 91, z_i x1] (q.1.toList ++ []) q.2
                  else
                    cond (mx_in (d.1 91 8) 96) (
                      if 122 < d.1 94 (d.1 91 8).toNatClampNeg then
                        (zm 175 0 [z_r 91] [] d).bind fun q => zm 171 64 [z_r 91, z_i x1] (q.1.toList ++ []) q.2
                      else
                        (zm 174 0 [z_r 91, none, none, none, none] [] d).bind fun q => zm 171 61 [z_r 91, z_i x1] (q.1.toList ++ []) q.2) none) none
              else
                (zm 175 0 [z_r 91] [] d).bind fun q => zm 171 64 [z_r 91, z_i x1] (q.1.toList ++ []) q.2) none) none
    else
      if d.1 91 8 < d.1 91 4 then
        cond (mx_in (d.1 91 8) 96) (
          if d.1 94 (d.1 91 8).toNatClampNeg < 48 then
            some (none, (zd_u d 91 9 3))
          else
            cond (mx_in (d.1 91 8) 96) (
              if 57 < d.1 94 (d.1 91 8).toNatClampNeg then
                some (none, (zd_u d 91 9 3))
              else
                if d.1 91 8 < d.1 91 4 then
                  cond (mx_in (d.1 91 8) 96) (
                    if d.1 94 (d.1 91 8).toNatClampNeg < 97 then
                      (zm 175 0 [z_r 91] [] d).bind fun q => zm 171 64 [z_r 91, z_i x1] (q.1.toList ++ []) q.2
                    else
                      cond (mx_in (d.1 91 8) 96) (
                        if 122 < d.1 94 (d.1 91 8).toNatClampNeg then
                          (zm 175 0 [z_r 91] [] d).bind fun q => zm 171 64 [z_r 91, z_i x1] (q.1.toList ++ []) q.2
                        else
                          (zm 174 0 [z_r 91, none, none, none, none] [] d).bind fun q => zm 171 61 [z_r 91, z_i x1] (q.1.toList ++ []) q.2) none) none
                else
                  (zm 175 0 [z_r 91] [] d).bind fun q => zm 171 64 [z_r 91, z_i x1] (q.1.toList ++ []) q.2) none) none
      else
        some (none, (zd_u d 91 9 3)) := zm_di 600 rfl
/- TickBoundModel.go -/
set_option maxRecDepth 100000 in
theorem em_171_61 (x1 : Int32) (d : zd_D) : zm 171 61 [z_r 91, z_i x1] [] d =
  if x1 = 0 then
    some (none, (zd_u (zd_u d 91 9 (d.1 91 9)) 91 11 (d.1 91 7)))
  else
    some (none, (zd_u (zd_u d 91 9 3) 91 11 (d.1 91 7))) := zm_di 600 rfl
/- TickBoundModel.go -/
set_option maxRecDepth 100000 in
theorem em_171_64 (x1 : Int32) (d : zd_D) : zm 171 64 [z_r 91, z_i x1] [] d =
  if x1 = 0 then
    some (none, (zd_u (zd_u d 91 9 (d.1 91 9)) 91 11 (d.1 91 7)))
  else
    some (none, (zd_u (zd_u d 91 9 3) 91 11 (d.1 91 7))) := zm_di 600 rfl
/- TickBoundModel.readLetters -/
set_option maxRecDepth 100000 in
theorem em_174_0 (d : zd_D) : zm 174 0 [z_r 91, none, none, none, none] [] d =
  zm 174 1 [z_r 91, none, none, none, none] [] d := zm_di 600 rfl
/- TickBoundModel.readLetters -/
set_option maxRecDepth 100000 in
theorem em_174_1 (d : zd_D) : zm 174 1 [z_r 91, none, none, none, none] [] d =
  if d.1 91 7 < d.1 91 4 then
    cond (mx_in (d.1 91 7) 96) (
      if d.1 94 (d.1 91 7).toNatClampNeg < 97 then
        zm 174 19 [z_r 91, z_i 0, none, none, none] [] (zd_u d 91 9 3)
      else
        cond (mx_in (d.1 91 7) 96) (
          if 122 < d.1 94 (d.1 91 7).toNatClampNeg then
            zm 174 19 [z_r 91, z_i 0, none, none, none] [] (zd_u d 91 9 3)
          else
            zm 174 1 [z_r 91, none, none, none, none] [] (zd_u d 91 7 ((d.1 91 7) + 1))) none) none
  else
    zm 174 19 [z_r 91, z_i 0, none, none, none] [] (zd_u d 91 9 3) := zm_di 600 rfl
/- TickBoundModel.readLetters -/
set_option maxRecDepth 100000 in
theorem em_174_19 (x1 : Int32) (d : zd_D) : zm 174 19 [z_r 91, z_i x1, none, none, none] [] d =
  if x1 < 14 then
    cond (mx_in (x1 + 1) 15) (
      cond (mx_in x1 15) (
        if (d.1 96 (x1 + 1).toNatClampNeg) - (d.1 96 x1.toNatClampNeg) = (d.1 91 7) - (d.1 91 8) then
          zm 174 48 [z_r 91, z_i x1, z_i ((d.1 96 (x1 + 1).toNatClampNeg) - (d.1 96 x1.toNatClampNeg)), z_i 1, z_i 0] [] d
        else
          zm 174 48 [z_r 91, z_i x1, z_i ((d.1 96 (x1 + 1).toNatClampNeg) - (d.1 96 x1.toNatClampNeg)), z_i 0, z_i 0] [] d) none) none
  else
    some (none, d) := zm_di 600 rfl
/- TickBoundModel.readLetters -/
set_option maxRecDepth 100000 in
theorem em_174_48 (x1 x2 x3 x4 : Int32) (d : zd_D) : zm 174 48 [z_r 91, z_i x1, z_i x2, z_i x3, z_i x4] [] d =
  if x4 < x2 then
    if x3 = 0 then
      if x3 = 0 then
        zm 174 19 [z_r 91, z_i (x1 + 1), none, none, none] [] d
      else
        zm 174 19 [z_r 91, z_i (x1 + 1), none, none, none] [] (zd_u (zd_u d 91 9 1) 91 10 x1)
    else
      cond (mx_in ((d.1 91 8) + x4) 96) (
        cond (mx_in x1 15) (
          cond (mx_in ((d.1 96 x1.toNatClampNeg) + x4) 61) (
            if d.1 94 ((d.1 91 8) + x4).toNatClampNeg = d.1 95 ((d.1 96 x1.toNatClampNeg) + x4).toNatClampNeg then
              zm 174 48 [z_r 91, z_i x1, z_i x2, z_i 1, z_i (x4 + 1)] [] d
            else
              zm 174 48 [z_r 91, z_i x1, z_i x2, z_i 0, z_i (x4 + 1)] [] d) none) none) none
  else
    if x3 = 0 then
      zm 174 19 [z_r 91, z_i (x1 + 1), none, none, none] [] d
    else
      zm 174 19 [z_r 91, z_i (x1 + 1), none, none, none] [] (zd_u (zd_u d 91 9 1) 91 10 x1) := zm_di 600 rfl
/- TickBoundModel.readFigures -/
set_option maxRecDepth 100000 in
theorem em_175_0 (d : zd_D) : zm 175 0 [z_r 91] [] d =
  zm 175 4 [z_r 91] [] (zd_u d 91 10 0) := zm_di 600 rfl
/- TickBoundModel.readFigures -/
set_option maxRecDepth 100000 in
theorem em_175_4 (d : zd_D) : zm 175 4 [z_r 91] [] d =
  if d.1 91 7 < d.1 91 4 then
    cond (mx_in (d.1 91 7) 96) (
      if d.1 94 (d.1 91 7).toNatClampNeg < 48 then
        if 3 < (d.1 91 7) - (d.1 91 8) then
          some (none, (zd_u d 91 9 3))
        else
          some (none, (zd_u d 91 9 2))
      else
        cond (mx_in (d.1 91 7) 96) (
          if 57 < d.1 94 (d.1 91 7).toNatClampNeg then
            if 3 < (d.1 91 7) - (d.1 91 8) then
              some (none, (zd_u d 91 9 3))
            else
              some (none, (zd_u d 91 9 2))
          else
            if (d.1 91 7) - (d.1 91 8) < 3 then
              cond (mx_in (d.1 91 7) 96) (
                zm 175 4 [z_r 91] [] (zd_u (zd_u d 91 10 (((10 * (d.1 91 10)) + (d.1 94 (d.1 91 7).toNatClampNeg)) - 48)) 91 7 ((d.1 91 7) + 1))) none
            else
              zm 175 4 [z_r 91] [] (zd_u (zd_u d 91 10 (d.1 91 10)) 91 7 ((d.1 91 7) + 1))) none) none
  else
    if 3 < (d.1 91 7) - (d.1 91 8) then
      some (none, (zd_u d 91 9 3))
    else
      some (none, (zd_u d 91 9 2)) := zm_di 600 rfl
/- TickBoundModel.takesPart -/
set_option maxRecDepth 100000 in
theorem em_176_0 (d : zd_D) : zm 176 0 [z_r 91, none, none] [] d =
  if d.1 91 9 = 1 then
    if 7 < d.1 91 10 then
      some (some (.inl 0), d)
    else
      cond (mx_in (d.1 91 10) 8) (
        if d.1 97 (d.1 91 10).toNatClampNeg < 0 then
          (zm 171 0 [z_r 91, none] [] d).bind fun q => zm 176 21 [z_r 91, z_i (d.1 91 10), none] (q.1.toList ++ []) q.2
        else
          some (some (.inl 0), d)) none
  else
    some (some (.inl 0), d) := zm_di 600 rfl
/- TickBoundModel.takesPart -/
set_option maxRecDepth 100000 in
theorem em_176_21 (x1 : Int32) (d : zd_D) : zm 176 21 [z_r 91, z_i x1, none] [] d =
  if x1 = 2 then
    if x1 = 2 then
      if d.1 91 9 = 1 then
        if d.1 91 10 < 8 then
          some (some (.inl 0), d)
        else
          if 8 + 2 < d.1 91 10 then
            some (some (.inl 0), d)
          else
            cond (mx_in x1 8) (
              (zm 171 0 [z_r 91, none] [] (zd_u (zd_u d 97 x1.toNatClampNeg ((d.1 91 10) - 8)) 91 13 ((d.1 91 13) + 1))).bind fun q => zm 176 90 [z_r 91, z_i x1, z_i 8] (q.1.toList ++ []) q.2) none
      else
        some (some (.inl 0), d)
    else
      if d.1 91 9 = 1 then
        if d.1 91 10 < 11 then
          some (some (.inl 0), d)
        else
          if 11 + 2 < d.1 91 10 then
            some (some (.inl 0), d)
          else
            cond (mx_in x1 8) (
              (zm 171 0 [z_r 91, none] [] (zd_u (zd_u d 97 x1.toNatClampNeg ((d.1 91 10) - 11)) 91 13 ((d.1 91 13) + 1))).bind fun q => zm 176 90 [z_r 91, z_i x1, z_i 11] (q.1.toList ++ []) q.2) none
      else
        some (some (.inl 0), d)
  else
    if x1 = 5 then
      if x1 = 2 then
        if d.1 91 9 = 1 then
          if d.1 91 10 < 8 then
            some (some (.inl 0), d)
          else
            if 8 + 2 < d.1 91 10 then
              some (some (.inl 0), d)
            else
              cond (mx_in x1 8) (
                (zm 171 0 [z_r 91, none] [] (zd_u (zd_u d 97 x1.toNatClampNeg ((d.1 91 10) - 8)) 91 13 ((d.1 91 13) + 1))).bind fun q => zm 176 90 [z_r 91, z_i x1, z_i 8] (q.1.toList ++ []) q.2) none
        else
          some (some (.inl 0), d)
      else
        if d.1 91 9 = 1 then
          if d.1 91 10 < 11 then
            some (some (.inl 0), d)
          else
            if 11 + 2 < d.1 91 10 then
              some (some (.inl 0), d)
            else
              cond (mx_in x1 8) (
                (zm 171 0 [z_r 91, none] [] (zd_u (zd_u d 97 x1.toNatClampNeg ((d.1 91 10) - 11)) 91 13 ((d.1 91 13) + 1))).bind fun q => zm 176 90 [z_r 91, z_i x1, z_i 11] (q.1.toList ++ []) q.2) none
        else
          some (some (.inl 0), d)
    else
      if d.1 91 9 = 2 then
        cond (mx_in x1 8) (
          if d.1 91 14 = 0 then
            (zm 177 0 [z_i x1, z_i (d.1 91 10)] [] (zd_u d 97 x1.toNatClampNeg (d.1 91 10))).bind fun q => zm 176 77 [z_r 91, z_i x1, none] (q.1.toList ++ [(.inr (.inr (some 91)))]) q.2
          else
            (zm 171 0 [z_r 91, none] [] (zd_u (zd_u (zd_u d 97 x1.toNatClampNeg (d.1 91 10)) 91 14 1) 91 13 ((d.1 91 13) + 1))).bind fun q => zm 176 90 [z_r 91, z_i x1, none] (q.1.toList ++ []) q.2) none
      else
        some (some (.inl 0), d) := zm_di 600 rfl
/- TickBoundModel.takesPart -/
set_option maxRecDepth 100000 in
theorem em_176_77 (x1 y1 : Int32) (d : zd_D) : zm 176 77 [z_r 91, z_i x1, none] [(.inl y1), (.inr (.inr (some 91)))] d =
  if y1 = 0 then
    (zm 171 0 [z_r 91, none] [] (zd_u (zd_u d 91 14 1) 91 13 ((d.1 91 13) + 1))).bind fun q => zm 176 90 [z_r 91, z_i x1, none] (q.1.toList ++ []) q.2
  else
    (zm 171 0 [z_r 91, none] [] (zd_u (zd_u d 91 14 0) 91 13 ((d.1 91 13) + 1))).bind fun q => zm 176 90 [z_r 91, z_i x1, none] (q.1.toList ++ []) q.2 := zm_di 600 rfl
/- TickBoundModel.takesPart -/
set_option maxRecDepth 100000 in
theorem em_176_90 (x1 x2 : Int32) (d : zd_D) : zm 176 90 [z_r 91, z_i x1, z_i x2] [] d =
  some (some (.inl 1), d) := zm_di 600 rfl
/- TickBoundModel.takesPart -/
set_option maxRecDepth 100000 in
theorem em_176_90a (x1 : Int32) (d : zd_D) : zm 176 90 [z_r 91, z_i x1, none] [] d =
  some (some (.inl 1), d) := zm_di 600 rfl
/- TickBoundModel.isPart -/
set_option maxRecDepth 100000 in
theorem em_177_0 (x0 x1 : Int32) (d : zd_D) : zm 177 0 [z_i x0, z_i x1] [] d =
  if x0 < 2 then
    if x1 = 1 then
      some (some (.inl 1), d)
    else
      if x1 = 2 then
        some (some (.inl 1), d)
      else
        if x1 = 4 then
          some (some (.inl 1), d)
        else
          some (some (.inl 0), d)
  else
    if x0 = 3 then
      if x1 < 0 then
        some (some (.inl 0), d)
      else
        if 99 < x1 then
          some (some (.inl 0), d)
        else
          some (some (.inl 1), d)
    else
      if x1 < 0 then
        some (some (.inl 0), d)
      else
        if 9 < x1 then
          some (some (.inl 0), d)
        else
          some (some (.inl 1), d) := zm_di 600 rfl
/- TickBoundModel.is -/
set_option maxRecDepth 100000 in
theorem em_178_0 (x1 : Int32) (d : zd_D) : zm 178 0 [z_r 91, z_i x1] [] d =
  if x1 < 0 then
    if x1 = 8 then
      (zm 179 0 [z_r 91] [] d).bind fun q => zm 178 15 [z_r 91, z_i x1] (q.1.toList ++ []) q.2
    else
      some (some (.inl (-1000000001)), d)
  else
    if 7 < x1 then
      if x1 = 8 then
        (zm 179 0 [z_r 91] [] d).bind fun q => zm 178 15 [z_r 91, z_i x1] (q.1.toList ++ []) q.2
      else
        some (some (.inl (-1000000001)), d)
    else
      cond (mx_in x1 1020) (
        some (some (.inl (d.1 92 x1.toNatClampNeg)), d)) none := zm_di 600 rfl
/- TickBoundModel.is -/
set_option maxRecDepth 100000 in
theorem em_178_15 (x1 y0 : Int32) (d : zd_D) : zm 178 15 [z_r 91, z_i x1] [(.inl y0)] d =
  some (some (.inl y0), d) := zm_di 600 rfl
/- TickBoundModel.remembers -/
set_option maxRecDepth 100000 in
theorem em_179_0 (d : zd_D) : zm 179 0 [z_r 91] [] d =
  if d.1 92 2 = 0 then
    some (some (.inl (d.1 92 1)), d)
  else
    if d.1 92 2 = 1 then
      some (some (.inl 1), d)
    else
      if d.1 92 1 = 4 then
        some (some (.inl 3), d)
      else
        some (some (.inl (d.1 92 1)), d) := zm_di 600 rfl
/- TickBoundModel.memory -/
set_option maxRecDepth 100000 in
theorem em_180_0 (x1 x2 : Int32) (d : zd_D) : zm 180 0 [z_r 91, z_i x1, z_i x2, none] [] d =
  if x1 < 0 then
    some (some (.inl (-1000000001)), d)
  else
    if 31 < x1 then
      some (some (.inl (-1000000001)), d)
    else
      cond (mx_in (152 + x1) 1020) (
        cond (mx_in (152 + x1) 1020) (
          some (some (.inl (d.1 92 (152 + x1).toNatClampNeg)), (zd_u d 92 (152 + x1).toNatClampNeg x2))) none) none := zm_di 600 rfl
/- TickBoundModel.lock -/
set_option maxRecDepth 100000 in
theorem em_181_0 (x1 x2 : Int32) (d : zd_D) : zm 181 0 [z_r 91, z_i x1, z_i x2, none] [] d =
  if x1 < 0 then
    some (some (.inl (-1000000001)), d)
  else
    if 15 < x1 then
      some (some (.inl (-1000000001)), d)
    else
      if x2 < 0 then
        some (some (.inl (-1000000001)), d)
      else
        if 1 < x2 then
          some (some (.inl (-1000000001)), d)
        else
          if x2 = 1 then
            some (some (.inl (((d.1 92 9) >>> (x1 &&& 31)) &&& 1)), (zd_u d 92 9 ((d.1 92 9) ||| ((1 : Int32) <<< (x1 &&& 31)))))
          else
            some (some (.inl (((d.1 92 9) >>> (x1 &&& 31)) &&& 1)), (zd_u d 92 9 ((d.1 92 9) &&& (((1 : Int32) <<< (x1 &&& 31)) ^^^ (-1))))) := zm_di 600 rfl
/- TickBoundModel.order -/
set_option maxRecDepth 100000 in
theorem em_182_0 (x1 x2 x3 x4 : Int32) (d : zd_D) : zm 182 0 [z_r 91, z_i x1, z_i x2, z_i x3, z_i x4, none] [] d =
  (zm 183 0 [z_i x1, z_i x2, z_i x3, z_i x4] [] d).bind fun q => zm 182 5 [z_r 91, z_i x1, z_i x2, z_i x3, z_i x4, none] (q.1.toList ++ []) q.2 := zm_di 600 rfl
/- TickBoundModel.order -/
set_option maxRecDepth 100000 in
theorem em_182_5 (x1 x2 x3 x4 y0 : Int32) (d : zd_D) : zm 182 5 [z_r 91, z_i x1, z_i x2, z_i x3, z_i x4, none] [(.inl y0)] d =
  if y0 = 0 then
    some (some (.inl (-1000000001)), d)
  else
    if d.1 92 8 = 28 then
      some (some (.inl (-1000000003)), d)
    else
      cond (mx_in (12 + (4 * (d.1 92 8))) 1020) (
        cond (mx_in ((12 + (4 * (d.1 92 8))) + 1) 1020) (
          cond (mx_in ((12 + (4 * (d.1 92 8))) + 2) 1020) (
            cond (mx_in ((12 + (4 * (d.1 92 8))) + 3) 1020) (
              cond (mx_in (124 + (d.1 92 8)) 1020) (
                (zm 186 0 [z_r 91, none] [] (zd_u (zd_u (zd_u (zd_u (zd_u (zd_u d 92 (12 + (4 * (d.1 92 8))).toNatClampNeg x1) 92 ((12 + (4 * (d.1 92 8))) + 1).toNatClampNeg x2) 92 ((12 + (4 * (d.1 92 8))) + 2).toNatClampNeg x3) 92 ((12 + (4 * (d.1 92 8))) + 3).toNatClampNeg x4) 92 (124 + (d.1 92 8)).toNatClampNeg 0) 92 8 (((zd_u (zd_u (zd_u (zd_u (zd_u d 92 (12 + (4 * (d.1 92 8))).toNatClampNeg x1) 92 ((12 + (4 * (d.1 92 8))) + 1).toNatClampNeg x2) 92 ((12 + (4 * (d.1 92 8))) + 2).toNatClampNeg x3) 92 ((12 + (4 * (d.1 92 8))) + 3).toNatClampNeg x4) 92 (124 + (d.1 92 8)).toNatClampNeg 0).1 92 8) + 1))).bind fun q => zm 182 80 [z_r 91, z_i x1, z_i x2, z_i x3, z_i x4, z_i (d.1 92 8)] (q.1.toList ++ []) q.2) none) none) none) none) none := zm_di 600 rfl
/- TickBoundModel.order -/
set_option maxRecDepth 100000 in
theorem em_182_80 (x1 x2 x3 x4 x5 : Int32) (d : zd_D) : zm 182 80 [z_r 91, z_i x1, z_i x2, z_i x3, z_i x4, z_i x5] [] d =
  some (some (.inl x5), d) := zm_di 600 rfl
/- TickBoundModel.isGood -/
set_option maxRecDepth 100000 in
theorem em_183_0 (x0 x1 x2 x3 : Int32) (d : zd_D) : zm 183 0 [z_i x0, z_i x1, z_i x2, z_i x3] [] d =
  if x1 < 0 then
    some (some (.inl 0), d)
  else
    if 3 < x1 then
      some (some (.inl 0), d)
    else
      if x0 = 0 then
        if x2 < 0 then
          some (some (.inl 0), d)
        else
          if 3 < x2 then
            some (some (.inl 0), d)
          else
            if x3 < (-999) then
              some (some (.inl 0), d)
            else
              if 999 < x3 then
                some (some (.inl 0), d)
              else
                some (some (.inl 1), d)
      else
        if x0 = 1 then
          if x2 < 0 then
            if x2 = 4 then
              if x3 < 0 then
                some (some (.inl 0), d)
              else
                if 31 < x3 then
                  some (some (.inl 0), d)
                else
                  some (some (.inl 1), d)
            else
              some (some (.inl 0), d)
          else
            if 3 < x2 then
              if x2 = 4 then
                if x3 < 0 then
                  some (some (.inl 0), d)
                else
                  if 31 < x3 then
                    some (some (.inl 0), d)
                  else
                    some (some (.inl 1), d)
              else
                some (some (.inl 0), d)
            else
              if x3 < (-999) then
                if x2 = 4 then
                  if x3 < 0 then
                    some (some (.inl 0), d)
                  else
                    if 31 < x3 then
                      some (some (.inl 0), d)
                    else
                      some (some (.inl 1), d)
                else
                  some (some (.inl 0), d)
              else
                if 999 < x3 then
                  if x2 = 4 then
                    if x3 < 0 then
                      some (some (.inl 0), d)
                    else
                      if 31 < x3 then
                        some (some (.inl 0), d)
                      else
                        some (some (.inl 1), d)
                  else
                    some (some (.inl 0), d)
                else
                  some (some (.inl 1), d)
        else
          if x0 = 2 then
            if x2 < 0 then
              if x2 = 4 then
                if x3 < 0 then
                  some (some (.inl 0), d)
                else
                  if 31 < x3 then
                    some (some (.inl 0), d)
                  else
                    some (some (.inl 1), d)
              else
                some (some (.inl 0), d)
            else
              if 3 < x2 then
                if x2 = 4 then
                  if x3 < 0 then
                    some (some (.inl 0), d)
                  else
                    if 31 < x3 then
                      some (some (.inl 0), d)
                    else
                      some (some (.inl 1), d)
                else
                  some (some (.inl 0), d)
              else
                if x3 < (-999) then
                  if x2 = 4 then
                    if x3 < 0 then
                      some (some (.inl 0), d)
                    else
                      if 31 < x3 then
                        some (some (.inl 0), d)
                      else
                        some (some (.inl 1), d)
                  else
                    some (some (.inl 0), d)
                else
                  if 999 < x3 then
                    if x2 = 4 then
                      if x3 < 0 then
                        some (some (.inl 0), d)
                      else
                        if 31 < x3 then
                          some (some (.inl 0), d)
                        else
                          some (some (.inl 1), d)
                    else
                      some (some (.inl 0), d)
                  else
                    some (some (.inl 1), d)
          else
            if x0 = 3 then
              if x2 < 0 then
                some (some (.inl 0), d)
              else
                if 28 < x2 then
                  some (some (.inl 0), d)
                else
                  if x3 < (-999) then
                    some (some (.inl 0), d)
                  else
                    if 999 < x3 then
                      some (some (.inl 0), d)
                    else
                      some (some (.inl 1), d)
            else
              if x0 = 4 then
                if x2 < 0 then
                  some (some (.inl 0), d)
                else
                  if 28 < x2 then
                    some (some (.inl 0), d)
                  else
                    if x3 = 0 then
                      some (some (.inl 1), d)
                    else
                      some (some (.inl 0), d)
              else
                if x0 = 5 then
                  if x2 < 0 then
                    some (some (.inl 0), d)
                  else
                    if 3 < x2 then
                      some (some (.inl 0), d)
                    else
                      if x3 < 0 then
                        some (some (.inl 0), d)
                      else
                        if 3 < x3 then
                          some (some (.inl 0), d)
                        else
                          some (some (.inl 1), d)
                else
                  if x0 = 6 then
                    if x2 < 0 then
                      some (some (.inl 0), d)
                    else
                      if 3 < x2 then
                        some (some (.inl 0), d)
                      else
                        if x3 < 0 then
                          some (some (.inl 0), d)
                        else
                          if 3 < x3 then
                            some (some (.inl 0), d)
                          else
                            some (some (.inl 1), d)
                  else
                    if x0 = 7 then
                      if x2 = 0 then
                        if x3 = 0 then
                          some (some (.inl 1), d)
                        else
                          some (some (.inl 0), d)
                      else
                        some (some (.inl 0), d)
                    else
                      some (some (.inl 0), d) := zm_di 600 rfl
/- TickBoundModel.forgets -/
set_option maxRecDepth 100000 in
theorem em_186_0 (d : zd_D) : zm 186 0 [z_r 91, none] [] d =
  zm 186 3 [z_r 91, z_i 0] [] d := zm_di 600 rfl
/- TickBoundModel.forgets -/
set_option maxRecDepth 100000 in
theorem em_186_3 (x1 : Int32) (d : zd_D) : zm 186 3 [z_r 91, z_i x1] [] d =
  if x1 < 820 then
    cond (mx_in (200 + x1) 1020) (
      zm 186 3 [z_r 91, z_i (x1 + 1)] [] (zd_u d 92 (200 + x1).toNatClampNeg 0)) none
  else
    some (none, (zd_u d 91 19 0)) := zm_di 600 rfl
/- TickBoundModel.clear -/
set_option maxRecDepth 100000 in
theorem em_187_0 (d : zd_D) : zm 187 0 [z_r 91, none] [] d =
  (zm 186 0 [z_r 91, none] [] (zd_u d 92 8 0)).bind fun q => zm 187 12 [z_r 91, z_i (d.1 92 8)] (q.1.toList ++ []) q.2 := zm_di 600 rfl
/- TickBoundModel.clear -/
set_option maxRecDepth 100000 in
theorem em_187_12 (x1 : Int32) (d : zd_D) : zm 187 12 [z_r 91, z_i x1] [] d =
  some (some (.inl x1), d) := zm_di 600 rfl
/- TickBoundModel.told -/
set_option maxRecDepth 100000 in
theorem em_188_0 (x1 x2 : Int32) (d : zd_D) : zm 188 0 [z_r 91, z_i x1, z_i x2] [] d =
  if x1 < 0 then
    some (some (.inl (-1000000001)), d)
  else
    if (d.1 92 8) - 1 < x1 then
      some (some (.inl (-1000000001)), d)
    else
      if x2 < 0 then
        some (some (.inl (-1000000001)), d)
      else
        if 7 < x2 then
          some (some (.inl (-1000000001)), d)
        else
          if x2 < 4 then
            cond (mx_in ((12 + (4 * x1)) + x2) 1020) (
              some (some (.inl (d.1 92 ((12 + (4 * x1)) + x2).toNatClampNeg)), d)) none
          else
            if x2 = 4 then
              cond (mx_in (124 + x1) 1020) (
                some (some (.inl (d.1 92 (124 + x1).toNatClampNeg)), d)) none
            else
              (zm 190 0 [z_r 91, none] [] d).bind fun q => zm 188 37 [z_r 91, z_i x1, z_i x2] (q.1.toList ++ []) q.2 := zm_di 600 rfl
/- TickBoundModel.told -/
set_option maxRecDepth 100000 in
theorem em_188_37 (x1 x2 : Int32) (d : zd_D) : zm 188 37 [z_r 91, z_i x1, z_i x2] [] d =
  if x2 = 5 then
    cond (mx_in (x1 + 1) 30) (
      cond (mx_in x1 30) (
        some (some (.inl ((d.1 100 (x1 + 1).toNatClampNeg) - (d.1 100 x1.toNatClampNeg))), d)) none) none
  else
    if x2 = 6 then
      (zm 206 0 [z_r 91, z_i x1] [] d).bind fun q => zm 188 58 [z_r 91, z_i x1, z_i x2] (q.1.toList ++ []) q.2
    else
      cond (mx_in (12 + (4 * x1)) 1020) (
        if d.1 92 (12 + (4 * x1)).toNatClampNeg = 1 then
          cond (mx_in x1 28) (
            some (some (.inl (d.1 115 x1.toNatClampNeg)), d)) none
        else
          if d.1 92 (12 + (4 * x1)).toNatClampNeg = 2 then
            cond (mx_in x1 28) (
              some (some (.inl (d.1 115 x1.toNatClampNeg)), d)) none
          else
            some (some (.inl (-1000000005)), d)) none := zm_di 600 rfl
/- TickBoundModel.told -/
set_option maxRecDepth 100000 in
theorem em_188_58 (x1 x2 y0 : Int32) (d : zd_D) : zm 188 58 [z_r 91, z_i x1, z_i x2] [(.inl y0)] d =
  some (some (.inl y0), d) := zm_di 600 rfl
/- TickBoundModel.findAll -/
set_option maxRecDepth 100000 in
theorem em_190_0 (d : zd_D) : zm 190 0 [z_r 91, none] [] d =
  (zm 191 0 [z_r 91, none, none] [] d).bind fun q => zm 190 2 [z_r 91, none] (q.1.toList ++ []) q.2 := zm_di 600 rfl
/- TickBoundModel.findAll -/
set_option maxRecDepth 100000 in
theorem em_190_2 (d : zd_D) : zm 190 2 [z_r 91, none] [] d =
  (zm 195 0 [z_r 91, none, none] [] d).bind fun q => zm 190 4 [z_r 91, none] (q.1.toList ++ []) q.2 := zm_di 600 rfl
/- TickBoundModel.findAll -/
set_option maxRecDepth 100000 in
theorem em_190_4 (d : zd_D) : zm 190 4 [z_r 91, none] [] d =
  (zm 203 0 [z_r 91, none, none, none] [] d).bind fun q => zm 190 6 [z_r 91, none] (q.1.toList ++ []) q.2 := zm_di 600 rfl
/- TickBoundModel.findAll -/
set_option maxRecDepth 100000 in
theorem em_190_6 (d : zd_D) : zm 190 6 [z_r 91, none] [] d =
  zm 190 9 [z_r 91, z_i 0] [] d := zm_di 600 rfl
/- TickBoundModel.findAll -/
set_option maxRecDepth 100000 in
theorem em_190_9 (x1 : Int32) (d : zd_D) : zm 190 9 [z_r 91, z_i x1] [] d =
  if x1 < d.1 92 8 then
    (zm 205 0 [z_r 91, z_i x1, none] [] d).bind fun q => zm 190 21 [z_r 91, z_i x1] (q.1.toList ++ [(.inl x1), (.inr (.inr (some 115)))]) q.2
  else
    some (none, d) := zm_di 600 rfl
/- TickBoundModel.findAll -/
set_option maxRecDepth 100000 in
theorem em_190_21 (x1 y1 y2 : Int32) (d : zd_D) : zm 190 21 [z_r 91, z_i x1] [(.inl y2), (.inl y1), (.inr (.inr (some 115)))] d =
  cond (mx_in y1 28) (
    zm 190 9 [z_r 91, z_i (x1 + 1)] [] (zd_u d 115 y1.toNatClampNeg y2)) none := zm_di 600 rfl
/- TickBoundModel.findEdges -/
set_option maxRecDepth 100000 in
theorem em_191_0 (d : zd_D) : zm 191 0 [z_r 91, none, none] [] d =
  zm 191 6 [z_r 91, z_i 0, none] [] (zd_u d 91 15 0) := zm_di 600 rfl
/- TickBoundModel.findEdges -/
set_option maxRecDepth 100000 in
theorem em_191_6 (x1 : Int32) (d : zd_D) : zm 191 6 [z_r 91, z_i x1, none] [] d =
  if x1 < d.1 92 8 then
    cond (mx_in x1 30) (
      zm 191 21 [z_r 91, z_i x1, z_i 0] [] (zd_u d 100 x1.toNatClampNeg (d.1 91 15))) none
  else
    cond (mx_in (d.1 92 8) 30) (
      some (none, (zd_u d 100 (d.1 92 8).toNatClampNeg (d.1 91 15)))) none := zm_di 600 rfl
/- TickBoundModel.findEdges -/
set_option maxRecDepth 100000 in
theorem em_191_21 (x1 x2 : Int32) (d : zd_D) : zm 191 21 [z_r 91, z_i x1, z_i x2] [] d =
  if d.1 92 8 < x2 then
    zm 191 6 [z_r 91, z_i (x1 + 1), none] [] d
  else
    (zm 192 0 [z_r 91, z_i x1, z_i x2, none, none, none] [] d).bind fun q => zm 191 31 [z_r 91, z_i x1, z_i x2] (q.1.toList ++ []) q.2 := zm_di 600 rfl
/- TickBoundModel.findEdges -/
set_option maxRecDepth 100000 in
theorem em_191_31 (x1 x2 y0 : Int32) (d : zd_D) : zm 191 31 [z_r 91, z_i x1, z_i x2] [(.inl y0)] d =
  if y0 = 0 then
    zm 191 21 [z_r 91, z_i x1, z_i (x2 + 1)] [] d
  else
    cond (mx_in (d.1 91 15) 820) (
      cond (mx_in (d.1 91 15) 820) (
        zm 191 21 [z_r 91, z_i x1, z_i (x2 + 1)] [] (zd_u (zd_u (zd_u d 98 (d.1 91 15).toNatClampNeg x1) 99 (d.1 91 15).toNatClampNeg x2) 91 15 ((d.1 91 15) + 1))) none) none := zm_di 600 rfl
/- TickBoundModel.leads -/
set_option maxRecDepth 100000 in
theorem em_192_0 (x1 x2 : Int32) (d : zd_D) : zm 192 0 [z_r 91, z_i x1, z_i x2, none, none, none] [] d =
  cond (mx_in (12 + (4 * x1)) 1020) (
    cond (mx_in ((12 + (4 * x1)) + 2) 1020) (
      if d.1 92 8 < d.1 92 ((12 + (4 * x1)) + 2).toNatClampNeg then
        if d.1 92 (12 + (4 * x1)).toNatClampNeg = 3 then
          if x2 = d.1 92 8 then
            some (some (.inl 1), d)
          else
            if x2 = x1 + 1 then
              some (some (.inl 1), d)
            else
              some (some (.inl 0), d)
        else
          if d.1 92 (12 + (4 * x1)).toNatClampNeg = 4 then
            if x2 = d.1 92 8 then
              some (some (.inl 1), d)
            else
              some (some (.inl 0), d)
          else
            if d.1 92 (12 + (4 * x1)).toNatClampNeg = 5 then
              if x2 = x1 + 1 then
                some (some (.inl 1), d)
              else
                some (some (.inl 0), d)
            else
              if d.1 92 (12 + (4 * x1)).toNatClampNeg = 6 then
                if x2 = x1 + 1 then
                  some (some (.inl 1), d)
                else
                  some (some (.inl 0), d)
              else
                if d.1 92 (12 + (4 * x1)).toNatClampNeg = 7 then
                  if x2 < d.1 92 8 then
                    cond (mx_in (124 + x1) 1020) (
                      if ((d.1 92 (124 + x1).toNatClampNeg) >>> (x2 &&& 31)) &&& 1 = 1 then
                        some (some (.inl 1), d)
                      else
                        some (some (.inl 0), d)) none
                  else
                    cond (mx_in (124 + x1) 1020) (
                      if (d.1 92 (124 + x1).toNatClampNeg) >>> ((d.1 92 8) &&& 31) = 0 then
                        some (some (.inl 0), d)
                      else
                        some (some (.inl 1), d)) none
                else
                  if x2 = x1 + 1 then
                    some (some (.inl 1), d)
                  else
                    some (some (.inl 0), d)
      else
        cond (mx_in ((12 + (4 * x1)) + 2) 1020) (
          if d.1 92 (12 + (4 * x1)).toNatClampNeg = 3 then
            if x2 = d.1 92 ((12 + (4 * x1)) + 2).toNatClampNeg then
              some (some (.inl 1), d)
            else
              if x2 = x1 + 1 then
                some (some (.inl 1), d)
              else
                some (some (.inl 0), d)
          else
            if d.1 92 (12 + (4 * x1)).toNatClampNeg = 4 then
              if x2 = d.1 92 ((12 + (4 * x1)) + 2).toNatClampNeg then
                some (some (.inl 1), d)
              else
                some (some (.inl 0), d)
            else
              if d.1 92 (12 + (4 * x1)).toNatClampNeg = 5 then
                if x2 = x1 + 1 then
                  some (some (.inl 1), d)
                else
                  some (some (.inl 0), d)
              else
                if d.1 92 (12 + (4 * x1)).toNatClampNeg = 6 then
                  if x2 = x1 + 1 then
                    some (some (.inl 1), d)
                  else
                    some (some (.inl 0), d)
                else
                  if d.1 92 (12 + (4 * x1)).toNatClampNeg = 7 then
                    if x2 < d.1 92 8 then
                      cond (mx_in (124 + x1) 1020) (
                        if ((d.1 92 (124 + x1).toNatClampNeg) >>> (x2 &&& 31)) &&& 1 = 1 then
                          some (some (.inl 1), d)
                        else
                          some (some (.inl 0), d)) none
                    else
                      cond (mx_in (124 + x1) 1020) (
                        if (d.1 92 (124 + x1).toNatClampNeg) >>> ((d.1 92 8) &&& 31) = 0 then
                          some (some (.inl 0), d)
                        else
                          some (some (.inl 1), d)) none
                  else
                    if x2 = x1 + 1 then
                      some (some (.inl 1), d)
                    else
                      some (some (.inl 0), d)) none) none) none := zm_di 600 rfl
/- TickBoundModel.findMust -/
set_option maxRecDepth 100000 in
theorem em_195_0 (d : zd_D) : zm 195 0 [z_r 91, none, none] [] d =
  zm 195 3 [z_r 91, z_i 0, none] [] d := zm_di 600 rfl
/- TickBoundModel.findMust -/
set_option maxRecDepth 100000 in
theorem em_195_3 (x1 : Int32) (d : zd_D) : zm 195 3 [z_r 91, z_i x1, none] [] d =
  if x1 < 16 * (d.1 92 8) then
    if x1 < 16 then
      cond (mx_in x1 464) (
        zm 195 3 [z_r 91, z_i (x1 + 1), none] [] (zd_u d 113 x1.toNatClampNeg 4)) none
    else
      cond (mx_in x1 464) (
        zm 195 3 [z_r 91, z_i (x1 + 1), none] [] (zd_u d 113 x1.toNatClampNeg 0)) none
  else
    zm 195 26 [z_r 91, z_i 1, none] [] d := zm_di 600 rfl
/- TickBoundModel.findMust -/
set_option maxRecDepth 100000 in
theorem em_195_26 (x1 : Int32) (d : zd_D) : zm 195 26 [z_r 91, z_i x1, none] [] d =
  if x1 = 0 then
    some (none, d)
  else
    (zm 196 0 [z_r 91, none, none, none] [] d).bind fun q => zm 195 32 [z_r 91, z_i 0, none] (q.1.toList ++ []) q.2 := zm_di 600 rfl
/- TickBoundModel.findMust -/
set_option maxRecDepth 100000 in
theorem em_195_32 (x1 : Int32) (d : zd_D) : zm 195 32 [z_r 91, z_i x1, none] [] d =
  zm 195 35 [z_r 91, z_i x1, z_i 16] [] d := zm_di 600 rfl
/- TickBoundModel.findMust -/
set_option maxRecDepth 100000 in
theorem em_195_35 (x1 x2 : Int32) (d : zd_D) : zm 195 35 [z_r 91, z_i x1, z_i x2] [] d =
  if x2 < 16 * (d.1 92 8) then
    if x1 = 0 then
      cond (mx_in x2 464) (
        cond (mx_in x2 464) (
          if d.1 113 x2.toNatClampNeg < d.1 116 x2.toNatClampNeg then
            cond (mx_in x2 464) (
              cond (mx_in x2 464) (
                if d.1 116 x2.toNatClampNeg < d.1 113 x2.toNatClampNeg then
                  cond (mx_in x2 464) (
                    zm 195 35 [z_r 91, z_i 1, z_i (x2 + 1)] [] (zd_u d 113 x2.toNatClampNeg (d.1 113 x2.toNatClampNeg))) none
                else
                  cond (mx_in x2 464) (
                    zm 195 35 [z_r 91, z_i 1, z_i (x2 + 1)] [] (zd_u d 113 x2.toNatClampNeg (d.1 116 x2.toNatClampNeg))) none) none) none
          else
            cond (mx_in x2 464) (
              cond (mx_in x2 464) (
                if d.1 116 x2.toNatClampNeg < d.1 113 x2.toNatClampNeg then
                  cond (mx_in x2 464) (
                    zm 195 35 [z_r 91, z_i 0, z_i (x2 + 1)] [] (zd_u d 113 x2.toNatClampNeg (d.1 113 x2.toNatClampNeg))) none
                else
                  cond (mx_in x2 464) (
                    zm 195 35 [z_r 91, z_i 0, z_i (x2 + 1)] [] (zd_u d 113 x2.toNatClampNeg (d.1 116 x2.toNatClampNeg))) none) none) none) none) none
    else
      cond (mx_in x2 464) (
        cond (mx_in x2 464) (
          if d.1 116 x2.toNatClampNeg < d.1 113 x2.toNatClampNeg then
            cond (mx_in x2 464) (
              zm 195 35 [z_r 91, z_i 1, z_i (x2 + 1)] [] (zd_u d 113 x2.toNatClampNeg (d.1 113 x2.toNatClampNeg))) none
          else
            cond (mx_in x2 464) (
              zm 195 35 [z_r 91, z_i 1, z_i (x2 + 1)] [] (zd_u d 113 x2.toNatClampNeg (d.1 116 x2.toNatClampNeg))) none) none) none
  else
    zm 195 26 [z_r 91, z_i x1, none] [] d := zm_di 600 rfl
/- TickBoundModel.findMet -/
set_option maxRecDepth 100000 in
theorem em_196_0 (d : zd_D) : zm 196 0 [z_r 91, none, none, none] [] d =
  zm 196 3 [z_r 91, z_i 0, none, none] [] d := zm_di 600 rfl
/- TickBoundModel.findMet -/
set_option maxRecDepth 100000 in
theorem em_196_3 (x1 : Int32) (d : zd_D) : zm 196 3 [z_r 91, z_i x1, none, none] [] d =
  if x1 < 464 then
    cond (mx_in x1 464) (
      zm 196 3 [z_r 91, z_i (x1 + 1), none, none] [] (zd_u d 116 x1.toNatClampNeg (-1))) none
  else
    zm 196 16 [z_r 91, z_i 0, none, none] [] d := zm_di 600 rfl
/- TickBoundModel.findMet -/
set_option maxRecDepth 100000 in
theorem em_196_16 (x1 : Int32) (d : zd_D) : zm 196 16 [z_r 91, z_i x1, none, none] [] d =
  if x1 < d.1 91 15 then
    zm 196 23 [z_r 91, z_i x1, z_i 0, none] [] d
  else
    some (none, d) := zm_di 600 rfl
/- TickBoundModel.findMet -/
set_option maxRecDepth 100000 in
theorem em_196_23 (x1 x2 : Int32) (d : zd_D) : zm 196 23 [z_r 91, z_i x1, z_i x2, none] [] d =
  if x2 < 16 then
    cond (mx_in x1 820) (
      cond (mx_in ((16 * (d.1 99 x1.toNatClampNeg)) + x2) 464) (
        cond (mx_in x1 820) (
          (zm 197 0 [z_r 91, z_i (d.1 98 x1.toNatClampNeg), z_i x2, none, none] [] d).bind fun q => zm 196 49 [z_r 91, z_i x1, z_i x2, z_i ((16 * (d.1 99 x1.toNatClampNeg)) + x2)] (q.1.toList ++ [(.inl (d.1 116 ((16 * (d.1 99 x1.toNatClampNeg)) + x2).toNatClampNeg)), (.inl ((16 * (d.1 99 x1.toNatClampNeg)) + x2)), (.inr (.inr (some 116)))]) q.2) none) none) none
  else
    zm 196 16 [z_r 91, z_i (x1 + 1), none, none] [] d := zm_di 600 rfl
/- TickBoundModel.findMet -/
set_option maxRecDepth 100000 in
theorem em_196_49 (x1 x2 x3 y1 y2 y3 : Int32) (d : zd_D) : zm 196 49 [z_r 91, z_i x1, z_i x2, z_i x3] [(.inl y3), (.inl y2), (.inl y1), (.inr (.inr (some 116)))] d =
  if y3 < y2 then
    cond (mx_in y1 464) (
      zm 196 23 [z_r 91, z_i x1, z_i (x2 + 1), none] [] (zd_u d 116 y1.toNatClampNeg y2)) none
  else
    cond (mx_in y1 464) (
      zm 196 23 [z_r 91, z_i x1, z_i (x2 + 1), none] [] (zd_u d 116 y1.toNatClampNeg y3)) none := zm_di 600 rfl
/- TickBoundModel.ageBehind -/
set_option maxRecDepth 100000 in
theorem em_197_0 (x1 x2 : Int32) (d : zd_D) : zm 197 0 [z_r 91, z_i x1, z_i x2, none, none] [] d =
  (zm 198 0 [z_r 91, z_i x1] [] d).bind fun q => zm 197 3 [z_r 91, z_i x1, z_i x2, none, none] (q.1.toList ++ []) q.2 := zm_di 600 rfl
/- TickBoundModel.ageBehind -/
set_option maxRecDepth 100000 in
theorem em_197_3 (x1 x2 y0 : Int32) (d : zd_D) : zm 197 3 [z_r 91, z_i x1, z_i x2, none, none] [(.inl y0)] d =
  cond (mx_in ((16 * x1) + x2) 464) (
    if y0 = (-2) then
      some (some (.inl (d.1 113 ((16 * x1) + x2).toNatClampNeg)), d)
    else
      if y0 < 0 then
        if y0 = x2 then
          some (some (.inl 0), d)
        else
          if d.1 113 ((16 * x1) + x2).toNatClampNeg < 4 then
            if y0 < 0 then
              (zm 179 0 [z_r 91] [] d).bind fun q => zm 197 61 [z_r 91, z_i x1, z_i x2, z_i y0, z_i ((d.1 113 ((16 * x1) + x2).toNatClampNeg) + 1)] (q.1.toList ++ [(.inl ((d.1 113 ((16 * x1) + x2).toNatClampNeg) + 1))]) q.2
            else
              cond (mx_in ((16 * x1) + y0) 464) (
                if d.1 113 ((16 * x1) + x2).toNatClampNeg < d.1 113 ((16 * x1) + y0).toNatClampNeg then
                  (zm 179 0 [z_r 91] [] d).bind fun q => zm 197 61 [z_r 91, z_i x1, z_i x2, z_i y0, z_i ((d.1 113 ((16 * x1) + x2).toNatClampNeg) + 1)] (q.1.toList ++ [(.inl ((d.1 113 ((16 * x1) + x2).toNatClampNeg) + 1))]) q.2
                else
                  (zm 179 0 [z_r 91] [] d).bind fun q => zm 197 61 [z_r 91, z_i x1, z_i x2, z_i y0, z_i (d.1 113 ((16 * x1) + x2).toNatClampNeg)] (q.1.toList ++ [(.inl (d.1 113 ((16 * x1) + x2).toNatClampNeg))]) q.2) none
          else
            (zm 179 0 [z_r 91] [] d).bind fun q => zm 197 61 [z_r 91, z_i x1, z_i x2, z_i y0, z_i (d.1 113 ((16 * x1) + x2).toNatClampNeg)] (q.1.toList ++ [(.inl (d.1 113 ((16 * x1) + x2).toNatClampNeg))]) q.2
      else
        if ((d.1 92 9) >>> (y0 &&& 31)) &&& 1 = 1 then
          some (some (.inl (d.1 113 ((16 * x1) + x2).toNatClampNeg)), d)
        else
          if d.1 92 0 = 0 then
            none
          else
            if d.1 92 0 = 0 then
              none
            else
              if y0 - y0 / (d.1 92 0) * (d.1 92 0) = x2 - x2 / (d.1 92 0) * (d.1 92 0) then
                if y0 = x2 then
                  some (some (.inl 0), d)
                else
                  if d.1 113 ((16 * x1) + x2).toNatClampNeg < 4 then
                    if y0 < 0 then
                      (zm 179 0 [z_r 91] [] d).bind fun q => zm 197 61 [z_r 91, z_i x1, z_i x2, z_i y0, z_i ((d.1 113 ((16 * x1) + x2).toNatClampNeg) + 1)] (q.1.toList ++ [(.inl ((d.1 113 ((16 * x1) + x2).toNatClampNeg) + 1))]) q.2
                    else
                      cond (mx_in ((16 * x1) + y0) 464) (
                        if d.1 113 ((16 * x1) + x2).toNatClampNeg < d.1 113 ((16 * x1) + y0).toNatClampNeg then
                          (zm 179 0 [z_r 91] [] d).bind fun q => zm 197 61 [z_r 91, z_i x1, z_i x2, z_i y0, z_i ((d.1 113 ((16 * x1) + x2).toNatClampNeg) + 1)] (q.1.toList ++ [(.inl ((d.1 113 ((16 * x1) + x2).toNatClampNeg) + 1))]) q.2
                        else
                          (zm 179 0 [z_r 91] [] d).bind fun q => zm 197 61 [z_r 91, z_i x1, z_i x2, z_i y0, z_i (d.1 113 ((16 * x1) + x2).toNatClampNeg)] (q.1.toList ++ [(.inl (d.1 113 ((16 * x1) + x2).toNatClampNeg))]) q.2) none
                  else
                    (zm 179 0 [z_r 91] [] d).bind fun q => zm 197 61 [z_r 91, z_i x1, z_i x2, z_i y0, z_i (d.1 113 ((16 * x1) + x2).toNatClampNeg)] (q.1.toList ++ [(.inl (d.1 113 ((16 * x1) + x2).toNatClampNeg))]) q.2
              else
                some (some (.inl (d.1 113 ((16 * x1) + x2).toNatClampNeg)), d)) none := zm_di 600 rfl
/- TickBoundModel.ageBehind -/
set_option maxRecDepth 100000 in
theorem em_197_61 (x1 x2 x3 x4 y0 y1 : Int32) (d : zd_D) : zm 197 61 [z_r 91, z_i x1, z_i x2, z_i x3, z_i x4] [(.inl y1), (.inl y0)] d =
  if y0 < y1 then
    some (some (.inl x4), d)
  else
    some (some (.inl 4), d) := zm_di 600 rfl
/- TickBoundModel.lineOf -/
set_option maxRecDepth 100000 in
theorem em_198_0 (x1 : Int32) (d : zd_D) : zm 198 0 [z_r 91, z_i x1] [] d =
  cond (mx_in (12 + (4 * x1)) 1020) (
    if d.1 92 (12 + (4 * x1)).toNatClampNeg = 1 then
      cond (mx_in ((12 + (4 * x1)) + 2) 1020) (
        if d.1 92 ((12 + (4 * x1)) + 2).toNatClampNeg = 4 then
          cond (mx_in ((12 + (4 * x1)) + 3) 1020) (
            some (some (.inl ((d.1 92 ((12 + (4 * x1)) + 3).toNatClampNeg) / 2)), d)) none
        else
          some (some (.inl (-1)), d)) none
    else
      if d.1 92 (12 + (4 * x1)).toNatClampNeg = 2 then
        cond (mx_in ((12 + (4 * x1)) + 2) 1020) (
          if d.1 92 ((12 + (4 * x1)) + 2).toNatClampNeg = 4 then
            cond (mx_in ((12 + (4 * x1)) + 3) 1020) (
              some (some (.inl ((d.1 92 ((12 + (4 * x1)) + 3).toNatClampNeg) / 2)), d)) none
          else
            some (some (.inl (-1)), d)) none
      else
        some (some (.inl (-2)), d)) none := zm_di 600 rfl
/- TickBoundModel.findMay -/
set_option maxRecDepth 100000 in
theorem em_203_0 (d : zd_D) : zm 203 0 [z_r 91, none, none, none] [] d =
  zm 203 3 [z_r 91, z_i 0, none, none] [] d := zm_di 600 rfl
/- TickBoundModel.findMay -/
set_option maxRecDepth 100000 in
theorem em_203_3 (x1 : Int32) (d : zd_D) : zm 203 3 [z_r 91, z_i x1, none, none] [] d =
  if d.1 92 8 < x1 then
    zm 203 19 [z_r 91, z_i 1, none, none] [] d
  else
    cond (mx_in x1 29) (
      zm 203 3 [z_r 91, z_i (x1 + 1), none, none] [] (zd_u d 114 x1.toNatClampNeg 0)) none := zm_di 600 rfl
/- TickBoundModel.findMay -/
set_option maxRecDepth 100000 in
theorem em_203_19 (x1 : Int32) (d : zd_D) : zm 203 19 [z_r 91, z_i x1, none, none] [] d =
  if x1 = 0 then
    some (none, d)
  else
    zm 203 26 [z_r 91, z_i 0, z_i 0, none] [] d := zm_di 600 rfl
/- TickBoundModel.findMay -/
set_option maxRecDepth 100000 in
theorem em_203_26 (x1 x2 : Int32) (d : zd_D) : zm 203 26 [z_r 91, z_i x1, z_i x2, none] [] d =
  if x2 < d.1 91 15 then
    cond (mx_in x2 820) (
      cond (mx_in (d.1 99 x2.toNatClampNeg) 29) (
        cond (mx_in x2 820) (
          (zm 204 0 [z_r 91, z_i (d.1 98 x2.toNatClampNeg), none] [] d).bind fun q => zm 203 43 [z_r 91, z_i x1, z_i x2, none] (q.1.toList ++ [(.inl (d.1 114 (d.1 99 x2.toNatClampNeg).toNatClampNeg))]) q.2) none) none) none
  else
    zm 203 19 [z_r 91, z_i x1, none, none] [] d := zm_di 600 rfl
/- TickBoundModel.findMay -/
set_option maxRecDepth 100000 in
theorem em_203_43 (x1 x2 y0 y1 : Int32) (d : zd_D) : zm 203 43 [z_r 91, z_i x1, z_i x2, none] [(.inl y1), (.inl y0)] d =
  if x1 = 0 then
    cond (mx_in x2 820) (
      cond (mx_in (d.1 99 x2.toNatClampNeg) 29) (
        if y0 ||| y1 = d.1 114 (d.1 99 x2.toNatClampNeg).toNatClampNeg then
          cond (mx_in x2 820) (
            cond (mx_in (d.1 99 x2.toNatClampNeg) 29) (
              zm 203 26 [z_r 91, z_i 0, z_i (x2 + 1), none] [] (zd_u d 114 (d.1 99 x2.toNatClampNeg).toNatClampNeg (y0 ||| y1))) none) none
        else
          cond (mx_in x2 820) (
            cond (mx_in (d.1 99 x2.toNatClampNeg) 29) (
              zm 203 26 [z_r 91, z_i 1, z_i (x2 + 1), none] [] (zd_u d 114 (d.1 99 x2.toNatClampNeg).toNatClampNeg (y0 ||| y1))) none) none) none) none
  else
    cond (mx_in x2 820) (
      cond (mx_in (d.1 99 x2.toNatClampNeg) 29) (
        zm 203 26 [z_r 91, z_i 1, z_i (x2 + 1), none] [] (zd_u d 114 (d.1 99 x2.toNatClampNeg).toNatClampNeg (y0 ||| y1))) none) none := zm_di 600 rfl
/- TickBoundModel.behind -/
set_option maxRecDepth 100000 in
theorem em_204_0 (x1 : Int32) (d : zd_D) : zm 204 0 [z_r 91, z_i x1, none] [] d =
  (zm 198 0 [z_r 91, z_i x1] [] d).bind fun q => zm 204 3 [z_r 91, z_i x1, none] (q.1.toList ++ []) q.2 := zm_di 600 rfl
/- TickBoundModel.behind -/
set_option maxRecDepth 100000 in
theorem em_204_3 (x1 y0 : Int32) (d : zd_D) : zm 204 3 [z_r 91, z_i x1, none] [(.inl y0)] d =
  if y0 = (-2) then
    cond (mx_in x1 29) (
      some (some (.inl (d.1 114 x1.toNatClampNeg)), d)) none
  else
    if y0 = (-1) then
      some (some (.inl 65535), d)
    else
      if ((d.1 92 9) >>> (y0 &&& 31)) &&& 1 = 1 then
        cond (mx_in x1 29) (
          some (some (.inl (d.1 114 x1.toNatClampNeg)), d)) none
      else
        cond (mx_in x1 29) (
          some (some (.inl ((d.1 114 x1.toNatClampNeg) ||| ((1 : Int32) <<< (y0 &&& 31)))), d)) none := zm_di 600 rfl
/- TickBoundModel.tellsOf -/
set_option maxRecDepth 100000 in
theorem em_205_0 (x1 : Int32) (d : zd_D) : zm 205 0 [z_r 91, z_i x1, none] [] d =
  (zm 198 0 [z_r 91, z_i x1] [] d).bind fun q => zm 205 3 [z_r 91, z_i x1, none] (q.1.toList ++ []) q.2 := zm_di 600 rfl
/- TickBoundModel.tellsOf -/
set_option maxRecDepth 100000 in
theorem em_205_3 (x1 y0 : Int32) (d : zd_D) : zm 205 3 [z_r 91, z_i x1, none] [(.inl y0)] d =
  if y0 < 0 then
    some (some (.inl 2), d)
  else
    if ((d.1 92 9) >>> (y0 &&& 31)) &&& 1 = 1 then
      some (some (.inl 0), d)
    else
      cond (mx_in ((16 * x1) + y0) 464) (
        if d.1 113 ((16 * x1) + y0).toNatClampNeg < 4 then
          some (some (.inl 0), d)
        else
          cond (mx_in x1 29) (
            if ((d.1 114 x1.toNatClampNeg) >>> (y0 &&& 31)) &&& 1 = 0 then
              some (some (.inl 1), d)
            else
              some (some (.inl 2), d)) none) none := zm_di 600 rfl
/- TickBoundModel.costOf -/
set_option maxRecDepth 100000 in
theorem em_206_0 (x1 : Int32) (d : zd_D) : zm 206 0 [z_r 91, z_i x1] [] d =
  cond (mx_in (12 + (4 * x1)) 1020) (
    cond (mx_in x1 28) (
      if d.1 115 x1.toNatClampNeg = 0 then
        (zm 207 0 [z_r 91, z_i (d.1 92 (12 + (4 * x1)).toNatClampNeg), z_i 1, none] [] d).bind fun q => zm 206 13 [z_r 91, z_i x1] (q.1.toList ++ []) q.2
      else
        (zm 207 0 [z_r 91, z_i (d.1 92 (12 + (4 * x1)).toNatClampNeg), z_i 0, none] [] d).bind fun q => zm 206 13 [z_r 91, z_i x1] (q.1.toList ++ []) q.2) none) none := zm_di 600 rfl
/- TickBoundModel.costOf -/
set_option maxRecDepth 100000 in
theorem em_206_13 (x1 y0 : Int32) (d : zd_D) : zm 206 13 [z_r 91, z_i x1] [(.inl y0)] d =
  some (some (.inl y0), d) := zm_di 600 rfl
/- TickBoundModel.costBy -/
set_option maxRecDepth 100000 in
theorem em_207_0 (x1 x2 : Int32) (d : zd_D) : zm 207 0 [z_r 91, z_i x1, z_i x2, none] [] d =
  if d.1 91 38 < 0 then
    if x1 = 1 then
      if x2 = 0 then
        some (some (.inl (1 + (d.1 92 3))), d)
      else
        some (some (.inl (1 + 0)), d)
    else
      if x1 = 2 then
        if x2 = 0 then
          some (some (.inl (2 + (d.1 92 3))), d)
        else
          some (some (.inl (2 + 0)), d)
      else
        if x1 = 3 then
          some (some (.inl (1 + (d.1 92 4))), d)
        else
          if x1 = 4 then
            some (some (.inl 2), d)
          else
            if x1 = 5 then
              some (some (.inl (1 + (8 * (d.1 92 7)))), d)
            else
              if x1 = 6 then
                some (some (.inl (3 + (8 * (d.1 92 7)))), d)
              else
                if x1 = 7 then
                  some (some (.inl 2), d)
                else
                  some (some (.inl 1), d)
  else
    if x1 = 1 then
      if x2 = 0 then
        some (some (.inl (1 + (d.1 91 38))), d)
      else
        some (some (.inl (1 + 0)), d)
    else
      if x1 = 2 then
        if x2 = 0 then
          some (some (.inl (2 + (d.1 91 38))), d)
        else
          some (some (.inl (2 + 0)), d)
      else
        if x1 = 3 then
          some (some (.inl (1 + (d.1 92 4))), d)
        else
          if x1 = 4 then
            some (some (.inl 2), d)
          else
            if x1 = 5 then
              some (some (.inl (1 + (8 * (d.1 92 7)))), d)
            else
              if x1 = 6 then
                some (some (.inl (3 + (8 * (d.1 92 7)))), d)
              else
                if x1 = 7 then
                  some (some (.inl 2), d)
                else
                  some (some (.inl 1), d) := zm_di 600 rfl
/- TickBoundModel.as -/
set_option maxRecDepth 100000 in
theorem em_208_0 (x1 x2 : Int32) (d : zd_D) : zm 208 0 [z_r 91, z_i x1, z_i x2] [] d =
  if x1 < 0 then
    some (some (.inl (-1000000001)), d)
  else
    if (d.1 92 8) - 1 < x1 then
      some (some (.inl (-1000000001)), d)
    else
      if x2 < 0 then
        some (some (.inl (-1000000001)), d)
      else
        if 7 < x2 then
          some (some (.inl (-1000000001)), d)
        else
          cond (mx_in (12 + (4 * x1)) 1020) (
            (zm 209 0 [z_i (d.1 92 (12 + (4 * x1)).toNatClampNeg), z_i x2] [] d).bind fun q => zm 208 16 [z_r 91, z_i x1, z_i x2] (q.1.toList ++ []) q.2) none := zm_di 600 rfl
/- TickBoundModel.as -/
set_option maxRecDepth 100000 in
theorem em_208_16 (x1 x2 y0 : Int32) (d : zd_D) : zm 208 16 [z_r 91, z_i x1, z_i x2] [(.inl y0)] d =
  if y0 = 0 then
    some (some (.inl (-1000000012)), d)
  else
    cond (mx_in ((12 + (4 * x1)) + 3) 1020) (
      some (some (.inl (d.1 92 ((12 + (4 * x1)) + 3).toNatClampNeg)), d)) none := zm_di 600 rfl
/- TickBoundModel.isUnder -/
set_option maxRecDepth 100000 in
theorem em_209_0 (x0 x1 : Int32) (d : zd_D) : zm 209 0 [z_i x0, z_i x1] [] d =
  if x1 = 0 then
    some (some (.inl 1), d)
  else
    if x0 = x1 then
      some (some (.inl 1), d)
    else
      if x1 = 1 then
        if x0 = 2 then
          some (some (.inl 1), d)
        else
          if x1 = 3 then
            if x0 = 4 then
              some (some (.inl 1), d)
            else
              if x0 = 7 then
                some (some (.inl 1), d)
              else
                if x1 = 4 then
                  if x0 = 7 then
                    some (some (.inl 1), d)
                  else
                    if x1 = 5 then
                      if x0 = 6 then
                        some (some (.inl 1), d)
                      else
                        some (some (.inl 0), d)
                    else
                      some (some (.inl 0), d)
                else
                  if x1 = 5 then
                    if x0 = 6 then
                      some (some (.inl 1), d)
                    else
                      some (some (.inl 0), d)
                  else
                    some (some (.inl 0), d)
          else
            if x1 = 4 then
              if x0 = 7 then
                some (some (.inl 1), d)
              else
                if x1 = 5 then
                  if x0 = 6 then
                    some (some (.inl 1), d)
                  else
                    some (some (.inl 0), d)
                else
                  some (some (.inl 0), d)
            else
              if x1 = 5 then
                if x0 = 6 then
                  some (some (.inl 1), d)
                else
                  some (some (.inl 0), d)
              else
                some (some (.inl 0), d)
      else
        if x1 = 3 then
          if x0 = 4 then
            some (some (.inl 1), d)
          else
            if x0 = 7 then
              some (some (.inl 1), d)
            else
              if x1 = 4 then
                if x0 = 7 then
                  some (some (.inl 1), d)
                else
                  if x1 = 5 then
                    if x0 = 6 then
                      some (some (.inl 1), d)
                    else
                      some (some (.inl 0), d)
                  else
                    some (some (.inl 0), d)
              else
                if x1 = 5 then
                  if x0 = 6 then
                    some (some (.inl 1), d)
                  else
                    some (some (.inl 0), d)
                else
                  some (some (.inl 0), d)
        else
          if x1 = 4 then
            if x0 = 7 then
              some (some (.inl 1), d)
            else
              if x1 = 5 then
                if x0 = 6 then
                  some (some (.inl 1), d)
                else
                  some (some (.inl 0), d)
              else
                some (some (.inl 0), d)
          else
            if x1 = 5 then
              if x0 = 6 then
                some (some (.inl 1), d)
              else
                some (some (.inl 0), d)
            else
              some (some (.inl 0), d) := zm_di 600 rfl
/- TickBoundModel.places -/
set_option maxRecDepth 100000 in
theorem em_210_0 (x1 x2 : Int32) (d : zd_D) : zm 210 0 [z_r 91, z_i x1, z_i x2, none] [] d =
  if x1 < 0 then
    some (some (.inl (-1000000001)), d)
  else
    if (d.1 92 8) - 1 < x1 then
      some (some (.inl (-1000000001)), d)
    else
      if x2 < 0 then
        some (some (.inl (-1000000001)), d)
      else
        if x2 >>> (29 &&& 31) = 0 then
          cond (mx_in (12 + (4 * x1)) 1020) (
            if d.1 92 (12 + (4 * x1)).toNatClampNeg = 7 then
              cond (mx_in (124 + x1) 1020) (
                cond (mx_in (124 + x1) 1020) (
                  (zm 186 0 [z_r 91, none] [] (zd_u d 92 (124 + x1).toNatClampNeg x2)).bind fun q => zm 210 35 [z_r 91, z_i x1, z_i x2, z_i (d.1 92 (124 + x1).toNatClampNeg)] (q.1.toList ++ []) q.2) none) none
            else
              some (some (.inl (-1000000012)), d)) none
        else
          some (some (.inl (-1000000001)), d) := zm_di 600 rfl
/- TickBoundModel.places -/
set_option maxRecDepth 100000 in
theorem em_210_35 (x1 x2 x3 : Int32) (d : zd_D) : zm 210 35 [z_r 91, z_i x1, z_i x2, z_i x3] [] d =
  some (some (.inl x3), d) := zm_di 600 rfl
/- TickBoundModel.edges -/
set_option maxRecDepth 100000 in
theorem em_211_0 (d : zd_D) : zm 211 0 [z_r 91] [] d =
  (zm 191 0 [z_r 91, none, none] [] d).bind fun q => zm 211 2 [z_r 91] (q.1.toList ++ []) q.2 := zm_di 600 rfl
/- TickBoundModel.edges -/
set_option maxRecDepth 100000 in
theorem em_211_2 (d : zd_D) : zm 211 2 [z_r 91] [] d =
  some (some (.inl (d.1 91 15)), d) := zm_di 600 rfl
/- TickBoundModel.edge -/
set_option maxRecDepth 100000 in
theorem em_212_0 (x1 x2 : Int32) (d : zd_D) : zm 212 0 [z_r 91, z_i x1, z_i x2] [] d =
  (zm 190 0 [z_r 91, none] [] d).bind fun q => zm 212 2 [z_r 91, z_i x1, z_i x2] (q.1.toList ++ []) q.2 := zm_di 600 rfl
/- TickBoundModel.edge -/
set_option maxRecDepth 100000 in
theorem em_212_2 (x1 x2 : Int32) (d : zd_D) : zm 212 2 [z_r 91, z_i x1, z_i x2] [] d =
  if x1 < 0 then
    some (some (.inl (-1000000001)), d)
  else
    if (d.1 91 15) - 1 < x1 then
      some (some (.inl (-1000000001)), d)
    else
      if x2 < 0 then
        some (some (.inl (-1000000001)), d)
      else
        if 4 < x2 then
          some (some (.inl (-1000000001)), d)
        else
          if x2 = 0 then
            cond (mx_in x1 820) (
              some (some (.inl (d.1 98 x1.toNatClampNeg)), d)) none
          else
            if x2 = 1 then
              cond (mx_in x1 820) (
                some (some (.inl (d.1 99 x1.toNatClampNeg)), d)) none
            else
              if x2 = 2 then
                cond (mx_in x1 820) (
                  cond (mx_in x1 820) (
                    if d.1 98 x1.toNatClampNeg < d.1 99 x1.toNatClampNeg then
                      some (some (.inl 0), d)
                    else
                      some (some (.inl 1), d)) none) none
              else
                if x2 = 3 then
                  cond (mx_in (200 + x1) 1020) (
                    if (d.1 92 (200 + x1).toNatClampNeg) - 1 < 0 then
                      some (some (.inl (-1000000005)), d)
                    else
                      cond (mx_in (200 + x1) 1020) (
                        some (some (.inl ((d.1 92 (200 + x1).toNatClampNeg) - 1)), d)) none) none
                else
                  (zm 215 0 [z_r 91, z_i x1, none, none] [] d).bind fun q => zm 212 50 [z_r 91, z_i x1, z_i x2] (q.1.toList ++ []) q.2 := zm_di 600 rfl
/- TickBoundModel.edge -/
set_option maxRecDepth 100000 in
theorem em_212_50 (x1 x2 y0 : Int32) (d : zd_D) : zm 212 50 [z_r 91, z_i x1, z_i x2] [(.inl y0)] d =
  some (some (.inl y0), d) := zm_di 600 rfl
/- TickBoundModel.edgeCost -/
set_option maxRecDepth 100000 in
theorem em_215_0 (x1 : Int32) (d : zd_D) : zm 215 0 [z_r 91, z_i x1, none, none] [] d =
  cond (mx_in x1 820) (
    cond (mx_in (12 + (4 * (d.1 98 x1.toNatClampNeg))) 1020) (
      if d.1 92 (12 + (4 * (d.1 98 x1.toNatClampNeg))).toNatClampNeg = 1 then
        cond (mx_in x1 820) (
          if d.1 99 x1.toNatClampNeg < d.1 92 8 then
            cond (mx_in x1 820) (
              cond (mx_in ((12 + (4 * (d.1 98 x1.toNatClampNeg))) + 1) 1020) (
                (zm 217 0 [z_r 91, z_i (d.1 99 x1.toNatClampNeg), z_i (d.1 92 ((12 + (4 * (d.1 98 x1.toNatClampNeg))) + 1).toNatClampNeg)] [] d).bind fun q => zm 215 28 [z_r 91, z_i x1, z_i (d.1 98 x1.toNatClampNeg), none] (q.1.toList ++ []) q.2) none) none
          else
            (zm 206 0 [z_r 91, z_i (d.1 98 x1.toNatClampNeg)] [] d).bind fun q => zm 215 36 [z_r 91, z_i x1, z_i (d.1 98 x1.toNatClampNeg), z_i 0] (q.1.toList ++ []) q.2) none
      else
        (zm 206 0 [z_r 91, z_i (d.1 98 x1.toNatClampNeg)] [] d).bind fun q => zm 215 36 [z_r 91, z_i x1, z_i (d.1 98 x1.toNatClampNeg), z_i 0] (q.1.toList ++ []) q.2) none) none := zm_di 600 rfl
/- TickBoundModel.edgeCost -/
set_option maxRecDepth 100000 in
theorem em_215_28 (x1 x2 y0 : Int32) (d : zd_D) : zm 215 28 [z_r 91, z_i x1, z_i x2, none] [(.inl y0)] d =
  if y0 = 0 then
    (zm 206 0 [z_r 91, z_i x2] [] d).bind fun q => zm 215 36 [z_r 91, z_i x1, z_i x2, z_i 0] (q.1.toList ++ []) q.2
  else
    (zm 206 0 [z_r 91, z_i x2] [] d).bind fun q => zm 215 36 [z_r 91, z_i x1, z_i x2, z_i 1] (q.1.toList ++ []) q.2 := zm_di 600 rfl
/- TickBoundModel.edgeCost -/
set_option maxRecDepth 100000 in
theorem em_215_36 (x1 x2 x3 y0 : Int32) (d : zd_D) : zm 215 36 [z_r 91, z_i x1, z_i x2, z_i x3] [(.inl y0)] d =
  if x3 = 0 then
    some (some (.inl (y0 + 0)), d)
  else
    some (some (.inl (y0 + (d.1 92 6))), d) := zm_di 600 rfl
/- TickBoundModel.reads -/
set_option maxRecDepth 100000 in
theorem em_217_0 (x1 x2 : Int32) (d : zd_D) : zm 217 0 [z_r 91, z_i x1, z_i x2] [] d =
  cond (mx_in (12 + (4 * x1)) 1020) (
    if d.1 92 (12 + (4 * x1)).toNatClampNeg = 0 then
      cond (mx_in ((12 + (4 * x1)) + 2) 1020) (
        if d.1 92 ((12 + (4 * x1)) + 2).toNatClampNeg = x2 then
          some (some (.inl 1), d)
        else
          some (some (.inl 0), d)) none
    else
      if d.1 92 (12 + (4 * x1)).toNatClampNeg = 1 then
        cond (mx_in ((12 + (4 * x1)) + 2) 1020) (
          if d.1 92 ((12 + (4 * x1)) + 2).toNatClampNeg = x2 then
            some (some (.inl 1), d)
          else
            some (some (.inl 0), d)) none
      else
        if d.1 92 (12 + (4 * x1)).toNatClampNeg = 2 then
          cond (mx_in ((12 + (4 * x1)) + 1) 1020) (
            if d.1 92 ((12 + (4 * x1)) + 1).toNatClampNeg = x2 then
              some (some (.inl 1), d)
            else
              cond (mx_in ((12 + (4 * x1)) + 2) 1020) (
                if d.1 92 ((12 + (4 * x1)) + 2).toNatClampNeg = x2 then
                  some (some (.inl 1), d)
                else
                  some (some (.inl 0), d)) none) none
        else
          if d.1 92 (12 + (4 * x1)).toNatClampNeg = 3 then
            cond (mx_in ((12 + (4 * x1)) + 1) 1020) (
              if d.1 92 ((12 + (4 * x1)) + 1).toNatClampNeg = x2 then
                some (some (.inl 1), d)
              else
                some (some (.inl 0), d)) none
          else
            if d.1 92 (12 + (4 * x1)).toNatClampNeg = 4 then
              some (some (.inl 0), d)
            else
              if d.1 92 (12 + (4 * x1)).toNatClampNeg = 5 then
                cond (mx_in ((12 + (4 * x1)) + 2) 1020) (
                  if d.1 92 ((12 + (4 * x1)) + 2).toNatClampNeg = x2 then
                    some (some (.inl 1), d)
                  else
                    cond (mx_in ((12 + (4 * x1)) + 3) 1020) (
                      if d.1 92 ((12 + (4 * x1)) + 3).toNatClampNeg = x2 then
                        some (some (.inl 1), d)
                      else
                        some (some (.inl 0), d)) none) none
              else
                if d.1 92 (12 + (4 * x1)).toNatClampNeg = 6 then
                  cond (mx_in ((12 + (4 * x1)) + 2) 1020) (
                    if d.1 92 ((12 + (4 * x1)) + 2).toNatClampNeg = x2 then
                      some (some (.inl 1), d)
                    else
                      cond (mx_in ((12 + (4 * x1)) + 3) 1020) (
                        if d.1 92 ((12 + (4 * x1)) + 3).toNatClampNeg = x2 then
                          some (some (.inl 1), d)
                        else
                          some (some (.inl 0), d)) none) none
                else
                  if d.1 92 (12 + (4 * x1)).toNatClampNeg = 7 then
                    cond (mx_in ((12 + (4 * x1)) + 1) 1020) (
                      if d.1 92 ((12 + (4 * x1)) + 1).toNatClampNeg = x2 then
                        some (some (.inl 1), d)
                      else
                        some (some (.inl 0), d)) none
                  else
                    some (some (.inl 0), d)) none := zm_di 600 rfl
/- TickBoundModel.turns -/
set_option maxRecDepth 100000 in
theorem em_218_0 (x1 x2 : Int32) (d : zd_D) : zm 218 0 [z_r 91, z_i x1, z_i x2, none] [] d =
  (zm 191 0 [z_r 91, none, none] [] d).bind fun q => zm 218 2 [z_r 91, z_i x1, z_i x2, none] (q.1.toList ++ []) q.2 := zm_di 600 rfl
/- TickBoundModel.turns -/
set_option maxRecDepth 100000 in
theorem em_218_2 (x1 x2 : Int32) (d : zd_D) : zm 218 2 [z_r 91, z_i x1, z_i x2, none] [] d =
  if x1 < 0 then
    some (some (.inl (-1000000001)), d)
  else
    if (d.1 91 15) - 1 < x1 then
      some (some (.inl (-1000000001)), d)
    else
      if x2 = (-1000000005) then
        cond (mx_in x1 820) (
          cond (mx_in x1 820) (
            if d.1 98 x1.toNatClampNeg < d.1 99 x1.toNatClampNeg then
              some (some (.inl (-1000000012)), d)
            else
              cond (mx_in (200 + x1) 1020) (
                if x2 = (-1000000005) then
                  cond (mx_in (200 + x1) 1020) (
                    if (d.1 92 (200 + x1).toNatClampNeg) - 1 < 0 then
                      some (some (.inl (-1000000005)), (zd_u d 92 (200 + x1).toNatClampNeg 0))
                    else
                      some (some (.inl ((d.1 92 (200 + x1).toNatClampNeg) - 1)), (zd_u d 92 (200 + x1).toNatClampNeg 0))) none
                else
                  cond (mx_in (200 + x1) 1020) (
                    if (d.1 92 (200 + x1).toNatClampNeg) - 1 < 0 then
                      some (some (.inl (-1000000005)), (zd_u d 92 (200 + x1).toNatClampNeg (x2 + 1)))
                    else
                      some (some (.inl ((d.1 92 (200 + x1).toNatClampNeg) - 1)), (zd_u d 92 (200 + x1).toNatClampNeg (x2 + 1)))) none) none) none) none
      else
        if x2 < 0 then
          some (some (.inl (-1000000001)), d)
        else
          if 9 < x2 then
            some (some (.inl (-1000000001)), d)
          else
            cond (mx_in x1 820) (
              cond (mx_in x1 820) (
                if d.1 98 x1.toNatClampNeg < d.1 99 x1.toNatClampNeg then
                  some (some (.inl (-1000000012)), d)
                else
                  cond (mx_in (200 + x1) 1020) (
                    if x2 = (-1000000005) then
                      cond (mx_in (200 + x1) 1020) (
                        if (d.1 92 (200 + x1).toNatClampNeg) - 1 < 0 then
                          some (some (.inl (-1000000005)), (zd_u d 92 (200 + x1).toNatClampNeg 0))
                        else
                          some (some (.inl ((d.1 92 (200 + x1).toNatClampNeg) - 1)), (zd_u d 92 (200 + x1).toNatClampNeg 0))) none
                    else
                      cond (mx_in (200 + x1) 1020) (
                        if (d.1 92 (200 + x1).toNatClampNeg) - 1 < 0 then
                          some (some (.inl (-1000000005)), (zd_u d 92 (200 + x1).toNatClampNeg (x2 + 1)))
                        else
                          some (some (.inl ((d.1 92 (200 + x1).toNatClampNeg) - 1)), (zd_u d 92 (200 + x1).toNatClampNeg (x2 + 1)))) none) none) none) none := zm_di 600 rfl
/- TickBoundModel.blocks -/
set_option maxRecDepth 100000 in
theorem em_219_0 (d : zd_D) : zm 219 0 [z_r 91, none, none] [] d =
  (zm 191 0 [z_r 91, none, none] [] d).bind fun q => zm 219 2 [z_r 91, none, none] (q.1.toList ++ []) q.2 := zm_di 600 rfl
/- TickBoundModel.blocks -/
set_option maxRecDepth 100000 in
theorem em_219_2 (d : zd_D) : zm 219 2 [z_r 91, none, none] [] d =
  zm 219 7 [z_r 91, z_i 0, z_i 0] [] d := zm_di 600 rfl
/- TickBoundModel.blocks -/
set_option maxRecDepth 100000 in
theorem em_219_7 (x1 x2 : Int32) (d : zd_D) : zm 219 7 [z_r 91, z_i x1, z_i x2] [] d =
  if x2 < d.1 92 8 then
    (zm 220 0 [z_r 91, z_i x2, none, none] [] d).bind fun q => zm 219 17 [z_r 91, z_i x1, z_i x2] (q.1.toList ++ [(.inl x1)]) q.2
  else
    some (some (.inl x1), d) := zm_di 600 rfl
/- TickBoundModel.blocks -/
set_option maxRecDepth 100000 in
theorem em_219_17 (x1 x2 y0 y1 : Int32) (d : zd_D) : zm 219 17 [z_r 91, z_i x1, z_i x2] [(.inl y1), (.inl y0)] d =
  if y1 = 0 then
    zm 219 7 [z_r 91, z_i (y0 + 0), z_i (x2 + 1)] [] d
  else
    zm 219 7 [z_r 91, z_i (y0 + 1), z_i (x2 + 1)] [] d := zm_di 600 rfl
/- TickBoundModel.isFirst -/
set_option maxRecDepth 100000 in
theorem em_220_0 (x1 : Int32) (d : zd_D) : zm 220 0 [z_r 91, z_i x1, none, none] [] d =
  if x1 = 0 then
    zm 220 17 [z_r 91, z_i x1, z_i 1, z_i 0] [] d
  else
    cond (mx_in (12 + (4 * (x1 - 1))) 1020) (
      (zm 209 0 [z_i (d.1 92 (12 + (4 * (x1 - 1))).toNatClampNeg), z_i 3] [] d).bind fun q => zm 220 9 [z_r 91, z_i x1, none, none] (q.1.toList ++ []) q.2) none := zm_di 600 rfl
/- TickBoundModel.isFirst -/
set_option maxRecDepth 100000 in
theorem em_220_9 (x1 y0 : Int32) (d : zd_D) : zm 220 9 [z_r 91, z_i x1, none, none] [(.inl y0)] d =
  if y0 = 0 then
    zm 220 17 [z_r 91, z_i x1, z_i 0, z_i 0] [] d
  else
    zm 220 17 [z_r 91, z_i x1, z_i 1, z_i 0] [] d := zm_di 600 rfl
/- TickBoundModel.isFirst -/
set_option maxRecDepth 100000 in
theorem em_220_17 (x1 x2 x3 : Int32) (d : zd_D) : zm 220 17 [z_r 91, z_i x1, z_i x2, z_i x3] [] d =
  if x3 < d.1 91 15 then
    if x2 = 0 then
      cond (mx_in x3 820) (
        if d.1 99 x3.toNatClampNeg = x1 then
          cond (mx_in x3 820) (
            if d.1 98 x3.toNatClampNeg = x1 - 1 then
              zm 220 17 [z_r 91, z_i x1, z_i 0, z_i (x3 + 1)] [] d
            else
              zm 220 17 [z_r 91, z_i x1, z_i 1, z_i (x3 + 1)] [] d) none
        else
          zm 220 17 [z_r 91, z_i x1, z_i 0, z_i (x3 + 1)] [] d) none
    else
      zm 220 17 [z_r 91, z_i x1, z_i 1, z_i (x3 + 1)] [] d
  else
    mx_rt 1 x2 (
      some (some (.inl x2), d)) := zm_di 600 rfl
/- TickBoundModel.block -/
set_option maxRecDepth 100000 in
theorem em_221_0 (x1 x2 : Int32) (d : zd_D) : zm 221 0 [z_r 91, z_i x1, z_i x2, none, none, none] [] d =
  (zm 219 0 [z_r 91, none, none] [] d).bind fun q => zm 221 4 [z_r 91, z_i x1, z_i x2, none, none, none] (q.1.toList ++ [(.inl 0), (.inl x1)]) q.2 := zm_di 600 rfl
/- TickBoundModel.block -/
set_option maxRecDepth 100000 in
theorem em_221_4 (x1 x2 y0 y1 y2 : Int32) (d : zd_D) : zm 221 4 [z_r 91, z_i x1, z_i x2, none, none, none] [(.inl y2), (.inl y1), (.inl y0)] d =
  if y0 < y1 then
    some (some (.inl (-1000000001)), d)
  else
    if y2 - 1 < y0 then
      some (some (.inl (-1000000001)), d)
    else
      if x2 < 0 then
        some (some (.inl (-1000000001)), d)
      else
        if 1 < x2 then
          some (some (.inl (-1000000001)), d)
        else
          zm 221 20 [z_r 91, none, z_i x2, z_i x1, z_i 0, none] [] d := zm_di 600 rfl
/- TickBoundModel.block -/
set_option maxRecDepth 100000 in
theorem em_221_20 (x2 x3 x4 : Int32) (d : zd_D) : zm 221 20 [z_r 91, none, z_i x2, z_i x3, z_i x4, none] [] d =
  if 0 < x3 then
    (zm 220 0 [z_r 91, z_i (x4 + 1), none, none] [] d).bind fun q => zm 221 27 [z_r 91, none, z_i x2, z_i x3, z_i (x4 + 1), none] (q.1.toList ++ [(.inl x3)]) q.2
  else
    zm 221 37 [z_r 91, none, z_i x2, none, z_i x4, z_i x4] [] d := zm_di 600 rfl
/- TickBoundModel.block -/
set_option maxRecDepth 100000 in
theorem em_221_27 (x2 x3 x4 y0 y1 : Int32) (d : zd_D) : zm 221 27 [z_r 91, none, z_i x2, z_i x3, z_i x4, none] [(.inl y1), (.inl y0)] d =
  if y1 = 0 then
    zm 221 20 [z_r 91, none, z_i x2, z_i (y0 - 0), z_i x4, none] [] d
  else
    zm 221 20 [z_r 91, none, z_i x2, z_i (y0 - 1), z_i x4, none] [] d := zm_di 600 rfl
/- TickBoundModel.block -/
set_option maxRecDepth 100000 in
theorem em_221_37 (x2 x4 x5 : Int32) (d : zd_D) : zm 221 37 [z_r 91, none, z_i x2, none, z_i x4, z_i x5] [] d =
  if x5 + 1 < d.1 92 8 then
    (zm 220 0 [z_r 91, z_i (x5 + 1), none, none] [] d).bind fun q => zm 221 50 [z_r 91, none, z_i x2, none, z_i x4, z_i x5] (q.1.toList ++ []) q.2
  else
    if x2 = 0 then
      some (some (.inl x4), d)
    else
      some (some (.inl x5), d) := zm_di 600 rfl
/- TickBoundModel.block -/
set_option maxRecDepth 100000 in
theorem em_221_50 (x2 x4 x5 y0 : Int32) (d : zd_D) : zm 221 50 [z_r 91, none, z_i x2, none, z_i x4, z_i x5] [(.inl y0)] d =
  if y0 = 0 then
    zm 221 37 [z_r 91, none, z_i x2, none, z_i x4, z_i (x5 + 1)] [] d
  else
    if x2 = 0 then
      some (some (.inl x4), d)
    else
      some (some (.inl x5), d) := zm_di 600 rfl
/- TickBoundModel.run -/
set_option maxRecDepth 100000 in
theorem em_222_0 (x1 : Int32) (d : zd_D) : zm 222 0 [z_r 91, z_i x1, none] [] d =
  (zm 223 0 [z_r 91, z_i x1, z_i 1, none, none, none, none, none] [] d).bind fun q => zm 222 4 [z_r 91, z_i x1, none] (q.1.toList ++ []) q.2 := zm_di 600 rfl
/- TickBoundModel.run -/
set_option maxRecDepth 100000 in
theorem em_222_4 (x1 : Int32) (d : zd_D) : zm 222 4 [z_r 91, z_i x1, none] [] d =
  zm 222 7 [z_r 91, none, z_i 0] [] d := zm_di 600 rfl
/- TickBoundModel.run -/
set_option maxRecDepth 100000 in
theorem em_222_7 (x2 : Int32) (d : zd_D) : zm 222 7 [z_r 91, none, z_i x2] [] d =
  if x2 < 13 then
    cond (mx_in x2 13) (
      cond (mx_in x2 13) (
        zm 222 7 [z_r 91, none, z_i (x2 + 1)] [] (zd_u d 102 x2.toNatClampNeg (d.1 101 x2.toNatClampNeg))) none) none
  else
    some (some (.inl (d.1 102 12)), (zd_u d 91 19 1)) := zm_di 600 rfl
/- TickBoundModel.runs -/
set_option maxRecDepth 100000 in
theorem em_223_0 (x1 x2 : Int32) (d : zd_D) : zm 223 0 [z_r 91, z_i x1, z_i x2, none, none, none, none, none] [] d =
  (zm 224 0 [z_r 91, z_i x1, none] [] d).bind fun q => zm 223 3 [z_r 91, z_i x1, z_i x2, none, none, none, none, none] (q.1.toList ++ []) q.2 := zm_di 600 rfl
/- TickBoundModel.runs -/
set_option maxRecDepth 100000 in
theorem em_223_3 (x1 x2 : Int32) (d : zd_D) : zm 223 3 [z_r 91, z_i x1, z_i x2, none, none, none, none, none] [] d =
  zm 223 13 [z_r 91, none, z_i x2, z_i (d.1 92 8), z_i 0, z_i (-1), none, none] [] d := zm_di 600 rfl
/- TickBoundModel.runs -/
set_option maxRecDepth 100000 in
theorem em_223_13 (x2 x3 x4 x5 : Int32) (d : zd_D) : zm 223 13 [z_r 91, none, z_i x2, z_i x3, z_i x4, z_i x5, none, none] [] d =
  if x4 < x3 then
    if d.1 101 1 < 600 then
      if d.1 101 12 = 0 then
        (zm 225 0 [z_r 91, z_i x4, none, none] [] (zd_u d 101 1 ((d.1 101 1) + 1))).bind fun q => zm 223 41 [z_r 91, none, z_i x2, z_i x3, z_i x4, z_i x5, none, none] (q.1.toList ++ [(.inl 12), (.inr (.inr (some 101)))]) q.2
      else
        if d.1 101 12 = 0 then
          if x4 < x3 then
            zm 223 169 [z_r 91, none, none, none, none, none, z_i 0, none] [] (zd_u (zd_u (zd_u d 101 12 4) 101 11 x4) 101 10 1)
          else
            zm 223 169 [z_r 91, none, none, none, none, none, z_i 0, none] [] (zd_u (zd_u (zd_u d 101 12 (d.1 101 12)) 101 11 x4) 101 10 1)
        else
          zm 223 169 [z_r 91, none, none, none, none, none, z_i 0, none] [] (zd_u (zd_u (zd_u d 101 12 (d.1 101 12)) 101 11 x4) 101 10 1)
    else
      if d.1 101 12 = 0 then
        if x4 < x3 then
          zm 223 169 [z_r 91, none, none, none, none, none, z_i 0, none] [] (zd_u (zd_u (zd_u d 101 12 4) 101 11 x4) 101 10 1)
        else
          zm 223 169 [z_r 91, none, none, none, none, none, z_i 0, none] [] (zd_u (zd_u (zd_u d 101 12 (d.1 101 12)) 101 11 x4) 101 10 1)
      else
        zm 223 169 [z_r 91, none, none, none, none, none, z_i 0, none] [] (zd_u (zd_u (zd_u d 101 12 (d.1 101 12)) 101 11 x4) 101 10 1)
  else
    if d.1 101 12 = 0 then
      if x4 < x3 then
        zm 223 169 [z_r 91, none, none, none, none, none, z_i 0, none] [] (zd_u (zd_u (zd_u d 101 12 4) 101 11 x4) 101 10 1)
      else
        zm 223 169 [z_r 91, none, none, none, none, none, z_i 0, none] [] (zd_u (zd_u (zd_u d 101 12 (d.1 101 12)) 101 11 x4) 101 10 1)
    else
      zm 223 169 [z_r 91, none, none, none, none, none, z_i 0, none] [] (zd_u (zd_u (zd_u d 101 12 (d.1 101 12)) 101 11 x4) 101 10 1) := zm_di 600 rfl
/- TickBoundModel.runs -/
set_option maxRecDepth 100000 in
theorem em_223_41 (x2 x3 x4 x5 y1 y2 : Int32) (d : zd_D) : zm 223 41 [z_r 91, none, z_i x2, z_i x3, z_i x4, z_i x5, none, none] [(.inl y2), (.inl y1), (.inr (.inr (some 101)))] d =
  cond (mx_in y1 13) (
    if (zd_u d 101 y1.toNatClampNeg y2).1 101 12 = 0 then
      if x5 < 0 then
        (zm 227 0 [z_r 91, z_i x4, none, none, none] [] (zd_u (zd_u (zd_u d 101 y1.toNatClampNeg y2) 101 0 (((zd_u d 101 y1.toNatClampNeg y2).1 101 0) + 1)) 101 5 (((zd_u d 101 y1.toNatClampNeg y2).1 101 5) + 0))).bind fun q => zm 223 101 [z_r 91, none, z_i x2, z_i x3, z_i x4, z_i x5, z_i 0, none] (q.1.toList ++ [(.inl 0), (.inl (((zd_u d 101 y1.toNatClampNeg y2).1 101 0) + 1)), (.inl 0), (.inr (.inr (some 101)))]) q.2
      else
        cond (mx_in (12 + (4 * x5)) 1020) (
          if d.1 92 (12 + (4 * x5)).toNatClampNeg = 1 then
            cond (mx_in ((12 + (4 * x5)) + 1) 1020) (
              (zm 217 0 [z_r 91, z_i x4, z_i (d.1 92 ((12 + (4 * x5)) + 1).toNatClampNeg)] [] (zd_u (zd_u d 101 y1.toNatClampNeg y2) 101 0 (((zd_u d 101 y1.toNatClampNeg y2).1 101 0) + 1))).bind fun q => zm 223 68 [z_r 91, none, z_i x2, z_i x3, z_i x4, z_i x5, none, none] (q.1.toList ++ []) q.2) none
          else
            (zm 227 0 [z_r 91, z_i x4, none, none, none] [] (zd_u (zd_u (zd_u d 101 y1.toNatClampNeg y2) 101 0 (((zd_u d 101 y1.toNatClampNeg y2).1 101 0) + 1)) 101 5 (((zd_u d 101 y1.toNatClampNeg y2).1 101 5) + 0))).bind fun q => zm 223 101 [z_r 91, none, z_i x2, z_i x3, z_i x4, z_i x5, z_i 0, none] (q.1.toList ++ [(.inl 0), (.inl (((zd_u d 101 y1.toNatClampNeg y2).1 101 0) + 1)), (.inl 0), (.inr (.inr (some 101)))]) q.2) none
    else
      if x2 = 0 then
        zm 223 13 [z_r 91, none, z_i x2, z_i x3, z_i x4, z_i x5, none, none] [] (zd_u (zd_u d 101 y1.toNatClampNeg y2) 101 0 (((zd_u d 101 y1.toNatClampNeg y2).1 101 0) + 1))
      else
        cond (mx_in (((zd_u d 101 y1.toNatClampNeg y2).1 101 1) - 1) 600) (
          cond (mx_in (((zd_u d 101 y1.toNatClampNeg y2).1 101 1) - 1) 600) (
            zm 223 13 [z_r 91, none, z_i x2, z_i x3, z_i x4, z_i x5, none, none] [] (zd_u (zd_u (zd_u (zd_u d 101 y1.toNatClampNeg y2) 101 0 (((zd_u d 101 y1.toNatClampNeg y2).1 101 0) + 1)) 103 (((zd_u d 101 y1.toNatClampNeg y2).1 101 1) - 1).toNatClampNeg x4) 104 (((zd_u d 101 y1.toNatClampNeg y2).1 101 1) - 1).toNatClampNeg (((zd_u d 101 y1.toNatClampNeg y2).1 101 0) + 1))) none) none) none := zm_di 600 rfl
/- TickBoundModel.runs -/
set_option maxRecDepth 100000 in
theorem em_223_68 (x2 x3 x4 x5 y0 : Int32) (d : zd_D) : zm 223 68 [z_r 91, none, z_i x2, z_i x3, z_i x4, z_i x5, none, none] [(.inl y0)] d =
  if y0 = 0 then
    (zm 227 0 [z_r 91, z_i x4, none, none, none] [] (zd_u d 101 5 ((d.1 101 5) + 0))).bind fun q => zm 223 101 [z_r 91, none, z_i x2, z_i x3, z_i x4, z_i x5, z_i 0, none] (q.1.toList ++ [(.inl 0), (.inl (d.1 101 0)), (.inl 0), (.inr (.inr (some 101)))]) q.2
  else
    (zm 227 0 [z_r 91, z_i x4, none, none, none] [] (zd_u d 101 5 ((d.1 101 5) + 1))).bind fun q => zm 223 101 [z_r 91, none, z_i x2, z_i x3, z_i x4, z_i x5, z_i 1, none] (q.1.toList ++ [(.inl (d.1 92 6)), (.inl (d.1 101 0)), (.inl 0), (.inr (.inr (some 101)))]) q.2 := zm_di 600 rfl
/- TickBoundModel.runs -/
set_option maxRecDepth 100000 in
theorem em_223_101 (x2 x3 x4 x5 x6 y1 y2 y3 y4 : Int32) (d : zd_D) : zm 223 101 [z_r 91, none, z_i x2, z_i x3, z_i x4, z_i x5, z_i x6, none] [(.inl y4), (.inl y3), (.inl y2), (.inl y1), (.inr (.inr (some 101)))] d =
  cond (mx_in y1 13) (
    if x2 = 0 then
      if x3 < d.1 91 33 then
        (zm 235 0 [z_r 91, z_i x4, z_i x3, none] [] (zd_u d 101 y1.toNatClampNeg (y2 + (y3 + y4)))).bind fun q => zm 223 123 [z_r 91, none, z_i x2, z_i x3, z_i x4, z_i x5, z_i x6, z_i x3] (q.1.toList ++ [(.inr (.inr (some 107)))]) q.2
      else
        (zm 235 0 [z_r 91, z_i x4, z_i (d.1 91 33), none] [] (zd_u d 101 y1.toNatClampNeg (y2 + (y3 + y4)))).bind fun q => zm 223 123 [z_r 91, none, z_i x2, z_i x3, z_i x4, z_i x5, z_i x6, z_i (d.1 91 33)] (q.1.toList ++ [(.inr (.inr (some 107)))]) q.2
    else
      cond (mx_in (((zd_u d 101 y1.toNatClampNeg (y2 + (y3 + y4))).1 101 1) - 1) 600) (
        cond (mx_in (((zd_u d 101 y1.toNatClampNeg (y2 + (y3 + y4))).1 101 1) - 1) 600) (
          if x3 < d.1 91 33 then
            (zm 235 0 [z_r 91, z_i x4, z_i x3, none] [] (zd_u (zd_u (zd_u d 101 y1.toNatClampNeg (y2 + (y3 + y4))) 103 (((zd_u d 101 y1.toNatClampNeg (y2 + (y3 + y4))).1 101 1) - 1).toNatClampNeg x4) 104 (((zd_u d 101 y1.toNatClampNeg (y2 + (y3 + y4))).1 101 1) - 1).toNatClampNeg ((zd_u d 101 y1.toNatClampNeg (y2 + (y3 + y4))).1 101 0))).bind fun q => zm 223 123 [z_r 91, none, z_i x2, z_i x3, z_i x4, z_i x5, z_i x6, z_i x3] (q.1.toList ++ [(.inr (.inr (some 107)))]) q.2
          else
            (zm 235 0 [z_r 91, z_i x4, z_i (d.1 91 33), none] [] (zd_u (zd_u (zd_u d 101 y1.toNatClampNeg (y2 + (y3 + y4))) 103 (((zd_u d 101 y1.toNatClampNeg (y2 + (y3 + y4))).1 101 1) - 1).toNatClampNeg x4) 104 (((zd_u d 101 y1.toNatClampNeg (y2 + (y3 + y4))).1 101 1) - 1).toNatClampNeg ((zd_u d 101 y1.toNatClampNeg (y2 + (y3 + y4))).1 101 0))).bind fun q => zm 223 123 [z_r 91, none, z_i x2, z_i x3, z_i x4, z_i x5, z_i x6, z_i (d.1 91 33)] (q.1.toList ++ [(.inr (.inr (some 107)))]) q.2) none) none) none := zm_di 600 rfl
/- TickBoundModel.runs -/
set_option maxRecDepth 100000 in
theorem em_223_123 (x2 x3 x4 x5 x6 x7 y1 : Int32) (d : zd_D) : zm 223 123 [z_r 91, none, z_i x2, z_i x3, z_i x4, z_i x5, z_i x6, z_i x7] [(.inl y1), (.inr (.inr (some 107)))] d =
  cond (mx_in y1 820) (
    cond (mx_in y1 820) (
      zm 223 13 [z_r 91, none, z_i x2, z_i x3, z_i x7, z_i x4, none, none] [] (zd_u d 107 y1.toNatClampNeg ((d.1 107 y1.toNatClampNeg) + 1))) none) none := zm_di 600 rfl
/- TickBoundModel.runs -/
set_option maxRecDepth 100000 in
theorem em_223_169 (x6 : Int32) (d : zd_D) : zm 223 169 [z_r 91, none, none, none, none, none, z_i x6, none] [] d =
  if x6 < 4 then
    cond (mx_in x6 4) (
      cond (mx_in (6 + x6) 13) (
        zm 223 169 [z_r 91, none, none, none, none, none, z_i (x6 + 1), none] [] (zd_u d 101 (6 + x6).toNatClampNeg (d.1 105 x6.toNatClampNeg))) none) none
  else
    zm 223 187 [z_r 91, none, none, none, none, none, z_i 0, none] [] d := zm_di 600 rfl
/- TickBoundModel.runs -/
set_option maxRecDepth 100000 in
theorem em_223_187 (x6 : Int32) (d : zd_D) : zm 223 187 [z_r 91, none, none, none, none, none, z_i x6, none] [] d =
  if x6 < d.1 91 15 then
    cond (mx_in x6 820) (
      cond (mx_in x6 820) (
        if d.1 98 x6.toNatClampNeg < d.1 99 x6.toNatClampNeg then
          zm 223 187 [z_r 91, none, none, none, none, none, z_i (x6 + 1), none] [] (zd_u d 101 10 (d.1 101 10))
        else
          cond (mx_in (200 + x6) 1020) (
            if (d.1 92 (200 + x6).toNatClampNeg) - 1 < 0 then
              zm 223 187 [z_r 91, none, none, none, none, none, z_i (x6 + 1), none] [] (zd_u d 101 10 (d.1 101 10))
            else
              cond (mx_in x6 820) (
                cond (mx_in (200 + x6) 1020) (
                  if (d.1 92 (200 + x6).toNatClampNeg) - 1 < d.1 107 x6.toNatClampNeg then
                    zm 223 187 [z_r 91, none, none, none, none, none, z_i (x6 + 1), none] [] (zd_u d 101 10 0)
                  else
                    zm 223 187 [z_r 91, none, none, none, none, none, z_i (x6 + 1), none] [] (zd_u d 101 10 (d.1 101 10))) none) none) none) none) none
  else
    some (none, d) := zm_di 600 rfl
/- TickBoundModel.begins -/
set_option maxRecDepth 100000 in
theorem em_224_0 (x1 : Int32) (d : zd_D) : zm 224 0 [z_r 91, z_i x1, none] [] d =
  (zm 191 0 [z_r 91, none, none] [] d).bind fun q => zm 224 2 [z_r 91, z_i x1, none] (q.1.toList ++ []) q.2 := zm_di 600 rfl
/- TickBoundModel.begins -/
set_option maxRecDepth 100000 in
theorem em_224_2 (x1 : Int32) (d : zd_D) : zm 224 2 [z_r 91, z_i x1, none] [] d =
  zm 224 5 [z_r 91, z_i x1, z_i 0] [] d := zm_di 600 rfl
/- TickBoundModel.begins -/
set_option maxRecDepth 100000 in
theorem em_224_5 (x1 x2 : Int32) (d : zd_D) : zm 224 5 [z_r 91, z_i x1, z_i x2] [] d =
  if x2 < 13 then
    cond (mx_in x2 13) (
      zm 224 5 [z_r 91, z_i x1, z_i (x2 + 1)] [] (zd_u d 101 x2.toNatClampNeg 0)) none
  else
    zm 224 18 [z_r 91, z_i x1, z_i 0] [] d := zm_di 600 rfl
/- TickBoundModel.begins -/
set_option maxRecDepth 100000 in
theorem em_224_18 (x1 x2 : Int32) (d : zd_D) : zm 224 18 [z_r 91, z_i x1, z_i x2] [] d =
  if x2 < 4 then
    if x2 = 0 then
      cond (mx_in x2 4) (
        zm 224 18 [z_r 91, z_i x1, z_i (x2 + 1)] [] (zd_u d 105 x2.toNatClampNeg x1)) none
    else
      cond (mx_in x2 4) (
        zm 224 18 [z_r 91, z_i x1, z_i (x2 + 1)] [] (zd_u d 105 x2.toNatClampNeg 0)) none
  else
    zm 224 35 [z_r 91, none, z_i 0] [] d := zm_di 600 rfl
/- TickBoundModel.begins -/
set_option maxRecDepth 100000 in
theorem em_224_35 (x2 : Int32) (d : zd_D) : zm 224 35 [z_r 91, none, z_i x2] [] d =
  if x2 < 32 then
    cond (mx_in (152 + x2) 1020) (
      cond (mx_in x2 32) (
        zm 224 35 [z_r 91, none, z_i (x2 + 1)] [] (zd_u d 106 x2.toNatClampNeg (d.1 92 (152 + x2).toNatClampNeg))) none) none
  else
    zm 224 53 [z_r 91, none, z_i 0] [] d := zm_di 600 rfl
/- TickBoundModel.begins -/
set_option maxRecDepth 100000 in
theorem em_224_53 (x2 : Int32) (d : zd_D) : zm 224 53 [z_r 91, none, z_i x2] [] d =
  if x2 < 16 then
    cond (mx_in x2 16) (
      zm 224 53 [z_r 91, none, z_i (x2 + 1)] [] (zd_u d 108 x2.toNatClampNeg (-1))) none
  else
    zm 224 66 [z_r 91, none, z_i 0] [] d := zm_di 600 rfl
/- TickBoundModel.begins -/
set_option maxRecDepth 100000 in
theorem em_224_66 (x2 : Int32) (d : zd_D) : zm 224 66 [z_r 91, none, z_i x2] [] d =
  if x2 < 12 then
    cond (mx_in x2 12) (
      zm 224 66 [z_r 91, none, z_i (x2 + 1)] [] (zd_u d 111 x2.toNatClampNeg 0)) none
  else
    zm 224 79 [z_r 91, none, z_i 0] [] d := zm_di 600 rfl
/- TickBoundModel.begins -/
set_option maxRecDepth 100000 in
theorem em_224_79 (x2 : Int32) (d : zd_D) : zm 224 79 [z_r 91, none, z_i x2] [] d =
  if x2 < 28 then
    cond (mx_in x2 28) (
      zm 224 79 [z_r 91, none, z_i (x2 + 1)] [] (zd_u d 112 x2.toNatClampNeg 0)) none
  else
    zm 224 92 [z_r 91, none, z_i 0] [] d := zm_di 600 rfl
/- TickBoundModel.begins -/
set_option maxRecDepth 100000 in
theorem em_224_92 (x2 : Int32) (d : zd_D) : zm 224 92 [z_r 91, none, z_i x2] [] d =
  if x2 < d.1 91 15 then
    cond (mx_in x2 820) (
      zm 224 92 [z_r 91, none, z_i (x2 + 1)] [] (zd_u d 107 x2.toNatClampNeg 0)) none
  else
    some (none, (zd_u d 91 31 0)) := zm_di 600 rfl
/- TickBoundModel.stops -/
set_option maxRecDepth 100000 in
theorem em_225_0 (x1 : Int32) (d : zd_D) : zm 225 0 [z_r 91, z_i x1, none, none] [] d =
  cond (mx_in (12 + (4 * x1)) 1020) (
    if d.1 92 (12 + (4 * x1)).toNatClampNeg = 6 then
      cond (mx_in ((12 + (4 * x1)) + 3) 1020) (
        cond (mx_in (d.1 92 ((12 + (4 * x1)) + 3).toNatClampNeg) 4) (
          if d.1 105 (d.1 92 ((12 + (4 * x1)) + 3).toNatClampNeg).toNatClampNeg = 0 then
            some (some (.inl 1), d)
          else
            if d.1 92 (12 + (4 * x1)).toNatClampNeg = 1 then
              (zm 226 0 [z_r 91, z_i x1] [] d).bind fun q => zm 225 22 [z_r 91, z_i x1, z_i (d.1 92 (12 + (4 * x1)).toNatClampNeg), none] (q.1.toList ++ []) q.2
            else
              if d.1 92 (12 + (4 * x1)).toNatClampNeg = 2 then
                (zm 226 0 [z_r 91, z_i x1] [] d).bind fun q => zm 225 22 [z_r 91, z_i x1, z_i (d.1 92 (12 + (4 * x1)).toNatClampNeg), none] (q.1.toList ++ []) q.2
              else
                cond (mx_in ((12 + (4 * x1)) + 1) 1020) (
                  cond (mx_in (d.1 92 ((12 + (4 * x1)) + 1).toNatClampNeg) 4) (
                    if d.1 92 (12 + (4 * x1)).toNatClampNeg = 7 then
                      if d.1 105 (d.1 92 ((12 + (4 * x1)) + 1).toNatClampNeg).toNatClampNeg < 0 then
                        some (some (.inl 3), d)
                      else
                        if 28 < d.1 105 (d.1 92 ((12 + (4 * x1)) + 1).toNatClampNeg).toNatClampNeg then
                          some (some (.inl 3), d)
                        else
                          cond (mx_in (124 + x1) 1020) (
                            if ((d.1 92 (124 + x1).toNatClampNeg) >>> ((d.1 105 (d.1 92 ((12 + (4 * x1)) + 1).toNatClampNeg).toNatClampNeg) &&& 31)) &&& 1 = 0 then
                              some (some (.inl 3), d)
                            else
                              some (some (.inl 0), d)) none
                    else
                      some (some (.inl 0), d)) none) none) none) none
    else
      if d.1 92 (12 + (4 * x1)).toNatClampNeg = 1 then
        (zm 226 0 [z_r 91, z_i x1] [] d).bind fun q => zm 225 22 [z_r 91, z_i x1, z_i (d.1 92 (12 + (4 * x1)).toNatClampNeg), none] (q.1.toList ++ []) q.2
      else
        if d.1 92 (12 + (4 * x1)).toNatClampNeg = 2 then
          (zm 226 0 [z_r 91, z_i x1] [] d).bind fun q => zm 225 22 [z_r 91, z_i x1, z_i (d.1 92 (12 + (4 * x1)).toNatClampNeg), none] (q.1.toList ++ []) q.2
        else
          cond (mx_in ((12 + (4 * x1)) + 1) 1020) (
            cond (mx_in (d.1 92 ((12 + (4 * x1)) + 1).toNatClampNeg) 4) (
              if d.1 92 (12 + (4 * x1)).toNatClampNeg = 7 then
                if d.1 105 (d.1 92 ((12 + (4 * x1)) + 1).toNatClampNeg).toNatClampNeg < 0 then
                  some (some (.inl 3), d)
                else
                  if 28 < d.1 105 (d.1 92 ((12 + (4 * x1)) + 1).toNatClampNeg).toNatClampNeg then
                    some (some (.inl 3), d)
                  else
                    cond (mx_in (124 + x1) 1020) (
                      if ((d.1 92 (124 + x1).toNatClampNeg) >>> ((d.1 105 (d.1 92 ((12 + (4 * x1)) + 1).toNatClampNeg).toNatClampNeg) &&& 31)) &&& 1 = 0 then
                        some (some (.inl 3), d)
                      else
                        some (some (.inl 0), d)) none
              else
                some (some (.inl 0), d)) none) none) none := zm_di 600 rfl
/- TickBoundModel.stops -/
set_option maxRecDepth 100000 in
theorem em_225_22 (x1 x2 y0 : Int32) (d : zd_D) : zm 225 22 [z_r 91, z_i x1, z_i x2, none] [(.inl y0)] d =
  if y0 < 0 then
    some (some (.inl 2), d)
  else
    if 31 < y0 then
      some (some (.inl 2), d)
    else
      cond (mx_in ((12 + (4 * x1)) + 1) 1020) (
        cond (mx_in (d.1 92 ((12 + (4 * x1)) + 1).toNatClampNeg) 4) (
          if x2 = 7 then
            if d.1 105 (d.1 92 ((12 + (4 * x1)) + 1).toNatClampNeg).toNatClampNeg < 0 then
              some (some (.inl 3), d)
            else
              if 28 < d.1 105 (d.1 92 ((12 + (4 * x1)) + 1).toNatClampNeg).toNatClampNeg then
                some (some (.inl 3), d)
              else
                cond (mx_in (124 + x1) 1020) (
                  if ((d.1 92 (124 + x1).toNatClampNeg) >>> ((d.1 105 (d.1 92 ((12 + (4 * x1)) + 1).toNatClampNeg).toNatClampNeg) &&& 31)) &&& 1 = 0 then
                    some (some (.inl 3), d)
                  else
                    some (some (.inl 0), d)) none
          else
            some (some (.inl 0), d)) none) none := zm_di 600 rfl
/- TickBoundModel.addressOf -/
set_option maxRecDepth 100000 in
theorem em_226_0 (x1 : Int32) (d : zd_D) : zm 226 0 [z_r 91, z_i x1] [] d =
  cond (mx_in ((12 + (4 * x1)) + 2) 1020) (
    if d.1 92 ((12 + (4 * x1)) + 2).toNatClampNeg = 4 then
      cond (mx_in ((12 + (4 * x1)) + 3) 1020) (
        some (some (.inl (d.1 92 ((12 + (4 * x1)) + 3).toNatClampNeg)), d)) none
    else
      cond (mx_in ((12 + (4 * x1)) + 2) 1020) (
        cond (mx_in (d.1 92 ((12 + (4 * x1)) + 2).toNatClampNeg) 4) (
          cond (mx_in ((12 + (4 * x1)) + 3) 1020) (
            some (some (.inl ((d.1 105 (d.1 92 ((12 + (4 * x1)) + 2).toNatClampNeg).toNatClampNeg) + (d.1 92 ((12 + (4 * x1)) + 3).toNatClampNeg))), d)) none) none) none) none := zm_di 600 rfl
/- TickBoundModel.does -/
set_option maxRecDepth 100000 in
theorem em_227_0 (x1 : Int32) (d : zd_D) : zm 227 0 [z_r 91, z_i x1, none, none, none] [] d =
  cond (mx_in ((12 + (4 * x1)) + 1) 1020) (
    cond (mx_in (12 + (4 * x1)) 1020) (
      if d.1 92 (12 + (4 * x1)).toNatClampNeg = 0 then
        cond (mx_in ((12 + (4 * x1)) + 2) 1020) (
          cond (mx_in (d.1 92 ((12 + (4 * x1)) + 2).toNatClampNeg) 4) (
            cond (mx_in ((12 + (4 * x1)) + 3) 1020) (
              cond (mx_in (d.1 92 ((12 + (4 * x1)) + 1).toNatClampNeg) 4) (
                some (some (.inl 0), (zd_u (zd_u d 91 33 (x1 + 1)) 105 (d.1 92 ((12 + (4 * x1)) + 1).toNatClampNeg).toNatClampNeg ((d.1 105 (d.1 92 ((12 + (4 * x1)) + 2).toNatClampNeg).toNatClampNeg) + (d.1 92 ((12 + (4 * x1)) + 3).toNatClampNeg))))) none) none) none) none
      else
        if d.1 92 (12 + (4 * x1)).toNatClampNeg = 1 then
          (zm 228 0 [z_r 91, z_i x1, none, none] [] (zd_u d 91 33 (x1 + 1))).bind fun q => zm 227 32 [z_r 91, z_i x1, z_i (d.1 92 ((12 + (4 * x1)) + 1).toNatClampNeg), none, none] (q.1.toList ++ []) q.2
        else
          if d.1 92 (12 + (4 * x1)).toNatClampNeg = 2 then
            (zm 228 0 [z_r 91, z_i x1, none, none] [] (zd_u d 91 33 (x1 + 1))).bind fun q => zm 227 32 [z_r 91, z_i x1, z_i (d.1 92 ((12 + (4 * x1)) + 1).toNatClampNeg), none, none] (q.1.toList ++ []) q.2
          else
            if d.1 92 (12 + (4 * x1)).toNatClampNeg = 3 then
              (zm 232 0 [z_r 91, z_i x1, none, none] [] (zd_u d 91 33 (x1 + 1))).bind fun q => zm 227 36 [z_r 91, z_i x1, z_i (d.1 92 ((12 + (4 * x1)) + 1).toNatClampNeg), none, none] (q.1.toList ++ []) q.2
            else
              if d.1 92 (12 + (4 * x1)).toNatClampNeg = 4 then
                cond (mx_in (d.1 92 ((12 + (4 * x1)) + 1).toNatClampNeg) 4) (
                  cond (mx_in ((12 + (4 * x1)) + 2) 1020) (
                    some (some (.inl 1), (zd_u (zd_u (zd_u d 91 33 (x1 + 1)) 105 (d.1 92 ((12 + (4 * x1)) + 1).toNatClampNeg).toNatClampNeg (x1 + 1)) 91 33 (d.1 92 ((12 + (4 * x1)) + 2).toNatClampNeg)))) none) none
              else
                if d.1 92 (12 + (4 * x1)).toNatClampNeg = 5 then
                  cond (mx_in ((12 + (4 * x1)) + 3) 1020) (
                    cond (mx_in (d.1 92 ((12 + (4 * x1)) + 3).toNatClampNeg) 4) (
                      (zm 233 0 [z_i ((d.1 105 (d.1 92 ((12 + (4 * x1)) + 3).toNatClampNeg).toNatClampNeg) &&& 255), none, none] [] (zd_u d 91 33 (x1 + 1))).bind fun q => zm 227 74 [z_r 91, z_i x1, z_i (d.1 92 ((12 + (4 * x1)) + 1).toNatClampNeg), z_i (d.1 105 (d.1 92 ((12 + (4 * x1)) + 3).toNatClampNeg).toNatClampNeg), none] (q.1.toList ++ [(.inl (d.1 92 7))]) q.2) none) none
                else
                  if d.1 92 (12 + (4 * x1)).toNatClampNeg = 6 then
                    cond (mx_in ((12 + (4 * x1)) + 3) 1020) (
                      cond (mx_in (d.1 92 ((12 + (4 * x1)) + 3).toNatClampNeg) 4) (
                        (zm 233 0 [z_i ((d.1 105 (d.1 92 ((12 + (4 * x1)) + 3).toNatClampNeg).toNatClampNeg) &&& 255), none, none] [] (zd_u d 91 33 (x1 + 1))).bind fun q => zm 227 74 [z_r 91, z_i x1, z_i (d.1 92 ((12 + (4 * x1)) + 1).toNatClampNeg), z_i (d.1 105 (d.1 92 ((12 + (4 * x1)) + 3).toNatClampNeg).toNatClampNeg), none] (q.1.toList ++ [(.inl (d.1 92 7))]) q.2) none) none
                  else
                    if d.1 92 (12 + (4 * x1)).toNatClampNeg = 7 then
                      cond (mx_in (d.1 92 ((12 + (4 * x1)) + 1).toNatClampNeg) 4) (
                        some (some (.inl 1), (zd_u (zd_u d 91 33 (x1 + 1)) 91 33 (d.1 105 (d.1 92 ((12 + (4 * x1)) + 1).toNatClampNeg).toNatClampNeg)))) none
                    else
                      cond (mx_in ((12 + (4 * x1)) + 3) 1020) (
                        cond (mx_in (d.1 92 ((12 + (4 * x1)) + 3).toNatClampNeg) 4) (
                          (zm 233 0 [z_i ((d.1 105 (d.1 92 ((12 + (4 * x1)) + 3).toNatClampNeg).toNatClampNeg) &&& 255), none, none] [] (zd_u d 91 33 (x1 + 1))).bind fun q => zm 227 74 [z_r 91, z_i x1, z_i (d.1 92 ((12 + (4 * x1)) + 1).toNatClampNeg), z_i (d.1 105 (d.1 92 ((12 + (4 * x1)) + 3).toNatClampNeg).toNatClampNeg), none] (q.1.toList ++ [(.inl (d.1 92 7))]) q.2) none) none) none) none := zm_di 600 rfl
/- TickBoundModel.does -/
set_option maxRecDepth 100000 in
theorem em_227_32 (x1 x2 y0 : Int32) (d : zd_D) : zm 227 32 [z_r 91, z_i x1, z_i x2, none, none] [(.inl y0)] d =
  some (some (.inl y0), d) := zm_di 600 rfl
/- TickBoundModel.does -/
set_option maxRecDepth 100000 in
theorem em_227_36 (x1 x2 y0 : Int32) (d : zd_D) : zm 227 36 [z_r 91, z_i x1, z_i x2, none, none] [(.inl y0)] d =
  some (some (.inl y0), d) := zm_di 600 rfl
/- TickBoundModel.does -/
set_option maxRecDepth 100000 in
theorem em_227_74 (x1 x2 x3 y0 y1 : Int32) (d : zd_D) : zm 227 74 [z_r 91, z_i x1, z_i x2, z_i x3, none] [(.inl y1), (.inl y0)] d =
  cond (mx_in (12 + (4 * x1)) 1020) (
    if d.1 92 (12 + (4 * x1)).toNatClampNeg = 5 then
      cond (mx_in ((12 + (4 * x1)) + 2) 1020) (
        cond (mx_in (d.1 92 ((12 + (4 * x1)) + 2).toNatClampNeg) 4) (
          cond (mx_in x2 4) (
            cond (mx_in (12 + (4 * x1)) 1020) (
              if d.1 92 (12 + (4 * x1)).toNatClampNeg = 5 then
                some (some (.inl (y0 * y1)), (zd_u d 105 x2.toNatClampNeg ((d.1 105 (d.1 92 ((12 + (4 * x1)) + 2).toNatClampNeg).toNatClampNeg) * x3)))
              else
                some (some (.inl ((y0 * y1) + 2)), (zd_u d 105 x2.toNatClampNeg ((d.1 105 (d.1 92 ((12 + (4 * x1)) + 2).toNatClampNeg).toNatClampNeg) * x3)))) none) none) none) none
    else
      cond (mx_in ((12 + (4 * x1)) + 2) 1020) (
        cond (mx_in (d.1 92 ((12 + (4 * x1)) + 2).toNatClampNeg) 4) (
          if x3 = 0 then
            none
          else
            cond (mx_in x2 4) (
              cond (mx_in (12 + (4 * x1)) 1020) (
                if d.1 92 (12 + (4 * x1)).toNatClampNeg = 5 then
                  some (some (.inl (y0 * y1)), (zd_u d 105 x2.toNatClampNeg ((d.1 105 (d.1 92 ((12 + (4 * x1)) + 2).toNatClampNeg).toNatClampNeg) / x3)))
                else
                  some (some (.inl ((y0 * y1) + 2)), (zd_u d 105 x2.toNatClampNeg ((d.1 105 (d.1 92 ((12 + (4 * x1)) + 2).toNatClampNeg).toNatClampNeg) / x3)))) none) none) none) none) none := zm_di 600 rfl
/- TickBoundModel.doesAsk -/
set_option maxRecDepth 100000 in
theorem em_228_0 (x1 : Int32) (d : zd_D) : zm 228 0 [z_r 91, z_i x1, none, none] [] d =
  (zm 226 0 [z_r 91, z_i x1] [] d).bind fun q => zm 228 3 [z_r 91, z_i x1, none, none] (q.1.toList ++ []) q.2 := zm_di 600 rfl
/- TickBoundModel.doesAsk -/
set_option maxRecDepth 100000 in
theorem em_228_3 (x1 y0 : Int32) (d : zd_D) : zm 228 3 [z_r 91, z_i x1, none, none] [(.inl y0)] d =
  (zm 229 0 [z_r 91, z_i (y0 / 2), none, none, none, none, none] [] d).bind fun q => zm 228 9 [z_r 91, z_i x1, z_i y0, none] (q.1.toList ++ []) q.2 := zm_di 600 rfl
/- TickBoundModel.doesAsk -/
set_option maxRecDepth 100000 in
theorem em_228_9 (x1 x2 y0 : Int32) (d : zd_D) : zm 228 9 [z_r 91, z_i x1, z_i x2, none] [(.inl y0)] d =
  if y0 = 0 then
    if y0 = 0 then
      cond (mx_in (12 + (4 * x1)) 1020) (
        if d.1 92 (12 + (4 * x1)).toNatClampNeg = 1 then
          cond (mx_in ((12 + (4 * x1)) + 1) 1020) (
            cond (mx_in x2 32) (
              cond (mx_in (d.1 92 ((12 + (4 * x1)) + 1).toNatClampNeg) 4) (
                if y0 = 0 then
                  cond (mx_in (12 + (4 * x1)) 1020) (
                    if d.1 92 (12 + (4 * x1)).toNatClampNeg = 2 then
                      some (some (.inl ((d.1 92 3) + 1)), (zd_u (zd_u (zd_u d 101 2 ((d.1 101 2) + 0)) 101 3 ((d.1 101 3) + 1)) 105 (d.1 92 ((12 + (4 * x1)) + 1).toNatClampNeg).toNatClampNeg (d.1 106 x2.toNatClampNeg)))
                    else
                      some (some (.inl ((d.1 92 3) + 0)), (zd_u (zd_u (zd_u d 101 2 ((d.1 101 2) + 0)) 101 3 ((d.1 101 3) + 1)) 105 (d.1 92 ((12 + (4 * x1)) + 1).toNatClampNeg).toNatClampNeg (d.1 106 x2.toNatClampNeg)))) none
                else
                  cond (mx_in (12 + (4 * x1)) 1020) (
                    if d.1 92 (12 + (4 * x1)).toNatClampNeg = 2 then
                      some (some (.inl (0 + 1)), (zd_u (zd_u (zd_u d 101 2 ((d.1 101 2) + 0)) 101 3 ((d.1 101 3) + 1)) 105 (d.1 92 ((12 + (4 * x1)) + 1).toNatClampNeg).toNatClampNeg (d.1 106 x2.toNatClampNeg)))
                    else
                      some (some (.inl (0 + 0)), (zd_u (zd_u (zd_u d 101 2 ((d.1 101 2) + 0)) 101 3 ((d.1 101 3) + 1)) 105 (d.1 92 ((12 + (4 * x1)) + 1).toNatClampNeg).toNatClampNeg (d.1 106 x2.toNatClampNeg)))) none) none) none) none
        else
          cond (mx_in ((12 + (4 * x1)) + 1) 1020) (
            cond (mx_in (d.1 92 ((12 + (4 * x1)) + 1).toNatClampNeg) 4) (
              cond (mx_in x2 32) (
                if y0 = 0 then
                  cond (mx_in (12 + (4 * x1)) 1020) (
                    if d.1 92 (12 + (4 * x1)).toNatClampNeg = 2 then
                      some (some (.inl ((d.1 92 3) + 1)), (zd_u (zd_u (zd_u d 101 2 ((d.1 101 2) + 0)) 101 3 ((d.1 101 3) + 1)) 106 x2.toNatClampNeg (d.1 105 (d.1 92 ((12 + (4 * x1)) + 1).toNatClampNeg).toNatClampNeg)))
                    else
                      some (some (.inl ((d.1 92 3) + 0)), (zd_u (zd_u (zd_u d 101 2 ((d.1 101 2) + 0)) 101 3 ((d.1 101 3) + 1)) 106 x2.toNatClampNeg (d.1 105 (d.1 92 ((12 + (4 * x1)) + 1).toNatClampNeg).toNatClampNeg)))) none
                else
                  cond (mx_in (12 + (4 * x1)) 1020) (
                    if d.1 92 (12 + (4 * x1)).toNatClampNeg = 2 then
                      some (some (.inl (0 + 1)), (zd_u (zd_u (zd_u d 101 2 ((d.1 101 2) + 0)) 101 3 ((d.1 101 3) + 1)) 106 x2.toNatClampNeg (d.1 105 (d.1 92 ((12 + (4 * x1)) + 1).toNatClampNeg).toNatClampNeg)))
                    else
                      some (some (.inl (0 + 0)), (zd_u (zd_u (zd_u d 101 2 ((d.1 101 2) + 0)) 101 3 ((d.1 101 3) + 1)) 106 x2.toNatClampNeg (d.1 105 (d.1 92 ((12 + (4 * x1)) + 1).toNatClampNeg).toNatClampNeg)))) none) none) none) none) none
    else
      cond (mx_in (12 + (4 * x1)) 1020) (
        if d.1 92 (12 + (4 * x1)).toNatClampNeg = 1 then
          cond (mx_in ((12 + (4 * x1)) + 1) 1020) (
            cond (mx_in x2 32) (
              cond (mx_in (d.1 92 ((12 + (4 * x1)) + 1).toNatClampNeg) 4) (
                if y0 = 0 then
                  cond (mx_in (12 + (4 * x1)) 1020) (
                    if d.1 92 (12 + (4 * x1)).toNatClampNeg = 2 then
                      some (some (.inl ((d.1 92 3) + 1)), (zd_u (zd_u (zd_u d 101 2 ((d.1 101 2) + 0)) 101 3 ((d.1 101 3) + 0)) 105 (d.1 92 ((12 + (4 * x1)) + 1).toNatClampNeg).toNatClampNeg (d.1 106 x2.toNatClampNeg)))
                    else
                      some (some (.inl ((d.1 92 3) + 0)), (zd_u (zd_u (zd_u d 101 2 ((d.1 101 2) + 0)) 101 3 ((d.1 101 3) + 0)) 105 (d.1 92 ((12 + (4 * x1)) + 1).toNatClampNeg).toNatClampNeg (d.1 106 x2.toNatClampNeg)))) none
                else
                  cond (mx_in (12 + (4 * x1)) 1020) (
                    if d.1 92 (12 + (4 * x1)).toNatClampNeg = 2 then
                      some (some (.inl (0 + 1)), (zd_u (zd_u (zd_u d 101 2 ((d.1 101 2) + 0)) 101 3 ((d.1 101 3) + 0)) 105 (d.1 92 ((12 + (4 * x1)) + 1).toNatClampNeg).toNatClampNeg (d.1 106 x2.toNatClampNeg)))
                    else
                      some (some (.inl (0 + 0)), (zd_u (zd_u (zd_u d 101 2 ((d.1 101 2) + 0)) 101 3 ((d.1 101 3) + 0)) 105 (d.1 92 ((12 + (4 * x1)) + 1).toNatClampNeg).toNatClampNeg (d.1 106 x2.toNatClampNeg)))) none) none) none) none
        else
          cond (mx_in ((12 + (4 * x1)) + 1) 1020) (
            cond (mx_in (d.1 92 ((12 + (4 * x1)) + 1).toNatClampNeg) 4) (
              cond (mx_in x2 32) (
                if y0 = 0 then
                  cond (mx_in (12 + (4 * x1)) 1020) (
                    if d.1 92 (12 + (4 * x1)).toNatClampNeg = 2 then
                      some (some (.inl ((d.1 92 3) + 1)), (zd_u (zd_u (zd_u d 101 2 ((d.1 101 2) + 0)) 101 3 ((d.1 101 3) + 0)) 106 x2.toNatClampNeg (d.1 105 (d.1 92 ((12 + (4 * x1)) + 1).toNatClampNeg).toNatClampNeg)))
                    else
                      some (some (.inl ((d.1 92 3) + 0)), (zd_u (zd_u (zd_u d 101 2 ((d.1 101 2) + 0)) 101 3 ((d.1 101 3) + 0)) 106 x2.toNatClampNeg (d.1 105 (d.1 92 ((12 + (4 * x1)) + 1).toNatClampNeg).toNatClampNeg)))) none
                else
                  cond (mx_in (12 + (4 * x1)) 1020) (
                    if d.1 92 (12 + (4 * x1)).toNatClampNeg = 2 then
                      some (some (.inl (0 + 1)), (zd_u (zd_u (zd_u d 101 2 ((d.1 101 2) + 0)) 101 3 ((d.1 101 3) + 0)) 106 x2.toNatClampNeg (d.1 105 (d.1 92 ((12 + (4 * x1)) + 1).toNatClampNeg).toNatClampNeg)))
                    else
                      some (some (.inl (0 + 0)), (zd_u (zd_u (zd_u d 101 2 ((d.1 101 2) + 0)) 101 3 ((d.1 101 3) + 0)) 106 x2.toNatClampNeg (d.1 105 (d.1 92 ((12 + (4 * x1)) + 1).toNatClampNeg).toNatClampNeg)))) none) none) none) none) none
  else
    if y0 = 0 then
      cond (mx_in (12 + (4 * x1)) 1020) (
        if d.1 92 (12 + (4 * x1)).toNatClampNeg = 1 then
          cond (mx_in ((12 + (4 * x1)) + 1) 1020) (
            cond (mx_in x2 32) (
              cond (mx_in (d.1 92 ((12 + (4 * x1)) + 1).toNatClampNeg) 4) (
                if y0 = 0 then
                  cond (mx_in (12 + (4 * x1)) 1020) (
                    if d.1 92 (12 + (4 * x1)).toNatClampNeg = 2 then
                      some (some (.inl ((d.1 92 3) + 1)), (zd_u (zd_u (zd_u d 101 2 ((d.1 101 2) + 1)) 101 3 ((d.1 101 3) + 1)) 105 (d.1 92 ((12 + (4 * x1)) + 1).toNatClampNeg).toNatClampNeg (d.1 106 x2.toNatClampNeg)))
                    else
                      some (some (.inl ((d.1 92 3) + 0)), (zd_u (zd_u (zd_u d 101 2 ((d.1 101 2) + 1)) 101 3 ((d.1 101 3) + 1)) 105 (d.1 92 ((12 + (4 * x1)) + 1).toNatClampNeg).toNatClampNeg (d.1 106 x2.toNatClampNeg)))) none
                else
                  cond (mx_in (12 + (4 * x1)) 1020) (
                    if d.1 92 (12 + (4 * x1)).toNatClampNeg = 2 then
                      some (some (.inl (0 + 1)), (zd_u (zd_u (zd_u d 101 2 ((d.1 101 2) + 1)) 101 3 ((d.1 101 3) + 1)) 105 (d.1 92 ((12 + (4 * x1)) + 1).toNatClampNeg).toNatClampNeg (d.1 106 x2.toNatClampNeg)))
                    else
                      some (some (.inl (0 + 0)), (zd_u (zd_u (zd_u d 101 2 ((d.1 101 2) + 1)) 101 3 ((d.1 101 3) + 1)) 105 (d.1 92 ((12 + (4 * x1)) + 1).toNatClampNeg).toNatClampNeg (d.1 106 x2.toNatClampNeg)))) none) none) none) none
        else
          cond (mx_in ((12 + (4 * x1)) + 1) 1020) (
            cond (mx_in (d.1 92 ((12 + (4 * x1)) + 1).toNatClampNeg) 4) (
              cond (mx_in x2 32) (
                if y0 = 0 then
                  cond (mx_in (12 + (4 * x1)) 1020) (
                    if d.1 92 (12 + (4 * x1)).toNatClampNeg = 2 then
                      some (some (.inl ((d.1 92 3) + 1)), (zd_u (zd_u (zd_u d 101 2 ((d.1 101 2) + 1)) 101 3 ((d.1 101 3) + 1)) 106 x2.toNatClampNeg (d.1 105 (d.1 92 ((12 + (4 * x1)) + 1).toNatClampNeg).toNatClampNeg)))
                    else
                      some (some (.inl ((d.1 92 3) + 0)), (zd_u (zd_u (zd_u d 101 2 ((d.1 101 2) + 1)) 101 3 ((d.1 101 3) + 1)) 106 x2.toNatClampNeg (d.1 105 (d.1 92 ((12 + (4 * x1)) + 1).toNatClampNeg).toNatClampNeg)))) none
                else
                  cond (mx_in (12 + (4 * x1)) 1020) (
                    if d.1 92 (12 + (4 * x1)).toNatClampNeg = 2 then
                      some (some (.inl (0 + 1)), (zd_u (zd_u (zd_u d 101 2 ((d.1 101 2) + 1)) 101 3 ((d.1 101 3) + 1)) 106 x2.toNatClampNeg (d.1 105 (d.1 92 ((12 + (4 * x1)) + 1).toNatClampNeg).toNatClampNeg)))
                    else
                      some (some (.inl (0 + 0)), (zd_u (zd_u (zd_u d 101 2 ((d.1 101 2) + 1)) 101 3 ((d.1 101 3) + 1)) 106 x2.toNatClampNeg (d.1 105 (d.1 92 ((12 + (4 * x1)) + 1).toNatClampNeg).toNatClampNeg)))) none) none) none) none) none
    else
      cond (mx_in (12 + (4 * x1)) 1020) (
        if d.1 92 (12 + (4 * x1)).toNatClampNeg = 1 then
          cond (mx_in ((12 + (4 * x1)) + 1) 1020) (
            cond (mx_in x2 32) (
              cond (mx_in (d.1 92 ((12 + (4 * x1)) + 1).toNatClampNeg) 4) (
                if y0 = 0 then
                  cond (mx_in (12 + (4 * x1)) 1020) (
                    if d.1 92 (12 + (4 * x1)).toNatClampNeg = 2 then
                      some (some (.inl ((d.1 92 3) + 1)), (zd_u (zd_u (zd_u d 101 2 ((d.1 101 2) + 1)) 101 3 ((d.1 101 3) + 0)) 105 (d.1 92 ((12 + (4 * x1)) + 1).toNatClampNeg).toNatClampNeg (d.1 106 x2.toNatClampNeg)))
                    else
                      some (some (.inl ((d.1 92 3) + 0)), (zd_u (zd_u (zd_u d 101 2 ((d.1 101 2) + 1)) 101 3 ((d.1 101 3) + 0)) 105 (d.1 92 ((12 + (4 * x1)) + 1).toNatClampNeg).toNatClampNeg (d.1 106 x2.toNatClampNeg)))) none
                else
                  cond (mx_in (12 + (4 * x1)) 1020) (
                    if d.1 92 (12 + (4 * x1)).toNatClampNeg = 2 then
                      some (some (.inl (0 + 1)), (zd_u (zd_u (zd_u d 101 2 ((d.1 101 2) + 1)) 101 3 ((d.1 101 3) + 0)) 105 (d.1 92 ((12 + (4 * x1)) + 1).toNatClampNeg).toNatClampNeg (d.1 106 x2.toNatClampNeg)))
                    else
                      some (some (.inl (0 + 0)), (zd_u (zd_u (zd_u d 101 2 ((d.1 101 2) + 1)) 101 3 ((d.1 101 3) + 0)) 105 (d.1 92 ((12 + (4 * x1)) + 1).toNatClampNeg).toNatClampNeg (d.1 106 x2.toNatClampNeg)))) none) none) none) none
        else
          cond (mx_in ((12 + (4 * x1)) + 1) 1020) (
            cond (mx_in (d.1 92 ((12 + (4 * x1)) + 1).toNatClampNeg) 4) (
              cond (mx_in x2 32) (
                if y0 = 0 then
                  cond (mx_in (12 + (4 * x1)) 1020) (
                    if d.1 92 (12 + (4 * x1)).toNatClampNeg = 2 then
                      some (some (.inl ((d.1 92 3) + 1)), (zd_u (zd_u (zd_u d 101 2 ((d.1 101 2) + 1)) 101 3 ((d.1 101 3) + 0)) 106 x2.toNatClampNeg (d.1 105 (d.1 92 ((12 + (4 * x1)) + 1).toNatClampNeg).toNatClampNeg)))
                    else
                      some (some (.inl ((d.1 92 3) + 0)), (zd_u (zd_u (zd_u d 101 2 ((d.1 101 2) + 1)) 101 3 ((d.1 101 3) + 0)) 106 x2.toNatClampNeg (d.1 105 (d.1 92 ((12 + (4 * x1)) + 1).toNatClampNeg).toNatClampNeg)))) none
                else
                  cond (mx_in (12 + (4 * x1)) 1020) (
                    if d.1 92 (12 + (4 * x1)).toNatClampNeg = 2 then
                      some (some (.inl (0 + 1)), (zd_u (zd_u (zd_u d 101 2 ((d.1 101 2) + 1)) 101 3 ((d.1 101 3) + 0)) 106 x2.toNatClampNeg (d.1 105 (d.1 92 ((12 + (4 * x1)) + 1).toNatClampNeg).toNatClampNeg)))
                    else
                      some (some (.inl (0 + 0)), (zd_u (zd_u (zd_u d 101 2 ((d.1 101 2) + 1)) 101 3 ((d.1 101 3) + 0)) 106 x2.toNatClampNeg (d.1 105 (d.1 92 ((12 + (4 * x1)) + 1).toNatClampNeg).toNatClampNeg)))) none) none) none) none) none := zm_di 600 rfl
/- TickBoundModel.hits -/
set_option maxRecDepth 100000 in
theorem em_229_0 (x1 : Int32) (d : zd_D) : zm 229 0 [z_r 91, z_i x1, none, none, none, none, none] [] d =
  if ((d.1 92 9) >>> (x1 &&& 31)) &&& 1 = 1 then
    some (some (.inl 1), d)
  else
    if d.1 92 0 = 0 then
      none
    else
      zm 229 27 [z_r 91, z_i x1, z_i (d.1 92 1), z_i (x1 - x1 / (d.1 92 0) * (d.1 92 0)), z_i (-1), z_i (-1), z_i ((d.1 92 1) - 1)] [] d := zm_di 600 rfl
/- TickBoundModel.hits -/
set_option maxRecDepth 100000 in
theorem em_229_27 (x1 x2 x3 x4 x5 x6 : Int32) (d : zd_D) : zm 229 27 [z_r 91, z_i x1, z_i x2, z_i x3, z_i x4, z_i x5, z_i x6] [] d =
  if x6 < 0 then
    if x4 < 0 then
      if x5 < 0 then
        (zm 230 0 [z_r 91, z_i x3, none, none, none, none, none] [] (zd_u d 91 31 ((d.1 91 31) + 1))).bind fun q => zm 229 79 [z_r 91, z_i x1, z_i x2, z_i x3, z_i x4, z_i x5, z_i 0] (q.1.toList ++ []) q.2
      else
        cond (mx_in ((x2 * x3) + x5) 16) (
          cond (mx_in ((x2 * x3) + x5) 16) (
            cond (mx_in ((x2 * x3) + x5) 16) (
              (zm 231 0 [z_r 91, z_i x3, z_i x5] [] (zd_u (zd_u (zd_u (zd_u d 91 31 ((d.1 91 31) + 1)) 108 ((x2 * x3) + x5).toNatClampNeg x1) 110 ((x2 * x3) + x5).toNatClampNeg ((d.1 91 31) + 1)) 109 ((x2 * x3) + x5).toNatClampNeg ((d.1 91 31) + 1))).bind fun q => zm 229 113 [z_r 91, z_i x1, z_i x2, z_i x3, z_i x5, z_i x5, z_i 0] (q.1.toList ++ []) q.2) none) none) none
    else
      cond (mx_in ((x2 * x3) + x4) 16) (
        (zm 231 0 [z_r 91, z_i x3, z_i x4] [] (zd_u (zd_u d 91 31 ((d.1 91 31) + 1)) 109 ((x2 * x3) + x4).toNatClampNeg ((d.1 91 31) + 1))).bind fun q => zm 229 113 [z_r 91, z_i x1, z_i x2, z_i x3, z_i x4, z_i x5, z_i 1] (q.1.toList ++ []) q.2) none
  else
    cond (mx_in ((x2 * x3) + x6) 16) (
      if d.1 108 ((x2 * x3) + x6).toNatClampNeg = x1 then
        cond (mx_in ((x2 * x3) + x6) 16) (
          if d.1 108 ((x2 * x3) + x6).toNatClampNeg < 0 then
            zm 229 27 [z_r 91, z_i x1, z_i x2, z_i x3, z_i x6, z_i x6, z_i (x6 + (-1))] [] d
          else
            zm 229 27 [z_r 91, z_i x1, z_i x2, z_i x3, z_i x6, z_i x5, z_i (x6 + (-1))] [] d) none
      else
        cond (mx_in ((x2 * x3) + x6) 16) (
          if d.1 108 ((x2 * x3) + x6).toNatClampNeg < 0 then
            zm 229 27 [z_r 91, z_i x1, z_i x2, z_i x3, z_i x4, z_i x6, z_i (x6 + (-1))] [] d
          else
            zm 229 27 [z_r 91, z_i x1, z_i x2, z_i x3, z_i x4, z_i x5, z_i (x6 + (-1))] [] d) none) none := zm_di 600 rfl
/- TickBoundModel.hits -/
set_option maxRecDepth 100000 in
theorem em_229_79 (x1 x2 x3 x4 x5 x6 y0 : Int32) (d : zd_D) : zm 229 79 [z_r 91, z_i x1, z_i x2, z_i x3, z_i x4, z_i x5, z_i x6] [(.inl y0)] d =
  cond (mx_in ((x2 * x3) + y0) 16) (
    cond (mx_in ((x2 * x3) + y0) 16) (
      cond (mx_in ((x2 * x3) + y0) 16) (
        (zm 231 0 [z_r 91, z_i x3, z_i y0] [] (zd_u (zd_u (zd_u d 108 ((x2 * x3) + y0).toNatClampNeg x1) 110 ((x2 * x3) + y0).toNatClampNeg (d.1 91 31)) 109 ((x2 * x3) + y0).toNatClampNeg (d.1 91 31))).bind fun q => zm 229 113 [z_r 91, z_i x1, z_i x2, z_i x3, z_i y0, z_i x5, z_i x6] (q.1.toList ++ []) q.2) none) none) none := zm_di 600 rfl
/- TickBoundModel.hits -/
set_option maxRecDepth 100000 in
theorem em_229_113 (x1 x2 x3 x4 x5 x6 : Int32) (d : zd_D) : zm 229 113 [z_r 91, z_i x1, z_i x2, z_i x3, z_i x4, z_i x5, z_i x6] [] d =
  mx_rt 1 x6 (
    some (some (.inl x6), d)) := zm_di 600 rfl
/- TickBoundModel.goesOut -/
set_option maxRecDepth 100000 in
theorem em_230_0 (x1 : Int32) (d : zd_D) : zm 230 0 [z_r 91, z_i x1, none, none, none, none, none] [] d =
  if d.1 92 2 = 2 then
    cond (mx_in (3 * x1) 12) (
      if d.1 92 1 = 1 then
        some (some (.inl 0), d)
      else
        if d.1 92 1 = 2 then
          some (some (.inl (d.1 111 (3 * x1).toNatClampNeg)), d)
        else
          cond (mx_in (((3 * x1) + 1) + (d.1 111 (3 * x1).toNatClampNeg)) 12) (
            some (some (.inl ((2 * (d.1 111 (3 * x1).toNatClampNeg)) + (d.1 111 (((3 * x1) + 1) + (d.1 111 (3 * x1).toNatClampNeg)).toNatClampNeg))), d)) none) none
  else
    zm 230 48 [z_r 91, z_i x1, z_i (d.1 92 1), z_i 0, z_i 1, none, none] [] d := zm_di 600 rfl
/- TickBoundModel.goesOut -/
set_option maxRecDepth 100000 in
theorem em_230_48 (x1 x2 x3 x4 : Int32) (d : zd_D) : zm 230 48 [z_r 91, z_i x1, z_i x2, z_i x3, z_i x4, none, none] [] d =
  if x4 < x2 then
    if d.1 92 2 = 0 then
      cond (mx_in ((x2 * x1) + x4) 16) (
        cond (mx_in ((x2 * x1) + x3) 16) (
          if d.1 109 ((x2 * x1) + x4).toNatClampNeg < d.1 109 ((x2 * x1) + x3).toNatClampNeg then
            zm 230 48 [z_r 91, z_i x1, z_i x2, z_i x4, z_i (x4 + 1), none, none] [] d
          else
            zm 230 48 [z_r 91, z_i x1, z_i x2, z_i x3, z_i (x4 + 1), none, none] [] d) none) none
    else
      cond (mx_in ((x2 * x1) + x4) 16) (
        cond (mx_in ((x2 * x1) + x3) 16) (
          if d.1 110 ((x2 * x1) + x4).toNatClampNeg < d.1 110 ((x2 * x1) + x3).toNatClampNeg then
            zm 230 48 [z_r 91, z_i x1, z_i x2, z_i x4, z_i (x4 + 1), none, none] [] d
          else
            zm 230 48 [z_r 91, z_i x1, z_i x2, z_i x3, z_i (x4 + 1), none, none] [] d) none) none
  else
    some (some (.inl x3), d) := zm_di 600 rfl
/- TickBoundModel.bitsTurn -/
set_option maxRecDepth 100000 in
theorem em_231_0 (x1 x2 : Int32) (d : zd_D) : zm 231 0 [z_r 91, z_i x1, z_i x2] [] d =
  if d.1 92 1 = 2 then
    cond (mx_in (3 * x1) 12) (
      some (none, (zd_u d 111 (3 * x1).toNatClampNeg (1 - x2)))) none
  else
    if d.1 92 1 = 4 then
      cond (mx_in (3 * x1) 12) (
        cond (mx_in (((3 * x1) + 1) + (x2 / 2)) 12) (
          some (none, (zd_u (zd_u d 111 (3 * x1).toNatClampNeg (1 - (x2 / 2))) 111 (((3 * x1) + 1) + (x2 / 2)).toNatClampNeg (1 - (x2 - x2 / 2 * 2))))) none) none
    else
      some (none, d) := zm_di 600 rfl
/- TickBoundModel.doesBranch -/
set_option maxRecDepth 100000 in
theorem em_232_0 (x1 : Int32) (d : zd_D) : zm 232 0 [z_r 91, z_i x1, none, none] [] d =
  cond (mx_in ((12 + (4 * x1)) + 1) 1020) (
    cond (mx_in (d.1 92 ((12 + (4 * x1)) + 1).toNatClampNeg) 4) (
      cond (mx_in ((12 + (4 * x1)) + 3) 1020) (
        if d.1 105 (d.1 92 ((12 + (4 * x1)) + 1).toNatClampNeg).toNatClampNeg < d.1 92 ((12 + (4 * x1)) + 3).toNatClampNeg then
          if d.1 92 5 = 1 then
            cond (mx_in x1 28) (
              cond (mx_in ((12 + (4 * x1)) + 2) 1020) (
                some (some (.inl 0), (zd_u (zd_u d 112 x1.toNatClampNeg 2) 91 33 (d.1 92 ((12 + (4 * x1)) + 2).toNatClampNeg)))) none) none
          else
            if d.1 92 5 = 2 then
              cond (mx_in x1 28) (
                if d.1 112 x1.toNatClampNeg = 2 then
                  cond (mx_in x1 28) (
                    cond (mx_in ((12 + (4 * x1)) + 2) 1020) (
                      some (some (.inl 0), (zd_u (zd_u d 112 x1.toNatClampNeg 2) 91 33 (d.1 92 ((12 + (4 * x1)) + 2).toNatClampNeg)))) none) none
                else
                  cond (mx_in x1 28) (
                    cond (mx_in ((12 + (4 * x1)) + 2) 1020) (
                      some (some (.inl (d.1 92 4)), (zd_u (zd_u (zd_u d 112 x1.toNatClampNeg 2) 91 33 (d.1 92 ((12 + (4 * x1)) + 2).toNatClampNeg)) 101 4 ((d.1 101 4) + 1)))) none) none) none
            else
              cond (mx_in x1 28) (
                cond (mx_in ((12 + (4 * x1)) + 2) 1020) (
                  some (some (.inl (d.1 92 4)), (zd_u (zd_u (zd_u d 112 x1.toNatClampNeg 2) 91 33 (d.1 92 ((12 + (4 * x1)) + 2).toNatClampNeg)) 101 4 ((d.1 101 4) + 1)))) none) none
        else
          if d.1 92 5 = 1 then
            cond (mx_in x1 28) (
              some (some (.inl (d.1 92 4)), (zd_u (zd_u (zd_u d 112 x1.toNatClampNeg 1) 91 33 (x1 + 1)) 101 4 ((d.1 101 4) + 1)))) none
          else
            if d.1 92 5 = 2 then
              cond (mx_in x1 28) (
                if d.1 112 x1.toNatClampNeg = 2 then
                  cond (mx_in x1 28) (
                    some (some (.inl (d.1 92 4)), (zd_u (zd_u (zd_u d 112 x1.toNatClampNeg 1) 91 33 (x1 + 1)) 101 4 ((d.1 101 4) + 1)))) none
                else
                  cond (mx_in x1 28) (
                    some (some (.inl 0), (zd_u (zd_u d 112 x1.toNatClampNeg 1) 91 33 (x1 + 1)))) none) none
            else
              cond (mx_in x1 28) (
                some (some (.inl 0), (zd_u (zd_u d 112 x1.toNatClampNeg 1) 91 33 (x1 + 1)))) none) none) none) none := zm_di 600 rfl
/- TickBoundModel.bits -/
set_option maxRecDepth 100000 in
theorem em_233_0 (x0 : Int32) (d : zd_D) : zm 233 0 [z_i x0, none, none] [] d =
  zm 233 5 [z_i x0, z_i 0, z_i 0] [] d := zm_di 600 rfl
/- TickBoundModel.bits -/
set_option maxRecDepth 100000 in
theorem em_233_5 (x0 x1 x2 : Int32) (d : zd_D) : zm 233 5 [z_i x0, z_i x1, z_i x2] [] d =
  if x2 < 32 then
    zm 233 5 [z_i x0, z_i (x1 + ((x0 >>> (x2 &&& 31)) &&& 1)), z_i (x2 + 1)] [] d
  else
    some (some (.inl x1), d) := zm_di 600 rfl
/- TickBoundModel.edgeOf -/
set_option maxRecDepth 100000 in
theorem em_235_0 (x1 x2 : Int32) (d : zd_D) : zm 235 0 [z_r 91, z_i x1, z_i x2, none] [] d =
  cond (mx_in x1 30) (
    zm 235 6 [z_r 91, none, z_i x2, z_i (d.1 100 x1.toNatClampNeg)] [] d) none := zm_di 600 rfl
/- TickBoundModel.edgeOf -/
set_option maxRecDepth 100000 in
theorem em_235_6 (x2 x3 : Int32) (d : zd_D) : zm 235 6 [z_r 91, none, z_i x2, z_i x3] [] d =
  cond (mx_in x3 820) (
    if d.1 99 x3.toNatClampNeg = x2 then
      some (some (.inl x3), d)
    else
      zm 235 6 [z_r 91, none, z_i x2, z_i (x3 + 1)] [] d) none := zm_di 600 rfl
/- TickBoundModel.ran -/
set_option maxRecDepth 100000 in
theorem em_236_0 (x1 : Int32) (d : zd_D) : zm 236 0 [z_r 91, z_i x1] [] d =
  if x1 < 0 then
    some (some (.inl (-1000000001)), d)
  else
    if 12 < x1 then
      some (some (.inl (-1000000001)), d)
    else
      if d.1 91 19 = 0 then
        some (some (.inl (-1000000002)), d)
      else
        cond (mx_in x1 13) (
          some (some (.inl (d.1 102 x1.toNatClampNeg)), d)) none := zm_di 600 rfl
/- TickBoundModel.step -/
set_option maxRecDepth 100000 in
theorem em_237_0 (x1 x2 : Int32) (d : zd_D) : zm 237 0 [z_r 91, z_i x1, z_i x2] [] d =
  if x1 < 0 then
    some (some (.inl (-1000000001)), d)
  else
    if x2 < 0 then
      some (some (.inl (-1000000001)), d)
    else
      if 1 < x2 then
        some (some (.inl (-1000000001)), d)
      else
        if d.1 91 19 = 0 then
          some (some (.inl (-1000000002)), d)
        else
          if x1 < d.1 102 1 then
            if x2 = 0 then
              cond (mx_in x1 600) (
                some (some (.inl (d.1 103 x1.toNatClampNeg)), d)) none
            else
              cond (mx_in x1 600) (
                some (some (.inl (d.1 104 x1.toNatClampNeg)), d)) none
          else
            some (some (.inl (-1000000005)), d) := zm_di 600 rfl
/- TickBoundModel.shown -/
set_option maxRecDepth 100000 in
theorem em_238_0 (x1 x2 : Int32) (d : zd_D) : zm 238 0 [z_r 91, z_i x1, z_i x2, none, none, none] [] d =
  if x1 < 0 then
    some (some (.inl (-1000000001)), d)
  else
    if 7 < x1 then
      some (some (.inl (-1000000001)), d)
    else
      if x2 < 0 then
        some (some (.inl (-1000000001)), d)
      else
        if 1 < x2 then
          some (some (.inl (-1000000001)), d)
        else
          zm 238 19 [z_r 91, z_i x1, z_i x2, z_i (-1000000005), z_i 0, z_i 0] [] d := zm_di 600 rfl
/- TickBoundModel.shown -/
set_option maxRecDepth 100000 in
theorem em_238_19 (x1 x2 x3 x4 x5 : Int32) (d : zd_D) : zm 238 19 [z_r 91, z_i x1, z_i x2, z_i x3, z_i x4, z_i x5] [] d =
  if x5 < (1 : Int32) <<< (x1 &&& 31) then
    (zm 223 0 [z_r 91, z_i x5, z_i 0, none, none, none, none, none] [] d).bind fun q => zm 238 28 [z_r 91, z_i x1, z_i x2, z_i x3, z_i x4, z_i x5] (q.1.toList ++ []) q.2
  else
    if x3 = (-1000000005) then
      some (some (.inl (-1000000005)), d)
    else
      if x2 = 0 then
        some (some (.inl x3), d)
      else
        some (some (.inl x4), d) := zm_di 600 rfl
