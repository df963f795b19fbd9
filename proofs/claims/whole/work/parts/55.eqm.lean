/-! ===== what each frame does, up to the next cut: printed by program ===== -/
/- TickBoundModel.feed -/
theorem em_167_0 (x1 x2 x3 : Int32) (d : zd_D) : zm 167 0 [some (.inr (.inr (some 91))), some (.inl x1), some (.inl x2), some (.inl x3), none, none] [] d =
  if 96 < (d.1 91 4) + 12 then
    some (some (.inl (-1000000003)), d)
  else
    zm 167 11 [some (.inr (.inr (some 91))), some (.inl x1), some (.inl x2), some (.inl x3), some (.inl 0), none] [] d := zm_di 600 rfl
/- TickBoundModel.feed -/
theorem em_167_11 (x1 x2 x3 x4 : Int32) (d : zd_D) : zm 167 11 [some (.inr (.inr (some 91))), some (.inl x1), some (.inl x2), some (.inl x3), some (.inl x4), none] [] d =
  if x4 < 12 then
    if x4 < 4 then
      cond (mx_in ((d.1 91 4) + x4) 96) (
        zm 167 11 [some (.inr (.inr (some 91))), some (.inl x1), some (.inl x2), some (.inl x3), some (.inl (x4 + 1)), none] [] (zd_u d 94 ((d.1 91 4) + x4).toNatClampNeg ((x1 >>> ((24 - (8 * (x4 - x4 / 4 * 4))) &&& 31)) &&& 255))) none
    else
      if x4 < 8 then
        cond (mx_in ((d.1 91 4) + x4) 96) (
          zm 167 11 [some (.inr (.inr (some 91))), some (.inl x1), some (.inl x2), some (.inl x3), some (.inl (x4 + 1)), none] [] (zd_u d 94 ((d.1 91 4) + x4).toNatClampNeg ((x2 >>> ((24 - (8 * (x4 - x4 / 4 * 4))) &&& 31)) &&& 255))) none
      else
        cond (mx_in ((d.1 91 4) + x4) 96) (
          zm 167 11 [some (.inr (.inr (some 91))), some (.inl x1), some (.inl x2), some (.inl x3), some (.inl (x4 + 1)), none] [] (zd_u d 94 ((d.1 91 4) + x4).toNatClampNeg ((x3 >>> ((24 - (8 * (x4 - x4 / 4 * 4))) &&& 31)) &&& 255))) none
  else
    some (some (.inl ((d.1 91 4) + 12)), (zd_u d 91 4 ((d.1 91 4) + 12))) := zm_di 600 rfl
/- TickBoundModel.trim -/
theorem em_168_0 (x1 : Int32) (d : zd_D) : zm 168 0 [some (.inr (.inr (some 91))), some (.inl x1)] [] d =
  if x1 < 0 then
    some (some (.inl (-1000000001)), d)
  else
    if d.1 91 4 < x1 then
      some (some (.inl (-1000000001)), d)
    else
      some (some (.inl x1), (zd_u d 91 4 x1)) := zm_di 600 rfl
/- TickBoundModel.machine -/
theorem em_170_0 (d : zd_D) : zm 170 0 [some (.inr (.inr (some 91))), none, none] [] d =
  zm 170 15 [some (.inr (.inr (some 91))), some (.inl 0), none] [] (zd_u (zd_u (zd_u (zd_u d 91 7 0) 91 11 (-1)) 91 13 0) 91 14 0) := zm_di 600 rfl
/- TickBoundModel.machine -/
theorem em_170_15 (x1 : Int32) (d : zd_D) : zm 170 15 [some (.inr (.inr (some 91))), some (.inl x1), none] [] d =
  if x1 < 8 then
    cond (mx_in x1 8) (
      zm 170 15 [some (.inr (.inr (some 91))), some (.inl (x1 + 1)), none] [] (zd_u d 97 x1.toNatClampNeg (-1))) none
  else
    (zm 171 0 [some (.inr (.inr (some 91))), none] [] d).bind fun q => zm 170 27 [some (.inr (.inr (some 91))), some (.inl x1), none] (q.1.toList ++ []) q.2 := zm_di 600 rfl
/- TickBoundModel.machine -/
theorem em_170_27 (x1 : Int32) (d : zd_D) : zm 170 27 [some (.inr (.inr (some 91))), some (.inl x1), none] [] d =
  (zm 176 0 [some (.inr (.inr (some 91))), none, none] [] d).bind fun q => zm 170 29 [some (.inr (.inr (some 91))), some (.inl x1), none] (q.1.toList ++ []) q.2 := zm_di 600 rfl
/- TickBoundModel.machine -/
theorem em_170_29 (x1 y0 : Int32) (d : zd_D) : zm 170 29 [some (.inr (.inr (some 91))), some (.inl x1), none] [(.inl y0)] d =
  zm 170 31 [some (.inr (.inr (some 91))), some (.inl y0), none] [] d := zm_di 600 rfl
/- TickBoundModel.machine -/
theorem em_170_31 (x1 : Int32) (d : zd_D) : zm 170 31 [some (.inr (.inr (some 91))), some (.inl x1), none] [] d =
  if x1 = 0 then
    if x1 = 0 then
      some (some (.inl ((-100) - (d.1 91 8))), (zd_u d 91 4 0))
    else
      if d.1 91 14 = 0 then
        zm 170 58 [some (.inr (.inr (some 91))), none, some (.inl 0)] [] (zd_u d 91 4 0)
      else
        some (some (.inl (-1000000002)), (zd_u d 91 4 0))
  else
    if d.1 91 9 = 0 then
      if x1 = 0 then
        some (some (.inl ((-100) - (d.1 91 8))), (zd_u d 91 4 0))
      else
        if d.1 91 14 = 0 then
          zm 170 58 [some (.inr (.inr (some 91))), none, some (.inl 0)] [] (zd_u d 91 4 0)
        else
          some (some (.inl (-1000000002)), (zd_u d 91 4 0))
    else
      (zm 176 0 [some (.inr (.inr (some 91))), none, none] [] d).bind fun q => zm 170 38 [some (.inr (.inr (some 91))), some (.inl x1), none] (q.1.toList ++ []) q.2 := zm_di 600 rfl
/- TickBoundModel.machine -/
theorem em_170_38 (x1 y0 : Int32) (d : zd_D) : zm 170 38 [some (.inr (.inr (some 91))), some (.inl x1), none] [(.inl y0)] d =
  zm 170 31 [some (.inr (.inr (some 91))), some (.inl y0), none] [] d := zm_di 600 rfl
/- TickBoundModel.machine -/
theorem em_170_58 (x2 : Int32) (d : zd_D) : zm 170 58 [some (.inr (.inr (some 91))), none, some (.inl x2)] [] d =
  if x2 < 8 then
    cond (mx_in x2 8) (
      if d.1 97 x2.toNatClampNeg < 0 then
        cond (mx_in x2 1020) (
          cond (mx_in x2 1020) (
            zm 170 58 [some (.inr (.inr (some 91))), none, some (.inl (x2 + 1))] [] (zd_u d 92 x2.toNatClampNeg (d.1 92 x2.toNatClampNeg))) none) none
      else
        cond (mx_in x2 8) (
          cond (mx_in x2 1020) (
            zm 170 58 [some (.inr (.inr (some 91))), none, some (.inl (x2 + 1))] [] (zd_u d 92 x2.toNatClampNeg (d.1 97 x2.toNatClampNeg))) none) none) none
  else
    some (some (.inl (d.1 91 13)), (zd_u d 91 19 0)) := zm_di 600 rfl
/- TickBoundModel.go -/
theorem em_171_0 (d : zd_D) : zm 171 0 [some (.inr (.inr (some 91))), none] [] d =
  zm 171 1 [some (.inr (.inr (some 91))), none] [] d := zm_di 600 rfl
/- TickBoundModel.go -/
theorem em_171_1 (d : zd_D) : zm 171 1 [some (.inr (.inr (some 91))), none] [] d =
  if d.1 91 7 < d.1 91 4 then
    cond (mx_in (d.1 91 7) 96) (
      if d.1 94 (d.1 91 7).toNatClampNeg = 32 then
        zm 171 1 [some (.inr (.inr (some 91))), none] [] (zd_u d 91 7 ((d.1 91 7) + 1))
      else
        zm 171 21 [some (.inr (.inr (some 91))), none] [] d) none
  else
    zm 171 21 [some (.inr (.inr (some 91))), none] [] d := zm_di 600 rfl
/- TickBoundModel.go -/
theorem em_171_21 (d : zd_D) : zm 171 21 [some (.inr (.inr (some 91))), none] [] d =
  if d.1 91 7 = d.1 91 11 then
    zm 171 35 [some (.inr (.inr (some 91))), some (.inl 1)] [] (zd_u d 91 8 (d.1 91 7))
  else
    zm 171 35 [some (.inr (.inr (some 91))), some (.inl 0)] [] (zd_u d 91 8 (d.1 91 7)) := zm_di 600 rfl
/- TickBoundModel.go -/
theorem em_171_35 (x1 : Int32) (d : zd_D) : zm 171 35 [some (.inr (.inr (some 91))), some (.inl x1)] [] d =
  if d.1 91 8 = d.1 91 4 then
    some (none, (zd_u d 91 9 0))
  else
    if d.1 91 8 < d.1 91 4 then
      cond (mx_in (d.1 91 8) 96) (
        if d.1 94 (d.1 91 8).toNatClampNeg < 97 then
          if d.1 91 8 < d.1 91 4 then
            cond (mx_in (d.1 91 8) 96) (
              if d.1 94 (d.1 91 8).toNatClampNeg < 48 then
                some (none, (zd_u d 91 9 3))
              else
                cond (mx_in (d.1 91 8) 96) (
                  if 57 < d.1 94 (d.1 91 8).toNatClampNeg then
                    some (none, (zd_u d 91 9 3))
                  else
                    if d.1 91 8 < d.1 91 4 then
                      cond (mx_in (d.1 91 8) 96) (
                        if d.1 94 (d.1 91 8).toNatClampNeg < 97 then
                          (zm 175 0 [some (.inr (.inr (some 91)))] [] d).bind fun q => zm 171 64 [some (.inr (.inr (some 91))), some (.inl x1)] (q.1.toList ++ []) q.2
                        else
                          cond (mx_in (d.1 91 8) 96) (
                            if 122 < d.1 94 (d.1 91 8).toNatClampNeg then
                              (zm 175 0 [some (.inr (.inr (some 91)))] [] d).bind fun q => zm 171 64 [some (.inr (.inr (some 91))), some (.inl x1)] (q.1.toList ++ []) q.2
                            else
                              (zm 174 0 [some (.inr (.inr (some 91))), none, none, none, none] [] d).bind fun q => zm 171 61 [some (.inr (.inr (some 91))), some (.inl x1)] (q.1.toList ++ []) q.2) none) none
                    else
                      (zm 175 0 [some (.inr (.inr (some 91)))] [] d).bind fun q => zm 171 64 [some (.inr (.inr (some 91))), some (.inl x1)] (q.1.toList ++ []) q.2) none) none
          else
            some (none, (zd_u d 91 9 3))
        else
          cond (mx_in (d.1 91 8) 96) (
            if 122 < d.1 94 (d.1 91 8).toNatClampNeg then
              if d.1 91 8 < d.1 91 4 then
                cond (mx_in (d.1 91 8) 96) (
                  if d.1 94 (d.1 91 8).toNatClampNeg < 48 then
                    some (none, (zd_u d 91 9 3))
                  else
                    cond (mx_in (d.1 91 8) 96) (
                      if 57 < d.1 94 (d.1 91 8).toNatClampNeg then
                        some (none, (zd_u d 91 9 3))
                      else
                        if d.1 91 8 < d.1 91 4 then
                          cond (mx_in (d.1 91 8) 96) (
                            if d.1 94 (d.1 91 8).toNatClampNeg < 97 then
                              (zm 175 0 [some (.inr (.inr (some 91)))] [] d).bind fun q => zm 171 64 [some (.inr (.inr (some 91))), some (.inl x1)] (q.1.toList ++ []) q.2
                            else
                              cond (mx_in (d.1 91 8) 96) (
                                if 122 < d.1 94 (d.1 91 8).toNatClampNeg then
                                  (zm 175 0 [some (.inr (.inr (some 91)))] [] d).bind fun q => zm 171 64 [some (.inr (.inr (some 91))), some (.inl x1)] (q.1.toList ++ []) q.2
                                else
                                  (zm 174 0 [some (.inr (.inr (some 91))), none, none, none, none] [] d).bind fun q => zm 171 61 [some (.inr (.inr (some 91))), some (.inl x1)] (q.1.toList ++ []) q.2) none) none
                        else
                          (zm 175 0 [some (.inr (.inr (some 91)))] [] d).bind fun q => zm 171 64 [some (.inr (.inr (some 91))), some (.inl x1)] (q.1.toList ++ []) q.2) none) none
              else
                some (none, (zd_u d 91 9 3))
            else
              if d.1 91 8 < d.1 91 4 then
                cond (mx_in (d.1 91 8) 96) (
                  if d.1 94 (d.1 91 8).toNatClampNeg < 97 then
                    (zm 175 0 [some (.inr (.inr (some 91)))] [] d).bind fun q => zm 171 64 [some (.inr (.inr (some 91))), some (.inl x1)] (q.1.toList ++ []) q.2
                  else
                    cond (mx_in (d.1 91 8) 96) (
                      if 122 < d.1 94 (d.1 91 8).toNatClampNeg then
                        (zm 175 0 [some (.inr (.inr (some 91)))] [] d).bind fun q => zm 171 64 [some (.inr (.inr (some 91))), some (.inl x1)] (q.1.toList ++ []) q.2
                      else
                        (zm 174 0 [some (.inr (.inr (some 91))), none, none, none, none] [] d).bind fun q => zm 171 61 [some (.inr (.inr (some 91))), some (.inl x1)] (q.1.toList ++ []) q.2) none) none
              else
                (zm 175 0 [some (.inr (.inr (some 91)))] [] d).bind fun q => zm 171 64 [some (.inr (.inr (some 91))), some (.inl x1)] (q.1.toList ++ []) q.2) none) none
    else
      if d.1 91 8 < d.1 91 4 then
        cond (mx_in (d.1 91 8) 96) (
          if d.1 94 (d.1 91 8).toNatClampNeg < 48 then
            some (none, (zd_u d 91 9 3))
          else
            cond (mx_in (d.1 91 8) 96) (
              if 57 < d.1 94 (d.1 91 8).toNatClampNeg then
                some (none, (zd_u d 91 9 3))
              else
                if d.1 91 8 < d.1 91 4 then
                  cond (mx_in (d.1 91 8) 96) (
                    if d.1 94 (d.1 91 8).toNatClampNeg < 97 then
                      (zm 175 0 [some (.inr (.inr (some 91)))] [] d).bind fun q => zm 171 64 [some (.inr (.inr (some 91))), some (.inl x1)] (q.1.toList ++ []) q.2
                    else
                      cond (mx_in (d.1 91 8) 96) (
                        if 122 < d.1 94 (d.1 91 8).toNatClampNeg then
                          (zm 175 0 [some (.inr (.inr (some 91)))] [] d).bind fun q => zm 171 64 [some (.inr (.inr (some 91))), some (.inl x1)] (q.1.toList ++ []) q.2
                        else
                          (zm 174 0 [some (.inr (.inr (some 91))), none, none, none, none] [] d).bind fun q => zm 171 61 [some (.inr (.inr (some 91))), some (.inl x1)] (q.1.toList ++ []) q.2) none) none
                else
                  (zm 175 0 [some (.inr (.inr (some 91)))] [] d).bind fun q => zm 171 64 [some (.inr (.inr (some 91))), some (.inl x1)] (q.1.toList ++ []) q.2) none) none
      else
        some (none, (zd_u d 91 9 3)) := zm_di 600 rfl
/- TickBoundModel.go -/
theorem em_171_61 (x1 : Int32) (d : zd_D) : zm 171 61 [some (.inr (.inr (some 91))), some (.inl x1)] [] d =
  if x1 = 0 then
    some (none, (zd_u (zd_u d 91 9 (d.1 91 9)) 91 11 (d.1 91 7)))
  else
    some (none, (zd_u (zd_u d 91 9 3) 91 11 (d.1 91 7))) := zm_di 600 rfl
/- TickBoundModel.go -/
theorem em_171_64 (x1 : Int32) (d : zd_D) : zm 171 64 [some (.inr (.inr (some 91))), some (.inl x1)] [] d =
  if x1 = 0 then
    some (none, (zd_u (zd_u d 91 9 (d.1 91 9)) 91 11 (d.1 91 7)))
  else
    some (none, (zd_u (zd_u d 91 9 3) 91 11 (d.1 91 7))) := zm_di 600 rfl
/- TickBoundModel.readLetters -/
theorem em_174_0 (d : zd_D) : zm 174 0 [some (.inr (.inr (some 91))), none, none, none, none] [] d =
  zm 174 1 [some (.inr (.inr (some 91))), none, none, none, none] [] d := zm_di 600 rfl
/- TickBoundModel.readLetters -/
theorem em_174_1 (d : zd_D) : zm 174 1 [some (.inr (.inr (some 91))), none, none, none, none] [] d =
  if d.1 91 7 < d.1 91 4 then
    cond (mx_in (d.1 91 7) 96) (
      if d.1 94 (d.1 91 7).toNatClampNeg < 97 then
        zm 174 19 [some (.inr (.inr (some 91))), some (.inl 0), none, none, none] [] (zd_u d 91 9 3)
      else
        cond (mx_in (d.1 91 7) 96) (
          if 122 < d.1 94 (d.1 91 7).toNatClampNeg then
            zm 174 19 [some (.inr (.inr (some 91))), some (.inl 0), none, none, none] [] (zd_u d 91 9 3)
          else
            zm 174 1 [some (.inr (.inr (some 91))), none, none, none, none] [] (zd_u d 91 7 ((d.1 91 7) + 1))) none) none
  else
    zm 174 19 [some (.inr (.inr (some 91))), some (.inl 0), none, none, none] [] (zd_u d 91 9 3) := zm_di 600 rfl
/- TickBoundModel.readLetters -/
theorem em_174_19 (x1 : Int32) (d : zd_D) : zm 174 19 [some (.inr (.inr (some 91))), some (.inl x1), none, none, none] [] d =
  if x1 < 14 then
    cond (mx_in (x1 + 1) 15) (
      cond (mx_in x1 15) (
        if (d.1 96 (x1 + 1).toNatClampNeg) - (d.1 96 x1.toNatClampNeg) = (d.1 91 7) - (d.1 91 8) then
          zm 174 48 [some (.inr (.inr (some 91))), some (.inl x1), some (.inl ((d.1 96 (x1 + 1).toNatClampNeg) - (d.1 96 x1.toNatClampNeg))), some (.inl 1), some (.inl 0)] [] d
        else
          zm 174 48 [some (.inr (.inr (some 91))), some (.inl x1), some (.inl ((d.1 96 (x1 + 1).toNatClampNeg) - (d.1 96 x1.toNatClampNeg))), some (.inl 0), some (.inl 0)] [] d) none) none
  else
    some (none, d) := zm_di 600 rfl
/- TickBoundModel.readLetters -/
theorem em_174_48 (x1 x2 x3 x4 : Int32) (d : zd_D) : zm 174 48 [some (.inr (.inr (some 91))), some (.inl x1), some (.inl x2), some (.inl x3), some (.inl x4)] [] d =
  if x4 < x2 then
    if x3 = 0 then
      if x3 = 0 then
        zm 174 19 [some (.inr (.inr (some 91))), some (.inl (x1 + 1)), none, none, none] [] d
      else
        zm 174 19 [some (.inr (.inr (some 91))), some (.inl (x1 + 1)), none, none, none] [] (zd_u (zd_u d 91 9 1) 91 10 x1)
    else
      cond (mx_in ((d.1 91 8) + x4) 96) (
        cond (mx_in x1 15) (
          cond (mx_in ((d.1 96 x1.toNatClampNeg) + x4) 61) (
            if d.1 94 ((d.1 91 8) + x4).toNatClampNeg = d.1 95 ((d.1 96 x1.toNatClampNeg) + x4).toNatClampNeg then
              zm 174 48 [some (.inr (.inr (some 91))), some (.inl x1), some (.inl x2), some (.inl 1), some (.inl (x4 + 1))] [] d
            else
              zm 174 48 [some (.inr (.inr (some 91))), some (.inl x1), some (.inl x2), some (.inl 0), some (.inl (x4 + 1))] [] d) none) none) none
  else
    if x3 = 0 then
      zm 174 19 [some (.inr (.inr (some 91))), some (.inl (x1 + 1)), none, none, none] [] d
    else
      zm 174 19 [some (.inr (.inr (some 91))), some (.inl (x1 + 1)), none, none, none] [] (zd_u (zd_u d 91 9 1) 91 10 x1) := zm_di 600 rfl
/- TickBoundModel.readFigures -/
theorem em_175_0 (d : zd_D) : zm 175 0 [some (.inr (.inr (some 91)))] [] d =
  zm 175 4 [some (.inr (.inr (some 91)))] [] (zd_u d 91 10 0) := zm_di 600 rfl
/- TickBoundModel.readFigures -/
theorem em_175_4 (d : zd_D) : zm 175 4 [some (.inr (.inr (some 91)))] [] d =
  if d.1 91 7 < d.1 91 4 then
    cond (mx_in (d.1 91 7) 96) (
      if d.1 94 (d.1 91 7).toNatClampNeg < 48 then
        if 3 < (d.1 91 7) - (d.1 91 8) then
          some (none, (zd_u d 91 9 3))
        else
          some (none, (zd_u d 91 9 2))
      else
        cond (mx_in (d.1 91 7) 96) (
          if 57 < d.1 94 (d.1 91 7).toNatClampNeg then
            if 3 < (d.1 91 7) - (d.1 91 8) then
              some (none, (zd_u d 91 9 3))
            else
              some (none, (zd_u d 91 9 2))
          else
            if (d.1 91 7) - (d.1 91 8) < 3 then
              cond (mx_in (d.1 91 7) 96) (
                zm 175 4 [some (.inr (.inr (some 91)))] [] (zd_u (zd_u d 91 10 (((10 * (d.1 91 10)) + (d.1 94 (d.1 91 7).toNatClampNeg)) - 48)) 91 7 ((d.1 91 7) + 1))) none
            else
              zm 175 4 [some (.inr (.inr (some 91)))] [] (zd_u (zd_u d 91 10 (d.1 91 10)) 91 7 ((d.1 91 7) + 1))) none) none
  else
    if 3 < (d.1 91 7) - (d.1 91 8) then
      some (none, (zd_u d 91 9 3))
    else
      some (none, (zd_u d 91 9 2)) := zm_di 600 rfl
/- TickBoundModel.takesPart -/
theorem em_176_0 (d : zd_D) : zm 176 0 [some (.inr (.inr (some 91))), none, none] [] d =
  if d.1 91 9 = 1 then
    if 7 < d.1 91 10 then
      some (some (.inl 0), d)
    else
      cond (mx_in (d.1 91 10) 8) (
        if d.1 97 (d.1 91 10).toNatClampNeg < 0 then
          (zm 171 0 [some (.inr (.inr (some 91))), none] [] d).bind fun q => zm 176 21 [some (.inr (.inr (some 91))), some (.inl (d.1 91 10)), none] (q.1.toList ++ []) q.2
        else
          some (some (.inl 0), d)) none
  else
    some (some (.inl 0), d) := zm_di 600 rfl
/- TickBoundModel.takesPart -/
theorem em_176_21 (x1 : Int32) (d : zd_D) : zm 176 21 [some (.inr (.inr (some 91))), some (.inl x1), none] [] d =
  if x1 = 2 then
    if x1 = 2 then
      if d.1 91 9 = 1 then
        if d.1 91 10 < 8 then
          some (some (.inl 0), d)
        else
          if 8 + 2 < d.1 91 10 then
            some (some (.inl 0), d)
          else
            cond (mx_in x1 8) (
              (zm 171 0 [some (.inr (.inr (some 91))), none] [] (zd_u (zd_u d 97 x1.toNatClampNeg ((d.1 91 10) - 8)) 91 13 ((d.1 91 13) + 1))).bind fun q => zm 176 90 [some (.inr (.inr (some 91))), some (.inl x1), some (.inl 8)] (q.1.toList ++ []) q.2) none
      else
        some (some (.inl 0), d)
    else
      if d.1 91 9 = 1 then
        if d.1 91 10 < 11 then
          some (some (.inl 0), d)
        else
          if 11 + 2 < d.1 91 10 then
            some (some (.inl 0), d)
          else
            cond (mx_in x1 8) (
              (zm 171 0 [some (.inr (.inr (some 91))), none] [] (zd_u (zd_u d 97 x1.toNatClampNeg ((d.1 91 10) - 11)) 91 13 ((d.1 91 13) + 1))).bind fun q => zm 176 90 [some (.inr (.inr (some 91))), some (.inl x1), some (.inl 11)] (q.1.toList ++ []) q.2) none
      else
        some (some (.inl 0), d)
  else
    if x1 = 5 then
      if x1 = 2 then
        if d.1 91 9 = 1 then
          if d.1 91 10 < 8 then
            some (some (.inl 0), d)
          else
            if 8 + 2 < d.1 91 10 then
              some (some (.inl 0), d)
            else
              cond (mx_in x1 8) (
                (zm 171 0 [some (.inr (.inr (some 91))), none] [] (zd_u (zd_u d 97 x1.toNatClampNeg ((d.1 91 10) - 8)) 91 13 ((d.1 91 13) + 1))).bind fun q => zm 176 90 [some (.inr (.inr (some 91))), some (.inl x1), some (.inl 8)] (q.1.toList ++ []) q.2) none
        else
          some (some (.inl 0), d)
      else
        if d.1 91 9 = 1 then
          if d.1 91 10 < 11 then
            some (some (.inl 0), d)
          else
            if 11 + 2 < d.1 91 10 then
              some (some (.inl 0), d)
            else
              cond (mx_in x1 8) (
                (zm 171 0 [some (.inr (.inr (some 91))), none] [] (zd_u (zd_u d 97 x1.toNatClampNeg ((d.1 91 10) - 11)) 91 13 ((d.1 91 13) + 1))).bind fun q => zm 176 90 [some (.inr (.inr (some 91))), some (.inl x1), some (.inl 11)] (q.1.toList ++ []) q.2) none
        else
          some (some (.inl 0), d)
    else
      if d.1 91 9 = 2 then
        cond (mx_in x1 8) (
          if d.1 91 14 = 0 then
            (zm 177 0 [some (.inl x1), some (.inl (d.1 91 10))] [] (zd_u d 97 x1.toNatClampNeg (d.1 91 10))).bind fun q => zm 176 77 [some (.inr (.inr (some 91))), some (.inl x1), none] (q.1.toList ++ [(.inr (.inr (some 91)))]) q.2
          else
            (zm 171 0 [some (.inr (.inr (some 91))), none] [] (zd_u (zd_u (zd_u d 97 x1.toNatClampNeg (d.1 91 10)) 91 14 1) 91 13 ((d.1 91 13) + 1))).bind fun q => zm 176 90 [some (.inr (.inr (some 91))), some (.inl x1), none] (q.1.toList ++ []) q.2) none
      else
        some (some (.inl 0), d) := zm_di 600 rfl
/- TickBoundModel.takesPart -/
theorem em_176_77 (x1 y1 : Int32) (d : zd_D) : zm 176 77 [some (.inr (.inr (some 91))), some (.inl x1), none] [(.inl y1), (.inr (.inr (some 91)))] d =
  if y1 = 0 then
    (zm 171 0 [some (.inr (.inr (some 91))), none] [] (zd_u (zd_u d 91 14 1) 91 13 ((d.1 91 13) + 1))).bind fun q => zm 176 90 [some (.inr (.inr (some 91))), some (.inl x1), none] (q.1.toList ++ []) q.2
  else
    (zm 171 0 [some (.inr (.inr (some 91))), none] [] (zd_u (zd_u d 91 14 0) 91 13 ((d.1 91 13) + 1))).bind fun q => zm 176 90 [some (.inr (.inr (some 91))), some (.inl x1), none] (q.1.toList ++ []) q.2 := zm_di 600 rfl
/- TickBoundModel.takesPart -/
theorem em_176_90 (x1 x2 : Int32) (d : zd_D) : zm 176 90 [some (.inr (.inr (some 91))), some (.inl x1), some (.inl x2)] [] d =
  some (some (.inl 1), d) := zm_di 600 rfl
/- TickBoundModel.takesPart -/
theorem em_176_90a (x1 : Int32) (d : zd_D) : zm 176 90 [some (.inr (.inr (some 91))), some (.inl x1), none] [] d =
  some (some (.inl 1), d) := zm_di 600 rfl
/- TickBoundModel.isPart -/
theorem em_177_0 (x0 x1 : Int32) (d : zd_D) : zm 177 0 [some (.inl x0), some (.inl x1)] [] d =
  if x0 < 2 then
    if x1 = 1 then
      some (some (.inl 1), d)
    else
      if x1 = 2 then
        some (some (.inl 1), d)
      else
        if x1 = 4 then
          some (some (.inl 1), d)
        else
          some (some (.inl 0), d)
  else
    if x0 = 3 then
      if x1 < 0 then
        some (some (.inl 0), d)
      else
        if 99 < x1 then
          some (some (.inl 0), d)
        else
          some (some (.inl 1), d)
    else
      if x1 < 0 then
        some (some (.inl 0), d)
      else
        if 9 < x1 then
          some (some (.inl 0), d)
        else
          some (some (.inl 1), d) := zm_di 600 rfl
/- TickBoundModel.is -/
theorem em_178_0 (x1 : Int32) (d : zd_D) : zm 178 0 [some (.inr (.inr (some 91))), some (.inl x1)] [] d =
  if x1 < 0 then
    if x1 = 8 then
      (zm 179 0 [some (.inr (.inr (some 91)))] [] d).bind fun q => zm 178 15 [some (.inr (.inr (some 91))), some (.inl x1)] (q.1.toList ++ []) q.2
    else
      some (some (.inl (-1000000001)), d)
  else
    if 7 < x1 then
      if x1 = 8 then
        (zm 179 0 [some (.inr (.inr (some 91)))] [] d).bind fun q => zm 178 15 [some (.inr (.inr (some 91))), some (.inl x1)] (q.1.toList ++ []) q.2
      else
        some (some (.inl (-1000000001)), d)
    else
      cond (mx_in x1 1020) (
        some (some (.inl (d.1 92 x1.toNatClampNeg)), d)) none := zm_di 600 rfl
/- TickBoundModel.is -/
theorem em_178_15 (x1 y0 : Int32) (d : zd_D) : zm 178 15 [some (.inr (.inr (some 91))), some (.inl x1)] [(.inl y0)] d =
  some (some (.inl y0), d) := zm_di 600 rfl
/- TickBoundModel.remembers -/
theorem em_179_0 (d : zd_D) : zm 179 0 [some (.inr (.inr (some 91)))] [] d =
  if d.1 92 2 = 0 then
    some (some (.inl (d.1 92 1)), d)
  else
    if d.1 92 2 = 1 then
      some (some (.inl 1), d)
    else
      if d.1 92 1 = 4 then
        some (some (.inl 3), d)
      else
        some (some (.inl (d.1 92 1)), d) := zm_di 600 rfl
/- TickBoundModel.memory -/
theorem em_180_0 (x1 x2 : Int32) (d : zd_D) : zm 180 0 [some (.inr (.inr (some 91))), some (.inl x1), some (.inl x2), none] [] d =
  if x1 < 0 then
    some (some (.inl (-1000000001)), d)
  else
    if 31 < x1 then
      some (some (.inl (-1000000001)), d)
    else
      cond (mx_in (152 + x1) 1020) (
        cond (mx_in (152 + x1) 1020) (
          some (some (.inl (d.1 92 (152 + x1).toNatClampNeg)), (zd_u d 92 (152 + x1).toNatClampNeg x2))) none) none := zm_di 600 rfl
/- TickBoundModel.lock -/
theorem em_181_0 (x1 x2 : Int32) (d : zd_D) : zm 181 0 [some (.inr (.inr (some 91))), some (.inl x1), some (.inl x2), none] [] d =
  if x1 < 0 then
    some (some (.inl (-1000000001)), d)
  else
    if 15 < x1 then
      some (some (.inl (-1000000001)), d)
    else
      if x2 < 0 then
        some (some (.inl (-1000000001)), d)
      else
        if 1 < x2 then
          some (some (.inl (-1000000001)), d)
        else
          if x2 = 1 then
            some (some (.inl (((d.1 92 9) >>> (x1 &&& 31)) &&& 1)), (zd_u d 92 9 ((d.1 92 9) ||| (1 <<< (x1 &&& 31)))))
          else
            some (some (.inl (((d.1 92 9) >>> (x1 &&& 31)) &&& 1)), (zd_u d 92 9 ((d.1 92 9) &&& ((1 <<< (x1 &&& 31)) ^^^ (-1))))) := zm_di 600 rfl
/- TickBoundModel.order -/
theorem em_182_0 (x1 x2 x3 x4 : Int32) (d : zd_D) : zm 182 0 [some (.inr (.inr (some 91))), some (.inl x1), some (.inl x2), some (.inl x3), some (.inl x4), none] [] d =
  (zm 183 0 [some (.inl x1), some (.inl x2), some (.inl x3), some (.inl x4)] [] d).bind fun q => zm 182 5 [some (.inr (.inr (some 91))), some (.inl x1), some (.inl x2), some (.inl x3), some (.inl x4), none] (q.1.toList ++ []) q.2 := zm_di 600 rfl
/- TickBoundModel.order -/
theorem em_182_5 (x1 x2 x3 x4 y0 : Int32) (d : zd_D) : zm 182 5 [some (.inr (.inr (some 91))), some (.inl x1), some (.inl x2), some (.inl x3), some (.inl x4), none] [(.inl y0)] d =
  if y0 = 0 then
    some (some (.inl (-1000000001)), d)
  else
    if d.1 92 8 = 28 then
      some (some (.inl (-1000000003)), d)
    else
      cond (mx_in (12 + (4 * (d.1 92 8))) 1020) (
        cond (mx_in ((12 + (4 * (d.1 92 8))) + 1) 1020) (
          cond (mx_in ((12 + (4 * (d.1 92 8))) + 2) 1020) (
            cond (mx_in ((12 + (4 * (d.1 92 8))) + 3) 1020) (
              cond (mx_in (124 + (d.1 92 8)) 1020) (
                (zm 186 0 [some (.inr (.inr (some 91))), none] [] (zd_u (zd_u (zd_u (zd_u (zd_u (zd_u d 92 (12 + (4 * (d.1 92 8))).toNatClampNeg x1) 92 ((12 + (4 * (d.1 92 8))) + 1).toNatClampNeg x2) 92 ((12 + (4 * (d.1 92 8))) + 2).toNatClampNeg x3) 92 ((12 + (4 * (d.1 92 8))) + 3).toNatClampNeg x4) 92 (124 + (d.1 92 8)).toNatClampNeg 0) 92 8 (((zd_u (zd_u (zd_u (zd_u (zd_u d 92 (12 + (4 * (d.1 92 8))).toNatClampNeg x1) 92 ((12 + (4 * (d.1 92 8))) + 1).toNatClampNeg x2) 92 ((12 + (4 * (d.1 92 8))) + 2).toNatClampNeg x3) 92 ((12 + (4 * (d.1 92 8))) + 3).toNatClampNeg x4) 92 (124 + (d.1 92 8)).toNatClampNeg 0).1 92 8) + 1))).bind fun q => zm 182 80 [some (.inr (.inr (some 91))), some (.inl x1), some (.inl x2), some (.inl x3), some (.inl x4), some (.inl (d.1 92 8))] (q.1.toList ++ []) q.2) none) none) none) none) none := zm_di 600 rfl
/- TickBoundModel.order -/
theorem em_182_80 (x1 x2 x3 x4 x5 : Int32) (d : zd_D) : zm 182 80 [some (.inr (.inr (some 91))), some (.inl x1), some (.inl x2), some (.inl x3), some (.inl x4), some (.inl x5)] [] d =
  some (some (.inl x5), d) := zm_di 600 rfl
/- TickBoundModel.isGood -/
theorem em_183_0 (x0 x1 x2 x3 : Int32) (d : zd_D) : zm 183 0 [some (.inl x0), some (.inl x1), some (.inl x2), some (.inl x3)] [] d =
  if x1 < 0 then
    some (some (.inl 0), d)
  else
    if 3 < x1 then
      some (some (.inl 0), d)
    else
      if x0 = 0 then
        if x2 < 0 then
          some (some (.inl 0), d)
        else
          if 3 < x2 then
            some (some (.inl 0), d)
          else
            if x3 < (-999) then
              some (some (.inl 0), d)
            else
              if 999 < x3 then
                some (some (.inl 0), d)
              else
                some (some (.inl 1), d)
      else
        if x0 = 1 then
          if x2 < 0 then
            if x2 = 4 then
              if x3 < 0 then
                some (some (.inl 0), d)
              else
                if 31 < x3 then
                  some (some (.inl 0), d)
                else
                  some (some (.inl 1), d)
            else
              some (some (.inl 0), d)
          else
            if 3 < x2 then
              if x2 = 4 then
                if x3 < 0 then
                  some (some (.inl 0), d)
                else
                  if 31 < x3 then
                    some (some (.inl 0), d)
                  else
                    some (some (.inl 1), d)
              else
                some (some (.inl 0), d)
            else
              if x3 < (-999) then
                if x2 = 4 then
                  if x3 < 0 then
                    some (some (.inl 0), d)
                  else
                    if 31 < x3 then
                      some (some (.inl 0), d)
                    else
                      some (some (.inl 1), d)
                else
                  some (some (.inl 0), d)
              else
                if 999 < x3 then
                  if x2 = 4 then
                    if x3 < 0 then
                      some (some (.inl 0), d)
                    else
                      if 31 < x3 then
                        some (some (.inl 0), d)
                      else
                        some (some (.inl 1), d)
                  else
                    some (some (.inl 0), d)
                else
                  some (some (.inl 1), d)
        else
          if x0 = 2 then
            if x2 < 0 then
              if x2 = 4 then
                if x3 < 0 then
                  some (some (.inl 0), d)
                else
                  if 31 < x3 then
                    some (some (.inl 0), d)
                  else
                    some (some (.inl 1), d)
              else
                some (some (.inl 0), d)
            else
              if 3 < x2 then
                if x2 = 4 then
                  if x3 < 0 then
                    some (some (.inl 0), d)
                  else
                    if 31 < x3 then
                      some (some (.inl 0), d)
                    else
                      some (some (.inl 1), d)
                else
                  some (some (.inl 0), d)
              else
                if x3 < (-999) then
                  if x2 = 4 then
                    if x3 < 0 then
                      some (some (.inl 0), d)
                    else
                      if 31 < x3 then
                        some (some (.inl 0), d)
                      else
                        some (some (.inl 1), d)
                  else
                    some (some (.inl 0), d)
                else
                  if 999 < x3 then
                    if x2 = 4 then
                      if x3 < 0 then
                        some (some (.inl 0), d)
                      else
                        if 31 < x3 then
                          some (some (.inl 0), d)
                        else
                          some (some (.inl 1), d)
                    else
                      some (some (.inl 0), d)
                  else
                    some (some (.inl 1), d)
          else
            if x0 = 3 then
              if x2 < 0 then
                some (some (.inl 0), d)
              else
                if 28 < x2 then
                  some (some (.inl 0), d)
                else
                  if x3 < (-999) then
                    some (some (.inl 0), d)
                  else
                    if 999 < x3 then
                      some (some (.inl 0), d)
                    else
                      some (some (.inl 1), d)
            else
              if x0 = 4 then
                if x2 < 0 then
                  some (some (.inl 0), d)
                else
                  if 28 < x2 then
                    some (some (.inl 0), d)
                  else
                    if x3 = 0 then
                      some (some (.inl 1), d)
                    else
                      some (some (.inl 0), d)
              else
                if x0 = 5 then
                  if x2 < 0 then
                    some (some (.inl 0), d)
                  else
                    if 3 < x2 then
                      some (some (.inl 0), d)
                    else
                      if x3 < 0 then
                        some (some (.inl 0), d)
                      else
                        if 3 < x3 then
                          some (some (.inl 0), d)
                        else
                          some (some (.inl 1), d)
                else
                  if x0 = 6 then
                    if x2 < 0 then
                      some (some (.inl 0), d)
                    else
                      if 3 < x2 then
                        some (some (.inl 0), d)
                      else
                        if x3 < 0 then
                          some (some (.inl 0), d)
                        else
                          if 3 < x3 then
                            some (some (.inl 0), d)
                          else
                            some (some (.inl 1), d)
                  else
                    if x0 = 7 then
                      if x2 = 0 then
                        if x3 = 0 then
                          some (some (.inl 1), d)
                        else
                          some (some (.inl 0), d)
                      else
                        some (some (.inl 0), d)
                    else
                      some (some (.inl 0), d) := zm_di 600 rfl
/- TickBoundModel.forgets -/
theorem em_186_0 (d : zd_D) : zm 186 0 [some (.inr (.inr (some 91))), none] [] d =
  zm 186 3 [some (.inr (.inr (some 91))), some (.inl 0)] [] d := zm_di 600 rfl
/- TickBoundModel.forgets -/
theorem em_186_3 (x1 : Int32) (d : zd_D) : zm 186 3 [some (.inr (.inr (some 91))), some (.inl x1)] [] d =
  if x1 < 820 then
    cond (mx_in (200 + x1) 1020) (
      zm 186 3 [some (.inr (.inr (some 91))), some (.inl (x1 + 1))] [] (zd_u d 92 (200 + x1).toNatClampNeg 0)) none
  else
    some (none, (zd_u d 91 19 0)) := zm_di 600 rfl
/- TickBoundModel.clear -/
theorem em_187_0 (d : zd_D) : zm 187 0 [some (.inr (.inr (some 91))), none] [] d =
  (zm 186 0 [some (.inr (.inr (some 91))), none] [] (zd_u d 92 8 0)).bind fun q => zm 187 12 [some (.inr (.inr (some 91))), some (.inl (d.1 92 8))] (q.1.toList ++ []) q.2 := zm_di 600 rfl
/- TickBoundModel.clear -/
theorem em_187_12 (x1 : Int32) (d : zd_D) : zm 187 12 [some (.inr (.inr (some 91))), some (.inl x1)] [] d =
  some (some (.inl x1), d) := zm_di 600 rfl
/- TickBoundModel.told -/
theorem em_188_0 (x1 x2 : Int32) (d : zd_D) : zm 188 0 [some (.inr (.inr (some 91))), some (.inl x1), some (.inl x2)] [] d =
  if x1 < 0 then
    some (some (.inl (-1000000001)), d)
  else
    if (d.1 92 8) - 1 < x1 then
      some (some (.inl (-1000000001)), d)
    else
      if x2 < 0 then
        some (some (.inl (-1000000001)), d)
      else
        if 7 < x2 then
          some (some (.inl (-1000000001)), d)
        else
          if x2 < 4 then
            cond (mx_in ((12 + (4 * x1)) + x2) 1020) (
              some (some (.inl (d.1 92 ((12 + (4 * x1)) + x2).toNatClampNeg)), d)) none
          else
            if x2 = 4 then
              cond (mx_in (124 + x1) 1020) (
                some (some (.inl (d.1 92 (124 + x1).toNatClampNeg)), d)) none
            else
              (zm 190 0 [some (.inr (.inr (some 91))), none] [] d).bind fun q => zm 188 37 [some (.inr (.inr (some 91))), some (.inl x1), some (.inl x2)] (q.1.toList ++ []) q.2 := zm_di 600 rfl
/- TickBoundModel.told -/
theorem em_188_37 (x1 x2 : Int32) (d : zd_D) : zm 188 37 [some (.inr (.inr (some 91))), some (.inl x1), some (.inl x2)] [] d =
  if x2 = 5 then
    cond (mx_in (x1 + 1) 30) (
      cond (mx_in x1 30) (
        some (some (.inl ((d.1 100 (x1 + 1).toNatClampNeg) - (d.1 100 x1.toNatClampNeg))), d)) none) none
  else
    if x2 = 6 then
      (zm 206 0 [some (.inr (.inr (some 91))), some (.inl x1)] [] d).bind fun q => zm 188 58 [some (.inr (.inr (some 91))), some (.inl x1), some (.inl x2)] (q.1.toList ++ []) q.2
    else
      cond (mx_in (12 + (4 * x1)) 1020) (
        if d.1 92 (12 + (4 * x1)).toNatClampNeg = 1 then
          cond (mx_in x1 28) (
            some (some (.inl (d.1 115 x1.toNatClampNeg)), d)) none
        else
          if d.1 92 (12 + (4 * x1)).toNatClampNeg = 2 then
            cond (mx_in x1 28) (
              some (some (.inl (d.1 115 x1.toNatClampNeg)), d)) none
          else
            some (some (.inl (-1000000005)), d)) none := zm_di 600 rfl
/- TickBoundModel.told -/
theorem em_188_58 (x1 x2 y0 : Int32) (d : zd_D) : zm 188 58 [some (.inr (.inr (some 91))), some (.inl x1), some (.inl x2)] [(.inl y0)] d =
  some (some (.inl y0), d) := zm_di 600 rfl
/- TickBoundModel.findAll -/
theorem em_190_0 (d : zd_D) : zm 190 0 [some (.inr (.inr (some 91))), none] [] d =
  (zm 191 0 [some (.inr (.inr (some 91))), none, none] [] d).bind fun q => zm 190 2 [some (.inr (.inr (some 91))), none] (q.1.toList ++ []) q.2 := zm_di 600 rfl
/- TickBoundModel.findAll -/
theorem em_190_2 (d : zd_D) : zm 190 2 [some (.inr (.inr (some 91))), none] [] d =
  (zm 195 0 [some (.inr (.inr (some 91))), none, none] [] d).bind fun q => zm 190 4 [some (.inr (.inr (some 91))), none] (q.1.toList ++ []) q.2 := zm_di 600 rfl
/- TickBoundModel.findAll -/
theorem em_190_4 (d : zd_D) : zm 190 4 [some (.inr (.inr (some 91))), none] [] d =
  (zm 203 0 [some (.inr (.inr (some 91))), none, none, none] [] d).bind fun q => zm 190 6 [some (.inr (.inr (some 91))), none] (q.1.toList ++ []) q.2 := zm_di 600 rfl
/- TickBoundModel.findAll -/
theorem em_190_6 (d : zd_D) : zm 190 6 [some (.inr (.inr (some 91))), none] [] d =
  zm 190 9 [some (.inr (.inr (some 91))), some (.inl 0)] [] d := zm_di 600 rfl
/- TickBoundModel.findAll -/
theorem em_190_9 (x1 : Int32) (d : zd_D) : zm 190 9 [some (.inr (.inr (some 91))), some (.inl x1)] [] d =
  if x1 < d.1 92 8 then
    (zm 205 0 [some (.inr (.inr (some 91))), some (.inl x1), none] [] d).bind fun q => zm 190 21 [some (.inr (.inr (some 91))), some (.inl x1)] (q.1.toList ++ [(.inl x1), (.inr (.inr (some 115)))]) q.2
  else
    some (none, d) := zm_di 600 rfl
/- TickBoundModel.findAll -/
theorem em_190_21 (x1 y1 y2 : Int32) (d : zd_D) : zm 190 21 [some (.inr (.inr (some 91))), some (.inl x1)] [(.inl y2), (.inl y1), (.inr (.inr (some 115)))] d =
  cond (mx_in y1 28) (
    zm 190 9 [some (.inr (.inr (some 91))), some (.inl (x1 + 1))] [] (zd_u d 115 y1.toNatClampNeg y2)) none := zm_di 600 rfl
/- TickBoundModel.findEdges -/
theorem em_191_0 (d : zd_D) : zm 191 0 [some (.inr (.inr (some 91))), none, none] [] d =
  zm 191 6 [some (.inr (.inr (some 91))), some (.inl 0), none] [] (zd_u d 91 15 0) := zm_di 600 rfl
/- TickBoundModel.findEdges -/
theorem em_191_6 (x1 : Int32) (d : zd_D) : zm 191 6 [some (.inr (.inr (some 91))), some (.inl x1), none] [] d =
  if x1 < d.1 92 8 then
    cond (mx_in x1 30) (
      zm 191 21 [some (.inr (.inr (some 91))), some (.inl x1), some (.inl 0)] [] (zd_u d 100 x1.toNatClampNeg (d.1 91 15))) none
  else
    cond (mx_in (d.1 92 8) 30) (
      some (none, (zd_u d 100 (d.1 92 8).toNatClampNeg (d.1 91 15)))) none := zm_di 600 rfl
/- TickBoundModel.findEdges -/
theorem em_191_21 (x1 x2 : Int32) (d : zd_D) : zm 191 21 [some (.inr (.inr (some 91))), some (.inl x1), some (.inl x2)] [] d =
  if d.1 92 8 < x2 then
    zm 191 6 [some (.inr (.inr (some 91))), some (.inl (x1 + 1)), none] [] d
  else
    (zm 192 0 [some (.inr (.inr (some 91))), some (.inl x1), some (.inl x2), none, none, none] [] d).bind fun q => zm 191 31 [some (.inr (.inr (some 91))), some (.inl x1), some (.inl x2)] (q.1.toList ++ []) q.2 := zm_di 600 rfl
/- TickBoundModel.findEdges -/
theorem em_191_31 (x1 x2 y0 : Int32) (d : zd_D) : zm 191 31 [some (.inr (.inr (some 91))), some (.inl x1), some (.inl x2)] [(.inl y0)] d =
  if y0 = 0 then
    zm 191 21 [some (.inr (.inr (some 91))), some (.inl x1), some (.inl (x2 + 1))] [] d
  else
    cond (mx_in (d.1 91 15) 820) (
      cond (mx_in (d.1 91 15) 820) (
        zm 191 21 [some (.inr (.inr (some 91))), some (.inl x1), some (.inl (x2 + 1))] [] (zd_u (zd_u (zd_u d 98 (d.1 91 15).toNatClampNeg x1) 99 (d.1 91 15).toNatClampNeg x2) 91 15 ((d.1 91 15) + 1))) none) none := zm_di 600 rfl
/- TickBoundModel.leads -/
theorem em_192_0 (x1 x2 : Int32) (d : zd_D) : zm 192 0 [some (.inr (.inr (some 91))), some (.inl x1), some (.inl x2), none, none, none] [] d =
  cond (mx_in (12 + (4 * x1)) 1020) (
    cond (mx_in ((12 + (4 * x1)) + 2) 1020) (
      if d.1 92 8 < d.1 92 ((12 + (4 * x1)) + 2).toNatClampNeg then
        if d.1 92 (12 + (4 * x1)).toNatClampNeg = 3 then
          if x2 = d.1 92 8 then
            some (some (.inl 1), d)
          else
            if x2 = x1 + 1 then
              some (some (.inl 1), d)
            else
              some (some (.inl 0), d)
        else
          if d.1 92 (12 + (4 * x1)).toNatClampNeg = 4 then
            if x2 = d.1 92 8 then
              some (some (.inl 1), d)
            else
              some (some (.inl 0), d)
          else
            if d.1 92 (12 + (4 * x1)).toNatClampNeg = 5 then
              if x2 = x1 + 1 then
                some (some (.inl 1), d)
              else
                some (some (.inl 0), d)
            else
              if d.1 92 (12 + (4 * x1)).toNatClampNeg = 6 then
                if x2 = x1 + 1 then
                  some (some (.inl 1), d)
                else
                  some (some (.inl 0), d)
              else
                if d.1 92 (12 + (4 * x1)).toNatClampNeg = 7 then
                  if x2 < d.1 92 8 then
                    cond (mx_in (124 + x1) 1020) (
                      if ((d.1 92 (124 + x1).toNatClampNeg) >>> (x2 &&& 31)) &&& 1 = 1 then
                        some (some (.inl 1), d)
                      else
                        some (some (.inl 0), d)) none
                  else
                    cond (mx_in (124 + x1) 1020) (
                      if (d.1 92 (124 + x1).toNatClampNeg) >>> ((d.1 92 8) &&& 31) = 0 then
                        some (some (.inl 0), d)
                      else
                        some (some (.inl 1), d)) none
                else
                  if x2 = x1 + 1 then
                    some (some (.inl 1), d)
                  else
                    some (some (.inl 0), d)
      else
        cond (mx_in ((12 + (4 * x1)) + 2) 1020) (
          if d.1 92 (12 + (4 * x1)).toNatClampNeg = 3 then
            if x2 = d.1 92 ((12 + (4 * x1)) + 2).toNatClampNeg then
              some (some (.inl 1), d)
            else
              if x2 = x1 + 1 then
                some (some (.inl 1), d)
              else
                some (some (.inl 0), d)
          else
            if d.1 92 (12 + (4 * x1)).toNatClampNeg = 4 then
              if x2 = d.1 92 ((12 + (4 * x1)) + 2).toNatClampNeg then
                some (some (.inl 1), d)
              else
                some (some (.inl 0), d)
            else
              if d.1 92 (12 + (4 * x1)).toNatClampNeg = 5 then
                if x2 = x1 + 1 then
                  some (some (.inl 1), d)
                else
                  some (some (.inl 0), d)
              else
                if d.1 92 (12 + (4 * x1)).toNatClampNeg = 6 then
                  if x2 = x1 + 1 then
                    some (some (.inl 1), d)
                  else
                    some (some (.inl 0), d)
                else
                  if d.1 92 (12 + (4 * x1)).toNatClampNeg = 7 then
                    if x2 < d.1 92 8 then
                      cond (mx_in (124 + x1) 1020) (
                        if ((d.1 92 (124 + x1).toNatClampNeg) >>> (x2 &&& 31)) &&& 1 = 1 then
                          some (some (.inl 1), d)
                        else
                          some (some (.inl 0), d)) none
                    else
                      cond (mx_in (124 + x1) 1020) (
                        if (d.1 92 (124 + x1).toNatClampNeg) >>> ((d.1 92 8) &&& 31) = 0 then
                          some (some (.inl 0), d)
                        else
                          some (some (.inl 1), d)) none
                  else
                    if x2 = x1 + 1 then
                      some (some (.inl 1), d)
                    else
                      some (some (.inl 0), d)) none) none) none := zm_di 600 rfl
/- TickBoundModel.findMust -/
theorem em_195_0 (d : zd_D) : zm 195 0 [some (.inr (.inr (some 91))), none, none] [] d =
  zm 195 3 [some (.inr (.inr (some 91))), some (.inl 0), none] [] d := zm_di 600 rfl
/- TickBoundModel.findMust -/
theorem em_195_3 (x1 : Int32) (d : zd_D) : zm 195 3 [some (.inr (.inr (some 91))), some (.inl x1), none] [] d =
  if x1 < 16 * (d.1 92 8) then
    if x1 < 16 then
      cond (mx_in x1 464) (
        zm 195 3 [some (.inr (.inr (some 91))), some (.inl (x1 + 1)), none] [] (zd_u d 113 x1.toNatClampNeg 4)) none
    else
      cond (mx_in x1 464) (
        zm 195 3 [some (.inr (.inr (some 91))), some (.inl (x1 + 1)), none] [] (zd_u d 113 x1.toNatClampNeg 0)) none
  else
    zm 195 26 [some (.inr (.inr (some 91))), some (.inl 1), none] [] d := zm_di 600 rfl
/- TickBoundModel.findMust -/
theorem em_195_26 (x1 : Int32) (d : zd_D) : zm 195 26 [some (.inr (.inr (some 91))), some (.inl x1), none] [] d =
  if x1 = 0 then
    some (none, d)
  else
    (zm 196 0 [some (.inr (.inr (some 91))), none, none, none] [] d).bind fun q => zm 195 32 [some (.inr (.inr (some 91))), some (.inl 0), none] (q.1.toList ++ []) q.2 := zm_di 600 rfl
/- TickBoundModel.findMust -/
theorem em_195_32 (x1 : Int32) (d : zd_D) : zm 195 32 [some (.inr (.inr (some 91))), some (.inl x1), none] [] d =
  zm 195 35 [some (.inr (.inr (some 91))), some (.inl x1), some (.inl 16)] [] d := zm_di 600 rfl
/- TickBoundModel.findMust -/
theorem em_195_35 (x1 x2 : Int32) (d : zd_D) : zm 195 35 [some (.inr (.inr (some 91))), some (.inl x1), some (.inl x2)] [] d =
  if x2 < 16 * (d.1 92 8) then
    if x1 = 0 then
      cond (mx_in x2 464) (
        cond (mx_in x2 464) (
          if d.1 113 x2.toNatClampNeg < d.1 116 x2.toNatClampNeg then
            cond (mx_in x2 464) (
              cond (mx_in x2 464) (
                if d.1 116 x2.toNatClampNeg < d.1 113 x2.toNatClampNeg then
                  cond (mx_in x2 464) (
                    zm 195 35 [some (.inr (.inr (some 91))), some (.inl 1), some (.inl (x2 + 1))] [] (zd_u d 113 x2.toNatClampNeg (d.1 113 x2.toNatClampNeg))) none
                else
                  cond (mx_in x2 464) (
                    zm 195 35 [some (.inr (.inr (some 91))), some (.inl 1), some (.inl (x2 + 1))] [] (zd_u d 113 x2.toNatClampNeg (d.1 116 x2.toNatClampNeg))) none) none) none
          else
            cond (mx_in x2 464) (
              cond (mx_in x2 464) (
                if d.1 116 x2.toNatClampNeg < d.1 113 x2.toNatClampNeg then
                  cond (mx_in x2 464) (
                    zm 195 35 [some (.inr (.inr (some 91))), some (.inl 0), some (.inl (x2 + 1))] [] (zd_u d 113 x2.toNatClampNeg (d.1 113 x2.toNatClampNeg))) none
                else
                  cond (mx_in x2 464) (
                    zm 195 35 [some (.inr (.inr (some 91))), some (.inl 0), some (.inl (x2 + 1))] [] (zd_u d 113 x2.toNatClampNeg (d.1 116 x2.toNatClampNeg))) none) none) none) none) none
    else
      cond (mx_in x2 464) (
        cond (mx_in x2 464) (
          if d.1 116 x2.toNatClampNeg < d.1 113 x2.toNatClampNeg then
            cond (mx_in x2 464) (
              zm 195 35 [some (.inr (.inr (some 91))), some (.inl 1), some (.inl (x2 + 1))] [] (zd_u d 113 x2.toNatClampNeg (d.1 113 x2.toNatClampNeg))) none
          else
            cond (mx_in x2 464) (
              zm 195 35 [some (.inr (.inr (some 91))), some (.inl 1), some (.inl (x2 + 1))] [] (zd_u d 113 x2.toNatClampNeg (d.1 116 x2.toNatClampNeg))) none) none) none
  else
    zm 195 26 [some (.inr (.inr (some 91))), some (.inl x1), none] [] d := zm_di 600 rfl
/- TickBoundModel.findMet -/
theorem em_196_0 (d : zd_D) : zm 196 0 [some (.inr (.inr (some 91))), none, none, none] [] d =
  zm 196 3 [some (.inr (.inr (some 91))), some (.inl 0), none, none] [] d := zm_di 600 rfl
/- TickBoundModel.findMet -/
theorem em_196_3 (x1 : Int32) (d : zd_D) : zm 196 3 [some (.inr (.inr (some 91))), some (.inl x1), none, none] [] d =
  if x1 < 464 then
    cond (mx_in x1 464) (
      zm 196 3 [some (.inr (.inr (some 91))), some (.inl (x1 + 1)), none, none] [] (zd_u d 116 x1.toNatClampNeg (-1))) none
  else
    zm 196 16 [some (.inr (.inr (some 91))), some (.inl 0), none, none] [] d := zm_di 600 rfl
/- TickBoundModel.findMet -/
theorem em_196_16 (x1 : Int32) (d : zd_D) : zm 196 16 [some (.inr (.inr (some 91))), some (.inl x1), none, none] [] d =
  if x1 < d.1 91 15 then
    zm 196 23 [some (.inr (.inr (some 91))), some (.inl x1), some (.inl 0), none] [] d
  else
    some (none, d) := zm_di 600 rfl
/- TickBoundModel.findMet -/
theorem em_196_23 (x1 x2 : Int32) (d : zd_D) : zm 196 23 [some (.inr (.inr (some 91))), some (.inl x1), some (.inl x2), none] [] d =
  if x2 < 16 then
    cond (mx_in x1 820) (
      cond (mx_in ((16 * (d.1 99 x1.toNatClampNeg)) + x2) 464) (
        cond (mx_in x1 820) (
          (zm 197 0 [some (.inr (.inr (some 91))), some (.inl (d.1 98 x1.toNatClampNeg)), some (.inl x2), none, none] [] d).bind fun q => zm 196 49 [some (.inr (.inr (some 91))), some (.inl x1), some (.inl x2), some (.inl ((16 * (d.1 99 x1.toNatClampNeg)) + x2))] (q.1.toList ++ [(.inl (d.1 116 ((16 * (d.1 99 x1.toNatClampNeg)) + x2).toNatClampNeg)), (.inl ((16 * (d.1 99 x1.toNatClampNeg)) + x2)), (.inr (.inr (some 116)))]) q.2) none) none) none
  else
    zm 196 16 [some (.inr (.inr (some 91))), some (.inl (x1 + 1)), none, none] [] d := zm_di 600 rfl
/- TickBoundModel.findMet -/
theorem em_196_49 (x1 x2 x3 y1 y2 y3 : Int32) (d : zd_D) : zm 196 49 [some (.inr (.inr (some 91))), some (.inl x1), some (.inl x2), some (.inl x3)] [(.inl y3), (.inl y2), (.inl y1), (.inr (.inr (some 116)))] d =
  if y3 < y2 then
    cond (mx_in y1 464) (
      zm 196 23 [some (.inr (.inr (some 91))), some (.inl x1), some (.inl (x2 + 1)), none] [] (zd_u d 116 y1.toNatClampNeg y2)) none
  else
    cond (mx_in y1 464) (
      zm 196 23 [some (.inr (.inr (some 91))), some (.inl x1), some (.inl (x2 + 1)), none] [] (zd_u d 116 y1.toNatClampNeg y3)) none := zm_di 600 rfl
/- TickBoundModel.ageBehind -/
theorem em_197_0 (x1 x2 : Int32) (d : zd_D) : zm 197 0 [some (.inr (.inr (some 91))), some (.inl x1), some (.inl x2), none, none] [] d =
  (zm 198 0 [some (.inr (.inr (some 91))), some (.inl x1)] [] d).bind fun q => zm 197 3 [some (.inr (.inr (some 91))), some (.inl x1), some (.inl x2), none, none] (q.1.toList ++ []) q.2 := zm_di 600 rfl
/- TickBoundModel.ageBehind -/
theorem em_197_3 (x1 x2 y0 : Int32) (d : zd_D) : zm 197 3 [some (.inr (.inr (some 91))), some (.inl x1), some (.inl x2), none, none] [(.inl y0)] d =
  cond (mx_in ((16 * x1) + x2) 464) (
    if y0 = (-2) then
      some (some (.inl (d.1 113 ((16 * x1) + x2).toNatClampNeg)), d)
    else
      if y0 < 0 then
        if y0 = x2 then
          some (some (.inl 0), d)
        else
          if d.1 113 ((16 * x1) + x2).toNatClampNeg < 4 then
            if y0 < 0 then
              (zm 179 0 [some (.inr (.inr (some 91)))] [] d).bind fun q => zm 197 61 [some (.inr (.inr (some 91))), some (.inl x1), some (.inl x2), some (.inl y0), some (.inl ((d.1 113 ((16 * x1) + x2).toNatClampNeg) + 1))] (q.1.toList ++ [(.inl ((d.1 113 ((16 * x1) + x2).toNatClampNeg) + 1))]) q.2
            else
              cond (mx_in ((16 * x1) + y0) 464) (
                if d.1 113 ((16 * x1) + x2).toNatClampNeg < d.1 113 ((16 * x1) + y0).toNatClampNeg then
                  (zm 179 0 [some (.inr (.inr (some 91)))] [] d).bind fun q => zm 197 61 [some (.inr (.inr (some 91))), some (.inl x1), some (.inl x2), some (.inl y0), some (.inl ((d.1 113 ((16 * x1) + x2).toNatClampNeg) + 1))] (q.1.toList ++ [(.inl ((d.1 113 ((16 * x1) + x2).toNatClampNeg) + 1))]) q.2
                else
                  (zm 179 0 [some (.inr (.inr (some 91)))] [] d).bind fun q => zm 197 61 [some (.inr (.inr (some 91))), some (.inl x1), some (.inl x2), some (.inl y0), some (.inl (d.1 113 ((16 * x1) + x2).toNatClampNeg))] (q.1.toList ++ [(.inl (d.1 113 ((16 * x1) + x2).toNatClampNeg))]) q.2) none
          else
            (zm 179 0 [some (.inr (.inr (some 91)))] [] d).bind fun q => zm 197 61 [some (.inr (.inr (some 91))), some (.inl x1), some (.inl x2), some (.inl y0), some (.inl (d.1 113 ((16 * x1) + x2).toNatClampNeg))] (q.1.toList ++ [(.inl (d.1 113 ((16 * x1) + x2).toNatClampNeg))]) q.2
      else
        if ((d.1 92 9) >>> (y0 &&& 31)) &&& 1 = 1 then
          some (some (.inl (d.1 113 ((16 * x1) + x2).toNatClampNeg)), d)
        else
          if d.1 92 0 = 0 then
            none
          else
            if d.1 92 0 = 0 then
              none
            else
              if y0 - y0 / (d.1 92 0) * (d.1 92 0) = x2 - x2 / (d.1 92 0) * (d.1 92 0) then
                if y0 = x2 then
                  some (some (.inl 0), d)
                else
                  if d.1 113 ((16 * x1) + x2).toNatClampNeg < 4 then
                    if y0 < 0 then
                      (zm 179 0 [some (.inr (.inr (some 91)))] [] d).bind fun q => zm 197 61 [some (.inr (.inr (some 91))), some (.inl x1), some (.inl x2), some (.inl y0), some (.inl ((d.1 113 ((16 * x1) + x2).toNatClampNeg) + 1))] (q.1.toList ++ [(.inl ((d.1 113 ((16 * x1) + x2).toNatClampNeg) + 1))]) q.2
                    else
                      cond (mx_in ((16 * x1) + y0) 464) (
                        if d.1 113 ((16 * x1) + x2).toNatClampNeg < d.1 113 ((16 * x1) + y0).toNatClampNeg then
                          (zm 179 0 [some (.inr (.inr (some 91)))] [] d).bind fun q => zm 197 61 [some (.inr (.inr (some 91))), some (.inl x1), some (.inl x2), some (.inl y0), some (.inl ((d.1 113 ((16 * x1) + x2).toNatClampNeg) + 1))] (q.1.toList ++ [(.inl ((d.1 113 ((16 * x1) + x2).toNatClampNeg) + 1))]) q.2
                        else
                          (zm 179 0 [some (.inr (.inr (some 91)))] [] d).bind fun q => zm 197 61 [some (.inr (.inr (some 91))), some (.inl x1), some (.inl x2), some (.inl y0), some (.inl (d.1 113 ((16 * x1) + x2).toNatClampNeg))] (q.1.toList ++ [(.inl (d.1 113 ((16 * x1) + x2).toNatClampNeg))]) q.2) none
                  else
                    (zm 179 0 [some (.inr (.inr (some 91)))] [] d).bind fun q => zm 197 61 [some (.inr (.inr (some 91))), some (.inl x1), some (.inl x2), some (.inl y0), some (.inl (d.1 113 ((16 * x1) + x2).toNatClampNeg))] (q.1.toList ++ [(.inl (d.1 113 ((16 * x1) + x2).toNatClampNeg))]) q.2
              else
                some (some (.inl (d.1 113 ((16 * x1) + x2).toNatClampNeg)), d)) none := zm_di 600 rfl
/- TickBoundModel.ageBehind -/
theorem em_197_61 (x1 x2 x3 x4 y0 y1 : Int32) (d : zd_D) : zm 197 61 [some (.inr (.inr (some 91))), some (.inl x1), some (.inl x2), some (.inl x3), some (.inl x4)] [(.inl y1), (.inl y0)] d =
  if y0 < y1 then
    some (some (.inl x4), d)
  else
    some (some (.inl 4), d) := zm_di 600 rfl
/- TickBoundModel.lineOf -/
theorem em_198_0 (x1 : Int32) (d : zd_D) : zm 198 0 [some (.inr (.inr (some 91))), some (.inl x1)] [] d =
  cond (mx_in (12 + (4 * x1)) 1020) (
    if d.1 92 (12 + (4 * x1)).toNatClampNeg = 1 then
      cond (mx_in ((12 + (4 * x1)) + 2) 1020) (
        if d.1 92 ((12 + (4 * x1)) + 2).toNatClampNeg = 4 then
          cond (mx_in ((12 + (4 * x1)) + 3) 1020) (
            some (some (.inl ((d.1 92 ((12 + (4 * x1)) + 3).toNatClampNeg) / 2)), d)) none
        else
          some (some (.inl (-1)), d)) none
    else
      if d.1 92 (12 + (4 * x1)).toNatClampNeg = 2 then
        cond (mx_in ((12 + (4 * x1)) + 2) 1020) (
          if d.1 92 ((12 + (4 * x1)) + 2).toNatClampNeg = 4 then
            cond (mx_in ((12 + (4 * x1)) + 3) 1020) (
              some (some (.inl ((d.1 92 ((12 + (4 * x1)) + 3).toNatClampNeg) / 2)), d)) none
          else
            some (some (.inl (-1)), d)) none
      else
        some (some (.inl (-2)), d)) none := zm_di 600 rfl
/- TickBoundModel.findMay -/
theorem em_203_0 (d : zd_D) : zm 203 0 [some (.inr (.inr (some 91))), none, none, none] [] d =
  zm 203 3 [some (.inr (.inr (some 91))), some (.inl 0), none, none] [] d := zm_di 600 rfl
/- TickBoundModel.findMay -/
theorem em_203_3 (x1 : Int32) (d : zd_D) : zm 203 3 [some (.inr (.inr (some 91))), some (.inl x1), none, none] [] d =
  if d.1 92 8 < x1 then
    zm 203 19 [some (.inr (.inr (some 91))), some (.inl 1), none, none] [] d
  else
    cond (mx_in x1 29) (
      zm 203 3 [some (.inr (.inr (some 91))), some (.inl (x1 + 1)), none, none] [] (zd_u d 114 x1.toNatClampNeg 0)) none := zm_di 600 rfl
/- TickBoundModel.findMay -/
theorem em_203_19 (x1 : Int32) (d : zd_D) : zm 203 19 [some (.inr (.inr (some 91))), some (.inl x1), none, none] [] d =
  if x1 = 0 then
    some (none, d)
  else
    zm 203 26 [some (.inr (.inr (some 91))), some (.inl 0), some (.inl 0), none] [] d := zm_di 600 rfl
/- TickBoundModel.findMay -/
theorem em_203_26 (x1 x2 : Int32) (d : zd_D) : zm 203 26 [some (.inr (.inr (some 91))), some (.inl x1), some (.inl x2), none] [] d =
  if x2 < d.1 91 15 then
    cond (mx_in x2 820) (
      cond (mx_in (d.1 99 x2.toNatClampNeg) 29) (
        cond (mx_in x2 820) (
          (zm 204 0 [some (.inr (.inr (some 91))), some (.inl (d.1 98 x2.toNatClampNeg)), none] [] d).bind fun q => zm 203 43 [some (.inr (.inr (some 91))), some (.inl x1), some (.inl x2), none] (q.1.toList ++ [(.inl (d.1 114 (d.1 99 x2.toNatClampNeg).toNatClampNeg))]) q.2) none) none) none
  else
    zm 203 19 [some (.inr (.inr (some 91))), some (.inl x1), none, none] [] d := zm_di 600 rfl
/- TickBoundModel.findMay -/
theorem em_203_43 (x1 x2 y0 y1 : Int32) (d : zd_D) : zm 203 43 [some (.inr (.inr (some 91))), some (.inl x1), some (.inl x2), none] [(.inl y1), (.inl y0)] d =
  if x1 = 0 then
    cond (mx_in x2 820) (
      cond (mx_in (d.1 99 x2.toNatClampNeg) 29) (
        if y0 ||| y1 = d.1 114 (d.1 99 x2.toNatClampNeg).toNatClampNeg then
          cond (mx_in x2 820) (
            cond (mx_in (d.1 99 x2.toNatClampNeg) 29) (
              zm 203 26 [some (.inr (.inr (some 91))), some (.inl 0), some (.inl (x2 + 1)), none] [] (zd_u d 114 (d.1 99 x2.toNatClampNeg).toNatClampNeg (y0 ||| y1))) none) none
        else
          cond (mx_in x2 820) (
            cond (mx_in (d.1 99 x2.toNatClampNeg) 29) (
              zm 203 26 [some (.inr (.inr (some 91))), some (.inl 1), some (.inl (x2 + 1)), none] [] (zd_u d 114 (d.1 99 x2.toNatClampNeg).toNatClampNeg (y0 ||| y1))) none) none) none) none
  else
    cond (mx_in x2 820) (
      cond (mx_in (d.1 99 x2.toNatClampNeg) 29) (
        zm 203 26 [some (.inr (.inr (some 91))), some (.inl 1), some (.inl (x2 + 1)), none] [] (zd_u d 114 (d.1 99 x2.toNatClampNeg).toNatClampNeg (y0 ||| y1))) none) none := zm_di 600 rfl
/- TickBoundModel.behind -/
theorem em_204_0 (x1 : Int32) (d : zd_D) : zm 204 0 [some (.inr (.inr (some 91))), some (.inl x1), none] [] d =
  (zm 198 0 [some (.inr (.inr (some 91))), some (.inl x1)] [] d).bind fun q => zm 204 3 [some (.inr (.inr (some 91))), some (.inl x1), none] (q.1.toList ++ []) q.2 := zm_di 600 rfl
/- TickBoundModel.behind -/
theorem em_204_3 (x1 y0 : Int32) (d : zd_D) : zm 204 3 [some (.inr (.inr (some 91))), some (.inl x1), none] [(.inl y0)] d =
  if y0 = (-2) then
    cond (mx_in x1 29) (
      some (some (.inl (d.1 114 x1.toNatClampNeg)), d)) none
  else
    if y0 = (-1) then
      some (some (.inl 65535), d)
    else
      if ((d.1 92 9) >>> (y0 &&& 31)) &&& 1 = 1 then
        cond (mx_in x1 29) (
          some (some (.inl (d.1 114 x1.toNatClampNeg)), d)) none
      else
        cond (mx_in x1 29) (
          some (some (.inl ((d.1 114 x1.toNatClampNeg) ||| (1 <<< (y0 &&& 31)))), d)) none := zm_di 600 rfl
/- TickBoundModel.tellsOf -/
theorem em_205_0 (x1 : Int32) (d : zd_D) : zm 205 0 [some (.inr (.inr (some 91))), some (.inl x1), none] [] d =
  (zm 198 0 [some (.inr (.inr (some 91))), some (.inl x1)] [] d).bind fun q => zm 205 3 [some (.inr (.inr (some 91))), some (.inl x1), none] (q.1.toList ++ []) q.2 := zm_di 600 rfl
/- TickBoundModel.tellsOf -/
theorem em_205_3 (x1 y0 : Int32) (d : zd_D) : zm 205 3 [some (.inr (.inr (some 91))), some (.inl x1), none] [(.inl y0)] d =
  if y0 < 0 then
    some (some (.inl 2), d)
  else
    if ((d.1 92 9) >>> (y0 &&& 31)) &&& 1 = 1 then
      some (some (.inl 0), d)
    else
      cond (mx_in ((16 * x1) + y0) 464) (
        if d.1 113 ((16 * x1) + y0).toNatClampNeg < 4 then
          some (some (.inl 0), d)
        else
          cond (mx_in x1 29) (
            if ((d.1 114 x1.toNatClampNeg) >>> (y0 &&& 31)) &&& 1 = 0 then
              some (some (.inl 1), d)
            else
              some (some (.inl 2), d)) none) none := zm_di 600 rfl
/- TickBoundModel.costOf -/
theorem em_206_0 (x1 : Int32) (d : zd_D) : zm 206 0 [some (.inr (.inr (some 91))), some (.inl x1)] [] d =
  cond (mx_in (12 + (4 * x1)) 1020) (
    cond (mx_in x1 28) (
      if d.1 115 x1.toNatClampNeg = 0 then
        (zm 207 0 [some (.inr (.inr (some 91))), some (.inl (d.1 92 (12 + (4 * x1)).toNatClampNeg)), some (.inl 1), none] [] d).bind fun q => zm 206 13 [some (.inr (.inr (some 91))), some (.inl x1)] (q.1.toList ++ []) q.2
      else
        (zm 207 0 [some (.inr (.inr (some 91))), some (.inl (d.1 92 (12 + (4 * x1)).toNatClampNeg)), some (.inl 0), none] [] d).bind fun q => zm 206 13 [some (.inr (.inr (some 91))), some (.inl x1)] (q.1.toList ++ []) q.2) none) none := zm_di 600 rfl
/- TickBoundModel.costOf -/
theorem em_206_13 (x1 y0 : Int32) (d : zd_D) : zm 206 13 [some (.inr (.inr (some 91))), some (.inl x1)] [(.inl y0)] d =
  some (some (.inl y0), d) := zm_di 600 rfl
/- TickBoundModel.costBy -/
theorem em_207_0 (x1 x2 : Int32) (d : zd_D) : zm 207 0 [some (.inr (.inr (some 91))), some (.inl x1), some (.inl x2), none] [] d =
  if d.1 91 38 < 0 then
    if x1 = 1 then
      if x2 = 0 then
        some (some (.inl (1 + (d.1 92 3))), d)
      else
        some (some (.inl (1 + 0)), d)
    else
      if x1 = 2 then
        if x2 = 0 then
          some (some (.inl (2 + (d.1 92 3))), d)
        else
          some (some (.inl (2 + 0)), d)
      else
        if x1 = 3 then
          some (some (.inl (1 + (d.1 92 4))), d)
        else
          if x1 = 4 then
            some (some (.inl 2), d)
          else
            if x1 = 5 then
              some (some (.inl (1 + (8 * (d.1 92 7)))), d)
            else
              if x1 = 6 then
                some (some (.inl (3 + (8 * (d.1 92 7)))), d)
              else
                if x1 = 7 then
                  some (some (.inl 2), d)
                else
                  some (some (.inl 1), d)
  else
    if x1 = 1 then
      if x2 = 0 then
        some (some (.inl (1 + (d.1 91 38))), d)
      else
        some (some (.inl (1 + 0)), d)
    else
      if x1 = 2 then
        if x2 = 0 then
          some (some (.inl (2 + (d.1 91 38))), d)
        else
          some (some (.inl (2 + 0)), d)
      else
        if x1 = 3 then
          some (some (.inl (1 + (d.1 92 4))), d)
        else
          if x1 = 4 then
            some (some (.inl 2), d)
          else
            if x1 = 5 then
              some (some (.inl (1 + (8 * (d.1 92 7)))), d)
            else
              if x1 = 6 then
                some (some (.inl (3 + (8 * (d.1 92 7)))), d)
              else
                if x1 = 7 then
                  some (some (.inl 2), d)
                else
                  some (some (.inl 1), d) := zm_di 600 rfl
/- TickBoundModel.as -/
theorem em_208_0 (x1 x2 : Int32) (d : zd_D) : zm 208 0 [some (.inr (.inr (some 91))), some (.inl x1), some (.inl x2)] [] d =
  if x1 < 0 then
    some (some (.inl (-1000000001)), d)
  else
    if (d.1 92 8) - 1 < x1 then
      some (some (.inl (-1000000001)), d)
    else
      if x2 < 0 then
        some (some (.inl (-1000000001)), d)
      else
        if 7 < x2 then
          some (some (.inl (-1000000001)), d)
        else
          cond (mx_in (12 + (4 * x1)) 1020) (
            (zm 209 0 [some (.inl (d.1 92 (12 + (4 * x1)).toNatClampNeg)), some (.inl x2)] [] d).bind fun q => zm 208 16 [some (.inr (.inr (some 91))), some (.inl x1), some (.inl x2)] (q.1.toList ++ []) q.2) none := zm_di 600 rfl
/- TickBoundModel.as -/
theorem em_208_16 (x1 x2 y0 : Int32) (d : zd_D) : zm 208 16 [some (.inr (.inr (some 91))), some (.inl x1), some (.inl x2)] [(.inl y0)] d =
  if y0 = 0 then
    some (some (.inl (-1000000012)), d)
  else
    cond (mx_in ((12 + (4 * x1)) + 3) 1020) (
      some (some (.inl (d.1 92 ((12 + (4 * x1)) + 3).toNatClampNeg)), d)) none := zm_di 600 rfl
/- TickBoundModel.isUnder -/
theorem em_209_0 (x0 x1 : Int32) (d : zd_D) : zm 209 0 [some (.inl x0), some (.inl x1)] [] d =
  if x1 = 0 then
    some (some (.inl 1), d)
  else
    if x0 = x1 then
      some (some (.inl 1), d)
    else
      if x1 = 1 then
        if x0 = 2 then
          some (some (.inl 1), d)
        else
          if x1 = 3 then
            if x0 = 4 then
              some (some (.inl 1), d)
            else
              if x0 = 7 then
                some (some (.inl 1), d)
              else
                if x1 = 4 then
                  if x0 = 7 then
                    some (some (.inl 1), d)
                  else
                    if x1 = 5 then
                      if x0 = 6 then
                        some (some (.inl 1), d)
                      else
                        some (some (.inl 0), d)
                    else
                      some (some (.inl 0), d)
                else
                  if x1 = 5 then
                    if x0 = 6 then
                      some (some (.inl 1), d)
                    else
                      some (some (.inl 0), d)
                  else
                    some (some (.inl 0), d)
          else
            if x1 = 4 then
              if x0 = 7 then
                some (some (.inl 1), d)
              else
                if x1 = 5 then
                  if x0 = 6 then
                    some (some (.inl 1), d)
                  else
                    some (some (.inl 0), d)
                else
                  some (some (.inl 0), d)
            else
              if x1 = 5 then
                if x0 = 6 then
                  some (some (.inl 1), d)
                else
                  some (some (.inl 0), d)
              else
                some (some (.inl 0), d)
      else
        if x1 = 3 then
          if x0 = 4 then
            some (some (.inl 1), d)
          else
            if x0 = 7 then
              some (some (.inl 1), d)
            else
              if x1 = 4 then
                if x0 = 7 then
                  some (some (.inl 1), d)
                else
                  if x1 = 5 then
                    if x0 = 6 then
                      some (some (.inl 1), d)
                    else
                      some (some (.inl 0), d)
                  else
                    some (some (.inl 0), d)
              else
                if x1 = 5 then
                  if x0 = 6 then
                    some (some (.inl 1), d)
                  else
                    some (some (.inl 0), d)
                else
                  some (some (.inl 0), d)
        else
          if x1 = 4 then
            if x0 = 7 then
              some (some (.inl 1), d)
            else
              if x1 = 5 then
                if x0 = 6 then
                  some (some (.inl 1), d)
                else
                  some (some (.inl 0), d)
              else
                some (some (.inl 0), d)
          else
            if x1 = 5 then
              if x0 = 6 then
                some (some (.inl 1), d)
              else
                some (some (.inl 0), d)
            else
              some (some (.inl 0), d) := zm_di 600 rfl
/- TickBoundModel.places -/
theorem em_210_0 (x1 x2 : Int32) (d : zd_D) : zm 210 0 [some (.inr (.inr (some 91))), some (.inl x1), some (.inl x2), none] [] d =
  if x1 < 0 then
    some (some (.inl (-1000000001)), d)
  else
    if (d.1 92 8) - 1 < x1 then
      some (some (.inl (-1000000001)), d)
    else
      if x2 < 0 then
        some (some (.inl (-1000000001)), d)
      else
        if x2 >>> (29 &&& 31) = 0 then
          cond (mx_in (12 + (4 * x1)) 1020) (
            if d.1 92 (12 + (4 * x1)).toNatClampNeg = 7 then
              cond (mx_in (124 + x1) 1020) (
                cond (mx_in (124 + x1) 1020) (
                  (zm 186 0 [some (.inr (.inr (some 91))), none] [] (zd_u d 92 (124 + x1).toNatClampNeg x2)).bind fun q => zm 210 35 [some (.inr (.inr (some 91))), some (.inl x1), some (.inl x2), some (.inl (d.1 92 (124 + x1).toNatClampNeg))] (q.1.toList ++ []) q.2) none) none
            else
              some (some (.inl (-1000000012)), d)) none
        else
          some (some (.inl (-1000000001)), d) := zm_di 600 rfl
/- TickBoundModel.places -/
theorem em_210_35 (x1 x2 x3 : Int32) (d : zd_D) : zm 210 35 [some (.inr (.inr (some 91))), some (.inl x1), some (.inl x2), some (.inl x3)] [] d =
  some (some (.inl x3), d) := zm_di 600 rfl
/- TickBoundModel.edges -/
theorem em_211_0 (d : zd_D) : zm 211 0 [some (.inr (.inr (some 91)))] [] d =
  (zm 191 0 [some (.inr (.inr (some 91))), none, none] [] d).bind fun q => zm 211 2 [some (.inr (.inr (some 91)))] (q.1.toList ++ []) q.2 := zm_di 600 rfl
/- TickBoundModel.edges -/
theorem em_211_2 (d : zd_D) : zm 211 2 [some (.inr (.inr (some 91)))] [] d =
  some (some (.inl (d.1 91 15)), d) := zm_di 600 rfl
/- TickBoundModel.edge -/
theorem em_212_0 (x1 x2 : Int32) (d : zd_D) : zm 212 0 [some (.inr (.inr (some 91))), some (.inl x1), some (.inl x2)] [] d =
  (zm 190 0 [some (.inr (.inr (some 91))), none] [] d).bind fun q => zm 212 2 [some (.inr (.inr (some 91))), some (.inl x1), some (.inl x2)] (q.1.toList ++ []) q.2 := zm_di 600 rfl
/- TickBoundModel.edge -/
theorem em_212_2 (x1 x2 : Int32) (d : zd_D) : zm 212 2 [some (.inr (.inr (some 91))), some (.inl x1), some (.inl x2)] [] d =
  if x1 < 0 then
    some (some (.inl (-1000000001)), d)
  else
    if (d.1 91 15) - 1 < x1 then
      some (some (.inl (-1000000001)), d)
    else
      if x2 < 0 then
        some (some (.inl (-1000000001)), d)
      else
        if 4 < x2 then
          some (some (.inl (-1000000001)), d)
        else
          if x2 = 0 then
            cond (mx_in x1 820) (
              some (some (.inl (d.1 98 x1.toNatClampNeg)), d)) none
          else
            if x2 = 1 then
              cond (mx_in x1 820) (
                some (some (.inl (d.1 99 x1.toNatClampNeg)), d)) none
            else
              if x2 = 2 then
                cond (mx_in x1 820) (
                  cond (mx_in x1 820) (
                    if d.1 98 x1.toNatClampNeg < d.1 99 x1.toNatClampNeg then
                      some (some (.inl 0), d)
                    else
                      some (some (.inl 1), d)) none) none
              else
                if x2 = 3 then
                  cond (mx_in (200 + x1) 1020) (
                    if (d.1 92 (200 + x1).toNatClampNeg) - 1 < 0 then
                      some (some (.inl (-1000000005)), d)
                    else
                      cond (mx_in (200 + x1) 1020) (
                        some (some (.inl ((d.1 92 (200 + x1).toNatClampNeg) - 1)), d)) none) none
                else
                  (zm 215 0 [some (.inr (.inr (some 91))), some (.inl x1), none, none] [] d).bind fun q => zm 212 50 [some (.inr (.inr (some 91))), some (.inl x1), some (.inl x2)] (q.1.toList ++ []) q.2 := zm_di 600 rfl
/- TickBoundModel.edge -/
theorem em_212_50 (x1 x2 y0 : Int32) (d : zd_D) : zm 212 50 [some (.inr (.inr (some 91))), some (.inl x1), some (.inl x2)] [(.inl y0)] d =
  some (some (.inl y0), d) := zm_di 600 rfl
/- TickBoundModel.edgeCost -/
theorem em_215_0 (x1 : Int32) (d : zd_D) : zm 215 0 [some (.inr (.inr (some 91))), some (.inl x1), none, none] [] d =
  cond (mx_in x1 820) (
    cond (mx_in (12 + (4 * (d.1 98 x1.toNatClampNeg))) 1020) (
      if d.1 92 (12 + (4 * (d.1 98 x1.toNatClampNeg))).toNatClampNeg = 1 then
        cond (mx_in x1 820) (
          if d.1 99 x1.toNatClampNeg < d.1 92 8 then
            cond (mx_in x1 820) (
              cond (mx_in ((12 + (4 * (d.1 98 x1.toNatClampNeg))) + 1) 1020) (
                (zm 217 0 [some (.inr (.inr (some 91))), some (.inl (d.1 99 x1.toNatClampNeg)), some (.inl (d.1 92 ((12 + (4 * (d.1 98 x1.toNatClampNeg))) + 1).toNatClampNeg))] [] d).bind fun q => zm 215 28 [some (.inr (.inr (some 91))), some (.inl x1), some (.inl (d.1 98 x1.toNatClampNeg)), none] (q.1.toList ++ []) q.2) none) none
          else
            (zm 206 0 [some (.inr (.inr (some 91))), some (.inl (d.1 98 x1.toNatClampNeg))] [] d).bind fun q => zm 215 36 [some (.inr (.inr (some 91))), some (.inl x1), some (.inl (d.1 98 x1.toNatClampNeg)), some (.inl 0)] (q.1.toList ++ []) q.2) none
      else
        (zm 206 0 [some (.inr (.inr (some 91))), some (.inl (d.1 98 x1.toNatClampNeg))] [] d).bind fun q => zm 215 36 [some (.inr (.inr (some 91))), some (.inl x1), some (.inl (d.1 98 x1.toNatClampNeg)), some (.inl 0)] (q.1.toList ++ []) q.2) none) none := zm_di 600 rfl
/- TickBoundModel.edgeCost -/
theorem em_215_28 (x1 x2 y0 : Int32) (d : zd_D) : zm 215 28 [some (.inr (.inr (some 91))), some (.inl x1), some (.inl x2), none] [(.inl y0)] d =
  if y0 = 0 then
    (zm 206 0 [some (.inr (.inr (some 91))), some (.inl x2)] [] d).bind fun q => zm 215 36 [some (.inr (.inr (some 91))), some (.inl x1), some (.inl x2), some (.inl 0)] (q.1.toList ++ []) q.2
  else
    (zm 206 0 [some (.inr (.inr (some 91))), some (.inl x2)] [] d).bind fun q => zm 215 36 [some (.inr (.inr (some 91))), some (.inl x1), some (.inl x2), some (.inl 1)] (q.1.toList ++ []) q.2 := zm_di 600 rfl
/- TickBoundModel.edgeCost -/
theorem em_215_36 (x1 x2 x3 y0 : Int32) (d : zd_D) : zm 215 36 [some (.inr (.inr (some 91))), some (.inl x1), some (.inl x2), some (.inl x3)] [(.inl y0)] d =
  if x3 = 0 then
    some (some (.inl (y0 + 0)), d)
  else
    some (some (.inl (y0 + (d.1 92 6))), d) := zm_di 600 rfl
/- TickBoundModel.reads -/
theorem em_217_0 (x1 x2 : Int32) (d : zd_D) : zm 217 0 [some (.inr (.inr (some 91))), some (.inl x1), some (.inl x2)] [] d =
  cond (mx_in (12 + (4 * x1)) 1020) (
    if d.1 92 (12 + (4 * x1)).toNatClampNeg = 0 then
      cond (mx_in ((12 + (4 * x1)) + 2) 1020) (
        if d.1 92 ((12 + (4 * x1)) + 2).toNatClampNeg = x2 then
          some (some (.inl 1), d)
        else
          some (some (.inl 0), d)) none
    else
      if d.1 92 (12 + (4 * x1)).toNatClampNeg = 1 then
        cond (mx_in ((12 + (4 * x1)) + 2) 1020) (
          if d.1 92 ((12 + (4 * x1)) + 2).toNatClampNeg = x2 then
            some (some (.inl 1), d)
          else
            some (some (.inl 0), d)) none
      else
        if d.1 92 (12 + (4 * x1)).toNatClampNeg = 2 then
          cond (mx_in ((12 + (4 * x1)) + 1) 1020) (
            if d.1 92 ((12 + (4 * x1)) + 1).toNatClampNeg = x2 then
              some (some (.inl 1), d)
            else
              cond (mx_in ((12 + (4 * x1)) + 2) 1020) (
                if d.1 92 ((12 + (4 * x1)) + 2).toNatClampNeg = x2 then
                  some (some (.inl 1), d)
                else
                  some (some (.inl 0), d)) none) none
        else
          if d.1 92 (12 + (4 * x1)).toNatClampNeg = 3 then
            cond (mx_in ((12 + (4 * x1)) + 1) 1020) (
              if d.1 92 ((12 + (4 * x1)) + 1).toNatClampNeg = x2 then
                some (some (.inl 1), d)
              else
                some (some (.inl 0), d)) none
          else
            if d.1 92 (12 + (4 * x1)).toNatClampNeg = 4 then
              some (some (.inl 0), d)
            else
              if d.1 92 (12 + (4 * x1)).toNatClampNeg = 5 then
                cond (mx_in ((12 + (4 * x1)) + 2) 1020) (
                  if d.1 92 ((12 + (4 * x1)) + 2).toNatClampNeg = x2 then
                    some (some (.inl 1), d)
                  else
                    cond (mx_in ((12 + (4 * x1)) + 3) 1020) (
                      if d.1 92 ((12 + (4 * x1)) + 3).toNatClampNeg = x2 then
                        some (some (.inl 1), d)
                      else
                        some (some (.inl 0), d)) none) none
              else
                if d.1 92 (12 + (4 * x1)).toNatClampNeg = 6 then
                  cond (mx_in ((12 + (4 * x1)) + 2) 1020) (
                    if d.1 92 ((12 + (4 * x1)) + 2).toNatClampNeg = x2 then
                      some (some (.inl 1), d)
                    else
                      cond (mx_in ((12 + (4 * x1)) + 3) 1020) (
                        if d.1 92 ((12 + (4 * x1)) + 3).toNatClampNeg = x2 then
                          some (some (.inl 1), d)
                        else
                          some (some (.inl 0), d)) none) none
                else
                  if d.1 92 (12 + (4 * x1)).toNatClampNeg = 7 then
                    cond (mx_in ((12 + (4 * x1)) + 1) 1020) (
                      if d.1 92 ((12 + (4 * x1)) + 1).toNatClampNeg = x2 then
                        some (some (.inl 1), d)
                      else
                        some (some (.inl 0), d)) none
                  else
                    some (some (.inl 0), d)) none := zm_di 600 rfl
/- TickBoundModel.turns -/
theorem em_218_0 (x1 x2 : Int32) (d : zd_D) : zm 218 0 [some (.inr (.inr (some 91))), some (.inl x1), some (.inl x2), none] [] d =
  (zm 191 0 [some (.inr (.inr (some 91))), none, none] [] d).bind fun q => zm 218 2 [some (.inr (.inr (some 91))), some (.inl x1), some (.inl x2), none] (q.1.toList ++ []) q.2 := zm_di 600 rfl
/- TickBoundModel.turns -/
theorem em_218_2 (x1 x2 : Int32) (d : zd_D) : zm 218 2 [some (.inr (.inr (some 91))), some (.inl x1), some (.inl x2), none] [] d =
  if x1 < 0 then
    some (some (.inl (-1000000001)), d)
  else
    if (d.1 91 15) - 1 < x1 then
      some (some (.inl (-1000000001)), d)
    else
      if x2 = (-1000000005) then
        cond (mx_in x1 820) (
          cond (mx_in x1 820) (
            if d.1 98 x1.toNatClampNeg < d.1 99 x1.toNatClampNeg then
              some (some (.inl (-1000000012)), d)
            else
              cond (mx_in (200 + x1) 1020) (
                if x2 = (-1000000005) then
                  cond (mx_in (200 + x1) 1020) (
                    if (d.1 92 (200 + x1).toNatClampNeg) - 1 < 0 then
                      some (some (.inl (-1000000005)), (zd_u d 92 (200 + x1).toNatClampNeg 0))
                    else
                      some (some (.inl ((d.1 92 (200 + x1).toNatClampNeg) - 1)), (zd_u d 92 (200 + x1).toNatClampNeg 0))) none
                else
                  cond (mx_in (200 + x1) 1020) (
                    if (d.1 92 (200 + x1).toNatClampNeg) - 1 < 0 then
                      some (some (.inl (-1000000005)), (zd_u d 92 (200 + x1).toNatClampNeg (x2 + 1)))
                    else
                      some (some (.inl ((d.1 92 (200 + x1).toNatClampNeg) - 1)), (zd_u d 92 (200 + x1).toNatClampNeg (x2 + 1)))) none) none) none) none
      else
        if x2 < 0 then
          some (some (.inl (-1000000001)), d)
        else
          if 9 < x2 then
            some (some (.inl (-1000000001)), d)
          else
            cond (mx_in x1 820) (
              cond (mx_in x1 820) (
                if d.1 98 x1.toNatClampNeg < d.1 99 x1.toNatClampNeg then
                  some (some (.inl (-1000000012)), d)
                else
                  cond (mx_in (200 + x1) 1020) (
                    if x2 = (-1000000005) then
                      cond (mx_in (200 + x1) 1020) (
                        if (d.1 92 (200 + x1).toNatClampNeg) - 1 < 0 then
                          some (some (.inl (-1000000005)), (zd_u d 92 (200 + x1).toNatClampNeg 0))
                        else
                          some (some (.inl ((d.1 92 (200 + x1).toNatClampNeg) - 1)), (zd_u d 92 (200 + x1).toNatClampNeg 0))) none
                    else
                      cond (mx_in (200 + x1) 1020) (
                        if (d.1 92 (200 + x1).toNatClampNeg) - 1 < 0 then
                          some (some (.inl (-1000000005)), (zd_u d 92 (200 + x1).toNatClampNeg (x2 + 1)))
                        else
                          some (some (.inl ((d.1 92 (200 + x1).toNatClampNeg) - 1)), (zd_u d 92 (200 + x1).toNatClampNeg (x2 + 1)))) none) none) none) none := zm_di 600 rfl
/- TickBoundModel.blocks -/
theorem em_219_0 (d : zd_D) : zm 219 0 [some (.inr (.inr (some 91))), none, none] [] d =
  (zm 191 0 [some (.inr (.inr (some 91))), none, none] [] d).bind fun q => zm 219 2 [some (.inr (.inr (some 91))), none, none] (q.1.toList ++ []) q.2 := zm_di 600 rfl
/- TickBoundModel.blocks -/
theorem em_219_2 (d : zd_D) : zm 219 2 [some (.inr (.inr (some 91))), none, none] [] d =
  zm 219 7 [some (.inr (.inr (some 91))), some (.inl 0), some (.inl 0)] [] d := zm_di 600 rfl
/- TickBoundModel.blocks -/
theorem em_219_7 (x1 x2 : Int32) (d : zd_D) : zm 219 7 [some (.inr (.inr (some 91))), some (.inl x1), some (.inl x2)] [] d =
  if x2 < d.1 92 8 then
    (zm 220 0 [some (.inr (.inr (some 91))), some (.inl x2), none, none] [] d).bind fun q => zm 219 17 [some (.inr (.inr (some 91))), some (.inl x1), some (.inl x2)] (q.1.toList ++ [(.inl x1)]) q.2
  else
    some (some (.inl x1), d) := zm_di 600 rfl
/- TickBoundModel.blocks -/
theorem em_219_17 (x1 x2 y0 y1 : Int32) (d : zd_D) : zm 219 17 [some (.inr (.inr (some 91))), some (.inl x1), some (.inl x2)] [(.inl y1), (.inl y0)] d =
  if y1 = 0 then
    zm 219 7 [some (.inr (.inr (some 91))), some (.inl (y0 + 0)), some (.inl (x2 + 1))] [] d
  else
    zm 219 7 [some (.inr (.inr (some 91))), some (.inl (y0 + 1)), some (.inl (x2 + 1))] [] d := zm_di 600 rfl
/- TickBoundModel.isFirst -/
theorem em_220_0 (x1 : Int32) (d : zd_D) : zm 220 0 [some (.inr (.inr (some 91))), some (.inl x1), none, none] [] d =
  if x1 = 0 then
    zm 220 17 [some (.inr (.inr (some 91))), some (.inl x1), some (.inl 1), some (.inl 0)] [] d
  else
    cond (mx_in (12 + (4 * (x1 - 1))) 1020) (
      (zm 209 0 [some (.inl (d.1 92 (12 + (4 * (x1 - 1))).toNatClampNeg)), some (.inl 3)] [] d).bind fun q => zm 220 9 [some (.inr (.inr (some 91))), some (.inl x1), none, none] (q.1.toList ++ []) q.2) none := zm_di 600 rfl
/- TickBoundModel.isFirst -/
theorem em_220_9 (x1 y0 : Int32) (d : zd_D) : zm 220 9 [some (.inr (.inr (some 91))), some (.inl x1), none, none] [(.inl y0)] d =
  if y0 = 0 then
    zm 220 17 [some (.inr (.inr (some 91))), some (.inl x1), some (.inl 0), some (.inl 0)] [] d
  else
    zm 220 17 [some (.inr (.inr (some 91))), some (.inl x1), some (.inl 1), some (.inl 0)] [] d := zm_di 600 rfl
/- TickBoundModel.isFirst -/
theorem em_220_17 (x1 x2 x3 : Int32) (d : zd_D) : zm 220 17 [some (.inr (.inr (some 91))), some (.inl x1), some (.inl x2), some (.inl x3)] [] d =
  if x3 < d.1 91 15 then
    if x2 = 0 then
      cond (mx_in x3 820) (
        if d.1 99 x3.toNatClampNeg = x1 then
          cond (mx_in x3 820) (
            if d.1 98 x3.toNatClampNeg = x1 - 1 then
              zm 220 17 [some (.inr (.inr (some 91))), some (.inl x1), some (.inl 0), some (.inl (x3 + 1))] [] d
            else
              zm 220 17 [some (.inr (.inr (some 91))), some (.inl x1), some (.inl 1), some (.inl (x3 + 1))] [] d) none
        else
          zm 220 17 [some (.inr (.inr (some 91))), some (.inl x1), some (.inl 0), some (.inl (x3 + 1))] [] d) none
    else
      zm 220 17 [some (.inr (.inr (some 91))), some (.inl x1), some (.inl 1), some (.inl (x3 + 1))] [] d
  else
    mx_rt 1 x2 (
      some (some (.inl x2), d)) := zm_di 600 rfl
/- TickBoundModel.block -/
theorem em_221_0 (x1 x2 : Int32) (d : zd_D) : zm 221 0 [some (.inr (.inr (some 91))), some (.inl x1), some (.inl x2), none, none, none] [] d =
  (zm 219 0 [some (.inr (.inr (some 91))), none, none] [] d).bind fun q => zm 221 4 [some (.inr (.inr (some 91))), some (.inl x1), some (.inl x2), none, none, none] (q.1.toList ++ [(.inl 0), (.inl x1)]) q.2 := zm_di 600 rfl
/- TickBoundModel.block -/
theorem em_221_4 (x1 x2 y0 y1 y2 : Int32) (d : zd_D) : zm 221 4 [some (.inr (.inr (some 91))), some (.inl x1), some (.inl x2), none, none, none] [(.inl y2), (.inl y1), (.inl y0)] d =
  if y0 < y1 then
    some (some (.inl (-1000000001)), d)
  else
    if y2 - 1 < y0 then
      some (some (.inl (-1000000001)), d)
    else
      if x2 < 0 then
        some (some (.inl (-1000000001)), d)
      else
        if 1 < x2 then
          some (some (.inl (-1000000001)), d)
        else
          zm 221 20 [some (.inr (.inr (some 91))), none, some (.inl x2), some (.inl x1), some (.inl 0), none] [] d := zm_di 600 rfl
/- TickBoundModel.block -/
theorem em_221_20 (x2 x3 x4 : Int32) (d : zd_D) : zm 221 20 [some (.inr (.inr (some 91))), none, some (.inl x2), some (.inl x3), some (.inl x4), none] [] d =
  if 0 < x3 then
    (zm 220 0 [some (.inr (.inr (some 91))), some (.inl (x4 + 1)), none, none] [] d).bind fun q => zm 221 27 [some (.inr (.inr (some 91))), none, some (.inl x2), some (.inl x3), some (.inl (x4 + 1)), none] (q.1.toList ++ [(.inl x3)]) q.2
  else
    zm 221 37 [some (.inr (.inr (some 91))), none, some (.inl x2), none, some (.inl x4), some (.inl x4)] [] d := zm_di 600 rfl
/- TickBoundModel.block -/
theorem em_221_27 (x2 x3 x4 y0 y1 : Int32) (d : zd_D) : zm 221 27 [some (.inr (.inr (some 91))), none, some (.inl x2), some (.inl x3), some (.inl x4), none] [(.inl y1), (.inl y0)] d =
  if y1 = 0 then
    zm 221 20 [some (.inr (.inr (some 91))), none, some (.inl x2), some (.inl (y0 - 0)), some (.inl x4), none] [] d
  else
    zm 221 20 [some (.inr (.inr (some 91))), none, some (.inl x2), some (.inl (y0 - 1)), some (.inl x4), none] [] d := zm_di 600 rfl
/- TickBoundModel.block -/
theorem em_221_37 (x2 x4 x5 : Int32) (d : zd_D) : zm 221 37 [some (.inr (.inr (some 91))), none, some (.inl x2), none, some (.inl x4), some (.inl x5)] [] d =
  if x5 + 1 < d.1 92 8 then
    (zm 220 0 [some (.inr (.inr (some 91))), some (.inl (x5 + 1)), none, none] [] d).bind fun q => zm 221 50 [some (.inr (.inr (some 91))), none, some (.inl x2), none, some (.inl x4), some (.inl x5)] (q.1.toList ++ []) q.2
  else
    if x2 = 0 then
      some (some (.inl x4), d)
    else
      some (some (.inl x5), d) := zm_di 600 rfl
/- TickBoundModel.block -/
theorem em_221_50 (x2 x4 x5 y0 : Int32) (d : zd_D) : zm 221 50 [some (.inr (.inr (some 91))), none, some (.inl x2), none, some (.inl x4), some (.inl x5)] [(.inl y0)] d =
  if y0 = 0 then
    zm 221 37 [some (.inr (.inr (some 91))), none, some (.inl x2), none, some (.inl x4), some (.inl (x5 + 1))] [] d
  else
    if x2 = 0 then
      some (some (.inl x4), d)
    else
      some (some (.inl x5), d) := zm_di 600 rfl
/- TickBoundModel.run -/
theorem em_222_0 (x1 : Int32) (d : zd_D) : zm 222 0 [some (.inr (.inr (some 91))), some (.inl x1), none] [] d =
  (zm 223 0 [some (.inr (.inr (some 91))), some (.inl x1), some (.inl 1), none, none, none, none, none] [] d).bind fun q => zm 222 4 [some (.inr (.inr (some 91))), some (.inl x1), none] (q.1.toList ++ []) q.2 := zm_di 600 rfl
/- TickBoundModel.run -/
theorem em_222_4 (x1 : Int32) (d : zd_D) : zm 222 4 [some (.inr (.inr (some 91))), some (.inl x1), none] [] d =
  zm 222 7 [some (.inr (.inr (some 91))), none, some (.inl 0)] [] d := zm_di 600 rfl
/- TickBoundModel.run -/
theorem em_222_7 (x2 : Int32) (d : zd_D) : zm 222 7 [some (.inr (.inr (some 91))), none, some (.inl x2)] [] d =
  if x2 < 13 then
    cond (mx_in x2 13) (
      cond (mx_in x2 13) (
        zm 222 7 [some (.inr (.inr (some 91))), none, some (.inl (x2 + 1))] [] (zd_u d 102 x2.toNatClampNeg (d.1 101 x2.toNatClampNeg))) none) none
  else
    some (some (.inl (d.1 102 12)), (zd_u d 91 19 1)) := zm_di 600 rfl
/- TickBoundModel.runs -/
theorem em_223_0 (x1 x2 : Int32) (d : zd_D) : zm 223 0 [some (.inr (.inr (some 91))), some (.inl x1), some (.inl x2), none, none, none, none, none] [] d =
  (zm 224 0 [some (.inr (.inr (some 91))), some (.inl x1), none] [] d).bind fun q => zm 223 3 [some (.inr (.inr (some 91))), some (.inl x1), some (.inl x2), none, none, none, none, none] (q.1.toList ++ []) q.2 := zm_di 600 rfl
/- TickBoundModel.runs -/
theorem em_223_3 (x1 x2 : Int32) (d : zd_D) : zm 223 3 [some (.inr (.inr (some 91))), some (.inl x1), some (.inl x2), none, none, none, none, none] [] d =
  zm 223 13 [some (.inr (.inr (some 91))), none, some (.inl x2), some (.inl (d.1 92 8)), some (.inl 0), some (.inl (-1)), none, none] [] d := zm_di 600 rfl
/- TickBoundModel.runs -/
theorem em_223_13 (x2 x3 x4 x5 : Int32) (d : zd_D) : zm 223 13 [some (.inr (.inr (some 91))), none, some (.inl x2), some (.inl x3), some (.inl x4), some (.inl x5), none, none] [] d =
  if x4 < x3 then
    if d.1 101 1 < 600 then
      if d.1 101 12 = 0 then
        (zm 225 0 [some (.inr (.inr (some 91))), some (.inl x4), none, none] [] (zd_u d 101 1 ((d.1 101 1) + 1))).bind fun q => zm 223 41 [some (.inr (.inr (some 91))), none, some (.inl x2), some (.inl x3), some (.inl x4), some (.inl x5), none, none] (q.1.toList ++ [(.inl 12), (.inr (.inr (some 101)))]) q.2
      else
        if d.1 101 12 = 0 then
          if x4 < x3 then
            zm 223 169 [some (.inr (.inr (some 91))), none, none, none, none, none, some (.inl 0), none] [] (zd_u (zd_u (zd_u d 101 12 4) 101 11 x4) 101 10 1)
          else
            zm 223 169 [some (.inr (.inr (some 91))), none, none, none, none, none, some (.inl 0), none] [] (zd_u (zd_u (zd_u d 101 12 (d.1 101 12)) 101 11 x4) 101 10 1)
        else
          zm 223 169 [some (.inr (.inr (some 91))), none, none, none, none, none, some (.inl 0), none] [] (zd_u (zd_u (zd_u d 101 12 (d.1 101 12)) 101 11 x4) 101 10 1)
    else
      if d.1 101 12 = 0 then
        if x4 < x3 then
          zm 223 169 [some (.inr (.inr (some 91))), none, none, none, none, none, some (.inl 0), none] [] (zd_u (zd_u (zd_u d 101 12 4) 101 11 x4) 101 10 1)
        else
          zm 223 169 [some (.inr (.inr (some 91))), none, none, none, none, none, some (.inl 0), none] [] (zd_u (zd_u (zd_u d 101 12 (d.1 101 12)) 101 11 x4) 101 10 1)
      else
        zm 223 169 [some (.inr (.inr (some 91))), none, none, none, none, none, some (.inl 0), none] [] (zd_u (zd_u (zd_u d 101 12 (d.1 101 12)) 101 11 x4) 101 10 1)
  else
    if d.1 101 12 = 0 then
      if x4 < x3 then
        zm 223 169 [some (.inr (.inr (some 91))), none, none, none, none, none, some (.inl 0), none] [] (zd_u (zd_u (zd_u d 101 12 4) 101 11 x4) 101 10 1)
      else
        zm 223 169 [some (.inr (.inr (some 91))), none, none, none, none, none, some (.inl 0), none] [] (zd_u (zd_u (zd_u d 101 12 (d.1 101 12)) 101 11 x4) 101 10 1)
    else
      zm 223 169 [some (.inr (.inr (some 91))), none, none, none, none, none, some (.inl 0), none] [] (zd_u (zd_u (zd_u d 101 12 (d.1 101 12)) 101 11 x4) 101 10 1) := zm_di 600 rfl
/- TickBoundModel.runs -/
theorem em_223_41 (x2 x3 x4 x5 y1 y2 : Int32) (d : zd_D) : zm 223 41 [some (.inr (.inr (some 91))), none, some (.inl x2), some (.inl x3), some (.inl x4), some (.inl x5), none, none] [(.inl y2), (.inl y1), (.inr (.inr (some 101)))] d =
  cond (mx_in y1 13) (
    if (zd_u d 101 y1.toNatClampNeg y2).1 101 12 = 0 then
      if x5 < 0 then
        (zm 227 0 [some (.inr (.inr (some 91))), some (.inl x4), none, none, none] [] (zd_u (zd_u (zd_u d 101 y1.toNatClampNeg y2) 101 0 (((zd_u d 101 y1.toNatClampNeg y2).1 101 0) + 1)) 101 5 (((zd_u d 101 y1.toNatClampNeg y2).1 101 5) + 0))).bind fun q => zm 223 101 [some (.inr (.inr (some 91))), none, some (.inl x2), some (.inl x3), some (.inl x4), some (.inl x5), some (.inl 0), none] (q.1.toList ++ [(.inl 0), (.inl (((zd_u d 101 y1.toNatClampNeg y2).1 101 0) + 1)), (.inl 0), (.inr (.inr (some 101)))]) q.2
      else
        cond (mx_in (12 + (4 * x5)) 1020) (
          if d.1 92 (12 + (4 * x5)).toNatClampNeg = 1 then
            cond (mx_in ((12 + (4 * x5)) + 1) 1020) (
              (zm 217 0 [some (.inr (.inr (some 91))), some (.inl x4), some (.inl (d.1 92 ((12 + (4 * x5)) + 1).toNatClampNeg))] [] (zd_u (zd_u d 101 y1.toNatClampNeg y2) 101 0 (((zd_u d 101 y1.toNatClampNeg y2).1 101 0) + 1))).bind fun q => zm 223 68 [some (.inr (.inr (some 91))), none, some (.inl x2), some (.inl x3), some (.inl x4), some (.inl x5), none, none] (q.1.toList ++ []) q.2) none
          else
            (zm 227 0 [some (.inr (.inr (some 91))), some (.inl x4), none, none, none] [] (zd_u (zd_u (zd_u d 101 y1.toNatClampNeg y2) 101 0 (((zd_u d 101 y1.toNatClampNeg y2).1 101 0) + 1)) 101 5 (((zd_u d 101 y1.toNatClampNeg y2).1 101 5) + 0))).bind fun q => zm 223 101 [some (.inr (.inr (some 91))), none, some (.inl x2), some (.inl x3), some (.inl x4), some (.inl x5), some (.inl 0), none] (q.1.toList ++ [(.inl 0), (.inl (((zd_u d 101 y1.toNatClampNeg y2).1 101 0) + 1)), (.inl 0), (.inr (.inr (some 101)))]) q.2) none
    else
      if x2 = 0 then
        zm 223 13 [some (.inr (.inr (some 91))), none, some (.inl x2), some (.inl x3), some (.inl x4), some (.inl x5), none, none] [] (zd_u (zd_u d 101 y1.toNatClampNeg y2) 101 0 (((zd_u d 101 y1.toNatClampNeg y2).1 101 0) + 1))
      else
        cond (mx_in (((zd_u d 101 y1.toNatClampNeg y2).1 101 1) - 1) 600) (
          cond (mx_in (((zd_u d 101 y1.toNatClampNeg y2).1 101 1) - 1) 600) (
            zm 223 13 [some (.inr (.inr (some 91))), none, some (.inl x2), some (.inl x3), some (.inl x4), some (.inl x5), none, none] [] (zd_u (zd_u (zd_u (zd_u d 101 y1.toNatClampNeg y2) 101 0 (((zd_u d 101 y1.toNatClampNeg y2).1 101 0) + 1)) 103 (((zd_u d 101 y1.toNatClampNeg y2).1 101 1) - 1).toNatClampNeg x4) 104 (((zd_u d 101 y1.toNatClampNeg y2).1 101 1) - 1).toNatClampNeg (((zd_u d 101 y1.toNatClampNeg y2).1 101 0) + 1))) none) none) none := zm_di 600 rfl
/- TickBoundModel.runs -/
theorem em_223_68 (x2 x3 x4 x5 y0 : Int32) (d : zd_D) : zm 223 68 [some (.inr (.inr (some 91))), none, some (.inl x2), some (.inl x3), some (.inl x4), some (.inl x5), none, none] [(.inl y0)] d =
  if y0 = 0 then
    (zm 227 0 [some (.inr (.inr (some 91))), some (.inl x4), none, none, none] [] (zd_u d 101 5 ((d.1 101 5) + 0))).bind fun q => zm 223 101 [some (.inr (.inr (some 91))), none, some (.inl x2), some (.inl x3), some (.inl x4), some (.inl x5), some (.inl 0), none] (q.1.toList ++ [(.inl 0), (.inl (d.1 101 0)), (.inl 0), (.inr (.inr (some 101)))]) q.2
  else
    (zm 227 0 [some (.inr (.inr (some 91))), some (.inl x4), none, none, none] [] (zd_u d 101 5 ((d.1 101 5) + 1))).bind fun q => zm 223 101 [some (.inr (.inr (some 91))), none, some (.inl x2), some (.inl x3), some (.inl x4), some (.inl x5), some (.inl 1), none] (q.1.toList ++ [(.inl (d.1 92 6)), (.inl (d.1 101 0)), (.inl 0), (.inr (.inr (some 101)))]) q.2 := zm_di 600 rfl
/- TickBoundModel.runs -/
theorem em_223_101 (x2 x3 x4 x5 x6 y1 y2 y3 y4 : Int32) (d : zd_D) : zm 223 101 [some (.inr (.inr (some 91))), none, some (.inl x2), some (.inl x3), some (.inl x4), some (.inl x5), some (.inl x6), none] [(.inl y4), (.inl y3), (.inl y2), (.inl y1), (.inr (.inr (some 101)))] d =
  cond (mx_in y1 13) (
    if x2 = 0 then
      if x3 < d.1 91 33 then
        (zm 235 0 [some (.inr (.inr (some 91))), some (.inl x4), some (.inl x3), none] [] (zd_u d 101 y1.toNatClampNeg (y2 + (y3 + y4)))).bind fun q => zm 223 123 [some (.inr (.inr (some 91))), none, some (.inl x2), some (.inl x3), some (.inl x4), some (.inl x5), some (.inl x6), some (.inl x3)] (q.1.toList ++ [(.inr (.inr (some 107)))]) q.2
      else
        (zm 235 0 [some (.inr (.inr (some 91))), some (.inl x4), some (.inl (d.1 91 33)), none] [] (zd_u d 101 y1.toNatClampNeg (y2 + (y3 + y4)))).bind fun q => zm 223 123 [some (.inr (.inr (some 91))), none, some (.inl x2), some (.inl x3), some (.inl x4), some (.inl x5), some (.inl x6), some (.inl (d.1 91 33))] (q.1.toList ++ [(.inr (.inr (some 107)))]) q.2
    else
      cond (mx_in (((zd_u d 101 y1.toNatClampNeg (y2 + (y3 + y4))).1 101 1) - 1) 600) (
        cond (mx_in (((zd_u d 101 y1.toNatClampNeg (y2 + (y3 + y4))).1 101 1) - 1) 600) (
          if x3 < d.1 91 33 then
            (zm 235 0 [some (.inr (.inr (some 91))), some (.inl x4), some (.inl x3), none] [] (zd_u (zd_u (zd_u d 101 y1.toNatClampNeg (y2 + (y3 + y4))) 103 (((zd_u d 101 y1.toNatClampNeg (y2 + (y3 + y4))).1 101 1) - 1).toNatClampNeg x4) 104 (((zd_u d 101 y1.toNatClampNeg (y2 + (y3 + y4))).1 101 1) - 1).toNatClampNeg ((zd_u d 101 y1.toNatClampNeg (y2 + (y3 + y4))).1 101 0))).bind fun q => zm 223 123 [some (.inr (.inr (some 91))), none, some (.inl x2), some (.inl x3), some (.inl x4), some (.inl x5), some (.inl x6), some (.inl x3)] (q.1.toList ++ [(.inr (.inr (some 107)))]) q.2
          else
            (zm 235 0 [some (.inr (.inr (some 91))), some (.inl x4), some (.inl (d.1 91 33)), none] [] (zd_u (zd_u (zd_u d 101 y1.toNatClampNeg (y2 + (y3 + y4))) 103 (((zd_u d 101 y1.toNatClampNeg (y2 + (y3 + y4))).1 101 1) - 1).toNatClampNeg x4) 104 (((zd_u d 101 y1.toNatClampNeg (y2 + (y3 + y4))).1 101 1) - 1).toNatClampNeg ((zd_u d 101 y1.toNatClampNeg (y2 + (y3 + y4))).1 101 0))).bind fun q => zm 223 123 [some (.inr (.inr (some 91))), none, some (.inl x2), some (.inl x3), some (.inl x4), some (.inl x5), some (.inl x6), some (.inl (d.1 91 33))] (q.1.toList ++ [(.inr (.inr (some 107)))]) q.2) none) none) none := zm_di 600 rfl
/- TickBoundModel.runs -/
theorem em_223_123 (x2 x3 x4 x5 x6 x7 y1 : Int32) (d : zd_D) : zm 223 123 [some (.inr (.inr (some 91))), none, some (.inl x2), some (.inl x3), some (.inl x4), some (.inl x5), some (.inl x6), some (.inl x7)] [(.inl y1), (.inr (.inr (some 107)))] d =
  cond (mx_in y1 820) (
    cond (mx_in y1 820) (
      zm 223 13 [some (.inr (.inr (some 91))), none, some (.inl x2), some (.inl x3), some (.inl x7), some (.inl x4), none, none] [] (zd_u d 107 y1.toNatClampNeg ((d.1 107 y1.toNatClampNeg) + 1))) none) none := zm_di 600 rfl
/- TickBoundModel.runs -/
theorem em_223_169 (x6 : Int32) (d : zd_D) : zm 223 169 [some (.inr (.inr (some 91))), none, none, none, none, none, some (.inl x6), none] [] d =
  if x6 < 4 then
    cond (mx_in x6 4) (
      cond (mx_in (6 + x6) 13) (
        zm 223 169 [some (.inr (.inr (some 91))), none, none, none, none, none, some (.inl (x6 + 1)), none] [] (zd_u d 101 (6 + x6).toNatClampNeg (d.1 105 x6.toNatClampNeg))) none) none
  else
    zm 223 187 [some (.inr (.inr (some 91))), none, none, none, none, none, some (.inl 0), none] [] d := zm_di 600 rfl
/- TickBoundModel.runs -/
theorem em_223_187 (x6 : Int32) (d : zd_D) : zm 223 187 [some (.inr (.inr (some 91))), none, none, none, none, none, some (.inl x6), none] [] d =
  if x6 < d.1 91 15 then
    cond (mx_in x6 820) (
      cond (mx_in x6 820) (
        if d.1 98 x6.toNatClampNeg < d.1 99 x6.toNatClampNeg then
          zm 223 187 [some (.inr (.inr (some 91))), none, none, none, none, none, some (.inl (x6 + 1)), none] [] (zd_u d 101 10 (d.1 101 10))
        else
          cond (mx_in (200 + x6) 1020) (
            if (d.1 92 (200 + x6).toNatClampNeg) - 1 < 0 then
              zm 223 187 [some (.inr (.inr (some 91))), none, none, none, none, none, some (.inl (x6 + 1)), none] [] (zd_u d 101 10 (d.1 101 10))
            else
              cond (mx_in x6 820) (
                cond (mx_in (200 + x6) 1020) (
                  if (d.1 92 (200 + x6).toNatClampNeg) - 1 < d.1 107 x6.toNatClampNeg then
                    zm 223 187 [some (.inr (.inr (some 91))), none, none, none, none, none, some (.inl (x6 + 1)), none] [] (zd_u d 101 10 0)
                  else
                    zm 223 187 [some (.inr (.inr (some 91))), none, none, none, none, none, some (.inl (x6 + 1)), none] [] (zd_u d 101 10 (d.1 101 10))) none) none) none) none) none
  else
    some (none, d) := zm_di 600 rfl
/- TickBoundModel.begins -/
theorem em_224_0 (x1 : Int32) (d : zd_D) : zm 224 0 [some (.inr (.inr (some 91))), some (.inl x1), none] [] d =
  (zm 191 0 [some (.inr (.inr (some 91))), none, none] [] d).bind fun q => zm 224 2 [some (.inr (.inr (some 91))), some (.inl x1), none] (q.1.toList ++ []) q.2 := zm_di 600 rfl
/- TickBoundModel.begins -/
theorem em_224_2 (x1 : Int32) (d : zd_D) : zm 224 2 [some (.inr (.inr (some 91))), some (.inl x1), none] [] d =
  zm 224 5 [some (.inr (.inr (some 91))), some (.inl x1), some (.inl 0)] [] d := zm_di 600 rfl
/- TickBoundModel.begins -/
theorem em_224_5 (x1 x2 : Int32) (d : zd_D) : zm 224 5 [some (.inr (.inr (some 91))), some (.inl x1), some (.inl x2)] [] d =
  if x2 < 13 then
    cond (mx_in x2 13) (
      zm 224 5 [some (.inr (.inr (some 91))), some (.inl x1), some (.inl (x2 + 1))] [] (zd_u d 101 x2.toNatClampNeg 0)) none
  else
    zm 224 18 [some (.inr (.inr (some 91))), some (.inl x1), some (.inl 0)] [] d := zm_di 600 rfl
/- TickBoundModel.begins -/
theorem em_224_18 (x1 x2 : Int32) (d : zd_D) : zm 224 18 [some (.inr (.inr (some 91))), some (.inl x1), some (.inl x2)] [] d =
  if x2 < 4 then
    if x2 = 0 then
      cond (mx_in x2 4) (
        zm 224 18 [some (.inr (.inr (some 91))), some (.inl x1), some (.inl (x2 + 1))] [] (zd_u d 105 x2.toNatClampNeg x1)) none
    else
      cond (mx_in x2 4) (
        zm 224 18 [some (.inr (.inr (some 91))), some (.inl x1), some (.inl (x2 + 1))] [] (zd_u d 105 x2.toNatClampNeg 0)) none
  else
    zm 224 35 [some (.inr (.inr (some 91))), none, some (.inl 0)] [] d := zm_di 600 rfl
/- TickBoundModel.begins -/
theorem em_224_35 (x2 : Int32) (d : zd_D) : zm 224 35 [some (.inr (.inr (some 91))), none, some (.inl x2)] [] d =
  if x2 < 32 then
    cond (mx_in (152 + x2) 1020) (
      cond (mx_in x2 32) (
        zm 224 35 [some (.inr (.inr (some 91))), none, some (.inl (x2 + 1))] [] (zd_u d 106 x2.toNatClampNeg (d.1 92 (152 + x2).toNatClampNeg))) none) none
  else
    zm 224 53 [some (.inr (.inr (some 91))), none, some (.inl 0)] [] d := zm_di 600 rfl
/- TickBoundModel.begins -/
theorem em_224_53 (x2 : Int32) (d : zd_D) : zm 224 53 [some (.inr (.inr (some 91))), none, some (.inl x2)] [] d =
  if x2 < 16 then
    cond (mx_in x2 16) (
      zm 224 53 [some (.inr (.inr (some 91))), none, some (.inl (x2 + 1))] [] (zd_u d 108 x2.toNatClampNeg (-1))) none
  else
    zm 224 66 [some (.inr (.inr (some 91))), none, some (.inl 0)] [] d := zm_di 600 rfl
/- TickBoundModel.begins -/
theorem em_224_66 (x2 : Int32) (d : zd_D) : zm 224 66 [some (.inr (.inr (some 91))), none, some (.inl x2)] [] d =
  if x2 < 12 then
    cond (mx_in x2 12) (
      zm 224 66 [some (.inr (.inr (some 91))), none, some (.inl (x2 + 1))] [] (zd_u d 111 x2.toNatClampNeg 0)) none
  else
    zm 224 79 [some (.inr (.inr (some 91))), none, some (.inl 0)] [] d := zm_di 600 rfl
/- TickBoundModel.begins -/
theorem em_224_79 (x2 : Int32) (d : zd_D) : zm 224 79 [some (.inr (.inr (some 91))), none, some (.inl x2)] [] d =
  if x2 < 28 then
    cond (mx_in x2 28) (
      zm 224 79 [some (.inr (.inr (some 91))), none, some (.inl (x2 + 1))] [] (zd_u d 112 x2.toNatClampNeg 0)) none
  else
    zm 224 92 [some (.inr (.inr (some 91))), none, some (.inl 0)] [] d := zm_di 600 rfl
/- TickBoundModel.begins -/
theorem em_224_92 (x2 : Int32) (d : zd_D) : zm 224 92 [some (.inr (.inr (some 91))), none, some (.inl x2)] [] d =
  if x2 < d.1 91 15 then
    cond (mx_in x2 820) (
      zm 224 92 [some (.inr (.inr (some 91))), none, some (.inl (x2 + 1))] [] (zd_u d 107 x2.toNatClampNeg 0)) none
  else
    some (none, (zd_u d 91 31 0)) := zm_di 600 rfl
/- TickBoundModel.stops -/
theorem em_225_0 (x1 : Int32) (d : zd_D) : zm 225 0 [some (.inr (.inr (some 91))), some (.inl x1), none, none] [] d =
  cond (mx_in (12 + (4 * x1)) 1020) (
    if d.1 92 (12 + (4 * x1)).toNatClampNeg = 6 then
      cond (mx_in ((12 + (4 * x1)) + 3) 1020) (
        cond (mx_in (d.1 92 ((12 + (4 * x1)) + 3).toNatClampNeg) 4) (
          if d.1 105 (d.1 92 ((12 + (4 * x1)) + 3).toNatClampNeg).toNatClampNeg = 0 then
            some (some (.inl 1), d)
          else
            if d.1 92 (12 + (4 * x1)).toNatClampNeg = 1 then
              cond (mx_in ((12 + (4 * x1)) + 2) 1020) (
                if d.1 92 ((12 + (4 * x1)) + 2).toNatClampNeg = 4 then
                  cond (mx_in ((12 + (4 * x1)) + 3) 1020) (
                    if d.1 92 ((12 + (4 * x1)) + 3).toNatClampNeg < 0 then
                      some (some (.inl 2), d)
                    else
                      if 31 < d.1 92 ((12 + (4 * x1)) + 3).toNatClampNeg then
                        some (some (.inl 2), d)
                      else
                        cond (mx_in ((12 + (4 * x1)) + 1) 1020) (
                          cond (mx_in (d.1 92 ((12 + (4 * x1)) + 1).toNatClampNeg) 4) (
                            if d.1 92 (12 + (4 * x1)).toNatClampNeg = 7 then
                              if d.1 105 (d.1 92 ((12 + (4 * x1)) + 1).toNatClampNeg).toNatClampNeg < 0 then
                                some (some (.inl 3), d)
                              else
                                if 28 < d.1 105 (d.1 92 ((12 + (4 * x1)) + 1).toNatClampNeg).toNatClampNeg then
                                  some (some (.inl 3), d)
                                else
                                  cond (mx_in (124 + x1) 1020) (
                                    if ((d.1 92 (124 + x1).toNatClampNeg) >>> ((d.1 105 (d.1 92 ((12 + (4 * x1)) + 1).toNatClampNeg).toNatClampNeg) &&& 31)) &&& 1 = 0 then
                                      some (some (.inl 3), d)
                                    else
                                      some (some (.inl 0), d)) none
                            else
                              some (some (.inl 0), d)) none) none) none
                else
                  cond (mx_in ((12 + (4 * x1)) + 2) 1020) (
                    cond (mx_in (d.1 92 ((12 + (4 * x1)) + 2).toNatClampNeg) 4) (
                      cond (mx_in ((12 + (4 * x1)) + 3) 1020) (
                        if (d.1 105 (d.1 92 ((12 + (4 * x1)) + 2).toNatClampNeg).toNatClampNeg) + (d.1 92 ((12 + (4 * x1)) + 3).toNatClampNeg) < 0 then
                          some (some (.inl 2), d)
                        else
                          if 31 < (d.1 105 (d.1 92 ((12 + (4 * x1)) + 2).toNatClampNeg).toNatClampNeg) + (d.1 92 ((12 + (4 * x1)) + 3).toNatClampNeg) then
                            some (some (.inl 2), d)
                          else
                            cond (mx_in ((12 + (4 * x1)) + 1) 1020) (
                              cond (mx_in (d.1 92 ((12 + (4 * x1)) + 1).toNatClampNeg) 4) (
                                if d.1 92 (12 + (4 * x1)).toNatClampNeg = 7 then
                                  if d.1 105 (d.1 92 ((12 + (4 * x1)) + 1).toNatClampNeg).toNatClampNeg < 0 then
                                    some (some (.inl 3), d)
                                  else
                                    if 28 < d.1 105 (d.1 92 ((12 + (4 * x1)) + 1).toNatClampNeg).toNatClampNeg then
                                      some (some (.inl 3), d)
                                    else
                                      cond (mx_in (124 + x1) 1020) (
                                        if ((d.1 92 (124 + x1).toNatClampNeg) >>> ((d.1 105 (d.1 92 ((12 + (4 * x1)) + 1).toNatClampNeg).toNatClampNeg) &&& 31)) &&& 1 = 0 then
                                          some (some (.inl 3), d)
                                        else
                                          some (some (.inl 0), d)) none
                                else
                                  some (some (.inl 0), d)) none) none) none) none) none) none
            else
              if d.1 92 (12 + (4 * x1)).toNatClampNeg = 2 then
                cond (mx_in ((12 + (4 * x1)) + 2) 1020) (
                  if d.1 92 ((12 + (4 * x1)) + 2).toNatClampNeg = 4 then
                    cond (mx_in ((12 + (4 * x1)) + 3) 1020) (
                      if d.1 92 ((12 + (4 * x1)) + 3).toNatClampNeg < 0 then
                        some (some (.inl 2), d)
                      else
                        if 31 < d.1 92 ((12 + (4 * x1)) + 3).toNatClampNeg then
                          some (some (.inl 2), d)
                        else
                          cond (mx_in ((12 + (4 * x1)) + 1) 1020) (
                            cond (mx_in (d.1 92 ((12 + (4 * x1)) + 1).toNatClampNeg) 4) (
                              if d.1 92 (12 + (4 * x1)).toNatClampNeg = 7 then
                                if d.1 105 (d.1 92 ((12 + (4 * x1)) + 1).toNatClampNeg).toNatClampNeg < 0 then
                                  some (some (.inl 3), d)
                                else
                                  if 28 < d.1 105 (d.1 92 ((12 + (4 * x1)) + 1).toNatClampNeg).toNatClampNeg then
                                    some (some (.inl 3), d)
                                  else
                                    cond (mx_in (124 + x1) 1020) (
                                      if ((d.1 92 (124 + x1).toNatClampNeg) >>> ((d.1 105 (d.1 92 ((12 + (4 * x1)) + 1).toNatClampNeg).toNatClampNeg) &&& 31)) &&& 1 = 0 then
                                        some (some (.inl 3), d)
                                      else
                                        some (some (.inl 0), d)) none
                              else
                                some (some (.inl 0), d)) none) none) none
                  else
                    cond (mx_in ((12 + (4 * x1)) + 2) 1020) (
                      cond (mx_in (d.1 92 ((12 + (4 * x1)) + 2).toNatClampNeg) 4) (
                        cond (mx_in ((12 + (4 * x1)) + 3) 1020) (
                          if (d.1 105 (d.1 92 ((12 + (4 * x1)) + 2).toNatClampNeg).toNatClampNeg) + (d.1 92 ((12 + (4 * x1)) + 3).toNatClampNeg) < 0 then
                            some (some (.inl 2), d)
                          else
                            if 31 < (d.1 105 (d.1 92 ((12 + (4 * x1)) + 2).toNatClampNeg).toNatClampNeg) + (d.1 92 ((12 + (4 * x1)) + 3).toNatClampNeg) then
                              some (some (.inl 2), d)
                            else
                              cond (mx_in ((12 + (4 * x1)) + 1) 1020) (
                                cond (mx_in (d.1 92 ((12 + (4 * x1)) + 1).toNatClampNeg) 4) (
                                  if d.1 92 (12 + (4 * x1)).toNatClampNeg = 7 then
                                    if d.1 105 (d.1 92 ((12 + (4 * x1)) + 1).toNatClampNeg).toNatClampNeg < 0 then
                                      some (some (.inl 3), d)
                                    else
                                      if 28 < d.1 105 (d.1 92 ((12 + (4 * x1)) + 1).toNatClampNeg).toNatClampNeg then
                                        some (some (.inl 3), d)
                                      else
                                        cond (mx_in (124 + x1) 1020) (
                                          if ((d.1 92 (124 + x1).toNatClampNeg) >>> ((d.1 105 (d.1 92 ((12 + (4 * x1)) + 1).toNatClampNeg).toNatClampNeg) &&& 31)) &&& 1 = 0 then
                                            some (some (.inl 3), d)
                                          else
                                            some (some (.inl 0), d)) none
                                  else
                                    some (some (.inl 0), d)) none) none) none) none) none) none
              else
                cond (mx_in ((12 + (4 * x1)) + 1) 1020) (
                  cond (mx_in (d.1 92 ((12 + (4 * x1)) + 1).toNatClampNeg) 4) (
                    if d.1 92 (12 + (4 * x1)).toNatClampNeg = 7 then
                      if d.1 105 (d.1 92 ((12 + (4 * x1)) + 1).toNatClampNeg).toNatClampNeg < 0 then
                        some (some (.inl 3), d)
                      else
                        if 28 < d.1 105 (d.1 92 ((12 + (4 * x1)) + 1).toNatClampNeg).toNatClampNeg then
                          some (some (.inl 3), d)
                        else
                          cond (mx_in (124 + x1) 1020) (
                            if ((d.1 92 (124 + x1).toNatClampNeg) >>> ((d.1 105 (d.1 92 ((12 + (4 * x1)) + 1).toNatClampNeg).toNatClampNeg) &&& 31)) &&& 1 = 0 then
                              some (some (.inl 3), d)
                            else
                              some (some (.inl 0), d)) none
                    else
                      some (some (.inl 0), d)) none) none) none) none
    else
      if d.1 92 (12 + (4 * x1)).toNatClampNeg = 1 then
        cond (mx_in ((12 + (4 * x1)) + 2) 1020) (
          if d.1 92 ((12 + (4 * x1)) + 2).toNatClampNeg = 4 then
            cond (mx_in ((12 + (4 * x1)) + 3) 1020) (
              if d.1 92 ((12 + (4 * x1)) + 3).toNatClampNeg < 0 then
                some (some (.inl 2), d)
              else
                if 31 < d.1 92 ((12 + (4 * x1)) + 3).toNatClampNeg then
                  some (some (.inl 2), d)
                else
                  cond (mx_in ((12 + (4 * x1)) + 1) 1020) (
                    cond (mx_in (d.1 92 ((12 + (4 * x1)) + 1).toNatClampNeg) 4) (
                      if d.1 92 (12 + (4 * x1)).toNatClampNeg = 7 then
                        if d.1 105 (d.1 92 ((12 + (4 * x1)) + 1).toNatClampNeg).toNatClampNeg < 0 then
                          some (some (.inl 3), d)
                        else
                          if 28 < d.1 105 (d.1 92 ((12 + (4 * x1)) + 1).toNatClampNeg).toNatClampNeg then
                            some (some (.inl 3), d)
                          else
                            cond (mx_in (124 + x1) 1020) (
                              if ((d.1 92 (124 + x1).toNatClampNeg) >>> ((d.1 105 (d.1 92 ((12 + (4 * x1)) + 1).toNatClampNeg).toNatClampNeg) &&& 31)) &&& 1 = 0 then
                                some (some (.inl 3), d)
                              else
                                some (some (.inl 0), d)) none
                      else
                        some (some (.inl 0), d)) none) none) none
          else
            cond (mx_in ((12 + (4 * x1)) + 2) 1020) (
              cond (mx_in (d.1 92 ((12 + (4 * x1)) + 2).toNatClampNeg) 4) (
                cond (mx_in ((12 + (4 * x1)) + 3) 1020) (
                  if (d.1 105 (d.1 92 ((12 + (4 * x1)) + 2).toNatClampNeg).toNatClampNeg) + (d.1 92 ((12 + (4 * x1)) + 3).toNatClampNeg) < 0 then
                    some (some (.inl 2), d)
                  else
                    if 31 < (d.1 105 (d.1 92 ((12 + (4 * x1)) + 2).toNatClampNeg).toNatClampNeg) + (d.1 92 ((12 + (4 * x1)) + 3).toNatClampNeg) then
                      some (some (.inl 2), d)
                    else
                      cond (mx_in ((12 + (4 * x1)) + 1) 1020) (
                        cond (mx_in (d.1 92 ((12 + (4 * x1)) + 1).toNatClampNeg) 4) (
                          if d.1 92 (12 + (4 * x1)).toNatClampNeg = 7 then
                            if d.1 105 (d.1 92 ((12 + (4 * x1)) + 1).toNatClampNeg).toNatClampNeg < 0 then
                              some (some (.inl 3), d)
                            else
                              if 28 < d.1 105 (d.1 92 ((12 + (4 * x1)) + 1).toNatClampNeg).toNatClampNeg then
                                some (some (.inl 3), d)
                              else
                                cond (mx_in (124 + x1) 1020) (
                                  if ((d.1 92 (124 + x1).toNatClampNeg) >>> ((d.1 105 (d.1 92 ((12 + (4 * x1)) + 1).toNatClampNeg).toNatClampNeg) &&& 31)) &&& 1 = 0 then
                                    some (some (.inl 3), d)
                                  else
                                    some (some (.inl 0), d)) none
                          else
                            some (some (.inl 0), d)) none) none) none) none) none) none
      else
        if d.1 92 (12 + (4 * x1)).toNatClampNeg = 2 then
          cond (mx_in ((12 + (4 * x1)) + 2) 1020) (
            if d.1 92 ((12 + (4 * x1)) + 2).toNatClampNeg = 4 then
              cond (mx_in ((12 + (4 * x1)) + 3) 1020) (
                if d.1 92 ((12 + (4 * x1)) + 3).toNatClampNeg < 0 then
                  some (some (.inl 2), d)
                else
                  if 31 < d.1 92 ((12 + (4 * x1)) + 3).toNatClampNeg then
                    some (some (.inl 2), d)
                  else
                    cond (mx_in ((12 + (4 * x1)) + 1) 1020) (
                      cond (mx_in (d.1 92 ((12 + (4 * x1)) + 1).toNatClampNeg) 4) (
                        if d.1 92 (12 + (4 * x1)).toNatClampNeg = 7 then
                          if d.1 105 (d.1 92 ((12 + (4 * x1)) + 1).toNatClampNeg).toNatClampNeg < 0 then
                            some (some (.inl 3), d)
                          else
                            if 28 < d.1 105 (d.1 92 ((12 + (4 * x1)) + 1).toNatClampNeg).toNatClampNeg then
                              some (some (.inl 3), d)
                            else
                              cond (mx_in (124 + x1) 1020) (
                                if ((d.1 92 (124 + x1).toNatClampNeg) >>> ((d.1 105 (d.1 92 ((12 + (4 * x1)) + 1).toNatClampNeg).toNatClampNeg) &&& 31)) &&& 1 = 0 then
                                  some (some (.inl 3), d)
                                else
                                  some (some (.inl 0), d)) none
                        else
                          some (some (.inl 0), d)) none) none) none
            else
              cond (mx_in ((12 + (4 * x1)) + 2) 1020) (
                cond (mx_in (d.1 92 ((12 + (4 * x1)) + 2).toNatClampNeg) 4) (
                  cond (mx_in ((12 + (4 * x1)) + 3) 1020) (
                    if (d.1 105 (d.1 92 ((12 + (4 * x1)) + 2).toNatClampNeg).toNatClampNeg) + (d.1 92 ((12 + (4 * x1)) + 3).toNatClampNeg) < 0 then
                      some (some (.inl 2), d)
                    else
                      if 31 < (d.1 105 (d.1 92 ((12 + (4 * x1)) + 2).toNatClampNeg).toNatClampNeg) + (d.1 92 ((12 + (4 * x1)) + 3).toNatClampNeg) then
                        some (some (.inl 2), d)
                      else
                        cond (mx_in ((12 + (4 * x1)) + 1) 1020) (
                          cond (mx_in (d.1 92 ((12 + (4 * x1)) + 1).toNatClampNeg) 4) (
                            if d.1 92 (12 + (4 * x1)).toNatClampNeg = 7 then
                              if d.1 105 (d.1 92 ((12 + (4 * x1)) + 1).toNatClampNeg).toNatClampNeg < 0 then
                                some (some (.inl 3), d)
                              else
                                if 28 < d.1 105 (d.1 92 ((12 + (4 * x1)) + 1).toNatClampNeg).toNatClampNeg then
                                  some (some (.inl 3), d)
                                else
                                  cond (mx_in (124 + x1) 1020) (
                                    if ((d.1 92 (124 + x1).toNatClampNeg) >>> ((d.1 105 (d.1 92 ((12 + (4 * x1)) + 1).toNatClampNeg).toNatClampNeg) &&& 31)) &&& 1 = 0 then
                                      some (some (.inl 3), d)
                                    else
                                      some (some (.inl 0), d)) none
                            else
                              some (some (.inl 0), d)) none) none) none) none) none) none
        else
          cond (mx_in ((12 + (4 * x1)) + 1) 1020) (
            cond (mx_in (d.1 92 ((12 + (4 * x1)) + 1).toNatClampNeg) 4) (
              if d.1 92 (12 + (4 * x1)).toNatClampNeg = 7 then
                if d.1 105 (d.1 92 ((12 + (4 * x1)) + 1).toNatClampNeg).toNatClampNeg < 0 then
                  some (some (.inl 3), d)
                else
                  if 28 < d.1 105 (d.1 92 ((12 + (4 * x1)) + 1).toNatClampNeg).toNatClampNeg then
                    some (some (.inl 3), d)
                  else
                    cond (mx_in (124 + x1) 1020) (
                      if ((d.1 92 (124 + x1).toNatClampNeg) >>> ((d.1 105 (d.1 92 ((12 + (4 * x1)) + 1).toNatClampNeg).toNatClampNeg) &&& 31)) &&& 1 = 0 then
                        some (some (.inl 3), d)
                      else
                        some (some (.inl 0), d)) none
              else
                some (some (.inl 0), d)) none) none) none := zm_di 600 rfl
