theorem zt_ck_18 : (List.range 1).all (fun j => mx_all (zt_ck (166 + j)) (zc (166 + j))) = true := by decide +kernel
theorem zt_ck_19 : (List.range 7).all (fun j => mx_all (zt_ck (167 + j)) (zc (167 + j))) = true := by decide +kernel
theorem zt_ck_20 : (List.range 7).all (fun j => mx_all (zt_ck (174 + j)) (zc (174 + j))) = true := by decide +kernel
theorem zt_ck_21 : (List.range 9).all (fun j => mx_all (zt_ck (181 + j)) (zc (181 + j))) = true := by decide +kernel
theorem zt_ck_22 : (List.range 7).all (fun j => mx_all (zt_ck (190 + j)) (zc (190 + j))) = true := by decide +kernel
theorem zt_ck_23 : (List.range 11).all (fun j => mx_all (zt_ck (197 + j)) (zc (197 + j))) = true := by decide +kernel
theorem zt_ck_24 : (List.range 11).all (fun j => mx_all (zt_ck (208 + j)) (zc (208 + j))) = true := by decide +kernel
theorem zt_ck_25 : (List.range 4).all (fun j => mx_all (zt_ck (219 + j)) (zc (219 + j))) = true := by decide +kernel
theorem zt_ck_26 : (List.range 2).all (fun j => mx_all (zt_ck (223 + j)) (zc (223 + j))) = true := by decide +kernel
theorem zt_ck_27 : (List.range 4).all (fun j => mx_all (zt_ck (225 + j)) (zc (225 + j))) = true := by decide +kernel
theorem zt_ck_28 : (List.range 4).all (fun j => mx_all (zt_ck (229 + j)) (zc (229 + j))) = true := by decide +kernel
theorem zt_ck_29 : (List.range 10).all (fun j => mx_all (zt_ck (233 + j)) (zc (233 + j))) = true := by decide +kernel
theorem zt_ck_30 : (List.range 6).all (fun j => mx_all (zt_ck (243 + j)) (zc (243 + j))) = true := by decide +kernel
theorem zt_ck_31 : (List.range 7).all (fun j => mx_all (zt_ck (249 + j)) (zc (249 + j))) = true := by decide +kernel
theorem zt_ck_32 : (List.range 10).all (fun j => mx_all (zt_ck (256 + j)) (zc (256 + j))) = true := by decide +kernel
theorem zt_ck_33 : (List.range 5).all (fun j => mx_all (zt_ck (266 + j)) (zc (266 + j))) = true := by decide +kernel
theorem zt_ck_34 : (List.range 6).all (fun j => mx_all (zt_ck (271 + j)) (zc (271 + j))) = true := by decide +kernel
theorem zt_ck_35 : (List.range 4).all (fun j => mx_all (zt_ck (277 + j)) (zc (277 + j))) = true := by decide +kernel
theorem zt_ck_36 : (List.range 1).all (fun j => mx_all (zt_ck (281 + j)) (zc (281 + j))) = true := by decide +kernel
theorem zt_ch2 {P : Nat → Bool} {n o : Nat} (h : (List.range n).all (fun j => P (o + j)) = true) {k : Nat} (h1 : o ≤ k) (h2 : k < o + n) : P k = true := zt_ch h h1 h2
theorem zt_ck_lt (k : Nat) (h : k < 282) : mx_all (zt_ck k) (zc k) = true := by
  by_cases h0 : k < 8
  · exact zt_ch (P := fun k => mx_all (zt_ck k) (zc k)) zt_ck_0 (by omega) (by omega)
  by_cases h1 : k < 17
  · exact zt_ch (P := fun k => mx_all (zt_ck k) (zc k)) zt_ck_1 (by omega) (by omega)
  by_cases h2 : k < 32
  · exact zt_ch (P := fun k => mx_all (zt_ck k) (zc k)) zt_ck_2 (by omega) (by omega)
  by_cases h3 : k < 44
  · exact zt_ch (P := fun k => mx_all (zt_ck k) (zc k)) zt_ck_3 (by omega) (by omega)
  by_cases h4 : k < 56
  · exact zt_ch (P := fun k => mx_all (zt_ck k) (zc k)) zt_ck_4 (by omega) (by omega)
  by_cases h5 : k < 66
  · exact zt_ch (P := fun k => mx_all (zt_ck k) (zc k)) zt_ck_5 (by omega) (by omega)
  by_cases h6 : k < 72
  · exact zt_ch (P := fun k => mx_all (zt_ck k) (zc k)) zt_ck_6 (by omega) (by omega)
  by_cases h7 : k < 80
  · exact zt_ch (P := fun k => mx_all (zt_ck k) (zc k)) zt_ck_7 (by omega) (by omega)
  by_cases h8 : k < 86
  · exact zt_ch (P := fun k => mx_all (zt_ck k) (zc k)) zt_ck_8 (by omega) (by omega)
  by_cases h9 : k < 94
  · exact zt_ch (P := fun k => mx_all (zt_ck k) (zc k)) zt_ck_9 (by omega) (by omega)
  by_cases h10 : k < 104
  · exact zt_ch (P := fun k => mx_all (zt_ck k) (zc k)) zt_ck_10 (by omega) (by omega)
  by_cases h11 : k < 115
  · exact zt_ch (P := fun k => mx_all (zt_ck k) (zc k)) zt_ck_11 (by omega) (by omega)
  by_cases h12 : k < 122
  · exact zt_ch (P := fun k => mx_all (zt_ck k) (zc k)) zt_ck_12 (by omega) (by omega)
  by_cases h13 : k < 131
  · exact zt_ch (P := fun k => mx_all (zt_ck k) (zc k)) zt_ck_13 (by omega) (by omega)
  by_cases h14 : k < 144
  · exact zt_ch (P := fun k => mx_all (zt_ck k) (zc k)) zt_ck_14 (by omega) (by omega)
  by_cases h15 : k < 153
  · exact zt_ch (P := fun k => mx_all (zt_ck k) (zc k)) zt_ck_15 (by omega) (by omega)
  by_cases h16 : k < 160
  · exact zt_ch (P := fun k => mx_all (zt_ck k) (zc k)) zt_ck_16 (by omega) (by omega)
  by_cases h17 : k < 166
  · exact zt_ch (P := fun k => mx_all (zt_ck k) (zc k)) zt_ck_17 (by omega) (by omega)
  by_cases h18 : k < 167
  · exact zt_ch (P := fun k => mx_all (zt_ck k) (zc k)) zt_ck_18 (by omega) (by omega)
  by_cases h19 : k < 174
  · exact zt_ch (P := fun k => mx_all (zt_ck k) (zc k)) zt_ck_19 (by omega) (by omega)
  by_cases h20 : k < 181
  · exact zt_ch (P := fun k => mx_all (zt_ck k) (zc k)) zt_ck_20 (by omega) (by omega)
  by_cases h21 : k < 190
  · exact zt_ch (P := fun k => mx_all (zt_ck k) (zc k)) zt_ck_21 (by omega) (by omega)
  by_cases h22 : k < 197
  · exact zt_ch (P := fun k => mx_all (zt_ck k) (zc k)) zt_ck_22 (by omega) (by omega)
  by_cases h23 : k < 208
  · exact zt_ch (P := fun k => mx_all (zt_ck k) (zc k)) zt_ck_23 (by omega) (by omega)
  by_cases h24 : k < 219
  · exact zt_ch (P := fun k => mx_all (zt_ck k) (zc k)) zt_ck_24 (by omega) (by omega)
  by_cases h25 : k < 223
  · exact zt_ch (P := fun k => mx_all (zt_ck k) (zc k)) zt_ck_25 (by omega) (by omega)
  by_cases h26 : k < 225
  · exact zt_ch (P := fun k => mx_all (zt_ck k) (zc k)) zt_ck_26 (by omega) (by omega)
  by_cases h27 : k < 229
  · exact zt_ch (P := fun k => mx_all (zt_ck k) (zc k)) zt_ck_27 (by omega) (by omega)
  by_cases h28 : k < 233
  · exact zt_ch (P := fun k => mx_all (zt_ck k) (zc k)) zt_ck_28 (by omega) (by omega)
  by_cases h29 : k < 243
  · exact zt_ch (P := fun k => mx_all (zt_ck k) (zc k)) zt_ck_29 (by omega) (by omega)
  by_cases h30 : k < 249
  · exact zt_ch (P := fun k => mx_all (zt_ck k) (zc k)) zt_ck_30 (by omega) (by omega)
  by_cases h31 : k < 256
  · exact zt_ch (P := fun k => mx_all (zt_ck k) (zc k)) zt_ck_31 (by omega) (by omega)
  by_cases h32 : k < 266
  · exact zt_ch (P := fun k => mx_all (zt_ck k) (zc k)) zt_ck_32 (by omega) (by omega)
  by_cases h33 : k < 271
  · exact zt_ch (P := fun k => mx_all (zt_ck k) (zc k)) zt_ck_33 (by omega) (by omega)
  by_cases h34 : k < 277
  · exact zt_ch (P := fun k => mx_all (zt_ck k) (zc k)) zt_ck_34 (by omega) (by omega)
  by_cases h35 : k < 281
  · exact zt_ch (P := fun k => mx_all (zt_ck k) (zc k)) zt_ck_35 (by omega) (by omega)
  by_cases h36 : k < 282
  · exact zt_ch (P := fun k => mx_all (zt_ck k) (zc k)) zt_ck_36 (by omega) (by omega)
  omega
theorem zt_ck_all (k j : Nat) : zt_ck k (mx_get (zc k) j) = true := by
  by_cases h : k < 282
  · exact mx_all_get _ _ (zt_ck_lt k h)
  · have hz : zc k = .leaf (.athrow, 0, 0, 0, 0, 0, []) := by
      unfold zc
      have hb : Nat.blt k 282 = false := by
        cases hb : Nat.blt k 282 with
        | false => rfl
        | true => exact absurd (Nat.blt_eq.mp hb) h
      rw [hb]
      rfl
    rw [hz]
    rfl
