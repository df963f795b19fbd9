/-! ===== the law, piece by piece ===== -/
theorem zt_ck_zc_283_0 : mx_all (zt_ck 283) zc_283_0 = true := by decide +kernel
theorem zt_ck_zc_283_1 : mx_all (zt_ck 283) zc_283_1 = true := by decide +kernel
theorem zt_ck_zc_283_2 : mx_all (zt_ck 283) zc_283_2 = true := by decide +kernel
theorem zt_ck_zc_283_3 : mx_all (zt_ck 283) zc_283_3 = true := by decide +kernel
theorem zt_ck_zc_283_4 : mx_all (zt_ck 283) zc_283_4 = true := by decide +kernel
theorem zt_ck_zc_283_5 : mx_all (zt_ck 283) zc_283_5 = true := by decide +kernel
theorem zt_ck_zc_283_6 : mx_all (zt_ck 283) zc_283_6 = true := by decide +kernel
theorem zt_ck_zc_283_7 : mx_all (zt_ck 283) zc_283_7 = true := by decide +kernel
theorem zt_ck_zc_283_8 : mx_all (zt_ck 283) zc_283_8 = true := by decide +kernel
theorem zt_ck_zc_283_9 : mx_all (zt_ck 283) zc_283_9 = true := by decide +kernel
theorem zt_ck_zc_283_10 : mx_all (zt_ck 283) zc_283_10 = true := by decide +kernel
theorem zt_ck_zc_283_11 : mx_all (zt_ck 283) zc_283_11 = true := by decide +kernel
theorem zt_ck_zc_283_12 : mx_all (zt_ck 283) zc_283_12 = true := by decide +kernel
theorem zt_ck_zc_283_13 : mx_all (zt_ck 283) zc_283_13 = true := by decide +kernel
theorem zt_ck_zc_283_14 : mx_all (zt_ck 283) zc_283_14 = true := by decide +kernel
theorem zt_ck_zc_283_15 : mx_all (zt_ck 283) zc_283_15 = true := by decide +kernel
theorem zt_and {q : mx_I → Bool} {p : Nat} {l r : mx_T} (hl : mx_all q l = true) (hr : mx_all q r = true) : mx_all q (.branch p l r) = true := by
  show (mx_all q l && mx_all q r) = true
  rw [hl, hr]
  rfl
theorem zt_ck_law : mx_all (zt_ck 283) (zc 283) = true := by
  show mx_all (zt_ck 283) zc_283 = true
  exact (zt_and (zt_and (zt_and (zt_and zt_ck_zc_283_0 zt_ck_zc_283_1) (zt_and zt_ck_zc_283_2 zt_ck_zc_283_3)) (zt_and (zt_and zt_ck_zc_283_4 zt_ck_zc_283_5) (zt_and zt_ck_zc_283_6 zt_ck_zc_283_7))) (zt_and (zt_and (zt_and zt_ck_zc_283_8 zt_ck_zc_283_9) (zt_and zt_ck_zc_283_10 zt_ck_zc_283_11)) (zt_and (zt_and zt_ck_zc_283_12 zt_ck_zc_283_13) (zt_and zt_ck_zc_283_14 zt_ck_zc_283_15))))
theorem zt_ck_lt (k : Nat) (h : k < 284) : mx_all (zt_ck k) (zc k) = true := by
  by_cases h0 : k < 8
  · exact zt_ch (P := fun k => mx_all (zt_ck k) (zc k)) zt_ck_0 (by omega) (by omega)
  by_cases h1 : k < 17
  · exact zt_ch (P := fun k => mx_all (zt_ck k) (zc k)) zt_ck_1 (by omega) (by omega)
  by_cases h2 : k < 31
  · exact zt_ch (P := fun k => mx_all (zt_ck k) (zc k)) zt_ck_2 (by omega) (by omega)
  by_cases h3 : k < 44
  · exact zt_ch (P := fun k => mx_all (zt_ck k) (zc k)) zt_ck_3 (by omega) (by omega)
  by_cases h4 : k < 56
  · exact zt_ch (P := fun k => mx_all (zt_ck k) (zc k)) zt_ck_4 (by omega) (by omega)
  by_cases h5 : k < 66
  · exact zt_ch (P := fun k => mx_all (zt_ck k) (zc k)) zt_ck_5 (by omega) (by omega)
  by_cases h6 : k < 72
  · exact zt_ch (P := fun k => mx_all (zt_ck k) (zc k)) zt_ck_6 (by omega) (by omega)
  by_cases h7 : k < 80
  · exact zt_ch (P := fun k => mx_all (zt_ck k) (zc k)) zt_ck_7 (by omega) (by omega)
  by_cases h8 : k < 86
  · exact zt_ch (P := fun k => mx_all (zt_ck k) (zc k)) zt_ck_8 (by omega) (by omega)
  by_cases h9 : k < 94
  · exact zt_ch (P := fun k => mx_all (zt_ck k) (zc k)) zt_ck_9 (by omega) (by omega)
  by_cases h10 : k < 104
  · exact zt_ch (P := fun k => mx_all (zt_ck k) (zc k)) zt_ck_10 (by omega) (by omega)
  by_cases h11 : k < 115
  · exact zt_ch (P := fun k => mx_all (zt_ck k) (zc k)) zt_ck_11 (by omega) (by omega)
  by_cases h12 : k < 122
  · exact zt_ch (P := fun k => mx_all (zt_ck k) (zc k)) zt_ck_12 (by omega) (by omega)
  by_cases h13 : k < 131
  · exact zt_ch (P := fun k => mx_all (zt_ck k) (zc k)) zt_ck_13 (by omega) (by omega)
  by_cases h14 : k < 144
  · exact zt_ch (P := fun k => mx_all (zt_ck k) (zc k)) zt_ck_14 (by omega) (by omega)
  by_cases h15 : k < 153
  · exact zt_ch (P := fun k => mx_all (zt_ck k) (zc k)) zt_ck_15 (by omega) (by omega)
  by_cases h16 : k < 160
  · exact zt_ch (P := fun k => mx_all (zt_ck k) (zc k)) zt_ck_16 (by omega) (by omega)
  by_cases h17 : k < 166
  · exact zt_ch (P := fun k => mx_all (zt_ck k) (zc k)) zt_ck_17 (by omega) (by omega)
  by_cases h18 : k < 167
  · exact zt_ch (P := fun k => mx_all (zt_ck k) (zc k)) zt_ck_18 (by omega) (by omega)
  by_cases h19 : k < 174
  · exact zt_ch (P := fun k => mx_all (zt_ck k) (zc k)) zt_ck_19 (by omega) (by omega)
  by_cases h20 : k < 181
  · exact zt_ch (P := fun k => mx_all (zt_ck k) (zc k)) zt_ck_20 (by omega) (by omega)
  by_cases h21 : k < 190
  · exact zt_ch (P := fun k => mx_all (zt_ck k) (zc k)) zt_ck_21 (by omega) (by omega)
  by_cases h22 : k < 197
  · exact zt_ch (P := fun k => mx_all (zt_ck k) (zc k)) zt_ck_22 (by omega) (by omega)
  by_cases h23 : k < 208
  · exact zt_ch (P := fun k => mx_all (zt_ck k) (zc k)) zt_ck_23 (by omega) (by omega)
  by_cases h24 : k < 219
  · exact zt_ch (P := fun k => mx_all (zt_ck k) (zc k)) zt_ck_24 (by omega) (by omega)
  by_cases h25 : k < 223
  · exact zt_ch (P := fun k => mx_all (zt_ck k) (zc k)) zt_ck_25 (by omega) (by omega)
  by_cases h26 : k < 225
  · exact zt_ch (P := fun k => mx_all (zt_ck k) (zc k)) zt_ck_26 (by omega) (by omega)
  by_cases h27 : k < 229
  · exact zt_ch (P := fun k => mx_all (zt_ck k) (zc k)) zt_ck_27 (by omega) (by omega)
  by_cases h28 : k < 233
  · exact zt_ch (P := fun k => mx_all (zt_ck k) (zc k)) zt_ck_28 (by omega) (by omega)
  by_cases h29 : k < 243
  · exact zt_ch (P := fun k => mx_all (zt_ck k) (zc k)) zt_ck_29 (by omega) (by omega)
  by_cases h30 : k < 249
  · exact zt_ch (P := fun k => mx_all (zt_ck k) (zc k)) zt_ck_30 (by omega) (by omega)
  by_cases h31 : k < 256
  · exact zt_ch (P := fun k => mx_all (zt_ck k) (zc k)) zt_ck_31 (by omega) (by omega)
  by_cases h32 : k < 266
  · exact zt_ch (P := fun k => mx_all (zt_ck k) (zc k)) zt_ck_32 (by omega) (by omega)
  by_cases h33 : k < 271
  · exact zt_ch (P := fun k => mx_all (zt_ck k) (zc k)) zt_ck_33 (by omega) (by omega)
  by_cases h34 : k < 277
  · exact zt_ch (P := fun k => mx_all (zt_ck k) (zc k)) zt_ck_34 (by omega) (by omega)
  by_cases h35 : k < 283
  · exact zt_ch (P := fun k => mx_all (zt_ck k) (zc k)) zt_ck_35 (by omega) (by omega)
  have hk : k = 283 := by omega
  subst hk
  exact zt_ck_law
theorem zt_ck_all (k j : Nat) : zt_ck k (mx_get (zc k) j) = true := by
  by_cases h : k < 284
  · exact mx_all_get _ _ (zt_ck_lt k h)
  · have hz : zc k = .leaf (.athrow, 0, 0, 0, 0, 0, []) := by
      unfold zc
      have hb : Nat.blt k 284 = false := by
        cases hb : Nat.blt k 284 with
        | false => rfl
        | true => exact absurd (Nat.blt_eq.mp hb) h
      rw [hb]
      rfl
    rw [hz]
    rfl
