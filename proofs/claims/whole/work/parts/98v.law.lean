/-! ===== the law: its loop ===== -/
section ZLoopLaw
variable {n : Nat} {xs : Nat → Int32} {a b : zd_D}
theorem zb_63 : ∀ i, i < 32 → (63#32).getLsbD i = decide (i < 6) := by decide
theorem zb_63v (x : Int32) : ∃ v, v < 64 ∧ x &&& 63 = nI v := by
  refine ⟨x.toBitVec.toNat % 64, Nat.mod_lt _ (by decide), ?_⟩
  apply Int32.toBitVec_inj.1
  show x.toBitVec &&& 63#32 = BitVec.ofNat 32 (x.toBitVec.toNat % 64)
  apply BitVec.eq_of_getLsbD_eq
  intro i hi
  rw [BitVec.getLsbD_and, zb_63 i hi, BitVec.getLsbD_ofNat, decide_eq_true hi, Bool.true_and, show 64 = 2 ^ 6 from rfl, Nat.testBit_mod_two_pow, BitVec.testBit_toNat, Bool.and_comm]
def zl_rows : List Nat := [23, 60, 77, 84, 101, 128, 155, 202, 209, 236, 263, 290, 307, 324, 351, 378, 385, 412, 439, 446, 473, 500, 527, 534, 551, 568, 585, 592, 619, 646, 673, 690, 697, 734, 771, 818, 875, 912, 939, 966, 983, 990, 997, 1004, 1011]
theorem zl_sw {β : Type} (K : Nat → β) (D : β) : ∀ v, v < 64 → mx_sw (nI v) K D [(0, 23), (1, 60), (2, 77), (3, 84), (4, 101), (5, 128), (6, 155), (7, 202), (8, 209), (9, 236), (10, 263), (11, 290), (12, 307), (13, 324), (14, 351), (15, 378), (16, 385), (17, 412), (18, 439), (19, 446), (20, 473), (21, 500), (22, 527), (23, 534), (24, 551), (25, 568), (26, 585), (27, 592), (28, 619), (29, 646), (30, 673), (31, 690), (32, 697), (33, 734), (34, 771), (35, 818), (36, 875), (37, 912), (38, 939), (39, 966), (40, 983), (41, 990), (42, 997), (43, 1004), (44, 1011)] = if v < 45 then K (zl_rows.getD v 0) else D
  | 0, _ => rfl
  | 1, _ => rfl
  | 2, _ => rfl
  | 3, _ => rfl
  | 4, _ => rfl
  | 5, _ => rfl
  | 6, _ => rfl
  | 7, _ => rfl
  | 8, _ => rfl
  | 9, _ => rfl
  | 10, _ => rfl
  | 11, _ => rfl
  | 12, _ => rfl
  | 13, _ => rfl
  | 14, _ => rfl
  | 15, _ => rfl
  | 16, _ => rfl
  | 17, _ => rfl
  | 18, _ => rfl
  | 19, _ => rfl
  | 20, _ => rfl
  | 21, _ => rfl
  | 22, _ => rfl
  | 23, _ => rfl
  | 24, _ => rfl
  | 25, _ => rfl
  | 26, _ => rfl
  | 27, _ => rfl
  | 28, _ => rfl
  | 29, _ => rfl
  | 30, _ => rfl
  | 31, _ => rfl
  | 32, _ => rfl
  | 33, _ => rfl
  | 34, _ => rfl
  | 35, _ => rfl
  | 36, _ => rfl
  | 37, _ => rfl
  | 38, _ => rfl
  | 39, _ => rfl
  | 40, _ => rfl
  | 41, _ => rfl
  | 42, _ => rfl
  | 43, _ => rfl
  | 44, _ => rfl
  | 45, _ => rfl
  | 46, _ => rfl
  | 47, _ => rfl
  | 48, _ => rfl
  | 49, _ => rfl
  | 50, _ => rfl
  | 51, _ => rfl
  | 52, _ => rfl
  | 53, _ => rfl
  | 54, _ => rfl
  | 55, _ => rfl
  | 56, _ => rfl
  | 57, _ => rfl
  | 58, _ => rfl
  | 59, _ => rfl
  | 60, _ => rfl
  | 61, _ => rfl
  | 62, _ => rfl
  | 63, _ => rfl
  | v + 64, h => absurd h (by omega)
theorem zl_turn (h : zR a b) {i : Nat} (hi : i + 6 ≤ n) (hn : n ≤ 384) : ∃ a' b', zd_den n xs 283 11 [z_r 1200000, z_r 0, z_r 91, z_i (nI i)] [] (zp_j a b) = zd_den n xs 283 11 [z_r 1200000, z_r 0, z_r 91, z_i (nI i + 6)] [] (zp_j a' b') ∧ zR a' b' := by
  have hh : ∀ q, q < 6 → mx_in (nI i + nI q) n = true := fun q hq => by rw [nI_add]; exact zb_in (by omega) (by omega)
  have h1 : mx_in (nI i + 1) n = true := hh 1 (by omega)
  have h2 : mx_in (nI i + 2) n = true := hh 2 (by omega)
  have h3 : mx_in (nI i + 3) n = true := hh 3 (by omega)
  have h4 : mx_in (nI i + 4) n = true := hh 4 (by omega)
  have h5 : mx_in (nI i + 5) n = true := hh 5 (by omega)
  have hlen : ¬ Int32.ofNat n - 6 < nI i := fun w => by
    have := (zb_sub_lt (l := n) (c := 6) (k := i) (by omega) (by omega) (by omega)).mp w
    omega
  rw [el_head, if_neg hlen, if_pos ⟨rfl, zb_in (by omega) (by omega)⟩, nI_clamp (show i < 2 ^ 31 by omega)]
  obtain ⟨v, hv, ev⟩ := zb_63v (xs i)
  rw [ev, zl_sw _ _ v hv]
  match v, hv with
  | 0, _ => exact ec_0 h (nI i) h1 h2 h3
  | 1, _ => exact ec_1 h (nI i) h1
  | 2, _ => exact ec_2 h (nI i)
  | 3, _ => exact ec_3 h (nI i) h1
  | 4, _ => exact ec_4 h (nI i) h1 h2
  | 5, _ => exact ec_5 h (nI i) h1 h2
  | 6, _ => exact ec_6 h (nI i) h1 h2 h3 h4
  | 7, _ => exact ec_7 h (nI i)
  | 8, _ => exact ec_8 h (nI i) h1 h2
  | 9, _ => exact ec_9 h (nI i) h1 h2
  | 10, _ => exact ec_10 h (nI i) h1 h2
  | 11, _ => exact ec_11 h (nI i) h1
  | 12, _ => exact ec_12 h (nI i) h1
  | 13, _ => exact ec_13 h (nI i) h1 h2
  | 14, _ => exact ec_14 h (nI i) h1 h2
  | 15, _ => exact ec_15 h (nI i)
  | 16, _ => exact ec_16 h (nI i) h1 h2
  | 17, _ => exact ec_17 h (nI i) h1 h2
  | 18, _ => exact ec_18 h (nI i)
  | 19, _ => exact ec_19 h (nI i) h1 h2
  | 20, _ => exact ec_20 h (nI i) h1 h2
  | 21, _ => exact ec_21 h (nI i) h1 h2
  | 22, _ => exact ec_22 h (nI i)
  | 23, _ => exact ec_23 h (nI i) h1
  | 24, _ => exact ec_24 h (nI i) h1
  | 25, _ => exact ec_25 h (nI i) h1
  | 26, _ => exact ec_26 h (nI i)
  | 27, _ => exact ec_27 h (nI i) h1 h2
  | 28, _ => exact ec_28 h (nI i) h1 h2
  | 29, _ => exact ec_29 h (nI i) h1 h2
  | 30, _ => exact ec_30 h (nI i) h1
  | 31, _ => exact ec_31 h (nI i)
  | 32, _ => exact ec_32 h (nI i) h1 h2 h3
  | 33, _ => exact ec_33 h (nI i) h1 h2 h3
  | 34, _ => exact ec_34 h (nI i) h1 h2 h3 h4
  | 35, _ => exact ec_35 h (nI i) h1 h2 h3 h4 h5
  | 36, _ => exact ec_36 h (nI i) h1 h2 h3
  | 37, _ => exact ec_37 h (nI i) h1 h2
  | 38, _ => exact ec_38 h (nI i) h1 h2
  | 39, _ => exact ec_39 h (nI i) h1
  | 40, _ => exact ec_40 h (nI i)
  | 41, _ => exact ec_41 h (nI i)
  | 42, _ => exact ec_42 h (nI i)
  | 43, _ => exact ec_43 h (nI i)
  | 44, _ => exact ec_44 h (nI i) h1
  | v + 45, hv =>
    rw [if_neg (show ¬ v + 45 < 45 by omega), el_skip]
    exact ⟨a, b, rfl, h⟩
theorem zl_all (hn : n ≤ 384) : ∀ g i (a b : zd_D), n - i ≤ g → i ≤ n + 6 → zR a b → ∃ a' b', zd_den n xs 283 11 [z_r 1200000, z_r 0, z_r 91, z_i (nI i)] [] (zp_j a b) = some (some (.inl 1), zp_j a' b') := by
  intro g
  induction g with
  | zero =>
    intro i a b hg hi h
    refine ⟨a, b, ?_⟩
    rw [el_head, if_pos (show Int32.ofNat n - 6 < nI i from (zb_sub_lt (l := n) (c := 6) (k := i) (by omega) (by omega) (by omega)).mpr (by omega))]
  | succ g ih =>
    intro i a b hg hi h
    by_cases c : i + 6 ≤ n
    · obtain ⟨a', b', e, h'⟩ := zl_turn (xs := xs) h c hn
      obtain ⟨a2, b2, e2⟩ := ih (i + 6) a' b' (by omega) (by omega) h'
      refine ⟨a2, b2, ?_⟩
      rw [e, show nI i + 6 = nI (i + 6) from nI_add i 6]
      exact e2
    · refine ⟨a, b, ?_⟩
      rw [el_head, if_pos (show Int32.ofNat n - 6 < nI i from (zb_sub_lt (l := n) (c := 6) (k := i) (by omega) (by omega) (by omega)).mpr (by omega))]
end ZLoopLaw
