/-! ===== the class: costs and factors ===== -/
section RxCost
variable {nl : Int32} {a a' : zd_D} {f : zF} {n : Nat} {lk : Int32}
theorem zK1 {c0 : Nat} (h0 : ¬ c0 = 0) (h : ∀ c, ¬ c = c0 → a'.1 c = a.1 c) (h2 : a'.2 = a.2) : zK 0 [c0] [] a a' := by
  refine ⟨fun c _ hc => h c fun e => ?_, fun i _ => ?_, h2⟩
  · subst e
    simp at hc
  · rw [h 0 (fun e => h0 e.symm)]
theorem rx_rem (hW : zW f n) (hm : ∀ i, i < 8 → a.1 2 i = f i) : zx nl 36 0 [z_r 1] [] a = some (some (.inl (nI (zs_rem f))), a) := by
  rw [ex_36_0, hm 2 (by omega), hm 1 (by omega)]
  obtain ⟨-, -, ⟨⟨-, h1⟩, h2, -⟩, -⟩ := hW
  unfold zs_rem
  rcases h1 with h1 | h1 | h1 <;> rcases h2 with h2 | h2 | h2 <;> rw [h1, h2] <;> rfl
theorem rx_fill {c0 L : Nat} (hc : c0 = 40 ∨ c0 = 42 ∨ c0 = 46 ∨ c0 = 50 ∨ c0 = 54 ∨ c0 = 55) (hl : zd_l c0 = L) (hL : L < 2 ^ 31) (x : Int32) : ∃ a', zx nl 58 0 [z_r c0, z_i x, none, none] [] a = some (none, a') ∧ zK 0 [c0] [] a a' ∧ ∀ i, i < L → a'.1 c0 i = x := by
  rw [ex_58_0 c0 x hc]
  have key := zl_up (F := fun i c => zx nl 58 6 [z_r c0, z_i x, z_i (nI i), z_i (nI L)] [] c) (n := L) (I := fun i c => (∀ k, ¬ k = c0 → c.1 k = a.1 k) ∧ c.2 = a.2 ∧ ∀ j, j < i → c.1 c0 j = x) (Q := fun v c => v = none ∧ (∀ k, ¬ k = c0 → c.1 k = a.1 k) ∧ c.2 = a.2 ∧ ∀ j, j < L → c.1 c0 j = x)
    (by
      rintro i c hi ⟨h1, h2, h3⟩
      left
      try dsimp only
      rw [ex_58_6 c0 _ _ _ hc, hl]
      simp (disch := omega) only [zb_ltl, zb_llt, zb_eql, zb_leq, nI_ltI, nI_eq, zb_in, nI_clamp, zb_al, zb_la, zb_ml, zb_lm, zb_mul, nI_add, Bool.false_eq_true, reduceCtorEq, Nat.not_lt_zero, cond_true, cond_false, ↓reduceIte, if_true, if_false, Option.toList_some, Option.toList_none, List.nil_append, List.cons_append, Option.bind_some, hi]
      refine ⟨_, ⟨fun k hk => (zb_uc _ _ _ _ hk).trans (h1 k hk), h2, fun j hj => ?_⟩, rfl⟩
      by_cases hji : j = i
      · subst hji; exact zb_ue _ _ _ _
      · rw [zb_ui _ _ _ _ hji]; exact h3 j (by omega))
    (by
      rintro c ⟨h1, h2, h3⟩
      try dsimp only
      rw [ex_58_6 c0 _ _ _ hc, hl]
      simp (disch := omega) only [zb_ltl, zb_llt, zb_eql, zb_leq, nI_ltI, nI_eq, zb_in, nI_clamp, zb_al, zb_la, zb_ml, zb_lm, zb_mul, nI_add, Bool.false_eq_true, reduceCtorEq, Nat.not_lt_zero, cond_true, cond_false, ↓reduceIte, if_true, if_false, Option.toList_some, Option.toList_none, List.nil_append, List.cons_append, Option.bind_some, Nat.lt_irrefl]
      exact zw_ret ⟨rfl, h1, h2, h3⟩)
    0 a (Nat.zero_le _) ⟨fun _ _ => rfl, rfl, fun j hj => absurd hj (Nat.not_lt_zero j)⟩
  obtain ⟨v, d, e, hv, h1, h2, h3⟩ := key
  subst hv
  rw [hl]
  exact ⟨d, e, zK1 (by omega) h1 h2, h3⟩
theorem rx_fillr {c0 L q : Nat} (hc : c0 = 44 ∨ c0 = 54) (hl : zd_l c0 = L) (hL : L < 2 ^ 31) (hq : q ≤ L) (x : Int32) : ∃ a', zx nl 59 0 [z_r c0, z_i 0, z_i (nI q), z_i x, none] [] a = some (none, a') ∧ zK 0 [c0] [] a a' ∧ (∀ i, i < q → a'.1 c0 i = x) ∧ ∀ i, q ≤ i → a'.1 c0 i = a.1 c0 i := by
  have key := zl_up (F := fun i c => zx nl 59 8 [z_r c0, none, z_i (nI q), z_i x, z_i (nI i)] [] c) (n := q) (I := fun i c => (∀ k, ¬ k = c0 → c.1 k = a.1 k) ∧ c.2 = a.2 ∧ (∀ j, j < i → c.1 c0 j = x) ∧ ∀ j, i ≤ j → c.1 c0 j = a.1 c0 j) (Q := fun v c => v = none ∧ (∀ k, ¬ k = c0 → c.1 k = a.1 k) ∧ c.2 = a.2 ∧ (∀ j, j < q → c.1 c0 j = x) ∧ ∀ j, q ≤ j → c.1 c0 j = a.1 c0 j)
    (by
      rintro i c hi ⟨h1, h2, h3, h4⟩
      left
      try dsimp only
      rw [ex_59_8 c0 _ _ _ hc, hl]
      simp (disch := omega) only [zb_ltl, zb_llt, zb_eql, zb_leq, nI_ltI, nI_eq, zb_in, nI_clamp, zb_al, zb_la, zb_ml, zb_lm, zb_mul, nI_add, Bool.false_eq_true, reduceCtorEq, Nat.not_lt_zero, cond_true, cond_false, ↓reduceIte, if_true, if_false, Option.toList_some, Option.toList_none, List.nil_append, List.cons_append, Option.bind_some, hi]
      refine ⟨_, ⟨fun k hk => (zb_uc _ _ _ _ hk).trans (h1 k hk), h2, fun j hj => ?_, fun j hj => ?_⟩, rfl⟩
      · by_cases hji : j = i
        · subst hji; exact zb_ue _ _ _ _
        · rw [zb_ui _ _ _ _ hji]; exact h3 j (by omega)
      · rw [zb_ui _ _ _ _ (by omega)]; exact h4 j (by omega))
    (by
      rintro c ⟨h1, h2, h3, h4⟩
      try dsimp only
      rw [ex_59_8 c0 _ _ _ hc]
      simp (disch := omega) only [zb_ltl, zb_llt, zb_eql, zb_leq, nI_ltI, nI_eq, zb_in, nI_clamp, zb_al, zb_la, zb_ml, zb_lm, zb_mul, nI_add, Bool.false_eq_true, reduceCtorEq, Nat.not_lt_zero, cond_true, cond_false, ↓reduceIte, if_true, if_false, Option.toList_some, Option.toList_none, List.nil_append, List.cons_append, Option.bind_some, Nat.lt_irrefl]
      exact zw_ret ⟨rfl, h1, h2, h3, h4⟩)
    0 a (Nat.zero_le _) ⟨fun _ _ => rfl, rfl, fun j hj => absurd hj (Nat.not_lt_zero j), fun _ _ => rfl⟩
  obtain ⟨v, d, e, hv, h1, h2, h3, h4⟩ := key
  subst hv
  refine ⟨d, ?_, zK1 (by omega) h1 h2, h3, h4⟩
  rw [ex_59_0 c0 _ _ _ hc, hl, show (Int32.ofNat L) = nI L from rfl, show (0 : Int32) = nI 0 from rfl]
  simp (disch := omega) only [nI_ltI, Bool.false_eq_true, reduceCtorEq, Nat.not_lt_zero, cond_true, cond_false, ↓reduceIte, if_true, if_false, Option.toList_some, Option.toList_none, List.nil_append, List.cons_append, Option.bind_some, show ¬ L < q by omega]
  exact e
theorem rx_tells (hW : zW f n) (hP : zAP a f n) (hX : zXV a f n lk (zs_X f n lk) (zs_V f n lk)) {k : Nat} (hk : k < n) : zx nl 68 0 [z_r 53, z_i (nI k), none] [] a = some (some (.inl (if zs_ln f k = -2 then -1000000005 else zs_tl f n lk k)), a) := by
  have hn := hW.le
  obtain ⟨hr1, hr4⟩ := hW.rem
  have hln : a.1 9 k = zs_ln f k := (hP.1.2 k hk).2.2.2.2.2
  obtain ⟨⟨x0, x3, x4⟩, hX1, hV1⟩ := hX
  rw [ex_68_0]
  simp (disch := omega) only [zb_ltl, zb_llt, zb_eql, zb_leq, nI_ltI, nI_eq, zb_in, nI_clamp, zb_al, zb_la, zb_ml, zb_lm, zb_mul, nI_add, Bool.false_eq_true, reduceCtorEq, Nat.not_lt_zero, cond_true, cond_false, ↓reduceIte, if_true, if_false, Option.toList_some, Option.toList_none, List.nil_append, List.cons_append, Option.bind_some, hln, x3, x4]
  unfold zs_tl zs_hit zs_lk
  rcases zs_ln_cases (hW.2.2.2 k hk).1 with h | h | ⟨q, hq, h⟩
  · simp only [h, show ((-2 : Int32) < 0) by decide, Bool.false_eq_true, reduceCtorEq, Nat.not_lt_zero, cond_true, cond_false, ↓reduceIte, if_true, if_false, Option.toList_some, Option.toList_none, List.nil_append, List.cons_append, Option.bind_some]
  · simp only [h, show ((-1 : Int32) < 0) by decide, show ¬ ((-1 : Int32) = -2) by decide, Bool.false_eq_true, reduceCtorEq, Nat.not_lt_zero, cond_true, cond_false, ↓reduceIte, if_true, if_false, Option.toList_some, Option.toList_none, List.nil_append, List.cons_append, Option.bind_some]
  · have hx := hX1 (16 * k + q) (by omega)
    have hx' : a.1 54 (k * 16 + q) = nI (zs_X f n lk (16 * k + q)) := by rw [show k * 16 + q = 16 * k + q by omega]; exact hx.1
    have hv := hV1 k hk
    simp (disch := omega) only [h, zb_m2, zb_ltl, zb_llt, zb_eql, zb_leq, nI_ltI, nI_eq, zb_in, nI_clamp, zb_al, zb_la, zb_ml, zb_lm, zb_mul, nI_add, Bool.false_eq_true, reduceCtorEq, Nat.not_lt_zero, cond_true, cond_false, ↓reduceIte, if_true, if_false, Option.toList_some, Option.toList_none, List.nil_append, List.cons_append, Option.bind_some, hx', hv.1, zb_bit0, not_false_eq_true, decide_true, Bool.true_and]
    by_cases hlk : (lk >>> (nI q &&& 31)) &&& 1 = 1
    · simp only [hlk, Bool.false_eq_true, reduceCtorEq, Nat.not_lt_zero, cond_true, cond_false, ↓reduceIte, if_true, if_false, Option.toList_some, Option.toList_none, List.nil_append, List.cons_append, Option.bind_some, decide_true, Bool.true_or]
    · simp only [hlk, Bool.false_eq_true, reduceCtorEq, Nat.not_lt_zero, cond_true, cond_false, ↓reduceIte, if_true, if_false, Option.toList_some, Option.toList_none, List.nil_append, List.cons_append, Option.bind_some, decide_false, Bool.false_or]
      by_cases hx4 : zs_X f n lk (16 * k + q) < zs_rem f
      · simp only [hx4, Bool.false_eq_true, reduceCtorEq, Nat.not_lt_zero, cond_true, cond_false, ↓reduceIte, if_true, if_false, Option.toList_some, Option.toList_none, List.nil_append, List.cons_append, Option.bind_some, decide_true]
      · simp only [hx4, Bool.false_eq_true, reduceCtorEq, Nat.not_lt_zero, cond_true, cond_false, ↓reduceIte, if_true, if_false, Option.toList_some, Option.toList_none, List.nil_append, List.cons_append, Option.bind_some, decide_false]
        by_cases hb : (zs_V f n lk k).testBit q = false
        · simp only [hb, Bool.false_eq_true, reduceCtorEq, Nat.not_lt_zero, cond_true, cond_false, ↓reduceIte, if_true, if_false, Option.toList_some, Option.toList_none, List.nil_append, List.cons_append, Option.bind_some]
        · simp only [hb, Bool.false_eq_true, reduceCtorEq, Nat.not_lt_zero, cond_true, cond_false, ↓reduceIte, if_true, if_false, Option.toList_some, Option.toList_none, List.nil_append, List.cons_append, Option.bind_some]
theorem rx_costof (hW : zW f n) (hm : ∀ i, i < 8 → a.1 2 i = f i) (kd : Int32) (ms : Nat) (hit : Bool) : zx nl 69 0 [z_i kd, z_r 2, z_i (nI (if hit = true then 0 else ms))] [] a = some (some (.inl (nI (zs_cb f kd ms hit))), a) := by
  obtain ⟨-, -, ⟨-, -, -, ⟨r4, hr4, e4⟩, -, -, ⟨r7, hr7, e7⟩⟩, -⟩ := hW
  rw [ex_69_0, hm 4 (by omega), hm 7 (by omega)]
  unfold zs_cb
  rw [e4, e7, nI_clamp (by omega), nI_clamp (by omega)]
  simp only [zb_la, zb_lm]
  cases hit <;> repeat' (first | rfl | split)
theorem rx_reads (hW : zW f n) (hP : zAo 3 a f n) {k : Nat} (hk : k < n) (r : Int32) : zx nl 71 0 [z_r 3, z_i (nI k), z_i r] [] a = some (some (.inl (if zs_rd f k r = true then 1 else 0)), a) := by
  have hn := hW.le
  obtain ⟨e1, e2, e3, e4, -, -⟩ := hP.2 k hk
  have g1 : a.1 4 k = f (12 + 4 * k) := e1
  have g2 : a.1 5 k = f (13 + 4 * k) := e2
  have g3 : a.1 6 k = f (14 + 4 * k) := e3
  have g4 : a.1 7 k = f (15 + 4 * k) := e4
  rw [ex_71_0]
  simp (disch := omega) only [zb_ltl, zb_llt, zb_eql, zb_leq, nI_ltI, nI_eq, zb_in, nI_clamp, zb_al, zb_la, zb_ml, zb_lm, zb_mul, nI_add, Bool.false_eq_true, reduceCtorEq, Nat.not_lt_zero, cond_true, cond_false, ↓reduceIte, if_true, if_false, Option.toList_some, Option.toList_none, List.nil_append, List.cons_append, Option.bind_some, g1, g2, g3, g4]
  unfold zs_rd
  rcases (hW.2.2.2 k hk).1.kinds with h | h | h | h | h | h | h | h <;> simp only [h] <;> grind
theorem rx_stalls (hW : zW f n) (hP : zAo 3 a f n) {k t : Nat} (hk : k < n) (ht : t < n) : zx nl 70 0 [z_r 3, z_i (nI k), z_i (nI t)] [] a = some (some (.inl (if zs_sta f k t = true then 1 else 0)), a) := by
  have hn := hW.le
  obtain ⟨e1, e2, -⟩ := hP.2 k hk
  have g1 : a.1 4 k = f (12 + 4 * k) := e1
  have g2 : a.1 5 k = f (13 + 4 * k) := e2
  rw [ex_70_0]
  simp (disch := omega) only [zb_ltl, zb_llt, zb_eql, zb_leq, nI_ltI, nI_eq, zb_in, nI_clamp, zb_al, zb_la, zb_ml, zb_lm, zb_mul, nI_add, Bool.false_eq_true, reduceCtorEq, Nat.not_lt_zero, cond_true, cond_false, ↓reduceIte, if_true, if_false, Option.toList_some, Option.toList_none, List.nil_append, List.cons_append, Option.bind_some, g1, g2]
  unfold zs_sta
  by_cases h1 : f (12 + 4 * k) = 1
  · simp only [h1, Bool.false_eq_true, reduceCtorEq, Nat.not_lt_zero, cond_true, cond_false, ↓reduceIte, if_true, if_false, Option.toList_some, Option.toList_none, List.nil_append, List.cons_append, Option.bind_some, decide_true, Bool.true_and, rx_reads hW hP ht]
    rw [ex_70_13]
    cases zs_rd f t (f (13 + 4 * k)) <;> rfl
  · simp only [h1, Bool.false_eq_true, reduceCtorEq, Nat.not_lt_zero, cond_true, cond_false, ↓reduceIte, if_true, if_false, Option.toList_some, Option.toList_none, List.nil_append, List.cons_append, Option.bind_some, decide_false, Bool.false_and]
end RxCost
