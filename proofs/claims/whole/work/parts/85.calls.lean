/-! ===== calls: orders, edges, the machine, runs that were ===== -/
def zs_un (k x : Int32) : Bool := decide (x = 0) || decide (k = x) || (decide (x = 1) && decide (k = 2)) || (decide (x = 3) && (decide (k = 4) || decide (k = 7))) || (decide (x = 4) && decide (k = 7)) || (decide (x = 5) && decide (k = 6))
section ZcOrders
variable {nl : Int32} {a b : zd_D} {f : zF} {n w : Nat} {nu : Nat → Nat}
theorem rx_u1 (k j i : Nat) (hk : k < 8) (hj : j < 8) (hi : i < 8) : zx nl 46 5 [none, z_i (nI j), z_i (nI k), z_i (nI i)] [] a = if k = j then some (some (.inl 1), a) else zx nl 46 5 [none, z_i (nI j), z_i (zt_ab k), z_i (nI (i + 1))] [] a := by
  rw [ex_46_5]
  have hin : mx_in (nI k) 8 = true := zb_in hk (by decide)
  simp (disch := omega) only [zb_ltl, zb_llt, zb_eql, zb_leq, nI_ltI, nI_eq, zb_in, nI_clamp, zb_al, zb_la, zb_ml, zb_lm, zb_mul, nI_add, Bool.false_eq_true, reduceCtorEq, Nat.not_lt_zero, cond_true, cond_false, ↓reduceIte, if_true, if_false, Option.toList_some, Option.toList_none, List.nil_append, List.cons_append, Option.bind_some, hi, hk, hin, true_and]
theorem rx_u0 (j i : Nat) (hi : i < 8) : zx nl 46 5 [none, z_i (nI j), z_i (-1), z_i (nI i)] [] a = some (some (.inl 0), a) := by
  rw [ex_46_5]
  simp (disch := omega) only [zb_ltl, zb_llt, zb_eql, zb_leq, nI_ltI, nI_eq, zb_in, nI_clamp, zb_al, zb_la, zb_ml, zb_lm, zb_mul, nI_add, Bool.false_eq_true, reduceCtorEq, Nat.not_lt_zero, cond_true, cond_false, ↓reduceIte, if_true, if_false, Option.toList_some, Option.toList_none, List.nil_append, List.cons_append, Option.bind_some, hi, show ((-1 : Int32) < 0) by decide]
theorem rx_under {k : Int32} (hk : k = 0 ∨ k = 1 ∨ k = 2 ∨ k = 3 ∨ k = 4 ∨ k = 5 ∨ k = 6 ∨ k = 7) {j : Nat} (hj : j < 8) : zx nl 46 0 [z_i k, z_i (nI j), none, none] [] a = some (some (.inl (if zs_un k (nI j) = true then 1 else 0)), a) := by
  rw [ex_46_0]
  have hj8 : j = 0 ∨ j = 1 ∨ j = 2 ∨ j = 3 ∨ j = 4 ∨ j = 5 ∨ j = 6 ∨ j = 7 := by omega
  have u0 : ∀ i, i < 8 → zx nl 46 5 [none, z_i (nI j), z_i (zt_ab 0), z_i (nI i)] [] a = some (some (.inl 0), a) := fun i hi => rx_u0 j i hi
  rcases hk with rfl | rfl | rfl | rfl | rfl | rfl | rfl | rfl
  · rw [show zx nl 46 5 [none, z_i (nI j), z_i 0, z_i 0] [] a = zx nl 46 5 [none, z_i (nI j), z_i (nI 0), z_i (nI 0)] [] a from rfl, rx_u1 0 j 0 (by decide) hj (by decide), u0 1 (by decide)]
    rcases hj8 with rfl | rfl | rfl | rfl | rfl | rfl | rfl | rfl <;> rfl
  · rw [show zx nl 46 5 [none, z_i (nI j), z_i 1, z_i 0] [] a = zx nl 46 5 [none, z_i (nI j), z_i (nI 1), z_i (nI 0)] [] a from rfl, rx_u1 1 j 0 (by decide) hj (by decide), show zt_ab 1 = nI 0 from rfl, rx_u1 0 j 1 (by decide) hj (by decide), u0 2 (by decide)]
    rcases hj8 with rfl | rfl | rfl | rfl | rfl | rfl | rfl | rfl <;> rfl
  · rw [show zx nl 46 5 [none, z_i (nI j), z_i 2, z_i 0] [] a = zx nl 46 5 [none, z_i (nI j), z_i (nI 2), z_i (nI 0)] [] a from rfl, rx_u1 2 j 0 (by decide) hj (by decide), show zt_ab 2 = nI 1 from rfl, rx_u1 1 j 1 (by decide) hj (by decide), show zt_ab 1 = nI 0 from rfl, rx_u1 0 j 2 (by decide) hj (by decide), u0 3 (by decide)]
    rcases hj8 with rfl | rfl | rfl | rfl | rfl | rfl | rfl | rfl <;> rfl
  · rw [show zx nl 46 5 [none, z_i (nI j), z_i 3, z_i 0] [] a = zx nl 46 5 [none, z_i (nI j), z_i (nI 3), z_i (nI 0)] [] a from rfl, rx_u1 3 j 0 (by decide) hj (by decide), show zt_ab 3 = nI 0 from rfl, rx_u1 0 j 1 (by decide) hj (by decide), u0 2 (by decide)]
    rcases hj8 with rfl | rfl | rfl | rfl | rfl | rfl | rfl | rfl <;> rfl
  · rw [show zx nl 46 5 [none, z_i (nI j), z_i 4, z_i 0] [] a = zx nl 46 5 [none, z_i (nI j), z_i (nI 4), z_i (nI 0)] [] a from rfl, rx_u1 4 j 0 (by decide) hj (by decide), show zt_ab 4 = nI 3 from rfl, rx_u1 3 j 1 (by decide) hj (by decide), show zt_ab 3 = nI 0 from rfl, rx_u1 0 j 2 (by decide) hj (by decide), u0 3 (by decide)]
    rcases hj8 with rfl | rfl | rfl | rfl | rfl | rfl | rfl | rfl <;> rfl
  · rw [show zx nl 46 5 [none, z_i (nI j), z_i 5, z_i 0] [] a = zx nl 46 5 [none, z_i (nI j), z_i (nI 5), z_i (nI 0)] [] a from rfl, rx_u1 5 j 0 (by decide) hj (by decide), show zt_ab 5 = nI 0 from rfl, rx_u1 0 j 1 (by decide) hj (by decide), u0 2 (by decide)]
    rcases hj8 with rfl | rfl | rfl | rfl | rfl | rfl | rfl | rfl <;> rfl
  · rw [show zx nl 46 5 [none, z_i (nI j), z_i 6, z_i 0] [] a = zx nl 46 5 [none, z_i (nI j), z_i (nI 6), z_i (nI 0)] [] a from rfl, rx_u1 6 j 0 (by decide) hj (by decide), show zt_ab 6 = nI 5 from rfl, rx_u1 5 j 1 (by decide) hj (by decide), show zt_ab 5 = nI 0 from rfl, rx_u1 0 j 2 (by decide) hj (by decide), u0 3 (by decide)]
    rcases hj8 with rfl | rfl | rfl | rfl | rfl | rfl | rfl | rfl <;> rfl
  · rw [show zx nl 46 5 [none, z_i (nI j), z_i 7, z_i 0] [] a = zx nl 46 5 [none, z_i (nI j), z_i (nI 7), z_i (nI 0)] [] a from rfl, rx_u1 7 j 0 (by decide) hj (by decide), show zt_ab 7 = nI 4 from rfl, rx_u1 4 j 1 (by decide) hj (by decide), show zt_ab 4 = nI 3 from rfl, rx_u1 3 j 2 (by decide) hj (by decide), show zt_ab 3 = nI 0 from rfl, rx_u1 0 j 3 (by decide) hj (by decide), u0 4 (by decide)]
    rcases hj8 with rfl | rfl | rfl | rfl | rfl | rfl | rfl | rfl <;> rfl
theorem rm_under {k : Int32} (hk : k = 0 ∨ k = 1 ∨ k = 2 ∨ k = 3 ∨ k = 4 ∨ k = 5 ∨ k = 6 ∨ k = 7) {j : Nat} (hj : j < 8) : zm 209 0 [z_i k, z_i (nI j)] [] b = some (some (.inl (if zs_un k (nI j) = true then 1 else 0)), b) := by
  rw [em_209_0]
  have hj8 : j = 0 ∨ j = 1 ∨ j = 2 ∨ j = 3 ∨ j = 4 ∨ j = 5 ∨ j = 6 ∨ j = 7 := by omega
  rcases hk with rfl | rfl | rfl | rfl | rfl | rfl | rfl | rfl <;> rcases hj8 with rfl | rfl | rfl | rfl | rfl | rfl | rfl | rfl <;> rfl
theorem zc_as (x y : Int32) (h : zR a b) : zC (zx nl 74 0 [z_r 0, z_i x, z_i y] [] a) (zm 208 0 [z_r 91, z_i x, z_i y] [] b) := by
  obtain ⟨f, n, nu, w, h0, hf⟩ := h
  have hn := h0.W.le
  rw [ex_74_0, em_208_0, h0.V.sz h0.W, show a.1 3 0 = nI n from h0.P.1.1]
  rcases zb_sgn x with hx | ⟨j, hj, rfl⟩
  · simp only [hx, Bool.false_eq_true, reduceCtorEq, Nat.not_lt_zero, cond_true, cond_false, ↓reduceIte, if_true, if_false, Option.toList_some, Option.toList_none, List.nil_append, List.cons_append, Option.bind_some]
    exact zC.same ⟨f, n, nu, w, h0, hf⟩ _
  by_cases hjn : j < n
  · rcases zb_sgn y with hy | ⟨l, hl, rfl⟩
    · simp (disch := omega) only [zb_ltl, zb_llt, zb_eql, zb_leq, nI_ltI, nI_eq, zb_in, nI_clamp, zb_al, zb_la, zb_ml, zb_lm, zb_mul, nI_add, Bool.false_eq_true, reduceCtorEq, Nat.not_lt_zero, cond_true, cond_false, ↓reduceIte, if_true, if_false, Option.toList_some, Option.toList_none, List.nil_append, List.cons_append, Option.bind_some, zb_pl, hjn, show ¬ n < j + 1 by omega, hy]
      exact zC.same ⟨f, n, nu, w, h0, hf⟩ _
    by_cases hl8 : l < 8
    · have g1 : a.1 4 j = f (12 + 4 * j) := (h0.P.1.2 j hjn).1
      have g4 : a.1 7 j = f (15 + 4 * j) := (h0.P.1.2 j hjn).2.2.2.1
      have hk := (h0.W.2.2.2 j hjn).1.kinds
      simp (disch := omega) only [zb_ltl, zb_llt, zb_eql, zb_leq, nI_ltI, nI_eq, zb_in, nI_clamp, zb_al, zb_la, zb_ml, zb_lm, zb_mul, nI_add, Bool.false_eq_true, reduceCtorEq, Nat.not_lt_zero, cond_true, cond_false, ↓reduceIte, if_true, if_false, Option.toList_some, Option.toList_none, List.nil_append, List.cons_append, Option.bind_some, zb_pl, hjn, show ¬ n < j + 1 by omega, hl8, show ¬ 7 < l by omega, g1, h0.V.o0 h0.W hjn, rx_under hk hl8, rm_under hk hl8]
      rw [ex_74_17, em_208_16]
      simp (disch := omega) only [zb_ltl, zb_llt, zb_eql, zb_leq, nI_ltI, nI_eq, zb_in, nI_clamp, zb_al, zb_la, zb_ml, zb_lm, zb_mul, nI_add, Bool.false_eq_true, reduceCtorEq, Nat.not_lt_zero, cond_true, cond_false, ↓reduceIte, if_true, if_false, Option.toList_some, Option.toList_none, List.nil_append, List.cons_append, Option.bind_some, zb_fl0, g4, h0.V.o3 h0.W hjn]
      cases zs_un (f (12 + 4 * j)) (nI l) <;> exact zC.same ⟨f, n, nu, w, h0, hf⟩ _
    · simp (disch := omega) only [zb_ltl, zb_llt, zb_eql, zb_leq, nI_ltI, nI_eq, zb_in, nI_clamp, zb_al, zb_la, zb_ml, zb_lm, zb_mul, nI_add, Bool.false_eq_true, reduceCtorEq, Nat.not_lt_zero, cond_true, cond_false, ↓reduceIte, if_true, if_false, Option.toList_some, Option.toList_none, List.nil_append, List.cons_append, Option.bind_some, zb_pl, hjn, show ¬ n < j + 1 by omega, hl8, show 7 < l by omega]
      exact zC.same ⟨f, n, nu, w, h0, hf⟩ _
  · simp (disch := omega) only [zb_ltl, zb_llt, zb_eql, zb_leq, nI_ltI, nI_eq, zb_in, nI_clamp, zb_al, zb_la, zb_ml, zb_lm, zb_mul, nI_add, Bool.false_eq_true, reduceCtorEq, Nat.not_lt_zero, cond_true, cond_false, ↓reduceIte, if_true, if_false, Option.toList_some, Option.toList_none, List.nil_append, List.cons_append, Option.bind_some, zb_pl, hjn, show n < j + 1 by omega]
    exact zC.same ⟨f, n, nu, w, h0, hf⟩ _
set_option maxHeartbeats 1000000 in
theorem zc_told (x y : Int32) (h : zR a b) : zC (zx nl 54 0 [z_r 0, z_i x, z_i y, none] [] a) (zm 188 0 [z_r 91, z_i x, z_i y] [] b) := by
  obtain ⟨f, n, nu, w, h0, hf⟩ := h
  have hn := h0.W.le
  have hz : zR a b := ⟨f, n, nu, w, h0, hf⟩
  rw [ex_54_0, em_188_0, h0.V.sz h0.W, show a.1 3 0 = nI n from h0.P.1.1]
  rcases zb_sgn x with hx | ⟨j, hj, rfl⟩
  · simp only [hx, Bool.false_eq_true, reduceCtorEq, Nat.not_lt_zero, cond_true, cond_false, ↓reduceIte, if_true, if_false, Option.toList_some, Option.toList_none, List.nil_append, List.cons_append, Option.bind_some]
    exact zC.same hz _
  by_cases hjn : j < n
  · have hb1 : ∀ y : Int32, (y < 0 ∨ ∃ l : Nat, l < 2 ^ 31 ∧ 7 < l ∧ y = nI l) → ¬ y = 0 ∧ ¬ y = 1 ∧ ¬ y = 2 ∧ ¬ y = 3 ∧ ¬ y = 4 ∧ ¬ y = 5 ∧ ¬ y = 6 ∧ ¬ y = 7 := by
      rintro y (hy | ⟨l, hl, h7, rfl⟩)
      · refine ⟨?_, ?_, ?_, ?_, ?_, ?_, ?_, ?_⟩ <;> (rintro rfl; exact absurd hy (by decide))
      · refine ⟨?_, ?_, ?_, ?_, ?_, ?_, ?_, ?_⟩ <;> (intro q; rw [zb_eql _ hl (by decide)] at q; omega)
    rcases zb_sgn y with hy | ⟨l, hl, rfl⟩
    · obtain ⟨q0, q1, q2, q3, q4, q5, q6, q7⟩ := hb1 y (Or.inl hy)
      simp (disch := omega) only [zb_ltl, zb_llt, zb_eql, zb_leq, nI_ltI, nI_eq, zb_in, nI_clamp, zb_al, zb_la, zb_ml, zb_lm, zb_mul, nI_add, Bool.false_eq_true, reduceCtorEq, Nat.not_lt_zero, cond_true, cond_false, ↓reduceIte, if_true, if_false, Option.toList_some, Option.toList_none, List.nil_append, List.cons_append, Option.bind_some, zb_pl, hjn, show ¬ n < j + 1 by omega, hy, q0, q1, q2, q3, q4, q5, q6, q7]
      exact zC.same hz _
    by_cases hl8 : 7 < l
    · obtain ⟨q0, q1, q2, q3, q4, q5, q6, q7⟩ := hb1 (nI l) (Or.inr ⟨l, hl, hl8, rfl⟩)
      rw [if_neg (nI_pos hj), if_pos (nI_lt hjn (by omega)), if_neg q0, if_neg q1, if_neg q2, if_neg q3, if_neg q4, if_neg q5, if_neg q6, if_neg q7]
      simp (disch := omega) only [zb_ltl, zb_llt, zb_eql, zb_leq, nI_ltI, nI_eq, zb_in, nI_clamp, zb_al, zb_la, zb_ml, zb_lm, zb_mul, nI_add, Bool.false_eq_true, reduceCtorEq, Nat.not_lt_zero, cond_true, cond_false, ↓reduceIte, if_true, if_false, Option.toList_some, Option.toList_none, List.nil_append, List.cons_append, Option.bind_some, zb_pl, show ¬ n < j + 1 by omega, hl8]
      exact zC.same hz _
    obtain ⟨g1, g2, g3, g4, g5, g6⟩ := h0.P.1.2 j hjn
    have g1 : a.1 4 j = f (12 + 4 * j) := g1
    have g2 : a.1 5 j = f (13 + 4 * j) := g2
    have g3 : a.1 6 j = f (14 + 4 * j) := g3
    have g4 : a.1 7 j = f (15 + 4 * j) := g4
    have g5 : a.1 8 j = f (124 + j) := g5
    have hl' : l = 0 ∨ l = 1 ∨ l = 2 ∨ l = 3 ∨ l = 4 ∨ l = 5 ∨ l = 6 ∨ l = 7 := by omega
    have hv0 := h0.V.o0 h0.W hjn
    have hv1 := h0.V.o1 h0.W hjn
    have hv2 := h0.V.o2 h0.W hjn
    have hv3 := h0.V.o3 h0.W hjn
    have hvp := h0.V.pl h0.W hjn
    obtain ⟨b1, e2, k2, hA2, hmu, hma⟩ := rm_all h0.W h0.V
    have hz1 : zR a b1 := zR.m (k2.cm rfl rfl) hz
    have hV1 := h0.V.k k2 (by decide) rfl
    rcases hl' with rfl | rfl | rfl | rfl | rfl | rfl | rfl | rfl
    · simp (disch := omega) only [zb_ltl, zb_llt, zb_eql, zb_leq, nI_ltI, nI_eq, zb_in, nI_clamp, zb_al, zb_la, zb_ml, zb_lm, zb_mul, nI_add, Bool.false_eq_true, reduceCtorEq, Nat.not_lt_zero, cond_true, cond_false, ↓reduceIte, if_true, if_false, Option.toList_some, Option.toList_none, List.nil_append, List.cons_append, Option.bind_some, zb_ll, Nat.reduceEqDiff, zb_pl, hjn, show ¬ n < j + 1 by omega, g1, hv0, Nat.add_zero, show ¬ 7 < 0 by decide, show 0 < 4 by decide]
      exact zC.same hz _
    · simp (disch := omega) only [zb_ltl, zb_llt, zb_eql, zb_leq, nI_ltI, nI_eq, zb_in, nI_clamp, zb_al, zb_la, zb_ml, zb_lm, zb_mul, nI_add, Bool.false_eq_true, reduceCtorEq, Nat.not_lt_zero, cond_true, cond_false, ↓reduceIte, if_true, if_false, Option.toList_some, Option.toList_none, List.nil_append, List.cons_append, Option.bind_some, zb_ll, Nat.reduceEqDiff, zb_pl, hjn, show ¬ n < j + 1 by omega, g2, hv1, show ¬ 7 < 1 by decide, show 1 < 4 by decide]
      exact zC.same hz _
    · simp (disch := omega) only [zb_ltl, zb_llt, zb_eql, zb_leq, nI_ltI, nI_eq, zb_in, nI_clamp, zb_al, zb_la, zb_ml, zb_lm, zb_mul, nI_add, Bool.false_eq_true, reduceCtorEq, Nat.not_lt_zero, cond_true, cond_false, ↓reduceIte, if_true, if_false, Option.toList_some, Option.toList_none, List.nil_append, List.cons_append, Option.bind_some, zb_ll, Nat.reduceEqDiff, zb_pl, hjn, show ¬ n < j + 1 by omega, g3, hv2, show ¬ 7 < 2 by decide, show 2 < 4 by decide]
      exact zC.same hz _
    · simp (disch := omega) only [zb_ltl, zb_llt, zb_eql, zb_leq, nI_ltI, nI_eq, zb_in, nI_clamp, zb_al, zb_la, zb_ml, zb_lm, zb_mul, nI_add, Bool.false_eq_true, reduceCtorEq, Nat.not_lt_zero, cond_true, cond_false, ↓reduceIte, if_true, if_false, Option.toList_some, Option.toList_none, List.nil_append, List.cons_append, Option.bind_some, zb_ll, Nat.reduceEqDiff, zb_pl, hjn, show ¬ n < j + 1 by omega, g4, hv3, show ¬ 7 < 3 by decide, show 3 < 4 by decide]
      exact zC.same hz _
    · simp (disch := omega) only [zb_ltl, zb_llt, zb_eql, zb_leq, nI_ltI, nI_eq, zb_in, nI_clamp, zb_al, zb_la, zb_ml, zb_lm, zb_mul, nI_add, Bool.false_eq_true, reduceCtorEq, Nat.not_lt_zero, cond_true, cond_false, ↓reduceIte, if_true, if_false, Option.toList_some, Option.toList_none, List.nil_append, List.cons_append, Option.bind_some, zb_ll, Nat.reduceEqDiff, zb_pl, hjn, show ¬ n < j + 1 by omega, g5, hvp, show ¬ 7 < 4 by decide, show ¬ 4 < 4 by decide]
      exact zC.same hz _
    · have r2 : a.1 10 j = nI (zs_B f n j) := h0.P.2.1.2.1 j (by omega)
      have r3 : a.1 10 (j + 1) = nI (zs_B f n (j + 1)) := h0.P.2.1.2.1 (j + 1) (by omega)
      simp (disch := omega) only [zb_ltl, zb_llt, zb_eql, zb_leq, nI_ltI, nI_eq, zb_in, nI_clamp, zb_al, zb_la, zb_ml, zb_lm, zb_mul, nI_add, Bool.false_eq_true, reduceCtorEq, Nat.not_lt_zero, cond_true, cond_false, ↓reduceIte, if_true, if_false, Option.toList_some, Option.toList_none, List.nil_append, List.cons_append, Option.bind_some, zb_ll, Nat.reduceEqDiff, zb_pl, hjn, show ¬ n < j + 1 by omega, show ¬ 7 < 5 by decide, show ¬ 5 < 4 by decide, e2, r2, r3]
      rw [em_188_37]
      simp (disch := omega) only [zb_ltl, zb_llt, zb_eql, zb_leq, nI_ltI, nI_eq, zb_in, nI_clamp, zb_al, zb_la, zb_ml, zb_lm, zb_mul, nI_add, Bool.false_eq_true, reduceCtorEq, Nat.not_lt_zero, cond_true, cond_false, ↓reduceIte, if_true, if_false, Option.toList_some, Option.toList_none, List.nil_append, List.cons_append, Option.bind_some, zb_ll, Nat.reduceEqDiff, hA2.1.2.2 j (by omega), hA2.1.2.2 (j + 1) (by omega)]
      exact zC.same hz1 _
    · obtain ⟨a1, e1, k1, hf1, h9, hF1⟩ := rx_fresh (nl := nl) h0 hf
      simp (disch := omega) only [zb_ltl, zb_llt, zb_eql, zb_leq, nI_ltI, nI_eq, zb_in, nI_clamp, zb_al, zb_la, zb_ml, zb_lm, zb_mul, nI_add, Bool.false_eq_true, reduceCtorEq, Nat.not_lt_zero, cond_true, cond_false, ↓reduceIte, if_true, if_false, Option.toList_some, Option.toList_none, List.nil_append, List.cons_append, Option.bind_some, zb_ll, Nat.reduceEqDiff, zb_pl, hjn, show ¬ n < j + 1 by omega, show ¬ 7 < 6 by decide, show ¬ 6 < 4 by decide, e2, e1]
      rw [em_188_37, ex_54_51]
      simp (disch := omega) only [zb_ltl, zb_llt, zb_eql, zb_leq, nI_ltI, nI_eq, zb_in, nI_clamp, zb_al, zb_la, zb_ml, zb_lm, zb_mul, nI_add, Bool.false_eq_true, reduceCtorEq, Nat.not_lt_zero, cond_true, cond_false, ↓reduceIte, if_true, if_false, Option.toList_some, Option.toList_none, List.nil_append, List.cons_append, Option.bind_some, zb_ll, Nat.reduceEqDiff, rm_cost h0.W hV1 hA2 (h0.Ms.k k2 rfl) hjn, hF1.2.1 j hjn]
      rw [em_188_58]
      exact zC.same (zR.of h0 k1 hf1 (k2.cm rfl rfl)) _
    · obtain ⟨a1, e1, k1, hf1, h9, hF1⟩ := rx_fresh (nl := nl) h0 hf
      have h01 := h0.x k1
      simp (disch := omega) only [zb_ltl, zb_llt, zb_eql, zb_leq, nI_ltI, nI_eq, zb_in, nI_clamp, zb_al, zb_la, zb_ml, zb_lm, zb_mul, nI_add, Bool.false_eq_true, reduceCtorEq, Nat.not_lt_zero, cond_true, cond_false, ↓reduceIte, if_true, if_false, Option.toList_some, Option.toList_none, List.nil_append, List.cons_append, Option.bind_some, zb_ll, Nat.reduceEqDiff, zb_pl, hjn, show ¬ n < j + 1 by omega, show ¬ 7 < 7 by decide, show ¬ 7 < 4 by decide, e2, e1]
      rw [em_188_37, ex_54_59, rx_tells h01.W h01.P hF1.1 hjn]
      simp (disch := omega) only [zb_ltl, zb_llt, zb_eql, zb_leq, nI_ltI, nI_eq, zb_in, nI_clamp, zb_al, zb_la, zb_ml, zb_lm, zb_mul, nI_add, Bool.false_eq_true, reduceCtorEq, Nat.not_lt_zero, cond_true, cond_false, ↓reduceIte, if_true, if_false, Option.toList_some, Option.toList_none, List.nil_append, List.cons_append, Option.bind_some, zb_ll, Nat.reduceEqDiff, hV1.o0 h0.W hjn, hA2.2.2.2 j hjn]
      rw [ex_54_63]
      have hz2 := zR.of h0 k1 hf1 (k2.cm rfl rfl)
      have hln : zs_ln f j = -2 ↔ ¬ (f (12 + 4 * j) = 1 ∨ f (12 + 4 * j) = 2) := by
        unfold zs_ln zs_line
        by_cases hk : f (12 + 4 * j) = 1 ∨ f (12 + 4 * j) = 2
        · rw [if_pos hk]
          refine ⟨fun q => ?_, fun q => absurd hk q⟩
          exfalso
          have hcs := zs_ln_cases (f := f) (k := j) (h0.W.2.2.2 j hjn).1
          unfold zs_ln zs_line at hcs
          rw [if_pos hk] at hcs
          rcases hk with hk | hk
          · rcases (h0.W.2.2.2 j hjn).1.2 with ⟨h2, _⟩ | ⟨_, ⟨r, hr, e⟩ | ⟨e, r, hr, ec⟩⟩ | ⟨h2, _⟩ | ⟨h2, _⟩ | ⟨h2, _⟩
            · rw [hk] at h2; exact absurd h2 (by decide)
            · rw [e, if_neg (fun w => by rw [zb_eql _ (by omega) (by decide)] at w; omega)] at q
              exact absurd q (by decide)
            · rw [e, ec, if_pos (show nI 4 = 4 from rfl), show nI r / 2 = nI (r / 2) from pk_div (d := 2) (by omega) (by omega) (by omega), zb_m2 (by omega)] at q
              exact q
            · rw [hk] at h2; rcases h2 with h2 | h2 <;> exact absurd h2 (by decide)
            · rw [hk] at h2; rcases h2 with h2 | h2 <;> exact absurd h2 (by decide)
            · rw [hk] at h2; exact absurd h2 (by decide)
          · rcases (h0.W.2.2.2 j hjn).1.2 with ⟨h2, _⟩ | ⟨_, ⟨r, hr, e⟩ | ⟨e, r, hr, ec⟩⟩ | ⟨h2, _⟩ | ⟨h2, _⟩ | ⟨h2, _⟩
            · rw [hk] at h2; exact absurd h2 (by decide)
            · rw [e, if_neg (fun w => by rw [zb_eql _ (by omega) (by decide)] at w; omega)] at q
              exact absurd q (by decide)
            · rw [e, ec, if_pos (show nI 4 = 4 from rfl), show nI r / 2 = nI (r / 2) from pk_div (d := 2) (by omega) (by omega) (by omega), zb_m2 (by omega)] at q
              exact q
            · rw [hk] at h2; rcases h2 with h2 | h2 <;> exact absurd h2 (by decide)
            · rw [hk] at h2; rcases h2 with h2 | h2 <;> exact absurd h2 (by decide)
            · rw [hk] at h2; exact absurd h2 (by decide)
        · rw [if_neg hk]; exact ⟨fun _ => hk, fun _ => rfl⟩
      by_cases hk1 : f (12 + 4 * j) = 1
      · rw [if_pos hk1, if_neg (fun q => (hln.mp q) (Or.inl hk1))]
        exact zC.same hz2 _
      · rw [if_neg hk1]
        by_cases hk2 : f (12 + 4 * j) = 2
        · rw [if_pos hk2, if_neg (fun q => (hln.mp q) (Or.inr hk2))]
          exact zC.same hz2 _
        · rw [if_neg hk2, if_pos (hln.mpr (fun q => q.elim hk1 hk2))]
          exact zC.same hz2 _
  · simp (disch := omega) only [zb_ltl, zb_llt, zb_eql, zb_leq, nI_ltI, nI_eq, zb_in, nI_clamp, zb_al, zb_la, zb_ml, zb_lm, zb_mul, nI_add, Bool.false_eq_true, reduceCtorEq, Nat.not_lt_zero, cond_true, cond_false, ↓reduceIte, if_true, if_false, Option.toList_some, Option.toList_none, List.nil_append, List.cons_append, Option.bind_some, zb_pl, hjn, show n < j + 1 by omega]
    exact zC.same hz _
end ZcOrders
