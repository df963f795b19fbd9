/-! ===== copies of sheets, slots ===== -/
section ZSlots
variable {nl : Int32} {a a' b b' : zd_D} {f : zF} {n w : Nat} {nu : Nat → Nat}
theorem zc_copy (x y z u v : Int32) (h : zR a b) : zC (zx nl 148 0 [z_r 0, z_i x, z_i y, z_i z, z_i u, z_i v, none, none] [] a) (zm 268 0 [z_r 91, z_i x, z_i y, z_i z, z_i u, z_i v, none] [] b) := by
  rw [ex_148_0, em_268_0]
  rcases zb_sgn x with hx | ⟨i, hi, rfl⟩
  · simp only [hx, Bool.false_eq_true, reduceCtorEq, Nat.not_lt_zero, cond_true, cond_false, ↓reduceIte, if_true, if_false, Option.toList_some, Option.toList_none, List.nil_append, List.cons_append, Option.bind_some]; exact zC.same h _
  by_cases i4 : i < 4
  rotate_left
  · simp (disch := omega) only [zb_ltl, zb_llt, zb_eql, zb_leq, nI_ltI, nI_eq, zb_in, nI_clamp, zb_al, zb_la, zb_ml, zb_lm, zb_mul, nI_add, Bool.false_eq_true, reduceCtorEq, Nat.not_lt_zero, cond_true, cond_false, ↓reduceIte, if_true, if_false, Option.toList_some, Option.toList_none, List.nil_append, List.cons_append, Option.bind_some, i4, show 3 < i by omega]; exact zC.same h _
  rcases zb_sgn z with hx | ⟨j, hj, rfl⟩
  · simp (disch := omega) only [zb_ltl, zb_llt, zb_eql, zb_leq, nI_ltI, nI_eq, zb_in, nI_clamp, zb_al, zb_la, zb_ml, zb_lm, zb_mul, nI_add, Bool.false_eq_true, reduceCtorEq, Nat.not_lt_zero, cond_true, cond_false, ↓reduceIte, if_true, if_false, Option.toList_some, Option.toList_none, List.nil_append, List.cons_append, Option.bind_some, i4, show ¬ 3 < i by omega, hx]; exact zC.same h _
  by_cases j4 : j < 4
  rotate_left
  · simp (disch := omega) only [zb_ltl, zb_llt, zb_eql, zb_leq, nI_ltI, nI_eq, zb_in, nI_clamp, zb_al, zb_la, zb_ml, zb_lm, zb_mul, nI_add, Bool.false_eq_true, reduceCtorEq, Nat.not_lt_zero, cond_true, cond_false, ↓reduceIte, if_true, if_false, Option.toList_some, Option.toList_none, List.nil_append, List.cons_append, Option.bind_some, i4, show ¬ 3 < i by omega, j4, show 3 < j by omega]; exact zC.same h _
  rw [ex_148_9 _ _ _ _ _ (zd_o4 i4) (zd_o4 j4), zd_r62 hj, zd_r62 hi]
  simp (maxSteps := 1000000) (disch := omega) only [zb_ltl, zb_llt, zb_eql, zb_leq, nI_ltI, nI_eq, zb_in, nI_clamp, zb_al, zb_la, zb_ml, zb_lm, zb_mul, nI_add, Bool.false_eq_true, reduceCtorEq, Nat.not_lt_zero, cond_true, cond_false, ↓reduceIte, if_true, if_false, Option.toList_some, Option.toList_none, List.nil_append, List.cons_append, Option.bind_some, i4, show ¬ 3 < i by omega, j4, show ¬ 3 < j by omega]
  rcases h.sheet i4 with ⟨s1, s2⟩ | ⟨s1, ⟨r, hr, s2, s3⟩, ⟨l, hl, s4, s5⟩, s6⟩
  · simp (disch := omega) only [zb_ltl, zb_llt, zb_eql, zb_leq, nI_ltI, nI_eq, zb_in, nI_clamp, zb_al, zb_la, zb_ml, zb_lm, zb_mul, nI_add, Bool.false_eq_true, reduceCtorEq, Nat.not_lt_zero, cond_true, cond_false, ↓reduceIte, if_true, if_false, Option.toList_some, Option.toList_none, List.nil_append, List.cons_append, Option.bind_some, s1, s2, show ((-1 : Int32) < 0) = True from eq_true (by decide)]
    exact zC.same h _
  rcases h.sheet j4 with ⟨t1, t2⟩ | ⟨t1, ⟨r', hr', t2, t3⟩, ⟨m, hm, t4, t5⟩, t6⟩
  · simp (disch := omega) only [zb_ltl, zb_llt, zb_eql, zb_leq, nI_ltI, nI_eq, zb_in, nI_clamp, zb_al, zb_la, zb_ml, zb_lm, zb_mul, nI_add, Bool.false_eq_true, reduceCtorEq, Nat.not_lt_zero, cond_true, cond_false, ↓reduceIte, if_true, if_false, Option.toList_some, Option.toList_none, List.nil_append, List.cons_append, Option.bind_some, zb_ll, Nat.reduceEqDiff, s1, s3, t1, t2, show ((-1 : Int32) < 0) = True from eq_true (by decide)]
    exact zC.same h _
  by_cases hrr : r = r'
  rotate_left
  · simp (disch := omega) only [zb_ltl, zb_llt, zb_eql, zb_leq, nI_ltI, nI_eq, zb_in, nI_clamp, zb_al, zb_la, zb_ml, zb_lm, zb_mul, nI_add, Bool.false_eq_true, reduceCtorEq, Nat.not_lt_zero, cond_true, cond_false, ↓reduceIte, if_true, if_false, Option.toList_some, Option.toList_none, List.nil_append, List.cons_append, Option.bind_some, zb_ll, Nat.reduceEqDiff, s1, s2, s3, t1, t2, t3, hrr]
    exact zC.same h _
  subst hrr
  simp (disch := omega) only [zb_ltl, zb_llt, zb_eql, zb_leq, nI_ltI, nI_eq, zb_in, nI_clamp, zb_al, zb_la, zb_ml, zb_lm, zb_mul, nI_add, Bool.false_eq_true, reduceCtorEq, Nat.not_lt_zero, cond_true, cond_false, ↓reduceIte, if_true, if_false, Option.toList_some, Option.toList_none, List.nil_append, List.cons_append, Option.bind_some, zb_ll, Nat.reduceEqDiff, s1, s2, s3, s4, s5, t1, t2, t3, t4, t5]
  rcases zb_sgn y with hx | ⟨k, hk, rfl⟩
  · simp only [hx, Bool.false_eq_true, reduceCtorEq, Nat.not_lt_zero, cond_true, cond_false, ↓reduceIte, if_true, if_false, Option.toList_some, Option.toList_none, List.nil_append, List.cons_append, Option.bind_some]; exact zC.same h _
  rcases zb_sgn v with hx | ⟨c, hc, rfl⟩
  · simp only [hx, Bool.false_eq_true, reduceCtorEq, Nat.not_lt_zero, cond_true, cond_false, ↓reduceIte, if_true, if_false, Option.toList_some, Option.toList_none, List.nil_append, List.cons_append, Option.bind_some, ite_self]; exact zC.same h _
  rcases zb_sgn u with hx | ⟨p, hp, rfl⟩
  · simp only [hx, Bool.false_eq_true, reduceCtorEq, Nat.not_lt_zero, cond_true, cond_false, ↓reduceIte, if_true, if_false, Option.toList_some, Option.toList_none, List.nil_append, List.cons_append, Option.bind_some, ite_self]; exact zC.same h _
  simp (disch := omega) only [zb_ltl, zb_llt, zb_eql, zb_leq, nI_ltI, nI_eq, zb_in, nI_clamp, zb_al, zb_la, zb_ml, zb_lm, zb_mul, nI_add, Bool.false_eq_true, reduceCtorEq, Nat.not_lt_zero, cond_true, cond_false, ↓reduceIte, if_true, if_false, Option.toList_some, Option.toList_none, List.nil_append, List.cons_append, Option.bind_some, zb_sub_lt]
  by_cases g1 : k + c ≤ l
  rotate_left
  · simp only [show l < k + c by omega, Bool.false_eq_true, reduceCtorEq, Nat.not_lt_zero, cond_true, cond_false, ↓reduceIte, if_true, if_false, Option.toList_some, Option.toList_none, List.nil_append, List.cons_append, Option.bind_some]
    by_cases g2 : l < k
    · simp only [g2, Bool.false_eq_true, reduceCtorEq, Nat.not_lt_zero, cond_true, cond_false, ↓reduceIte, if_true, if_false, Option.toList_some, Option.toList_none, List.nil_append, List.cons_append, Option.bind_some]; exact zC.same h _
    · simp only [g2, show l < c + k by omega, Bool.false_eq_true, reduceCtorEq, Nat.not_lt_zero, cond_true, cond_false, ↓reduceIte, if_true, if_false, Option.toList_some, Option.toList_none, List.nil_append, List.cons_append, Option.bind_some]; exact zC.same h _
  by_cases g2 : p + c ≤ m
  rotate_left
  · simp only [show ¬ l < k + c by omega, show ¬ l < k by omega, show ¬ l < c + k by omega, show m < p + c by omega, Bool.false_eq_true, reduceCtorEq, Nat.not_lt_zero, cond_true, cond_false, ↓reduceIte, if_true, if_false, Option.toList_some, Option.toList_none, List.nil_append, List.cons_append, Option.bind_some]
    by_cases g3 : m < p
    · simp only [g3, Bool.false_eq_true, reduceCtorEq, Nat.not_lt_zero, cond_true, cond_false, ↓reduceIte, if_true, if_false, Option.toList_some, Option.toList_none, List.nil_append, List.cons_append, Option.bind_some]; exact zC.same h _
    · simp only [g3, show m < c + p by omega, Bool.false_eq_true, reduceCtorEq, Nat.not_lt_zero, cond_true, cond_false, ↓reduceIte, if_true, if_false, Option.toList_some, Option.toList_none, List.nil_append, List.cons_append, Option.bind_some]; exact zC.same h _
  have hcnd : (¬ False ∧ ¬ False ∧ ¬ False ∧ k + c ≤ 32 ∧ p + c ≤ 32) := ⟨id, id, id, by omega, by omega⟩
  simp only [show ¬ l < k + c by omega, show ¬ l < k by omega, show ¬ l < c + k by omega, show ¬ m < p + c by omega, show ¬ m < p by omega, show ¬ m < c + p by omega, Bool.false_eq_true, reduceCtorEq, Nat.not_lt_zero, cond_true, cond_false, ↓reduceIte, if_true, if_false, Option.toList_some, Option.toList_none, List.nil_append, List.cons_append, Option.bind_some, hcnd]
  -- the reference's first loop
  obtain ⟨d1, ⟨p1, p2⟩, e1⟩ := zl_to (F := fun t d => zm 268 58 [z_r 91, z_i (nI i), z_i (nI k), z_i (nI j), z_i (nI p), z_i (nI c), z_i (nI t)] [] d) (I := fun t d => (∀ q, ¬ q = 126 → d.1 q = b.1 q) ∧ ∀ q, q < t → d.1 126 q = b.1 125 (32 * i + k + q)) (n := c) (by
    intro t d ht ⟨h1, h2⟩
    refine ⟨zd_u d 126 t (b.1 125 (32 * i + k + t)), ⟨fun q hq => by rw [zb_uc _ _ _ _ hq]; exact h1 q hq, fun q hq => ?_⟩, ?_⟩
    · rw [zb_u]
      by_cases e : q = t
      · rw [if_pos ⟨rfl, e⟩, e]
      · rw [if_neg (fun w => e w.2)]; exact h2 q (by omega)
    · (try dsimp only)
      rw [em_268_58, h1 125 (by decide)]
      simp (disch := omega) only [zb_ltl, zb_llt, zb_eql, zb_leq, nI_ltI, nI_eq, zb_in, nI_clamp, zb_al, zb_la, zb_ml, zb_lm, zb_mul, nI_add, Bool.false_eq_true, reduceCtorEq, Nat.not_lt_zero, cond_true, cond_false, ↓reduceIte, if_true, if_false, Option.toList_some, Option.toList_none, List.nil_append, List.cons_append, Option.bind_some, ht]) 0 b (by omega) ⟨fun _ _ => rfl, fun q hq => by omega⟩
  obtain ⟨d2, ⟨p3, p4, p5⟩, e2⟩ := zl_to (F := fun t d => zm 268 80 [z_r 91, none, none, z_i (nI j), z_i (nI p), z_i (nI c), z_i (nI t)] [] d) (I := fun t d => (∀ q, ¬ q = 125 → d.1 q = d1.1 q) ∧ (∀ q, ¬ (32 * j + p ≤ q ∧ q < 32 * j + p + c) → d.1 125 q = d1.1 125 q) ∧ ∀ q, q < t → d.1 125 (32 * j + p + q) = d1.1 126 q) (n := c) (by
    intro t d ht ⟨h1, h2, h3⟩
    refine ⟨zd_u d 125 (32 * j + p + t) (d1.1 126 t), ⟨fun q hq => by rw [zb_uc _ _ _ _ hq]; exact h1 q hq, fun q hq => by rw [zb_ui _ _ _ _ (by omega)]; exact h2 q hq, fun q hq => ?_⟩, ?_⟩
    · rw [zb_u]
      by_cases e : q = t
      · rw [if_pos ⟨rfl, by omega⟩, e]
      · rw [if_neg (fun w => e (by omega))]; exact h3 q (by omega)
    · (try dsimp only)
      rw [em_268_80, h1 126 (by decide)]
      simp (disch := omega) only [zb_ltl, zb_llt, zb_eql, zb_leq, nI_ltI, nI_eq, zb_in, nI_clamp, zb_al, zb_la, zb_ml, zb_lm, zb_mul, nI_add, Bool.false_eq_true, reduceCtorEq, Nat.not_lt_zero, cond_true, cond_false, ↓reduceIte, if_true, if_false, Option.toList_some, Option.toList_none, List.nil_append, List.cons_append, Option.bind_some, ht]) 0 d1 (by omega) ⟨fun _ _ => rfl, fun _ _ => rfl, fun q hq => by omega⟩
  refine ⟨nI c, _, d2, rfl, ?_, ?_⟩
  · refine Eq.trans e1 ?_
    (try dsimp only)
    rw [em_268_58, if_neg (show ¬ nI c < nI c from nI_nlt (Nat.le_refl _) hc)]
    refine Eq.trans e2 ?_
    (try dsimp only)
    rw [em_268_80, if_neg (show ¬ nI c < nI c from nI_nlt (Nat.le_refl _) hc)]
  · refine h.sh j4 (fun q _ => rfl) (fun q hq => if_neg hq) rfl (fun q hq => by rw [p3 q (by omega), p1 q (by omega)]) (fun q hq => by rw [p3 123 (by omega), p1 123 (by omega)]) (fun q hq => by rw [p3 124 (by omega), p1 124 (by omega)]) (fun q hq => by rw [p4 q (by omega), p1 125 (by omega)]) (Or.inr ⟨t1, ⟨r, hr, t2, by rw [p3 123 (by omega), p1 123 (by omega)]; exact t3⟩, ⟨m, hm, t4, by rw [p3 124 (by omega), p1 124 (by omega)]; exact t5⟩, fun q hq => ?_⟩)
    rw [zb_sl, if_pos rfl]
    unfold va_cpy
    by_cases e : p ≤ q ∧ q < p + c
    · rw [if_pos e, show 32 * j + q = 32 * j + p + (q - p) by omega, p5 (q - p) (by omega), p2 (q - p) (by omega), s6 (k + (q - p)) (by omega), Nat.add_assoc]
    · rw [if_neg e, p4 (32 * j + q) (by omega), p1 125 (by omega)]; exact t6 q hq
theorem zc_item (x y : Int32) (h : zR a b) : zC (zx nl 154 0 [z_r 0, z_i x, z_i y, none] [] a) (zm 273 0 [z_r 91, z_i x, z_i y, none] [] b) := by
  rw [ex_154_0, em_273_0]
  rcases zb_sgn x with hx | ⟨j, hj, rfl⟩
  · simp only [hx, Bool.false_eq_true, reduceCtorEq, Nat.not_lt_zero, cond_true, cond_false, ↓reduceIte, if_true, if_false, Option.toList_some, Option.toList_none, List.nil_append, List.cons_append, Option.bind_some]; exact zC.same h _
  by_cases j6 : j < 6
  rotate_left
  · simp (disch := omega) only [zb_ltl, zb_llt, zb_eql, zb_leq, nI_ltI, nI_eq, zb_in, nI_clamp, zb_al, zb_la, zb_ml, zb_lm, zb_mul, nI_add, Bool.false_eq_true, reduceCtorEq, Nat.not_lt_zero, cond_true, cond_false, ↓reduceIte, if_true, if_false, Option.toList_some, Option.toList_none, List.nil_append, List.cons_append, Option.bind_some, j6, show 5 < j by omega]; exact zC.same h _
  rw [ex_154_6 _ _ (zd_o6 j6), zd_r63 hj]
  obtain ⟨r, hr, g1, g2, g3, g4⟩ := h.slot j6
  simp (disch := omega) only [zb_ltl, zb_llt, zb_eql, zb_leq, nI_ltI, nI_eq, zb_in, nI_clamp, zb_al, zb_la, zb_ml, zb_lm, zb_mul, nI_add, Bool.false_eq_true, reduceCtorEq, Nat.not_lt_zero, cond_true, cond_false, ↓reduceIte, if_true, if_false, Option.toList_some, Option.toList_none, List.nil_append, List.cons_append, Option.bind_some, j6, show ¬ 5 < j by omega, g1, g2]
  by_cases r0 : r = 0
  · simp only [r0, Bool.false_eq_true, reduceCtorEq, Nat.not_lt_zero, cond_true, cond_false, ↓reduceIte, if_true, if_false, Option.toList_some, Option.toList_none, List.nil_append, List.cons_append, Option.bind_some]; exact zC.same h _
  by_cases r2 : r = 2
  rotate_left
  · simp only [r0, r2, Bool.false_eq_true, reduceCtorEq, Nat.not_lt_zero, cond_true, cond_false, ↓reduceIte, if_true, if_false, Option.toList_some, Option.toList_none, List.nil_append, List.cons_append, Option.bind_some]; exact zC.same h _
  obtain ⟨hs, hs1⟩ := g4 r2
  rcases hs with ⟨s1, s2⟩ | ⟨s1, ⟨r', hr', s2, s3⟩, ⟨l, hl, s4, s5⟩, s6⟩
  · rw [hs1] at s1; exact absurd s1 (by decide)
  rw [show 73 + 3 * j + 1 = 74 + 3 * j by omega]
  simp (disch := omega) only [zb_ltl, zb_llt, zb_eql, zb_leq, nI_ltI, nI_eq, zb_in, nI_clamp, zb_al, zb_la, zb_ml, zb_lm, zb_mul, nI_add, Bool.false_eq_true, reduceCtorEq, Nat.not_lt_zero, cond_true, cond_false, ↓reduceIte, if_true, if_false, Option.toList_some, Option.toList_none, List.nil_append, List.cons_append, Option.bind_some, r0, r2, s4, s5, show ¬ (2 : Nat) = 0 by decide]
  rcases zb_sgn y with hy | ⟨k, hk, rfl⟩
  · simp only [Bool.false_eq_true, reduceCtorEq, Nat.not_lt_zero, cond_true, cond_false, ↓reduceIte, if_true, if_false, Option.toList_some, Option.toList_none, List.nil_append, List.cons_append, Option.bind_some, hy]; exact zC.same h _
  have e1 : (nI l - 1 < nI k) ↔ l < k + 1 := zb_sub_lt (c := 1) (by omega) (by omega) hk
  have e2 : (nI l - nI k < 1) ↔ l < 1 + k := zb_sub_lt (k := 1) (by omega) hk (by omega)
  simp (disch := omega) only [zb_ltl, zb_llt, zb_eql, zb_leq, nI_ltI, nI_eq, zb_in, nI_clamp, zb_al, zb_la, zb_ml, zb_lm, zb_mul, nI_add, Bool.false_eq_true, reduceCtorEq, Nat.not_lt_zero, cond_true, cond_false, ↓reduceIte, if_true, if_false, Option.toList_some, Option.toList_none, List.nil_append, List.cons_append, Option.bind_some, e1, e2]
  by_cases hkl : k < l
  rotate_left
  · by_cases c1 : l < k
    · simp only [c1, show l < k + 1 by omega, Bool.false_eq_true, reduceCtorEq, Nat.not_lt_zero, cond_true, cond_false, ↓reduceIte, if_true, if_false, Option.toList_some, Option.toList_none, List.nil_append, List.cons_append, Option.bind_some]; exact zC.same h _
    · simp only [c1, show l < k + 1 by omega, show l < 1 + k by omega, Bool.false_eq_true, reduceCtorEq, Nat.not_lt_zero, cond_true, cond_false, ↓reduceIte, if_true, if_false, Option.toList_some, Option.toList_none, List.nil_append, List.cons_append, Option.bind_some]; exact zC.same h _
  simp (disch := omega) only [zb_ltl, zb_llt, zb_eql, zb_leq, nI_ltI, nI_eq, zb_in, nI_clamp, zb_al, zb_la, zb_ml, zb_lm, zb_mul, nI_add, Bool.false_eq_true, reduceCtorEq, Nat.not_lt_zero, cond_true, cond_false, ↓reduceIte, if_true, if_false, Option.toList_some, Option.toList_none, List.nil_append, List.cons_append, Option.bind_some, show ¬ l < k + 1 by omega, show ¬ l < 1 + k by omega, show ¬ l < k by omega, s6 k (by omega), zb_l64]
  exact zC.same h _
theorem zc_ask (x y : Int32) (h : zR a b) : zC (zx nl 153 0 [z_r 0, z_i x, z_i y, none, none] [] a) (zm 271 0 [z_r 91, z_i x, z_i y, none, none, none] [] b) := by
  have hz := h
  obtain ⟨f, n, nu, w, h0, hf⟩ := h
  have hW := h0.W
  have hV := h0.V
  have hP := h0.P
  rw [ex_153_0, em_271_0]
  rcases zb_sgn x with hx | ⟨j, hj, rfl⟩
  · simp only [hx, Bool.false_eq_true, reduceCtorEq, Nat.not_lt_zero, cond_true, cond_false, ↓reduceIte, if_true, if_false, Option.toList_some, Option.toList_none, List.nil_append, List.cons_append, Option.bind_some, ite_self]; exact zC.same hz _
  by_cases j6 : j < 6
  rotate_left
  · simp (disch := omega) only [zb_ltl, zb_llt, zb_eql, zb_leq, nI_ltI, nI_eq, zb_in, nI_clamp, zb_al, zb_la, zb_ml, zb_lm, zb_mul, nI_add, Bool.false_eq_true, reduceCtorEq, Nat.not_lt_zero, cond_true, cond_false, ↓reduceIte, if_true, if_false, Option.toList_some, Option.toList_none, List.nil_append, List.cons_append, Option.bind_some, j6, show 5 < j by omega, ite_self]; exact zC.same hz _
  rcases zb_sgn y with hy | ⟨k, hk, rfl⟩
  · simp (disch := omega) only [zb_ltl, zb_llt, zb_eql, zb_leq, nI_ltI, nI_eq, zb_in, nI_clamp, zb_al, zb_la, zb_ml, zb_lm, zb_mul, nI_add, Bool.false_eq_true, reduceCtorEq, Nat.not_lt_zero, cond_true, cond_false, ↓reduceIte, if_true, if_false, Option.toList_some, Option.toList_none, List.nil_append, List.cons_append, Option.bind_some, j6, hy]; exact zC.same hz _
  by_cases k8 : k < 8
  rotate_left
  · simp (disch := omega) only [zb_ltl, zb_llt, zb_eql, zb_leq, nI_ltI, nI_eq, zb_in, nI_clamp, zb_al, zb_la, zb_ml, zb_lm, zb_mul, nI_add, Bool.false_eq_true, reduceCtorEq, Nat.not_lt_zero, cond_true, cond_false, ↓reduceIte, if_true, if_false, Option.toList_some, Option.toList_none, List.nil_append, List.cons_append, Option.bind_some, j6, k8, show 7 < k by omega]; exact zC.same hz _
  rw [ex_153_9 _ _ (zd_o6 j6), zd_r63 hj]
  obtain ⟨r, hr, g1, g2, g3, g4⟩ := hz.slot j6
  simp (disch := omega) only [zb_ltl, zb_llt, zb_eql, zb_leq, nI_ltI, nI_eq, zb_in, nI_clamp, zb_al, zb_la, zb_ml, zb_lm, zb_mul, nI_add, Bool.false_eq_true, reduceCtorEq, Nat.not_lt_zero, cond_true, cond_false, ↓reduceIte, if_true, if_false, Option.toList_some, Option.toList_none, List.nil_append, List.cons_append, Option.bind_some, j6, show ¬ 5 < j by omega, k8, show ¬ 7 < k by omega, g1, g2]
  by_cases r0 : r = 0
  · simp only [r0, Bool.false_eq_true, reduceCtorEq, Nat.not_lt_zero, cond_true, cond_false, ↓reduceIte, if_true, if_false, Option.toList_some, Option.toList_none, List.nil_append, List.cons_append, Option.bind_some]; exact zC.same hz _
  by_cases r1 : r = 1
  rotate_left
  · simp only [r0, r1, Bool.false_eq_true, reduceCtorEq, Nat.not_lt_zero, cond_true, cond_false, ↓reduceIte, if_true, if_false, Option.toList_some, Option.toList_none, List.nil_append, List.cons_append, Option.bind_some]; exact zC.same hz _
  obtain ⟨s1, s2, s3⟩ := g3 r1
  have hkd := s3.kinds
  have hc0 : 73 + 3 * j = 73 ∨ 73 + 3 * j = 76 ∨ 73 + 3 * j = 79 ∨ 73 + 3 * j = 82 ∨ 73 + 3 * j = 85 ∨ 73 + 3 * j = 88 := by omega
  simp only [r1, Bool.false_eq_true, reduceCtorEq, Nat.not_lt_zero, cond_true, cond_false, ↓reduceIte, if_true, if_false, Option.toList_some, Option.toList_none, List.nil_append, List.cons_append, Option.bind_some, show ¬ (1 : Nat) = 0 by decide, s1, rx_under hkd k8, rm_under hkd k8]
  rw [ex_153_27 _ _ _ _ hc0, s1, s2]
  generalize hkk : b.1 128 (4 * j) = kd at *
  generalize hyy : b.1 128 (4 * j + 2) = yy at *
  generalize hzz : b.1 128 (4 * j + 3) = zz at *
  obtain ⟨t1, ⟨rr, hrr, t2⟩, t3⟩ := h0.1.L
  have d4 : a.1 2 3 = nI (zs_ms f) := (hP.2.2 3 (by omega)).trans hW.ms.1
  -- what a miss or a hit costs, on both sides
  have mcost : ∀ hit : Bool, zm 207 0 [z_r 91, z_i kd, z_i (if hit = true then 1 else 0), none] [] b = some (some (.inl (nI (zs_cb f kd (zs_ms f) hit))), b) := fun hit => rm_costby hW hV h0.Ms kd hit
  have mend : ∀ hit : Bool, zm 271 56 [z_r 91, z_i (nI j), z_i (nI k), z_i 0, z_i kd, z_i (if hit = true then 1 else 0)] [.inl (if zs_un kd (nI k) = true then 1 else 0)] b = some (some (.inl (if zs_un kd (nI k) = true then nI (zs_cb f kd (zs_ms f) hit) else -1000000012)), b) := by
    intro hit
    rw [em_271_56, mcost hit]
    simp only [zb_fl0, Bool.false_eq_true, reduceCtorEq, Nat.not_lt_zero, cond_true, cond_false, ↓reduceIte, if_true, if_false, Option.toList_some, Option.toList_none, List.nil_append, List.cons_append, Option.bind_some, em_271_61]
    cases zs_un kd (nI k) <;> rfl
  have xcost : ∀ hit : Bool, zx nl 69 0 [z_i kd, z_r 2, z_i (nI (if hit = true then 0 else zs_ms f))] [] a = some (some (.inl (nI (zs_cb f kd (zs_ms f) hit))), a) := fun hit => rx_costof hW hP.2.2 kd _ hit
  have x0 := xcost false
  have x1 : zx nl 69 0 [z_i kd, z_r 2, z_i 0] [] a = _ := xcost true
  have m0 : zm 271 56 [z_r 91, z_i (nI j), z_i (nI k), z_i 0, z_i kd, z_i 0] [.inl (if zs_un kd (nI k) = true then 1 else 0)] b = _ := mend false
  have m1 : zm 271 56 [z_r 91, z_i (nI j), z_i (nI k), z_i 0, z_i kd, z_i 1] [.inl (if zs_un kd (nI k) = true then 1 else 0)] b = _ := mend true
  simp only [Bool.false_eq_true, reduceCtorEq, Nat.not_lt_zero, cond_true, cond_false, ↓reduceIte, if_true, if_false, Option.toList_some, Option.toList_none, List.nil_append, List.cons_append, Option.bind_some] at x0
  simp only [m0, m1, x0, x1, d4, Bool.false_eq_true, reduceCtorEq, Nat.not_lt_zero, cond_true, cond_false, ↓reduceIte, if_true, if_false, Option.toList_some, Option.toList_none, List.nil_append, List.cons_append, Option.bind_some, zb_fl0, ex_153_62 _ _ _ _ _ hc0]
  rw [t1]
  cases hun : zs_un kd (nI k) with
  | false =>
    simp only [Bool.false_eq_true, reduceCtorEq, Nat.not_lt_zero, cond_true, cond_false, ↓reduceIte, if_true, if_false, Option.toList_some, Option.toList_none, List.nil_append, List.cons_append, Option.bind_some, ite_self]
    exact zC.same hz _
  | true =>
    simp only [Bool.false_eq_true, reduceCtorEq, Nat.not_lt_zero, cond_true, cond_false, ↓reduceIte, if_true, if_false, Option.toList_some, Option.toList_none, List.nil_append, List.cons_append, Option.bind_some]
    have fin : (kd = 1 ∨ kd = 2) ∧ yy = 4 ∧ ¬ zz / 2 < 0 ∨ zs_line kd yy zz < 0 ∧ ¬ ((kd = 1 ∨ kd = 2) ∧ yy = 4) := by
      unfold zs_line
      by_cases q1 : kd = 1 ∨ kd = 2
      · rw [if_pos q1]
        by_cases q2 : yy = 4
        · refine Or.inl ⟨q1, q2, ?_⟩
          subst q2
          rcases s3 with ⟨-, ⟨q, -⟩ | ⟨-, ⟨r, hr, q⟩ | ⟨-, r, hr, q⟩⟩ | ⟨q, -⟩ | ⟨q, -⟩ | ⟨q, -⟩⟩
          · subst q; exact absurd q1 (by decide)
          · exact absurd ((nI_eq (a := 4) (by omega) (by omega)).mp q) (by omega)
          · rw [q, show nI r / 2 = nI (r / 2) from pk_div (d := 2) (by omega) (by omega) (by omega)]
            exact nI_pos (by omega)
          · rcases q with rfl | rfl <;> exact absurd q1 (by decide)
          · rcases q with rfl | rfl <;> exact absurd q1 (by decide)
          · subst q; exact absurd q1 (by decide)
        · rw [if_neg q2]
          exact Or.inr ⟨by decide, fun w => q2 w.2⟩
      · rw [if_neg q1]
        exact Or.inr ⟨by decide, fun w => q1 w.1⟩
    rcases fin with ⟨q1, q2, q3⟩ | ⟨q1, q2⟩
    · have ql : zs_line kd yy zz = zz / 2 := by unfold zs_line; rw [if_pos q1, if_pos q2]
      rw [ql, if_neg q3]
      have : ∀ X Y : Option (Option mx_V × zd_D), (if kd = 1 then if yy = 4 then X else Y else if kd = 2 then if yy = 4 then X else Y else Y) = X := by
        intro X Y
        rcases q1 with q | q
        · rw [if_pos q, if_pos q2]
        · rw [if_neg (show ¬ kd = 1 from by rw [q]; decide), if_pos q, if_pos q2]
      rw [this]
      by_cases c : b.1 92 9 >>> (zz / 2 &&& 31) &&& 1 = 1
      · rw [if_pos c, if_pos c]; exact zC.same hz _
      · rw [if_neg c, if_neg c]; exact zC.same hz _
    · rw [if_pos q1]
      have : ∀ X Y : Option (Option mx_V × zd_D), (if kd = 1 then if yy = 4 then X else Y else if kd = 2 then if yy = 4 then X else Y else Y) = Y := by
        intro X Y
        by_cases c1 : kd = 1
        · rw [if_pos c1, if_neg (fun w => q2 ⟨Or.inl c1, w⟩)]
        · rw [if_neg c1]
          by_cases c2 : kd = 2
          · rw [if_pos c2, if_neg (fun w => q2 ⟨Or.inr c2, w⟩)]
          · rw [if_neg c2]
      rw [this]
      exact zC.same hz _
/-- only one slot has changed -/
theorem zR.sl (h : zR a b) {j : Nat} (hj : j < 6) (kx : ∀ c, ¬ c = 73 + 3 * j → ¬ c = 74 + 3 * j → a'.1 c = a.1 c) (k1 : ∀ c, ¬ c = 75 + 3 * j → a'.2.1 c = a.2.1 c) (k2 : a'.2.2 = a.2.2) (km : ∀ c, ¬ (123 ≤ c ∧ c ≤ 128) → b'.1 c = b.1 c) (k3 : ∀ i, ¬ i = 4 + j → b'.1 123 i = b.1 123 i) (k4 : ∀ i, ¬ i = 4 + j → b'.1 124 i = b.1 124 i) (k5 : ∀ i, ¬ (32 * (4 + j) ≤ i ∧ i < 32 * (4 + j) + 32) → b'.1 125 i = b.1 125 i) (k7 : ∀ i, ¬ i = j → b'.1 127 i = b.1 127 i) (k8 : ∀ i, ¬ (4 * j ≤ i ∧ i < 4 * j + 4) → b'.1 128 i = b.1 128 i) (h1 : zR_2 a' b' j) : zR a' b' := by
  have hz := h
  obtain ⟨f, n, nu, w, ⟨hs, hi, hp, hr, hq, hh, hl, hk⟩, hf⟩ := h
  refine hz.hl (fun c q => kx c (by omega) (by omega)) k2 (fun c q => km c (by omega)) (fun i hi => ?_) (fun i hi => ?_)
  · exact (hh i hi).fr (kx _ (by omega) (by omega)) (k1 _ (by omega)) (k3 _ (by omega)) (k4 _ (by omega)) (fun t ht => k5 _ (by omega))
  · by_cases e : i = j
    · subst e; exact h1
    have := hl i hi
    unfold zR_2 at this ⊢
    rw [kx (73 + 3 * i) (by omega) (by omega), kx (74 + 3 * i) (by omega) (by omega), k7 i e, k8 (4 * i) (by omega), k8 (4 * i + 1) (by omega), k8 (4 * i + 2) (by omega), k8 (4 * i + 3) (by omega)]
    obtain ⟨r, g1, g2, g3, g4, g5⟩ := this
    exact ⟨r, g1, g2, g3, g4, fun q => ⟨(g5 q).1.fr (kx _ (by omega) (by omega)) (k1 _ (by omega)) (k3 _ (by omega)) (k4 _ (by omega)) (fun t ht => k5 _ (by omega)), (g5 q).2⟩⟩
theorem zc_lay (x y z : Int32) (h : zR a b) : zC (zx nl 149 0 [z_r 0, z_i x, z_i y, z_i z, none, none] [] a) (zm 269 0 [z_r 91, z_i x, z_i y, z_i z, none, none] [] b) := by
  have hz := h
  obtain ⟨f, n, nu, w, h0, hf⟩ := h
  have hW := h0.W
  have hV := h0.V
  have hP := h0.P
  have hn := hW.le
  have s30 : a.1 3 0 = nI n := hP.1.1
  rcases zb_sgn x with hx | ⟨j, hj, rfl⟩
  · rw [ex_149_0, em_269_0, if_pos hx, if_pos hx]; exact zC.same hz _
  by_cases j6 : j < 6
  rotate_left
  · rw [ex_149_0, em_269_0, if_neg (nI_pos hj), if_neg (nI_pos hj), if_neg (show ¬ nI j < 6 from nI_nlt (b := 6) (by omega) hj), if_pos (show 5 < nI j from nI_lt (a := 5) (by omega) hj)]; exact zC.same hz _
  obtain ⟨r, hr, g1, g2, g3, g4⟩ := hz.slot j6
  have hE : ∀ y z : Int32, zx nl 149 0 [z_r 0, z_i (nI j), z_i y, z_i z, none, none] [] a = _ := fun y z => by rw [ex_149_0, if_neg (nI_pos hj), if_pos (show nI j < 6 from nI_lt (b := 6) (by omega) (by omega))]
  have hM : ∀ y z : Int32, zm 269 0 [z_r 91, z_i (nI j), z_i y, z_i z, none, none] [] b = _ := fun y z => by rw [em_269_0, if_neg (nI_pos hj), if_neg (show ¬ 5 < nI j from nI_nlt (a := 5) (by omega) (by omega))]
  rw [hE, hM]
  rcases zb_sgn y with hy | ⟨k, hk, rfl⟩
  · rw [if_pos hy, if_pos hy]; exact zC.same hz _
  rw [if_neg (nI_pos hk), if_neg (nI_pos hk)]
  by_cases k4 : k < 4
  rotate_left
  · rw [if_pos (show 3 < nI k from nI_lt (a := 3) (by omega) hk), if_pos (show 3 < nI k from nI_lt (a := 3) (by omega) hk)]; exact zC.same hz _
  rw [if_neg (show ¬ 3 < nI k from nI_nlt (a := 3) (by omega) (by omega)), if_neg (show ¬ 3 < nI k from nI_nlt (a := 3) (by omega) (by omega))]
  have i1 : ∀ {X Y : Option (Option mx_V × zd_D)}, ¬ k = 1 → (if nI k = 1 then X else Y) = Y := fun q => if_neg (fun w => q ((nI_eq (b := 1) (by omega) (by omega)).mp w))
  have i2 : ∀ {X Y : Option (Option mx_V × zd_D)}, ¬ k = 2 → (if nI k = 2 then X else Y) = Y := fun q => if_neg (fun w => q ((nI_eq (b := 2) (by omega) (by omega)).mp w))
  have hin : mx_in (nI j) 6 = true := zb_in j6 (by omega)
  by_cases k1 : k = 1
  · subst k1
    rw [if_pos (show nI 1 = 1 from rfl), if_pos (show nI 1 = 1 from rfl)]
    simp only [i2 (show ¬ (1 : Nat) = 2 by decide)]
    rcases zb_sgn z with hx | ⟨p, hp, rfl⟩
    · rw [if_pos hx, if_pos hx]; exact zC.same hz _
    rw [if_neg (nI_pos hp), if_neg (nI_pos hp), s30, hV.sz hW]
    have e1 : (nI n - 1 < nI p) ↔ n < p + 1 := zb_sub_lt (c := 1) (by omega) (by omega) hp
    by_cases pn : p < n
    rotate_left
    · rw [if_neg (show ¬ nI p < nI n from nI_nlt (by omega) hp), if_pos (e1.mpr (by omega))]; exact zC.same hz _
    rw [if_pos (show nI p < nI n from nI_lt pn (by omega)), if_neg (fun w => absurd (e1.mp w) (by omega)), hin, ex_149_38 _ _ _ (zd_o6 j6), zd_r63 hj, if_pos (show nI 1 = 1 from rfl), zb_in (show p < 28 by omega) (by omega), if_pos (show nI 1 = 1 from rfl), nI_clamp hp, nI_clamp hj]
    simp only [Bool.false_eq_true, reduceCtorEq, Nat.not_lt_zero, cond_true, cond_false, ↓reduceIte, if_true, if_false, Option.toList_some, Option.toList_none, List.nil_append, List.cons_append, Option.bind_some]
    obtain ⟨q1, q2, q3, q4, q5, q6⟩ := hP.1.2 p pn
    have q1 : a.1 4 p = f (12 + 4 * p) := q1
    have q6 : a.1 9 p = zs_ln f p := q6
    obtain ⟨d1, ⟨p1, p2, p3⟩, e1⟩ := zl_to (F := fun t d => zm 269 49 [z_r 91, z_i (nI j), z_i (nI 1), z_i (nI p), z_i (b.1 127 j), z_i (nI t)] [] d) (I := fun t d => (∀ q, ¬ q = 128 → d.1 q = (zd_u b 127 j (nI 1)).1 q) ∧ (∀ i, ¬ (4 * j ≤ i ∧ i < 4 * j + 4) → d.1 128 i = b.1 128 i) ∧ ∀ q, q < t → d.1 128 (4 * j + q) = b.1 92 (12 + 4 * p + q)) (n := 4) (by
      intro t d ht ⟨h1, h2, h3⟩
      refine ⟨zd_u d 128 (4 * j + t) (b.1 92 (12 + 4 * p + t)), ⟨fun q hq => by rw [zb_uc _ _ _ _ hq]; exact h1 q hq, fun q hq => by rw [zb_ui _ _ _ _ (by omega)]; exact h2 q hq, fun q hq => ?_⟩, ?_⟩
      · rw [zb_u]
        by_cases e : q = t
        · rw [if_pos ⟨rfl, by omega⟩, e]
        · rw [if_neg (fun w => e (by omega))]; exact h3 q (by omega)
      · (try dsimp only)
        rw [em_269_49, h1 92 (by decide), zb_uc _ _ _ _ (by decide)]
        simp (disch := omega) only [zb_ltl, zb_llt, zb_eql, zb_leq, nI_ltI, nI_eq, zb_in, nI_clamp, zb_al, zb_la, zb_ml, zb_lm, zb_mul, nI_add, Bool.false_eq_true, reduceCtorEq, Nat.not_lt_zero, cond_true, cond_false, ↓reduceIte, if_true, if_false, Option.toList_some, Option.toList_none, List.nil_append, List.cons_append, Option.bind_some, ht]) 0 (zd_u b 127 j (nI 1)) (by omega) ⟨fun _ _ => rfl, fun _ _ => by rw [zb_uc _ _ _ _ (by decide)], fun q hq => by omega⟩
    refine ⟨a.1 (73 + 3 * j) 0, _, d1, rfl, ?_, ?_⟩
    · refine Eq.trans e1 ?_
      (try dsimp only)
      rw [em_269_49, if_neg (show ¬ nI 4 < 4 by decide), if_neg (show ¬ nI 1 = 2 by decide), g1, g2]
    · refine hz.sl j6 (fun c w1 w2 => by rw [zb_uc _ _ _ _ w1, zb_uc _ _ _ _ w1, zb_uc _ _ _ _ w1]) (fun c _ => rfl) rfl (fun c w => by rw [p1 c (by omega), zb_uc _ _ _ _ (by omega)]) (fun i w => by rw [p1 123 (by omega), zb_uc _ _ _ _ (by omega)]) (fun i w => by rw [p1 124 (by omega), zb_uc _ _ _ _ (by omega)]) (fun i w => by rw [p1 125 (by omega), zb_uc _ _ _ _ (by omega)]) (fun i w => by rw [p1 127 (by omega), zb_ui _ _ _ _ w]) p2 ?_
      refine ⟨1, by omega, ?_, ?_, fun _ => ⟨?_, ?_, ?_⟩, fun w => by cases w⟩
      · rw [zb_ui _ _ _ _ (by decide), zb_ui _ _ _ _ (by decide), zb_ue]
      · rw [p1 127 (by omega), zb_ue]
      · rw [zb_ui _ _ _ _ (by decide), zb_ue, q1]
        have := p3 0 (by omega)
        rw [Nat.add_zero, Nat.add_zero, hV.o0 hW pn] at this
        rw [this]
      · have t0 := p3 0 (by omega)
        rw [Nat.add_zero, Nat.add_zero, hV.o0 hW pn] at t0
        rw [zb_ue, q6, t0, p3 2 (by omega), p3 3 (by omega), hV.o2 hW pn, hV.o3 hW pn]
        rfl
      · have t0 := p3 0 (by omega)
        rw [Nat.add_zero, Nat.add_zero, hV.o0 hW pn] at t0
        rw [t0, p3 1 (by omega), p3 2 (by omega), p3 3 (by omega), hV.o1 hW pn, hV.o2 hW pn, hV.o3 hW pn]
        exact (hW.2.2.2 p pn).1
  · rw [i1 k1, i1 k1]
    by_cases k2 : k = 2
    · subst k2
      rw [if_pos (show nI 2 = 2 from rfl), if_pos (show nI 2 = 2 from rfl)]
      simp only [show (nI 2 = 2) = True from eq_true rfl, i1 k1, Bool.false_eq_true, reduceCtorEq, Nat.not_lt_zero, cond_true, cond_false, ↓reduceIte, if_true, if_false, Option.toList_some, Option.toList_none, List.nil_append, List.cons_append, Option.bind_some]
      rcases zb_sgn z with hx | ⟨p, hp, rfl⟩
      · rw [if_pos hx, if_pos hx]; exact zC.same hz _
      rw [if_neg (nI_pos hp), if_neg (nI_pos hp)]
      by_cases p4 : p < 4
      rotate_left
      · rw [if_neg (show ¬ nI p < 4 from nI_nlt (b := 4) (by omega) hp), if_pos (show 3 < nI p from nI_lt (a := 3) (by omega) hp)]; exact zC.same hz _
      rw [if_pos (show nI p < 4 from nI_lt (b := 4) (by omega) (by omega)), if_neg (show ¬ 3 < nI p from nI_nlt (a := 3) (by omega) (by omega)), ex_149_29 _ _ _ (zd_o4 p4), zd_r62 hp]
      simp (disch := omega) only [zb_in, nI_clamp, zb_la, Bool.false_eq_true, reduceCtorEq, Nat.not_lt_zero, cond_true, cond_false, ↓reduceIte, if_true, if_false, Option.toList_some, Option.toList_none, List.nil_append, List.cons_append, Option.bind_some]
      rcases hz.sheet p4 with ⟨s1, s2⟩ | ⟨s1, ⟨r', hr', s2, s3⟩, ⟨l, hl, s4, s5⟩, s6⟩
      · rw [if_pos s1, s2, if_pos (show (-1 : Int32) < 0 by decide)]
        exact zC.same hz _
      rw [s1, if_neg (show ¬ (1 : Int32) = 0 by decide), s3, if_neg (nI_pos (by omega)), ex_149_38 _ _ _ (zd_o6 j6), zd_r63 hj, i1 k1, if_pos (show nI 2 = 2 from rfl)]
      have hc0 : 73 + 3 * j = 73 ∨ 73 + 3 * j = 76 ∨ 73 + 3 * j = 79 ∨ 73 + 3 * j = 82 ∨ 73 + 3 * j = 85 ∨ 73 + 3 * j = 88 := by omega
      rw [ex_149_63 _ _ _ hc0 (zd_o4 p4), zd_r62 hp, zb_uc _ _ _ _ (show ¬ 65 + 2 * p = 73 + 3 * j by omega), s1, s2, s4, s5, show ((1 : Int32) == 0 || (1 : Int32) == 1) = true by decide, cond_true]
      obtain ⟨d1, ⟨p1, p2, p3⟩, e1⟩ := zl_to (F := fun t d => zm 269 98 [z_r 91, z_i (nI j), none, z_i (nI p), z_i (b.1 127 j), z_i (nI t)] [] d) (I := fun t d => (∀ q, ¬ q = 125 → d.1 q = (zd_u (zd_u (zd_u b 127 j (nI 2)) 123 (4 + j) (nI r')) 124 (4 + j) (nI l)).1 q) ∧ (∀ i, ¬ (32 * (4 + j) ≤ i ∧ i < 32 * (4 + j) + 32) → d.1 125 i = b.1 125 i) ∧ ∀ q, q < t → d.1 125 (32 * (4 + j) + q) = b.1 125 (32 * p + q)) (n := 32) (by
        intro t d ht ⟨h1, h2, h3⟩
        refine ⟨zd_u d 125 (32 * (4 + j) + t) (b.1 125 (32 * p + t)), ⟨fun q hq => by rw [zb_uc _ _ _ _ hq]; exact h1 q hq, fun q hq => by rw [zb_ui _ _ _ _ (by omega)]; exact h2 q hq, fun q hq => ?_⟩, ?_⟩
        · rw [zb_u]
          by_cases e : q = t
          · rw [if_pos ⟨rfl, by omega⟩, e]
          · rw [if_neg (fun w => e (by omega))]; exact h3 q (by omega)
        · (try dsimp only)
          rw [em_269_98]
          simp (disch := omega) only [zb_ltl, zb_llt, zb_eql, zb_leq, nI_ltI, nI_eq, zb_in, nI_clamp, zb_al, zb_la, zb_ml, zb_lm, zb_mul, nI_add, Bool.false_eq_true, reduceCtorEq, Nat.not_lt_zero, cond_true, cond_false, ↓reduceIte, if_true, if_false, Option.toList_some, Option.toList_none, List.nil_append, List.cons_append, Option.bind_some, ht, h2 (32 * p + t) (by omega)]) 0 (zd_u (zd_u (zd_u b 127 j (nI 2)) 123 (4 + j) (nI r')) 124 (4 + j) (nI l)) (by omega) ⟨fun _ _ => rfl, fun _ _ => by rw [zb_uc _ _ _ _ (by decide), zb_uc _ _ _ _ (by decide), zb_uc _ _ _ _ (by decide)], fun q hq => by omega⟩
      have pp : ∀ q, ¬ q = 125 → ¬ q = 124 → ¬ q = 123 → ¬ q = 127 → d1.1 q = b.1 q := fun q w1 w2 w3 w4 => by rw [p1 q w1, zb_uc _ _ _ _ w2, zb_uc _ _ _ _ w3, zb_uc _ _ _ _ w4]
      have r3 : ∀ i, d1.1 123 i = (zd_u b 123 (4 + j) (nI r')).1 123 i := fun i => by rw [p1 123 (by decide)]; simp [zb_u]
      have r4 : ∀ i, d1.1 124 i = (zd_u b 124 (4 + j) (nI l)).1 124 i := fun i => by rw [p1 124 (by decide)]; simp [zb_u]
      have r7 : ∀ i, d1.1 127 i = (zd_u b 127 j (nI 2)).1 127 i := fun i => by rw [p1 127 (by decide), zb_uc _ _ _ _ (by decide), zb_uc _ _ _ _ (by decide)]
      refine ⟨a.1 (73 + 3 * j) 0, _, d1, rfl, ?_, ?_⟩
      · refine Eq.trans e1 ?_
        (try dsimp only)
        rw [em_269_98, if_neg (show ¬ nI 32 < 32 by decide), g1, g2]
      · refine hz.sl j6 (fun c w1 w2 => ?_) (fun c w => ?_) rfl (fun c w => pp c (by omega) (by omega) (by omega) (by omega)) (fun i w => by rw [r3, zb_ui _ _ _ _ w]) (fun i w => by rw [r4, zb_ui _ _ _ _ w]) p2 (fun i w => by rw [r7, zb_ui _ _ _ _ w]) (fun i w => by rw [pp 128 (by omega) (by omega) (by omega) (by omega)]) ?_
        · show (zd_u (zd_u (zd_u (zd_u a (73 + 3 * j) 0 (nI 2)) (73 + 3 * j + 1) 0 1) (73 + 3 * j + 1) 1 (nI r')) (73 + 3 * j + 1) 2 (nI l)).1 c = a.1 c
          rw [zb_uc _ _ _ _ (by omega), zb_uc _ _ _ _ (by omega), zb_uc _ _ _ _ (by omega), zb_uc _ _ _ _ w1]
        · exact if_neg (by omega)
        · have ee : ∀ c i, (zd_sl (zd_u (zd_u (zd_u (zd_u a (73 + 3 * j) 0 (nI 2)) (73 + 3 * j + 1) 0 1) (73 + 3 * j + 1) 1 (nI r')) (73 + 3 * j + 1) 2 (nI l)) (73 + 3 * j + 1 + 1) (va_cpy ((zd_u a (73 + 3 * j) 0 (nI 2)).2.1 (65 + 2 * p + 1)) ((zd_u a (73 + 3 * j) 0 (nI 2)).2.1 (73 + 3 * j + 1 + 1)) 0 0 32)).1 c i = (zd_u (zd_u (zd_u (zd_u a (73 + 3 * j) 0 (nI 2)) (74 + 3 * j) 0 1) (74 + 3 * j) 1 (nI r')) (74 + 3 * j) 2 (nI l)).1 c i := fun c i => by rw [show 74 + 3 * j = 73 + 3 * j + 1 by omega]; rfl
          unfold zR_2
          rw [ee]
          refine ⟨2, by omega, ?_, ?_, fun w => absurd w (by decide), fun _ => ⟨Or.inr ⟨?_, ⟨r', hr', ?_, ?_⟩, ⟨l, hl, ?_, ?_⟩, fun i hi => ?_⟩, ?_⟩⟩
          · rw [zb_uc _ _ _ _ (by omega), zb_uc _ _ _ _ (by omega), zb_uc _ _ _ _ (by omega), zb_ue]
          · rw [r7, zb_ue]
          · rw [ee, zb_ui _ _ _ _ (by decide), zb_ui _ _ _ _ (by decide), zb_ue]
          · rw [ee, zb_ui _ _ _ _ (by decide), zb_ue]
          · rw [r3, zb_ue]
          · rw [ee, zb_ue]
          · rw [r4, zb_ue]
          · rw [zb_sl, if_pos (by omega), p3 i hi]
            unfold va_cpy
            rw [if_pos (by omega), show 0 + (i - 0) = i by omega]
            exact s6 i hi
          · rw [ee, zb_ui _ _ _ _ (by decide), zb_ui _ _ _ _ (by decide), zb_ue]
    · simp only [i1 k1, i2 k2]
      rw [ex_149_38 _ _ _ (zd_o6 j6), zd_r63 hj, i1 k1, i2 k2, hin, nI_clamp hj]
      simp only [Bool.false_eq_true, reduceCtorEq, Nat.not_lt_zero, cond_true, cond_false, ↓reduceIte, if_true, if_false, Option.toList_some, Option.toList_none, List.nil_append, List.cons_append, Option.bind_some]
      refine ⟨a.1 (73 + 3 * j) 0, _, _, rfl, by rw [g1, g2], ?_⟩
      refine hz.sl j6 (fun c w1 w2 => by rw [zb_uc _ _ _ _ w1]) (fun c _ => rfl) rfl (fun c w => by rw [zb_uc _ _ _ _ (by omega)]) (fun i w => by rw [zb_uc _ _ _ _ (by omega)]) (fun i w => by rw [zb_uc _ _ _ _ (by omega)]) (fun i w => by rw [zb_uc _ _ _ _ (by omega)]) (fun i w => by rw [zb_ui _ _ _ _ w]) (fun i w => by rw [zb_uc _ _ _ _ (by omega)]) ?_
      exact ⟨k, k4, zb_ue _ _ _ _, zb_ue _ _ _ _, fun w => absurd w k1, fun w => absurd w k2⟩
end ZSlots
