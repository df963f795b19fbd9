/-! ===== calls: edges, turns, the machine, memory, locks, text, what waits, works, the run that was ===== -/
section ZcSmall
variable {nl : Int32} {a b : zd_D}
theorem zc_edges (h : zR a b) : zC (zx nl 100 0 [z_r 0] [] a) (zm 211 0 [z_r 91] [] b) := by
  obtain ⟨f, n, nu, w, h0, hf⟩ := h
  obtain ⟨b1, e1, k1, hE⟩ := rm_edges h0.W h0.V
  rw [ex_100_0, em_211_0, e1, show a.1 3 7 = nI (zs_B f n n) from h0.P.2.1.1]
  simp only [Bool.false_eq_true, reduceCtorEq, Nat.not_lt_zero, cond_true, cond_false, ↓reduceIte, if_true, if_false, Option.toList_some, Option.toList_none, List.nil_append, List.cons_append, Option.bind_some]
  rw [em_211_2, hE.1]
  exact zC.same (zR.m (k1.cm rfl rfl) ⟨f, n, nu, w, h0, hf⟩) _
set_option maxHeartbeats 1000000 in
theorem zc_edge (x y : Int32) (h : zR a b) : zC (zx nl 101 0 [z_r 0, z_i x, z_i y, none] [] a) (zm 212 0 [z_r 91, z_i x, z_i y] [] b) := by
  obtain ⟨f, n, nu, w, h0, hf⟩ := h
  have hn := h0.W.le
  have hB := zs_B812 (f := f) hn (Nat.le_refl n)
  obtain ⟨b1, e2, k2, hA2, hmu, hma⟩ := rm_all h0.W h0.V
  have hz : zR a b1 := zR.m (k2.cm rfl rfl) ⟨f, n, nu, w, h0, hf⟩
  have h0b := h0.m (k2.cm rfl rfl)
  rw [ex_101_0, em_212_0, e2, show a.1 3 7 = nI (zs_B f n n) from h0.P.2.1.1]
  simp only [Bool.false_eq_true, reduceCtorEq, Nat.not_lt_zero, cond_true, cond_false, ↓reduceIte, if_true, if_false, Option.toList_some, Option.toList_none, List.nil_append, List.cons_append, Option.bind_some]
  rw [em_212_2, hA2.1.1]
  rcases zb_sgn x with hx | ⟨j, hj, rfl⟩
  · simp only [hx, Bool.false_eq_true, reduceCtorEq, Nat.not_lt_zero, cond_true, cond_false, ↓reduceIte, if_true, if_false, Option.toList_some, Option.toList_none, List.nil_append, List.cons_append, Option.bind_some]
    exact zC.same hz _
  by_cases hjn : j < zs_B f n n
  · have hb1 : ∀ y : Int32, (y < 0 ∨ ∃ l : Nat, l < 2 ^ 31 ∧ 4 < l ∧ y = nI l) → ¬ y = 0 ∧ ¬ y = 1 ∧ ¬ y = 2 ∧ ¬ y = 3 ∧ ¬ y = 4 := by
      rintro y (hy | ⟨l, hl, h7, rfl⟩)
      · refine ⟨?_, ?_, ?_, ?_, ?_⟩ <;> (rintro rfl; exact absurd hy (by decide))
      · refine ⟨?_, ?_, ?_, ?_, ?_⟩ <;> (intro q; rw [zb_eql _ hl (by decide)] at q; omega)
    rcases zb_sgn y with hy | ⟨l, hl, rfl⟩
    · obtain ⟨q0, q1, q2, q3, q4⟩ := hb1 y (Or.inl hy)
      simp (disch := omega) only [zb_ltl, zb_llt, zb_eql, zb_leq, nI_ltI, nI_eq, zb_in, nI_clamp, zb_al, zb_la, zb_ml, zb_lm, zb_mul, nI_add, Bool.false_eq_true, reduceCtorEq, Nat.not_lt_zero, cond_true, cond_false, ↓reduceIte, if_true, if_false, Option.toList_some, Option.toList_none, List.nil_append, List.cons_append, Option.bind_some, zb_pl, hjn, show ¬ zs_B f n n < j + 1 by omega, hy, q0, q1, q2, q3, q4]
      exact zC.same hz _
    by_cases hl8 : 4 < l
    · obtain ⟨q0, q1, q2, q3, q4⟩ := hb1 (nI l) (Or.inr ⟨l, hl, hl8, rfl⟩)
      rw [if_neg (nI_pos hj), if_pos (nI_lt hjn (by omega)), if_neg q0, if_neg q1, if_neg q2, if_neg q3, if_neg q4]
      simp (disch := omega) only [zb_ltl, zb_llt, zb_eql, zb_leq, nI_ltI, nI_eq, zb_in, nI_clamp, zb_al, zb_la, zb_ml, zb_lm, zb_mul, nI_add, Bool.false_eq_true, reduceCtorEq, Nat.not_lt_zero, cond_true, cond_false, ↓reduceIte, if_true, if_false, Option.toList_some, Option.toList_none, List.nil_append, List.cons_append, Option.bind_some, zb_pl, show ¬ zs_B f n n < j + 1 by omega, hl8]
      exact zC.same hz _
    have p1 : a.1 11 j = nI (zs_E f n j).1 := (h0.P.2.1.2.2 j hjn).1
    have p2 : a.1 12 j = nI (zs_E f n j).2 := (h0.P.2.1.2.2 j hjn).2
    obtain ⟨q1, q2⟩ := hA2.1.2.1 j hjn
    obtain ⟨l1, l2⟩ := zs_Elt hjn
    obtain ⟨n1, n2, n3⟩ := h0b.MN j hjn
    have n4 : a.1 13 j = zs_nb (nu j) := (h0.N j hjn).1
    have hl' : l = 0 ∨ l = 1 ∨ l = 2 ∨ l = 3 ∨ l = 4 := by omega
    rcases hl' with rfl | rfl | rfl | rfl | rfl
    · simp (disch := omega) only [zb_ltl, zb_llt, zb_eql, zb_leq, nI_ltI, nI_eq, zb_in, nI_clamp, zb_al, zb_la, zb_ml, zb_lm, zb_mul, nI_add, Bool.false_eq_true, reduceCtorEq, Nat.not_lt_zero, cond_true, cond_false, ↓reduceIte, if_true, if_false, Option.toList_some, Option.toList_none, List.nil_append, List.cons_append, Option.bind_some, zb_ll, Nat.reduceEqDiff, zb_pl, hjn, show ¬ zs_B f n n < j + 1 by omega, p1, q1, show ¬ 4 < 0 by decide]
      exact zC.same hz _
    · simp (disch := omega) only [zb_ltl, zb_llt, zb_eql, zb_leq, nI_ltI, nI_eq, zb_in, nI_clamp, zb_al, zb_la, zb_ml, zb_lm, zb_mul, nI_add, Bool.false_eq_true, reduceCtorEq, Nat.not_lt_zero, cond_true, cond_false, ↓reduceIte, if_true, if_false, Option.toList_some, Option.toList_none, List.nil_append, List.cons_append, Option.bind_some, zb_ll, Nat.reduceEqDiff, zb_pl, hjn, show ¬ zs_B f n n < j + 1 by omega, p2, q2, show ¬ 4 < 1 by decide]
      exact zC.same hz _
    · simp (disch := omega) only [zb_ltl, zb_llt, zb_eql, zb_leq, nI_ltI, nI_eq, zb_in, nI_clamp, zb_al, zb_la, zb_ml, zb_lm, zb_mul, nI_add, Bool.false_eq_true, reduceCtorEq, Nat.not_lt_zero, cond_true, cond_false, ↓reduceIte, if_true, if_false, Option.toList_some, Option.toList_none, List.nil_append, List.cons_append, Option.bind_some, zb_ll, Nat.reduceEqDiff, zb_pl, hjn, show ¬ zs_B f n n < j + 1 by omega, p1, q1, p2, q2, show ¬ 4 < 2 by decide]
      by_cases ht : (zs_E f n j).1 < (zs_E f n j).2
      · simp only [ht, Bool.false_eq_true, reduceCtorEq, Nat.not_lt_zero, cond_true, cond_false, ↓reduceIte, if_true, if_false, Option.toList_some, Option.toList_none, List.nil_append, List.cons_append, Option.bind_some]; exact zC.same hz _
      · simp only [ht, Bool.false_eq_true, reduceCtorEq, Nat.not_lt_zero, cond_true, cond_false, ↓reduceIte, if_true, if_false, Option.toList_some, Option.toList_none, List.nil_append, List.cons_append, Option.bind_some]; exact zC.same hz _
    · simp (disch := omega) only [zb_ltl, zb_llt, zb_eql, zb_leq, nI_ltI, nI_eq, zb_in, nI_clamp, zb_al, zb_la, zb_ml, zb_lm, zb_mul, nI_add, Bool.false_eq_true, reduceCtorEq, Nat.not_lt_zero, cond_true, cond_false, ↓reduceIte, if_true, if_false, Option.toList_some, Option.toList_none, List.nil_append, List.cons_append, Option.bind_some, zb_ll, Nat.reduceEqDiff, zb_pl, hjn, show ¬ zs_B f n n < j + 1 by omega, n1, n4, show ¬ 4 < 3 by decide, zb_m1lt]
      unfold zs_nb
      by_cases h00 : nu j = 0
      · simp only [h00, Bool.false_eq_true, reduceCtorEq, Nat.not_lt_zero, cond_true, cond_false, ↓reduceIte, if_true, if_false, Option.toList_some, Option.toList_none, List.nil_append, List.cons_append, Option.bind_some]; exact zC.same hz _
      · simp only [h00, Bool.false_eq_true, reduceCtorEq, Nat.not_lt_zero, cond_true, cond_false, ↓reduceIte, if_true, if_false, Option.toList_some, Option.toList_none, List.nil_append, List.cons_append, Option.bind_some]
        rw [zb_pred (by omega)]
        exact zC.same hz _
    · obtain ⟨a1, e1, k1, hf1, h9, hF1⟩ := rx_fresh (nl := nl) h0 hf
      simp (disch := omega) only [zb_ltl, zb_llt, zb_eql, zb_leq, nI_ltI, nI_eq, zb_in, nI_clamp, zb_al, zb_la, zb_ml, zb_lm, zb_mul, nI_add, Bool.false_eq_true, reduceCtorEq, Nat.not_lt_zero, cond_true, cond_false, ↓reduceIte, if_true, if_false, Option.toList_some, Option.toList_none, List.nil_append, List.cons_append, Option.bind_some, zb_ll, Nat.reduceEqDiff, zb_pl, hjn, show ¬ zs_B f n n < j + 1 by omega, show ¬ 4 < 4 by decide, e1, rm_ec h0b.W h0b.V hA2 (h0.Ms.k k2 rfl) hjn]
      rw [ex_101_37, em_212_50]
      simp (disch := omega) only [zb_ltl, zb_llt, zb_eql, zb_leq, nI_ltI, nI_eq, zb_in, nI_clamp, zb_al, zb_la, zb_ml, zb_lm, zb_mul, nI_add, Bool.false_eq_true, reduceCtorEq, Nat.not_lt_zero, cond_true, cond_false, ↓reduceIte, if_true, if_false, Option.toList_some, Option.toList_none, List.nil_append, List.cons_append, Option.bind_some, hF1.2.2.1 j hjn]
      exact zC.same (zR.of h0 k1 hf1 (k2.cm rfl rfl)) _
  · simp (disch := omega) only [zb_ltl, zb_llt, zb_eql, zb_leq, nI_ltI, nI_eq, zb_in, nI_clamp, zb_al, zb_la, zb_ml, zb_lm, zb_mul, nI_add, Bool.false_eq_true, reduceCtorEq, Nat.not_lt_zero, cond_true, cond_false, ↓reduceIte, if_true, if_false, Option.toList_some, Option.toList_none, List.nil_append, List.cons_append, Option.bind_some, zb_pl, hjn, show zs_B f n n < j + 1 by omega]
    exact zC.same hz _
theorem zc_turns (x y : Int32) (h : zR a b) : zC (zx nl 103 0 [z_r 0, z_i x, z_i y, none] [] a) (zm 218 0 [z_r 91, z_i x, z_i y, none] [] b) := by
  obtain ⟨f, n, nu, w, h0, hf⟩ := h
  have hn := h0.W.le
  have hB := zs_B812 (f := f) hn (Nat.le_refl n)
  obtain ⟨b1, e2, k2, hE⟩ := rm_edges h0.W h0.V
  have hz : zR a b1 := zR.m (k2.cm rfl rfl) ⟨f, n, nu, w, h0, hf⟩
  have h0b := h0.m (k2.cm rfl rfl)
  have hf1 : zR_f a (b1.1 92 9) f n nu := by rw [k2.1 92 (by decide) rfl]; exact hf
  rw [ex_103_0, em_218_0, e2, show a.1 3 7 = nI (zs_B f n n) from h0.P.2.1.1]
  simp only [Bool.false_eq_true, reduceCtorEq, Nat.not_lt_zero, cond_true, cond_false, ↓reduceIte, if_true, if_false, Option.toList_some, Option.toList_none, List.nil_append, List.cons_append, Option.bind_some]
  rw [em_218_2, hE.1]
  rcases zb_sgn x with hx | ⟨j, hj, rfl⟩
  · simp only [hx, Bool.false_eq_true, reduceCtorEq, Nat.not_lt_zero, cond_true, cond_false, ↓reduceIte, if_true, if_false, Option.toList_some, Option.toList_none, List.nil_append, List.cons_append, Option.bind_some]
    exact zC.same hz _
  by_cases hjn : j < zs_B f n n
  · have p1 : a.1 11 j = nI (zs_E f n j).1 := (h0.P.2.1.2.2 j hjn).1
    have p2 : a.1 12 j = nI (zs_E f n j).2 := (h0.P.2.1.2.2 j hjn).2
    obtain ⟨q1, q2⟩ := hE.2.1 j hjn
    obtain ⟨l1, l2⟩ := zs_Elt hjn
    obtain ⟨n1, n2, n3⟩ := h0b.MN j hjn
    have n4 : a.1 13 j = zs_nb (nu j) := (h0.N j hjn).1
    -- what is written
    have fin : ∀ (r : Nat) (xa xb : Int32), r ≤ 10 → xa = zs_nb r → xb = nI r → ¬ (zs_E f n j).1 < (zs_E f n j).2 → zR (zd_u (zd_u a 13 j xa) 0 10 0) (zd_u b1 92 (200 + j) xb) := by
      intro r xa xb hr hxa hxb ht
      have htn : zs_tn f n j = true := by unfold zs_tn; rw [decide_eq_true_eq]; omega
      obtain ⟨⟨s1, s2, s3, s4, s5, s6, s7, s8, s9⟩, hrr⟩ := h0b
      have hrr : zRr a b1 := hrr
      have kk : ∀ c, ¬ c = 13 → ¬ c = 0 → (zd_u (zd_u a 13 j xa) 0 10 0).1 c = a.1 c := fun c q1 q2 => by rw [zb_uc _ _ _ _ q2, zb_uc _ _ _ _ q1]
      refine zR.mk2 (f := f) (n := n) (nu := fun e => if e = j then r else nu e) (w := w) ⟨s1, s2.u (Or.inl (by omega)) _, by rw [kk 2 (by decide) (by decide)]; exact s3, s4.c (fun k q1 q2 => kk k (by omega) (by omega)), s5.c (kk _ (by decide) (by decide)) (kk _ (by decide) (by decide)) (kk _ (by decide) (by decide)) (kk _ (by decide) (by decide)), ?_, ?_, (s8.c (kk _ (by decide) (by decide)) (kk _ (by decide) (by decide))).bu (by omega) _, (s9.c (kk _ (by decide) (by decide)) (kk _ (by decide) (by decide)) (kk _ (by decide) (by decide))).bu (by omega) _⟩ (((hrr.xs (by decide) _ _).x0 (by decide) _).m92 _ _) ?_
      · intro e he
        (try dsimp only)
        rw [zb_uc _ _ _ _ (by decide)]
        by_cases hej : e = j
        · subst hej
          rw [if_pos rfl, show (1 : Nat) + 2 + 10 = 13 from rfl, zb_ue]
          exact ⟨hxa, hr, fun _ => htn⟩
        · rw [if_neg hej, zb_ui _ _ _ _ hej]
          exact s6 e he
      · intro e he
        (try dsimp only)
        by_cases hej : e = j
        · subst hej
          rw [if_pos rfl, zb_ue]; exact hxb
        · rw [if_neg hej, zb_ui _ _ _ _ (by omega)]
          exact s7 e he
      · rw [zb_ui _ _ _ _ (by omega)]
        obtain ⟨f1, f2, f3⟩ := hf1
        refine ⟨?_, Or.inl (zb_ue _ _ _ _), f3.x (kk _ (by decide) (by decide)) rfl⟩
        rw [zb_ui _ _ _ _ (by decide), zb_uc _ _ _ _ (by decide)]
        rcases f1 with f1 | ⟨f1, f4⟩
        · exact Or.inl f1
        · exact Or.inr ⟨f1, f4.k (cs := []) (fs := []) (kk _ (by decide) (by decide)) (kk _ (by decide) (by decide)) (kk _ (by decide) (by decide)) (kk _ (by decide) (by decide)) (kk _ (by decide) (by decide)) (kk _ (by decide) (by decide))⟩
    have ans : ((if nu j = 0 then (-1000000005 : Int32) else nI (nu j) - 1)) = zs_nb (nu j) := by
      unfold zs_nb
      by_cases h00 : nu j = 0
      · rw [if_pos h00, if_pos h00]
      · rw [if_neg h00, if_neg h00, zb_pred (by omega)]
    by_cases hyn : y = -1000000005
    · subst hyn
      simp (disch := omega) only [zb_ltl, zb_llt, zb_eql, zb_leq, nI_ltI, nI_eq, zb_in, nI_clamp, zb_al, zb_la, zb_ml, zb_lm, zb_mul, nI_add, Bool.false_eq_true, reduceCtorEq, Nat.not_lt_zero, cond_true, cond_false, ↓reduceIte, if_true, if_false, Option.toList_some, Option.toList_none, List.nil_append, List.cons_append, Option.bind_some, zb_pl, hjn, show ¬ zs_B f n n < j + 1 by omega, p1, p2, q1, q2, n1, n4, zb_m1lt]
      by_cases ht : (zs_E f n j).1 < (zs_E f n j).2
      · simp only [ht, Bool.false_eq_true, reduceCtorEq, Nat.not_lt_zero, cond_true, cond_false, ↓reduceIte, if_true, if_false, Option.toList_some, Option.toList_none, List.nil_append, List.cons_append, Option.bind_some]; exact zC.same hz _
      · simp only [ht, Bool.false_eq_true, reduceCtorEq, Nat.not_lt_zero, cond_true, cond_false, ↓reduceIte, if_true, if_false, Option.toList_some, Option.toList_none, List.nil_append, List.cons_append, Option.bind_some]
        refine ⟨zs_nb (nu j), _, _, rfl, ?_, fin 0 _ _ (by decide) rfl rfl ht⟩
        rw [← ans]
        by_cases h00 : nu j = 0
        · simp only [h00, Bool.false_eq_true, reduceCtorEq, Nat.not_lt_zero, cond_true, cond_false, ↓reduceIte, if_true, if_false, Option.toList_some, Option.toList_none, List.nil_append, List.cons_append, Option.bind_some]; rfl
        · simp only [h00, Bool.false_eq_true, reduceCtorEq, Nat.not_lt_zero, cond_true, cond_false, ↓reduceIte, if_true, if_false, Option.toList_some, Option.toList_none, List.nil_append, List.cons_append, Option.bind_some]; rfl
    rcases zb_sgn y with hy | ⟨l, hl, rfl⟩
    · simp (disch := omega) only [zb_ltl, zb_llt, zb_eql, zb_leq, nI_ltI, nI_eq, zb_in, nI_clamp, zb_al, zb_la, zb_ml, zb_lm, zb_mul, nI_add, Bool.false_eq_true, reduceCtorEq, Nat.not_lt_zero, cond_true, cond_false, ↓reduceIte, if_true, if_false, Option.toList_some, Option.toList_none, List.nil_append, List.cons_append, Option.bind_some, zb_pl, hjn, show ¬ zs_B f n n < j + 1 by omega, hyn, hy]
      exact zC.same hz _
    by_cases hl9 : 9 < l
    · simp (disch := omega) only [zb_ltl, zb_llt, zb_eql, zb_leq, nI_ltI, nI_eq, zb_in, nI_clamp, zb_al, zb_la, zb_ml, zb_lm, zb_mul, nI_add, Bool.false_eq_true, reduceCtorEq, Nat.not_lt_zero, cond_true, cond_false, ↓reduceIte, if_true, if_false, Option.toList_some, Option.toList_none, List.nil_append, List.cons_append, Option.bind_some, zb_pl, hjn, show ¬ zs_B f n n < j + 1 by omega, hyn, hl9]
      exact zC.same hz _
    · simp (disch := omega) only [zb_ltl, zb_llt, zb_eql, zb_leq, nI_ltI, nI_eq, zb_in, nI_clamp, zb_al, zb_la, zb_ml, zb_lm, zb_mul, nI_add, Bool.false_eq_true, reduceCtorEq, Nat.not_lt_zero, cond_true, cond_false, ↓reduceIte, if_true, if_false, Option.toList_some, Option.toList_none, List.nil_append, List.cons_append, Option.bind_some, zb_pl, hjn, show ¬ zs_B f n n < j + 1 by omega, hyn, hl9, p1, p2, q1, q2, n1, n4, zb_m1lt]
      by_cases ht : (zs_E f n j).1 < (zs_E f n j).2
      · simp only [ht, Bool.false_eq_true, reduceCtorEq, Nat.not_lt_zero, cond_true, cond_false, ↓reduceIte, if_true, if_false, Option.toList_some, Option.toList_none, List.nil_append, List.cons_append, Option.bind_some]; exact zC.same hz _
      · simp only [ht, Bool.false_eq_true, reduceCtorEq, Nat.not_lt_zero, cond_true, cond_false, ↓reduceIte, if_true, if_false, Option.toList_some, Option.toList_none, List.nil_append, List.cons_append, Option.bind_some]
        refine ⟨zs_nb (nu j), _, _, rfl, ?_, fin (l + 1) _ _ (by omega) (by unfold zs_nb; rw [if_neg (by omega), Nat.add_sub_cancel]) rfl ht⟩
        rw [← ans]
        by_cases h00 : nu j = 0
        · simp only [h00, Bool.false_eq_true, reduceCtorEq, Nat.not_lt_zero, cond_true, cond_false, ↓reduceIte, if_true, if_false, Option.toList_some, Option.toList_none, List.nil_append, List.cons_append, Option.bind_some]
        · simp only [h00, Bool.false_eq_true, reduceCtorEq, Nat.not_lt_zero, cond_true, cond_false, ↓reduceIte, if_true, if_false, Option.toList_some, Option.toList_none, List.nil_append, List.cons_append, Option.bind_some]
  · simp (disch := omega) only [zb_ltl, zb_llt, zb_eql, zb_leq, nI_ltI, nI_eq, zb_in, nI_clamp, zb_al, zb_la, zb_ml, zb_lm, zb_mul, nI_add, Bool.false_eq_true, reduceCtorEq, Nat.not_lt_zero, cond_true, cond_false, ↓reduceIte, if_true, if_false, Option.toList_some, Option.toList_none, List.nil_append, List.cons_append, Option.bind_some, zb_pl, hjn, show zs_B f n n < j + 1 by omega]
    exact zC.same hz _
theorem zc_is (x : Int32) (h : zR a b) : zC (zx nl 35 0 [z_r 0, z_i x] [] a) (zm 178 0 [z_r 91, z_i x] [] b) := by
  have hz := h
  obtain ⟨f, n, nu, w, h0, hf⟩ := h
  rw [ex_35_0, em_178_0, rx_rem h0.W h0.P.2.2, rm_rem h0.W h0.V]
  simp only [Bool.false_eq_true, reduceCtorEq, Nat.not_lt_zero, cond_true, cond_false, ↓reduceIte, if_true, if_false, Option.toList_some, Option.toList_none, List.nil_append, List.cons_append, Option.bind_some]
  rw [ex_35_13, em_178_15]
  rcases zb_sgn x with hx | ⟨j, hj, rfl⟩
  · have : ¬ x = 8 := by rintro rfl; exact absurd hx (by decide)
    simp only [hx, this, Bool.false_eq_true, reduceCtorEq, Nat.not_lt_zero, cond_true, cond_false, ↓reduceIte, if_true, if_false, Option.toList_some, Option.toList_none, List.nil_append, List.cons_append, Option.bind_some]
    exact zC.same hz _
  by_cases h8 : j < 8
  · simp (disch := omega) only [zb_ltl, zb_llt, zb_eql, zb_leq, nI_ltI, nI_eq, zb_in, nI_clamp, zb_al, zb_la, zb_ml, zb_lm, zb_mul, nI_add, Bool.false_eq_true, reduceCtorEq, Nat.not_lt_zero, cond_true, cond_false, ↓reduceIte, if_true, if_false, Option.toList_some, Option.toList_none, List.nil_append, List.cons_append, Option.bind_some, show ¬ 8 < j by omega, show ¬ j = 8 by omega, show ¬ 7 < j by omega, h0.P.2.2 j h8, h0.V j (by omega) (by omega) (by omega)]
    exact zC.same hz _
  · by_cases h9 : j = 8
    · subst h9
      simp (disch := omega) only [zb_ltl, zb_llt, zb_eql, zb_leq, nI_ltI, nI_eq, zb_in, nI_clamp, zb_al, zb_la, zb_ml, zb_lm, zb_mul, nI_add, Bool.false_eq_true, reduceCtorEq, Nat.not_lt_zero, cond_true, cond_false, ↓reduceIte, if_true, if_false, Option.toList_some, Option.toList_none, List.nil_append, List.cons_append, Option.bind_some, Nat.lt_irrefl, show 7 < 8 by decide]
      exact zC.same hz _
    · simp (disch := omega) only [zb_ltl, zb_llt, zb_eql, zb_leq, nI_ltI, nI_eq, zb_in, nI_clamp, zb_al, zb_la, zb_ml, zb_lm, zb_mul, nI_add, Bool.false_eq_true, reduceCtorEq, Nat.not_lt_zero, cond_true, cond_false, ↓reduceIte, if_true, if_false, Option.toList_some, Option.toList_none, List.nil_append, List.cons_append, Option.bind_some, show 8 < j by omega, h9, show 7 < j by omega]
      exact zC.same hz _
theorem zc_memory (x y : Int32) (h : zR a b) : zC (zx nl 37 0 [z_r 0, z_i x, z_i y, none] [] a) (zm 180 0 [z_r 91, z_i x, z_i y, none] [] b) := by
  have hz := h
  obtain ⟨f, n, nu, w, h0, hf⟩ := h
  rw [ex_37_0, em_180_0]
  rcases zb_sgn x with hx | ⟨j, hj, rfl⟩
  · simp only [hx, Bool.false_eq_true, reduceCtorEq, Nat.not_lt_zero, cond_true, cond_false, ↓reduceIte, if_true, if_false, Option.toList_some, Option.toList_none, List.nil_append, List.cons_append, Option.bind_some]
    exact zC.same hz _
  by_cases h32 : j < 32
  · obtain ⟨⟨s1, s2, s3, s4, s5, s6, s7, ⟨t1, t2, t3⟩, s9⟩, hrr⟩ := h0
    have hrr : zRr a b := hrr
    have t3j : a.1 14 j = b.1 92 (152 + j) := t3 j h32
    simp (disch := omega) only [zb_ltl, zb_llt, zb_eql, zb_leq, nI_ltI, nI_eq, zb_in, nI_clamp, zb_al, zb_la, zb_ml, zb_lm, zb_mul, nI_add, Bool.false_eq_true, reduceCtorEq, Nat.not_lt_zero, cond_true, cond_false, ↓reduceIte, if_true, if_false, Option.toList_some, Option.toList_none, List.nil_append, List.cons_append, Option.bind_some, h32, show ¬ 31 < j by omega, t3j]
    have kk : ∀ c, ¬ c = 14 → (zd_u a 14 j y).1 c = a.1 c := fun c q => zb_uc _ _ _ _ q
    refine ⟨_, _, _, rfl, rfl, zR.mk2 (f := f) (n := n) (nu := nu) (w := w) ⟨s1, s2.u (Or.inl (by omega)) _, by rw [kk 2 (by decide)]; exact s3, s4.c (fun k q1 q2 => kk k (by omega)), s5.c (kk _ (by decide)) (kk _ (by decide)) (kk _ (by decide)) (kk _ (by decide)), s6.c (kk _ (by decide)), s7.u (by omega) _, ⟨?_, ?_, fun i hi => ?_⟩, (s9.c (kk _ (by decide)) (kk _ (by decide)) (kk _ (by decide))).bu (by omega) _⟩ ((hrr.xs (by decide) _ _).m92 _ _) ?_⟩
    · rw [kk 1 (by decide), zb_ui _ _ _ _ (by omega)]; exact t1
    · rw [zb_ui _ _ _ _ (by omega)]; exact t2
    · show (zd_u a 14 j y).1 14 i = (zd_u b 92 (152 + j) y).1 92 (152 + i)
      by_cases hij : i = j
      · subst hij; rw [zb_ue, zb_ue]
      · rw [zb_ui _ _ _ _ hij, zb_ui _ _ _ _ (by omega)]; exact t3 i hi
    · rw [zb_ui _ _ _ _ (by omega)]; exact hf.xs (by decide) _ _
  · simp (disch := omega) only [zb_ltl, zb_llt, zb_eql, zb_leq, nI_ltI, nI_eq, zb_in, nI_clamp, zb_al, zb_la, zb_ml, zb_lm, zb_mul, nI_add, Bool.false_eq_true, reduceCtorEq, Nat.not_lt_zero, cond_true, cond_false, ↓reduceIte, if_true, if_false, Option.toList_some, Option.toList_none, List.nil_append, List.cons_append, Option.bind_some, h32, show 31 < j by omega]
    exact zC.same hz _
theorem zc_trim (x : Int32) (h : zR a b) : zC (zx nl 14 0 [z_r 0, z_i x] [] a) (zm 168 0 [z_r 91, z_i x] [] b) := by
  have hz := h
  obtain ⟨f, n, nu, w, ⟨hs, hi, ⟨t, ht, p1, p2, p3⟩, hr, hq, hh, hl, hk⟩, hf⟩ := h
  rw [ex_14_0, em_168_0, p1, p2]
  rcases zb_sgn x with hx | ⟨j, hj, rfl⟩
  · simp only [hx, Bool.false_eq_true, reduceCtorEq, Nat.not_lt_zero, cond_true, cond_false, ↓reduceIte, if_true, if_false, Option.toList_some, Option.toList_none, List.nil_append, List.cons_append, Option.bind_some]
    exact zC.same hz _
  by_cases h1 : t < j
  · simp (disch := omega) only [zb_ltl, zb_llt, zb_eql, zb_leq, nI_ltI, nI_eq, zb_in, nI_clamp, zb_al, zb_la, zb_ml, zb_lm, zb_mul, nI_add, Bool.false_eq_true, reduceCtorEq, Nat.not_lt_zero, cond_true, cond_false, ↓reduceIte, if_true, if_false, Option.toList_some, Option.toList_none, List.nil_append, List.cons_append, Option.bind_some, h1]
    exact zC.same hz _
  · simp (disch := omega) only [zb_ltl, zb_llt, zb_eql, zb_leq, nI_ltI, nI_eq, zb_in, nI_clamp, zb_al, zb_la, zb_ml, zb_lm, zb_mul, nI_add, Bool.false_eq_true, reduceCtorEq, Nat.not_lt_zero, cond_true, cond_false, ↓reduceIte, if_true, if_false, Option.toList_some, Option.toList_none, List.nil_append, List.cons_append, Option.bind_some, h1]
    have kk : ∀ c, ¬ c = 35 → (zd_u a 35 1 (nI j)).1 c = a.1 c := fun c q => zb_uc _ _ _ _ q
    have mm : ∀ c, ¬ c = 91 → (zd_u b 91 4 (nI j)).1 c = b.1 c := fun c q => zb_uc _ _ _ _ q
    have m9 : ∀ i, ¬ i = 4 → (zd_u b 91 4 (nI j)).1 91 i = b.1 91 i := fun c q => zb_ui _ _ _ _ q
    refine ⟨_, _, _, rfl, rfl, zR.mk2 (f := f) (n := n) (nu := nu) (w := w) ((hs.x (Or.inl rfl) (fun c q => kk c (by omega))).m (mm 92 (by decide))) ⟨(hi.x (by rw [kk 0 (by decide)]) (fun c q1 q2 => kk c (by omega))).m (m9 2 (by decide)) (mm 93 (by decide)), ⟨j, by omega, zb_ue _ _ _ _, zb_ue _ _ _ _, fun i hi => ?_⟩, (hr.x (kk _ (by decide)) (kk _ (by decide)) (kk _ (by decide)) (kk _ (by decide))).m (m9 _ (by decide)) (mm _ (by decide)) (mm _ (by decide)) (mm _ (by decide)), (hq.x (by rw [kk 0 (by decide)]) (kk _ (by decide))).m (m9 _ (by decide)) (mm _ (by decide)), (hh.x (fun c q1 q2 => kk c (by omega)) rfl).m (mm _ (by decide)) (mm _ (by decide)) (mm _ (by decide)), (hl.x (fun c q1 q2 => kk c (by omega)) rfl).m (mm _ (by decide)) (mm _ (by decide)) (mm _ (by decide)) (mm _ (by decide)) (mm _ (by decide)), hk.m (m9 _ (by decide)) (mm _ (by decide)) (mm _ (by decide))⟩ (by rw [mm 92 (by decide)]; exact hf.xs (by decide) _ _)⟩
    rw [kk 36 (by decide), mm 94 (by decide)]
    exact p3 i (by omega)
theorem zc_tell (x : Int32) (h : zR a b) : zC (zx nl 155 0 [z_r 0, z_i x] [] a) (zm 274 0 [z_r 91, z_i x] [] b) := by
  have hz := h
  obtain ⟨f, n, nu, w, ⟨hs, hi, hp, hr, ⟨u, hu, q1, q2, q3⟩, hh, hl, hk⟩, hf⟩ := h
  rw [ex_155_0, em_274_0, q1, q2]
  by_cases h60 : u < 60
  · simp (disch := omega) only [zb_ltl, zb_llt, zb_eql, zb_leq, nI_ltI, nI_eq, zb_in, nI_clamp, zb_al, zb_la, zb_ml, zb_lm, zb_mul, nI_add, Bool.false_eq_true, reduceCtorEq, Nat.not_lt_zero, cond_true, cond_false, ↓reduceIte, if_true, if_false, Option.toList_some, Option.toList_none, List.nil_append, List.cons_append, Option.bind_some, h60, show ¬ u = 60 by omega]
    have kk : ∀ c, ¬ c = 64 → ¬ c = 0 → (zd_u (zd_u a 64 u x) 0 14 (nI (u + 1))).1 c = a.1 c := fun c g1 g2 => by rw [zb_uc _ _ _ _ g2, zb_uc _ _ _ _ g1]
    have k0 : ∀ i, ¬ i = 14 → (zd_u (zd_u a 64 u x) 0 14 (nI (u + 1))).1 0 i = a.1 0 i := fun i g => by rw [zb_ui _ _ _ _ g, zb_uc _ _ _ _ (by decide)]
    have mm : ∀ c, ¬ c = 129 → ¬ c = 91 → (zd_u (zd_u b 129 u x) 91 53 (nI (u + 1))).1 c = b.1 c := fun c g1 g2 => by rw [zb_uc _ _ _ _ g2, zb_uc _ _ _ _ g1]
    have m9 : ∀ i, ¬ i = 53 → (zd_u (zd_u b 129 u x) 91 53 (nI (u + 1))).1 91 i = b.1 91 i := fun i g => by rw [zb_ui _ _ _ _ g, zb_uc _ _ _ _ (by decide)]
    refine ⟨_, _, _, rfl, rfl, zR.mk2 (f := f) (n := n) (nu := nu) (w := w) ((hs.x (Or.inl rfl) (fun c q => kk c (by omega) (by omega))).m (mm 92 (by decide) (by decide))) ⟨(hi.x (k0 2 (by decide)) (fun c q1 q2 => kk c (by omega) (by omega))).m (m9 2 (by decide)) (mm 93 (by decide) (by decide)), (hp.x (by rw [kk 35 (by decide) (by decide)]) (kk _ (by decide) (by decide))).m (m9 _ (by decide)) (mm _ (by decide) (by decide)), (hr.x (kk _ (by decide) (by decide)) (kk _ (by decide) (by decide)) (kk _ (by decide) (by decide)) (kk _ (by decide) (by decide))).m (m9 _ (by decide)) (mm _ (by decide) (by decide)) (mm _ (by decide) (by decide)) (mm _ (by decide) (by decide)), ⟨u + 1, by omega, zb_ue _ _ _ _, zb_ue _ _ _ _, fun i hi => ?_⟩, (hh.x (fun c q1 q2 => kk c (by omega) (by omega)) rfl).m (mm _ (by decide) (by decide)) (mm _ (by decide) (by decide)) (mm _ (by decide) (by decide)), (hl.x (fun c q1 q2 => kk c (by omega) (by omega)) rfl).m (mm _ (by decide) (by decide)) (mm _ (by decide) (by decide)) (mm _ (by decide) (by decide)) (mm _ (by decide) (by decide)) (mm _ (by decide) (by decide)), hk.m (m9 _ (by decide)) (mm _ (by decide) (by decide)) (mm _ (by decide) (by decide))⟩ (by rw [mm 92 (by decide) (by decide)]; exact hf.x (k0 _ (by decide)) (k0 _ (by decide)) (fun c g1 g2 => kk c (by omega) (by omega)) (kk _ (by decide) (by decide)) rfl)⟩
    rw [zb_uc (zd_u a 64 u x) 0 14 _ (show 64 ≠ 0 by decide), zb_uc (zd_u b 129 u x) 91 53 _ (show 129 ≠ 91 by decide), zb_u, zb_u]
    by_cases e : i = u
    · rw [if_pos ⟨rfl, e⟩, if_pos ⟨rfl, e⟩]
    · rw [if_neg (fun q => e q.2), if_neg (fun q => e q.2)]
      exact q3 i (by omega)
  · simp (disch := omega) only [zb_ltl, zb_llt, zb_eql, zb_leq, nI_ltI, nI_eq, zb_in, nI_clamp, zb_al, zb_la, zb_ml, zb_lm, zb_mul, nI_add, Bool.false_eq_true, reduceCtorEq, Nat.not_lt_zero, cond_true, cond_false, ↓reduceIte, if_true, if_false, Option.toList_some, Option.toList_none, List.nil_append, List.cons_append, Option.bind_some, h60, show u = 60 by omega, Nat.lt_irrefl]
    exact zC.same hz _
theorem zc_ran (x : Int32) (h : zR a b) : zC (zx nl 96 0 [z_r 0, z_i x] [] a) (zm 236 0 [z_r 91, z_i x] [] b) := by
  have hz := h
  obtain ⟨f, n, nu, w, ⟨hs, hi, hp, hr, hrest⟩, hf⟩ := h
  rw [ex_96_0, em_236_0]
  rcases zb_sgn x with hx | ⟨j, hj, rfl⟩
  · simp only [hx, Bool.false_eq_true, reduceCtorEq, Nat.not_lt_zero, cond_true, cond_false, ↓reduceIte, if_true, if_false, Option.toList_some, Option.toList_none, List.nil_append, List.cons_append, Option.bind_some]
    exact zC.same hz _
  by_cases h12 : 12 < j
  · simp (disch := omega) only [zb_ltl, zb_llt, zb_eql, zb_leq, nI_ltI, nI_eq, zb_in, nI_clamp, zb_al, zb_la, zb_ml, zb_lm, zb_mul, nI_add, Bool.false_eq_true, reduceCtorEq, Nat.not_lt_zero, cond_true, cond_false, ↓reduceIte, if_true, if_false, Option.toList_some, Option.toList_none, List.nil_append, List.cons_append, Option.bind_some, h12]
    exact zC.same hz _
  rcases hr with ⟨r1, r2⟩ | ⟨r1, r2, ⟨u, hu, r3, r4, r5⟩, g0, g2, g3, g4, g5, g6, ⟨g7, g7'⟩, g8, g9⟩
  · simp (disch := omega) only [zb_ltl, zb_llt, zb_eql, zb_leq, nI_ltI, nI_eq, zb_in, nI_clamp, zb_al, zb_la, zb_ml, zb_lm, zb_mul, nI_add, Bool.false_eq_true, reduceCtorEq, Nat.not_lt_zero, cond_true, cond_false, ↓reduceIte, if_true, if_false, Option.toList_some, Option.toList_none, List.nil_append, List.cons_append, Option.bind_some, h12, r1, r2]
    exact zC.same hz _
  simp (disch := omega) only [zb_ltl, zb_llt, zb_eql, zb_leq, nI_ltI, nI_eq, zb_in, nI_clamp, zb_al, zb_la, zb_ml, zb_lm, zb_mul, nI_add, Bool.false_eq_true, reduceCtorEq, Nat.not_lt_zero, cond_true, cond_false, ↓reduceIte, if_true, if_false, Option.toList_some, Option.toList_none, List.nil_append, List.cons_append, Option.bind_some, h12, r1, r2, show ¬ (1 : Int32) = 0 by decide]
  rw [ex_97_0]
  have hj13 : j = 0 ∨ j = 1 ∨ j = 2 ∨ j = 3 ∨ j = 4 ∨ j = 5 ∨ j = 6 ∨ j = 7 ∨ j = 8 ∨ j = 9 ∨ j = 10 ∨ j = 11 ∨ j = 12 := by omega
  have reg : ∀ r, r < 4 → ∀ k, k = 6 + r → a.1 46 r = b.1 102 k := fun r hr k hk => by rw [hk]; exact g6 r hr
  rcases hj13 with rfl | rfl | rfl | rfl | rfl | rfl | rfl | rfl | rfl | rfl | rfl | rfl | rfl
  · simp (disch := omega) only [zb_ltl, zb_llt, zb_eql, zb_leq, nI_ltI, nI_eq, zb_in, nI_clamp, zb_al, zb_la, zb_ml, zb_lm, zb_mul, nI_add, Bool.false_eq_true, reduceCtorEq, Nat.not_lt_zero, cond_true, cond_false, ↓reduceIte, if_true, if_false, Option.toList_some, Option.toList_none, List.nil_append, List.cons_append, Option.bind_some, zb_ll, Nat.reduceEqDiff]
    rw [ex_96_15, g0]; exact zC.same hz _
  · simp (disch := omega) only [zb_ltl, zb_llt, zb_eql, zb_leq, nI_ltI, nI_eq, zb_in, nI_clamp, zb_al, zb_la, zb_ml, zb_lm, zb_mul, nI_add, Bool.false_eq_true, reduceCtorEq, Nat.not_lt_zero, cond_true, cond_false, ↓reduceIte, if_true, if_false, Option.toList_some, Option.toList_none, List.nil_append, List.cons_append, Option.bind_some, zb_ll, Nat.reduceEqDiff]
    rw [ex_96_15, r3, r4]; exact zC.same hz _
  · simp (disch := omega) only [zb_ltl, zb_llt, zb_eql, zb_leq, nI_ltI, nI_eq, zb_in, nI_clamp, zb_al, zb_la, zb_ml, zb_lm, zb_mul, nI_add, Bool.false_eq_true, reduceCtorEq, Nat.not_lt_zero, cond_true, cond_false, ↓reduceIte, if_true, if_false, Option.toList_some, Option.toList_none, List.nil_append, List.cons_append, Option.bind_some, zb_ll, Nat.reduceEqDiff]
    rw [ex_96_15, g2]; exact zC.same hz _
  · simp (disch := omega) only [zb_ltl, zb_llt, zb_eql, zb_leq, nI_ltI, nI_eq, zb_in, nI_clamp, zb_al, zb_la, zb_ml, zb_lm, zb_mul, nI_add, Bool.false_eq_true, reduceCtorEq, Nat.not_lt_zero, cond_true, cond_false, ↓reduceIte, if_true, if_false, Option.toList_some, Option.toList_none, List.nil_append, List.cons_append, Option.bind_some, zb_ll, Nat.reduceEqDiff]
    rw [ex_96_15, g3]; exact zC.same hz _
  · simp (disch := omega) only [zb_ltl, zb_llt, zb_eql, zb_leq, nI_ltI, nI_eq, zb_in, nI_clamp, zb_al, zb_la, zb_ml, zb_lm, zb_mul, nI_add, Bool.false_eq_true, reduceCtorEq, Nat.not_lt_zero, cond_true, cond_false, ↓reduceIte, if_true, if_false, Option.toList_some, Option.toList_none, List.nil_append, List.cons_append, Option.bind_some, zb_ll, Nat.reduceEqDiff]
    rw [ex_96_15, g4]; exact zC.same hz _
  · simp (disch := omega) only [zb_ltl, zb_llt, zb_eql, zb_leq, nI_ltI, nI_eq, zb_in, nI_clamp, zb_al, zb_la, zb_ml, zb_lm, zb_mul, nI_add, Bool.false_eq_true, reduceCtorEq, Nat.not_lt_zero, cond_true, cond_false, ↓reduceIte, if_true, if_false, Option.toList_some, Option.toList_none, List.nil_append, List.cons_append, Option.bind_some, zb_ll, Nat.reduceEqDiff]
    rw [ex_96_15, g5]; exact zC.same hz _
  · simp (disch := omega) only [zb_ltl, zb_llt, zb_eql, zb_leq, nI_ltI, nI_eq, zb_in, nI_clamp, zb_al, zb_la, zb_ml, zb_lm, zb_mul, nI_add, Bool.false_eq_true, reduceCtorEq, Nat.not_lt_zero, cond_true, cond_false, ↓reduceIte, if_true, if_false, Option.toList_some, Option.toList_none, List.nil_append, List.cons_append, Option.bind_some, zb_ll, Nat.reduceEqDiff, zb_sl1, show ¬ 6 < 6 by decide, show 6 < 10 by decide, reg 0 (by decide) 6 rfl, show 6 - 6 = 0 from rfl]
    rw [ex_96_15]; exact zC.same hz _
  · simp (disch := omega) only [zb_ltl, zb_llt, zb_eql, zb_leq, nI_ltI, nI_eq, zb_in, nI_clamp, zb_al, zb_la, zb_ml, zb_lm, zb_mul, nI_add, Bool.false_eq_true, reduceCtorEq, Nat.not_lt_zero, cond_true, cond_false, ↓reduceIte, if_true, if_false, Option.toList_some, Option.toList_none, List.nil_append, List.cons_append, Option.bind_some, zb_ll, Nat.reduceEqDiff, zb_sl1, show ¬ 7 < 6 by decide, show 7 < 10 by decide, reg 1 (by decide) 7 rfl, show 7 - 6 = 1 from rfl]
    rw [ex_96_15]; exact zC.same hz _
  · simp (disch := omega) only [zb_ltl, zb_llt, zb_eql, zb_leq, nI_ltI, nI_eq, zb_in, nI_clamp, zb_al, zb_la, zb_ml, zb_lm, zb_mul, nI_add, Bool.false_eq_true, reduceCtorEq, Nat.not_lt_zero, cond_true, cond_false, ↓reduceIte, if_true, if_false, Option.toList_some, Option.toList_none, List.nil_append, List.cons_append, Option.bind_some, zb_ll, Nat.reduceEqDiff, zb_sl1, show ¬ 8 < 6 by decide, show 8 < 10 by decide, reg 2 (by decide) 8 rfl, show 8 - 6 = 2 from rfl]
    rw [ex_96_15]; exact zC.same hz _
  · simp (disch := omega) only [zb_ltl, zb_llt, zb_eql, zb_leq, nI_ltI, nI_eq, zb_in, nI_clamp, zb_al, zb_la, zb_ml, zb_lm, zb_mul, nI_add, Bool.false_eq_true, reduceCtorEq, Nat.not_lt_zero, cond_true, cond_false, ↓reduceIte, if_true, if_false, Option.toList_some, Option.toList_none, List.nil_append, List.cons_append, Option.bind_some, zb_ll, Nat.reduceEqDiff, zb_sl1, show ¬ 9 < 6 by decide, show 9 < 10 by decide, reg 3 (by decide) 9 rfl, show 9 - 6 = 3 from rfl]
    rw [ex_96_15]; exact zC.same hz _
  · simp (disch := omega) only [zb_ltl, zb_llt, zb_eql, zb_leq, nI_ltI, nI_eq, zb_in, nI_clamp, zb_al, zb_la, zb_ml, zb_lm, zb_mul, nI_add, Bool.false_eq_true, reduceCtorEq, Nat.not_lt_zero, cond_true, cond_false, ↓reduceIte, if_true, if_false, Option.toList_some, Option.toList_none, List.nil_append, List.cons_append, Option.bind_some, zb_ll, Nat.reduceEqDiff, g7]
    rcases g7' with g7' | g7'
    · rw [g7', if_pos rfl]
      simp only [Bool.false_eq_true, reduceCtorEq, Nat.not_lt_zero, cond_true, cond_false, ↓reduceIte, if_true, if_false, Option.toList_some, Option.toList_none, List.nil_append, List.cons_append, Option.bind_some]
      rw [ex_96_15]; exact zC.same hz _
    · rw [g7', if_neg (by decide)]
      simp only [Bool.false_eq_true, reduceCtorEq, Nat.not_lt_zero, cond_true, cond_false, ↓reduceIte, if_true, if_false, Option.toList_some, Option.toList_none, List.nil_append, List.cons_append, Option.bind_some]
      rw [ex_96_15]; exact zC.same hz _
  · simp (disch := omega) only [zb_ltl, zb_llt, zb_eql, zb_leq, nI_ltI, nI_eq, zb_in, nI_clamp, zb_al, zb_la, zb_ml, zb_lm, zb_mul, nI_add, Bool.false_eq_true, reduceCtorEq, Nat.not_lt_zero, cond_true, cond_false, ↓reduceIte, if_true, if_false, Option.toList_some, Option.toList_none, List.nil_append, List.cons_append, Option.bind_some, zb_ll, Nat.reduceEqDiff]
    rw [ex_96_15, g8]; exact zC.same hz _
  · simp (disch := omega) only [zb_ltl, zb_llt, zb_eql, zb_leq, nI_ltI, nI_eq, zb_in, nI_clamp, zb_al, zb_la, zb_ml, zb_lm, zb_mul, nI_add, Bool.false_eq_true, reduceCtorEq, Nat.not_lt_zero, cond_true, cond_false, ↓reduceIte, if_true, if_false, Option.toList_some, Option.toList_none, List.nil_append, List.cons_append, Option.bind_some, zb_ll, Nat.reduceEqDiff]
    rw [ex_96_15, g9]; exact zC.same hz _
theorem zc_step (x y : Int32) (h : zR a b) : zC (zx nl 98 0 [z_r 0, z_i x, z_i y] [] a) (zm 237 0 [z_r 91, z_i x, z_i y] [] b) := by
  have hz := h
  obtain ⟨f, n, nu, w, ⟨hs, hi, hp, hr, hrest⟩, hf⟩ := h
  rw [ex_98_0, em_237_0]
  rcases zb_sgn x with hx | ⟨j, hj, rfl⟩
  · simp only [hx, Bool.false_eq_true, reduceCtorEq, Nat.not_lt_zero, cond_true, cond_false, ↓reduceIte, if_true, if_false, Option.toList_some, Option.toList_none, List.nil_append, List.cons_append, Option.bind_some]
    exact zC.same hz _
  rw [if_neg (nI_pos hj), if_neg (nI_pos hj)]
  by_cases hy : y < 0
  · simp only [hy, Bool.false_eq_true, reduceCtorEq, Nat.not_lt_zero, cond_true, cond_false, ↓reduceIte, if_true, if_false, Option.toList_some, Option.toList_none, List.nil_append, List.cons_append, Option.bind_some]; exact zC.same hz _
  by_cases hy1 : 1 < y
  · simp only [hy, hy1, Bool.false_eq_true, reduceCtorEq, Nat.not_lt_zero, cond_true, cond_false, ↓reduceIte, if_true, if_false, Option.toList_some, Option.toList_none, List.nil_append, List.cons_append, Option.bind_some]; exact zC.same hz _
  simp only [hy, hy1, Bool.false_eq_true, reduceCtorEq, Nat.not_lt_zero, cond_true, cond_false, ↓reduceIte, if_true, if_false, Option.toList_some, Option.toList_none, List.nil_append, List.cons_append, Option.bind_some]
  rcases hr with ⟨r1, r2⟩ | ⟨r1, r2, ⟨u, hu, r3, r4, r5⟩, -⟩
  · simp only [r1, r2, Bool.false_eq_true, reduceCtorEq, Nat.not_lt_zero, cond_true, cond_false, ↓reduceIte, if_true, if_false, Option.toList_some, Option.toList_none, List.nil_append, List.cons_append, Option.bind_some]; exact zC.same hz _
  simp only [r1, r2, show ¬ (1 : Int32) = 0 by decide, Bool.false_eq_true, reduceCtorEq, Nat.not_lt_zero, cond_true, cond_false, ↓reduceIte, if_true, if_false, Option.toList_some, Option.toList_none, List.nil_append, List.cons_append, Option.bind_some, r3, r4]
  by_cases hju : j < u
  · obtain ⟨t1, t2⟩ := r5 j hju
    simp (disch := omega) only [zb_ltl, zb_llt, zb_eql, zb_leq, nI_ltI, nI_eq, zb_in, nI_clamp, zb_al, zb_la, zb_ml, zb_lm, zb_mul, nI_add, Bool.false_eq_true, reduceCtorEq, Nat.not_lt_zero, cond_true, cond_false, ↓reduceIte, if_true, if_false, Option.toList_some, Option.toList_none, List.nil_append, List.cons_append, Option.bind_some, hju, t1, t2]
    by_cases hy0 : y = 0
    · simp only [hy0, Bool.false_eq_true, reduceCtorEq, Nat.not_lt_zero, cond_true, cond_false, ↓reduceIte, if_true, if_false, Option.toList_some, Option.toList_none, List.nil_append, List.cons_append, Option.bind_some]; exact zC.same hz _
    · simp only [hy0, Bool.false_eq_true, reduceCtorEq, Nat.not_lt_zero, cond_true, cond_false, ↓reduceIte, if_true, if_false, Option.toList_some, Option.toList_none, List.nil_append, List.cons_append, Option.bind_some]; exact zC.same hz _
  · simp (disch := omega) only [zb_ltl, zb_llt, zb_eql, zb_leq, nI_ltI, nI_eq, zb_in, nI_clamp, zb_al, zb_la, zb_ml, zb_lm, zb_mul, nI_add, Bool.false_eq_true, reduceCtorEq, Nat.not_lt_zero, cond_true, cond_false, ↓reduceIte, if_true, if_false, Option.toList_some, Option.toList_none, List.nil_append, List.cons_append, Option.bind_some, hju]
    exact zC.same hz _
end ZcSmall
