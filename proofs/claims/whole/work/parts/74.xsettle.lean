/-! ===== the class: the flow settles ===== -/
/-- the class's rows of what must and may be there, of costs and factors -/
def zFl (a : zd_D) (f : zF) (n : Nat) (lk : Int32) (ms : Nat) : Prop := zXV a f n lk (zs_X f n lk) (zs_V f n lk) ∧ (∀ k, k < n → a.1 57 k = nI (zs_c f n lk ms k)) ∧ (∀ e, e < zs_B f n n → a.1 58 e = nI (zs_ec f n lk ms e)) ∧ zs_own f n (zs_ec f n lk ms) (a.1 59) ∧ zs_must f n lk (zs_X f n lk) ∧ zs_may f n lk (zs_V f n lk)
section RxSettle
variable {nl : Int32} {a a' : zd_D} {f : zF} {n : Nat} {lk : Int32}
theorem rx_costs (hW : zW f n) (hP : zAP a f n) (hX : zXV a f n lk (zs_X f n lk) (zs_V f n lk)) (ms : Nat) : ∃ a', zx nl 67 0 [z_r 53, z_i (nI ms), none, none, none, none] [] a = some (none, a') ∧ zK 0 [57, 58] [] a a' ∧ (∀ k, k < n → a'.1 57 k = nI (zs_c f n lk ms k)) ∧ ∀ e, e < zs_B f n n → a'.1 58 e = nI (zs_ec f n lk ms e) := by
  have hn := hW.le
  have hB := zs_B812 (f := f) hn (Nat.le_refl n)
  obtain ⟨r6, hr6, e6⟩ : ∃ r6, r6 ≤ 9 ∧ f 6 = nI r6 := hW.2.2.1.2.2.2.2.2.1
  rw [ex_67_0]
  obtain ⟨a1, ⟨k1, h57⟩, e1⟩ := zl_to (F := fun k c => zx nl 67 3 [z_r 53, z_i (nI ms), z_i (nI k), none, none, none] [] c) (I := fun k c => zK 0 [57] [] a c ∧ ∀ j, j < k → c.1 57 j = nI (zs_c f n lk ms j)) (n := n)
    (by
      rintro k c hk ⟨h1, h2⟩
      try dsimp only
      have hPc := hP.k h1 rfl
      have hXc := hX.k h1 rfl rfl rfl
      have h30 : c.1 3 0 = nI n := hPc.1.1
      have h4 : c.1 4 k = f (12 + 4 * k) := (hPc.1.2 k hk).1
      rw [ex_67_3]
      simp (disch := omega) only [zb_ltl, zb_llt, zb_eql, zb_leq, nI_ltI, nI_eq, zb_in, nI_clamp, zb_al, zb_la, zb_ml, zb_lm, zb_mul, nI_add, Bool.false_eq_true, reduceCtorEq, Nat.not_lt_zero, cond_true, cond_false, ↓reduceIte, if_true, if_false, Option.toList_some, Option.toList_none, List.nil_append, List.cons_append, Option.bind_some, h30, hk, h4, rx_tells hW hPc hXc hk]
      rw [ex_67_22]
      have hz : ((if zs_ln f k = -2 then (-1000000005 : Int32) else zs_tl f n lk k) = 0) ↔ zs_hit f n lk k = true := by
        by_cases h : zs_ln f k = -2
        · rw [if_pos h]
          refine ⟨fun q => absurd q (by decide), fun q => ?_⟩
          unfold zs_hit at q
          rw [h] at q
          simp at q
        · rw [if_neg h]
          exact zs_tl_0 hW hk
      simp only [hz]
      have hco : zx nl 69 0 [z_i (f (12 + 4 * k)), z_r 2, z_i (nI (if zs_hit f n lk k = true then 0 else ms))] [] c = some (some (.inl (nI (zs_c f n lk ms k))), c) := rx_costof hW hPc.2.2 _ _ _
      have fin : zx nl 67 27 [z_r 53, z_i (nI ms), z_i (nI k), none, none, none] [.inl (nI (zs_c f n lk ms k)), .inl (nI k), .inr (.inr (some 57))] c = zx nl 67 3 [z_r 53, z_i (nI ms), z_i (nI (k + 1)), none, none, none] [] (zd_u c 57 k (nI (zs_c f n lk ms k))) := by
        rw [ex_67_27]
        simp (disch := omega) only [zb_ltl, zb_llt, zb_eql, zb_leq, nI_ltI, nI_eq, zb_in, nI_clamp, zb_al, zb_la, zb_ml, zb_lm, zb_mul, nI_add, Bool.false_eq_true, reduceCtorEq, Nat.not_lt_zero, cond_true, cond_false, ↓reduceIte, if_true, if_false, Option.toList_some, Option.toList_none, List.nil_append, List.cons_append, Option.bind_some]
      refine ⟨zd_u c 57 k (nI (zs_c f n lk ms k)), ⟨h1.u _ _ (by decide) rfl, fun j hj => ?_⟩, ?_⟩
      · by_cases hjk : j = k
        · subst hjk; exact zb_ue _ _ _ _
        · rw [zb_ui _ _ _ _ hjk]; exact h2 j (by omega)
      · cases hh : zs_hit f n lk k with
        | true =>
          rw [hh, if_pos rfl] at hco
          rw [if_pos rfl, show (0 : Int32) = nI 0 from rfl, hco]
          simp only [Bool.false_eq_true, reduceCtorEq, Nat.not_lt_zero, cond_true, cond_false, ↓reduceIte, if_true, if_false, Option.toList_some, Option.toList_none, List.nil_append, List.cons_append, Option.bind_some]
          exact fin
        | false =>
          rw [hh, if_neg (by decide)] at hco
          rw [if_neg (by decide), hco]
          simp only [Bool.false_eq_true, reduceCtorEq, Nat.not_lt_zero, cond_true, cond_false, ↓reduceIte, if_true, if_false, Option.toList_some, Option.toList_none, List.nil_append, List.cons_append, Option.bind_some]
          exact fin) 0 a (Nat.zero_le _) ⟨zK.rf, fun j hj => absurd hj (Nat.not_lt_zero j)⟩
  have hP1 := hP.k k1 rfl
  rw [show zx nl 67 3 [z_r 53, z_i (nI ms), z_i 0, none, none, none] [] a = _ from e1, ex_67_3, show a1.1 3 0 = nI n from hP1.1.1]
  simp (disch := omega) only [zb_ltl, zb_llt, zb_eql, zb_leq, nI_ltI, nI_eq, zb_in, nI_clamp, zb_al, zb_la, zb_ml, zb_lm, zb_mul, nI_add, Bool.false_eq_true, reduceCtorEq, Nat.not_lt_zero, cond_true, cond_false, ↓reduceIte, if_true, if_false, Option.toList_some, Option.toList_none, List.nil_append, List.cons_append, Option.bind_some, Nat.lt_irrefl]
  have key := zl_up (F := fun e c => zx nl 67 33 [z_r 53, none, z_i (nI e), none, none, none] [] c) (n := zs_B f n n) (I := fun e c => zK 0 [58] [] a1 c ∧ ∀ j, j < e → c.1 58 j = nI (zs_ec f n lk ms j)) (Q := fun v c => v = none ∧ zK 0 [58] [] a1 c ∧ ∀ j, j < zs_B f n n → c.1 58 j = nI (zs_ec f n lk ms j))
    (by
      rintro e c he ⟨h1, h2⟩
      left
      try dsimp only
      have hPc := hP1.k h1 rfl
      have h30 : c.1 3 0 = nI n := hPc.1.1
      have h37 : c.1 3 7 = nI (zs_B f n n) := hPc.2.1.1
      obtain ⟨g1, g2⟩ := hPc.2.1.2.2 e he
      have g1 : c.1 11 e = nI (zs_E f n e).1 := g1
      have g2 : c.1 12 e = nI (zs_E f n e).2 := g2
      obtain ⟨hlt1, hlt2⟩ := zs_Elt he
      have h57c : c.1 57 (zs_E f n e).1 = nI (zs_c f n lk ms (zs_E f n e).1) := by rw [h1.1 57 (by decide) rfl]; exact h57 _ hlt1
      have h26 : c.1 2 6 = nI r6 := (hPc.2.2 6 (by omega)).trans e6
      have fin : ∀ y : Int32, y = nI (zs_ec f n lk ms e) → ∃ d', (zK 0 [58] [] a1 d' ∧ ∀ j, j < e + 1 → d'.1 58 j = nI (zs_ec f n lk ms j)) ∧ zx nl 67 33 [z_r 53, none, z_i (nI (e + 1)), none, none, none] [] (zd_u c 58 e y) = zx nl 67 33 [z_r 53, none, z_i (nI (e + 1)), none, none, none] [] d' := by
        intro y hy
        refine ⟨_, ⟨h1.u _ _ (by decide) rfl, fun j hj => ?_⟩, rfl⟩
        by_cases hje : j = e
        · subst hje; rw [zb_ue]; exact hy
        · rw [zb_ui _ _ _ _ hje]; exact h2 j (by omega)
      rw [ex_67_33]
      simp (disch := omega) only [zb_ltl, zb_llt, zb_eql, zb_leq, nI_ltI, nI_eq, zb_in, nI_clamp, zb_al, zb_la, zb_ml, zb_lm, zb_mul, nI_add, Bool.false_eq_true, reduceCtorEq, Nat.not_lt_zero, cond_true, cond_false, ↓reduceIte, if_true, if_false, Option.toList_some, Option.toList_none, List.nil_append, List.cons_append, Option.bind_some, h30, h37, he, g1, g2, h57c]
      by_cases ht : (zs_E f n e).2 < n
      · simp only [ht, Bool.false_eq_true, reduceCtorEq, Nat.not_lt_zero, cond_true, cond_false, ↓reduceIte, if_true, if_false, Option.toList_some, Option.toList_none, List.nil_append, List.cons_append, Option.bind_some, rx_stalls hW hPc.1 hlt1 ht]
        rw [ex_67_60]
        simp (disch := omega) only [zb_ltl, zb_llt, zb_eql, zb_leq, nI_ltI, nI_eq, zb_in, nI_clamp, zb_al, zb_la, zb_ml, zb_lm, zb_mul, nI_add, Bool.false_eq_true, reduceCtorEq, Nat.not_lt_zero, cond_true, cond_false, ↓reduceIte, if_true, if_false, Option.toList_some, Option.toList_none, List.nil_append, List.cons_append, Option.bind_some, h57c, h26, zb_fl0]
        have hec : zs_ec f n lk ms e = zs_c f n lk ms (zs_E f n e).1 + (if zs_sta f (zs_E f n e).1 (zs_E f n e).2 = true then r6 else 0) := by
          unfold zs_ec
          rw [e6, nI_clamp (by omega)]
          simp only [ht, true_and]
        cases hs : zs_sta f (zs_E f n e).1 (zs_E f n e).2 with
        | true =>
          simp only [Bool.false_eq_true, reduceCtorEq, Nat.not_lt_zero, cond_true, cond_false, ↓reduceIte, if_true, if_false, Option.toList_some, Option.toList_none, List.nil_append, List.cons_append, Option.bind_some]
          exact fin _ (by rw [hec, hs, if_pos rfl])
        | false =>
          simp only [Bool.false_eq_true, reduceCtorEq, Nat.not_lt_zero, cond_true, cond_false, ↓reduceIte, if_true, if_false, Option.toList_some, Option.toList_none, List.nil_append, List.cons_append, Option.bind_some]
          exact fin _ (by rw [hec, hs, if_neg (by decide)])
      · simp only [ht, Bool.false_eq_true, reduceCtorEq, Nat.not_lt_zero, cond_true, cond_false, ↓reduceIte, if_true, if_false, Option.toList_some, Option.toList_none, List.nil_append, List.cons_append, Option.bind_some]
        refine fin _ ?_
        unfold zs_ec
        rw [if_neg (fun q => ht q.1)])
    (by
      rintro c ⟨h1, h2⟩
      try dsimp only
      have hPc := hP1.k h1 rfl
      have h37 : c.1 3 7 = nI (zs_B f n n) := hPc.2.1.1
      rw [ex_67_33]
      simp (disch := omega) only [zb_ltl, zb_llt, zb_eql, zb_leq, nI_ltI, nI_eq, zb_in, nI_clamp, zb_al, zb_la, zb_ml, zb_lm, zb_mul, nI_add, Bool.false_eq_true, reduceCtorEq, Nat.not_lt_zero, cond_true, cond_false, ↓reduceIte, if_true, if_false, Option.toList_some, Option.toList_none, List.nil_append, List.cons_append, Option.bind_some, h37, Nat.lt_irrefl]
      exact zw_ret ⟨rfl, h1, h2⟩)
    0 a1 (Nat.zero_le _) ⟨zK.rf, fun j hj => absurd hj (Nat.not_lt_zero j)⟩
  obtain ⟨v, d, e, hv, h1, h2⟩ := key
  subst hv
  refine ⟨d, e, (k1.up rfl rfl).tr (h1.up rfl rfl), ?_, h2⟩
  rw [h1.1 57 (by decide) rfl]
  exact h57
theorem rx_factors (hW : zW f n) (hP : zAP a f n) {C : Nat → Nat} (hC : ∀ e, e < zs_B f n n → a.1 58 e = nI (C e)) : ∃ a', zx nl 72 0 [z_r 53, none, none, none] [] a = some (none, a') ∧ zK 0 [59] [] a a' ∧ zs_own f n C (a'.1 59) := by
  have hn := hW.le
  have hB := zs_B812 (f := f) hn (Nat.le_refl n)
  rw [ex_72_0, show a.1 3 0 = nI n from hP.1.1]
  simp (disch := omega) only [zb_ltl, zb_llt, zb_eql, zb_leq, nI_ltI, nI_eq, zb_in, nI_clamp, zb_al, zb_la, zb_ml, zb_lm, zb_mul, nI_add, Bool.false_eq_true, reduceCtorEq, Nat.not_lt_zero, cond_true, cond_false, ↓reduceIte, if_true, if_false, Option.toList_some, Option.toList_none, List.nil_append, List.cons_append, Option.bind_some]
  have key := zl_dn (F := fun j c => zx nl 72 14 [z_r 53, z_i (nI j - 1), none, none] [] c) (I := fun j c => zK 0 [59] [] a c ∧ j ≤ n ∧ c.1 59 n = 0 ∧ ∀ k, j ≤ k → k < n → c.1 59 k = zs_om f n C (c.1 59) (zs_B f n k) (zs_B f n (k + 1) - zs_B f n k)) (Q := fun v c => v = none ∧ zK 0 [59] [] a c ∧ zs_own f n C (c.1 59))
    (by
      rintro k c ⟨h1, hkn, h2, h3⟩
      left
      try dsimp only
      have hPc := hP.k h1 rfl
      have hk : k < n := hkn
      have h10 : c.1 10 k = nI (zs_B f n k) := hPc.2.1.2.1 k (by omega)
      have h101 : c.1 10 (k + 1) = nI (zs_B f n (k + 1)) := hPc.2.1.2.1 (k + 1) hk
      have hBk : zs_B f n k ≤ zs_B f n (k + 1) := zs_Bm (Nat.le_succ k)
      have hBn : zs_B f n (k + 1) ≤ zs_B f n n := zs_Bm hk
      rw [nI_pred, ex_72_14]
      simp (disch := omega) only [zb_ltl, zb_llt, zb_eql, zb_leq, nI_ltI, nI_eq, zb_in, nI_clamp, zb_al, zb_la, zb_ml, zb_lm, zb_mul, nI_add, Bool.false_eq_true, reduceCtorEq, Nat.not_lt_zero, cond_true, cond_false, ↓reduceIte, if_true, if_false, Option.toList_some, Option.toList_none, List.nil_append, List.cons_append, Option.bind_some, zb_l0, h10]
      have hin := zl_eq (G := fun i => zx nl 72 25 [z_r 53, z_i (nI k), z_i (zs_om f n C (c.1 59) (zs_B f n k) i), z_i (nI (zs_B f n k + i))] [] c) (n := zs_B f n (k + 1) - zs_B f n k)
        (by
          intro i hi
          try dsimp only
          have heB : zs_B f n k + i < zs_B f n n := by omega
          obtain ⟨g1, g2⟩ := hPc.2.1.2.2 _ heB
          have g1 : c.1 11 (zs_B f n k + i) = nI (zs_E f n (zs_B f n k + i)).1 := g1
          have g2 : c.1 12 (zs_B f n k + i) = nI (zs_E f n (zs_B f n k + i)).2 := g2
          obtain ⟨hlt1, hlt2⟩ := zs_Elt heB
          have g3 : c.1 58 (zs_B f n k + i) = nI (C (zs_B f n k + i)) := by rw [h1.1 58 (by decide) rfl]; exact hC _ heB
          rw [ex_72_25]
          simp (disch := omega) only [zb_ltl, zb_llt, zb_eql, zb_leq, nI_ltI, nI_eq, zb_in, nI_clamp, zb_al, zb_la, zb_ml, zb_lm, zb_mul, nI_add, Bool.false_eq_true, reduceCtorEq, Nat.not_lt_zero, cond_true, cond_false, ↓reduceIte, if_true, if_false, Option.toList_some, Option.toList_none, List.nil_append, List.cons_append, Option.bind_some, h101, show zs_B f n k + i < zs_B f n (k + 1) by omega, g1, g2, g3, Nat.add_assoc]
          show _ = zx nl 72 25 [z_r 53, z_i (nI k), z_i (if zs_tn f n (zs_B f n k + i) = true then _ else _), _] [] c
          unfold zs_tn
          simp only [decide_eq_true_eq]
          by_cases ht : (zs_E f n (zs_B f n k + i)).2 ≤ (zs_E f n (zs_B f n k + i)).1
          · rw [if_neg (show ¬ (zs_E f n (zs_B f n k + i)).1 < (zs_E f n (zs_B f n k + i)).2 by omega), if_pos ht]
          · rw [if_pos (show (zs_E f n (zs_B f n k + i)).1 < (zs_E f n (zs_B f n k + i)).2 by omega), if_neg ht])
        _ (Nat.le_refl _)
      try dsimp only at hin
      rw [show zs_om f n C (c.1 59) (zs_B f n k) 0 = 0 from rfl, Nat.add_zero, show zs_B f n k + (zs_B f n (k + 1) - zs_B f n k) = zs_B f n (k + 1) by omega] at hin
      rw [hin, ex_72_25]
      simp (disch := omega) only [zb_ltl, zb_llt, zb_eql, zb_leq, nI_ltI, nI_eq, zb_in, nI_clamp, zb_al, zb_la, zb_ml, zb_lm, zb_mul, nI_add, Bool.false_eq_true, reduceCtorEq, Nat.not_lt_zero, cond_true, cond_false, ↓reduceIte, if_true, if_false, Option.toList_some, Option.toList_none, List.nil_append, List.cons_append, Option.bind_some, h101, Nat.lt_irrefl]
      refine ⟨zd_u c 59 k (zs_om f n C (c.1 59) (zs_B f n k) (zs_B f n (k + 1) - zs_B f n k)), ⟨h1.u _ _ (by decide) rfl, by omega, ?_, fun j hj1 hj2 => ?_⟩, by rw [Int32.sub_eq_add_neg]⟩
      · rw [zb_ui _ _ _ _ (by omega)]; exact h2
      · have hcg : ∀ t, k < t → t ≤ n → (zd_u c 59 k (zs_om f n C (c.1 59) (zs_B f n k) (zs_B f n (k + 1) - zs_B f n k))).1 59 t = c.1 59 t := fun t q1 q2 => zb_ui _ _ _ _ (by omega)
        by_cases hjk : j = k
        · subst hjk
          rw [zb_ue]
          exact (zs_om_congr hj2 (fun t q1 q2 => hcg t q1 q2) _ (Nat.le_refl _)).symm
        · rw [zb_ui _ _ _ _ hjk, h3 j (by omega) hj2]
          exact (zs_om_congr hj2 (fun t q1 q2 => hcg t (by omega) q2) _ (Nat.le_refl _)).symm)
    (by
      rintro c ⟨h1, hkn, h2, h3⟩
      try dsimp only
      rw [ex_72_14, if_pos (by decide)]
      exact zw_ret ⟨rfl, h1, h2, fun k hk => h3 k (Nat.zero_le _) hk⟩)
    n (zd_u a 59 n 0) ⟨zK.rf.u _ _ (by decide) rfl, Nat.le_refl _, zb_ue _ _ _ _, fun k h1 h2 => absurd h2 (by omega)⟩
  obtain ⟨v, d, e, hv, h1, h2⟩ := key
  subst hv
  exact ⟨d, e, h1, h2⟩
set_option maxHeartbeats 4000000 in
theorem rx_settle (hW : zW f n) (hP : zAP a f n) (lk : Int32) (ms : Nat) : ∃ a', zx nl 57 0 [z_r 53, z_i lk, z_i (nI ms), none, none, none] [] a = some (none, a') ∧ zK 0 [53, 54, 55, 56, 57, 58, 59] [] a a' ∧ zFl a' f n lk ms := by
  have hn := hW.le
  obtain ⟨hr1, hr4⟩ := hW.rem
  have kA : zK 0 [53] [] a (zd_u a 53 2 (a.1 2 0)) := zK.rf.u _ _ (by decide) rfl
  rw [ex_57_0, rx_rem hW (hP.k kA rfl).2.2]
  simp only [Bool.false_eq_true, reduceCtorEq, Nat.not_lt_zero, cond_true, cond_false, ↓reduceIte, if_true, if_false, Option.toList_some, Option.toList_none, List.nil_append, List.cons_append, Option.bind_some]
  rw [ex_57_11]
  have kB : zK 0 [53] [] a (zd_u (zd_u (zd_u a 53 2 (a.1 2 0)) 53 3 (nI (zs_rem f))) 53 4 lk) := (kA.u _ _ (by decide) rfl).u _ _ (by decide) rfl
  have h53 : (zd_u (zd_u (zd_u a 53 2 (a.1 2 0)) 53 3 (nI (zs_rem f))) 53 4 lk).1 53 2 = f 0 ∧ (zd_u (zd_u (zd_u a 53 2 (a.1 2 0)) 53 3 (nI (zs_rem f))) 53 4 lk).1 53 3 = nI (zs_rem f) ∧ (zd_u (zd_u (zd_u a 53 2 (a.1 2 0)) 53 3 (nI (zs_rem f))) 53 4 lk).1 53 4 = lk := by
    refine ⟨?_, ?_, zb_ue _ _ _ _⟩
    · rw [zb_ui _ _ _ _ (by decide), zb_ui _ _ _ _ (by decide), zb_ue]
      exact hP.2.2 0 (by omega)
    · rw [zb_ui _ _ _ _ (by decide), zb_ue]
  obtain ⟨a1, e1, k1, f1⟩ := rx_fill (nl := nl) (a := zd_u (zd_u (zd_u a 53 2 (a.1 2 0)) 53 3 (nI (zs_rem f))) 53 4 lk) (c0 := 54) (L := 448) (by decide) (by rfl) (by decide) 0
  rw [e1]
  simp only [Bool.false_eq_true, reduceCtorEq, Nat.not_lt_zero, cond_true, cond_false, ↓reduceIte, if_true, if_false, Option.toList_some, Option.toList_none, List.nil_append, List.cons_append, Option.bind_some]
  have h53a := h53
  rw [← k1.1 53 (by decide) rfl] at h53a
  rw [ex_57_19, h53a.2.1]
  obtain ⟨a2, e2, k2, f2, f2'⟩ := rx_fillr (nl := nl) (a := a1) (c0 := 54) (L := 448) (q := 16) (by decide) (by rfl) (by decide) (by decide) (nI (zs_rem f))
  rw [show (16 : Int32) = nI 16 from rfl, e2]
  simp only [Bool.false_eq_true, reduceCtorEq, Nat.not_lt_zero, cond_true, cond_false, ↓reduceIte, if_true, if_false, Option.toList_some, Option.toList_none, List.nil_append, List.cons_append, Option.bind_some]
  rw [ex_57_26]
  obtain ⟨a3, e3, k3, f3⟩ := rx_fill (nl := nl) (a := a2) (c0 := 55) (L := 28) (by decide) (by rfl) (by decide) 0
  rw [e3]
  simp only [Bool.false_eq_true, reduceCtorEq, Nat.not_lt_zero, cond_true, cond_false, ↓reduceIte, if_true, if_false, Option.toList_some, Option.toList_none, List.nil_append, List.cons_append, Option.bind_some]
  rw [ex_57_30]
  have kC : zK 0 [53, 54, 55] [] a a3 := (kB.up rfl rfl).tr ((k1.up rfl rfl).tr ((k2.up rfl rfl).tr (k3.up rfl rfl)))
  have hP3 := hP.k kC rfl
  have hX3 : zXV a3 f n lk (fun i => if i < 16 then zs_rem f else 0) (fun _ => 0) := by
    refine ⟨?_, fun i hi => ⟨?_, ?_⟩, fun k hk => ⟨?_, (by decide : 0 < 65536)⟩⟩
    · rw [k3.1 53 (by decide) rfl, k2.1 53 (by decide) rfl]; exact h53a
    · rw [k3.1 54 (by decide) rfl]
      (try dsimp only)
      by_cases h : i < 16
      · rw [if_pos h]; exact f2 i h
      · rw [if_neg h, f2' i (by omega)]; exact f1 i (by omega)
    · (try dsimp only); split <;> omega
    · exact f3 k (by omega)
  have key := zl_ms (α := zd_D × (Nat → Nat) × (Nat → Nat) × Bool × Nat) (G := fun s => zx nl 57 35 [z_r 53, none, z_i (nI ms), z_i (if s.2.2.2.1 = true then 1 else 0), z_i (nI s.2.2.2.2), none] [] s.1)
    (J := fun s => zK 0 [54, 55, 56] [] a3 s.1 ∧ zXV s.1 f n lk s.2.1 s.2.2.1 ∧ (∀ l, l < 16 → zs_rem f ≤ s.2.1 l) ∧ (∀ Y, zs_mc f n lk Y → ∀ i, i < 16 * n → s.2.1 i ≤ Y i) ∧ (∀ U, zs_vc f n lk U → ∀ k, k < n → U k ||| s.2.2.1 k = U k) ∧ (s.2.2.2.1 = false → zs_mc f n lk s.2.1 ∧ zs_vc f n lk s.2.2.1) ∧ (s.2.2.2.1 = true → s.2.2.2.2 ≤ zs_sum s.2.1 (16 * n) + zs_sum (fun k => zs_pop (s.2.2.1 k)) n))
    (P := fun v c => v = none ∧ zK 0 [54, 55, 56, 57, 58, 59] [] a3 c ∧ zFl c f n lk ms)
    (fun s => 2 * (2240 - (zs_sum s.2.1 (16 * n) + zs_sum (fun k => zs_pop (s.2.2.1 k)) n)) + (if s.2.2.2.1 = true then 1 else 0))
    (by
      rintro ⟨c, X, V, more, p⟩ ⟨h1, h2, hc0, h3, h4, h5, h6⟩
      try dsimp only at h1 h2 hc0 h3 h4 h5 h6 ⊢
      have hPc := hP3.k h1 rfl
      have hbound : zs_sum X (16 * n) + zs_sum (fun k => zs_pop (V k)) n ≤ 2240 := by
        have q1 := zs_sum_le (g := X) (h := fun _ => 4) (16 * n) (fun i hi => Nat.le_trans (h2.2.1 i hi).2 hr4)
        have q2 := zs_sum_le (g := fun k => zs_pop (V k)) (h := fun _ => 16) n (fun i hi => zs_pop16 _)
        rw [zs_sum_const] at q1 q2
        omega
      cases more with
      | false =>
        right
        obtain ⟨hmc, hvc⟩ := h5 rfl
        have hmust : zs_must f n lk X := ⟨hmc, fun i hi => (h2.2.1 i hi).2, h3⟩
        have hmay : zs_may f n lk V := ⟨hvc, fun k hk => (h2.2.2 k hk).2, h4⟩
        have hXe := zs_X_eq hmust
        have hVe := zs_V_eq hmay
        have h2' : zXV c f n lk (zs_X f n lk) (zs_V f n lk) := ⟨h2.1, fun i hi => by rw [← hXe.2 i hi]; exact h2.2.1 i hi, fun k hk => by rw [← hVe.2 k hk]; exact h2.2.2 k hk⟩
        obtain ⟨c1, g1, g2, g3, g4⟩ := rx_costs (nl := nl) hW hPc h2' ms
        obtain ⟨c2, g5, g6, g7⟩ := rx_factors (nl := nl) hW (hPc.k g2 rfl) g4
        have e57 : zx nl 57 35 [z_r 53, none, z_i (nI ms), z_i (if false = true then 1 else 0), z_i (nI p), none] [] c = some (none, c2) := by
          rw [ex_57_35]
          have : (if (false = true) then (1 : Int32) else 0) = 0 := rfl
          rw [this, if_pos rfl, g1]
          simp only [Bool.false_eq_true, reduceCtorEq, Nat.not_lt_zero, cond_true, cond_false, ↓reduceIte, if_true, if_false, Option.toList_some, Option.toList_none, List.nil_append, List.cons_append, Option.bind_some]
          rw [ex_57_63, g5]
          simp only [Bool.false_eq_true, reduceCtorEq, Nat.not_lt_zero, cond_true, cond_false, ↓reduceIte, if_true, if_false, Option.toList_some, Option.toList_none, List.nil_append, List.cons_append, Option.bind_some]
          rw [ex_57_65]
          split <;> rfl
        refine ⟨none, c2, e57, rfl, (h1.up rfl rfl).tr ((g2.up rfl rfl).tr (g6.up rfl rfl)), (h2'.k g2 rfl rfl rfl).k g6 rfl rfl rfl, ?_, ?_, g7, hXe.1, hVe.1⟩
        · rw [g6.1 57 (by decide) rfl]; exact g3
        · rw [g6.1 58 (by decide) rfl]; exact g4
      | true =>
        left
        have hp := h6 rfl
        obtain ⟨c', X', V', fl', i1, i2, i3, i4⟩ := rx_pass (nl := nl) (lk := lk) hW hP3 (nI ms) (nI p) n 0 c X V false (by omega) h1 h2
        have e57 : zx nl 57 35 [z_r 53, none, z_i (nI ms), z_i (if true = true then 1 else 0), z_i (nI p), none] [] c = zx nl 57 35 [z_r 53, none, z_i (nI ms), z_i (if fl' = true then 1 else 0), z_i (nI (p + 1)), none] [] c' := by
          rw [ex_57_35]
          simp (disch := omega) only [zb_ltl, zb_llt, zb_eql, zb_leq, nI_ltI, nI_eq, zb_in, nI_clamp, zb_al, zb_la, zb_ml, zb_lm, zb_mul, nI_add, Bool.false_eq_true, reduceCtorEq, Nat.not_lt_zero, cond_true, cond_false, ↓reduceIte, if_true, if_false, Option.toList_some, Option.toList_none, List.nil_append, List.cons_append, Option.bind_some, show p < 2241 by omega, show ¬ (1 : Int32) = 0 by decide]
          rw [show (nI p + 1) = nI (p + 1) from nI_1 p] at i1
          exact i1
        obtain ⟨p1, p2, p3, p4, p5, p6⟩ := i4
        have hXl : zs_sum X (16 * n) ≤ zs_sum X' (16 * n) := zs_sum_le _ p1
        have hVl : zs_sum (fun k => zs_pop (V k)) n ≤ zs_sum (fun k => zs_pop (V' k)) n := zs_sum_le _ (fun k hk => zs_pop_le (p2 k hk))
        have hgrow : fl' = true → zs_sum X (16 * n) + zs_sum (fun k => zs_pop (V k)) n < zs_sum X' (16 * n) + zs_sum (fun k => zs_pop (V' k)) n := by
          intro h
          rcases p4 h with q | ⟨i, hi, q⟩ | ⟨k, hk, q⟩
          · cases q
          · have := zs_sum_lt (g := X) (h := X') (16 * n) p1 ⟨i, hi, q⟩
            omega
          · have := zs_sum_lt (g := fun k => zs_pop (V k)) (h := fun k => zs_pop (V' k)) n (fun k hk => zs_pop_le (p2 k hk)) ⟨k, hk, zs_pop_lt (p2 k hk) (i3.2.2 k hk).2 q⟩
            omega
        have hbound' : zs_sum X' (16 * n) + zs_sum (fun k => zs_pop (V' k)) n ≤ 2240 := by
          have q1 := zs_sum_le (g := X') (h := fun _ => 4) (16 * n) (fun i hi => Nat.le_trans (i3.2.1 i hi).2 hr4)
          have q2 := zs_sum_le (g := fun k => zs_pop (V' k)) (h := fun _ => 16) n (fun i hi => zs_pop16 _)
          rw [zs_sum_const] at q1 q2
          omega
        have hc0' : ∀ l, l < 16 → zs_rem f ≤ (if n = 0 then zs_rem f else X' l) := by
          intro l hl
          by_cases h0 : n = 0
          · rw [if_pos h0]; exact Nat.le_refl _
          · rw [if_neg h0]; exact Nat.le_trans (hc0 l hl) (p1 l (by omega))
        refine ⟨(c', (fun i => if n = 0 then zs_rem f else X' i), V', fl', p + 1), ⟨i2, ?_, hc0', ?_, fun U hU => p6 U hU (h4 U hU), fun h => ⟨⟨hc0', ?_⟩, ?_⟩, fun h => ?_⟩, ?_, e57⟩
        · refine ⟨i3.1, fun i hi => ?_, i3.2.2⟩
          (try dsimp only)
          rw [if_neg (show ¬ n = 0 by omega)]
          exact i3.2.1 i hi
        · intro Y hY i hi
          (try dsimp only)
          rw [if_neg (show ¬ n = 0 by omega)]
          exact p5 Y hY (h3 Y hY) i hi
        · have h : fl' = false := h
          obtain ⟨q1, q2, q3, q4⟩ := p3 h
          intro e he ht l hl
          have hlt := zs_Elt he
          have hX'' : ∀ i, i < 16 * n → (if n = 0 then zs_rem f else X' i) = X i := fun i hi => by rw [if_neg (show ¬ n = 0 by omega)]; exact q2 i hi
          rw [zs_af_congr hW hlt.1 hl hX'']
          (try dsimp only)
          rw [hX'' _ (by omega)]
          exact (q4 e (by rw [zs_B0]; exact Nat.zero_le _) he ht).1 l hl
        · have h : fl' = false := h
          obtain ⟨q1, q2, q3, q4⟩ := p3 h
          intro e he ht
          have hlt := zs_Elt he
          (try dsimp only)
          rw [zs_vf_congr (q3 _ hlt.1), q3 _ ht]
          exact (q4 e (by rw [zs_B0]; exact Nat.zero_le _) he ht).2
        · have h : fl' = true := h
          have := hgrow h
          (try dsimp only)
          by_cases h0 : n = 0
          · subst h0
            simp only [zs_sum, Nat.mul_zero] at this
            omega
          · simp only [h0, if_false]
            have he : zs_sum (fun i => X' i) (16 * n) = zs_sum X' (16 * n) := rfl
            omega
        · (try dsimp only)
          by_cases h0 : n = 0
          · subst h0
            have hf : fl' = false := by
              cases hfl : fl' with
              | false => rfl
              | true =>
                have := hgrow hfl
                simp only [zs_sum, Nat.mul_zero] at this
                omega
            rw [hf]
            simp only [zs_sum, Nat.mul_zero, Bool.false_eq_true, reduceCtorEq, Nat.not_lt_zero, cond_true, cond_false, ↓reduceIte, if_true, if_false, Option.toList_some, Option.toList_none, List.nil_append, List.cons_append, Option.bind_some]
            omega
          · simp only [h0, if_false, if_true]
            have he : zs_sum (fun i => X' i) (16 * n) = zs_sum X' (16 * n) := rfl
            cases hfl : fl' with
            | false => simp only [Bool.false_eq_true, reduceCtorEq, Nat.not_lt_zero, cond_true, cond_false, ↓reduceIte, if_true, if_false, Option.toList_some, Option.toList_none, List.nil_append, List.cons_append, Option.bind_some]; omega
            | true =>
              have := hgrow hfl
              simp only [if_true]
              omega)
    (a3, (fun i => if i < 16 then zs_rem f else 0), (fun _ => 0), true, 0)
    ⟨zK.rf, hX3, fun l hl => by (try dsimp only); rw [if_pos hl]; exact Nat.le_refl _, fun Y hY i hi => by
      (try dsimp only)
      by_cases hc : i < 16
      · rw [if_pos hc]; exact hY.1 i hc
      · rw [if_neg hc]; exact Nat.zero_le _, fun U hU k hk => Nat.or_zero _, fun h => (by cases h), fun _ => Nat.zero_le _⟩
  obtain ⟨v, d, e, hv, h1, h2⟩ := key
  subst hv
  exact ⟨d, e, (kC.up rfl rfl).tr (h1.up rfl rfl), h2⟩
end RxSettle
