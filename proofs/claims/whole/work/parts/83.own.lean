/-! ===== own factors, shares, numbers of turns ===== -/
theorem zb_max (a b : Int32) : (if b < a then a else b) = if a < b then b else a := by
  by_cases h1 : b < a
  · rw [if_pos h1, if_neg (fun h2 => by rw [Int32.lt_iff_toInt_lt] at h1 h2; omega)]
  · by_cases h2 : a < b
    · rw [if_neg h1, if_pos h2]
    · rw [if_neg h1, if_neg h2]
      apply Int32.toInt_inj.mp
      rw [Int32.lt_iff_toInt_lt] at h1 h2
      omega
theorem zb_pl {n j : Nat} (hn : n < 2 ^ 30) (hj : j < 2 ^ 31) : (nI n - 1 < nI j) ↔ n < j + 1 := by
  rw [Int32.lt_iff_toInt_lt, show (nI n - 1).toInt = (n : Int) - 1 from zp_int hn, nI_toInt hj]
  omega
noncomputable def zs_sh (f : zF) (n : Nat) (C : Nat → Nat) (O : Nat → Int32) (e : Nat) : Int32 := if 0 < nI (C e) + O (zs_E f n e).2 - O (zs_E f n e).1 then nI (C e) + O (zs_E f n e).2 - O (zs_E f n e).1 else 0
noncomputable def zs_pr (f : zF) (n : Nat) (C : Nat → Nat) (O : Nat → Int32) (nu : Nat → Nat) : Nat → Int32
  | 0 => if n = 0 then 0 else O 0
  | e + 1 => if zs_tn f n e = true then zs_pr f n C O nu e + zs_sh f n C O e * (nI (nu e) - 1) else zs_pr f n C O nu e
theorem zs_sh_congr {f : zF} {n : Nat} {C : Nat → Nat} {O O' : Nat → Int32} {e : Nat} (he : e < zs_B f n n) (h : ∀ k, k ≤ n → O k = O' k) : zs_sh f n C O e = zs_sh f n C O' e := by
  have := zs_Elt he
  unfold zs_sh
  rw [h _ this.2, h _ (by omega)]
theorem zs_pr_congr {f : zF} {n : Nat} {C : Nat → Nat} {O O' : Nat → Int32} {nu : Nat → Nat} (h : ∀ k, k ≤ n → O k = O' k) : ∀ e, e ≤ zs_B f n n → zs_pr f n C O nu e = zs_pr f n C O' nu e
  | 0, _ => by
    show (if n = 0 then 0 else O 0) = (if n = 0 then 0 else O' 0)
    rw [h 0 (Nat.zero_le _)]
  | e + 1, he => by
    show (if zs_tn f n e = true then _ else _) = (if zs_tn f n e = true then _ else _)
    rw [zs_pr_congr h e (by omega), zs_sh_congr (by omega) h]
section RmOwn
variable {nl : Int32} {a a' b b' : zd_D} {f : zF} {n w : Nat} {nu : Nat → Nat}
theorem zR.of (h0 : zR0 a b f n nu w) (hx : zCx a a') (hf : zR_f a' (b.1 92 9) f n nu) (hm : zCm b b') : zR a' b' := ⟨f, n, nu, w, (h0.x hx).m hm, by rw [hm.1 92 (by omega)]; exact hf⟩
theorem zC.same (h : zR a b) (v : Int32) : zC (some (some (.inl v), a)) (some (some (.inl v), b)) := ⟨v, a, b, rfl, rfl, h⟩
set_option maxHeartbeats 2000000 in
theorem rm_own (hW : zW f n) (hV : zV 92 b f) {ms : Nat} (hms : zMs b f ms) : ∃ b', zm 249 0 [z_r 91, none, none] [] b = some (none, b') ∧ zK 91 [98, 99, 100, 113, 114, 115, 116, 121] [15] b b' ∧ zMA b' f n (b.1 92 9) ∧ zs_own f n (zs_ec f n (b.1 92 9) ms) (b'.1 121) := by
  have hn := hW.le
  have hB := zs_B812 (f := f) hn (Nat.le_refl n)
  obtain ⟨b1, e1, k1, hA1, hmu, hma⟩ := rm_all hW hV
  have hV1 := hV.k k1 (by decide) rfl
  have hms1 := hms.k k1 rfl
  rw [em_249_0, e1]
  simp only [Bool.false_eq_true, reduceCtorEq, Nat.not_lt_zero, cond_true, cond_false, ↓reduceIte, if_true, if_false, Option.toList_some, Option.toList_none, List.nil_append, List.cons_append, Option.bind_some]
  rw [em_249_2, hV1.sz hW]
  simp (disch := omega) only [zb_ltl, zb_llt, zb_eql, zb_leq, nI_ltI, nI_eq, zb_in, nI_clamp, zb_al, zb_la, zb_ml, zb_lm, zb_mul, nI_add, Bool.false_eq_true, reduceCtorEq, Nat.not_lt_zero, cond_true, cond_false, ↓reduceIte, if_true, if_false, Option.toList_some, Option.toList_none, List.nil_append, List.cons_append, Option.bind_some]
  have key := zl_dn (F := fun j c => zm 249 18 [z_r 91, z_i (nI j - 1), none] [] c) (I := fun j c => zK 91 [121] [] b1 c ∧ j ≤ n ∧ c.1 121 n = 0 ∧ ∀ k, j ≤ k → k < n → c.1 121 k = zs_om f n (zs_ec f n (b.1 92 9) ms) (c.1 121) (zs_B f n k) (zs_B f n (k + 1) - zs_B f n k)) (Q := fun v c => v = none ∧ zK 91 [121] [] b1 c ∧ zs_own f n (zs_ec f n (b.1 92 9) ms) (c.1 121))
    (by
      rintro k c ⟨h1, hkn, h2, h3⟩
      left
      try dsimp only
      have hk : k < n := hkn
      have hAc := hA1.k h1 rfl rfl rfl rfl rfl rfl rfl
      have r2 := hAc.1.2.2 k (by omega)
      have r3 := hAc.1.2.2 (k + 1) (by omega)
      have hBk : zs_B f n k ≤ zs_B f n (k + 1) := zs_Bm (Nat.le_succ k)
      have hBn : zs_B f n (k + 1) ≤ zs_B f n n := zs_Bm hk
      rw [nI_pred, em_249_18]
      simp (disch := omega) only [zb_ltl, zb_llt, zb_eql, zb_leq, nI_ltI, nI_eq, zb_in, nI_clamp, zb_al, zb_la, zb_ml, zb_lm, zb_mul, nI_add, Bool.false_eq_true, reduceCtorEq, Nat.not_lt_zero, cond_true, cond_false, ↓reduceIte, if_true, if_false, Option.toList_some, Option.toList_none, List.nil_append, List.cons_append, Option.bind_some, r2]
      obtain ⟨c2, ⟨g1, g2, g3⟩, e2⟩ := zl_to (F := fun i c => zm 249 31 [z_r 91, z_i (nI k), z_i (nI (zs_B f n k + i))] [] c) (I := fun i d => zK 91 [121] [] b1 d ∧ (∀ t, ¬ t = k → d.1 121 t = c.1 121 t) ∧ d.1 121 k = zs_om f n (zs_ec f n (b.1 92 9) ms) (c.1 121) (zs_B f n k) i) (n := zs_B f n (k + 1) - zs_B f n k)
        (by
          rintro i d hi ⟨g1, g2, g3⟩
          try dsimp only
          have heB : zs_B f n k + i < zs_B f n n := by omega
          have hE4 := zs_Ein (f := f) hk (e := zs_B f n k + i) (by omega) (by omega)
          have hAd := hA1.k g1 rfl rfl rfl rfl rfl rfl rfl
          have hVd := hV1.k g1 (by decide) rfl
          obtain ⟨q1, q2⟩ := hAd.1.2.1 _ heB
          have r3' := hAd.1.2.2 (k + 1) (by omega)
          have hec := rm_ec hW hVd hAd (hms1.k g1 rfl) heB
          have upd : ∀ y, y = zs_om f n (zs_ec f n (b.1 92 9) ms) (c.1 121) (zs_B f n k) (i + 1) → ∃ d', (zK 91 [121] [] b1 d' ∧ (∀ t, ¬ t = k → d'.1 121 t = c.1 121 t) ∧ d'.1 121 k = zs_om f n (zs_ec f n (b.1 92 9) ms) (c.1 121) (zs_B f n k) (i + 1)) ∧ zm 249 31 [z_r 91, z_i (nI k), z_i (nI (zs_B f n k + i + 1))] [] (zd_u d 121 k y) = zm 249 31 [z_r 91, z_i (nI k), z_i (nI (zs_B f n k + (i + 1)))] [] d' := by
            intro y hy
            exact ⟨_, ⟨g1.u (c := 121) _ _ (by decide) rfl, fun t ht => (zb_ui _ _ _ _ ht).trans (g2 t ht), by rw [zb_ue]; exact hy⟩, rfl⟩
          rw [em_249_31, nI_clamp (n := zs_B f n k + i) (by omega), q1, q2]
          simp (disch := omega) only [zb_ltl, zb_llt, zb_eql, zb_leq, nI_ltI, nI_eq, zb_in, nI_clamp, zb_al, zb_la, zb_ml, zb_lm, zb_mul, nI_add, Bool.false_eq_true, reduceCtorEq, Nat.not_lt_zero, cond_true, cond_false, ↓reduceIte, if_true, if_false, Option.toList_some, Option.toList_none, List.nil_append, List.cons_append, Option.bind_some, r3', show zs_B f n k + i < zs_B f n (k + 1) by omega, g3, hec]
          have hom : zs_om f n (zs_ec f n (b.1 92 9) ms) (c.1 121) (zs_B f n k) (i + 1) = if zs_tn f n (zs_B f n k + i) = true then zs_om f n (zs_ec f n (b.1 92 9) ms) (c.1 121) (zs_B f n k) i else (if zs_om f n (zs_ec f n (b.1 92 9) ms) (c.1 121) (zs_B f n k) i < nI (zs_ec f n (b.1 92 9) ms (zs_B f n k + i)) + c.1 121 (zs_E f n (zs_B f n k + i)).2 then nI (zs_ec f n (b.1 92 9) ms (zs_B f n k + i)) + c.1 121 (zs_E f n (zs_B f n k + i)).2 else zs_om f n (zs_ec f n (b.1 92 9) ms) (c.1 121) (zs_B f n k) i) := rfl
          by_cases ht : (zs_E f n (zs_B f n k + i)).1 < (zs_E f n (zs_B f n k + i)).2
          · have hnt : ¬ zs_tn f n (zs_B f n k + i) = true := by unfold zs_tn; rw [decide_eq_true_eq]; omega
            rw [if_neg hnt, ← zb_max] at hom
            rw [if_pos ht, em_249_58, nI_clamp (n := zs_B f n k + i) (by omega), q2]
            simp (disch := omega) only [zb_ltl, zb_llt, zb_eql, zb_leq, nI_ltI, nI_eq, zb_in, nI_clamp, zb_al, zb_la, zb_ml, zb_lm, zb_mul, nI_add, Bool.false_eq_true, reduceCtorEq, Nat.not_lt_zero, cond_true, cond_false, ↓reduceIte, if_true, if_false, Option.toList_some, Option.toList_none, List.nil_append, List.cons_append, Option.bind_some, g2 (zs_E f n (zs_B f n k + i)).2 (by omega)]
            by_cases hc : nI (zs_ec f n (b.1 92 9) ms (zs_B f n k + i)) + c.1 121 (zs_E f n (zs_B f n k + i)).2 < zs_om f n (zs_ec f n (b.1 92 9) ms) (c.1 121) (zs_B f n k) i
            · rw [if_pos hc] at hom ⊢
              exact upd _ hom.symm
            · rw [if_neg hc] at hom ⊢
              exact upd _ hom.symm
          · have htn : zs_tn f n (zs_B f n k + i) = true := by unfold zs_tn; rw [decide_eq_true_eq]; omega
            rw [if_pos htn] at hom
            rw [if_neg ht]
            exact upd _ hom.symm) 0 (zd_u c 121 k 0) (Nat.zero_le _) ⟨h1.u (c := 121) _ _ (by decide) rfl, fun t ht => zb_ui _ _ _ _ ht, zb_ue _ _ _ _⟩
      try dsimp only at e2
      rw [Nat.add_zero (zs_B f n k), show zs_B f n k + (zs_B f n (k + 1) - zs_B f n k) = zs_B f n (k + 1) by omega] at e2
      have r3' := (hA1.k g1 rfl rfl rfl rfl rfl rfl rfl).1.2.2 (k + 1) (by omega)
      rw [e2, em_249_31]
      simp (disch := omega) only [zb_ltl, zb_llt, zb_eql, zb_leq, nI_ltI, nI_eq, zb_in, nI_clamp, zb_al, zb_la, zb_ml, zb_lm, zb_mul, nI_add, Bool.false_eq_true, reduceCtorEq, Nat.not_lt_zero, cond_true, cond_false, ↓reduceIte, if_true, if_false, Option.toList_some, Option.toList_none, List.nil_append, List.cons_append, Option.bind_some, r3', Nat.lt_irrefl]
      refine ⟨c2, ⟨g1, by omega, ?_, fun j hj1 hj2 => ?_⟩, by rw [Int32.sub_eq_add_neg]⟩
      · rw [g2 n (by omega)]; exact h2
      · by_cases hjk : j = k
        · subst hjk
          rw [g3]
          exact zs_om_congr hj2 (fun t q1 q2 => (g2 t (by omega)).symm) _ (Nat.le_refl _)
        · rw [g2 j hjk, h3 j (by omega) hj2]
          exact zs_om_congr hj2 (fun t q1 q2 => (g2 t (by omega)).symm) _ (Nat.le_refl _))
    (by
      rintro c ⟨h1, hkn, h2, h3⟩
      try dsimp only
      rw [em_249_18, if_pos (by decide)]
      exact zw_ret ⟨rfl, h1, h2, fun k hk => h3 k (Nat.zero_le _) hk⟩)
    n (zd_u b1 121 n 0) ⟨zK.rf.u (c := 121) _ _ (by decide) rfl, Nat.le_refl _, zb_ue _ _ _ _, fun k h1 h2 => absurd h2 (by omega)⟩
  obtain ⟨v, d, e, hv, h1, h2⟩ := key
  subst hv
  exact ⟨d, e, (k1.up rfl rfl).tr (h1.up rfl rfl), hA1.k h1 rfl rfl rfl rfl rfl rfl rfl, h2⟩
theorem rm_share (hW : zW f n) (hV : zV 92 b f) {lk : Int32} (hA : zMA b f n lk) {ms : Nat} (hms : zMs b f ms) {e : Nat} (he : e < zs_B f n n) : zm 251 0 [z_r 91, z_i (nI e)] [] b = some (some (.inl (zs_sh f n (zs_ec f n lk ms) (b.1 121) e)), b) := by
  have hn := hW.le
  have hB := zs_B812 (f := f) hn (Nat.le_refl n)
  obtain ⟨q1, q2⟩ := hA.1.2.1 _ he
  obtain ⟨l1, l2⟩ := zs_Elt he
  rw [em_251_0, rm_ec hW hV hA hms he]
  simp only [Bool.false_eq_true, reduceCtorEq, Nat.not_lt_zero, cond_true, cond_false, ↓reduceIte, if_true, if_false, Option.toList_some, Option.toList_none, List.nil_append, List.cons_append, Option.bind_some]
  rw [em_251_4, nI_clamp (n := e) (by omega), q1, q2]
  simp (disch := omega) only [zb_ltl, zb_llt, zb_eql, zb_leq, nI_ltI, nI_eq, zb_in, nI_clamp, zb_al, zb_la, zb_ml, zb_lm, zb_mul, nI_add, Bool.false_eq_true, reduceCtorEq, Nat.not_lt_zero, cond_true, cond_false, ↓reduceIte, if_true, if_false, Option.toList_some, Option.toList_none, List.nil_append, List.cons_append, Option.bind_some]
  unfold zs_sh
  rw [← zb_max]
  by_cases hc : nI (zs_ec f n lk ms e) + b.1 121 (zs_E f n e).2 - b.1 121 (zs_E f n e).1 < 0
  · rw [if_pos hc, if_pos hc]
  · rw [if_neg hc, if_neg hc]
/-- turns, and turns with a number -/
theorem rm_turns (hW : zW f n) (hE : zME b f n) : zm 253 0 [z_r 91, z_i 0, none, none] [] b = some (some (.inl (nI (zs_cnt (zs_tn f n) (zs_B f n n)))), b) := by
  have hn := hW.le
  have hB := zs_B812 (f := f) hn (Nat.le_refl n)
  have hc := zs_cnt_le (zs_tn f n) (zs_B f n n)
  rw [em_253_0]
  have := zl_eq (G := fun e => zm 253 5 [z_r 91, z_i 0, z_i (nI (zs_cnt (zs_tn f n) e)), z_i (nI e)] [] b) (n := zs_B f n n) (by
    intro e he
    try dsimp only
    obtain ⟨q1, q2⟩ := hE.2.1 _ he
    obtain ⟨l1, l2⟩ := zs_Elt he
    rw [em_253_5, hE.1, nI_clamp (n := e) (by omega), q1, q2]
    simp (disch := omega) only [zb_ltl, zb_llt, zb_eql, zb_leq, nI_ltI, nI_eq, zb_in, nI_clamp, zb_al, zb_la, zb_ml, zb_lm, zb_mul, nI_add, Bool.false_eq_true, reduceCtorEq, Nat.not_lt_zero, cond_true, cond_false, ↓reduceIte, if_true, if_false, Option.toList_some, Option.toList_none, List.nil_append, List.cons_append, Option.bind_some, he, Nat.add_zero, zs_cnt]
    by_cases ht : (zs_E f n e).1 < (zs_E f n e).2
    · have hnt : ¬ zs_tn f n e = true := by unfold zs_tn; rw [decide_eq_true_eq]; omega
      simp only [ht, hnt, Bool.false_eq_true, reduceCtorEq, Nat.not_lt_zero, cond_true, cond_false, ↓reduceIte, if_true, if_false, Option.toList_some, Option.toList_none, List.nil_append, List.cons_append, Option.bind_some, Nat.add_zero]
    · have htn : zs_tn f n e = true := by unfold zs_tn; rw [decide_eq_true_eq]; omega
      simp only [ht, htn, Bool.false_eq_true, reduceCtorEq, Nat.not_lt_zero, cond_true, cond_false, ↓reduceIte, if_true, if_false, Option.toList_some, Option.toList_none, List.nil_append, List.cons_append, Option.bind_some]) _ (Nat.le_refl _)
  refine Eq.trans this ?_
  try dsimp only
  rw [em_253_5, hE.1]
  simp (disch := omega) only [zb_ltl, zb_llt, zb_eql, zb_leq, nI_ltI, nI_eq, zb_in, nI_clamp, zb_al, zb_la, zb_ml, zb_lm, zb_mul, nI_add, Bool.false_eq_true, reduceCtorEq, Nat.not_lt_zero, cond_true, cond_false, ↓reduceIte, if_true, if_false, Option.toList_some, Option.toList_none, List.nil_append, List.cons_append, Option.bind_some, Nat.lt_irrefl]
theorem rm_told (hW : zW f n) (hE : zME b f n) (hN : zMN b nu f n) : zm 253 0 [z_r 91, z_i 1, none, none] [] b = some (some (.inl (nI (zs_cnt (fun e => decide (0 < nu e)) (zs_B f n n)))), b) := by
  have hn := hW.le
  have hB := zs_B812 (f := f) hn (Nat.le_refl n)
  have hc := zs_cnt_le (fun e => decide (0 < nu e)) (zs_B f n n)
  rw [em_253_0]
  have := zl_eq (G := fun e => zm 253 5 [z_r 91, z_i 1, z_i (nI (zs_cnt (fun e => decide (0 < nu e)) e)), z_i (nI e)] [] b) (n := zs_B f n n) (by
    intro e he
    try dsimp only
    obtain ⟨q1, q2⟩ := hE.2.1 _ he
    obtain ⟨l1, l2⟩ := zs_Elt he
    obtain ⟨n1, n2, n3⟩ := hN e he
    rw [em_253_5, hE.1, nI_clamp (n := e) (by omega), q1, q2]
    simp (disch := omega) only [zb_ltl, zb_llt, zb_eql, zb_leq, nI_ltI, nI_eq, zb_in, nI_clamp, zb_al, zb_la, zb_ml, zb_lm, zb_mul, nI_add, Bool.false_eq_true, reduceCtorEq, Nat.not_lt_zero, cond_true, cond_false, ↓reduceIte, if_true, if_false, Option.toList_some, Option.toList_none, List.nil_append, List.cons_append, Option.bind_some, he, Nat.add_zero, zs_cnt, n1, zb_m1lt, show ¬ (1 : Int32) = 0 by decide, decide_eq_true_eq]
    by_cases ht : (zs_E f n e).1 < (zs_E f n e).2
    · have hnt : ¬ zs_tn f n e = true := by unfold zs_tn; rw [decide_eq_true_eq]; omega
      have hnu : ¬ 0 < nu e := fun q => hnt (n3 q)
      simp only [ht, hnu, Bool.false_eq_true, reduceCtorEq, Nat.not_lt_zero, cond_true, cond_false, ↓reduceIte, if_true, if_false, Option.toList_some, Option.toList_none, List.nil_append, List.cons_append, Option.bind_some, Nat.add_zero]
    · by_cases h0 : nu e = 0
      · simp only [ht, h0, Bool.false_eq_true, reduceCtorEq, Nat.not_lt_zero, cond_true, cond_false, ↓reduceIte, if_true, if_false, Option.toList_some, Option.toList_none, List.nil_append, List.cons_append, Option.bind_some, Nat.lt_irrefl, Nat.add_zero]
      · simp only [ht, h0, Bool.false_eq_true, reduceCtorEq, Nat.not_lt_zero, cond_true, cond_false, ↓reduceIte, if_true, if_false, Option.toList_some, Option.toList_none, List.nil_append, List.cons_append, Option.bind_some, show 0 < nu e by omega]) _ (Nat.le_refl _)
  refine Eq.trans this ?_
  try dsimp only
  rw [em_253_5, hE.1]
  simp (disch := omega) only [zb_ltl, zb_llt, zb_eql, zb_leq, nI_ltI, nI_eq, zb_in, nI_clamp, zb_al, zb_la, zb_ml, zb_lm, zb_mul, nI_add, Bool.false_eq_true, reduceCtorEq, Nat.not_lt_zero, cond_true, cond_false, ↓reduceIte, if_true, if_false, Option.toList_some, Option.toList_none, List.nil_append, List.cons_append, Option.bind_some, Nat.lt_irrefl]
theorem rx_turns (hW : zW f n) (hP : zAP a f n) : zx nl 128 0 [z_r 3, none, none] [] a = some (some (.inl (nI (zs_cnt (zs_tn f n) (zs_B f n n)))), a) := by
  have hn := hW.le
  have hB := zs_B812 (f := f) hn (Nat.le_refl n)
  have hc := zs_cnt_le (zs_tn f n) (zs_B f n n)
  have h37 : a.1 3 7 = nI (zs_B f n n) := hP.2.1.1
  rw [ex_128_0]
  have := zl_eq (G := fun e => zx nl 128 5 [z_r 3, z_i (nI (zs_cnt (zs_tn f n) e)), z_i (nI e)] [] a) (n := zs_B f n n) (by
    intro e he
    try dsimp only
    have q1 : a.1 11 e = nI (zs_E f n e).1 := (hP.2.1.2.2 e he).1
    have q2 : a.1 12 e = nI (zs_E f n e).2 := (hP.2.1.2.2 e he).2
    obtain ⟨l1, l2⟩ := zs_Elt he
    rw [ex_128_5, h37, nI_clamp (n := e) (by omega), q1, q2]
    simp (disch := omega) only [zb_ltl, zb_llt, zb_eql, zb_leq, nI_ltI, nI_eq, zb_in, nI_clamp, zb_al, zb_la, zb_ml, zb_lm, zb_mul, nI_add, Bool.false_eq_true, reduceCtorEq, Nat.not_lt_zero, cond_true, cond_false, ↓reduceIte, if_true, if_false, Option.toList_some, Option.toList_none, List.nil_append, List.cons_append, Option.bind_some, he, zs_cnt]
    by_cases ht : (zs_E f n e).1 < (zs_E f n e).2
    · have hnt : ¬ zs_tn f n e = true := by unfold zs_tn; rw [decide_eq_true_eq]; omega
      simp only [ht, hnt, Bool.false_eq_true, reduceCtorEq, Nat.not_lt_zero, cond_true, cond_false, ↓reduceIte, if_true, if_false, Option.toList_some, Option.toList_none, List.nil_append, List.cons_append, Option.bind_some, Nat.add_zero]
    · have htn : zs_tn f n e = true := by unfold zs_tn; rw [decide_eq_true_eq]; omega
      simp only [ht, htn, Bool.false_eq_true, reduceCtorEq, Nat.not_lt_zero, cond_true, cond_false, ↓reduceIte, if_true, if_false, Option.toList_some, Option.toList_none, List.nil_append, List.cons_append, Option.bind_some]) _ (Nat.le_refl _)
  refine Eq.trans this ?_
  try dsimp only
  rw [ex_128_5, h37]
  simp (disch := omega) only [zb_ltl, zb_llt, zb_eql, zb_leq, nI_ltI, nI_eq, zb_in, nI_clamp, zb_al, zb_la, zb_ml, zb_lm, zb_mul, nI_add, Bool.false_eq_true, reduceCtorEq, Nat.not_lt_zero, cond_true, cond_false, ↓reduceIte, if_true, if_false, Option.toList_some, Option.toList_none, List.nil_append, List.cons_append, Option.bind_some, Nat.lt_irrefl]
theorem zs_nb_none {r : Nat} (h : r < 2 ^ 31) : (zs_nb r = -1000000005) ↔ r = 0 := by
  unfold zs_nb
  by_cases h0 : r = 0
  · rw [if_pos h0]; exact ⟨fun _ => h0, fun _ => rfl⟩
  · rw [if_neg h0]
    refine ⟨fun q => ?_, fun q => absurd q h0⟩
    have := nI_pos (n := r - 1) (by omega)
    rw [q] at this
    exact absurd (by decide) this
theorem rx_told (hW : zW f n) (hP : zAP a f n) (hN : zAN 3 a nu f n) : zx nl 127 0 [z_r 3, none, none] [] a = some (some (.inl (nI (zs_cnt (fun e => decide (0 < nu e)) (zs_B f n n)))), a) := by
  have hn := hW.le
  have hB := zs_B812 (f := f) hn (Nat.le_refl n)
  have hc := zs_cnt_le (fun e => decide (0 < nu e)) (zs_B f n n)
  have h37 : a.1 3 7 = nI (zs_B f n n) := hP.2.1.1
  rw [ex_127_0]
  have := zl_eq (G := fun e => zx nl 127 5 [z_r 3, z_i (nI (zs_cnt (fun e => decide (0 < nu e)) e)), z_i (nI e)] [] a) (n := zs_B f n n) (by
    intro e he
    try dsimp only
    obtain ⟨n1, n2, n3⟩ := hN e he
    have n1 : a.1 13 e = zs_nb (nu e) := n1
    rw [ex_127_5, h37, nI_clamp (n := e) (by omega), n1]
    simp (disch := omega) only [zb_ltl, zb_llt, zb_eql, zb_leq, nI_ltI, nI_eq, zb_in, nI_clamp, zb_al, zb_la, zb_ml, zb_lm, zb_mul, nI_add, Bool.false_eq_true, reduceCtorEq, Nat.not_lt_zero, cond_true, cond_false, ↓reduceIte, if_true, if_false, Option.toList_some, Option.toList_none, List.nil_append, List.cons_append, Option.bind_some, he, zs_cnt, zs_nb_none, decide_eq_true_eq]
    by_cases h0 : nu e = 0
    · simp only [h0, Bool.false_eq_true, reduceCtorEq, Nat.not_lt_zero, cond_true, cond_false, ↓reduceIte, if_true, if_false, Option.toList_some, Option.toList_none, List.nil_append, List.cons_append, Option.bind_some, Nat.lt_irrefl, Nat.add_zero]
    · simp only [h0, Bool.false_eq_true, reduceCtorEq, Nat.not_lt_zero, cond_true, cond_false, ↓reduceIte, if_true, if_false, Option.toList_some, Option.toList_none, List.nil_append, List.cons_append, Option.bind_some, show 0 < nu e by omega]) _ (Nat.le_refl _)
  refine Eq.trans this ?_
  try dsimp only
  rw [ex_127_5, h37]
  simp (disch := omega) only [zb_ltl, zb_llt, zb_eql, zb_leq, nI_ltI, nI_eq, zb_in, nI_clamp, zb_al, zb_la, zb_ml, zb_lm, zb_mul, nI_add, Bool.false_eq_true, reduceCtorEq, Nat.not_lt_zero, cond_true, cond_false, ↓reduceIte, if_true, if_false, Option.toList_some, Option.toList_none, List.nil_append, List.cons_append, Option.bind_some, Nat.lt_irrefl]
end RmOwn
