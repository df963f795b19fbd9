/-! ===== calls: bounds, factors, what must and may be there ===== -/
section ZcBound
variable {nl : Int32} {a b : zd_D}
theorem zc_bound (h : zR a b) : zC (zx nl 110 0 [z_r 0] [] a) (zm 241 0 [z_r 91] [] b) := by
  obtain ⟨f, n, nu, w, h0, hf⟩ := h
  obtain ⟨a1, e1, k1, hf1, h9, hF1, hP1⟩ := rx_freshp (nl := nl) h0 hf
  obtain ⟨b1, e2, k2, -, -⟩ := rm_bound h0.W h0.V h0.MN h0.Ms
  rw [ex_110_0, e1, em_241_0, e2]
  simp only [Bool.false_eq_true, reduceCtorEq, Nat.not_lt_zero, cond_true, cond_false, ↓reduceIte, if_true, if_false, Option.toList_some, Option.toList_none, List.nil_append, List.cons_append, Option.bind_some]
  rw [ex_110_2, em_241_2, hP1.1]
  exact ⟨_, _, _, rfl, rfl, zR.of h0 k1 hf1 (k2.cm rfl rfl)⟩
theorem zc_way (x : Int32) (h : zR a b) : zC (zx nl 120 0 [z_r 0, z_i x] [] a) (zm 247 0 [z_r 91, z_i x, none, none, none, none, none] [] b) := by
  obtain ⟨f, n, nu, w, h0, hf⟩ := h
  rw [ex_120_0, em_247_0]
  rcases zb_sgn x with hx | ⟨j, hj, rfl⟩
  · rw [if_pos hx, if_pos hx]
    exact zC.same ⟨f, n, nu, w, h0, hf⟩ _
  rw [if_neg (nI_pos hj), if_neg (nI_pos hj)]
  obtain ⟨a1, e1, k1, hf1, h9, hF1, hP1⟩ := rx_freshp (nl := nl) h0 hf
  obtain ⟨b1, e2, k2, hMB, hrest⟩ := rm_bound h0.W h0.V h0.MN h0.Ms
  have hz := zR.of h0 k1 hf1 (k2.cm rfl rfl)
  have hn := h0.W.le
  rw [e1, e2]
  simp only [Bool.false_eq_true, reduceCtorEq, Nat.not_lt_zero, cond_true, cond_false, ↓reduceIte, if_true, if_false, Option.toList_some, Option.toList_none, List.nil_append, List.cons_append, Option.bind_some]
  rw [ex_120_6, em_247_6, hP1.1]
  by_cases hneg : zs_bd f n (zs_ec f n (b.1 92 9) (zs_ms f)) nu < 0
  · rw [if_pos hneg, if_pos hneg]
    exact zC.same hz _
  rw [if_neg hneg, if_neg hneg, ex_121_0]
  have h01 := (h0.x k1).m (k2.cm rfl rfl)
  have h30 : a1.1 3 0 = nI n := h01.P.1.1
  by_cases hn0 : n = 0
  · subst hn0
    have ex : (if a1.1 60 6 = 0 then some (some (.inl (-1000000005)), a1) else zx nl 121 15 [z_r 60, z_i (nI j), z_i 0, z_i (a1.1 60 1 - 1), z_i 0, none] [] a1) = (some (some (.inl (-1000000005)), a1) : Option (Option mx_V × zd_D)) := by
      by_cases h6 : a1.1 60 6 = 0
      · rw [if_pos h6]
      · rw [if_neg h6, ex_121_15, h30]
        simp only [show ¬ (0 : Int32) < nI 0 by decide, if_false]
        split <;> rfl
    have em : zm 247 21 [z_r 91, z_i (nI j), none, z_i (b1.1 91 43 - 1), z_i 0, z_i 0, none] [] b1 = some (some (.inl (-1000000005)), b1) := by
      rw [em_247_21, h01.V.sz h01.W]
      simp only [show ¬ (0 : Int32) < nI 0 by decide, if_false]
      split <;> rfl
    rw [ex, em]
    simp only [Bool.false_eq_true, reduceCtorEq, Nat.not_lt_zero, cond_true, cond_false, ↓reduceIte, if_true, if_false, Option.toList_some, Option.toList_none, List.nil_append, List.cons_append, Option.bind_some]
    rw [ex_120_18]
    exact zC.same hz _
  have hno : ¬ zs_no f n nu := fun q => hneg (by rw [zs_bd_no hn0 q]; decide)
  have h6 : ¬ 600 < zs_M nu (zs_B f n n) := fun q => hneg (by rw [zs_bd_sp hn0 hno q]; decide)
  have hS0 : ¬ zs_S f n (zs_ec f n (b.1 92 9) (zs_ms f)) nu (zs_M nu (zs_B f n n) - 1) 0 = 0 := fun q => hneg (by rw [zs_bd_go hn0 hno h6, if_pos q]; decide)
  have hPr := hP1.2 hn0 hno h6
  have hMB1 := hMB hn0 hno h6
  have hM1 := zs_M_pos nu (zs_B f n n)
  obtain ⟨v, q1, q2⟩ := zw_way (nl := nl) (C := zs_ec f n (b.1 92 9) (zs_ms f)) h01.W hn0 h01.P h01.N hPr hF1.2.2.1 (fun e _ => zs_ec_le h01.W (by have := h01.W.ms; omega) e) h01.V h01.MN hMB1 (hrest hn0).1 (by omega) hj j 0 (zs_M nu (zs_B f n n) - 1) 0 (by omega) (by omega) (by omega) (hrest hn0).1.1.1 hS0
  rw [hPr.1, if_neg (by decide), hPr.2.2.1, hMB1.2.1, zb_pred hM1]
  rw [show (0 : Int32) = nI 0 from rfl, q1, q2]
  simp only [Bool.false_eq_true, reduceCtorEq, Nat.not_lt_zero, cond_true, cond_false, ↓reduceIte, if_true, if_false, Option.toList_some, Option.toList_none, List.nil_append, List.cons_append, Option.bind_some]
  rw [ex_120_18]
  exact ⟨v, a1, b1, rfl, rfl, hz⟩
theorem zc_factor (x : Int32) (h : zR a b) : zC (zx nl 123 0 [z_r 0, z_i x] [] a) (zm 248 0 [z_r 91, z_i x] [] b) := by
  obtain ⟨f, n, nu, w, h0, hf⟩ := h
  have hn := h0.W.le
  rw [ex_123_0, em_248_0, h0.V.sz h0.W, show a.1 3 0 = nI n from h0.P.1.1]
  rcases zb_sgn x with hx | ⟨j, hj, rfl⟩
  · simp only [hx, Bool.false_eq_true, reduceCtorEq, Nat.not_lt_zero, cond_true, cond_false, ↓reduceIte, if_true, if_false, Option.toList_some, Option.toList_none, List.nil_append, List.cons_append, Option.bind_some]
    exact zC.same ⟨f, n, nu, w, h0, hf⟩ _
  by_cases hjn : j < n
  · obtain ⟨a1, e1, k1, hf1, h9, hF1⟩ := rx_fresh (nl := nl) h0 hf
    obtain ⟨b1, e2, k2, hA2, hO2⟩ := rm_own h0.W h0.V h0.Ms
    simp (disch := omega) only [zb_ltl, zb_llt, zb_eql, zb_leq, nI_ltI, nI_eq, zb_in, nI_clamp, zb_al, zb_la, zb_ml, zb_lm, zb_mul, nI_add, Bool.false_eq_true, reduceCtorEq, Nat.not_lt_zero, cond_true, cond_false, ↓reduceIte, if_true, if_false, Option.toList_some, Option.toList_none, List.nil_append, List.cons_append, Option.bind_some, zb_pl, hjn, show ¬ n < j + 1 by omega, e1, e2]
    rw [ex_123_8, em_248_8]
    simp (disch := omega) only [zb_ltl, zb_llt, zb_eql, zb_leq, nI_ltI, nI_eq, zb_in, nI_clamp, zb_al, zb_la, zb_ml, zb_lm, zb_mul, nI_add, Bool.false_eq_true, reduceCtorEq, Nat.not_lt_zero, cond_true, cond_false, ↓reduceIte, if_true, if_false, Option.toList_some, Option.toList_none, List.nil_append, List.cons_append, Option.bind_some]
    rw [zs_own_eq hF1.2.2.2.1 hO2 j (by omega)]
    exact ⟨_, _, _, rfl, rfl, zR.of h0 k1 hf1 (k2.cm rfl rfl)⟩
  · simp (disch := omega) only [zb_ltl, zb_llt, zb_eql, zb_leq, nI_ltI, nI_eq, zb_in, nI_clamp, zb_al, zb_la, zb_ml, zb_lm, zb_mul, nI_add, Bool.false_eq_true, reduceCtorEq, Nat.not_lt_zero, cond_true, cond_false, ↓reduceIte, if_true, if_false, Option.toList_some, Option.toList_none, List.nil_append, List.cons_append, Option.bind_some, zb_pl, hjn, show n < j + 1 by omega]
    exact zC.same ⟨f, n, nu, w, h0, hf⟩ _
theorem zc_shares (x : Int32) (h : zR a b) : zC (zx nl 124 0 [z_r 0, z_i x] [] a) (zm 250 0 [z_r 91, z_i x] [] b) := by
  obtain ⟨f, n, nu, w, h0, hf⟩ := h
  have hn := h0.W.le
  have hB := zs_B812 (f := f) hn (Nat.le_refl n)
  obtain ⟨b1, e2, k2, hA2, hO2⟩ := rm_own h0.W h0.V h0.Ms
  have hzb : zR a b1 := zR.m (k2.cm rfl rfl) ⟨f, n, nu, w, h0, hf⟩
  rw [ex_124_0, em_250_0, e2, show a.1 3 7 = nI (zs_B f n n) from h0.P.2.1.1]
  simp only [Bool.false_eq_true, reduceCtorEq, Nat.not_lt_zero, cond_true, cond_false, ↓reduceIte, if_true, if_false, Option.toList_some, Option.toList_none, List.nil_append, List.cons_append, Option.bind_some]
  rw [em_250_2, hA2.1.1]
  rcases zb_sgn x with hx | ⟨j, hj, rfl⟩
  · simp only [hx, Bool.false_eq_true, reduceCtorEq, Nat.not_lt_zero, cond_true, cond_false, ↓reduceIte, if_true, if_false, Option.toList_some, Option.toList_none, List.nil_append, List.cons_append, Option.bind_some]
    exact zC.same hzb _
  by_cases hjn : j < zs_B f n n
  · obtain ⟨q1, q2⟩ := hA2.1.2.1 j hjn
    have p1 : a.1 11 j = nI (zs_E f n j).1 := (h0.P.2.1.2.2 j hjn).1
    have p2 : a.1 12 j = nI (zs_E f n j).2 := (h0.P.2.1.2.2 j hjn).2
    obtain ⟨l1, l2⟩ := zs_Elt hjn
    obtain ⟨a1, e1, k1, hf1, h9, hF1⟩ := rx_fresh (nl := nl) h0 hf
    have hV1 := h0.V.k k2 (by decide) rfl
    have hs := rm_share h0.W hV1 hA2 (h0.Ms.k k2 rfl) hjn
    simp (disch := omega) only [zb_ltl, zb_llt, zb_eql, zb_leq, nI_ltI, nI_eq, zb_in, nI_clamp, zb_al, zb_la, zb_ml, zb_lm, zb_mul, nI_add, Bool.false_eq_true, reduceCtorEq, Nat.not_lt_zero, cond_true, cond_false, ↓reduceIte, if_true, if_false, Option.toList_some, Option.toList_none, List.nil_append, List.cons_append, Option.bind_some, zb_pl, hjn, show ¬ zs_B f n n < j + 1 by omega, p1, p2, q1, q2, hs, e1]
    by_cases ht : (zs_E f n j).1 < (zs_E f n j).2
    · simp only [ht, Bool.false_eq_true, reduceCtorEq, Nat.not_lt_zero, cond_true, cond_false, ↓reduceIte, if_true, if_false, Option.toList_some, Option.toList_none, List.nil_append, List.cons_append, Option.bind_some]
      exact zC.same hzb _
    · simp only [ht, Bool.false_eq_true, reduceCtorEq, Nat.not_lt_zero, cond_true, cond_false, ↓reduceIte, if_true, if_false, Option.toList_some, Option.toList_none, List.nil_append, List.cons_append, Option.bind_some]
      have h01 := h0.x k1
      have p1' : a1.1 11 j = nI (zs_E f n j).1 := (h01.P.2.1.2.2 j hjn).1
      have p2' : a1.1 12 j = nI (zs_E f n j).2 := (h01.P.2.1.2.2 j hjn).2
      rw [ex_124_16, em_250_19]
      simp (disch := omega) only [zb_ltl, zb_llt, zb_eql, zb_leq, nI_ltI, nI_eq, zb_in, nI_clamp, zb_al, zb_la, zb_ml, zb_lm, zb_mul, nI_add, Bool.false_eq_true, reduceCtorEq, Nat.not_lt_zero, cond_true, cond_false, ↓reduceIte, if_true, if_false, Option.toList_some, Option.toList_none, List.nil_append, List.cons_append, Option.bind_some, p1', p2', hF1.2.2.1 j hjn]
      refine ⟨zs_sh f n (zs_ec f n (b.1 92 9) (zs_ms f)) (b1.1 121) j, a1, b1, ?_, rfl, zR.of h0 k1 hf1 (k2.cm rfl rfl)⟩
      rw [← zs_sh_congr hjn (zs_own_eq hF1.2.2.2.1 hO2)]
      rfl
  · simp (disch := omega) only [zb_ltl, zb_llt, zb_eql, zb_leq, nI_ltI, nI_eq, zb_in, nI_clamp, zb_al, zb_la, zb_ml, zb_lm, zb_mul, nI_add, Bool.false_eq_true, reduceCtorEq, Nat.not_lt_zero, cond_true, cond_false, ↓reduceIte, if_true, if_false, Option.toList_some, Option.toList_none, List.nil_append, List.cons_append, Option.bind_some, zb_pl, hjn, show zs_B f n n < j + 1 by omega]
    exact zC.same hzb _
theorem zs_cnt_all {p q : Nat → Bool} : ∀ m, (∀ i, i < m → p i = true → q i = true) → zs_cnt p m = zs_cnt q m → ∀ i, i < m → q i = true → p i = true := by
  intro m h e i hi hq
  cases hp : p i with
  | true => rfl
  | false =>
    have := zs_cnt_lt m h ⟨i, hi, hp, hq⟩
    omega
set_option maxHeartbeats 1000000 in
theorem zc_proves (h : zR a b) : zC (zx nl 126 0 [z_r 0, none, none] [] a) (zm 252 0 [z_r 91, none, none] [] b) := by
  obtain ⟨f, n, nu, w, h0, hf⟩ := h
  have hn := h0.W.le
  have hB := zs_B812 (f := f) hn (Nat.le_refl n)
  obtain ⟨b1, e2, k2, hA2, hO2⟩ := rm_own h0.W h0.V h0.Ms
  have h0b := h0.m (k2.cm rfl rfl)
  have hzb : zR a b1 := zR.m (k2.cm rfl rfl) ⟨f, n, nu, w, h0, hf⟩
  have c1 := zs_cnt_le (zs_tn f n) (zs_B f n n)
  have c2 := zs_cnt_le (fun e => decide (0 < nu e)) (zs_B f n n)
  have himp : ∀ i, i < zs_B f n n → decide (0 < nu i) = true → zs_tn f n i = true := fun i hi q => (h0.N i hi).2.2 (of_decide_eq_true q)
  have c3 := zs_cnt_mono (p := fun e => decide (0 < nu e)) (q := zs_tn f n) (zs_B f n n) himp
  rw [ex_126_0, rx_told h0.W h0.P h0.N, em_252_0, e2]
  simp only [Bool.false_eq_true, reduceCtorEq, Nat.not_lt_zero, cond_true, cond_false, ↓reduceIte, if_true, if_false, Option.toList_some, Option.toList_none, List.nil_append, List.cons_append, Option.bind_some]
  rw [ex_126_4, rx_turns h0.W h0.P, em_252_2, rm_told h0b.W hA2.1 h0b.MN]
  simp only [Bool.false_eq_true, reduceCtorEq, Nat.not_lt_zero, cond_true, cond_false, ↓reduceIte, if_true, if_false, Option.toList_some, Option.toList_none, List.nil_append, List.cons_append, Option.bind_some]
  rw [ex_126_8, em_252_5, rm_turns h0b.W hA2.1]
  simp only [Bool.false_eq_true, reduceCtorEq, Nat.not_lt_zero, cond_true, cond_false, ↓reduceIte, if_true, if_false, Option.toList_some, Option.toList_none, List.nil_append, List.cons_append, Option.bind_some]
  rw [em_252_8]
  by_cases hlt : zs_cnt (fun e => decide (0 < nu e)) (zs_B f n n) < zs_cnt (zs_tn f n) (zs_B f n n)
  · simp (disch := omega) only [zb_ltl, zb_llt, zb_eql, zb_leq, nI_ltI, nI_eq, zb_in, nI_clamp, zb_al, zb_la, zb_ml, zb_lm, zb_mul, nI_add, Bool.false_eq_true, reduceCtorEq, Nat.not_lt_zero, cond_true, cond_false, ↓reduceIte, if_true, if_false, Option.toList_some, Option.toList_none, List.nil_append, List.cons_append, Option.bind_some, hlt, show ¬ zs_cnt (fun e => decide (0 < nu e)) (zs_B f n n) = zs_cnt (zs_tn f n) (zs_B f n n) by omega]
    exact zC.same hzb _
  have hall := zs_cnt_all (p := fun e => decide (0 < nu e)) (q := zs_tn f n) (zs_B f n n) himp (by omega)
  obtain ⟨a1, e1, k1, hf1, h9, hF1⟩ := rx_fresh (nl := nl) h0 hf
  have h01 := h0.x k1
  have hO := zs_own_eq hF1.2.2.2.1 hO2
  have h30 : a1.1 3 0 = nI n := h01.P.1.1
  have h37 : a1.1 3 7 = nI (zs_B f n n) := h01.P.2.1.1
  simp (disch := omega) only [zb_ltl, zb_llt, zb_eql, zb_leq, nI_ltI, nI_eq, zb_in, nI_clamp, zb_al, zb_la, zb_ml, zb_lm, zb_mul, nI_add, Bool.false_eq_true, reduceCtorEq, Nat.not_lt_zero, cond_true, cond_false, ↓reduceIte, if_true, if_false, Option.toList_some, Option.toList_none, List.nil_append, List.cons_append, Option.bind_some, Nat.lt_irrefl, show zs_cnt (fun e => decide (0 < nu e)) (zs_B f n n) = zs_cnt (zs_tn f n) (zs_B f n n) by omega, e1, h0b.V.sz h0b.W]
  rw [ex_126_13]
  have lx := zl_eq (G := fun e => zx nl 126 29 [z_r 0, z_i (zs_pr f n (zs_ec f n (b.1 92 9) (zs_ms f)) (a1.1 59) nu e), z_i (nI e)] [] a1) (n := zs_B f n n) (by
    intro e he
    try dsimp only
    have p1 : a1.1 11 e = nI (zs_E f n e).1 := (h01.P.2.1.2.2 e he).1
    have p2 : a1.1 12 e = nI (zs_E f n e).2 := (h01.P.2.1.2.2 e he).2
    obtain ⟨l1, l2⟩ := zs_Elt he
    obtain ⟨n1, n2, n3⟩ := h01.N e he
    have n1 : a1.1 13 e = zs_nb (nu e) := n1
    rw [ex_126_29, h37, nI_clamp (n := e) (by omega), p1, p2, n1]
    simp (disch := omega) only [zb_ltl, zb_llt, zb_eql, zb_leq, nI_ltI, nI_eq, zb_in, nI_clamp, zb_al, zb_la, zb_ml, zb_lm, zb_mul, nI_add, Bool.false_eq_true, reduceCtorEq, Nat.not_lt_zero, cond_true, cond_false, ↓reduceIte, if_true, if_false, Option.toList_some, Option.toList_none, List.nil_append, List.cons_append, Option.bind_some, he, hF1.2.2.1 e he, zs_pr]
    by_cases ht : (zs_E f n e).1 < (zs_E f n e).2
    · have hnt : ¬ zs_tn f n e = true := by unfold zs_tn; rw [decide_eq_true_eq]; omega
      simp only [ht, hnt, Bool.false_eq_true, reduceCtorEq, Nat.not_lt_zero, cond_true, cond_false, ↓reduceIte, if_true, if_false, Option.toList_some, Option.toList_none, List.nil_append, List.cons_append, Option.bind_some]
    · have htn : zs_tn f n e = true := by unfold zs_tn; rw [decide_eq_true_eq]; omega
      have hnu := of_decide_eq_true (hall e he htn)
      have hnb : zs_nb (nu e) = nI (nu e) - 1 := by
        unfold zs_nb
        rw [if_neg (by omega), zb_pred hnu]
      simp only [ht, htn, Bool.false_eq_true, reduceCtorEq, Nat.not_lt_zero, cond_true, cond_false, ↓reduceIte, if_true, if_false, Option.toList_some, Option.toList_none, List.nil_append, List.cons_append, Option.bind_some, hnb]
      rfl) _ (Nat.le_refl _)
  have lm := zl_eq (G := fun e => zm 252 26 [z_r 91, z_i (zs_pr f n (zs_ec f n (b.1 92 9) (zs_ms f)) (b1.1 121) nu e), z_i (nI e)] [] b1) (n := zs_B f n n) (by
    intro e he
    try dsimp only
    obtain ⟨q1, q2⟩ := hA2.1.2.1 e he
    obtain ⟨l1, l2⟩ := zs_Elt he
    obtain ⟨n1, n2, n3⟩ := h0b.MN e he
    have hs := rm_share h0b.W h0b.V hA2 (h0.Ms.k k2 rfl) he
    rw [em_252_26, hA2.1.1, nI_clamp (n := e) (by omega), q1, q2]
    simp (disch := omega) only [zb_ltl, zb_llt, zb_eql, zb_leq, nI_ltI, nI_eq, zb_in, nI_clamp, zb_al, zb_la, zb_ml, zb_lm, zb_mul, nI_add, Bool.false_eq_true, reduceCtorEq, Nat.not_lt_zero, cond_true, cond_false, ↓reduceIte, if_true, if_false, Option.toList_some, Option.toList_none, List.nil_append, List.cons_append, Option.bind_some, he, hs, zs_pr, Int32.add_zero]
    by_cases ht : (zs_E f n e).1 < (zs_E f n e).2
    · have hnt : ¬ zs_tn f n e = true := by unfold zs_tn; rw [decide_eq_true_eq]; omega
      simp only [ht, hnt, Bool.false_eq_true, reduceCtorEq, Nat.not_lt_zero, cond_true, cond_false, ↓reduceIte, if_true, if_false, Option.toList_some, Option.toList_none, List.nil_append, List.cons_append, Option.bind_some]
    · have htn : zs_tn f n e = true := by unfold zs_tn; rw [decide_eq_true_eq]; omega
      simp only [ht, htn, Bool.false_eq_true, reduceCtorEq, Nat.not_lt_zero, cond_true, cond_false, ↓reduceIte, if_true, if_false, Option.toList_some, Option.toList_none, List.nil_append, List.cons_append, Option.bind_some]
      rw [em_252_38]
      simp (disch := omega) only [zb_ltl, zb_llt, zb_eql, zb_leq, nI_ltI, nI_eq, zb_in, nI_clamp, zb_al, zb_la, zb_ml, zb_lm, zb_mul, nI_add, Bool.false_eq_true, reduceCtorEq, Nat.not_lt_zero, cond_true, cond_false, ↓reduceIte, if_true, if_false, Option.toList_some, Option.toList_none, List.nil_append, List.cons_append, Option.bind_some, n1]) _ (Nat.le_refl _)
  have ex1 : zx nl 126 29 [z_r 0, z_i (zs_pr f n (zs_ec f n (b.1 92 9) (zs_ms f)) (a1.1 59) nu (zs_B f n n)), z_i (nI (zs_B f n n))] [] a1 = some (some (.inl (zs_pr f n (zs_ec f n (b.1 92 9) (zs_ms f)) (a1.1 59) nu (zs_B f n n))), a1) := by
    rw [ex_126_29, h37]
    simp (disch := omega) only [zb_ltl, zb_llt, zb_eql, zb_leq, nI_ltI, nI_eq, zb_in, nI_clamp, zb_al, zb_la, zb_ml, zb_lm, zb_mul, nI_add, Bool.false_eq_true, reduceCtorEq, Nat.not_lt_zero, cond_true, cond_false, ↓reduceIte, if_true, if_false, Option.toList_some, Option.toList_none, List.nil_append, List.cons_append, Option.bind_some, Nat.lt_irrefl]
  have em1 : zm 252 26 [z_r 91, z_i (zs_pr f n (zs_ec f n (b.1 92 9) (zs_ms f)) (b1.1 121) nu (zs_B f n n)), z_i (nI (zs_B f n n))] [] b1 = some (some (.inl (zs_pr f n (zs_ec f n (b.1 92 9) (zs_ms f)) (b1.1 121) nu (zs_B f n n))), b1) := by
    rw [em_252_26, hA2.1.1]
    simp (disch := omega) only [zb_ltl, zb_llt, zb_eql, zb_leq, nI_ltI, nI_eq, zb_in, nI_clamp, zb_al, zb_la, zb_ml, zb_lm, zb_mul, nI_add, Bool.false_eq_true, reduceCtorEq, Nat.not_lt_zero, cond_true, cond_false, ↓reduceIte, if_true, if_false, Option.toList_some, Option.toList_none, List.nil_append, List.cons_append, Option.bind_some, Nat.lt_irrefl]
  have hpc := zs_pr_congr (C := zs_ec f n (b.1 92 9) (zs_ms f)) (nu := nu) hO (zs_B f n n) (Nat.le_refl _)
  try dsimp only at lx lm
  refine ⟨zs_pr f n (zs_ec f n (b.1 92 9) (zs_ms f)) (b1.1 121) nu (zs_B f n n), a1, b1, ?_, ?_, zR.of h0 k1 hf1 (k2.cm rfl rfl)⟩
  · rw [h30, ← hpc, ← ex1, ← lx]
    show _ = zx nl 126 29 [z_r 0, z_i (if n = 0 then 0 else a1.1 59 0), z_i (nI 0)] [] a1
    by_cases hn0 : n = 0
    · subst hn0
      rfl
    · rw [if_neg hn0, if_pos (show (0 : Int32) < nI n from nI_lt (a := 0) (by omega) (by omega))]
      rfl
  · rw [← em1, ← lm]
    show _ = zm 252 26 [z_r 91, z_i (if n = 0 then 0 else b1.1 121 0), z_i (nI 0)] [] b1
    by_cases hn0 : n = 0
    · rw [if_pos hn0, if_pos hn0]
      rfl
    · rw [if_neg hn0, if_neg hn0]
      rfl
theorem zc_age (x y : Int32) (h : zR a b) : zC (zx nl 108 0 [z_r 0, z_i x, z_i y, none] [] a) (zm 239 0 [z_r 91, z_i x, z_i y] [] b) := by
  obtain ⟨f, n, nu, w, h0, hf⟩ := h
  have hn := h0.W.le
  obtain ⟨hr1, hr4⟩ := h0.W.rem
  rw [ex_108_0, em_239_0, h0.V.sz h0.W, show a.1 3 0 = nI n from h0.P.1.1]
  rcases zb_sgn x with hx | ⟨j, hj, rfl⟩
  · simp only [hx, Bool.false_eq_true, reduceCtorEq, Nat.not_lt_zero, cond_true, cond_false, ↓reduceIte, if_true, if_false, Option.toList_some, Option.toList_none, List.nil_append, List.cons_append, Option.bind_some]
    exact zC.same ⟨f, n, nu, w, h0, hf⟩ _
  by_cases hjn : j < n
  · rcases zb_sgn y with hy | ⟨l, hl, rfl⟩
    · simp (disch := omega) only [zb_ltl, zb_llt, zb_eql, zb_leq, nI_ltI, nI_eq, zb_in, nI_clamp, zb_al, zb_la, zb_ml, zb_lm, zb_mul, nI_add, Bool.false_eq_true, reduceCtorEq, Nat.not_lt_zero, cond_true, cond_false, ↓reduceIte, if_true, if_false, Option.toList_some, Option.toList_none, List.nil_append, List.cons_append, Option.bind_some, zb_pl, hjn, show ¬ n < j + 1 by omega, hy]
      exact zC.same ⟨f, n, nu, w, h0, hf⟩ _
    by_cases hl16 : l < 16
    · obtain ⟨a1, e1, k1, hf1, h9, hF1⟩ := rx_fresh (nl := nl) h0 hf
      obtain ⟨b1, e2, k2, hA2, hmu, hma⟩ := rm_all h0.W h0.V
      have h01 := h0.x k1
      simp (disch := omega) only [zb_ltl, zb_llt, zb_eql, zb_leq, nI_ltI, nI_eq, zb_in, nI_clamp, zb_al, zb_la, zb_ml, zb_lm, zb_mul, nI_add, Bool.false_eq_true, reduceCtorEq, Nat.not_lt_zero, cond_true, cond_false, ↓reduceIte, if_true, if_false, Option.toList_some, Option.toList_none, List.nil_append, List.cons_append, Option.bind_some, zb_pl, hjn, show ¬ n < j + 1 by omega, hl16, show ¬ 15 < l by omega, e1, e2]
      rw [ex_108_11, em_239_13, rx_rem h01.W h01.P.2.2]
      have g1 := hF1.1.2.1 (16 * j + l) (by omega)
      have g1' : a1.1 54 (j * 16 + l) = nI (zs_X f n (b.1 92 9) (16 * j + l)) := by rw [show j * 16 + l = 16 * j + l by omega]; exact g1.1
      have g2 := hA2.2.1 (16 * j + l) (by omega)
      have hp : zs_ph f (zs_X f n (b.1 92 9) (16 * j + l)) ≤ 4 := by unfold zs_ph; split <;> omega
      have h4 : (zs_ph f (zs_X f n (b.1 92 9) (16 * j + l)) < 4) ↔ zs_X f n (b.1 92 9) (16 * j + l) < zs_rem f := by unfold zs_ph; split <;> omega
      simp (disch := omega) only [zb_ltl, zb_llt, zb_eql, zb_leq, nI_ltI, nI_eq, zb_in, nI_clamp, zb_al, zb_la, zb_ml, zb_lm, zb_mul, nI_add, Bool.false_eq_true, reduceCtorEq, Nat.not_lt_zero, cond_true, cond_false, ↓reduceIte, if_true, if_false, Option.toList_some, Option.toList_none, List.nil_append, List.cons_append, Option.bind_some, g1', g2.1, h4]
      rw [ex_108_25]
      simp (disch := omega) only [zb_ltl, zb_llt, zb_eql, zb_leq, nI_ltI, nI_eq, zb_in, nI_clamp, zb_al, zb_la, zb_ml, zb_lm, zb_mul, nI_add, Bool.false_eq_true, reduceCtorEq, Nat.not_lt_zero, cond_true, cond_false, ↓reduceIte, if_true, if_false, Option.toList_some, Option.toList_none, List.nil_append, List.cons_append, Option.bind_some]
      have hz := zR.of h0 k1 hf1 (k2.cm rfl rfl)
      by_cases hc : zs_X f n (b.1 92 9) (16 * j + l) < zs_rem f
      · rw [if_pos hc, if_pos hc, show zs_ph f (zs_X f n (b.1 92 9) (16 * j + l)) = zs_X f n (b.1 92 9) (16 * j + l) from if_pos hc]
        exact zC.same hz _
      · rw [if_neg hc, if_neg hc]
        exact zC.same hz _
    · simp (disch := omega) only [zb_ltl, zb_llt, zb_eql, zb_leq, nI_ltI, nI_eq, zb_in, nI_clamp, zb_al, zb_la, zb_ml, zb_lm, zb_mul, nI_add, Bool.false_eq_true, reduceCtorEq, Nat.not_lt_zero, cond_true, cond_false, ↓reduceIte, if_true, if_false, Option.toList_some, Option.toList_none, List.nil_append, List.cons_append, Option.bind_some, zb_pl, hjn, show ¬ n < j + 1 by omega, hl16, show 15 < l by omega]
      exact zC.same ⟨f, n, nu, w, h0, hf⟩ _
  · simp (disch := omega) only [zb_ltl, zb_llt, zb_eql, zb_leq, nI_ltI, nI_eq, zb_in, nI_clamp, zb_al, zb_la, zb_ml, zb_lm, zb_mul, nI_add, Bool.false_eq_true, reduceCtorEq, Nat.not_lt_zero, cond_true, cond_false, ↓reduceIte, if_true, if_false, Option.toList_some, Option.toList_none, List.nil_append, List.cons_append, Option.bind_some, zb_pl, hjn, show n < j + 1 by omega]
    exact zC.same ⟨f, n, nu, w, h0, hf⟩ _
theorem zc_may (x y : Int32) (h : zR a b) : zC (zx nl 109 0 [z_r 0, z_i x, z_i y] [] a) (zm 240 0 [z_r 91, z_i x, z_i y] [] b) := by
  obtain ⟨f, n, nu, w, h0, hf⟩ := h
  have hn := h0.W.le
  rw [ex_109_0, em_240_0, h0.V.sz h0.W, show a.1 3 0 = nI n from h0.P.1.1]
  rcases zb_sgn x with hx | ⟨j, hj, rfl⟩
  · simp only [hx, Bool.false_eq_true, reduceCtorEq, Nat.not_lt_zero, cond_true, cond_false, ↓reduceIte, if_true, if_false, Option.toList_some, Option.toList_none, List.nil_append, List.cons_append, Option.bind_some]
    exact zC.same ⟨f, n, nu, w, h0, hf⟩ _
  by_cases hjn : j < n
  · rcases zb_sgn y with hy | ⟨l, hl, rfl⟩
    · simp (disch := omega) only [zb_ltl, zb_llt, zb_eql, zb_leq, nI_ltI, nI_eq, zb_in, nI_clamp, zb_al, zb_la, zb_ml, zb_lm, zb_mul, nI_add, Bool.false_eq_true, reduceCtorEq, Nat.not_lt_zero, cond_true, cond_false, ↓reduceIte, if_true, if_false, Option.toList_some, Option.toList_none, List.nil_append, List.cons_append, Option.bind_some, zb_pl, hjn, show ¬ n < j + 1 by omega, hy]
      exact zC.same ⟨f, n, nu, w, h0, hf⟩ _
    by_cases hl16 : l < 16
    · obtain ⟨a1, e1, k1, hf1, h9, hF1⟩ := rx_fresh (nl := nl) h0 hf
      obtain ⟨b1, e2, k2, hA2, hmu, hma⟩ := rm_all h0.W h0.V
      simp (disch := omega) only [zb_ltl, zb_llt, zb_eql, zb_leq, nI_ltI, nI_eq, zb_in, nI_clamp, zb_al, zb_la, zb_ml, zb_lm, zb_mul, nI_add, Bool.false_eq_true, reduceCtorEq, Nat.not_lt_zero, cond_true, cond_false, ↓reduceIte, if_true, if_false, Option.toList_some, Option.toList_none, List.nil_append, List.cons_append, Option.bind_some, zb_pl, hjn, show ¬ n < j + 1 by omega, hl16, show ¬ 15 < l by omega, e1, e2]
      rw [ex_109_11, em_240_13]
      simp (disch := omega) only [zb_ltl, zb_llt, zb_eql, zb_leq, nI_ltI, nI_eq, zb_in, nI_clamp, zb_al, zb_la, zb_ml, zb_lm, zb_mul, nI_add, Bool.false_eq_true, reduceCtorEq, Nat.not_lt_zero, cond_true, cond_false, ↓reduceIte, if_true, if_false, Option.toList_some, Option.toList_none, List.nil_append, List.cons_append, Option.bind_some, (hF1.1.2.2 j hjn).1, hA2.2.2.1 j hjn]
      exact zC.same (zR.of h0 k1 hf1 (k2.cm rfl rfl)) _
    · simp (disch := omega) only [zb_ltl, zb_llt, zb_eql, zb_leq, nI_ltI, nI_eq, zb_in, nI_clamp, zb_al, zb_la, zb_ml, zb_lm, zb_mul, nI_add, Bool.false_eq_true, reduceCtorEq, Nat.not_lt_zero, cond_true, cond_false, ↓reduceIte, if_true, if_false, Option.toList_some, Option.toList_none, List.nil_append, List.cons_append, Option.bind_some, zb_pl, hjn, show ¬ n < j + 1 by omega, hl16, show 15 < l by omega]
      exact zC.same ⟨f, n, nu, w, h0, hf⟩ _
  · simp (disch := omega) only [zb_ltl, zb_llt, zb_eql, zb_leq, nI_ltI, nI_eq, zb_in, nI_clamp, zb_al, zb_la, zb_ml, zb_lm, zb_mul, nI_add, Bool.false_eq_true, reduceCtorEq, Nat.not_lt_zero, cond_true, cond_false, ↓reduceIte, if_true, if_false, Option.toList_some, Option.toList_none, List.nil_append, List.cons_append, Option.bind_some, zb_pl, hjn, show n < j + 1 by omega]
    exact zC.same ⟨f, n, nu, w, h0, hf⟩ _
end ZcBound
