/-! ===== calls: blocks ===== -/
def zs_fe (f : zF) (n k e : Nat) : Bool := decide ((zs_E f n e).2 = k) && !decide ((zs_E f n e).1 = k - 1)
def zs_fb (f : zF) (n k : Nat) : Bool := decide (k = 0) || (zs_un (f (12 + 4 * (k - 1))) (nI 3) || zs_any (zs_fe f n k) (zs_B f n n))
section ZcBlocks
variable {nl : Int32} {a b : zd_D} {f : zF} {n w : Nat} {nu : Nat → Nat}
theorem rx_starts (hW : zW f n) (hP : zAP a f n) {k : Nat} (hk : k < n) : zx nl 105 0 [z_r 3, z_i (nI k), none] [] a = some (some (.inl (if zs_fb f n k = true then 1 else 0)), a) := by
  have hn := hW.le
  have hB := zs_B812 (f := f) hn (Nat.le_refl n)
  have h37 : a.1 3 7 = nI (zs_B f n n) := hP.2.1.1
  rw [ex_105_0]
  unfold zs_fb
  by_cases h0 : k = 0
  · subst h0
    rfl
  · simp (disch := omega) only [zb_ltl, zb_llt, zb_eql, zb_leq, nI_ltI, nI_eq, zb_in, nI_clamp, zb_al, zb_la, zb_ml, zb_lm, zb_mul, nI_add, Bool.false_eq_true, reduceCtorEq, Nat.not_lt_zero, cond_true, cond_false, ↓reduceIte, if_true, if_false, Option.toList_some, Option.toList_none, List.nil_append, List.cons_append, Option.bind_some, h0, decide_false, Bool.false_or]
    rw [zb_pred (by omega)]
    have g1 : a.1 4 (k - 1) = f (12 + 4 * (k - 1)) := (hP.1.2 (k - 1) (by omega)).1
    have hu : zx nl 46 0 [z_i (f (12 + 4 * (k - 1))), z_i 3, none, none] [] a = some (some (.inl (if zs_un (f (12 + 4 * (k - 1))) (nI 3) = true then 1 else 0)), a) := rx_under (hW.2.2.2 (k - 1) (by omega)).1.kinds (by decide)
    simp (disch := omega) only [zb_ltl, zb_llt, zb_eql, zb_leq, nI_ltI, nI_eq, zb_in, nI_clamp, zb_al, zb_la, zb_ml, zb_lm, zb_mul, nI_add, Bool.false_eq_true, reduceCtorEq, Nat.not_lt_zero, cond_true, cond_false, ↓reduceIte, if_true, if_false, Option.toList_some, Option.toList_none, List.nil_append, List.cons_append, Option.bind_some, g1, hu]
    rw [ex_105_10]
    simp only [zb_fl0]
    cases hun : zs_un (f (12 + 4 * (k - 1))) (nI 3) with
    | true => simp only [Bool.false_eq_true, reduceCtorEq, Nat.not_lt_zero, cond_true, cond_false, ↓reduceIte, if_true, if_false, Option.toList_some, Option.toList_none, List.nil_append, List.cons_append, Option.bind_some, Bool.true_or]
    | false =>
      simp only [Bool.false_eq_true, reduceCtorEq, Nat.not_lt_zero, cond_true, cond_false, ↓reduceIte, if_true, if_false, Option.toList_some, Option.toList_none, List.nil_append, List.cons_append, Option.bind_some, Bool.false_or]
      have step : ∀ e, e < zs_B f n n → zx nl 105 16 [z_r 3, z_i (nI k), z_i (nI e)] [] a = if zs_fe f n k e = true then some (some (.inl 1), a) else zx nl 105 16 [z_r 3, z_i (nI k), z_i (nI (e + 1))] [] a := by
        intro e he
        have p1 : a.1 11 e = nI (zs_E f n e).1 := (hP.2.1.2.2 e he).1
        have p2 : a.1 12 e = nI (zs_E f n e).2 := (hP.2.1.2.2 e he).2
        obtain ⟨l1, l2⟩ := zs_Elt he
        rw [ex_105_16, zb_pred (by omega)]
        simp (disch := omega) only [zb_ltl, zb_llt, zb_eql, zb_leq, nI_ltI, nI_eq, zb_in, nI_clamp, zb_al, zb_la, zb_ml, zb_lm, zb_mul, nI_add, Bool.false_eq_true, reduceCtorEq, Nat.not_lt_zero, cond_true, cond_false, ↓reduceIte, if_true, if_false, Option.toList_some, Option.toList_none, List.nil_append, List.cons_append, Option.bind_some, h37, he, p1, p2]
        unfold zs_fe
        by_cases c1 : (zs_E f n e).2 = k
        · simp only [c1, Bool.false_eq_true, reduceCtorEq, Nat.not_lt_zero, cond_true, cond_false, ↓reduceIte, if_true, if_false, Option.toList_some, Option.toList_none, List.nil_append, List.cons_append, Option.bind_some, decide_true, Bool.true_and]
          by_cases c2 : (zs_E f n e).1 = k - 1
          · simp only [c2, Bool.false_eq_true, reduceCtorEq, Nat.not_lt_zero, cond_true, cond_false, ↓reduceIte, if_true, if_false, Option.toList_some, Option.toList_none, List.nil_append, List.cons_append, Option.bind_some, decide_true, Bool.not_true]
          · simp only [c2, Bool.false_eq_true, reduceCtorEq, Nat.not_lt_zero, cond_true, cond_false, ↓reduceIte, if_true, if_false, Option.toList_some, Option.toList_none, List.nil_append, List.cons_append, Option.bind_some, decide_false, Bool.not_false]
        · simp only [c1, Bool.false_eq_true, reduceCtorEq, Nat.not_lt_zero, cond_true, cond_false, ↓reduceIte, if_true, if_false, Option.toList_some, Option.toList_none, List.nil_append, List.cons_append, Option.bind_some, decide_false, Bool.false_and]
      cases hany : zs_any (zs_fe f n k) (zs_B f n n) with
      | true =>
        obtain ⟨e, he, hl⟩ := pk_least (fun e => e < zs_B f n n ∧ zs_fe f n k e = true) (zs_any_iff.mp hany)
        have := zl_eq (G := fun e => zx nl 105 16 [z_r 3, z_i (nI k), z_i (nI e)] [] a) (n := e) (fun j hj => by
          try dsimp only
          rw [step j (by omega), if_neg (fun q => hl j hj ⟨by omega, q⟩)]) e (Nat.le_refl _)
        refine Eq.trans this ?_
        try dsimp only
        rw [step e he.1, if_pos he.2]
        rfl
      | false =>
        have := zl_eq (G := fun e => zx nl 105 16 [z_r 3, z_i (nI k), z_i (nI e)] [] a) (n := zs_B f n n) (fun j hj => by
          try dsimp only
          rw [step j hj, if_neg (fun q => by
            have := zs_any_iff.mpr ⟨j, hj, q⟩
            rw [hany] at this
            cases this)]) _ (Nat.le_refl _)
        refine Eq.trans this ?_
        try dsimp only
        rw [ex_105_16, h37, if_neg (nI_nlt (Nat.le_refl _) (by omega))]
        rfl
theorem rm_first (hW : zW f n) (hV : zV 92 b f) (hE : zME b f n) {k : Nat} (hk : k < n) : zm 220 0 [z_r 91, z_i (nI k), none, none] [] b = some (some (.inl (if zs_fb f n k = true then 1 else 0)), b) := by
  have hn := hW.le
  have hB := zs_B812 (f := f) hn (Nat.le_refl n)
  have loop : ∀ fl : Bool, zm 220 17 [z_r 91, z_i (nI k), z_i (if fl = true then 1 else 0), z_i 0] [] b = some (some (.inl (if (fl || zs_any (zs_fe f n k) (zs_B f n n)) = true then 1 else 0)), b) ∨ (k = 0 ∧ fl = false) := by
    intro fl
    by_cases hkf : k = 0 ∧ fl = false
    · exact Or.inr hkf
    left
    have := zl_eq (G := fun e => zm 220 17 [z_r 91, z_i (nI k), z_i (if (fl || zs_any (zs_fe f n k) e) = true then 1 else 0), z_i (nI e)] [] b) (n := zs_B f n n) (by
      intro e he
      try dsimp only
      obtain ⟨q1, q2⟩ := hE.2.1 e he
      obtain ⟨l1, l2⟩ := zs_Elt he
      rw [em_220_17, hE.1, nI_clamp (n := e) (by omega), q1, q2]
      have hs : zs_any (zs_fe f n k) (e + 1) = (zs_any (zs_fe f n k) e || zs_fe f n k e) := rfl
      simp (disch := omega) only [zb_ltl, zb_llt, zb_eql, zb_leq, nI_ltI, nI_eq, zb_in, nI_clamp, zb_al, zb_la, zb_ml, zb_lm, zb_mul, nI_add, Bool.false_eq_true, reduceCtorEq, Nat.not_lt_zero, cond_true, cond_false, ↓reduceIte, if_true, if_false, Option.toList_some, Option.toList_none, List.nil_append, List.cons_append, Option.bind_some, he, zb_fl0]
      cases hfl : (fl || zs_any (zs_fe f n k) e) with
      | true =>
        have : (fl || zs_any (zs_fe f n k) (e + 1)) = true := by rw [hs, ← Bool.or_assoc, hfl, Bool.true_or]
        simp only [this, Bool.false_eq_true, reduceCtorEq, Nat.not_lt_zero, cond_true, cond_false, ↓reduceIte, if_true, if_false, Option.toList_some, Option.toList_none, List.nil_append, List.cons_append, Option.bind_some]
      | false =>
        have hf1 : fl = false := (Bool.or_eq_false_iff.mp hfl).1
        have hk0 : ¬ k = 0 := fun q => hkf ⟨q, hf1⟩
        have : (fl || zs_any (zs_fe f n k) (e + 1)) = zs_fe f n k e := by rw [hs, ← Bool.or_assoc, hfl, Bool.false_or]
        rw [this, zb_pred (by omega)]
        simp (disch := omega) only [zb_ltl, zb_llt, zb_eql, zb_leq, nI_ltI, nI_eq, zb_in, nI_clamp, zb_al, zb_la, zb_ml, zb_lm, zb_mul, nI_add, Bool.false_eq_true, reduceCtorEq, Nat.not_lt_zero, cond_true, cond_false, ↓reduceIte, if_true, if_false, Option.toList_some, Option.toList_none, List.nil_append, List.cons_append, Option.bind_some]
        unfold zs_fe
        by_cases c1 : (zs_E f n e).2 = k
        · simp only [c1, Bool.false_eq_true, reduceCtorEq, Nat.not_lt_zero, cond_true, cond_false, ↓reduceIte, if_true, if_false, Option.toList_some, Option.toList_none, List.nil_append, List.cons_append, Option.bind_some, decide_true, Bool.true_and]
          by_cases c2 : (zs_E f n e).1 = k - 1
          · simp only [c2, Bool.false_eq_true, reduceCtorEq, Nat.not_lt_zero, cond_true, cond_false, ↓reduceIte, if_true, if_false, Option.toList_some, Option.toList_none, List.nil_append, List.cons_append, Option.bind_some, decide_true, Bool.not_true]
          · simp only [c2, Bool.false_eq_true, reduceCtorEq, Nat.not_lt_zero, cond_true, cond_false, ↓reduceIte, if_true, if_false, Option.toList_some, Option.toList_none, List.nil_append, List.cons_append, Option.bind_some, decide_false, Bool.not_false]
        · simp only [c1, Bool.false_eq_true, reduceCtorEq, Nat.not_lt_zero, cond_true, cond_false, ↓reduceIte, if_true, if_false, Option.toList_some, Option.toList_none, List.nil_append, List.cons_append, Option.bind_some, decide_false, Bool.false_and]) _ (Nat.le_refl _)
    rw [show zs_any (zs_fe f n k) 0 = false from rfl, Bool.or_false] at this
    refine Eq.trans this ?_
    try dsimp only
    rw [em_220_17, hE.1, if_neg (nI_nlt (Nat.le_refl _) (by omega)), zb_rt]
  rw [em_220_0]
  unfold zs_fb
  by_cases h0 : k = 0
  · subst h0
    rcases loop true with q | q
    · have q : zm 220 17 [z_r 91, z_i (nI 0), z_i 1, z_i 0] [] b = some (some (.inl 1), b) := by rw [Bool.true_or] at q; exact q
      rw [if_pos (show nI 0 = 0 from rfl), q]
      rfl
    · cases q.2
  · simp (disch := omega) only [zb_ltl, zb_llt, zb_eql, zb_leq, nI_ltI, nI_eq, zb_in, nI_clamp, zb_al, zb_la, zb_ml, zb_lm, zb_mul, nI_add, Bool.false_eq_true, reduceCtorEq, Nat.not_lt_zero, cond_true, cond_false, ↓reduceIte, if_true, if_false, Option.toList_some, Option.toList_none, List.nil_append, List.cons_append, Option.bind_some, h0, decide_false, Bool.false_or]
    rw [zb_pred (by omega)]
    have hu : zm 209 0 [z_i (f (12 + 4 * (k - 1))), z_i 3] [] b = some (some (.inl (if zs_un (f (12 + 4 * (k - 1))) (nI 3) = true then 1 else 0)), b) := rm_under (hW.2.2.2 (k - 1) (by omega)).1.kinds (by decide)
    simp (disch := omega) only [zb_ltl, zb_llt, zb_eql, zb_leq, nI_ltI, nI_eq, zb_in, nI_clamp, zb_al, zb_la, zb_ml, zb_lm, zb_mul, nI_add, Bool.false_eq_true, reduceCtorEq, Nat.not_lt_zero, cond_true, cond_false, ↓reduceIte, if_true, if_false, Option.toList_some, Option.toList_none, List.nil_append, List.cons_append, Option.bind_some, hV.o0 hW (show k - 1 < n by omega), hu]
    rw [em_220_9]
    simp only [zb_fl0]
    cases hun : zs_un (f (12 + 4 * (k - 1))) (nI 3) with
    | true =>
      rcases loop true with q | q
      · rw [if_neg (by decide)]; exact q
      · cases q.2
    | false =>
      rcases loop false with q | q
      · rw [if_pos rfl]; exact q
      · exact absurd q.1 h0
theorem rm_blocks (hW : zW f n) (hV : zV 92 b f) : ∃ b', zm 219 0 [z_r 91, none, none] [] b = some (some (.inl (nI (zs_cnt (zs_fb f n) n))), b') ∧ zK 91 [98, 99, 100] [15] b b' ∧ zME b' f n := by
  have hn := hW.le
  obtain ⟨b1, e1, k1, hE⟩ := rm_edges hW hV
  have hV1 := hV.k k1 (by decide) rfl
  rw [em_219_0, e1]
  simp only [Bool.false_eq_true, reduceCtorEq, Nat.not_lt_zero, cond_true, cond_false, ↓reduceIte, if_true, if_false, Option.toList_some, Option.toList_none, List.nil_append, List.cons_append, Option.bind_some]
  rw [em_219_2]
  have := zl_eq (G := fun k => zm 219 7 [z_r 91, z_i (nI (zs_cnt (zs_fb f n) k)), z_i (nI k)] [] b1) (n := n) (by
    intro k hk
    try dsimp only
    rw [em_219_7, hV1.sz hW]
    simp (disch := omega) only [zb_ltl, zb_llt, zb_eql, zb_leq, nI_ltI, nI_eq, zb_in, nI_clamp, zb_al, zb_la, zb_ml, zb_lm, zb_mul, nI_add, Bool.false_eq_true, reduceCtorEq, Nat.not_lt_zero, cond_true, cond_false, ↓reduceIte, if_true, if_false, Option.toList_some, Option.toList_none, List.nil_append, List.cons_append, Option.bind_some, hk, rm_first hW hV1 hE hk]
    rw [em_219_17]
    simp only [zb_fl0, zs_cnt]
    cases zs_fb f n k with
    | true => simp only [Bool.false_eq_true, reduceCtorEq, Nat.not_lt_zero, cond_true, cond_false, ↓reduceIte, if_true, if_false, Option.toList_some, Option.toList_none, List.nil_append, List.cons_append, Option.bind_some, zb_al]
    | false => simp only [Bool.false_eq_true, reduceCtorEq, Nat.not_lt_zero, cond_true, cond_false, ↓reduceIte, if_true, if_false, Option.toList_some, Option.toList_none, List.nil_append, List.cons_append, Option.bind_some, zb_al, Nat.add_zero]) n (Nat.le_refl n)
  refine ⟨b1, Eq.trans this ?_, k1, hE⟩
  try dsimp only
  rw [em_219_7, hV1.sz hW, if_neg (nI_nlt (Nat.le_refl _) (by omega))]
theorem zc_blocks (h : zR a b) : zC (zx nl 104 0 [z_r 0, none, none] [] a) (zm 219 0 [z_r 91, none, none] [] b) := by
  obtain ⟨f, n, nu, w, h0, hf⟩ := h
  have hn := h0.W.le
  obtain ⟨b1, e1, k1, hE⟩ := rm_blocks h0.W h0.V
  have h30 : a.1 3 0 = nI n := h0.P.1.1
  rw [ex_104_0, e1]
  have := zl_eq (G := fun k => zx nl 104 5 [z_r 0, z_i (nI (zs_cnt (zs_fb f n) k)), z_i (nI k)] [] a) (n := n) (by
    intro k hk
    try dsimp only
    rw [ex_104_5, h30]
    simp (disch := omega) only [zb_ltl, zb_llt, zb_eql, zb_leq, nI_ltI, nI_eq, zb_in, nI_clamp, zb_al, zb_la, zb_ml, zb_lm, zb_mul, nI_add, Bool.false_eq_true, reduceCtorEq, Nat.not_lt_zero, cond_true, cond_false, ↓reduceIte, if_true, if_false, Option.toList_some, Option.toList_none, List.nil_append, List.cons_append, Option.bind_some, hk, rx_starts h0.W h0.P hk]
    rw [ex_104_16]
    simp only [zb_fl0, zs_cnt]
    cases zs_fb f n k with
    | true => simp only [Bool.false_eq_true, reduceCtorEq, Nat.not_lt_zero, cond_true, cond_false, ↓reduceIte, if_true, if_false, Option.toList_some, Option.toList_none, List.nil_append, List.cons_append, Option.bind_some, zb_al]
    | false => simp only [Bool.false_eq_true, reduceCtorEq, Nat.not_lt_zero, cond_true, cond_false, ↓reduceIte, if_true, if_false, Option.toList_some, Option.toList_none, List.nil_append, List.cons_append, Option.bind_some, zb_al, Nat.add_zero]) n (Nat.le_refl n)
  refine ⟨_, a, b1, Eq.trans this ?_, rfl, zR.m (k1.cm rfl rfl) ⟨f, n, nu, w, h0, hf⟩⟩
  try dsimp only
  rw [ex_104_5, h30, if_neg (nI_nlt (Nat.le_refl _) (by omega))]
/-- the first order of a block, in the class -/
theorem rx_bstart (hW : zW f n) (hP : zAP a f n) {j : Nat} (hj : j < 2 ^ 31) : (∀ k, k < n → zs_fb f n k = true → zs_cnt (zs_fb f n) k = j → zx nl 107 0 [z_r 3, z_i (nI j), none, none] [] a = some (some (.inl (nI k)), a)) ∧ (zs_cnt (zs_fb f n) n ≤ j → zx nl 107 0 [z_r 3, z_i (nI j), none, none] [] a = some (some (.inl (nI n)), a)) := by
  have hn := hW.le
  have h30 : a.1 3 0 = nI n := hP.1.1
  rw [ex_107_0]
  have step : ∀ k, k < n → zx nl 107 5 [z_r 3, z_i (nI j), z_i (nI (zs_cnt (zs_fb f n) k)), z_i (nI k)] [] a = if zs_fb f n k = true ∧ zs_cnt (zs_fb f n) k = j then some (some (.inl (nI k)), a) else zx nl 107 5 [z_r 3, z_i (nI j), z_i (nI (zs_cnt (zs_fb f n) (k + 1))), z_i (nI (k + 1))] [] a := by
    intro k hk
    have hc := zs_cnt_le (zs_fb f n) k
    rw [ex_107_5, h30]
    simp (disch := omega) only [zb_ltl, zb_llt, zb_eql, zb_leq, nI_ltI, nI_eq, zb_in, nI_clamp, zb_al, zb_la, zb_ml, zb_lm, zb_mul, nI_add, Bool.false_eq_true, reduceCtorEq, Nat.not_lt_zero, cond_true, cond_false, ↓reduceIte, if_true, if_false, Option.toList_some, Option.toList_none, List.nil_append, List.cons_append, Option.bind_some, hk, rx_starts hW hP hk]
    rw [ex_107_12]
    simp (disch := omega) only [zb_fl0, zs_cnt, nI_eq, zb_al]
    cases zs_fb f n k with
    | true => simp only [Bool.false_eq_true, reduceCtorEq, Nat.not_lt_zero, cond_true, cond_false, ↓reduceIte, if_true, if_false, Option.toList_some, Option.toList_none, List.nil_append, List.cons_append, Option.bind_some, true_and]
    | false => simp only [Bool.false_eq_true, reduceCtorEq, Nat.not_lt_zero, cond_true, cond_false, ↓reduceIte, if_true, if_false, Option.toList_some, Option.toList_none, List.nil_append, List.cons_append, Option.bind_some, false_and, Nat.add_zero]
  have mono : ∀ k m, k ≤ m → zs_cnt (zs_fb f n) k ≤ zs_cnt (zs_fb f n) m := by
    intro k m h
    induction h with
    | refl => exact Nat.le_refl _
    | step _ ih => exact Nat.le_trans ih (Nat.le_add_right _ _)
  constructor
  · intro k hk hfb hc
    have := zl_eq (G := fun k => zx nl 107 5 [z_r 3, z_i (nI j), z_i (nI (zs_cnt (zs_fb f n) k)), z_i (nI k)] [] a) (n := k) (fun i hi => by
      try dsimp only
      rw [step i (by omega), if_neg (fun q => by
        have h1 := mono (i + 1) k (by omega)
        have h2 : zs_cnt (zs_fb f n) (i + 1) = zs_cnt (zs_fb f n) i + 1 := by
          show zs_cnt (zs_fb f n) i + _ = _
          rw [if_pos q.1]
        omega)]) k (Nat.le_refl _)
    refine Eq.trans this ?_
    try dsimp only
    rw [step k hk, if_pos ⟨hfb, hc⟩]
  · intro hc
    have := zl_eq (G := fun k => zx nl 107 5 [z_r 3, z_i (nI j), z_i (nI (zs_cnt (zs_fb f n) k)), z_i (nI k)] [] a) (n := n) (fun i hi => by
      try dsimp only
      rw [step i hi, if_neg (fun q => by
        have h1 := mono (i + 1) n (by omega)
        have h2 : zs_cnt (zs_fb f n) (i + 1) = zs_cnt (zs_fb f n) i + 1 := by
          show zs_cnt (zs_fb f n) i + _ = _
          rw [if_pos q.1]
        omega)]) n (Nat.le_refl _)
    refine Eq.trans this ?_
    try dsimp only
    rw [ex_107_5, h30, if_neg (nI_nlt (Nat.le_refl _) (by omega))]
theorem zs_cnt_ex {p : Nat → Bool} : ∀ {m j : Nat}, j < zs_cnt p m → ∃ k, k < m ∧ p k = true ∧ zs_cnt p k = j
  | 0, j, h => absurd h (Nat.not_lt_zero _)
  | m + 1, j, h => by
    have h : j < zs_cnt p m + (if p m = true then 1 else 0) := h
    by_cases hj : j < zs_cnt p m
    · obtain ⟨k, h1, h2, h3⟩ := zs_cnt_ex hj
      exact ⟨k, by omega, h2, h3⟩
    · by_cases hp : p m = true
      · rw [if_pos hp] at h
        exact ⟨m, by omega, hp, by omega⟩
      · rw [if_neg hp] at h; omega
set_option maxHeartbeats 1000000 in
theorem zc_block (x y : Int32) (h : zR a b) : zC (zx nl 106 0 [z_r 0, z_i x, z_i y, none] [] a) (zm 221 0 [z_r 91, z_i x, z_i y, none, none, none] [] b) := by
  obtain ⟨f, n, nu, w, h0, hf⟩ := h
  have hn := h0.W.le
  obtain ⟨b1, e1, k1, hE⟩ := rm_blocks h0.W h0.V
  have hz : zR a b1 := zR.m (k1.cm rfl rfl) ⟨f, n, nu, w, h0, hf⟩
  have hV1 := h0.V.k k1 (by decide) rfl
  have h30 : a.1 3 0 = nI n := h0.P.1.1
  have hcn := zs_cnt_le (zs_fb f n) n
  rw [ex_106_0, em_221_0, e1]
  simp only [Bool.false_eq_true, reduceCtorEq, Nat.not_lt_zero, cond_true, cond_false, ↓reduceIte, if_true, if_false, Option.toList_some, Option.toList_none, List.nil_append, List.cons_append, Option.bind_some]
  rw [em_221_4]
  rcases zb_sgn x with hx | ⟨j, hj, rfl⟩
  · simp only [hx, Bool.false_eq_true, reduceCtorEq, Nat.not_lt_zero, cond_true, cond_false, ↓reduceIte, if_true, if_false, Option.toList_some, Option.toList_none, List.nil_append, List.cons_append, Option.bind_some]
    exact zC.same hz _
  simp (disch := omega) only [zb_l0, Bool.false_eq_true, reduceCtorEq, Nat.not_lt_zero, cond_true, cond_false, ↓reduceIte, if_true, if_false, Option.toList_some, Option.toList_none, List.nil_append, List.cons_append, Option.bind_some, zb_pl]
  by_cases hy0 : y < 0
  · simp only [hy0, Bool.false_eq_true, reduceCtorEq, Nat.not_lt_zero, cond_true, cond_false, ↓reduceIte, if_true, if_false, Option.toList_some, Option.toList_none, List.nil_append, List.cons_append, Option.bind_some, ite_self]
    exact zC.same hz _
  by_cases hy1 : 1 < y
  · simp only [hy0, hy1, Bool.false_eq_true, reduceCtorEq, Nat.not_lt_zero, cond_true, cond_false, ↓reduceIte, if_true, if_false, Option.toList_some, Option.toList_none, List.nil_append, List.cons_append, Option.bind_some, ite_self]
    exact zC.same hz _
  simp only [hy0, hy1, Bool.false_eq_true, reduceCtorEq, Nat.not_lt_zero, cond_true, cond_false, ↓reduceIte, if_true, if_false, Option.toList_some, Option.toList_none, List.nil_append, List.cons_append, Option.bind_some]
  by_cases hjc : j < zs_cnt (zs_fb f n) n
  · obtain ⟨k, hk, hfb, hck⟩ := zs_cnt_ex hjc
    rw [(rx_bstart h0.W h0.P hj).1 k hk hfb hck]
    simp (disch := omega) only [Bool.false_eq_true, reduceCtorEq, Nat.not_lt_zero, cond_true, cond_false, ↓reduceIte, if_true, if_false, Option.toList_some, Option.toList_none, List.nil_append, List.cons_append, Option.bind_some, show ¬ zs_cnt (zs_fb f n) n < j + 1 by omega]
    rw [ex_106_14, h30, if_pos (nI_lt hk (by omega))]
    -- the reference comes to the first order
    have mono : ∀ k m, k ≤ m → zs_cnt (zs_fb f n) k ≤ zs_cnt (zs_fb f n) m := by
      intro k m h
      induction h with
      | refl => exact Nat.le_refl _
      | step _ ih => exact Nat.le_trans ih (Nat.le_add_right _ _)
    have hfb0 : zs_fb f n 0 = true := rfl
    have c1 : zs_cnt (zs_fb f n) 1 = 1 := by
      show 0 + (if zs_fb f n 0 = true then 1 else 0) = 1
      rw [if_pos hfb0]
    have hck1 : zs_cnt (zs_fb f n) (k + 1) = j + 1 := by
      show zs_cnt (zs_fb f n) k + _ = _
      rw [if_pos hfb, hck]
    have hleft : ∀ i, i < k → zs_cnt (zs_fb f n) (i + 1) ≤ j := fun i hi => by rw [← hck]; exact mono _ _ hi
    have goR := zl_eq (G := fun i => zm 221 20 [z_r 91, none, z_i y, z_i (nI (j + 1 - zs_cnt (zs_fb f n) (i + 1))), z_i (nI i), none] [] b1) (n := k) (by
      intro i hi
      try dsimp only
      have hl := hleft i hi
      rw [em_221_20]
      simp (disch := omega) only [zb_ltl, zb_llt, zb_eql, zb_leq, nI_ltI, nI_eq, zb_in, nI_clamp, zb_al, zb_la, zb_ml, zb_lm, zb_mul, nI_add, Bool.false_eq_true, reduceCtorEq, Nat.not_lt_zero, cond_true, cond_false, ↓reduceIte, if_true, if_false, Option.toList_some, Option.toList_none, List.nil_append, List.cons_append, Option.bind_some, show 0 < j + 1 - zs_cnt (zs_fb f n) (i + 1) by omega, rm_first h0.W hV1 hE (show i + 1 < n by omega)]
      rw [em_221_27]
      simp only [zb_fl0]
      have hs : zs_cnt (zs_fb f n) (i + 1 + 1) = zs_cnt (zs_fb f n) (i + 1) + (if zs_fb f n (i + 1) = true then 1 else 0) := rfl
      cases hfi : zs_fb f n (i + 1) with
      | true =>
        rw [hfi, if_pos rfl] at hs
        rw [hs, if_neg (by decide), zb_sl1 _ (by omega), show j + 1 - zs_cnt (zs_fb f n) (i + 1) - OfNat.ofNat 1 = j + 1 - (zs_cnt (zs_fb f n) (i + 1) + 1) from Nat.sub_sub _ _ _]
      | false =>
        have hs' : zs_cnt (zs_fb f n) (i + 1 + 1) = zs_cnt (zs_fb f n) (i + 1) := by rw [hs, hfi]; rfl
        rw [hs', if_pos rfl, Int32.sub_zero]) k (Nat.le_refl _)
    try dsimp only at goR
    rw [hck1, Nat.sub_self, c1, Nat.add_sub_cancel] at goR
    rw [show zm 221 20 [z_r 91, none, z_i y, z_i (nI j), z_i 0, none] [] b1 = _ from goR, em_221_20, if_neg (show ¬ (0 : Int32) < nI 0 by decide)]
    -- the last order: up to the next first one
    obtain ⟨m, ⟨hm1, hm2⟩, hml⟩ := pk_least (fun m => k < m ∧ (m = n ∨ zs_fb f n m = true)) ⟨n, hk, Or.inl rfl⟩
    have hmn : m ≤ n := by
      apply Classical.byContradiction
      intro hc
      exact hml n (by omega) ⟨hk, Or.inl rfl⟩
    have hno : ∀ i, k < i → i < m → i < n ∧ zs_fb f n i = false := fun i q1 q2 => ⟨by omega, by
      cases hfi : zs_fb f n i with
      | false => rfl
      | true => exact absurd ⟨q1, Or.inr hfi⟩ (hml i q2)⟩
    have goL := zl_eqf (G := fun i => zm 221 37 [z_r 91, none, z_i y, none, z_i (nI k), z_i (nI i)] [] b1) (show k ≤ m - 1 by omega) (fun i q1 q2 => by
      try dsimp only
      obtain ⟨p1, p2⟩ := hno (i + 1) (by omega) (by omega)
      rw [em_221_37, hV1.sz h0.W]
      simp (disch := omega) only [zb_ltl, zb_llt, zb_eql, zb_leq, nI_ltI, nI_eq, zb_in, nI_clamp, zb_al, zb_la, zb_ml, zb_lm, zb_mul, nI_add, Bool.false_eq_true, reduceCtorEq, Nat.not_lt_zero, cond_true, cond_false, ↓reduceIte, if_true, if_false, Option.toList_some, Option.toList_none, List.nil_append, List.cons_append, Option.bind_some, p1, rm_first h0.W hV1 hE p1]
      rw [em_221_50]
      simp only [zb_fl0, p2, Bool.false_eq_true, reduceCtorEq, Nat.not_lt_zero, cond_true, cond_false, ↓reduceIte, if_true, if_false, Option.toList_some, Option.toList_none, List.nil_append, List.cons_append, Option.bind_some, zb_al])
    try dsimp only at goL
    have hend : zm 221 37 [z_r 91, none, z_i y, none, z_i (nI k), z_i (nI (m - 1))] [] b1 = if y = 0 then some (some (.inl (nI k)), b1) else some (some (.inl (nI (m - 1))), b1) := by
      rw [em_221_37, hV1.sz h0.W]
      simp (disch := omega) only [zb_ltl, zb_llt, zb_eql, zb_leq, nI_ltI, nI_eq, zb_in, nI_clamp, zb_al, zb_la, zb_ml, zb_lm, zb_mul, nI_add, show m - 1 + 1 = m by omega]
      by_cases hmn2 : m < n
      · have hfm : zs_fb f n m = true := hm2.elim (fun q => by omega) id
        simp only [hmn2, Bool.false_eq_true, reduceCtorEq, Nat.not_lt_zero, cond_true, cond_false, ↓reduceIte, if_true, if_false, Option.toList_some, Option.toList_none, List.nil_append, List.cons_append, Option.bind_some, rm_first h0.W hV1 hE hmn2]
        rw [em_221_50, hfm]
        simp only [Bool.false_eq_true, reduceCtorEq, Nat.not_lt_zero, cond_true, cond_false, ↓reduceIte, if_true, if_false, Option.toList_some, Option.toList_none, List.nil_append, List.cons_append, Option.bind_some, show ¬ (1 : Int32) = 0 by decide]
      · simp only [hmn2, Bool.false_eq_true, reduceCtorEq, Nat.not_lt_zero, cond_true, cond_false, ↓reduceIte, if_true, if_false, Option.toList_some, Option.toList_none, List.nil_append, List.cons_append, Option.bind_some]
    rw [goL, hend]
    by_cases hy : y = 0
    · rw [if_pos hy, if_pos hy]
      exact zC.same hz _
    · rw [if_neg hy, if_neg hy]
      have hcd : ∀ d, k + 1 + d ≤ m → zs_cnt (zs_fb f n) (k + 1 + d) = j + 1 := by
        intro d
        induction d with
        | zero => intro _; exact hck1
        | succ d ih =>
          intro q2
          have := ih (by omega)
          show zs_cnt (zs_fb f n) (k + 1 + d) + (if zs_fb f n (k + 1 + d) = true then 1 else 0) = _
          rw [this, (hno (k + 1 + d) (by omega) (by omega)).2]
          rfl
      have hcm : ∀ i, k + 1 ≤ i → i ≤ m → zs_cnt (zs_fb f n) i = j + 1 := fun i q1 q2 => by
        have := hcd (i - (k + 1)) (by omega)
        rw [show k + 1 + (i - (k + 1)) = i by omega] at this
        exact this
      have nxt : zx nl 107 0 [z_r 3, z_i (nI j + 1), none, none] [] a = some (some (.inl (nI m)), a) := by
        rw [zb_al]
        by_cases hmn2 : m < n
        · exact (rx_bstart h0.W h0.P (show j + 1 < 2 ^ 31 by omega)).1 m hmn2 (hm2.elim (fun q => by omega) id) (hcm m (by omega) (Nat.le_refl _))
        · have : m = n := by omega
          rw [this] at hcm ⊢
          exact (rx_bstart h0.W h0.P (show j + 1 < 2 ^ 31 by omega)).2 (Nat.le_of_eq (hcm n (by omega) (Nat.le_refl _)))
      rw [nxt]
      simp only [Bool.false_eq_true, reduceCtorEq, Nat.not_lt_zero, cond_true, cond_false, ↓reduceIte, if_true, if_false, Option.toList_some, Option.toList_none, List.nil_append, List.cons_append, Option.bind_some]
      rw [ex_106_34, zb_pred (by omega)]
      exact zC.same hz _
  · rw [(rx_bstart h0.W h0.P hj).2 (by omega)]
    simp (disch := omega) only [Bool.false_eq_true, reduceCtorEq, Nat.not_lt_zero, cond_true, cond_false, ↓reduceIte, if_true, if_false, Option.toList_some, Option.toList_none, List.nil_append, List.cons_append, Option.bind_some, show zs_cnt (zs_fb f n) n < j + 1 by omega]
    rw [ex_106_14, h30, if_neg (nI_nlt (Nat.le_refl _) (by omega))]
    exact zC.same hz _
end ZcBlocks
