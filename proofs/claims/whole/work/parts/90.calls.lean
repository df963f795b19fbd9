/-! ===== calls: order, lock, work, count ===== -/
section ZcOrd2
variable {nl : Int32} {a b : zd_D} {f : zF} {n w : Nat} {nu : Nat → Nat}
theorem rx_line {k : Int32} (hk : k = 0 ∨ k = 1 ∨ k = 2 ∨ k = 3 ∨ k = 4 ∨ k = 5 ∨ k = 6 ∨ k = 7) (y z : Int32) : zx nl 45 0 [z_i k, z_i y, z_i z] [] a = some (some (.inl (zs_line k y z)), a) := by
  have hu : zx nl 46 0 [z_i k, z_i 1, none, none] [] a = some (some (.inl (if zs_un k (nI 1) = true then 1 else 0)), a) := rx_under hk (by decide)
  rw [ex_45_0, hu]
  simp only [Bool.false_eq_true, reduceCtorEq, Nat.not_lt_zero, cond_true, cond_false, ↓reduceIte, if_true, if_false, Option.toList_some, Option.toList_none, List.nil_append, List.cons_append, Option.bind_some]
  rw [ex_45_3]
  simp only [zb_fl0]
  unfold zs_line
  have hc : ∀ k : Int32, zs_un k (nI 1) = decide (k = 1 ∨ k = 2) := by
    intro k
    unfold zs_un
    by_cases h1 : k = 1
    · subst h1; rfl
    · by_cases h2 : k = 2
      · subst h2; rfl
      · have h1' : ¬ k = nI 1 := h1
        simp only [h1, h2, h1', decide_false, or_self, Bool.and_false, Bool.or_false, show ¬ nI 1 = 0 by decide, show ¬ nI 1 = 3 by decide, show ¬ nI 1 = 4 by decide, show ¬ nI 1 = 5 by decide, Bool.false_and]
  rw [hc]
  by_cases hk2 : k = 1 ∨ k = 2
  · simp only [hk2, decide_true, Bool.false_eq_true, reduceCtorEq, Nat.not_lt_zero, cond_true, cond_false, ↓reduceIte, if_true, if_false, Option.toList_some, Option.toList_none, List.nil_append, List.cons_append, Option.bind_some]
    by_cases h4 : y = 4
    · rw [if_pos h4, if_pos h4]
    · rw [if_neg h4, if_neg h4]
  · simp only [hk2, decide_false, Bool.false_eq_true, reduceCtorEq, Nat.not_lt_zero, cond_true, cond_false, ↓reduceIte, if_true, if_false, Option.toList_some, Option.toList_none, List.nil_append, List.cons_append, Option.bind_some]
theorem zc_order (k x y z : Int32) (h : zR a b) : zC (zx nl 40 0 [z_r 0, z_i k, z_i x, z_i y, z_i z] [] a) (zm 182 0 [z_r 91, z_i k, z_i x, z_i y, z_i z, none] [] b) := by
  have hz := h
  obtain ⟨f, n, nu, w, h0, hf⟩ := h
  have hn := h0.W.le
  rw [ex_40_0, rx_right, em_182_0, rm_right]
  simp only [Bool.false_eq_true, reduceCtorEq, Nat.not_lt_zero, cond_true, cond_false, ↓reduceIte, if_true, if_false, Option.toList_some, Option.toList_none, List.nil_append, List.cons_append, Option.bind_some]
  rw [ex_40_5, em_182_5]
  simp only [zb_fl0]
  by_cases hok : zs_okb k x y z = true
  · have hg := zs_okb_good hok
    simp only [hok, Bool.false_eq_true, reduceCtorEq, Nat.not_lt_zero, cond_true, cond_false, ↓reduceIte, if_true, if_false, Option.toList_some, Option.toList_none, List.nil_append, List.cons_append, Option.bind_some]
    rw [h0.V.sz h0.W, show a.1 3 0 = nI n from h0.P.1.1]
    by_cases h28 : n < 28
    · simp (disch := omega) only [zb_ltl, zb_llt, zb_eql, zb_leq, nI_ltI, nI_eq, zb_in, nI_clamp, zb_al, zb_la, zb_ml, zb_lm, zb_mul, nI_add, Bool.false_eq_true, reduceCtorEq, Nat.not_lt_zero, cond_true, cond_false, ↓reduceIte, if_true, if_false, Option.toList_some, Option.toList_none, List.nil_append, List.cons_append, Option.bind_some, h28, show ¬ n = 28 by omega]
      rw [ex_44_0, show a.1 3 0 = nI n from h0.P.1.1]
      simp (disch := omega) only [zb_ltl, zb_llt, zb_eql, zb_leq, nI_ltI, nI_eq, zb_in, nI_clamp, zb_al, zb_la, zb_ml, zb_lm, zb_mul, nI_add, Bool.false_eq_true, reduceCtorEq, Nat.not_lt_zero, cond_true, cond_false, ↓reduceIte, if_true, if_false, Option.toList_some, Option.toList_none, List.nil_append, List.cons_append, Option.bind_some, rx_line hg.kinds]
      rw [ex_44_38]
      simp (disch := omega) only [zb_ltl, zb_llt, zb_eql, zb_leq, nI_ltI, nI_eq, zb_in, nI_clamp, zb_al, zb_la, zb_ml, zb_lm, zb_mul, nI_add, Bool.false_eq_true, reduceCtorEq, Nat.not_lt_zero, cond_true, cond_false, ↓reduceIte, if_true, if_false, Option.toList_some, Option.toList_none, List.nil_append, List.cons_append, Option.bind_some]
      -- the new row
      have hlow : ∀ (g : zF), g = (fun i => if i = 8 then nI (n + 1) else if i = 12 + 4 * n then k else if i = 13 + 4 * n then x else if i = 14 + 4 * n then y else if i = 15 + 4 * n then z else if i = 124 + n then 0 else f i) → (g 8 = nI (n + 1)) ∧ (∀ i, i < 8 → g i = f i) ∧ (g (12 + 4 * n) = k ∧ g (13 + 4 * n) = x ∧ g (14 + 4 * n) = y ∧ g (15 + 4 * n) = z ∧ g (124 + n) = 0) ∧ (∀ j, j < n → g (12 + 4 * j) = f (12 + 4 * j) ∧ g (13 + 4 * j) = f (13 + 4 * j) ∧ g (14 + 4 * j) = f (14 + 4 * j) ∧ g (15 + 4 * j) = f (15 + 4 * j) ∧ g (124 + j) = f (124 + j)) := by
        rintro g rfl
        refine ⟨if_pos rfl, fun i hi => ?_, ⟨?_, ?_, ?_, ?_, ?_⟩, fun j hj => ⟨?_, ?_, ?_, ?_, ?_⟩⟩ <;> (try dsimp only)
        · rw [if_neg (by omega), if_neg (by omega), if_neg (by omega), if_neg (by omega), if_neg (by omega), if_neg (by omega)]
        · rw [if_neg (by omega), if_pos rfl]
        · rw [if_neg (by omega), if_neg (by omega), if_pos rfl]
        · rw [if_neg (by omega), if_neg (by omega), if_neg (by omega), if_pos rfl]
        · rw [if_neg (by omega), if_neg (by omega), if_neg (by omega), if_neg (by omega), if_pos rfl]
        · rw [if_neg (by omega), if_neg (by omega), if_neg (by omega), if_neg (by omega), if_neg (by omega), if_pos rfl]
        · rw [if_neg (by omega), if_neg (by omega), if_neg (by omega), if_neg (by omega), if_neg (by omega), if_neg (by omega)]
        · rw [if_neg (by omega), if_neg (by omega), if_neg (by omega), if_neg (by omega), if_neg (by omega), if_neg (by omega)]
        · rw [if_neg (by omega), if_neg (by omega), if_neg (by omega), if_neg (by omega), if_neg (by omega), if_neg (by omega)]
        · rw [if_neg (by omega), if_neg (by omega), if_neg (by omega), if_neg (by omega), if_neg (by omega), if_neg (by omega)]
        · rw [if_neg (by omega), if_neg (by omega), if_neg (by omega), if_neg (by omega), if_neg (by omega), if_neg (by omega)]
      obtain ⟨g, hgd⟩ : ∃ g : zF, g = (fun i => if i = 8 then nI (n + 1) else if i = 12 + 4 * n then k else if i = 13 + 4 * n then x else if i = 14 + 4 * n then y else if i = 15 + 4 * n then z else if i = 124 + n then 0 else f i) := ⟨_, rfl⟩
      obtain ⟨l1, l2, ⟨l3, l4, l5, l6, l7⟩, l8⟩ := hlow g hgd
      have hW : zW g (n + 1) := by
        obtain ⟨q1, q2, q3, q4⟩ := h0.W
        refine ⟨l1, by omega, zs_mach_c l2 q3, fun j hj => ?_⟩
        by_cases hjn : j = n
        · subst hjn
          rw [l3, l4, l5, l6, l7]
          exact ⟨hg, 0, by decide, rfl⟩
        · obtain ⟨e1, e2, e3, e4, e5⟩ := l8 j (by omega)
          rw [e1, e2, e3, e4, e5]
          exact q4 j (by omega)
      have hcell : ∀ c i, (zd_u (zd_u (zd_u (zd_u (zd_u (zd_u (zd_u a 4 n k) 5 n x) 6 n y) 7 n z) 8 n 0) 9 n (zs_line k y z)) 3 0 (nI (n + 1))).1 c i = if c = 3 ∧ i = 0 then nI (n + 1) else if c = 9 ∧ i = n then zs_line k y z else if c = 8 ∧ i = n then 0 else if c = 7 ∧ i = n then z else if c = 6 ∧ i = n then y else if c = 5 ∧ i = n then x else if c = 4 ∧ i = n then k else a.1 c i := fun c i => by
        rw [zb_u, zb_u, zb_u, zb_u, zb_u, zb_u, zb_u]
      have h30 : (zd_u (zd_u (zd_u (zd_u (zd_u a 4 n k) 5 n x) 6 n y) 7 n z) 8 n 0).1 3 0 = nI n := by
        rw [zb_uc _ _ _ _ (by decide), zb_uc _ _ _ _ (by decide), zb_uc _ _ _ _ (by decide), zb_uc _ _ _ _ (by decide), zb_uc _ _ _ _ (by decide)]
        exact h0.P.1.1
      have h928 : (zd_u (zd_u (zd_u (zd_u (zd_u b 92 (12 + 4 * n) k) 92 (12 + 4 * n + 1) x) 92 (12 + 4 * n + 2) y) 92 (12 + 4 * n + 3) z) 92 (124 + n) 0).1 92 8 = nI n := by
        rw [zb_ui _ _ _ _ (by omega), zb_ui _ _ _ _ (by omega), zb_ui _ _ _ _ (by omega), zb_ui _ _ _ _ (by omega), zb_ui _ _ _ _ (by omega)]
        exact h0.V.sz h0.W
      rw [h30, h928, zb_al]
      have hmc : ∀ i, (zd_u (zd_u (zd_u (zd_u (zd_u (zd_u b 92 (12 + 4 * n) k) 92 (12 + 4 * n + 1) x) 92 (12 + 4 * n + 2) y) 92 (12 + 4 * n + 3) z) 92 (124 + n) 0) 92 8 (nI (n + 1))).1 92 i = if i = 8 then nI (n + 1) else if i = 124 + n then 0 else if i = 12 + 4 * n + 3 then z else if i = 12 + 4 * n + 2 then y else if i = 12 + 4 * n + 1 then x else if i = 12 + 4 * n then k else b.1 92 i := fun i => by
        rw [zb_u, zb_u, zb_u, zb_u, zb_u, zb_u]
        simp only [true_and]
      obtain ⟨a1, b1, e1, e2, e3, hz1⟩ := zx_reprog (nl := nl) (f' := g) (n' := n + 1) (a0 := zd_u (zd_u (zd_u (zd_u (zd_u (zd_u (zd_u a 4 n k) 5 n x) 6 n y) 7 n z) 8 n 0) 9 n (zs_line k y z)) 3 0 (nI (n + 1))) (b0 := zd_u (zd_u (zd_u (zd_u (zd_u (zd_u b 92 (12 + 4 * n) k) 92 (12 + 4 * n + 1) x) 92 (12 + 4 * n + 2) y) 92 (12 + 4 * n + 3) z) 92 (124 + n) 0) 92 8 (nI (n + 1))) h0.1 h0.2 hf.2.2 hW
        (fun c q => by rw [zb_uc _ _ _ _ (by omega), zb_uc _ _ _ _ (by omega), zb_uc _ _ _ _ (by omega), zb_uc _ _ _ _ (by omega), zb_uc _ _ _ _ (by omega), zb_uc _ _ _ _ (by omega), zb_uc _ _ _ _ (by omega)]) rfl
        ⟨zb_ue _ _ _ _, fun j hj => by
          rw [hcell, hcell, hcell, hcell, hcell, hcell]
          simp only [show ¬ (3 + 1 = 3) by decide, show ¬ (3 + 1 = 9) by decide, show ¬ (3 + 1 = 8) by decide, show ¬ (3 + 1 = 7) by decide, show ¬ (3 + 1 = 6) by decide, show ¬ (3 + 1 = 5) by decide, show (3 + 1 = 4) by decide, show ¬ (3 + 2 = 3) by decide, show ¬ (3 + 2 = 9) by decide, show ¬ (3 + 2 = 8) by decide, show ¬ (3 + 2 = 7) by decide, show ¬ (3 + 2 = 6) by decide, show (3 + 2 = 5) by decide, show ¬ (3 + 2 = 4) by decide, show ¬ (3 + 3 = 3) by decide, show ¬ (3 + 3 = 9) by decide, show ¬ (3 + 3 = 8) by decide, show ¬ (3 + 3 = 7) by decide, show (3 + 3 = 6) by decide, show ¬ (3 + 3 = 5) by decide, show ¬ (3 + 3 = 4) by decide, show ¬ (3 + 4 = 3) by decide, show ¬ (3 + 4 = 9) by decide, show ¬ (3 + 4 = 8) by decide, show (3 + 4 = 7) by decide, show ¬ (3 + 4 = 6) by decide, show ¬ (3 + 4 = 5) by decide, show ¬ (3 + 4 = 4) by decide, show ¬ (3 + 5 = 3) by decide, show ¬ (3 + 5 = 9) by decide, show (3 + 5 = 8) by decide, show ¬ (3 + 5 = 7) by decide, show ¬ (3 + 5 = 6) by decide, show ¬ (3 + 5 = 5) by decide, show ¬ (3 + 5 = 4) by decide, show ¬ (3 + 6 = 3) by decide, show (3 + 6 = 9) by decide, show ¬ (3 + 6 = 8) by decide, show ¬ (3 + 6 = 7) by decide, show ¬ (3 + 6 = 6) by decide, show ¬ (3 + 6 = 5) by decide, show ¬ (3 + 6 = 4) by decide, false_and, true_and, if_false]
          unfold zs_ln
          by_cases hjn : j = n
          · subst hjn
            rw [l3, l4, l5, l6, l7]
            simp only [if_true, and_self]
          · obtain ⟨e1, e2, e3, e4, e5⟩ := l8 j (by omega)
            rw [e1, e2, e3, e4, e5]
            simp only [hjn, if_false]
            exact h0.P.1.2 j (by omega)⟩
        l2 (fun c q => by rw [zb_uc _ _ _ _ q, zb_uc _ _ _ _ q, zb_uc _ _ _ _ q, zb_uc _ _ _ _ q, zb_uc _ _ _ _ q, zb_uc _ _ _ _ q])
        (fun i hi => by rw [hmc, if_neg (by omega), if_neg (by omega), if_neg (by omega), if_neg (by omega), if_neg (by omega), if_neg (by omega)])
        (fun i q1 q2 q3 => by
          rw [hmc, hgd]
          (try dsimp only)
          by_cases c1 : i = 8
          · rw [if_pos c1, if_pos c1]
          rw [if_neg c1, if_neg c1]
          by_cases c2 : i = 124 + n
          · rw [if_pos c2, if_neg (by omega), if_neg (by omega), if_neg (by omega), if_neg (by omega), if_pos c2]
          rw [if_neg c2]
          by_cases c3 : i = 12 + 4 * n + 3
          · rw [if_pos c3, if_neg (by omega), if_neg (by omega), if_neg (by omega), if_pos (by omega)]
          rw [if_neg c3]
          by_cases c4 : i = 12 + 4 * n + 2
          · rw [if_pos c4, if_neg (by omega), if_neg (by omega), if_pos (by omega)]
          rw [if_neg c4]
          by_cases c5 : i = 12 + 4 * n + 1
          · rw [if_pos c5, if_neg (by omega), if_pos (by omega)]
          rw [if_neg c5]
          by_cases c6 : i = 12 + 4 * n
          · rw [if_pos c6, if_pos c6]
          rw [if_neg c6, if_neg c6, if_neg (by omega), if_neg (by omega), if_neg (by omega), if_neg (by omega)]
          exact h0.V i q1 q2 q3)
      rw [e1, e2]
      simp only [Bool.false_eq_true, reduceCtorEq, Nat.not_lt_zero, cond_true, cond_false, ↓reduceIte, if_true, if_false, Option.toList_some, Option.toList_none, List.nil_append, List.cons_append, Option.bind_some]
      rw [ex_44_47, em_182_80]
      simp only [Bool.false_eq_true, reduceCtorEq, Nat.not_lt_zero, cond_true, cond_false, ↓reduceIte, if_true, if_false, Option.toList_some, Option.toList_none, List.nil_append, List.cons_append, Option.bind_some]
      rw [ex_40_24, e3, nI_pred]
      exact ⟨_, _, _, rfl, rfl, hz1⟩
    · simp (disch := omega) only [zb_ltl, zb_llt, zb_eql, zb_leq, nI_ltI, nI_eq, zb_in, nI_clamp, zb_al, zb_la, zb_ml, zb_lm, zb_mul, nI_add, Bool.false_eq_true, reduceCtorEq, Nat.not_lt_zero, cond_true, cond_false, ↓reduceIte, if_true, if_false, Option.toList_some, Option.toList_none, List.nil_append, List.cons_append, Option.bind_some, h28, show n = 28 by omega]
      simp (disch := omega) only [zb_ltl, zb_llt, zb_eql, zb_leq, nI_ltI, nI_eq, zb_in, nI_clamp, zb_al, zb_la, zb_ml, zb_lm, zb_mul, nI_add, Bool.false_eq_true, reduceCtorEq, Nat.not_lt_zero, cond_true, cond_false, ↓reduceIte, if_true, if_false, Option.toList_some, Option.toList_none, List.nil_append, List.cons_append, Option.bind_some, Nat.lt_irrefl]
      exact zC.same hz _
  · simp only [hok, Bool.false_eq_true, reduceCtorEq, Nat.not_lt_zero, cond_true, cond_false, ↓reduceIte, if_true, if_false, Option.toList_some, Option.toList_none, List.nil_append, List.cons_append, Option.bind_some]
    exact zC.same hz _
theorem zb_bits {x m : Int32} {q : Nat} (hq : q < 32) (hm : m.toBitVec = BitVec.twoPow 32 q) : (x.toBitVec.getLsbD q = true → x ||| m = x ∧ x &&& (m ^^^ (-1)) = x ^^^ m) ∧ (x.toBitVec.getLsbD q = false → x ||| m = x ^^^ m ∧ x &&& (m ^^^ (-1)) = x) := by
  have e : (-1 : Int32).toBitVec = BitVec.allOnes 32 := by decide
  have key : ∀ y z : Int32, (∀ i, i < 32 → y.toBitVec.getLsbD i = z.toBitVec.getLsbD i) → y = z := fun y z h => Int32.toBitVec_inj.1 (BitVec.eq_of_getLsbD_eq h)
  constructor
  · intro hb
    constructor
    · refine key _ _ fun i hi => ?_
      rw [Int32.toBitVec_or, BitVec.getLsbD_or, hm, BitVec.getLsbD_twoPow]
      by_cases hiq : q = i
      · subst hiq; rw [hb]; rfl
      · simp [hiq]
    · refine key _ _ fun i hi => ?_
      rw [Int32.toBitVec_and, Int32.toBitVec_xor, Int32.toBitVec_xor, BitVec.getLsbD_and, BitVec.getLsbD_xor, BitVec.getLsbD_xor, hm, e, BitVec.getLsbD_twoPow, BitVec.getLsbD_allOnes]
      by_cases hiq : q = i
      · subst hiq; simp [hb, hi]
      · simp [hiq, hi]
  · intro hb
    constructor
    · refine key _ _ fun i hi => ?_
      rw [Int32.toBitVec_or, Int32.toBitVec_xor, BitVec.getLsbD_or, BitVec.getLsbD_xor, hm, BitVec.getLsbD_twoPow]
      by_cases hiq : q = i
      · subst hiq; rw [hb]; simp [hi]
      · simp [hiq]
    · refine key _ _ fun i hi => ?_
      rw [Int32.toBitVec_and, Int32.toBitVec_xor, BitVec.getLsbD_and, BitVec.getLsbD_xor, hm, e, BitVec.getLsbD_twoPow, BitVec.getLsbD_allOnes]
      by_cases hiq : q = i
      · subst hiq; rw [hb]; rfl
      · simp [hiq, hi]
theorem zd_same (d : zd_D) (c i : Nat) : zd_u d c i (d.1 c i) = d := by
  refine Prod.ext (funext fun k => funext fun j => ?_) rfl
  rw [zb_u]
  by_cases h : k = c ∧ j = i
  · rw [if_pos h, h.1, h.2]
  · rw [if_neg h]
theorem zb_xor (a b : Nat) : nI a ^^^ nI b = nI (a ^^^ b) := by
  apply Int32.toBitVec_inj.1
  show BitVec.ofNat 32 a ^^^ BitVec.ofNat 32 b = BitVec.ofNat 32 (a ^^^ b)
  apply BitVec.eq_of_getLsbD_eq
  intro i hi
  simp [hi]
theorem zc_lock (x y : Int32) (h : zR a b) : zC (zx nl 38 0 [z_r 0, z_i x, z_i y, none] [] a) (zm 181 0 [z_r 91, z_i x, z_i y, none] [] b) := by
  have hz := h
  obtain ⟨f, n, nu, w, h0, hf⟩ := h
  rw [ex_38_0, em_181_0]
  rcases zb_sgn x with hx | ⟨j, hj, rfl⟩
  · simp only [hx, Bool.false_eq_true, reduceCtorEq, Nat.not_lt_zero, cond_true, cond_false, ↓reduceIte, if_true, if_false, Option.toList_some, Option.toList_none, List.nil_append, List.cons_append, Option.bind_some]
    exact zC.same hz _
  by_cases h16 : j < 16
  · rcases zb_sgn y with hy | ⟨l, hl, rfl⟩
    · simp (disch := omega) only [zb_ltl, zb_llt, zb_eql, zb_leq, nI_ltI, nI_eq, zb_in, nI_clamp, zb_al, zb_la, zb_ml, zb_lm, zb_mul, nI_add, Bool.false_eq_true, reduceCtorEq, Nat.not_lt_zero, cond_true, cond_false, ↓reduceIte, if_true, if_false, Option.toList_some, Option.toList_none, List.nil_append, List.cons_append, Option.bind_some, h16, show ¬ 15 < j by omega, hy]
      exact zC.same hz _
    by_cases hl1 : 1 < l
    · simp (disch := omega) only [zb_ltl, zb_llt, zb_eql, zb_leq, nI_ltI, nI_eq, zb_in, nI_clamp, zb_al, zb_la, zb_ml, zb_lm, zb_mul, nI_add, Bool.false_eq_true, reduceCtorEq, Nat.not_lt_zero, cond_true, cond_false, ↓reduceIte, if_true, if_false, Option.toList_some, Option.toList_none, List.nil_append, List.cons_append, Option.bind_some, h16, show ¬ 15 < j by omega, hl1]
      exact zC.same hz _
    obtain ⟨t1, ⟨r, hr, t2⟩, t3⟩ := h0.1.L
    have hm : ((1 : Int32) <<< (nI j &&& 31)).toBitVec = BitVec.twoPow 32 j := by
      rw [zb_1s (by omega)]
      apply BitVec.eq_of_getLsbD_eq
      intro i hi
      show (BitVec.ofNat 32 (2 ^ j)).getLsbD i = _
      rw [BitVec.getLsbD_ofNat, BitVec.getLsbD_twoPow, Nat.testBit_two_pow, decide_eq_true hi, decide_eq_true (show j < 32 by omega)]
    have hbit : (nI r).toBitVec.getLsbD j = r.testBit j := by
      show (BitVec.ofNat 32 r).getLsbD j = _
      rw [BitVec.getLsbD_ofNat]
      simp [show j < 32 by omega]
    obtain ⟨B1, B2⟩ := zb_bits (x := nI r) (show j < 32 by omega) hm
    have hxor : nI r ^^^ ((1 : Int32) <<< (nI j &&& 31)) = nI (r ^^^ 2 ^ j) := by rw [zb_1s (by omega), zb_xor]
    have hxl : r ^^^ 2 ^ j < 65536 := Nat.xor_lt_two_pow (n := 16) hr (zb_2p h16)
    -- the locks are others
    have fin : zR (zd_u (zd_u (zd_u a 1 4 (nI (r ^^^ 2 ^ j))) 0 9 0) 0 10 0) (zd_u b 92 9 (nI (r ^^^ 2 ^ j))) := by
      obtain ⟨⟨s1, s2, s3, s4, s5, s6, s7, -, s9⟩, hrr⟩ := h0
      have hrr : zRr a b := hrr
      have kk : ∀ c, ¬ c = 1 → ¬ c = 0 → (zd_u (zd_u (zd_u a 1 4 (nI (r ^^^ 2 ^ j))) 0 9 0) 0 10 0).1 c = a.1 c := fun c q1 q2 => by rw [zb_uc _ _ _ _ q2, zb_uc _ _ _ _ q2, zb_uc _ _ _ _ q1]
      refine zR.mk2 (f := f) (n := n) (nu := nu) (w := w) ⟨s1, s2.u (Or.inr (Or.inl rfl)) _, by rw [kk (1 + 1) (by decide) (by decide)]; exact s3, s4.c (fun k q1 q2 => kk k (by omega) (by omega)), s5.c (kk _ (by decide) (by decide)) (kk _ (by decide) (by decide)) (kk _ (by decide) (by decide)) (kk _ (by decide) (by decide)), s6.c (kk _ (by decide) (by decide)), s7.u (by omega) _, ⟨?_, ?_, fun i hi => ?_⟩, (s9.c (kk _ (by decide) (by decide)) (kk _ (by decide) (by decide)) (kk _ (by decide) (by decide))).bu (by omega) _⟩ ((((hrr.xs (by decide) _ _).x0 (by decide) _).x0 (by decide) _).m92 _ _) (zR_f.no ?_ (zb_ue _ _ _ _) (hf.2.2.x (kk _ (by decide) (by decide)) rfl))
      · rw [zb_uc _ _ _ _ (by decide), zb_uc _ _ _ _ (by decide), zb_ue, zb_ue]
      · rw [zb_ue]; exact ⟨_, hxl, rfl⟩
      · rw [kk (1 + 13) (by decide) (by decide), zb_ui _ _ _ _ (by omega)]; exact t3 i hi
      · rw [zb_ui _ _ _ _ (by decide), zb_ue]
    have hsame : zd_u b 92 9 (nI r) = b := by rw [← t2]; exact zd_same b 92 9
    have hbt : (nI r >>> (nI j &&& 31)) &&& 1 = nI (r / 2 ^ j % 2) := zb_bit (by omega) (by omega)
    have htb : r.testBit j = decide (r / 2 ^ j % 2 = 1) := Nat.testBit_eq_decide_div_mod_eq
    simp (disch := omega) only [zb_ltl, zb_llt, zb_eql, zb_leq, nI_ltI, nI_eq, zb_in, nI_clamp, zb_al, zb_la, zb_ml, zb_lm, zb_mul, nI_add, Bool.false_eq_true, reduceCtorEq, Nat.not_lt_zero, cond_true, cond_false, ↓reduceIte, if_true, if_false, Option.toList_some, Option.toList_none, List.nil_append, List.cons_append, Option.bind_some, h16, show ¬ 15 < j by omega, hl1, t1, t2, hxor]
    rw [hbt]
    have hl' : l = 0 ∨ l = 1 := by omega
    rcases hl' with rfl | rfl
    · simp (disch := omega) only [zb_ltl, zb_llt, zb_eql, zb_leq, nI_ltI, nI_eq, zb_in, nI_clamp, zb_al, zb_la, zb_ml, zb_lm, zb_mul, nI_add, Bool.false_eq_true, reduceCtorEq, Nat.not_lt_zero, cond_true, cond_false, ↓reduceIte, if_true, if_false, Option.toList_some, Option.toList_none, List.nil_append, List.cons_append, Option.bind_some, show ¬ (0 : Nat) = 1 by decide]
      by_cases hb : r / 2 ^ j % 2 = 0
      · have hbf : (nI r).toBitVec.getLsbD j = false := by rw [hbit, htb, hb]; rfl
        rw [(B2 hbf).2, hsame, if_pos hb]
        exact zC.same hz _
      · have hbf : (nI r).toBitVec.getLsbD j = true := by rw [hbit, htb, decide_eq_true_iff]; omega
        rw [(B1 hbf).2, hxor, if_neg hb]
        exact ⟨_, _, _, rfl, rfl, fin⟩
    · simp (disch := omega) only [zb_ltl, zb_llt, zb_eql, zb_leq, nI_ltI, nI_eq, zb_in, nI_clamp, zb_al, zb_la, zb_ml, zb_lm, zb_mul, nI_add, Bool.false_eq_true, reduceCtorEq, Nat.not_lt_zero, cond_true, cond_false, ↓reduceIte, if_true, if_false, Option.toList_some, Option.toList_none, List.nil_append, List.cons_append, Option.bind_some]
      by_cases hb : r / 2 ^ j % 2 = 1
      · have hbf : (nI r).toBitVec.getLsbD j = true := by rw [hbit, htb, hb]; rfl
        rw [(B1 hbf).1, hsame, if_pos hb]
        exact zC.same hz _
      · have hbf : (nI r).toBitVec.getLsbD j = false := by rw [hbit, htb, decide_eq_false_iff_not]; exact hb
        rw [(B2 hbf).1, hxor, if_neg hb]
        exact ⟨_, _, _, rfl, rfl, fin⟩
  · simp (disch := omega) only [zb_ltl, zb_llt, zb_eql, zb_leq, nI_ltI, nI_eq, zb_in, nI_clamp, zb_al, zb_la, zb_ml, zb_lm, zb_mul, nI_add, Bool.false_eq_true, reduceCtorEq, Nat.not_lt_zero, cond_true, cond_false, ↓reduceIte, if_true, if_false, Option.toList_some, Option.toList_none, List.nil_append, List.cons_append, Option.bind_some, h16, show 15 < j by omega]
    exact zC.same hz _
theorem zc_work (x y : Int32) (h : zR a b) : zC (zx nl 134 0 [z_r 0, z_i x, z_i y] [] a) (zm 258 0 [z_r 91, z_i x, z_i y] [] b) := by
  have hz := h
  obtain ⟨f, n, nu, w, h0, hf⟩ := h
  obtain ⟨⟨w1, w2, w3⟩, w4⟩ := h0.1.K
  have w1 : a.1 15 0 = nI w := w1
  rw [ex_134_0, em_258_0]
  by_cases hx1 : x < 1
  · simp only [hx1, Bool.false_eq_true, reduceCtorEq, Nat.not_lt_zero, cond_true, cond_false, ↓reduceIte, if_true, if_false, Option.toList_some, Option.toList_none, List.nil_append, List.cons_append, Option.bind_some]; exact zC.same hz _
  by_cases hx2 : 9999 < x
  · simp only [hx1, hx2, Bool.false_eq_true, reduceCtorEq, Nat.not_lt_zero, cond_true, cond_false, ↓reduceIte, if_true, if_false, Option.toList_some, Option.toList_none, List.nil_append, List.cons_append, Option.bind_some]; exact zC.same hz _
  by_cases hy1 : y < 1
  · simp only [hx1, hx2, hy1, Bool.false_eq_true, reduceCtorEq, Nat.not_lt_zero, cond_true, cond_false, ↓reduceIte, if_true, if_false, Option.toList_some, Option.toList_none, List.nil_append, List.cons_append, Option.bind_some]; exact zC.same hz _
  by_cases hy2 : 9999 < y
  · simp only [hx1, hx2, hy1, hy2, Bool.false_eq_true, reduceCtorEq, Nat.not_lt_zero, cond_true, cond_false, ↓reduceIte, if_true, if_false, Option.toList_some, Option.toList_none, List.nil_append, List.cons_append, Option.bind_some]; exact zC.same hz _
  have num : ∀ z : Int32, ¬ z < 1 → ¬ 9999 < z → ∃ r, 1 ≤ r ∧ r ≤ 9999 ∧ z = nI r := by
    intro z h1 h2
    have h0 : ¬ z < 0 := fun q => h1 (by rw [Int32.lt_iff_toInt_lt] at q ⊢; rw [show (0 : Int32).toInt = 0 by decide] at q; rw [show (1 : Int32).toInt = 1 by decide]; omega)
    obtain ⟨j, hj, rfl⟩ := zb_nat h0
    rw [zb_ltl 1 hj (by decide)] at h1
    rw [zb_llt 9999 hj (by decide)] at h2
    exact ⟨j, Nat.le_of_not_lt h1, Nat.le_of_not_lt h2, rfl⟩
  simp only [hx1, hx2, hy1, hy2, Bool.false_eq_true, reduceCtorEq, Nat.not_lt_zero, cond_true, cond_false, ↓reduceIte, if_true, if_false, Option.toList_some, Option.toList_none, List.nil_append, List.cons_append, Option.bind_some, w1, w2]
  by_cases h8 : w < 8
  · simp (disch := omega) only [zb_ltl, zb_llt, zb_eql, zb_leq, nI_ltI, nI_eq, zb_in, nI_clamp, zb_al, zb_la, zb_ml, zb_lm, zb_mul, nI_add, Bool.false_eq_true, reduceCtorEq, Nat.not_lt_zero, cond_true, cond_false, ↓reduceIte, if_true, if_false, Option.toList_some, Option.toList_none, List.nil_append, List.cons_append, Option.bind_some, h8, show ¬ w = 8 by omega]
    rw [em_258_32, zb_ui _ _ _ _ (by omega), w2]
    simp (disch := omega) only [zb_ltl, zb_llt, zb_eql, zb_leq, nI_ltI, nI_eq, zb_in, nI_clamp, zb_al, zb_la, zb_ml, zb_lm, zb_mul, nI_add, Bool.false_eq_true, reduceCtorEq, Nat.not_lt_zero, cond_true, cond_false, ↓reduceIte, if_true, if_false, Option.toList_some, Option.toList_none, List.nil_append, List.cons_append, Option.bind_some]
    rw [em_258_46, zb_ui _ _ _ _ (by omega), zb_ui _ _ _ _ (by omega), w2]
    simp (disch := omega) only [zb_ltl, zb_llt, zb_eql, zb_leq, nI_ltI, nI_eq, zb_in, nI_clamp, zb_al, zb_la, zb_ml, zb_lm, zb_mul, nI_add, Bool.false_eq_true, reduceCtorEq, Nat.not_lt_zero, cond_true, cond_false, ↓reduceIte, if_true, if_false, Option.toList_some, Option.toList_none, List.nil_append, List.cons_append, Option.bind_some]
    obtain ⟨⟨s1, s2, s3, s4, s5, s6, s7, s8, -⟩, hrr⟩ := h0
    have hrr : zRr a b := hrr
    have kk : ∀ c, ¬ c = 15 → ¬ c = 16 → ¬ c = 17 → (zd_u (zd_u (zd_u a 16 w x) 17 w y) 15 0 (nI (w + 1))).1 c = a.1 c := fun c q1 q2 q3 => by rw [zb_uc _ _ _ _ q1, zb_uc _ _ _ _ q3, zb_uc _ _ _ _ q2]
    refine ⟨_, _, _, rfl, rfl, zR.mk2 (f := f) (n := n) (nu := nu) (w := w + 1) ⟨s1, ((s2.u (Or.inl (by omega)) _).u (Or.inl (by omega)) _).u (Or.inr (Or.inr rfl)) _, by rw [kk (1 + 1) (by decide) (by decide) (by decide)]; exact s3, s4.c (fun k q1 q2 => kk k (by omega) (by omega) (by omega)), s5.c (kk _ (by decide) (by decide) (by decide)) (kk _ (by decide) (by decide) (by decide)) (kk _ (by decide) (by decide) (by decide)) (kk _ (by decide) (by decide) (by decide)), s6.c (kk _ (by decide) (by decide) (by decide)), ((s7.u (by omega) _).u (by omega) _).u (by omega) _, (((s8.c (kk _ (by decide) (by decide) (by decide)) (kk _ (by decide) (by decide) (by decide))).bu (by omega) _).bu (by omega) _).bu (by omega) _, ⟨⟨zb_ue _ _ _ _, zb_ue _ _ _ _, by omega⟩, fun i hi => ?_⟩⟩ ((((((hrr.xs (by decide) _ _).xs (by decide) _ _).xs (by decide) _ _).m92 _ _).m92 _ _).m92 _ _) ?_⟩
    · have ha : ∀ c, c = 16 ∨ c = 17 → (zd_u (zd_u (zd_u a 16 w x) 17 w y) 15 0 (nI (w + 1))).1 c i = if c = 17 ∧ i = w then y else if c = 16 ∧ i = w then x else a.1 c i := fun c hc => by
        rw [zb_uc _ _ _ _ (by omega), zb_u, zb_u]
      rw [show (1 : Nat) + 15 = 16 from rfl, show (1 : Nat) + 16 = 17 from rfl, ha 16 (by omega), ha 17 (by omega)]
      have hbm : ∀ k, ¬ k = 10 → (zd_u (zd_u (zd_u b 92 (184 + 2 * w) x) 92 (184 + 2 * w + 1) y) 92 10 (nI (w + 1))).1 92 k = if k = 184 + 2 * w + 1 then y else if k = 184 + 2 * w then x else b.1 92 k := fun k hk => by
        rw [zb_ui _ _ _ _ hk, zb_u, zb_u]
        simp only [true_and]
      rw [hbm _ (by omega), hbm _ (by omega)]
      by_cases hiw : i = w
      · subst hiw
        simp only [show ¬ (16 = 17) by decide, false_and, true_and, if_true, if_false, show ¬ 184 + 2 * i = 184 + 2 * i + 1 by omega, show 185 + 2 * i = 184 + 2 * i + 1 by omega]
        exact ⟨num x hx1 hx2, num y hy1 hy2⟩
      · simp only [hiw, and_false, if_false, show ¬ 184 + 2 * i = 184 + 2 * w + 1 by omega, show ¬ 184 + 2 * i = 184 + 2 * w by omega, show ¬ 185 + 2 * i = 184 + 2 * w + 1 by omega, show ¬ 185 + 2 * i = 184 + 2 * w by omega]
        exact w4 i (by omega)
    · rw [zb_ui _ _ _ _ (by omega), zb_ui _ _ _ _ (by omega), zb_ui _ _ _ _ (by omega)]
      exact ((hf.xs (by decide) _ _).xs (by decide) _ _).xs (by decide) _ _
  · simp (disch := omega) only [zb_ltl, zb_llt, zb_eql, zb_leq, nI_ltI, nI_eq, zb_in, nI_clamp, zb_al, zb_la, zb_ml, zb_lm, zb_mul, nI_add, Bool.false_eq_true, reduceCtorEq, Nat.not_lt_zero, cond_true, cond_false, ↓reduceIte, if_true, if_false, Option.toList_some, Option.toList_none, List.nil_append, List.cons_append, Option.bind_some, h8, show w = 8 by omega, Nat.lt_irrefl]
    exact zC.same hz _
theorem zc_count (x : Int32) (h : zR a b) : zC (zx nl 165 0 [z_r 0, z_i x] [] a) (zm 280 0 [z_r 91, z_i x] [] b) := by
  obtain ⟨f, n, nu, w, h0, hf⟩ := h
  obtain ⟨b1, e1, k1, hE⟩ := rm_edges h0.W h0.V
  have h0b := h0.m (k1.cm rfl rfl)
  have hz : zR a b1 := zR.m (k1.cm rfl rfl) ⟨f, n, nu, w, h0, hf⟩
  rw [ex_165_0, em_280_0, e1]
  simp only [Bool.false_eq_true, reduceCtorEq, Nat.not_lt_zero, cond_true, cond_false, ↓reduceIte, if_true, if_false, Option.toList_some, Option.toList_none, List.nil_append, List.cons_append, Option.bind_some]
  rw [em_280_2]
  obtain ⟨t1, ⟨r, hr, t2⟩, t3⟩ := h0b.1.L
  obtain ⟨⟨w1, w2, w3⟩, w4⟩ := h0b.1.K
  obtain ⟨t, ht, p1, p2, p3⟩ := h0b.2.2.1
  obtain ⟨u, hu, q1, q2, q3⟩ := h0b.2.2.2.2.1
  by_cases c0 : x = 0
  · rw [if_pos c0, if_pos c0, h0b.V.sz h0b.W, show a.1 3 0 = nI n from h0.P.1.1]; exact zC.same hz _
  by_cases c1 : x = 1
  · rw [if_neg c0, if_neg c0, if_pos c1, if_pos c1, rx_turns h0.W h0.P, rm_turns h0b.W hE]
    simp only [Bool.false_eq_true, reduceCtorEq, Nat.not_lt_zero, cond_true, cond_false, ↓reduceIte, if_true, if_false, Option.toList_some, Option.toList_none, List.nil_append, List.cons_append, Option.bind_some]
    rw [ex_165_11, em_280_12]; exact zC.same hz _
  by_cases c2 : x = 2
  · rw [if_neg c0, if_neg c0, if_neg c1, if_neg c1, if_pos c2, if_pos c2, rx_told h0.W h0.P h0.N, rm_told h0b.W hE h0b.MN]
    simp only [Bool.false_eq_true, reduceCtorEq, Nat.not_lt_zero, cond_true, cond_false, ↓reduceIte, if_true, if_false, Option.toList_some, Option.toList_none, List.nil_append, List.cons_append, Option.bind_some]
    rw [ex_165_16, em_280_16]; exact zC.same hz _
  by_cases c3 : x = 3
  · rw [if_neg c0, if_neg c0, if_neg c1, if_neg c1, if_neg c2, if_neg c2, if_pos c3, if_pos c3, t1, t2, rx_bits hr, rm_bits hr]
    simp only [Bool.false_eq_true, reduceCtorEq, Nat.not_lt_zero, cond_true, cond_false, ↓reduceIte, if_true, if_false, Option.toList_some, Option.toList_none, List.nil_append, List.cons_append, Option.bind_some]
    rw [ex_165_21, em_280_22]; exact zC.same hz _
  by_cases c4 : x = 4
  · rw [if_neg c0, if_neg c0, if_neg c1, if_neg c1, if_neg c2, if_neg c2, if_neg c3, if_neg c3, if_pos c4, if_pos c4, show a.1 15 0 = nI w from w1, w2]; exact zC.same hz _
  by_cases c5 : x = 5
  · rw [if_neg c0, if_neg c0, if_neg c1, if_neg c1, if_neg c2, if_neg c2, if_neg c3, if_neg c3, if_neg c4, if_neg c4, if_pos c5, if_pos c5, q1, q2]; exact zC.same hz _
  by_cases c6 : x = 6
  · rw [if_neg c0, if_neg c0, if_neg c1, if_neg c1, if_neg c2, if_neg c2, if_neg c3, if_neg c3, if_neg c4, if_neg c4, if_neg c5, if_neg c5, if_pos c6, if_pos c6, p1, p2]; exact zC.same hz _
  · rw [if_neg c0, if_neg c0, if_neg c1, if_neg c1, if_neg c2, if_neg c2, if_neg c3, if_neg c3, if_neg c4, if_neg c4, if_neg c5, if_neg c5, if_neg c6, if_neg c6]; exact zC.same hz _
end ZcOrd2
