/-! ===== the reference: all of what must and may be there, costs ===== -/
noncomputable def zs_tl (f : zF) (n : Nat) (lk : Int32) (k : Nat) : Int32 := if zs_ln f k < 0 then 2 else if zs_hit f n lk k = true then 0 else if (zs_V f n lk k).testBit (zs_ln f k).toNatClampNeg = false then 1 else 2
def zMA (b : zd_D) (f : zF) (n : Nat) (lk : Int32) : Prop := zME b f n ∧ zMX b f n (zs_X f n lk) ∧ (∀ k, k < n → b.1 114 k = nI (zs_V f n lk k)) ∧ ∀ k, k < n → b.1 115 k = zs_tl f n lk k
/-- what a miss costs -/
def zMs (b : zd_D) (f : zF) (ms : Nat) : Prop := ms < 2000 ∧ ((b.1 91 38 = -1 ∧ f 3 = nI ms) ∨ b.1 91 38 = nI ms)
section RmAll
variable {b b' : zd_D} {f : zF} {n : Nat}
theorem zMA.k {cs fs : List Nat} {lk : Int32} (h : zMA b f n lk) (hk : zK 91 cs fs b b') (h1 : cs.elem 98 = false) (h2 : cs.elem 99 = false) (h3 : cs.elem 100 = false) (h4 : fs.elem 15 = false) (h5 : cs.elem 113 = false) (h6 : cs.elem 114 = false) (h7 : cs.elem 115 = false) : zMA b' f n lk := by
  refine ⟨h.1.k hk h1 h2 h3 h4, h.2.1.k hk h5, ?_, ?_⟩
  · rw [hk.1 114 (by decide) h6]; exact h.2.2.1
  · rw [hk.1 115 (by decide) h7]; exact h.2.2.2
theorem zMs.k {cs fs : List Nat} {ms : Nat} (h : zMs b f ms) (hk : zK 91 cs fs b b') (h1 : fs.elem 38 = false) : zMs b' f ms := by
  unfold zMs
  rw [hk.2.1 38 h1]
  exact h
theorem rm_tells (hW : zW f n) (hV : zV 92 b f) (hX : zMX b f n (zs_X f n (b.1 92 9))) (hM : ∀ k, k < n → b.1 114 k = nI (zs_V f n (b.1 92 9) k)) (hm : zs_may f n (b.1 92 9) (zs_V f n (b.1 92 9))) {k : Nat} (hk : k < n) :
    zm 205 0 [z_r 91, z_i (nI k), none] [] b = some (some (.inl (zs_tl f n (b.1 92 9) k)), b) := by
  have hn := hW.le
  obtain ⟨hr1, hr4⟩ := hW.rem
  rw [em_205_0, rm_line hW hV hk]
  simp only [Bool.false_eq_true, reduceCtorEq, Nat.not_lt_zero, cond_true, cond_false, ↓reduceIte, if_true, if_false, Option.toList_some, Option.toList_none, List.nil_append, List.cons_append, Option.bind_some]
  rw [em_205_3]
  unfold zs_tl zs_hit zs_lk
  rcases zs_ln_cases (hW.2.2.2 k hk).1 with h | h | ⟨q, hq, h⟩
  · simp only [h, show ((-2 : Int32) < 0) by decide, Bool.false_eq_true, reduceCtorEq, Nat.not_lt_zero, cond_true, cond_false, ↓reduceIte, if_true, if_false, Option.toList_some, Option.toList_none, List.nil_append, List.cons_append, Option.bind_some]
  · simp only [h, show ((-1 : Int32) < 0) by decide, Bool.false_eq_true, reduceCtorEq, Nat.not_lt_zero, cond_true, cond_false, ↓reduceIte, if_true, if_false, Option.toList_some, Option.toList_none, List.nil_append, List.cons_append, Option.bind_some]
  · have hx := hX (16 * k + q) (by omega)
    have hv := hm.2.1 k hk
    have h4 : ∀ {y}, (zs_ph f y < 4) ↔ y < zs_rem f := fun {y} => by unfold zs_ph; split <;> omega
    have hp : zs_ph f (zs_X f n (b.1 92 9) (16 * k + q)) ≤ 4 := by unfold zs_ph; split <;> omega
    simp (disch := omega) only [h, zb_l0, zb_ltl, zb_llt, zb_eql, zb_leq, nI_ltI, nI_eq, zb_in, nI_clamp, zb_al, zb_la, zb_ml, zb_lm, zb_mul, nI_add, Bool.false_eq_true, reduceCtorEq, Nat.not_lt_zero, cond_true, cond_false, ↓reduceIte, if_true, if_false, Option.toList_some, Option.toList_none, List.nil_append, List.cons_append, Option.bind_some, hx.1, hM k hk, h4, zb_bit0, not_false_eq_true, decide_true, Bool.true_and]
    by_cases hlk : (b.1 92 9 >>> (nI q &&& 31)) &&& 1 = 1
    · simp only [hlk, Bool.false_eq_true, reduceCtorEq, Nat.not_lt_zero, cond_true, cond_false, ↓reduceIte, if_true, if_false, Option.toList_some, Option.toList_none, List.nil_append, List.cons_append, Option.bind_some, decide_true, Bool.true_or]
    · simp only [hlk, Bool.false_eq_true, reduceCtorEq, Nat.not_lt_zero, cond_true, cond_false, ↓reduceIte, if_true, if_false, Option.toList_some, Option.toList_none, List.nil_append, List.cons_append, Option.bind_some, decide_false, Bool.false_or]
      by_cases hx4 : zs_X f n (b.1 92 9) (16 * k + q) < zs_rem f
      · simp only [hx4, Bool.false_eq_true, reduceCtorEq, Nat.not_lt_zero, cond_true, cond_false, ↓reduceIte, if_true, if_false, Option.toList_some, Option.toList_none, List.nil_append, List.cons_append, Option.bind_some, decide_true]
      · simp only [hx4, Bool.false_eq_true, reduceCtorEq, Nat.not_lt_zero, cond_true, cond_false, ↓reduceIte, if_true, if_false, Option.toList_some, Option.toList_none, List.nil_append, List.cons_append, Option.bind_some, decide_false, show (false = true) = False by simp]
        by_cases hb : (zs_V f n (b.1 92 9) k).testBit q = false
        · simp only [hb, Bool.false_eq_true, reduceCtorEq, Nat.not_lt_zero, cond_true, cond_false, ↓reduceIte, if_true, if_false, Option.toList_some, Option.toList_none, List.nil_append, List.cons_append, Option.bind_some]
        · simp only [hb, Bool.false_eq_true, reduceCtorEq, Nat.not_lt_zero, cond_true, cond_false, ↓reduceIte, if_true, if_false, Option.toList_some, Option.toList_none, List.nil_append, List.cons_append, Option.bind_some]
theorem rm_all (hW : zW f n) (hV : zV 92 b f) : ∃ b', zm 190 0 [z_r 91, none] [] b = some (none, b') ∧ zK 91 [98, 99, 100, 113, 114, 115, 116] [15] b b' ∧ zMA b' f n (b.1 92 9) ∧ zs_must f n (b.1 92 9) (zs_X f n (b.1 92 9)) ∧ zs_may f n (b.1 92 9) (zs_V f n (b.1 92 9)) := by
  have hn := hW.le
  obtain ⟨b1, e1, k1, hE1⟩ := rm_edges hW hV
  have hV1 := hV.k k1 (by decide) rfl
  have h91 : b1.1 92 9 = b.1 92 9 := by rw [k1.1 92 (by decide) rfl]
  obtain ⟨b2, e2, k2, hm2, hX2⟩ := rm_must hW hV1 hE1
  have hV2 := hV1.k k2 (by decide) rfl
  have hE2 := hE1.k k2 rfl rfl rfl rfl
  have h92 : b2.1 92 9 = b1.1 92 9 := by rw [k2.1 92 (by decide) rfl]
  obtain ⟨b3, e3, k3, hm3, hM3⟩ := rm_may hW hV2 hE2
  have hV3 := hV2.k k3 (by decide) rfl
  have hE3 := hE2.k k3 rfl rfl rfl rfl
  have h93 : b3.1 92 9 = b2.1 92 9 := by rw [k3.1 92 (by decide) rfl]
  rw [h91] at hm2 hX2
  rw [h92, h91] at hm3 hM3
  have hX3 := hX2.k k3 rfl
  have h9 : b3.1 92 9 = b.1 92 9 := by rw [h93, h92, h91]
  rw [em_190_0, e1]
  simp only [Bool.false_eq_true, reduceCtorEq, Nat.not_lt_zero, cond_true, cond_false, ↓reduceIte, if_true, if_false, Option.toList_some, Option.toList_none, List.nil_append, List.cons_append, Option.bind_some]
  rw [em_190_2, e2]
  simp only [Bool.false_eq_true, reduceCtorEq, Nat.not_lt_zero, cond_true, cond_false, ↓reduceIte, if_true, if_false, Option.toList_some, Option.toList_none, List.nil_append, List.cons_append, Option.bind_some]
  rw [em_190_4, e3]
  simp only [Bool.false_eq_true, reduceCtorEq, Nat.not_lt_zero, cond_true, cond_false, ↓reduceIte, if_true, if_false, Option.toList_some, Option.toList_none, List.nil_append, List.cons_append, Option.bind_some]
  rw [em_190_6]
  have key := zl_up (F := fun k c => zm 190 9 [z_r 91, z_i (nI k)] [] c) (n := n) (I := fun k c => zK 91 [115] [] b3 c ∧ ∀ j, j < k → c.1 115 j = zs_tl f n (b.1 92 9) j) (Q := fun v c => v = none ∧ zK 91 [115] [] b3 c ∧ ∀ j, j < n → c.1 115 j = zs_tl f n (b.1 92 9) j)
    (by
      rintro k c hk ⟨g1, g2⟩
      left
      try dsimp only
      have hVc := hV3.k g1 (by decide) rfl
      have h9c : c.1 92 9 = b.1 92 9 := by rw [g1.1 92 (by decide) rfl, h9]
      have ht := rm_tells (b := c) hW hVc (by rw [h9c]; exact hX3.k g1 rfl) (by rw [h9c, g1.1 114 (by decide) rfl]; exact hM3) (by rw [h9c]; exact hm3) hk
      rw [h9c] at ht
      rw [em_190_9, hVc.sz hW]
      simp (disch := omega) only [zb_ltl, zb_llt, zb_eql, zb_leq, nI_ltI, nI_eq, zb_in, nI_clamp, zb_al, zb_la, zb_ml, zb_lm, zb_mul, nI_add, Bool.false_eq_true, reduceCtorEq, Nat.not_lt_zero, cond_true, cond_false, ↓reduceIte, if_true, if_false, Option.toList_some, Option.toList_none, List.nil_append, List.cons_append, Option.bind_some, hk, ht]
      rw [em_190_21]
      simp (disch := omega) only [zb_ltl, zb_llt, zb_eql, zb_leq, nI_ltI, nI_eq, zb_in, nI_clamp, zb_al, zb_la, zb_ml, zb_lm, zb_mul, nI_add, Bool.false_eq_true, reduceCtorEq, Nat.not_lt_zero, cond_true, cond_false, ↓reduceIte, if_true, if_false, Option.toList_some, Option.toList_none, List.nil_append, List.cons_append, Option.bind_some]
      refine ⟨_, ⟨g1.u _ _ (by decide) rfl, fun j hj => ?_⟩, rfl⟩
      by_cases hjk : j = k
      · subst hjk; exact zb_ue _ _ _ _
      · rw [zb_ui _ _ _ _ hjk]; exact g2 j (by omega))
    (by
      rintro c ⟨g1, g2⟩
      try dsimp only
      rw [em_190_9, (hV3.k g1 (by decide) rfl).sz hW]
      simp (disch := omega) only [zb_ltl, zb_llt, zb_eql, zb_leq, nI_ltI, nI_eq, zb_in, nI_clamp, zb_al, zb_la, zb_ml, zb_lm, zb_mul, nI_add, Bool.false_eq_true, reduceCtorEq, Nat.not_lt_zero, cond_true, cond_false, ↓reduceIte, if_true, if_false, Option.toList_some, Option.toList_none, List.nil_append, List.cons_append, Option.bind_some, Nat.lt_irrefl]
      exact zw_ret ⟨rfl, g1, g2⟩)
    0 b3 (Nat.zero_le _) ⟨zK.rf, fun j hj => absurd hj (Nat.not_lt_zero j)⟩
  obtain ⟨v, d, e, hv, g1, g2⟩ := key
  subst hv
  refine ⟨d, e, ((k1.up rfl rfl).tr ((k2.up rfl rfl).tr ((k3.up rfl rfl).tr (g1.up rfl rfl)))), ⟨hE3.k g1 rfl rfl rfl rfl, hX3.k g1 rfl, ?_, g2⟩, hm2, hm3⟩
  rw [g1.1 114 (by decide) rfl]
  exact hM3
theorem zs_tl_0 {lk : Int32} {k : Nat} (hW : zW f n) (hk : k < n) : zs_tl f n lk k = 0 ↔ zs_hit f n lk k = true := by
  unfold zs_tl
  have hlt : zs_ln f k < 0 → ¬ zs_hit f n lk k = true := by
    intro h
    unfold zs_hit
    simp only [h, not_true_eq_false, decide_false, Bool.false_and]
    exact fun q => by cases q
  by_cases h : zs_ln f k < 0
  · rw [if_pos h]
    exact ⟨fun q => absurd q (by decide), fun q => absurd q (hlt h)⟩
  · rw [if_neg h]
    by_cases h2 : zs_hit f n lk k = true
    · rw [if_pos h2]; exact ⟨fun _ => h2, fun _ => rfl⟩
    · rw [if_neg h2]
      constructor
      · intro q
        split at q <;> exact absurd q (by decide)
      · exact fun q => absurd q h2
theorem rm_costby (hW : zW f n) (hV : zV 92 b f) {ms : Nat} (hms : zMs b f ms) (kd : Int32) (hit : Bool) : zm 207 0 [z_r 91, z_i kd, z_i (if hit = true then 1 else 0), none] [] b = some (some (.inl (nI (zs_cb f kd ms hit))), b) := by
  obtain ⟨-, -, ⟨-, -, -, ⟨r4, hr4, e4⟩, -, -, ⟨r7, hr7, e7⟩⟩, -⟩ := hW
  have g3 := hV 3 (by omega) (by omega) (by omega)
  have g4 := (hV 4 (by omega) (by omega) (by omega)).trans e4
  have g7 := (hV 7 (by omega) (by omega) (by omega)).trans e7
  obtain ⟨h2000, hms⟩ := hms
  have hneg : ¬ nI ms < 0 := nI_pos (by omega)
  have h01 : (if hit = true then (1 : Int32) else 0) = 0 ↔ ¬ hit = true := by cases hit <;> simp
  rw [em_207_0]
  simp only [h01]
  unfold zs_cb
  rw [e4, e7, nI_clamp (by omega), nI_clamp (by omega)]
  rcases hms with ⟨hm, e3⟩ | hm
  · rw [hm, g3, e3, g4, g7, if_pos (by decide)]
    simp only [zb_la, zb_lm]
    cases hit <;> repeat' (first | rfl | split)
  · rw [hm, if_neg hneg, g4, g7]
    simp only [zb_la, zb_lm]
    cases hit <;> repeat' (first | rfl | split)
theorem rm_cost (hW : zW f n) (hV : zV 92 b f) {lk : Int32} (hA : zMA b f n lk) {ms : Nat} (hms : zMs b f ms) {k : Nat} (hk : k < n) : zm 206 0 [z_r 91, z_i (nI k)] [] b = some (some (.inl (nI (zs_c f n lk ms k))), b) := by
  have hn := hW.le
  rw [em_206_0]
  simp (disch := omega) only [zb_ltl, zb_llt, zb_eql, zb_leq, nI_ltI, nI_eq, zb_in, nI_clamp, zb_al, zb_la, zb_ml, zb_lm, zb_mul, nI_add, Bool.false_eq_true, reduceCtorEq, Nat.not_lt_zero, cond_true, cond_false, ↓reduceIte, if_true, if_false, Option.toList_some, Option.toList_none, List.nil_append, List.cons_append, Option.bind_some, hV.o0 hW hk, hA.2.2.2 k hk, zs_tl_0 hW hk]
  have g := rm_costby hW hV hms (f (12 + 4 * k))
  unfold zs_c
  cases hh : zs_hit f n lk k with
  | true =>
    have g1 := g true
    simp only [if_true] at g1 ⊢
    rw [g1]
    simp only [Bool.false_eq_true, reduceCtorEq, Nat.not_lt_zero, cond_true, cond_false, ↓reduceIte, if_true, if_false, Option.toList_some, Option.toList_none, List.nil_append, List.cons_append, Option.bind_some]
    rw [em_206_13]
  | false =>
    have g1 := g false
    simp only [show (false = true) = False by simp, if_false] at g1 ⊢
    rw [g1]
    simp only [Bool.false_eq_true, reduceCtorEq, Nat.not_lt_zero, cond_true, cond_false, ↓reduceIte, if_true, if_false, Option.toList_some, Option.toList_none, List.nil_append, List.cons_append, Option.bind_some]
    rw [em_206_13]
theorem rm_reads (hW : zW f n) (hV : zV 92 b f) {k : Nat} (hk : k < n) (r : Int32) : zm 217 0 [z_r 91, z_i (nI k), z_i r] [] b = some (some (.inl (if zs_rd f k r = true then 1 else 0)), b) := by
  have hn := hW.le
  rw [em_217_0]
  simp (disch := omega) only [zb_ltl, zb_llt, zb_eql, zb_leq, nI_ltI, nI_eq, zb_in, nI_clamp, zb_al, zb_la, zb_ml, zb_lm, zb_mul, nI_add, Bool.false_eq_true, reduceCtorEq, Nat.not_lt_zero, cond_true, cond_false, ↓reduceIte, if_true, if_false, Option.toList_some, Option.toList_none, List.nil_append, List.cons_append, Option.bind_some, hV.o0 hW hk, hV.o1 hW hk, hV.o2 hW hk, hV.o3 hW hk]
  unfold zs_rd
  rcases (hW.2.2.2 k hk).1.kinds with h | h | h | h | h | h | h | h <;> simp only [h] <;> grind
theorem rm_ec (hW : zW f n) (hV : zV 92 b f) {lk : Int32} (hA : zMA b f n lk) {ms : Nat} (hms : zMs b f ms) {e : Nat} (he : e < zs_B f n n) : zm 215 0 [z_r 91, z_i (nI e), none, none] [] b = some (some (.inl (nI (zs_ec f n lk ms e))), b) := by
  have hn := hW.le
  have hB := zs_B812 (f := f) hn (Nat.le_refl n)
  obtain ⟨hk, ht⟩ := zs_Elt he
  obtain ⟨g1, g2⟩ := hA.1.2.1 e he
  have e6 : ∃ r6, r6 ≤ 9 ∧ f 6 = nI r6 := hW.2.2.1.2.2.2.2.2.1
  obtain ⟨r6, hr6, e6⟩ := e6
  have g6 := (hV 6 (by omega) (by omega) (by omega)).trans e6
  rw [em_215_0, nI_clamp (n := e) (by omega), g1, g2, hV.sz hW]
  simp (disch := omega) only [zb_ltl, zb_llt, zb_eql, zb_leq, nI_ltI, nI_eq, zb_in, nI_clamp, zb_al, zb_la, zb_ml, zb_lm, zb_mul, nI_add, Bool.false_eq_true, reduceCtorEq, Nat.not_lt_zero, cond_true, cond_false, ↓reduceIte, if_true, if_false, Option.toList_some, Option.toList_none, List.nil_append, List.cons_append, Option.bind_some, hV.o0 hW hk, hV.o1 hW hk, rm_cost hW hV hA hms hk]
  unfold zs_ec zs_sta
  rw [e6, nI_clamp (by omega)]
  by_cases h1 : f (12 + 4 * (zs_E f n e).1) = 1
  · simp only [h1, Bool.false_eq_true, reduceCtorEq, Nat.not_lt_zero, cond_true, cond_false, ↓reduceIte, if_true, if_false, Option.toList_some, Option.toList_none, List.nil_append, List.cons_append, Option.bind_some, decide_true, Bool.true_and]
    by_cases h2 : (zs_E f n e).2 < n
    · simp only [h2, Bool.false_eq_true, reduceCtorEq, Nat.not_lt_zero, cond_true, cond_false, ↓reduceIte, if_true, if_false, Option.toList_some, Option.toList_none, List.nil_append, List.cons_append, Option.bind_some, true_and, rm_reads hW hV h2]
      rw [em_215_28]
      cases h3 : zs_rd f (zs_E f n e).2 (f (13 + 4 * (zs_E f n e).1)) with
      | true =>
        simp only [Bool.false_eq_true, reduceCtorEq, Nat.not_lt_zero, cond_true, cond_false, ↓reduceIte, if_true, if_false, Option.toList_some, Option.toList_none, List.nil_append, List.cons_append, Option.bind_some, show ¬ (1 : Int32) = 0 by decide, rm_cost hW hV hA hms hk]
        rw [em_215_36]
        simp only [Bool.false_eq_true, reduceCtorEq, Nat.not_lt_zero, cond_true, cond_false, ↓reduceIte, if_true, if_false, Option.toList_some, Option.toList_none, List.nil_append, List.cons_append, Option.bind_some, show ¬ (1 : Int32) = 0 by decide, g6, nI_add]
      | false =>
        simp only [Bool.false_eq_true, reduceCtorEq, Nat.not_lt_zero, cond_true, cond_false, ↓reduceIte, if_true, if_false, Option.toList_some, Option.toList_none, List.nil_append, List.cons_append, Option.bind_some, show (false = true) = False by simp, rm_cost hW hV hA hms hk]
        rw [em_215_36]
        simp only [Bool.false_eq_true, reduceCtorEq, Nat.not_lt_zero, cond_true, cond_false, ↓reduceIte, if_true, if_false, Option.toList_some, Option.toList_none, List.nil_append, List.cons_append, Option.bind_some, zb_al]
        try rfl
    · simp only [h2, Bool.false_eq_true, reduceCtorEq, Nat.not_lt_zero, cond_true, cond_false, ↓reduceIte, if_true, if_false, Option.toList_some, Option.toList_none, List.nil_append, List.cons_append, Option.bind_some, false_and]
      rw [em_215_36]
      simp only [Bool.false_eq_true, reduceCtorEq, Nat.not_lt_zero, cond_true, cond_false, ↓reduceIte, if_true, if_false, Option.toList_some, Option.toList_none, List.nil_append, List.cons_append, Option.bind_some, zb_al]
      try rfl
  · simp only [h1, Bool.false_eq_true, reduceCtorEq, Nat.not_lt_zero, cond_true, cond_false, ↓reduceIte, if_true, if_false, Option.toList_some, Option.toList_none, List.nil_append, List.cons_append, Option.bind_some, decide_false, Bool.false_and, show (false = true) = False by simp, and_false]
    rw [em_215_36]
    simp only [Bool.false_eq_true, reduceCtorEq, Nat.not_lt_zero, cond_true, cond_false, ↓reduceIte, if_true, if_false, Option.toList_some, Option.toList_none, List.nil_append, List.cons_append, Option.bind_some, zb_al]
    try rfl
end RmAll
