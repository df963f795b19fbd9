/-! ===== bits; what may be there: the reference ===== -/
theorem zb_shn : ∀ n, n < 32 → ((nI n &&& 31).toBitVec.smod 32).toNat = n := by decide +kernel
theorem zb_or (a b : Nat) : nI a ||| nI b = nI (a ||| b) := by
  apply Int32.toBitVec_inj.1
  show BitVec.ofNat 32 a ||| BitVec.ofNat 32 b = BitVec.ofNat 32 (a ||| b)
  apply BitVec.eq_of_getLsbD_eq
  intro i hi
  simp [hi]
theorem zb_and (a b : Nat) : nI a &&& nI b = nI (a &&& b) := by
  apply Int32.toBitVec_inj.1
  show BitVec.ofNat 32 a &&& BitVec.ofNat 32 b = BitVec.ofNat 32 (a &&& b)
  apply BitVec.eq_of_getLsbD_eq
  intro i hi
  simp [hi]
theorem zb_1s {q : Nat} (hq : q < 32) : (1 : Int32) <<< (nI q &&& 31) = nI (2 ^ q) := by
  have h : 1 * 2 ^ q < 2 ^ 32 := by rw [Nat.one_mul]; exact Nat.pow_lt_pow_right (by decide) hq
  have := pk_shlN (n := 1) (nI q &&& 31) q (zb_shn q hq) h
  rw [Nat.one_mul] at this
  exact this
theorem zb_sr {v q : Nat} (hv : v < 2 ^ 31) (hq : q < 32) : nI v >>> (nI q &&& 31) = nI (v / 2 ^ q) := pk_shrN hv (nI q &&& 31) q (zb_shn q hq)
theorem zb_a1 {v : Nat} (hv : v < 2 ^ 32) : nI v &&& 1 = nI (v % 2) := pk_andN hv (m := 1) 1 (by decide)
theorem zb_bit {v q : Nat} (hv : v < 2 ^ 31) (hq : q < 32) : (nI v >>> (nI q &&& 31)) &&& 1 = nI (v / 2 ^ q % 2) := by
  rw [zb_sr hv hq, zb_a1 (Nat.lt_of_le_of_lt (Nat.div_le_self _ _) (by omega))]
theorem zb_bit1 {v q : Nat} (hv : v < 2 ^ 31) (hq : q < 32) : ((nI v >>> (nI q &&& 31)) &&& 1 = 1) ↔ v.testBit q = true := by
  rw [zb_bit hv hq, show (1 : Int32) = nI 1 from rfl, nI_eq (by omega) (by omega), Nat.testBit_eq_decide_div_mod_eq, decide_eq_true_iff]
theorem zb_bit0 {v q : Nat} (hv : v < 2 ^ 31) (hq : q < 32) : ((nI v >>> (nI q &&& 31)) &&& 1 = 0) ↔ v.testBit q = false := by
  rw [zb_bit hv hq, show (0 : Int32) = nI 0 from rfl, nI_eq (by omega) (by omega), Nat.testBit_eq_decide_div_mod_eq, decide_eq_false_iff_not]
  omega
theorem zb_or_lt {a c : Nat} (ha : a < 65536) (hc : c < 65536) : a ||| c < 65536 := Nat.or_lt_two_pow (n := 16) ha hc
theorem zb_2p {q : Nat} (hq : q < 16) : 2 ^ q < 65536 := Nat.pow_lt_pow_right (a := 2) (m := q) (n := 16) (by decide) hq
theorem zb_or_full {a : Nat} (ha : a < 65536) : a ||| 65535 = 65535 := by
  apply Nat.eq_of_testBit_eq
  intro i
  rw [Nat.testBit_or]
  by_cases hi : i < 16
  · rw [show (65535 : Nat) = 2 ^ 16 - 1 from rfl, Nat.testBit_two_pow_sub_one, decide_eq_true hi, Bool.or_true]
  · rw [Nat.testBit_lt_two_pow (Nat.lt_of_lt_of_le ha (Nat.pow_le_pow_right (n := 2) (i := 16) (by decide) (by omega))), Bool.false_or]
/-- what is in one set of bits is in another -/
def zs_in (x y : Nat) : Prop := y ||| x = y
theorem zs_in.rf (x : Nat) : zs_in x x := Nat.or_self x
theorem zs_in.tr {x y z : Nat} (h : zs_in x y) (h2 : zs_in y z) : zs_in x z := by
  unfold zs_in at *
  rw [← h2, Nat.or_assoc, h]
theorem zs_in.or {x y z : Nat} (h : zs_in x z) (h2 : zs_in y z) : zs_in (x ||| y) z := by
  unfold zs_in at *
  rw [← Nat.or_assoc, h, h2]
theorem zs_in.l (x y : Nat) : zs_in x (x ||| y) := by
  unfold zs_in
  rw [Nat.or_comm x y, Nat.or_assoc, Nat.or_self]
theorem zs_in.r (x y : Nat) : zs_in y (x ||| y) := by
  unfold zs_in
  rw [Nat.or_assoc, Nat.or_self]
theorem zs_in.le {x y : Nat} (h : zs_in x y) : x ≤ y := by
  unfold zs_in at h
  rw [← h]
  exact Nat.right_le_or
section RmMay
variable {b b' : zd_D} {f : zF} {n : Nat}
def zMV (b : zd_D) (n : Nat) (V : Nat → Nat) : Prop := ∀ k, k ≤ n → b.1 114 k = nI (V k) ∧ V k < 65536
theorem zs_vf_0 {lk : Int32} {V : Nat → Nat} {k : Nat} (h : zs_ln f k = -2) : zs_vf f lk V k = V k := by
  unfold zs_vf
  rw [if_pos h]
theorem zs_vf_1 {lk : Int32} {V : Nat → Nat} {k : Nat} (h : zs_ln f k = -1) : zs_vf f lk V k = V k ||| 65535 := by
  unfold zs_vf
  rw [if_neg (show ¬ zs_ln f k = -2 by rw [h]; decide), if_pos h]
theorem zs_vf_q {lk : Int32} {V : Nat → Nat} {k q : Nat} (hq : q < 16) (h : zs_ln f k = nI q) : zs_vf f lk V k = if zs_lk lk (nI q) = true then V k else V k ||| 2 ^ q := by
  unfold zs_vf
  rw [h, nI_clamp (by omega), if_neg (show ¬ nI q = -2 by rw [zb_m2 (by omega)]; exact id), if_neg (show ¬ nI q = -1 by rw [zb_m1' (by omega)]; exact id)]
theorem zs_vf_lt (hW : zW f n) {lk : Int32} {V : Nat → Nat} {k : Nat} (hk : k < n) (hV : V k < 65536) : zs_vf f lk V k < 65536 := by
  rcases zs_ln_cases (hW.2.2.2 k hk).1 with h | h | ⟨q, hq, h⟩
  · rw [zs_vf_0 h]; exact hV
  · rw [zs_vf_1 h]; exact zb_or_lt hV (by decide)
  · rw [zs_vf_q hq h]
    split
    · exact hV
    · exact zb_or_lt hV (zb_2p hq)
theorem zs_vf_mono {lk : Int32} {V U : Nat → Nat} {k : Nat} (h : zs_in (V k) (U k)) : zs_in (zs_vf f lk V k) (zs_vf f lk U k) := by
  unfold zs_vf
  split
  · exact h
  · split
    · exact (h.tr (zs_in.l _ _)).or (zs_in.r _ _)
    · split
      · exact h
      · exact (h.tr (zs_in.l _ _)).or (zs_in.r _ _)
theorem rm_behind (hW : zW f n) (hV : zV 92 b f) {V : Nat → Nat} (hM : zMV b n V) {k : Nat} (hk : k < n) : zm 204 0 [z_r 91, z_i (nI k), none] [] b = some (some (.inl (nI (zs_vf f (b.1 92 9) V k))), b) := by
  have hn := hW.le
  obtain ⟨h1, h2⟩ := hM k (by omega)
  rw [em_204_0, rm_line hW hV hk]
  simp only [Bool.false_eq_true, reduceCtorEq, Nat.not_lt_zero, cond_true, cond_false, ↓reduceIte, if_true, if_false, Option.toList_some, Option.toList_none, List.nil_append, List.cons_append, Option.bind_some]
  rw [em_204_3]
  simp (disch := omega) only [zb_ltl, zb_llt, zb_eql, zb_leq, nI_ltI, nI_eq, zb_in, nI_clamp, zb_al, zb_la, zb_ml, zb_lm, zb_mul, nI_add, Bool.false_eq_true, reduceCtorEq, Nat.not_lt_zero, cond_true, cond_false, ↓reduceIte, if_true, if_false, Option.toList_some, Option.toList_none, List.nil_append, List.cons_append, Option.bind_some, h1]
  rcases zs_ln_cases (hW.2.2.2 k hk).1 with h | h | ⟨q, hq, h⟩
  · rw [zs_vf_0 h, if_pos h]
  · rw [zs_vf_1 h, h, zb_or_full h2]
    rfl
  · rw [zs_vf_q hq h, h]
    simp (disch := omega) only [zb_m2, zb_m1', Bool.false_eq_true, reduceCtorEq, Nat.not_lt_zero, cond_true, cond_false, ↓reduceIte, if_true, if_false, Option.toList_some, Option.toList_none, List.nil_append, List.cons_append, Option.bind_some]
    unfold zs_lk
    by_cases hlk : (b.1 92 9 >>> (nI q &&& 31)) &&& 1 = 1
    · rw [if_pos hlk, if_pos (decide_eq_true hlk)]
    · rw [if_neg hlk, if_neg (fun w => hlk (of_decide_eq_true w)), zb_1s (by omega), zb_or]
theorem zMV.k {cs fs : List Nat} {V : Nat → Nat} (h : zMV b n V) (hk : zK 91 cs fs b b') (h1 : cs.elem 114 = false) : zMV b' n V := by
  unfold zMV
  rw [hk.1 114 (by decide) h1]
  exact h
set_option maxHeartbeats 4000000 in
theorem rm_mayp (hW : zW f n) (hV : zV 92 b f) (hE : zME b f n) : ∀ m e c V fl, e + m = zs_B f n n → zK 91 [114] [] b c → zMV c n V → ∃ c' V' fl', zm 203 26 [z_r 91, z_i (if fl = true then 1 else 0), z_i (nI e), none] [] c = zm 203 26 [z_r 91, z_i (if fl' = true then 1 else 0), z_i (nI (zs_B f n n)), none] [] c' ∧ zK 91 [114] [] b c' ∧ zMV c' n V' ∧ (∀ k, k ≤ n → V k ≤ V' k) ∧ (fl' = false → fl = false ∧ (∀ k, k ≤ n → V' k = V k) ∧ ∀ j, e ≤ j → j < zs_B f n n → V (zs_E f n j).2 ||| zs_vf f (b.1 92 9) V (zs_E f n j).1 = V (zs_E f n j).2) ∧ (fl' = true → fl = true ∨ ∃ k, k ≤ n ∧ V k < V' k) ∧ (∀ U, zs_vc f n (b.1 92 9) U → (∀ k, k < n → U k ||| V k = U k) → ∀ k, k < n → U k ||| V' k = U k) := by
  have hn := hW.le
  have hB := zs_B812 (f := f) hn (Nat.le_refl n)
  intro m
  induction m with
  | zero =>
    intro e c V fl he hK hM
    have : e = zs_B f n n := by omega
    subst this
    exact ⟨c, V, fl, rfl, hK, hM, fun _ _ => Nat.le_refl _, fun h => ⟨h, fun _ _ => rfl, fun j h1 h2 => absurd h2 (by omega)⟩, fun h => Or.inl h, fun U _ h => h⟩
  | succ m ih =>
    intro e c V fl he hK hM
    have heB : e < zs_B f n n := by omega
    have hEc := hE.k hK rfl rfl rfl rfl
    have hVc := hV.k hK (by decide) rfl
    have h9 : c.1 92 9 = b.1 92 9 := by rw [hK.1 92 (by decide) rfl]
    obtain ⟨hk, ht⟩ := zs_Elt heB
    obtain ⟨g1, g2⟩ := hEc.2.1 e heB
    obtain ⟨m1, m2⟩ := hM _ ht
    have hvf := zs_vf_lt hW (lk := b.1 92 9) (V := V) hk (hM _ (by omega)).2
    have hor := zb_or_lt m2 hvf
    -- the row behind this edge
    have hM2 : zMV (zd_u c 114 (zs_E f n e).2 (nI (V (zs_E f n e).2 ||| zs_vf f (b.1 92 9) V (zs_E f n e).1))) n (fun x => if x = (zs_E f n e).2 then V (zs_E f n e).2 ||| zs_vf f (b.1 92 9) V (zs_E f n e).1 else V x) := by
      intro k hk
      try dsimp only
      by_cases hkt : k = (zs_E f n e).2
      · subst hkt
        rw [zb_ue, if_pos rfl]
        exact ⟨rfl, hor⟩
      · rw [zb_ui _ _ _ _ hkt, if_neg hkt]
        exact hM k hk
    have hK2 : zK 91 [114] [] b (zd_u c 114 (zs_E f n e).2 (nI (V (zs_E f n e).2 ||| zs_vf f (b.1 92 9) V (zs_E f n e).1))) := hK.u _ _ (by decide) rfl
    have hle : ∀ k, k ≤ n → V k ≤ (if k = (zs_E f n e).2 then V (zs_E f n e).2 ||| zs_vf f (b.1 92 9) V (zs_E f n e).1 else V k) := by
      intro k _
      by_cases hkt : k = (zs_E f n e).2
      · subst hkt; rw [if_pos rfl]; exact Nat.left_le_or
      · rw [if_neg hkt]; exact Nat.le_refl _
    have hlst : ∀ U, zs_vc f n (b.1 92 9) U → (∀ k, k < n → U k ||| V k = U k) → ∀ k, k < n → U k ||| (if k = (zs_E f n e).2 then V (zs_E f n e).2 ||| zs_vf f (b.1 92 9) V (zs_E f n e).1 else V k) = U k := by
      intro U hU hUV k hkn
      by_cases hkt : k = (zs_E f n e).2
      · subst hkt
        rw [if_pos rfl]
        have q1 : zs_in (V (zs_E f n e).2) (U (zs_E f n e).2) := hUV _ hkn
        have q2 : zs_in (zs_vf f (b.1 92 9) V (zs_E f n e).1) (zs_vf f (b.1 92 9) U (zs_E f n e).1) := zs_vf_mono (hUV _ hk)
        have q3 : zs_in (zs_vf f (b.1 92 9) U (zs_E f n e).1) (U (zs_E f n e).2) := hU e heB hkn
        exact q1.or (q2.tr q3)
      · rw [if_neg hkt]; exact hUV k hkn
    have step : zm 203 26 [z_r 91, z_i (if fl = true then 1 else 0), z_i (nI e), none] [] c = zm 203 26 [z_r 91, z_i (if (fl || !decide (V (zs_E f n e).2 ||| zs_vf f (b.1 92 9) V (zs_E f n e).1 = V (zs_E f n e).2)) = true then 1 else 0), z_i (nI (e + 1)), none] [] (zd_u c 114 (zs_E f n e).2 (nI (V (zs_E f n e).2 ||| zs_vf f (b.1 92 9) V (zs_E f n e).1))) := by
      rw [em_203_26, hEc.1, nI_clamp (n := e) (by omega), g1, g2]
      simp (disch := omega) only [zb_ltl, zb_llt, zb_eql, zb_leq, nI_ltI, nI_eq, zb_in, nI_clamp, zb_al, zb_la, zb_ml, zb_lm, zb_mul, nI_add, Bool.false_eq_true, reduceCtorEq, Nat.not_lt_zero, cond_true, cond_false, ↓reduceIte, if_true, if_false, Option.toList_some, Option.toList_none, List.nil_append, List.cons_append, Option.bind_some, heB, rm_behind hW hVc hM hk, h9, m1]
      rw [em_203_43, nI_clamp (n := e) (by omega), g2]
      simp (disch := omega) only [zb_ltl, zb_llt, zb_eql, zb_leq, nI_ltI, nI_eq, zb_in, nI_clamp, zb_al, zb_la, zb_ml, zb_lm, zb_mul, nI_add, Bool.false_eq_true, reduceCtorEq, Nat.not_lt_zero, cond_true, cond_false, ↓reduceIte, if_true, if_false, Option.toList_some, Option.toList_none, List.nil_append, List.cons_append, Option.bind_some, zb_or, m1]
      cases fl with
      | true => simp only [Bool.true_or, show ¬ (1 : Int32) = 0 by decide, Bool.false_eq_true, reduceCtorEq, Nat.not_lt_zero, cond_true, cond_false, ↓reduceIte, if_true, if_false, Option.toList_some, Option.toList_none, List.nil_append, List.cons_append, Option.bind_some]
      | false =>
        by_cases hch : V (zs_E f n e).2 ||| zs_vf f (b.1 92 9) V (zs_E f n e).1 = V (zs_E f n e).2
        · simp only [hch, Bool.false_eq_true, reduceCtorEq, Nat.not_lt_zero, cond_true, cond_false, ↓reduceIte, if_true, if_false, Option.toList_some, Option.toList_none, List.nil_append, List.cons_append, Option.bind_some, decide_true, Bool.not_true, Bool.or_false]
        · simp only [hch, Bool.false_eq_true, reduceCtorEq, Nat.not_lt_zero, cond_true, cond_false, ↓reduceIte, if_true, if_false, Option.toList_some, Option.toList_none, List.nil_append, List.cons_append, Option.bind_some, decide_false, Bool.not_false, Bool.or_true]
    obtain ⟨c', V', fl', i1, i2, i3, i4, i5, i6, i7⟩ := ih (e + 1) _ _ (fl || !decide (V (zs_E f n e).2 ||| zs_vf f (b.1 92 9) V (zs_E f n e).1 = V (zs_E f n e).2)) (by omega) hK2 hM2
    refine ⟨c', V', fl', step.trans i1, i2, i3, fun k hk => Nat.le_trans (hle k hk) (i4 k hk), fun h => ?_, fun h => ?_, fun U hU hUV => i7 U hU (hlst U hU hUV)⟩
    · obtain ⟨q1, q2, q3⟩ := i5 h
      rw [Bool.or_eq_false_iff, Bool.not_eq_false', decide_eq_true_eq] at q1
      have hfun : (fun x => if x = (zs_E f n e).2 then V (zs_E f n e).2 ||| zs_vf f (b.1 92 9) V (zs_E f n e).1 else V x) = V := by
        funext x
        by_cases hx : x = (zs_E f n e).2
        · rw [if_pos hx, q1.2, hx]
        · rw [if_neg hx]
      rw [hfun] at q3
      refine ⟨q1.1, fun k hk => ?_, fun j h1 h2 => ?_⟩
      · have q4 := q2 k hk
        rw [show (if k = (zs_E f n e).2 then V (zs_E f n e).2 ||| zs_vf f (b.1 92 9) V (zs_E f n e).1 else V k) = V k from congrFun hfun k] at q4
        exact q4
      · by_cases hje : j = e
        · subst hje; exact q1.2
        · have q5 := q3 j (by omega) h2
          rw [show (if (zs_E f n j).2 = (zs_E f n e).2 then V (zs_E f n e).2 ||| zs_vf f (b.1 92 9) V (zs_E f n e).1 else V (zs_E f n j).2) = V (zs_E f n j).2 from congrFun hfun _] at q5
          exact q5
    · rcases i6 h with q | ⟨k, hk, q⟩
      · rw [Bool.or_eq_true, Bool.not_eq_true', decide_eq_false_iff_not] at q
        rcases q with q | q
        · exact Or.inl q
        · refine Or.inr ⟨(zs_E f n e).2, ht, ?_⟩
          have q1 := i4 _ ht
          rw [if_pos rfl] at q1
          have q2 : V (zs_E f n e).2 ≤ V (zs_E f n e).2 ||| zs_vf f (b.1 92 9) V (zs_E f n e).1 := Nat.left_le_or
          omega
      · refine Or.inr ⟨k, hk, Nat.lt_of_le_of_lt (hle k hk) q⟩
set_option maxHeartbeats 4000000 in
theorem rm_may (hW : zW f n) (hV : zV 92 b f) (hE : zME b f n) : ∃ b', zm 203 0 [z_r 91, none, none, none] [] b = some (none, b') ∧ zK 91 [114] [] b b' ∧ zs_may f n (b.1 92 9) (zs_V f n (b.1 92 9)) ∧ ∀ k, k < n → b'.1 114 k = nI (zs_V f n (b.1 92 9) k) := by
  have hn := hW.le
  have hB := zs_B812 (f := f) hn (Nat.le_refl n)
  rw [em_203_0]
  obtain ⟨b1, ⟨hK1, hf1⟩, e1⟩ := zl_to (F := fun i c => zm 203 3 [z_r 91, z_i (nI i), none, none] [] c) (I := fun i c => zK 91 [114] [] b c ∧ ∀ j, j < i → c.1 114 j = nI 0) (n := n + 1)
    (by
      rintro i c hi ⟨h1, h2⟩
      try dsimp only
      rw [em_203_3, (hV.k h1 (by decide) rfl).sz hW]
      simp (disch := omega) only [zb_ltl, zb_llt, zb_eql, zb_leq, nI_ltI, nI_eq, zb_in, nI_clamp, zb_al, zb_la, zb_ml, zb_lm, zb_mul, nI_add, Bool.false_eq_true, reduceCtorEq, Nat.not_lt_zero, cond_true, cond_false, ↓reduceIte, if_true, if_false, Option.toList_some, Option.toList_none, List.nil_append, List.cons_append, Option.bind_some, show ¬ n < i by omega]
      refine ⟨_, ⟨h1.u _ _ (by decide) rfl, fun j hj => ?_⟩, rfl⟩
      by_cases hji : j = i
      · subst hji; exact zb_ue _ _ _ _
      · rw [zb_ui _ _ _ _ hji]; exact h2 j (by omega)) 0 b (Nat.zero_le _) ⟨zK.rf, fun j hj => absurd hj (Nat.not_lt_zero j)⟩
  rw [show zm 203 3 [z_r 91, z_i 0, none, none] [] b = _ from e1]
  try dsimp only
  rw [em_203_3, (hV.k hK1 (by decide) rfl).sz hW]
  simp (disch := omega) only [zb_ltl, zb_llt, zb_eql, zb_leq, nI_ltI, nI_eq, zb_in, nI_clamp, zb_al, zb_la, zb_ml, zb_lm, zb_mul, nI_add, Bool.false_eq_true, reduceCtorEq, Nat.not_lt_zero, cond_true, cond_false, ↓reduceIte, if_true, if_false, Option.toList_some, Option.toList_none, List.nil_append, List.cons_append, Option.bind_some, show n < n + 1 by omega]
  have key := zl_ms (α := zd_D × (Nat → Nat) × Bool) (G := fun s => zm 203 19 [z_r 91, z_i (if s.2.2 = true then 1 else 0), none, none] [] s.1)
    (J := fun s => zK 91 [114] [] b s.1 ∧ zMV s.1 n s.2.1 ∧ (∀ U, zs_vc f n (b.1 92 9) U → ∀ k, k < n → U k ||| s.2.1 k = U k) ∧ (s.2.2 = false → zs_vc f n (b.1 92 9) s.2.1))
    (P := fun v c => v = none ∧ zK 91 [114] [] b c ∧ ∃ V, zs_may f n (b.1 92 9) V ∧ zMV c n V)
    (fun s => 2 * zs_sum (fun i => 65536 - s.2.1 i) (n + 1) + (if s.2.2 = true then 1 else 0))
    (by
      rintro ⟨c, V, more⟩ ⟨h1, h2, h3, h4⟩
      dsimp only at h1 h2 h3 h4 ⊢
      rw [em_203_19]
      cases more with
      | false =>
        right
        simp only [Bool.false_eq_true, reduceCtorEq, Nat.not_lt_zero, cond_true, cond_false, ↓reduceIte, if_true, if_false, Option.toList_some, Option.toList_none, List.nil_append, List.cons_append, Option.bind_some, show (false = true) = False by simp]
        exact zw_ret ⟨rfl, h1, V, ⟨h4 rfl, fun k hk => (h2 k (by omega)).2, h3⟩, h2⟩
      | true =>
        left
        simp only [Bool.false_eq_true, reduceCtorEq, Nat.not_lt_zero, cond_true, cond_false, ↓reduceIte, if_true, if_false, Option.toList_some, Option.toList_none, List.nil_append, List.cons_append, Option.bind_some, show ¬ (1 : Int32) = 0 by decide]
        obtain ⟨c', V', fl', i1, i2, i3, i4, i5, i6, i7⟩ := rm_mayp hW hV hE (zs_B f n n) 0 c V false (by omega) h1 h2
        rw [show zm 203 26 [z_r 91, z_i 0, z_i 0, none] [] c = _ from i1, em_203_26, (hE.k i2 rfl rfl rfl rfl).1]
        simp (disch := omega) only [zb_ltl, zb_llt, zb_eql, zb_leq, nI_ltI, nI_eq, zb_in, nI_clamp, zb_al, zb_la, zb_ml, zb_lm, zb_mul, nI_add, Bool.false_eq_true, reduceCtorEq, Nat.not_lt_zero, cond_true, cond_false, ↓reduceIte, if_true, if_false, Option.toList_some, Option.toList_none, List.nil_append, List.cons_append, Option.bind_some, Nat.lt_irrefl]
        refine ⟨(c', V', fl'), ⟨i2, i3, fun U hU => i7 U hU (h3 U hU), fun h => ?_⟩, ?_, rfl⟩
        · have h : fl' = false := h
          obtain ⟨-, q1, q2⟩ := i5 h
          intro e he ht
          have hlt := zs_Elt he
          try dsimp only
          have : zs_vf f (b.1 92 9) V' (zs_E f n e).1 = zs_vf f (b.1 92 9) V (zs_E f n e).1 := by
            unfold zs_vf
            rw [q1 _ (by omega)]
          rw [this, q1 _ hlt.2]
          exact q2 e (Nat.zero_le _) he
        · dsimp only
          have hle : ∀ i, i < n + 1 → 65536 - V' i ≤ 65536 - V i := fun i hi => by have := i4 i (by omega); omega
          cases hfl : fl' with
          | false =>
            have := zs_sum_le (g := fun i => 65536 - V' i) (h := fun i => 65536 - V i) (n + 1) hle
            simp only [show (false = true) = False by simp, if_false, if_true]
            omega
          | true =>
            rcases i6 hfl with q | ⟨k, hk, hlt⟩
            · cases q
            · have := zs_sum_lt (g := fun i => 65536 - V' i) (h := fun i => 65536 - V i) (n + 1) hle ⟨k, by omega, by have := (i3 k hk).2; (try dsimp only); omega⟩
              simp only [if_true]
              omega)
    (b1, fun _ => 0, true)
    ⟨hK1, fun k hk => ⟨hf1 k (by omega), (by decide : 0 < 65536)⟩, fun U hU k hk => Nat.or_zero _, fun h => by cases h⟩
  obtain ⟨v, d, e, hv, h1, V, h2, h3⟩ := key
  subst hv
  have hx := zs_V_eq h2
  exact ⟨d, e, h1, hx.1, fun k hk => by rw [← hx.2 k hk]; exact (h3 k (by omega)).1⟩
end RmMay
