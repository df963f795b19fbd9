/-! ===== the costliest way: the reference, what can be come to, why none ===== -/
theorem zb_m1lt {a : Nat} (h : a < 2 ^ 30) : (nI a - 1 < 0) ↔ a = 0 := zp_neg h
theorem zb_sac (a : Nat) : nI a - 1 + 1 = nI a := Int32.sub_add_cancel _ _
/-- the reference's numbers of turns -/
def zMN (b : zd_D) (nu : Nat → Nat) (f : zF) (n : Nat) : Prop := ∀ e, e < zs_B f n n → b.1 92 (200 + e) = nI (nu e) ∧ nu e ≤ 10 ∧ (0 < nu e → zs_tn f n e = true)
def zMR (b : zd_D) (n : Nat) (R : Nat → Bool) : Prop := ∀ k, k ≤ n → b.1 117 k = if R k = true then 1 else 0
section RmPath
variable {b b' : zd_D} {f : zF} {n : Nat}
theorem zMN.k {cs fs : List Nat} {nu : Nat → Nat} (h : zMN b nu f n) (hk : zK 91 cs fs b b') (h1 : cs.elem 92 = false) : zMN b' nu f n := by
  unfold zMN
  rw [hk.1 92 (by decide) h1]
  exact h
theorem zMR.k {cs fs : List Nat} {R : Nat → Bool} (h : zMR b n R) (hk : zK 91 cs fs b b') (h1 : cs.elem 117 = false) : zMR b' n R := by
  unfold zMR
  rw [hk.1 117 (by decide) h1]
  exact h
set_option maxHeartbeats 2000000 in
theorem rm_comep (hW : zW f n) (hE : zME b f n) : ∀ m e c R fl, e + m = zs_B f n n → zK 91 [117] [] b c → zMR c n R → ∃ c' R' fl', zm 244 30 [z_r 91, z_i (if fl = true then 1 else 0), z_i (nI e)] [] c = zm 244 30 [z_r 91, z_i (if fl' = true then 1 else 0), z_i (nI (zs_B f n n))] [] c' ∧ zK 91 [117] [] b c' ∧ zMR c' n R' ∧ (∀ k, k ≤ n → R k = true → R' k = true) ∧ (fl' = false → fl = false ∧ (∀ k, k ≤ n → R' k = R k) ∧ ∀ j, e ≤ j → j < zs_B f n n → R (zs_E f n j).1 = true → R (zs_E f n j).2 = true) ∧ (fl' = true → fl = true ∨ ∃ k, k ≤ n ∧ R k = false ∧ R' k = true) ∧ (∀ Q, zs_rc f n Q → (∀ k, k ≤ n → R k = true → Q k = true) → ∀ k, k ≤ n → R' k = true → Q k = true) := by
  have hn := hW.le
  have hB := zs_B812 (f := f) hn (Nat.le_refl n)
  intro m
  induction m with
  | zero =>
    intro e c R fl he hK hM
    have : e = zs_B f n n := by omega
    subst this
    exact ⟨c, R, fl, rfl, hK, hM, fun _ _ h => h, fun h => ⟨h, fun _ _ => rfl, fun j h1 h2 => absurd h2 (by omega)⟩, fun h => Or.inl h, fun U _ h => h⟩
  | succ m ih =>
    intro e c R fl he hK hM
    have heB : e < zs_B f n n := by omega
    have hEc := hE.k hK rfl rfl rfl rfl
    obtain ⟨hk, ht⟩ := zs_Elt heB
    obtain ⟨g1, g2⟩ := hEc.2.1 e heB
    have m1 := hM _ (show (zs_E f n e).1 ≤ n by omega)
    have m2 := hM _ ht
    by_cases hadd : R (zs_E f n e).1 = true ∧ R (zs_E f n e).2 = false
    · have step : zm 244 30 [z_r 91, z_i (if fl = true then 1 else 0), z_i (nI e)] [] c = zm 244 30 [z_r 91, z_i (if true = true then 1 else 0), z_i (nI (e + 1))] [] (zd_u c 117 (zs_E f n e).2 1) := by
        rw [em_244_30, hEc.1, nI_clamp (n := e) (by omega), g1, g2]
        simp (disch := omega) only [zb_ltl, zb_llt, zb_eql, zb_leq, nI_ltI, nI_eq, zb_in, nI_clamp, zb_al, zb_la, zb_ml, zb_lm, zb_mul, nI_add, Bool.false_eq_true, reduceCtorEq, Nat.not_lt_zero, cond_true, cond_false, ↓reduceIte, if_true, if_false, Option.toList_some, Option.toList_none, List.nil_append, List.cons_append, Option.bind_some, heB, m1, m2, hadd.1, hadd.2, show ¬ (1 : Int32) = 0 by decide, show ((1 : Int32) &&& 1) = 1 by decide]
      have hM2 : zMR (zd_u c 117 (zs_E f n e).2 1) n (fun x => if x = (zs_E f n e).2 then true else R x) := by
        intro k hk
        (try dsimp only)
        by_cases hkt : k = (zs_E f n e).2
        · rw [hkt, zb_ue]; simp only [if_true]
        · rw [zb_ui _ _ _ _ hkt]; simp only [hkt, if_false]; exact hM k hk
      obtain ⟨c', R', fl', i1, i2, i3, i4, i5, i6, i7⟩ := ih (e + 1) _ _ true (by omega) (hK.u (c := 117) _ _ (by decide) rfl) hM2
      refine ⟨c', R', fl', step.trans i1, i2, i3, fun k hk h => i4 k hk ?_, fun h => absurd (i5 h).1 (by decide), fun _ => Or.inr ⟨(zs_E f n e).2, ht, hadd.2, i4 _ ht ?_⟩, fun Q hQ hRQ => i7 Q hQ (fun k hk h => ?_)⟩
      · (try dsimp only)
        split
        · rfl
        · exact h
      · (try dsimp only); rw [if_pos rfl]
      · (try dsimp only at h)
        by_cases hkt : k = (zs_E f n e).2
        · rw [hkt]; exact hQ.2 e heB (hRQ _ (by omega) hadd.1)
        · rw [if_neg hkt] at h; exact hRQ k hk h
    · have step : zm 244 30 [z_r 91, z_i (if fl = true then 1 else 0), z_i (nI e)] [] c = zm 244 30 [z_r 91, z_i (if fl = true then 1 else 0), z_i (nI (e + 1))] [] c := by
        rw [em_244_30, hEc.1, nI_clamp (n := e) (by omega), g1, g2]
        simp (disch := omega) only [zb_ltl, zb_llt, zb_eql, zb_leq, nI_ltI, nI_eq, zb_in, nI_clamp, zb_al, zb_la, zb_ml, zb_lm, zb_mul, nI_add, Bool.false_eq_true, reduceCtorEq, Nat.not_lt_zero, cond_true, cond_false, ↓reduceIte, if_true, if_false, Option.toList_some, Option.toList_none, List.nil_append, List.cons_append, Option.bind_some, heB, m1, m2]
        cases h1 : R (zs_E f n e).1 with
        | false => simp only [Bool.false_eq_true, reduceCtorEq, Nat.not_lt_zero, cond_true, cond_false, ↓reduceIte, if_true, if_false, Option.toList_some, Option.toList_none, List.nil_append, List.cons_append, Option.bind_some]
        | true =>
          cases h2 : R (zs_E f n e).2 with
          | false => exact absurd ⟨h1, h2⟩ hadd
          | true => simp only [Bool.false_eq_true, reduceCtorEq, Nat.not_lt_zero, cond_true, cond_false, ↓reduceIte, if_true, if_false, Option.toList_some, Option.toList_none, List.nil_append, List.cons_append, Option.bind_some, show ¬ (1 : Int32) = 0 by decide]
      obtain ⟨c', R', fl', i1, i2, i3, i4, i5, i6, i7⟩ := ih (e + 1) c R fl (by omega) hK hM
      refine ⟨c', R', fl', step.trans i1, i2, i3, i4, fun h => ?_, i6, i7⟩
      obtain ⟨r1, r2, r3⟩ := i5 h
      refine ⟨r1, r2, fun j h1 h2 h3 => ?_⟩
      by_cases hje : j = e
      · subst hje
        cases h4 : R (zs_E f n j).2 with
        | true => rfl
        | false => exact absurd ⟨h3, h4⟩ hadd
      · exact r3 j (by omega) h2 h3
theorem rm_comes (hW : zW f n) (hV : zV 92 b f) (hE : zME b f n) : ∃ b', zm 244 0 [z_r 91, none, none] [] b = some (none, b') ∧ zK 91 [117] [] b b' ∧ zs_rl f n (zs_R f n) ∧ zMR b' n (zs_R f n) := by
  have hn := hW.le
  have hB := zs_B812 (f := f) hn (Nat.le_refl n)
  rw [em_244_0]
  obtain ⟨b1, ⟨hK1, hf1⟩, e1⟩ := zl_to (F := fun i c => zm 244 3 [z_r 91, z_i (nI i), none] [] c) (I := fun i c => zK 91 [117] [] b c ∧ ∀ j, j < i → c.1 117 j = if decide (j = 0) = true then 1 else 0) (n := n + 1)
    (by
      rintro i c hi ⟨h1, h2⟩
      try dsimp only
      have fin : ∀ y : Int32, y = (if decide (i = 0) = true then 1 else 0) → ∀ j, j < i + 1 → (zd_u c 117 i y).1 117 j = if decide (j = 0) = true then 1 else 0 := by
        intro y hy j hj
        by_cases hji : j = i
        · subst hji; rw [zb_ue]; exact hy
        · rw [zb_ui _ _ _ _ hji]; exact h2 j (by omega)
      rw [em_244_3, (hV.k h1 (by decide) rfl).sz hW]
      simp (disch := omega) only [zb_ltl, zb_llt, zb_eql, zb_leq, nI_ltI, nI_eq, zb_in, nI_clamp, zb_al, zb_la, zb_ml, zb_lm, zb_mul, nI_add, Bool.false_eq_true, reduceCtorEq, Nat.not_lt_zero, cond_true, cond_false, ↓reduceIte, if_true, if_false, Option.toList_some, Option.toList_none, List.nil_append, List.cons_append, Option.bind_some, show ¬ n < i by omega]
      by_cases h0 : i = 0
      · simp only [h0, Bool.false_eq_true, reduceCtorEq, Nat.not_lt_zero, cond_true, cond_false, ↓reduceIte, if_true, if_false, Option.toList_some, Option.toList_none, List.nil_append, List.cons_append, Option.bind_some]
        subst h0
        exact ⟨_, ⟨h1.u (c := 117) _ _ (by decide) rfl, fin _ (by decide)⟩, rfl⟩
      · simp only [h0, Bool.false_eq_true, reduceCtorEq, Nat.not_lt_zero, cond_true, cond_false, ↓reduceIte, if_true, if_false, Option.toList_some, Option.toList_none, List.nil_append, List.cons_append, Option.bind_some]
        exact ⟨_, ⟨h1.u (c := 117) _ _ (by decide) rfl, fin _ (by simp only [h0, decide_false]; decide)⟩, rfl⟩) 0 b (Nat.zero_le _) ⟨zK.rf, fun j hj => absurd hj (Nat.not_lt_zero j)⟩
  rw [show zm 244 3 [z_r 91, z_i 0, none] [] b = _ from e1]
  try dsimp only
  rw [em_244_3, (hV.k hK1 (by decide) rfl).sz hW]
  simp (disch := omega) only [zb_ltl, zb_llt, zb_eql, zb_leq, nI_ltI, nI_eq, zb_in, nI_clamp, zb_al, zb_la, zb_ml, zb_lm, zb_mul, nI_add, Bool.false_eq_true, reduceCtorEq, Nat.not_lt_zero, cond_true, cond_false, ↓reduceIte, if_true, if_false, Option.toList_some, Option.toList_none, List.nil_append, List.cons_append, Option.bind_some, show n < n + 1 by omega]
  have key := zl_ms (α := zd_D × (Nat → Bool) × Bool) (G := fun s => zm 244 23 [z_r 91, z_i (if s.2.2 = true then 1 else 0), none] [] s.1)
    (J := fun s => zK 91 [117] [] b s.1 ∧ zMR s.1 n s.2.1 ∧ s.2.1 0 = true ∧ (∀ Q, zs_rc f n Q → ∀ k, k ≤ n → s.2.1 k = true → Q k = true) ∧ (s.2.2 = false → zs_rc f n s.2.1))
    (P := fun v c => v = none ∧ zK 91 [117] [] b c ∧ ∃ R, zs_rl f n R ∧ zMR c n R)
    (fun s => 2 * zs_sum (fun i => if s.2.1 i = true then 0 else 1) (n + 1) + (if s.2.2 = true then 1 else 0))
    (by
      rintro ⟨c, R, more⟩ ⟨h1, h2, h0, h3, h4⟩
      try dsimp only at h1 h2 h0 h3 h4 ⊢
      rw [em_244_23]
      cases more with
      | false =>
        right
        simp only [Bool.false_eq_true, reduceCtorEq, Nat.not_lt_zero, cond_true, cond_false, ↓reduceIte, if_true, if_false, Option.toList_some, Option.toList_none, List.nil_append, List.cons_append, Option.bind_some]
        exact zw_ret ⟨rfl, h1, R, ⟨h4 rfl, h3⟩, h2⟩
      | true =>
        left
        simp only [Bool.false_eq_true, reduceCtorEq, Nat.not_lt_zero, cond_true, cond_false, ↓reduceIte, if_true, if_false, Option.toList_some, Option.toList_none, List.nil_append, List.cons_append, Option.bind_some, show ¬ (1 : Int32) = 0 by decide]
        obtain ⟨c', R', fl', i1, i2, i3, i4, i5, i6, i7⟩ := rm_comep hW hE (zs_B f n n) 0 c R false (by omega) h1 h2
        rw [show zm 244 30 [z_r 91, z_i 0, z_i 0] [] c = _ from i1, em_244_30, (hE.k i2 rfl rfl rfl rfl).1]
        simp (disch := omega) only [zb_ltl, zb_llt, zb_eql, zb_leq, nI_ltI, nI_eq, zb_in, nI_clamp, zb_al, zb_la, zb_ml, zb_lm, zb_mul, nI_add, Bool.false_eq_true, reduceCtorEq, Nat.not_lt_zero, cond_true, cond_false, ↓reduceIte, if_true, if_false, Option.toList_some, Option.toList_none, List.nil_append, List.cons_append, Option.bind_some, Nat.lt_irrefl]
        refine ⟨(c', R', fl'), ⟨i2, i3, i4 0 (Nat.zero_le _) h0, fun Q hQ => i7 Q hQ (h3 Q hQ), fun h => ?_⟩, ?_, rfl⟩
        · have h : fl' = false := h
          obtain ⟨-, q1, q2⟩ := i5 h
          refine ⟨i4 0 (Nat.zero_le _) h0, fun e he hr => ?_⟩
          have hlt := zs_Elt he
          (try dsimp only at hr ⊢)
          rw [q1 _ (by omega)] at hr
          rw [q1 _ hlt.2]
          exact q2 e (Nat.zero_le _) he hr
        · (try dsimp only)
          have hle : ∀ i, i < n + 1 → (if R' i = true then 0 else 1) ≤ (if R i = true then 0 else 1) := by
            intro i hi
            by_cases hr : R i = true
            · rw [if_pos (i4 i (by omega) hr)]; exact Nat.zero_le _
            · rw [if_neg hr]; split <;> decide
          cases hfl : fl' with
          | false =>
            have := zs_sum_le (g := fun i => if R' i = true then 0 else 1) (h := fun i => if R i = true then 0 else 1) (n + 1) hle
            simp only [Bool.false_eq_true, reduceCtorEq, Nat.not_lt_zero, cond_true, cond_false, ↓reduceIte, if_true, if_false, Option.toList_some, Option.toList_none, List.nil_append, List.cons_append, Option.bind_some]
            omega
          | true =>
            rcases i6 hfl with q | ⟨k, hk, q1, q2⟩
            · cases q
            · have := zs_sum_lt (g := fun i => if R' i = true then 0 else 1) (h := fun i => if R i = true then 0 else 1) (n + 1) hle ⟨k, by omega, by simp only [q1, q2, if_true]; decide⟩
              simp only [if_true]
              omega)
    (b1, fun k => decide (k = 0), true)
    ⟨hK1, fun k hk => hf1 k (by omega), rfl, fun Q hQ k hk h => by
      have h : decide (k = 0) = true := h
      rw [of_decide_eq_true h]; exact hQ.1, fun h => (by cases h)⟩
  obtain ⟨v, d, e, hv, h1, R, h2, h3⟩ := key
  subst hv
  have hx := zs_R_eq h2
  exact ⟨d, e, h1, hx.1, fun k hk => by rw [← hx.2 k hk]; exact h3 k hk⟩
set_option maxHeartbeats 2000000 in
theorem rm_why (hW : zW f n) (hV : zV 92 b f) (hE : zME b f n) {nu : Nat → Nat} (hN : zMN b nu f n) : ∃ b' w, zm 243 0 [z_r 91, none, none] [] b = some (some (.inl w), b') ∧ zK 91 [117, 118] [43] b b' ∧ zs_rl f n (zs_R f n) ∧ (zs_no f n nu → w = -1000000005) ∧ (¬ zs_no f n nu → (600 < zs_M nu (zs_B f n n) → w = -1000000004) ∧ (¬ 600 < zs_M nu (zs_B f n n) → w = 0 ∧ b'.1 91 43 = nI (zs_M nu (zs_B f n n)) ∧ ∀ e, e < zs_B f n n → 0 < nu e → b'.1 118 e = nI (zs_M nu e))) := by
  have hn := hW.le
  have hB := zs_B812 (f := f) hn (Nat.le_refl n)
  obtain ⟨b1, e1, k1, hrl, hR⟩ := rm_comes hW hV hE
  have hV1 := hV.k k1 (by decide) rfl
  have hE1 := hE.k k1 rfl rfl rfl rfl
  have hN1 := hN.k k1 rfl
  rw [em_243_0, e1]
  simp only [Bool.false_eq_true, reduceCtorEq, Nat.not_lt_zero, cond_true, cond_false, ↓reduceIte, if_true, if_false, Option.toList_some, Option.toList_none, List.nil_append, List.cons_append, Option.bind_some]
  rw [em_243_2]
  by_cases hno1 : ∃ k, k < n ∧ zs_R f n k = true ∧ zs_B f n k = zs_B f n (k + 1)
  · -- an order without an edge
    have key := zl_up (F := fun k c => zm 243 5 [z_r 91, z_i (nI k), none] [] c) (n := n) (I := fun k c => c = b1 ∧ ∀ j, j < k → ¬ (zs_R f n j = true ∧ zs_B f n j = zs_B f n (j + 1))) (Q := fun v c => v = some (.inl (-1000000005)) ∧ c = b1)
      (by
        rintro k c hk ⟨hc, h2⟩
        subst hc
        try dsimp only
        have r1 := hR k (by omega)
        have r2 := hE1.2.2 k (by omega)
        have r3 := hE1.2.2 (k + 1) (by omega)
        have l1 := zs_B812 (f := f) hn (show k ≤ n by omega)
        have l2 := zs_B812 (f := f) hn (show k + 1 ≤ n by omega)
        rw [em_243_5, hV1.sz hW]
        simp (disch := omega) only [zb_ltl, zb_llt, zb_eql, zb_leq, nI_ltI, nI_eq, zb_in, nI_clamp, zb_al, zb_la, zb_ml, zb_lm, zb_mul, nI_add, Bool.false_eq_true, reduceCtorEq, Nat.not_lt_zero, cond_true, cond_false, ↓reduceIte, if_true, if_false, Option.toList_some, Option.toList_none, List.nil_append, List.cons_append, Option.bind_some, hk, r1, r2, r3]
        cases hr : zs_R f n k with
        | false =>
          left
          simp only [Bool.false_eq_true, reduceCtorEq, Nat.not_lt_zero, cond_true, cond_false, ↓reduceIte, if_true, if_false, Option.toList_some, Option.toList_none, List.nil_append, List.cons_append, Option.bind_some]
          exact ⟨c, ⟨rfl, fun j hj => by
            by_cases hjk : j = k
            · subst hjk; rw [hr]; exact fun q => by cases q.1
            · exact h2 j (by omega)⟩, rfl⟩
        | true =>
          simp only [Bool.false_eq_true, reduceCtorEq, Nat.not_lt_zero, cond_true, cond_false, ↓reduceIte, if_true, if_false, Option.toList_some, Option.toList_none, List.nil_append, List.cons_append, Option.bind_some, show ¬ (1 : Int32) = 0 by decide]
          by_cases hb : zs_B f n k = zs_B f n (k + 1)
          · right
            rw [if_pos hb]
            exact zw_ret ⟨rfl, rfl⟩
          · left
            rw [if_neg hb]
            exact ⟨c, ⟨rfl, fun j hj => by
              by_cases hjk : j = k
              · subst hjk; exact fun q => hb q.2
              · exact h2 j (by omega)⟩, rfl⟩)
      (by
        rintro c ⟨hc, h2⟩
        obtain ⟨k, q1, q2⟩ := hno1
        exact absurd q2 (h2 k q1))
      0 b1 (Nat.zero_le _) ⟨rfl, fun j hj => absurd hj (Nat.not_lt_zero j)⟩
    obtain ⟨v, d, e, hv, hd⟩ := key
    subst hv hd
    exact ⟨d, _, e, k1.up rfl rfl, hrl, fun _ => rfl, fun h => absurd (Or.inl hno1) h⟩
  · have hskip := zl_eq (G := fun k => zm 243 5 [z_r 91, z_i (nI k), none] [] b1) (n := n) (by
      intro k hk
      try dsimp only
      have r1 := hR k (by omega)
      have r2 := hE1.2.2 k (by omega)
      have r3 := hE1.2.2 (k + 1) (by omega)
      have l1 := zs_B812 (f := f) hn (show k ≤ n by omega)
      have l2 := zs_B812 (f := f) hn (show k + 1 ≤ n by omega)
      rw [em_243_5, hV1.sz hW]
      simp (disch := omega) only [zb_ltl, zb_llt, zb_eql, zb_leq, nI_ltI, nI_eq, zb_in, nI_clamp, zb_al, zb_la, zb_ml, zb_lm, zb_mul, nI_add, Bool.false_eq_true, reduceCtorEq, Nat.not_lt_zero, cond_true, cond_false, ↓reduceIte, if_true, if_false, Option.toList_some, Option.toList_none, List.nil_append, List.cons_append, Option.bind_some, hk, r1, r2, r3]
      cases hr : zs_R f n k with
      | false => simp only [Bool.false_eq_true, reduceCtorEq, Nat.not_lt_zero, cond_true, cond_false, ↓reduceIte, if_true, if_false, Option.toList_some, Option.toList_none, List.nil_append, List.cons_append, Option.bind_some]
      | true =>
        simp only [Bool.false_eq_true, reduceCtorEq, Nat.not_lt_zero, cond_true, cond_false, ↓reduceIte, if_true, if_false, Option.toList_some, Option.toList_none, List.nil_append, List.cons_append, Option.bind_some, show ¬ (1 : Int32) = 0 by decide]
        rw [if_neg (fun q => hno1 ⟨k, hk, hr, q⟩)]) n (Nat.le_refl n)
    rw [show zm 243 5 [z_r 91, z_i 0, none] [] b1 = _ from hskip]
    try dsimp only
    rw [em_243_5, hV1.sz hW]
    simp (disch := omega) only [zb_ltl, zb_llt, zb_eql, zb_leq, nI_ltI, nI_eq, zb_in, nI_clamp, zb_al, zb_la, zb_ml, zb_lm, zb_mul, nI_add, Bool.false_eq_true, reduceCtorEq, Nat.not_lt_zero, cond_true, cond_false, ↓reduceIte, if_true, if_false, Option.toList_some, Option.toList_none, List.nil_append, List.cons_append, Option.bind_some, Nat.lt_irrefl]
    have key := zl_up (F := fun e c => zm 243 39 [z_r 91, z_i (if decide (600 < zs_M nu e) = true then 1 else 0), z_i (nI e)] [] c) (n := zs_B f n n) (I := fun e c => zK 91 [118] [43] b1 c ∧ (¬ 600 < zs_M nu e → c.1 91 43 = nI (zs_M nu e) ∧ ∀ j, j < e → 0 < nu j → c.1 118 j = nI (zs_M nu j)) ∧ ∀ j, j < e → ¬ (zs_R f n (zs_E f n j).1 = true ∧ zs_tn f n j = true ∧ nu j = 0))
      (Q := fun v c => ∃ w, v = some (.inl w) ∧ zK 91 [118] [43] b1 c ∧ (zs_no f n nu → w = -1000000005) ∧ (¬ zs_no f n nu → (600 < zs_M nu (zs_B f n n) → w = -1000000004) ∧ (¬ 600 < zs_M nu (zs_B f n n) → w = 0 ∧ c.1 91 43 = nI (zs_M nu (zs_B f n n)) ∧ ∀ e, e < zs_B f n n → 0 < nu e → c.1 118 e = nI (zs_M nu e))))
      (by
        rintro e c he ⟨h1, h2, h3⟩
        try dsimp only
        have hEc := hE1.k h1 rfl rfl rfl rfl
        obtain ⟨g1, g2⟩ := hEc.2.1 e he
        obtain ⟨hlt1, hlt2⟩ := zs_Elt he
        obtain ⟨n1, n2, n3⟩ := (hN1.k h1 rfl) e he
        have r1 := (hR.k h1 rfl) (zs_E f n e).1 (by omega)
        have hMs : zs_M nu (e + 1) = zs_M nu e * max 1 (nu e) := rfl
        rw [em_243_39, hEc.1, nI_clamp (n := e) (by omega), g1, g2]
        simp (disch := omega) only [zb_ltl, zb_llt, zb_eql, zb_leq, nI_ltI, nI_eq, zb_in, nI_clamp, zb_al, zb_la, zb_ml, zb_lm, zb_mul, nI_add, Bool.false_eq_true, reduceCtorEq, Nat.not_lt_zero, cond_true, cond_false, ↓reduceIte, if_true, if_false, Option.toList_some, Option.toList_none, List.nil_append, List.cons_append, Option.bind_some, he, n1, zb_m1lt, zb_sac, r1]
        by_cases ht : (zs_E f n e).1 < (zs_E f n e).2
        · left
          have hnt : ¬ zs_tn f n e = true := by unfold zs_tn; rw [decide_eq_true_eq]; omega
          have hnu : nu e = 0 := by
            apply Classical.byContradiction
            intro hc
            exact hnt (n3 (by omega))
          have hMe : zs_M nu (e + 1) = zs_M nu e := by rw [hMs, hnu]; exact Nat.mul_one _
          simp only [ht, Bool.false_eq_true, reduceCtorEq, Nat.not_lt_zero, cond_true, cond_false, ↓reduceIte, if_true, if_false, Option.toList_some, Option.toList_none, List.nil_append, List.cons_append, Option.bind_some, hMe]
          refine ⟨c, ⟨h1, fun q => ⟨(h2 q).1, fun j hj hj2 => ?_⟩, fun j hj => ?_⟩, rfl⟩
          · by_cases hje : j = e
            · subst hje; omega
            · exact (h2 q).2 j (by omega) hj2
          · by_cases hje : j = e
            · subst hje; exact fun q => hnt q.2.1
            · exact h3 j (by omega)
        · have htn : zs_tn f n e = true := by unfold zs_tn; rw [decide_eq_true_eq]; omega
          simp only [ht, Bool.false_eq_true, reduceCtorEq, Nat.not_lt_zero, cond_true, cond_false, ↓reduceIte, if_true, if_false, Option.toList_some, Option.toList_none, List.nil_append, List.cons_append, Option.bind_some]
          by_cases h0 : nu e = 0
          · simp only [h0, Bool.false_eq_true, reduceCtorEq, Nat.not_lt_zero, cond_true, cond_false, ↓reduceIte, if_true, if_false, Option.toList_some, Option.toList_none, List.nil_append, List.cons_append, Option.bind_some]
            have hMe : zs_M nu (e + 1) = zs_M nu e := by rw [hMs, h0]; exact Nat.mul_one _
            cases hr : zs_R f n (zs_E f n e).1 with
            | true =>
              right
              simp only [Bool.false_eq_true, reduceCtorEq, Nat.not_lt_zero, cond_true, cond_false, ↓reduceIte, if_true, if_false, Option.toList_some, Option.toList_none, List.nil_append, List.cons_append, Option.bind_some, show ¬ (1 : Int32) = 0 by decide]
              exact zw_ret ⟨_, rfl, h1, fun _ => rfl, fun q => absurd (Or.inr ⟨e, he, hr, htn, h0⟩) q⟩
            | false =>
              left
              simp only [Bool.false_eq_true, reduceCtorEq, Nat.not_lt_zero, cond_true, cond_false, ↓reduceIte, if_true, if_false, Option.toList_some, Option.toList_none, List.nil_append, List.cons_append, Option.bind_some, hMe]
              refine ⟨c, ⟨h1, fun q => ⟨(h2 q).1, fun j hj hj2 => ?_⟩, fun j hj => ?_⟩, rfl⟩
              · by_cases hje : j = e
                · subst hje; omega
                · exact (h2 q).2 j (by omega) hj2
              · by_cases hje : j = e
                · subst hje; rw [hr]; exact fun q => by cases q.1
                · exact h3 j (by omega)
          · left
            have hMe : zs_M nu (e + 1) = zs_M nu e * nu e := by rw [hMs, Nat.max_eq_right (by omega)]
            simp only [h0, Bool.false_eq_true, reduceCtorEq, Nat.not_lt_zero, cond_true, cond_false, ↓reduceIte, if_true, if_false, Option.toList_some, Option.toList_none, List.nil_append, List.cons_append, Option.bind_some, zb_fl0]
            by_cases h6 : 600 < zs_M nu e
            · have h6' : 600 < zs_M nu (e + 1) := Nat.lt_of_lt_of_le h6 (zs_M_le nu (Nat.le_succ e))
              simp only [h6, h6', Bool.false_eq_true, reduceCtorEq, Nat.not_lt_zero, cond_true, cond_false, ↓reduceIte, if_true, if_false, Option.toList_some, Option.toList_none, List.nil_append, List.cons_append, Option.bind_some, decide_true]
              refine ⟨_, ⟨(h1.u (c := 118) _ _ (by decide) rfl).f _ rfl, fun q => absurd trivial q, fun j hj => ?_⟩, rfl⟩
              by_cases hje : j = e
              · subst hje; exact fun q => h0 q.2.2
              · exact h3 j (by omega)
            · obtain ⟨p1, p2⟩ := h2 h6
              have hle : zs_M nu e * nu e ≤ 600 * 10 := Nat.mul_le_mul (by omega) n2
              simp (disch := omega) only [h6, zb_ltl, zb_llt, zb_eql, zb_leq, nI_ltI, nI_eq, zb_in, nI_clamp, zb_al, zb_la, zb_ml, zb_lm, zb_mul, nI_add, Bool.false_eq_true, reduceCtorEq, Nat.not_lt_zero, cond_true, cond_false, ↓reduceIte, if_true, if_false, Option.toList_some, Option.toList_none, List.nil_append, List.cons_append, Option.bind_some, decide_false, p1]
              have fin : ∀ j, j < e + 1 → 0 < nu j → (zd_u (zd_u c 118 e (nI (zs_M nu e))) 91 43 (nI (zs_M nu e * nu e))).1 118 j = nI (zs_M nu j) := by
                intro j hj hj2
                rw [zb_uc _ _ _ _ (by decide)]
                by_cases hje : j = e
                · subst hje; exact zb_ue _ _ _ _
                · rw [zb_ui _ _ _ _ hje]; exact p2 j (by omega) hj2
              have fin2 : ∀ j, j < e + 1 → ¬ (zs_R f n (zs_E f n j).1 = true ∧ zs_tn f n j = true ∧ nu j = 0) := by
                intro j hj
                by_cases hje : j = e
                · subst hje; exact fun q => h0 q.2.2
                · exact h3 j (by omega)
              refine ⟨zd_u (zd_u c 118 e (nI (zs_M nu e))) 91 43 (nI (zs_M nu e * nu e)), ⟨(h1.u (c := 118) _ _ (by decide) rfl).f _ rfl, fun q => ⟨by rw [zb_ue, hMe], fin⟩, fin2⟩, ?_⟩
              rw [hMe]
              by_cases h7 : 600 < zs_M nu e * nu e
              · simp only [h7, Bool.false_eq_true, reduceCtorEq, Nat.not_lt_zero, cond_true, cond_false, ↓reduceIte, if_true, if_false, Option.toList_some, Option.toList_none, List.nil_append, List.cons_append, Option.bind_some, decide_true]
              · simp only [h7, Bool.false_eq_true, reduceCtorEq, Nat.not_lt_zero, cond_true, cond_false, ↓reduceIte, if_true, if_false, Option.toList_some, Option.toList_none, List.nil_append, List.cons_append, Option.bind_some, decide_false])
      (by
        rintro c ⟨h1, h2, h3⟩
        have hEc := hE1.k h1 rfl rfl rfl rfl
        try dsimp only
        have hno : ¬ zs_no f n nu := by
          rintro (q | ⟨e, q1, q2⟩)
          · exact hno1 q
          · exact h3 e q1 q2
        rw [em_243_39, hEc.1]
        simp (disch := omega) only [zb_ltl, zb_llt, zb_eql, zb_leq, nI_ltI, nI_eq, zb_in, nI_clamp, zb_al, zb_la, zb_ml, zb_lm, zb_mul, nI_add, Bool.false_eq_true, reduceCtorEq, Nat.not_lt_zero, cond_true, cond_false, ↓reduceIte, if_true, if_false, Option.toList_some, Option.toList_none, List.nil_append, List.cons_append, Option.bind_some, Nat.lt_irrefl, zb_fl0]
        by_cases h6 : 600 < zs_M nu (zs_B f n n)
        · simp only [h6, Bool.false_eq_true, reduceCtorEq, Nat.not_lt_zero, cond_true, cond_false, ↓reduceIte, if_true, if_false, Option.toList_some, Option.toList_none, List.nil_append, List.cons_append, Option.bind_some, decide_true]
          exact zw_ret ⟨_, rfl, h1, fun q => absurd q hno, fun _ => ⟨fun _ => rfl, fun q => absurd trivial q⟩⟩
        · simp only [h6, Bool.false_eq_true, reduceCtorEq, Nat.not_lt_zero, cond_true, cond_false, ↓reduceIte, if_true, if_false, Option.toList_some, Option.toList_none, List.nil_append, List.cons_append, Option.bind_some, decide_false]
          exact zw_ret ⟨_, rfl, h1, fun q => absurd q hno, fun _ => ⟨fun q => q.elim, fun _ => ⟨rfl, h2 h6⟩⟩⟩)
      0 (zd_u b1 91 43 1) (Nat.zero_le _) ⟨zK.rf.f _ rfl, fun _ => ⟨zb_ue _ _ _ _, fun j hj => absurd hj (Nat.not_lt_zero j)⟩, fun j hj => absurd hj (Nat.not_lt_zero j)⟩
    obtain ⟨v, d, e, w, hv, h1, h2, h3⟩ := key
    subst hv
    exact ⟨d, w, e, (k1.up rfl rfl).tr (h1.up rfl rfl), hrl, h2, h3⟩
end RmPath
