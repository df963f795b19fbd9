/-! ===== what must be there: the reference comes to its end ===== -/
section RmMst
variable {b b' : zd_D} {f : zF} {n : Nat}
set_option maxHeartbeats 4000000 in
theorem rm_pass (hW : zW f n) (hV : zV 92 b f) {X Z : Nat → Nat} (hX : zMX b f n X) (hZ : ∀ i, i < 464 → b.1 116 i = zp (zs_p1 f (Z i))) (hZ2 : ∀ i, Z i ≤ zs_rem f + 1) :
    ∃ b', zm 195 32 [z_r 91, z_i 0, none] [] b = zm 195 26 [z_r 91, z_i (if zs_any (fun j => decide (16 ≤ j ∧ X j + 1 < Z j)) (16 * n) = true then 1 else 0), none] [] b' ∧ zK 91 [113] [] b b' ∧ zMX b' f n (fun i => if 16 ≤ i then max (X i) (Z i - 1) else X i) := by
  have hn := hW.le
  obtain ⟨hr1, hr4⟩ := hW.rem
  rw [em_195_32]
  have hany16 : ∀ m, m ≤ 16 → zs_any (fun j => decide (16 ≤ j ∧ X j + 1 < Z j)) m = false := by
    intro m hm
    cases h : zs_any (fun j => decide (16 ≤ j ∧ X j + 1 < Z j)) m with
    | false => rfl
    | true =>
      obtain ⟨j, h1, h2⟩ := zs_any_iff.mp h
      have := of_decide_eq_true h2
      omega
  by_cases hn0 : n = 0
  · subst hn0
    rw [em_195_35, hV.sz hW]
    simp (disch := omega) only [zb_ltl, zb_llt, zb_eql, zb_leq, nI_ltI, nI_eq, zb_in, nI_clamp, zb_al, zb_la, zb_ml, zb_lm, zb_mul, nI_add, Bool.false_eq_true, reduceCtorEq, Nat.not_lt_zero, cond_true, cond_false, ↓reduceIte, if_true, if_false, Option.toList_some, Option.toList_none, List.nil_append, List.cons_append, Option.bind_some, show ¬ 16 < 16 * 0 by omega, hany16 (16 * 0) (by omega)]
    exact ⟨b, rfl, zK.rf, fun i hi => absurd hi (by omega)⟩
  obtain ⟨c2, ⟨h1, h2⟩, e2⟩ := zl_to (F := fun i c => zm 195 35 [z_r 91, z_i (if zs_any (fun j => decide (16 ≤ j ∧ X j + 1 < Z j)) i = true then 1 else 0), z_i (nI i)] [] c) (I := fun i c => zK 91 [113] [] b c ∧ 16 ≤ i ∧ ∀ j, j < 16 * n → c.1 113 j = nI (zs_ph f (if 16 ≤ j ∧ j < i then max (X j) (Z j - 1) else X j))) (n := 16 * n)
    (by
      rintro i c hi ⟨h1, h16, h2⟩
      try dsimp only
      have hVc := hV.k h1 (by decide) rfl
      have g1 := h2 i hi
      rw [if_neg (fun q => by omega), zs_ph_p1] at g1
      have g2 : c.1 116 i = zp (zs_p1 f (Z i)) := by rw [h1.1 116 (by decide) rfl]; exact hZ i (by omega)
      have hXi := (hX i hi).2
      have hZi := hZ2 i
      have q5 := zs_p1_le f (Z i) hr4
      have q6 := zs_p1_le f (X i + 1) hr4
      have fin : ∀ y : Int32, y = nI (zs_ph f (max (X i) (Z i - 1))) → ∀ j, j < 16 * n → (zd_u c 113 i y).1 113 j = nI (zs_ph f (if 16 ≤ j ∧ j < i + 1 then max (X j) (Z j - 1) else X j)) := by
        intro y hy j hj
        by_cases hji : j = i
        · subst hji
          rw [zb_ue, hy, if_pos ⟨h16, by omega⟩]
        · rw [zb_ui _ _ _ _ hji, h2 j hj]
          by_cases hc : 16 ≤ j ∧ j < i
          · rw [if_pos hc, if_pos ⟨hc.1, by omega⟩]
          · rw [if_neg hc, if_neg (fun q => hc ⟨q.1, by omega⟩)]
      have hs : zs_any (fun j => decide (16 ≤ j ∧ X j + 1 < Z j)) (i + 1) = (zs_any (fun j => decide (16 ≤ j ∧ X j + 1 < Z j)) i || decide (X i + 1 < Z i)) := by
        show (_ || decide (16 ≤ i ∧ X i + 1 < Z i)) = _
        congr 1
        exact decide_eq_decide.mpr ⟨fun q => q.2, fun q => ⟨h16, q⟩⟩
      rw [hs, em_195_35, hVc.sz hW]
      simp (disch := omega) only [zb_ltl, zb_llt, zb_eql, zb_leq, nI_ltI, nI_eq, zb_in, nI_clamp, zb_al, zb_la, zb_ml, zb_lm, zb_mul, nI_add, Bool.false_eq_true, reduceCtorEq, Nat.not_lt_zero, cond_true, cond_false, ↓reduceIte, if_true, if_false, Option.toList_some, Option.toList_none, List.nil_append, List.cons_append, Option.bind_some, hi, g1, g2, zp_lt, zs_p1_lt hr4]
      cases hany : zs_any (fun j => decide (16 ≤ j ∧ X j + 1 < Z j)) i with
      | false =>
        simp only [Bool.false_or, Bool.false_eq_true, reduceCtorEq, Nat.not_lt_zero, cond_true, cond_false, ↓reduceIte, if_true, if_false, Option.toList_some, Option.toList_none, List.nil_append, List.cons_append, Option.bind_some]
        by_cases hcmp : X i + 1 < Z i
        · simp only [hcmp, show ¬ Z i < X i + 1 by omega, Bool.false_eq_true, reduceCtorEq, Nat.not_lt_zero, cond_true, cond_false, ↓reduceIte, if_true, if_false, Option.toList_some, Option.toList_none, List.nil_append, List.cons_append, Option.bind_some, decide_true]
          refine ⟨_, ⟨h1.u _ _ (by decide) rfl, by omega, fin _ ?_⟩, rfl⟩
          rw [Nat.max_eq_right (by omega), zs_ph_p1, show Z i - 1 + 1 = Z i by omega]
        · simp only [hcmp, Bool.false_eq_true, reduceCtorEq, Nat.not_lt_zero, cond_true, cond_false, ↓reduceIte, if_true, if_false, Option.toList_some, Option.toList_none, List.nil_append, List.cons_append, Option.bind_some, decide_false]
          by_cases hcm2 : Z i < X i + 1
          · simp only [hcm2, Bool.false_eq_true, reduceCtorEq, Nat.not_lt_zero, cond_true, cond_false, ↓reduceIte, if_true, if_false, Option.toList_some, Option.toList_none, List.nil_append, List.cons_append, Option.bind_some]
            refine ⟨_, ⟨h1.u _ _ (by decide) rfl, by omega, fin _ ?_⟩, rfl⟩
            rw [Nat.max_eq_left (by omega), zs_ph_p1]
          · simp only [hcm2, Bool.false_eq_true, reduceCtorEq, Nat.not_lt_zero, cond_true, cond_false, ↓reduceIte, if_true, if_false, Option.toList_some, Option.toList_none, List.nil_append, List.cons_append, Option.bind_some]
            refine ⟨_, ⟨h1.u _ _ (by decide) rfl, by omega, fin _ ?_⟩, rfl⟩
            rw [Nat.max_eq_left (by omega), zs_ph_p1, show Z i = X i + 1 by omega]
      | true =>
        simp only [Bool.true_or, show ¬ (1 : Int32) = 0 by decide, Bool.false_eq_true, reduceCtorEq, Nat.not_lt_zero, cond_true, cond_false, ↓reduceIte, if_true, if_false, Option.toList_some, Option.toList_none, List.nil_append, List.cons_append, Option.bind_some]
        by_cases hcm2 : Z i < X i + 1
        · simp only [hcm2, Bool.false_eq_true, reduceCtorEq, Nat.not_lt_zero, cond_true, cond_false, ↓reduceIte, if_true, if_false, Option.toList_some, Option.toList_none, List.nil_append, List.cons_append, Option.bind_some]
          refine ⟨_, ⟨h1.u _ _ (by decide) rfl, by omega, fin _ ?_⟩, rfl⟩
          rw [Nat.max_eq_left (by omega), zs_ph_p1]
        · simp only [hcm2, Bool.false_eq_true, reduceCtorEq, Nat.not_lt_zero, cond_true, cond_false, ↓reduceIte, if_true, if_false, Option.toList_some, Option.toList_none, List.nil_append, List.cons_append, Option.bind_some]
          refine ⟨_, ⟨h1.u _ _ (by decide) rfl, by omega, fin _ ?_⟩, rfl⟩
          rw [Nat.max_eq_right (by omega), zs_ph_p1, show Z i - 1 + 1 = Z i by omega])
    16 b (by omega) ⟨zK.rf, by omega, fun j hj => by rw [if_neg (fun q => by omega)]; exact (hX j hj).1⟩
  try dsimp only at e2
  rw [hany16 16 (by omega)] at e2
  rw [show zm 195 35 [z_r 91, z_i 0, z_i 16] [] b = _ from e2, em_195_35, (hV.k h1 (by decide) rfl).sz hW]
  simp (disch := omega) only [zb_ltl, zb_llt, zb_eql, zb_leq, nI_ltI, nI_eq, zb_in, nI_clamp, zb_al, zb_la, zb_ml, zb_lm, zb_mul, nI_add, Bool.false_eq_true, reduceCtorEq, Nat.not_lt_zero, cond_true, cond_false, ↓reduceIte, if_true, if_false, Option.toList_some, Option.toList_none, List.nil_append, List.cons_append, Option.bind_some, Nat.lt_irrefl]
  refine ⟨c2, rfl, h1, fun i hi => ⟨?_, ?_⟩⟩
  · try dsimp only
    rw [h2.2 i hi]
    by_cases hc : 16 ≤ i
    · rw [if_pos ⟨hc, hi⟩, if_pos hc]
    · rw [if_neg (fun q => hc q.1), if_neg hc]
  · dsimp only
    have := (hX i hi).2
    have := hZ2 i
    split <;> omega
set_option maxHeartbeats 4000000 in
theorem rm_must (hW : zW f n) (hV : zV 92 b f) (hE : zME b f n) : ∃ b', zm 195 0 [z_r 91, none, none] [] b = some (none, b') ∧ zK 91 [113, 116] [] b b' ∧ zs_must f n (b.1 92 9) (zs_X f n (b.1 92 9)) ∧ zMX b' f n (zs_X f n (b.1 92 9)) := by
  have hn := hW.le
  have hB := zs_B812 (f := f) hn (Nat.le_refl n)
  obtain ⟨hr1, hr4⟩ := hW.rem
  rw [em_195_0]
  obtain ⟨b1, ⟨hK1, hf1⟩, e1⟩ := zl_to (F := fun i c => zm 195 3 [z_r 91, z_i (nI i), none] [] c) (I := fun i c => zK 91 [113] [] b c ∧ ∀ j, j < i → c.1 113 j = nI (zs_ph f (if j < 16 then zs_rem f else 0))) (n := 16 * n)
    (by
      rintro i c hi ⟨h1, h2⟩
      try dsimp only
      have hVc := hV.k h1 (by decide) rfl
      have fin : ∀ y : Int32, y = nI (zs_ph f (if i < 16 then zs_rem f else 0)) → ∀ j, j < i + 1 → (zd_u c 113 i y).1 113 j = nI (zs_ph f (if j < 16 then zs_rem f else 0)) := by
        intro y hy j hj
        by_cases hji : j = i
        · subst hji; rw [zb_ue]; exact hy
        · rw [zb_ui _ _ _ _ hji]; exact h2 j (by omega)
      rw [em_195_3, hVc.sz hW]
      simp (disch := omega) only [zb_ltl, zb_llt, zb_eql, zb_leq, nI_ltI, nI_eq, zb_in, nI_clamp, zb_al, zb_la, zb_ml, zb_lm, zb_mul, nI_add, Bool.false_eq_true, reduceCtorEq, Nat.not_lt_zero, cond_true, cond_false, ↓reduceIte, if_true, if_false, Option.toList_some, Option.toList_none, List.nil_append, List.cons_append, Option.bind_some, hi]
      by_cases h16 : i < 16
      · simp only [h16, Bool.false_eq_true, reduceCtorEq, Nat.not_lt_zero, cond_true, cond_false, ↓reduceIte, if_true, if_false, Option.toList_some, Option.toList_none, List.nil_append, List.cons_append, Option.bind_some]
        exact ⟨_, ⟨h1.u _ _ (by decide) rfl, fin _ (by rw [if_pos h16]; unfold zs_ph; rw [if_neg (Nat.lt_irrefl _)]; rfl)⟩, rfl⟩
      · simp only [h16, Bool.false_eq_true, reduceCtorEq, Nat.not_lt_zero, cond_true, cond_false, ↓reduceIte, if_true, if_false, Option.toList_some, Option.toList_none, List.nil_append, List.cons_append, Option.bind_some]
        exact ⟨_, ⟨h1.u _ _ (by decide) rfl, fin _ (by rw [if_neg h16]; unfold zs_ph; rw [if_pos (by omega)]; rfl)⟩, rfl⟩) 0 b (Nat.zero_le _) ⟨zK.rf, fun j hj => absurd hj (Nat.not_lt_zero j)⟩
  rw [show zm 195 3 [z_r 91, z_i 0, none] [] b = _ from e1]
  try dsimp only
  rw [em_195_3, (hV.k hK1 (by decide) rfl).sz hW]
  simp (disch := omega) only [zb_ltl, zb_llt, zb_eql, zb_leq, nI_ltI, nI_eq, zb_in, nI_clamp, zb_al, zb_la, zb_ml, zb_lm, zb_mul, nI_add, Bool.false_eq_true, reduceCtorEq, Nat.not_lt_zero, cond_true, cond_false, ↓reduceIte, if_true, if_false, Option.toList_some, Option.toList_none, List.nil_append, List.cons_append, Option.bind_some, Nat.lt_irrefl]
  have key := zl_ms (α := zd_D × (Nat → Nat) × Bool) (G := fun s => zm 195 26 [z_r 91, z_i (if s.2.2 = true then 1 else 0), none] [] s.1)
    (J := fun s => zK 91 [113, 116] [] b s.1 ∧ zMX s.1 f n s.2.1 ∧ (∀ l, l < 16 → s.2.1 l = zs_rem f) ∧ (∀ Y, zs_mc f n (b.1 92 9) Y → ∀ i, i < 16 * n → s.2.1 i ≤ Y i) ∧ (s.2.2 = false → zs_mc f n (b.1 92 9) s.2.1))
    (P := fun v c => v = none ∧ zK 91 [113, 116] [] b c ∧ ∃ X, zs_must f n (b.1 92 9) X ∧ zMX c f n X)
    (fun s => 2 * zs_sum (fun i => zs_rem f - s.2.1 i) (16 * n) + (if s.2.2 = true then 1 else 0))
    (by
      rintro ⟨c, X, more⟩ ⟨h1, h2, h3, h4, h5⟩
      dsimp only at h1 h2 h3 h4 h5 ⊢
      rw [em_195_26]
      cases more with
      | false =>
        right
        simp only [Bool.false_eq_true, reduceCtorEq, Nat.not_lt_zero, cond_true, cond_false, ↓reduceIte, if_true, if_false, Option.toList_some, Option.toList_none, List.nil_append, List.cons_append, Option.bind_some]
        exact zw_ret ⟨rfl, h1, X, ⟨h5 rfl, fun i hi => (h2 i hi).2, h4⟩, h2⟩
      | true =>
        left
        simp only [Bool.false_eq_true, reduceCtorEq, Nat.not_lt_zero, cond_true, cond_false, ↓reduceIte, if_true, if_false, Option.toList_some, Option.toList_none, List.nil_append, List.cons_append, Option.bind_some, show ¬ (1 : Int32) = 0 by decide]
        have hVc := hV.k h1 (by decide) rfl
        have hEc := hE.k h1 rfl rfl rfl rfl
        have h9 : c.1 92 9 = b.1 92 9 := by rw [h1.1 92 (by decide) rfl]
        obtain ⟨c1, g1, g2, g3⟩ := rm_met hW hVc hEc h2
        rw [g1, h9] at *
        simp only [Bool.false_eq_true, reduceCtorEq, Nat.not_lt_zero, cond_true, cond_false, ↓reduceIte, if_true, if_false, Option.toList_some, Option.toList_none, List.nil_append, List.cons_append, Option.bind_some]
        have hXr : ∀ i, i < 16 * n → X i ≤ zs_rem f := fun i hi => (h2 i hi).2
        obtain ⟨c2, i1, i2, i3⟩ := rm_pass hW (hVc.k g2 (by decide) rfl) (h2.k g2 rfl) g3 (fun i => zs_Z_le hW hXr _ i (Nat.le_refl _))
        rw [i1]
        refine ⟨(c2, (fun i => if 16 ≤ i then max (X i) (zs_Z f n (b.1 92 9) X (zs_B f n n) i - 1) else X i), zs_any (fun j => decide (16 ≤ j ∧ X j + 1 < zs_Z f n (b.1 92 9) X (zs_B f n n) j)) (16 * n)), ⟨(h1.tr (g2.up rfl rfl)).tr (i2.up rfl rfl), i3, ?_, ?_, ?_⟩, ?_, rfl⟩
        · intro l hl
          try dsimp only
          rw [if_neg (by omega)]
          exact h3 l hl
        · intro Y hY i hi
          try dsimp only
          have q1 := h4 Y hY i hi
          by_cases hc : 16 ≤ i
          · rw [if_pos hc]
            have q2 : zs_Z f n (b.1 92 9) X (zs_B f n n) i ≤ Y i + 1 := by
              rw [zs_Z_iff]
              intro j hj he
              have hjl := zs_Elt hj
              have hm := zs_af_mono hW (lk := b.1 92 9) (X := X) (Y := Y) hjl.1 (show i % 16 < 16 by omega) (fun l hl => h4 Y hY _ (by omega)) (hXr _ (by omega))
              have hc2 := hY.2 j hj (by omega) (i % 16) (by omega)
              rw [he, show 16 * (i / 16) + i % 16 = i by omega] at hc2
              omega
            omega
          · rw [if_neg hc]; exact q1
        · intro hf
          have hf : zs_any (fun j => decide (16 ≤ j ∧ X j + 1 < zs_Z f n (b.1 92 9) X (zs_B f n n) j)) (16 * n) = false := hf
          have hno : ∀ j, 16 ≤ j → j < 16 * n → zs_Z f n (b.1 92 9) X (zs_B f n n) j ≤ X j + 1 := by
            intro j q1 q2
            by_cases hc : X j + 1 < zs_Z f n (b.1 92 9) X (zs_B f n n) j
            · have := (zs_any_iff (p := fun j => decide (16 ≤ j ∧ X j + 1 < zs_Z f n (b.1 92 9) X (zs_B f n n) j)) (n := 16 * n)).mpr ⟨j, q2, decide_eq_true (show 16 ≤ j ∧ X j + 1 < zs_Z f n (b.1 92 9) X (zs_B f n n) j from ⟨q1, hc⟩)⟩
              rw [hf] at this
              cases this
            · omega
          have hsame : ∀ i, i < 16 * n → (if 16 ≤ i then max (X i) (zs_Z f n (b.1 92 9) X (zs_B f n n) i - 1) else X i) = X i := by
            intro i hi
            by_cases hc : 16 ≤ i
            · rw [if_pos hc]
              have := hno i hc hi
              omega
            · rw [if_neg hc]
          refine ⟨fun l hl => ?_, fun e he ht l hl => ?_⟩
          · dsimp only
            rw [if_neg (by omega), h3 l hl]
            exact Nat.le_refl _
          · have hlt := zs_Elt he
            try dsimp only
            rw [hsame _ (by omega)]
            have hm := zs_af_mono hW (lk := b.1 92 9) (X := fun i => if 16 ≤ i then max (X i) (zs_Z f n (b.1 92 9) X (zs_B f n n) i - 1) else X i) (Y := X) hlt.1 hl (fun l hl => by (try dsimp only); rw [hsame _ (by omega)]; exact Nat.le_refl _) (by (try dsimp only); rw [hsame _ (by omega)]; exact hXr _ (by omega))
            refine Nat.le_trans hm ?_
            by_cases h0 : (zs_E f n e).2 = 0
            · rw [h0, show 16 * 0 + l = l by omega, h3 l hl]
              exact zs_af_le hW hXr hlt.1 hl
            · have q := hno (16 * (zs_E f n e).2 + l) (by omega) (by omega)
              rw [zs_Z_iff] at q
              have q2 := q e he (by omega)
              rw [show (16 * (zs_E f n e).2 + l) % 16 = l by omega] at q2
              omega
        · dsimp only
          cases hany : zs_any (fun j => decide (16 ≤ j ∧ X j + 1 < zs_Z f n (b.1 92 9) X (zs_B f n n) j)) (16 * n) with
          | false =>
            have : zs_sum (fun i => zs_rem f - if 16 ≤ i then max (X i) (zs_Z f n (b.1 92 9) X (zs_B f n n) i - 1) else X i) (16 * n) ≤ zs_sum (fun i => zs_rem f - X i) (16 * n) := zs_sum_le _ (fun i hi => by (try dsimp only); split <;> omega)
            simp only [Bool.false_eq_true, reduceCtorEq, Nat.not_lt_zero, cond_true, cond_false, ↓reduceIte, if_true, if_false, Option.toList_some, Option.toList_none, List.nil_append, List.cons_append, Option.bind_some]
            omega
          | true =>
            obtain ⟨j, q1, q2⟩ := zs_any_iff.mp hany
            have q3 := of_decide_eq_true q2
            have q4 := zs_Z_le hW (lk := b.1 92 9) hXr (zs_B f n n) j (Nat.le_refl _)
            have : zs_sum (fun i => zs_rem f - if 16 ≤ i then max (X i) (zs_Z f n (b.1 92 9) X (zs_B f n n) i - 1) else X i) (16 * n) < zs_sum (fun i => zs_rem f - X i) (16 * n) := zs_sum_lt _ (fun i hi => by (try dsimp only); split <;> omega) ⟨j, q1, by (try dsimp only); rw [if_pos q3.1]; omega⟩
            simp only [if_true]
            omega)
    (b1, fun i => if i < 16 then zs_rem f else 0, true)
    ⟨hK1.up rfl rfl, fun i hi => ⟨hf1 i hi, by (try dsimp only); split <;> omega⟩, fun l hl => if_pos hl, fun Y hY i hi => by
      try dsimp only
      by_cases hc : i < 16
      · rw [if_pos hc]; exact hY.1 i hc
      · rw [if_neg hc]; exact Nat.zero_le _, fun h => by cases h⟩
  obtain ⟨v, d, e, hv, h1, X, h2, h3⟩ := key
  subst hv
  have hx := zs_X_eq h2
  exact ⟨d, e, h1, hx.1, fun i hi => by rw [← hx.2 i hi]; exact h3 i hi⟩
end RmMst
