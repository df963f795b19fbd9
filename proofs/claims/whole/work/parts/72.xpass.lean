/-! ===== the class: one order's edges, one pass ===== -/
section RxPas2
variable {nl : Int32} {a a' : zd_D} {f : zF} {n : Nat} {lk : Int32}
set_option maxHeartbeats 4000000 in
theorem rx_pedge (hW : zW f n) (hP : zAP a f n) {k : Nat} (hk : k < n) {mb : Nat} (hmb : mb < 65536) {Bh : Nat → Nat} (hBh : ∀ l, l < 16 → a.1 56 l = nI (Bh l) ∧ Bh l ≤ zs_rem f) : ∀ m e c X V fl, e + m = zs_B f n (k + 1) → zs_B f n k ≤ e → zK 0 [54, 55] [] a c → zXV c f n lk X V → ∃ c' X' V' fl', zx nl 61 21 [z_r 53, z_i (nI k), z_i (nI mb), z_i (if fl = true then 1 else 0), z_i (nI e), none] [] c = some (some (.inl (if fl' = true then 1 else 0)), c') ∧ zK 0 [54, 55] [] a c' ∧ zXV c' f n lk X' V' ∧ (∀ i, i < 16 * n → X i ≤ X' i) ∧ (∀ k, k < n → zs_in (V k) (V' k)) ∧
    (fl' = false → fl = false ∧ (∀ i, i < 16 * n → X' i = X i) ∧ (∀ k, k < n → V' k = V k) ∧ ∀ j, e ≤ j → j < zs_B f n (k + 1) → (zs_E f n j).2 < n → (∀ l, l < 16 → Bh l ≤ X (16 * (zs_E f n j).2 + l)) ∧ V (zs_E f n j).2 ||| mb = V (zs_E f n j).2) ∧
    (fl' = true → fl = true ∨ (∃ i, i < 16 * n ∧ X i < X' i) ∨ ∃ k, k < n ∧ V k < V' k) ∧
    (∀ Y : Nat → Nat, (∀ j, zs_B f n k ≤ j → j < zs_B f n (k + 1) → (zs_E f n j).2 < n → ∀ l, l < 16 → Bh l ≤ Y (16 * (zs_E f n j).2 + l)) → (∀ i, i < 16 * n → X i ≤ Y i) → ∀ i, i < 16 * n → X' i ≤ Y i) ∧
    (∀ U : Nat → Nat, (∀ j, zs_B f n k ≤ j → j < zs_B f n (k + 1) → (zs_E f n j).2 < n → zs_in mb (U (zs_E f n j).2)) → (∀ k, k < n → zs_in (V k) (U k)) → ∀ k, k < n → zs_in (V' k) (U k)) := by
  have hn := hW.le
  have hBn := zs_B812 (f := f) hn (show k + 1 ≤ n from hk)
  have hBm : zs_B f n (k + 1) ≤ zs_B f n n := zs_Bm hk
  intro m
  induction m with
  | zero =>
    intro e c X V fl he hlo hK hX
    have heq : e = zs_B f n (k + 1) := by omega
    subst heq
    have hPc := hP.k hK rfl
    have h10 : c.1 10 (k + 1) = nI (zs_B f n (k + 1)) := hPc.2.1.2.1 (k + 1) hk
    refine ⟨c, X, V, fl, ?_, hK, hX, fun _ _ => Nat.le_refl _, fun _ _ => zs_in.rf _, fun h => ⟨h, fun _ _ => rfl, fun _ _ => rfl, fun j h1 h2 => absurd h2 (by omega)⟩, fun h => Or.inl h, fun Y _ h => h, fun U _ h => h⟩
    rw [ex_61_21]
    simp (disch := omega) only [zb_ltl, zb_llt, zb_eql, zb_leq, nI_ltI, nI_eq, zb_in, nI_clamp, zb_al, zb_la, zb_ml, zb_lm, zb_mul, nI_add, Bool.false_eq_true, reduceCtorEq, Nat.not_lt_zero, cond_true, cond_false, ↓reduceIte, if_true, if_false, Option.toList_some, Option.toList_none, List.nil_append, List.cons_append, Option.bind_some, h10, Nat.lt_irrefl, zb_rt]
  | succ m ih =>
    intro e c X V fl he hlo hK hX
    have heB : e < zs_B f n (k + 1) := by omega
    have hPc := hP.k hK rfl
    have h10 : c.1 10 (k + 1) = nI (zs_B f n (k + 1)) := hPc.2.1.2.1 (k + 1) hk
    have h12 : c.1 12 e = nI (zs_E f n e).2 := (hPc.2.1.2.2 e (by omega)).2
    have h30 : c.1 3 0 = nI n := hPc.1.1
    have hEe := zs_Ein (f := f) hk hlo heB
    by_cases ht : (zs_E f n e).2 < n
    · obtain ⟨c2, g1, g2, g3⟩ := rx_meet (nl := nl) hW hX ht hmb (Bh := Bh) (by rw [hK.1 56 (by decide) rfl]; exact hBh)
      have step : zx nl 61 21 [z_r 53, z_i (nI k), z_i (nI mb), z_i (if fl = true then 1 else 0), z_i (nI e), none] [] c = zx nl 61 21 [z_r 53, z_i (nI k), z_i (nI mb), z_i (if (fl || (!decide (V (zs_E f n e).2 ||| mb = V (zs_E f n e).2) || zs_any (fun l => decide (X (16 * (zs_E f n e).2 + l) < Bh l)) 16)) = true then 1 else 0), z_i (nI (e + 1)), none] [] c2 := by
        rw [ex_61_21]
        simp (disch := omega) only [zb_ltl, zb_llt, zb_eql, zb_leq, nI_ltI, nI_eq, zb_in, nI_clamp, zb_al, zb_la, zb_ml, zb_lm, zb_mul, nI_add, Bool.false_eq_true, reduceCtorEq, Nat.not_lt_zero, cond_true, cond_false, ↓reduceIte, if_true, if_false, Option.toList_some, Option.toList_none, List.nil_append, List.cons_append, Option.bind_some, h10, heB, h12, h30, ht, g1]
        rw [ex_61_46, zb_fl, zb_al]
      obtain ⟨c', X', V', fl', i1, i2, i3, i4, i5, i6, i7, i8, i9⟩ := ih (e + 1) c2 _ _ (fl || (!decide (V (zs_E f n e).2 ||| mb = V (zs_E f n e).2) || zs_any (fun l => decide (X (16 * (zs_E f n e).2 + l) < Bh l)) 16)) (by omega) (by omega) (hK.tr g2) g3
      have hle : ∀ i, i < 16 * n → X i ≤ (if i / 16 = (zs_E f n e).2 then max (X i) (Bh (i % 16)) else X i) := by
        intro i _
        split <;> omega
      have hin : ∀ q, q < n → zs_in (V q) (if q = (zs_E f n e).2 then V (zs_E f n e).2 ||| mb else V q) := by
        intro q _
        by_cases hq : q = (zs_E f n e).2
        · rw [if_pos hq, hq]; exact zs_in.l _ _
        · rw [if_neg hq]; exact zs_in.rf _
      refine ⟨c', X', V', fl', step.trans i1, i2, i3, fun i hi => Nat.le_trans (hle i hi) (i4 i hi), fun q hq => (hin q hq).tr (i5 q hq), fun h => ?_, fun h => ?_, fun Y hY hXY => i8 Y hY (fun i hi => ?_), fun U hU hVU => i9 U hU (fun q hq => ?_)⟩
      · obtain ⟨r1, r2, r3, r4⟩ := i6 h
        rw [Bool.or_eq_false_iff, Bool.or_eq_false_iff, Bool.not_eq_false', decide_eq_true_eq] at r1
        obtain ⟨s1, s2, s3⟩ := r1
        have hno : ∀ l, l < 16 → Bh l ≤ X (16 * (zs_E f n e).2 + l) := by
          intro l hl
          by_cases hc : X (16 * (zs_E f n e).2 + l) < Bh l
          · have := (zs_any_iff (p := fun l => decide (X (16 * (zs_E f n e).2 + l) < Bh l)) (n := 16)).mpr ⟨l, hl, decide_eq_true hc⟩
            rw [s3] at this
            cases this
          · omega
        have hXs : ∀ i, (if i / 16 = (zs_E f n e).2 then max (X i) (Bh (i % 16)) else X i) = X i := by
          intro i
          by_cases hc : i / 16 = (zs_E f n e).2
          · rw [if_pos hc]
            have := hno (i % 16) (by omega)
            rw [← hc, show 16 * (i / 16) + i % 16 = i by omega] at this
            omega
          · rw [if_neg hc]
        have hVs : ∀ q, (if q = (zs_E f n e).2 then V (zs_E f n e).2 ||| mb else V q) = V q := by
          intro q
          by_cases hq : q = (zs_E f n e).2
          · rw [if_pos hq, s2, hq]
          · rw [if_neg hq]
        refine ⟨s1, fun i hi => (r2 i hi).trans (hXs i), fun q hq => (r3 q hq).trans (hVs q), fun j h1 h2 h3 => ?_⟩
        by_cases hje : j = e
        · subst hje; exact ⟨hno, s2⟩
        · obtain ⟨t1, t2⟩ := r4 j (by omega) h2 h3
          refine ⟨fun l hl => ?_, ?_⟩
          · have := t1 l hl
            rw [hXs] at this
            exact this
          · rw [hVs] at t2
            exact t2
      · rcases i7 h with r | ⟨i, hi, r⟩ | ⟨q, hq, r⟩
        · rw [Bool.or_eq_true, Bool.or_eq_true, Bool.not_eq_true', decide_eq_false_iff_not] at r
          rcases r with r | r | r
          · exact Or.inl r
          · refine Or.inr (Or.inr ⟨(zs_E f n e).2, ht, ?_⟩)
            have q1 := (i5 _ ht).le
            rw [if_pos rfl] at q1
            have q2 : V (zs_E f n e).2 ≤ V (zs_E f n e).2 ||| mb := Nat.left_le_or
            omega
          · obtain ⟨l, hl, q1⟩ := zs_any_iff.mp r
            have q1 := of_decide_eq_true q1
            refine Or.inr (Or.inl ⟨16 * (zs_E f n e).2 + l, by omega, ?_⟩)
            have q2 := i4 (16 * (zs_E f n e).2 + l) (by omega)
            rw [if_pos (by omega), show (16 * (zs_E f n e).2 + l) % 16 = l by omega] at q2
            omega
        · exact Or.inr (Or.inl ⟨i, hi, Nat.lt_of_le_of_lt (hle i hi) r⟩)
        · exact Or.inr (Or.inr ⟨q, hq, Nat.lt_of_le_of_lt (hin q hq).le r⟩)
      · have q1 := hXY i hi
        (try dsimp only)
        by_cases hc : i / 16 = (zs_E f n e).2
        · rw [if_pos hc]
          have q2 := hY e hlo heB ht (i % 16) (by omega)
          rw [← hc, show 16 * (i / 16) + i % 16 = i by omega] at q2
          omega
        · rw [if_neg hc]; exact q1
      · (try dsimp only)
        by_cases hq2 : q = (zs_E f n e).2
        · rw [if_pos hq2, hq2]
          exact (hVU _ ht).or (hU e hlo heB ht)
        · rw [if_neg hq2]; exact hVU q hq
    · have step : zx nl 61 21 [z_r 53, z_i (nI k), z_i (nI mb), z_i (if fl = true then 1 else 0), z_i (nI e), none] [] c = zx nl 61 21 [z_r 53, z_i (nI k), z_i (nI mb), z_i (if fl = true then 1 else 0), z_i (nI (e + 1)), none] [] c := by
        rw [ex_61_21]
        simp (disch := omega) only [zb_ltl, zb_llt, zb_eql, zb_leq, nI_ltI, nI_eq, zb_in, nI_clamp, zb_al, zb_la, zb_ml, zb_lm, zb_mul, nI_add, Bool.false_eq_true, reduceCtorEq, Nat.not_lt_zero, cond_true, cond_false, ↓reduceIte, if_true, if_false, Option.toList_some, Option.toList_none, List.nil_append, List.cons_append, Option.bind_some, h10, heB, h12, h30, ht]
      obtain ⟨c', X', V', fl', i1, i2, i3, i4, i5, i6, i7, i8, i9⟩ := ih (e + 1) c X V fl (by omega) (by omega) hK hX
      refine ⟨c', X', V', fl', step.trans i1, i2, i3, i4, i5, fun h => ?_, i7, i8, i9⟩
      obtain ⟨r1, r2, r3, r4⟩ := i6 h
      refine ⟨r1, r2, r3, fun j h1 h2 h3 => ?_⟩
      by_cases hje : j = e
      · subst hje; exact absurd h3 ht
      · exact r4 j (by omega) h2 h3
theorem zXV.k {cs fs : List Nat} {X V : Nat → Nat} (h : zXV a f n lk X V) (hk : zK 0 cs fs a a') (h3 : cs.elem 53 = false) (h4 : cs.elem 54 = false) (h5 : cs.elem 55 = false) : zXV a' f n lk X V := by
  unfold zXV
  rw [hk.1 53 (by decide) h3, hk.1 54 (by decide) h4, hk.1 55 (by decide) h5]
  exact h
/-- one order passes on what is behind it -/
theorem rx_passOn (hW : zW f n) (hP : zAP a f n) {X V : Nat → Nat} (hX : zXV a f n lk X V) {k : Nat} (hk : k < n) : ∃ a' X' V' ch, zx nl 61 0 [z_r 53, z_i (nI k), none, none, none, none] [] a = some (some (.inl (if ch = true then 1 else 0)), a') ∧ zK 0 [54, 55, 56] [] a a' ∧ zXV a' f n lk X' V' ∧ zs_adv f n lk (zs_B f n k) (zs_B f n (k + 1)) X V false X' V' ch := by
  have hn := hW.le
  have hXr : ∀ i, i < 16 * n → X i ≤ zs_rem f := fun i hi => (hX.2.1 i hi).2
  have hBm : zs_B f n (k + 1) ≤ zs_B f n n := zs_Bm hk
  have hBk : zs_B f n k ≤ zs_B f n (k + 1) := zs_Bm (Nat.le_succ k)
  obtain ⟨a1, e1, k1, hB1⟩ := rx_ages (nl := nl) hW hP hX hk
  have hP1 := hP.k k1 rfl
  have hX1 := hX.k k1 rfl rfl rfl
  obtain ⟨w, e2, hw1, hw2⟩ := rx_come (nl := nl) hW hP1 hX1 hk
  have h10 : a1.1 10 k = nI (zs_B f n k) := hP1.2.1.2.1 k (by omega)
  obtain ⟨c', X', V', fl', i1, i2, i3, i4, i5, i6, i7, i8, i9⟩ := rx_pedge (nl := nl) (lk := lk) hW hP1 hk (mb := zs_vf f lk V k) (zs_vf_lt hW hk (hX.2.2 k hk).2) (Bh := fun l => zs_af f lk X k l) (fun l hl => ⟨hB1 l hl, zs_af_le hW hXr hk hl⟩) (zs_B f n (k + 1) - zs_B f n k) (zs_B f n k) a1 X V false (by omega) (Nat.le_refl _) zK.rf hX1
  refine ⟨c', X', V', fl', ?_, (k1.up rfl rfl).tr (i2.up rfl rfl), i3, i4, i5, fun h => ?_, i7, fun Y hY hXY => i8 Y (fun j h1 h2 h3 l hl => ?_) hXY, fun U hU hVU => i9 U (fun j h1 h2 h3 => ?_) hVU⟩
  · rw [ex_61_0, e1]
    simp only [Bool.false_eq_true, reduceCtorEq, Nat.not_lt_zero, cond_true, cond_false, ↓reduceIte, if_true, if_false, Option.toList_some, Option.toList_none, List.nil_append, List.cons_append, Option.bind_some]
    rw [ex_61_3]
    simp (disch := omega) only [zb_ltl, zb_llt, zb_eql, zb_leq, nI_ltI, nI_eq, zb_in, nI_clamp, zb_al, zb_la, zb_ml, zb_lm, zb_mul, nI_add, Bool.false_eq_true, reduceCtorEq, Nat.not_lt_zero, cond_true, cond_false, ↓reduceIte, if_true, if_false, Option.toList_some, Option.toList_none, List.nil_append, List.cons_append, Option.bind_some, e2, (hX1.2.2 k hk).1]
    rw [ex_61_10]
    simp (disch := omega) only [zb_ltl, zb_llt, zb_eql, zb_leq, nI_ltI, nI_eq, zb_in, nI_clamp, zb_al, zb_la, zb_ml, zb_lm, zb_mul, nI_add, Bool.false_eq_true, reduceCtorEq, Nat.not_lt_zero, cond_true, cond_false, ↓reduceIte, if_true, if_false, Option.toList_some, Option.toList_none, List.nil_append, List.cons_append, Option.bind_some, h10, zb_or, hw1]
    exact i1
  · obtain ⟨r1, r2, r3, r4⟩ := i6 h
    refine ⟨r1, r2, r3, fun e h1 h2 h3 => ?_⟩
    have hEe := zs_Ein (f := f) hk h1 h2
    rw [hEe.1]
    exact r4 e h1 h2 h3
  · have hEe := zs_Ein (f := f) hk h1 h2
    have q1 := zs_af_mono hW (lk := lk) (X := X) (Y := Y) hk hl (fun l hl => hXY _ (by omega)) (hXr _ (by omega))
    have q2 := hY.2 j (by omega) h3 l hl
    rw [hEe.1] at q2
    exact Nat.le_trans q1 q2
  · have hEe := zs_Ein (f := f) hk h1 h2
    have q2 : zs_in (zs_vf f lk U (zs_E f n j).1) (U (zs_E f n j).2) := hU j (by omega) h3
    rw [hEe.1] at q2
    exact (zs_vf_mono (show zs_in (V k) (U k) from hVU k hk)).tr q2
theorem rx_pass (hW : zW f n) (hP : zAP a f n) (x2 x4 : Int32) : ∀ m k c X V fl, k + m = n → zK 0 [54, 55, 56] [] a c → zXV c f n lk X V → ∃ c' X' V' fl', zx nl 57 45 [z_r 53, none, z_i x2, z_i (if fl = true then 1 else 0), z_i x4, z_i (nI k)] [] c = zx nl 57 35 [z_r 53, none, z_i x2, z_i (if fl' = true then 1 else 0), z_i (x4 + 1), none] [] c' ∧ zK 0 [54, 55, 56] [] a c' ∧ zXV c' f n lk X' V' ∧ zs_adv f n lk (zs_B f n k) (zs_B f n n) X V fl X' V' fl' := by
  have hn := hW.le
  intro m
  induction m with
  | zero =>
    intro k c X V fl hk hK hX
    have hkn : k = n := by omega
    subst hkn
    have h30 : c.1 3 0 = nI k := (hP.k hK rfl).1.1
    refine ⟨c, X, V, fl, ?_, hK, hX, zs_adv.rf _ _ _ _⟩
    rw [ex_57_45]
    simp (disch := omega) only [zb_ltl, zb_llt, zb_eql, zb_leq, nI_ltI, nI_eq, zb_in, nI_clamp, zb_al, zb_la, zb_ml, zb_lm, zb_mul, nI_add, Bool.false_eq_true, reduceCtorEq, Nat.not_lt_zero, cond_true, cond_false, ↓reduceIte, if_true, if_false, Option.toList_some, Option.toList_none, List.nil_append, List.cons_append, Option.bind_some, h30, Nat.lt_irrefl]
  | succ m ih =>
    intro k c X V fl hk hK hX
    have hkn : k < n := by omega
    have hPc := hP.k hK rfl
    have h30 : c.1 3 0 = nI n := hPc.1.1
    obtain ⟨c2, X2, V2, ch, g1, g2, g3, g4⟩ := rx_passOn (nl := nl) hW hPc hX hkn
    obtain ⟨c', X', V', fl', i1, i2, i3, i4⟩ := ih (k + 1) c2 X2 V2 (fl || ch) (by omega) (hK.tr g2) g3
    have g5 : zs_adv f n lk (zs_B f n k) (zs_B f n (k + 1)) X V fl X2 V2 (fl || ch) := by
      obtain ⟨p1, p2, p3, p4, p5, p6⟩ := g4
      refine ⟨p1, p2, fun h => ?_, fun h => ?_, p5, p6⟩
      · rw [Bool.or_eq_false_iff] at h
        exact ⟨h.1, (p3 h.2).2⟩
      · rw [Bool.or_eq_true] at h
        rcases h with h | h
        · exact Or.inl h
        · rcases p4 h with q | q
          · cases q
          · exact Or.inr q
    refine ⟨c', X', V', fl', ?_, i2, i3, g5.tr hW (Nat.le_refl _) i4⟩
    rw [ex_57_45]
    simp (disch := omega) only [zb_ltl, zb_llt, zb_eql, zb_leq, nI_ltI, nI_eq, zb_in, nI_clamp, zb_al, zb_la, zb_ml, zb_lm, zb_mul, nI_add, Bool.false_eq_true, reduceCtorEq, Nat.not_lt_zero, cond_true, cond_false, ↓reduceIte, if_true, if_false, Option.toList_some, Option.toList_none, List.nil_append, List.cons_append, Option.bind_some, h30, hkn, g1]
    rw [ex_57_54, zb_fl, zb_al]
    exact i1
end RxPas2
