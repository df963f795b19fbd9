/-! ===== the costliest way: the class solves it ===== -/
/-- the class's rows of the costliest way -/
def zPr (a : zd_D) (f : zF) (n : Nat) (C nu : Nat → Nat) : Prop := a.1 60 6 = 1 ∧ a.2.2 = true ∧ a.1 60 1 = nI (zs_M nu (zs_B f n n)) ∧ (∀ e, e < zs_B f n n → a.1 61 e = zs_wt f n nu e) ∧ ∀ mix k, mix < zs_M nu (zs_B f n n) → k ≤ n → (k = n ∨ zs_R f n k = true) → a.1 130 (29 * mix + k) = zp (zs_S f n C nu mix k)
def zPa (a : zd_D) (f : zF) (n : Nat) (C nu : Nat → Nat) : Prop := a.1 60 0 = zs_bd f n C nu ∧ (¬ n = 0 → ¬ zs_no f n nu → ¬ 600 < zs_M nu (zs_B f n n) → zPr a f n C nu)
theorem zd_c130 {d : zd_D} (h : d.2.2 = true) : zd_c d 130 = 100 := by
  unfold zd_c
  rw [h]
  rfl
section RxSolve
variable {nl : Int32} {a a' : zd_D} {f : zF} {n : Nat} {C nu : Nat → Nat}
set_option maxHeartbeats 2000000 in
theorem rx_behind (hW : zW f n) (hP : zAP a f n) (hN : zAN 3 a nu f n) (h6 : zs_M nu (zs_B f n n) ≤ 600) {e mix : Nat} (he : e < zs_B f n n) (hm : mix < zs_M nu (zs_B f n n)) (hw : a.1 61 e = zs_wt f n nu e) :
    zx nl 119 0 [z_r 60, z_i (nI mix), z_i (nI e), none] [] a = some (some (.inl (if zs_tn f n e = true then (if nu e ≤ 1 ∨ mix / zs_M nu e % nu e = 0 then -1 else nI (mix - zs_M nu e)) else nI mix)), a) := by
  have hn := hW.le
  have hB := zs_B812 (f := f) hn (Nat.le_refl n)
  obtain ⟨n1, n2, n3⟩ := hN e he
  have n1 : a.1 13 e = zs_nb (nu e) := n1
  have hMe : zs_M nu e ≤ 600 := Nat.le_trans (zs_M_le nu (Nat.le_of_lt he)) h6
  have hM1 := zs_M_pos nu e
  rw [ex_119_0]
  simp (disch := omega) only [zb_in, nI_clamp, cond_true, hw, n1]
  unfold zs_wt
  by_cases ht : zs_tn f n e = true
  · simp only [ht, if_true]
    by_cases h1 : nu e ≤ 1
    · simp only [h1, if_true, true_or]
      rfl
    · have hnb : zs_nb (nu e) = nI (nu e - 1) := by unfold zs_nb; rw [if_neg (by omega)]
      have hdv : mix / zs_M nu e ≤ mix := Nat.div_le_self _ _
      have hmd : mix / zs_M nu e % nu e < nu e := Nat.mod_lt _ (by omega)
      simp only [h1, if_false, false_or, hnb]
      rw [show nI (nu e - 1) + 1 = nI (nu e) by rw [zb_al]; show nI (nu e - 1 + 1) = _; rw [show nu e - 1 + 1 = nu e by omega], pk_div (by omega) (by omega) (by omega), pk_rem (by omega) (by omega) (by omega)]
      simp (disch := omega) only [zb_ltl, zb_llt, zb_eql, zb_leq, nI_ltI, nI_eq, zb_in, nI_clamp, zb_al, zb_la, zb_ml, zb_lm, zb_mul, nI_add, Bool.false_eq_true, reduceCtorEq, Nat.not_lt_zero, cond_true, cond_false, ↓reduceIte, if_true, if_false, Option.toList_some, Option.toList_none, List.nil_append, List.cons_append, Option.bind_some, zb_m1', show ¬ zs_M nu e = 0 by omega, show ¬ nu e - 1 < 1 by omega, show ¬ nu e = 0 by omega]
      by_cases hz : mix / zs_M nu e % nu e = 0
      · rw [if_neg (by omega), if_pos hz]
      · have hle := (zs_turn (nu := nu) (mix := mix) (e := e) (fun q => q.elim h1 hz)).2
        rw [if_pos (by omega), if_neg hz, zb_sub hle]
  · simp only [ht, Bool.false_eq_true, reduceCtorEq, Nat.not_lt_zero, cond_true, cond_false, ↓reduceIte, if_true, if_false, Option.toList_some, Option.toList_none, List.nil_append, List.cons_append, Option.bind_some]
set_option maxHeartbeats 2000000 in
theorem rx_sumby (hW : zW f n) (hP : zAP a f n) (hN : zAN 3 a nu f n) (h6 : zs_M nu (zs_B f n n) ≤ 600) (hb1 : a.1 60 6 = 1) (hb2 : a.2.2 = true) {e mix : Nat} (he : e < zs_B f n n) (hm : mix < zs_M nu (zs_B f n n)) (hw : a.1 61 e = zs_wt f n nu e) (hC : a.1 58 e = nI (C e)) {S : Nat → Nat → Nat} (hS : ∀ m, m < mix ∨ (m = mix ∧ (zs_E f n e).1 < (zs_E f n e).2) → a.1 130 (29 * m + (zs_E f n e).2) = zp (S m (zs_E f n e).2)) (hSb : ∀ m t, m ≤ mix → t ≤ n → S m t < 2 ^ 29) :
    zx nl 118 0 [z_r 60, z_i (nI mix), z_i (nI e), none, none] [] a = some (some (.inl (zp (zs_sb f n C nu S mix e))), a) := by
  have hn := hW.le
  have hB := zs_B812 (f := f) hn (Nat.le_refl n)
  have g2 : a.1 12 e = nI (zs_E f n e).2 := (hP.2.1.2.2 e he).2
  obtain ⟨hlt1, hlt2⟩ := zs_Elt he
  have hMe : zs_M nu e ≤ 600 := Nat.le_trans (zs_M_le nu (Nat.le_of_lt he)) h6
  have hM1 := zs_M_pos nu e
  have fin : ∀ m, (m < mix ∨ (m = mix ∧ (zs_E f n e).1 < (zs_E f n e).2)) → (cond (mx_in ((nI m * 29) + nI (zs_E f n e).2) 17400) (if a.1 130 ((nI m * 29) + nI (zs_E f n e).2).toNatClampNeg = (-1) then some (some (.inl (-1)), a) else some (some (.inl (a.1 130 ((nI m * 29) + nI (zs_E f n e).2).toNatClampNeg + nI (C e))), a)) none) = (some (some (.inl (zp (if S m (zs_E f n e).2 = 0 then 0 else S m (zs_E f n e).2 + C e))), a) : Option (Option mx_V × zd_D)) := by
    intro m hmm
    have hs := hS m hmm
    have hb := hSb m (zs_E f n e).2 (by omega) hlt2
    have hi : mx_in ((nI m * 29) + nI (zs_E f n e).2) 17400 = true := by rw [zb_ml, nI_add]; exact zb_in (by omega) (by decide)
    have hcl : ((nI m * 29) + nI (zs_E f n e).2).toNatClampNeg = 29 * m + (zs_E f n e).2 := by rw [zb_ml, nI_add, nI_clamp (by omega)]; omega
    rw [hi, hcl, hs]
    simp (disch := omega) only [cond_true, zp_eqm]
    by_cases h0 : S m (zs_E f n e).2 = 0
    · rw [if_pos h0, if_pos h0, zp_0]
    · rw [if_neg h0, if_neg h0, zp_add]
  rw [ex_118_0]
  have hw0 : (a.1 61 e = 0) ↔ ¬ zs_tn f n e = true := by
    rw [hw]
    unfold zs_wt
    by_cases ht : zs_tn f n e = true
    · rw [if_pos ht]
      refine ⟨fun q => ?_, fun q => absurd ht q⟩
      by_cases h1 : nu e ≤ 1
      · rw [if_pos h1] at q; exact absurd q (by decide)
      · rw [if_neg h1, show (0 : Int32) = nI 0 from rfl, nI_eq (by omega) (by omega)] at q; omega
    · rw [if_neg ht]; exact ⟨fun _ => ht, fun _ => rfl⟩
  rw [zd_c130 hb2]
  simp (disch := omega) only [zb_in, nI_clamp, cond_true, g2, hC, hw0, hb1, show ¬ (1 : Int32) = 0 by decide, if_false, zb_l0, show Nat.beq 100 100 = true from rfl]
  unfold zs_sb
  by_cases ht : zs_tn f n e = true
  · simp only [ht, not_true_eq_false, if_false, if_true]
    rw [rx_behind hW hP hN h6 he hm hw, if_pos ht]
    simp only [Bool.false_eq_true, reduceCtorEq, Nat.not_lt_zero, cond_true, cond_false, ↓reduceIte, if_true, if_false, Option.toList_some, Option.toList_none, List.nil_append, List.cons_append, Option.bind_some]
    rw [ex_118_11, zd_c130 hb2]
    simp (disch := omega) only [zb_in, nI_clamp, cond_true, g2, hC, hb1, show ¬ (1 : Int32) = 0 by decide, if_false, show Nat.beq 100 100 = true from rfl]
    by_cases hc : nu e ≤ 1 ∨ mix / zs_M nu e % nu e = 0
    · rw [if_pos hc, if_pos (by decide), if_pos hc, zp_0]
    · have hle := (zs_turn hc).2
      rw [if_neg hc, if_neg (nI_pos (by omega)), if_neg hc]
      exact fin (mix - zs_M nu e) (Or.inl (by omega))
  · simp only [ht, not_false_eq_true, if_false, if_true]
    unfold zs_tn at ht
    rw [decide_eq_true_eq] at ht
    exact fin mix (Or.inr ⟨rfl, by omega⟩)
theorem zPr_k60 {cs fs : List Nat} (hk : zK 60 cs fs a a') : a'.2.2 = a.2.2 := by rw [hk.2.2]
set_option maxHeartbeats 4000000 in
/-- the rows of one mix -/
theorem rx_mix (hW : zW f n) (hP : zAP a f n) (hN : zAN 3 a nu f n) (h6 : zs_M nu (zs_B f n n) ≤ 600) (hn0 : ¬ n = 0) (hb1 : a.1 60 6 = 1) (hb2 : a.2.2 = true) {r : Nat} (hr : r < 2 ^ 29) (h4 : a.1 60 4 = nI r) (hR : ∀ k, k ≤ n → r.testBit k = zs_R f n k) (hrl : zs_rl f n (zs_R f n)) (hw : ∀ e, e < zs_B f n n → a.1 61 e = zs_wt f n nu e) (hC : ∀ e, e < zs_B f n n → a.1 58 e = nI (C e)) (hC2 : ∀ e, e < zs_B f n n → C e ≤ 2100) {mix : Nat} (hm : mix < zs_M nu (zs_B f n n)) (hS : ∀ m k, m < mix → k ≤ n → (k = n ∨ zs_R f n k = true) → a.1 130 (29 * m + k) = zp (zs_S f n C nu m k)) :
    ∃ a', zx nl 117 0 [z_r 60, z_i (nI mix), none, none, none, none, none] [] a = some (none, a') ∧ zK 60 [130] [] a a' ∧ ∀ m k, m < mix + 1 → k ≤ n → (k = n ∨ zs_R f n k = true) → a'.1 130 (29 * m + k) = zp (zs_S f n C nu m k) := by
  have hn := hW.le
  have hB := zs_B812 (f := f) hn (Nat.le_refl n)
  have hbs := zs_S_bs (f := f) (C := C) (nu := nu) hn
  have hSb : ∀ m t, m < zs_M nu (zs_B f n n) → t ≤ n → zs_S f n C nu m t < 2 ^ 29 := by
    intro m t h1 h2
    have q := zs_S_le hn hC2 hbs m t h1 h2
    have q2 : 2100 * (29 * m + (n - t)) ≤ 2100 * (29 * 600 + 28) := Nat.mul_le_mul_left _ (by omega)
    omega
  rw [ex_117_0, zd_c130 hb2, hb1, show a.1 3 0 = nI n from hP.1.1]
  simp (disch := omega) only [zb_ltl, zb_llt, zb_eql, zb_leq, nI_ltI, nI_eq, zb_in, nI_clamp, zb_al, zb_la, zb_ml, zb_lm, zb_mul, nI_add, Bool.false_eq_true, reduceCtorEq, Nat.not_lt_zero, cond_true, cond_false, ↓reduceIte, if_true, if_false, Option.toList_some, Option.toList_none, List.nil_append, List.cons_append, Option.bind_some, show ¬ (1 : Int32) = 0 by decide, show Nat.beq 100 100 = true from rfl]
  have key := zl_dn (F := fun j c => zx nl 117 20 [z_r 60, z_i (nI mix), z_i (nI (mix * 29)), z_i (nI j - 1), none, none, none] [] c) (I := fun j c => zK 60 [130] [] a c ∧ j ≤ n ∧ (∀ m k, m < mix → k ≤ n → (k = n ∨ zs_R f n k = true) → c.1 130 (29 * m + k) = zp (zs_S f n C nu m k)) ∧ ∀ t, j ≤ t → t ≤ n → (t = n ∨ zs_R f n t = true) → c.1 130 (29 * mix + t) = zp (zs_S f n C nu mix t)) (Q := fun v c => v = none ∧ zK 60 [130] [] a c ∧ ∀ m k, m < mix + 1 → k ≤ n → (k = n ∨ zs_R f n k = true) → c.1 130 (29 * m + k) = zp (zs_S f n C nu m k))
    (by
      rintro k c ⟨h1, hkn, h2, h3⟩
      left
      try dsimp only
      have hk : k < n := hkn
      have hPc := hP.k (h1.c60 rfl) rfl
      have hNc := hN.k (h1.c60 rfl) rfl
      have hb1c : c.1 60 6 = 1 := by rw [h1.2.1 6 rfl]; exact hb1
      have hb2c : c.2.2 = true := by rw [h1.2.2]; exact hb2
      have h4c : c.1 60 4 = nI r := by rw [h1.2.1 4 rfl]; exact h4
      have r2 : c.1 10 k = nI (zs_B f n k) := hPc.2.1.2.1 k (by omega)
      have r3 : c.1 10 (k + 1) = nI (zs_B f n (k + 1)) := hPc.2.1.2.1 (k + 1) (by omega)
      have hBk : zs_B f n k ≤ zs_B f n (k + 1) := zs_Bm (Nat.le_succ k)
      have hBn : zs_B f n (k + 1) ≤ zs_B f n n := zs_Bm hk
      rw [nI_pred, ex_117_20]
      simp (disch := omega) only [zb_ltl, zb_llt, zb_eql, zb_leq, nI_ltI, nI_eq, zb_in, nI_clamp, zb_al, zb_la, zb_ml, zb_lm, zb_mul, nI_add, Bool.false_eq_true, reduceCtorEq, Nat.not_lt_zero, cond_true, cond_false, ↓reduceIte, if_true, if_false, Option.toList_some, Option.toList_none, List.nil_append, List.cons_append, Option.bind_some, h4c, zb_bit1, hR k (by omega), r2, r3]
      have fin : ∀ y : Int32, (zs_R f n k = true → y = zp (zs_S f n C nu mix k)) → ∀ x5, x5 = nI (zs_B f n (k + 1)) ∨ x5 = 0 → ∀ x6, (¬ x6 < x5) → ∃ d', (zK 60 [130] [] a d' ∧ k ≤ n ∧ (∀ m k, m < mix → k ≤ n → (k = n ∨ zs_R f n k = true) → d'.1 130 (29 * m + k) = zp (zs_S f n C nu m k)) ∧ ∀ t, k ≤ t → t ≤ n → (t = n ∨ zs_R f n t = true) → d'.1 130 (29 * mix + t) = zp (zs_S f n C nu mix t)) ∧ zx nl 117 45 [z_r 60, z_i (nI mix), z_i (nI (mix * 29)), z_i (nI k), z_i y, z_i x5, z_i x6] [] c = zx nl 117 20 [z_r 60, z_i (nI mix), z_i (nI (mix * 29)), z_i (nI k - 1), none, none, none] [] d' := by
        intro y hy x5 _ x6 hx
        rw [ex_117_45, if_neg hx, hb1c, if_neg (by decide), zd_c130 hb2c]
        simp (disch := omega) only [zb_ltl, zb_llt, zb_eql, zb_leq, nI_ltI, nI_eq, zb_in, nI_clamp, zb_al, zb_la, zb_ml, zb_lm, zb_mul, nI_add, Bool.false_eq_true, reduceCtorEq, Nat.not_lt_zero, cond_true, cond_false, ↓reduceIte, if_true, if_false, Option.toList_some, Option.toList_none, List.nil_append, List.cons_append, Option.bind_some, show Nat.beq 100 100 = true from rfl]
        rw [show mix * 29 + k = 29 * mix + k by omega]
        refine ⟨zd_u c 130 (29 * mix + k) y, ⟨h1.u (c := 130) _ _ (by decide) rfl, by omega, fun m t q1 q2 q3 => ?_, fun t q1 q2 q3 => ?_⟩, by rw [Int32.sub_eq_add_neg]⟩
        · rw [zb_ui _ _ _ _ (by omega)]; exact h2 m t q1 q2 q3
        · by_cases htk : t = k
          · subst htk
            rw [zb_ue]
            exact hy (q3.elim (fun q => by omega) id)
          · rw [zb_ui _ _ _ _ (by omega)]; exact h3 t (by omega) q2 q3
      by_cases hRk : zs_R f n k = true
      · rw [if_pos hRk]
        have hin := zl_eq (G := fun i => zx nl 117 45 [z_r 60, z_i (nI mix), z_i (nI (mix * 29)), z_i (nI k), z_i (zp (zs_mx (zs_sb f n C nu (zs_S f n C nu) mix) (zs_B f n k) i)), z_i (nI (zs_B f n (k + 1))), z_i (nI (zs_B f n k + i))] [] c) (n := zs_B f n (k + 1) - zs_B f n k)
          (by
            intro i hi
            try dsimp only
            have heB : zs_B f n k + i < zs_B f n n := by omega
            have hE4 := zs_Ein (f := f) hk (e := zs_B f n k + i) (by omega) (by omega)
            have hRt : zs_R f n (zs_E f n (zs_B f n k + i)).2 = true := hrl.1.2 _ heB (by rw [hE4.1]; exact hRk)
            have hsum := rx_sumby (nl := nl) (a := c) (C := C) (S := zs_S f n C nu) hW hPc hNc h6 hb1c hb2c heB hm (by rw [h1.1 61 (by decide) rfl]; exact hw _ heB) (by rw [h1.1 58 (by decide) rfl]; exact hC _ heB)
              (by
                rintro m (q | ⟨q, q2⟩)
                · exact h2 m _ q hE4.2.1 (Or.inr hRt)
                · rw [hE4.1] at q2
                  rw [q]
                  exact h3 _ (by omega) hE4.2.1 (Or.inr hRt))
              (fun m t q1 q2 => hSb m t (by omega) q2)
            have hsl : ∀ i', i' < zs_B f n (k + 1) - zs_B f n k → zs_sb f n C nu (zs_S f n C nu) mix (zs_B f n k + i') ≤ 1 + 2100 * (29 * mix + (n - k)) := fun i' hi' => zs_sb_le (k := k) hn hC2 hk (by omega) (by omega) (fun m t q1 q2 => zs_S_le hn hC2 hbs m t (by omega) q2) (fun t q1 q2 => zs_S_le hn hC2 hbs mix t hm q2)
            have hsl1 := hsl i hi
            have hmxl := zs_mx_le (g := zs_sb f n C nu (zs_S f n C nu) mix) (lo := zs_B f n k) (m := 1 + 2100 * (29 * mix + (n - k))) i (fun i' hi' => hsl i' (by omega))
            have hbig : 2100 * (29 * mix + (n - k)) ≤ 2100 * (29 * 600 + 28) := Nat.mul_le_mul_left _ (by omega)
            rw [ex_117_45]
            simp (disch := omega) only [zb_ltl, zb_llt, zb_eql, zb_leq, nI_ltI, nI_eq, zb_in, nI_clamp, zb_al, zb_la, zb_ml, zb_lm, zb_mul, nI_add, Bool.false_eq_true, reduceCtorEq, Nat.not_lt_zero, cond_true, cond_false, ↓reduceIte, if_true, if_false, Option.toList_some, Option.toList_none, List.nil_append, List.cons_append, Option.bind_some, show zs_B f n k + i < zs_B f n (k + 1) by omega, hsum]
            rw [ex_117_53]
            simp (disch := omega) only [zp_lt, zb_al, Nat.add_assoc]
            have hms' : zs_mx (zs_sb f n C nu (zs_S f n C nu) mix) (zs_B f n k) (i + 1) = max (zs_mx (zs_sb f n C nu (zs_S f n C nu) mix) (zs_B f n k) i) (zs_sb f n C nu (zs_S f n C nu) mix (zs_B f n k + i)) := rfl
            by_cases hc : zs_mx (zs_sb f n C nu (zs_S f n C nu) mix) (zs_B f n k) i < zs_sb f n C nu (zs_S f n C nu) mix (zs_B f n k + i)
            · rw [if_pos hc, hms', Nat.max_eq_right (by omega)]
            · rw [if_neg hc, hms', Nat.max_eq_left (by omega)]) _ (Nat.le_refl _)
        try dsimp only at hin
        rw [show zs_mx (zs_sb f n C nu (zs_S f n C nu) mix) (zs_B f n k) 0 = 0 from rfl, zp_0, Nat.add_zero (zs_B f n k), show zs_B f n k + (zs_B f n (k + 1) - zs_B f n k) = zs_B f n (k + 1) by omega, ← (hbs mix hm).2 k hk] at hin
        rw [hin]
        exact fin _ (fun _ => rfl) _ (Or.inl rfl) _ (nI_nlt (Nat.le_refl _) (by omega))
      · rw [if_neg hRk]
        exact fin _ (fun q => absurd q hRk) _ (Or.inr rfl) _ (nI_pos (by omega)))
    (by
      rintro c ⟨h1, hkn, h2, h3⟩
      try dsimp only
      rw [ex_117_20, if_pos (by decide)]
      refine zw_ret ⟨rfl, h1, fun m k q1 q2 q3 => ?_⟩
      by_cases hmm : m = mix
      · subst hmm; exact h3 k (Nat.zero_le _) q2 q3
      · exact h2 m k (by omega) q2 q3)
    n (zd_u a 130 (mix * 29 + n) 0) ⟨zK.rf.u (c := 130) _ _ (by decide) rfl, Nat.le_refl _, fun m k q1 q2 q3 => by
      rw [zb_ui _ _ _ _ (by omega)]; exact hS m k q1 q2 q3, fun t q1 q2 q3 => by
      have : t = n := by omega
      subst this
      rw [show 29 * mix + t = mix * 29 + t by omega, zb_ue, (hbs mix hm).1]
      decide⟩
  obtain ⟨v, d, e, hv, h1, h2⟩ := key
  subst hv
  exact ⟨d, e, h1, h2⟩
end RxSolve
