/-! ===== the way, order by order, in both ===== -/
theorem zp_inj {a b : Nat} (ha : a < 2 ^ 30) (hb : b < 2 ^ 30) : (zp a = zp b) ↔ a = b := by
  constructor
  · intro h
    have := congrArg Int32.toInt h
    rw [zp_int ha, zp_int hb] at this
    omega
  · rintro rfl; rfl
section ZwWay
variable {nl : Int32} {a b : zd_D} {f : zF} {n : Nat} {C nu : Nat → Nat}
theorem zs_first (hn : n ≤ 28) {mix k : Nat} (hm : mix < zs_M nu (zs_B f n n)) (hk : k < n) (h0 : ¬ zs_S f n C nu mix k = 0) : ∃ e, zs_B f n k ≤ e ∧ e < zs_B f n (k + 1) ∧ zs_sb f n C nu (zs_S f n C nu) mix e = zs_S f n C nu mix k ∧ ∀ j, zs_B f n k ≤ j → j < e → ¬ zs_sb f n C nu (zs_S f n C nu) mix j = zs_S f n C nu mix k := by
  have hbs := zs_S_bs (f := f) (C := C) (nu := nu) hn
  have hs := (hbs mix hm).2 k hk
  have hBk : zs_B f n k ≤ zs_B f n (k + 1) := zs_Bm (Nat.le_succ k)
  obtain ⟨i, hi, e⟩ := zs_mx_ex (g := zs_sb f n C nu (zs_S f n C nu) mix) (lo := zs_B f n k) (zs_B f n (k + 1) - zs_B f n k) (by rw [← hs]; omega)
  rw [← hs] at e
  obtain ⟨j, hj, hl⟩ := pk_least (fun i => i < zs_B f n (k + 1) - zs_B f n k ∧ zs_sb f n C nu (zs_S f n C nu) mix (zs_B f n k + i) = zs_S f n C nu mix k) ⟨i, hi, e⟩
  refine ⟨zs_B f n k + j, by omega, by omega, hj.2, fun q h1 h2 h3 => hl (q - zs_B f n k) (by omega) ⟨by omega, ?_⟩⟩
  rw [show zs_B f n k + (q - zs_B f n k) = q by omega]
  exact h3
set_option maxHeartbeats 4000000 in
theorem zw_way (hW : zW f n) (hn0 : ¬ n = 0) (hP : zAP a f n) (hNa : zAN 3 a nu f n) (hPr : zPr a f n C nu) (hCa : ∀ e, e < zs_B f n n → a.1 58 e = nI (C e)) (hC2 : ∀ e, e < zs_B f n n → C e ≤ 2100) (hV : zV 92 b f) (hNb : zMN b nu f n) (hMB : zMB b f n C nu) (hrl : zs_rl f n (zs_R f n)) (h6 : zs_M nu (zs_B f n n) ≤ 600) {x : Nat} (hx : x < 2 ^ 31) : ∀ m s mix k, s + m = x → mix < zs_M nu (zs_B f n n) → k ≤ n → zs_R f n k = true → ¬ zs_S f n C nu mix k = 0 → ∃ v, zx nl 121 15 [z_r 60, z_i (nI x), z_i (nI k), z_i (nI mix), z_i (nI s), none] [] a = some (some (.inl v), a) ∧ zm 247 21 [z_r 91, z_i (nI x), none, z_i (nI mix), z_i (nI k), z_i (nI s), none] [] b = some (some (.inl v), b) := by
  have hn := hW.le
  have hB := zs_B812 (f := f) hn (Nat.le_refl n)
  have hbs := zs_S_bs (f := f) (C := C) (nu := nu) hn
  obtain ⟨hb1, hb2, h13, hwa, hSa⟩ := hPr
  obtain ⟨hE, hT, hwb, hCb, hSsb⟩ := hMB
  have h30 : a.1 3 0 = nI n := hP.1.1
  have hSb : ∀ m t, m < zs_M nu (zs_B f n n) → t ≤ n → zs_S f n C nu m t < 2 ^ 29 := by
    intro m t h1 h2
    have q := zs_S_le hn hC2 hbs m t h1 h2
    have q2 : 2100 * (29 * m + (n - t)) ≤ 2100 * (29 * 600 + 28) := Nat.mul_le_mul_left _ (by omega)
    omega
  have hend : ∀ k, k ≤ n → ∃ v : Int32, ((if nI k < nI n then some (some (.inl (nI k)), a) else some (some (.inl (-1000000005)), a)) : Option (Option mx_V × zd_D)) = some (some (.inl v), a) ∧ ((if nI k < nI n then some (some (.inl (nI k)), b) else some (some (.inl (-1000000005)), b)) : Option (Option mx_V × zd_D)) = some (some (.inl v), b) := by
    intro k hk
    by_cases h : nI k < nI n
    · rw [if_pos h, if_pos h]; exact ⟨_, rfl, rfl⟩
    · rw [if_neg h, if_neg h]; exact ⟨_, rfl, rfl⟩
  intro m
  induction m with
  | zero =>
    intro s mix k hs hm hk hR h0
    have : s = x := by omega
    subst this
    rw [ex_121_15, em_247_21, h30, hV.sz hW, if_neg (nI_nlt (Nat.le_refl _) hx), if_neg (nI_nlt (Nat.le_refl _) hx)]
    exact hend k hk
  | succ m ih =>
    intro s mix k hs hm hk hR h0
    rw [ex_121_15, em_247_21, h30, hV.sz hW, if_pos (nI_lt (show s < x by omega) hx), if_pos (nI_lt (show s < x by omega) hx)]
    by_cases hkn : k < n
    · rw [if_pos (nI_lt hkn (by omega)), if_pos (nI_lt hkn (by omega))]
      have hBk : zs_B f n k ≤ zs_B f n (k + 1) := zs_Bm (Nat.le_succ k)
      have hBn : zs_B f n (k + 1) ≤ zs_B f n n := zs_Bm hkn
      have r2 : a.1 10 k = nI (zs_B f n k) := hP.2.1.2.1 k (by omega)
      have r3 : a.1 10 (k + 1) = nI (zs_B f n (k + 1)) := hP.2.1.2.1 (k + 1) (by omega)
      have q2 := hE.2.2 k (by omega)
      obtain ⟨e, h1, h2, h3, h4⟩ := zs_first (C := C) hn hm hkn h0
      have heB : e < zs_B f n n := by omega
      have hE4 := zs_Ein (f := f) hkn h1 h2
      have hRt : zs_R f n (zs_E f n e).2 = true := hrl.1.2 e heB (by rw [hE4.1]; exact hR)
      have sumx : ∀ j, zs_B f n k ≤ j → j < zs_B f n (k + 1) → zx nl 118 0 [z_r 60, z_i (nI mix), z_i (nI j), none, none] [] a = some (some (.inl (zp (zs_sb f n C nu (zs_S f n C nu) mix j))), a) := by
        intro j q1 q2
        have hjB : j < zs_B f n n := by omega
        have hEj := zs_Ein (f := f) hkn q1 q2
        have hRj : zs_R f n (zs_E f n j).2 = true := hrl.1.2 j hjB (by rw [hEj.1]; exact hR)
        exact rx_sumby hW hP hNa h6 hb1 hb2 hjB hm (hwa j hjB) (hCa j hjB) (fun m' hm' => hSa m' _ (by omega) hEj.2.1 (Or.inr hRj)) (fun m' t q3 q4 => hSb m' t (by omega) q4)
      have summ : ∀ j, zs_B f n k ≤ j → j < zs_B f n (k + 1) → zm 245 0 [z_r 91, z_i (nI j), z_i (nI mix), none, none, none] [] b = some (some (.inl (zp (zs_sb f n C nu (zs_S f n C nu) mix j))), b) := by
        intro j q1 q2
        have hjB : j < zs_B f n n := by omega
        exact rm_sumby hW hV hE hNb h6 hjB hm (hwb j hjB) (hCb j hjB) (hC2 j hjB) (fun m' t hm' ht => hSsb m' t (by omega) ht) (fun m' hm' => (hbs m' (by omega)).1) (fun m' t q3 q4 => hSb m' t (by omega) q4)
      have sbl : ∀ j, zs_B f n k ≤ j → j < zs_B f n (k + 1) → zs_sb f n C nu (zs_S f n C nu) mix j < 2 ^ 30 := by
        intro j q1 q2
        have hsl := zs_sb_le (nu := nu) (C := C) (S := zs_S f n C nu) (mix := mix) (k := k) (e := j) hn hC2 hkn q1 q2 (fun m t q1 q2 => zs_S_le hn hC2 hbs m t (by omega) q2) (fun t q1 q2 => zs_S_le hn hC2 hbs mix t hm q2)
        have hbig : 2100 * (29 * mix + (n - k)) ≤ 2100 * (29 * 600 + 28) := Nat.mul_le_mul_left _ (by omega)
        omega
      have hSk := hSb mix k hm hk
      have gx : a.1 130 (mix * 29 + k) = zp (zs_S f n C nu mix k) := by rw [Nat.mul_comm]; exact hSa mix k hm hk (Or.inr hR)
      have gm : b.1 120 (29 * mix + k) = zp (zs_S f n C nu mix k) := hSsb mix k hm hkn
      -- the class's edge
      have ex : zx nl 122 0 [z_r 60, z_i (nI mix), z_i (nI k), none] [] a = some (some (.inl (nI e)), a) := by
        rw [ex_122_0]
        simp (disch := omega) only [zb_ltl, zb_llt, zb_eql, zb_leq, nI_ltI, nI_eq, zb_in, nI_clamp, zb_al, zb_la, zb_ml, zb_lm, zb_mul, nI_add, Bool.false_eq_true, reduceCtorEq, Nat.not_lt_zero, cond_true, cond_false, ↓reduceIte, if_true, if_false, Option.toList_some, Option.toList_none, List.nil_append, List.cons_append, Option.bind_some, r2]
        have stepx : ∀ j, zs_B f n k ≤ j → j < zs_B f n (k + 1) → zx nl 122 7 [z_r 60, z_i (nI mix), z_i (nI k), z_i (nI j)] [] a = if zs_sb f n C nu (zs_S f n C nu) mix j = zs_S f n C nu mix k then some (some (.inl (nI j)), a) else zx nl 122 7 [z_r 60, z_i (nI mix), z_i (nI k), z_i (nI (j + 1))] [] a := by
          intro j q1 q2
          have hjl := sbl j q1 q2
          rw [ex_122_7]
          simp (disch := omega) only [zb_ltl, zb_llt, zb_eql, zb_leq, nI_ltI, nI_eq, zb_in, nI_clamp, zb_al, zb_la, zb_ml, zb_lm, zb_mul, nI_add, Bool.false_eq_true, reduceCtorEq, Nat.not_lt_zero, cond_true, cond_false, ↓reduceIte, if_true, if_false, Option.toList_some, Option.toList_none, List.nil_append, List.cons_append, Option.bind_some, r3, q2, sumx j q1 q2]
          rw [ex_122_20, zd_c130 hb2, hb1]
          simp (disch := omega) only [zb_ltl, zb_llt, zb_eql, zb_leq, nI_ltI, nI_eq, zb_in, nI_clamp, zb_al, zb_la, zb_ml, zb_lm, zb_mul, nI_add, Bool.false_eq_true, reduceCtorEq, Nat.not_lt_zero, cond_true, cond_false, ↓reduceIte, if_true, if_false, Option.toList_some, Option.toList_none, List.nil_append, List.cons_append, Option.bind_some, show ¬ (1 : Int32) = 0 by decide, show Nat.beq 100 100 = true from rfl, gx, zp_inj]
        have := zl_eqf (G := fun j => zx nl 122 7 [z_r 60, z_i (nI mix), z_i (nI k), z_i (nI j)] [] a) h1 (fun j q1 q2 => by
          try dsimp only
          rw [stepx j q1 (by omega), if_neg (h4 j q1 q2)])
        exact this.trans (by (try dsimp only); rw [stepx e h1 h2, if_pos h3])
      -- the reference's
      have em : zm 247 36 [z_r 91, z_i (nI x), none, z_i (nI mix), z_i (nI k), z_i (nI s), z_i (nI (zs_B f n k))] [] b = zm 247 36 [z_r 91, z_i (nI x), none, z_i (nI mix), z_i (nI k), z_i (nI s), z_i (nI e)] [] b := by
        refine zl_eqf (G := fun j => zm 247 36 [z_r 91, z_i (nI x), none, z_i (nI mix), z_i (nI k), z_i (nI s), z_i (nI j)] [] b) h1 (fun j q1 q2 => ?_)
        have hjl := sbl j q1 (by omega)
        try dsimp only
        rw [em_247_36, summ j q1 (by omega)]
        simp only [Bool.false_eq_true, reduceCtorEq, Nat.not_lt_zero, cond_true, cond_false, ↓reduceIte, if_true, if_false, Option.toList_some, Option.toList_none, List.nil_append, List.cons_append, Option.bind_some]
        rw [em_247_40]
        simp (disch := omega) only [zb_ltl, zb_llt, zb_eql, zb_leq, nI_ltI, nI_eq, zb_in, nI_clamp, zb_al, zb_la, zb_ml, zb_lm, zb_mul, nI_add, Bool.false_eq_true, reduceCtorEq, Nat.not_lt_zero, cond_true, cond_false, ↓reduceIte, if_true, if_false, Option.toList_some, Option.toList_none, List.nil_append, List.cons_append, Option.bind_some, gm, zp_inj, h4 j q1 q2]
      have g1b := (hE.2.1 e heB).1
      have g2b := (hE.2.1 e heB).2
      have g2a : a.1 12 e = nI (zs_E f n e).2 := (hP.2.1.2.2 e heB).2
      have hsb0 : ¬ zs_sb f n C nu (zs_S f n C nu) mix e = 0 := by rw [h3]; exact h0
      have hel := sbl e h1 h2
      rw [ex]
      simp (disch := omega) only [zb_ltl, zb_llt, zb_eql, zb_leq, nI_ltI, nI_eq, zb_in, nI_clamp, zb_al, zb_la, zb_ml, zb_lm, zb_mul, nI_add, Bool.false_eq_true, reduceCtorEq, Nat.not_lt_zero, cond_true, cond_false, ↓reduceIte, if_true, if_false, Option.toList_some, Option.toList_none, List.nil_append, List.cons_append, Option.bind_some, q2]
      rw [em, em_247_36, summ e h1 h2]
      simp only [Bool.false_eq_true, reduceCtorEq, Nat.not_lt_zero, cond_true, cond_false, ↓reduceIte, if_true, if_false, Option.toList_some, Option.toList_none, List.nil_append, List.cons_append, Option.bind_some]
      rw [em_247_40, ex_121_27]
      simp (disch := omega) only [zb_ltl, zb_llt, zb_eql, zb_leq, nI_ltI, nI_eq, zb_in, nI_clamp, zb_al, zb_la, zb_ml, zb_lm, zb_mul, nI_add, Bool.false_eq_true, reduceCtorEq, Nat.not_lt_zero, cond_true, cond_false, ↓reduceIte, if_true, if_false, Option.toList_some, Option.toList_none, List.nil_append, List.cons_append, Option.bind_some, gm, zp_inj, h3, g1b, g2b]
      rw [rx_behind hW hP hNa h6 heB hm (hwa e heB)]
      simp only [Bool.false_eq_true, reduceCtorEq, Nat.not_lt_zero, cond_true, cond_false, ↓reduceIte, if_true, if_false, Option.toList_some, Option.toList_none, List.nil_append, List.cons_append, Option.bind_some]
      rw [ex_121_36]
      simp (disch := omega) only [zb_ltl, zb_llt, zb_eql, zb_leq, nI_ltI, nI_eq, zb_in, nI_clamp, zb_al, zb_la, zb_ml, zb_lm, zb_mul, nI_add, Bool.false_eq_true, reduceCtorEq, Nat.not_lt_zero, cond_true, cond_false, ↓reduceIte, if_true, if_false, Option.toList_some, Option.toList_none, List.nil_append, List.cons_append, Option.bind_some, g2a]
      by_cases ht : zs_tn f n e = true
      · have hnot : ¬ (nu e ≤ 1 ∨ mix / zs_M nu e % nu e = 0) := by
          intro hc
          apply hsb0
          unfold zs_sb
          rw [if_pos ht, if_pos hc]
        have hle := (zs_turn hnot).2
        have hM1 := zs_M_pos nu e
        have hS' : ¬ zs_S f n C nu (mix - zs_M nu e) (zs_E f n e).2 = 0 := by
          intro hc
          apply hsb0
          unfold zs_sb
          rw [if_pos ht, if_neg hnot, if_pos hc]
        have ht2 : ¬ (zs_E f n e).1 < (zs_E f n e).2 := by
          unfold zs_tn at ht
          rw [decide_eq_true_eq] at ht
          omega
        have hnu : 0 < nu e := by
          apply Classical.byContradiction
          intro hc
          exact hnot (Or.inl (by omega))
        rw [if_pos ht, if_neg hnot, if_neg ht2, hwb e heB hnu, zb_sub hle]
        exact ih (s + 1) (mix - zs_M nu e) (zs_E f n e).2 (by omega) (by omega) hE4.2.1 hRt hS'
      · have hS' : ¬ zs_S f n C nu mix (zs_E f n e).2 = 0 := by
          intro hc
          apply hsb0
          unfold zs_sb
          rw [if_neg ht, if_pos hc]
        have ht2 : (zs_E f n e).1 < (zs_E f n e).2 := by
          unfold zs_tn at ht
          rw [decide_eq_true_eq] at ht
          omega
        rw [if_neg ht, if_pos ht2, Int32.sub_zero]
        exact ih (s + 1) mix (zs_E f n e).2 (by omega) hm hE4.2.1 hRt hS'
    · have : k = n := by omega
      subst this
      simp only [show ¬ nI k < nI k from nI_nlt (Nat.le_refl _) (by omega), if_false]
      exact ⟨_, rfl, rfl⟩
end ZwWay
