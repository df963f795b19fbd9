/-! ===== the costliest way: the class's bound, the way ===== -/
def zBf (a : zd_D) : Prop := (a.1 60 6 = 0 ∧ a.2.2 = false) ∨ (a.1 60 6 = 1 ∧ a.2.2 = true)
/-- only the rows of the way have changed -/
def zKs (a a' : zd_D) : Prop := (∀ c, ¬ c = 60 → ¬ c = 61 → ¬ c = 130 → a'.1 c = a.1 c) ∧ a'.2.1 = a.2.1
section RxSolv2
variable {nl : Int32} {a a' : zd_D} {f : zF} {n : Nat} {C nu : Nat → Nat}
theorem zKs.rf : zKs a a := ⟨fun _ _ _ _ => rfl, rfl⟩
theorem zKs.tr {a'' : zd_D} (h : zKs a a') (h2 : zKs a' a'') : zKs a a'' := ⟨fun c q1 q2 q3 => (h2.1 c q1 q2 q3).trans (h.1 c q1 q2 q3), h2.2.trans h.2⟩
theorem zK.ks {cs fs : List Nat} (h : zK 60 cs fs a a') (hc : cs.all (fun c => Nat.beq c 61 || Nat.beq c 130) = true) : zKs a a' := by
  refine ⟨fun c q1 q2 q3 => h.1 c q1 ?_, by rw [h.2.2]⟩
  cases he : cs.elem c with
  | false => rfl
  | true =>
    have := List.all_eq_true.mp hc c (List.elem_iff.mp he)
    rw [Bool.or_eq_true] at this
    rcases this with q | q
    · exact absurd (Nat.eq_of_beq_eq_true q) q2
    · exact absurd (Nat.eq_of_beq_eq_true q) q3
theorem zKs.u (h : zKs a a') {c : Nat} (i : Nat) (x : Int32) (hc : c = 60 ∨ c = 61 ∨ c = 130) : zKs a (zd_u a' c i x) := ⟨fun k q1 q2 q3 => (zb_uc a' c i x (by omega)).trans (h.1 k q1 q2 q3), h.2⟩
theorem zAP.ks (h : zAP a f n) (hk : zKs a a') : zAP a' f n := by
  unfold zAP zAo zAe
  rw [hk.1 2 (by omega) (by omega) (by omega), hk.1 3 (by omega) (by omega) (by omega), hk.1 (3 + 1) (by omega) (by omega) (by omega), hk.1 (3 + 2) (by omega) (by omega) (by omega), hk.1 (3 + 3) (by omega) (by omega) (by omega), hk.1 (3 + 4) (by omega) (by omega) (by omega), hk.1 (3 + 5) (by omega) (by omega) (by omega), hk.1 (3 + 6) (by omega) (by omega) (by omega), hk.1 (3 + 7) (by omega) (by omega) (by omega), hk.1 (3 + 8) (by omega) (by omega) (by omega), hk.1 (3 + 9) (by omega) (by omega) (by omega)]
  exact h
theorem zAN.ks (h : zAN 3 a nu f n) (hk : zKs a a') : zAN 3 a' nu f n := by
  unfold zAN
  rw [hk.1 (3 + 10) (by omega) (by omega) (by omega)]
  exact h
set_option maxHeartbeats 4000000 in
theorem rx_solve (hW : zW f n) (hP : zAP a f n) (hN : zAN 3 a nu f n) (hC : ∀ e, e < zs_B f n n → a.1 58 e = nI (C e)) (hC2 : ∀ e, e < zs_B f n n → C e ≤ 2100) (hb : zBf a) : ∃ a', zx nl 112 0 [z_r 60, none] [] a = some (none, a') ∧ zKs a a' ∧ zPa a' f n C nu ∧ zBf a' := by
  have hn := hW.le
  have hB := zs_B812 (f := f) hn (Nat.le_refl n)
  have h30 : a.1 3 0 = nI n := hP.1.1
  rw [ex_112_0, h30]
  have hbu : ∀ {d : zd_D} (x : Int32), zBf d → zBf (zd_u d 60 0 x) := by
    intro d x h
    unfold zBf
    rw [zb_ui _ _ _ _ (by decide)]
    exact h
  by_cases hn0 : n = 0
  · subst hn0
    simp (disch := omega) only [zb_ltl, zb_llt, zb_eql, zb_leq, nI_ltI, nI_eq, zb_in, nI_clamp, zb_al, zb_la, zb_ml, zb_lm, zb_mul, nI_add, Bool.false_eq_true, reduceCtorEq, Nat.not_lt_zero, cond_true, cond_false, ↓reduceIte, if_true, if_false, Option.toList_some, Option.toList_none, List.nil_append, List.cons_append, Option.bind_some]
    exact ⟨_, rfl, zKs.rf.u _ _ (Or.inl rfl), ⟨by rw [zb_ue, zs_bd_0], fun q => absurd rfl q⟩, hbu _ hb⟩
  simp (disch := omega) only [zb_ltl, zb_llt, zb_eql, zb_leq, nI_ltI, nI_eq, zb_in, nI_clamp, zb_al, zb_la, zb_ml, zb_lm, zb_mul, nI_add, Bool.false_eq_true, reduceCtorEq, Nat.not_lt_zero, cond_true, cond_false, ↓reduceIte, if_true, if_false, Option.toList_some, Option.toList_none, List.nil_append, List.cons_append, Option.bind_some, hn0]
  obtain ⟨a1, r, e1, k1, hrl, hr, h41, hR⟩ := rx_reach (nl := nl) hW hP
  rw [e1]
  simp only [Bool.false_eq_true, reduceCtorEq, Nat.not_lt_zero, cond_true, cond_false, ↓reduceIte, if_true, if_false, Option.toList_some, Option.toList_none, List.nil_append, List.cons_append, Option.bind_some]
  have hP1 := hP.ks (k1.ks rfl)
  have hN1 := hN.ks (k1.ks rfl)
  have hb1 : zBf a1 := by
    unfold zBf
    rw [k1.2.1 6 rfl, k1.2.2]
    exact hb
  rw [ex_112_10]
  obtain ⟨l1, l2⟩ := rx_lacks (nl := nl) hW hP1 hN1 hr h41 hR
  by_cases hno : zs_no f n nu
  · rw [l1 hno]
    simp only [Bool.false_eq_true, reduceCtorEq, Nat.not_lt_zero, cond_true, cond_false, ↓reduceIte, if_true, if_false, Option.toList_some, Option.toList_none, List.nil_append, List.cons_append, Option.bind_some]
    rw [ex_112_12, if_neg (by decide)]
    exact ⟨_, rfl, (k1.ks rfl).u _ _ (Or.inl rfl), ⟨by rw [zb_ue, zs_bd_no hn0 hno], fun _ q => absurd hno q⟩, hbu _ hb1⟩
  rw [l2 hno]
  simp only [Bool.false_eq_true, reduceCtorEq, Nat.not_lt_zero, cond_true, cond_false, ↓reduceIte, if_true, if_false, Option.toList_some, Option.toList_none, List.nil_append, List.cons_append, Option.bind_some]
  rw [ex_112_12, if_pos rfl]
  obtain ⟨a2, e2, k2, w1, w2⟩ := rx_weigh (nl := nl) hW hP1 hN1
  rw [e2]
  simp only [Bool.false_eq_true, reduceCtorEq, Nat.not_lt_zero, cond_true, cond_false, ↓reduceIte, if_true, if_false, Option.toList_some, Option.toList_none, List.nil_append, List.cons_append, Option.bind_some]
  have hP2 := hP1.ks (k2.ks rfl)
  have hN2 := hN1.ks (k2.ks rfl)
  have hb2 : zBf a2 := by
    unfold zBf
    rw [k2.2.1 6 rfl, k2.2.2]
    exact hb1
  have ks2 : zKs a a2 := (k1.ks rfl).tr (k2.ks rfl)
  rw [ex_112_19]
  by_cases h6 : 600 < zs_M nu (zs_B f n n)
  · obtain ⟨q, q1, q2, q3⟩ := w1 h6
    rw [q3, if_pos (show (600 : Int32) < nI q from nI_lt (a := 600) q1 (by omega))]
    exact ⟨_, rfl, ks2.u _ _ (Or.inl rfl), ⟨by rw [zb_ue, zs_bd_sp hn0 hno h6], fun _ _ q => absurd h6 q⟩, hbu _ hb2⟩
  obtain ⟨w3, w4⟩ := w2 h6
  have h6' : zs_M nu (zs_B f n n) ≤ 600 := by omega
  have hM1 := zs_M_pos nu (zs_B f n n)
  have h42 : a2.1 60 4 = nI r := by rw [k2.2.1 4 rfl]; exact h41
  have hC2' : ∀ e, e < zs_B f n n → a2.1 58 e = nI (C e) := by rw [ks2.1 58 (by decide) (by decide) (by decide)]; exact hC
  -- the row of sums is there
  have hmade : ∃ a3, (if 600 < a2.1 60 1 then some (none, zd_u a2 60 0 (-1000000004)) else if a2.1 60 6 = 0 then (if (17400 : Int32) = 17400 ∧ 0 = 0 ∧ a2.2.2 = false then zx nl 112 37 [z_r 60, z_i 0] [] (zd_u (fun k => if k = 130 then (fun _ => 0) else a2.1 k, a2.2.1, true) 60 6 1) else none) else zx nl 112 37 [z_r 60, z_i 0] [] a2) = zx nl 112 37 [z_r 60, z_i 0] [] a3 ∧ zKs a2 a3 ∧ a3.1 60 6 = 1 ∧ a3.2.2 = true ∧ a3.1 60 4 = nI r ∧ a3.1 60 1 = nI (zs_M nu (zs_B f n n)) ∧ a3.1 61 = a2.1 61 := by
    rw [w3, if_neg (show ¬ (600 : Int32) < nI (zs_M nu (zs_B f n n)) from nI_nlt (a := 600) h6' (by decide))]
    rcases hb2 with ⟨b1, b2⟩ | ⟨b1, b2⟩
    · rw [if_pos b1, if_pos ⟨rfl, rfl, b2⟩]
      refine ⟨_, rfl, ⟨fun c q1 q2 q3 => ?_, rfl⟩, zb_ue _ _ _ _, rfl, ?_, ?_, ?_⟩
      · rw [zb_uc _ _ _ _ q1]
        exact if_neg q3
      · rw [zb_ui _ _ _ _ (by decide)]; exact h42
      · rw [zb_ui _ _ _ _ (by decide)]; exact w3
      · rw [zb_uc _ _ _ _ (by decide)]; rfl
    · rw [b1, if_neg (by decide)]
      exact ⟨a2, rfl, zKs.rf, b1, b2, h42, w3, rfl⟩
  obtain ⟨a3, e3, k3, b1, b2, h43, h13, h613⟩ := hmade
  rw [e3]
  have hP3 := hP2.ks k3
  have hN3 := hN2.ks k3
  have hw3 : ∀ e, e < zs_B f n n → a3.1 61 e = zs_wt f n nu e := by rw [h613]; exact w4
  have hC3 : ∀ e, e < zs_B f n n → a3.1 58 e = nI (C e) := by rw [k3.1 58 (by decide) (by decide) (by decide)]; exact hC2'
  have key := zl_up (F := fun mix c => zx nl 112 37 [z_r 60, z_i (nI mix)] [] c) (n := zs_M nu (zs_B f n n)) (I := fun mix c => zK 60 [130] [] a3 c ∧ ∀ m k, m < mix → k ≤ n → (k = n ∨ zs_R f n k = true) → c.1 130 (29 * m + k) = zp (zs_S f n C nu m k)) (Q := fun v c => v = none ∧ zKs a3 c ∧ zPa c f n C nu ∧ zBf c)
    (by
      rintro mix c hmix ⟨h1, h2⟩
      left
      try dsimp only
      have hPc := hP3.ks (h1.ks rfl)
      have hNc := hN3.ks (h1.ks rfl)
      have h1c : c.1 60 1 = nI (zs_M nu (zs_B f n n)) := by rw [h1.2.1 1 rfl]; exact h13
      obtain ⟨c2, g1, g2, g3⟩ := rx_mix (nl := nl) (C := C) hW hPc hNc h6' hn0 (by rw [h1.2.1 6 rfl]; exact b1) (by rw [h1.2.2]; exact b2) hr (by rw [h1.2.1 4 rfl]; exact h43) hR hrl (by rw [h1.1 61 (by decide) rfl]; exact hw3) (by rw [h1.1 58 (by decide) rfl]; exact hC3) hC2 hmix h2
      rw [ex_112_37, h1c]
      simp (disch := omega) only [zb_ltl, zb_llt, zb_eql, zb_leq, nI_ltI, nI_eq, zb_in, nI_clamp, zb_al, zb_la, zb_ml, zb_lm, zb_mul, nI_add, Bool.false_eq_true, reduceCtorEq, Nat.not_lt_zero, cond_true, cond_false, ↓reduceIte, if_true, if_false, Option.toList_some, Option.toList_none, List.nil_append, List.cons_append, Option.bind_some, hmix, g1]
      rw [ex_112_44, zb_al]
      exact ⟨c2, ⟨h1.tr g2, g3⟩, rfl⟩)
    (by
      rintro c ⟨h1, h2⟩
      try dsimp only
      have h1c : c.1 60 1 = nI (zs_M nu (zs_B f n n)) := by rw [h1.2.1 1 rfl]; exact h13
      have hb1c : c.1 60 6 = 1 := by rw [h1.2.1 6 rfl]; exact b1
      have hb2c : c.2.2 = true := by rw [h1.2.2]; exact b2
      have hs := h2 (zs_M nu (zs_B f n n) - 1) 0 (by omega) (by omega) (Or.inr hrl.1.1)
      rw [Nat.add_zero, Nat.mul_comm] at hs
      have hSb : zs_S f n C nu (zs_M nu (zs_B f n n) - 1) 0 < 2 ^ 29 := by
        have q := zs_S_le hn hC2 (zs_S_bs (f := f) (C := C) (nu := nu) hn) (zs_M nu (zs_B f n n) - 1) 0 (by omega) (by omega)
        have q2 : 2100 * (29 * (zs_M nu (zs_B f n n) - 1) + (n - 0)) ≤ 2100 * (29 * 600 + 28) := Nat.mul_le_mul_left _ (by omega)
        omega
      have hrow : ∀ x : Int32, zPr (zd_u c 60 0 x) f n C nu := by
        intro x
        refine ⟨?_, hb2c, ?_, ?_, ?_⟩
        · rw [zb_ui _ _ _ _ (by decide)]; exact hb1c
        · rw [zb_ui _ _ _ _ (by decide)]; exact h1c
        · rw [zb_uc _ _ _ _ (by decide), h1.1 61 (by decide) rfl]; exact hw3
        · rw [zb_uc _ _ _ _ (by decide)]; exact h2
      rw [ex_112_37, h1c, zd_c130 hb2c, hb1c, zb_pred hM1]
      simp (disch := omega) only [zb_ltl, zb_llt, zb_eql, zb_leq, nI_ltI, nI_eq, zb_in, nI_clamp, zb_al, zb_la, zb_ml, zb_lm, zb_mul, nI_add, Bool.false_eq_true, reduceCtorEq, Nat.not_lt_zero, cond_true, cond_false, ↓reduceIte, if_true, if_false, Option.toList_some, Option.toList_none, List.nil_append, List.cons_append, Option.bind_some, Nat.lt_irrefl, show ¬ (1 : Int32) = 0 by decide, show Nat.beq 100 100 = true from rfl, hs, zp_eqm]
      by_cases h0 : zs_S f n C nu (zs_M nu (zs_B f n n) - 1) 0 = 0
      · rw [if_pos h0]
        exact zw_ret ⟨rfl, (h1.ks rfl).u _ _ (Or.inl rfl), ⟨by rw [zb_ue, zs_bd_go hn0 hno h6, if_pos h0], fun _ _ _ => hrow _⟩, hbu _ (Or.inr ⟨hb1c, hb2c⟩)⟩
      · rw [if_neg h0]
        exact zw_ret ⟨rfl, (h1.ks rfl).u _ _ (Or.inl rfl), ⟨by rw [zb_ue, zs_bd_go hn0 hno h6, if_neg h0]; exact zb_pred (by omega), fun _ _ _ => hrow _⟩, hbu _ (Or.inr ⟨hb1c, hb2c⟩)⟩)
    0 a3 (Nat.zero_le _) ⟨zK.rf, fun m k q => absurd q (Nat.not_lt_zero m)⟩
  obtain ⟨v, d, e, hv, h1, h2, h3⟩ := key
  subst hv
  exact ⟨d, e, ks2.tr (k3.tr h1), h2, h3⟩
end RxSolv2
