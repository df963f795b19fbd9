/-! ===== the costliest way: the reference's bound ===== -/
section ZsSex
variable {f : zF} {n : Nat} {C nu : Nat → Nat}
def zs_it (f : zF) (n : Nat) (C nu : Nat → Nat) : Nat → Nat → Nat → Nat
  | 0 => fun _ _ => 0
  | j + 1 => fun mix k => if k < n then zs_mx (zs_sb f n C nu (zs_it f n C nu j) mix) (zs_B f n k) (zs_B f n (k + 1) - zs_B f n k) else 1
theorem zs_it_st (hn : n ≤ 28) : ∀ j mix k, k ≤ n → 29 * mix + (n - k) < j → zs_it f n C nu (j + 1) mix k = zs_it f n C nu j mix k
  | 0, _, _, _, h => absurd h (Nat.not_lt_zero _)
  | j + 1, mix, k, hk, h => by
    show (if k < n then zs_mx (zs_sb f n C nu (zs_it f n C nu (j + 1)) mix) (zs_B f n k) (zs_B f n (k + 1) - zs_B f n k) else 1) = (if k < n then zs_mx (zs_sb f n C nu (zs_it f n C nu j) mix) (zs_B f n k) (zs_B f n (k + 1) - zs_B f n k) else 1)
    by_cases hkn : k < n
    · rw [if_pos hkn, if_pos hkn]
      exact zs_mx_congr _ fun i hi => zs_sb_congr hkn (by omega) (by omega) (fun m t q1 q2 => zs_it_st hn j m t q2 (by omega)) (fun t q1 q2 => zs_it_st hn j mix t q2 (by omega))
    · rw [if_neg hkn, if_neg hkn]
theorem zs_S_bs (hn : n ≤ 28) : zs_bs f n C nu (zs_S f n C nu) := by
  refine (zs_S_eq (S := zs_it f n C nu (29 * zs_M nu (zs_B f n n) + 30)) fun mix hm => ⟨?_, fun k hk => ?_⟩).1
  · rw [← zs_it_st hn _ mix n (Nat.le_refl _) (by omega)]
    exact if_neg (Nat.lt_irrefl _)
  · rw [← zs_it_st hn _ mix k (by omega) (by omega)]
    exact if_pos hk
end ZsSex
/-- the reference's rows of the costliest way -/
def zMB (b : zd_D) (f : zF) (n : Nat) (C nu : Nat → Nat) : Prop := zME b f n ∧ b.1 91 43 = nI (zs_M nu (zs_B f n n)) ∧ (∀ e, e < zs_B f n n → 0 < nu e → b.1 118 e = nI (zs_M nu e)) ∧ (∀ e, e < zs_B f n n → b.1 119 e = nI (C e)) ∧ ∀ mix k, mix < zs_M nu (zs_B f n n) → k < n → b.1 120 (29 * mix + k) = zp (zs_S f n C nu mix k)
section RmBound
variable {b b' : zd_D} {f : zF} {n : Nat} {C nu : Nat → Nat}
set_option maxHeartbeats 2000000 in
theorem rm_sumby (hW : zW f n) (hV : zV 92 b f) (hE : zME b f n) (hN : zMN b nu f n) (h6 : zs_M nu (zs_B f n n) ≤ 600) {e mix : Nat} (he : e < zs_B f n n) (hm : mix < zs_M nu (zs_B f n n)) (hw : 0 < nu e → b.1 118 e = nI (zs_M nu e)) (hC : b.1 119 e = nI (C e)) (hC2 : C e ≤ 2100) {S : Nat → Nat → Nat} (hS : ∀ m t, m < mix ∨ (m = mix ∧ (zs_E f n e).1 < t) → t < n → b.1 120 (29 * m + t) = zp (S m t)) (hSn : ∀ m, m ≤ mix → S m n = 1) (hSb : ∀ m t, m ≤ mix → t ≤ n → S m t < 2 ^ 29) :
    zm 245 0 [z_r 91, z_i (nI e), z_i (nI mix), none, none, none] [] b = some (some (.inl (zp (zs_sb f n C nu S mix e))), b) := by
  have hn := hW.le
  have hB := zs_B812 (f := f) hn (Nat.le_refl n)
  obtain ⟨g1, g2⟩ := hE.2.1 e he
  obtain ⟨hlt1, hlt2⟩ := zs_Elt he
  obtain ⟨n1, n2, n3⟩ := hN e he
  have hMe : zs_M nu e ≤ 600 := Nat.le_trans (zs_M_le nu (Nat.le_of_lt he)) h6
  have hM1 := zs_M_pos nu e
  have fin : ∀ m, (m < mix ∨ (m = mix ∧ (zs_E f n e).1 < (zs_E f n e).2)) → (if nI (zs_E f n e).2 = nI n then some (some (.inl (nI (C e) + 0)), b) else cond (mx_in ((29 * nI m) + nI (zs_E f n e).2) 17400) (if b.1 120 ((29 * nI m) + nI (zs_E f n e).2).toNatClampNeg < 0 then some (some (.inl (-1)), b) else some (some (.inl (nI (C e) + b.1 120 ((29 * nI m) + nI (zs_E f n e).2).toNatClampNeg)), b)) none) = (some (some (.inl (zp (if S m (zs_E f n e).2 = 0 then 0 else S m (zs_E f n e).2 + C e))), b) : Option (Option mx_V × zd_D)) := by
    intro m hmm
    have hm6 : m < 600 := by omega
    simp (disch := omega) only [nI_eq]
    by_cases ht : (zs_E f n e).2 = n
    · rw [if_pos ht, ht, hSn m (by omega), if_neg (by decide), Nat.add_comm, zp_s, zb_al]
      rfl
    · rw [if_neg ht]
      have hs := hS m (zs_E f n e).2 hmm (by omega)
      have hb := hSb m (zs_E f n e).2 (by omega) hlt2
      have hi : mx_in ((29 * nI m) + nI (zs_E f n e).2) 17400 = true := by rw [zb_lm, nI_add]; exact zb_in (by omega) (by decide)
      have hcl : ((29 * nI m) + nI (zs_E f n e).2).toNatClampNeg = 29 * m + (zs_E f n e).2 := by rw [zb_lm, nI_add, nI_clamp (by omega)]
      rw [hi, hcl, hs]
      simp (disch := omega) only [cond_true, zp_neg]
      by_cases h0 : S m (zs_E f n e).2 = 0
      · rw [if_pos h0, if_pos h0, zp_0]
      · rw [if_neg h0, if_neg h0, Int32.add_comm, zp_add]
  rw [em_245_0]
  simp (disch := omega) only [zb_in, nI_clamp, cond_true, g1, g2, hC, hV.sz hW, zb_la, n1, nI_ltI]
  unfold zs_sb zs_tn
  by_cases ht : (zs_E f n e).1 < (zs_E f n e).2
  · simp only [ht, if_true, show ¬ (zs_E f n e).2 ≤ (zs_E f n e).1 by omega, decide_false, Bool.false_eq_true, if_false]
    exact fin mix (Or.inr ⟨rfl, ht⟩)
  · simp only [ht, if_false, show (zs_E f n e).2 ≤ (zs_E f n e).1 by omega, decide_true, if_true]
    simp (disch := omega) only [zb_m1lt, zb_sac]
    by_cases h0 : nu e = 0
    · rw [if_pos h0, if_pos (Or.inl (by omega)), zp_0]
    · rw [if_neg h0, hw (by omega)]
      have hdv : mix / zs_M nu e ≤ mix := Nat.div_le_self _ _
      have hmd : mix / zs_M nu e % nu e < nu e := Nat.mod_lt _ (by omega)
      rw [pk_div (by omega) (by omega) (by omega), pk_rem (by omega) (by omega) (by omega)]
      simp (disch := omega) only [zb_eql, show ¬ zs_M nu e = 0 by omega, h0, Bool.false_eq_true, reduceCtorEq, Nat.not_lt_zero, cond_true, cond_false, ↓reduceIte, if_true, if_false, Option.toList_some, Option.toList_none, List.nil_append, List.cons_append, Option.bind_some]
      by_cases hz : mix / zs_M nu e % nu e = 0
      · rw [if_pos hz, if_pos (Or.inr hz), zp_0]
      · have hnot : ¬ (nu e ≤ 1 ∨ mix / zs_M nu e % nu e = 0) := by
          rintro (q | q)
          · have : nu e = 1 := by omega
            rw [this, Nat.mod_one] at hz
            exact hz rfl
          · exact hz q
        have hle := (zs_turn hnot).2
        rw [if_neg hz, if_neg hnot, zb_sub hle]
        exact fin (mix - zs_M nu e) (Or.inl (by omega))
set_option maxHeartbeats 4000000 in
theorem rm_bound (hW : zW f n) (hV : zV 92 b f) (hN : zMN b nu f n) {ms : Nat} (hms : zMs b f ms) : ∃ b', zm 242 0 [z_r 91, none, none, none, none, none] [] b = some (some (.inl (zs_bd f n (zs_ec f n (b.1 92 9) ms) nu)), b') ∧ zK 91 [98, 99, 100, 113, 114, 115, 116, 117, 118, 119, 120] [15, 43] b b' ∧ (¬ n = 0 → ¬ zs_no f n nu → ¬ 600 < zs_M nu (zs_B f n n) → zMB b' f n (zs_ec f n (b.1 92 9) ms) nu) ∧ (¬ n = 0 → zs_rl f n (zs_R f n) ∧ zs_must f n (b.1 92 9) (zs_X f n (b.1 92 9))) := by
  have hn := hW.le
  have hB := zs_B812 (f := f) hn (Nat.le_refl n)
  rw [em_242_0, hV.sz hW]
  by_cases hn0 : n = 0
  · subst hn0
    simp (disch := omega) only [zb_ltl, zb_llt, zb_eql, zb_leq, nI_ltI, nI_eq, zb_in, nI_clamp, zb_al, zb_la, zb_ml, zb_lm, zb_mul, nI_add, Bool.false_eq_true, reduceCtorEq, Nat.not_lt_zero, cond_true, cond_false, ↓reduceIte, if_true, if_false, Option.toList_some, Option.toList_none, List.nil_append, List.cons_append, Option.bind_some, zs_bd_0]
    exact ⟨b, rfl, zK.rf, fun q => absurd trivial q, fun q => absurd trivial q⟩
  simp (disch := omega) only [zb_ltl, zb_llt, zb_eql, zb_leq, nI_ltI, nI_eq, zb_in, nI_clamp, zb_al, zb_la, zb_ml, zb_lm, zb_mul, nI_add, Bool.false_eq_true, reduceCtorEq, Nat.not_lt_zero, cond_true, cond_false, ↓reduceIte, if_true, if_false, Option.toList_some, Option.toList_none, List.nil_append, List.cons_append, Option.bind_some, hn0]
  obtain ⟨b1, e1, k1, hA1, hmu, hma⟩ := rm_all hW hV
  rw [e1]
  simp only [Bool.false_eq_true, reduceCtorEq, Nat.not_lt_zero, cond_true, cond_false, ↓reduceIte, if_true, if_false, Option.toList_some, Option.toList_none, List.nil_append, List.cons_append, Option.bind_some]
  have hV1 := hV.k k1 (by decide) rfl
  have hN1 := hN.k k1 rfl
  have hms1 := hms.k k1 rfl
  rw [em_242_9]
  obtain ⟨b2, w, e2, k2, hrl, hw1, hw2⟩ := rm_why hW hV1 hA1.1 hN1
  rw [e2]
  simp only [Bool.false_eq_true, reduceCtorEq, Nat.not_lt_zero, cond_true, cond_false, ↓reduceIte, if_true, if_false, Option.toList_some, Option.toList_none, List.nil_append, List.cons_append, Option.bind_some]
  rw [em_242_11]
  have k12 : zK 91 [98, 99, 100, 113, 114, 115, 116, 117, 118, 119, 120] [15, 43] b b2 := (k1.up rfl rfl).tr (k2.up rfl rfl)
  by_cases hno : zs_no f n nu
  · rw [hw1 hno, if_neg (by decide), zs_bd_no hn0 hno]
    exact ⟨b2, rfl, k12, fun _ q => absurd hno q, fun _ => ⟨hrl, hmu⟩⟩
  obtain ⟨hw3, hw4⟩ := hw2 hno
  by_cases h6 : 600 < zs_M nu (zs_B f n n)
  · rw [hw3 h6, if_neg (by decide), zs_bd_sp hn0 hno h6]
    exact ⟨b2, rfl, k12, fun _ _ q => absurd h6 q, fun _ => ⟨hrl, hmu⟩⟩
  obtain ⟨hw5, hT2, hwt2⟩ := hw4 h6
  have h6' : zs_M nu (zs_B f n n) ≤ 600 := by omega
  have hM1 := zs_M_pos nu (zs_B f n n)
  rw [hw5, if_pos rfl, zs_bd_go hn0 hno h6]
  have hV2 := hV1.k k2 (by decide) rfl
  have hA2 := hA1.k k2 rfl rfl rfl rfl rfl rfl rfl
  have hN2 := hN1.k k2 rfl
  have hms2 := hms1.k k2 rfl
  -- costs
  obtain ⟨b3, ⟨k3, hc3⟩, e3⟩ := zl_to (F := fun e c => zm 242 19 [z_r 91, none, z_i (nI e), none, none, none] [] c) (I := fun e c => zK 91 [119] [] b2 c ∧ ∀ j, j < e → c.1 119 j = nI (zs_ec f n (b.1 92 9) ms j)) (n := zs_B f n n)
    (by
      rintro e c he ⟨h1, h2⟩
      try dsimp only
      have hAc := hA2.k h1 rfl rfl rfl rfl rfl rfl rfl
      rw [em_242_19, hAc.1.1]
      simp (disch := omega) only [zb_ltl, zb_llt, zb_eql, zb_leq, nI_ltI, nI_eq, zb_in, nI_clamp, zb_al, zb_la, zb_ml, zb_lm, zb_mul, nI_add, Bool.false_eq_true, reduceCtorEq, Nat.not_lt_zero, cond_true, cond_false, ↓reduceIte, if_true, if_false, Option.toList_some, Option.toList_none, List.nil_append, List.cons_append, Option.bind_some, he, rm_ec hW (hV2.k h1 (by decide) rfl) hAc (hms2.k h1 rfl) he]
      rw [em_242_29]
      simp (disch := omega) only [zb_ltl, zb_llt, zb_eql, zb_leq, nI_ltI, nI_eq, zb_in, nI_clamp, zb_al, zb_la, zb_ml, zb_lm, zb_mul, nI_add, Bool.false_eq_true, reduceCtorEq, Nat.not_lt_zero, cond_true, cond_false, ↓reduceIte, if_true, if_false, Option.toList_some, Option.toList_none, List.nil_append, List.cons_append, Option.bind_some]
      refine ⟨_, ⟨h1.u (c := 119) _ _ (by decide) rfl, fun j hj => ?_⟩, rfl⟩
      by_cases hje : j = e
      · subst hje; exact zb_ue _ _ _ _
      · rw [zb_ui _ _ _ _ hje]; exact h2 j (by omega)) 0 b2 (Nat.zero_le _) ⟨zK.rf, fun j hj => absurd hj (Nat.not_lt_zero j)⟩
  rw [show zm 242 19 [z_r 91, none, z_i 0, none, none, none] [] b2 = _ from e3, em_242_19, (hA2.k k3 rfl rfl rfl rfl rfl rfl rfl).1.1]
  simp (disch := omega) only [zb_ltl, zb_llt, zb_eql, zb_leq, nI_ltI, nI_eq, zb_in, nI_clamp, zb_al, zb_la, zb_ml, zb_lm, zb_mul, nI_add, Bool.false_eq_true, reduceCtorEq, Nat.not_lt_zero, cond_true, cond_false, ↓reduceIte, if_true, if_false, Option.toList_some, Option.toList_none, List.nil_append, List.cons_append, Option.bind_some, Nat.lt_irrefl]
  have hV3 := hV2.k k3 (by decide) rfl
  have hE3 := hA2.1.k k3 rfl rfl rfl rfl
  have hN3 := hN2.k k3 rfl
  have hT3 : b3.1 91 43 = nI (zs_M nu (zs_B f n n)) := by rw [k3.2.1 43 rfl]; exact hT2
  have hwt3 : ∀ e, e < zs_B f n n → 0 < nu e → b3.1 118 e = nI (zs_M nu e) := by rw [k3.1 118 (by decide) rfl]; exact hwt2
  have hbs := zs_S_bs (f := f) (C := zs_ec f n (b.1 92 9) ms) (nu := nu) hn
  have hSb : ∀ m t, m < zs_M nu (zs_B f n n) → t ≤ n → zs_S f n (zs_ec f n (b.1 92 9) ms) nu m t < 2 ^ 29 := by
    intro m t h1 h2
    have q := zs_S_le hn (fun e _ => zs_ec_le (lk := b.1 92 9) hW hms.1 e) hbs m t h1 h2
    have q2 : 2100 * (29 * m + (n - t)) ≤ 2100 * (29 * 600 + 28) := Nat.mul_le_mul_left _ (by omega)
    omega
  have key := zl_up (F := fun mix c => zm 242 35 [z_r 91, none, z_i (nI mix), none, none, none] [] c) (n := zs_M nu (zs_B f n n)) (I := fun mix c => zK 91 [120] [] b3 c ∧ ∀ m t, m < mix → t < n → c.1 120 (29 * m + t) = zp (zs_S f n (zs_ec f n (b.1 92 9) ms) nu m t)) (Q := fun v c => v = some (.inl (if zs_S f n (zs_ec f n (b.1 92 9) ms) nu (zs_M nu (zs_B f n n) - 1) 0 = 0 then -1000000005 else nI (zs_S f n (zs_ec f n (b.1 92 9) ms) nu (zs_M nu (zs_B f n n) - 1) 0 - 1))) ∧ zK 91 [120] [] b3 c ∧ ∀ m t, m < zs_M nu (zs_B f n n) → t < n → c.1 120 (29 * m + t) = zp (zs_S f n (zs_ec f n (b.1 92 9) ms) nu m t))
    (by
      rintro mix c hmix ⟨h1, h2⟩
      left
      try dsimp only
      have hTc : c.1 91 43 = nI (zs_M nu (zs_B f n n)) := by rw [h1.2.1 43 rfl]; exact hT3
      rw [em_242_35, hTc, (hV3.k h1 (by decide) rfl).sz hW]
      simp (disch := omega) only [zb_ltl, zb_llt, zb_eql, zb_leq, nI_ltI, nI_eq, zb_in, nI_clamp, zb_al, zb_la, zb_ml, zb_lm, zb_mul, nI_add, Bool.false_eq_true, reduceCtorEq, Nat.not_lt_zero, cond_true, cond_false, ↓reduceIte, if_true, if_false, Option.toList_some, Option.toList_none, List.nil_append, List.cons_append, Option.bind_some, hmix]
      obtain ⟨c2, ⟨h3, -, h4, h5⟩, e4⟩ := zl_td (F := fun j c => zm 242 47 [z_r 91, none, z_i (nI mix), z_i (nI j - 1), none, none] [] c) (I := fun j c => zK 91 [120] [] b3 c ∧ j ≤ n ∧ (∀ m t, m < mix → t < n → c.1 120 (29 * m + t) = zp (zs_S f n (zs_ec f n (b.1 92 9) ms) nu m t)) ∧ ∀ t, j ≤ t → t < n → c.1 120 (29 * mix + t) = zp (zs_S f n (zs_ec f n (b.1 92 9) ms) nu mix t))
        (by
          rintro k c ⟨h1, hkn, h2, h3⟩
          try dsimp only
          have hk : k < n := hkn
          have hVc := hV3.k h1 (by decide) rfl
          have hEc := hE3.k h1 rfl rfl rfl rfl
          have hNc := hN3.k h1 rfl
          have r2 := hEc.2.2 k (by omega)
          have r3 := hEc.2.2 (k + 1) (by omega)
          have hBk : zs_B f n k ≤ zs_B f n (k + 1) := zs_Bm (Nat.le_succ k)
          have hBn : zs_B f n (k + 1) ≤ zs_B f n n := zs_Bm hk
          rw [nI_pred, em_242_47]
          simp (disch := omega) only [zb_ltl, zb_llt, zb_eql, zb_leq, nI_ltI, nI_eq, zb_in, nI_clamp, zb_al, zb_la, zb_ml, zb_lm, zb_mul, nI_add, Bool.false_eq_true, reduceCtorEq, Nat.not_lt_zero, cond_true, cond_false, ↓reduceIte, if_true, if_false, Option.toList_some, Option.toList_none, List.nil_append, List.cons_append, Option.bind_some, zb_l0, r2]
          have hin := zl_eq (G := fun i => zm 242 57 [z_r 91, none, z_i (nI mix), z_i (nI k), z_i (zp (zs_mx (zs_sb f n (zs_ec f n (b.1 92 9) ms) nu (zs_S f n (zs_ec f n (b.1 92 9) ms) nu) mix) (zs_B f n k) i)), z_i (nI (zs_B f n k + i))] [] c) (n := zs_B f n (k + 1) - zs_B f n k)
            (by
              intro i hi
              try dsimp only
              have heB : zs_B f n k + i < zs_B f n n := by omega
              have hE4 := zs_Ein (f := f) hk (e := zs_B f n k + i) (by omega) (by omega)
              have hsum := rm_sumby (b := c) (C := zs_ec f n (b.1 92 9) ms) (S := zs_S f n (zs_ec f n (b.1 92 9) ms) nu) hW hVc hEc hNc h6' heB hmix (by rw [h1.1 118 (by decide) rfl]; exact hwt3 _ heB) (by rw [h1.1 119 (by decide) rfl]; exact hc3 _ heB) (zs_ec_le hW hms.1 _)
                (by
                  rintro m t (q | ⟨q, q2⟩) ht
                  · exact h2 m t q ht
                  · rw [hE4.1] at q2
                    rw [q]
                    exact h3 t (by omega) ht)
                (fun m hm => (hbs m (by omega)).1) (fun m t q1 q2 => hSb m t (by omega) q2)
              have hsl := zs_sb_le (f := f) (n := n) (nu := nu) (S := zs_S f n (zs_ec f n (b.1 92 9) ms) nu) (mix := mix) (k := k) (e := zs_B f n k + i) hn (fun e _ => zs_ec_le (lk := b.1 92 9) hW hms.1 e) hk (by omega) (by omega) (fun m t q1 q2 => zs_S_le hn (fun e _ => zs_ec_le (lk := b.1 92 9) hW hms.1 e) hbs m t (by omega) q2) (fun t q1 q2 => zs_S_le hn (fun e _ => zs_ec_le (lk := b.1 92 9) hW hms.1 e) hbs mix t hmix q2)
              have hmxl := zs_mx_le (g := zs_sb f n (zs_ec f n (b.1 92 9) ms) nu (zs_S f n (zs_ec f n (b.1 92 9) ms) nu) mix) (lo := zs_B f n k) (m := 1 + 2100 * (29 * mix + (n - k))) i (fun i' hi' => zs_sb_le (f := f) (n := n) (nu := nu) (S := zs_S f n (zs_ec f n (b.1 92 9) ms) nu) (mix := mix) (k := k) (e := zs_B f n k + i') hn (fun e _ => zs_ec_le (lk := b.1 92 9) hW hms.1 e) hk (by omega) (by omega) (fun m t q1 q2 => zs_S_le hn (fun e _ => zs_ec_le (lk := b.1 92 9) hW hms.1 e) hbs m t (by omega) q2) (fun t q1 q2 => zs_S_le hn (fun e _ => zs_ec_le (lk := b.1 92 9) hW hms.1 e) hbs mix t hmix q2))
              have hbig : 2100 * (29 * mix + (n - k)) ≤ 2100 * (29 * 600 + 28) := Nat.mul_le_mul_left _ (by omega)
              rw [em_242_57]
              simp (disch := omega) only [zb_ltl, zb_llt, zb_eql, zb_leq, nI_ltI, nI_eq, zb_in, nI_clamp, zb_al, zb_la, zb_ml, zb_lm, zb_mul, nI_add, Bool.false_eq_true, reduceCtorEq, Nat.not_lt_zero, cond_true, cond_false, ↓reduceIte, if_true, if_false, Option.toList_some, Option.toList_none, List.nil_append, List.cons_append, Option.bind_some, r3, show zs_B f n k + i < zs_B f n (k + 1) by omega, hsum]
              rw [em_242_70]
              have hms' : zs_mx (zs_sb f n (zs_ec f n (b.1 92 9) ms) nu (zs_S f n (zs_ec f n (b.1 92 9) ms) nu) mix) (zs_B f n k) (i + 1) = max (zs_mx (zs_sb f n (zs_ec f n (b.1 92 9) ms) nu (zs_S f n (zs_ec f n (b.1 92 9) ms) nu) mix) (zs_B f n k) i) (zs_sb f n (zs_ec f n (b.1 92 9) ms) nu (zs_S f n (zs_ec f n (b.1 92 9) ms) nu) mix (zs_B f n k + i)) := rfl
              simp (disch := omega) only [zp_lt, zb_al, Nat.add_assoc]
              by_cases hc : zs_sb f n (zs_ec f n (b.1 92 9) ms) nu (zs_S f n (zs_ec f n (b.1 92 9) ms) nu) mix (zs_B f n k + i) < zs_mx (zs_sb f n (zs_ec f n (b.1 92 9) ms) nu (zs_S f n (zs_ec f n (b.1 92 9) ms) nu) mix) (zs_B f n k) i
              · rw [if_pos hc, hms', Nat.max_eq_left (by omega)]
              · rw [if_neg hc, hms', Nat.max_eq_right (by omega)]) _ (Nat.le_refl _)
          try dsimp only at hin
          rw [show zs_mx (zs_sb f n (zs_ec f n (b.1 92 9) ms) nu (zs_S f n (zs_ec f n (b.1 92 9) ms) nu) mix) (zs_B f n k) 0 = 0 from rfl, zp_0, Nat.add_zero, show zs_B f n k + (zs_B f n (k + 1) - zs_B f n k) = zs_B f n (k + 1) by omega, ← (hbs mix hmix).2 k hk] at hin
          rw [hin, em_242_57]
          simp (disch := omega) only [zb_ltl, zb_llt, zb_eql, zb_leq, nI_ltI, nI_eq, zb_in, nI_clamp, zb_al, zb_la, zb_ml, zb_lm, zb_mul, nI_add, Bool.false_eq_true, reduceCtorEq, Nat.not_lt_zero, cond_true, cond_false, ↓reduceIte, if_true, if_false, Option.toList_some, Option.toList_none, List.nil_append, List.cons_append, Option.bind_some, r3, Nat.lt_irrefl]
          refine ⟨zd_u c 120 (29 * mix + k) (zp (zs_S f n (zs_ec f n (b.1 92 9) ms) nu mix k)), ⟨h1.u (c := 120) _ _ (by decide) rfl, by omega, fun m t q1 q2 => ?_, fun t q1 q2 => ?_⟩, by rw [Int32.sub_eq_add_neg]⟩
          · rw [zb_ui _ _ _ _ (by omega)]; exact h2 m t q1 q2
          · by_cases htk : t = k
            · subst htk; exact zb_ue _ _ _ _
            · rw [zb_ui _ _ _ _ (by omega)]; exact h3 t (by omega) q2) n c ⟨h1, Nat.le_refl _, h2, fun t q1 q2 => absurd q2 (by omega)⟩
      try dsimp only at e4
      rw [e4, em_242_47, if_pos (by decide), zb_al]
      refine ⟨c2, ⟨h3, fun m t q1 q2 => ?_⟩, rfl⟩
      by_cases hmm : m = mix
      · subst hmm; exact h5 t (Nat.zero_le _) q2
      · exact h4 m t (by omega) q2)
    (by
      rintro c ⟨h1, h2⟩
      try dsimp only
      have hTc : c.1 91 43 = nI (zs_M nu (zs_B f n n)) := by rw [h1.2.1 43 rfl]; exact hT3
      have hs := h2 (zs_M nu (zs_B f n n) - 1) 0 (by omega) (by omega)
      have hb := hSb (zs_M nu (zs_B f n n) - 1) 0 (by omega) (by omega)
      rw [Nat.add_zero] at hs
      rw [em_242_35, hTc, zb_pred hM1]
      simp (disch := omega) only [zb_ltl, zb_llt, zb_eql, zb_leq, nI_ltI, nI_eq, zb_in, nI_clamp, zb_al, zb_la, zb_ml, zb_lm, zb_mul, nI_add, Bool.false_eq_true, reduceCtorEq, Nat.not_lt_zero, cond_true, cond_false, ↓reduceIte, if_true, if_false, Option.toList_some, Option.toList_none, List.nil_append, List.cons_append, Option.bind_some, Nat.lt_irrefl, hs, zp_neg]
      by_cases h0 : zs_S f n (zs_ec f n (b.1 92 9) ms) nu (zs_M nu (zs_B f n n) - 1) 0 = 0
      · simp only [h0, Bool.false_eq_true, reduceCtorEq, Nat.not_lt_zero, cond_true, cond_false, ↓reduceIte, if_true, if_false, Option.toList_some, Option.toList_none, List.nil_append, List.cons_append, Option.bind_some]
        exact zw_ret ⟨rfl, h1, h2⟩
      · simp only [h0, Bool.false_eq_true, reduceCtorEq, Nat.not_lt_zero, cond_true, cond_false, ↓reduceIte, if_true, if_false, Option.toList_some, Option.toList_none, List.nil_append, List.cons_append, Option.bind_some]
        refine zw_ret ⟨?_, h1, h2⟩
        rw [show zp (zs_S f n (zs_ec f n (b.1 92 9) ms) nu (zs_M nu (zs_B f n n) - 1) 0) = nI (zs_S f n (zs_ec f n (b.1 92 9) ms) nu (zs_M nu (zs_B f n n) - 1) 0 - 1) from zb_pred (by omega)])
    0 b3 (Nat.zero_le _) ⟨zK.rf, fun m t q => absurd q (Nat.not_lt_zero m)⟩
  obtain ⟨v, d, e, hv, h1, h2⟩ := key
  subst hv
  refine ⟨d, e, k12.tr ((k3.up rfl rfl).tr (h1.up rfl rfl)), fun _ _ _ => ⟨hE3.k h1 rfl rfl rfl rfl, ?_, ?_, ?_, h2⟩, fun _ => ⟨hrl, hmu⟩⟩
  · rw [h1.2.1 43 rfl]; exact hT3
  · rw [h1.1 118 (by decide) rfl]; exact hwt3
  · rw [h1.1 119 (by decide) rfl]; exact hc3
end RmBound
