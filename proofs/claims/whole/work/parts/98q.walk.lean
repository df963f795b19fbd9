/-! ===== a run: the loop on both sides ===== -/
section ZWalk3
variable {nl : Int32} {a a' a'' a0 b b' b'' b0 : zd_D} {f : zF} {n w : Nat} {nu : Nat → Nat} {c0 T : Nat} {told : Bool}
theorem zU.step (hc : c0 = 45 ∨ c0 = 49) (h : zU c0 told a0 b0 f n nu T a b) {A B : zd_D} (ka : ∀ c, ¬ (38 ≤ c ∧ c ≤ 44) → ¬ (c0 ≤ c ∧ c ≤ c0 + 3) → A.1 c = a.1 c) (ka2 : A.2 = a.2) (kb : ∀ c, ¬ c = 91 → ¬ c = 101 → ¬ (103 ≤ c ∧ c ≤ 112) → B.1 c = b.1 c) (kt : told = false → B.1 103 = b.1 103 ∧ B.1 104 = b.1 104) (k91 : ∀ i, ¬ i = 31 → ¬ i = 33 → B.1 91 i = b.1 91 i) (hQ : zQ c0 A B f (T + 1)) (s0 : A.1 c0 0 = a.1 c0 0) (s2 : A.1 c0 2 = nI (T + 1)) (m1 : B.1 101 1 = nI (T + 1)) (s6 : A.1 c0 6 = B.1 101 5) {tt : Nat} (ht : tt ≤ 300 * (T + 1)) (t1 : A.1 c0 1 = nI tt) (t2 : B.1 101 0 = nI tt) {x y : Int32} (hs : told = true → ∀ i, ((A.1 (c0 + 2) i = if i = T then x else a.1 (c0 + 2) i) ∧ A.1 (c0 + 3) i = if i = T then y else a.1 (c0 + 3) i) ∧ (B.1 103 i = if i = T then x else b.1 103 i) ∧ B.1 104 i = if i = T then y else b.1 104 i) (hk : zTk c0 f n nu (T + 1) A B) : zU c0 told a0 b0 f n nu (T + 1) A B := by
  obtain ⟨ga, gb, gM, gQ, ⟨g0, g2, g1, g6, -⟩, gs, -⟩ := h
  refine ⟨ga.up hc ka ka2, ⟨fun c q1 q2 q3 => (kb c q1 (by omega) q3).trans (gb.1 c q1 q2 q3), fun q => ?_, fun i q1 q2 q3 => (k91 i q2 q3).trans (gb.2.2 i q1 q2 q3)⟩, ?_, hQ, ⟨s0.trans g0, s2, m1, s6, tt, ht, t1, t2⟩, fun q i hi => ?_, hk⟩
  · obtain ⟨u1, u2⟩ := kt q
    obtain ⟨u3, u4⟩ := gb.2.1 q
    exact ⟨u1.trans u3, u2.trans u4⟩
  · unfold zME
    rw [k91 15 (by omega) (by omega), kb 98 (by omega) (by omega) (by omega), kb 99 (by omega) (by omega) (by omega), kb 100 (by omega) (by omega) (by omega)]
    exact gM
  · obtain ⟨⟨u1, u2⟩, u3, u4⟩ := hs q i
    rw [u1, u2, u3, u4]
    by_cases c : i = T
    · rw [if_pos c, if_pos c, if_pos c, if_pos c]; exact ⟨rfl, rfl⟩
    · rw [if_neg c, if_neg c, if_neg c, if_neg c]; exact gs q i (by omega)
theorem rm_13s {k : Nat} {x2 x5 y : Int32} (hk : k < n) (hn : n ≤ 28) (h12 : b.1 101 12 = y) (hy : ¬ y = 0) : zm 223 13 [z_r 91, none, z_i x2, z_i (nI n), z_i (nI k), z_i x5, none, none] [] b = zm 223 169 [z_r 91, none, none, none, none, none, z_i 0, none] [] (zd_u (zd_u (zd_u b 101 12 y) 101 11 (nI k)) 101 10 1) := by
  rw [em_223_13, if_pos (nI_lt hk (by omega)), h12]
  by_cases c : b.1 101 1 < 600
  · rw [if_pos c, if_neg hy, if_neg hy]
  · rw [if_neg c, if_neg hy]
theorem zb_ng : ∀ σ, σ < 4 → 1 ≤ σ → -nI σ < 0 ∧ -(-nI σ) = nI σ ∧ ¬ nI σ = 0 := by decide +kernel
theorem z_walk (hc : c0 = 45 ∨ c0 = 49) (h0 : zR0 a0 b0 f n nu w) : ∀ g T k x3 a b, T + g = 600 → k ≤ n → (x3 < 0 ∨ ∃ j, j < n ∧ x3 = nI j) → zU c0 told a0 b0 f n nu T a b → b.1 101 12 = 0 → ∃ a' b', zx nl 77 36 [z_r 38, none, z_r c0, z_i x3, z_i (nI k), z_i (nI T), none] [] a = some (none, a') ∧ zm 223 13 [z_r 91, none, z_i (if told = true then 1 else 0), z_i (nI n), z_i (nI k), z_i x3, none, none] [] b = some (none, b') ∧ zEn c0 told a0 b0 a' b' := by
  have hW := h0.W
  have hn := hW.le
  intro g
  induction g with
  | zero =>
    intro T k x3 a b hT hk hx hU h12
    have hU0 := hU
    obtain ⟨ka, kb, hM, hQ, ⟨s0, s2, m1, s6, tt, t1, t2, t3⟩, hst, tk, k1, k7⟩ := hU
    obtain ⟨hV, hAo, hAe, h2, hlk, hN, hNm⟩ := z_stat (a := a) (b := b) h0 (fun c q => ka.1 c (by omega) (by omega)) (kb.1 92 (by omega) (by omega) (by omega))
    have p0 : a.1 3 0 = nI n := hAo.1
    rw [ex_77_36 c0 _ _ _ hc, if_neg (show ¬ nI T < 600 from nI_nlt (b := 600) (by omega) (by omega)), p0, em_223_13, m1, if_neg (show ¬ nI T < 600 from nI_nlt (b := 600) (by omega) (by omega)), h12, if_pos rfl]
    by_cases c : k < n
    · obtain ⟨b', e1, e2⟩ := z_fin hc h0 hU0 (by omega) (nI k) 4
      rw [if_pos (nI_lt c (by omega)), if_pos (nI_lt c (by omega)), if_pos (nI_lt c (by omega))]
      exact ⟨_, b', rfl, e1, e2⟩
    · obtain ⟨b', e1, e2⟩ := z_fin hc h0 hU0 (by omega) (nI k) 0
      rw [if_neg (nI_nlt (by omega) (by omega)), if_neg (nI_nlt (by omega) (by omega)), if_neg (nI_nlt (by omega) (by omega))]
      exact ⟨_, b', rfl, e1, e2⟩
  | succ g ih =>
    intro T k x3 a b hT hk hx hU h12
    have hU0 := hU
    obtain ⟨ka, kb, hM, hQ, ⟨s0, s2, m1, s6, tt, t1, t2, t3⟩, hst, tk, k1, k7⟩ := hU
    obtain ⟨hV, hAo, hAe, h2, hlk, hN, hNm⟩ := z_stat (a := a) (b := b) h0 (fun c q => ka.1 c (by omega) (by omega)) (kb.1 92 (by omega) (by omega) (by omega))
    have p0 : a.1 3 0 = nI n := hAo.1
    by_cases hkn : k < n
    rotate_left
    · obtain ⟨b', e1, e2⟩ := z_fin hc h0 hU0 (by omega) (nI k) 0
      rw [ex_77_36 c0 _ _ _ hc, if_pos (show nI T < 600 from nI_lt (b := 600) (by omega) (by omega)), p0, em_223_13, h12, if_pos rfl, if_neg (nI_nlt (by omega) (by omega)), if_neg (nI_nlt (by omega) (by omega)), if_neg (nI_nlt (by omega) (by omega)), if_neg (nI_nlt (by omega) (by omega))]
      exact ⟨_, b', rfl, e1, e2⟩
    rw [ex_77_36 c0 _ _ _ hc, if_pos (show nI T < 600 from nI_lt (b := 600) (by omega) (by omega)), p0, if_pos (nI_lt hkn (by omega)), em_223_13, if_pos (nI_lt hkn (by omega)), m1, if_pos (show nI T < 600 from nI_lt (b := 600) (by omega) (by omega)), if_pos h12, nI_1]
    -- the reference's first count
    have cd0 : ∀ c, ¬ c = 101 → (zd_u b 101 1 (nI (T + 1))).1 c = b.1 c := fun c q => zb_uc _ _ _ _ q
    have fd0 : ∀ i, ¬ i = 1 → (zd_u b 101 1 (nI (T + 1))).1 101 i = b.1 101 i := fun i q => zb_ui _ _ _ _ q
    have hVd0 : zV 92 (zd_u b 101 1 (nI (T + 1))) f := fun i q1 q2 q3 => by rw [cd0 92 (by decide)]; exact hV i q1 q2 q3
    rw [rm_stop hW hVd0 hkn, cd0 105 (by decide)]
    simp only [Bool.false_eq_true, reduceCtorEq, Nat.not_lt_zero, cond_true, cond_false, ↓reduceIte, if_true, if_false, Option.toList_some, Option.toList_none, List.nil_append, List.cons_append, Option.bind_some]
    rcases z_do (nl := nl) hc hW hV hAo h2 hlk hQ (by omega) hkn with ⟨hz, -⟩ | ⟨⟨z1, z3⟩, a1, e80, kp, hQ1⟩
    rotate_left
    · -- it stops
      obtain ⟨y1, y2, y3⟩ := zb_ng (zs_stop f k (b.1 105)) (by omega) z1
      have u1 : a1.1 c0 1 = nI tt := (kp.2.1 1 (by omega)).trans t2
      have u2 : a1.1 c0 2 = nI T := (kp.2.1 2 (by omega)).trans s2
      have i12 : mx_in 12 13 = true := by decide
      have c12 : (12 : Int32).toNatClampNeg = 12 := by decide
      generalize zs_stop f k (b.1 105) = σ at *
      rw [e80]
      simp only [Bool.false_eq_true, reduceCtorEq, Nat.not_lt_zero, cond_true, cond_false, ↓reduceIte, if_true, if_false, Option.toList_some, Option.toList_none, List.nil_append, List.cons_append, Option.bind_some]
      rw [ex_77_48 c0 _ _ _ _ hc, if_pos y1, y2, u1, u2, zb_in (show T < 600 by omega) (by omega), nI_clamp (show T < 2 ^ 31 by omega), nI_1, nI_1, em_223_41, i12, c12, zb_ue, if_neg y3]
      have f1 : (zd_u (zd_u b 101 1 (nI (T + 1))) 101 12 (nI σ)).1 101 1 - 1 = nI T := by rw [zb_ui _ _ _ _ (by decide), zb_ue, nI_pred]
      have f0 : (zd_u (zd_u b 101 1 (nI (T + 1))) 101 12 (nI σ)).1 101 0 = nI tt := by rw [zb_ui _ _ _ _ (by decide), zb_ui _ _ _ _ (by decide)]; exact t3
      rw [f1, f0, zb_in (show T < 600 by omega) (by omega), nI_clamp (show T < 2 ^ 31 by omega), nI_1]
      simp only [cond_true]
      obtain ⟨B, hB, b1, b2, b3, b4, b5⟩ : ∃ B, (if (if told = true then (1 : Int32) else 0) = 0 then zm 223 13 [z_r 91, none, z_i (if told = true then 1 else 0), z_i (nI n), z_i (nI k), z_i x3, none, none] [] (zd_u (zd_u (zd_u b 101 1 (nI (T + 1))) 101 12 (nI σ)) 101 0 (nI (tt + 1))) else zm 223 13 [z_r 91, none, z_i (if told = true then 1 else 0), z_i (nI n), z_i (nI k), z_i x3, none, none] [] (zd_u (zd_u (zd_u (zd_u (zd_u b 101 1 (nI (T + 1))) 101 12 (nI σ)) 101 0 (nI (tt + 1))) 103 T (nI k)) 104 T (nI (tt + 1)))) = zm 223 13 [z_r 91, none, z_i (if told = true then 1 else 0), z_i (nI n), z_i (nI k), z_i x3, none, none] [] B ∧ (∀ c, ¬ c = 101 → ¬ c = 103 → ¬ c = 104 → B.1 c = b.1 c) ∧ (B.1 101 0 = nI (tt + 1) ∧ B.1 101 1 = nI (T + 1) ∧ B.1 101 12 = nI σ) ∧ (∀ i, ¬ i = 0 → ¬ i = 1 → ¬ i = 12 → B.1 101 i = b.1 101 i) ∧ (told = false → B.1 103 = b.1 103 ∧ B.1 104 = b.1 104) ∧ (told = true → ∀ i, (B.1 103 i = if i = T then nI k else b.1 103 i) ∧ B.1 104 i = if i = T then nI (tt + 1) else b.1 104 i) := by
        cases told with
        | false =>
          simp only [Bool.false_eq_true, reduceCtorEq, Nat.not_lt_zero, cond_true, cond_false, ↓reduceIte, if_true, if_false, Option.toList_some, Option.toList_none, List.nil_append, List.cons_append, Option.bind_some]
          refine ⟨_, rfl, fun c c1 c2 c3 => by rw [zb_uc _ _ _ _ c1, zb_uc _ _ _ _ c1, zb_uc _ _ _ _ c1], ⟨zb_ue _ _ _ _, by rw [zb_ui _ _ _ _ (by decide), zb_ui _ _ _ _ (by decide), zb_ue], by rw [zb_ui _ _ _ _ (by decide), zb_ue]⟩, fun i i0 i1 i2 => by rw [zb_ui _ _ _ _ i0, zb_ui _ _ _ _ i2, zb_ui _ _ _ _ i1], fun _ => ⟨by rw [zb_uc _ _ _ _ (by decide), zb_uc _ _ _ _ (by decide), zb_uc _ _ _ _ (by decide)], by rw [zb_uc _ _ _ _ (by decide), zb_uc _ _ _ _ (by decide), zb_uc _ _ _ _ (by decide)]⟩, fun q => q.elim⟩
        | true =>
          simp only [Bool.false_eq_true, reduceCtorEq, Nat.not_lt_zero, cond_true, cond_false, ↓reduceIte, if_true, if_false, Option.toList_some, Option.toList_none, List.nil_append, List.cons_append, Option.bind_some, show ¬ (1 : Int32) = 0 by decide]
          refine ⟨_, rfl, fun c c1 c2 c3 => by rw [zb_uc _ _ _ _ c3, zb_uc _ _ _ _ c2, zb_uc _ _ _ _ c1, zb_uc _ _ _ _ c1, zb_uc _ _ _ _ c1], ⟨by rw [zb_uc _ _ _ _ (by decide), zb_uc _ _ _ _ (by decide), zb_ue], by rw [zb_uc _ _ _ _ (by decide), zb_uc _ _ _ _ (by decide), zb_ui _ _ _ _ (by decide), zb_ui _ _ _ _ (by decide), zb_ue], by rw [zb_uc _ _ _ _ (by decide), zb_uc _ _ _ _ (by decide), zb_ui _ _ _ _ (by decide), zb_ue]⟩, fun i i0 i1 i2 => by rw [zb_uc _ _ _ _ (by decide), zb_uc _ _ _ _ (by decide), zb_ui _ _ _ _ i0, zb_ui _ _ _ _ i2, zb_ui _ _ _ _ i1], fun q => q.elim, fun _ i => ⟨?_, ?_⟩⟩
          · rw [zb_uc _ _ _ _ (by decide), zb_u, zb_uc _ _ _ _ (by decide), zb_uc _ _ _ _ (by decide), zb_uc _ _ _ _ (by decide)]
            simp only [true_and]
          · rw [zb_u, zb_uc _ _ _ _ (by decide), zb_uc _ _ _ _ (by decide), zb_uc _ _ _ _ (by decide), zb_uc _ _ _ _ (by decide)]
            simp only [true_and]
      rw [hB, rm_13s hkn hn b2.2.2 y3]
      generalize hA : zd_u (zd_u (zd_u (zd_u a1 c0 1 (nI (tt + 1))) (c0 + 2) T (nI k)) (c0 + 3) T (nI (tt + 1))) c0 2 (nI (T + 1)) = A
      have cA : ∀ c, ¬ c = c0 → ¬ c = c0 + 2 → ¬ c = c0 + 3 → A.1 c = a1.1 c := fun c c1 c2 c3 => by rw [← hA, zb_uc _ _ _ _ c1, zb_uc _ _ _ _ c3, zb_uc _ _ _ _ c2, zb_uc _ _ _ _ c1]
      have fA : ∀ i, ¬ i = 1 → ¬ i = 2 → A.1 c0 i = a1.1 c0 i := fun i i1 i2 => by rw [← hA, zb_ui _ _ _ _ i2, zb_uc _ _ _ _ (by omega), zb_uc _ _ _ _ (by omega), zb_ui _ _ _ _ i1]
      have hU1 : zU c0 told a0 b0 f n nu (T + 1) A B := by
        refine hU0.step hc (tt := tt + 1) (x := nI k) (y := nI (tt + 1)) (fun c q1 q2 => ?_) (by rw [← hA]; exact kp.2.2) (fun c q1 q2 q3 => b1 c q2 (by omega) (by omega)) b4 (fun i _ _ => by rw [b1 91 (by decide) (by decide) (by decide)]) ?_ ?_ (by rw [← hA]; exact zb_ue _ _ _ _) b2.2.1 ?_ (by omega) ?_ b2.1 (fun q i => ⟨⟨?_, ?_⟩, b5 q i⟩) ⟨tk, fun e he => ?_, ?_⟩
        · rw [cA c (by omega) (by omega) (by omega)]; exact kp.1 c (by omega) (by omega) (by omega)
        · exact hQ1.fr hc (by omega) (fun c q => cA c (by omega) (by omega) (by omega)) (by rw [cA 38 (by omega) (by omega) (by omega)]) (fun i q => fA i (by omega) (by omega)) (fun c q => b1 c (by omega) (by omega) (by omega)) (by rw [b1 91 (by decide) (by decide) (by decide)]) (fun i q => b3 i (by omega) (by omega) (by omega))
        · rw [fA 0 (by decide) (by decide)]; exact kp.2.1 0 (by omega)
        · rw [fA 6 (by decide) (by decide), kp.2.1 6 (by omega), b3 5 (by decide) (by decide) (by decide)]; exact s6
        · rw [← hA, zb_ui _ _ _ _ (by decide), zb_uc _ _ _ _ (by omega), zb_uc _ _ _ _ (by omega), zb_ue]
        · rw [← hA, zb_uc _ _ _ _ (by omega), zb_uc _ _ _ _ (by omega), zb_u, zb_uc _ _ _ _ (by omega), kp.1 (c0 + 2) (by omega) (by omega) (by omega)]
          simp only [true_and]
        · rw [← hA, zb_uc _ _ _ _ (by omega), zb_u, zb_uc _ _ _ _ (by omega), zb_uc _ _ _ _ (by omega), kp.1 (c0 + 3) (by omega) (by omega) (by omega)]
          simp only [true_and]
        · obtain ⟨g1, g2, g3⟩ := k1 e he
          rw [b1 107 (by decide) (by decide) (by decide), cA 44 (by omega) (by omega) (by omega), kp.1 44 (by omega) (by omega) (by omega)]
          exact ⟨by omega, g2, g3⟩
        · rw [fA 7 (by decide) (by decide), kp.2.1 7 (by omega)]; exact k7
      obtain ⟨b', e1, e2⟩ := z_fin hc h0 hU1 (by omega) (nI k) (nI σ)
      exact ⟨_, b', rfl, e1, e2⟩
    · -- it goes on
      obtain ⟨sl, hsl9, hsl⟩ := hW.2.2.1.2.2.2.2.2.1
      obtain ⟨sta, hsta⟩ : ∃ sta : Bool, (x3 < 0 ∧ sta = false) ∨ ∃ j, j < n ∧ x3 = nI j ∧ sta = zs_sta f j k := by
        rcases hx with q | ⟨j, j1, j2⟩
        · exact ⟨false, Or.inl ⟨q, rfl⟩⟩
        · exact ⟨_, Or.inr ⟨j, j1, j2, rfl⟩⟩
      have hSL : (if sta = true then nI sl else 0) = nI (if sta = true then sl else 0) := by cases sta <;> rfl
      have hSL9 : (if sta = true then sl else 0) ≤ 9 := by split <;> omega
      rw [hz, show nI 0 = 0 from rfl, rm_tick (x2 := if told = true then 1 else 0) hW hVd0 hkn hsta hsl, fd0 0 (by decide), fd0 5 (by decide), t3, nI_1, hSL]
      generalize hd1 : zd_u (zd_u (zd_u (zd_u b 101 1 (nI (T + 1))) 101 12 0) 101 0 (nI (tt + 1))) 101 5 (b.1 101 5 + (if sta = true then 1 else 0)) = d1
      have cd1 : ∀ c, ¬ c = 101 → d1.1 c = b.1 c := fun c q => by rw [← hd1, zb_uc _ _ _ _ q, zb_uc _ _ _ _ q, zb_uc _ _ _ _ q, zb_uc _ _ _ _ q]
      have fd1 : ∀ i, ¬ i = 0 → ¬ i = 1 → ¬ i = 5 → ¬ i = 12 → d1.1 101 i = b.1 101 i := fun i i0 i1 i5 i12 => by rw [← hd1, zb_ui _ _ _ _ i5, zb_ui _ _ _ _ i0, zb_ui _ _ _ _ i12, zb_ui _ _ _ _ i1]
      have d11 : d1.1 101 1 = nI (T + 1) := by rw [← hd1, zb_ui _ _ _ _ (by decide), zb_ui _ _ _ _ (by decide), zb_ui _ _ _ _ (by decide), zb_ue]
      have d12 : d1.1 101 12 = 0 := by rw [← hd1, zb_ui _ _ _ _ (by decide), zb_ui _ _ _ _ (by decide), zb_ue]
      have d15 : d1.1 101 5 = b.1 101 5 + (if sta = true then 1 else 0) := by rw [← hd1, zb_ue]
      have hVd1 : zV 92 d1 f := fun i q1 q2 q3 => by rw [cd1 92 (by decide)]; exact hV i q1 q2 q3
      have hQd1 : zQ c0 a d1 f T := hQ.fr hc (Nat.le_refl _) (fun _ _ => rfl) rfl (fun _ _ => rfl) (fun c q => cd1 c (by omega)) (by rw [cd1 91 (by decide)]) (fun i q => fd1 i (by omega) (by omega) (by omega) (by omega))
      rcases z_do (nl := nl) hc hW hVd1 hAo h2 (by rw [cd1 92 (by decide)]; exact hlk) hQd1 (by omega) hkn with ⟨-, nx, mo, a1, b1, e80, e227, ⟨hnx, hmo⟩, h33, h386, kp, kq, hQ1, hlead⟩ | ⟨⟨z1, -⟩, -⟩
      rotate_left
      · rw [cd1 105 (by decide), hz] at z1
        exact absurd z1 (by decide)
      have hAo1 : zAo 3 a1 f n := hAo.c (fun c q1 q2 => kp.1 c (by omega) (by omega) (by omega))
      have h21 : ∀ i, i < 8 → a1.1 2 i = f i := fun i hi => by rw [kp.1 2 (by omega) (by omega) (by omega)]; exact h2 i hi
      obtain ⟨A, eA, cA, A2, A4, fA, A1, A2s, A6, AO, AT⟩ := rx_tick (nl := nl) (x3 := x3) hc hW hAo1 h21 hkn hnx (show T < 600 by omega) hsta hsl ((kp.2.1 2 (by omega)).trans s2) ((kp.2.1 1 (by omega)).trans t2) h386
      obtain ⟨B, eB, cB, B0, fB, Bf, Bt⟩ := rm_rec (told := told) (b := b1) (k := k) (nx := nx) (v1 := tt + 1) (mo := mo) (sl := if sta = true then sl else 0) (x5 := x3) (x6 := if sta = true then 1 else 0) (T := T) hW hkn hnx (by omega) h33 ((kq.2.2 1 (by omega)).trans d11)
      rw [e80, e227]
      simp only [Bool.false_eq_true, reduceCtorEq, Nat.not_lt_zero, cond_true, cond_false, ↓reduceIte, if_true, if_false, Option.toList_some, Option.toList_none, List.nil_append, List.cons_append, Option.bind_some]
      rw [eA, eB]
      -- what both have now
      have cAa : ∀ c, ¬ (38 ≤ c ∧ c ≤ 43) → ¬ (c0 ≤ c ∧ c ≤ c0 + 3) → A.1 c = a.1 c := fun c q1 q2 => by rw [cA c (by omega) (by omega) (by omega) (by omega)]; exact kp.1 c q1 (by omega) (by omega)
      have cBb : ∀ c, ¬ c = 91 → ¬ c = 101 → ¬ (103 ≤ c ∧ c ≤ 106) → ¬ (108 ≤ c ∧ c ≤ 112) → B.1 c = b.1 c := fun c q1 q2 q3 q4 => by rw [cB c q2 (by omega) (by omega), kq.1 c q1 q2 (by omega) q4]; exact cd1 c q2
      have f91 : ∀ i, ¬ i = 31 → ¬ i = 33 → B.1 91 i = b.1 91 i := fun i q1 q2 => by rw [cB 91 (by decide) (by decide) (by decide), kq.2.1 i q1 q2, cd1 91 (by decide)]
      have hAeA : zAe 3 A f n := hAe.c (cAa _ (by omega) (by omega)) (cAa _ (by omega) (by omega)) (cAa _ (by omega) (by omega)) (cAa _ (by omega) (by omega))
      have hMB : zME B f n := by
        unfold zME
        rw [f91 15 (by decide) (by decide), cBb 98 (by omega) (by omega) (by omega) (by omega), cBb 99 (by omega) (by omega) (by omega) (by omega), cBb 100 (by omega) (by omega) (by omega) (by omega)]
        exact hM
      have hNA : zAN 3 A nu f n := hN.c (cAa _ (by omega) (by omega))
      obtain ⟨e, he, ee1, ee2, e95, e235⟩ := z_edge (nl := nl) hW hAeA hMB hkn (show min nx n ≤ n by omega) hlead
      have B812 := zs_B812 (f := f) hn (Nat.le_refl n)
      obtain ⟨A', e94, kA', fA', A2', A44, A7⟩ := rx_take (nl := nl) (tk := tk) (T := T) hc hW hNA hkn (show min nx n ≤ n by omega) he ee1 ee2 e95 (fun i hi => ⟨(k1 i hi).1, fun q => by rw [cAa 44 (by omega) (by omega)]; exact (k1 i hi).2.2 q⟩) (by omega) (by rw [fA 7 (by decide) (by decide) (by decide), kp.2.1 7 (by omega)]; exact k7)
      have B107 : ∀ i, B.1 107 i = b.1 107 i := fun i => by rw [cBb 107 (by omega) (by omega) (by omega) (by omega)]
      rw [e94, e235]
      simp only [Bool.false_eq_true, reduceCtorEq, Nat.not_lt_zero, cond_true, cond_false, ↓reduceIte, if_true, if_false, Option.toList_some, Option.toList_none, List.nil_append, List.cons_append, Option.bind_some]
      rw [ex_77_101 c0 _ _ _ _ hc, em_223_123, zb_in (show e < 820 by omega) (by omega), nI_clamp (show e < 2 ^ 31 by omega), B107, (k1 e he).2.1, nI_1, nI_1]
      simp only [cond_true]
      refine ih (T + 1) (min nx n) (nI k) A' (zd_u B 107 e (nI (tk e + 1))) (by omega) (by omega) (Or.inr ⟨k, hkn, rfl⟩) ?_ ?_
      · refine hU0.step hc (tt := tt + (1 + mo + if sta = true then sl else 0)) (x := nI k) (y := nI (tt + (1 + mo + if sta = true then sl else 0))) (fun c q1 q2 => ?_) (A2'.trans (A2.trans kp.2.2)) (fun c q1 q2 q3 => ?_) (fun q => ?_) (fun i q1 q2 => ?_) ?_ ?_ ?_ ?_ ?_ (by omega) ?_ ?_ (fun q i => ⟨⟨?_, ?_⟩, ?_, ?_⟩) ⟨fun i => if i = e then tk e + 1 else tk i, fun i hi => ⟨?_, ?_, A44 i hi⟩, A7⟩
        · rw [kA' c (by omega) (by omega)]; exact cAa c (by omega) q2
        · rw [zb_uc _ _ _ _ (by omega)]; exact cBb c q1 q2 (by omega) (by omega)
        · obtain ⟨u1, u2⟩ := Bf q
          rw [zb_uc _ _ _ _ (by decide), zb_uc _ _ _ _ (by decide), u1, u2, kq.1 103 (by omega) (by omega) (by omega) (by omega), kq.1 104 (by omega) (by omega) (by omega) (by omega), cd1 103 (by decide), cd1 104 (by decide)]
          exact ⟨rfl, rfl⟩
        · rw [zb_uc _ _ _ _ (by decide)]; exact f91 i q1 q2
        · exact hQ1.fr hc (Nat.le_refl _) (fun c q => by rw [kA' c (by omega) (by omega)]; exact cA c (by omega) (by omega) (by omega) (by omega)) (by rw [kA' 38 (by omega) (by omega)]; exact A4) (fun i q => by rw [fA' i (by omega)]; exact fA i (by omega) (by omega) (by omega)) (fun c q => by rw [zb_uc _ _ _ _ (by omega)]; exact cB c (by omega) (by omega) (by omega)) (by rw [zb_uc _ _ _ _ (by decide), cB 91 (by decide) (by decide) (by decide)]) (fun i q => by rw [zb_uc _ _ _ _ (by decide)]; exact fB i (by omega))
        · rw [fA' 0 (by decide), fA 0 (by decide) (by decide) (by decide)]; exact kp.2.1 0 (by omega)
        · rw [fA' 2 (by decide)]; exact A2s
        · rw [zb_uc _ _ _ _ (by decide), fB 1 (by decide), kq.2.2 1 (by omega)]; exact d11
        · rw [fA' 6 (by decide), A6, kp.2.1 6 (by omega), zb_uc _ _ _ _ (by decide), fB 5 (by decide), kq.2.2 5 (by omega), d15, s6]
        · rw [fA' 1 (by decide)]; exact A1
        · rw [zb_uc _ _ _ _ (by decide), B0]
          congr 1
          omega
        · rw [kA' (c0 + 2) (by omega) (by omega), AO, kp.1 (c0 + 2) (by omega) (by omega) (by omega)]
        · rw [kA' (c0 + 3) (by omega) (by omega), AT, kp.1 (c0 + 3) (by omega) (by omega) (by omega)]
        · rw [zb_uc _ _ _ _ (by decide), (Bt q i).1, kq.1 103 (by omega) (by omega) (by omega) (by omega), cd1 103 (by decide)]
        · rw [zb_uc _ _ _ _ (by decide), (Bt q i).2, kq.1 104 (by omega) (by omega) (by omega) (by omega), cd1 104 (by decide), show tt + 1 + ((if sta = true then sl else 0) + mo) = tt + (1 + mo + if sta = true then sl else 0) by omega]
        · (try dsimp only)
          have u1 := (k1 e he).1
          have u2 := (k1 i hi).1
          split <;> omega
        · show _ = nI (if i = e then tk e + 1 else tk i)
          rw [zb_u, B107]
          by_cases c : i = e
          · rw [if_pos ⟨rfl, c⟩, if_pos c]
          · rw [if_neg (fun w => c w.2), if_neg c]; exact (k1 i hi).2.1
      · rw [zb_uc _ _ _ _ (by decide), fB 12 (by decide), kq.2.2 12 (by omega)]; exact d12
end ZWalk3
