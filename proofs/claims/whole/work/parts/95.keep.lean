/-! ===== calls: keep and back ===== -/
section ZKeep
variable {nl : Int32} {a a' b b' : zd_D} {f : zF} {n w : Nat} {nu : Nat → Nat}
theorem zb_sc (d : zd_D) (c : Nat) (g : Nat → Int32) {k : Nat} (h : ¬ k = c) : (zd_s d c g).1 k = d.1 k := if_neg h
theorem zb_se (d : zd_D) (c : Nat) (g : Nat → Int32) : (zd_s d c g).1 c = g := if_pos rfl
theorem zb_cpy {α : Type} (g h : Nat → α) {m k : Nat} (hk : k < m) : va_cpy g h 0 0 m k = g k := by
  unfold va_cpy
  rw [if_pos ⟨Nat.zero_le _, by omega⟩, Nat.zero_add, Nat.sub_zero]
theorem zb_cnd {v m : Nat} (h : v ≤ m) (hm : m < 2 ^ 31) : ¬ (0 : Int32) < 0 ∧ ¬ (0 : Int32) < 0 ∧ ¬ (nI v) < 0 ∧ 0 + (nI v).toNatClampNeg ≤ m ∧ 0 + (nI v).toNatClampNeg ≤ m := by
  rw [nI_clamp (by omega)]
  exact ⟨by decide, by decide, nI_pos (by omega), by omega, by omega⟩
theorem rx_become {c0 c1 m1 : Nat} (hc : (c0 = 1 ∧ c1 = 18) ∨ (c0 = 18 ∧ c1 = 1)) (hs : zS c1 m1 a b f n nu w) : ∃ a', zx nl 161 0 [z_r c0, z_r c1] [] a = some (none, a') ∧ (∀ c, ¬ (c0 ≤ c ∧ c ≤ c0 + 16) → a'.1 c = a.1 c) ∧ a'.2 = a.2 ∧ ∀ b' m0, (∀ i, i < 1020 → b'.1 m0 i = b.1 m1 i) → zS c0 m0 a' b' f n nu w := by
  obtain ⟨hW, hV, hm, hA, hE, hN, hM, ⟨l1, l2, l3⟩, ⟨⟨w1, w2, w3⟩, w4⟩⟩ := hs
  have hn := hW.le
  have hB := zs_B812 (f := f) hn (Nat.le_refl n)
  have hc2 : (c0 + 2 = 3 ∧ c1 + 2 = 20) ∨ (c0 + 2 = 20 ∧ c1 + 2 = 3) := by omega
  have far : ∀ k, k ≤ 16 → ¬ (c0 ≤ c1 + k ∧ c1 + k ≤ c0 + 16) := by omega
  rw [ex_161_0 _ _ hc]
  generalize hd1 : zd_s a (c0 + 1) (va_cpy (a.1 (c1 + 1)) (a.1 (c0 + 1)) 0 0 8) = d1
  have k1 : ∀ c, ¬ c = c0 + 1 → d1.1 c = a.1 c := fun c q => by rw [← hd1]; exact zb_sc _ _ _ q
  have g1 : ∀ i, i < 8 → d1.1 (c0 + 1) i = f i := fun i hi => by rw [← hd1, zb_se, zb_cpy _ _ hi]; exact hm i hi
  have x1 : d1.2 = a.2 := by rw [← hd1]; rfl
  rw [ex_162_0 _ _ hc2]
  have hn0 : d1.1 (c1 + 2) 0 = nI n := by rw [k1 _ (by omega)]; exact hA.1
  rw [hn0, if_pos (zb_cnd hn (by omega)), if_pos (zb_cnd hn (by omega)), if_pos (zb_cnd hn (by omega)), if_pos (zb_cnd hn (by omega)), if_pos (zb_cnd hn (by omega)), if_pos (zb_cnd hn (by omega)), nI_clamp (show n < 2 ^ 31 by omega)]
  generalize hd2 : zd_s (zd_s (zd_s (zd_s (zd_s (zd_s (zd_u d1 (c0 + 2) 0 (nI n)) (c0 + 2 + 1) (va_cpy (d1.1 (c1 + 2 + 1)) (d1.1 (c0 + 2 + 1)) 0 0 n)) (c0 + 2 + 2) (va_cpy (d1.1 (c1 + 2 + 2)) (d1.1 (c0 + 2 + 2)) 0 0 n)) (c0 + 2 + 3) (va_cpy (d1.1 (c1 + 2 + 3)) (d1.1 (c0 + 2 + 3)) 0 0 n)) (c0 + 2 + 4) (va_cpy (d1.1 (c1 + 2 + 4)) (d1.1 (c0 + 2 + 4)) 0 0 n)) (c0 + 2 + 5) (va_cpy (d1.1 (c1 + 2 + 5)) (d1.1 (c0 + 2 + 5)) 0 0 n)) (c0 + 2 + 6) (va_cpy (d1.1 (c1 + 2 + 6)) (d1.1 (c0 + 2 + 6)) 0 0 n) = d2
  have k2 : ∀ c, ¬ (c0 + 2 ≤ c ∧ c ≤ c0 + 8) → d2.1 c = d1.1 c := fun c q => by
    rw [← hd2, zb_sc _ _ _ (by omega), zb_sc _ _ _ (by omega), zb_sc _ _ _ (by omega), zb_sc _ _ _ (by omega), zb_sc _ _ _ (by omega), zb_sc _ _ _ (by omega), zb_uc _ _ _ _ (by omega)]
  have x2 : d2.2 = d1.2 := by rw [← hd2]; rfl
  have rd : ∀ i, i ≤ 6 → ∀ k, d1.1 (c1 + 2 + i) k = a.1 (c1 + 2 + i) k := fun i hi k => by rw [k1 _ (by omega)]
  have hA2 : zAo (c0 + 2) d2 f n := by
    refine ⟨?_, fun k hk => ?_⟩
    · rw [← hd2, zb_sc _ _ _ (by omega), zb_sc _ _ _ (by omega), zb_sc _ _ _ (by omega), zb_sc _ _ _ (by omega), zb_sc _ _ _ (by omega), zb_sc _ _ _ (by omega), zb_ue]
    · obtain ⟨q1, q2, q3, q4, q5, q6⟩ := hA.2 k hk
      refine ⟨?_, ?_, ?_, ?_, ?_, ?_⟩
      · rw [← hd2, zb_sc _ _ _ (by omega), zb_sc _ _ _ (by omega), zb_sc _ _ _ (by omega), zb_sc _ _ _ (by omega), zb_sc _ _ _ (by omega), zb_se, zb_cpy _ _ hk, rd 1 (by omega)]; exact q1
      · rw [← hd2, zb_sc _ _ _ (by omega), zb_sc _ _ _ (by omega), zb_sc _ _ _ (by omega), zb_sc _ _ _ (by omega), zb_se, zb_cpy _ _ hk, rd 2 (by omega)]; exact q2
      · rw [← hd2, zb_sc _ _ _ (by omega), zb_sc _ _ _ (by omega), zb_sc _ _ _ (by omega), zb_se, zb_cpy _ _ hk, rd 3 (by omega)]; exact q3
      · rw [← hd2, zb_sc _ _ _ (by omega), zb_sc _ _ _ (by omega), zb_se, zb_cpy _ _ hk, rd 4 (by omega)]; exact q4
      · rw [← hd2, zb_sc _ _ _ (by omega), zb_se, zb_cpy _ _ hk, rd 5 (by omega)]; exact q5
      · rw [← hd2, zb_se, zb_cpy _ _ hk, rd 6 (by omega)]; exact q6
  obtain ⟨d3, e3, ⟨k3, k3', x3⟩, hE3, -⟩ := rx_edges (nl := nl) (show c0 + 2 = 3 ∨ c0 + 2 = 20 by omega) hW hA2
  rw [e3]
  simp only [Bool.false_eq_true, reduceCtorEq, Nat.not_lt_zero, cond_true, cond_false, ↓reduceIte, if_true, if_false, Option.toList_some, Option.toList_none, List.nil_append, List.cons_append, Option.bind_some]
  rw [ex_162_60 _ _ hc2, hE3.1, if_pos (zb_cnd hB (by omega)), nI_clamp (show zs_B f n n < 2 ^ 31 by omega)]
  simp only [Bool.false_eq_true, reduceCtorEq, Nat.not_lt_zero, cond_true, cond_false, ↓reduceIte, if_true, if_false, Option.toList_some, Option.toList_none, List.nil_append, List.cons_append, Option.bind_some]
  generalize hd4 : zd_s d3 (c0 + 2 + 10) (va_cpy (d3.1 (c1 + 2 + 10)) (d3.1 (c0 + 2 + 10)) 0 0 (zs_B f n n)) = d4
  have k4 : ∀ c, ¬ c = c0 + 12 → d4.1 c = d3.1 c := fun c q => by rw [← hd4]; exact zb_sc _ _ _ (by omega)
  have x4 : d4.2 = d3.2 := by rw [← hd4]; rfl
  have k14 : ∀ c, ¬ (c0 + 1 ≤ c ∧ c ≤ c0 + 12) → d4.1 c = a.1 c := fun c q => by rw [k4 c (by omega), k3 c (by omega) (by omega), k2 c (by omega), k1 c (by omega)]
  rw [ex_161_13 _ _ hc]
  have hw0 : d4.1 (c1 + 14) 0 = nI w := by rw [k14 _ (by omega)]; exact w1
  rw [hw0, if_pos (zb_cnd w3 (by omega)), if_pos (zb_cnd w3 (by omega)), nI_clamp (show w < 2 ^ 31 by omega)]
  have k5 : ∀ c, ¬ c = c0 → ¬ (c0 + 13 ≤ c ∧ c ≤ c0 + 16) → (zd_u (zd_s (zd_s (zd_u (zd_s d4 (c0 + 13) (va_cpy (d4.1 (c1 + 13)) (d4.1 (c0 + 13)) 0 0 32)) (c0 + 14) 0 (nI w)) (c0 + 14 + 1) (va_cpy (d4.1 (c1 + 14 + 1)) (d4.1 (c0 + 14 + 1)) 0 0 w)) (c0 + 14 + 2) (va_cpy (d4.1 (c1 + 14 + 2)) (d4.1 (c0 + 14 + 2)) 0 0 w)) c0 4 (d4.1 c1 4)).1 c = d4.1 c := fun c q1 q2 => by
    rw [zb_uc _ _ _ _ q1, zb_sc _ _ _ (by omega), zb_sc _ _ _ (by omega), zb_uc _ _ _ _ (by omega), zb_sc _ _ _ (by omega)]
  refine ⟨_, rfl, fun c q => ?_, ?_, fun b' m0 hb => ?_⟩
  · rw [k5 c (by omega) (by omega), k14 c (by omega)]
  · show d4.2 = a.2
    rw [x4, x3, x2, x1]
  · refine ⟨hW, fun i q1 q2 q3 => by rw [hb i (by omega)]; exact hV i q1 q2 q3, fun i hi => ?_, ⟨?_, fun k hk => ?_⟩, hE3.c ?_ ?_ ?_ ?_, fun e he => ?_, fun e he => by rw [hb _ (by omega)]; exact hM e he, ⟨?_, by rw [hb 9 (by omega)]; exact l2, fun i hi => ?_⟩, ⟨⟨?_, by rw [hb 10 (by omega)]; exact w2, w3⟩, fun i hi => ?_⟩⟩
    · rw [k5 _ (by omega) (by omega), k4 _ (by omega), k3 _ (by omega) (by omega), k2 _ (by omega)]; exact g1 i hi
    · rw [k5 _ (by omega) (by omega), k4 _ (by omega), k3' 0 (by omega)]; exact hA2.1
    · rw [k5 (c0 + 2 + 1) (by omega) (by omega), k4 (c0 + 2 + 1) (by omega), k3 (c0 + 2 + 1) (by omega) (by omega), k5 (c0 + 2 + 2) (by omega) (by omega), k4 (c0 + 2 + 2) (by omega), k3 (c0 + 2 + 2) (by omega) (by omega), k5 (c0 + 2 + 3) (by omega) (by omega), k4 (c0 + 2 + 3) (by omega), k3 (c0 + 2 + 3) (by omega) (by omega), k5 (c0 + 2 + 4) (by omega) (by omega), k4 (c0 + 2 + 4) (by omega), k3 (c0 + 2 + 4) (by omega) (by omega), k5 (c0 + 2 + 5) (by omega) (by omega), k4 (c0 + 2 + 5) (by omega), k3 (c0 + 2 + 5) (by omega) (by omega), k5 (c0 + 2 + 6) (by omega) (by omega), k4 (c0 + 2 + 6) (by omega), k3 (c0 + 2 + 6) (by omega) (by omega)]
      exact hA2.2 k hk
    · rw [k5 _ (by omega) (by omega), k4 _ (by omega)]
    · rw [k5 _ (by omega) (by omega), k4 _ (by omega)]
    · rw [k5 _ (by omega) (by omega), k4 _ (by omega)]
    · rw [k5 _ (by omega) (by omega), k4 _ (by omega)]
    · rw [k5 _ (by omega) (by omega), ← hd4, zb_se, zb_cpy _ _ he, k3 _ (by omega) (by omega), k2 _ (by omega), k1 _ (by omega)]
      exact hN e he
    · rw [zb_ue, k14 _ (by omega), hb 9 (by omega)]; exact l1
    · rw [zb_uc _ _ _ _ (by omega), zb_sc _ _ _ (by omega), zb_sc _ _ _ (by omega), zb_uc _ _ _ _ (by omega), zb_se, zb_cpy _ _ hi, k14 _ (by omega), hb _ (by omega)]
      exact l3 i hi
    · rw [zb_uc _ _ _ _ (by omega), zb_sc _ _ _ (by omega), zb_sc _ _ _ (by omega), zb_ue]
    · rw [zb_uc _ _ _ _ (show ¬ c0 + 15 = c0 by omega), zb_sc _ _ _ (show ¬ c0 + 15 = c0 + 14 + 2 by omega), show c0 + 15 = c0 + 14 + 1 by omega, zb_se, zb_cpy _ _ hi, k14 (c1 + 14 + 1) (by omega), zb_uc _ _ _ _ (show ¬ c0 + 16 = c0 by omega), show c0 + 16 = c0 + 14 + 2 by omega, zb_se, zb_cpy _ _ hi, k14 (c1 + 14 + 2) (by omega), hb _ (by omega), hb _ (by omega)]
      exact w4 i hi
theorem zS.xr {s m : Nat} (h : zS s m a b f n nu w) (hk : ∀ c, s ≤ c → c ≤ s + 16 → a'.1 c = a.1 c) : zS s m a' b f n nu w := by
  unfold zS zAo zAe zAN zL zWk at h ⊢
  rw [hk s (by omega) (by omega), hk (s + 1) (by omega) (by omega), hk (s + 2) (by omega) (by omega), hk (s + 2 + 1) (by omega) (by omega), hk (s + 2 + 2) (by omega) (by omega), hk (s + 2 + 3) (by omega) (by omega), hk (s + 2 + 4) (by omega) (by omega), hk (s + 2 + 5) (by omega) (by omega), hk (s + 2 + 6) (by omega) (by omega), hk (s + 2 + 7) (by omega) (by omega), hk (s + 2 + 8) (by omega) (by omega), hk (s + 2 + 9) (by omega) (by omega), hk (s + 2 + 10) (by omega) (by omega), hk (s + 13) (by omega) (by omega), hk (s + 14) (by omega) (by omega), hk (s + 15) (by omega) (by omega), hk (s + 16) (by omega) (by omega)]
  exact h
theorem zc_keep (h : zR a b) : zC (zx nl 160 0 [z_r 0] [] a) (zm 278 0 [z_r 91, none] [] b) := by
  obtain ⟨f, n, nu, w, ⟨hs, hi, hp, hr, hq, hh, hl, hk⟩, hf⟩ := h
  obtain ⟨a1, e1, kx, x2, fin⟩ := rx_become (nl := nl) (Or.inr ⟨rfl, rfl⟩) hs
  rw [ex_160_0, e1]
  simp only [Bool.false_eq_true, reduceCtorEq, Nat.not_lt_zero, cond_true, cond_false, ↓reduceIte, if_true, if_false, Option.toList_some, Option.toList_none, List.nil_append, List.cons_append, Option.bind_some]
  rw [ex_160_5, em_278_0]
  obtain ⟨b1, ⟨m1, m2⟩, e⟩ := zl_to (F := fun i d => zm 278 3 [z_r 91, z_i (nI i)] [] d) (I := fun i d => (∀ c, ¬ c = 93 → d.1 c = b.1 c) ∧ ∀ k, k < i → d.1 93 k = b.1 92 k) (n := 1020) (by
    intro i d hi ⟨g1, g2⟩
    refine ⟨zd_u d 93 i (b.1 92 i), ⟨fun c q => by rw [zb_uc _ _ _ _ q]; exact g1 c q, fun k q => ?_⟩, ?_⟩
    · rw [zb_u]
      by_cases c : k = i
      · rw [if_pos ⟨rfl, c⟩, c]
      · rw [if_neg (fun w => c w.2)]; exact g2 k (by omega)
    · (try dsimp only)
      rw [em_278_3, g1 92 (by decide)]
      simp (disch := omega) only [zb_ltl, zb_llt, zb_eql, zb_leq, nI_ltI, nI_eq, zb_in, nI_clamp, zb_al, zb_la, zb_ml, zb_lm, zb_mul, nI_add, Bool.false_eq_true, reduceCtorEq, Nat.not_lt_zero, cond_true, cond_false, ↓reduceIte, if_true, if_false, Option.toList_some, Option.toList_none, List.nil_append, List.cons_append, Option.bind_some, hi]) 0 b (by omega) ⟨fun _ _ => rfl, fun k hk => by omega⟩
  have hs1 := fin b1 93 m2
  have kx1 : ∀ c, ¬ c = 0 → ¬ (18 ≤ c ∧ c ≤ 34) → (zd_u a1 0 2 1).1 c = a.1 c := fun c q1 q2 => by rw [zb_uc _ _ _ _ q1, kx c (by omega)]
  have k0 : ∀ i, ¬ i = 2 → (zd_u a1 0 2 1).1 0 i = a.1 0 i := fun i q => by rw [zb_ui _ _ _ _ q, kx 0 (by omega)]
  have kb : ∀ c, ¬ c = 91 → ¬ c = 93 → (zd_u b1 91 2 1).1 c = b.1 c := fun c q1 q2 => by rw [zb_uc _ _ _ _ q1, m1 c q2]
  have kf : ∀ i, ¬ i = 2 → (zd_u b1 91 2 1).1 91 i = b.1 91 i := fun i q => by rw [zb_ui _ _ _ _ q, m1 91 (by omega)]
  have x2' : (zd_u a1 0 2 1).2 = a.2 := x2
  refine ⟨nI n, _, zd_u b1 91 2 1, ?_, ?_, ⟨f, n, nu, w, ⟨(hs.xr (fun c q1 q2 => kx1 c (by omega) (by omega))).m (kb 92 (by omega) (by omega)), Or.inr ⟨zb_ue _ _ _ _, zb_ue _ _ _ _, f, n, nu, w, (hs1.x (Or.inr rfl) (fun c q => zb_uc _ _ _ _ (by omega))).m (zb_uc _ _ _ _ (by omega))⟩, ?_, ?_, ?_, ?_, ?_, ?_⟩, ?_⟩⟩
  · rw [show a1.1 20 0 = nI n from hs1.2.2.2.1.1]
  · refine Eq.trans e ?_
    (try dsimp only)
    rw [em_278_3, if_neg (show ¬ nI 1020 < 1020 by decide), m1 92 (by decide), hs.2.1.sz hs.1]
  · exact (hp.x (by rw [kx1 35 (by omega) (by omega)]) (kx1 _ (by omega) (by omega))).m (kf _ (by omega)) (kb _ (by omega) (by omega))
  · exact (hr.x (kx1 _ (by omega) (by omega)) (kx1 _ (by omega) (by omega)) (kx1 _ (by omega) (by omega)) (kx1 _ (by omega) (by omega))).m (kf _ (by omega)) (kb _ (by omega) (by omega)) (kb _ (by omega) (by omega)) (kb _ (by omega) (by omega))
  · exact (hq.x (k0 _ (by omega)) (kx1 _ (by omega) (by omega))).m (kf _ (by omega)) (kb _ (by omega) (by omega))
  · exact (hh.x (fun c w1 w2 => kx1 c (by omega) (by omega)) (by rw [x2'])).m (kb _ (by omega) (by omega)) (kb _ (by omega) (by omega)) (kb _ (by omega) (by omega))
  · exact (hl.x (fun c w1 w2 => kx1 c (by omega) (by omega)) (by rw [x2'])).m (kb _ (by omega) (by omega)) (kb _ (by omega) (by omega)) (kb _ (by omega) (by omega)) (kb _ (by omega) (by omega)) (kb _ (by omega) (by omega))
  · exact hk.m (kf _ (by omega)) (kb _ (by omega) (by omega)) (kb _ (by omega) (by omega))
  · rw [kb 92 (by omega) (by omega)]
    exact hf.x (k0 _ (by omega)) (k0 _ (by omega)) (fun c w1 w2 => kx1 c (by omega) (by omega)) (kx1 _ (by omega) (by omega)) (by rw [x2'])
theorem zc_back (h : zR a b) : zC (zx nl 164 0 [z_r 0] [] a) (zm 279 0 [z_r 91, none] [] b) := by
  have hz := h
  obtain ⟨f, n, nu, w, ⟨hs, hi, hp, hr, hq, hh, hl, hk⟩, hf⟩ := h
  rw [ex_164_0, em_279_0]
  rcases hi with ⟨i1, i2⟩ | ⟨i1, i2, g, m, mu, v, hi⟩
  · rw [if_pos i1, if_pos i2]; exact zC.same hz _
  rw [if_neg (show ¬ a.1 0 2 = 0 by rw [i1]; decide), if_neg (show ¬ b.1 91 2 = 0 by rw [i2]; decide)]
  obtain ⟨a1, e1, kx, x2, fin⟩ := rx_become (nl := nl) (Or.inl ⟨rfl, rfl⟩) hi
  rw [e1]
  simp only [Bool.false_eq_true, reduceCtorEq, Nat.not_lt_zero, cond_true, cond_false, ↓reduceIte, if_true, if_false, Option.toList_some, Option.toList_none, List.nil_append, List.cons_append, Option.bind_some]
  rw [ex_164_10]
  obtain ⟨b1, ⟨m1, m2⟩, e⟩ := zl_to (F := fun i d => zm 279 8 [z_r 91, z_i (nI i)] [] d) (I := fun i d => (∀ c, ¬ c = 92 → d.1 c = b.1 c) ∧ ∀ k, k < i → d.1 92 k = b.1 93 k) (n := 1020) (by
    intro i d hi ⟨g1, g2⟩
    refine ⟨zd_u d 92 i (b.1 93 i), ⟨fun c q => by rw [zb_uc _ _ _ _ q]; exact g1 c q, fun k q => ?_⟩, ?_⟩
    · rw [zb_u]
      by_cases c : k = i
      · rw [if_pos ⟨rfl, c⟩, c]
      · rw [if_neg (fun w => c w.2)]; exact g2 k (by omega)
    · (try dsimp only)
      rw [em_279_8, g1 93 (by decide)]
      simp (disch := omega) only [zb_ltl, zb_llt, zb_eql, zb_leq, nI_ltI, nI_eq, zb_in, nI_clamp, zb_al, zb_la, zb_ml, zb_lm, zb_mul, nI_add, Bool.false_eq_true, reduceCtorEq, Nat.not_lt_zero, cond_true, cond_false, ↓reduceIte, if_true, if_false, Option.toList_some, Option.toList_none, List.nil_append, List.cons_append, Option.bind_some, hi]) 0 b (by omega) ⟨fun _ _ => rfl, fun k hk => by omega⟩
  have hs1 := fin b1 92 m2
  generalize hA : zd_u (zd_u (zd_u a1 0 9 0) 0 10 0) 45 0 0 = A
  have kA : ∀ c, ¬ c = 0 → ¬ c = 45 → A.1 c = a1.1 c := fun c q1 q2 => by rw [← hA, zb_uc _ _ _ _ q2, zb_uc _ _ _ _ q1, zb_uc _ _ _ _ q1]
  have kx1 : ∀ c, ¬ c = 0 → ¬ c = 45 → ¬ (1 ≤ c ∧ c ≤ 17) → A.1 c = a.1 c := fun c q1 q2 q3 => by rw [kA c q1 q2, kx c (by omega)]
  have k0 : ∀ i, ¬ i = 9 → ¬ i = 10 → A.1 0 i = a.1 0 i := fun i q1 q2 => by rw [← hA, zb_uc _ _ _ _ (by omega), zb_ui _ _ _ _ q2, zb_ui _ _ _ _ q1, kx 0 (by omega)]
  have kb : ∀ c, ¬ c = 91 → ¬ c = 92 → (zd_u b1 91 19 0).1 c = b.1 c := fun c q1 q2 => by rw [zb_uc _ _ _ _ q1, m1 c q2]
  have kf : ∀ i, ¬ i = 19 → (zd_u b1 91 19 0).1 91 i = b.1 91 i := fun i q => by rw [zb_ui _ _ _ _ q, m1 91 (by omega)]
  have x2' : A.2 = a.2 := by rw [← hA]; exact x2
  refine ⟨nI m, A, zd_u b1 91 19 0, ?_, ?_, ⟨g, m, mu, v, ⟨(hs1.xr (fun c q1 q2 => kA c (by omega) (by omega))).m (zb_uc _ _ _ _ (by omega)), Or.inr ⟨?_, ?_, g, m, mu, v, (hi.xr (fun c q1 q2 => kx1 c (by omega) (by omega) (by omega))).m (kb 93 (by omega) (by omega))⟩, ?_, Or.inl ⟨?_, zb_ue _ _ _ _⟩, ?_, ?_, ?_, ?_⟩, ?_⟩⟩
  · rw [show a1.1 3 0 = nI m from hs1.2.2.2.1.1]
  · refine Eq.trans e ?_
    (try dsimp only)
    rw [em_279_8, if_neg (show ¬ nI 1020 < 1020 by decide), hs1.2.1.sz hs1.1]
  · rw [k0 2 (by omega) (by omega)]; exact i1
  · rw [kf 2 (by omega)]; exact i2
  · exact (hp.x (by rw [kx1 35 (by omega) (by omega) (by omega)]) (kx1 _ (by omega) (by omega) (by omega))).m (kf _ (by omega)) (kb _ (by omega) (by omega))
  · rw [← hA, zb_ue]
  · exact (hq.x (k0 _ (by omega) (by omega)) (kx1 _ (by omega) (by omega) (by omega))).m (kf _ (by omega)) (kb _ (by omega) (by omega))
  · exact (hh.x (fun c w1 w2 => kx1 c (by omega) (by omega) (by omega)) (by rw [x2'])).m (kb _ (by omega) (by omega)) (kb _ (by omega) (by omega)) (kb _ (by omega) (by omega))
  · exact (hl.x (fun c w1 w2 => kx1 c (by omega) (by omega) (by omega)) (by rw [x2'])).m (kb _ (by omega) (by omega)) (kb _ (by omega) (by omega)) (kb _ (by omega) (by omega)) (kb _ (by omega) (by omega)) (kb _ (by omega) (by omega))
  · exact hk.m (kf _ (by omega)) (kb _ (by omega) (by omega)) (kb _ (by omega) (by omega))
  · refine zR_f.no ?_ ?_ (hf.2.2.x (kx1 _ (by omega) (by omega) (by omega)) (by rw [x2']))
    · rw [← hA, zb_uc _ _ _ _ (by omega), zb_ui _ _ _ _ (by omega), zb_ue]
    · rw [← hA, zb_uc _ _ _ _ (by omega), zb_ue]
end ZKeep
