/-! ===== calls: run, shown ===== -/
section ZRun
variable {nl : Int32} {a a' a'' a0 b b' b'' b0 : zd_D} {f : zF} {n w : Nat} {nu : Nat → Nat} {c0 T : Nat} {told : Bool}
theorem z_runs (hc : c0 = 45 ∨ c0 = 49) (h0 : zR0 a b f n nu w) (told : Bool) (x : Int32) : ∃ a' b', zx nl 77 0 [z_r 38, z_i x, z_r c0, none, none, none, none] [] a = some (none, a') ∧ zm 223 0 [z_r 91, z_i x, z_i (if told = true then 1 else 0), none, none, none, none, none] [] b = some (none, b') ∧ zEn c0 told a b a' b' := by
  have hW := h0.W
  obtain ⟨b1, eb, kb, hM, m101, m105, m106, m108, m111, m112, m107, m31⟩ := rm_begin hW h0.V x
  obtain ⟨a1, ea, ka, g39, g3, g40, g42, g43, g4, g44, s0, s16, s7, gr⟩ := rx_begin (nl := nl) hc hW h0.P.2.1.1 h0.P.2.2 x
  have hk92 : b1.1 92 = b.1 92 := kb.1 92 (by omega) (by omega) (by omega)
  have hU : zU c0 told a b f n nu 0 a1 b1 := by
    refine ⟨ka, ⟨kb.1, fun _ => kb.2.1 rfl, kb.2.2⟩, hM, ⟨fun r hr => ?_, fun i hi => ?_, ⟨0, by omega, g4, fun k hk => ?_⟩, ⟨⟨g39 0 (by omega), g39 1 (by omega), g39 2 (by omega)⟩, fun i hi => ?_, fun i hi => ?_, 0, 0, fun _ => 0, fun _ => 0, ⟨by omega, by omega, g3, m31⟩, fun i hi hne => absurd (m108 i hi) hne, fun i j hi hj hni _ => absurd (m108 i hi) hni⟩, ?_, ?_, ?_⟩, ⟨s0, s16 2 (by omega) (by omega), m101 1 (by omega), ?_, 0, by omega, s16 1 (by omega) (by omega), m101 0 (by omega)⟩, fun _ i hi => absurd hi (Nat.not_lt_zero i), ⟨fun _ => 0, fun e he => ⟨Nat.le_refl 0, m107 e he, fun _ => g44 e he⟩, ?_⟩⟩
    · rw [gr r hr, m105 r hr]
    · rw [g43 i hi, m106 i hi]; exact h0.1.L.2.2 i hi
    · rw [Nat.zero_testBit, m112 k hk]
      exact ⟨fun q => absurd q (by decide), fun q => absurd q (by decide)⟩
    · rw [g40 i hi, m108 i hi]; exact ⟨rfl, Or.inl rfl⟩
    · rw [g42 i hi, m111 i hi]; exact ⟨rfl, 0, by omega, rfl⟩
    · rw [s16 3 (by omega) (by omega), m101 2 (by omega)]
    · rw [s16 4 (by omega) (by omega), m101 3 (by omega)]
    · rw [s16 5 (by omega) (by omega), m101 4 (by omega)]
    · rw [s16 6 (by omega) (by omega), m101 5 (by omega)]
    · rw [s7, if_neg (fun w => by
        unfold zs_over at w
        obtain ⟨j, -, q⟩ := zs_any_iff.mp w
        rw [Bool.and_eq_true, decide_eq_true_eq] at q
        have q2 : nu j ≤ 0 := q.2.2
        have q1 := q.2.1
        omega)]
  obtain ⟨a', b', e1, e2, e3⟩ := z_walk (nl := nl) (told := told) hc h0 600 0 0 (-1) a1 b1 (by omega) (by omega) (Or.inl (by decide)) hU (m101 12 (by omega))
  have e1 : zx nl 77 36 [z_r 38, none, z_r c0, z_i (-1), z_i 0, z_i 0, none] [] a1 = some (none, a') := e1
  have e2 : zm 223 13 [z_r 91, none, z_i (if told = true then 1 else 0), z_i (nI n), z_i 0, z_i (-1), none, none] [] b1 = some (none, b') := e2
  refine ⟨a', b', by rw [ea]; exact e1, ?_, e3⟩
  rw [em_223_0, eb]
  simp only [Bool.false_eq_true, reduceCtorEq, Nat.not_lt_zero, cond_true, cond_false, ↓reduceIte, if_true, if_false, Option.toList_some, Option.toList_none, List.nil_append, List.cons_append, Option.bind_some]
  rw [em_223_3, hk92, h0.V.sz hW]
  exact e2
/-- what a run leaves of the class's half -/
theorem zR.run (h0 : zR0 a b f n nu w) (hf : zR_f a (b.1 92 9) f n nu) (hc : c0 = 45 ∨ c0 = 49) (ka : zKa c0 a a') (kb : ∀ c, ¬ c = 91 → ¬ (98 ≤ c ∧ c ≤ 112) → b'.1 c = b.1 c) (k91 : ∀ i, (i = 2 ∨ i = 4 ∨ i = 38 ∨ i = 53) → b'.1 91 i = b.1 91 i) (hr : zR_r a' b') : zR a' b' := by
  obtain ⟨hs, hi, hp, -, hq, hh, hl, hk⟩ := h0
  have kx : ∀ c, ¬ (38 ≤ c ∧ c ≤ 52) → a'.1 c = a.1 c := fun c q => ka.1 c (by omega) (by omega)
  refine ⟨f, n, nu, w, ⟨(hs.x (Or.inl rfl) (fun c q => kx c (by omega))).m (kb 92 (by omega) (by omega)), ?_, ?_, hr, ?_, ?_, ?_, ?_⟩, ?_⟩
  · exact (hi.x (by rw [kx 0 (by omega)]) (fun c w1 w2 => kx c (by omega))).m (k91 2 (by omega)) (kb 93 (by omega) (by omega))
  · exact (hp.x (by rw [kx 35 (by omega)]) (kx 36 (by omega))).m (k91 4 (by omega)) (kb 94 (by omega) (by omega))
  · exact (hq.x (by rw [kx 0 (by omega)]) (kx 64 (by omega))).m (k91 53 (by omega)) (kb _ (by omega) (by omega))
  · exact (hh.x (fun c w1 w2 => kx c (by omega)) (by rw [ka.2])).m (kb _ (by omega) (by omega)) (kb _ (by omega) (by omega)) (kb _ (by omega) (by omega))
  · exact (hl.x (fun c w1 w2 => kx c (by omega)) (by rw [ka.2])).m (kb _ (by omega) (by omega)) (kb _ (by omega) (by omega)) (kb _ (by omega) (by omega)) (kb _ (by omega) (by omega)) (kb _ (by omega) (by omega))
  · exact hk.m (k91 38 (by omega)) (kb _ (by omega) (by omega)) (kb _ (by omega) (by omega))
  · rw [kb 92 (by omega) (by omega)]
    exact hf.x (by rw [kx 0 (by omega)]) (by rw [kx 0 (by omega)]) (fun c w1 w2 => kx c (by omega)) (kx 130 (by omega)) (by rw [ka.2])
theorem zc_run (x : Int32) (h : zR a b) : zC (zx nl 76 0 [z_r 0, z_i x] [] a) (zm 222 0 [z_r 91, z_i x, none] [] b) := by
  obtain ⟨f, n, nu, w, h0, hf⟩ := h
  obtain ⟨a', b1, e1, e2, ka, kb, s0, ⟨T, hT, s2, m1, hst⟩, ⟨tt, -, t1, t2⟩, s3, s4, s5, s6, gr, ⟨s7, m10⟩, s8, s9⟩ := z_runs (nl := nl) (c0 := 45) (Or.inl rfl) h0 true x
  have e2 : zm 223 0 [z_r 91, z_i x, z_i 1, none, none, none, none, none] [] b = some (none, b1) := e2
  obtain ⟨d, ed, kd, vd⟩ := zl_fill (F := fun j d => zm 222 7 [z_r 91, none, z_i (nI j)] [] d) (c := 102) (N := 13) (v := fun j => b1.1 101 j) (b := b1) (fun j d hj hd => by
    (try dsimp only)
    rw [em_222_7, if_pos (show nI j < 13 from nI_lt (b := 13) (by omega) (by omega)), zb_in hj (by omega), cond_true, cond_true, nI_clamp (by omega), nI_1, hd 101 (by decide)])
  have ed : zm 222 7 [z_r 91, none, z_i 0] [] b1 = zm 222 7 [z_r 91, none, z_i (nI 13)] [] d := ed
  rw [ex_76_0, e1, em_222_0, e2]
  simp only [Bool.false_eq_true, reduceCtorEq, Nat.not_lt_zero, cond_true, cond_false, ↓reduceIte, if_true, if_false, Option.toList_some, Option.toList_none, List.nil_append, List.cons_append, Option.bind_some]
  rw [ex_76_6, em_222_4, ed, em_222_7, if_neg (show ¬ nI 13 < 13 by decide), vd 12 (by omega), s9]
  have u : ∀ c, ¬ c = 91 → (zd_u d 91 19 1).1 c = d.1 c := fun c q => zb_uc _ _ _ _ q
  have v : ∀ i, i < 13 → (zd_u d 91 19 1).1 102 i = b1.1 101 i := fun i hi => by rw [u 102 (by decide)]; exact vd i hi
  refine ⟨_, _, _, rfl, rfl, zR.run h0 hf (Or.inl rfl) ka (fun c q1 q2 => ?_) (fun i q => ?_) (Or.inr ⟨s0, zb_ue _ _ _ _, ⟨T, hT, s2, by rw [v 1 (by omega)]; exact m1, fun i hi => ?_⟩, ?_, ?_, ?_, ?_, ?_, fun r hr => ?_, ⟨?_, ?_⟩, ?_, ?_⟩)⟩
  · rw [u c q1, kd c (by omega)]; exact kb.1 c q1 (by omega) (by omega)
  · rw [zb_ui _ _ _ _ (by omega), kd 91 (by decide)]; exact kb.2.2 i (by omega) (by omega) (by omega)
  · rw [u 103 (by decide), u 104 (by decide), kd 103 (by decide), kd 104 (by decide)]; exact hst rfl i hi
  · rw [v 0 (by omega), t1, t2]
  · rw [v 2 (by omega)]; exact s3
  · rw [v 3 (by omega)]; exact s4
  · rw [v 4 (by omega)]; exact s5
  · rw [v 5 (by omega)]; exact s6
  · rw [v (6 + r) (by omega)]; exact gr r hr
  · rw [v 10 (by omega)]; exact s7
  · rw [v 10 (by omega)]; exact m10
  · rw [v 11 (by omega)]; exact s8
  · rw [v 12 (by omega)]; exact s9
theorem zR.shown (h0 : zR0 a b f n nu w) (hf : zR_f a (b.1 92 9) f n nu) (h : zEn 49 false a b a' b') : zR a' b' := by
  obtain ⟨ka, kb, -⟩ := h
  obtain ⟨k3, k4⟩ := kb.2.1 rfl
  refine zR.run h0 hf (Or.inr rfl) ka (fun c q1 q2 => kb.1 c q1 (by omega) (by omega)) (fun i q => kb.2.2 i (by omega) (by omega) (by omega)) ?_
  exact (h0.2.2.2.1.x (ka.1 45 (by omega) (by omega)) (ka.1 46 (by omega) (by omega)) (ka.1 47 (by omega) (by omega)) (ka.1 48 (by omega) (by omega))).m (kb.2.2 19 (by omega) (by omega) (by omega)) (kb.1 102 (by omega) (by omega) (by omega)) k3 k4
theorem zc_shown (x y : Int32) (h : zR a b) : zC (zx nl 99 0 [z_r 0, z_i x, z_i y, none, none, none] [] a) (zm 238 0 [z_r 91, z_i x, z_i y, none, none, none] [] b) := by
  rw [ex_99_0, em_238_0]
  rcases zb_sgn x with hx | ⟨m, hm, rfl⟩
  · simp only [hx, Bool.false_eq_true, reduceCtorEq, Nat.not_lt_zero, cond_true, cond_false, ↓reduceIte, if_true, if_false, Option.toList_some, Option.toList_none, List.nil_append, List.cons_append, Option.bind_some]; exact zC.same h _
  by_cases m7 : 7 < m
  · simp (disch := omega) only [zb_ltl, zb_llt, zb_eql, zb_leq, nI_ltI, nI_eq, zb_in, nI_clamp, zb_al, zb_la, zb_ml, zb_lm, zb_mul, nI_add, Bool.false_eq_true, reduceCtorEq, Nat.not_lt_zero, cond_true, cond_false, ↓reduceIte, if_true, if_false, Option.toList_some, Option.toList_none, List.nil_append, List.cons_append, Option.bind_some, m7]; exact zC.same h _
  by_cases hy : y < 0
  · simp (disch := omega) only [zb_ltl, zb_llt, zb_eql, zb_leq, nI_ltI, nI_eq, zb_in, nI_clamp, zb_al, zb_la, zb_ml, zb_lm, zb_mul, nI_add, Bool.false_eq_true, reduceCtorEq, Nat.not_lt_zero, cond_true, cond_false, ↓reduceIte, if_true, if_false, Option.toList_some, Option.toList_none, List.nil_append, List.cons_append, Option.bind_some, m7, hy]; exact zC.same h _
  by_cases hy1 : 1 < y
  · simp (disch := omega) only [zb_ltl, zb_llt, zb_eql, zb_leq, nI_ltI, nI_eq, zb_in, nI_clamp, zb_al, zb_la, zb_ml, zb_lm, zb_mul, nI_add, Bool.false_eq_true, reduceCtorEq, Nat.not_lt_zero, cond_true, cond_false, ↓reduceIte, if_true, if_false, Option.toList_some, Option.toList_none, List.nil_append, List.cons_append, Option.bind_some, m7, hy, hy1]; exact zC.same h _
  simp (disch := omega) only [zb_ltl, zb_llt, zb_eql, zb_leq, nI_ltI, nI_eq, zb_in, nI_clamp, zb_al, zb_la, zb_ml, zb_lm, zb_mul, nI_add, Bool.false_eq_true, reduceCtorEq, Nat.not_lt_zero, cond_true, cond_false, ↓reduceIte, if_true, if_false, Option.toList_some, Option.toList_none, List.nil_append, List.cons_append, Option.bind_some, m7, hy, hy1]
  have hp : 2 ^ m ≤ 2 ^ 7 := Nat.pow_le_pow_right (by omega) (by omega)
  have hsh : (1 : Int32) <<< (nI m &&& 31) = nI (2 ^ m) := zb_1s (by omega)
  have key : ∀ g i most by1 by2 (a b : zd_D), i + g = 2 ^ m → ((most = -1000000005 ∧ by1 = -1000000005) ∨ ((∃ t, t ≤ 200000 ∧ most = nI t) ∧ by1 = by2)) → zR a b → zC (zx nl 99 19 [z_r 0, z_i (nI m), z_i y, z_i most, z_i by1, z_i (nI i)] [] a) (zm 238 19 [z_r 91, z_i (nI m), z_i y, z_i most, z_i by2, z_i (nI i)] [] b) := by
    intro g
    induction g with
    | zero =>
      intro i most by1 by2 a b hi hmost h
      rw [ex_99_19, em_238_19, hsh, if_neg (nI_nlt (by omega) (by omega)), if_neg (nI_nlt (by omega) (by omega))]
      rcases hmost with ⟨q1, q2⟩ | ⟨⟨t, ht, q1⟩, q2⟩
      · rw [if_pos q1, q1, q2]
        by_cases c : y = 0
        · rw [if_pos c]; exact zC.same h _
        · rw [if_neg c]; exact zC.same h _
      · rw [if_neg (show ¬ most = -1000000005 from fun w => by
          rw [q1] at w
          have := nI_pos (n := t) (by omega)
          rw [w] at this
          exact this (by decide)), q2]
        by_cases c : y = 0
        · rw [if_pos c, if_pos c]; exact zC.same h _
        · rw [if_neg c, if_neg c]; exact zC.same h _
    | succ g ih =>
      intro i most by1 by2 a b hi hmost h
      obtain ⟨f, n, nu, w, h0, hf⟩ := h
      obtain ⟨a', b', e1, e2, hE⟩ := z_runs (nl := nl) (c0 := 49) (Or.inr rfl) h0 false (nI i)
      have e2 : zm 223 0 [z_r 91, z_i (nI i), z_i 0, none, none, none, none, none] [] b = some (none, b') := e2
      have hz : zR a' b' := zR.shown h0 hf hE
      obtain ⟨-, -, -, -, ⟨tt, htt, t1, t2⟩, -, -, -, -, -, ⟨s7, m10⟩, -, s9⟩ := hE
      rw [ex_99_19, em_238_19, hsh, if_pos (nI_lt (by omega) (by omega)), if_pos (nI_lt (by omega) (by omega)), e1, e2]
      simp only [Bool.false_eq_true, reduceCtorEq, Nat.not_lt_zero, cond_true, cond_false, ↓reduceIte, if_true, if_false, Option.toList_some, Option.toList_none, List.nil_append, List.cons_append, Option.bind_some]
      rw [ex_99_30, em_238_28, s9, s7, t1, t2, nI_1]
      by_cases c12 : b'.1 101 12 = 0
      · rw [if_pos c12, if_pos c12]
        rcases m10 with c10 | c10
        · rw [if_pos c10, if_neg (by rw [c10]; decide)]
          exact ih (i + 1) _ _ _ a' b' (by omega) hmost hz
        · rw [if_neg (by rw [c10]; decide), if_pos c10]
          rcases hmost with ⟨q1, q2⟩ | ⟨⟨t, ht, q1⟩, q2⟩
          · rw [q1, if_pos rfl, if_pos (zb_neg_lt (by decide) (by omega))]
            exact ih (i + 1) _ _ _ a' b' (by omega) (Or.inr ⟨⟨tt, htt, rfl⟩, rfl⟩) hz
          · rw [if_neg (show ¬ most = -1000000005 from fun w => by
              rw [q1] at w
              have := nI_pos (n := t) (by omega)
              rw [w] at this
              exact this (by decide))]
            by_cases c : most < nI tt
            · rw [if_pos c, if_pos c]
              exact ih (i + 1) _ _ _ a' b' (by omega) (Or.inr ⟨⟨tt, htt, rfl⟩, rfl⟩) hz
            · rw [if_neg c, if_neg c]
              exact ih (i + 1) _ _ _ a' b' (by omega) (Or.inr ⟨⟨t, ht, q1⟩, q2⟩) hz
      · rw [if_neg c12, if_neg c12]
        exact ih (i + 1) _ _ _ a' b' (by omega) hmost hz
  exact key (2 ^ m) 0 (-1000000005) (-1000000005) 0 a b (by omega) (Or.inl ⟨rfl, rfl⟩) h
end ZRun
