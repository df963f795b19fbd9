/-! ===== calls: machine, the whole ===== -/
def zOu (a b : zd_D) (f : zF) (v : Int32) (d e : zd_D) : Prop :=
  (¬ 0 < v ∧ (∀ c, ¬ c = 35 → ¬ c = 37 → d.1 c = a.1 c) ∧ d.2 = a.2 ∧ zK 91 [97] [4, 7, 8, 9, 10, 11, 13, 14] b e ∧ e.1 91 4 = 0) ∨
  (0 < v ∧ ∃ f' : zF, (∀ i, 8 ≤ i → f' i = f i) ∧ zs_mach f' ∧ (∀ c, ¬ c = 2 → ¬ c = 35 → ¬ c = 37 → d.1 c = a.1 c) ∧ d.2 = a.2 ∧ (∀ i, i < 8 → d.1 2 i = f' i) ∧ zK 91 [92, 97] [4, 7, 8, 9, 10, 11, 13, 14, 19] b e ∧ (∀ i, 8 ≤ i → e.1 92 i = b.1 92 i) ∧ (∀ i, i < 8 → e.1 92 i = f' i) ∧ e.1 91 4 = 0 ∧ e.1 91 19 = 0)
section ZMachAll
variable {nl : Int32} {a a' b b' : zd_D} {f f' : zF} {n w : Nat} {nu : Nat → Nat}
theorem zy_neg : ∀ i, i < 97 → ¬ (0 : Int32) < -100 - nI i := by decide +kernel
theorem zy_kd0 {y : Nat → Nat} {t i : Nat} {gl : Bool} : zy_kd y t i gl = 0 ↔ i = t := by
  unfold zy_kd
  by_cases c : i = t
  · rw [if_pos c]; exact ⟨fun _ => c, fun _ => rfl⟩
  · rw [if_neg c]
    refine ⟨fun h => ?_, fun h => absurd h c⟩
    exfalso
    revert h
    split
    · split
      · decide
      · split <;> decide
    · split
      · split
        · decide
        · split <;> decide
      · decide
theorem z_fail {i' : Nat} {d' e' : zd_D} (hi : i' ≤ 96) (h1 : ∀ c, ¬ c = 35 → ¬ c = 37 → d'.1 c = a.1 c) (h2 : d'.2 = a.2) (h3 : zK 91 [97] [7, 8, 9, 10, 11, 13, 14] b e') : zOu a b f (-100 - nI i') d' (zd_u e' 91 4 0) :=
  Or.inl ⟨zy_neg i' (by omega), h1, h2, (h3.up rfl rfl).f _ rfl, zb_ue _ _ _ _⟩
theorem z_loop {y : Nat → Nat} {t : Nat} (hy : zYm b y t) (hm : zs_mach f) (h92 : ∀ k, k < 8 → b.1 92 k = f k) : ∀ g p i gl m tl v (d e : zd_D), p + g = 9 → 0 < p → zLp a b f y t i gl p m tl v d e → ∃ r d' e', zx nl 16 17 [z_r 35, z_r 2, z_i (nI m), z_i (nI p), none, none] [] d = some (some (.inl r), d') ∧ zm 170 31 [z_r 91, z_i 1, none] [] e = some (some (.inl r), e') ∧ zOu a b f r d' e' := by
  intro g
  induction g with
  | zero =>
    intro p i gl m tl v d e hp hp0 hL
    have := hL.2.2.2.2.1
    have := zs_cnt_le tl 8
    omega
  | succ g ih =>
    intro p i gl m tl v d e hp hp0 hL
    have hL0 := hL
    obtain ⟨⟨d1, d2, d3, d4⟩, ⟨e1, e2, e3, e4, e5⟩, ⟨m1, m2, m3, m4, m5⟩⟩ := hL
    rw [ex_16_17, em_170_31, if_neg (show ¬ 8 < nI p from nI_nlt (a := 8) (by omega) (by omega)), if_pos (show 0 < nI p from nI_lt (a := 0) hp0 (by omega)), if_neg (show ¬ (1 : Int32) = 0 by decide), if_neg (show ¬ (1 : Int32) = 0 by decide), d3.2.1, d3.1.1, e2.2.1]
    have ht := hy.2.1
    by_cases c : i = t
    · rw [if_pos (by rw [c]), if_pos (zy_kd0.mpr c)]
      have hg : ∀ k, k < 8 → d.1 37 k = nI (if tl k = true then v k else (f k).toNatClampNeg) ∧ (if tl k = true then v k else (f k).toNatClampNeg) < 1000 := by
        intro k hk
        obtain ⟨r, r1, r2, r3, r4⟩ := zs_mach_rt hm k hk
        rw [d4 k hk]
        by_cases q : tl k = true
        · rw [if_pos q, if_pos q]; exact ⟨rfl, (m5 k hk q).1⟩
        · rw [if_neg q, if_neg q, r2, nI_clamp (by omega)]; exact ⟨rfl, r1⟩
      have hb : zs_any (fun k => !zs_rt k (if tl k = true then v k else (f k).toNatClampNeg)) 8 = zs_bad tl v := by
        unfold zs_bad
        refine zs_any_cg 8 (fun k hk => ?_)
        obtain ⟨r, r1, r2, r3, r4⟩ := zs_mach_rt hm k hk
        by_cases q : tl k = true
        · rw [if_pos q, q, Bool.true_and]
        · rw [if_neg q, r2, nI_clamp (by omega), r3]
          simp [q]
      rw [rx_accept (nl := nl) (x := nI p) hg, hb, e5]
      cases hbad : zs_bad tl v with
      | true =>
        rw [if_pos rfl, if_pos rfl, if_neg (show ¬ (1 : Int32) = 0 by decide)]
        simp only [Bool.false_eq_true, reduceCtorEq, Nat.not_lt_zero, cond_true, cond_false, ↓reduceIte, if_true, if_false, Option.toList_some, Option.toList_none, List.nil_append, List.cons_append, Option.bind_some]
        rw [ex_16_31]
        exact ⟨_, _, _, rfl, rfl, Or.inl ⟨by decide, d1, d2, (e1.up rfl rfl).f _ rfl, zb_ue _ _ _ _⟩⟩
      | false =>
        rw [if_neg (show ¬ false = true by decide), if_neg (show ¬ false = true by decide), if_pos rfl]
        simp only [Bool.false_eq_true, reduceCtorEq, Nat.not_lt_zero, cond_true, cond_false, ↓reduceIte, if_true, if_false, Option.toList_some, Option.toList_none, List.nil_append, List.cons_append, Option.bind_some]
        rw [ex_16_31]
        obtain ⟨e', w1, w2, w3, w4, w5⟩ := rm_accept (e := zd_u e 91 4 0) (tl := tl) (v := v) (fun k hk => by rw [zb_uc _ _ _ _ (by decide)]; exact e3 k hk) (fun k hk q => (m5 k hk q).1)
        rw [w1, zb_ui _ _ _ _ (by decide), e4]
        have e92 : ∀ i, (zd_u e 91 4 0).1 92 i = b.1 92 i := fun i => by rw [zb_uc _ _ _ _ (by decide), e1.1 92 (by decide) rfl]
        have hk' : zK 91 [92, 97] [4, 7, 8, 9, 10, 11, 13, 14, 19] b (zd_u e 91 4 0) := (e1.up rfl rfl).f _ rfl
        refine ⟨_, _, _, rfl, rfl, Or.inr ⟨show 0 < nI p from nI_lt (a := 0) hp0 (by omega), fun i => if i < 8 ∧ tl i = true then nI (v i) else f i, fun i hi => if_neg (by omega), zs_mach_of (fun k hk => ?_), fun c c1 c2 c3 => ?_, d2, fun i hi => ?_, hk'.tr (w2.up rfl rfl), fun i hi => ?_, fun i hi => ?_, ?_, w3⟩⟩
        · by_cases q : tl k = true
          · refine ⟨v k, if_pos ⟨hk, q⟩, ?_, (m5 k hk q).2⟩
            cases hr : zs_rt k (v k) with
            | true => rfl
            | false =>
              have : zs_bad tl v = true := zs_any_iff.mpr ⟨k, hk, by rw [q, hr]; rfl⟩
              rw [hbad] at this
              cases this
          · obtain ⟨r, r1, r2, r3, r4⟩ := zs_mach_rt hm k hk
            exact ⟨r, by rw [if_neg (fun w => q w.2)]; exact r2, r3, r4⟩
        · rw [zb_s, if_neg c1]; exact d1 c c2 c3
        · show _ = if i < 8 ∧ tl i = true then nI (v i) else f i
          rw [zb_s, if_pos rfl, zb_cpy _ _ hi, d4 i hi]
          by_cases q : tl i = true
          · rw [if_pos q, if_pos ⟨hi, q⟩]
          · rw [if_neg q, if_neg (fun w => q w.2)]
        · rw [w4 i hi, e92]
        · show _ = if i < 8 ∧ tl i = true then nI (v i) else f i
          rw [w5 i hi, e92, h92 i hi]
          by_cases q : tl i = true
          · rw [if_pos q, if_pos ⟨hi, q⟩]
          · rw [if_neg q, if_neg (fun w => q w.2)]
        · rw [w2.2.1 4 rfl, zb_ue]
    · rw [if_neg (fun w => c ((nI_eq (by omega) (by omega)).mp w)), if_neg (fun w => c (zy_kd0.mp w))]
      rcases z_iter (nl := nl) hy hL0 with ⟨i', d', e', q1, q2, q3, q4, q5, q6, q7⟩ | ⟨i', gl', m', tl', v', d', e', q1, q2, q3⟩
      · rw [q1, q2]
        simp only [Bool.false_eq_true, reduceCtorEq, Nat.not_lt_zero, cond_true, cond_false, ↓reduceIte, if_true, if_false, Option.toList_some, Option.toList_none, List.nil_append, List.cons_append, Option.bind_some]
        rw [em_170_38, em_170_31, if_pos rfl, if_pos rfl, q6]
        exact ⟨_, _, _, rfl, rfl, z_fail q7 q3 q4 q5⟩
      · rw [q1, q2]
        simp only [Bool.false_eq_true, reduceCtorEq, Nat.not_lt_zero, cond_true, cond_false, ↓reduceIte, if_true, if_false, Option.toList_some, Option.toList_none, List.nil_append, List.cons_append, Option.bind_some]
        rw [em_170_38]
        exact ih (p + 1) i' gl' m' tl' v' d' e' (by omega) (by omega) q3
theorem zc_machine (h : zR a b) : zC (zx nl 15 0 [z_r 0, none] [] a) (zm 170 0 [z_r 91, none, none] [] b) := by
  have hz := h
  obtain ⟨f, n, nu, w, h0, hf⟩ := h
  have h00 := h0
  obtain ⟨hs, hi, ⟨t, ht, p1, p2, p3⟩, hr, hq, hh, hl, hk⟩ := h0
  have hV := h00.V
  have hmm : ∀ i, i < 8 → a.1 2 i = f i := h00.P.2.2
  have hW := h00.W
  have hyy : ∀ i, i < t → (b.1 94 i).toNatClampNeg < 256 ∧ b.1 94 i = nI ((b.1 94 i).toNatClampNeg) ∧ a.1 36 i = zy_s ((b.1 94 i).toNatClampNeg) := by
    intro i hi
    obtain ⟨r, r1, r2, r3⟩ := p3 i hi
    rw [r2, nI_clamp (by omega)]
    exact ⟨r1, rfl, r3⟩
  generalize hye : (fun i => (b.1 94 i).toNatClampNeg) = y at *
  have hyy : ∀ i, i < t → y i < 256 ∧ b.1 94 i = nI (y i) ∧ a.1 36 i = zy_s (y i) := by
    intro i hi
    rw [← hye]
    exact hyy i hi
  have hYm : zYm b y t := ⟨p2, ht, fun i hi => ⟨(hyy i hi).1, (hyy i hi).2.1⟩, hk⟩
  -- the reference's beginning
  obtain ⟨b1, ⟨k1, k2⟩, eb⟩ := zl_to (F := fun j d => zm 170 15 [z_r 91, z_i (nI j), none] [] d) (I := fun j d => zK 91 [97] [] (zd_u (zd_u (zd_u (zd_u b 91 7 0) 91 11 (-1)) 91 13 0) 91 14 0) d ∧ ∀ i, i < j → d.1 97 i = -1) (n := 8) (fun j d hj ⟨q1, q2⟩ => by
    show ∃ d', _ ∧ zm 170 15 [z_r 91, z_i (nI j), none] [] d = zm 170 15 [z_r 91, z_i (nI (j + 1)), none] [] d'
    rw [em_170_15, if_pos (show nI j < 8 from nI_lt (b := 8) (by omega) (by omega)), zb_in hj (by omega), cond_true, nI_clamp (show j < 2 ^ 31 by omega), nI_1]
    refine ⟨_, ⟨q1.u _ _ (by decide) rfl, fun i hi => ?_⟩, rfl⟩
    rw [zb_u]
    by_cases c : i = j
    · rw [if_pos ⟨rfl, c⟩]
    · rw [if_neg (fun w => c w.2)]; exact q2 i (by omega)) 0 _ (by omega) ⟨zK.rf, fun i hi => absurd hi (Nat.not_lt_zero i)⟩
  have eb : zm 170 15 [z_r 91, z_i 0, none] [] (zd_u (zd_u (zd_u (zd_u b 91 7 0) 91 11 (-1)) 91 13 0) 91 14 0) = zm 170 15 [z_r 91, z_i (nI 8), none] [] b1 := eb
  have kb : zK 91 [97] [7, 8, 9, 10, 11, 13, 14] b b1 := zK.tr ((((zK.rf.f _ rfl).f _ rfl).f _ rfl).f _ rfl) (k1.up rfl rfl)
  have f7 : b1.1 91 7 = nI 0 := by rw [k1.2.1 7 rfl, zb_ui _ _ _ _ (by decide), zb_ui _ _ _ _ (by decide), zb_ui _ _ _ _ (by decide), zb_ue]; rfl
  have f11 : b1.1 91 11 = -1 := by rw [k1.2.1 11 rfl, zb_ui _ _ _ _ (by decide), zb_ui _ _ _ _ (by decide), zb_ue]
  have f13 : b1.1 91 13 = nI 0 := by rw [k1.2.1 13 rfl, zb_ui _ _ _ _ (by decide), zb_ue]; rfl
  have f14 : b1.1 91 14 = 0 := by rw [k1.2.1 14 rfl, zb_ue]
  have hYb1 : zYm b1 y t := ⟨by rw [kb.2.1 4 rfl]; exact p2, ht, fun k hk => by rw [kb.1 94 (by decide) rfl]; exact hYm.2.2.1 k hk, hk.m (kb.2.1 38 rfl) (kb.1 95 (by decide) rfl) (kb.1 96 (by decide) rfl)⟩
  have hat2 : zy_at y t 0 ≤ t := zy_to_le _ _ _ _ (by omega)
  obtain ⟨b2, g1, g2, g3, g4, g5, g6, g7⟩ := rm_go hYb1 f7 (by omega) (gl := false) (by
    rw [f11]
    refine ⟨fun w => ?_, fun w => by cases w⟩
    have q := nI_pos (n := zy_at y t 0) (by omega)
    rw [w] at q
    exact absurd (by decide) q)
  -- the class's beginning
  generalize ha1 : zd_u (zd_s a 37 (va_cpy (a.1 2) (a.1 37) 0 0 8)) 35 3 0 = a1
  have q1 : ∀ c, ¬ c = 35 → ¬ c = 37 → a1.1 c = a.1 c := fun c c1 c2 => by rw [← ha1, zb_uc _ _ _ _ c1, zb_s, if_neg c2]
  have q2 : a1.2 = a.2 := by rw [← ha1]; rfl
  have q3 : ∀ k, k < 8 → a1.1 37 k = f k := fun k hk => by rw [← ha1, zb_uc _ _ _ _ (by decide), zb_s, if_pos rfl, zb_cpy _ _ hk]; exact hmm k hk
  have q4 : zY a1 y t := ⟨by rw [← ha1, zb_ui _ _ _ _ (by decide), zb_s, if_neg (by decide)]; exact p1, ht, fun i hi => ⟨(hyy i hi).1, by rw [q1 36 (by decide) (by decide)]; exact (hyy i hi).2.2⟩⟩
  obtain ⟨a2, r1, r2, r3, r4, r5, r6, r7⟩ := rx_next (nl := nl) q4 (show a1.1 35 3 = nI 0 by rw [← ha1, zb_ue]; rfl) (by omega)
  have hL : zLp a b f y t (zy_at y t 0) false 0 0 (fun _ => false) (fun _ => 0) a2 b2 := by
    refine ⟨⟨fun c c1 c2 => by rw [r2 c c1]; exact q1 c c1 c2, by rw [r3]; exact q2, ⟨r4, r5, r6, ?_⟩, fun k hk => ?_⟩, ⟨kb.tr (g2.up rfl rfl), ⟨g3, g4, g5, g6, g7⟩, fun k hk => ?_, ?_, ?_⟩, ⟨by omega, fun k hk => Nat.zero_testBit k, by decide, hat2, fun k hk q => by cases q⟩⟩
    · rw [r7, if_neg (by omega), if_neg (by decide)]
    · rw [r2 37 (by decide), q3 k hk]; rfl
    · rw [g2.1 97 (by decide) rfl, k2 k hk]; rfl
    · rw [g2.2.1 13 rfl]; exact f13
    · rw [g2.2.1 14 rfl, f14]; rfl
  -- both
  have main : ∃ r d' e', zx nl 16 0 [z_r 35, z_r 2, none, none, none, none] [] a = some (some (.inl r), d') ∧ zm 170 0 [z_r 91, none, none] [] b = some (some (.inl r), e') ∧ zOu a b f r d' e' := by
    rw [ex_16_0, em_170_0, ha1, r1, eb, em_170_15, if_neg (show ¬ nI 8 < 8 by decide), g1]
    simp only [Bool.false_eq_true, reduceCtorEq, Nat.not_lt_zero, cond_true, cond_false, ↓reduceIte, if_true, if_false, Option.toList_some, Option.toList_none, List.nil_append, List.cons_append, Option.bind_some]
    rw [ex_16_12, em_170_27, ex_16_17, if_neg (show ¬ (8 : Int32) < 0 by decide), if_neg (show ¬ (0 : Int32) < 0 by decide)]
    rcases z_iter (nl := nl) hYm hL with ⟨i', d', e', w1, w2, w3, w4, w5, w6, w7⟩ | ⟨i', gl', m', tl', v', d', e', w1, w2, w3⟩
    · have w1 : ((zx nl 22 0 [z_r 35, none] [] a2).bind fun q => zx nl 16 34 [z_r 35, z_r 2, z_i 0, z_i 0, none, none] (q.1.toList ++ []) q.2) = some (some (.inl (-100 - nI i')), d') := w1
      rw [w1, w2]
      simp only [Bool.false_eq_true, reduceCtorEq, Nat.not_lt_zero, cond_true, cond_false, ↓reduceIte, if_true, if_false, Option.toList_some, Option.toList_none, List.nil_append, List.cons_append, Option.bind_some]
      rw [em_170_29, em_170_31, if_pos rfl, if_pos rfl, w6]
      exact ⟨_, _, _, rfl, rfl, z_fail w7 w3 w4 w5⟩
    · have w1 : ((zx nl 22 0 [z_r 35, none] [] a2).bind fun q => zx nl 16 34 [z_r 35, z_r 2, z_i 0, z_i 0, none, none] (q.1.toList ++ []) q.2) = zx nl 16 17 [z_r 35, z_r 2, z_i (nI m'), z_i (nI (0 + 1)), none, none] [] d' := w1
      rw [w1, w2]
      simp only [Bool.false_eq_true, reduceCtorEq, Nat.not_lt_zero, cond_true, cond_false, ↓reduceIte, if_true, if_false, Option.toList_some, Option.toList_none, List.nil_append, List.cons_append, Option.bind_some]
      rw [em_170_29]
      exact z_loop hYm hW.2.2.1 (fun k hk => hV k (by omega) (by omega) (by omega)) 8 (0 + 1) i' gl' m' tl' v' d' e' (by omega) (by omega) w3
  obtain ⟨r, d', e', m1, m2, m3⟩ := main
  rw [ex_15_0, m1, m2]
  simp only [Bool.false_eq_true, reduceCtorEq, Nat.not_lt_zero, cond_true, cond_false, ↓reduceIte, if_true, if_false, Option.toList_some, Option.toList_none, List.nil_append, List.cons_append, Option.bind_some]
  rw [ex_15_6]
  rcases m3 with ⟨o1, o2, o3, o4, o5⟩ | ⟨o1, f', o2, o3, o4, o5, o6, o7, o8, o9, o10, o11⟩
  · rw [if_neg o1]
    refine ⟨r, _, _, rfl, rfl, hz.text (fun c c1 c2 => ?_) (zb_ue _ _ _ _) o3 (fun c c1 c2 => o4.1 c c1 ?_) o5 (fun i hi => o4.2.1 i ?_)⟩
    · rw [zb_uc _ _ _ _ c1]; exact o2 c c1 c2
    · simp [c2]
    · rcases hi with rfl | rfl | rfl | rfl <;> rfl
  · rw [if_pos o1]
    refine ⟨r, _, _, rfl, rfl, zR.mach h00 hf.2.2 o2 o3 (fun c c0 c2 c35 c37 c45 => ?_) (fun i i9 i10 => ?_) ?_ ?_ (fun i hi => ?_) ?_ ?_ o5 (fun c c1 c2 c3 => o7.1 c c1 ?_) o8 o9 o10 o11 (fun i hi => o7.2.1 i ?_)⟩
    · rw [zb_uc _ _ _ _ c45, zb_uc _ _ _ _ c0, zb_uc _ _ _ _ c0, zb_uc _ _ _ _ c35]; exact o4 c c2 c35 c37
    · rw [zb_uc _ _ _ _ (by decide), zb_ui _ _ _ _ i10, zb_ui _ _ _ _ i9, zb_uc _ _ _ _ (by decide), o4 0 (by decide) (by decide) (by decide)]
    · rw [zb_uc _ _ _ _ (by decide), zb_ui _ _ _ _ (by decide), zb_ue]
    · rw [zb_uc _ _ _ _ (by decide), zb_ue]
    · rw [zb_uc _ _ _ _ (by decide), zb_uc _ _ _ _ (by decide), zb_uc _ _ _ _ (by decide), zb_uc _ _ _ _ (by decide)]; exact o6 i hi
    · rw [zb_uc _ _ _ _ (by decide), zb_uc _ _ _ _ (by decide), zb_uc _ _ _ _ (by decide), zb_ue]
    · exact zb_ue _ _ _ _
    · simp [c2, c3]
    · rcases hi with rfl | rfl | rfl <;> rfl
end ZMachAll
