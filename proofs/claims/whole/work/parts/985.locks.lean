/-! ===== calls: locks ===== -/
section ZLocks
variable {nl : Int32} {a a' b b' : zd_D} {f : zF} {n w : Nat} {nu : Nat → Nat}
theorem rx_best (h0 : zR0 a b f n nu w) {O m s E : Nat} {V : Nat → Nat} (hO : O < 65536) (hm : zs_pop O = m) (hm8 : m ≤ 8) (hs : s ≤ m) (hE : E < 2000000000) (hV : ∀ i, i < 2 ^ m → zs_bd f n (zs_ec f n (nI (zs_pd 32 O i)) (zs_ms f)) nu = nI (V i) ∧ V i < 2000000000) {d : zd_D} (hd : zCx a d ∧ zBf d) : ∃ d' r, zx nl 131 0 [z_r 0, z_i (nI O), z_i (nI s), z_i (nI E), none, none, none, none, none] [] d = some (some (.inl (nI (zs_pd 32 O r))), d') ∧ (zCx a d' ∧ zBf d') ∧ zs_fm V s E (2 ^ m) r := by
  have h256 : 2 ^ m ≤ 2 ^ 8 := Nat.pow_le_pow_right (by omega) hm8
  have hms := h0.W.ms
  obtain ⟨j0, j1, j2, -⟩ := zs_grow (m := m) (by omega) s 0 (Nat.two_pow_pos m) (by rw [show zs_pop 0 = 0 by decide]; omega)
  have j2 : zs_pop j0 = s := by rw [j2, show zs_pop 0 = 0 by decide, Nat.zero_add]
  have key : ∀ g i (d : zd_D) (x4 x5 : Int32), 2 ^ m - i = g → i ≤ 2 ^ m → (zCx a d ∧ zBf d) → ((∀ j, j < i → ¬ zs_pop j = s) ∧ x4 = 0 ∧ x5 = nI 2000000000 ∨ ∃ r, r < i ∧ zs_pop r = s ∧ x4 = nI (zs_pd 32 O r) ∧ x5 = nI (V r) ∧ ∀ j, j < i → zs_pop j = s → max (V r) E < max (V j) E ∨ max (V r) E = max (V j) E ∧ r ≤ j) → ∃ d' r, zx nl 131 9 [z_r 0, z_i (nI O), z_i (nI s), z_i (nI E), z_i x4, z_i x5, z_i (nI (zs_pd 32 O i)), z_i (nI i), none] [] d = some (some (.inl (nI (zs_pd 32 O r))), d') ∧ (zCx a d' ∧ zBf d') ∧ zs_fm V s E (2 ^ m) r := by
    intro g
    induction g with
    | zero =>
      intro i d x4 x5 hg hi hd hI
      have : i = 2 ^ m := by omega
      subst this
      rw [ex_131_9, rx_bits hO, hm]
      simp only [Bool.false_eq_true, reduceCtorEq, Nat.not_lt_zero, cond_true, cond_false, ↓reduceIte, if_true, if_false, Option.toList_some, Option.toList_none, List.nil_append, List.cons_append, Option.bind_some]
      rw [ex_131_13, zb_1s (by omega), if_neg (nI_nlt (Nat.le_refl _) (by omega))]
      rcases hI with ⟨q, -⟩ | ⟨r, r1, r2, r3, r4, r5⟩
      · exact absurd j2 (q j0 j1)
      · exact ⟨d, r, by rw [r3], hd, ⟨r1, r2⟩, r5⟩
    | succ g ih =>
      intro i d x4 x5 hg hi hd hI
      rw [ex_131_9, rx_bits hO, hm]
      simp only [Bool.false_eq_true, reduceCtorEq, Nat.not_lt_zero, cond_true, cond_false, ↓reduceIte, if_true, if_false, Option.toList_some, Option.toList_none, List.nil_append, List.cons_append, Option.bind_some]
      rw [ex_131_13, zb_1s (by omega), if_pos (nI_lt (show i < 2 ^ m by omega) (by omega))]
      by_cases c : nI E < x5
      rotate_left
      · rw [if_neg c]
        rcases hI with ⟨-, -, q⟩ | ⟨r, r1, r2, r3, r4, r5⟩
        · rw [q] at c; exact absurd (nI_lt hE (by omega)) c
        · have hVr := (hV r (by omega)).2
          have cE : V r ≤ E := by
            rw [r4] at c
            exact Nat.le_of_not_lt (fun w => c (nI_lt w (by omega)))
          refine ⟨d, r, by rw [r3], hd, ⟨by omega, r2⟩, fun j hj hp => ?_⟩
          by_cases l : j < i
          · exact r5 j l hp
          · omega
      rw [if_pos c, rx_bits (Nat.lt_of_le_of_lt (zs_pd_le 32 O i) hO), zs_pop_pd hO (by rw [hm]; omega)]
      simp only [Bool.false_eq_true, reduceCtorEq, Nat.not_lt_zero, cond_true, cond_false, ↓reduceIte, if_true, if_false, Option.toList_some, Option.toList_none, List.nil_append, List.cons_append, Option.bind_some]
      have hp16 := zs_cnt_le (fun l => i.testBit l) 16
      rw [← zs_pop_cnt] at hp16
      rw [ex_131_20, zb_next hO, nI_1]
      by_cases cs : zs_pop i = s
      rotate_left
      · rw [if_neg (fun w => cs ((nI_eq (by omega) (by omega)).mp w))]
        refine ih (i + 1) d x4 x5 (by omega) (by omega) hd ?_
        rcases hI with ⟨q1, q2, q3⟩ | ⟨r, r1, r2, r3, r4, r5⟩
        · refine Or.inl ⟨fun j hj hp => ?_, q2, q3⟩
          by_cases e : j = i
          · subst e; exact cs hp
          · exact q1 j (by omega) hp
        · refine Or.inr ⟨r, by omega, r2, r3, r4, fun j hj hp => ?_⟩
          by_cases e : j = i
          · subst e; exact absurd hp cs
          · exact r5 j (by omega) hp
      rw [cs, if_pos rfl, hd.1.1 2 (by omega), show a.1 2 3 = nI (zs_ms f) from (h0.P.2.2 3 (by omega)).trans hms.1]
      obtain ⟨d1, e1, k1, hb1, -, -⟩ := rx_boundif (nl := nl) (h0.x hd.1) hd.2 (nI (zs_pd 32 O i)) (ms := zs_ms f) (by omega)
      obtain ⟨v1, v2⟩ := hV i (by omega)
      rw [e1, v1]
      simp only [Bool.false_eq_true, reduceCtorEq, Nat.not_lt_zero, cond_true, cond_false, ↓reduceIte, if_true, if_false, Option.toList_some, Option.toList_none, List.nil_append, List.cons_append, Option.bind_some]
      rw [ex_131_30, zb_next hO, nI_1]
      have hd1 : zCx a d1 ∧ zBf d1 := ⟨hd.1.tr k1, hb1⟩
      by_cases cl : nI (V i) < x5
      · rw [if_pos cl]
        refine ih (i + 1) d1 _ _ (by omega) (by omega) hd1 (Or.inr ⟨i, by omega, cs, rfl, rfl, fun j hj hp => ?_⟩)
        by_cases e : j = i
        · subst e; exact Or.inr ⟨rfl, Nat.le_refl _⟩
        · rcases hI with ⟨q1, q2, q3⟩ | ⟨r, r1, r2, r3, r4, r5⟩
          · exact absurd hp (q1 j (by omega))
          · have hVr := (hV r (by omega)).2
            rw [r4] at cl c
            have cl : V i < V r := Nat.lt_of_not_le (fun w => absurd cl (nI_nlt w (by omega)))
            have c : E < V r := Nat.lt_of_not_le (fun w => absurd c (nI_nlt w (by omega)))
            have q := r5 j (by omega) hp
            left
            omega
      · rw [if_neg cl]
        refine ih (i + 1) d1 _ _ (by omega) (by omega) hd1 ?_
        rcases hI with ⟨q1, q2, q3⟩ | ⟨r, r1, r2, r3, r4, r5⟩
        · rw [q3] at cl; exact absurd (nI_lt v2 (by omega)) cl
        · refine Or.inr ⟨r, by omega, r2, r3, r4, fun j hj hp => ?_⟩
          by_cases e : j = i
          · subst e
            have hVr := (hV r (by omega)).2
            rw [r4] at cl
            have cl : V r ≤ V j := Nat.le_of_not_lt (fun w => cl (nI_lt w (by omega)))
            omega
          · exact r5 j (by omega) hp
  rw [ex_131_0]
  have z : zs_pd 32 O 0 = 0 := by
    apply Nat.eq_of_testBit_eq
    intro t
    rw [zs_pd_bit 32 _ _ _ (by omega)]
    simp
  have := key (2 ^ m) 0 d 0 (nI 2000000000) (by omega) (by omega) hd (Or.inl ⟨fun j hj => absurd hj (Nat.not_lt_zero j), rfl, rfl⟩)
  rw [z] at this
  exact this
/-- the class's walk from as many lines as may be to fewer -/
theorem rx_fewer (h0 : zR0 a b f n nu w) {O m K L : Nat} {V : Nat → Nat} (hO : O < 65536) (hm : zs_pop O = m) (hm8 : m ≤ 8) (hK : K ≤ m) (hV : ∀ i, i < 2 ^ m → zs_bd f n (zs_ec f n (nI (zs_pd 32 O i)) (zs_ms f)) nu = nI (V i) ∧ V i < 2000000000) (hsub : ∀ i j, i < 2 ^ m → j < 2 ^ m → zs_sub i j → V j ≤ V i) (hL : ∀ j, j < 2 ^ m → zs_pop j ≤ K → L ≤ V j) (x2 : Int32) : ∀ s r (d : zd_D), s ≤ K → (zCx a d ∧ zBf d ∧ d.1 0 9 = 0 ∧ d.1 0 10 = 0) → r < 2 ^ m → zs_pop r = s → V r = L → (∀ j, j < 2 ^ m → zs_pop j = s → V j = V r → r ≤ j) → ∃ d' r', zx nl 129 53 [z_r 0, none, z_i x2, z_i (nI O), none, z_i (nI (zs_pd 32 O r)), z_i (nI L), z_i (nI s - 1), none] [] d = some (some (.inl (if x2 = 0 then nI L else nI (zs_pd 32 O r'))), d') ∧ (zCx a d' ∧ zBf d' ∧ d'.1 0 9 = 0 ∧ d'.1 0 10 = 0) ∧ zs_lx V K (2 ^ m) r' ∧ V r' = L := by
  have hms := h0.W.ms
  intro s
  induction s with
  | zero =>
    intro r d hs hd r1 r2 r3 r4
    rw [ex_129_53, if_pos (show nI 0 - 1 < 0 by decide)]
    refine ⟨d, r, ?_, hd, zs_walk_end (by omega) hsub hs ⟨r1, r2⟩ (fun j hj hp => by rw [r3]; exact hL j hj hp) r4 (Or.inl rfl), r3⟩
    by_cases c : x2 = 0
    · rw [if_pos c, if_pos c]
    · rw [if_neg c, if_neg c]
  | succ s ih =>
    intro r d hs hd r1 r2 r3 r4
    have hLt : L < 2000000000 := by rw [← r3]; exact (hV r r1).2
    rw [nI_pred, ex_129_53, if_neg (nI_pos (by omega))]
    obtain ⟨d1, q, e1, hd1, hq⟩ := rx_best (nl := nl) h0 hO hm hm8 (show s ≤ m by omega) hLt hV ⟨hd.1, hd.2.1⟩
    rw [e1]
    simp only [Bool.false_eq_true, reduceCtorEq, Nat.not_lt_zero, cond_true, cond_false, ↓reduceIte, if_true, if_false, Option.toList_some, Option.toList_none, List.nil_append, List.cons_append, Option.bind_some]
    rw [ex_129_60, hd1.1.1 2 (by omega), show a.1 2 3 = nI (zs_ms f) from (h0.P.2.2 3 (by omega)).trans hms.1]
    obtain ⟨d2, e2, k2, hb2, z9, z10⟩ := rx_boundif (nl := nl) (h0.x hd1.1) hd1.2 (nI (zs_pd 32 O q)) (ms := zs_ms f) (by omega)
    obtain ⟨v1, v2⟩ := hV q hq.1.1
    rw [e2, v1]
    simp only [Bool.false_eq_true, reduceCtorEq, Nat.not_lt_zero, cond_true, cond_false, ↓reduceIte, if_true, if_false, Option.toList_some, Option.toList_none, List.nil_append, List.cons_append, Option.bind_some]
    rw [ex_129_69]
    have hd2 : zCx a d2 ∧ zBf d2 ∧ d2.1 0 9 = 0 ∧ d2.1 0 10 = 0 := ⟨hd1.1.tr k2, hb2, z9, z10⟩
    have hLq := hL q hq.1.1 (by rw [hq.1.2]; omega)
    by_cases c : L < V q
    · rw [if_pos (nI_lt c (by omega))]
      refine ⟨d2, r, ?_, hd2, zs_walk_end (by omega) hsub hs ⟨r1, r2⟩ (fun j hj hp => by rw [r3]; exact hL j hj hp) r4 (Or.inr fun j hj hp => ?_), r3⟩
      · by_cases c : x2 = 0
        · rw [if_pos c, if_pos c]
        · rw [if_neg c, if_neg c]
      · have w := hq.2 j hj (by omega)
        omega
    · rw [if_neg (nI_nlt (by omega) (by omega)), ← Int32.sub_eq_add_neg]
      refine ih q d2 (by omega) hd2 hq.1.1 hq.1.2 (by omega) (fun j hj hp hv => ?_)
      have w := hq.2 j hj hp
      omega
/-- what the reference's walk keeps -/
def zJ (T : Nat) (b d : zd_D) : Prop := (∀ c, (93 ≤ c ∧ c ≤ 96 ∨ 102 ≤ c ∧ c ≤ 104 ∨ 123 ≤ c ∧ c ≤ 125 ∨ 127 ≤ c ∧ c ≤ 129) → d.1 c = b.1 c) ∧ (∀ j, ¬ j = 9 → d.1 92 j = b.1 92 j) ∧ (∀ i, (i = 2 ∨ i = 4 ∨ i = 19 ∨ i = 38 ∨ i = 53) → d.1 91 i = b.1 91 i) ∧ d.1 91 46 = nI (min 8 (zs_cnt (fun l => T.testBit l) 16)) ∧ ∀ t, t < 16 → T.testBit t = true → zs_cnt (fun l => T.testBit l) t < 8 → d.1 122 (zs_cnt (fun l => T.testBit l) t) = nI t
theorem zJ.u {T : Nat} {d : zd_D} (h : zJ T b d) (x : Int32) : zJ T b (zd_u d 92 9 x) := by
  obtain ⟨h1, h2, h3, h4, h5⟩ := h
  refine ⟨fun c q => by rw [zb_uc _ _ _ _ (by omega)]; exact h1 c q, fun j q => by rw [zb_ui _ _ _ _ q]; exact h2 j q, fun i q => by rw [zb_uc _ _ _ _ (by decide)]; exact h3 i q, by rw [zb_uc _ _ _ _ (by decide)]; exact h4, fun t q1 q2 q3 => by rw [zb_uc _ _ _ _ (by decide)]; exact h5 t q1 q2 q3⟩
theorem zJ.k {T : Nat} {d d' : zd_D} (h : zJ T b d) (hk : zK 91 [98, 99, 100, 113, 114, 115, 116, 117, 118, 119, 120] [15, 43] d d') : zJ T b d' ∧ d'.1 92 9 = d.1 92 9 := by
  obtain ⟨h1, h2, h3, h4, h5⟩ := h
  have hc : ∀ c, (92 ≤ c ∧ c ≤ 96 ∨ 102 ≤ c ∧ c ≤ 104 ∨ 122 ≤ c ∧ c ≤ 129) → d'.1 c = d.1 c := fun c q => hk.1 c (by omega) (by
    cases he : [98, 99, 100, 113, 114, 115, 116, 117, 118, 119, 120].elem c with
    | false => rfl
    | true =>
      have := List.elem_iff.mp he
      simp at this
      omega)
  have hf : ∀ i, ¬ i = 15 → ¬ i = 43 → d'.1 91 i = d.1 91 i := fun i q1 q2 => hk.2.1 i (by
    cases he : [15, 43].elem i with
    | false => rfl
    | true =>
      have := List.elem_iff.mp he
      simp at this
      omega)
  refine ⟨⟨fun c q => by rw [hc c (by omega)]; exact h1 c q, fun j q => by rw [hc 92 (by omega)]; exact h2 j q, fun i q => by rw [hf i (by omega) (by omega)]; exact h3 i q, by rw [hf 46 (by omega) (by omega)]; exact h4, fun t q1 q2 q3 => by rw [hc 122 (by omega)]; exact h5 t q1 q2 q3⟩, by rw [hc 92 (by omega)]⟩
theorem rm_walk (h0 : zR0 a b f n nu w) {m k : Nat} {V : Nat → Nat} (hm : min 8 (zs_cnt (fun l => (zs_ot f n).testBit l) 16) = m) (hk : k ≤ 8) (hV : ∀ i, i < 2 ^ m → zs_bd f n (zs_ec f n (nI (zs_pd 32 (zs_f8 (zs_ot f n) 16) i)) (zs_ms f)) nu = nI (V i) ∧ V i < 2000000000) (x2 x4 : Int32) {d : zd_D} (hd : zJ (zs_ot f n) b d) : ∃ d' r, zm 254 33 [z_r 91, z_i (nI k), z_i x2, none, z_i x4, z_i (-1), z_i 0, z_i 0, none] [] d = zm 254 33 [z_r 91, z_i (nI k), z_i x2, none, z_i x4, z_i (nI (V r)), z_i (nI r), z_i (nI (2 ^ m)), none] [] d' ∧ zJ (zs_ot f n) b d' ∧ zs_lx V k (2 ^ m) r := by
  have hms := h0.W.ms
  have hm8 : m ≤ 8 := by omega
  have h256 : 2 ^ m ≤ 2 ^ 8 := Nat.pow_le_pow_right (by omega) hm8
  -- one set is tried
  have try1 : ∀ i (d : zd_D) (x5 x6 : Int32), i < 2 ^ m → zs_pop i ≤ k → zJ (zs_ot f n) b d → ∃ d', zm 254 33 [z_r 91, z_i (nI k), z_i x2, none, z_i x4, z_i x5, z_i x6, z_i (nI i), none] [] d = zm 254 53 [z_r 91, z_i (nI k), z_i x2, none, z_i x4, z_i x5, z_i x6, z_i (nI i), none] [.inl (nI (V i))] d' ∧ zJ (zs_ot f n) b d' := by
    intro i d x5 x6 hi hp hd
    rw [em_254_33, hd.2.2.2.1, hm, zb_1s (by omega), if_pos (nI_lt hi (by omega)), rm_bits (by omega)]
    simp only [Bool.false_eq_true, reduceCtorEq, Nat.not_lt_zero, cond_true, cond_false, ↓reduceIte, if_true, if_false, Option.toList_some, Option.toList_none, List.nil_append, List.cons_append, Option.bind_some]
    rw [em_254_41, if_neg (nI_nlt hp (by omega)), rm_setof hd.2.2.2.1 hd.2.2.2.2 (by rw [hm]; exact hi)]
    simp only [Bool.false_eq_true, reduceCtorEq, Nat.not_lt_zero, cond_true, cond_false, ↓reduceIte, if_true, if_false, Option.toList_some, Option.toList_none, List.nil_append, List.cons_append, Option.bind_some]
    rw [em_254_50, show mx_in 9 1020 = true from by decide, cond_true, show (9 : Int32).toNatClampNeg = 9 by decide]
    generalize hS : zs_pd 32 (zs_f8 (zs_ot f n) 16) i = S at *
    have hJ := hd.u (nI S)
    have hV92 : zV 92 (zd_u d 92 9 (nI S)) f := fun j q1 q2 q3 => by rw [hJ.2.1 j q2]; exact h0.V j q1 q2 q3
    have hN92 : zMN (zd_u d 92 9 (nI S)) nu f n := fun e he => by rw [hJ.2.1 (200 + e) (by omega)]; exact h0.MN e he
    have hM92 : zMs (zd_u d 92 9 (nI S)) f (zs_ms f) := ⟨by omega, Or.inl ⟨by rw [hJ.2.2.1 38 (by simp)]; exact h0.2.2.2.2.2.2.2.2.2, hms.1⟩⟩
    obtain ⟨d1, e1, k1, -, -⟩ := rm_bound (b := zd_u d 92 9 (nI S)) h0.W hV92 hN92 hM92
    rw [zb_ue] at e1
    have hVi := (hV i hi).1
    rw [hS] at hVi
    rw [e1, hVi]
    simp only [Bool.false_eq_true, reduceCtorEq, Nat.not_lt_zero, cond_true, cond_false, ↓reduceIte, if_true, if_false, Option.toList_some, Option.toList_none, List.nil_append, List.cons_append, Option.bind_some]
    exact ⟨d1, rfl, (hJ.k k1).1⟩
  have pop0 : zs_pop 0 = 0 := by decide
  have key : ∀ g i (d : zd_D) r, 2 ^ m - i = g → i ≤ 2 ^ m → 0 < i → zJ (zs_ot f n) b d → (r < i ∧ zs_pop r ≤ k) → (∀ j, j < i → zs_pop j ≤ k → V r < V j ∨ V r = V j ∧ (zs_pop r < zs_pop j ∨ zs_pop r = zs_pop j ∧ r ≤ j)) → ∃ d' r', zm 254 33 [z_r 91, z_i (nI k), z_i x2, none, z_i x4, z_i (nI (V r)), z_i (nI r), z_i (nI i), none] [] d = zm 254 33 [z_r 91, z_i (nI k), z_i x2, none, z_i x4, z_i (nI (V r')), z_i (nI r'), z_i (nI (2 ^ m)), none] [] d' ∧ zJ (zs_ot f n) b d' ∧ zs_lx V k (2 ^ m) r' := by
    intro g
    induction g with
    | zero =>
      intro i d r hg hi hi0 hd hr hI
      have : i = 2 ^ m := by omega
      subst this
      exact ⟨d, r, rfl, hd, hr, hI⟩
    | succ g ih =>
      intro i d r hg hi hi0 hd hr hI
      have hp16 := zs_cnt_le (fun l => i.testBit l) 16
      rw [← zs_pop_cnt] at hp16
      have hq16 := zs_cnt_le (fun l => r.testBit l) 16
      rw [← zs_pop_cnt] at hq16
      by_cases hp : zs_pop i ≤ k
      rotate_left
      · have e : zm 254 33 [z_r 91, z_i (nI k), z_i x2, none, z_i x4, z_i (nI (V r)), z_i (nI r), z_i (nI i), none] [] d = zm 254 33 [z_r 91, z_i (nI k), z_i x2, none, z_i x4, z_i (nI (V r)), z_i (nI r), z_i (nI (i + 1)), none] [] d := by
          rw [em_254_33, hd.2.2.2.1, hm, zb_1s (by omega), if_pos (nI_lt (show i < 2 ^ m by omega) (by omega)), rm_bits (by omega)]
          simp only [Bool.false_eq_true, reduceCtorEq, Nat.not_lt_zero, cond_true, cond_false, ↓reduceIte, if_true, if_false, Option.toList_some, Option.toList_none, List.nil_append, List.cons_append, Option.bind_some]
          rw [em_254_41, if_pos (nI_lt (by omega) (by omega)), nI_1]
        rw [e]
        refine ih (i + 1) d r (by omega) (by omega) (by omega) hd ⟨by omega, hr.2⟩ (fun j hj hpj => ?_)
        by_cases ej : j = i
        · subst ej; exact absurd hpj hp
        · exact hI j (by omega) hpj
      obtain ⟨d1, e1, hd1⟩ := try1 i d (nI (V r)) (nI r) (by omega) hp hd
      have hVi := (hV i (by omega)).2
      have hVr := (hV r (by omega)).2
      rw [e1, em_254_53, if_neg (nI_pos (by omega))]
      -- taken
      have take : ((∀ j, j < i → zs_pop j ≤ k → V i < V j ∨ V i = V j ∧ zs_pop i < zs_pop j)) → ∃ d' r', zm 254 33 [z_r 91, z_i (nI k), z_i x2, none, z_i x4, z_i (nI (V i)), z_i (nI i), z_i (nI i + 1), none] [] d1 = zm 254 33 [z_r 91, z_i (nI k), z_i x2, none, z_i x4, z_i (nI (V r')), z_i (nI r'), z_i (nI (2 ^ m)), none] [] d' ∧ zJ (zs_ot f n) b d' ∧ zs_lx V k (2 ^ m) r' := by
        intro q
        rw [nI_1]
        refine ih (i + 1) d1 i (by omega) (by omega) (by omega) hd1 ⟨by omega, hp⟩ (fun j hj hpj => ?_)
        by_cases ej : j = i
        · subst ej; exact Or.inr ⟨rfl, Or.inr ⟨rfl, Nat.le_refl _⟩⟩
        · rcases q j (by omega) hpj with w | w
          · exact Or.inl w
          · exact Or.inr ⟨w.1, Or.inl w.2⟩
      have leave : (V r < V i ∨ V r = V i ∧ zs_pop r ≤ zs_pop i) → ∃ d' r', zm 254 33 [z_r 91, z_i (nI k), z_i x2, none, z_i x4, z_i (nI (V r)), z_i (nI r), z_i (nI i + 1), none] [] d1 = zm 254 33 [z_r 91, z_i (nI k), z_i x2, none, z_i x4, z_i (nI (V r')), z_i (nI r'), z_i (nI (2 ^ m)), none] [] d' ∧ zJ (zs_ot f n) b d' ∧ zs_lx V k (2 ^ m) r' := by
        intro q
        rw [nI_1]
        refine ih (i + 1) d1 r (by omega) (by omega) (by omega) hd1 ⟨by omega, hr.2⟩ (fun j hj hpj => ?_)
        by_cases ej : j = i
        · subst ej; omega
        · exact hI j (by omega) hpj
      by_cases c1 : V i < V r
      · rw [if_pos (nI_lt c1 (by omega))]
        exact take (fun j hj hpj => by have := hI j hj hpj; omega)
      · rw [if_neg (nI_nlt (by omega) (by omega))]
        by_cases c2 : V i = V r
        · rw [if_pos (show nI (V i) = nI (V r) by rw [c2]), rm_bits (by omega)]
          simp only [Bool.false_eq_true, reduceCtorEq, Nat.not_lt_zero, cond_true, cond_false, ↓reduceIte, if_true, if_false, Option.toList_some, Option.toList_none, List.nil_append, List.cons_append, Option.bind_some]
          rw [em_254_64, rm_bits (by omega)]
          simp only [Bool.false_eq_true, reduceCtorEq, Nat.not_lt_zero, cond_true, cond_false, ↓reduceIte, if_true, if_false, Option.toList_some, Option.toList_none, List.nil_append, List.cons_append, Option.bind_some]
          rw [em_254_66]
          by_cases c3 : zs_pop i < zs_pop r
          · rw [if_pos (nI_lt c3 (by omega))]
            exact take (fun j hj hpj => by have := hI j hj hpj; omega)
          · rw [if_neg (nI_nlt (by omega) (by omega))]
            exact leave (by omega)
        · rw [if_neg (fun w => c2 ((nI_eq (by omega) (by omega)).mp w))]
          exact leave (by omega)
  obtain ⟨d1, e1, hd1⟩ := try1 0 d (-1) 0 (Nat.two_pow_pos m) (by rw [pop0]; omega) hd
  have e1 : zm 254 33 [z_r 91, z_i (nI k), z_i x2, none, z_i x4, z_i (-1), z_i 0, z_i 0, none] [] d = _ := e1
  rw [e1, em_254_53, if_pos (show (-1 : Int32) < 0 by decide), nI_1]
  have hpos := Nat.two_pow_pos m
  exact key (2 ^ m - 1) 1 d1 0 (by omega) (by omega) (by omega) hd1 ⟨by omega, by rw [pop0]; omega⟩ (fun j hj hp => by
    have : j = 0 := by omega
    subst this
    exact Or.inr ⟨rfl, Or.inr ⟨rfl, Nat.le_refl _⟩⟩)
theorem zc_locks (x y : Int32) (h : zR a b) : zC (zx nl 129 0 [z_r 0, z_i x, z_i y, none, none, none, none, none, none] [] a) (zm 254 0 [z_r 91, z_i x, z_i y, none, none, none, none, none, none] [] b) := by
  have hz := h
  obtain ⟨f, n, nu, w, h0, hf⟩ := h
  rw [ex_129_0, em_254_0]
  rcases zb_sgn x with hx | ⟨k, hk, rfl⟩
  · simp only [hx, Bool.false_eq_true, reduceCtorEq, Nat.not_lt_zero, cond_true, cond_false, ↓reduceIte, if_true, if_false, Option.toList_some, Option.toList_none, List.nil_append, List.cons_append, Option.bind_some]; exact zC.same hz _
  by_cases k8 : 8 < k
  · simp (disch := omega) only [zb_ltl, zb_llt, zb_eql, zb_leq, nI_ltI, nI_eq, zb_in, nI_clamp, zb_al, zb_la, zb_ml, zb_lm, zb_mul, nI_add, Bool.false_eq_true, reduceCtorEq, Nat.not_lt_zero, cond_true, cond_false, ↓reduceIte, if_true, if_false, Option.toList_some, Option.toList_none, List.nil_append, List.cons_append, Option.bind_some, k8]; exact zC.same hz _
  rcases zb_sgn y with hx | ⟨l, hl, rfl⟩
  · simp (disch := omega) only [zb_ltl, zb_llt, zb_eql, zb_leq, nI_ltI, nI_eq, zb_in, nI_clamp, zb_al, zb_la, zb_ml, zb_lm, zb_mul, nI_add, Bool.false_eq_true, reduceCtorEq, Nat.not_lt_zero, cond_true, cond_false, ↓reduceIte, if_true, if_false, Option.toList_some, Option.toList_none, List.nil_append, List.cons_append, Option.bind_some, k8, hx]; exact zC.same hz _
  by_cases l1 : 1 < l
  · simp (disch := omega) only [zb_ltl, zb_llt, zb_eql, zb_leq, nI_ltI, nI_eq, zb_in, nI_clamp, zb_al, zb_la, zb_ml, zb_lm, zb_mul, nI_add, Bool.false_eq_true, reduceCtorEq, Nat.not_lt_zero, cond_true, cond_false, ↓reduceIte, if_true, if_false, Option.toList_some, Option.toList_none, List.nil_append, List.cons_append, Option.bind_some, k8, l1]; exact zC.same hz _
  obtain ⟨a1, e1, k1, hf1, h9, hF1, hP1⟩ := rx_freshp (nl := nl) h0 hf
  obtain ⟨b1, e2, k2, -, -⟩ := rm_bound h0.W h0.V h0.MN h0.Ms
  have hcm := k2.cm rfl rfl
  have h01 : zR0 a1 b1 f n nu w := (h0.x k1).m hcm
  have hz1 : zR a1 b1 := zR.of h0 k1 hf1 hcm
  have hms := h0.W.ms
  simp (disch := omega) only [zb_ltl, zb_llt, zb_eql, zb_leq, nI_ltI, nI_eq, zb_in, nI_clamp, zb_al, zb_la, zb_ml, zb_lm, zb_mul, nI_add, Bool.false_eq_true, reduceCtorEq, Nat.not_lt_zero, cond_true, cond_false, ↓reduceIte, if_true, if_false, Option.toList_some, Option.toList_none, List.nil_append, List.cons_append, Option.bind_some, k8, l1, e1, e2]
  rw [ex_129_14, em_254_14, hP1.1]
  by_cases hneg : zs_bd f n (zs_ec f n (b.1 92 9) (zs_ms f)) nu < 0
  · rw [if_pos hneg, if_pos hneg]; exact zC.same hz1 _
  rw [if_neg hneg, if_neg hneg]
  -- what the bounds come to
  have hmust : ∀ lk, zs_must f n lk (zs_X f n lk) := by
    intro lk
    have hV' : zV 92 (zd_u b 92 9 lk) f := h0.V.u (by omega) _
    obtain ⟨-, -, -, -, q, -⟩ := rm_all h0.W hV'
    rw [zb_ue] at q
    exact q
  obtain ⟨hv, hmono⟩ := zs_bd_all h0.W hmust (by omega) hneg
  have hT := zs_ot_lt h0.W n (Nat.le_refl _)
  have hO := zs_f8_lt (zs_ot f n) (Nat.le_refl 16)
  have hpopO : zs_pop (zs_f8 (zs_ot f n) 16) = min 8 (zs_cnt (fun l => (zs_ot f n).testBit l) 16) := by rw [zs_pop_cnt, zs_cnt_f8, Nat.min_self]
  obtain ⟨b2, e3, k3, k46, k122⟩ := rm_lines h01.W h01.V
  have hJ2 : zJ (zs_ot f n) b1 b2 := by
    have hc := k3.cm rfl rfl
    exact ⟨fun c q => hc.1 c (by omega), fun j _ => by rw [hc.1 92 (by omega)], fun i q => by
      obtain ⟨c1, c2, c3, c4, c5⟩ := hc.2
      rcases q with rfl | rfl | rfl | rfl | rfl
      · exact c1
      · exact c2
      · exact c3
      · exact c4
      · exact c5, k46, k122⟩
  rw [rx_lines h01.W h01.P, e3]
  generalize hm : min 8 (zs_cnt (fun l => (zs_ot f n).testBit l) 16) = m at *
  have hm8 : m ≤ 8 := by omega
  have hV : ∀ i, i < 2 ^ m → zs_bd f n (zs_ec f n (nI (zs_pd 32 (zs_f8 (zs_ot f n) 16) i)) (zs_ms f)) nu = nI ((fun i => (zs_bd f n (zs_ec f n (nI (zs_pd 32 (zs_f8 (zs_ot f n) 16) i)) (zs_ms f)) nu).toNatClampNeg) i) ∧ (fun i => (zs_bd f n (zs_ec f n (nI (zs_pd 32 (zs_f8 (zs_ot f n) 16) i)) (zs_ms f)) nu).toNatClampNeg) i < 2000000000 := by
    intro i _
    obtain ⟨v, v1, v2⟩ := hv (nI (zs_pd 32 (zs_f8 (zs_ot f n) 16) i))
    (try dsimp only)
    rw [v2, nI_clamp (by omega)]
    exact ⟨rfl, v1⟩
  have hsub : ∀ i j, i < 2 ^ m → j < 2 ^ m → zs_sub i j → (fun i => (zs_bd f n (zs_ec f n (nI (zs_pd 32 (zs_f8 (zs_ot f n) 16) i)) (zs_ms f)) nu).toNatClampNeg) j ≤ (fun i => (zs_bd f n (zs_ec f n (nI (zs_pd 32 (zs_f8 (zs_ot f n) 16) i)) (zs_ms f)) nu).toNatClampNeg) i := by
    intro i j _ _ hs
    refine hmono _ _ (fun l hl q => ?_)
    have b1 := zs_pd_le 32 (zs_f8 (zs_ot f n) 16) i
    have b2 := zs_pd_le 32 (zs_f8 (zs_ot f n) 16) j
    rw [zs_lk_bit (by omega) (by omega)] at q ⊢
    exact zs_sub_pd hO hs l q
  generalize (fun i => (zs_bd f n (zs_ec f n (nI (zs_pd 32 (zs_f8 (zs_ot f n) 16) i)) (zs_ms f)) nu).toNatClampNeg) = V at hV hsub
  -- the reference
  simp only [Bool.false_eq_true, reduceCtorEq, Nat.not_lt_zero, cond_true, cond_false, ↓reduceIte, if_true, if_false, Option.toList_some, Option.toList_none, List.nil_append, List.cons_append, Option.bind_some]
  rw [em_254_26]
  obtain ⟨b3, r, e4, hJ3, hr⟩ := rm_walk h01 hm (show k ≤ 8 by omega) hV (nI l) (b1.1 92 9) hJ2
  rw [e4, em_254_33, hJ3.2.2.2.1, hm, zb_1s (by omega), if_neg (nI_nlt (Nat.le_refl _) (by have := Nat.pow_le_pow_right (show 0 < 2 by omega) hm8; omega))]
  have hJ4 := hJ3.u (b1.1 92 9)
  rw [rm_setof hJ4.2.2.2.1 hJ4.2.2.2.2 (by rw [hm]; exact hr.1.1)]
  simp only [Bool.false_eq_true, reduceCtorEq, Nat.not_lt_zero, cond_true, cond_false, ↓reduceIte, if_true, if_false, Option.toList_some, Option.toList_none, List.nil_append, List.cons_append, Option.bind_some]
  rw [em_254_85]
  have hcm4 : zCm b1 (zd_u b3 92 9 (b1.1 92 9)) := by
    refine ⟨fun c q => ?_, hJ4.2.2.1 2 (by simp), hJ4.2.2.1 4 (by simp), hJ4.2.2.1 19 (by simp), hJ4.2.2.1 38 (by simp), hJ4.2.2.1 53 (by simp)⟩
    by_cases c92 : c = 92
    · subst c92
      funext j
      by_cases j9 : j = 9
      · subst j9; rw [zb_ue]
      · exact hJ4.2.1 j j9
    · exact hJ4.1 c (by omega)
  -- the class
  rw [ex_129_27, rx_bits hO, hpopO]
  simp only [Bool.false_eq_true, reduceCtorEq, Nat.not_lt_zero, cond_true, cond_false, ↓reduceIte, if_true, if_false, Option.toList_some, Option.toList_none, List.nil_append, List.cons_append, Option.bind_some]
  have hmin : (if nI m < nI k then nI m else nI k) = nI (min k m) := by
    by_cases c : m < k
    · rw [if_pos (nI_lt c (by omega)), Nat.min_eq_right (by omega)]
    · rw [if_neg (nI_nlt (by omega) (by omega)), Nat.min_eq_left (by omega)]
  rw [ex_129_31, hmin]
  obtain ⟨a2, q, e5, hd2, hq⟩ := rx_best (nl := nl) (s := min k m) (E := 0) h01 hO hpopO hm8 (by omega) (by omega) hV ⟨zCx.rf, hf1.2.2⟩
  have e5 : zx nl 131 0 [z_r 0, z_i (nI (zs_f8 (zs_ot f n) 16)), z_i (nI (min k m)), z_i 0, none, none, none, none, none] [] a1 = _ := e5
  rw [e5]
  simp only [Bool.false_eq_true, reduceCtorEq, Nat.not_lt_zero, cond_true, cond_false, ↓reduceIte, if_true, if_false, Option.toList_some, Option.toList_none, List.nil_append, List.cons_append, Option.bind_some]
  rw [ex_129_38, hd2.1.1 2 (by omega), show a1.1 2 3 = nI (zs_ms f) from (h01.P.2.2 3 (by omega)).trans hms.1]
  obtain ⟨a3, e6, k6, hb3, z9, z10⟩ := rx_boundif (nl := nl) (h01.x hd2.1) hd2.2 (nI (zs_pd 32 (zs_f8 (zs_ot f n) 16) q)) (ms := zs_ms f) (by omega)
  rw [e6, (hV q hq.1.1).1]
  simp only [Bool.false_eq_true, reduceCtorEq, Nat.not_lt_zero, cond_true, cond_false, ↓reduceIte, if_true, if_false, Option.toList_some, Option.toList_none, List.nil_append, List.cons_append, Option.bind_some]
  rw [ex_129_47]
  have hle16 : ∀ j, j < 2 ^ m → zs_pop j ≤ m := fun j hj => by
    rw [zs_pop_cnt, zs_cnt_top hj 16 (by omega)]
    exact zs_cnt_le _ _
  have hL : ∀ j, j < 2 ^ m → zs_pop j ≤ min k m → V q ≤ V j := by
    intro j hj hp
    obtain ⟨t, t1, t2, t3⟩ := zs_grow (show m ≤ 16 by omega) (min k m - zs_pop j) j hj (by omega)
    have q1 := hsub j t hj t1 t3
    have q2 := hq.2 t t1 (by omega)
    omega
  obtain ⟨a4, r', e7, hd4, hr', hVr'⟩ := rx_fewer (nl := nl) (K := min k m) (L := V q) h01 hO hpopO hm8 (by omega) hV hsub hL (nI l) (min k m) q a3 (Nat.le_refl _) ⟨hd2.1.tr k6, hb3, z9, z10⟩ hq.1.1 hq.1.2 rfl (fun j hj hp hv => by
    have := hq.2 j hj hp
    omega)
  have hrr : zs_lx V (min k m) (2 ^ m) r := ⟨⟨hr.1.1, by have := hle16 r hr.1.1; have := hr.1.2; omega⟩, fun j hj hp => hr.2 j hj (by omega)⟩
  have : r' = r := zs_lx_eq hr' hrr
  subst this
  rw [e7, hVr']
  have fin : zR a4 (zd_u b3 92 9 (b1.1 92 9)) := ⟨f, n, nu, w, (h01.x hd4.1).m hcm4, zR_f.no hd4.2.2.1 hd4.2.2.2 hd4.2.1⟩
  by_cases c : nI l = 0
  · rw [if_pos c, if_pos c]
    exact ⟨_, _, _, rfl, rfl, fin⟩
  · rw [if_neg c, if_neg c]
    exact ⟨_, _, _, rfl, rfl, fin⟩
end ZLocks
