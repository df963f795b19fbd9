/-! ===== sheets and slots ===== -/
section ZSheets
variable {nl : Int32} {a a' b b' : zd_D} {f : zF} {n w : Nat} {nu : Nat → Nat}
theorem zb_sub_lt {l c k : Nat} (hl : l < 2 ^ 31) (hc : c < 2 ^ 31) (hk : k < 2 ^ 31) : (nI l - nI c < nI k) ↔ l < k + c := by
  rw [Int32.lt_iff_toInt_lt, Int32.toInt_sub, nI_toInt hl, nI_toInt hc, nI_toInt hk, Int.bmod_eq_of_le (by omega) (by omega)]
  omega
/-- two loops that go in step -/
theorem zl_lk {F G : Nat → zd_D → Option (Option mx_V × zd_D)} {I : Nat → zd_D → zd_D → Prop} {n : Nat} (step : ∀ t a b, t < n → I t a b → ∃ a' b', I (t + 1) a' b' ∧ F t a = F (t + 1) a' ∧ G t b = G (t + 1) b') (fin : ∀ a b, I n a b → zC (F n a) (G n b)) : ∀ t a b, t ≤ n → I t a b → zC (F t a) (G t b) := by
  intro t
  generalize hd : n - t = d
  induction d generalizing t with
  | zero =>
    intro a b ht hI
    have : t = n := by omega
    subst this
    exact fin a b hI
  | succ d ih =>
    intro a b ht hI
    obtain ⟨a', b', h1, h2, h3⟩ := step t a b (by omega) hI
    rw [h2, h3]
    exact ih (t + 1) (by omega) a' b' (by omega) h1
theorem zd_r62 {j : Nat} (hj : j < 2 ^ 31) : zd_rr 62 (nI j).toNatClampNeg = 65 + 2 * j := by rw [nI_clamp hj]; rfl
theorem zd_r63 {j : Nat} (hj : j < 2 ^ 31) : zd_rr 63 (nI j).toNatClampNeg = 73 + 3 * j := by rw [nI_clamp hj]; rfl
theorem zd_o4 {j : Nat} (hj : j < 4) : nI j = 0 ∨ nI j = 1 ∨ nI j = 2 ∨ nI j = 3 := by
  have : j = 0 ∨ j = 1 ∨ j = 2 ∨ j = 3 := by omega
  rcases this with rfl | rfl | rfl | rfl <;> simp [nI]
theorem zd_o6 {j : Nat} (hj : j < 6) : nI j = 0 ∨ nI j = 1 ∨ nI j = 2 ∨ nI j = 3 ∨ nI j = 4 ∨ nI j = 5 := by
  have : j = 0 ∨ j = 1 ∨ j = 2 ∨ j = 3 ∨ j = 4 ∨ j = 5 := by omega
  rcases this with rfl | rfl | rfl | rfl | rfl | rfl <;> simp [nI]
theorem zR_1.fr {c j : Nat} (h : zR_1 a b c j) (k1 : a'.1 c = a.1 c) (k2 : a'.2.1 (c + 1) = a.2.1 (c + 1)) (k3 : b'.1 123 j = b.1 123 j) (k4 : b'.1 124 j = b.1 124 j) (k5 : ∀ i, i < 32 → b'.1 125 (32 * j + i) = b.1 125 (32 * j + i)) : zR_1 a' b' c j := by
  unfold zR_1 at h ⊢
  rw [k1, k2, k3, k4]
  rcases h with h | ⟨h1, h2, h3, h4⟩
  · exact Or.inl h
  · exact Or.inr ⟨h1, h2, h3, fun i hi => by rw [k5 i hi]; exact h4 i hi⟩
/-- only sheets and slots have changed -/
theorem zR.hl (h : zR a b) (kx : ∀ c, ¬ (65 ≤ c ∧ c ≤ 90) → a'.1 c = a.1 c) (k2 : a'.2.2 = a.2.2) (km : ∀ c, ¬ (123 ≤ c ∧ c ≤ 128) → b'.1 c = b.1 c) (hh : zR_h a' b') (hl : zR_l a' b') : zR a' b' := by
  obtain ⟨f, n, nu, w, ⟨hs, hi, hp, hr, hq, -, -, hk⟩, hf⟩ := h
  refine ⟨f, n, nu, w, ⟨(hs.x (Or.inl rfl) (fun c q => kx c (by omega))).m (km 92 (by omega)), ?_, ?_, ?_, ?_, hh, hl, ?_⟩, ?_⟩
  · exact (hi.x (by rw [kx 0 (by omega)]) (fun c q1 q2 => kx c (by omega))).m (by rw [km 91 (by omega)]) (km 93 (by omega))
  · exact (hp.x (by rw [kx 35 (by omega)]) (kx 36 (by omega))).m (by rw [km 91 (by omega)]) (km 94 (by omega))
  · exact (hr.x (kx _ (by omega)) (kx _ (by omega)) (kx _ (by omega)) (kx _ (by omega))).m (by rw [km 91 (by omega)]) (km _ (by omega)) (km _ (by omega)) (km _ (by omega))
  · exact (hq.x (by rw [kx 0 (by omega)]) (kx _ (by omega))).m (by rw [km 91 (by omega)]) (km _ (by omega))
  · exact hk.m (by rw [km 91 (by omega)]) (km _ (by omega)) (km _ (by omega))
  · rw [km 92 (by omega)]
    exact hf.x (by rw [kx 0 (by omega)]) (by rw [kx 0 (by omega)]) (fun c q1 q2 => kx c (by omega)) (kx _ (by omega)) k2
/-- only one sheet has changed -/
theorem zR.sh (h : zR a b) {j : Nat} (hj : j < 4) (kx : ∀ c, ¬ c = 65 + 2 * j → a'.1 c = a.1 c) (k1 : ∀ c, ¬ c = 65 + 2 * j + 1 → a'.2.1 c = a.2.1 c) (k2 : a'.2.2 = a.2.2) (km : ∀ c, ¬ (c = 123 ∨ c = 124 ∨ c = 125 ∨ c = 126) → b'.1 c = b.1 c) (k3 : ∀ i, ¬ i = j → b'.1 123 i = b.1 123 i) (k4 : ∀ i, ¬ i = j → b'.1 124 i = b.1 124 i) (k5 : ∀ i, ¬ (32 * j ≤ i ∧ i < 32 * j + 32) → b'.1 125 i = b.1 125 i) (h1 : zR_1 a' b' (65 + 2 * j) j) : zR a' b' := by
  have hz := h
  obtain ⟨f, n, nu, w, ⟨hs, hi, hp, hr, hq, hh, hl, hk⟩, hf⟩ := h
  refine hz.hl (fun c q => kx c (by omega)) k2 (fun c q => km c (by omega)) (fun i hi => ?_) (fun i hi => ?_)
  · by_cases e : i = j
    · subst e; exact h1
    · exact (hh i hi).fr (kx _ (by omega)) (k1 _ (by omega)) (k3 _ e) (k4 _ e) (fun t ht => k5 _ (by omega))
  · have := hl i hi
    unfold zR_2 at this ⊢
    rw [kx (73 + 3 * i) (by omega), km 127 (by omega), km 128 (by omega), kx (74 + 3 * i) (by omega)]
    obtain ⟨r, g1, g2, g3, g4, g5⟩ := this
    exact ⟨r, g1, g2, g3, g4, fun q => ⟨(g5 q).1.fr (kx _ (by omega)) (k1 _ (by omega)) (k3 _ (by omega)) (k4 _ (by omega)) (fun t ht => k5 _ (by omega)), (g5 q).2⟩⟩
theorem rx_lfill {j : Nat} (hj : j < 4) : ∃ d', zx nl 143 0 [z_r (65 + 2 * j + 1), some (.inr (.inl (Int32.toInt64 0))), none, none, none] [] a = some (none, d') ∧ d'.1 = a.1 ∧ d'.2.2 = a.2.2 ∧ (∀ c, ¬ c = 65 + 2 * j + 1 → d'.2.1 c = a.2.1 c) ∧ ∀ i, i < 32 → d'.2.1 (65 + 2 * j + 1) i = Int32.toInt64 0 := by
  have hc : 65 + 2 * j + 1 = 66 ∨ 65 + 2 * j + 1 = 68 ∨ 65 + 2 * j + 1 = 70 ∨ 65 + 2 * j + 1 = 72 := by omega
  rw [ex_143_0 _ _ hc]
  have := zl_to (F := fun i d => zx nl 143 6 [z_r (65 + 2 * j + 1), some (.inr (.inl (Int32.toInt64 0))), none, z_i (nI i), z_i (nI 32)] [] d) (I := fun i d => d.1 = a.1 ∧ d.2.2 = a.2.2 ∧ (∀ c, ¬ c = 65 + 2 * j + 1 → d.2.1 c = a.2.1 c) ∧ ∀ k, k < i → d.2.1 (65 + 2 * j + 1) k = Int32.toInt64 0) (n := 32) (by
    intro i d hi ⟨h1, h2, h3, h4⟩
    refine ⟨zd_ul d (65 + 2 * j + 1) i (Int32.toInt64 0), ⟨h1, h2, fun c hc => ?_, fun k hk => ?_⟩, ?_⟩
    · rw [← h3 c hc]; exact if_neg hc
    · rw [zb_ul]
      by_cases e : k = i
      · rw [if_pos ⟨rfl, e⟩]
      · rw [if_neg (fun q => e q.2)]; exact h4 k (by omega)
    · (try dsimp only)
      rw [ex_143_6 _ _ _ _ hc]
      simp (disch := omega) only [zb_ltl, zb_llt, zb_eql, zb_leq, nI_ltI, nI_eq, zb_in, nI_clamp, zb_al, zb_la, zb_ml, zb_lm, zb_mul, nI_add, Bool.false_eq_true, reduceCtorEq, Nat.not_lt_zero, cond_true, cond_false, ↓reduceIte, if_true, if_false, Option.toList_some, Option.toList_none, List.nil_append, List.cons_append, Option.bind_some, hi]) 0 a (by omega) ⟨rfl, rfl, fun _ _ => rfl, fun k hk => by omega⟩
  obtain ⟨d', ⟨h1, h2, h3, h4⟩, e⟩ := this
  refine ⟨d', ?_, h1, h2, h3, h4⟩
  refine Eq.trans e ?_
  (try dsimp only)
  rw [ex_143_6 _ _ _ _ hc]
  simp (disch := omega) only [zb_ltl, zb_llt, zb_eql, zb_leq, nI_ltI, nI_eq, zb_in, nI_clamp, zb_al, zb_la, zb_ml, zb_lm, zb_mul, nI_add, Bool.false_eq_true, reduceCtorEq, Nat.not_lt_zero, cond_true, cond_false, ↓reduceIte, if_true, if_false, Option.toList_some, Option.toList_none, List.nil_append, List.cons_append, Option.bind_some, Nat.lt_irrefl]
theorem rm_lfill {j : Nat} (hj : j < 4) : ∃ d', zm 263 38 [z_r 91, z_i (nI j), none, none, z_i 0] [] b = some (some (.inl (d'.1 124 j)), d') ∧ (∀ c, ¬ c = 125 → d'.1 c = b.1 c) ∧ (∀ i, ¬ (32 * j ≤ i ∧ i < 32 * j + 32) → d'.1 125 i = b.1 125 i) ∧ ∀ i, i < 32 → d'.1 125 (32 * j + i) = 0 := by
  have := zl_to (F := fun i d => zm 263 38 [z_r 91, z_i (nI j), none, none, z_i (nI i)] [] d) (I := fun i d => (∀ c, ¬ c = 125 → d.1 c = b.1 c) ∧ (∀ i, ¬ (32 * j ≤ i ∧ i < 32 * j + 32) → d.1 125 i = b.1 125 i) ∧ ∀ k, k < i → d.1 125 (32 * j + k) = 0) (n := 32) (by
    intro i d hi ⟨h1, h2, h3⟩
    refine ⟨zd_u d 125 (32 * j + i) 0, ⟨fun c hc => ?_, fun k hk => ?_, fun k hk => ?_⟩, ?_⟩
    · rw [zb_uc _ _ _ _ hc]; exact h1 c hc
    · rw [zb_ui _ _ _ _ (by omega)]; exact h2 k hk
    · rw [zb_u]
      by_cases e : k = i
      · rw [if_pos ⟨rfl, by omega⟩]
      · rw [if_neg (fun q => e (by omega))]; exact h3 k (by omega)
    · (try dsimp only)
      rw [em_263_38]
      simp (disch := omega) only [zb_ltl, zb_llt, zb_eql, zb_leq, nI_ltI, nI_eq, zb_in, nI_clamp, zb_al, zb_la, zb_ml, zb_lm, zb_mul, nI_add, Bool.false_eq_true, reduceCtorEq, Nat.not_lt_zero, cond_true, cond_false, ↓reduceIte, if_true, if_false, Option.toList_some, Option.toList_none, List.nil_append, List.cons_append, Option.bind_some, hi]) 0 b (by omega) ⟨fun _ _ => rfl, fun _ _ => rfl, fun k hk => by omega⟩
  obtain ⟨d', ⟨h1, h2, h3⟩, e⟩ := this
  refine ⟨d', ?_, h1, h2, h3⟩
  refine Eq.trans e ?_
  (try dsimp only)
  rw [em_263_38]
  simp (disch := omega) only [zb_ltl, zb_llt, zb_eql, zb_leq, nI_ltI, nI_eq, zb_in, nI_clamp, zb_al, zb_la, zb_ml, zb_lm, zb_mul, nI_add, Bool.false_eq_true, reduceCtorEq, Nat.not_lt_zero, cond_true, cond_false, ↓reduceIte, if_true, if_false, Option.toList_some, Option.toList_none, List.nil_append, List.cons_append, Option.bind_some, Nat.lt_irrefl]
theorem zc_sheet (x y z : Int32) (h : zR a b) : zC (zx nl 140 0 [z_r 0, z_i x, z_i y, z_i z] [] a) (zm 263 0 [z_r 91, z_i x, z_i y, z_i z, none] [] b) := by
  rw [ex_140_0, em_263_0]
  rcases zb_sgn x with hx | ⟨j, hj, rfl⟩
  · simp only [hx, Bool.false_eq_true, reduceCtorEq, Nat.not_lt_zero, cond_true, cond_false, ↓reduceIte, if_true, if_false, Option.toList_some, Option.toList_none, List.nil_append, List.cons_append, Option.bind_some]; exact zC.same h _
  by_cases h4 : j < 4
  rotate_left
  · simp (disch := omega) only [zb_ltl, zb_llt, zb_eql, zb_leq, nI_ltI, nI_eq, zb_in, nI_clamp, zb_al, zb_la, zb_ml, zb_lm, zb_mul, nI_add, Bool.false_eq_true, reduceCtorEq, Nat.not_lt_zero, cond_true, cond_false, ↓reduceIte, if_true, if_false, Option.toList_some, Option.toList_none, List.nil_append, List.cons_append, Option.bind_some, h4, show 3 < j by omega]; exact zC.same h _
  simp (disch := omega) only [zb_ltl, zb_llt, zb_eql, zb_leq, nI_ltI, nI_eq, zb_in, nI_clamp, zb_al, zb_la, zb_ml, zb_lm, zb_mul, nI_add, Bool.false_eq_true, reduceCtorEq, Nat.not_lt_zero, cond_true, cond_false, ↓reduceIte, if_true, if_false, Option.toList_some, Option.toList_none, List.nil_append, List.cons_append, Option.bind_some, h4, show ¬ 3 < j by omega]
  by_cases hy1 : y < -1
  · simp only [hy1, Bool.false_eq_true, reduceCtorEq, Nat.not_lt_zero, cond_true, cond_false, ↓reduceIte, if_true, if_false, Option.toList_some, Option.toList_none, List.nil_append, List.cons_append, Option.bind_some]; exact zC.same h _
  by_cases hy3 : (3 : Int32) < y
  · simp only [hy1, hy3, Bool.false_eq_true, reduceCtorEq, Nat.not_lt_zero, cond_true, cond_false, ↓reduceIte, if_true, if_false, Option.toList_some, Option.toList_none, List.nil_append, List.cons_append, Option.bind_some]; exact zC.same h _
  have rr : zd_rr 62 j = 65 + 2 * j := rfl
  by_cases hym : y = -1
  · subst hym
    obtain ⟨b', e, m1, m2, m3⟩ := rm_lfill (b := zd_u (zd_u b 123 j (-1)) 124 j 0) h4
    simp only [show ((-1 : Int32) < 0) = True from eq_true (by decide), hy1, hy3, Bool.false_eq_true, reduceCtorEq, Nat.not_lt_zero, cond_true, cond_false, ↓reduceIte, if_true, if_false, Option.toList_some, Option.toList_none, List.nil_append, List.cons_append, Option.bind_some, e]
    rw [ex_140_15 _ (zd_o4 h4), zd_r62 hj]
    refine ⟨0, _, _, rfl, by rw [m1 124 (by decide), zb_ue], h.sh h4 (fun c q => zb_uc _ _ _ _ q) (fun c q => rfl) rfl (fun c q => ?_) (fun i q => ?_) (fun i q => ?_) (fun i q => ?_) (Or.inl ⟨zb_ue _ _ _ _, ?_⟩)⟩
    · rw [m1 c (by omega), zb_uc _ _ _ _ (by omega), zb_uc _ _ _ _ (by omega)]
    · rw [m1 123 (by omega), zb_uc _ _ _ _ (by omega), zb_ui _ _ _ _ q]
    · rw [m1 124 (by omega), zb_ui _ _ _ _ q, zb_uc _ _ _ _ (by omega)]
    · rw [m2 i q, zb_uc _ _ _ _ (by omega), zb_uc _ _ _ _ (by omega)]
    · rw [m1 123 (by omega), zb_uc _ _ _ _ (by omega), zb_ue]
  · have hy0 : ¬ y < 0 := by
      intro q
      rw [Int32.lt_iff_toInt_lt] at q hy1
      exact hym (Int32.toInt_inj.mp (by
        have e1 : (-1 : Int32).toInt = -1 := by decide
        have e0 : (0 : Int32).toInt = 0 := by decide
        rw [e1] at hy1 ⊢
        rw [e0] at q
        omega))
    obtain ⟨k, hk, rfl⟩ := zb_nat hy0
    have hk4 : k < 4 := by
      have := hy3
      simp (disch := omega) only [zb_ltl, zb_llt, zb_eql, zb_leq, nI_ltI, nI_eq, zb_in, nI_clamp, zb_al, zb_la, zb_ml, zb_lm, zb_mul, nI_add] at this
      omega
    simp only [hy0, hy1, hy3, hym, Bool.false_eq_true, reduceCtorEq, Nat.not_lt_zero, cond_true, cond_false, ↓reduceIte, if_true, if_false, Option.toList_some, Option.toList_none, List.nil_append, List.cons_append, Option.bind_some]
    rcases zb_sgn z with hz | ⟨l, hl, rfl⟩
    · have : ¬ (32 : Int32) < z := fun q => (zb_neg1 z hz 32 (by decide)).mp q
      simp only [this, hz, Bool.false_eq_true, reduceCtorEq, Nat.not_lt_zero, cond_true, cond_false, ↓reduceIte, if_true, if_false, Option.toList_some, Option.toList_none, List.nil_append, List.cons_append, Option.bind_some]; exact zC.same h _
    by_cases hl3 : 32 < l
    · simp (disch := omega) only [zb_ltl, zb_llt, zb_eql, zb_leq, nI_ltI, nI_eq, zb_in, nI_clamp, zb_al, zb_la, zb_ml, zb_lm, zb_mul, nI_add, Bool.false_eq_true, reduceCtorEq, Nat.not_lt_zero, cond_true, cond_false, ↓reduceIte, if_true, if_false, Option.toList_some, Option.toList_none, List.nil_append, List.cons_append, Option.bind_some, hl3]; exact zC.same h _
    obtain ⟨b', e, m1, m2, m3⟩ := rm_lfill (b := zd_u (zd_u b 123 j (nI k)) 124 j (nI l)) h4
    simp (disch := omega) only [zb_ltl, zb_llt, zb_eql, zb_leq, nI_ltI, nI_eq, zb_in, nI_clamp, zb_al, zb_la, zb_ml, zb_lm, zb_mul, nI_add, Bool.false_eq_true, reduceCtorEq, Nat.not_lt_zero, cond_true, cond_false, ↓reduceIte, if_true, if_false, Option.toList_some, Option.toList_none, List.nil_append, List.cons_append, Option.bind_some, hl3, e]
    have hc : 65 + 2 * j = 65 ∨ 65 + 2 * j = 67 ∨ 65 + 2 * j = 69 ∨ 65 + 2 * j = 71 := by omega
    rw [ex_140_33 _ _ _ (zd_o4 h4), zd_r62 hj, ex_142_0 _ _ _ hc]
    obtain ⟨a', e', p1, p2, p3, p4⟩ := rx_lfill (nl := nl) (a := zd_u (zd_u (zd_u a (65 + 2 * j) 0 1) (65 + 2 * j) 1 (nI k)) (65 + 2 * j) 2 (nI l)) h4
    rw [e']
    simp only [Bool.false_eq_true, reduceCtorEq, Nat.not_lt_zero, cond_true, cond_false, ↓reduceIte, if_true, if_false, Option.toList_some, Option.toList_none, List.nil_append, List.cons_append, Option.bind_some]
    rw [ex_142_13 _ _ _ hc]
    simp only [Bool.false_eq_true, reduceCtorEq, Nat.not_lt_zero, cond_true, cond_false, ↓reduceIte, if_true, if_false, Option.toList_some, Option.toList_none, List.nil_append, List.cons_append, Option.bind_some]
    rw [ex_140_40]
    refine ⟨nI l, _, _, rfl, by rw [m1 124 (by decide), zb_ue], h.sh h4 (fun c q => ?_) (fun c q => p3 c q) p2 (fun c q => ?_) (fun i q => ?_) (fun i q => ?_) (fun i q => ?_) (Or.inr ⟨?_, ⟨k, hk4, ?_, ?_⟩, ⟨l, by omega, ?_, ?_⟩, fun i hi => ?_⟩)⟩
    · rw [p1, zb_uc _ _ _ _ q, zb_uc _ _ _ _ q, zb_uc _ _ _ _ q]
    · rw [m1 c (by omega), zb_uc _ _ _ _ (by omega), zb_uc _ _ _ _ (by omega)]
    · rw [m1 123 (by omega), zb_uc _ _ _ _ (by omega), zb_ui _ _ _ _ q]
    · rw [m1 124 (by omega), zb_ui _ _ _ _ q, zb_uc _ _ _ _ (by omega)]
    · rw [m2 i q, zb_uc _ _ _ _ (by omega), zb_uc _ _ _ _ (by omega)]
    · rw [p1, zb_ui _ _ _ _ (by decide), zb_ui _ _ _ _ (by decide), zb_ue]
    · rw [p1, zb_ui _ _ _ _ (by decide), zb_ue]
    · rw [m1 123 (by omega), zb_uc _ _ _ _ (by omega), zb_ue]
    · rw [p1, zb_ue]
    · rw [m1 124 (by omega), zb_ue]
    · rw [m3 i hi, p4 i hi]
theorem zb_i8 (x : Int32) : (Int32.toInt8 x).toInt32 = (x <<< (24 &&& 31)) >>> (24 &&& 31) := by
  apply Int32.toBitVec_inj.mp
  apply BitVec.eq_of_getLsbD_eq
  intro i hi
  have e : (24 &&& 31 : Int32) = 24 := by decide
  have e2 : (x <<< (24 : Int32) >>> (24 : Int32)).toBitVec = (x.toBitVec <<< 24).sshiftRight 24 := by
    rw [Int32.toBitVec_shiftRight, Int32.toBitVec_shiftLeft]
    rfl
  rw [e, e2, Int8.toBitVec_toInt32, Int32.toBitVec_toInt8, BitVec.signExtend_eq_setWidth_of_le x.toBitVec (by decide)]
  rw [BitVec.getLsbD_signExtend, BitVec.getLsbD_sshiftRight]
  simp only [BitVec.getLsbD_setWidth, BitVec.getLsbD_shiftLeft, BitVec.msb_setWidth, BitVec.msb_shiftLeft]
  by_cases h : i < 8
  · simp [h, hi, show 24 + i < 32 by omega, show ¬ 24 + i < 24 by omega]
  · simp [h, hi, show ¬ 24 + i < 32 by omega, BitVec.getMsbD]
theorem zb_i16 (x : Int32) : (Int32.toInt16 x).toInt32 = (x <<< (16 &&& 31)) >>> (16 &&& 31) := by
  apply Int32.toBitVec_inj.mp
  apply BitVec.eq_of_getLsbD_eq
  intro i hi
  have e : (16 &&& 31 : Int32) = 16 := by decide
  have e2 : (x <<< (16 : Int32) >>> (16 : Int32)).toBitVec = (x.toBitVec <<< 16).sshiftRight 16 := by
    rw [Int32.toBitVec_shiftRight, Int32.toBitVec_shiftLeft]
    rfl
  rw [e, e2, Int16.toBitVec_toInt32, Int32.toBitVec_toInt16, BitVec.signExtend_eq_setWidth_of_le x.toBitVec (by decide)]
  rw [BitVec.getLsbD_signExtend, BitVec.getLsbD_sshiftRight]
  simp only [BitVec.getLsbD_setWidth, BitVec.getLsbD_shiftLeft, BitVec.msb_setWidth, BitVec.msb_shiftLeft]
  by_cases h : i < 16
  · simp [h, hi, show 16 + i < 32 by omega, show ¬ 16 + i < 16 by omega]
  · simp [h, hi, show ¬ 16 + i < 32 by omega, BitVec.getMsbD]
theorem zb_l64 (x : Int32) : Int64.toInt32 (Int32.toInt64 x) = x := Int32.toInt32_toInt64 x
/-- a sheet that is there -/
theorem zR.sheet (h : zR a b) {j : Nat} (hj : j < 4) : zR_1 a b (65 + 2 * j) j := by
  obtain ⟨f, n, nu, w, ⟨hs, hi, hp, hr, hq, hh, hl, hk⟩, hf⟩ := h
  exact hh j hj
theorem zR.slot (h : zR a b) {j : Nat} (hj : j < 6) : zR_2 a b j := by
  obtain ⟨f, n, nu, w, ⟨hs, hi, hp, hr, hq, hh, hl, hk⟩, hf⟩ := h
  exact hl j hj
theorem zc_mark (x y z : Int32) (h : zR a b) : zC (zx nl 144 0 [z_r 0, z_i x, z_i y, z_i z, none] [] a) (zm 265 0 [z_r 91, z_i x, z_i y, z_i z] [] b) := by
  rw [ex_144_0, em_265_0]
  rcases zb_sgn x with hx | ⟨j, hj, rfl⟩
  · simp only [hx, Bool.false_eq_true, reduceCtorEq, Nat.not_lt_zero, cond_true, cond_false, ↓reduceIte, if_true, if_false, Option.toList_some, Option.toList_none, List.nil_append, List.cons_append, Option.bind_some]; exact zC.same h _
  by_cases h4 : j < 4
  rotate_left
  · simp (disch := omega) only [zb_ltl, zb_llt, zb_eql, zb_leq, nI_ltI, nI_eq, zb_in, nI_clamp, zb_al, zb_la, zb_ml, zb_lm, zb_mul, nI_add, Bool.false_eq_true, reduceCtorEq, Nat.not_lt_zero, cond_true, cond_false, ↓reduceIte, if_true, if_false, Option.toList_some, Option.toList_none, List.nil_append, List.cons_append, Option.bind_some, h4, show 3 < j by omega]; exact zC.same h _
  rw [ex_144_6 _ _ _ (zd_o4 h4), zd_r62 hj]
  rcases h.sheet h4 with ⟨s1, s2⟩ | ⟨s1, ⟨r, hr, s2, s3⟩, ⟨l, hl, s4, s5⟩, s6⟩
  · simp (disch := omega) only [zb_ltl, zb_llt, zb_eql, zb_leq, nI_ltI, nI_eq, zb_in, nI_clamp, zb_al, zb_la, zb_ml, zb_lm, zb_mul, nI_add, Bool.false_eq_true, reduceCtorEq, Nat.not_lt_zero, cond_true, cond_false, ↓reduceIte, if_true, if_false, Option.toList_some, Option.toList_none, List.nil_append, List.cons_append, Option.bind_some, h4, show ¬ 3 < j by omega, s1, s2, show ((-1 : Int32) < 0) = True from eq_true (by decide)]
    exact zC.same h _
  rcases zb_sgn y with hy | ⟨k, hk, rfl⟩
  · simp (disch := omega) only [zb_ltl, zb_llt, zb_eql, zb_leq, nI_ltI, nI_eq, zb_in, nI_clamp, zb_al, zb_la, zb_ml, zb_lm, zb_mul, nI_add, Bool.false_eq_true, reduceCtorEq, Nat.not_lt_zero, cond_true, cond_false, ↓reduceIte, if_true, if_false, Option.toList_some, Option.toList_none, List.nil_append, List.cons_append, Option.bind_some, zb_ll, Nat.reduceEqDiff, h4, show ¬ 3 < j by omega, s1, s3, hy]
    exact zC.same h _
  by_cases hkl : k < l
  rotate_left
  · by_cases c1 : l < k
    · have c2 : nI l - 1 < nI k := by
        rcases Nat.eq_zero_or_pos l with rfl | q
        · exact zb_neg_lt (show (nI 0 - 1 : Int32) < 0 by decide) hk
        · rw [zb_pred q]; exact (nI_ltI (by omega) hk).mpr (by omega)
      simp (disch := omega) only [zb_ltl, zb_llt, zb_eql, zb_leq, nI_ltI, nI_eq, zb_in, nI_clamp, zb_al, zb_la, zb_ml, zb_lm, zb_mul, nI_add, Bool.false_eq_true, reduceCtorEq, Nat.not_lt_zero, cond_true, cond_false, ↓reduceIte, if_true, if_false, Option.toList_some, Option.toList_none, List.nil_append, List.cons_append, Option.bind_some, zb_ll, Nat.reduceEqDiff, h4, show ¬ 3 < j by omega, s1, s3, s4, s5, c1, c2]
      exact zC.same h _
    · have : l = k := by omega
      subst this
      have c2 : nI l - 1 < nI l := by
        rcases Nat.eq_zero_or_pos l with rfl | q
        · decide
        · rw [zb_pred q]; exact (nI_ltI (by omega) hk).mpr (by omega)
      have c3 : (nI l - nI l : Int32) < 1 := by rw [zb_sub (Nat.le_refl _), Nat.sub_self]; decide
      simp (disch := omega) only [zb_ltl, zb_llt, zb_eql, zb_leq, nI_ltI, nI_eq, zb_in, nI_clamp, zb_al, zb_la, zb_ml, zb_lm, zb_mul, nI_add, Bool.false_eq_true, reduceCtorEq, Nat.not_lt_zero, cond_true, cond_false, ↓reduceIte, if_true, if_false, Option.toList_some, Option.toList_none, List.nil_append, List.cons_append, Option.bind_some, zb_ll, Nat.reduceEqDiff, h4, show ¬ 3 < j by omega, s1, s3, s4, s5, c2, c3, Nat.lt_irrefl]
      exact zC.same h _
  have c1 : nI l - 1 = nI (l - 1) := zb_pred (by omega)
  have c2 : nI l - nI k = nI (l - k) := zb_sub (by omega)
  have fin : ∀ v : Int32, zR (zd_ul a (65 + 2 * j + 1) k (Int32.toInt64 v)) (zd_u b 125 (32 * j + k) v) := by
    intro v
    refine h.sh h4 (fun c q => rfl) (fun c q => if_neg q) rfl (fun c q => zb_uc _ _ _ _ (by omega)) (fun i q => by rw [zb_uc _ _ _ _ (by omega)]) (fun i q => by rw [zb_uc _ _ _ _ (by omega)]) (fun i q => zb_ui _ _ _ _ (by omega)) (Or.inr ⟨s1, ⟨r, hr, s2, by rw [zb_uc _ _ _ _ (by omega)]; exact s3⟩, ⟨l, hl, s4, by rw [zb_uc _ _ _ _ (by omega)]; exact s5⟩, fun i hi => ?_⟩)
    rw [zb_ul, zb_u]
    by_cases e : i = k
    · rw [if_pos ⟨rfl, e⟩, if_pos ⟨rfl, by omega⟩]
    · rw [if_neg (fun q => e q.2), if_neg (fun q => e (by omega))]; exact s6 i hi
  simp (disch := omega) only [zb_ltl, zb_llt, zb_eql, zb_leq, nI_ltI, nI_eq, zb_in, nI_clamp, zb_al, zb_la, zb_ml, zb_lm, zb_mul, nI_add, Bool.false_eq_true, reduceCtorEq, Nat.not_lt_zero, cond_true, cond_false, ↓reduceIte, if_true, if_false, Option.toList_some, Option.toList_none, List.nil_append, List.cons_append, Option.bind_some, zb_ll, Nat.reduceEqDiff, h4, show ¬ 3 < j by omega, s1, s2, s3, s4, s5, c1, c2, show ¬ l < k by omega, show ¬ l - k < 1 by omega, show ¬ l - 1 < k by omega]
  by_cases r0 : r = 0
  · simp only [r0, Bool.false_eq_true, reduceCtorEq, Nat.not_lt_zero, cond_true, cond_false, ↓reduceIte, if_true, if_false, Option.toList_some, Option.toList_none, List.nil_append, List.cons_append, Option.bind_some]
    exact ⟨1, _, _, rfl, rfl, by rw [← zb_i8]; exact fin _⟩
  · by_cases r1 : r = 1
    · simp only [r1, Bool.false_eq_true, reduceCtorEq, Nat.not_lt_zero, cond_true, cond_false, ↓reduceIte, if_true, if_false, Option.toList_some, Option.toList_none, List.nil_append, List.cons_append, Option.bind_some, show ¬ (1 : Nat) = 0 by decide]
      exact ⟨1, _, _, rfl, rfl, by rw [← zb_i16]; exact fin _⟩
    · simp only [r0, r1, Bool.false_eq_true, reduceCtorEq, Nat.not_lt_zero, cond_true, cond_false, ↓reduceIte, if_true, if_false, Option.toList_some, Option.toList_none, List.nil_append, List.cons_append, Option.bind_some]
      exact ⟨1, _, _, rfl, rfl, fin _⟩
/-- one place of the fields is written -/
theorem zR.ln (h : zR a b) {p : Nat} (hp : p < 32) (v : Int32) : zR (zd_u a 14 p v) (zd_u b 92 (152 + p) v) := by
  obtain ⟨f, n, nu, w, ⟨⟨s1, s2, s3, s4, s5, s6, s7, ⟨t1, t2, t3⟩, s9⟩, hrr⟩, hf⟩ := h
  have hrr : zRr a b := hrr
  have kk : ∀ c, ¬ c = 14 → (zd_u a 14 p v).1 c = a.1 c := fun c q => zb_uc _ _ _ _ q
  refine zR.mk2 (f := f) (n := n) (nu := nu) (w := w) ⟨s1, s2.u (by omega) _, by rw [kk (1 + 1) (by decide)]; exact s3, s4.c (fun k q1 q2 => kk k (by omega)), s5.c (kk _ (by decide)) (kk _ (by decide)) (kk _ (by decide)) (kk _ (by decide)), s6.c (kk _ (by decide)), s7.u (by omega) _, ⟨?_, ?_, fun i hi => ?_⟩, (s9.c (kk _ (by decide)) (kk _ (by decide)) (kk _ (by decide))).bu (by omega) _⟩ ((hrr.xs (by decide) _ _).m92 _ _) ?_
  · rw [kk 1 (by decide), zb_ui _ _ _ _ (by omega)]; exact t1
  · rw [zb_ui _ _ _ _ (by omega)]; exact t2
  · rw [zb_u, zb_u]
    by_cases e : i = p
    · rw [if_pos ⟨rfl, e⟩, if_pos ⟨rfl, by omega⟩]
    · rw [if_neg (fun q => e q.2), if_neg (fun q => e (by omega))]; exact t3 i hi
  · rw [zb_ui _ _ _ _ (by omega)]
    exact hf.xs (Or.inl (by decide)) _ _
theorem zc_pour (x y z u : Int32) (h : zR a b) : zC (zx nl 147 0 [z_r 0, z_i x, z_i y, z_i z, z_i u, none, none] [] a) (zm 267 0 [z_r 91, z_i x, z_i y, z_i z, z_i u, none] [] b) := by
  rw [ex_147_0, em_267_0]
  rcases zb_sgn x with hx | ⟨j, hj, rfl⟩
  · simp only [hx, Bool.false_eq_true, reduceCtorEq, Nat.not_lt_zero, cond_true, cond_false, ↓reduceIte, if_true, if_false, Option.toList_some, Option.toList_none, List.nil_append, List.cons_append, Option.bind_some]; exact zC.same h _
  by_cases h4 : j < 4
  rotate_left
  · simp (disch := omega) only [zb_ltl, zb_llt, zb_eql, zb_leq, nI_ltI, nI_eq, zb_in, nI_clamp, zb_al, zb_la, zb_ml, zb_lm, zb_mul, nI_add, Bool.false_eq_true, reduceCtorEq, Nat.not_lt_zero, cond_true, cond_false, ↓reduceIte, if_true, if_false, Option.toList_some, Option.toList_none, List.nil_append, List.cons_append, Option.bind_some, h4, show 3 < j by omega]; exact zC.same h _
  rcases zb_sgn z with hx | ⟨p, hp, rfl⟩
  · simp (disch := omega) only [zb_ltl, zb_llt, zb_eql, zb_leq, nI_ltI, nI_eq, zb_in, nI_clamp, zb_al, zb_la, zb_ml, zb_lm, zb_mul, nI_add, Bool.false_eq_true, reduceCtorEq, Nat.not_lt_zero, cond_true, cond_false, ↓reduceIte, if_true, if_false, Option.toList_some, Option.toList_none, List.nil_append, List.cons_append, Option.bind_some, h4, show ¬ 3 < j by omega, hx]; exact zC.same h _
  by_cases hp4 : p < 32
  rotate_left
  · simp (disch := omega) only [zb_ltl, zb_llt, zb_eql, zb_leq, nI_ltI, nI_eq, zb_in, nI_clamp, zb_al, zb_la, zb_ml, zb_lm, zb_mul, nI_add, Bool.false_eq_true, reduceCtorEq, Nat.not_lt_zero, cond_true, cond_false, ↓reduceIte, if_true, if_false, Option.toList_some, Option.toList_none, List.nil_append, List.cons_append, Option.bind_some, h4, show ¬ 3 < j by omega, hp4, show 31 < p by omega]; exact zC.same h _
  rcases zb_sgn u with hx | ⟨c, hc, rfl⟩
  · simp (disch := omega) only [zb_ltl, zb_llt, zb_eql, zb_leq, nI_ltI, nI_eq, zb_in, nI_clamp, zb_al, zb_la, zb_ml, zb_lm, zb_mul, nI_add, Bool.false_eq_true, reduceCtorEq, Nat.not_lt_zero, cond_true, cond_false, ↓reduceIte, if_true, if_false, Option.toList_some, Option.toList_none, List.nil_append, List.cons_append, Option.bind_some, h4, show ¬ 3 < j by omega, hp4, show ¬ 31 < p by omega, hx]; exact zC.same h _
  have e32 : (32 : Int32) - nI p = nI (32 - p) := zb_sub (a := 32) (by omega)
  by_cases hcp : p + c ≤ 32
  rotate_left
  · by_cases c32 : 32 < c
    · simp (disch := omega) only [zb_ltl, zb_llt, zb_eql, zb_leq, nI_ltI, nI_eq, zb_in, nI_clamp, zb_al, zb_la, zb_ml, zb_lm, zb_mul, nI_add, Bool.false_eq_true, reduceCtorEq, Nat.not_lt_zero, cond_true, cond_false, ↓reduceIte, if_true, if_false, Option.toList_some, Option.toList_none, List.nil_append, List.cons_append, Option.bind_some, h4, show ¬ 3 < j by omega, hp4, show ¬ 31 < p by omega, e32, c32, show 32 - p < c by omega]; exact zC.same h _
    · simp (disch := omega) only [zb_ltl, zb_llt, zb_eql, zb_leq, nI_ltI, nI_eq, zb_in, nI_clamp, zb_al, zb_la, zb_ml, zb_lm, zb_mul, nI_add, Bool.false_eq_true, reduceCtorEq, Nat.not_lt_zero, cond_true, cond_false, ↓reduceIte, if_true, if_false, Option.toList_some, Option.toList_none, List.nil_append, List.cons_append, Option.bind_some, h4, show ¬ 3 < j by omega, hp4, show ¬ 31 < p by omega, e32, c32, show 32 - p < c by omega, show 32 < p + c by omega]; exact zC.same h _
  rw [ex_147_18 _ _ _ _ (zd_o4 h4), zd_r62 hj]
  rcases h.sheet h4 with ⟨s1, s2⟩ | ⟨s1, ⟨r, hr, s2, s3⟩, ⟨l, hl, s4, s5⟩, s6⟩
  · simp (disch := omega) only [zb_ltl, zb_llt, zb_eql, zb_leq, nI_ltI, nI_eq, zb_in, nI_clamp, zb_al, zb_la, zb_ml, zb_lm, zb_mul, nI_add, Bool.false_eq_true, reduceCtorEq, Nat.not_lt_zero, cond_true, cond_false, ↓reduceIte, if_true, if_false, Option.toList_some, Option.toList_none, List.nil_append, List.cons_append, Option.bind_some, h4, show ¬ 3 < j by omega, hp4, show ¬ 31 < p by omega, e32, show ¬ 32 < c by omega, show ¬ 32 - p < c by omega, show ¬ 32 < p + c by omega, s1, s2, show ((-1 : Int32) < 0) = True from eq_true (by decide)]
    exact zC.same h _
  rcases zb_sgn y with hy | ⟨k, hk, rfl⟩
  · simp (disch := omega) only [zb_ltl, zb_llt, zb_eql, zb_leq, nI_ltI, nI_eq, zb_in, nI_clamp, zb_al, zb_la, zb_ml, zb_lm, zb_mul, nI_add, Bool.false_eq_true, reduceCtorEq, Nat.not_lt_zero, cond_true, cond_false, ↓reduceIte, if_true, if_false, Option.toList_some, Option.toList_none, List.nil_append, List.cons_append, Option.bind_some, zb_ll, Nat.reduceEqDiff, h4, show ¬ 3 < j by omega, hp4, show ¬ 31 < p by omega, e32, show ¬ 32 < c by omega, show ¬ 32 - p < c by omega, show ¬ 32 < p + c by omega, s1, s3, hy]
    exact zC.same h _
  by_cases hkl : k + c ≤ l
  rotate_left
  · have c2 : nI l - nI c < nI k := (zb_sub_lt (by omega) hc hk).mpr (by omega)
    by_cases c1 : l < k
    · simp (disch := omega) only [zb_ltl, zb_llt, zb_eql, zb_leq, nI_ltI, nI_eq, zb_in, nI_clamp, zb_al, zb_la, zb_ml, zb_lm, zb_mul, nI_add, Bool.false_eq_true, reduceCtorEq, Nat.not_lt_zero, cond_true, cond_false, ↓reduceIte, if_true, if_false, Option.toList_some, Option.toList_none, List.nil_append, List.cons_append, Option.bind_some, zb_ll, Nat.reduceEqDiff, h4, show ¬ 3 < j by omega, hp4, show ¬ 31 < p by omega, e32, show ¬ 32 < c by omega, show ¬ 32 - p < c by omega, show ¬ 32 < p + c by omega, s1, s3, s4, s5, c1, c2]
      exact zC.same h _
    · simp (disch := omega) only [zb_ltl, zb_llt, zb_eql, zb_leq, nI_ltI, nI_eq, zb_in, nI_clamp, zb_al, zb_la, zb_ml, zb_lm, zb_mul, nI_add, Bool.false_eq_true, reduceCtorEq, Nat.not_lt_zero, cond_true, cond_false, ↓reduceIte, if_true, if_false, Option.toList_some, Option.toList_none, List.nil_append, List.cons_append, Option.bind_some, zb_ll, Nat.reduceEqDiff, h4, show ¬ 3 < j by omega, hp4, show ¬ 31 < p by omega, e32, show ¬ 32 < c by omega, show ¬ 32 - p < c by omega, show ¬ 32 < p + c by omega, s1, s3, s4, s5, c1, c2, zb_sub (show k ≤ l by omega), show l - k < c by omega]
      exact zC.same h _
  simp (disch := omega) only [zb_ltl, zb_llt, zb_eql, zb_leq, nI_ltI, nI_eq, zb_in, nI_clamp, zb_al, zb_la, zb_ml, zb_lm, zb_mul, nI_add, Bool.false_eq_true, reduceCtorEq, Nat.not_lt_zero, cond_true, cond_false, ↓reduceIte, if_true, if_false, Option.toList_some, Option.toList_none, List.nil_append, List.cons_append, Option.bind_some, zb_ll, Nat.reduceEqDiff, h4, show ¬ 3 < j by omega, hp4, show ¬ 31 < p by omega, e32, show ¬ 32 < c by omega, show ¬ 32 - p < c by omega, show ¬ 32 < p + c by omega, s1, s3, s4, s5, show ¬ l < k by omega, zb_sub (show k ≤ l by omega), zb_sub (show c ≤ l by omega), show ¬ l - k < c by omega, show ¬ l - c < k by omega]
  have hc : 65 + 2 * j = 65 ∨ 65 + 2 * j = 67 ∨ 65 + 2 * j = 69 ∨ 65 + 2 * j = 71 := by omega
  refine zl_lk (F := fun t d => zx nl 147 38 [z_r 0, none, z_i (nI k), z_i (nI p), z_i (nI c), z_r (65 + 2 * j), z_i (nI t)] [] d) (G := fun t d => zm 267 42 [z_r 91, z_i (nI j), z_i (nI k), z_i (nI p), z_i (nI c), z_i (nI t)] [] d) (I := fun t a b => zR a b ∧ ∀ i, i < 32 → a.2.1 (65 + 2 * j + 1) i = (b.1 125 (32 * j + i)).toInt64) (n := c) (fun t a b ht hI => ?_) (fun a b hI => ?_) 0 a b (by omega) ⟨h, s6⟩
  · refine ⟨_, _, ⟨hI.1.ln (p := p + t) (by omega) (b.1 125 (32 * j + (k + t))), ?_⟩, ?_, ?_⟩
    · intro i hi
      rw [zb_u2, zb_uc _ _ _ _ (by decide)]
      exact hI.2 i hi
    · (try dsimp only)
      rw [ex_147_38 _ _ _ _ _ hc]
      simp (disch := omega) only [zb_ltl, zb_llt, zb_eql, zb_leq, nI_ltI, nI_eq, zb_in, nI_clamp, zb_al, zb_la, zb_ml, zb_lm, zb_mul, nI_add, Bool.false_eq_true, reduceCtorEq, Nat.not_lt_zero, cond_true, cond_false, ↓reduceIte, if_true, if_false, Option.toList_some, Option.toList_none, List.nil_append, List.cons_append, Option.bind_some, ht, hI.2 (k + t) (by omega), zb_l64]
    · (try dsimp only)
      rw [em_267_42]
      simp (disch := omega) only [zb_ltl, zb_llt, zb_eql, zb_leq, nI_ltI, nI_eq, zb_in, nI_clamp, zb_al, zb_la, zb_ml, zb_lm, zb_mul, nI_add, Bool.false_eq_true, reduceCtorEq, Nat.not_lt_zero, cond_true, cond_false, ↓reduceIte, if_true, if_false, Option.toList_some, Option.toList_none, List.nil_append, List.cons_append, Option.bind_some, ht, show 32 * j + k + t = 32 * j + (k + t) by omega, show 152 + p + t = 152 + (p + t) by omega]
  · (try dsimp only)
    rw [ex_147_38 _ _ _ _ _ hc, em_267_42]
    simp (disch := omega) only [zb_ltl, zb_llt, zb_eql, zb_leq, nI_ltI, nI_eq, zb_in, nI_clamp, zb_al, zb_la, zb_ml, zb_lm, zb_mul, nI_add, Bool.false_eq_true, reduceCtorEq, Nat.not_lt_zero, cond_true, cond_false, ↓reduceIte, if_true, if_false, Option.toList_some, Option.toList_none, List.nil_append, List.cons_append, Option.bind_some, Nat.lt_irrefl]
    exact zC.same hI.1 _
end ZSheets
