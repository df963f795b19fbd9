/-! ===== calls: orders are told, go, and are told their places; locks ===== -/
theorem zb_34 (x : Int32) : (3 < x) ↔ ¬ x < 4 := by
  rw [Int32.lt_iff_toInt_lt, Int32.lt_iff_toInt_lt, show (3 : Int32).toInt = 3 by decide, show (4 : Int32).toInt = 4 by decide]; omega
theorem zb_2829 (x : Int32) : (28 < x) ↔ ¬ x < 29 := by
  rw [Int32.lt_iff_toInt_lt, Int32.lt_iff_toInt_lt, show (28 : Int32).toInt = 28 by decide, show (29 : Int32).toInt = 29 by decide]; omega
theorem zb_3132 (x : Int32) : (31 < x) ↔ ¬ x < 32 := by
  rw [Int32.lt_iff_toInt_lt, Int32.lt_iff_toInt_lt, show (31 : Int32).toInt = 31 by decide, show (32 : Int32).toInt = 32 by decide]; omega
def zs_okb (k a b c : Int32) : Bool := decide ((¬ a < 0 ∧ a < 4) ∧ ((k = 0 ∧ (¬ b < 0 ∧ b < 4) ∧ ¬ c < -999 ∧ ¬ 999 < c) ∨ ((k = 1 ∨ k = 2) ∧ ((b = 4 ∧ ¬ c < 0 ∧ c < 32) ∨ (¬ b = 4 ∧ (¬ b < 0 ∧ b < 4) ∧ ¬ c < -999 ∧ ¬ 999 < c))) ∨ (k = 3 ∧ (¬ b < 0 ∧ b < 29) ∧ ¬ c < -999 ∧ ¬ 999 < c) ∨ (k = 4 ∧ (¬ b < 0 ∧ b < 29) ∧ c = 0) ∨ ((k = 5 ∨ k = 6) ∧ (¬ b < 0 ∧ b < 4) ∧ ¬ c < 0 ∧ c < 4) ∨ (k = 7 ∧ b = 0 ∧ c = 0)))
theorem zs_mach_c {f g : zF} (h : ∀ i, i < 8 → g i = f i) (q : zs_mach f) : zs_mach g := by
  unfold zs_mach at q ⊢
  rw [h 0 (by omega), h 1 (by omega), h 2 (by omega), h 3 (by omega), h 4 (by omega), h 5 (by omega), h 6 (by omega), h 7 (by omega)]
  exact q
theorem zb_reg {x : Int32} {m : Nat} (hm : m < 2 ^ 31) (h0 : ¬ x < 0) (h : x < nI m) : ∃ r, r < m ∧ x = nI r := by
  obtain ⟨j, hj, rfl⟩ := zb_nat h0
  rw [nI_ltI hj hm] at h
  exact ⟨j, h, rfl⟩
theorem zs_okb_good {k a b c : Int32} (h : zs_okb k a b c = true) : zs_good k a b c := by
  have h := of_decide_eq_true h
  obtain ⟨⟨a1, a2⟩, h⟩ := h
  refine ⟨zb_reg (m := 4) (by decide) a1 a2, ?_⟩
  rcases h with ⟨h, ⟨b1, b2⟩, _⟩ | ⟨h, ⟨b1, c1, c2⟩ | ⟨_, ⟨b1, b2⟩, _⟩⟩ | ⟨h, ⟨b1, b2⟩, _⟩ | ⟨h, ⟨b1, b2⟩, _⟩ | ⟨h, ⟨b1, b2⟩, c1, c2⟩ | ⟨h, b1, c1⟩
  · exact Or.inl ⟨h, zb_reg (m := 4) (by decide) b1 b2⟩
  · exact Or.inr (Or.inl ⟨h, Or.inr ⟨b1, zb_reg (m := 32) (by decide) c1 c2⟩⟩)
  · exact Or.inr (Or.inl ⟨h, Or.inl (zb_reg (m := 4) (by decide) b1 b2)⟩)
  · obtain ⟨r, hr, e⟩ := zb_reg (m := 29) (by decide) b1 b2
    exact Or.inr (Or.inr (Or.inl ⟨Or.inl h, r, by omega, e⟩))
  · obtain ⟨r, hr, e⟩ := zb_reg (m := 29) (by decide) b1 b2
    exact Or.inr (Or.inr (Or.inl ⟨Or.inr h, r, by omega, e⟩))
  · exact Or.inr (Or.inr (Or.inr (Or.inl ⟨h, zb_reg (m := 4) (by decide) b1 b2, zb_reg (m := 4) (by decide) c1 c2⟩)))
  · exact Or.inr (Or.inr (Or.inr (Or.inr ⟨h, b1⟩)))
theorem zs_okb_kinds {k a b c : Int32} (h : zs_okb k a b c = true) : k = 0 ∨ k = 1 ∨ k = 2 ∨ k = 3 ∨ k = 4 ∨ k = 5 ∨ k = 6 ∨ k = 7 := (zs_okb_good h).kinds
section ZcProg
variable {nl : Int32} {a b : zd_D} {f f' : zF} {n n' w : Nat} {nu : Nat → Nat}
set_option maxHeartbeats 2000000 in
theorem rx_right (k x y z : Int32) : zx nl 41 0 [z_i k, z_i x, z_i y, z_i z] [] a = some (some (.inl (if zs_okb k x y z = true then 1 else 0)), a) := by
  rw [ex_41_0]
  unfold zs_okb
  simp only [decide_eq_true_eq]
  by_cases hx0 : x < 0
  · simp only [hx0, Bool.false_eq_true, reduceCtorEq, Nat.not_lt_zero, cond_true, cond_false, ↓reduceIte, if_true, if_false, Option.toList_some, Option.toList_none, List.nil_append, List.cons_append, Option.bind_some, not_true_eq_false, false_and]
  by_cases hx4 : x < 4
  · simp only [hx0, hx4, Bool.false_eq_true, reduceCtorEq, Nat.not_lt_zero, cond_true, cond_false, ↓reduceIte, if_true, if_false, Option.toList_some, Option.toList_none, List.nil_append, List.cons_append, Option.bind_some, not_false_eq_true, true_and, and_self]
    grind (splits := 40)
  · simp only [hx0, hx4, Bool.false_eq_true, reduceCtorEq, Nat.not_lt_zero, cond_true, cond_false, ↓reduceIte, if_true, if_false, Option.toList_some, Option.toList_none, List.nil_append, List.cons_append, Option.bind_some, not_false_eq_true, and_false, false_and]
set_option maxHeartbeats 4000000 in
theorem rm_right (k x y z : Int32) : zm 183 0 [z_i k, z_i x, z_i y, z_i z] [] b = some (some (.inl (if zs_okb k x y z = true then 1 else 0)), b) := by
  rw [em_183_0]
  unfold zs_okb
  simp only [decide_eq_true_eq, zb_34, zb_2829, zb_3132]
  by_cases hx0 : x < 0
  · simp only [hx0, Bool.false_eq_true, reduceCtorEq, Nat.not_lt_zero, cond_true, cond_false, ↓reduceIte, if_true, if_false, Option.toList_some, Option.toList_none, List.nil_append, List.cons_append, Option.bind_some, not_true_eq_false, false_and]
  by_cases hx4 : x < 4
  · simp only [hx0, hx4, Bool.false_eq_true, reduceCtorEq, Nat.not_lt_zero, cond_true, cond_false, ↓reduceIte, if_true, if_false, Option.toList_some, Option.toList_none, List.nil_append, List.cons_append, Option.bind_some, not_false_eq_true, not_true_eq_false, true_and, and_self]
    by_cases hy4 : y = 4
    · subst hy4
      simp only [show ¬ (4 : Int32) < 0 by decide, show ¬ (4 : Int32) < 4 by decide, show (4 : Int32) < 29 by decide, show ¬ (4 : Int32) = 0 by decide, Bool.false_eq_true, reduceCtorEq, Nat.not_lt_zero, cond_true, cond_false, ↓reduceIte, if_true, if_false, Option.toList_some, Option.toList_none, List.nil_append, List.cons_append, Option.bind_some, not_false_eq_true, not_true_eq_false, true_and, false_and, and_false, or_false, false_or, and_true]
      grind (splits := 40)
    · simp only [hy4, Bool.false_eq_true, reduceCtorEq, Nat.not_lt_zero, cond_true, cond_false, ↓reduceIte, if_true, if_false, Option.toList_some, Option.toList_none, List.nil_append, List.cons_append, Option.bind_some, false_and, false_or, not_false_eq_true, true_and]
      grind (splits := 40)
  · simp only [hx0, hx4, Bool.false_eq_true, reduceCtorEq, Nat.not_lt_zero, cond_true, cond_false, ↓reduceIte, if_true, if_false, Option.toList_some, Option.toList_none, List.nil_append, List.cons_append, Option.bind_some, not_false_eq_true, and_false, false_and]
theorem rm_forget : ∃ b1, zm 186 0 [z_r 91, none] [] b = some (none, b1) ∧ (∀ c, ¬ c = 92 → ¬ c = 91 → b1.1 c = b.1 c) ∧ (∀ i, ¬ i = 19 → b1.1 91 i = b.1 91 i) ∧ b1.1 91 19 = 0 ∧ (∀ i, i < 200 → b1.1 92 i = b.1 92 i) ∧ ∀ e, e < 820 → b1.1 92 (200 + e) = 0 := by
  rw [em_186_0]
  have key := zl_up (F := fun i c => zm 186 3 [z_r 91, z_i (nI i)] [] c) (n := 820) (I := fun i c => (∀ k, ¬ k = 92 → c.1 k = b.1 k) ∧ (∀ j, j < 200 → c.1 92 j = b.1 92 j) ∧ ∀ e, e < i → c.1 92 (200 + e) = 0) (Q := fun v b1 => v = none ∧ (∀ c, ¬ c = 92 → ¬ c = 91 → b1.1 c = b.1 c) ∧ (∀ i, ¬ i = 19 → b1.1 91 i = b.1 91 i) ∧ b1.1 91 19 = 0 ∧ (∀ i, i < 200 → b1.1 92 i = b.1 92 i) ∧ ∀ e, e < 820 → b1.1 92 (200 + e) = 0)
    (by
      rintro i c hi ⟨h1, h2, h3⟩
      left
      try dsimp only
      rw [em_186_3]
      simp (disch := omega) only [zb_ltl, zb_llt, zb_eql, zb_leq, nI_ltI, nI_eq, zb_in, nI_clamp, zb_al, zb_la, zb_ml, zb_lm, zb_mul, nI_add, Bool.false_eq_true, reduceCtorEq, Nat.not_lt_zero, cond_true, cond_false, ↓reduceIte, if_true, if_false, Option.toList_some, Option.toList_none, List.nil_append, List.cons_append, Option.bind_some, hi]
      refine ⟨_, ⟨fun k hk => (zb_uc _ _ _ _ hk).trans (h1 k hk), fun j hj => (zb_ui _ _ _ _ (by omega)).trans (h2 j hj), fun e he => ?_⟩, rfl⟩
      by_cases hei : e = i
      · subst hei; exact zb_ue _ _ _ _
      · rw [zb_ui _ _ _ _ (by omega)]; exact h3 e (by omega))
    (by
      rintro c ⟨h1, h2, h3⟩
      try dsimp only
      rw [em_186_3]
      simp (disch := omega) only [zb_ltl, zb_llt, zb_eql, zb_leq, nI_ltI, nI_eq, zb_in, nI_clamp, zb_al, zb_la, zb_ml, zb_lm, zb_mul, nI_add, Bool.false_eq_true, reduceCtorEq, Nat.not_lt_zero, cond_true, cond_false, ↓reduceIte, if_true, if_false, Option.toList_some, Option.toList_none, List.nil_append, List.cons_append, Option.bind_some, Nat.lt_irrefl]
      refine zw_ret ⟨rfl, fun k q1 q2 => (zb_uc _ _ _ _ q2).trans (h1 k q1), fun i hi => (zb_ui _ _ _ _ hi).trans (by rw [h1 91 (by decide)]), zb_ue _ _ _ _, fun i hi => ?_, fun e he => ?_⟩
      · rw [zb_uc _ _ _ _ (by decide)]; exact h2 i hi
      · rw [zb_uc _ _ _ _ (by decide)]; exact h3 e he)
    0 b (Nat.zero_le _) ⟨fun _ _ => rfl, fun _ _ => rfl, fun e he => absurd he (Nat.not_lt_zero e)⟩
  obtain ⟨v, d, e, hv, h⟩ := key
  subst hv
  exact ⟨d, e, h⟩
/-- the program is another one -/
theorem zx_reprog (hs : zS 1 92 a b f n nu w) (hrr : zRr a b) (hb : zBf a) (hW : zW f' n') {a0 b0 : zd_D} (hk : ∀ c, ¬ (3 ≤ c ∧ c ≤ 9) → a0.1 c = a.1 c) (h2 : a0.2 = a.2) (hA : zAo 3 a0 f' n') (hm : ∀ i, i < 8 → f' i = f i) (hkb : ∀ c, ¬ c = 92 → b0.1 c = b.1 c) (hkc : ∀ i, (i = 9 ∨ i = 10 ∨ 152 ≤ i) → b0.1 92 i = b.1 92 i) (hV : zV 92 b0 f') :
    ∃ a1 b1, zx nl 48 0 [z_r 3, none] [] a0 = some (none, a1) ∧ zm 186 0 [z_r 91, none] [] b0 = some (none, b1) ∧ a1.1 3 0 = nI n' ∧ zR (zd_u (zd_u (zd_u a1 0 9 0) 0 10 0) 45 0 0) b1 := by
  have hn := hW.le
  have hB := zs_B812 (f := f') hn (Nat.le_refl n')
  obtain ⟨a1, e1, k1, hE1, hN1⟩ := rx_edges (nl := nl) (Or.inl rfl) hW hA
  obtain ⟨b1, e2, m1, m2, m3, m4, m5⟩ := rm_forget (b := b0)
  obtain ⟨s1, s2, s3, s4, s5, s6, s7, ⟨t1, t2, t3⟩, ⟨⟨w1, w2, w3⟩, w4⟩⟩ := hs
  have ka : ∀ c, ¬ (3 ≤ c ∧ c ≤ 13) → ¬ c = 0 → ¬ c = 45 → (zd_u (zd_u (zd_u a1 0 9 0) 0 10 0) 45 0 0).1 c = a.1 c := fun c q1 q2 q3 => by
    rw [zb_uc _ _ _ _ q3, zb_uc _ _ _ _ q2, zb_uc _ _ _ _ q2, k1.1 c (by omega) (by omega), hk c (by omega)]
  have kp : ∀ c, 3 ≤ c → c ≤ 13 → (zd_u (zd_u (zd_u a1 0 9 0) 0 10 0) 45 0 0).1 c = a1.1 c := fun c q1 q2 => by
    rw [zb_uc _ _ _ _ (by omega), zb_uc _ _ _ _ (by omega), zb_uc _ _ _ _ (by omega)]
  have k0 : ∀ i, ¬ i = 9 → ¬ i = 10 → (zd_u (zd_u (zd_u a1 0 9 0) 0 10 0) 45 0 0).1 0 i = a.1 0 i := fun i q1 q2 => by
    rw [zb_uc _ _ _ _ (by decide), zb_ui _ _ _ _ q2, zb_ui _ _ _ _ q1, k1.1 0 (by decide) (by decide), hk 0 (by omega)]
  have hA1 : zAo 3 a1 f' n' := hA.ke k1
  have mb : ∀ c, ¬ c = 92 → ¬ c = 91 → b1.1 c = b.1 c := fun c q1 q2 => (m1 c q1 q2).trans (hkb c q1)
  have m91 : ∀ i, ¬ i = 19 → b1.1 91 i = b.1 91 i := fun i q => (m2 i q).trans (by rw [hkb 91 (by decide)])
  have mc : ∀ i, (i = 9 ∨ i = 10 ∨ 152 ≤ i ∧ i < 200) → b1.1 92 i = b.1 92 i := fun i q => (m4 i (by omega)).trans (hkc i (by omega))
  have h2' : (zd_u (zd_u (zd_u a1 0 9 0) 0 10 0) 45 0 0).2 = a.2 := by
    show a1.2 = a.2
    rw [k1.2.2, h2]
  refine ⟨a1, b1, e1, e2, ?_, zR.mk2 (f := f') (n := n') (nu := fun _ => 0) (w := w) ⟨hW, fun i q1 q2 q3 => (m4 i (by omega)).trans (hV i q1 q2 q3), ?_, hA1.c (fun k q1 q2 => kp k (by omega) (by omega)), hE1.c (kp _ (by decide) (by decide)) (kp _ (by decide) (by decide)) (kp _ (by decide) (by decide)) (kp _ (by decide) (by decide)), ?_, ?_, ⟨?_, ?_, fun i hi => ?_⟩, ⟨⟨?_, ?_, w3⟩, fun i hi => ?_⟩⟩ ?_ (zR_f.no ?_ ?_ (hb.x ?_ (by rw [h2'])))⟩
  · rw [k1.2.1 0 (by decide)]; exact hA.1
  · intro i hi
    rw [ka 2 (by decide) (by decide) (by decide), hm i hi]
    exact s3 i hi
  · intro e he
    (try dsimp only)
    rw [show (1 : Nat) + 2 + 10 = 13 from rfl, kp 13 (by decide) (by decide)]
    exact ⟨hN1 e he, by decide, fun q => absurd q (by decide)⟩
  · intro e he
    exact m5 e (by omega)
  · rw [ka 1 (by decide) (by decide) (by decide), mc 9 (by omega)]; exact t1
  · rw [mc 9 (by omega)]; exact t2
  · rw [ka (1 + 13) (by decide) (by decide) (by decide), mc (152 + i) (by omega)]; exact t3 i hi
  · rw [ka (1 + 14) (by decide) (by decide) (by decide)]; exact w1
  · rw [mc 10 (by omega)]; exact w2
  · rw [ka (1 + 15) (by decide) (by decide) (by decide), ka (1 + 16) (by decide) (by decide) (by decide), mc (184 + 2 * i) (by omega), mc (185 + 2 * i) (by omega)]; exact w4 i hi
  · obtain ⟨hi, hp, hr, hq, hh, hl, hkk⟩ := hrr
    refine ⟨(hi.x (k0 2 (by decide) (by decide)) (fun c q1 q2 => ka c (by omega) (by omega) (by omega))).m (m91 2 (by decide)) (mb 93 (by decide) (by decide)), (hp.x (by rw [ka 35 (by decide) (by decide) (by decide)]) (ka _ (by decide) (by decide) (by decide))).m (m91 4 (by decide)) (mb _ (by decide) (by decide)), Or.inl ⟨zb_ue _ _ _ _, m3⟩, (hq.x (k0 14 (by decide) (by decide)) (ka _ (by decide) (by decide) (by decide))).m (m91 53 (by decide)) (mb _ (by decide) (by decide)), (hh.x (fun c q1 q2 => ka c (by omega) (by omega) (by omega)) (by rw [h2'])).m (mb _ (by decide) (by decide)) (mb _ (by decide) (by decide)) (mb _ (by decide) (by decide)), (hl.x (fun c q1 q2 => ka c (by omega) (by omega) (by omega)) (by rw [h2'])).m (mb _ (by decide) (by decide)) (mb _ (by decide) (by decide)) (mb _ (by decide) (by decide)) (mb _ (by decide) (by decide)) (mb _ (by decide) (by decide)), hkk.m (m91 38 (by decide)) (mb _ (by decide) (by decide)) (mb _ (by decide) (by decide))⟩
  · rw [zb_uc _ _ _ _ (by decide), zb_ui _ _ _ _ (by decide), zb_ue]
  · rw [zb_uc _ _ _ _ (by decide), zb_ue]
  · exact ka 60 (by decide) (by decide) (by decide)
theorem zc_clear (h : zR a b) : zC (zx nl 52 0 [z_r 0, none] [] a) (zm 187 0 [z_r 91, none] [] b) := by
  obtain ⟨f, n, nu, w, h0, hf⟩ := h
  have hW : zW (fun i => if i = 8 then nI 0 else f i) 0 := by
    obtain ⟨q1, q2, q3, q4⟩ := h0.W
    exact ⟨if_pos rfl, by omega, q3, fun k hk => absurd hk (Nat.not_lt_zero k)⟩
  obtain ⟨a1, b1, e1, e2, e3, hz⟩ := zx_reprog (nl := nl) (f' := fun i => if i = 8 then nI 0 else f i) (n' := 0) (a0 := zd_u a 3 0 0) (b0 := zd_u b 92 8 0) h0.1 h0.2 hf.2.2 hW (fun c q => zb_uc _ _ _ _ (by omega)) rfl ⟨zb_ue _ _ _ _, fun k hk => absurd hk (Nat.not_lt_zero k)⟩ (fun i hi => if_neg (by omega)) (fun c q => zb_uc _ _ _ _ q) (fun i hi => zb_ui _ _ _ _ (by omega)) (fun i q1 q2 q3 => by
    (try dsimp only)
    by_cases h8 : i = 8
    · subst h8; rw [zb_ue, if_pos rfl]; rfl
    · rw [zb_ui _ _ _ _ h8, if_neg h8]; exact h0.V i q1 q2 q3)
  rw [ex_52_0, em_187_0, e2, ex_53_0, e1]
  simp only [Bool.false_eq_true, reduceCtorEq, Nat.not_lt_zero, cond_true, cond_false, ↓reduceIte, if_true, if_false, Option.toList_some, Option.toList_none, List.nil_append, List.cons_append, Option.bind_some]
  rw [ex_53_5, em_187_12]
  simp only [Bool.false_eq_true, reduceCtorEq, Nat.not_lt_zero, cond_true, cond_false, ↓reduceIte, if_true, if_false, Option.toList_some, Option.toList_none, List.nil_append, List.cons_append, Option.bind_some]
  rw [ex_52_9, h0.V.sz h0.W, show a.1 3 0 = nI n from h0.P.1.1]
  exact ⟨_, _, _, rfl, rfl, hz⟩
theorem zc_places (x y : Int32) (h : zR a b) : zC (zx nl 75 0 [z_r 0, z_i x, z_i y, none] [] a) (zm 210 0 [z_r 91, z_i x, z_i y, none] [] b) := by
  have hz := h
  obtain ⟨f, n, nu, w, h0, hf⟩ := h
  have hn := h0.W.le
  rw [ex_75_0, em_210_0, h0.V.sz h0.W, show a.1 3 0 = nI n from h0.P.1.1]
  rcases zb_sgn x with hx | ⟨j, hj, rfl⟩
  · simp only [hx, Bool.false_eq_true, reduceCtorEq, Nat.not_lt_zero, cond_true, cond_false, ↓reduceIte, if_true, if_false, Option.toList_some, Option.toList_none, List.nil_append, List.cons_append, Option.bind_some]
    exact zC.same hz _
  by_cases hjn : j < n
  · rcases zb_sgn y with hy | ⟨l, hl, rfl⟩
    · simp (disch := omega) only [zb_ltl, zb_llt, zb_eql, zb_leq, nI_ltI, nI_eq, zb_in, nI_clamp, zb_al, zb_la, zb_ml, zb_lm, zb_mul, nI_add, Bool.false_eq_true, reduceCtorEq, Nat.not_lt_zero, cond_true, cond_false, ↓reduceIte, if_true, if_false, Option.toList_some, Option.toList_none, List.nil_append, List.cons_append, Option.bind_some, zb_pl, hjn, show ¬ n < j + 1 by omega, hy]
      exact zC.same hz _
    have hsh : (nI l >>> ((29 : Int32) &&& 31) = 0) ↔ l < 536870912 := by
      rw [show (29 : Int32) = nI 29 from rfl, zb_sr hl (by decide), show (0 : Int32) = nI 0 from rfl, nI_eq (Nat.lt_of_le_of_lt (Nat.div_le_self _ _) hl) (by decide)]
      omega
    have g1 : a.1 4 j = f (12 + 4 * j) := (h0.P.1.2 j hjn).1
    have g5 : a.1 8 j = f (124 + j) := (h0.P.1.2 j hjn).2.2.2.2.1
    by_cases hl29 : l < 536870912
    · simp (disch := omega) only [zb_ltl, zb_llt, zb_eql, zb_leq, nI_ltI, nI_eq, zb_in, nI_clamp, zb_al, zb_la, zb_ml, zb_lm, zb_mul, nI_add, Bool.false_eq_true, reduceCtorEq, Nat.not_lt_zero, cond_true, cond_false, ↓reduceIte, if_true, if_false, Option.toList_some, Option.toList_none, List.nil_append, List.cons_append, Option.bind_some, zb_pl, hjn, show ¬ n < j + 1 by omega, hl29, hsh, g1, g5, h0.V.o0 h0.W hjn, h0.V.pl h0.W hjn]
      by_cases h7 : f (12 + 4 * j) = 7
      · simp only [h7, Bool.false_eq_true, reduceCtorEq, Nat.not_lt_zero, cond_true, cond_false, ↓reduceIte, if_true, if_false, Option.toList_some, Option.toList_none, List.nil_append, List.cons_append, Option.bind_some]
        have hW : zW (fun i => if i = 124 + j then nI l else f i) n := by
          obtain ⟨q1, q2, q3, q4⟩ := h0.W
          have hlow : ∀ i, i < 124 → (if i = 124 + j then nI l else f i) = f i := fun i hi => if_neg (by omega)
          refine ⟨(hlow 8 (by omega)).trans q1, q2, ?_, fun k hk => ?_⟩
          · exact zs_mach_c (fun i hi => hlow i (by omega)) q3
          · (try dsimp only)
            rw [hlow _ (by omega), hlow _ (by omega), hlow _ (by omega), hlow _ (by omega)]
            refine ⟨(q4 k hk).1, ?_⟩
            by_cases hkj : k = j
            · subst hkj; rw [if_pos rfl]; exact ⟨l, by omega, rfl⟩
            · rw [if_neg (by omega)]; exact (q4 k hk).2
        obtain ⟨a1, b1, e1, e2, e3, hz1⟩ := zx_reprog (nl := nl) (f' := fun i => if i = 124 + j then nI l else f i) (n' := n) (a0 := zd_u a 8 j (nI l)) (b0 := zd_u b 92 (124 + j) (nI l)) h0.1 h0.2 hf.2.2 hW (fun c q => zb_uc _ _ _ _ (by omega)) rfl ⟨by rw [zb_uc _ _ _ _ (by decide)]; exact h0.P.1.1, fun k hk => by
          have hlow : ∀ i, i < 124 → (if i = 124 + j then nI l else f i) = f i := fun i hi => if_neg (by omega)
          obtain ⟨p1, p2, p3, p4, p5, p6⟩ := h0.P.1.2 k hk
          have hlk : zs_ln (fun i => if i = 124 + j then nI l else f i) k = zs_ln f k := by
            unfold zs_ln
            (try dsimp only)
            rw [hlow _ (by omega), hlow _ (by omega), hlow _ (by omega)]
          rw [hlk]
          (try dsimp only)
          rw [hlow _ (by omega), hlow _ (by omega), hlow _ (by omega), hlow _ (by omega), zb_uc _ _ _ _ (by decide), zb_uc _ _ _ _ (by decide), zb_uc _ _ _ _ (by decide), zb_uc _ _ _ _ (by decide), zb_uc _ _ _ _ (show 3 + 6 ≠ 8 by decide)]
          refine ⟨p1, p2, p3, p4, ?_, p6⟩
          by_cases hkj : k = j
          · subst hkj; rw [if_pos rfl]; exact zb_ue _ _ _ _
          · rw [if_neg (by omega), show 3 + 5 = 8 from rfl, zb_ui _ _ _ _ hkj]; exact p5⟩ (fun i hi => if_neg (by omega)) (fun c q => zb_uc _ _ _ _ q) (fun i hi => zb_ui _ _ _ _ (by omega)) (fun i q1 q2 q3 => by
          (try dsimp only)
          by_cases h8 : i = 124 + j
          · subst h8; rw [zb_ue, if_pos rfl]
          · rw [zb_ui _ _ _ _ h8, if_neg h8]; exact h0.V i q1 q2 q3)
        rw [e1, e2]
        simp only [Bool.false_eq_true, reduceCtorEq, Nat.not_lt_zero, cond_true, cond_false, ↓reduceIte, if_true, if_false, Option.toList_some, Option.toList_none, List.nil_append, List.cons_append, Option.bind_some]
        rw [ex_75_39, em_210_35]
        exact ⟨_, _, _, rfl, rfl, hz1⟩
      · simp only [h7, Bool.false_eq_true, reduceCtorEq, Nat.not_lt_zero, cond_true, cond_false, ↓reduceIte, if_true, if_false, Option.toList_some, Option.toList_none, List.nil_append, List.cons_append, Option.bind_some]
        exact zC.same hz _
    · simp (disch := omega) only [zb_ltl, zb_llt, zb_eql, zb_leq, nI_ltI, nI_eq, zb_in, nI_clamp, zb_al, zb_la, zb_ml, zb_lm, zb_mul, nI_add, Bool.false_eq_true, reduceCtorEq, Nat.not_lt_zero, cond_true, cond_false, ↓reduceIte, if_true, if_false, Option.toList_some, Option.toList_none, List.nil_append, List.cons_append, Option.bind_some, zb_pl, hjn, show ¬ n < j + 1 by omega, hl29, hsh]
      exact zC.same hz _
  · simp (disch := omega) only [zb_ltl, zb_llt, zb_eql, zb_leq, nI_ltI, nI_eq, zb_in, nI_clamp, zb_al, zb_la, zb_ml, zb_lm, zb_mul, nI_add, Bool.false_eq_true, reduceCtorEq, Nat.not_lt_zero, cond_true, cond_false, ↓reduceIte, if_true, if_false, Option.toList_some, Option.toList_none, List.nil_append, List.cons_append, Option.bind_some, zb_pl, hjn, show n < j + 1 by omega]
    exact zC.same hz _
end ZcProg
