/-! ===== calls: shared; a bound if other lines were locked ===== -/
section ZShared
variable {nl : Int32} {a a' b b' : zd_D} {f : zF} {n w : Nat} {nu : Nat → Nat}
theorem rx_boundif (h : zR0 a b f n nu w) (hb : zBf a) (lk : Int32) {ms : Nat} (hms : ms < 2000) : ∃ a', zx nl 132 0 [z_r 0, z_i lk, z_i (nI ms)] [] a = some (some (.inl (zs_bd f n (zs_ec f n lk ms) nu)), a') ∧ zCx a a' ∧ zBf a' ∧ a'.1 0 9 = 0 ∧ a'.1 0 10 = 0 := by
  rw [ex_132_0]
  obtain ⟨a1, e1, k1, hF1⟩ := rx_settle (nl := nl) h.W h.P lk ms
  have hc : ∀ c, ¬ (53 ≤ c ∧ c ≤ 59) → ¬ c = 0 → a1.1 c = a.1 c := fun c q1 q2 => k1.1 c q2 (by
    cases he : [53, 54, 55, 56, 57, 58, 59].elem c with
    | false => rfl
    | true =>
      have := List.elem_iff.mp he
      simp at this
      omega)
  have h0 : ∀ i, a1.1 0 i = a.1 0 i := fun i => k1.2.1 i rfl
  have hb1 : zBf a1 := hb.x (hc 60 (by omega) (by omega)) (by rw [k1.2.2])
  rw [e1]
  simp only [Bool.false_eq_true, reduceCtorEq, Nat.not_lt_zero, cond_true, cond_false, ↓reduceIte, if_true, if_false, Option.toList_some, Option.toList_none, List.nil_append, List.cons_append, Option.bind_some]
  rw [ex_132_5]
  obtain ⟨a2, e2, k2, hP2, hb2⟩ := rx_solve (nl := nl) (C := zs_ec f n lk ms) h.W (h.P.k k1 (by decide)) (h.N.k k1 (by decide)) hF1.2.2.1 (fun e _ => zs_ec_le h.W hms e) hb1
  rw [e2]
  simp only [Bool.false_eq_true, reduceCtorEq, Nat.not_lt_zero, cond_true, cond_false, ↓reduceIte, if_true, if_false, Option.toList_some, Option.toList_none, List.nil_append, List.cons_append, Option.bind_some]
  rw [ex_132_8, hP2.1]
  refine ⟨_, rfl, ⟨fun c q => ?_, ?_, ?_, ?_, ?_⟩, hb2.x ?_ rfl, ?_, zb_ue _ _ _ _⟩
  · rw [zb_uc _ _ _ _ (by omega), zb_uc _ _ _ _ (by omega), k2.1 c (by omega) (by omega) (by omega), hc c (by omega) (by omega)]
  · rw [zb_ui _ _ _ _ (by decide), zb_ui _ _ _ _ (by decide), k2.1 0 (by omega) (by omega) (by omega), h0]
  · rw [zb_ui _ _ _ _ (by decide), zb_ui _ _ _ _ (by decide), k2.1 0 (by omega) (by omega) (by omega), h0]
  · rw [zb_uc _ _ _ _ (by decide), zb_uc _ _ _ _ (by decide), k2.1 35 (by omega) (by omega) (by omega), hc 35 (by omega) (by omega)]
  · show a2.2.1 = a.2.1
    rw [k2.2, k1.2.2]
  · rw [zb_uc _ _ _ _ (by decide), zb_uc _ _ _ _ (by decide)]
  · rw [zb_ui _ _ _ _ (by decide), zb_ue]
theorem zc_shared (x y : Int32) (h : zR a b) : zC (zx nl 133 0 [z_r 0, z_i x, z_i y] [] a) (zm 257 0 [z_r 91, z_i x, z_i y, none] [] b) := by
  have hz := h
  obtain ⟨f, n, nu, w, h0, hf⟩ := h
  rw [ex_133_0, em_257_0]
  rcases zb_sgn x with hx | ⟨j, hj, rfl⟩
  · have : x < 1 := zb_neg_lt hx (j := 1) (by omega)
    simp only [this, Bool.false_eq_true, reduceCtorEq, Nat.not_lt_zero, cond_true, cond_false, ↓reduceIte, if_true, if_false, Option.toList_some, Option.toList_none, List.nil_append, List.cons_append, Option.bind_some]; exact zC.same hz _
  by_cases j1 : j < 1
  · simp (disch := omega) only [zb_ltl, zb_llt, zb_eql, zb_leq, nI_ltI, nI_eq, zb_in, nI_clamp, zb_al, zb_la, zb_ml, zb_lm, zb_mul, nI_add, Bool.false_eq_true, reduceCtorEq, Nat.not_lt_zero, cond_true, cond_false, ↓reduceIte, if_true, if_false, Option.toList_some, Option.toList_none, List.nil_append, List.cons_append, Option.bind_some, j1]; exact zC.same hz _
  by_cases j9 : 9 < j
  · simp (disch := omega) only [zb_ltl, zb_llt, zb_eql, zb_leq, nI_ltI, nI_eq, zb_in, nI_clamp, zb_al, zb_la, zb_ml, zb_lm, zb_mul, nI_add, Bool.false_eq_true, reduceCtorEq, Nat.not_lt_zero, cond_true, cond_false, ↓reduceIte, if_true, if_false, Option.toList_some, Option.toList_none, List.nil_append, List.cons_append, Option.bind_some, j1, j9]; exact zC.same hz _
  rcases zb_sgn y with hx | ⟨k, hk, rfl⟩
  · simp (disch := omega) only [zb_ltl, zb_llt, zb_eql, zb_leq, nI_ltI, nI_eq, zb_in, nI_clamp, zb_al, zb_la, zb_ml, zb_lm, zb_mul, nI_add, Bool.false_eq_true, reduceCtorEq, Nat.not_lt_zero, cond_true, cond_false, ↓reduceIte, if_true, if_false, Option.toList_some, Option.toList_none, List.nil_append, List.cons_append, Option.bind_some, j1, j9, hx]; exact zC.same hz _
  by_cases k9 : 99 < k
  · simp (disch := omega) only [zb_ltl, zb_llt, zb_eql, zb_leq, nI_ltI, nI_eq, zb_in, nI_clamp, zb_al, zb_la, zb_ml, zb_lm, zb_mul, nI_add, Bool.false_eq_true, reduceCtorEq, Nat.not_lt_zero, cond_true, cond_false, ↓reduceIte, if_true, if_false, Option.toList_some, Option.toList_none, List.nil_append, List.cons_append, Option.bind_some, j1, j9, k9]; exact zC.same hz _
  have hms := h0.W.ms
  have hlt : (j - 1) * k ≤ 8 * 99 := Nat.mul_le_mul (by omega) (by omega)
  have t1 : a.1 1 4 = b.1 92 9 := h0.1.L.1
  have t2 : a.1 2 3 = nI (zs_ms f) := (h0.P.2.2 3 (by omega)).trans hms.1
  have t3 : b.1 92 3 = nI (zs_ms f) := (h0.V 3 (by omega) (by omega) (by omega)).trans hms.1
  have hV' : zV 92 (zd_u b 91 38 (nI (zs_ms f + (j - 1) * k))) f := fun i q1 q2 q3 => by rw [zb_uc _ _ _ _ (by decide)]; exact h0.V i q1 q2 q3
  have hN' : zMN (zd_u b 91 38 (nI (zs_ms f + (j - 1) * k))) nu f n := fun e he => by rw [zb_uc _ _ _ _ (by decide)]; exact h0.MN e he
  obtain ⟨a1, e1, k1, hb1, z9, z10⟩ := rx_boundif (nl := nl) h0 hf.2.2 (b.1 92 9) (ms := zs_ms f + (j - 1) * k) (by omega)
  obtain ⟨b1, e2, k2, -, -⟩ := rm_bound (b := zd_u b 91 38 (nI (zs_ms f + (j - 1) * k))) h0.W hV' hN' (ms := zs_ms f + (j - 1) * k) ⟨by omega, Or.inr (zb_ue _ _ _ _)⟩
  rw [zb_uc _ _ _ _ (show ¬ 92 = 91 by decide)] at e2
  rw [t1, t2, t3, zb_pred (by omega)]
  simp (disch := omega) only [zb_ltl, zb_llt, zb_eql, zb_leq, nI_ltI, nI_eq, zb_in, nI_clamp, zb_al, zb_la, zb_ml, zb_lm, zb_mul, nI_add, Bool.false_eq_true, reduceCtorEq, Nat.not_lt_zero, cond_true, cond_false, ↓reduceIte, if_true, if_false, Option.toList_some, Option.toList_none, List.nil_append, List.cons_append, Option.bind_some, j1, j9, k9, e1, e2]
  rw [ex_133_29, em_257_26]
  refine ⟨_, _, _, rfl, rfl, ?_⟩
  have hcm : zCm b (zd_u b1 91 38 (-1)) := by
    have q := k2.cm rfl rfl
    refine ⟨fun c w => ?_, ?_, ?_, ?_, ?_, ?_⟩
    · rw [zb_uc _ _ _ _ (by omega), q.1 c w, zb_uc _ _ _ _ (by omega)]
    · rw [zb_ui _ _ _ _ (by decide), q.2.1, zb_ui _ _ _ _ (by decide)]
    · rw [zb_ui _ _ _ _ (by decide), q.2.2.1, zb_ui _ _ _ _ (by decide)]
    · rw [zb_ui _ _ _ _ (by decide), q.2.2.2.1, zb_ui _ _ _ _ (by decide)]
    · rw [zb_ue]; exact h0.2.2.2.2.2.2.2.2.2.symm
    · rw [zb_ui _ _ _ _ (by decide), q.2.2.2.2.2, zb_ui _ _ _ _ (by decide)]
  exact ⟨f, n, nu, w, (h0.x k1).m hcm, zR_f.no z9 z10 hb1⟩
end ZShared
