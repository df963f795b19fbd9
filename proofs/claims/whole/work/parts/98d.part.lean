/-! ===== calls: machine, one part on both sides ===== -/
section ZPart
variable {nl : Int32} {a a' b b' : zd_D} {f f' : zF} {n w : Nat} {nu : Nat → Nat}
theorem zs_cnt_set {tl : Nat → Bool} {k : Nat} (h : tl k = false) : ∀ m, zs_cnt (fun j => if j = k then true else tl j) m = zs_cnt tl m + (if k < m then 1 else 0) := by
  intro m
  induction m with
  | zero => simp [zs_cnt]
  | succ m ih =>
    rw [zs_cnt_step, zs_cnt_step, ih]
    by_cases e : m = k
    · subst e
      simp [h]
    · simp only [e, if_false]
      by_cases l : k < m
      · simp only [l, show k < m + 1 by omega, if_true]; omega
      · simp only [l, show ¬ k < m + 1 by omega, if_false]; omega
theorem zs_any_or {p q r : Nat → Bool} (h : ∀ j, r j = (p j || q j)) : ∀ m, zs_any r m = (zs_any p m || zs_any q m)
  | 0 => rfl
  | m + 1 => by
    show (zs_any r m || r m) = ((zs_any p m || p m) || (zs_any q m || q m))
    rw [zs_any_or h m, h m]
    cases zs_any p m <;> cases zs_any q m <;> cases p m <;> cases q m <;> rfl
theorem z_iter {y : Nat → Nat} {t i p m : Nat} {gl : Bool} {tl : Nat → Bool} {v : Nat → Nat} {d e : zd_D} (hy : zYm b y t) (hL : zLp a b f y t i gl p m tl v d e) :
    (∃ i' d' e', ((zx nl 22 0 [z_r 35, none] [] d).bind fun q => zx nl 16 34 [z_r 35, z_r 2, z_i (nI m), z_i (nI p), none, none] (q.1.toList ++ []) q.2) = some (some (.inl (-100 - nI i')), d') ∧ zm 176 0 [z_r 91, none, none] [] e = some (some (.inl 0), e') ∧ (∀ c, ¬ c = 35 → ¬ c = 37 → d'.1 c = a.1 c) ∧ d'.2 = a.2 ∧ zK 91 [97] [7, 8, 9, 10, 11, 13, 14] b e' ∧ e'.1 91 8 = nI i' ∧ i' ≤ 96) ∨
    (∃ i' gl' m' tl' v' d' e', ((zx nl 22 0 [z_r 35, none] [] d).bind fun q => zx nl 16 34 [z_r 35, z_r 2, z_i (nI m), z_i (nI p), none, none] (q.1.toList ++ []) q.2) = zx nl 16 17 [z_r 35, z_r 2, z_i (nI m'), z_i (nI (p + 1)), none, none] [] d' ∧ zm 176 0 [z_r 91, none, none] [] e = some (some (.inl 1), e') ∧ zLp a b f y t i' gl' (p + 1) m' tl' v' d' e') := by
  obtain ⟨⟨d1, d2, d3, d4⟩, ⟨e1, e2, e3, e4, e5⟩, ⟨m1, m2, m3, m4, m5⟩⟩ := hL
  have hy256 : ∀ i, i < t → y i < 256 := fun i hi => (hy.2.2.1 i hi).1
  have ht := hy.2.1
  obtain ⟨g1, g2, g3⟩ := zy_en_ge (y := y) m4
  have e20 := e2
  obtain ⟨q8, q9, q7, q10, -⟩ := e2
  have hp8 := zs_cnt_le tl 8
  rw [rx_part d3.1 d3.2.1 d3.2.2.1 d3.2.2.2 g1 g2, em_176_0, q9]
  simp only [Bool.false_eq_true, reduceCtorEq, Nat.not_lt_zero, cond_true, cond_false, ↓reduceIte, if_true, if_false, Option.toList_some, Option.toList_none, List.nil_append, List.cons_append, Option.bind_some]
  rw [ex_16_34, d3.2.1]
  rcases zy_part_cases (gl := gl) hy256 m4 with ⟨k, k1, k2, k3, k4, k5, k6, k7⟩ | ⟨k1, k2⟩
  rotate_left
  · left
    rw [k1, if_pos (show (-1 : Int32) < 0 by decide)]
    refine ⟨i, d, e, rfl, ?_, d1, d2, e1, q8, by omega⟩
    rcases k2 with q | ⟨k, c1, c2, c3, c4, c5⟩
    · rw [if_neg q]
    · by_cases kd : zy_kd y t i gl = 1
      · rw [if_pos kd, q10 c4 c5 k c3, if_pos (show 7 < nI k from nI_lt (a := 7) (by omega) (by omega))]
      · rw [if_neg kd]
  have hbit := zb_bit1 (v := m) (q := k) (by omega) (by omega)
  rw [k3, k4, if_neg (nI_pos (by omega)), if_pos rfl, q10 k6 k7 k k5, if_neg (show ¬ 7 < nI k from nI_nlt (a := 7) (by omega) (by omega)), zb_in k1 (by omega), cond_true, nI_clamp (show k < 2 ^ 31 by omega), e3 k k1]
  cases htl : tl k with
  | true =>
    left
    rw [if_pos (hbit.mpr (by rw [m2 k k1]; exact htl))]
    refine ⟨i, d, e, rfl, ?_, d1, d2, e1, q8, by omega⟩
    rw [if_pos rfl, if_neg (nI_pos (by have := (m5 k k1 htl).1; omega))]
  | false =>
    rw [if_neg (fun w => by have := hbit.mp w; rw [m2 k k1, htl] at this; cases this), show (if false = true then nI (v k) else (-1 : Int32)) = -1 from rfl, if_pos (show (-1 : Int32) < 0 by decide)]
    -- the value's word
    obtain ⟨f1, r1, r2, r3, r4, r5⟩ := rx_nextw (nl := nl) d3 m4
    obtain ⟨g1', s1, s2, s3⟩ := rm_gow hy e1 e20 k6 (Or.inl k7)
    rw [r1, s1]
    simp only [Bool.false_eq_true, reduceCtorEq, Nat.not_lt_zero, cond_true, cond_false, ↓reduceIte, if_true, if_false, Option.toList_some, Option.toList_none, List.nil_append, List.cons_append, Option.bind_some]
    rw [ex_16_57, rx_value r4 r5 k1]
    simp only [Bool.false_eq_true, reduceCtorEq, Nat.not_lt_zero, cond_true, cond_false, ↓reduceIte, if_true, if_false, Option.toList_some, Option.toList_none, List.nil_append, List.cons_append, Option.bind_some]
    rw [ex_16_60, r4.2.1]
    generalize zy_at y t (zy_en y t i) = i1 at *
    generalize zy_gl y t (zy_en y t i) = gl1 at *
    have sK : zK 91 [97] [7, 8, 9, 10, 11, 13, 14] b g1' := e1.tr (s2.up rfl rfl)
    have s97 : ∀ j, g1'.1 97 j = e.1 97 j := fun j => by rw [s2.1 97 (by decide) rfl]
    rcases rm_write (b := b) (p := p) (bad := zs_bad tl v) hy256 ht r5 k1 sK s3 (by rw [s2.2.1 13 (by decide)]; exact e4) (by omega) (by rw [s2.2.1 14 (by decide)]; exact e5) with ⟨w1, w2⟩ | ⟨r, e2w, h2', w1, w3, ⟨w4, w5⟩, w6, w7, w8, w9, w10, w11⟩
    · left
      rw [w1, if_pos (show (-1 : Int32) < 0 by decide)]
      exact ⟨i1, f1, g1', rfl, w2, fun c c1 c2 => by rw [r2 c c1]; exact d1 c c1 c2, by rw [r3]; exact d2, sK, s3.1, by omega⟩
    · right
      rw [w3, if_neg (nI_pos (by omega)), zb_in k1 (by omega), cond_true, nI_clamp (show k < 2 ^ 31 by omega)]
      have hT' : zTp (zd_u f1 37 k (nI r)) y t i1 gl1 := by
        obtain ⟨⟨t1, t2, t3⟩, t4, t5, t6⟩ := r4
        exact ⟨⟨by rw [zb_uc _ _ _ _ (by decide)]; exact t1, t2, fun j hj => by rw [zb_uc _ _ _ _ (by decide)]; exact t3 j hj⟩, by rw [zb_uc _ _ _ _ (by decide)]; exact t4, by rw [zb_uc _ _ _ _ (by decide)]; exact t5, by rw [zb_uc _ _ _ _ (by decide)]; exact t6⟩
      obtain ⟨f2, u1, u2, u3, u4, u5⟩ := rx_nextw (nl := nl) hT' r5
      obtain ⟨h3, v1, v2, v3⟩ := rm_gow hy w6 w7 w4 w5
      rw [u1, w11 h3 v1]
      simp only [Bool.false_eq_true, reduceCtorEq, Nat.not_lt_zero, cond_true, cond_false, ↓reduceIte, if_true, if_false, Option.toList_some, Option.toList_none, List.nil_append, List.cons_append, Option.bind_some]
      rw [ex_16_75, zb_1s (by omega), zb_or, nI_1]
      refine ⟨_, _, m ||| 2 ^ k, fun j => if j = k then true else tl j, fun j => if j = k then r else v j, f2, h3, rfl, rfl, ⟨fun c c1 c2 => ?_, ?_, u4, fun j hj => ?_⟩, ⟨w6.tr (v2.up rfl rfl), v3, fun j hj => ?_, ?_, ?_⟩, ⟨?_, fun j hj => ?_, ?_, u5, fun j hj hj2 => ?_⟩⟩
      · rw [u2 c c1, zb_uc _ _ _ _ c2, r2 c c1]; exact d1 c c1 c2
      · rw [u3]; show f1.2 = a.2; rw [r3]; exact d2
      · rw [u2 37 (by decide), zb_u]
        by_cases ej : j = k
        · simp only [ej, and_self, if_true]
        · simp only [ej, and_false, if_false]
          rw [r2 37 (by decide)]; exact d4 j hj
      · rw [v2.1 97 (by decide) rfl, w8]
        by_cases ej : j = k
        · simp only [ej, if_true]
        · simp only [ej, if_false]
          rw [s97]; exact e3 j hj
      · rw [v2.2.1 13 (by decide)]; exact w9
      · rw [v2.2.1 14 (by decide), w10]
        have : zs_bad (fun j => if j = k then true else tl j) (fun j => if j = k then r else v j) = (zs_bad tl v || !zs_rt k r) := by
          unfold zs_bad
          rw [zs_any_or (p := fun j => tl j && !zs_rt j (v j)) (q := fun j => decide (j = k) && !zs_rt k r)]
          · congr 1
            cases hq : !zs_rt k r with
            | false =>
              cases hz : zs_any (fun j => decide (j = k) && false) 8 with
              | false => rfl
              | true =>
                obtain ⟨j, -, hj⟩ := zs_any_iff.mp hz
                simp at hj
            | true => exact zs_any_iff.mpr ⟨k, k1, by simp⟩
          · intro j
            by_cases ej : j = k
            · subst ej; simp [htl]
            · simp [ej]
        rw [this]
      · exact Nat.or_lt_two_pow (n := 8) m1 (Nat.pow_lt_pow_right (by omega) k1)
      · rw [Nat.testBit_or, Nat.testBit_two_pow, m2 j hj]
        by_cases ej : j = k
        · subst ej; simp
        · simp [ej, show ¬ k = j from fun w => ej w.symm]
      · rw [zs_cnt_set htl 8, if_pos k1, ← m3]
      · by_cases ej : j = k
        · subst ej
          simp only [if_true]
          exact ⟨h2', w1⟩
        · simp only [ej, if_false] at hj2 ⊢
          exact m5 j hj hj2
end ZPart
