/-! ===== what must be there: the reference ===== -/
def zs_ph (f : zF) (x : Nat) : Nat := if x < zs_rem f then x else 4
section RmMust
variable {b b' : zd_D} {f : zF} {n : Nat}
theorem zW.rem (h : zW f n) : 1 ≤ zs_rem f ∧ zs_rem f ≤ 4 := by
  obtain ⟨-, -, ⟨⟨-, h1⟩, h2, -⟩, -⟩ := h
  unfold zs_rem
  rcases h1 with h1 | h1 | h1 <;> rcases h2 with h2 | h2 | h2 <;> rw [h1, h2] <;> decide
theorem zW.set (h : zW f n) : ∃ s, f 0 = nI s ∧ zs_set f = s ∧ (s = 1 ∨ s = 2 ∨ s = 4) := by
  obtain ⟨-, -, ⟨⟨h1, -⟩, -⟩, -⟩ := h
  unfold zs_set
  rcases h1 with h1 | h1 | h1
  · exact ⟨1, h1, by rw [h1]; rfl, Or.inl rfl⟩
  · exact ⟨2, h1, by rw [h1]; rfl, Or.inr (Or.inl rfl)⟩
  · exact ⟨4, h1, by rw [h1]; rfl, Or.inr (Or.inr rfl)⟩
theorem zs_ln_cases {k : Nat} (hg : zs_good (f (12 + 4 * k)) (f (13 + 4 * k)) (f (14 + 4 * k)) (f (15 + 4 * k))) : zs_ln f k = -2 ∨ zs_ln f k = -1 ∨ ∃ l, l < 16 ∧ zs_ln f k = nI l := by
  unfold zs_ln zs_line
  by_cases h : f (12 + 4 * k) = 1 ∨ f (12 + 4 * k) = 2
  · rw [if_pos h]
    by_cases h4 : f (14 + 4 * k) = 4
    · rw [if_pos h4]
      right; right
      rcases hg.2 with ⟨h0, _⟩ | ⟨_, ⟨r, hr, e⟩ | ⟨e, r, hr, ec⟩⟩ | ⟨h0, _⟩ | ⟨h0, _⟩ | ⟨h0, _⟩
      · rw [h0] at h; exact absurd h (by decide)
      · rw [h4] at e
        have := (nI_eq (a := 4) (b := r) (by omega) (by omega)).mp e
        omega
      · exact ⟨r / 2, by omega, by rw [ec]; exact pk_div (d := 2) (by omega) (by omega) (by omega)⟩
      · rcases h0 with h0 | h0 <;> rw [h0] at h <;> exact absurd h (by decide)
      · rcases h0 with h0 | h0 <;> rw [h0] at h <;> exact absurd h (by decide)
      · rw [h0] at h; exact absurd h (by decide)
    · rw [if_neg h4]; right; left; rfl
  · rw [if_neg h]; left; rfl
theorem rm_line (hW : zW f n) (hV : zV 92 b f) {k : Nat} (hk : k < n) : zm 198 0 [z_r 91, z_i (nI k)] [] b = some (some (.inl (zs_ln f k)), b) := by
  have hn := hW.le
  rw [em_198_0]
  simp (disch := omega) only [zb_ltl, zb_llt, zb_eql, zb_leq, nI_ltI, nI_eq, zb_in, nI_clamp, zb_al, zb_la, zb_ml, zb_lm, zb_mul, nI_add, Bool.false_eq_true, reduceCtorEq, Nat.not_lt_zero, cond_true, cond_false, ↓reduceIte, if_true, if_false, Option.toList_some, Option.toList_none, List.nil_append, List.cons_append, Option.bind_some, hV.o0 hW hk, hV.o2 hW hk, hV.o3 hW hk]
  unfold zs_ln zs_line
  by_cases h1 : f (12 + 4 * k) = 1
  · simp only [h1, true_or, Bool.false_eq_true, reduceCtorEq, Nat.not_lt_zero, cond_true, cond_false, ↓reduceIte, if_true, if_false, Option.toList_some, Option.toList_none, List.nil_append, List.cons_append, Option.bind_some]
    by_cases h4 : f (14 + 4 * k) = 4
    · simp only [h4, Bool.false_eq_true, reduceCtorEq, Nat.not_lt_zero, cond_true, cond_false, ↓reduceIte, if_true, if_false, Option.toList_some, Option.toList_none, List.nil_append, List.cons_append, Option.bind_some]
    · simp only [h4, Bool.false_eq_true, reduceCtorEq, Nat.not_lt_zero, cond_true, cond_false, ↓reduceIte, if_true, if_false, Option.toList_some, Option.toList_none, List.nil_append, List.cons_append, Option.bind_some]
  · by_cases h2 : f (12 + 4 * k) = 2
    · simp only [h1, h2, or_true, Bool.false_eq_true, reduceCtorEq, Nat.not_lt_zero, cond_true, cond_false, ↓reduceIte, if_true, if_false, Option.toList_some, Option.toList_none, List.nil_append, List.cons_append, Option.bind_some]
      by_cases h4 : f (14 + 4 * k) = 4
      · simp only [h4, Bool.false_eq_true, reduceCtorEq, Nat.not_lt_zero, cond_true, cond_false, ↓reduceIte, if_true, if_false, Option.toList_some, Option.toList_none, List.nil_append, List.cons_append, Option.bind_some]
        rfl
      · simp only [h4, Bool.false_eq_true, reduceCtorEq, Nat.not_lt_zero, cond_true, cond_false, ↓reduceIte, if_true, if_false, Option.toList_some, Option.toList_none, List.nil_append, List.cons_append, Option.bind_some]
        rfl
    · simp only [h1, h2, or_self, Bool.false_eq_true, reduceCtorEq, Nat.not_lt_zero, cond_true, cond_false, ↓reduceIte, if_true, if_false, Option.toList_some, Option.toList_none, List.nil_append, List.cons_append, Option.bind_some]
theorem rm_rem (hW : zW f n) (hV : zV 92 b f) : zm 179 0 [z_r 91] [] b = some (some (.inl (nI (zs_rem f))), b) := by
  rw [em_179_0, hV 2 (by omega) (by omega) (by omega), hV 1 (by omega) (by omega) (by omega)]
  obtain ⟨-, -, ⟨⟨-, h1⟩, h2, -⟩, -⟩ := hW
  unfold zs_rem
  rcases h1 with h1 | h1 | h1 <;> rcases h2 with h2 | h2 | h2 <;> rw [h1, h2] <;> rfl
theorem zb_m1 {l : Nat} (h : l < 2 ^ 31) : ((-1 : Int32) = nI l) = False := by
  refine eq_false fun e => ?_
  have := nI_pos h
  rw [← e] at this
  exact this (by decide)
theorem zb_m1' {l : Nat} (h : l < 2 ^ 31) : (nI l = (-1 : Int32)) = False := by
  refine eq_false fun e => ?_
  have := nI_pos h
  rw [e] at this
  exact this (by decide)
theorem zb_m2 {l : Nat} (h : l < 2 ^ 31) : (nI l = (-2 : Int32)) = False := by
  refine eq_false fun e => ?_
  have := nI_pos h
  rw [e] at this
  exact this (by decide)
theorem zb_l0 {l : Nat} (h : l < 2 ^ 31) : (nI l < (0 : Int32)) = False := eq_false (nI_pos h)
/-- the reference's row of ages -/
def zMX (b : zd_D) (f : zF) (n : Nat) (X : Nat → Nat) : Prop := ∀ i, i < 16 * n → b.1 113 i = nI (zs_ph f (X i)) ∧ X i ≤ zs_rem f
theorem zs_af_0 {lk : Int32} {X : Nat → Nat} {k l : Nat} (h : zs_ln f k = -2) : zs_af f lk X k l = X (16 * k + l) := by
  unfold zs_af
  rw [if_pos h]
theorem zs_af_1 {lk : Int32} {X : Nat → Nat} {k l : Nat} (h : zs_ln f k = -1) : zs_af f lk X k l = if X (16 * k + l) < zs_rem f then X (16 * k + l) + 1 else X (16 * k + l) := by
  unfold zs_af
  rw [if_neg (show ¬ zs_ln f k = -2 by rw [h]; decide), if_pos h]
theorem zs_af_q {lk : Int32} {X : Nat → Nat} {k l q : Nat} (hq : q < 16) (h : zs_ln f k = nI q) : zs_af f lk X k l = if zs_lk lk (nI q) = true ∨ ¬ q % zs_set f = l % zs_set f then X (16 * k + l) else if q = l then 0 else if X (16 * k + l) < X (16 * k + q) then X (16 * k + l) + 1 else X (16 * k + l) := by
  unfold zs_af
  rw [h, nI_clamp (by omega), if_neg (show ¬ nI q = -2 by rw [zb_m2 (by omega)]; exact id), if_neg (show ¬ nI q = -1 by rw [zb_m1' (by omega)]; exact id)]
set_option maxHeartbeats 2000000 in
theorem rm_age (hW : zW f n) (hV : zV 92 b f) {X : Nat → Nat} (hX : zMX b f n X) {k l : Nat} (hk : k < n) (hl : l < 16) :
    zm 197 0 [z_r 91, z_i (nI k), z_i (nI l), none, none] [] b = some (some (.inl (nI (zs_ph f (zs_af f (b.1 92 9) X k l)))), b) := by
  have hn := hW.le
  obtain ⟨hr1, hr4⟩ := hW.rem
  have hph : ∀ x, zs_ph f x ≤ 4 := fun x => by unfold zs_ph; split <;> omega
  have hx := hX (16 * k + l) (by omega)
  have hin : mx_in ((16 * nI k) + nI l) 464 = true := by rw [zb_lm, nI_add]; exact zb_in (by omega) (by decide)
  have hx1 : b.1 113 ((16 * nI k) + nI l).toNatClampNeg = nI (zs_ph f (X (16 * k + l))) := by rw [zb_lm, nI_add, nI_clamp (by omega)]; exact hx.1
  rw [em_197_0, rm_line hW hV hk]
  simp only [Bool.false_eq_true, reduceCtorEq, Nat.not_lt_zero, cond_true, cond_false, ↓reduceIte, if_true, if_false, Option.toList_some, Option.toList_none, List.nil_append, List.cons_append, Option.bind_some]
  rw [em_197_3, hin, hx1]
  simp only [cond_true]
  have h4 : ∀ {y}, (zs_ph f y < 4) ↔ y < zs_rem f := fun {y} => by unfold zs_ph; split <;> omega
  have hp := hph (X (16 * k + l))
  -- the age that comes out, where it is told against what is remembered
  have fin : ∀ (x1 x2 x3 : Int32) (z : Nat), z < 2 ^ 31 → zm 197 61 [z_r 91, z_i x1, z_i x2, z_i x3, z_i (nI z)] [.inl (nI (zs_rem f)), .inl (nI z)] b = some (some (.inl (nI (if z < zs_rem f then z else 4))), b) := by
    intro x1 x2 x3 z hz
    rw [em_197_61]
    simp (disch := omega) only [nI_ltI]
    by_cases hc : z < zs_rem f
    · rw [if_pos hc, if_pos hc]
    · rw [if_neg hc, if_neg hc]; rfl
  rcases zs_ln_cases (hW.2.2.2 k hk).1 with h | h | ⟨q, hq, h⟩
  · rw [zs_af_0 h, if_pos h]
  · rw [zs_af_1 h, h]
    simp (disch := omega) only [zb_m1, show ¬ ((-1 : Int32) = -2) by decide, show ((-1 : Int32) < 0) by decide, Bool.false_eq_true, reduceCtorEq, Nat.not_lt_zero, cond_true, cond_false, ↓reduceIte, if_true, if_false, Option.toList_some, Option.toList_none, List.nil_append, List.cons_append, Option.bind_some, zb_ltl, h4]
    by_cases hc : X (16 * k + l) < zs_rem f
    · have e : zs_ph f (X (16 * k + l)) = X (16 * k + l) := if_pos hc
      simp only [hc, Bool.false_eq_true, reduceCtorEq, Nat.not_lt_zero, cond_true, cond_false, ↓reduceIte, if_true, if_false, Option.toList_some, Option.toList_none, List.nil_append, List.cons_append, Option.bind_some, rm_rem hW hV, zb_al]
      rw [fin _ _ _ _ (by omega), e]
      rfl
    · have e : zs_ph f (X (16 * k + l)) = 4 := if_neg hc
      simp only [hc, Bool.false_eq_true, reduceCtorEq, Nat.not_lt_zero, cond_true, cond_false, ↓reduceIte, if_true, if_false, Option.toList_some, Option.toList_none, List.nil_append, List.cons_append, Option.bind_some, rm_rem hW hV]
      rw [fin _ _ _ _ (by omega), e, if_neg (by omega)]
  · have hxq := hX (16 * k + q) (by omega)
    obtain ⟨s, hs0, hs1, hs⟩ := hW.set
    have hs9 : 0 < s ∧ s ≤ 4 := by omega
    have hm1 : q % s < s := Nat.mod_lt _ (by omega)
    have hm2 : l % s < s := Nat.mod_lt _ (by omega)
    have e0 : b.1 92 0 = nI s := (hV 0 (by omega) (by omega) (by omega)).trans hs0
    have hpq := hph (X (16 * k + q))
    have hinq : mx_in ((16 * nI k) + nI q) 464 = true := by rw [zb_lm, nI_add]; exact zb_in (by omega) (by decide)
    have hxq1 : b.1 113 ((16 * nI k) + nI q).toNatClampNeg = nI (zs_ph f (X (16 * k + q))) := by rw [zb_lm, nI_add, nI_clamp (by omega)]; exact hxq.1
    rw [zs_af_q hq h, h, hinq, hxq1, e0, hs1]
    simp (disch := omega) only [zb_m2, Bool.false_eq_true, reduceCtorEq, Nat.not_lt_zero, cond_true, cond_false, ↓reduceIte, if_true, if_false, Option.toList_some, Option.toList_none, List.nil_append, List.cons_append, Option.bind_some, zb_eql, show ¬ s = 0 by omega, pk_rem, nI_eq, zb_ltl, nI_ltI, zb_al, h4]
    unfold zs_lk
    simp only [decide_eq_true_eq]
    by_cases hlk : (b.1 92 9 >>> (nI q &&& 31)) &&& 1 = 1
    · simp only [hlk, Bool.false_eq_true, reduceCtorEq, Nat.not_lt_zero, cond_true, cond_false, ↓reduceIte, if_true, if_false, Option.toList_some, Option.toList_none, List.nil_append, List.cons_append, Option.bind_some, true_or]
    · simp only [hlk, Bool.false_eq_true, reduceCtorEq, Nat.not_lt_zero, cond_true, cond_false, ↓reduceIte, if_true, if_false, Option.toList_some, Option.toList_none, List.nil_append, List.cons_append, Option.bind_some, false_or]
      by_cases hmod : q % s = l % s
      · simp only [hmod, Bool.false_eq_true, reduceCtorEq, Nat.not_lt_zero, cond_true, cond_false, ↓reduceIte, if_true, if_false, Option.toList_some, Option.toList_none, List.nil_append, List.cons_append, Option.bind_some, not_true_eq_false]
        by_cases hql : q = l
        · simp only [hql, Bool.false_eq_true, reduceCtorEq, Nat.not_lt_zero, cond_true, cond_false, ↓reduceIte, if_true, if_false, Option.toList_some, Option.toList_none, List.nil_append, List.cons_append, Option.bind_some]
          unfold zs_ph
          rw [if_pos (by omega)]
          rfl
        · simp only [hql, Bool.false_eq_true, reduceCtorEq, Nat.not_lt_zero, cond_true, cond_false, ↓reduceIte, if_true, if_false, Option.toList_some, Option.toList_none, List.nil_append, List.cons_append, Option.bind_some]
          by_cases hc : X (16 * k + l) < zs_rem f
          · have e : zs_ph f (X (16 * k + l)) = X (16 * k + l) := if_pos hc
            have hcmp : zs_ph f (X (16 * k + l)) < zs_ph f (X (16 * k + q)) ↔ X (16 * k + l) < X (16 * k + q) := by
              unfold zs_ph
              split <;> split <;> omega
            simp only [hc, hcmp, Bool.false_eq_true, reduceCtorEq, Nat.not_lt_zero, cond_true, cond_false, ↓reduceIte, if_true, if_false, Option.toList_some, Option.toList_none, List.nil_append, List.cons_append, Option.bind_some]
            by_cases hlt : X (16 * k + l) < X (16 * k + q)
            · simp only [hlt, Bool.false_eq_true, reduceCtorEq, Nat.not_lt_zero, cond_true, cond_false, ↓reduceIte, if_true, if_false, Option.toList_some, Option.toList_none, List.nil_append, List.cons_append, Option.bind_some, rm_rem hW hV]
              rw [fin _ _ _ _ (by omega), e]
              rfl
            · simp only [hlt, Bool.false_eq_true, reduceCtorEq, Nat.not_lt_zero, cond_true, cond_false, ↓reduceIte, if_true, if_false, Option.toList_some, Option.toList_none, List.nil_append, List.cons_append, Option.bind_some, rm_rem hW hV]
              rw [fin _ _ _ _ (by omega), e, if_pos hc]
          · have e : zs_ph f (X (16 * k + l)) = 4 := if_neg hc
            simp only [hc, Bool.false_eq_true, reduceCtorEq, Nat.not_lt_zero, cond_true, cond_false, ↓reduceIte, if_true, if_false, Option.toList_some, Option.toList_none, List.nil_append, List.cons_append, Option.bind_some, rm_rem hW hV]
            rw [fin _ _ _ _ (by omega), e, if_neg (show ¬ 4 < zs_rem f by omega), if_neg (show ¬ X (16 * k + l) < X (16 * k + q) by have := hxq.2; omega), e]
      · simp only [hmod, Bool.false_eq_true, reduceCtorEq, Nat.not_lt_zero, cond_true, cond_false, ↓reduceIte, if_true, if_false, Option.toList_some, Option.toList_none, List.nil_append, List.cons_append, Option.bind_some, not_false_eq_true]
/-- ages behind are no more than what is remembered -/
theorem zs_af_le (hW : zW f n) {lk : Int32} {X : Nat → Nat} (hX : ∀ i, i < 16 * n → X i ≤ zs_rem f) {k l : Nat} (hk : k < n) (hl : l < 16) : zs_af f lk X k l ≤ zs_rem f := by
  have h1 := hX (16 * k + l) (by omega)
  rcases zs_ln_cases (hW.2.2.2 k hk).1 with h | h | ⟨q, hq, h⟩
  · rw [zs_af_0 h]; exact h1
  · rw [zs_af_1 h]
    split <;> omega
  · rw [zs_af_q hq h]
    have h2 := hX (16 * k + q) (by omega)
    split
    · exact h1
    · split
      · omega
      · split <;> omega
theorem zs_af_mono (hW : zW f n) {lk : Int32} {X Y : Nat → Nat} {k l : Nat} (hk : k < n) (hl : l < 16) (h : ∀ l, l < 16 → X (16 * k + l) ≤ Y (16 * k + l)) (hr : X (16 * k + l) ≤ zs_rem f) : zs_af f lk X k l ≤ zs_af f lk Y k l := by
  have h1 := h l hl
  rcases zs_ln_cases (hW.2.2.2 k hk).1 with e | e | ⟨q, hq, e⟩
  · rw [zs_af_0 e, zs_af_0 e]; exact h1
  · rw [zs_af_1 e, zs_af_1 e]
    split <;> split <;> omega
  · have h2 := h q hq
    rw [zs_af_q hq e, zs_af_q hq e]
    by_cases hc : zs_lk lk (nI q) = true ∨ ¬ q % zs_set f = l % zs_set f
    · rw [if_pos hc, if_pos hc]; exact h1
    · rw [if_neg hc, if_neg hc]
      by_cases hql : q = l
      · rw [if_pos hql, if_pos hql]; exact Nat.le_refl _
      · rw [if_neg hql, if_neg hql]
        split <;> split <;> omega
end RmMust
