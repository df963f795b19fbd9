/-! ===== calls: machine, one part ===== -/
section ZIter
theorem nI_add_lit2 (c : Nat) : nI c + 2 = nI (c + 2) := nI_add c 2
variable {nl : Int32} {a a' b b' : zd_D} {f f' : zF} {n w : Nat} {nu : Nat → Nat}
/-- the reference writes a value down, or doesn't -/
theorem rm_write {y : Nat → Nat} {t i p k : Nat} {gl bad : Bool} (hy : ∀ i, i < t → y i < 256) (ht : t ≤ 96) (hi : i ≤ t) (hk : k < 8) {e : zd_D} (hK : zK 91 [97] [7, 8, 9, 10, 11, 13, 14] b e) (hG : zGo e y t i gl) (h13 : e.1 91 13 = nI p) (hp : p ≤ 8) (h14 : e.1 91 14 = (if bad = true then 1 else 0)) : (zy_val y t i gl k = -1 ∧ zm 176 21 [z_r 91, z_i (nI k), none] [] e = some (some (.inl 0), e)) ∨ ∃ r e2, r < 1000 ∧ ((k = 2 ∨ k = 5) → r ≤ 2) ∧ zy_val y t i gl k = nI r ∧ (i < t ∧ (zy_l y i = true ∨ zy_d y i = true)) ∧ zK 91 [97] [7, 8, 9, 10, 11, 13, 14] b e2 ∧ zGo e2 y t i gl ∧ (∀ j, e2.1 97 j = if j = k then nI r else e.1 97 j) ∧ e2.1 91 13 = nI (p + 1) ∧ e2.1 91 14 = (if (bad || !zs_rt k r) = true then 1 else 0) ∧ ∀ e3, zm 171 0 [z_r 91, none] [] e2 = some (none, e3) → zm 176 21 [z_r 91, z_i (nI k), none] [] e = some (some (.inl 1), e3) := by
  have hG0 := hG
  obtain ⟨h8, h9, h7, h10l, h10d⟩ := hG
  have go2 : ∀ (u : zd_D), (∀ q, (q = 7 ∨ q = 8 ∨ q = 9 ∨ q = 10 ∨ q = 11) → u.1 91 q = e.1 91 q) → zGo u y t i gl := by
    intro u hu
    unfold zGo
    rw [hu 7 (by simp), hu 8 (by simp), hu 9 (by simp), hu 10 (by simp), hu 11 (by simp)]
    exact hG0
  -- a word of three
  have one : ∀ c, (c = 8 ∨ c = 11) → (k = 2 ∨ k = 5) → zy_val y t i gl k = zy_one y i (zy_en y t i) gl c → (∀ (X : Int32 → Option (Option mx_V × zd_D)), zm 176 21 [z_r 91, z_i (nI k), none] [] e = if e.1 91 9 = 1 then (if e.1 91 10 < nI c then some (some (.inl 0), e) else if nI c + 2 < e.1 91 10 then some (some (.inl 0), e) else cond (mx_in (nI k) 8) ((zm 171 0 [z_r 91, none] [] (zd_u (zd_u e 97 k (e.1 91 10 - nI c)) 91 13 (e.1 91 13 + 1))).bind fun q => zm 176 90 [z_r 91, z_i (nI k), z_i (nI c)] (q.1.toList ++ []) q.2) none) else some (some (.inl 0), e)) → (zy_val y t i gl k = -1 ∧ zm 176 21 [z_r 91, z_i (nI k), none] [] e = some (some (.inl 0), e)) ∨ ∃ r e2, r < 1000 ∧ ((k = 2 ∨ k = 5) → r ≤ 2) ∧ zy_val y t i gl k = nI r ∧ (i < t ∧ (zy_l y i = true ∨ zy_d y i = true)) ∧ zK 91 [97] [7, 8, 9, 10, 11, 13, 14] b e2 ∧ zGo e2 y t i gl ∧ (∀ j, e2.1 97 j = if j = k then nI r else e.1 97 j) ∧ e2.1 91 13 = nI (p + 1) ∧ e2.1 91 14 = (if (bad || !zs_rt k r) = true then 1 else 0) ∧ ∀ e3, zm 171 0 [z_r 91, none] [] e2 = some (none, e3) → zm 176 21 [z_r 91, z_i (nI k), none] [] e = some (some (.inl 1), e3) := by
    intro c hc hk25 hval hst
    have hst := hst (fun _ => none)
    rcases zy_one_cases (gl := gl) hy hi hc with ⟨r, r1, r2, r3, r4, r5, r6⟩ | ⟨r1, r2⟩
    · right
      have g10 := h10l r5 r6 _ r4
      rw [h9, if_pos r3, g10, if_neg (nI_nlt (by omega) (by omega)), nI_add_lit2 c, if_neg (nI_nlt (by omega) (by omega)), zb_in hk (by omega), cond_true, zb_sub (by omega), show c + r - c = r by omega, h13, nI_1] at hst
      refine ⟨r, zd_u (zd_u e 97 k (nI r)) 91 13 (nI (p + 1)), by omega, fun _ => by omega, by rw [hval, r2], ⟨r5, Or.inl r6⟩, (hK.u (c := 97) _ _ (by decide) rfl).f _ rfl, go2 _ (fun q hq => by rw [zb_ui _ _ _ _ (by omega), zb_uc _ _ _ _ (by decide)]), fun j => ?_, zb_ue _ _ _ _, ?_, fun e3 h3 => ?_⟩
      · rw [zb_uc _ _ _ _ (by decide), zb_u]
        by_cases ej : j = k
        · rw [if_pos ⟨rfl, ej⟩, if_pos ej]
        · rw [if_neg (fun w => ej w.2), if_neg ej]
      · rw [zb_ui _ _ _ _ (by decide), zb_uc _ _ _ _ (by decide), h14]
        have : zs_rt k r = true := by
          unfold zs_rt
          rw [if_neg (by omega), if_neg (by omega)]
          exact decide_eq_true (by omega)
        rw [this, Bool.not_true, Bool.or_false]
      · rw [hst, h3]
        simp only [Bool.false_eq_true, reduceCtorEq, Nat.not_lt_zero, cond_true, cond_false, ↓reduceIte, if_true, if_false, Option.toList_some, Option.toList_none, List.nil_append, List.cons_append, Option.bind_some]
        rw [em_176_90]
    · left
      refine ⟨by rw [hval, r1], ?_⟩
      rw [hst, h9]
      rcases r2 with q | ⟨q, q1, q2, q3, q4, q5⟩
      · rw [if_neg q]
      · have g10 := h10l q4 q5 _ q3
        rw [g10, nI_add_lit2 c]
        by_cases kd : zy_kd y t i gl = 1
        · rw [if_pos kd]
          by_cases lo : q < c
          · rw [if_pos (nI_lt lo (by omega))]
          · rw [if_neg (nI_nlt (by omega) (by omega)), if_pos (nI_lt (by omega) (by omega))]
        · rw [if_neg kd]
  by_cases k2 : k = 2
  · subst k2
    refine one 8 (Or.inl rfl) (Or.inl rfl) (by unfold zy_val; rw [if_pos rfl]) (fun _ => ?_)
    rw [em_176_21, if_pos (show nI 2 = 2 from rfl), if_pos (show nI 2 = 2 from rfl), nI_clamp (show 2 < 2 ^ 31 by omega)]
    rfl
  by_cases k5 : k = 5
  · subst k5
    refine one 11 (Or.inr rfl) (Or.inr rfl) (by unfold zy_val; rw [if_neg k2, if_pos rfl]) (fun _ => ?_)
    rw [em_176_21, if_neg (show ¬ nI 5 = 2 by decide), if_pos (show nI 5 = 5 from rfl), if_neg (show ¬ nI 5 = 2 by decide), nI_clamp (show 5 < 2 ^ 31 by omega)]
    rfl
  have hval : zy_val y t i gl k = zy_num y t i gl := by unfold zy_val; rw [if_neg k2, if_neg k5]
  have hst : zm 176 21 [z_r 91, z_i (nI k), none] [] e = if e.1 91 9 = 2 then cond (mx_in (nI k) 8) (if e.1 91 14 = 0 then (zm 177 0 [z_i (nI k), z_i (e.1 91 10)] [] (zd_u e 97 k (e.1 91 10))).bind fun q => zm 176 77 [z_r 91, z_i (nI k), none] (q.1.toList ++ [(.inr (.inr (some 91)))]) q.2 else (zm 171 0 [z_r 91, none] [] (zd_u (zd_u (zd_u e 97 k (e.1 91 10)) 91 14 1) 91 13 (e.1 91 13 + 1))).bind fun q => zm 176 90 [z_r 91, z_i (nI k), none] (q.1.toList ++ []) q.2) none else some (some (.inl 0), e) := by
    rw [em_176_21, if_neg (show ¬ nI k = 2 from fun w => k2 ((nI_eq (b := 2) (by omega) (by omega)).mp w)), if_neg (show ¬ nI k = 5 from fun w => k5 ((nI_eq (b := 5) (by omega) (by omega)).mp w)), nI_clamp (show k < 2 ^ 31 by omega)]
  rcases zy_num_cases (y := y) (gl := gl) ht hi with ⟨r, r1, r2, r3, ⟨r4, r5, r6, r7⟩, r8⟩ | ⟨r1, r2⟩
  rotate_left
  · left
    refine ⟨by rw [hval, r1], ?_⟩
    rw [hst, h9, if_neg r2]
  right
  have g10 : e.1 91 10 = nI r := by rw [r8]; exact h10d r4 r5 r6 r7
  rw [h9, if_pos r3, zb_in hk (by omega), cond_true, g10, h14, rm_isright hk r1, h13, nI_1] at hst
  have mk : ∀ u : Int32, (zK 91 [97] [7, 8, 9, 10, 11, 13, 14] b (zd_u (zd_u (zd_u e 97 k (nI r)) 91 14 u) 91 13 (nI (p + 1))) ∧ zGo (zd_u (zd_u (zd_u e 97 k (nI r)) 91 14 u) 91 13 (nI (p + 1))) y t i gl ∧ (∀ j, (zd_u (zd_u (zd_u e 97 k (nI r)) 91 14 u) 91 13 (nI (p + 1))).1 97 j = if j = k then nI r else e.1 97 j) ∧ (zd_u (zd_u (zd_u e 97 k (nI r)) 91 14 u) 91 13 (nI (p + 1))).1 91 13 = nI (p + 1) ∧ (zd_u (zd_u (zd_u e 97 k (nI r)) 91 14 u) 91 13 (nI (p + 1))).1 91 14 = u) := by
    intro u
    refine ⟨((hK.u (c := 97) _ _ (by decide) rfl).f _ rfl).f _ rfl, go2 _ (fun q hq => by rw [zb_ui _ _ _ _ (by omega), zb_ui _ _ _ _ (by omega), zb_uc _ _ _ _ (by decide)]), fun j => ?_, zb_ue _ _ _ _, by rw [zb_ui _ _ _ _ (by decide), zb_ue]⟩
    rw [zb_uc _ _ _ _ (by decide), zb_uc _ _ _ _ (by decide), zb_u]
    by_cases ej : j = k
    · rw [if_pos ⟨rfl, ej⟩, if_pos ej]
    · rw [if_neg (fun w => ej w.2), if_neg ej]
  obtain ⟨u1, u2, u3, u4, u5⟩ := mk (if (bad || !zs_rt k r) = true then 1 else 0)
  refine ⟨r, _, r1, fun w => by omega, by rw [hval, r2], ⟨r4, Or.inr r6⟩, u1, u2, u3, u4, u5, fun e3 h3 => ?_⟩
  rw [hst]
  cases hb : bad with
  | true =>
    rw [hb] at h3
    simp only [Bool.true_or, if_true] at h3
    simp only [Bool.false_eq_true, reduceCtorEq, Nat.not_lt_zero, cond_true, cond_false, ↓reduceIte, if_true, if_false, Option.toList_some, Option.toList_none, List.nil_append, List.cons_append, Option.bind_some, show ¬ (1 : Int32) = 0 by decide, h3, em_176_90a]
  | false =>
    rw [hb] at h3
    simp only [Bool.false_eq_true, reduceCtorEq, Nat.not_lt_zero, cond_true, cond_false, ↓reduceIte, if_true, if_false, Option.toList_some, Option.toList_none, List.nil_append, List.cons_append, Option.bind_some]
    rw [em_176_77, show (zd_u e 97 k (nI r)).1 91 13 = nI p by rw [zb_uc _ _ _ _ (by decide)]; exact h13, nI_1]
    cases hr : zs_rt k r with
    | true =>
      rw [hr] at h3
      simp only [Bool.not_true, Bool.or_self, Bool.false_eq_true, if_false] at h3
      simp only [Bool.false_eq_true, reduceCtorEq, Nat.not_lt_zero, cond_true, cond_false, ↓reduceIte, if_true, if_false, Option.toList_some, Option.toList_none, List.nil_append, List.cons_append, Option.bind_some, show ¬ (1 : Int32) = 0 by decide, h3, em_176_90a]
    | false =>
      rw [hr] at h3
      simp only [Bool.not_false, Bool.or_true, if_true] at h3
      simp only [Bool.false_eq_true, reduceCtorEq, Nat.not_lt_zero, cond_true, cond_false, ↓reduceIte, if_true, if_false, Option.toList_some, Option.toList_none, List.nil_append, List.cons_append, Option.bind_some, h3, em_176_90a]
end ZIter
