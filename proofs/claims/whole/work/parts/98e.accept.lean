/-! ===== calls: machine, the end ===== -/
section ZAccept
variable {nl : Int32} {a a' b b' : zd_D} {f f' : zF} {n w : Nat} {nu : Nat → Nat}
theorem zs_any_cg {p q : Nat → Bool} : ∀ n, (∀ i, i < n → p i = q i) → zs_any p n = zs_any q n
  | 0, _ => rfl
  | n + 1, h => by
    show (zs_any p n || p n) = (zs_any q n || q n)
    rw [zs_any_cg n (fun i hi => h i (by omega)), h n (by omega)]
theorem zs_mach_rt (h : zs_mach f) : ∀ k, k < 8 → ∃ r, r < 1000 ∧ f k = nI r ∧ zs_rt k r = true ∧ ((k = 2 ∨ k = 5) → r ≤ 2) := by
  obtain ⟨⟨h0, h1⟩, h2, ⟨r3, h3, e3⟩, ⟨r4, h4, e4⟩, h5, ⟨r6, h6, e6⟩, ⟨r7, h7, e7⟩⟩ := h
  intro k hk
  have hk8 : k = 0 ∨ k = 1 ∨ k = 2 ∨ k = 3 ∨ k = 4 ∨ k = 5 ∨ k = 6 ∨ k = 7 := by omega
  rcases hk8 with rfl | rfl | rfl | rfl | rfl | rfl | rfl | rfl
  · rcases h0 with q | q | q
    · exact ⟨1, by omega, q, by decide, by omega⟩
    · exact ⟨2, by omega, q, by decide, by omega⟩
    · exact ⟨4, by omega, q, by decide, by omega⟩
  · rcases h1 with q | q | q
    · exact ⟨1, by omega, q, by decide, by omega⟩
    · exact ⟨2, by omega, q, by decide, by omega⟩
    · exact ⟨4, by omega, q, by decide, by omega⟩
  · rcases h2 with q | q | q
    · exact ⟨0, by omega, q, by decide, by omega⟩
    · exact ⟨1, by omega, q, by decide, by omega⟩
    · exact ⟨2, by omega, q, by decide, by omega⟩
  · exact ⟨r3, by omega, e3, decide_eq_true h3, by omega⟩
  · exact ⟨r4, by omega, e4, decide_eq_true h4, by omega⟩
  · rcases h5 with q | q | q
    · exact ⟨0, by omega, q, by decide, by omega⟩
    · exact ⟨1, by omega, q, by decide, by omega⟩
    · exact ⟨2, by omega, q, by decide, by omega⟩
  · exact ⟨r6, by omega, e6, decide_eq_true h6, by omega⟩
  · exact ⟨r7, by omega, e7, decide_eq_true h7, by omega⟩
theorem zs_mach_of (h : ∀ k, k < 8 → ∃ r, f k = nI r ∧ zs_rt k r = true ∧ ((k = 2 ∨ k = 5) → r ≤ 2)) : zs_mach f := by
  have t01 : ∀ k, k < 2 → f k = nI 1 ∨ f k = nI 2 ∨ f k = nI 4 := by
    intro k hk
    obtain ⟨r, e, q, -⟩ := h k (by omega)
    unfold zs_rt at q
    rw [if_pos hk] at q
    rcases of_decide_eq_true q with c | c | c
    · exact Or.inl (by rw [e, c])
    · exact Or.inr (Or.inl (by rw [e, c]))
    · exact Or.inr (Or.inr (by rw [e, c]))
  have t25 : ∀ k, (k = 2 ∨ k = 5) → f k = nI 0 ∨ f k = nI 1 ∨ f k = nI 2 := by
    intro k hk
    obtain ⟨r, e, -, q⟩ := h k (by omega)
    have q := q hk
    have : r = 0 ∨ r = 1 ∨ r = 2 := by omega
    rcases this with c | c | c
    · exact Or.inl (by rw [e, c])
    · exact Or.inr (Or.inl (by rw [e, c]))
    · exact Or.inr (Or.inr (by rw [e, c]))
  have t9 : ∀ k, k < 8 → ¬ k < 2 → ¬ k = 3 → ∃ r, r ≤ 9 ∧ f k = nI r := by
    intro k hk h1 h2
    obtain ⟨r, e, q, -⟩ := h k hk
    unfold zs_rt at q
    rw [if_neg h1, if_neg h2] at q
    exact ⟨r, of_decide_eq_true q, e⟩
  refine ⟨⟨t01 0 (by omega), t01 1 (by omega)⟩, t25 2 (by omega), ?_, t9 4 (by omega) (by omega) (by omega), t25 5 (by omega), t9 6 (by omega) (by omega) (by omega), t9 7 (by omega) (by omega) (by omega)⟩
  obtain ⟨r, e, q, -⟩ := h 3 (by omega)
  exact ⟨r, of_decide_eq_true q, e⟩
theorem rx_accept {g : Nat → Nat} {x : Int32} (hd : ∀ k, k < 8 → a.1 37 k = nI (g k) ∧ g k < 1000) : zx nl 20 0 [z_r 35, z_r 2, z_i x, none] [] a = if zs_any (fun k => !zs_rt k (g k)) 8 = true then some (some (.inl (-1000000002)), a) else some (some (.inl x), zd_s a 2 (va_cpy (a.1 37) (a.1 2) 0 0 8)) := by
  have key : ∀ m k, k + m = 8 → zs_any (fun k => !zs_rt k (g k)) k = false → zx nl 20 3 [z_r 35, z_r 2, z_i x, z_i (nI k)] [] a = if zs_any (fun k => !zs_rt k (g k)) 8 = true then some (some (.inl (-1000000002)), a) else some (some (.inl x), zd_s a 2 (va_cpy (a.1 37) (a.1 2) 0 0 8)) := by
    intro m
    induction m with
    | zero =>
      intro k hk ha
      have : k = 8 := by omega
      subst this
      rw [ex_20_3, if_neg (show ¬ nI 8 < 8 by decide), ha, if_neg (by decide)]
    | succ m ih =>
      intro k hk ha
      obtain ⟨h1, h2⟩ := hd k (by omega)
      rw [ex_20_3, if_pos (show nI k < 8 from nI_lt (b := 8) (by omega) (by omega)), zb_in (by omega) (by omega), cond_true, nI_clamp (by omega), h1, rx_isright (by omega) h2]
      simp only [Bool.false_eq_true, reduceCtorEq, Nat.not_lt_zero, cond_true, cond_false, ↓reduceIte, if_true, if_false, Option.toList_some, Option.toList_none, List.nil_append, List.cons_append, Option.bind_some]
      rw [ex_20_12, nI_1]
      cases hr : zs_rt k (g k) with
      | true =>
        rw [if_pos rfl, if_neg (by decide)]
        refine ih (k + 1) (by omega) ?_
        show (zs_any _ k || !zs_rt k (g k)) = false
        rw [ha, hr]; rfl
      | false =>
        rw [if_pos (show (if false = true then (1 : Int32) else 0) = 0 from rfl), if_pos (zs_any_iff.mpr ⟨k, by omega, by rw [hr]; rfl⟩)]
  rw [ex_20_0]
  exact key 8 0 (by omega) rfl
theorem rm_accept {tl : Nat → Bool} {v : Nat → Nat} {e : zd_D} (h97 : ∀ k, k < 8 → e.1 97 k = if tl k = true then nI (v k) else -1) (hv : ∀ k, k < 8 → tl k = true → v k < 1000) : ∃ e', zm 170 58 [z_r 91, none, z_i 0] [] e = some (some (.inl (e.1 91 13)), e') ∧ zK 91 [92] [19] e e' ∧ e'.1 91 19 = 0 ∧ (∀ i, 8 ≤ i → e'.1 92 i = e.1 92 i) ∧ ∀ i, i < 8 → e'.1 92 i = if tl i = true then nI (v i) else e.1 92 i := by
  obtain ⟨d, ⟨k1, k2⟩, e1⟩ := zl_to (F := fun j d => zm 170 58 [z_r 91, none, z_i (nI j)] [] d) (I := fun j d => zK 91 [92] [] e d ∧ ∀ i, d.1 92 i = if i < j ∧ tl i = true then nI (v i) else e.1 92 i) (n := 8) (fun j d hj ⟨q1, q2⟩ => by
    show ∃ d', _ ∧ zm 170 58 [z_r 91, none, z_i (nI j)] [] d = zm 170 58 [z_r 91, none, z_i (nI (j + 1))] [] d'
    have h97d : d.1 97 j = if tl j = true then nI (v j) else -1 := by rw [q1.1 97 (by decide) rfl]; exact h97 j hj
    rw [em_170_58, if_pos (show nI j < 8 from nI_lt (b := 8) (by omega) (by omega)), zb_in hj (by omega), zb_in (show j < 1020 by omega) (by omega), cond_true, cond_true, cond_true, nI_clamp (show j < 2 ^ 31 by omega), nI_1, h97d]
    have up : ∀ x : Int32, (x = if tl j = true then nI (v j) else e.1 92 j) → ∀ i, (zd_u d 92 j x).1 92 i = if i < j + 1 ∧ tl i = true then nI (v i) else e.1 92 i := by
      intro x hx i
      rw [zb_u]
      by_cases c : i = j
      · subst c
        rw [if_pos ⟨rfl, rfl⟩, hx]
        by_cases t : tl i = true
        · rw [if_pos t, if_pos ⟨by omega, t⟩]
        · rw [if_neg t, if_neg (fun w => t w.2)]
      · rw [if_neg (fun w => c w.2), q2 i]
        by_cases t : i < j ∧ tl i = true
        · rw [if_pos t, if_pos ⟨by omega, t.2⟩]
        · rw [if_neg t, if_neg (fun w => t ⟨by omega, w.2⟩)]
    cases ht : tl j with
    | true =>
      rw [if_pos rfl, if_neg (nI_pos (by have := hv j hj ht; omega))]
      exact ⟨_, ⟨q1.u _ _ (by decide) rfl, up _ (by rw [if_pos ht])⟩, rfl⟩
    | false =>
      rw [if_neg (show ¬ false = true by decide), if_pos (show (-1 : Int32) < 0 by decide)]
      exact ⟨_, ⟨q1.u _ _ (by decide) rfl, up _ (by rw [if_neg (by rw [ht]; decide), q2 j, if_neg (by omega)])⟩, rfl⟩) 0 e (by omega) ⟨zK.rf, fun i => by rw [if_neg (by omega)]⟩
  have e1 : zm 170 58 [z_r 91, none, z_i 0] [] e = zm 170 58 [z_r 91, none, z_i (nI 8)] [] d := e1
  rw [e1, em_170_58, if_neg (show ¬ nI 8 < 8 by decide), k1.2.1 13 rfl]
  refine ⟨_, rfl, (k1.up rfl rfl).f _ rfl, zb_ue _ _ _ _, fun i hi => ?_, fun i hi => ?_⟩
  · rw [zb_uc _ _ _ _ (by decide), k2, if_neg (by omega)]
  · rw [zb_uc _ _ _ _ (by decide), k2]
    by_cases t : tl i = true
    · rw [if_pos t, if_pos ⟨hi, t⟩]
    · rw [if_neg t, if_neg (fun w => t w.2)]
end ZAccept
