/-! ===== the lines that are told, the first eight of them ===== -/
def zs_ot (f : zF) : Nat → Nat
  | 0 => 0
  | k + 1 => if zs_ln f k < 0 then zs_ot f k else zs_ot f k ||| 2 ^ (zs_ln f k).toNatClampNeg
def zs_f8 (T : Nat) : Nat → Nat
  | 0 => 0
  | i + 1 => if T.testBit i = true ∧ zs_cnt (fun l => T.testBit l) i < 8 then zs_f8 T i ||| 2 ^ i else zs_f8 T i
section ZTold
variable {nl : Int32} {a a' b b' : zd_D} {f : zF} {n w : Nat} {nu : Nat → Nat}
theorem zs_pop_cnt (v : Nat) : zs_pop v = zs_cnt (fun l => v.testBit l) 16 := by
  unfold zs_pop
  have : ∀ m, zs_sum (fun l => if v.testBit l = true then 1 else 0) m = zs_cnt (fun l => v.testBit l) m := by
    intro m
    induction m with
    | zero => rfl
    | succ m ih =>
      show zs_sum _ m + _ = zs_cnt _ m + _
      rw [ih]
  exact this 16
theorem zs_ot_lt (hW : zW f n) : ∀ k, k ≤ n → zs_ot f k < 65536
  | 0, _ => show 0 < 65536 by omega
  | k + 1, hk => by
    have ih := zs_ot_lt hW k (by omega)
    unfold zs_ot
    rcases zs_ln_cases (hW.2.2.2 k (by omega)).1 with q | q | ⟨m, hm, q⟩
    · rw [q, if_pos (by decide)]; exact ih
    · rw [q, if_pos (by decide)]; exact ih
    · rw [q, if_neg (nI_pos (by omega)), nI_clamp (by omega)]
      exact Nat.or_lt_two_pow (n := 16) ih (Nat.pow_lt_pow_right (by omega) hm)
theorem zs_f8_bit (T : Nat) : ∀ i t, (zs_f8 T i).testBit t = (decide (t < i) && (T.testBit t && decide (zs_cnt (fun l => T.testBit l) t < 8)))
  | 0, t => by simp [zs_f8]
  | i + 1, t => by
    unfold zs_f8
    have ih := zs_f8_bit T i t
    by_cases c : T.testBit i = true ∧ zs_cnt (fun l => T.testBit l) i < 8
    · rw [if_pos c, Nat.testBit_or, ih, Nat.testBit_two_pow]
      by_cases e : i = t
      · subst e
        simp [c.1, c.2]
      · simp only [e, decide_false, Bool.or_false]
        by_cases l : t < i
        · simp [l, show t < i + 1 by omega]
        · simp [l, show ¬ t < i + 1 by omega]
    · rw [if_neg c, ih]
      by_cases e : i = t
      · subst e
        have : (T.testBit i && decide (zs_cnt (fun l => T.testBit l) i < 8)) = false := by
          rw [Bool.and_eq_false_iff]
          by_cases c1 : T.testBit i = true
          · exact Or.inr (by simp; have : ¬ zs_cnt (fun l => T.testBit l) i < 8 := fun w => c ⟨c1, w⟩; omega)
          · exact Or.inl (by simpa using c1)
        rw [this]
        simp
      · by_cases l : t < i
        · simp [l, show t < i + 1 by omega]
        · simp [l, show ¬ t < i + 1 by omega]
theorem zs_f8_lt (T : Nat) {i : Nat} (hi : i ≤ 16) : zs_f8 T i < 65536 := by
  refine Nat.lt_pow_two_of_testBit (n := 16) _ fun t ht => ?_
  rw [zs_f8_bit, decide_eq_false (by omega)]
  rfl
theorem zs_cnt_f8 (T i : Nat) : ∀ j, zs_cnt (fun l => (zs_f8 T i).testBit l) j = min 8 (zs_cnt (fun l => T.testBit l) (min i j))
  | 0 => by rw [Nat.min_zero]; rfl
  | j + 1 => by
    rw [zs_cnt_step, zs_cnt_f8 T i j, zs_f8_bit]
    by_cases h : j < i
    · rw [show min i (j + 1) = j + 1 by omega, show min i j = j by omega, zs_cnt_step]
      by_cases c : T.testBit j = true
      · simp only [h, c, decide_true, Bool.true_and, if_true, decide_eq_true_eq]
        split <;> omega
      · simp only [c, if_false, Bool.false_and, Bool.and_false, Bool.false_eq_true]
        omega
    · rw [show min i (j + 1) = i by omega, show min i j = i by omega]
      simp [h]
theorem zs_f8_all (T : Nat) {i : Nat} (h : ¬ zs_cnt (fun l => T.testBit l) i < 8) : ∀ j, i ≤ j → zs_f8 T j = zs_f8 T i := by
  intro j hj
  induction hj with
  | refl => rfl
  | @step m hj ih =>
    show (if T.testBit m = true ∧ zs_cnt (fun l => T.testBit l) m < 8 then zs_f8 T m ||| 2 ^ m else zs_f8 T m) = _
    rw [if_neg (fun w => h (by have := zs_cnt_up (fun l => T.testBit l) hj; omega)), ih]
theorem rx_lines (hW : zW f n) (hP : zAP a f n) : zx nl 130 0 [z_r 3, z_i 8, none, none, none] [] a = some (some (.inl (nI (zs_f8 (zs_ot f n) 16))), a) := by
  have hn := hW.le
  have hT := zs_ot_lt hW n (Nat.le_refl _)
  rw [ex_130_0]
  have := zl_eq (G := fun k => zx nl 130 5 [z_r 3, z_i 8, z_i (nI (zs_ot f k)), z_i (nI k), none] [] a) (n := n) (by
    intro k hk
    (try dsimp only)
    have h9 : a.1 9 k = zs_ln f k := (hP.1.2 k hk).2.2.2.2.2
    rw [ex_130_5, show a.1 3 0 = nI n from hP.1.1, if_pos (nI_lt hk (by omega)), zb_in (show k < 28 by omega) (by omega), nI_clamp (show k < 2 ^ 31 by omega), h9, nI_1]
    simp only [Bool.false_eq_true, reduceCtorEq, Nat.not_lt_zero, cond_true, cond_false, ↓reduceIte, if_true, if_false, Option.toList_some, Option.toList_none, List.nil_append, List.cons_append, Option.bind_some]
    show _ = zx nl 130 5 [z_r 3, z_i 8, z_i (nI (if zs_ln f k < 0 then zs_ot f k else zs_ot f k ||| 2 ^ (zs_ln f k).toNatClampNeg)), z_i (nI (k + 1)), none] [] a
    rcases zs_ln_cases (hW.2.2.2 k hk).1 with q | q | ⟨m, hm, q⟩
    · rw [q, if_pos (by decide), if_pos (by decide)]
    · rw [q, if_pos (by decide), if_pos (by decide)]
    · rw [q, if_neg (nI_pos (by omega)), if_neg (nI_pos (by omega)), nI_clamp (by omega), zb_1s (by omega), zb_or]) n (Nat.le_refl _)
  refine Eq.trans this ?_
  (try dsimp only)
  rw [ex_130_5, show a.1 3 0 = nI n from hP.1.1, if_neg (nI_nlt (Nat.le_refl _) (by omega))]
  generalize zs_ot f n = T at *
  have key : ∀ d i, 16 - i = d → i ≤ 16 → zx nl 130 30 [none, z_i 8, z_i (nI T), z_i (nI (zs_f8 T i)), z_i (nI i)] [] a = some (some (.inl (nI (zs_f8 T 16))), a) := by
    intro d
    induction d with
    | zero =>
      intro i hd hi
      have : i = 16 := by omega
      subst this
      rw [ex_130_30, if_neg (show ¬ nI 16 < 16 by decide)]
    | succ d ih =>
      intro i hd hi
      have hpop : zs_pop (zs_f8 T i) = min 8 (zs_cnt (fun l => T.testBit l) i) := by rw [zs_pop_cnt, zs_cnt_f8, show min i 16 = i by omega]
      rw [ex_130_30, if_pos (show nI i < 16 from nI_lt (b := 16) (by omega) (by omega)), rx_bits (zs_f8_lt T hi), hpop]
      simp only [Bool.false_eq_true, reduceCtorEq, Nat.not_lt_zero, cond_true, cond_false, ↓reduceIte, if_true, if_false, Option.toList_some, Option.toList_none, List.nil_append, List.cons_append, Option.bind_some]
      rw [ex_130_35]
      by_cases c : zs_cnt (fun l => T.testBit l) i < 8
      · rw [if_pos (show nI (min 8 (zs_cnt (fun l => T.testBit l) i)) < 8 from nI_lt (b := 8) (by omega) (by omega)), zb_1s (by omega), zb_and, zb_or, nI_1]
        have : zs_f8 T i ||| T &&& 2 ^ i = zs_f8 T (i + 1) := by
          rw [show zs_f8 T (i + 1) = if T.testBit i = true ∧ zs_cnt (fun l => T.testBit l) i < 8 then zs_f8 T i ||| 2 ^ i else zs_f8 T i from rfl]
          apply Nat.eq_of_testBit_eq
          intro s
          by_cases cb : T.testBit i = true
          · rw [if_pos ⟨cb, c⟩, Nat.testBit_or, Nat.testBit_or, Nat.testBit_and, Nat.testBit_two_pow]
            by_cases e : i = s
            · subst e; rw [cb]; rfl
            · simp [e]
          · rw [if_neg (fun w => cb w.1), Nat.testBit_or, Nat.testBit_and, Nat.testBit_two_pow]
            by_cases e : i = s
            · subst e; rw [show T.testBit i = false by simpa using cb]; simp
            · simp [e]
        rw [this]
        exact ih (i + 1) (by omega) (by omega)
      · rw [if_neg (show ¬ nI (min 8 (zs_cnt (fun l => T.testBit l) i)) < 8 from nI_nlt (b := 8) (by omega) (by omega)), zs_f8_all T c 16 hi]
  exact key 16 0 rfl (by omega)
theorem rm_lines (hW : zW f n) (hV : zV 92 b f) : ∃ b', zm 255 0 [z_r 91, none, none] [] b = some (none, b') ∧ zK 91 [122] [46] b b' ∧ b'.1 91 46 = nI (min 8 (zs_cnt (fun l => (zs_ot f n).testBit l) 16)) ∧ ∀ t, t < 16 → (zs_ot f n).testBit t = true → zs_cnt (fun l => (zs_ot f n).testBit l) t < 8 → b'.1 122 (zs_cnt (fun l => (zs_ot f n).testBit l) t) = nI t := by
  have hn := hW.le
  have hT := zs_ot_lt hW n (Nat.le_refl _)
  rw [em_255_0]
  have := zl_eq (G := fun k => zm 255 5 [z_r 91, z_i (nI (zs_ot f k)), z_i (nI k)] [] b) (n := n) (by
    intro k hk
    (try dsimp only)
    rw [em_255_5, hV.sz hW, if_pos (nI_lt hk (by omega)), rm_line hW hV hk]
    simp only [Bool.false_eq_true, reduceCtorEq, Nat.not_lt_zero, cond_true, cond_false, ↓reduceIte, if_true, if_false, Option.toList_some, Option.toList_none, List.nil_append, List.cons_append, Option.bind_some]
    rw [em_255_15, rm_line hW hV hk, nI_1]
    simp only [Bool.false_eq_true, reduceCtorEq, Nat.not_lt_zero, cond_true, cond_false, ↓reduceIte, if_true, if_false, Option.toList_some, Option.toList_none, List.nil_append, List.cons_append, Option.bind_some]
    rw [em_255_20, nI_1]
    show _ = zm 255 5 [z_r 91, z_i (nI (if zs_ln f k < 0 then zs_ot f k else zs_ot f k ||| 2 ^ (zs_ln f k).toNatClampNeg)), z_i (nI (k + 1))] [] b
    rcases zs_ln_cases (hW.2.2.2 k hk).1 with q | q | ⟨m, hm, q⟩
    · rw [q, if_pos (by decide), if_pos (by decide), show (0 : Int32) = nI 0 from rfl, zb_or, Nat.or_zero]
    · rw [q, if_pos (by decide), if_pos (by decide), show (0 : Int32) = nI 0 from rfl, zb_or, Nat.or_zero]
    · rw [q, if_neg (nI_pos (by omega)), if_neg (nI_pos (by omega)), nI_clamp (by omega), zb_1s (by omega), zb_or]) n (Nat.le_refl _)
  have e0 : zm 255 5 [z_r 91, z_i 0, z_i 0] [] b = zm 255 5 [z_r 91, z_i (nI (zs_ot f n)), z_i (nI n)] [] b := this
  rw [e0, em_255_5, hV.sz hW, if_neg (nI_nlt (Nat.le_refl _) (by omega))]
  generalize zs_ot f n = T at *
  obtain ⟨b1, ⟨k1, k2, k3⟩, e⟩ := zl_to (F := fun i d => zm 255 33 [z_r 91, z_i (nI T), z_i (nI i)] [] d) (I := fun i d => zK 91 [122] [46] b d ∧ d.1 91 46 = nI (min 8 (zs_cnt (fun l => T.testBit l) i)) ∧ ∀ t, t < i → T.testBit t = true → zs_cnt (fun l => T.testBit l) t < 8 → d.1 122 (zs_cnt (fun l => T.testBit l) t) = nI t) (n := 16) (by
    intro i d hi ⟨h1, h2, h3⟩
    (try dsimp only)
    have hbit := zb_bit1 (v := T) (q := i) (by omega) (by omega)
    rw [em_255_33, if_pos (show nI i < 16 from nI_lt (b := 16) (by omega) (by omega)), h2]
    by_cases c : T.testBit i = true
    · rw [if_pos (hbit.mpr c)]
      by_cases c8 : zs_cnt (fun l => T.testBit l) i < 8
      · rw [show min 8 (zs_cnt (fun l => T.testBit l) i) = zs_cnt (fun l => T.testBit l) i by omega, if_pos (show nI (zs_cnt (fun l => T.testBit l) i) < 8 from nI_lt (b := 8) c8 (by omega)), zb_in c8 (by omega), nI_clamp (by omega), nI_1, nI_1]
        refine ⟨_, ⟨(h1.u (c := 122) _ _ (by decide) rfl).f _ rfl, ?_, fun t ht ct c8t => ?_⟩, rfl⟩
        · rw [zb_ue, zs_cnt_step, if_pos c, show min 8 (zs_cnt (fun l => T.testBit l) i + 1) = zs_cnt (fun l => T.testBit l) i + 1 by omega]
        · rw [zb_uc _ _ _ _ (by decide), zb_u]
          by_cases et : t = i
          · subst et; rw [if_pos ⟨rfl, rfl⟩]
          · have hup := zs_cnt_up (fun l => T.testBit l) (show t + 1 ≤ i by omega)
            rw [zs_cnt_step, if_pos ct] at hup
            rw [if_neg (fun w => by omega)]
            exact h3 t (by omega) ct c8t
      · rw [if_neg (show ¬ nI (min 8 (zs_cnt (fun l => T.testBit l) i)) < 8 from nI_nlt (b := 8) (by omega) (by omega)), nI_1]
        refine ⟨d, ⟨h1, ?_, fun t ht ct c8t => ?_⟩, rfl⟩
        · rw [h2, zs_cnt_step, if_pos c, show min 8 (zs_cnt (fun l => T.testBit l) i + 1) = min 8 (zs_cnt (fun l => T.testBit l) i) by omega]
        · by_cases et : t = i
          · subst et; exact absurd c8t c8
          · exact h3 t (by omega) ct c8t
    · rw [if_neg (fun w => c (hbit.mp w)), nI_1]
      refine ⟨d, ⟨h1, ?_, fun t ht ct c8t => ?_⟩, rfl⟩
      · rw [h2, zs_cnt_step, if_neg c, Nat.add_zero]
      · by_cases et : t = i
        · subst et; exact absurd ct c
        · exact h3 t (by omega) ct c8t) 0 (zd_u b 91 46 0) (by omega) ⟨zK.rf.f _ rfl, zb_ue _ _ _ _, fun t ht => by omega⟩
  refine ⟨b1, ?_, k1, k2, k3⟩
  refine Eq.trans e ?_
  (try dsimp only)
  rw [em_255_33, if_neg (show ¬ nI 16 < 16 by decide)]
/-- two lines of one rank are one -/
theorem zs_cnt_inj {p : Nat → Bool} {s t : Nat} (hs : p s = true) (ht : p t = true) (h : zs_cnt p s = zs_cnt p t) : s = t := by
  rcases Nat.lt_trichotomy s t with c | c | c
  · have hup := zs_cnt_up p (show s + 1 ≤ t by omega)
    rw [zs_cnt_step, if_pos hs] at hup
    omega
  · exact c
  · have hup := zs_cnt_up p (show t + 1 ≤ s by omega)
    rw [zs_cnt_step, if_pos ht] at hup
    omega
theorem rm_setof {T : Nat} (h46 : b.1 91 46 = nI (min 8 (zs_cnt (fun l => T.testBit l) 16))) (h122 : ∀ t, t < 16 → T.testBit t = true → zs_cnt (fun l => T.testBit l) t < 8 → b.1 122 (zs_cnt (fun l => T.testBit l) t) = nI t) {i : Nat} (hi : i < 2 ^ (min 8 (zs_cnt (fun l => T.testBit l) 16))) : zm 256 0 [z_r 91, z_i (nI i), none, none] [] b = some (some (.inl (nI (zs_pd 32 (zs_f8 T 16) i))), b) := by
  have hO := zs_f8_lt T (Nat.le_refl 16)
  have h256 : i < 2 ^ 8 := Nat.lt_of_lt_of_le hi (Nat.pow_le_pow_right (by omega) (by omega))
  generalize hm : min 8 (zs_cnt (fun l => T.testBit l) 16) = m at *
  rw [em_256_0]
  have := zl_eq (G := fun j => zm 256 5 [z_r 91, z_i (nI i), z_i (nI (zs_pd 32 (zs_f8 T 16) (i % 2 ^ j))), z_i (nI j)] [] b) (n := m) (by
    intro j hj
    (try dsimp only)
    obtain ⟨t, ht, ct, et⟩ := zs_cnt_ex (p := fun l => T.testBit l) (m := 16) (j := j) (by omega)
    have ct : T.testBit t = true := ct
    have c8 : zs_cnt (fun l => T.testBit l) t < 8 := by omega
    have hl := h122 t ht ct c8
    rw [et] at hl
    have hOt : (zs_f8 T 16).testBit t = true := by rw [zs_f8_bit, decide_eq_true ht, ct, decide_eq_true c8]; rfl
    have hct : zs_cnt (fun l => (zs_f8 T 16).testBit l) t = j := by rw [zs_cnt_f8, show min 16 t = t by omega]; omega
    have hbit := zb_bit1 (v := i) (q := j) (by omega) (by omega)
    have step : ∀ s, (zs_pd 32 (zs_f8 T 16) (i % 2 ^ (j + 1))).testBit s = ((zs_pd 32 (zs_f8 T 16) (i % 2 ^ j)).testBit s || (decide (t = s) && i.testBit j)) := by
      intro s
      rw [zs_pd_bit 32 _ _ _ (by omega), zs_pd_bit 32 _ _ _ (by omega), Nat.testBit_mod_two_pow, Nat.testBit_mod_two_pow]
      by_cases e : t = s
      · subst e
        rw [hct, hOt]
        simp
      · simp only [e, decide_false, Bool.false_and, Bool.or_false]
        by_cases cs : (zs_f8 T 16).testBit s = true
        · have : ¬ zs_cnt (fun l => (zs_f8 T 16).testBit l) s = j := fun w => e (zs_cnt_inj hOt cs (by rw [hct, w]))
          rw [cs]
          by_cases l : zs_cnt (fun l => (zs_f8 T 16).testBit l) s < j
          · simp [l, show zs_cnt (fun l => (zs_f8 T 16).testBit l) s < j + 1 by omega]
          · simp [l, show ¬ zs_cnt (fun l => (zs_f8 T 16).testBit l) s < j + 1 by omega]
        · rw [show (zs_f8 T 16).testBit s = false by simpa using cs]; rfl
    rw [em_256_5, h46, if_pos (nI_lt hj (by omega)), nI_clamp (show j < 2 ^ 31 by omega), hl, zb_in (show j < 8 by omega) (by omega), nI_1]
    by_cases c : i.testBit j = true
    · rw [if_pos (hbit.mpr c), cond_true, zb_1s (by omega), zb_or]
      have : zs_pd 32 (zs_f8 T 16) (i % 2 ^ j) ||| 2 ^ t = zs_pd 32 (zs_f8 T 16) (i % 2 ^ (j + 1)) := by
        apply Nat.eq_of_testBit_eq
        intro s
        rw [step, Nat.testBit_or, Nat.testBit_two_pow, c, Bool.and_true]
      rw [this]
    · rw [if_neg (fun w => c (hbit.mp w)), show (0 : Int32) = nI 0 from rfl, zb_or, Nat.or_zero]
      have : zs_pd 32 (zs_f8 T 16) (i % 2 ^ j) = zs_pd 32 (zs_f8 T 16) (i % 2 ^ (j + 1)) := by
        apply Nat.eq_of_testBit_eq
        intro s
        rw [step, show i.testBit j = false by simpa using c, Bool.and_false, Bool.or_false]
      rw [this]) m (Nat.le_refl _)
  have z : zs_pd 32 (zs_f8 T 16) (i % 2 ^ 0) = 0 := by
    apply Nat.eq_of_testBit_eq
    intro s
    rw [zs_pd_bit 32 _ _ _ (by omega), Nat.pow_zero, Nat.mod_one]
    simp
  (try dsimp only at this)
  rw [z] at this
  refine Eq.trans this ?_
  rw [em_256_5, h46, if_neg (nI_nlt (Nat.le_refl _) (by omega)), Nat.mod_eq_of_lt hi]
end ZTold
