/-! ===== the least bound of some sets: what both look for ===== -/
def zs_sub (r s : Nat) : Prop := ∀ t, r.testBit t = true → s.testBit t = true
/-- the least, by bound, then by how many lines, then by place -/
def zs_lx (V : Nat → Nat) (K N r : Nat) : Prop := (r < N ∧ zs_pop r ≤ K) ∧ ∀ j, j < N → zs_pop j ≤ K → V r < V j ∨ V r = V j ∧ (zs_pop r < zs_pop j ∨ zs_pop r = zs_pop j ∧ r ≤ j)
/-- the first of a size that is least, where all that is low enough counts alike -/
def zs_fm (V : Nat → Nat) (s E N r : Nat) : Prop := (r < N ∧ zs_pop r = s) ∧ ∀ j, j < N → zs_pop j = s → max (V r) E < max (V j) E ∨ max (V r) E = max (V j) E ∧ r ≤ j
section ZLeast
variable {nl : Int32} {a a' b b' : zd_D} {f : zF} {n w : Nat} {nu : Nat → Nat}
theorem zs_lx_eq {V : Nat → Nat} {K N r s : Nat} (h : zs_lx V K N r) (h' : zs_lx V K N s) : r = s := by
  have q := h.2 s h'.1.1 h'.1.2
  have q' := h'.2 r h.1.1 h.1.2
  omega
theorem zs_lk_bit {r l : Nat} (hr : r < 2 ^ 31) (hl : l < 32) : zs_lk (nI r) (nI l) = true ↔ r.testBit l = true := by
  unfold zs_lk
  rw [decide_eq_true_eq]
  exact zb_bit1 hr hl
theorem zs_bd_all (hW : zW f n) (hmust : ∀ lk, zs_must f n lk (zs_X f n lk)) {lk0 : Int32} {ms : Nat} (hms : ms < 2000) (h : ¬ zs_bd f n (zs_ec f n lk0 ms) nu < 0) : (∀ lk, ∃ v, v < 2000000000 ∧ zs_bd f n (zs_ec f n lk ms) nu = nI v) ∧ ∀ lk lk' : Int32, (∀ l, l < 16 → zs_lk lk (nI l) = true → zs_lk lk' (nI l) = true) → (zs_bd f n (zs_ec f n lk' ms) nu).toNatClampNeg ≤ (zs_bd f n (zs_ec f n lk ms) nu).toNatClampNeg := by
  have hn := hW.le
  by_cases h0 : n = 0
  · subst h0
    refine ⟨fun lk => ⟨0, by omega, by rw [zs_bd_0]; rfl⟩, fun lk lk' _ => by rw [zs_bd_0, zs_bd_0]; exact Nat.le_refl _⟩
  by_cases hno : zs_no f n nu
  · rw [zs_bd_no h0 hno] at h; exact absurd (by decide) h
  by_cases h6 : 600 < zs_M nu (zs_B f n n)
  · rw [zs_bd_sp h0 hno h6] at h; exact absurd (by decide) h
  have hM := zs_M_pos nu (zs_B f n n)
  rw [zs_bd_go h0 hno h6] at h
  have cmp : ∀ lk lk' : Int32, (∀ l, l < 16 → zs_lk lk (nI l) = true → zs_lk lk' (nI l) = true) → zs_S f n (zs_ec f n lk' ms) nu (zs_M nu (zs_B f n n) - 1) 0 ≤ zs_S f n (zs_ec f n lk ms) nu (zs_M nu (zs_B f n n) - 1) 0 ∧ (zs_S f n (zs_ec f n lk' ms) nu (zs_M nu (zs_B f n n) - 1) 0 = 0 ↔ zs_S f n (zs_ec f n lk ms) nu (zs_M nu (zs_B f n n) - 1) 0 = 0) := fun lk lk' hs => zs_S_mono (fun e he => zs_ec_mono hW (hmust lk) (hmust lk') hs ms he) (zs_S_bs hn) (zs_S_bs hn) _ 0 (by omega) (by omega)
  have hz : ∀ lk : Int32, ¬ zs_S f n (zs_ec f n lk ms) nu (zs_M nu (zs_B f n n) - 1) 0 = 0 := by
    intro lk hlk
    have none0 : ∀ l, l < 16 → ¬ zs_lk (nI 0) (nI l) = true := fun l hl w => by
      rw [zs_lk_bit (by omega) (by omega)] at w
      simp at w
    have c1 := (cmp (nI 0) lk (fun l hl w => absurd w (none0 l hl))).2.mp hlk
    have c2 := (cmp (nI 0) lk0 (fun l hl w => absurd w (none0 l hl))).2.mpr c1
    rw [if_pos c2] at h
    exact absurd (by decide) h
  have hle : ∀ lk : Int32, zs_S f n (zs_ec f n lk ms) nu (zs_M nu (zs_B f n n) - 1) 0 ≤ 1 + 2100 * (29 * (zs_M nu (zs_B f n n) - 1) + (n - 0)) := fun lk => zs_S_le hn (fun e _ => zs_ec_le hW hms e) (zs_S_bs hn) _ 0 (by omega) (by omega)
  refine ⟨fun lk => ⟨zs_S f n (zs_ec f n lk ms) nu (zs_M nu (zs_B f n n) - 1) 0 - 1, ?_, ?_⟩, fun lk lk' hs => ?_⟩
  · have := hle lk
    omega
  · rw [zs_bd_go h0 hno h6, if_neg (hz lk)]
  · have q := (cmp lk lk' hs).1
    have w := hle lk
    have w' := hle lk'
    rw [zs_bd_go h0 hno h6, zs_bd_go h0 hno h6, if_neg (hz lk), if_neg (hz lk'), nI_clamp (by omega), nI_clamp (by omega)]
    omega
/-- as many lines as bits -/
theorem zs_cnt_rank (p q : Nat → Bool) : ∀ w, zs_cnt (fun t => p t && q (zs_cnt p t)) w = zs_cnt q (zs_cnt p w)
  | 0 => rfl
  | w + 1 => by
    rw [zs_cnt_step, zs_cnt_step, zs_cnt_rank p q w]
    by_cases c : p w = true
    · rw [c, Bool.true_and, if_pos rfl, zs_cnt_step]
    · rw [show p w = false by simpa using c, Bool.false_and]
      simp
theorem zs_cnt_top {i m : Nat} (hi : i < 2 ^ m) : ∀ w, m ≤ w → zs_cnt (fun l => i.testBit l) w = zs_cnt (fun l => i.testBit l) m := by
  intro w hw
  induction hw with
  | refl => rfl
  | @step k hk ih =>
    rw [zs_cnt_step, ih, Nat.testBit_lt_two_pow (Nat.lt_of_lt_of_le hi (Nat.pow_le_pow_right (by omega) hk))]
    simp
theorem zs_pop_pd {O i : Nat} (hO : O < 65536) (hi : i < 2 ^ zs_pop O) : zs_pop (zs_pd 32 O i) = zs_pop i := by
  have h16 := zs_cnt_le (fun l => O.testBit l) 16
  rw [zs_pop_cnt] at hi
  rw [zs_pop_cnt, zs_pop_cnt, zs_cnt_top hi 16 h16, ← zs_cnt_rank (fun l => O.testBit l) (fun l => i.testBit l) 16]
  exact zs_cnt_congr 16 (fun t _ => zs_pd_bit 32 O i t (by omega))
/-- a set can grow, line by line -/
theorem zs_grow {m : Nat} (hm : m ≤ 16) : ∀ d i, i < 2 ^ m → zs_pop i + d ≤ m → ∃ j, j < 2 ^ m ∧ zs_pop j = zs_pop i + d ∧ zs_sub i j
  | 0, i, hi, _ => ⟨i, hi, rfl, fun _ h => h⟩
  | d + 1, i, hi, h => by
    -- a place that is free
    have hfree : ∃ t, t < m ∧ i.testBit t = false := by
      apply Classical.byContradiction
      intro hc
      have hall : ∀ t, t < m → i.testBit t = true := fun t ht => by
        cases e : i.testBit t with
        | true => rfl
        | false => exact absurd ⟨t, ht, e⟩ hc
      have : zs_cnt (fun l => i.testBit l) m = m := by
        have : ∀ k, k ≤ m → zs_cnt (fun l => i.testBit l) k = k := by
          intro k
          induction k with
          | zero => intro _; rfl
          | succ k ih => intro hk; rw [zs_cnt_step, ih (by omega), hall k (by omega)]; rfl
        exact this m (Nat.le_refl _)
      rw [zs_pop_cnt, zs_cnt_top hi 16 hm] at h
      omega
    obtain ⟨t, ht, hb⟩ := hfree
    have h2 : i ||| 2 ^ t < 2 ^ m := Nat.or_lt_two_pow hi (Nat.pow_lt_pow_right (by omega) ht)
    have hpop : zs_pop (i ||| 2 ^ t) = zs_pop i + 1 := by
      rw [zs_pop_cnt, zs_pop_cnt]
      have : ∀ k, zs_cnt (fun l => (i ||| 2 ^ t).testBit l) k = zs_cnt (fun l => i.testBit l) k + (if t < k then 1 else 0) := by
        intro k
        induction k with
        | zero => simp [zs_cnt]
        | succ k ih =>
          rw [zs_cnt_step, zs_cnt_step, ih, Nat.testBit_or, Nat.testBit_two_pow]
          by_cases e : t = k
          · subst e
            rw [hb]
            simp
          · simp only [e, decide_false, Bool.or_false]
            by_cases l : t < k
            · simp only [l, show t < k + 1 by omega, if_true]; omega
            · simp only [l, show ¬ t < k + 1 by omega, if_false]; omega
      rw [this 16, if_pos (by omega)]
    obtain ⟨j, j1, j2, j3⟩ := zs_grow hm d (i ||| 2 ^ t) h2 (by omega)
    refine ⟨j, j1, by omega, fun s hs => j3 s ?_⟩
    rw [Nat.testBit_or, hs]
    rfl
theorem zs_sub_pd {O i j : Nat} (hO : O < 65536) (h : zs_sub i j) : zs_sub (zs_pd 32 O i) (zs_pd 32 O j) := by
  intro t
  rw [zs_pd_bit 32 _ _ _ (by omega), zs_pd_bit 32 _ _ _ (by omega), Bool.and_eq_true, Bool.and_eq_true]
  exact fun q => ⟨q.1, h _ q.2⟩
/-- what a walk from many lines to few comes to -/
theorem zs_walk_end {V : Nat → Nat} {m K s r : Nat} (hm : m ≤ 16) (hV : ∀ i j, i < 2 ^ m → j < 2 ^ m → zs_sub i j → V j ≤ V i) (hs : s ≤ K) (hr : r < 2 ^ m ∧ zs_pop r = s) (hmin : ∀ j, j < 2 ^ m → zs_pop j ≤ K → V r ≤ V j) (hfst : ∀ j, j < 2 ^ m → zs_pop j = s → V j = V r → r ≤ j) (hno : s = 0 ∨ ∀ j, j < 2 ^ m → zs_pop j = s - 1 → V r < V j) : zs_lx V K (2 ^ m) r := by
  refine ⟨⟨hr.1, by omega⟩, fun j hj hp => ?_⟩
  have q := hmin j hj hp
  by_cases e : V r = V j
  · right
    refine ⟨e, ?_⟩
    rcases Nat.lt_trichotomy (zs_pop j) s with c | c | c
    · rcases hno with z | z
      · omega
      · have hsm : s ≤ m := by
          have := zs_cnt_le (fun l => r.testBit l) m
          rw [← hr.2, zs_pop_cnt, zs_cnt_top hr.1 16 hm]
          exact this
        obtain ⟨t, t1, t2, t3⟩ := zs_grow hm (s - 1 - zs_pop j) j hj (by omega)
        have q1 := z t t1 (by omega)
        have q2 := hV j t hj t1 t3
        omega
    · exact Or.inr ⟨by omega, hfst j hj c e.symm⟩
    · exact Or.inl (by omega)
  · exact Or.inl (by omega)
end ZLeast
