/-! ===== the costliest way: the class, what can be come to, why none, weights ===== -/
def zs_nb (r : Nat) : Int32 := if r = 0 then -1000000005 else nI (r - 1)
/-- the class's numbers of turns in the program at c -/
def zAN (c : Nat) (a : zd_D) (nu : Nat → Nat) (f : zF) (n : Nat) : Prop := ∀ e, e < zs_B f n n → a.1 (c + 10) e = zs_nb (nu e) ∧ nu e ≤ 10 ∧ (0 < nu e → zs_tn f n e = true)
def zs_wt (f : zF) (n : Nat) (nu : Nat → Nat) (e : Nat) : Int32 := if zs_tn f n e = true then (if nu e ≤ 1 then -1 else nI (zs_M nu e)) else 0
section RxPath
variable {nl : Int32} {a a' : zd_D} {f : zF} {n : Nat} {nu : Nat → Nat}
theorem zK.c60 {cs fs : List Nat} (h : zK 60 cs fs a a') (h0 : cs.elem 0 = false) : zK 0 (60 :: cs) [] a a' := by
  refine ⟨fun c h1 h2 => h.1 c (fun e => ?_) ?_, fun i _ => ?_, h.2.2⟩
  · subst e; simp at h2
  · cases hc : cs.elem c with
    | false => rfl
    | true =>
      have : (60 :: cs).elem c = true := List.elem_iff.mpr (List.mem_cons_of_mem _ (List.elem_iff.mp hc))
      rw [this] at h2
      cases h2
  · rw [h.1 0 (by decide) h0]
theorem zAN.k {cs fs : List Nat} (h : zAN 3 a nu f n) (hk : zK 0 cs fs a a') (hc : cs.all (fun c => Nat.blt 17 c) = true) : zAN 3 a' nu f n := by
  unfold zAN
  rw [hk.lo hc (c := 3 + 10) (by omega) (by omega)]
  exact h
theorem rx_reachp (hW : zW f n) (hP : zAP a f n) (x1 x2 : Int32) : ∀ m e c r, e + m = zs_B f n n → zK 60 [] [4] a c → c.1 60 4 = nI r → r < 2 ^ 29 → ∃ c' r', zx nl 113 21 [z_r 60, z_i x1, z_i x2, z_i (nI e)] [] c = zx nl 113 21 [z_r 60, z_i x1, z_i x2, z_i (nI (zs_B f n n))] [] c' ∧ zK 60 [] [4] a c' ∧ c'.1 60 4 = nI r' ∧ r' < 2 ^ 29 ∧ zs_in r r' ∧ (r' = r → ∀ j, e ≤ j → j < zs_B f n n → r.testBit (zs_E f n j).1 = true → r.testBit (zs_E f n j).2 = true) ∧ (∀ Q, zs_rc f n Q → (∀ k, k ≤ n → r.testBit k = true → Q k = true) → ∀ k, k ≤ n → r'.testBit k = true → Q k = true) ∧ ((∀ i, n < i → r.testBit i = false) → ∀ i, n < i → r'.testBit i = false) := by
  have hn := hW.le
  have hB := zs_B812 (f := f) hn (Nat.le_refl n)
  intro m
  induction m with
  | zero =>
    intro e c r he hK hr hr2
    have : e = zs_B f n n := by omega
    subst this
    exact ⟨c, r, rfl, hK, hr, hr2, zs_in.rf _, fun _ j h1 h2 => absurd h2 (by omega), fun Q _ h => h, fun h => h⟩
  | succ m ih =>
    intro e c r he hK hr hr2
    have heB : e < zs_B f n n := by omega
    have hPc := hP.k (hK.c60 rfl) rfl
    have h37 : c.1 3 7 = nI (zs_B f n n) := hPc.2.1.1
    have g1 : c.1 11 e = nI (zs_E f n e).1 := (hPc.2.1.2.2 e heB).1
    have g2 : c.1 12 e = nI (zs_E f n e).2 := (hPc.2.1.2.2 e heB).2
    obtain ⟨hlt1, hlt2⟩ := zs_Elt heB
    by_cases hb : r.testBit (zs_E f n e).1 = true
    · have hor : r ||| 2 ^ (zs_E f n e).2 < 2 ^ 29 := Nat.or_lt_two_pow hr2 (Nat.pow_lt_pow_right (by decide) (by omega))
      have step : zx nl 113 21 [z_r 60, z_i x1, z_i x2, z_i (nI e)] [] c = zx nl 113 21 [z_r 60, z_i x1, z_i x2, z_i (nI (e + 1))] [] (zd_u c 60 4 (nI (r ||| 2 ^ (zs_E f n e).2))) := by
        rw [ex_113_21]
        simp (disch := omega) only [zb_ltl, zb_llt, zb_eql, zb_leq, nI_ltI, nI_eq, zb_in, nI_clamp, zb_al, zb_la, zb_ml, zb_lm, zb_mul, nI_add, Bool.false_eq_true, reduceCtorEq, Nat.not_lt_zero, cond_true, cond_false, ↓reduceIte, if_true, if_false, Option.toList_some, Option.toList_none, List.nil_append, List.cons_append, Option.bind_some, h37, heB, g1, g2, hr, zb_bit1, hb, zb_1s, zb_or]
      obtain ⟨c', r', i1, i2, i3, i4, i5, i6, i7, i8⟩ := ih (e + 1) _ _ (by omega) (hK.f (i := 4) (nI (r ||| 2 ^ (zs_E f n e).2)) rfl) (zb_ue _ _ _ _) hor
      refine ⟨c', r', step.trans i1, i2, i3, i4, (zs_in.l _ _).tr i5, fun h => ?_, fun Q hQ hrQ => i7 Q hQ (fun k hk h => ?_), fun h => i8 (fun i hi => ?_)⟩
      · have h1 : r ≤ r ||| 2 ^ (zs_E f n e).2 := Nat.left_le_or
        have h2 := i5.le
        have h3 : r ||| 2 ^ (zs_E f n e).2 = r := by omega
        rw [h3] at i6
        intro j q1 q2
        by_cases hje : j = e
        · subst hje
          intro _
          rw [← h3, Nat.testBit_or, Nat.testBit_two_pow_self, Bool.or_true]
        · exact i6 h j (by omega) q2
      · rw [Nat.testBit_or, Bool.or_eq_true] at h
        rcases h with h | h
        · exact hrQ k hk h
        · rw [Nat.testBit_two_pow, decide_eq_true_eq] at h
          rw [← h]
          exact hQ.2 e heB (hrQ _ (by omega) hb)
      · rw [Nat.testBit_or, h i hi, Nat.testBit_two_pow, Bool.false_or, decide_eq_false_iff_not]
        omega
    · have step : zx nl 113 21 [z_r 60, z_i x1, z_i x2, z_i (nI e)] [] c = zx nl 113 21 [z_r 60, z_i x1, z_i x2, z_i (nI (e + 1))] [] c := by
        rw [ex_113_21]
        simp (disch := omega) only [zb_ltl, zb_llt, zb_eql, zb_leq, nI_ltI, nI_eq, zb_in, nI_clamp, zb_al, zb_la, zb_ml, zb_lm, zb_mul, nI_add, Bool.false_eq_true, reduceCtorEq, Nat.not_lt_zero, cond_true, cond_false, ↓reduceIte, if_true, if_false, Option.toList_some, Option.toList_none, List.nil_append, List.cons_append, Option.bind_some, h37, heB, g1, hr, zb_bit1, hb]
      obtain ⟨c', r', i1, i2, i3, i4, i5, i6, i7, i8⟩ := ih (e + 1) c r (by omega) hK hr hr2
      refine ⟨c', r', step.trans i1, i2, i3, i4, i5, fun h j q1 q2 q3 => ?_, i7, i8⟩
      by_cases hje : j = e
      · subst hje; exact absurd q3 hb
      · exact i6 h j (by omega) q2 q3
theorem zs_cnt_mono {p q : Nat → Bool} : ∀ n, (∀ i, i < n → p i = true → q i = true) → zs_cnt p n ≤ zs_cnt q n
  | 0, _ => Nat.le_refl 0
  | n + 1, h => by
    have ih := zs_cnt_mono n (fun i hi => h i (by omega))
    show zs_cnt p n + _ ≤ zs_cnt q n + _
    by_cases hp : p n = true
    · rw [if_pos hp, if_pos (h n (by omega) hp)]; omega
    · rw [if_neg hp]; omega
theorem zs_cnt_lt {p q : Nat → Bool} : ∀ n, (∀ i, i < n → p i = true → q i = true) → (∃ i, i < n ∧ p i = false ∧ q i = true) → zs_cnt p n < zs_cnt q n
  | 0, _, ⟨i, hi, _⟩ => absurd hi (Nat.not_lt_zero i)
  | n + 1, h, ⟨i, hi, h1, h2⟩ => by
    show zs_cnt p n + _ < zs_cnt q n + _
    by_cases hin : i = n
    · subst hin
      have := zs_cnt_mono i (fun j hj => h j (by omega))
      rw [h1, h2]
      simp only [if_true, Bool.false_eq_true, if_false]
      omega
    · have := zs_cnt_lt n (fun j hj => h j (by omega)) ⟨i, by omega, h1, h2⟩
      by_cases hp : p n = true
      · rw [if_pos hp, if_pos (h n (by omega) hp)]; omega
      · rw [if_neg hp]; omega
theorem rx_reach (hW : zW f n) (hP : zAP a f n) : ∃ a' r, zx nl 113 0 [z_r 60, none, none, none] [] a = some (none, a') ∧ zK 60 [] [4] a a' ∧ zs_rl f n (zs_R f n) ∧ r < 2 ^ 29 ∧ a'.1 60 4 = nI r ∧ ∀ k, k ≤ n → r.testBit k = zs_R f n k := by
  have hn := hW.le
  have hB := zs_B812 (f := f) hn (Nat.le_refl n)
  rw [ex_113_0]
  have key := zl_ms (α := zd_D × Nat × Nat × Nat) (G := fun s => zx nl 113 8 [z_r 60, z_i (nI s.2.2.1), z_i (nI s.2.2.2), none] [] s.1)
    (J := fun s => zK 60 [] [4] a s.1 ∧ s.1.1 60 4 = nI s.2.1 ∧ s.2.1 < 2 ^ 29 ∧ s.2.2.1 < 2 ^ 29 ∧ s.2.1.testBit 0 = true ∧ (∀ i, n < i → s.2.1.testBit i = false) ∧ (∀ Q, zs_rc f n Q → ∀ k, k ≤ n → s.2.1.testBit k = true → Q k = true) ∧ (s.2.2.1 = s.2.1 → zs_rc f n (fun k => s.2.1.testBit k)) ∧ (¬ s.2.2.1 = s.2.1 → s.2.2.2 + 1 ≤ zs_cnt (fun k => s.2.1.testBit k) (n + 1)) ∧ s.2.2.2 ≤ 29)
    (P := fun v c => v = none ∧ zK 60 [] [4] a c ∧ ∃ r, r < 2 ^ 29 ∧ c.1 60 4 = nI r ∧ zs_rl f n (fun k => r.testBit k))
    (fun s => 29 - s.2.2.2)
    (by
      rintro ⟨c, r, bf, p⟩ ⟨h1, h2, h3, h3', h4, h4', h5, h6, h7, h8⟩
      try dsimp only at h1 h2 h3 h3' h4 h4' h5 h6 h7 h8 ⊢
      have hcl := zs_cnt_le (fun k => r.testBit k) (n + 1)
      by_cases hbf : bf = r
      · right
        have e : zx nl 113 8 [z_r 60, z_i (nI bf), z_i (nI p), none] [] c = some (none, c) := by
          rw [ex_113_8, h2, hbf, if_pos rfl]
          split <;> rfl
        exact ⟨none, c, e, rfl, h1, r, h3, h2, h6 hbf, h5⟩
      · have hp := h7 hbf
        left
        obtain ⟨c', r', i1, i2, i3, i4, i5, i6, i7, i8⟩ := rx_reachp (nl := nl) hW hP (nI r) (nI p) (zs_B f n n) 0 c r (by omega) h1 h2 h3
        have h37 : c'.1 3 7 = nI (zs_B f n n) := (hP.k (i2.c60 rfl) rfl).2.1.1
        have e : zx nl 113 8 [z_r 60, z_i (nI bf), z_i (nI p), none] [] c = zx nl 113 8 [z_r 60, z_i (nI r), z_i (nI (p + 1)), none] [] c' := by
          rw [ex_113_8, h2]
          simp (disch := omega) only [zb_ltl, zb_llt, zb_eql, zb_leq, nI_ltI, nI_eq, zb_in, nI_clamp, zb_al, zb_la, zb_ml, zb_lm, zb_mul, nI_add, Bool.false_eq_true, reduceCtorEq, Nat.not_lt_zero, cond_true, cond_false, ↓reduceIte, if_true, if_false, Option.toList_some, Option.toList_none, List.nil_append, List.cons_append, Option.bind_some, show p < 29 by omega, show ¬ r = bf by omega]
          rw [show zx nl 113 21 [z_r 60, z_i (nI r), z_i (nI p), z_i 0] [] c = _ from i1, ex_113_21, h37]
          simp (disch := omega) only [zb_ltl, zb_llt, zb_eql, zb_leq, nI_ltI, nI_eq, zb_in, nI_clamp, zb_al, zb_la, zb_ml, zb_lm, zb_mul, nI_add, Bool.false_eq_true, reduceCtorEq, Nat.not_lt_zero, cond_true, cond_false, ↓reduceIte, if_true, if_false, Option.toList_some, Option.toList_none, List.nil_append, List.cons_append, Option.bind_some, Nat.lt_irrefl]
        have hout : ∀ i, n < i → r'.testBit i = false := i8 h4'
        refine ⟨(c', r', r, p + 1), ⟨i2, i3, i4, h3, zs_in_bit i5 h4, hout, fun Q hQ => i7 Q hQ (h5 Q hQ), fun h => ?_, fun h => ?_, show p + 1 ≤ 29 by omega⟩, show 29 - (p + 1) < 29 - p by omega, e⟩
        · have h : r = r' := h
          refine ⟨zs_in_bit i5 h4, fun e he hq => ?_⟩
          (try dsimp only at hq ⊢)
          rw [← h] at hq ⊢
          exact i6 h.symm e (Nat.zero_le _) he hq
        · have h : ¬ r = r' := h
          have hex : ∃ i, i < n + 1 ∧ r.testBit i = false ∧ r'.testBit i = true := by
            apply Classical.byContradiction
            intro hno
            refine h (Nat.eq_of_testBit_eq fun i => ?_)
            cases hv : r.testBit i with
            | true => rw [zs_in_bit i5 hv]
            | false =>
              cases hw : r'.testBit i with
              | false => rfl
              | true =>
                by_cases hi : i < n + 1
                · exact absurd ⟨i, hi, hv, hw⟩ hno
                · rw [hout i (by omega)] at hw; cases hw
          have := zs_cnt_lt (p := fun k => r.testBit k) (q := fun k => r'.testBit k) (n + 1) (fun i _ q => zs_in_bit i5 q) hex
          (try dsimp only)
          omega)
    (zd_u a 60 4 1, 1, 0, 0)
    ⟨zK.rf.f _ rfl, zb_ue _ _ _ _, (by decide : 1 < 2 ^ 29), (by decide : 0 < 2 ^ 29), (by decide : Nat.testBit 1 0 = true), fun i hi => by
      (try dsimp only)
      rw [show (1 : Nat) = 2 ^ 0 from rfl, Nat.testBit_two_pow, decide_eq_false_iff_not]; omega, fun Q hQ k hk h => by
      (try dsimp only at h)
      rw [show (1 : Nat) = 2 ^ 0 from rfl, Nat.testBit_two_pow, decide_eq_true_eq] at h
      rw [← h]; exact hQ.1, fun h => absurd h (by decide : ¬ (0 : Nat) = 1), fun _ => by
      have := zs_cnt_lt (p := fun _ => false) (q := fun k => (1 : Nat).testBit k) (n + 1) (fun _ _ q => by cases q) ⟨0, by omega, rfl, rfl⟩
      (try dsimp only)
      omega, (by decide : 0 ≤ 29)⟩
  obtain ⟨v, d, e, hv, h1, r, h2, h3, h4⟩ := key
  subst hv
  have hx := zs_R_eq h4
  exact ⟨d, r, e, h1, hx.1, h2, h3, hx.2⟩
set_option maxHeartbeats 2000000 in
theorem rx_lacks (hW : zW f n) (hP : zAP a f n) (hN : zAN 3 a nu f n) {r : Nat} (hr : r < 2 ^ 29) (h4 : a.1 60 4 = nI r) (hR : ∀ k, k ≤ n → r.testBit k = zs_R f n k) : (zs_no f n nu → zx nl 115 0 [z_r 60, none] [] a = some (some (.inl 1), a)) ∧ (¬ zs_no f n nu → zx nl 115 0 [z_r 60, none] [] a = some (some (.inl 0), a)) := by
  have hn := hW.le
  have hB := zs_B812 (f := f) hn (Nat.le_refl n)
  have h30 : a.1 3 0 = nI n := hP.1.1
  have h37 : a.1 3 7 = nI (zs_B f n n) := hP.2.1.1
  rw [ex_115_0]
  -- one order
  have one : ∀ k, k < n → zx nl 115 3 [z_r 60, z_i (nI k)] [] a = if zs_R f n k = true ∧ zs_B f n k = zs_B f n (k + 1) then some (some (.inl 1), a) else zx nl 115 3 [z_r 60, z_i (nI (k + 1))] [] a := by
    intro k hk
    have r2 : a.1 10 k = nI (zs_B f n k) := hP.2.1.2.1 k (by omega)
    have r3 : a.1 10 (k + 1) = nI (zs_B f n (k + 1)) := hP.2.1.2.1 (k + 1) (by omega)
    have l1 := zs_B812 (f := f) hn (show k ≤ n by omega)
    have l2 := zs_B812 (f := f) hn (show k + 1 ≤ n by omega)
    rw [ex_115_3]
    simp (disch := omega) only [zb_ltl, zb_llt, zb_eql, zb_leq, nI_ltI, nI_eq, zb_in, nI_clamp, zb_al, zb_la, zb_ml, zb_lm, zb_mul, nI_add, Bool.false_eq_true, reduceCtorEq, Nat.not_lt_zero, cond_true, cond_false, ↓reduceIte, if_true, if_false, Option.toList_some, Option.toList_none, List.nil_append, List.cons_append, Option.bind_some, h30, hk, h4, zb_bit1, hR k (by omega), r2, r3]
    by_cases hr : zs_R f n k = true
    · simp only [hr, Bool.false_eq_true, reduceCtorEq, Nat.not_lt_zero, cond_true, cond_false, ↓reduceIte, if_true, if_false, Option.toList_some, Option.toList_none, List.nil_append, List.cons_append, Option.bind_some, true_and]
    · simp only [hr, Bool.false_eq_true, reduceCtorEq, Nat.not_lt_zero, cond_true, cond_false, ↓reduceIte, if_true, if_false, Option.toList_some, Option.toList_none, List.nil_append, List.cons_append, Option.bind_some, false_and]
  have two : ∀ e, e < zs_B f n n → zx nl 115 32 [z_r 60, z_i (nI e)] [] a = if zs_R f n (zs_E f n e).1 = true ∧ zs_tn f n e = true ∧ nu e = 0 then some (some (.inl 1), a) else zx nl 115 32 [z_r 60, z_i (nI (e + 1))] [] a := by
    intro e he
    have g1 : a.1 11 e = nI (zs_E f n e).1 := (hP.2.1.2.2 e he).1
    have g2 : a.1 12 e = nI (zs_E f n e).2 := (hP.2.1.2.2 e he).2
    obtain ⟨hlt1, hlt2⟩ := zs_Elt he
    obtain ⟨n1, n2, n3⟩ := hN e he
    have n1 : a.1 13 e = zs_nb (nu e) := n1
    have hnb : (zs_nb (nu e) = -1000000005) ↔ nu e = 0 := by
      unfold zs_nb
      by_cases h0 : nu e = 0
      · rw [if_pos h0]; exact ⟨fun _ => h0, fun _ => rfl⟩
      · rw [if_neg h0]
        refine ⟨fun q => ?_, fun q => absurd q h0⟩
        have := nI_pos (n := nu e - 1) (by omega)
        rw [q] at this
        exact absurd (by decide) this
    rw [ex_115_32]
    simp (disch := omega) only [zb_ltl, zb_llt, zb_eql, zb_leq, nI_ltI, nI_eq, zb_in, nI_clamp, zb_al, zb_la, zb_ml, zb_lm, zb_mul, nI_add, Bool.false_eq_true, reduceCtorEq, Nat.not_lt_zero, cond_true, cond_false, ↓reduceIte, if_true, if_false, Option.toList_some, Option.toList_none, List.nil_append, List.cons_append, Option.bind_some, h37, he, h4, g1, g2, zb_bit1, hR (zs_E f n e).1 (by omega), n1, hnb]
    unfold zs_tn
    by_cases hr : zs_R f n (zs_E f n e).1 = true
    · simp only [hr, Bool.false_eq_true, reduceCtorEq, Nat.not_lt_zero, cond_true, cond_false, ↓reduceIte, if_true, if_false, Option.toList_some, Option.toList_none, List.nil_append, List.cons_append, Option.bind_some, true_and, decide_eq_true_eq]
      by_cases ht : (zs_E f n e).1 < (zs_E f n e).2
      · simp only [ht, Bool.false_eq_true, reduceCtorEq, Nat.not_lt_zero, cond_true, cond_false, ↓reduceIte, if_true, if_false, Option.toList_some, Option.toList_none, List.nil_append, List.cons_append, Option.bind_some, show ¬ (zs_E f n e).2 ≤ (zs_E f n e).1 by omega, false_and]
      · simp only [ht, Bool.false_eq_true, reduceCtorEq, Nat.not_lt_zero, cond_true, cond_false, ↓reduceIte, if_true, if_false, Option.toList_some, Option.toList_none, List.nil_append, List.cons_append, Option.bind_some, show (zs_E f n e).2 ≤ (zs_E f n e).1 by omega, true_and]
    · simp only [hr, Bool.false_eq_true, reduceCtorEq, Nat.not_lt_zero, cond_true, cond_false, ↓reduceIte, if_true, if_false, Option.toList_some, Option.toList_none, List.nil_append, List.cons_append, Option.bind_some, false_and]
  have end1 : zx nl 115 3 [z_r 60, z_i (nI n)] [] a = zx nl 115 32 [z_r 60, z_i (nI 0)] [] a := by
    rw [ex_115_3]
    simp (disch := omega) only [zb_ltl, zb_llt, zb_eql, zb_leq, nI_ltI, nI_eq, zb_in, nI_clamp, zb_al, zb_la, zb_ml, zb_lm, zb_mul, nI_add, Bool.false_eq_true, reduceCtorEq, Nat.not_lt_zero, cond_true, cond_false, ↓reduceIte, if_true, if_false, Option.toList_some, Option.toList_none, List.nil_append, List.cons_append, Option.bind_some, h30, Nat.lt_irrefl]
    rfl
  have end2 : zx nl 115 32 [z_r 60, z_i (nI (zs_B f n n))] [] a = some (some (.inl 0), a) := by
    rw [ex_115_32]
    simp (disch := omega) only [zb_ltl, zb_llt, zb_eql, zb_leq, nI_ltI, nI_eq, zb_in, nI_clamp, zb_al, zb_la, zb_ml, zb_lm, zb_mul, nI_add, Bool.false_eq_true, reduceCtorEq, Nat.not_lt_zero, cond_true, cond_false, ↓reduceIte, if_true, if_false, Option.toList_some, Option.toList_none, List.nil_append, List.cons_append, Option.bind_some, h37, Nat.lt_irrefl]
  have skip1 : (¬ ∃ k, k < n ∧ zs_R f n k = true ∧ zs_B f n k = zs_B f n (k + 1)) → zx nl 115 3 [z_r 60, z_i (nI 0)] [] a = zx nl 115 32 [z_r 60, z_i (nI 0)] [] a := by
    intro hno
    have := zl_eq (G := fun k => zx nl 115 3 [z_r 60, z_i (nI k)] [] a) (n := n) (fun k hk => by
      try dsimp only
      rw [one k hk, if_neg (fun q => hno ⟨k, hk, q⟩)]) n (Nat.le_refl n)
    exact this.trans end1
  constructor
  · intro hno
    by_cases h1 : ∃ k, k < n ∧ zs_R f n k = true ∧ zs_B f n k = zs_B f n (k + 1)
    · obtain ⟨k, hk, hl⟩ := pk_least (fun k => k < n ∧ zs_R f n k = true ∧ zs_B f n k = zs_B f n (k + 1)) h1
      have := zl_eq (G := fun k => zx nl 115 3 [z_r 60, z_i (nI k)] [] a) (n := k) (fun j hj => by
        try dsimp only
        rw [one j (by omega), if_neg (fun q => hl j hj ⟨by omega, q⟩)]) k (Nat.le_refl k)
      exact this.trans (by (try dsimp only); rw [one k hk.1, if_pos hk.2])
    · rcases hno with q | h2
      · exact absurd q h1
      · obtain ⟨e, he, hl⟩ := pk_least (fun e => e < zs_B f n n ∧ zs_R f n (zs_E f n e).1 = true ∧ zs_tn f n e = true ∧ nu e = 0) h2
        have := zl_eq (G := fun e => zx nl 115 32 [z_r 60, z_i (nI e)] [] a) (n := e) (fun j hj => by
          try dsimp only
          rw [two j (by omega), if_neg (fun q => hl j hj ⟨by omega, q⟩)]) e (Nat.le_refl e)
        exact (skip1 h1).trans (this.trans (by (try dsimp only); rw [two e he.1, if_pos he.2]))
  · intro hno
    have h1 : ¬ ∃ k, k < n ∧ zs_R f n k = true ∧ zs_B f n k = zs_B f n (k + 1) := fun q => hno (Or.inl q)
    have := zl_eq (G := fun e => zx nl 115 32 [z_r 60, z_i (nI e)] [] a) (n := zs_B f n n) (fun j hj => by
      try dsimp only
      rw [two j hj, if_neg (fun q => hno (Or.inr ⟨j, hj, q⟩))]) _ (Nat.le_refl _)
    exact (skip1 h1).trans (this.trans end2)
set_option maxHeartbeats 2000000 in
theorem rx_weigh (hW : zW f n) (hP : zAP a f n) (hN : zAN 3 a nu f n) : ∃ a', zx nl 116 0 [z_r 60, none, none] [] a = some (none, a') ∧ zK 60 [61] [1] a a' ∧ (600 < zs_M nu (zs_B f n n) → ∃ q, 600 < q ∧ q < 2 ^ 30 ∧ a'.1 60 1 = nI q) ∧ (¬ 600 < zs_M nu (zs_B f n n) → a'.1 60 1 = nI (zs_M nu (zs_B f n n)) ∧ ∀ e, e < zs_B f n n → a'.1 61 e = zs_wt f n nu e) := by
  have hn := hW.le
  have hB := zs_B812 (f := f) hn (Nat.le_refl n)
  rw [ex_116_0]
  have key := zl_up (F := fun e c => zx nl 116 6 [z_r 60, z_i (nI e), none] [] c) (n := zs_B f n n) (I := fun e c => zK 60 [61] [1] a c ∧ c.1 60 1 = nI (zs_M nu e) ∧ zs_M nu e ≤ 6000 ∧ (∀ j, j < e → c.1 61 j = zs_wt f n nu j))
    (Q := fun v c => v = none ∧ zK 60 [61] [1] a c ∧ (600 < zs_M nu (zs_B f n n) → ∃ q, 600 < q ∧ q < 2 ^ 30 ∧ c.1 60 1 = nI q) ∧ (¬ 600 < zs_M nu (zs_B f n n) → c.1 60 1 = nI (zs_M nu (zs_B f n n)) ∧ ∀ e, e < zs_B f n n → c.1 61 e = zs_wt f n nu e))
    (by
      rintro e c he ⟨h1, h2, h2', h3⟩
      try dsimp only
      have hPc := hP.k (h1.c60 rfl) rfl
      have hNc := hN.k (h1.c60 rfl) rfl
      have h37 : c.1 3 7 = nI (zs_B f n n) := hPc.2.1.1
      have g1 : c.1 11 e = nI (zs_E f n e).1 := (hPc.2.1.2.2 e he).1
      have g2 : c.1 12 e = nI (zs_E f n e).2 := (hPc.2.1.2.2 e he).2
      obtain ⟨hlt1, hlt2⟩ := zs_Elt he
      obtain ⟨n1, n2, n3⟩ := hNc e he
      have n1 : c.1 13 e = zs_nb (nu e) := n1
      have hMs : zs_M nu (e + 1) = zs_M nu e * max 1 (nu e) := rfl
      have hpos : (0 < zs_nb (nu e)) ↔ 2 ≤ nu e := by
        unfold zs_nb
        by_cases h0 : nu e = 0
        · rw [if_pos h0]; exact ⟨fun q => absurd q (by decide), fun q => by omega⟩
        · rw [if_neg h0, show (0 : Int32) = nI 0 from rfl, nI_ltI (by omega) (by omega)]; omega
      by_cases h6 : 600 < zs_M nu e
      · right
        rw [ex_116_6]
        simp (disch := omega) only [zb_ltl, zb_llt, zb_eql, zb_leq, nI_ltI, nI_eq, zb_in, nI_clamp, zb_al, zb_la, zb_ml, zb_lm, zb_mul, nI_add, Bool.false_eq_true, reduceCtorEq, Nat.not_lt_zero, cond_true, cond_false, ↓reduceIte, if_true, if_false, Option.toList_some, Option.toList_none, List.nil_append, List.cons_append, Option.bind_some, h37, he, h2, h6]
        refine zw_ret ⟨rfl, h1, fun _ => ⟨_, h6, by omega, h2⟩, fun q => absurd (Nat.lt_of_lt_of_le h6 (zs_M_le nu (Nat.le_of_lt he))) q⟩
      · left
        rw [ex_116_6]
        simp (disch := omega) only [zb_ltl, zb_llt, zb_eql, zb_leq, nI_ltI, nI_eq, zb_in, nI_clamp, zb_al, zb_la, zb_ml, zb_lm, zb_mul, nI_add, Bool.false_eq_true, reduceCtorEq, Nat.not_lt_zero, cond_true, cond_false, ↓reduceIte, if_true, if_false, Option.toList_some, Option.toList_none, List.nil_append, List.cons_append, Option.bind_some, h37, he, h2, h6, g1, g2, n1, hpos]
        have fin : ∀ y : Int32, y = zs_wt f n nu e → ∀ c2 : zd_D, c2.1 61 = (zd_u c 61 e y).1 61 → ∀ j, j < e + 1 → c2.1 61 j = zs_wt f n nu j := by
          intro y hy c2 hc2 j hj
          rw [hc2]
          by_cases hje : j = e
          · subst hje; rw [zb_ue]; exact hy
          · rw [zb_ui _ _ _ _ hje]; exact h3 j (by omega)
        by_cases ht : (zs_E f n e).1 < (zs_E f n e).2
        · have hnt : ¬ zs_tn f n e = true := by unfold zs_tn; rw [decide_eq_true_eq]; omega
          have hnu : nu e = 0 := by
            apply Classical.byContradiction
            intro hc
            exact hnt (n3 (by omega))
          have hMe : zs_M nu (e + 1) = zs_M nu e := by rw [hMs, hnu]; exact Nat.mul_one _
          simp only [ht, Bool.false_eq_true, reduceCtorEq, Nat.not_lt_zero, cond_true, cond_false, ↓reduceIte, if_true, if_false, Option.toList_some, Option.toList_none, List.nil_append, List.cons_append, Option.bind_some, hnu, show ¬ 2 ≤ 0 by decide, hMe]
          refine ⟨zd_u c 61 e 0, ⟨h1.u (c := 61) _ _ (by decide) rfl, ?_, by omega, fin 0 (by unfold zs_wt; rw [if_neg hnt]) _ rfl⟩, rfl⟩
          rw [zb_uc _ _ _ _ (by decide)]; exact h2
        · have htn : zs_tn f n e = true := by unfold zs_tn; rw [decide_eq_true_eq]; omega
          simp only [ht, Bool.false_eq_true, reduceCtorEq, Nat.not_lt_zero, cond_true, cond_false, ↓reduceIte, if_true, if_false, Option.toList_some, Option.toList_none, List.nil_append, List.cons_append, Option.bind_some]
          by_cases hn2 : 2 ≤ nu e
          · have hMe : zs_M nu (e + 1) = zs_M nu e * nu e := by rw [hMs, Nat.max_eq_right (by omega)]
            have hle : zs_M nu e * nu e ≤ 600 * 10 := Nat.mul_le_mul (by omega) n2
            have hnb : zs_nb (nu e) + 1 = nI (nu e) := by
              unfold zs_nb
              rw [if_neg (by omega), zb_al]
              show nI (nu e - 1 + 1) = _
              rw [show nu e - 1 + 1 = nu e by omega]
            simp only [hn2, Bool.false_eq_true, reduceCtorEq, Nat.not_lt_zero, cond_true, cond_false, ↓reduceIte, if_true, if_false, Option.toList_some, Option.toList_none, List.nil_append, List.cons_append, Option.bind_some, hnb, zb_mul, hMe]
            refine ⟨zd_u (zd_u (zd_u c 61 e (-1)) 61 e (nI (zs_M nu e))) 60 1 (nI (zs_M nu e * nu e)), ⟨((h1.u (c := 61) _ _ (by decide) rfl).u (c := 61) _ _ (by decide) rfl).f _ rfl, zb_ue _ _ _ _, by omega, fin (nI (zs_M nu e)) (by unfold zs_wt; rw [if_pos htn, if_neg (by omega)]) _ ?_⟩, rfl⟩
            rw [zb_uc _ _ _ _ (by decide)]
            funext j
            rw [zb_u, zb_u, zb_u]
            by_cases hje : j = e
            · rw [if_pos ⟨rfl, hje⟩, if_pos ⟨rfl, hje⟩]
            · rw [if_neg (fun q => hje q.2), if_neg (fun q => hje q.2), if_neg (fun q => hje q.2)]
          · have hMe : zs_M nu (e + 1) = zs_M nu e := by
              rw [hMs, Nat.max_eq_left (by omega)]; exact Nat.mul_one _
            simp only [hn2, Bool.false_eq_true, reduceCtorEq, Nat.not_lt_zero, cond_true, cond_false, ↓reduceIte, if_true, if_false, Option.toList_some, Option.toList_none, List.nil_append, List.cons_append, Option.bind_some, hMe]
            refine ⟨zd_u c 61 e (-1), ⟨h1.u (c := 61) _ _ (by decide) rfl, ?_, by omega, fin (-1) (by unfold zs_wt; rw [if_pos htn, if_pos (by omega)]) _ rfl⟩, rfl⟩
            rw [zb_uc _ _ _ _ (by decide)]; exact h2)
    (by
      rintro c ⟨h1, h2, h2', h3⟩
      try dsimp only
      have h37 : c.1 3 7 = nI (zs_B f n n) := (hP.k (h1.c60 rfl) rfl).2.1.1
      rw [ex_116_6]
      simp (disch := omega) only [zb_ltl, zb_llt, zb_eql, zb_leq, nI_ltI, nI_eq, zb_in, nI_clamp, zb_al, zb_la, zb_ml, zb_lm, zb_mul, nI_add, Bool.false_eq_true, reduceCtorEq, Nat.not_lt_zero, cond_true, cond_false, ↓reduceIte, if_true, if_false, Option.toList_some, Option.toList_none, List.nil_append, List.cons_append, Option.bind_some, h37, Nat.lt_irrefl]
      exact zw_ret ⟨rfl, h1, fun q => ⟨_, q, by omega, h2⟩, fun _ => ⟨h2, h3⟩⟩)
    0 (zd_u a 60 1 1) (Nat.zero_le _) ⟨zK.rf.f _ rfl, zb_ue _ _ _ _, (by decide : 1 ≤ 6000), fun j hj => absurd hj (Nat.not_lt_zero j)⟩
  obtain ⟨v, d, e, hv, h1⟩ := key
  subst hv
  exact ⟨d, e, h1⟩
end RxPath
