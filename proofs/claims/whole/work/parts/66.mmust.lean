/-! ===== what must be there: the reference's loops ===== -/
/-- a number less one -/
def zp (a : Nat) : Int32 := nI a - 1
theorem zp_s (a : Nat) : zp (a + 1) = nI a := nI_pred a
theorem zp_0 : zp 0 = -1 := by decide
theorem zp_int {a : Nat} (h : a < 2 ^ 30) : (zp a).toInt = (a : Int) - 1 := pk_sub_toInt (a := a) (b := 1) h (by decide)
theorem zp_lt {a b : Nat} (ha : a < 2 ^ 30) (hb : b < 2 ^ 30) : (zp a < zp b) ↔ a < b := by
  rw [Int32.lt_iff_toInt_lt, zp_int ha, zp_int hb]
  omega
theorem zp_neg {a : Nat} (ha : a < 2 ^ 30) : (zp a < 0) ↔ a = 0 := by
  rw [Int32.lt_iff_toInt_lt, zp_int ha, show (0 : Int32).toInt = 0 by decide]
  omega
theorem zp_eqm {a : Nat} (ha : a < 2 ^ 30) : (zp a = -1) ↔ a = 0 := by
  constructor
  · intro h
    have := congrArg Int32.toInt h
    rw [zp_int ha, show (-1 : Int32).toInt = -1 by decide] at this
    omega
  · rintro rfl; exact zp_0
theorem zp_add (a c : Nat) : zp a + nI c = zp (a + c) := by
  unfold zp
  rw [← nI_add, Int32.sub_eq_add_neg, Int32.sub_eq_add_neg, Int32.add_assoc, Int32.add_comm (-1), ← Int32.add_assoc]
def zs_p1 (f : zF) (z : Nat) : Nat := if z ≤ zs_rem f then z else 5
theorem zs_p1_le (f : zF) (z : Nat) (h : zs_rem f ≤ 4) : zs_p1 f z ≤ 5 := by unfold zs_p1; split <;> omega
theorem zs_ph_p1 (f : zF) (x : Nat) : nI (zs_ph f x) = zp (zs_p1 f (x + 1)) := by
  unfold zs_ph zs_p1
  by_cases h : x < zs_rem f
  · rw [if_pos h, if_pos (by omega), zp_s]
  · rw [if_neg h, if_neg (by omega), zp_s (a := 4)]
theorem zs_p1_lt {f : zF} (hr : zs_rem f ≤ 4) {a c : Nat} (ha : a ≤ zs_rem f + 1) (hc : c ≤ zs_rem f + 1) : zs_p1 f a < zs_p1 f c ↔ a < c := by
  unfold zs_p1
  split <;> split <;> omega
/-- the greatest age behind the first e edges that lead to a place, one more; 0 without one -/
def zs_Z (f : zF) (n : Nat) (lk : Int32) (X : Nat → Nat) : Nat → Nat → Nat
  | 0, _ => 0
  | e + 1, i => if (zs_E f n e).2 = i / 16 then max (zs_Z f n lk X e i) (zs_af f lk X (zs_E f n e).1 (i % 16) + 1) else zs_Z f n lk X e i
section RmMet
variable {b b' : zd_D} {f : zF} {n : Nat}
theorem zMX.k {cs fs : List Nat} {X : Nat → Nat} (h : zMX b f n X) (hk : zK 91 cs fs b b') (h1 : cs.elem 113 = false) : zMX b' f n X := by
  unfold zMX
  rw [hk.1 113 (by decide) h1]
  exact h
theorem zs_Z_le (hW : zW f n) {lk : Int32} {X : Nat → Nat} (hX : ∀ i, i < 16 * n → X i ≤ zs_rem f) : ∀ e i, e ≤ zs_B f n n → zs_Z f n lk X e i ≤ zs_rem f + 1
  | 0, _, _ => Nat.zero_le _
  | e + 1, i, he => by
    have ih := zs_Z_le hW (lk := lk) hX e i (by omega)
    have h1 := zs_af_le hW (lk := lk) hX (zs_Elt (f := f) (n := n) (e := e) (by omega)).1 (show i % 16 < 16 by omega)
    show (if (zs_E f n e).2 = i / 16 then max (zs_Z f n lk X e i) (zs_af f lk X (zs_E f n e).1 (i % 16) + 1) else zs_Z f n lk X e i) ≤ _
    split <;> omega
theorem zs_Z_iff {lk : Int32} {X : Nat → Nat} {i m : Nat} : ∀ e, (zs_Z f n lk X e i ≤ m ↔ ∀ j, j < e → (zs_E f n j).2 = i / 16 → zs_af f lk X (zs_E f n j).1 (i % 16) + 1 ≤ m)
  | 0 => ⟨fun _ j hj => absurd hj (Nat.not_lt_zero j), fun _ => Nat.zero_le _⟩
  | e + 1 => by
    have ih := zs_Z_iff (lk := lk) (X := X) (i := i) (m := m) e
    show (if (zs_E f n e).2 = i / 16 then max (zs_Z f n lk X e i) (zs_af f lk X (zs_E f n e).1 (i % 16) + 1) else zs_Z f n lk X e i) ≤ m ↔ _
    by_cases h : (zs_E f n e).2 = i / 16
    · rw [if_pos h, Nat.max_le, ih]
      constructor
      · rintro ⟨h1, h2⟩ j hj he
        by_cases hje : j = e
        · subst hje; exact h2
        · exact h1 j (by omega) he
      · exact fun q => ⟨fun j hj he => q j (by omega) he, q e (by omega) h⟩
    · rw [if_neg h, ih]
      constructor
      · intro h1 j hj he
        by_cases hje : j = e
        · subst hje; exact absurd he h
        · exact h1 j (by omega) he
      · exact fun q j hj he => q j (by omega) he
set_option maxHeartbeats 2000000 in
theorem rm_met (hW : zW f n) (hV : zV 92 b f) (hE : zME b f n) {X : Nat → Nat} (hX : zMX b f n X) : ∃ b', zm 196 0 [z_r 91, none, none, none] [] b = some (none, b') ∧ zK 91 [116] [] b b' ∧ ∀ i, i < 464 → b'.1 116 i = zp (zs_p1 f (zs_Z f n (b.1 92 9) X (zs_B f n n) i)) := by
  have hn := hW.le
  have hB := zs_B812 (f := f) hn (Nat.le_refl n)
  obtain ⟨hr1, hr4⟩ := hW.rem
  have hXr : ∀ i, i < 16 * n → X i ≤ zs_rem f := fun i hi => (hX i hi).2
  rw [em_196_0]
  obtain ⟨b1, ⟨hK1, hf1⟩, e1⟩ := zl_to (F := fun i c => zm 196 3 [z_r 91, z_i (nI i), none, none] [] c) (I := fun i c => zK 91 [116] [] b c ∧ ∀ j, j < i → c.1 116 j = -1) (n := 464)
    (by
      rintro i c hi ⟨h1, h2⟩
      try dsimp only
      rw [em_196_3]
      simp (disch := omega) only [zb_ltl, zb_llt, zb_eql, zb_leq, nI_ltI, nI_eq, zb_in, nI_clamp, zb_al, zb_la, zb_ml, zb_lm, zb_mul, nI_add, Bool.false_eq_true, reduceCtorEq, Nat.not_lt_zero, cond_true, cond_false, ↓reduceIte, if_true, if_false, Option.toList_some, Option.toList_none, List.nil_append, List.cons_append, Option.bind_some, hi]
      refine ⟨_, ⟨h1.u _ _ (by decide) rfl, fun j hj => ?_⟩, rfl⟩
      by_cases hji : j = i
      · subst hji; exact zb_ue _ _ _ _
      · rw [zb_ui _ _ _ _ hji]; exact h2 j (by omega)) 0 b (Nat.zero_le _) ⟨zK.rf, fun j hj => absurd hj (Nat.not_lt_zero j)⟩
  rw [show zm 196 3 [z_r 91, z_i 0, none, none] [] b = _ from e1]
  try dsimp only
  rw [em_196_3]
  simp (disch := omega) only [zb_ltl, zb_llt, zb_eql, zb_leq, nI_ltI, nI_eq, zb_in, nI_clamp, zb_al, zb_la, zb_ml, zb_lm, zb_mul, nI_add, Bool.false_eq_true, reduceCtorEq, Nat.not_lt_zero, cond_true, cond_false, ↓reduceIte, if_true, if_false, Option.toList_some, Option.toList_none, List.nil_append, List.cons_append, Option.bind_some, Nat.lt_irrefl]
  have key := zl_up (F := fun e c => zm 196 16 [z_r 91, z_i (nI e), none, none] [] c) (n := zs_B f n n) (I := fun e c => zK 91 [116] [] b c ∧ ∀ i, i < 464 → c.1 116 i = zp (zs_p1 f (zs_Z f n (b.1 92 9) X e i))) (Q := fun v c => v = none ∧ zK 91 [116] [] b c ∧ ∀ i, i < 464 → c.1 116 i = zp (zs_p1 f (zs_Z f n (b.1 92 9) X (zs_B f n n) i)))
    (by
      rintro e c he ⟨h1, h2⟩
      left
      try dsimp only
      have hEc := hE.k h1 rfl rfl rfl rfl
      have hVc := hV.k h1 (by decide) rfl
      obtain ⟨hk, ht⟩ := zs_Elt he
      rw [em_196_16, hEc.1]
      simp (disch := omega) only [zb_ltl, zb_llt, zb_eql, zb_leq, nI_ltI, nI_eq, zb_in, nI_clamp, zb_al, zb_la, zb_ml, zb_lm, zb_mul, nI_add, Bool.false_eq_true, reduceCtorEq, Nat.not_lt_zero, cond_true, cond_false, ↓reduceIte, if_true, if_false, Option.toList_some, Option.toList_none, List.nil_append, List.cons_append, Option.bind_some, he]
      obtain ⟨c2, ⟨h3, h4⟩, e2⟩ := zl_to (F := fun l c => zm 196 23 [z_r 91, z_i (nI e), z_i (nI l), none] [] c) (I := fun l c => zK 91 [116] [] b c ∧ ∀ i, i < 464 → c.1 116 i = zp (zs_p1 f (if (zs_E f n e).2 = i / 16 ∧ i % 16 < l then zs_Z f n (b.1 92 9) X (e + 1) i else zs_Z f n (b.1 92 9) X e i))) (n := 16)
        (by
          rintro l c hl ⟨h1, h2⟩
          try dsimp only
          have hEc := hE.k h1 rfl rfl rfl rfl
          have hVc := hV.k h1 (by decide) rfl
          have hXc := hX.k h1 rfl
          have h9 : c.1 92 9 = b.1 92 9 := by rw [h1.1 92 (by decide) rfl]
          obtain ⟨g1, g2⟩ := hEc.2.1 e he
          have g3 := h2 (16 * (zs_E f n e).2 + l) (by omega)
          have q1 : (16 * (zs_E f n e).2 + l) / 16 = (zs_E f n e).2 := by omega
          have q2 : (16 * (zs_E f n e).2 + l) % 16 = l := by omega
          rw [q1, q2, if_neg (fun q => Nat.lt_irrefl _ q.2)] at g3
          rw [em_196_23, nI_clamp (n := e) (by omega), g1, g2]
          simp (disch := omega) only [zb_ltl, zb_llt, zb_eql, zb_leq, nI_ltI, nI_eq, zb_in, nI_clamp, zb_al, zb_la, zb_ml, zb_lm, zb_mul, nI_add, Bool.false_eq_true, reduceCtorEq, Nat.not_lt_zero, cond_true, cond_false, ↓reduceIte, if_true, if_false, Option.toList_some, Option.toList_none, List.nil_append, List.cons_append, Option.bind_some, hl, rm_age hW hVc hXc hk hl, h9]
          rw [em_196_49, g3, zs_ph_p1]
          have q3 := zs_Z_le hW (lk := b.1 92 9) hXr e (16 * (zs_E f n e).2 + l) (by omega)
          have q4 := zs_af_le hW (lk := b.1 92 9) hXr hk hl
          have q5 := zs_p1_le f (zs_Z f n (b.1 92 9) X e (16 * (zs_E f n e).2 + l)) hr4
          have q6 := zs_p1_le f (zs_af f (b.1 92 9) X (zs_E f n e).1 l + 1) hr4
          have hnew : zs_Z f n (b.1 92 9) X (e + 1) (16 * (zs_E f n e).2 + l) = max (zs_Z f n (b.1 92 9) X e (16 * (zs_E f n e).2 + l)) (zs_af f (b.1 92 9) X (zs_E f n e).1 l + 1) := by
            show (if (zs_E f n e).2 = (16 * (zs_E f n e).2 + l) / 16 then max _ (zs_af f (b.1 92 9) X (zs_E f n e).1 ((16 * (zs_E f n e).2 + l) % 16) + 1) else _) = _
            rw [q1, q2, if_pos rfl]
          have fin : ∀ y : Int32, y = zp (zs_p1 f (zs_Z f n (b.1 92 9) X (e + 1) (16 * (zs_E f n e).2 + l))) → ∀ i, i < 464 → (zd_u c 116 (16 * (zs_E f n e).2 + l) y).1 116 i = zp (zs_p1 f (if (zs_E f n e).2 = i / 16 ∧ i % 16 < l + 1 then zs_Z f n (b.1 92 9) X (e + 1) i else zs_Z f n (b.1 92 9) X e i)) := by
            intro y hy i hi
            by_cases hii : i = 16 * (zs_E f n e).2 + l
            · subst hii
              rw [zb_ue, hy, q1, q2, if_pos ⟨rfl, by omega⟩]
            · rw [zb_ui _ _ _ _ hii, h2 i hi]
              by_cases hc : (zs_E f n e).2 = i / 16 ∧ i % 16 < l
              · rw [if_pos hc, if_pos ⟨hc.1, by omega⟩]
              · rw [if_neg hc, if_neg (fun q => hc ⟨q.1, by omega⟩)]
          simp (disch := omega) only [zp_lt, zs_p1_lt hr4, zb_ltl, zb_llt, zb_eql, zb_leq, nI_ltI, nI_eq, zb_in, nI_clamp, zb_al, zb_la, zb_ml, zb_lm, zb_mul, nI_add, Bool.false_eq_true, reduceCtorEq, Nat.not_lt_zero, cond_true, cond_false, ↓reduceIte, if_true, if_false, Option.toList_some, Option.toList_none, List.nil_append, List.cons_append, Option.bind_some]
          by_cases hcmp : zs_af f (b.1 92 9) X (zs_E f n e).1 l + 1 < zs_Z f n (b.1 92 9) X e (16 * (zs_E f n e).2 + l)
          · simp (disch := omega) only [hcmp, zb_ltl, zb_llt, zb_eql, zb_leq, nI_ltI, nI_eq, zb_in, nI_clamp, zb_al, zb_la, zb_ml, zb_lm, zb_mul, nI_add, Bool.false_eq_true, reduceCtorEq, Nat.not_lt_zero, cond_true, cond_false, ↓reduceIte, if_true, if_false, Option.toList_some, Option.toList_none, List.nil_append, List.cons_append, Option.bind_some]
            exact ⟨_, ⟨h1.u _ _ (by decide) rfl, fin _ (by rw [hnew, Nat.max_eq_left (by omega)])⟩, rfl⟩
          · simp (disch := omega) only [hcmp, zb_ltl, zb_llt, zb_eql, zb_leq, nI_ltI, nI_eq, zb_in, nI_clamp, zb_al, zb_la, zb_ml, zb_lm, zb_mul, nI_add, Bool.false_eq_true, reduceCtorEq, Nat.not_lt_zero, cond_true, cond_false, ↓reduceIte, if_true, if_false, Option.toList_some, Option.toList_none, List.nil_append, List.cons_append, Option.bind_some]
            exact ⟨_, ⟨h1.u _ _ (by decide) rfl, fin _ (by rw [hnew, Nat.max_eq_right (by omega)])⟩, rfl⟩) 0 c (Nat.zero_le _) ⟨h1, fun i hi => by rw [if_neg (fun q => by omega)]; exact h2 i hi⟩
      rw [show zm 196 23 [z_r 91, z_i (nI e), z_i 0, none] [] c = _ from e2]
      try dsimp only
      rw [em_196_23]
      simp (disch := omega) only [zb_ltl, zb_llt, zb_eql, zb_leq, nI_ltI, nI_eq, zb_in, nI_clamp, zb_al, zb_la, zb_ml, zb_lm, zb_mul, nI_add, Bool.false_eq_true, reduceCtorEq, Nat.not_lt_zero, cond_true, cond_false, ↓reduceIte, if_true, if_false, Option.toList_some, Option.toList_none, List.nil_append, List.cons_append, Option.bind_some, Nat.lt_irrefl]
      refine ⟨c2, ⟨h3, fun i hi => ?_⟩, rfl⟩
      rw [h4 i hi]
      by_cases hc : (zs_E f n e).2 = i / 16
      · rw [if_pos ⟨hc, by omega⟩]
      · rw [if_neg (fun q => hc q.1)]
        show _ = zp (zs_p1 f (if (zs_E f n e).2 = i / 16 then _ else _))
        rw [if_neg hc])
    (by
      rintro c ⟨h1, h2⟩
      have hEc := hE.k h1 rfl rfl rfl rfl
      try dsimp only
      rw [em_196_16, hEc.1]
      simp (disch := omega) only [zb_ltl, zb_llt, zb_eql, zb_leq, nI_ltI, nI_eq, zb_in, nI_clamp, zb_al, zb_la, zb_ml, zb_lm, zb_mul, nI_add, Bool.false_eq_true, reduceCtorEq, Nat.not_lt_zero, cond_true, cond_false, ↓reduceIte, if_true, if_false, Option.toList_some, Option.toList_none, List.nil_append, List.cons_append, Option.bind_some, Nat.lt_irrefl]
      exact zw_ret ⟨rfl, h1, h2⟩)
    0 b1 (Nat.zero_le _) ⟨hK1, fun i hi => (hf1 i hi).trans (by rw [show zs_Z f n (b.1 92 9) X 0 i = 0 from rfl, show zs_p1 f 0 = 0 from if_pos (Nat.zero_le _), zp_0])⟩
  obtain ⟨v, d, e, hv, h1, h2⟩ := key
  subst hv
  exact ⟨d, e, h1, h2⟩
end RmMet
