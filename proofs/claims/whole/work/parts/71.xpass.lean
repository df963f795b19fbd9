/-! ===== what must and may be there: the class, pass by pass ===== -/
def zs_pop (v : Nat) : Nat := zs_sum (fun l => if v.testBit l = true then 1 else 0) 16
theorem zs_in_bit {v w : Nat} (h : zs_in v w) {l : Nat} (hl : v.testBit l = true) : w.testBit l = true := by
  unfold zs_in at h
  rw [← h, Nat.testBit_or, hl, Bool.or_true]
theorem zs_pop_le {v w : Nat} (h : zs_in v w) : zs_pop v ≤ zs_pop w := by
  refine zs_sum_le _ fun l _ => ?_
  by_cases hv : v.testBit l = true
  · simp only [hv, zs_in_bit h hv, if_true]; exact Nat.le_refl _
  · simp only [hv]; exact Nat.zero_le _
theorem zs_pop_lt {v w : Nat} (h : zs_in v w) (hw : w < 65536) (hlt : v < w) : zs_pop v < zs_pop w := by
  have hex : ∃ l, v.testBit l = false ∧ w.testBit l = true := by
    apply Classical.byContradiction
    intro hno
    have : v = w := by
      apply Nat.eq_of_testBit_eq
      intro i
      cases hv : v.testBit i with
      | true => rw [zs_in_bit h hv]
      | false =>
        cases hw : w.testBit i with
        | true => exact absurd ⟨i, hv, hw⟩ hno
        | false => rfl
    omega
  obtain ⟨l, h1, h2⟩ := hex
  have hl : l < 16 := by
    apply Classical.byContradiction
    intro hge
    rw [Nat.testBit_lt_two_pow (Nat.lt_of_lt_of_le hw (Nat.pow_le_pow_right (n := 2) (i := 16) (by decide) (by omega)))] at h2
    cases h2
  refine zs_sum_lt _ (fun i _ => ?_) ⟨l, hl, ?_⟩
  · by_cases hv : v.testBit i = true
    · simp only [hv, zs_in_bit h hv, if_true]; exact Nat.le_refl _
    · simp only [hv]; exact Nat.zero_le _
  · simp only [h1, h2, if_true]
    decide
theorem zs_pop16 (v : Nat) : zs_pop v ≤ 16 := by
  refine Nat.le_trans (zs_sum_le (h := fun _ => 1) 16 (fun l _ => ?_)) (by rw [zs_sum_const]; decide)
  split <;> decide
/-- a piece of a pass: rows, flag; then rows, flag -/
def zs_adv (f : zF) (n : Nat) (lk : Int32) (lo hi : Nat) (X V : Nat → Nat) (fl : Bool) (X' V' : Nat → Nat) (fl' : Bool) : Prop :=
  (∀ i, i < 16 * n → X i ≤ X' i) ∧ (∀ k, k < n → zs_in (V k) (V' k)) ∧
  (fl' = false → fl = false ∧ (∀ i, i < 16 * n → X' i = X i) ∧ (∀ k, k < n → V' k = V k) ∧ ∀ e, lo ≤ e → e < hi → (zs_E f n e).2 < n → (∀ l, l < 16 → zs_af f lk X (zs_E f n e).1 l ≤ X (16 * (zs_E f n e).2 + l)) ∧ V (zs_E f n e).2 ||| zs_vf f lk V (zs_E f n e).1 = V (zs_E f n e).2) ∧
  (fl' = true → fl = true ∨ (∃ i, i < 16 * n ∧ X i < X' i) ∨ ∃ k, k < n ∧ V k < V' k) ∧
  (∀ Y, zs_mc f n lk Y → (∀ i, i < 16 * n → X i ≤ Y i) → ∀ i, i < 16 * n → X' i ≤ Y i) ∧
  (∀ U, zs_vc f n lk U → (∀ k, k < n → U k ||| V k = U k) → ∀ k, k < n → U k ||| V' k = U k)
section RxPass
variable {nl : Int32} {a a' : zd_D} {f : zF} {n : Nat} {lk : Int32}
theorem zs_af_congr {X Y : Nat → Nat} {k l : Nat} (hg : zW f n) (hk : k < n) (hl : l < 16) (h : ∀ i, i < 16 * n → X i = Y i) : zs_af f lk X k l = zs_af f lk Y k l := by
  have h1 := h (16 * k + l) (by omega)
  rcases zs_ln_cases (hg.2.2.2 k hk).1 with e | e | ⟨q, hq, e⟩
  · rw [zs_af_0 e, zs_af_0 e, h1]
  · rw [zs_af_1 e, zs_af_1 e, h1]
  · rw [zs_af_q hq e, zs_af_q hq e, h1, h (16 * k + q) (by omega)]
theorem zs_vf_congr {V U : Nat → Nat} {k : Nat} (h : V k = U k) : zs_vf f lk V k = zs_vf f lk U k := by
  unfold zs_vf
  rw [h]
theorem zs_adv.rf (lo : Nat) (X V : Nat → Nat) (fl : Bool) : zs_adv f n lk lo lo X V fl X V fl :=
  ⟨fun _ _ => Nat.le_refl _, fun _ _ => zs_in.rf _, fun h => ⟨h, fun _ _ => rfl, fun _ _ => rfl, fun e h1 h2 => absurd h2 (by omega)⟩, fun h => Or.inl h, fun _ _ h => h, fun _ _ h => h⟩
theorem zs_adv.tr (hW : zW f n) {lo mid hi : Nat} (hhi : hi ≤ zs_B f n n) {X V X1 V1 X2 V2 : Nat → Nat} {fl fl1 fl2 : Bool} (h : zs_adv f n lk lo mid X V fl X1 V1 fl1) (h2 : zs_adv f n lk mid hi X1 V1 fl1 X2 V2 fl2) : zs_adv f n lk lo hi X V fl X2 V2 fl2 := by
  obtain ⟨p1, p2, p3, p4, p5, p6⟩ := h
  obtain ⟨q1, q2, q3, q4, q5, q6⟩ := h2
  refine ⟨fun i hi => Nat.le_trans (p1 i hi) (q1 i hi), fun k hk => (p2 k hk).tr (q2 k hk), fun hf => ?_, fun ht => ?_, fun Y hY h => q5 Y hY (p5 Y hY h), fun U hU h => q6 U hU (p6 U hU h)⟩
  · obtain ⟨r1, r2, r3, r4⟩ := q3 hf
    obtain ⟨s1, s2, s3, s4⟩ := p3 r1
    refine ⟨s1, fun i hi => (r2 i hi).trans (s2 i hi), fun k hk => (r3 k hk).trans (s3 k hk), fun e he1 he2 ht => ?_⟩
    by_cases hm : e < mid
    · exact s4 e he1 hm ht
    · obtain ⟨t1, t2⟩ := r4 e (by omega) he2 ht
      have hlt := zs_Elt (f := f) (n := n) (e := e) (by omega)
      refine ⟨fun l hl => ?_, ?_⟩
      · have := t1 l hl
        rw [zs_af_congr hW hlt.1 hl s2, s2 _ (by omega)] at this
        exact this
      · rw [s3 _ ht, zs_vf_congr (s3 _ hlt.1)] at t2
        exact t2
  · rcases q4 ht with r | ⟨i, hi, r⟩ | ⟨k, hk, r⟩
    · rcases p4 r with s | ⟨i, hi, s⟩ | ⟨k, hk, s⟩
      · exact Or.inl s
      · exact Or.inr (Or.inl ⟨i, hi, Nat.lt_of_lt_of_le s (q1 i hi)⟩)
      · exact Or.inr (Or.inr ⟨k, hk, Nat.lt_of_lt_of_le s (q2 k hk).le⟩)
    · exact Or.inr (Or.inl ⟨i, hi, Nat.lt_of_le_of_lt (p1 i hi) r⟩)
    · exact Or.inr (Or.inr ⟨k, hk, Nat.lt_of_le_of_lt (p2 k hk).le r⟩)
set_option maxHeartbeats 2000000 in
theorem rx_meet (hW : zW f n) {X V : Nat → Nat} (hX : zXV a f n lk X V) {t : Nat} (ht : t < n) {mb : Nat} (hmb : mb < 65536) {Bh : Nat → Nat} (hB : ∀ l, l < 16 → a.1 56 l = nI (Bh l) ∧ Bh l ≤ zs_rem f) : ∃ a', zx nl 66 0 [z_r 53, z_i (nI t), z_i (nI mb), none, none, none] [] a = some (some (.inl (if (!decide (V t ||| mb = V t) || zs_any (fun l => decide (X (16 * t + l) < Bh l)) 16) = true then 1 else 0)), a') ∧ zK 0 [54, 55] [] a a' ∧ zXV a' f n lk (fun i => if i / 16 = t then max (X i) (Bh (i % 16)) else X i) (fun k => if k = t then V t ||| mb else V k) := by
  have hn := hW.le
  obtain ⟨hr1, hr4⟩ := hW.rem
  obtain ⟨hx0, hX1, hV1⟩ := hX
  obtain ⟨v1, v2⟩ := hV1 t ht
  have hor := zb_or_lt v2 hmb
  -- the row of lines that may be there is written first
  have e0 : zx nl 66 0 [z_r 53, z_i (nI t), z_i (nI mb), none, none, none] [] a = zx nl 66 28 [z_r 53, none, none, z_i (if (!decide (V t ||| mb = V t)) = true then 1 else 0), z_i (nI (t * 16)), z_i 0] [] (zd_u a 55 t (nI (V t ||| mb))) := by
    rw [ex_66_0]
    simp (disch := omega) only [zb_ltl, zb_llt, zb_eql, zb_leq, nI_ltI, nI_eq, zb_in, nI_clamp, zb_al, zb_la, zb_ml, zb_lm, zb_mul, nI_add, Bool.false_eq_true, reduceCtorEq, Nat.not_lt_zero, cond_true, cond_false, ↓reduceIte, if_true, if_false, Option.toList_some, Option.toList_none, List.nil_append, List.cons_append, Option.bind_some, v1, zb_sub0, zb_or]
    by_cases hc : V t ||| mb = V t
    · simp only [hc, Bool.false_eq_true, reduceCtorEq, Nat.not_lt_zero, cond_true, cond_false, ↓reduceIte, if_true, if_false, Option.toList_some, Option.toList_none, List.nil_append, List.cons_append, Option.bind_some, decide_true, Bool.not_true]
    · simp only [hc, Bool.false_eq_true, reduceCtorEq, Nat.not_lt_zero, cond_true, cond_false, ↓reduceIte, if_true, if_false, Option.toList_some, Option.toList_none, List.nil_append, List.cons_append, Option.bind_some, decide_false, Bool.not_false]
  have key := zl_up (F := fun l c => zx nl 66 28 [z_r 53, none, none, z_i (if (!decide (V t ||| mb = V t) || zs_any (fun l => decide (X (16 * t + l) < Bh l)) l) = true then 1 else 0), z_i (nI (t * 16)), z_i (nI l)] [] c) (n := 16) (I := fun l c => zK 0 [54] [] (zd_u a 55 t (nI (V t ||| mb))) c ∧ ∀ i, i < 16 * n → c.1 54 i = nI (if i / 16 = t ∧ i % 16 < l then max (X i) (Bh (i % 16)) else X i))
    (Q := fun v c => v = some (.inl (if (!decide (V t ||| mb = V t) || zs_any (fun l => decide (X (16 * t + l) < Bh l)) 16) = true then 1 else 0)) ∧ zK 0 [54] [] (zd_u a 55 t (nI (V t ||| mb))) c ∧ ∀ i, i < 16 * n → c.1 54 i = nI (if i / 16 = t ∧ i % 16 < 16 then max (X i) (Bh (i % 16)) else X i))
    (by
      rintro l c hl ⟨h1, h2⟩
      left
      try dsimp only
      have g0 := h2 (16 * t + l) (by omega)
      have q1 : (16 * t + l) / 16 = t := by omega
      have q2 : (16 * t + l) % 16 = l := by omega
      rw [q1, q2, if_neg (fun w => Nat.lt_irrefl _ w.2)] at g0
      have g1 : c.1 54 (t * 16 + l) = nI (X (16 * t + l)) := by rw [show t * 16 + l = 16 * t + l by omega]; exact g0
      have g2 : c.1 56 l = nI (Bh l) := by
        rw [h1.1 56 (by decide) rfl, zb_uc _ _ _ _ (by decide)]
        exact (hB l hl).1
      have b1 := (hX1 (16 * t + l) (by omega)).2
      have b2 := (hB l hl).2
      have keep : ∀ y, y = nI (max (X (16 * t + l)) (Bh l)) → ∀ i, i < 16 * n → (zd_u c 54 (t * 16 + l) y).1 54 i = nI (if i / 16 = t ∧ i % 16 < l + 1 then max (X i) (Bh (i % 16)) else X i) := by
        intro y hy i hi
        by_cases hii : i = t * 16 + l
        · rw [hii, zb_ue, hy, show t * 16 + l = 16 * t + l by omega, q1, q2, if_pos ⟨rfl, by omega⟩]
        · rw [zb_ui _ _ _ _ hii, h2 i hi]
          by_cases hc : i / 16 = t ∧ i % 16 < l
          · rw [if_pos hc, if_pos ⟨hc.1, by omega⟩]
          · rw [if_neg hc, if_neg (show ¬ (i / 16 = t ∧ i % 16 < l + 1) from fun w => hc ⟨w.1, by omega⟩)]
      rw [ex_66_28]
      simp (disch := omega) only [zb_ltl, zb_llt, zb_eql, zb_leq, nI_ltI, nI_eq, zb_in, nI_clamp, zb_al, zb_la, zb_ml, zb_lm, zb_mul, nI_add, Bool.false_eq_true, reduceCtorEq, Nat.not_lt_zero, cond_true, cond_false, ↓reduceIte, if_true, if_false, Option.toList_some, Option.toList_none, List.nil_append, List.cons_append, Option.bind_some, hl, g1, g2, zs_any]
      by_cases hlt : X (16 * t + l) < Bh l
      · simp only [hlt, Bool.false_eq_true, reduceCtorEq, Nat.not_lt_zero, cond_true, cond_false, ↓reduceIte, if_true, if_false, Option.toList_some, Option.toList_none, List.nil_append, List.cons_append, Option.bind_some, decide_true, Bool.or_true]
        exact ⟨_, ⟨h1.u _ _ (by decide) rfl, keep _ (by rw [Nat.max_eq_right (by omega)])⟩, rfl⟩
      · simp only [hlt, Bool.false_eq_true, reduceCtorEq, Nat.not_lt_zero, cond_true, cond_false, ↓reduceIte, if_true, if_false, Option.toList_some, Option.toList_none, List.nil_append, List.cons_append, Option.bind_some, decide_false, Bool.or_false]
        refine ⟨c, ⟨h1, fun i hi => ?_⟩, rfl⟩
        have := keep (nI (max (X (16 * t + l)) (Bh l))) rfl i hi
        rw [zb_u] at this
        by_cases hii : i = t * 16 + l
        · rw [if_pos ⟨rfl, hii⟩, Nat.max_eq_left (by omega)] at this
          rw [← this, hii]
          exact g1
        · rw [if_neg (fun w => hii w.2)] at this
          exact this)
    (by
      rintro c ⟨h1, h2⟩
      try dsimp only
      rw [ex_66_28]
      simp (disch := omega) only [zb_ltl, zb_llt, zb_eql, zb_leq, nI_ltI, nI_eq, zb_in, nI_clamp, zb_al, zb_la, zb_ml, zb_lm, zb_mul, nI_add, Bool.false_eq_true, reduceCtorEq, Nat.not_lt_zero, cond_true, cond_false, ↓reduceIte, if_true, if_false, Option.toList_some, Option.toList_none, List.nil_append, List.cons_append, Option.bind_some, Nat.lt_irrefl, zb_rt]
      exact zw_ret ⟨rfl, h1, h2⟩)
    0 (zd_u a 55 t (nI (V t ||| mb))) (Nat.zero_le _) ⟨zK.rf, fun i hi => by
      rw [if_neg (fun w => Nat.not_lt_zero _ w.2), zb_uc _ _ _ _ (by decide)]
      exact (hX1 i hi).1⟩
  obtain ⟨v, d, e, hv, h1, h2⟩ := key
  subst hv
  rw [show zs_any (fun l => decide (X (16 * t + l) < Bh l)) 0 = false from rfl, Bool.or_false] at e
  refine ⟨d, by rw [e0]; exact e, (zK.rf.u _ _ (by decide) rfl).tr (h1.up rfl rfl), ⟨?_, fun i hi => ⟨?_, ?_⟩, fun k hk => ?_⟩⟩
  · rw [h1.1 53 (by decide) rfl, zb_uc _ _ _ _ (by decide)]
    exact hx0
  · try dsimp only
    rw [h2 i hi]
    by_cases hc : i / 16 = t
    · rw [if_pos ⟨hc, by omega⟩, if_pos hc]
    · rw [if_neg (fun w => hc w.1), if_neg hc]
  · have b1 := (hX1 i hi).2
    have b2 := (hB (i % 16) (by omega)).2
    try dsimp only
    split <;> omega
  · try dsimp only
    rw [h1.1 55 (by decide) rfl]
    by_cases hkt : k = t
    · subst hkt
      rw [zb_ue, if_pos rfl]
      exact ⟨rfl, hor⟩
    · rw [zb_ui _ _ _ _ hkt, if_neg hkt]
      exact hV1 k hk
end RxPass
