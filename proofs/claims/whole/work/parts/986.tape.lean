/-! ===== the machine's text: words ===== -/
def zy_to (p : Nat → Bool) (t : Nat) : Nat → Nat → Nat
  | 0, i => i
  | g + 1, i => if i < t ∧ p i = true then zy_to p t g (i + 1) else i
def zy_l (y : Nat → Nat) (i : Nat) : Bool := decide (97 ≤ y i ∧ y i ≤ 122)
def zy_d (y : Nat → Nat) (i : Nat) : Bool := decide (48 ≤ y i ∧ y i ≤ 57)
def zy_at (y : Nat → Nat) (t e : Nat) : Nat := zy_to (fun i => decide (y i = 32)) t 100 e
def zy_en (y : Nat → Nat) (t i : Nat) : Nat := if i < t then (if zy_l y i = true then zy_to (zy_l y) t 100 (i + 1) else if zy_d y i = true then zy_to (zy_d y) t 100 (i + 1) else i + 1) else i
/-- a byte as the class keeps it -/
def zy_s (r : Nat) : Int32 := (nI r).toInt8.toInt32
def zY (a : zd_D) (y : Nat → Nat) (t : Nat) : Prop := a.1 35 1 = nI t ∧ t ≤ 96 ∧ ∀ i, i < t → y i < 256 ∧ a.1 36 i = zy_s (y i)
section ZTape
variable {nl : Int32} {a a' b b' : zd_D} {f : zF} {n w : Nat} {nu : Nat → Nat}
theorem zy_to_ge (p : Nat → Bool) (t : Nat) : ∀ g i, i ≤ zy_to p t g i
  | 0, i => Nat.le_refl i
  | g + 1, i => by
    unfold zy_to
    split
    · have := zy_to_ge p t g (i + 1); omega
    · exact Nat.le_refl i
theorem zy_to_le (p : Nat → Bool) (t : Nat) : ∀ g i, i ≤ t → zy_to p t g i ≤ t
  | 0, i, h => h
  | g + 1, i, h => by
    unfold zy_to
    split
    · rename_i c; exact zy_to_le p t g (i + 1) (by omega)
    · exact h
theorem zy_to_g (p : Nat → Bool) (t : Nat) : ∀ g g' i, t ≤ g + i → t ≤ g' + i → zy_to p t g i = zy_to p t g' i
  | 0, 0, _, _, _ => rfl
  | 0, g' + 1, i, h, _ => by
    show i = if i < t ∧ p i = true then _ else i
    rw [if_neg (by omega)]
  | g + 1, 0, i, _, h => by
    show (if i < t ∧ p i = true then _ else i) = i
    rw [if_neg (by omega)]
  | g + 1, g' + 1, i, h, h' => by
    show (if i < t ∧ p i = true then _ else i) = if i < t ∧ p i = true then _ else i
    rw [zy_to_g p t g g' (i + 1) (by omega) (by omega)]
theorem zy_to_1 {p : Nat → Bool} {t i : Nat} (ht : t ≤ 96) (h : i < t) (hp : p i = true) : zy_to p t 100 i = zy_to p t 100 (i + 1) := by
  rw [show zy_to p t 100 i = if i < t ∧ p i = true then zy_to p t 99 (i + 1) else i from rfl, if_pos ⟨h, hp⟩]
  exact zy_to_g p t _ _ _ (by omega) (by omega)
theorem zy_to_0 {p : Nat → Bool} {t i : Nat} (h : ¬ (i < t ∧ p i = true)) : zy_to p t 100 i = i := by
  rw [show zy_to p t 100 i = if i < t ∧ p i = true then zy_to p t 99 (i + 1) else i from rfl, if_neg h]
theorem zy_lo : ∀ r, r < 128 → zy_s r = nI r := by decide +kernel
theorem zy_hi : ∀ r, r < 256 → 128 ≤ r → zy_s r < 0 := by decide +kernel
theorem zy_eq {r c : Nat} (hr : r < 256) (hc : c < 128) : zy_s r = nI c ↔ r = c := by
  by_cases h : r < 128
  · rw [zy_lo r h, nI_eq (by omega) (by omega)]
  · have := zy_hi r hr (by omega)
    refine ⟨fun q => ?_, fun q => by omega⟩
    rw [q] at this
    exact absurd this (nI_pos (by omega))
theorem zy_lt {r c : Nat} (hr : r < 256) (hc : c < 128) : zy_s r < nI c ↔ (r < c ∨ 128 ≤ r) := by
  by_cases h : r < 128
  · rw [zy_lo r h, nI_ltI (by omega) (by omega)]
    omega
  · have := zy_hi r hr (by omega)
    exact ⟨fun _ => by omega, fun _ => zb_neg_lt this (by omega)⟩
theorem zy_gt {r c : Nat} (hr : r < 256) (hc : c < 128) : nI c < zy_s r ↔ (c < r ∧ r < 128) := by
  by_cases h : r < 128
  · rw [zy_lo r h, nI_ltI (by omega) (by omega)]
    omega
  · have := zy_hi r hr (by omega)
    rw [zb_neg1 _ this _ (by omega)]
    exact ⟨False.elim, fun q => by omega⟩
theorem rx_next {y : Nat → Nat} {t e : Nat} (hY : zY a y t) (he : a.1 35 3 = nI e) (het : e ≤ t) : ∃ a', zx nl 17 0 [z_r 35, none] [] a = some (none, a') ∧ (∀ c, ¬ c = 35 → a'.1 c = a.1 c) ∧ a'.2 = a.2 ∧ zY a' y t ∧ a'.1 35 2 = nI (zy_at y t e) ∧ a'.1 35 3 = nI (zy_en y t (zy_at y t e)) ∧ a'.1 35 4 = (if 0 < zy_at y t e ∧ zy_at y t e = e then 1 else 0) := by
  obtain ⟨h1, ht, hy⟩ := hY
  -- blanks
  have blank : ∀ g i (d : zd_D), t - i = g → i ≤ t → (∀ c, ¬ c = 35 → d.1 c = a.1 c) → d.2 = a.2 → d.1 35 1 = nI t → d.1 35 2 = nI i → ∃ d', zx nl 17 7 [z_r 35, z_i (nI e)] [] d = zx nl 17 27 [z_r 35, z_i (nI e)] [] d' ∧ (∀ c, ¬ c = 35 → d'.1 c = a.1 c) ∧ d'.2 = a.2 ∧ d'.1 35 1 = nI t ∧ d'.1 35 2 = nI (zy_at y t i) := by
    intro g
    induction g with
    | zero =>
      intro i d hg hi k1 k2 k3 k4
      have : i = t := by omega
      subst this
      refine ⟨d, ?_, k1, k2, k3, ?_⟩
      · rw [ex_17_7, k4, k3, if_neg (nI_nlt (Nat.le_refl _) (by omega))]
      · unfold zy_at; rw [zy_to_0 (by omega)]; exact k4
    | succ g ih =>
      intro i d hg hi k1 k2 k3 k4
      obtain ⟨y1, y2⟩ := hy i (by omega)
      have hE : zy_s (y i) = 32 ↔ y i = 32 := zy_eq (c := 32) y1 (by omega)
      rw [ex_17_7, k4, k3, if_pos (nI_lt (by omega) (by omega)), zb_in (by omega) (by omega), nI_clamp (by omega), k1 36 (by decide), y2, cond_true]
      by_cases c : y i = 32
      · rw [if_pos (hE.mpr c), nI_1]
        have hst : zy_at y t i = zy_at y t (i + 1) := zy_to_1 ht (by omega) (decide_eq_true c)
        rw [hst]
        exact ih (i + 1) (zd_u d 35 2 (nI (i + 1))) (by omega) (by omega) (fun c q => by rw [zb_uc _ _ _ _ q]; exact k1 c q) k2 (by rw [zb_ui _ _ _ _ (by decide)]; exact k3) (zb_ue _ _ _ _)
      · rw [if_neg (fun w => c (hE.mp w))]
        refine ⟨d, rfl, k1, k2, k3, ?_⟩
        unfold zy_at; rw [zy_to_0 (fun w => c (of_decide_eq_true w.2))]; exact k4
  rw [ex_17_0, he]
  obtain ⟨d1, e1, k1, k2, k3, k4⟩ := blank (t - e) e (zd_u a 35 2 (nI e)) rfl het (fun c q => zb_uc _ _ _ _ q) rfl (by rw [zb_ui _ _ _ _ (by decide)]; exact h1) (zb_ue _ _ _ _)
  rw [e1]
  have hat1 : e ≤ zy_at y t e := zy_to_ge _ _ _ _
  have hat2 : zy_at y t e ≤ t := zy_to_le _ _ _ _ het
  generalize zy_at y t e = i at *
  -- how it stands
  obtain ⟨d2, e2, m1, m2, m3, m4, m5, m6⟩ : ∃ d', zx nl 17 27 [z_r 35, z_i (nI e)] [] d1 = zx nl 17 54 [z_r 35, none] [] d' ∧ (∀ c, ¬ c = 35 → d'.1 c = a.1 c) ∧ d'.2 = a.2 ∧ d'.1 35 1 = nI t ∧ d'.1 35 2 = nI i ∧ d'.1 35 3 = nI (if i < t then i + 1 else i) ∧ d'.1 35 4 = (if 0 < i ∧ i = e then 1 else 0) := by
    have hw : ∀ v u : Int32, (∀ c, ¬ c = 35 → (zd_u (zd_u d1 35 4 v) 35 3 u).1 c = a.1 c) ∧ (zd_u (zd_u d1 35 4 v) 35 3 u).2 = a.2 ∧ (zd_u (zd_u d1 35 4 v) 35 3 u).1 35 1 = nI t ∧ (zd_u (zd_u d1 35 4 v) 35 3 u).1 35 2 = nI i ∧ (zd_u (zd_u d1 35 4 v) 35 3 u).1 35 3 = u ∧ (zd_u (zd_u d1 35 4 v) 35 3 u).1 35 4 = v := fun v u => ⟨fun c q => by rw [zb_uc _ _ _ _ q, zb_uc _ _ _ _ q]; exact k1 c q, k2, by rw [zb_ui _ _ _ _ (by decide), zb_ui _ _ _ _ (by decide)]; exact k3, by rw [zb_ui _ _ _ _ (by decide), zb_ui _ _ _ _ (by decide)]; exact k4, zb_ue _ _ _ _, by rw [zb_ui _ _ _ _ (by decide), zb_ue]⟩
    have st : zx nl 17 27 [z_r 35, z_i (nI e)] [] d1 = zx nl 17 54 [z_r 35, none] [] (zd_u (zd_u d1 35 4 (if 0 < i ∧ i = e then 1 else 0)) 35 3 (nI (if i < t then i + 1 else i))) := by
      rw [ex_17_27, k4, k3, nI_1]
      simp (disch := omega) only [zb_ltl, zb_llt, zb_eql, zb_leq, nI_ltI, nI_eq, zb_in, nI_clamp, zb_al, zb_la, zb_ml, zb_lm, zb_mul, nI_add]
      by_cases c1 : 0 < i
      · by_cases c2 : i = e
        · by_cases c3 : i < t
          · rw [if_pos c1, if_pos c2, if_pos c3, if_pos ⟨c1, c2⟩, if_pos c3]
          · rw [if_pos c1, if_pos c2, if_neg c3, if_pos ⟨c1, c2⟩, if_neg c3]
        · by_cases c3 : i < t
          · rw [if_pos c1, if_neg c2, if_pos c3, if_neg (fun w => c2 w.2), if_pos c3]
          · rw [if_pos c1, if_neg c2, if_neg c3, if_neg (fun w => c2 w.2), if_neg c3]
      · by_cases c3 : i < t
        · rw [if_neg c1, if_pos c3, if_neg (fun w => c1 w.1), if_pos c3]
        · rw [if_neg c1, if_neg c3, if_neg (fun w => c1 w.1), if_neg c3]
    obtain ⟨q1, q2, q3, q4, q5, q6⟩ := hw (if 0 < i ∧ i = e then 1 else 0) (nI (if i < t then i + 1 else i))
    exact ⟨_, st, q1, q2, q3, q4, q5, q6⟩
  rw [e2]
  -- a run of letters, or of figures
  have fin : ∀ (d : zd_D) (j : Nat), (∀ c, ¬ c = 35 → d.1 c = a.1 c) → d.2 = a.2 → d.1 35 1 = nI t → d.1 35 2 = nI i → d.1 35 3 = nI j → d.1 35 4 = (if 0 < i ∧ i = e then 1 else 0) → j = zy_en y t i → ∃ a', (some (none, d) : Option (Option mx_V × zd_D)) = some (none, a') ∧ (∀ c, ¬ c = 35 → a'.1 c = a.1 c) ∧ a'.2 = a.2 ∧ zY a' y t ∧ a'.1 35 2 = nI i ∧ a'.1 35 3 = nI (zy_en y t i) ∧ a'.1 35 4 = (if 0 < i ∧ i = e then 1 else 0) := by
    intro d j q1 q2 q3 q4 q5 q6 q7
    exact ⟨d, rfl, q1, q2, ⟨q3, ht, fun k hk => by rw [q1 36 (by decide)]; exact hy k hk⟩, q4, by rw [← q7]; exact q5, q6⟩
  have run : ∀ (r0 : Nat) (p : Nat → Bool), (∀ (d : zd_D) j, j < t → d.1 35 1 = nI t → d.1 35 3 = nI j → d.1 36 = a.1 36 → zx nl 17 r0 [z_r 35, none] [] d = if p j = true then zx nl 17 r0 [z_r 35, none] [] (zd_u d 35 3 (nI (j + 1))) else some (none, d)) → (∀ d : zd_D, d.1 35 1 = nI t → d.1 35 3 = nI t → zx nl 17 r0 [z_r 35, none] [] d = some (none, d)) → zy_en y t i = zy_to p t 100 (i + 1) → ∀ g j (d : zd_D), t - j = g → j ≤ t → (∀ c, ¬ c = 35 → d.1 c = a.1 c) → d.2 = a.2 → d.1 35 1 = nI t → d.1 35 2 = nI i → d.1 35 3 = nI j → d.1 35 4 = (if 0 < i ∧ i = e then 1 else 0) → zy_to p t 100 j = zy_to p t 100 (i + 1) → ∃ a', zx nl 17 r0 [z_r 35, none] [] d = some (none, a') ∧ (∀ c, ¬ c = 35 → a'.1 c = a.1 c) ∧ a'.2 = a.2 ∧ zY a' y t ∧ a'.1 35 2 = nI i ∧ a'.1 35 3 = nI (zy_en y t i) ∧ a'.1 35 4 = (if 0 < i ∧ i = e then 1 else 0) := by
    intro r0 p step stop hen g
    induction g with
    | zero =>
      intro j d hg hj q1 q2 q3 q4 q5 q6 q7
      have : j = t := by omega
      subst this
      rw [stop d q3 q5]
      refine fin d j q1 q2 q3 q4 q5 q6 ?_
      rw [hen, ← q7, zy_to_0 (by omega)]
    | succ g ih =>
      intro j d hg hj q1 q2 q3 q4 q5 q6 q7
      rw [step d j (by omega) q3 q5 (q1 36 (by decide))]
      by_cases c : p j = true
      · rw [if_pos c]
        exact ih (j + 1) _ (by omega) (by omega) (fun c q => by rw [zb_uc _ _ _ _ q]; exact q1 c q) q2 (by rw [zb_ui _ _ _ _ (by decide)]; exact q3) (by rw [zb_ui _ _ _ _ (by decide)]; exact q4) (zb_ue _ _ _ _) (by rw [zb_ui _ _ _ _ (by decide)]; exact q6) (by rw [← zy_to_1 ht (by omega) c]; exact q7)
      · rw [if_neg c]
        refine fin d j q1 q2 q3 q4 q5 q6 ?_
        rw [hen, ← q7, zy_to_0 (fun w => c w.2)]
  by_cases c3 : i < t
  rotate_left
  · rw [ex_17_54, m4, m3]
    simp (disch := omega) only [zb_ltl, zb_llt, zb_eql, zb_leq, nI_ltI, nI_eq, zb_in, nI_clamp, zb_al, zb_la, zb_ml, zb_lm, zb_mul, nI_add, Bool.false_eq_true, reduceCtorEq, Nat.not_lt_zero, cond_true, cond_false, ↓reduceIte, if_true, if_false, Option.toList_some, Option.toList_none, List.nil_append, List.cons_append, Option.bind_some, c3]
    rw [if_neg c3] at m5
    refine fin d2 i m1 m2 m3 m4 m5 m6 ?_
    unfold zy_en; rw [if_neg c3]
  rw [if_pos c3] at m5
  obtain ⟨y1, y2⟩ := hy i c3
  have L1 : zy_s (y i) < 97 ↔ (y i < 97 ∨ 128 ≤ y i) := zy_lt (c := 97) y1 (by omega)
  have L2 : 122 < zy_s (y i) ↔ (122 < y i ∧ y i < 128) := zy_gt (c := 122) y1 (by omega)
  have D1 : zy_s (y i) < 48 ↔ (y i < 48 ∨ 128 ≤ y i) := zy_lt (c := 48) y1 (by omega)
  have D2 : 57 < zy_s (y i) ↔ (57 < y i ∧ y i < 128) := zy_gt (c := 57) y1 (by omega)
  have hst : zx nl 17 54 [z_r 35, none] [] d2 = if zy_l y i = true then zx nl 17 67 [z_r 35, none] [] d2 else if zy_d y i = true then zx nl 17 99 [z_r 35, none] [] d2 else some (none, d2) := by
    rw [ex_17_54, m4, m3, m1 36 (by decide), nI_clamp (by omega), y2]
    simp (disch := omega) only [zb_ltl, zb_llt, zb_eql, zb_leq, nI_ltI, nI_eq, zb_in, nI_clamp, zb_al, zb_la, zb_ml, zb_lm, zb_mul, nI_add, Bool.false_eq_true, reduceCtorEq, Nat.not_lt_zero, cond_true, cond_false, ↓reduceIte, if_true, if_false, Option.toList_some, Option.toList_none, List.nil_append, List.cons_append, Option.bind_some, c3, L1, L2, D1, D2, zy_l, zy_d, decide_eq_true_eq]
    grind (splits := 40)
  rw [hst]
  have lstep : ∀ (d : zd_D) j, j < t → d.1 35 1 = nI t → d.1 35 3 = nI j → d.1 36 = a.1 36 → zx nl 17 67 [z_r 35, none] [] d = if zy_l y j = true then zx nl 17 67 [z_r 35, none] [] (zd_u d 35 3 (nI (j + 1))) else some (none, d) := by
    intro d j hj q1 q2 q3
    obtain ⟨w1, w2⟩ := hy j hj
    have L1 : zy_s (y j) < 97 ↔ (y j < 97 ∨ 128 ≤ y j) := zy_lt (c := 97) w1 (by omega)
    have L2 : 122 < zy_s (y j) ↔ (122 < y j ∧ y j < 128) := zy_gt (c := 122) w1 (by omega)
    rw [ex_17_67, q2, q1, q3, nI_clamp (by omega), w2, nI_1]
    simp (disch := omega) only [zb_ltl, zb_llt, zb_eql, zb_leq, nI_ltI, nI_eq, zb_in, nI_clamp, zb_al, zb_la, zb_ml, zb_lm, zb_mul, nI_add, Bool.false_eq_true, reduceCtorEq, Nat.not_lt_zero, cond_true, cond_false, ↓reduceIte, if_true, if_false, Option.toList_some, Option.toList_none, List.nil_append, List.cons_append, Option.bind_some, hj, L1, L2, zy_l, decide_eq_true_eq]
    grind (splits := 40)
  have dstep : ∀ (d : zd_D) j, j < t → d.1 35 1 = nI t → d.1 35 3 = nI j → d.1 36 = a.1 36 → zx nl 17 99 [z_r 35, none] [] d = if zy_d y j = true then zx nl 17 99 [z_r 35, none] [] (zd_u d 35 3 (nI (j + 1))) else some (none, d) := by
    intro d j hj q1 q2 q3
    obtain ⟨w1, w2⟩ := hy j hj
    have D1 : zy_s (y j) < 48 ↔ (y j < 48 ∨ 128 ≤ y j) := zy_lt (c := 48) w1 (by omega)
    have D2 : 57 < zy_s (y j) ↔ (57 < y j ∧ y j < 128) := zy_gt (c := 57) w1 (by omega)
    rw [ex_17_99, q2, q1, q3, nI_clamp (by omega), w2, nI_1]
    simp (disch := omega) only [zb_ltl, zb_llt, zb_eql, zb_leq, nI_ltI, nI_eq, zb_in, nI_clamp, zb_al, zb_la, zb_ml, zb_lm, zb_mul, nI_add, Bool.false_eq_true, reduceCtorEq, Nat.not_lt_zero, cond_true, cond_false, ↓reduceIte, if_true, if_false, Option.toList_some, Option.toList_none, List.nil_append, List.cons_append, Option.bind_some, hj, D1, D2, zy_d, decide_eq_true_eq]
    grind (splits := 40)
  by_cases cl : zy_l y i = true
  · rw [if_pos cl]
    exact run 67 (zy_l y) lstep (fun d q1 q2 => by rw [ex_17_67, q2, q1, if_neg (nI_nlt (Nat.le_refl _) (by omega))]) (by unfold zy_en; rw [if_pos c3, if_pos cl]) (t - (i + 1)) (i + 1) d2 rfl (by omega) m1 m2 m3 m4 m5 m6 rfl
  · rw [if_neg cl]
    by_cases cd : zy_d y i = true
    · rw [if_pos cd]
      exact run 99 (zy_d y) dstep (fun d q1 q2 => by rw [ex_17_99, q2, q1, if_neg (nI_nlt (Nat.le_refl _) (by omega))]) (by unfold zy_en; rw [if_pos c3, if_neg cl, if_pos cd]) (t - (i + 1)) (i + 1) d2 rfl (by omega) m1 m2 m3 m4 m5 m6 rfl
    · rw [if_neg cd]
      refine fin d2 (i + 1) m1 m2 m3 m4 m5 m6 ?_
      unfold zy_en; rw [if_pos c3, if_neg cl, if_neg cd]
end ZTape
