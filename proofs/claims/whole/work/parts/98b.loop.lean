/-! ===== calls: machine, part by part ===== -/
def zs_rt (k r : Nat) : Bool := if k < 2 then decide (r = 1 ∨ r = 2 ∨ r = 4) else if k = 3 then decide (r ≤ 99) else decide (r ≤ 9)
def zs_bad (tl : Nat → Bool) (v : Nat → Nat) : Bool := zs_any (fun k => tl k && !zs_rt k (v k)) 8
def zLp (a b : zd_D) (f : zF) (y : Nat → Nat) (t i : Nat) (gl : Bool) (p m : Nat) (tl : Nat → Bool) (v : Nat → Nat) (d e : zd_D) : Prop :=
  ((∀ c, ¬ c = 35 → ¬ c = 37 → d.1 c = a.1 c) ∧ d.2 = a.2 ∧ zTp d y t i gl ∧ ∀ k, k < 8 → d.1 37 k = if tl k = true then nI (v k) else f k) ∧
  (zK 91 [97] [7, 8, 9, 10, 11, 13, 14] b e ∧ zGo e y t i gl ∧ (∀ k, k < 8 → e.1 97 k = if tl k = true then nI (v k) else -1) ∧ e.1 91 13 = nI p ∧ e.1 91 14 = (if zs_bad tl v = true then 1 else 0)) ∧
  (m < 256 ∧ (∀ k, k < 8 → m.testBit k = tl k) ∧ p = zs_cnt tl 8 ∧ i ≤ t ∧ ∀ k, k < 8 → tl k = true → v k < 1000 ∧ ((k = 2 ∨ k = 5) → v k ≤ 2))
def zy_val (y : Nat → Nat) (t i : Nat) (gl : Bool) (k : Nat) : Int32 := if k = 2 then zy_one y i (zy_en y t i) gl 8 else if k = 5 then zy_one y i (zy_en y t i) gl 11 else zy_num y t i gl
section ZLoop
variable {nl : Int32} {a a' b b' : zd_D} {f f' : zF} {n w : Nat} {nu : Nat → Nat}
theorem rx_value {y : Nat → Nat} {t i k : Nat} {gl : Bool} (h : zTp a y t i gl) (hi : i ≤ t) (hk : k < 8) : zx nl 30 0 [z_r 35, z_i (nI k)] [] a = some (some (.inl (zy_val y t i gl k)), a) := by
  obtain ⟨hY, h2, h3, h4⟩ := h
  obtain ⟨g1, g2, -⟩ := zy_en_ge (y := y) hi
  rw [ex_30_0]
  unfold zy_val
  by_cases k2 : k = 2
  · subst k2
    rw [if_pos (show nI 2 = 2 from rfl), if_pos rfl, show zx nl 31 0 [z_r 35, z_r 1000009, z_r 1000010, z_r 1000011] [] a = some (some (.inl (zy_one y i (zy_en y t i) gl 8)), a) from rx_oneof hY h2 h3 h4 g1 g2 (Or.inl rfl)]
    simp only [Bool.false_eq_true, reduceCtorEq, Nat.not_lt_zero, cond_true, cond_false, ↓reduceIte, if_true, if_false, Option.toList_some, Option.toList_none, List.nil_append, List.cons_append, Option.bind_some]
    rw [ex_30_8]
  · rw [if_neg (show ¬ nI k = 2 from fun w => k2 ((nI_eq (b := 2) (by omega) (by omega)).mp w)), if_neg k2]
    by_cases k5 : k = 5
    · subst k5
      rw [if_pos (show nI 5 = 5 from rfl), if_pos rfl, show zx nl 31 0 [z_r 35, z_r 1000012, z_r 1000013, z_r 1000014] [] a = some (some (.inl (zy_one y i (zy_en y t i) gl 11)), a) from rx_oneof hY h2 h3 h4 g1 g2 (Or.inr rfl)]
      simp only [Bool.false_eq_true, reduceCtorEq, Nat.not_lt_zero, cond_true, cond_false, ↓reduceIte, if_true, if_false, Option.toList_some, Option.toList_none, List.nil_append, List.cons_append, Option.bind_some]
      rw [ex_30_17]
    · rw [if_neg (show ¬ nI k = 5 from fun w => k5 ((nI_eq (b := 5) (by omega) (by omega)).mp w)), if_neg k5, rx_number hY h2 h3 h4 g1 g2]
      simp only [Bool.false_eq_true, reduceCtorEq, Nat.not_lt_zero, cond_true, cond_false, ↓reduceIte, if_true, if_false, Option.toList_some, Option.toList_none, List.nil_append, List.cons_append, Option.bind_some]
      rw [ex_30_20]
theorem rm_isright {k r : Nat} (hk : k < 8) (hr : r < 1000) : zm 177 0 [z_i (nI k), z_i (nI r)] [] b = some (some (.inl (if zs_rt k r = true then 1 else 0)), b) := by
  rw [em_177_0]
  unfold zs_rt
  simp (disch := omega) only [zb_ltl, zb_llt, zb_eql, zb_leq, nI_ltI, nI_eq, zb_in, nI_clamp, zb_al, zb_la, zb_ml, zb_lm, zb_mul, nI_add, Bool.false_eq_true, reduceCtorEq, Nat.not_lt_zero, cond_true, cond_false, ↓reduceIte, if_true, if_false, Option.toList_some, Option.toList_none, List.nil_append, List.cons_append, Option.bind_some]
  by_cases c1 : k < 2
  · simp only [c1, if_true, decide_eq_true_eq]
    by_cases q1 : r = 1
    · simp [q1]
    · by_cases q2 : r = 2
      · simp [q2]
      · by_cases q4 : r = 4
        · simp [q4]
        · simp [q1, q2, q4]
  · simp only [c1, if_false]
    by_cases c3 : k = 3
    · simp only [c3, if_true, decide_eq_true_eq]
      by_cases q : 99 < r
      · simp [q, show ¬ r ≤ 99 by omega]
      · simp [q, show r ≤ 99 by omega]
    · simp only [c3, if_false, decide_eq_true_eq]
      by_cases q : 9 < r
      · simp [q, show ¬ r ≤ 9 by omega]
      · simp [q, show r ≤ 9 by omega]
theorem rx_isright {k r : Nat} (hk : k < 8) (hr : r < 1000) : zx nl 21 0 [z_i (nI k), z_i (nI r)] [] a = some (some (.inl (if zs_rt k r = true then 1 else 0)), a) := by
  rw [ex_21_0]
  unfold zs_rt
  simp (disch := omega) only [zb_ltl, zb_llt, zb_eql, zb_leq, nI_ltI, nI_eq, zb_in, nI_clamp, zb_al, zb_la, zb_ml, zb_lm, zb_mul, nI_add, Bool.false_eq_true, reduceCtorEq, Nat.not_lt_zero, cond_true, cond_false, ↓reduceIte, if_true, if_false, Option.toList_some, Option.toList_none, List.nil_append, List.cons_append, Option.bind_some]
  have hk8 : k = 0 ∨ k = 1 ∨ k = 2 ∨ k = 3 ∨ k = 4 ∨ k = 5 ∨ k = 6 ∨ k = 7 := by omega
  rcases hk8 with rfl | rfl | rfl | rfl | rfl | rfl | rfl | rfl <;> grind
def zy_gl (y : Nat → Nat) (t e : Nat) : Bool := decide (0 < zy_at y t e ∧ zy_at y t e = e)
theorem rx_nextw {y : Nat → Nat} {t i : Nat} {gl : Bool} (h : zTp a y t i gl) (hi : i ≤ t) : ∃ d, zx nl 17 0 [z_r 35, none] [] a = some (none, d) ∧ (∀ c, ¬ c = 35 → d.1 c = a.1 c) ∧ d.2 = a.2 ∧ zTp d y t (zy_at y t (zy_en y t i)) (zy_gl y t (zy_en y t i)) ∧ zy_at y t (zy_en y t i) ≤ t := by
  obtain ⟨hY, h2, h3, h4⟩ := h
  obtain ⟨g1, g2, -⟩ := zy_en_ge (y := y) hi
  obtain ⟨d, e, q1, q2, q3, q4, q5, q6⟩ := rx_next (nl := nl) hY h3 g2
  refine ⟨d, e, q1, q2, ⟨q3, q4, q5, ?_⟩, zy_to_le _ _ _ _ g2⟩
  rw [q6]
  unfold zy_gl
  simp only [decide_eq_true_eq]
theorem rm_gow {y : Nat → Nat} {t i : Nat} {gl : Bool} (hY : zYm b y t) {e : zd_D} (hK : zK 91 [97] [7, 8, 9, 10, 11, 13, 14] b e) (h : zGo e y t i gl) (hit : i < t) (hw : zy_l y i = true ∨ zy_d y i = true) : ∃ e', zm 171 0 [z_r 91, none] [] e = some (none, e') ∧ zKg e e' ∧ zGo e' y t (zy_at y t (zy_en y t i)) (zy_gl y t (zy_en y t i)) := by
  obtain ⟨g1, g2, g3⟩ := zy_en_ge (y := y) (show i ≤ t by omega)
  have g3 := g3 hit
  obtain ⟨h8, h9, h7, -, -⟩ := h
  obtain ⟨h7, h11⟩ := h7 ⟨hit, hw⟩
  obtain ⟨y1, y2, y3, y4⟩ := hY
  have hYe : zYm e y t := ⟨by rw [hK.2.1 4 (by decide)]; exact y1, y2, fun k hk => by rw [hK.1 94 (by decide) rfl]; exact y3 k hk, y4.m (hK.2.1 38 (by decide)) (hK.1 95 (by decide) rfl) (hK.1 96 (by decide) rfl)⟩
  have hat := zy_to_ge (fun i => decide (y i = 32)) t 100 (zy_en y t i)
  have hat2 := zy_to_le (fun i => decide (y i = 32)) t 100 (zy_en y t i) g2
  obtain ⟨d, e1, k1, k2, k3, k4, k5, k6⟩ := rm_go hYe h7 g2 (gl := zy_gl y t (zy_en y t i)) (by
    rw [h11, nI_eq (show zy_at y t (zy_en y t i) < 2 ^ 31 by unfold zy_at; omega) (by omega)]
    unfold zy_gl
    rw [decide_eq_true_eq]
    constructor
    · intro q; exact ⟨by omega, q⟩
    · intro q; exact q.2)
  exact ⟨d, e1, k1, k2, k3, k4, k5, k6⟩
end ZLoop
