/-! ===== the cache of a run ===== -/
/-- the first of some from c on that is so -/
def zs_fst (p : Nat → Bool) (c w : Nat) (x : Int32) : Prop := (x = -1 ∧ ∀ i, c ≤ i → i < w → p i = false) ∨ ∃ j, c ≤ j ∧ j < w ∧ x = nI j ∧ p j = true ∧ ∀ i, c ≤ i → i < j → p i = false
def zs_kc (f : zF) : Nat := if f 2 = 0 then 109 else 110
def zCh (a b : zd_D) (f : zF) (T : Nat) : Prop :=
  (a.1 39 0 = f 0 ∧ a.1 39 1 = f 1 ∧ a.1 39 2 = f 2) ∧
  (∀ i, i < 16 → a.1 40 i = b.1 108 i ∧ (b.1 108 i = -1 ∨ ∃ l, l < 16 ∧ b.1 108 i = nI l)) ∧
  (∀ i, i < 12 → a.1 42 i = b.1 111 i ∧ ∃ u, u < 2 ∧ b.1 111 i = nI u) ∧
  ∃ cc cm, ∃ S K : Nat → Nat, (cc ≤ T ∧ cm ≤ T ∧ a.1 39 3 = nI cc ∧ b.1 91 31 = nI cm) ∧
    (∀ i, i < 16 → ¬ b.1 108 i = -1 → a.1 41 i = nI (S i) ∧ b.1 (zs_kc f) i = nI (K i) ∧ S i ≤ cc ∧ K i ≤ cm) ∧
    ∀ i j, i < 16 → j < 16 → ¬ b.1 108 i = -1 → ¬ b.1 108 j = -1 → (S i < S j ↔ K i < K j)
section ZCache
variable {nl : Int32} {a a' b b' : zd_D} {f : zF} {n : Nat}
theorem zs_fst_one {p q : Nat → Bool} {w : Nat} {x y : Int32} (h : ∀ i, i < w → p i = q i) (hw : w < 100) (hx : zs_fst p 0 w x) (hy : zs_fst q 0 w y) : x = y := by
  rcases hx with ⟨x1, x2⟩ | ⟨j, -, j1, j2, j3, j4⟩
  · rcases hy with ⟨y1, y2⟩ | ⟨k, -, k1, k2, k3, k4⟩
    · rw [x1, y1]
    · have := x2 k (by omega) k1
      rw [h k k1, k3] at this
      cases this
  · rcases hy with ⟨y1, y2⟩ | ⟨k, -, k1, k2, k3, k4⟩
    · have := y2 j (by omega) j1
      rw [← h j j1, j3] at this
      cases this
    · have : j = k := by
        apply Classical.byContradiction
        intro c
        by_cases l : j < k
        · have := k4 j (by omega) l
          rw [← h j j1, j3] at this
          cases this
        · have := j4 k (by omega) (by omega)
          rw [h k k1, k3] at this
          cases this
      rw [j2, k2, this]
theorem rx_place {w fi : Nat} (hw : a.1 39 1 = nI w) (hfi : fi + w ≤ 16) (x : Int32) : ∃ r, zx nl 83 0 [z_r 39, z_i (nI fi), z_i x, none] [] a = some (some (.inl r), a) ∧ zs_fst (fun i => decide (a.1 40 (fi + i) = x)) 0 w r := by
  have key : ∀ m i, i + m = w → (∀ j, j < i → decide (a.1 40 (fi + j) = x) = false) → ∃ r, zx nl 83 3 [z_r 39, z_i (nI fi), z_i x, z_i (nI i)] [] a = some (some (.inl r), a) ∧ zs_fst (fun i => decide (a.1 40 (fi + i) = x)) 0 w r := by
    intro m
    induction m with
    | zero =>
      intro i hi h
      refine ⟨-1, ?_, Or.inl ⟨rfl, fun j _ hj => h j (by omega)⟩⟩
      rw [ex_83_3, hw, if_neg (nI_nlt (by omega) (by omega))]
    | succ m ih =>
      intro i hi h
      rw [ex_83_3, hw, if_pos (nI_lt (by omega) (by omega)), nI_add, zb_in (by omega) (by omega), cond_true, nI_clamp (by omega), nI_1]
      by_cases c : a.1 40 (fi + i) = x
      · rw [if_pos c]
        exact ⟨nI i, rfl, Or.inr ⟨i, by omega, by omega, rfl, decide_eq_true c, fun j _ hj => h j hj⟩⟩
      · rw [if_neg c]
        refine ih (i + 1) (by omega) (fun j hj => ?_)
        by_cases e : j = i
        · rw [e]; exact decide_eq_false c
        · exact h j (by omega)
  rw [ex_83_0]
  exact key w 0 (by omega) (fun j hj => absurd hj (Nat.not_lt_zero j))
theorem zb_am1 (x : Int32) : x + (-1) = x - 1 := (Int32.sub_eq_add_neg x 1).symm
theorem rm_place {w s l : Nat} (hfi : w * s + w ≤ 16) : ∀ c x4 x5, c ≤ w → zs_fst (fun i => decide (b.1 108 (w * s + i) = nI l)) c w x4 → zs_fst (fun i => decide (b.1 108 (w * s + i) < 0)) c w x5 → ∃ r4 r5, zm 229 27 [z_r 91, z_i (nI l), z_i (nI w), z_i (nI s), z_i x4, z_i x5, z_i (nI c - 1)] [] b = zm 229 27 [z_r 91, z_i (nI l), z_i (nI w), z_i (nI s), z_i r4, z_i r5, z_i (-1)] [] b ∧ zs_fst (fun i => decide (b.1 108 (w * s + i) = nI l)) 0 w r4 ∧ zs_fst (fun i => decide (b.1 108 (w * s + i) < 0)) 0 w r5 := by
  intro c
  induction c with
  | zero =>
    intro x4 x5 hc h4 h5
    exact ⟨x4, x5, rfl, h4, h5⟩
  | succ c ih =>
    intro x4 x5 hc h4 h5
    have ext : ∀ (p : Nat → Bool) (x : Int32), zs_fst p (c + 1) w x → (p c = true → zs_fst p c w (nI c)) ∧ (p c = false → zs_fst p c w x) := by
      intro p x hx
      refine ⟨fun q => Or.inr ⟨c, Nat.le_refl c, by omega, rfl, q, fun i h1 h2 => by omega⟩, fun q => ?_⟩
      rcases hx with ⟨x1, x2⟩ | ⟨j, j0, j1, j2, j3, j4⟩
      · refine Or.inl ⟨x1, fun i h1 h2 => ?_⟩
        by_cases e : i = c
        · rw [e]; exact q
        · exact x2 i (by omega) h2
      · refine Or.inr ⟨j, by omega, j1, j2, j3, fun i h1 h2 => ?_⟩
        by_cases e : i = c
        · rw [e]; exact q
        · exact j4 i (by omega) h2
    rw [nI_pred, em_229_27, if_neg (nI_pos (by omega)), zb_mul, nI_add, zb_in (by omega) (by omega), cond_true, cond_true, cond_true, nI_clamp (show w * s + c < 2 ^ 31 by omega), zb_am1]
    obtain ⟨t4, f4⟩ := ext _ _ h4
    obtain ⟨t5, f5⟩ := ext _ _ h5
    by_cases c1 : b.1 108 (w * s + c) = nI l
    · rw [if_pos c1]
      by_cases c2 : b.1 108 (w * s + c) < 0
      · rw [if_pos c2]; exact ih _ _ (by omega) (t4 (decide_eq_true c1)) (t5 (decide_eq_true c2))
      · rw [if_neg c2]; exact ih _ _ (by omega) (t4 (decide_eq_true c1)) (f5 (decide_eq_false c2))
    · rw [if_neg c1]
      by_cases c2 : b.1 108 (w * s + c) < 0
      · rw [if_pos c2]; exact ih _ _ (by omega) (f4 (decide_eq_false c1)) (t5 (decide_eq_true c2))
      · rw [if_neg c2]; exact ih _ _ (by omega) (f4 (decide_eq_false c1)) (f5 (decide_eq_false c2))
/-- what goes out by stamps -/
theorem z_stamps {w s : Nat} {S K : Nat → Nat} (hw1 : 1 ≤ w) (hfi : w * s + w ≤ 16) (hw : a.1 39 1 = nI w) (h2 : b.1 92 2 = f 2) (hS : ∀ i, i < w → a.1 41 (w * s + i) = nI (S i) ∧ b.1 (zs_kc f) (w * s + i) = nI (K i) ∧ S i < 2 ^ 30 ∧ K i < 2 ^ 30) (ho : ∀ i j, i < w → j < w → (S i < S j ↔ K i < K j)) : ∃ o, o < w ∧ zx nl 86 0 [z_r 39, z_i (nI (w * s)), none, none] [] a = some (some (.inl (nI o)), a) ∧ zm 230 48 [z_r 91, z_i (nI s), z_i (nI w), z_i 0, z_i 1, none, none] [] b = some (some (.inl (nI o)), b) := by
  have key : ∀ m i o, i + m = w → o < w → ∃ q, q < w ∧ zx nl 86 5 [z_r 39, z_i (nI (w * s)), z_i (nI o), z_i (nI i)] [] a = some (some (.inl (nI q)), a) ∧ zm 230 48 [z_r 91, z_i (nI s), z_i (nI w), z_i (nI o), z_i (nI i), none, none] [] b = some (some (.inl (nI q)), b) := by
    intro m
    induction m with
    | zero =>
      intro i o hi ho1
      refine ⟨o, ho1, ?_, ?_⟩
      · rw [ex_86_5, hw, if_neg (nI_nlt (by omega) (by omega))]
      · rw [em_230_48, if_neg (nI_nlt (by omega) (by omega))]
    | succ m ih =>
      intro i o hi ho1
      obtain ⟨s1, k1, s2, k2⟩ := hS i (by omega)
      obtain ⟨s3, k3, s4, k4⟩ := hS o ho1
      have hcmp := ho i o (by omega) ho1
      have ec : zx nl 86 5 [z_r 39, z_i (nI (w * s)), z_i (nI o), z_i (nI i)] [] a = zx nl 86 5 [z_r 39, z_i (nI (w * s)), z_i (nI (if S i < S o then i else o)), z_i (nI (i + 1))] [] a := by
        rw [ex_86_5, hw, if_pos (nI_lt (by omega) (by omega)), nI_add, nI_add, zb_in (by omega) (by omega), zb_in (by omega) (by omega), cond_true, cond_true, nI_clamp (show w * s + i < 2 ^ 31 by omega), nI_clamp (show w * s + o < 2 ^ 31 by omega), s1, s3, nI_1]
        by_cases c : S i < S o
        · rw [if_pos (nI_lt c (by omega)), if_pos c]
        · rw [if_neg (nI_nlt (by omega) (by omega)), if_neg c]
      have em : zm 230 48 [z_r 91, z_i (nI s), z_i (nI w), z_i (nI o), z_i (nI i), none, none] [] b = zm 230 48 [z_r 91, z_i (nI s), z_i (nI w), z_i (nI (if S i < S o then i else o)), z_i (nI (i + 1)), none, none] [] b := by
        rw [em_230_48, if_pos (nI_lt (by omega) (by omega)), zb_mul, nI_add, nI_add, zb_in (show w * s + i < 16 by omega) (by omega), zb_in (show w * s + o < 16 by omega) (by omega), cond_true, cond_true, cond_true, cond_true, nI_clamp (show w * s + i < 2 ^ 31 by omega), nI_clamp (show w * s + o < 2 ^ 31 by omega), h2, nI_1]
        have hc : (if K i < K o then i else o) = if S i < S o then i else o := by
          by_cases c : S i < S o
          · rw [if_pos c, if_pos (hcmp.mp c)]
          · rw [if_neg c, if_neg (fun w => c (hcmp.mpr w))]
        rw [← hc]
        unfold zs_kc at k1 k3
        by_cases r0 : f 2 = 0
        · rw [if_pos r0] at k1 k3
          rw [if_pos r0, k1, k3]
          by_cases c : K i < K o
          · rw [if_pos (nI_lt c (by omega)), if_pos c]
          · rw [if_neg (nI_nlt (by omega) (by omega)), if_neg c]
        · rw [if_neg r0] at k1 k3
          rw [if_neg r0, k1, k3]
          by_cases c : K i < K o
          · rw [if_pos (nI_lt c (by omega)), if_pos c]
          · rw [if_neg (nI_nlt (by omega) (by omega)), if_neg c]
      rw [ec, em]
      refine ih (i + 1) _ (by omega) ?_
      split
      · omega
      · exact ho1
  obtain ⟨q, q1, q2, q3⟩ := key (w - 1) 1 0 (by omega) (by omega)
  refine ⟨q, q1, ?_, q3⟩
  rw [ex_86_0]
  exact q2
theorem zb_half : ∀ o, o < 4 → nI o / 2 = nI (o / 2) ∧ (1 : Int32) - nI (o / 2) = nI (1 - o / 2) ∧ (1 : Int32) - (nI o - nI (o / 2) * 2) = nI (1 - o % 2) := by decide +kernel
theorem zb_inv : ∀ o, o < 2 → (1 : Int32) - nI o = nI (1 - o) := by decide +kernel
theorem z_turn {w s o : Nat} (hw3 : w = 1 ∨ w = 2 ∨ w = 4) (hs : s < 4) (ho : o < w) (hw : a.1 39 1 = nI w) (hw' : b.1 92 1 = nI w) (h : ∀ i, i < 12 → a.1 42 i = b.1 111 i ∧ ∃ u, u < 2 ∧ b.1 111 i = nI u) : ∃ a' b', zx nl 87 0 [z_r 39, z_i (nI s), z_i (nI o), none, none] [] a = some (none, a') ∧ zm 231 0 [z_r 91, z_i (nI s), z_i (nI o)] [] b = some (none, b') ∧ zK 39 [42] [] a a' ∧ zK 91 [111] [] b b' ∧ ∀ i, i < 12 → a'.1 42 i = b'.1 111 i ∧ ∃ u, u < 2 ∧ b'.1 111 i = nI u := by
  have up : ∀ (c d : zd_D) (j v : Nat), v < 2 → (∀ i, i < 12 → c.1 42 i = d.1 111 i ∧ ∃ u, u < 2 ∧ d.1 111 i = nI u) → ∀ i, i < 12 → (zd_u c 42 j (nI v)).1 42 i = (zd_u d 111 j (nI v)).1 111 i ∧ ∃ u, u < 2 ∧ (zd_u d 111 j (nI v)).1 111 i = nI u := by
    intro c d j v hv hcd i hi
    rw [zb_u, zb_u]
    by_cases e : i = j
    · rw [if_pos ⟨rfl, e⟩, if_pos ⟨rfl, e⟩]; exact ⟨rfl, v, hv, rfl⟩
    · rw [if_neg (fun w => e w.2), if_neg (fun w => e w.2)]; exact hcd i hi
  rw [ex_87_0, em_231_0, hw, hw']
  rcases hw3 with rfl | rfl | rfl
  · rw [if_neg (show ¬ nI 1 = 2 by decide), if_neg (show ¬ nI 1 = 4 by decide), if_neg (show ¬ nI 1 = 2 by decide), if_neg (show ¬ nI 1 = 4 by decide)]
    exact ⟨a, b, rfl, rfl, zK.rf, zK.rf, h⟩
  · rw [if_pos (show nI 2 = 2 from rfl), if_pos (show nI 2 = 2 from rfl), zb_ml, zb_lm, show s * OfNat.ofNat 3 = 3 * s from Nat.mul_comm _ _, zb_in (show 3 * s < 12 by omega) (by omega), cond_true, cond_true, zb_inv o ho]
    refine ⟨_, _, rfl, rfl, zK.rf.u _ _ (by decide) rfl, zK.rf.u _ _ (by decide) rfl, ?_⟩
    exact up a b _ _ (by omega) h
  · obtain ⟨d1, d2, d3⟩ := zb_half o ho
    rw [if_neg (show ¬ nI 4 = 2 by decide), if_pos (show nI 4 = 4 from rfl), if_neg (show ¬ nI 4 = 2 by decide), if_pos (show nI 4 = 4 from rfl), d1, d2, d3, zb_ml, zb_lm, show s * OfNat.ofNat 3 = 3 * s from Nat.mul_comm _ _, show OfNat.ofNat 3 * s = 3 * s from rfl, nI_1, nI_add, zb_in (show 3 * s < 12 by omega) (by omega), zb_in (show 3 * s + 1 + o / 2 < 12 by omega) (by omega), cond_true, cond_true, cond_true, cond_true]
    refine ⟨_, _, rfl, rfl, (zK.rf.u _ _ (by decide) rfl).u _ _ (by decide) rfl, (zK.rf.u _ _ (by decide) rfl).u _ _ (by decide) rfl, ?_⟩
    exact up _ _ _ _ (by omega) (up a b _ _ (by omega) h)
theorem z_out {w s T : Nat} (hw3 : w = 1 ∨ w = 2 ∨ w = 4) (hs : s < 4) (hC : zCh a b f T) (hT : T < 1000) (hw : f 1 = nI w) (hw' : b.1 92 1 = nI w) (h2 : b.1 92 2 = f 2) (hf : ∀ i, i < w → ¬ b.1 108 (w * s + i) = -1) : ∃ o, o < w ∧ (if a.1 39 2 = 2 then (zx nl 85 0 [z_r 39, z_i (nI s * 3), none] [] a).bind fun q => zx nl 84 18 [z_r 39, z_i (nI s), z_i (nI (w * s)), z_i (-1)] (q.1.toList ++ []) q.2 else (zx nl 86 0 [z_r 39, z_i (nI (w * s)), none, none] [] a).bind fun q => zx nl 84 22 [z_r 39, z_i (nI s), z_i (nI (w * s)), z_i (-1)] (q.1.toList ++ []) q.2) = some (some (.inl (nI o)), a) ∧ zm 230 0 [z_r 91, z_i (nI s), none, none, none, none, none] [] b = some (some (.inl (nI o)), b) := by
  obtain ⟨⟨c0, c1, c2⟩, hl, ht, cc, cm, S, K, ⟨k1, k2, k3, k4⟩, hS, hord⟩ := hC
  have hws : w * s ≤ 12 := by rcases hw3 with rfl | rfl | rfl <;> omega
  have hwl : w * s + w ≤ 16 := by rcases hw3 with rfl | rfl | rfl <;> omega
  rw [c2, em_230_0, h2]
  by_cases r2 : f 2 = 2
  · rw [if_pos r2, if_pos r2, ex_85_0, c1, hw, hw', zb_ml, zb_lm, show s * OfNat.ofNat 3 = 3 * s from Nat.mul_comm _ _, show OfNat.ofNat 3 * s = 3 * s from rfl, zb_in (show 3 * s < 12 by omega) (by omega), cond_true, nI_clamp (show 3 * s < 2 ^ 31 by omega)]
    obtain ⟨e1, u, u1, u2⟩ := ht (3 * s) (by omega)
    rcases hw3 with rfl | rfl | rfl
    · rw [if_pos (show nI 1 = 1 from rfl), if_pos (show nI 1 = 1 from rfl)]
      simp only [Bool.false_eq_true, reduceCtorEq, Nat.not_lt_zero, cond_true, cond_false, ↓reduceIte, if_true, if_false, Option.toList_some, Option.toList_none, List.nil_append, List.cons_append, Option.bind_some]
      rw [ex_84_18]
      exact ⟨0, by omega, rfl, rfl⟩
    · rw [if_neg (show ¬ nI 2 = 1 by decide), if_pos (show nI 2 = 2 from rfl), if_neg (show ¬ nI 2 = 1 by decide), if_pos (show nI 2 = 2 from rfl), e1, u2]
      simp only [Bool.false_eq_true, reduceCtorEq, Nat.not_lt_zero, cond_true, cond_false, ↓reduceIte, if_true, if_false, Option.toList_some, Option.toList_none, List.nil_append, List.cons_append, Option.bind_some]
      rw [ex_84_18]
      exact ⟨u, u1, rfl, rfl⟩
    · obtain ⟨e2, v, v1, v2⟩ := ht (3 * s + 1 + u) (by omega)
      rw [if_neg (show ¬ nI 4 = 1 by decide), if_neg (show ¬ nI 4 = 2 by decide), if_neg (show ¬ nI 4 = 1 by decide), if_neg (show ¬ nI 4 = 2 by decide), e1, u2, nI_1, nI_add, zb_in (show 3 * s + 1 + u < 12 by omega) (by omega), cond_true, cond_true, cond_true, nI_clamp (show 3 * s + 1 + u < 2 ^ 31 by omega), e2, v2, zb_lm, nI_add]
      simp only [Bool.false_eq_true, reduceCtorEq, Nat.not_lt_zero, cond_true, cond_false, ↓reduceIte, if_true, if_false, Option.toList_some, Option.toList_none, List.nil_append, List.cons_append, Option.bind_some]
      rw [ex_84_18]
      exact ⟨OfNat.ofNat 2 * u + v, by show 2 * u + v < 4; omega, rfl, rfl⟩
  · rw [if_neg r2, if_neg r2, hw']
    obtain ⟨o, o1, o2, o3⟩ := z_stamps (nl := nl) (f := f) (S := fun i => S (w * s + i)) (K := fun i => K (w * s + i)) (by omega) hwl (by rw [c1]; exact hw) h2 (fun i hi => by
      obtain ⟨q1, q2, q3, q4⟩ := hS (w * s + i) (by omega) (hf i hi)
      exact ⟨q1, q2, by omega, by omega⟩) (fun i j hi hj => hord _ _ (by omega) (by omega) (hf i hi) (hf j hj))
    rw [o2, o3]
    simp only [Bool.false_eq_true, reduceCtorEq, Nat.not_lt_zero, cond_true, cond_false, ↓reduceIte, if_true, if_false, Option.toList_some, Option.toList_none, List.nil_append, List.cons_append, Option.bind_some]
    rw [ex_84_22]
    exact ⟨o, o1, rfl, rfl⟩
theorem zCh.put {T cc cm l i0 : Nat} {S K : Nat → Nat} (hC : (a.1 39 0 = f 0 ∧ a.1 39 1 = f 1 ∧ a.1 39 2 = f 2) ∧ (∀ i, i < 16 → a.1 40 i = b.1 108 i ∧ (b.1 108 i = -1 ∨ ∃ l, l < 16 ∧ b.1 108 i = nI l))) (hT : cc ≤ T ∧ cm ≤ T) (hS : ∀ i, i < 16 → ¬ b.1 108 i = -1 → a.1 41 i = nI (S i) ∧ b.1 (zs_kc f) i = nI (K i) ∧ S i ≤ cc ∧ K i ≤ cm) (hord : ∀ i j, i < 16 → j < 16 → ¬ b.1 108 i = -1 → ¬ b.1 108 j = -1 → (S i < S j ↔ K i < K j)) (hl : l < 16)
    (g39 : ∀ i, i < 3 → a'.1 39 i = a.1 39 i) (g3 : a'.1 39 3 = nI (cc + 1)) (g31 : b'.1 91 31 = nI (cm + 1)) (g40 : ∀ i, i < 16 → a'.1 40 i = if i = i0 then nI l else a.1 40 i) (g108 : ∀ i, i < 16 → b'.1 108 i = if i = i0 then nI l else b.1 108 i) (g41 : ∀ i, i < 16 → a'.1 41 i = if i = i0 then nI (cc + 1) else a.1 41 i) (gk : ∀ i, i < 16 → b'.1 (zs_kc f) i = if i = i0 then nI (cm + 1) else b.1 (zs_kc f) i) (ht : ∀ i, i < 12 → a'.1 42 i = b'.1 111 i ∧ ∃ u, u < 2 ∧ b'.1 111 i = nI u) : zCh a' b' f (T + 1) := by
  obtain ⟨⟨c0, c1, c2⟩, hln⟩ := hC
  refine ⟨⟨by rw [g39 0 (by omega)]; exact c0, by rw [g39 1 (by omega)]; exact c1, by rw [g39 2 (by omega)]; exact c2⟩, fun i hi => ?_, ht, cc + 1, cm + 1, fun i => if i = i0 then cc + 1 else S i, fun i => if i = i0 then cm + 1 else K i, ⟨by omega, by omega, g3, g31⟩, fun i hi hne => ?_, fun i j hi hj hni hnj => ?_⟩
  · rw [g40 i hi, g108 i hi]
    by_cases e : i = i0
    · rw [if_pos e, if_pos e]; exact ⟨rfl, Or.inr ⟨l, hl, rfl⟩⟩
    · rw [if_neg e, if_neg e]; exact hln i hi
  · rw [g41 i hi, gk i hi]
    by_cases e : i = i0
    · simp only [e, if_true]; exact ⟨trivial, trivial, Nat.le_refl _, Nat.le_refl _⟩
    · simp only [e, if_false]
      rw [g108 i hi, if_neg e] at hne
      obtain ⟨q1, q2, q3, q4⟩ := hS i hi hne
      exact ⟨q1, q2, by omega, by omega⟩
  · rw [g108 i hi] at hni
    rw [g108 j hj] at hnj
    by_cases e : i = i0
    · by_cases e' : j = i0
      · simp only [e, e', if_true]; omega
      · rw [if_neg e'] at hnj
        have := hS j hj hnj
        simp only [e, e', if_true, if_false]; omega
    · rw [if_neg e] at hni
      have q1 := hS i hi hni
      by_cases e' : j = i0
      · simp only [e, e', if_true, if_false]; omega
      · rw [if_neg e'] at hnj
        simp only [e, e', if_false]
        exact hord i j hi hj hni hnj
end ZCache
