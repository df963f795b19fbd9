/-! ===== a run: the reference's step ===== -/
section ZWalk2
variable {nl : Int32} {a a' a'' a0 b b' b'' b0 : zd_D} {f : zF} {n w : Nat} {nu : Nat → Nat} {c0 T : Nat} {told : Bool}
theorem rm_tick {k : Nat} {x2 x5 : Int32} {sta : Bool} (hW : zW f n) (hV : zV 92 b f) (hk : k < n) (hx : (x5 < 0 ∧ sta = false) ∨ ∃ j, j < n ∧ x5 = nI j ∧ sta = zs_sta f j k) {sl : Nat} (hsl : f 6 = nI sl) : zm 223 41 [z_r 91, none, z_i x2, z_i (nI n), z_i (nI k), z_i x5, none, none] [(.inl 0), (.inl 12), (.inr (.inr (some 101)))] b = ((zm 227 0 [z_r 91, z_i (nI k), none, none, none] [] (zd_u (zd_u (zd_u b 101 12 0) 101 0 (b.1 101 0 + 1)) 101 5 (b.1 101 5 + (if sta = true then 1 else 0)))).bind fun q => zm 223 101 [z_r 91, none, z_i x2, z_i (nI n), z_i (nI k), z_i x5, z_i (if sta = true then 1 else 0), none] (q.1.toList ++ [(.inl (if sta = true then nI sl else 0)), (.inl (b.1 101 0 + 1)), (.inl 0), (.inr (.inr (some 101)))]) q.2) := by
  have hn := hW.le
  have i12 : mx_in 12 13 = true := by decide
  have c12 : (12 : Int32).toNatClampNeg = 12 := by decide
  have f0 : (zd_u b 101 12 0).1 101 0 = b.1 101 0 := zb_ui _ _ _ _ (by decide)
  have f5 : (zd_u b 101 12 0).1 101 5 = b.1 101 5 := zb_ui _ _ _ _ (by decide)
  rw [em_223_41, i12, c12, zb_ue, f0, f5]
  simp only [cond_true, if_true]
  rcases hx with ⟨x1, x2'⟩ | ⟨j, j1, j2, j3⟩
  · rw [if_pos x1, x2']
    simp only [Bool.false_eq_true, reduceCtorEq, Nat.not_lt_zero, cond_true, cond_false, ↓reduceIte, if_true, if_false, Option.toList_some, Option.toList_none, List.nil_append, List.cons_append, Option.bind_some]
  · have hVc : zV 92 (zd_u (zd_u b 101 12 0) 101 0 (b.1 101 0 + 1)) f := fun i q1 q2 q3 => by rw [zb_uc _ _ _ _ (by decide), zb_uc _ _ _ _ (by decide)]; exact hV i q1 q2 q3
    have m0 : mx_in (12 + 4 * nI j) 1020 = true := by rw [zb_lm, zb_la]; exact zb_in (by show 12 + 4 * j < 1020; omega) (by omega)
    have m1 : mx_in (12 + 4 * nI j + 1) 1020 = true := by rw [zb_lm, zb_la, nI_1]; exact zb_in (by show 12 + 4 * j + 1 < 1020; omega) (by omega)
    have n0 : (12 + 4 * nI j).toNatClampNeg = 12 + 4 * j := by rw [zb_lm, zb_la]; exact nI_clamp (by show 12 + 4 * j < 2 ^ 31; omega)
    have n1 : (12 + 4 * nI j + 1).toNatClampNeg = 12 + 4 * j + 1 := by rw [zb_lm, zb_la, nI_1]; exact nI_clamp (by show 12 + 4 * j + 1 < 2 ^ 31; omega)
    rw [j2, if_neg (nI_pos (by omega)), m0, m1, n0, n1, hV.o0 hW j1, hV.o1 hW j1, rm_reads hW hVc hk]
    simp only [cond_true]
    have hst : zs_sta f j k = (decide (f (12 + 4 * j) = 1) && zs_rd f k (f (13 + 4 * j))) := rfl
    by_cases c : f (12 + 4 * j) = 1
    · rw [if_pos c]
      rw [decide_eq_true c, Bool.true_and, ← j3] at hst
      rw [← hst]
      simp only [Bool.false_eq_true, reduceCtorEq, Nat.not_lt_zero, cond_true, cond_false, ↓reduceIte, if_true, if_false, Option.toList_some, Option.toList_none, List.nil_append, List.cons_append, Option.bind_some]
      rw [em_223_68, show (zd_u (zd_u b 101 12 0) 101 0 (b.1 101 0 + 1)).1 92 6 = nI sl from (hVc 6 (by omega) (by omega) (by omega)).trans hsl, zb_ue, zb_ui _ _ _ _ (show 5 ≠ 0 by decide), f5]
      cases sta with
      | false => simp only [Bool.false_eq_true, reduceCtorEq, Nat.not_lt_zero, cond_true, cond_false, ↓reduceIte, if_true, if_false, Option.toList_some, Option.toList_none, List.nil_append, List.cons_append, Option.bind_some]
      | true => simp only [Bool.false_eq_true, reduceCtorEq, Nat.not_lt_zero, cond_true, cond_false, ↓reduceIte, if_true, if_false, Option.toList_some, Option.toList_none, List.nil_append, List.cons_append, Option.bind_some, show ¬ (1 : Int32) = 0 by decide]
    · rw [if_neg c]
      rw [decide_eq_false c, Bool.false_and, ← j3] at hst
      rw [hst]
      simp only [Bool.false_eq_true, reduceCtorEq, Nat.not_lt_zero, cond_true, cond_false, ↓reduceIte, if_true, if_false, Option.toList_some, Option.toList_none, List.nil_append, List.cons_append, Option.bind_some]
theorem rm_rec {k nx v1 mo sl : Nat} {x5 x6 : Int32} (hW : zW f n) (hk : k < n) (hnx : nx ≤ 28) (hT : T < 600) (h33 : b.1 91 33 = nI nx) (h1 : b.1 101 1 = nI (T + 1)) : ∃ B, zm 223 101 [z_r 91, none, z_i (if told = true then 1 else 0), z_i (nI n), z_i (nI k), z_i x5, z_i x6, none] [(.inl (nI mo)), (.inl (nI sl)), (.inl (nI v1)), (.inl 0), (.inr (.inr (some 101)))] b = ((zm 235 0 [z_r 91, z_i (nI k), z_i (nI (min nx n)), none] [] B).bind fun q => zm 223 123 [z_r 91, none, z_i (if told = true then 1 else 0), z_i (nI n), z_i (nI k), z_i x5, z_i x6, z_i (nI (min nx n))] (q.1.toList ++ [(.inr (.inr (some 107)))]) q.2) ∧ (∀ c, ¬ c = 101 → ¬ c = 103 → ¬ c = 104 → B.1 c = b.1 c) ∧ B.1 101 0 = nI (v1 + (sl + mo)) ∧ (∀ i, ¬ i = 0 → B.1 101 i = b.1 101 i) ∧ (told = false → B.1 103 = b.1 103 ∧ B.1 104 = b.1 104) ∧ (told = true → ∀ i, (B.1 103 i = if i = T then nI k else b.1 103 i) ∧ B.1 104 i = if i = T then nI (v1 + (sl + mo)) else b.1 104 i) := by
  have hn := hW.le
  have i0 : mx_in 0 13 = true := by decide
  have c0' : (0 : Int32).toNatClampNeg = 0 := by decide
  have f1 : ∀ x : Int32, (zd_u b 101 0 x).1 101 1 - 1 = nI T := fun x => by rw [zb_ui _ _ _ _ (by decide), h1, nI_pred]
  rw [em_223_101, i0, c0', f1, zb_ue, h33, nI_add, nI_add, zb_in hT (by omega), nI_clamp (show T < 2 ^ 31 by omega)]
  simp only [cond_true]
  have pick : ∀ (X Y : Option (Option mx_V × zd_D)) (F : Int32 → Option (Option mx_V × zd_D)), X = F (nI n) → Y = F (nI nx) → (if nI n < nI nx then X else Y) = F (nI (min nx n)) := by
    intro X Y F hX hY
    by_cases c : n < nx
    · rw [if_pos (nI_lt c (by omega)), show min nx n = n by omega, hX]
    · rw [if_neg (nI_nlt (by omega) (by omega)), show min nx n = nx by omega, hY]
  cases told with
  | false =>
    simp only [Bool.false_eq_true, reduceCtorEq, Nat.not_lt_zero, cond_true, cond_false, ↓reduceIte, if_true, if_false, Option.toList_some, Option.toList_none, List.nil_append, List.cons_append, Option.bind_some]
    rw [pick _ _ (fun t => (zm 235 0 [z_r 91, z_i (nI k), z_i t, none] [] (zd_u b 101 0 (nI (v1 + (sl + mo))))).bind fun q => zm 223 123 [z_r 91, none, z_i 0, z_i (nI n), z_i (nI k), z_i x5, z_i x6, z_i t] (q.1.toList ++ [((.inr (.inr (some 107))) : mx_V)]) q.2) rfl rfl]
    refine ⟨_, rfl, fun c c1 c2 c3 => zb_uc _ _ _ _ c1, zb_ue _ _ _ _, fun i hi => zb_ui _ _ _ _ hi, fun _ => ⟨zb_uc _ _ _ _ (by decide), zb_uc _ _ _ _ (by decide)⟩, fun q => q.elim⟩
  | true =>
    simp only [Bool.false_eq_true, reduceCtorEq, Nat.not_lt_zero, cond_true, cond_false, ↓reduceIte, if_true, if_false, Option.toList_some, Option.toList_none, List.nil_append, List.cons_append, Option.bind_some, show ¬ (1 : Int32) = 0 by decide]
    rw [pick _ _ (fun t => (zm 235 0 [z_r 91, z_i (nI k), z_i t, none] [] (zd_u (zd_u (zd_u b 101 0 (nI (v1 + (sl + mo)))) 103 T (nI k)) 104 T (nI (v1 + (sl + mo))))).bind fun q => zm 223 123 [z_r 91, none, z_i 1, z_i (nI n), z_i (nI k), z_i x5, z_i x6, z_i t] (q.1.toList ++ [((.inr (.inr (some 107))) : mx_V)]) q.2) rfl rfl]
    refine ⟨_, rfl, fun c c1 c2 c3 => by rw [zb_uc _ _ _ _ c3, zb_uc _ _ _ _ c2, zb_uc _ _ _ _ c1], by rw [zb_uc _ _ _ _ (by decide), zb_uc _ _ _ _ (by decide), zb_ue], fun i hi => by rw [zb_uc _ _ _ _ (by decide), zb_uc _ _ _ _ (by decide), zb_ui _ _ _ _ hi], fun q => q.elim, fun _ i => ⟨?_, ?_⟩⟩
    · rw [zb_uc _ _ _ _ (by decide), zb_u, zb_uc _ _ _ _ (by decide)]
      simp only [true_and]
    · rw [zb_u, zb_uc _ _ _ _ (by decide), zb_uc _ _ _ _ (by decide)]
      simp only [true_and]
end ZWalk2
