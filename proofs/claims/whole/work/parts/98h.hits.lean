/-! ===== the cache of a run: a line is asked ===== -/
section ZHits
variable {nl : Int32} {a a' b b' : zd_D} {f : zF} {n : Nat}
theorem zb_set : ∀ l, l < 16 → (nI l &&& (nI 1 - 1) = nI (l % 1) ∧ nI l - nI l / nI 1 * nI 1 = nI (l % 1)) ∧ (nI l &&& (nI 2 - 1) = nI (l % 2) ∧ nI l - nI l / nI 2 * nI 2 = nI (l % 2)) ∧ (nI l &&& (nI 4 - 1) = nI (l % 4) ∧ nI l - nI l / nI 4 * nI 4 = nI (l % 4)) := by decide +kernel
theorem z_hits {T l : Nat} (hW : zW f n) (hV : zV 92 b f) (hC : zCh a b f T) (hT : T < 900) (hl : l < 16) (hlk : ¬ ((b.1 92 9) >>> (nI l &&& 31)) &&& 1 = 1) : ∃ h : Bool, ∃ a' b', zx nl 82 0 [z_r 39, z_i (nI l), none, none, none, none] [] a = some (some (.inl (if h = true then 1 else 0)), a') ∧ zm 229 0 [z_r 91, z_i (nI l), none, none, none, none, none] [] b = some (some (.inl (if h = true then 1 else 0)), b') ∧ zK 39 [40, 41, 42] [3] a a' ∧ zK 91 [108, 109, 110, 111] [31] b b' ∧ zCh a' b' f (T + 1) := by
  have hC0 := hC
  obtain ⟨⟨c0, c1, c2⟩, hln, ht, cc, cm, S, K, ⟨k1, k2, k3, k4⟩, hS, hord⟩ := hC
  obtain ⟨st, hst3, hst⟩ : ∃ st, (st = 1 ∨ st = 2 ∨ st = 4) ∧ f 0 = nI st := by
    rcases hW.2.2.1.1.1 with q | q | q
    · exact ⟨1, Or.inl rfl, q⟩
    · exact ⟨2, Or.inr (Or.inl rfl), q⟩
    · exact ⟨4, Or.inr (Or.inr rfl), q⟩
  obtain ⟨w, hw3, hw⟩ : ∃ w, (w = 1 ∨ w = 2 ∨ w = 4) ∧ f 1 = nI w := by
    rcases hW.2.2.1.1.2 with q | q | q
    · exact ⟨1, Or.inl rfl, q⟩
    · exact ⟨2, Or.inr (Or.inl rfl), q⟩
    · exact ⟨4, Or.inr (Or.inr rfl), q⟩
  obtain ⟨s, hs, sx, sm⟩ : ∃ s, s < 4 ∧ nI l &&& (nI st - 1) = nI s ∧ nI l - nI l / nI st * nI st = nI s := by
    obtain ⟨q1, q2, q4⟩ := zb_set l hl
    rcases hst3 with rfl | rfl | rfl
    · exact ⟨l % 1, by omega, q1⟩
    · exact ⟨l % 2, by omega, q2⟩
    · exact ⟨l % 4, by omega, q4⟩
  have hwl : w * s + w ≤ 16 := by rcases hw3 with rfl | rfl | rfl <;> omega
  have v0 : b.1 92 0 = nI st := (hV 0 (by omega) (by omega) (by omega)).trans hst
  have v1 : b.1 92 1 = nI w := (hV 1 (by omega) (by omega) (by omega)).trans hw
  have v2 : b.1 92 2 = f 2 := hV 2 (by omega) (by omega) (by omega)
  have hst0 : ¬ nI st = 0 := by rcases hst3 with rfl | rfl | rfl <;> decide
  have hkc : zs_kc f = 109 ∨ zs_kc f = 110 := by unfold zs_kc; split <;> simp
  -- where it lies
  obtain ⟨r, e1, r1⟩ := rx_place (nl := nl) (a := a) (w := w) (fi := w * s) (by rw [c1]; exact hw) hwl (nI l)
  obtain ⟨r4, r5, m1, m4, m5⟩ := rm_place (b := b) (l := l) hwl w (-1) (-1) (Nat.le_refl w) (Or.inl ⟨rfl, fun i h1 h2 => by omega⟩) (Or.inl ⟨rfl, fun i h1 h2 => by omega⟩)
  have hr : r = r4 := zs_fst_one (fun i hi => by rw [(hln (w * s + i) (by omega)).1]) (by omega) r1 m4
  subst hr
  rw [ex_82_0, c0, c1, hst, hw, sx, zb_mul, Nat.mul_comm s w, e1, em_229_0, if_neg hlk, v0, if_neg hst0, sm, v1, m1, em_229_27, if_pos (show (-1 : Int32) < 0 by decide), k4, nI_1]
  simp only [Bool.false_eq_true, reduceCtorEq, Nat.not_lt_zero, cond_true, cond_false, ↓reduceIte, if_true, if_false, Option.toList_some, Option.toList_none, List.nil_append, List.cons_append, Option.bind_some]
  rw [ex_82_16, k3, c2, nI_1]
  rcases m4 with ⟨f1, f2⟩ | ⟨j, -, j1, j2, j3, -⟩
  rotate_left
  · -- there
    have j3 : b.1 108 (w * s + j) = nI l := of_decide_eq_true j3
    rw [j2, if_neg (nI_pos (by omega)), if_neg (nI_pos (by omega)), zb_mul, nI_add, zb_in (show w * s + j < 16 by omega) (by omega), cond_true, cond_true, nI_clamp (show w * s + j < 2 ^ 31 by omega)]
    have g108 : ∀ i, i < 16 → b.1 108 i = if i = w * s + j then nI l else b.1 108 i := fun i hi => by
      by_cases e : i = w * s + j
      · rw [if_pos e, e]; exact j3
      · rw [if_neg e]
    by_cases r0 : f 2 = 0
    · rw [if_pos r0]
      obtain ⟨a2, b2, t1, t2, t3, t4, t5⟩ := z_turn (nl := nl) (a := zd_u (zd_u a 39 3 (nI (cc + 1))) 41 (w * s + j) (nI (cc + 1))) (b := zd_u (zd_u b 91 31 (nI (cm + 1))) 109 (w * s + j) (nI (cm + 1))) hw3 hs j1 (by rw [zb_uc _ _ _ _ (by decide), zb_ui _ _ _ _ (by decide), c1]; exact hw) (by rw [zb_uc _ _ _ _ (by decide), zb_uc _ _ _ _ (by decide)]; exact v1) (fun i hi => by rw [zb_uc _ _ _ _ (by decide), zb_uc _ _ _ _ (by decide), zb_uc _ _ _ _ (by decide), zb_uc _ _ _ _ (by decide)]; exact ht i hi)
      rw [t1, t2]
      simp only [Bool.false_eq_true, reduceCtorEq, Nat.not_lt_zero, cond_true, cond_false, ↓reduceIte, if_true, if_false, Option.toList_some, Option.toList_none, List.nil_append, List.cons_append, Option.bind_some]
      rw [ex_82_60, em_229_113]
      have kc : zs_kc f = 109 := if_pos r0
      refine ⟨true, a2, b2, rfl, rfl, ((zK.rf.f _ rfl).u _ _ (by decide) rfl).tr (t3.up rfl rfl), ((zK.rf.f _ rfl).u _ _ (by decide) rfl).tr (t4.up rfl rfl), ?_⟩
      refine zCh.put (i0 := w * s + j) (l := l) ⟨⟨c0, c1, c2⟩, hln⟩ ⟨k1, k2⟩ hS hord hl (fun i hi => ?_) ?_ ?_ (fun i hi => ?_) (fun i hi => ?_) (fun i hi => ?_) (fun i hi => ?_) t5
      · rw [t3.2.1 i rfl, zb_uc _ _ _ _ (by decide), zb_ui _ _ _ _ (by omega)]
      · rw [t3.2.1 3 rfl, zb_uc _ _ _ _ (by decide), zb_ue]
      · rw [t4.2.1 31 rfl, zb_uc _ _ _ _ (by decide), zb_ue]
      · rw [t3.1 40 (by decide) rfl, zb_uc _ _ _ _ (by decide), zb_uc _ _ _ _ (by decide), (hln i hi).1]; exact g108 i hi
      · rw [t4.1 108 (by decide) rfl, zb_uc _ _ _ _ (by decide), zb_uc _ _ _ _ (by decide)]; exact g108 i hi
      · rw [t3.1 41 (by decide) rfl, zb_u, zb_uc _ _ _ _ (by decide)]
        simp only [true_and]
      · rw [kc, t4.1 109 (by decide) rfl, zb_u, zb_uc _ _ _ _ (by decide)]
        simp only [true_and]
    · rw [if_neg r0]
      obtain ⟨a2, b2, t1, t2, t3, t4, t5⟩ := z_turn (nl := nl) (a := a) (b := zd_u (zd_u b 91 31 (nI (cm + 1))) 109 (w * s + j) (nI (cm + 1))) hw3 hs j1 (by rw [c1]; exact hw) (by rw [zb_uc _ _ _ _ (by decide), zb_uc _ _ _ _ (by decide)]; exact v1) (fun i hi => by rw [zb_uc _ _ _ _ (by decide), zb_uc _ _ _ _ (by decide)]; exact ht i hi)
      rw [t1, t2]
      simp only [Bool.false_eq_true, reduceCtorEq, Nat.not_lt_zero, cond_true, cond_false, ↓reduceIte, if_true, if_false, Option.toList_some, Option.toList_none, List.nil_append, List.cons_append, Option.bind_some]
      rw [ex_82_60, em_229_113]
      have kc : zs_kc f = 110 := if_neg r0
      have n108 : ∀ i, b2.1 108 i = b.1 108 i := fun i => by rw [t4.1 108 (by decide) rfl, zb_uc _ _ _ _ (by decide), zb_uc _ _ _ _ (by decide)]
      have n110 : ∀ i, b2.1 110 i = b.1 110 i := fun i => by rw [t4.1 110 (by decide) rfl, zb_uc _ _ _ _ (by decide), zb_uc _ _ _ _ (by decide)]
      refine ⟨true, a2, b2, rfl, rfl, t3.up rfl rfl, ((zK.rf.f _ rfl).u _ _ (by decide) rfl).tr (t4.up rfl rfl), ⟨by rw [t3.2.1 0 rfl]; exact c0, by rw [t3.2.1 1 rfl]; exact c1, by rw [t3.2.1 2 rfl]; exact c2⟩, fun i hi => ?_, t5, cc, cm + 1, S, K, ⟨by omega, by omega, by rw [t3.2.1 3 rfl]; exact k3, ?_⟩, fun i hi hne => ?_, fun i j hi hj hni hnj => ?_⟩
      · rw [t3.1 40 (by decide) rfl, n108]; exact hln i hi
      · rw [t4.2.1 31 rfl, zb_uc _ _ _ _ (by decide), zb_ue]
      · rw [n108] at hne
        obtain ⟨q1, q2, q3, q4⟩ := hS i hi hne
        rw [kc] at q2 ⊢
        rw [t3.1 41 (by decide) rfl, n110]
        exact ⟨q1, q2, q3, by omega⟩
      · rw [n108] at hni hnj
        exact hord i j hi hj hni hnj
  · -- not there
    have n4 : ∀ i, i < w → ¬ b.1 108 (w * s + i) = nI l := fun i hi => of_decide_eq_false (f2 i (by omega) hi)
    rw [f1, if_pos (show (-1 : Int32) < 0 by decide), if_pos (show (-1 : Int32) < 0 by decide)]
    obtain ⟨r', e2, r2⟩ := rx_place (nl := nl) (a := a) (w := w) (fi := w * s) (by rw [c1]; exact hw) hwl (-1)
    have hr5 : r' = r5 := zs_fst_one (fun i hi => by
      obtain ⟨q1, q2⟩ := hln (w * s + i) (by omega)
      rw [q1]
      rcases q2 with q | ⟨l', h1, q⟩
      · rw [q]; decide
      · rw [q, decide_eq_false (nI_pos (by omega)), decide_eq_false (fun w => by
          have := nI_pos (n := l') (by omega)
          rw [w] at this
          exact absurd (by decide) this)]) (by omega) r2 m5
    subst hr5
    have miss : ∀ q, q < w → ∃ a2 b2, zx nl 82 29 [z_r 39, z_i (nI l), z_i (nI s), z_i (nI (w * s)), z_i (-1), z_i 0] [(.inl (nI q))] a = some (some (.inl 0), a2) ∧ zm 231 0 [z_r 91, z_i (nI s), z_i (nI q)] [] (zd_u (zd_u (zd_u (zd_u b 91 31 (nI (cm + 1))) 108 (w * s + q) (nI l)) 110 (w * s + q) (nI (cm + 1))) 109 (w * s + q) (nI (cm + 1))) = some (none, b2) ∧ zK 39 [40, 41, 42] [3] a a2 ∧ zK 91 [108, 109, 110, 111] [31] b b2 ∧ zCh a2 b2 f (T + 1) := by
      intro q hq
      obtain ⟨a2, b2, t1, t2, t3, t4, t5⟩ := z_turn (nl := nl) (a := zd_u (zd_u (zd_u a 40 (w * s + q) (nI l)) 39 3 (nI (cc + 1))) 41 (w * s + q) (nI (cc + 1))) (b := zd_u (zd_u (zd_u (zd_u b 91 31 (nI (cm + 1))) 108 (w * s + q) (nI l)) 110 (w * s + q) (nI (cm + 1))) 109 (w * s + q) (nI (cm + 1))) hw3 hs hq (by rw [zb_uc _ _ _ _ (by decide), zb_ui _ _ _ _ (by decide), zb_uc _ _ _ _ (by decide), c1]; exact hw) (by rw [zb_uc _ _ _ _ (by decide), zb_uc _ _ _ _ (by decide), zb_uc _ _ _ _ (by decide), zb_uc _ _ _ _ (by decide)]; exact v1) (fun i hi => by rw [zb_uc _ _ _ _ (by decide), zb_uc _ _ _ _ (by decide), zb_uc _ _ _ _ (by decide), zb_uc _ _ _ _ (by decide), zb_uc _ _ _ _ (by decide), zb_uc _ _ _ _ (by decide), zb_uc _ _ _ _ (by decide)]; exact ht i hi)
      refine ⟨a2, b2, ?_, t2, (((zK.rf.u _ _ (by decide) rfl).f _ rfl).u _ _ (by decide) rfl).tr (t3.up rfl rfl), ((((zK.rf.f _ rfl).u _ _ (by decide) rfl).u _ _ (by decide) rfl).u _ _ (by decide) rfl).tr (t4.up rfl rfl), ?_⟩
      · rw [ex_82_29, nI_add, zb_in (show w * s + q < 16 by omega) (by omega), cond_true, if_pos rfl, cond_true, nI_clamp (show w * s + q < 2 ^ 31 by omega), k3, nI_1, t1]
        simp only [Bool.false_eq_true, reduceCtorEq, Nat.not_lt_zero, cond_true, cond_false, ↓reduceIte, if_true, if_false, Option.toList_some, Option.toList_none, List.nil_append, List.cons_append, Option.bind_some]
        rw [ex_82_60]
        rfl
      refine zCh.put (i0 := w * s + q) (l := l) ⟨⟨c0, c1, c2⟩, hln⟩ ⟨k1, k2⟩ hS hord hl (fun i hi => ?_) ?_ ?_ (fun i hi => ?_) (fun i hi => ?_) (fun i hi => ?_) (fun i hi => ?_) t5
      · rw [t3.2.1 i rfl, zb_uc _ _ _ _ (by decide), zb_ui _ _ _ _ (by omega), zb_uc _ _ _ _ (by decide)]
      · rw [t3.2.1 3 rfl, zb_uc _ _ _ _ (by decide), zb_ue]
      · rw [t4.2.1 31 rfl, zb_uc _ _ _ _ (by decide), zb_uc _ _ _ _ (by decide), zb_uc _ _ _ _ (by decide), zb_ue]
      · rw [t3.1 40 (by decide) rfl, zb_uc _ _ _ _ (by decide), zb_uc _ _ _ _ (by decide), zb_u]
        simp only [true_and]
      · rw [t4.1 108 (by decide) rfl, zb_uc _ _ _ _ (by decide), zb_uc _ _ _ _ (by decide), zb_u, zb_uc _ _ _ _ (by decide)]
        simp only [true_and]
      · rw [t3.1 41 (by decide) rfl, zb_u, zb_uc _ _ _ _ (by decide), zb_uc _ _ _ _ (by decide)]
        simp only [true_and]
      · rcases hkc with kc | kc
        · rw [kc, t4.1 109 (by decide) rfl, zb_u, zb_uc _ _ _ _ (by decide), zb_uc _ _ _ _ (by decide), zb_uc _ _ _ _ (by decide)]
          simp only [true_and]
        · rw [kc, t4.1 110 (by decide) rfl, zb_uc _ _ _ _ (by decide), zb_u, zb_uc _ _ _ _ (by decide), zb_uc _ _ _ _ (by decide)]
          simp only [true_and]
    rw [ex_84_0, e2]
    simp only [Bool.false_eq_true, reduceCtorEq, Nat.not_lt_zero, cond_true, cond_false, ↓reduceIte, if_true, if_false, Option.toList_some, Option.toList_none, List.nil_append, List.cons_append, Option.bind_some]
    rw [ex_84_4]
    rcases m5 with ⟨g1, g2⟩ | ⟨j, -, j1, j2, -, -⟩
    · rw [g1, if_pos (show (-1 : Int32) < 0 by decide), if_pos (show (-1 : Int32) < 0 by decide)]
      have hful : ∀ i, i < w → ¬ b.1 108 (w * s + i) = -1 := fun i hi w' => by
        have := of_decide_eq_false (g2 i (by omega) hi)
        rw [w'] at this
        exact this (by decide)
      have hC1 : zCh a (zd_u b 91 31 (nI (cm + 1))) f (T + 1) := by
        have u108 : ∀ i, (zd_u b 91 31 (nI (cm + 1))).1 108 i = b.1 108 i := fun i => by rw [zb_uc _ _ _ _ (by decide)]
        refine ⟨⟨c0, c1, c2⟩, fun i hi => by rw [u108]; exact hln i hi, fun i hi => by rw [zb_uc _ _ _ _ (by decide)]; exact ht i hi, cc, cm + 1, S, K, ⟨by omega, by omega, k3, zb_ue _ _ _ _⟩, fun i hi hne => ?_, fun i j hi hj hni hnj => ?_⟩
        · rw [u108] at hne
          obtain ⟨q1, q2, q3, q4⟩ := hS i hi hne
          refine ⟨q1, ?_, q3, by omega⟩
          rw [zb_uc _ _ _ _ (by omega)]; exact q2
        · rw [u108] at hni hnj
          exact hord i j hi hj hni hnj
      obtain ⟨o, o1, o2, o3⟩ := z_out (nl := nl) hw3 hs hC1 (by omega) hw (by rw [zb_uc _ _ _ _ (by decide)]; exact v1) (by rw [zb_uc _ _ _ _ (by decide)]; exact v2) (fun i hi => by rw [zb_uc _ _ _ _ (by decide)]; exact hful i hi)
      obtain ⟨a2, b2, u1, u2, u3, u4, u5⟩ := miss o o1
      rw [o2, o3]
      simp only [Bool.false_eq_true, reduceCtorEq, Nat.not_lt_zero, cond_true, cond_false, ↓reduceIte, if_true, if_false, Option.toList_some, Option.toList_none, List.nil_append, List.cons_append, Option.bind_some]
      rw [u1, em_229_79, zb_mul, nI_add, zb_in (show w * s + o < 16 by omega) (by omega), cond_true, cond_true, cond_true, nI_clamp (show w * s + o < 2 ^ 31 by omega), zb_ue, u2]
      simp only [Bool.false_eq_true, reduceCtorEq, Nat.not_lt_zero, cond_true, cond_false, ↓reduceIte, if_true, if_false, Option.toList_some, Option.toList_none, List.nil_append, List.cons_append, Option.bind_some]
      rw [em_229_113]
      exact ⟨false, a2, b2, rfl, rfl, u3, u4, u5⟩
    · obtain ⟨a2, b2, u1, u2, u3, u4, u5⟩ := miss j j1
      rw [j2, if_neg (nI_pos (by omega)), if_neg (nI_pos (by omega)), zb_mul, nI_add, zb_in (show w * s + j < 16 by omega) (by omega), cond_true, cond_true, cond_true, nI_clamp (show w * s + j < 2 ^ 31 by omega), u2]
      simp only [Bool.false_eq_true, reduceCtorEq, Nat.not_lt_zero, cond_true, cond_false, ↓reduceIte, if_true, if_false, Option.toList_some, Option.toList_none, List.nil_append, List.cons_append, Option.bind_some]
      rw [u1, em_229_113]
      exact ⟨false, a2, b2, rfl, rfl, u3, u4, u5⟩
end ZHits
