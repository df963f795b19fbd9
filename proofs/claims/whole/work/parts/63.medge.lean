/-! ===== the reference's edges ===== -/
section RmEdge
variable {b b' : zd_D} {f : zF} {n : Nat}
theorem zV.k {cs fs : List Nat} {m : Nat} (h : zV m b f) (hk : zK 91 cs fs b b') (hm : ¬ m = 91) (hc : cs.elem m = false) : zV m b' f := fun i h1 h2 h3 => by
  rw [hk.1 m hm hc]
  exact h i h1 h2 h3
theorem zW.le (h : zW f n) : n ≤ 28 := h.2.1
theorem zV.sz (hV : zV 92 b f) (h : zW f n) : b.1 92 8 = nI n := (hV 8 (by omega) (by omega) (by omega)).trans h.1
theorem zV.o0 (hV : zV 92 b f) (h : zW f n) {k : Nat} (hk : k < n) : b.1 92 (12 + 4 * k) = f (12 + 4 * k) := hV _ (by have := h.le; omega) (by omega) (by omega)
theorem zV.o1 (hV : zV 92 b f) (h : zW f n) {k : Nat} (hk : k < n) : b.1 92 (12 + 4 * k + 1) = f (13 + 4 * k) := (hV _ (by have := h.le; omega) (by omega) (by omega)).trans (by rw [show 12 + 4 * k + 1 = 13 + 4 * k by omega])
theorem zV.o2 (hV : zV 92 b f) (h : zW f n) {k : Nat} (hk : k < n) : b.1 92 (12 + 4 * k + 2) = f (14 + 4 * k) := (hV _ (by have := h.le; omega) (by omega) (by omega)).trans (by rw [show 12 + 4 * k + 2 = 14 + 4 * k by omega])
theorem zV.o3 (hV : zV 92 b f) (h : zW f n) {k : Nat} (hk : k < n) : b.1 92 (12 + 4 * k + 3) = f (15 + 4 * k) := (hV _ (by have := h.le; omega) (by omega) (by omega)).trans (by rw [show 12 + 4 * k + 3 = 15 + 4 * k by omega])
theorem zV.pl (hV : zV 92 b f) (h : zW f n) {k : Nat} (hk : k < n) : b.1 92 (124 + k) = f (124 + k) := hV _ (by have := h.le; omega) (by omega) (by omega)
/-- the kinds one by one -/
theorem zs_good.kinds {k a b c : Int32} (h : zs_good k a b c) : k = 0 ∨ k = 1 ∨ k = 2 ∨ k = 3 ∨ k = 4 ∨ k = 5 ∨ k = 6 ∨ k = 7 := by
  rcases h.2 with ⟨h, _⟩ | ⟨h | h, _⟩ | ⟨h | h, _⟩ | ⟨h | h, _⟩ | ⟨h, _⟩ <;> simp [h]
theorem zs_good.bb {k a b c : Int32} (h : zs_good k a b c) : ∃ r, r ≤ 28 ∧ b = nI r := by
  rcases h.2 with ⟨_, r, hr, e⟩ | ⟨_, ⟨r, hr, e⟩ | ⟨e, _⟩⟩ | ⟨_, r, hr, e⟩ | ⟨_, ⟨r, hr, e⟩, _⟩ | ⟨_, e⟩
  · exact ⟨r, by omega, e⟩
  · exact ⟨r, by omega, e⟩
  · exact ⟨4, by omega, e⟩
  · exact ⟨r, by omega, e⟩
  · exact ⟨r, by omega, e⟩
  · exact ⟨0, by omega, e⟩
set_option maxHeartbeats 2000000 in
theorem rm_leads (hW : zW f n) (hV : zV 92 b f) {k t : Nat} (hk : k < n) (ht : t ≤ n) : zm 192 0 [z_r 91, z_i (nI k), z_i (nI t), none, none, none] [] b = some (some (.inl (if zs_lead f n k t = true then 1 else 0)), b) := by
  have hn := hW.le
  obtain ⟨hg, p, hp, hpe⟩ := hW.2.2.2 k hk
  obtain ⟨r, hr, hb⟩ := hg.bb
  rw [em_192_0]
  rcases hg.kinds with h | h | h | h | h | h | h | h <;> simp (disch := omega) only [zb_ltl, zb_llt, zb_eql, zb_leq, nI_ltI, nI_eq, zb_in, nI_clamp, zb_al, zb_la, zb_ml, zb_lm, zb_mul, nI_add, Bool.false_eq_true, reduceCtorEq, Nat.not_lt_zero, cond_true, cond_false, ↓reduceIte, if_true, if_false, Option.toList_some, Option.toList_none, List.nil_append, List.cons_append, Option.bind_some, zb_ll, Nat.reduceEqDiff, hV.sz hW, hV.o0 hW hk, hV.o2 hW hk, hV.pl hW hk, hb, h, zs_lead, decide_eq_true_eq] <;> grind
def zP (b : zd_D) (L : List (Nat × Nat)) : Prop := b.1 91 15 = nI L.length ∧ ∀ e, e < L.length → b.1 98 e = nI (L.getD e (0, 0)).1 ∧ b.1 99 e = nI (L.getD e (0, 0)).2
theorem zP.push {L : List (Nat × Nat)} (h : zP b L) (k t : Nat) : zP (zd_u (zd_u (zd_u b 98 L.length (nI k)) 99 L.length (nI t)) 91 15 (nI (L.length + 1))) (L ++ [(k, t)]) := by
  refine ⟨by rw [zb_ue, List.length_append]; rfl, fun e he => ?_⟩
  rw [List.length_append] at he
  have he : e < L.length + 1 := he
  rw [zb_uc _ _ _ _ (show 98 ≠ 91 by decide), zb_uc _ _ _ _ (show 98 ≠ 99 by decide), zb_uc _ _ _ _ (show 99 ≠ 91 by decide), zb_u, zb_u, zb_uc _ _ _ _ (show 99 ≠ 98 by decide)]
  by_cases hx : e = L.length
  · subst hx
    rw [if_pos ⟨rfl, rfl⟩, if_pos ⟨rfl, rfl⟩, List.getD_eq_getElem?_getD, List.getElem?_append_right (Nat.le_refl _), Nat.sub_self]
    exact ⟨rfl, rfl⟩
  · rw [if_neg (fun q => hx q.2), if_neg (fun q => hx q.2), List.getD_eq_getElem?_getD, List.getElem?_append_left (by omega), ← List.getD_eq_getElem?_getD]
    exact h.2 e (by omega)
/-- the reference's rows of edges -/
def zME (b : zd_D) (f : zF) (n : Nat) : Prop := b.1 91 15 = nI (zs_B f n n) ∧ (∀ e, e < zs_B f n n → b.1 98 e = nI (zs_E f n e).1 ∧ b.1 99 e = nI (zs_E f n e).2) ∧ ∀ k, k ≤ n → b.1 100 k = nI (zs_B f n k)
theorem zME.k {cs fs : List Nat} (h : zME b f n) (hk : zK 91 cs fs b b') (h1 : cs.elem 98 = false) (h2 : cs.elem 99 = false) (h3 : cs.elem 100 = false) (h4 : fs.elem 15 = false) : zME b' f n := by
  unfold zME
  rw [hk.1 98 (by decide) h1, hk.1 99 (by decide) h2, hk.1 100 (by decide) h3, hk.2.1 15 h4]
  exact h
theorem rm_inner (hW : zW f n) {k : Nat} (hk : k < n) {b0 : zd_D} : ∀ t b, t ≤ n + 1 → (zK 91 [98, 99] [15] b0 b ∧ zV 92 b f ∧ zP b (zs_es f n k ++ (zs_tu f n k t).map fun t => (k, t))) → ∃ b', (zK 91 [98, 99] [15] b0 b' ∧ zV 92 b' f ∧ zP b' (zs_es f n k ++ (zs_tu f n k (n + 1)).map fun t => (k, t))) ∧ zm 191 21 [z_r 91, z_i (nI k), z_i (nI t)] [] b = zm 191 21 [z_r 91, z_i (nI k), z_i (nI (n + 1))] [] b' := by
  have hn := hW.le
  refine zl_to (F := fun t b => zm 191 21 [z_r 91, z_i (nI k), z_i (nI t)] [] b) (I := fun t b => zK 91 [98, 99] [15] b0 b ∧ zV 92 b f ∧ zP b (zs_es f n k ++ (zs_tu f n k t).map fun t => (k, t))) ?_
  rintro t b ht ⟨hK, hV, hP⟩
  try dsimp only
  have hB : (zs_es f n k ++ (zs_tu f n k t).map fun t => (k, t)).length ≤ 811 := by
    rw [List.length_append, List.length_map]
    have q1 := zs_Bc (f := f) (n := n) k
    have q2 := zs_tu_len (f := f) (n := n) k t
    unfold zs_B at q1
    have q3 : k * (n + 1) ≤ (n - 1) * (n + 1) := Nat.mul_le_mul_right _ (by omega)
    have q4 : (n - 1) * (n + 1) ≤ 27 * 29 := Nat.mul_le_mul (by omega) (by omega)
    omega
  rw [em_191_21, hV.sz hW]
  simp (disch := omega) only [zb_ltl, zb_llt, zb_eql, zb_leq, nI_ltI, nI_eq, zb_in, nI_clamp, zb_al, zb_la, zb_ml, zb_lm, zb_mul, nI_add, show ¬ n < t by omega, if_false]
  rw [rm_leads hW hV hk (show t ≤ n by omega)]
  simp only [Bool.false_eq_true, reduceCtorEq, Nat.not_lt_zero, cond_true, cond_false, ↓reduceIte, if_true, if_false, Option.toList_some, Option.toList_none, List.nil_append, List.cons_append, Option.bind_some]
  rw [em_191_31]
  by_cases hl : zs_lead f n k t = true
  · simp (disch := omega) only [hl, Bool.false_eq_true, reduceCtorEq, Nat.not_lt_zero, cond_true, cond_false, ↓reduceIte, if_true, if_false, Option.toList_some, Option.toList_none, List.nil_append, List.cons_append, Option.bind_some, zb_ltl, zb_llt, zb_eql, zb_leq, nI_ltI, nI_eq, zb_in, nI_clamp, zb_al, zb_la, zb_ml, zb_lm, zb_mul, nI_add, show ¬ (1 : Int32) = 0 by decide, hP.1]
    refine ⟨_, ⟨((hK.u _ _ (by decide) rfl).u _ _ (by decide) rfl).f _ rfl, ?_, ?_⟩, rfl⟩
    · intro i h1 h2 h3
      rw [zb_uc _ _ _ _ (by decide), zb_uc _ _ _ _ (by decide), zb_uc _ _ _ _ (by decide)]
      exact hV i h1 h2 h3
    · have := hP.push k t
      rw [List.append_assoc] at this
      simp only [zs_tu, hl, if_true, List.map_append, List.map_cons, List.map_nil]
      exact this
  · simp only [hl, Bool.false_eq_true, reduceCtorEq, Nat.not_lt_zero, cond_true, cond_false, ↓reduceIte, if_true, if_false, Option.toList_some, Option.toList_none, List.nil_append, List.cons_append, Option.bind_some]
    refine ⟨b, ⟨hK, hV, ?_⟩, by rw [zb_al]⟩
    simp only [zs_tu, hl, List.append_nil, Bool.false_eq_true, reduceCtorEq, Nat.not_lt_zero, cond_true, cond_false, ↓reduceIte, if_true, if_false, Option.toList_some, Option.toList_none, List.nil_append, List.cons_append, Option.bind_some]
    exact hP
theorem rm_edges (hW : zW f n) (hV : zV 92 b f) : ∃ b', zm 191 0 [z_r 91, none, none] [] b = some (none, b') ∧ zK 91 [98, 99, 100] [15] b b' ∧ zME b' f n := by
  have hn := hW.le
  have key := zl_up (F := fun k b => zm 191 6 [z_r 91, z_i (nI k), none] [] b) (n := n) (I := fun k b' => zK 91 [98, 99, 100] [15] b b' ∧ zP b' (zs_es f n k) ∧ ∀ j, j < k → b'.1 100 j = nI (zs_B f n j)) (Q := fun v b' => v = none ∧ zK 91 [98, 99, 100] [15] b b' ∧ zME b' f n)
    (by
      rintro k c hk ⟨hK, hP, hB⟩
      left
      try dsimp only
      have hVc := hV.k hK (by decide) rfl
      rw [em_191_6, hVc.sz hW]
      simp (disch := omega) only [zb_ltl, zb_llt, zb_eql, zb_leq, nI_ltI, nI_eq, zb_in, nI_clamp, zb_al, zb_la, zb_ml, zb_lm, zb_mul, nI_add, hk, Bool.false_eq_true, reduceCtorEq, Nat.not_lt_zero, cond_true, cond_false, ↓reduceIte, if_true, if_false, Option.toList_some, Option.toList_none, List.nil_append, List.cons_append, Option.bind_some]
      have hVu : zV 92 (zd_u c 100 k (c.1 91 15)) f := fun i h1 h2 h3 => by
        rw [zb_uc _ _ _ _ (by decide)]
        exact hVc i h1 h2 h3
      have hPu : zP (zd_u c 100 k (c.1 91 15)) (zs_es f n k ++ (zs_tu f n k 0).map fun t => (k, t)) := by
        unfold zP
        rw [zb_uc _ _ _ _ (by decide), zb_uc _ _ _ _ (by decide), zb_uc _ _ _ _ (by decide)]
        simp only [zs_tu, List.map_nil, List.append_nil]
        exact hP
      obtain ⟨c2, ⟨hK2, hV2, hP2⟩, e2⟩ := rm_inner hW hk (b0 := zd_u c 100 k (c.1 91 15)) 0 _ (Nat.zero_le _) ⟨zK.rf, hVu, hPu⟩
      rw [show (0 : Int32) = nI 0 from rfl, e2, em_191_21, hV2.sz hW]
      simp (disch := omega) only [zb_ltl, zb_llt, zb_eql, zb_leq, nI_ltI, nI_eq, zb_in, nI_clamp, zb_al, zb_la, zb_ml, zb_lm, zb_mul, nI_add, show n < n + 1 by omega, Bool.false_eq_true, reduceCtorEq, Nat.not_lt_zero, cond_true, cond_false, ↓reduceIte, if_true, if_false, Option.toList_some, Option.toList_none, List.nil_append, List.cons_append, Option.bind_some]
      refine ⟨c2, ⟨(hK.u _ _ (by decide) rfl).tr (hK2.up rfl rfl), hP2, fun j hj => ?_⟩, rfl⟩
      rw [hK2.1 100 (by decide) rfl]
      by_cases hjk : j = k
      · subst hjk
        rw [zb_ue, hP.1]
        rfl
      · rw [zb_ui _ _ _ _ hjk]
        exact hB j (by omega))
    (by
      rintro c ⟨hK, hP, hB⟩
      have hVc := hV.k hK (by decide) rfl
      try dsimp only
      rw [em_191_6, hVc.sz hW]
      simp (disch := omega) only [zb_ltl, zb_llt, zb_eql, zb_leq, nI_ltI, nI_eq, zb_in, nI_clamp, zb_al, zb_la, zb_ml, zb_lm, zb_mul, nI_add, Nat.lt_irrefl, Bool.false_eq_true, reduceCtorEq, Nat.not_lt_zero, cond_true, cond_false, ↓reduceIte, if_true, if_false, Option.toList_some, Option.toList_none, List.nil_append, List.cons_append, Option.bind_some]
      refine zw_ret ⟨rfl, hK.u _ _ (by decide) rfl, ?_, ?_, ?_⟩
      · rw [zb_uc _ _ _ _ (by decide)]
        exact hP.1
      · intro e he
        rw [zb_uc _ _ _ _ (by decide), zb_uc _ _ _ _ (by decide)]
        exact hP.2 e he
      · intro k hk
        by_cases hkn : k = n
        · subst hkn
          rw [zb_ue, hP.1]
          rfl
        · rw [zb_ui _ _ _ _ hkn]
          exact hB k (by omega))
    0 (zd_u b 91 15 0) (Nat.zero_le _) ⟨zK.rf.f _ rfl, ⟨by rw [zb_ue]; rfl, fun e he => absurd he (Nat.not_lt_zero _)⟩, fun j hj => absurd hj (Nat.not_lt_zero _)⟩
  obtain ⟨v, d, e, hv, h1, h2⟩ := key
  subst hv
  exact ⟨d, by rw [em_191_0]; exact e, h1, h2⟩
end RmEdge
