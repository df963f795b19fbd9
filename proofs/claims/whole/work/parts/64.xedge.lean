/-! ===== the class's edges ===== -/
/-- the class's orders in the program at c -/
def zAo (c : Nat) (a : zd_D) (f : zF) (n : Nat) : Prop := a.1 c 0 = nI n ∧ ∀ k, k < n → a.1 (c + 1) k = f (12 + 4 * k) ∧ a.1 (c + 2) k = f (13 + 4 * k) ∧ a.1 (c + 3) k = f (14 + 4 * k) ∧ a.1 (c + 4) k = f (15 + 4 * k) ∧ a.1 (c + 5) k = f (124 + k) ∧ a.1 (c + 6) k = zs_ln f k
/-- the class's edges in the program at c -/
def zAe (c : Nat) (a : zd_D) (f : zF) (n : Nat) : Prop := a.1 c 7 = nI (zs_B f n n) ∧ (∀ k, k ≤ n → a.1 (c + 7) k = nI (zs_B f n k)) ∧ ∀ e, e < zs_B f n n → a.1 (c + 8) e = nI (zs_E f n e).1 ∧ a.1 (c + 9) e = nI (zs_E f n e).2
def zKe (c0 : Nat) (d d' : zd_D) : Prop := (∀ c, ¬ c = c0 → ¬ (c0 + 7 ≤ c ∧ c ≤ c0 + 10) → d'.1 c = d.1 c) ∧ (∀ i, ¬ i = 7 → d'.1 c0 i = d.1 c0 i) ∧ d'.2 = d.2
def zPx (c : Nat) (a : zd_D) (L : List (Nat × Nat)) : Prop := a.1 c 7 = nI L.length ∧ ∀ e, e < L.length → a.1 (c + 8) e = nI (L.getD e (0, 0)).1 ∧ a.1 (c + 9) e = nI (L.getD e (0, 0)).2 ∧ a.1 (c + 10) e = -1000000005
section RxEdge
variable {nl : Int32} {a a' : zd_D} {f : zF} {n c0 : Nat}
theorem zKe.rf : zKe c0 a a := ⟨fun _ _ _ => rfl, fun _ _ => rfl, rfl⟩
theorem zKe.tr {a'' : zd_D} (h : zKe c0 a a') (h2 : zKe c0 a' a'') : zKe c0 a a'' := ⟨fun c h1 h3 => (h2.1 c h1 h3).trans (h.1 c h1 h3), fun i hi => (h2.2.1 i hi).trans (h.2.1 i hi), h2.2.2.trans h.2.2⟩
theorem zKe.u (h : zKe c0 a a') {c : Nat} (i : Nat) (x : Int32) (h1 : c0 + 7 ≤ c) (h2 : c ≤ c0 + 10) : zKe c0 a (zd_u a' c i x) :=
  ⟨fun k q1 q2 => (zb_uc a' c i x (fun e => q2 (by omega))).trans (h.1 k q1 q2), fun j q => by
    rw [zb_uc a' c i x (by omega)]
    exact h.2.1 j q, h.2.2⟩
theorem zKe.ff (h : zKe c0 a a') (x : Int32) : zKe c0 a (zd_u a' c0 7 x) :=
  ⟨fun k q1 q2 => (zb_uc a' c0 7 x q1).trans (h.1 k q1 q2), fun j q => by
    rw [zb_ui a' c0 7 x q]
    exact h.2.1 j q, h.2.2⟩
theorem zAo.ke (h : zAo c0 a f n) (hk : zKe c0 a a') : zAo c0 a' f n := by
  refine ⟨by rw [hk.2.1 0 (by decide)]; exact h.1, fun k hk2 => ?_⟩
  rw [hk.1 (c0 + 1) (by omega) (by omega), hk.1 (c0 + 2) (by omega) (by omega), hk.1 (c0 + 3) (by omega) (by omega), hk.1 (c0 + 4) (by omega) (by omega), hk.1 (c0 + 5) (by omega) (by omega), hk.1 (c0 + 6) (by omega) (by omega)]
  exact h.2 k hk2
theorem rx_add (hc : c0 = 3 ∨ c0 = 20) {L : List (Nat × Nat)} (h : zPx c0 a L) (hL : L.length < 812) (k t : Nat) : ∃ a', zx nl 50 0 [z_r c0, z_i (nI k), z_i (nI t)] [] a = some (none, a') ∧ zKe c0 a a' ∧ zPx c0 a' (L ++ [(k, t)]) ∧ a'.1 (c0 + 7) = a.1 (c0 + 7) := by
  rw [ex_50_0 c0 _ _ hc, h.1]
  simp (disch := omega) only [zb_ltl, zb_llt, zb_eql, zb_leq, nI_ltI, nI_eq, zb_in, nI_clamp, zb_al, zb_la, zb_ml, zb_lm, zb_mul, nI_add, Bool.false_eq_true, reduceCtorEq, Nat.not_lt_zero, cond_true, cond_false, ↓reduceIte, if_true, if_false, Option.toList_some, Option.toList_none, List.nil_append, List.cons_append, Option.bind_some]
  refine ⟨_, rfl, (((zKe.rf.u _ _ (by omega) (by omega)).u _ _ (by omega) (by omega)).u _ _ (by omega) (by omega)).ff _, ⟨by rw [zb_ue, List.length_append]; rfl, fun e he => ?_⟩, ?_⟩
  · rw [List.length_append] at he
    have he : e < L.length + 1 := he
    simp only [zb_u, show ¬ c0 + 8 = c0 by omega, show ¬ c0 + 9 = c0 by omega, show ¬ c0 + 10 = c0 by omega, show ¬ c0 + 8 = c0 + 9 by omega, show ¬ c0 + 8 = c0 + 10 by omega, show ¬ c0 + 9 = c0 + 8 by omega, show ¬ c0 + 9 = c0 + 10 by omega, show ¬ c0 + 10 = c0 + 8 by omega, show ¬ c0 + 10 = c0 + 9 by omega, false_and, true_and, if_false]
    by_cases hx : e = L.length
    · subst hx
      rw [if_pos rfl, if_pos rfl, if_pos rfl, List.getD_eq_getElem?_getD, List.getElem?_append_right (Nat.le_refl _), Nat.sub_self]
      exact ⟨rfl, rfl, rfl⟩
    · rw [if_neg hx, if_neg hx, if_neg hx, List.getD_eq_getElem?_getD, List.getElem?_append_left (by omega), ← List.getD_eq_getElem?_getD]
      exact h.2 e (by omega)
  · rw [zb_uc _ _ _ _ (by omega), zb_uc _ _ _ _ (by omega), zb_uc _ _ _ _ (by omega), zb_uc _ _ _ _ (by omega)]
theorem zs_tu_one {k p : Nat} (h : ∀ x, x ≤ n → (zs_lead f n k x = true ↔ x = p)) : ∀ t, t ≤ n + 1 → zs_tu f n k t = if p < t then [p] else []
  | 0, _ => by simp [zs_tu]
  | t + 1, ht => by
    have ih := zs_tu_one h t (by omega)
    have h1 := h t (by omega)
    show zs_tu f n k t ++ _ = _
    rw [ih]
    by_cases e : t = p
    · subst e
      simp [h1.mpr rfl]
    · have : ¬ zs_lead f n k t = true := fun q => e (h1.mp q)
      simp only [this]
      by_cases hp : p < t
      · simp [hp, show p < t + 1 by omega]
      · simp [hp, show ¬ p < t + 1 by omega]
theorem zs_tu_two {k p q : Nat} (hpq : p < q) (h : ∀ x, x ≤ n → (zs_lead f n k x = true ↔ x = p ∨ x = q)) : ∀ t, t ≤ n + 1 → zs_tu f n k t = (if p < t then [p] else []) ++ (if q < t then [q] else [])
  | 0, _ => by simp [zs_tu]
  | t + 1, ht => by
    have ih := zs_tu_two hpq h t (by omega)
    have h1 := h t (by omega)
    show zs_tu f n k t ++ _ = _
    rw [ih]
    by_cases e : t = p
    · subst e
      simp [h1.mpr (Or.inl rfl), show ¬ q < t by omega, show ¬ q < t + 1 by omega]
    · by_cases e2 : t = q
      · subst e2
        simp [h1.mpr (Or.inr rfl), hpq, show p < t + 1 by omega]
      · have : ¬ zs_lead f n k t = true := fun w => (h1.mp w).elim e e2
        simp only [this]
        by_cases hp : p < t
        · by_cases hq : q < t
          · simp [hp, hq, show p < t + 1 by omega, show q < t + 1 by omega]
          · simp [hp, hq, show p < t + 1 by omega, show ¬ q < t + 1 by omega]
        · simp [hp, show ¬ p < t + 1 by omega, show ¬ q < t by omega, show ¬ q < t + 1 by omega]
/-- a BACK's edges -/
theorem rx_places (hc : c0 = 3 ∨ c0 = 20) (hn : n ≤ 28) {k : Nat} (hk : k < n) (h7 : f (12 + 4 * k) = 7) {L : List (Nat × Nat)} (hL : L.length ≤ k * (n + 1)) (hA : zAo c0 a f n) (hP : zPx c0 a L) : ∃ a', zx nl 51 0 [z_r c0, z_i (nI k), none] [] a = some (none, a') ∧ zKe c0 a a' ∧ zPx c0 a' (L ++ (zs_ts f n k).map fun t => (k, t)) ∧ a'.1 (c0 + 7) = a.1 (c0 + 7) := by
  have q3 : k * (n + 1) ≤ (n - 1) * (n + 1) := Nat.mul_le_mul_right _ (by omega)
  have q4 : (n - 1) * (n + 1) ≤ 27 * 29 := Nat.mul_le_mul (by omega) (by omega)
  have hlen : ∀ t, t ≤ n → (L ++ (zs_tu f n k t).map fun t => (k, t)).length < 812 := by
    intro t ht
    rw [List.length_append, List.length_map]
    have q2 := zs_tu_len (f := f) (n := n) k t
    omega
  have key := zl_up (F := fun t b => zx nl 51 3 [z_r c0, z_i (nI k), z_i (nI t)] [] b) (n := n) (I := fun t b => zKe c0 a b ∧ zPx c0 b (L ++ (zs_tu f n k t).map fun t => (k, t)) ∧ b.1 (c0 + 7) = a.1 (c0 + 7)) (Q := fun v b => v = none ∧ zKe c0 a b ∧ zPx c0 b (L ++ (zs_ts f n k).map fun t => (k, t)) ∧ b.1 (c0 + 7) = a.1 (c0 + 7))
    (by
      rintro t b ht ⟨h1, h2, h3⟩
      left
      try dsimp only
      have hA' := hA.ke h1
      rw [ex_51_3 c0 _ _ hc, hA'.1]
      simp (disch := omega) only [zb_ltl, zb_llt, zb_eql, zb_leq, nI_ltI, nI_eq, zb_in, nI_clamp, zb_al, zb_la, zb_ml, zb_lm, zb_mul, nI_add, Bool.false_eq_true, reduceCtorEq, Nat.not_lt_zero, cond_true, cond_false, ↓reduceIte, if_true, if_false, Option.toList_some, Option.toList_none, List.nil_append, List.cons_append, Option.bind_some, ht, (hA'.2 k hk).2.2.2.2.1]
      by_cases hl : (f (124 + k) >>> (nI t &&& 31)) &&& 1 = 1
      · have hle : zs_lead f n k t = true := by simp [zs_lead, h7, ht, hl]
        simp only [hl, Bool.false_eq_true, reduceCtorEq, Nat.not_lt_zero, cond_true, cond_false, ↓reduceIte, if_true, if_false, Option.toList_some, Option.toList_none, List.nil_append, List.cons_append, Option.bind_some]
        obtain ⟨b2, e1, e2, e3, e4⟩ := rx_add (nl := nl) hc h2 (hlen t (by omega)) k t
        rw [e1]
        simp only [Bool.false_eq_true, reduceCtorEq, Nat.not_lt_zero, cond_true, cond_false, ↓reduceIte, if_true, if_false, Option.toList_some, Option.toList_none, List.nil_append, List.cons_append, Option.bind_some]
        rw [ex_51_21 c0 _ _ hc, zb_al]
        refine ⟨b2, ⟨h1.tr e2, ?_, e4.trans h3⟩, rfl⟩
        rw [List.append_assoc] at e3
        simp only [zs_tu, hle, if_true, List.map_append, List.map_cons, List.map_nil]
        exact e3
      · have hle : ¬ zs_lead f n k t = true := by simp [zs_lead, h7, ht, hl]
        simp only [hl, Bool.false_eq_true, reduceCtorEq, Nat.not_lt_zero, cond_true, cond_false, ↓reduceIte, if_true, if_false, Option.toList_some, Option.toList_none, List.nil_append, List.cons_append, Option.bind_some]
        refine ⟨b, ⟨h1, ?_, h3⟩, rfl⟩
        simp only [zs_tu, hle, Bool.false_eq_true, reduceCtorEq, Nat.not_lt_zero, cond_true, cond_false, ↓reduceIte, if_true, if_false, Option.toList_some, Option.toList_none, List.nil_append, List.cons_append, Option.bind_some, List.append_nil]
        exact h2)
    (by
      rintro b ⟨h1, h2, h3⟩
      try dsimp only
      have hA' := hA.ke h1
      rw [ex_51_3 c0 _ _ hc, hA'.1]
      simp (disch := omega) only [zb_ltl, zb_llt, zb_eql, zb_leq, nI_ltI, nI_eq, zb_in, nI_clamp, zb_al, zb_la, zb_ml, zb_lm, zb_mul, nI_add, Bool.false_eq_true, reduceCtorEq, Nat.not_lt_zero, cond_true, cond_false, ↓reduceIte, if_true, if_false, Option.toList_some, Option.toList_none, List.nil_append, List.cons_append, Option.bind_some, Nat.lt_irrefl, (hA'.2 k hk).2.2.2.2.1]
      by_cases hl : f (124 + k) >>> (nI n &&& 31) = 0
      · have hle : ¬ zs_lead f n k n = true := by simp [zs_lead, h7, hl]
        simp only [hl, Bool.false_eq_true, reduceCtorEq, Nat.not_lt_zero, cond_true, cond_false, ↓reduceIte, if_true, if_false, Option.toList_some, Option.toList_none, List.nil_append, List.cons_append, Option.bind_some]
        refine zw_ret ⟨rfl, h1, ?_, h3⟩
        simp only [zs_ts, zs_tu, hle, Bool.false_eq_true, reduceCtorEq, Nat.not_lt_zero, cond_true, cond_false, ↓reduceIte, if_true, if_false, Option.toList_some, Option.toList_none, List.nil_append, List.cons_append, Option.bind_some, List.append_nil]
        exact h2
      · have hle : zs_lead f n k n = true := by simp [zs_lead, h7, hl]
        simp only [hl, Bool.false_eq_true, reduceCtorEq, Nat.not_lt_zero, cond_true, cond_false, ↓reduceIte, if_true, if_false, Option.toList_some, Option.toList_none, List.nil_append, List.cons_append, Option.bind_some]
        obtain ⟨b2, e1, e2, e3, e4⟩ := rx_add (nl := nl) hc h2 (hlen n (by omega)) k n
        rw [e1]
        simp only [Bool.false_eq_true, reduceCtorEq, Nat.not_lt_zero, cond_true, cond_false, ↓reduceIte, if_true, if_false, Option.toList_some, Option.toList_none, List.nil_append, List.cons_append, Option.bind_some]
        rw [ex_51_36 c0 _ _ hc]
        refine zw_ret ⟨rfl, h1.tr e2, ?_, e4.trans h3⟩
        rw [List.append_assoc] at e3
        simp only [zs_ts, zs_tu, hle, if_true, List.map_append, List.map_cons, List.map_nil]
        exact e3)
    0 a (Nat.zero_le _) ⟨zKe.rf, by simpa [zs_tu] using hP, rfl⟩
  obtain ⟨v, d, e, hv, h1, h2, h3⟩ := key
  subst hv
  exact ⟨d, by rw [ex_51_0 c0 _ hc]; exact e, h1, h2, h3⟩
set_option maxHeartbeats 4000000 in
theorem rx_of (hc : c0 = 3 ∨ c0 = 20) (hW : zW f n) {k : Nat} (hk : k < n) {L : List (Nat × Nat)} (hL : L.length ≤ k * (n + 1)) (hA : zAo c0 a f n) (hP : zPx c0 a L) : ∃ a', zx nl 49 0 [z_r c0, z_i (nI k), none, none] [] a = some (none, a') ∧ zKe c0 a a' ∧ zPx c0 a' (L ++ (zs_ts f n k).map fun t => (k, t)) ∧ a'.1 (c0 + 7) = a.1 (c0 + 7) := by
  have hn := hW.le
  obtain ⟨hg, p, hp, hpe⟩ := hW.2.2.2 k hk
  obtain ⟨r, hr, hb⟩ := hg.bb
  have q3 : k * (n + 1) ≤ (n - 1) * (n + 1) := Nat.mul_le_mul_right _ (by omega)
  have q4 : (n - 1) * (n + 1) ≤ 27 * 29 := Nat.mul_le_mul (by omega) (by omega)
  have hmin : (if n < r then nI n else nI r) = nI (min r n) := by
    by_cases h : n < r
    · rw [if_pos h, Nat.min_eq_right (by omega)]
    · rw [if_neg h, Nat.min_eq_left (by omega)]
  have hadd : ∀ {x : Nat} {M : List (Nat × Nat)}, zPx c0 a M → M.length < 812 → _ := fun {x} {M} h1 h2 => rx_add (nl := nl) hc h1 h2 k x
  rw [ex_49_0 c0 _ hc]
  obtain ⟨e1, e2, e3, e4, e5, e6⟩ := hA.2 k hk
  simp (disch := omega) only [zb_ltl, zb_llt, zb_eql, zb_leq, nI_ltI, nI_eq, zb_in, nI_clamp, zb_al, zb_la, zb_ml, zb_lm, zb_mul, nI_add, Bool.false_eq_true, reduceCtorEq, Nat.not_lt_zero, cond_true, cond_false, ↓reduceIte, if_true, if_false, Option.toList_some, Option.toList_none, List.nil_append, List.cons_append, Option.bind_some, e1, e3, hA.1, hb, hmin]
  have one : ∀ x j, x = nI j → (∀ y, y ≤ n → (zs_lead f n k y = true ↔ y = j)) → j ≤ n → ∃ a', zx nl 50 0 [z_r c0, z_i (nI k), z_i x] [] a = some (none, a') ∧ zKe c0 a a' ∧ zPx c0 a' (L ++ (zs_ts f n k).map fun t => (k, t)) ∧ a'.1 (c0 + 7) = a.1 (c0 + 7) := by
    intro x j hx h1 h2
    subst hx
    obtain ⟨a2, g1, g2, g3, g4⟩ := rx_add (nl := nl) hc hP (by omega) k j
    refine ⟨a2, g1, g2, ?_, g4⟩
    rw [show zs_ts f n k = [j] from (zs_tu_one h1 (n + 1) (Nat.le_refl _)).trans (if_pos (by omega))]
    exact g3
  have plain : ¬ f (12 + 4 * k) = 3 → ¬ f (12 + 4 * k) = 4 → ¬ f (12 + 4 * k) = 7 → ∀ y, y ≤ n → (zs_lead f n k y = true ↔ y = k + 1) := by
    intro h1 h2 h3 y _
    simp [zs_lead, h1, h2, h3]
  rcases hg.kinds with h | h | h | h | h | h | h | h
  · obtain ⟨a2, g1, g2⟩ := one (nI (k + 1)) (k + 1) rfl (plain (by rw [h]; decide) (by rw [h]; decide) (by rw [h]; decide)) (by omega)
    rw [if_neg (by rw [h]; decide), if_neg (by rw [h]; decide), if_neg (by rw [h]; decide), if_neg (by rw [h]; decide), if_neg (by rw [h]; decide), g1]
    simp only [Bool.false_eq_true, reduceCtorEq, Nat.not_lt_zero, cond_true, cond_false, ↓reduceIte, if_true, if_false, Option.toList_some, Option.toList_none, List.nil_append, List.cons_append, Option.bind_some]
    rw [ex_49_46 c0 _ _ _ hc]
    exact ⟨a2, rfl, g2⟩
  · obtain ⟨a2, g1, g2⟩ := one (nI (k + 1)) (k + 1) rfl (plain (by rw [h]; decide) (by rw [h]; decide) (by rw [h]; decide)) (by omega)
    rw [if_neg (by rw [h]; decide), if_neg (by rw [h]; decide), if_neg (by rw [h]; decide), if_neg (by rw [h]; decide), if_neg (by rw [h]; decide), g1]
    simp only [Bool.false_eq_true, reduceCtorEq, Nat.not_lt_zero, cond_true, cond_false, ↓reduceIte, if_true, if_false, Option.toList_some, Option.toList_none, List.nil_append, List.cons_append, Option.bind_some]
    rw [ex_49_46 c0 _ _ _ hc]
    exact ⟨a2, rfl, g2⟩
  · obtain ⟨a2, g1, g2⟩ := one (nI (k + 1)) (k + 1) rfl (plain (by rw [h]; decide) (by rw [h]; decide) (by rw [h]; decide)) (by omega)
    rw [if_neg (by rw [h]; decide), if_neg (by rw [h]; decide), if_neg (by rw [h]; decide), if_neg (by rw [h]; decide), if_neg (by rw [h]; decide), g1]
    simp only [Bool.false_eq_true, reduceCtorEq, Nat.not_lt_zero, cond_true, cond_false, ↓reduceIte, if_true, if_false, Option.toList_some, Option.toList_none, List.nil_append, List.cons_append, Option.bind_some]
    rw [ex_49_46 c0 _ _ _ hc]
    exact ⟨a2, rfl, g2⟩
  · rw [if_pos h]
    have hl : ∀ y, y ≤ n → (zs_lead f n k y = true ↔ y = min r n ∨ y = k + 1) := by
      intro y _
      simp [zs_lead, h, hb, nI_clamp (show r < 2 ^ 31 by omega)]
    by_cases hj : min r n = k + 1
    · obtain ⟨a2, g1, g2⟩ := one (nI (k + 1)) (k + 1) rfl (fun y hy => by rw [hl y hy, hj, or_self]) (by omega)
      rw [hj]
      simp only [Nat.lt_irrefl, if_false, g1, Bool.false_eq_true, reduceCtorEq, Nat.not_lt_zero, cond_true, cond_false, ↓reduceIte, if_true, if_false, Option.toList_some, Option.toList_none, List.nil_append, List.cons_append, Option.bind_some]
      rw [ex_49_23 c0 _ _ _ hc, if_pos rfl]
      exact ⟨a2, rfl, g2⟩
    · by_cases hlt : min r n < k + 1
      · obtain ⟨a2, g1, g2, g3, g4⟩ := rx_add (nl := nl) hc hP (by omega) k (min r n)
        obtain ⟨a3, i1, i2, i3, i4⟩ := rx_add (nl := nl) hc g3 (by rw [List.length_append]; show L.length + 1 < 812; omega) k (k + 1)
        simp only [hlt, if_true, g1, Bool.false_eq_true, reduceCtorEq, Nat.not_lt_zero, cond_true, cond_false, ↓reduceIte, if_true, if_false, Option.toList_some, Option.toList_none, List.nil_append, List.cons_append, Option.bind_some]
        rw [ex_49_23 c0 _ _ _ hc]
        simp (disch := omega) only [zb_ltl, zb_llt, zb_eql, zb_leq, nI_ltI, nI_eq, zb_in, nI_clamp, zb_al, zb_la, zb_ml, zb_lm, zb_mul, nI_add, Bool.false_eq_true, reduceCtorEq, Nat.not_lt_zero, cond_true, cond_false, ↓reduceIte, if_true, if_false, Option.toList_some, Option.toList_none, List.nil_append, List.cons_append, Option.bind_some, show ¬ k + 1 = min r n by omega, show ¬ k + 1 < min r n by omega, i1]
        rw [ex_49_32 c0 _ _ _ hc]
        refine ⟨a3, rfl, g2.tr i2, ?_, i4.trans g4⟩
        rw [show zs_ts f n k = [min r n, k + 1] from (zs_tu_two hlt hl (n + 1) (Nat.le_refl _)).trans (by rw [if_pos (by omega), if_pos (by omega)]; rfl)]
        rw [List.append_assoc] at i3
        exact i3
      · obtain ⟨a2, g1, g2, g3, g4⟩ := rx_add (nl := nl) hc hP (by omega) k (k + 1)
        obtain ⟨a3, i1, i2, i3, i4⟩ := rx_add (nl := nl) hc g3 (by rw [List.length_append]; show L.length + 1 < 812; omega) k (min r n)
        simp only [hlt, if_false, g1, Bool.false_eq_true, reduceCtorEq, Nat.not_lt_zero, cond_true, cond_false, ↓reduceIte, if_true, if_false, Option.toList_some, Option.toList_none, List.nil_append, List.cons_append, Option.bind_some]
        rw [ex_49_23 c0 _ _ _ hc]
        simp (disch := omega) only [zb_ltl, zb_llt, zb_eql, zb_leq, nI_ltI, nI_eq, zb_in, nI_clamp, zb_al, zb_la, zb_ml, zb_lm, zb_mul, nI_add, Bool.false_eq_true, reduceCtorEq, Nat.not_lt_zero, cond_true, cond_false, ↓reduceIte, if_true, if_false, Option.toList_some, Option.toList_none, List.nil_append, List.cons_append, Option.bind_some, show ¬ k + 1 = min r n by omega, show k + 1 < min r n by omega, i1]
        rw [ex_49_32 c0 _ _ _ hc]
        refine ⟨a3, rfl, g2.tr i2, ?_, i4.trans g4⟩
        rw [show zs_ts f n k = [k + 1, min r n] from (zs_tu_two (show k + 1 < min r n by omega) (fun y hy => (hl y hy).trans (Or.comm)) (n + 1) (Nat.le_refl _)).trans (by rw [if_pos (by omega), if_pos (by omega)]; rfl)]
        rw [List.append_assoc] at i3
        exact i3
  · obtain ⟨a2, g1, g2⟩ := one (nI (min r n)) (min r n) rfl (fun y _ => by simp [zs_lead, h, hb, nI_clamp (show r < 2 ^ 31 by omega)]) (by omega)
    rw [if_neg (by rw [h]; decide), if_pos h, g1]
    simp only [Bool.false_eq_true, reduceCtorEq, Nat.not_lt_zero, cond_true, cond_false, ↓reduceIte, if_true, if_false, Option.toList_some, Option.toList_none, List.nil_append, List.cons_append, Option.bind_some]
    rw [ex_49_37 c0 _ _ _ hc]
    exact ⟨a2, rfl, g2⟩
  · obtain ⟨a2, g1, g2⟩ := one (nI (k + 1)) (k + 1) rfl (plain (by rw [h]; decide) (by rw [h]; decide) (by rw [h]; decide)) (by omega)
    rw [if_neg (by rw [h]; decide), if_neg (by rw [h]; decide), if_pos h, g1]
    simp only [Bool.false_eq_true, reduceCtorEq, Nat.not_lt_zero, cond_true, cond_false, ↓reduceIte, if_true, if_false, Option.toList_some, Option.toList_none, List.nil_append, List.cons_append, Option.bind_some]
    rw [ex_49_46 c0 _ _ _ hc]
    exact ⟨a2, rfl, g2⟩
  · obtain ⟨a2, g1, g2⟩ := one (nI (k + 1)) (k + 1) rfl (plain (by rw [h]; decide) (by rw [h]; decide) (by rw [h]; decide)) (by omega)
    rw [if_neg (by rw [h]; decide), if_neg (by rw [h]; decide), if_neg (by rw [h]; decide), if_pos h, g1]
    simp only [Bool.false_eq_true, reduceCtorEq, Nat.not_lt_zero, cond_true, cond_false, ↓reduceIte, if_true, if_false, Option.toList_some, Option.toList_none, List.nil_append, List.cons_append, Option.bind_some]
    rw [ex_49_46 c0 _ _ _ hc]
    exact ⟨a2, rfl, g2⟩
  · obtain ⟨a2, g1, g2⟩ := rx_places (nl := nl) hc hn hk h hL hA hP
    rw [if_neg (by rw [h]; decide), if_neg (by rw [h]; decide), if_neg (by rw [h]; decide), if_neg (by rw [h]; decide), if_pos h, g1]
    simp only [Bool.false_eq_true, reduceCtorEq, Nat.not_lt_zero, cond_true, cond_false, ↓reduceIte, if_true, if_false, Option.toList_some, Option.toList_none, List.nil_append, List.cons_append, Option.bind_some]
    rw [ex_49_41 c0 _ _ _ hc]
    exact ⟨a2, rfl, g2⟩
theorem rx_edges (hc : c0 = 3 ∨ c0 = 20) (hW : zW f n) (hA : zAo c0 a f n) : ∃ a', zx nl 48 0 [z_r c0, none] [] a = some (none, a') ∧ zKe c0 a a' ∧ zAe c0 a' f n ∧ ∀ e, e < zs_B f n n → a'.1 (c0 + 10) e = -1000000005 := by
  have hn := hW.le
  have key := zl_up (F := fun k b => zx nl 48 6 [z_r c0, z_i (nI k)] [] b) (n := n) (I := fun k b => zKe c0 a b ∧ zPx c0 b (zs_es f n k) ∧ ∀ j, j < k → b.1 (c0 + 7) j = nI (zs_B f n j)) (Q := fun v b => v = none ∧ zKe c0 a b ∧ zAe c0 b f n ∧ ∀ e, e < zs_B f n n → b.1 (c0 + 10) e = -1000000005)
    (by
      rintro k b hk ⟨h1, h2, h3⟩
      left
      try dsimp only
      have hA' := hA.ke h1
      rw [ex_48_6 c0 _ hc, hA'.1]
      simp (disch := omega) only [zb_ltl, zb_llt, zb_eql, zb_leq, nI_ltI, nI_eq, zb_in, nI_clamp, zb_al, zb_la, zb_ml, zb_lm, zb_mul, nI_add, Bool.false_eq_true, reduceCtorEq, Nat.not_lt_zero, cond_true, cond_false, ↓reduceIte, if_true, if_false, Option.toList_some, Option.toList_none, List.nil_append, List.cons_append, Option.bind_some, hk]
      have hP : zPx c0 (zd_u b (c0 + 7) k (b.1 c0 7)) (zs_es f n k) := by
        unfold zPx
        rw [zb_uc _ _ _ _ (by omega), zb_uc _ _ _ _ (by omega), zb_uc _ _ _ _ (by omega), zb_uc _ _ _ _ (by omega)]
        exact h2
      have hK1 : zKe c0 a (zd_u b (c0 + 7) k (b.1 c0 7)) := h1.u _ _ (by omega) (by omega)
      obtain ⟨b2, g1, g2, g3, g4⟩ := rx_of (nl := nl) hc hW hk (zs_Bc k) (hA.ke hK1) hP
      rw [g1]
      simp only [Bool.false_eq_true, reduceCtorEq, Nat.not_lt_zero, cond_true, cond_false, ↓reduceIte, if_true, if_false, Option.toList_some, Option.toList_none, List.nil_append, List.cons_append, Option.bind_some]
      rw [ex_48_19 c0 _ hc, zb_al]
      refine ⟨b2, ⟨hK1.tr g2, g3, fun j hj => ?_⟩, rfl⟩
      rw [g4]
      by_cases hjk : j = k
      · subst hjk
        rw [zb_ue, h2.1]
        rfl
      · rw [zb_ui _ _ _ _ hjk]
        exact h3 j (by omega))
    (by
      rintro b ⟨h1, h2, h3⟩
      try dsimp only
      have hA' := hA.ke h1
      rw [ex_48_6 c0 _ hc, hA'.1]
      simp (disch := omega) only [zb_ltl, zb_llt, zb_eql, zb_leq, nI_ltI, nI_eq, zb_in, nI_clamp, zb_al, zb_la, zb_ml, zb_lm, zb_mul, nI_add, Bool.false_eq_true, reduceCtorEq, Nat.not_lt_zero, cond_true, cond_false, ↓reduceIte, if_true, if_false, Option.toList_some, Option.toList_none, List.nil_append, List.cons_append, Option.bind_some, Nat.lt_irrefl]
      refine zw_ret ⟨rfl, h1.u _ _ (by omega) (by omega), ⟨?_, fun k hk => ?_, fun e he => ?_⟩, fun e he => ?_⟩
      · rw [zb_uc _ _ _ _ (by omega)]
        exact h2.1
      · by_cases hkn : k = n
        · subst hkn
          rw [zb_ue, h2.1]
          rfl
        · rw [zb_ui _ _ _ _ hkn]
          exact h3 k (by omega)
      · rw [zb_uc _ _ _ _ (by omega), zb_uc _ _ _ _ (by omega)]
        exact ⟨(h2.2 e he).1, (h2.2 e he).2.1⟩
      · rw [zb_uc _ _ _ _ (by omega)]
        exact (h2.2 e he).2.2)
    0 (zd_u a c0 7 0) (Nat.zero_le _) ⟨zKe.rf.ff _, ⟨by rw [zb_ue]; rfl, fun e he => absurd he (Nat.not_lt_zero _)⟩, fun j hj => absurd hj (Nat.not_lt_zero _)⟩
  obtain ⟨v, d, e, hv, h1, h2⟩ := key
  subst hv
  exact ⟨d, by rw [ex_48_0 c0 hc]; exact e, h1, h2⟩
end RxEdge
