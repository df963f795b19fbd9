/-! ===== one order of a run: what both keep; where it stops ===== -/
def zKp (c0 : Nat) (a a' : zd_D) : Prop := (∀ c, ¬ (38 ≤ c ∧ c ≤ 43) → ¬ c = c0 → ¬ c = c0 + 1 → a'.1 c = a.1 c) ∧ (∀ i, ¬ (3 ≤ i ∧ i ≤ 5) → a'.1 c0 i = a.1 c0 i) ∧ a'.2 = a.2
def zKq (b b' : zd_D) : Prop := (∀ c, ¬ c = 91 → ¬ c = 101 → ¬ (105 ≤ c ∧ c ≤ 106) → ¬ (108 ≤ c ∧ c ≤ 112) → b'.1 c = b.1 c) ∧ (∀ i, ¬ i = 31 → ¬ i = 33 → b'.1 91 i = b.1 91 i) ∧ ∀ i, ¬ (2 ≤ i ∧ i ≤ 4) → b'.1 101 i = b.1 101 i
def zs_wb (x : Int32) (k : Nat) : Prop := (x >>> (nI k &&& 31)) &&& 1 = 1
def zQ (c0 : Nat) (a b : zd_D) (f : zF) (T : Nat) : Prop := (∀ r, r < 4 → a.1 (c0 + 1) r = b.1 105 r) ∧ (∀ i, i < 32 → a.1 43 i = b.1 106 i) ∧ (∃ W, W < 2 ^ 28 ∧ a.1 38 4 = nI W ∧ ∀ k, k < 28 → (W.testBit k = true ↔ b.1 112 k = 2)) ∧ zCh a b f T ∧ a.1 c0 3 = b.1 101 2 ∧ a.1 c0 4 = b.1 101 3 ∧ a.1 c0 5 = b.1 101 4
def zs_adr (f : zF) (k : Nat) (ρ : zF) : Int32 := if f (14 + 4 * k) = 4 then f (15 + 4 * k) else ρ (f (14 + 4 * k)).toNatClampNeg + f (15 + 4 * k)
def zs_stop (f : zF) (k : Nat) (ρ : zF) : Nat :=
  if f (12 + 4 * k) = 6 then (if ρ (f (15 + 4 * k)).toNatClampNeg = 0 then 1 else 0)
  else if f (12 + 4 * k) = 1 ∨ f (12 + 4 * k) = 2 then (if zs_adr f k ρ < 0 ∨ 31 < zs_adr f k ρ then 2 else 0)
  else if f (12 + 4 * k) = 7 then (if ρ (f (13 + 4 * k)).toNatClampNeg < 0 ∨ 28 < ρ (f (13 + 4 * k)).toNatClampNeg ∨ (f (124 + k) >>> (ρ (f (13 + 4 * k)).toNatClampNeg &&& 31)) &&& 1 = 0 then 3 else 0)
  else 0
section ZDoes
variable {nl : Int32} {a a' a'' b b' b'' : zd_D} {f : zF} {n : Nat} {nu : Nat → Nat} {c0 : Nat}
theorem zKp.rf : zKp c0 a a := ⟨fun _ _ _ _ => rfl, fun _ _ => rfl, rfl⟩
theorem zKq.rf : zKq b b := ⟨fun _ _ _ _ _ => rfl, fun _ _ _ => rfl, fun _ _ => rfl⟩
theorem zKp.tr (h : zKp c0 a a') (h2 : zKp c0 a' a'') : zKp c0 a a'' := ⟨fun c q1 q2 q3 => (h2.1 c q1 q2 q3).trans (h.1 c q1 q2 q3), fun i q => (h2.2.1 i q).trans (h.2.1 i q), h2.2.2.trans h.2.2⟩
theorem zKq.tr (h : zKq b b') (h2 : zKq b' b'') : zKq b b'' := ⟨fun c q1 q2 q3 q4 => (h2.1 c q1 q2 q3 q4).trans (h.1 c q1 q2 q3 q4), fun i q1 q2 => (h2.2.1 i q1 q2).trans (h.2.1 i q1 q2), fun i q => (h2.2.2 i q).trans (h.2.2 i q)⟩
theorem zKp.u (hc : c0 = 45 ∨ c0 = 49) (h : zKp c0 a a') {c i : Nat} (x : Int32) (q : (38 ≤ c ∧ c ≤ 43) ∨ c = c0 + 1 ∨ (c = c0 ∧ 3 ≤ i ∧ i ≤ 5)) : zKp c0 a (zd_u a' c i x) :=
  ⟨fun k q1 q2 q3 => by rw [zb_uc _ _ _ _ (by omega)]; exact h.1 k q1 q2 q3, fun j hj => by
    rw [zb_u, if_neg (by omega)]; exact h.2.1 j hj, h.2.2⟩
theorem zKq.u (h : zKq b b') {c i : Nat} (x : Int32) (q : (105 ≤ c ∧ c ≤ 106) ∨ (108 ≤ c ∧ c ≤ 112) ∨ (c = 91 ∧ (i = 31 ∨ i = 33)) ∨ (c = 101 ∧ 2 ≤ i ∧ i ≤ 4)) : zKq b (zd_u b' c i x) :=
  ⟨fun k q1 q2 q3 q4 => by rw [zb_uc _ _ _ _ (by omega)]; exact h.1 k q1 q2 q3 q4, fun j h1 h2 => by
    rw [zb_u, if_neg (by omega)]; exact h.2.1 j h1 h2, fun j hj => by
    rw [zb_u, if_neg (by omega)]; exact h.2.2 j hj⟩
theorem zCh.c {T T' : Nat} (h : zCh a b f T) (hT : T ≤ T') (k39 : a'.1 39 = a.1 39) (k40 : a'.1 40 = a.1 40) (k41 : a'.1 41 = a.1 41) (k42 : a'.1 42 = a.1 42) (m31 : b'.1 91 31 = b.1 91 31) (m108 : b'.1 108 = b.1 108) (m109 : b'.1 109 = b.1 109) (m110 : b'.1 110 = b.1 110) (m111 : b'.1 111 = b.1 111) : zCh a' b' f T' := by
  have hk : b'.1 (zs_kc f) = b.1 (zs_kc f) := by unfold zs_kc; split <;> assumption
  unfold zCh at h ⊢
  rw [k39, k40, k41, k42, m31, m108, m111, hk]
  obtain ⟨h1, h2, h3, cc, cm, S, K, ⟨q1, q2, q3, q4⟩, h4⟩ := h
  exact ⟨h1, h2, h3, cc, cm, S, K, ⟨by omega, by omega, q3, q4⟩, h4⟩
theorem zb_bit01 {p v : Nat} (hp : p < 2 ^ 31) (hv : v < 32) : ((nI p >>> (nI v &&& 31)) &&& 1 = 1) ↔ ¬ ((nI p >>> (nI v &&& 31)) &&& 1 = 0) := by
  rw [zb_bit1 hp hv, zb_bit0 hp hv]
  cases p.testBit v <;> simp
theorem rm_adr (hW : zW f n) (hV : zV 92 b f) {k : Nat} (hk : k < n) (hkd : f (12 + 4 * k) = 1 ∨ f (12 + 4 * k) = 2) : zm 226 0 [z_r 91, z_i (nI k)] [] b = some (some (.inl (zs_adr f k (b.1 105))), b) := by
  have hn := hW.le
  obtain ⟨hg, -⟩ := hW.2.2.2 k hk
  have hb : (∃ r, r < 4 ∧ f (14 + 4 * k) = nI r) ∨ f (14 + 4 * k) = nI 4 := by
    rcases hg.2 with ⟨h, _⟩ | ⟨_, h | h⟩ | ⟨h, _⟩ | ⟨h, _⟩ | ⟨h, _⟩
    · rcases hkd with q | q <;> rw [q] at h <;> exact absurd h (by decide)
    · exact Or.inl h
    · exact Or.inr h.1
    · rcases hkd with q | q <;> rw [q] at h <;> exact absurd h (by decide)
    · rcases hkd with q | q <;> rw [q] at h <;> exact absurd h (by decide)
    · rcases hkd with q | q <;> rw [q] at h <;> exact absurd h (by decide)
  rw [em_226_0]
  unfold zs_adr
  rcases hb with ⟨r, hr, e⟩ | e
  · simp (disch := omega) only [zb_ltl, zb_llt, zb_eql, zb_leq, nI_ltI, nI_eq, zb_in, nI_clamp, zb_al, zb_la, zb_ml, zb_lm, zb_mul, nI_add, Bool.false_eq_true, reduceCtorEq, Nat.not_lt_zero, cond_true, cond_false, ↓reduceIte, if_true, if_false, Option.toList_some, Option.toList_none, List.nil_append, List.cons_append, Option.bind_some, hV.o2 hW hk, hV.o3 hW hk, e, show ¬ r = 4 by omega]
  · simp (disch := omega) only [zb_ltl, zb_llt, zb_eql, zb_leq, nI_ltI, nI_eq, zb_in, nI_clamp, zb_al, zb_la, zb_ml, zb_lm, zb_mul, nI_add, Bool.false_eq_true, reduceCtorEq, Nat.not_lt_zero, cond_true, cond_false, ↓reduceIte, if_true, if_false, Option.toList_some, Option.toList_none, List.nil_append, List.cons_append, Option.bind_some, hV.o2 hW hk, hV.o3 hW hk, e]
theorem rm_stop (hW : zW f n) (hV : zV 92 b f) {k : Nat} (hk : k < n) : zm 225 0 [z_r 91, z_i (nI k), none, none] [] b = some (some (.inl (nI (zs_stop f k (b.1 105)))), b) := by
  have hn := hW.le
  obtain ⟨hg, p, hp, hpe⟩ := hW.2.2.2 k hk
  obtain ⟨⟨ra, ha, ea⟩, hrest⟩ := hg
  have hgk := (hW.2.2.2 k hk).1.kinds
  rw [em_225_0]
  unfold zs_stop
  rcases hgk with h | h | h | h | h | h | h | h
  · simp (disch := omega) only [zb_ltl, zb_llt, zb_eql, zb_leq, nI_ltI, nI_eq, zb_in, nI_clamp, zb_al, zb_la, zb_ml, zb_lm, zb_mul, nI_add, Bool.false_eq_true, reduceCtorEq, Nat.not_lt_zero, cond_true, cond_false, ↓reduceIte, if_true, if_false, Option.toList_some, Option.toList_none, List.nil_append, List.cons_append, Option.bind_some, zb_ll, Nat.reduceEqDiff, hV.o0 hW hk, hV.o1 hW hk, h, ea, or_self]; rfl
  · simp (disch := omega) only [zb_ltl, zb_llt, zb_eql, zb_leq, nI_ltI, nI_eq, zb_in, nI_clamp, zb_al, zb_la, zb_ml, zb_lm, zb_mul, nI_add, Bool.false_eq_true, reduceCtorEq, Nat.not_lt_zero, cond_true, cond_false, ↓reduceIte, if_true, if_false, Option.toList_some, Option.toList_none, List.nil_append, List.cons_append, Option.bind_some, zb_ll, Nat.reduceEqDiff, hV.o0 hW hk, h, true_or, rm_adr hW hV hk (Or.inl h)]
    rw [em_225_22]
    by_cases c1 : zs_adr f k (b.1 105) < 0
    · rw [if_pos c1, if_pos (Or.inl c1)]; rfl
    · by_cases c2 : 31 < zs_adr f k (b.1 105)
      · rw [if_neg c1, if_pos c2, if_pos (Or.inr c2)]; rfl
      · rw [if_neg c1, if_neg c2, if_neg (show ¬ (zs_adr f k (b.1 105) < 0 ∨ 31 < zs_adr f k (b.1 105)) from fun w => w.elim c1 c2)]
        simp (disch := omega) only [zb_ltl, zb_llt, zb_eql, zb_leq, nI_ltI, nI_eq, zb_in, nI_clamp, zb_al, zb_la, zb_ml, zb_lm, zb_mul, nI_add, Bool.false_eq_true, reduceCtorEq, Nat.not_lt_zero, cond_true, cond_false, ↓reduceIte, if_true, if_false, Option.toList_some, Option.toList_none, List.nil_append, List.cons_append, Option.bind_some, zb_ll, Nat.reduceEqDiff, hV.o1 hW hk, ea]; rfl
  · simp (disch := omega) only [zb_ltl, zb_llt, zb_eql, zb_leq, nI_ltI, nI_eq, zb_in, nI_clamp, zb_al, zb_la, zb_ml, zb_lm, zb_mul, nI_add, Bool.false_eq_true, reduceCtorEq, Nat.not_lt_zero, cond_true, cond_false, ↓reduceIte, if_true, if_false, Option.toList_some, Option.toList_none, List.nil_append, List.cons_append, Option.bind_some, zb_ll, Nat.reduceEqDiff, hV.o0 hW hk, h, or_true, rm_adr hW hV hk (Or.inr h)]
    rw [em_225_22]
    by_cases c1 : zs_adr f k (b.1 105) < 0
    · rw [if_pos c1, if_pos (Or.inl c1)]; rfl
    · by_cases c2 : 31 < zs_adr f k (b.1 105)
      · rw [if_neg c1, if_pos c2, if_pos (Or.inr c2)]; rfl
      · rw [if_neg c1, if_neg c2, if_neg (show ¬ (zs_adr f k (b.1 105) < 0 ∨ 31 < zs_adr f k (b.1 105)) from fun w => w.elim c1 c2)]
        simp (disch := omega) only [zb_ltl, zb_llt, zb_eql, zb_leq, nI_ltI, nI_eq, zb_in, nI_clamp, zb_al, zb_la, zb_ml, zb_lm, zb_mul, nI_add, Bool.false_eq_true, reduceCtorEq, Nat.not_lt_zero, cond_true, cond_false, ↓reduceIte, if_true, if_false, Option.toList_some, Option.toList_none, List.nil_append, List.cons_append, Option.bind_some, zb_ll, Nat.reduceEqDiff, hV.o1 hW hk, ea]; rfl
  · simp (disch := omega) only [zb_ltl, zb_llt, zb_eql, zb_leq, nI_ltI, nI_eq, zb_in, nI_clamp, zb_al, zb_la, zb_ml, zb_lm, zb_mul, nI_add, Bool.false_eq_true, reduceCtorEq, Nat.not_lt_zero, cond_true, cond_false, ↓reduceIte, if_true, if_false, Option.toList_some, Option.toList_none, List.nil_append, List.cons_append, Option.bind_some, zb_ll, Nat.reduceEqDiff, hV.o0 hW hk, hV.o1 hW hk, h, ea, or_self]; rfl
  · simp (disch := omega) only [zb_ltl, zb_llt, zb_eql, zb_leq, nI_ltI, nI_eq, zb_in, nI_clamp, zb_al, zb_la, zb_ml, zb_lm, zb_mul, nI_add, Bool.false_eq_true, reduceCtorEq, Nat.not_lt_zero, cond_true, cond_false, ↓reduceIte, if_true, if_false, Option.toList_some, Option.toList_none, List.nil_append, List.cons_append, Option.bind_some, zb_ll, Nat.reduceEqDiff, hV.o0 hW hk, hV.o1 hW hk, h, ea, or_self]; rfl
  · simp (disch := omega) only [zb_ltl, zb_llt, zb_eql, zb_leq, nI_ltI, nI_eq, zb_in, nI_clamp, zb_al, zb_la, zb_ml, zb_lm, zb_mul, nI_add, Bool.false_eq_true, reduceCtorEq, Nat.not_lt_zero, cond_true, cond_false, ↓reduceIte, if_true, if_false, Option.toList_some, Option.toList_none, List.nil_append, List.cons_append, Option.bind_some, zb_ll, Nat.reduceEqDiff, hV.o0 hW hk, hV.o1 hW hk, h, ea, or_self]; rfl
  · obtain ⟨rc, hc, ec⟩ : ∃ r, r < 4 ∧ f (15 + 4 * k) = nI r := by
      rcases hrest with ⟨q, _⟩ | ⟨q, _⟩ | ⟨q, _⟩ | ⟨_, _, q⟩ | ⟨q, _⟩
      · rw [h] at q; exact absurd q (by decide)
      · rw [h] at q; exact absurd q (by decide)
      · rw [h] at q; exact absurd q (by decide)
      · exact q
      · rw [h] at q; exact absurd q (by decide)
    by_cases c : b.1 105 rc = 0
    · simp (disch := omega) only [zb_ltl, zb_llt, zb_eql, zb_leq, nI_ltI, nI_eq, zb_in, nI_clamp, zb_al, zb_la, zb_ml, zb_lm, zb_mul, nI_add, Bool.false_eq_true, reduceCtorEq, Nat.not_lt_zero, cond_true, cond_false, ↓reduceIte, if_true, if_false, Option.toList_some, Option.toList_none, List.nil_append, List.cons_append, Option.bind_some, zb_ll, Nat.reduceEqDiff, hV.o0 hW hk, hV.o1 hW hk, hV.o3 hW hk, h, ea, ec, c]; rfl
    · simp (disch := omega) only [zb_ltl, zb_llt, zb_eql, zb_leq, nI_ltI, nI_eq, zb_in, nI_clamp, zb_al, zb_la, zb_ml, zb_lm, zb_mul, nI_add, Bool.false_eq_true, reduceCtorEq, Nat.not_lt_zero, cond_true, cond_false, ↓reduceIte, if_true, if_false, Option.toList_some, Option.toList_none, List.nil_append, List.cons_append, Option.bind_some, zb_ll, Nat.reduceEqDiff, hV.o0 hW hk, hV.o1 hW hk, hV.o3 hW hk, h, ea, ec, c]; rfl
  · simp (disch := omega) only [zb_ltl, zb_llt, zb_eql, zb_leq, nI_ltI, nI_eq, zb_in, nI_clamp, zb_al, zb_la, zb_ml, zb_lm, zb_mul, nI_add, Bool.false_eq_true, reduceCtorEq, Nat.not_lt_zero, cond_true, cond_false, ↓reduceIte, if_true, if_false, Option.toList_some, Option.toList_none, List.nil_append, List.cons_append, Option.bind_some, zb_ll, Nat.reduceEqDiff, hV.o0 hW hk, hV.o1 hW hk, hV.pl hW hk, h, ea, or_self]
    by_cases c1 : b.1 105 ra < 0
    · simp only [c1, Bool.false_eq_true, reduceCtorEq, Nat.not_lt_zero, cond_true, cond_false, ↓reduceIte, if_true, if_false, Option.toList_some, Option.toList_none, List.nil_append, List.cons_append, Option.bind_some, true_or]; rfl
    · by_cases c2 : 28 < b.1 105 ra
      · simp only [c1, c2, Bool.false_eq_true, reduceCtorEq, Nat.not_lt_zero, cond_true, cond_false, ↓reduceIte, if_true, if_false, Option.toList_some, Option.toList_none, List.nil_append, List.cons_append, Option.bind_some, true_or, or_true, false_or]; rfl
      · by_cases c3 : (f (124 + k) >>> (b.1 105 ra &&& 31)) &&& 1 = 0
        · simp only [c1, c2, c3, Bool.false_eq_true, reduceCtorEq, Nat.not_lt_zero, cond_true, cond_false, ↓reduceIte, if_true, if_false, Option.toList_some, Option.toList_none, List.nil_append, List.cons_append, Option.bind_some, or_true]; rfl
        · simp only [c1, c2, c3, Bool.false_eq_true, reduceCtorEq, Nat.not_lt_zero, cond_true, cond_false, ↓reduceIte, if_true, if_false, Option.toList_some, Option.toList_none, List.nil_append, List.cons_append, Option.bind_some, or_self]; rfl
end ZDoes
