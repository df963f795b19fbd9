/-! ===== one order of a run: loads and branches ===== -/
section ZLoad
variable {nl : Int32} {a a' a'' b b' b'' : zd_D} {f : zF} {n : Nat} {nu : Nat → Nat} {c0 T : Nat}
theorem zAo.p {k : Nat} (h : zAo 3 a f n) (hk : k < n) : a.1 4 k = f (12 + 4 * k) ∧ a.1 5 k = f (13 + 4 * k) ∧ a.1 6 k = f (14 + 4 * k) ∧ a.1 7 k = f (15 + 4 * k) ∧ a.1 8 k = f (124 + k) := by
  obtain ⟨q1, q2, q3, q4, q5, -⟩ := h.2 k hk
  exact ⟨q1, q2, q3, q4, q5⟩
theorem z_load {k : Nat} (hc : c0 = 45 ∨ c0 = 49) (hW : zW f n) (hV : zV 92 b f) (hP : zAo 3 a f n) (h2 : ∀ i, i < 8 → a.1 2 i = f i) (hlk : a.1 1 4 = b.1 92 9) (hQ : zQ c0 a b f T) (hT : T < 900) (hk : k < n) (hkd : f (12 + 4 * k) = 1 ∨ f (12 + 4 * k) = 2) (h6 : a.1 38 6 = 1) :
    ((zs_adr f k (b.1 105) < 0 ∨ 31 < zs_adr f k (b.1 105)) → zx nl 81 0 [z_r 38, z_i (nI k), z_r c0, none, none, none, none] [] a = some (some (.inl (-2)), a)) ∧
    (¬ (zs_adr f k (b.1 105) < 0 ∨ 31 < zs_adr f k (b.1 105)) → ∃ mo a' b', zx nl 81 0 [z_r 38, z_i (nI k), z_r c0, none, none, none, none] [] a = some (some (.inl (nI (k + 1))), a') ∧ zm 228 0 [z_r 91, z_i (nI k), none, none] [] b = some (some (.inl (nI mo)), b') ∧ mo ≤ 150 ∧ a'.1 38 6 = nI (1 + mo) ∧ zKp c0 a a' ∧ zKq b b' ∧ zQ c0 a' b' f (T + 1) ∧ b'.1 91 33 = b.1 91 33) := by
  have hn := hW.le
  obtain ⟨p4, p5, p6, p7, -⟩ := hP.p hk
  have hgg := (hW.2.2.2 k hk).1
  obtain ⟨⟨ra, ha, ea⟩, hrest⟩ := hgg
  have hb : (∃ r, r < 4 ∧ f (14 + 4 * k) = nI r) ∨ f (14 + 4 * k) = nI 4 := by
    rcases hrest with ⟨h, _⟩ | ⟨_, h | h⟩ | ⟨h, _⟩ | ⟨h, _⟩ | ⟨h, _⟩
    · rcases hkd with q | q <;> rw [q] at h <;> exact absurd h (by decide)
    · exact Or.inl h
    · exact Or.inr h.1
    · rcases hkd with q | q <;> rw [q] at h <;> exact absurd h (by decide)
    · rcases hkd with q | q <;> rw [q] at h <;> exact absurd h (by decide)
    · rcases hkd with q | q <;> rw [q] at h <;> exact absurd h (by decide)
  have hx : ∀ ad : Int32, ad = zs_adr f k (b.1 105) → zx nl 81 0 [z_r 38, z_i (nI k), z_r c0, none, none, none, none] [] a = if ad < 0 then some (some (.inl (-2)), a) else if ad < 32 then (if (a.1 1 4 >>> ((ad / 2) &&& 31)) &&& 1 = 1 then zx nl 81 56 [z_r 38, z_i (nI k), z_r c0, z_i (f (13 + 4 * k)), z_i (f (14 + 4 * k)), z_i ad, z_i (ad / 2)] [(.inl 1)] a else (zx nl 82 0 [z_r 39, z_i (ad / 2), none, none, none, none] [] a).bind fun q => zx nl 81 56 [z_r 38, z_i (nI k), z_r c0, z_i (f (13 + 4 * k)), z_i (f (14 + 4 * k)), z_i ad, z_i (ad / 2)] (q.1.toList ++ []) q.2) else some (some (.inl (-2)), a) := by
    intro ad had
    rw [ex_81_0 c0 _ hc, ex_81_56 c0 _ _ _ _ _ _ hc]
    unfold zs_adr at had
    rcases hb with ⟨r, hr, e⟩ | e
    · rw [e, if_neg (show ¬ nI r = 4 from fun w => by have := (nI_eq (b := 4) (by omega) (by omega)).mp w; omega), nI_clamp (by omega), ← hQ.1 r hr] at had
      subst had
      simp (disch := omega) only [zb_ltl, zb_llt, zb_eql, zb_leq, nI_ltI, nI_eq, zb_in, nI_clamp, zb_al, zb_la, zb_ml, zb_lm, zb_mul, nI_add, Bool.false_eq_true, reduceCtorEq, Nat.not_lt_zero, cond_true, cond_false, ↓reduceIte, if_true, if_false, Option.toList_some, Option.toList_none, List.nil_append, List.cons_append, Option.bind_some, p4, p5, p6, p7, ea, e, show ¬ r = 4 by omega, show ¬ (1 : Int32) = 0 by decide]
    · rw [e, if_pos (show nI 4 = 4 from rfl)] at had
      subst had
      simp (disch := omega) only [zb_ltl, zb_llt, zb_eql, zb_leq, nI_ltI, nI_eq, zb_in, nI_clamp, zb_al, zb_la, zb_ml, zb_lm, zb_mul, nI_add, Bool.false_eq_true, reduceCtorEq, Nat.not_lt_zero, cond_true, cond_false, ↓reduceIte, if_true, if_false, Option.toList_some, Option.toList_none, List.nil_append, List.cons_append, Option.bind_some, p4, p5, p6, p7, ea, e, show ¬ (1 : Int32) = 0 by decide]
  have hx := hx _ rfl
  clear hrest hb
  generalize hade : zs_adr f k (b.1 105) = ad at *
  refine ⟨fun hs => ?_, fun hs => ?_⟩
  · rw [hx]
    by_cases c1 : ad < 0
    · rw [if_pos c1]
    · have c2 : 31 < ad := hs.resolve_left c1
      rw [if_neg c1, if_neg ((zb_3132 ad).mp c2)]
  have c1 : ¬ ad < 0 := fun w => hs (Or.inl w)
  have c2 : ad < 32 := by
    have := fun w => hs (Or.inr ((zb_3132 ad).mpr w))
    exact Classical.byContradiction this
  obtain ⟨d, hd, rfl⟩ := zb_reg (m := 32) (by omega) c1 c2
  rw [if_neg c1, if_pos c2, zb_h32 d hd] at hx
  obtain ⟨h, a1, b1, e1, e2, k1, k2, hQ1, k38, k33⟩ := z_ask (nl := nl) (l := d / 2) hc hW hV hlk hQ hT (by omega)
  have hcl : zx nl 81 0 [z_r 38, z_i (nI k), z_r c0, none, none, none, none] [] a = zx nl 81 56 [z_r 38, z_i (nI k), z_r c0, z_i (f (13 + 4 * k)), z_i (f (14 + 4 * k)), z_i (nI d), z_i (nI (d / 2))] [(.inl (if h = true then 1 else 0))] a1 := by
    rw [hx]
    rcases e1 with ⟨q1, rfl, rfl⟩ | ⟨q1, q2⟩
    · rw [if_pos q1, if_pos rfl]
    · rw [if_neg q1, q2]
      simp only [Bool.false_eq_true, reduceCtorEq, Nat.not_lt_zero, cond_true, cond_false, ↓reduceIte, if_true, if_false, Option.toList_some, Option.toList_none, List.nil_append, List.cons_append, Option.bind_some]
  clear e1
  have h92 : b1.1 92 = b.1 92 := k2.1 92 (by omega) (by omega) (by omega) (by omega)
  have hV1 : zV 92 b1 f := fun i q1 q2 q3 => by rw [h92]; exact hV i q1 q2 q3
  have p4' : a1.1 4 k = f (12 + 4 * k) := by rw [k1.1 4 (by omega) (by omega) (by omega)]; exact p4
  have q3 : a1.1 2 3 = nI (zs_ms f) := by rw [k1.1 2 (by omega) (by omega) (by omega), h2 3 (by omega)]; exact hW.ms.1
  have m3 : b1.1 92 3 = nI (zs_ms f) := (hV1 3 (by omega) (by omega) (by omega)).trans hW.ms.1
  have hms := hW.ms.2
  have s6 : a1.1 38 6 = 1 := by rw [k38]; exact h6
  have rg : a1.1 (c0 + 1) ra = b1.1 105 ra := hQ1.1 ra ha
  have mg : a1.1 43 d = b1.1 106 d := hQ1.2.1 d hd
  rw [hcl, ex_81_56 c0 _ _ _ _ _ _ hc, em_228_0, rm_adr hW hV hk hkd, hade]
  simp only [Bool.false_eq_true, reduceCtorEq, Nat.not_lt_zero, cond_true, cond_false, ↓reduceIte, if_true, if_false, Option.toList_some, Option.toList_none, List.nil_append, List.cons_append, Option.bind_some]
  rw [em_228_3, zb_h32 d hd, e2]
  simp only [Bool.false_eq_true, reduceCtorEq, Nat.not_lt_zero, cond_true, cond_false, ↓reduceIte, if_true, if_false, Option.toList_some, Option.toList_none, List.nil_append, List.cons_append, Option.bind_some]
  rw [em_228_9]
  have hq := hQ1.hm hc h
  have k33' : ∀ (e : zd_D) (c i : Nat) (x : Int32), ¬ c = 91 → e.1 91 33 = b.1 91 33 → (zd_u e c i x).1 91 33 = b.1 91 33 := fun e c i x h1 h2 => by rw [zb_uc _ _ _ _ (fun w => h1 w.symm)]; exact h2
  rcases hkd with kd | kd
  · cases h with
    | true =>
      simp (disch := omega) only [zb_ltl, zb_llt, zb_eql, zb_leq, nI_ltI, nI_eq, zb_in, nI_clamp, zb_al, zb_la, zb_ml, zb_lm, zb_mul, nI_add, Bool.false_eq_true, reduceCtorEq, Nat.not_lt_zero, cond_true, cond_false, ↓reduceIte, if_true, if_false, Option.toList_some, Option.toList_none, List.nil_append, List.cons_append, Option.bind_some, zb_ll, Nat.reduceEqDiff, p4', kd, ea, hV1.o0 hW hk, hV1.o1 hW hk, show ¬ (1 : Int32) = 0 by decide] at hq ⊢
      refine ⟨0, _, _, rfl, rfl, by omega, ?_, ((k1.u hc _ (by omega)).u hc _ (by omega)), (((k2.u _ (by omega)).u _ (by omega)).u _ (by omega)), ?_, k33' _ _ _ _ (by decide) (k33' _ _ _ _ (by decide) (k33' _ _ _ _ (by decide) k33))⟩
      · rw [zb_uc _ _ _ _ (by omega), zb_uc _ _ _ _ (by omega), s6]; rfl
      · rw [mg]; exact hq.reg hc _ _
    | false =>
      simp (disch := omega) only [zb_ltl, zb_llt, zb_eql, zb_leq, nI_ltI, nI_eq, zb_in, nI_clamp, zb_al, zb_la, zb_ml, zb_lm, zb_mul, nI_add, Bool.false_eq_true, reduceCtorEq, Nat.not_lt_zero, cond_true, cond_false, ↓reduceIte, if_true, if_false, Option.toList_some, Option.toList_none, List.nil_append, List.cons_append, Option.bind_some, zb_ll, Nat.reduceEqDiff, p4', kd, ea, hV1.o0 hW hk, hV1.o1 hW hk, show ¬ (1 : Int32) = 0 by decide, s6, q3, m3] at hq ⊢
      refine ⟨zs_ms f, _, _, rfl, rfl, by omega, ?_, (((k1.u hc _ (by omega)).u hc _ (by omega)).u hc _ (by omega)), (((k2.u _ (by omega)).u _ (by omega)).u _ (by omega)), ?_, k33' _ _ _ _ (by decide) (k33' _ _ _ _ (by decide) (k33' _ _ _ _ (by decide) k33))⟩
      · rw [zb_uc _ _ _ _ (by omega), zb_ue]
      · rw [mg]; exact (hq.s6 hc _).reg hc _ _
  · cases h with
    | true =>
      simp (disch := omega) only [zb_ltl, zb_llt, zb_eql, zb_leq, nI_ltI, nI_eq, zb_in, nI_clamp, zb_al, zb_la, zb_ml, zb_lm, zb_mul, nI_add, Bool.false_eq_true, reduceCtorEq, Nat.not_lt_zero, cond_true, cond_false, ↓reduceIte, if_true, if_false, Option.toList_some, Option.toList_none, List.nil_append, List.cons_append, Option.bind_some, zb_ll, Nat.reduceEqDiff, p4', kd, ea, hV1.o0 hW hk, hV1.o1 hW hk, show ¬ (1 : Int32) = 0 by decide, s6] at hq ⊢
      refine ⟨1, _, _, rfl, rfl, by omega, ?_, (((k1.u hc _ (by omega)).u hc _ (by omega)).u hc _ (by omega)), (((k2.u _ (by omega)).u _ (by omega)).u _ (by omega)), ?_, k33' _ _ _ _ (by decide) (k33' _ _ _ _ (by decide) (k33' _ _ _ _ (by decide) k33))⟩
      · rw [zb_uc _ _ _ _ (by omega), zb_ue]; rfl
      · rw [rg]; exact (hq.s6 hc _).mem hc _ _
    | false =>
      simp (disch := omega) only [zb_ltl, zb_llt, zb_eql, zb_leq, nI_ltI, nI_eq, zb_in, nI_clamp, zb_al, zb_la, zb_ml, zb_lm, zb_mul, nI_add, Bool.false_eq_true, reduceCtorEq, Nat.not_lt_zero, cond_true, cond_false, ↓reduceIte, if_true, if_false, Option.toList_some, Option.toList_none, List.nil_append, List.cons_append, Option.bind_some, zb_ll, Nat.reduceEqDiff, p4', kd, ea, hV1.o0 hW hk, hV1.o1 hW hk, show ¬ (1 : Int32) = 0 by decide, s6, q3, m3] at hq ⊢
      refine ⟨zs_ms f + 1, _, _, rfl, rfl, by omega, ?_, ((((k1.u hc _ (by omega)).u hc _ (by omega)).u hc _ (by omega)).u hc _ (by omega)), (((k2.u _ (by omega)).u _ (by omega)).u _ (by omega)), ?_, k33' _ _ _ _ (by decide) (k33' _ _ _ _ (by decide) (k33' _ _ _ _ (by decide) k33))⟩
      · rw [zb_uc _ _ _ _ (by omega), zb_ue]; rfl
      · rw [rg]; exact ((hq.s6 hc _).s6 hc _).mem hc _ _
end ZLoad
