/-! ===== one order of a run: what is done ===== -/
section ZDoes2
variable {nl : Int32} {a a' a'' b b' b'' : zd_D} {f : zF} {n : Nat} {nu : Nat → Nat} {c0 T : Nat}
theorem zQ.mono {T' : Nat} (h : zQ c0 a b f T) (hT : T ≤ T') : zQ c0 a b f T' := by
  obtain ⟨h1, h2, h3, h4, h5⟩ := h
  exact ⟨h1, h2, h3, h4.c hT rfl rfl rfl rfl rfl rfl rfl rfl rfl, h5⟩
theorem zQ.s6 (hc : c0 = 45 ∨ c0 = 49) (h : zQ c0 a b f T) (x : Int32) : zQ c0 (zd_u a 38 6 x) b f T := by
  obtain ⟨h1, h2, ⟨W, w1, w2, w3⟩, h4, h5, h6, h7⟩ := h
  exact ⟨fun r hr => by rw [zb_uc _ _ _ _ (by omega)]; exact h1 r hr, fun i hi => by rw [zb_uc _ _ _ _ (by omega)]; exact h2 i hi, ⟨W, w1, by rw [zb_ui _ _ _ _ (by omega)]; exact w2, w3⟩, h4.c (Nat.le_refl _) (zb_uc _ _ _ _ (by omega)) (zb_uc _ _ _ _ (by omega)) (zb_uc _ _ _ _ (by omega)) (zb_uc _ _ _ _ (by omega)) rfl rfl rfl rfl rfl, by rw [zb_uc _ _ _ _ (by omega)]; exact h5, by rw [zb_uc _ _ _ _ (by omega)]; exact h6, by rw [zb_uc _ _ _ _ (by omega)]; exact h7⟩
theorem zQ.n33 (h : zQ c0 a b f T) (x : Int32) : zQ c0 a (zd_u b 91 33 x) f T := by
  obtain ⟨h1, h2, ⟨W, w1, w2, w3⟩, h4, h5, h6, h7⟩ := h
  exact ⟨fun r hr => by rw [zb_uc _ _ _ _ (by omega)]; exact h1 r hr, fun i hi => by rw [zb_uc _ _ _ _ (by omega)]; exact h2 i hi, ⟨W, w1, w2, fun k hk => by rw [zb_uc _ _ _ _ (by omega)]; exact w3 k hk⟩, h4.c (Nat.le_refl _) rfl rfl rfl rfl (zb_ui _ _ _ _ (by omega)) (zb_uc _ _ _ _ (by omega)) (zb_uc _ _ _ _ (by omega)) (zb_uc _ _ _ _ (by omega)) (zb_uc _ _ _ _ (by omega)), by rw [zb_uc _ _ _ _ (by omega)]; exact h5, by rw [zb_uc _ _ _ _ (by omega)]; exact h6, by rw [zb_uc _ _ _ _ (by omega)]; exact h7⟩
theorem zQ.reg (hc : c0 = 45 ∨ c0 = 49) (h : zQ c0 a b f T) (q : Nat) (x : Int32) : zQ c0 (zd_u a (c0 + 1) q x) (zd_u b 105 q x) f T := by
  obtain ⟨h1, h2, ⟨W, w1, w2, w3⟩, h4, h5, h6, h7⟩ := h
  refine ⟨fun r hr => ?_, fun i hi => by rw [zb_uc _ _ _ _ (by omega), zb_uc _ _ _ _ (by omega)]; exact h2 i hi, ⟨W, w1, by rw [zb_uc _ _ _ _ (by omega)]; exact w2, fun k hk => by rw [zb_uc _ _ _ _ (by omega)]; exact w3 k hk⟩, h4.c (Nat.le_refl _) (zb_uc _ _ _ _ (by omega)) (zb_uc _ _ _ _ (by omega)) (zb_uc _ _ _ _ (by omega)) (zb_uc _ _ _ _ (by omega)) (by rw [zb_uc _ _ _ _ (by omega)]) (zb_uc _ _ _ _ (by omega)) (zb_uc _ _ _ _ (by omega)) (zb_uc _ _ _ _ (by omega)) (zb_uc _ _ _ _ (by omega)), by rw [zb_uc _ _ _ _ (by omega), zb_uc _ _ _ _ (by omega)]; exact h5, by rw [zb_uc _ _ _ _ (by omega), zb_uc _ _ _ _ (by omega)]; exact h6, by rw [zb_uc _ _ _ _ (by omega), zb_uc _ _ _ _ (by omega)]; exact h7⟩
  rw [zb_u, zb_u]
  by_cases e : r = q
  · rw [if_pos ⟨rfl, e⟩, if_pos ⟨rfl, e⟩]
  · rw [if_neg (fun w => e w.2), if_neg (fun w => e w.2)]; exact h1 r hr
theorem zQ.mem (hc : c0 = 45 ∨ c0 = 49) (h : zQ c0 a b f T) (q : Nat) (x : Int32) : zQ c0 (zd_u a 43 q x) (zd_u b 106 q x) f T := by
  obtain ⟨h1, h2, ⟨W, w1, w2, w3⟩, h4, h5, h6, h7⟩ := h
  refine ⟨fun i hi => by rw [zb_uc _ _ _ _ (by omega), zb_uc _ _ _ _ (by omega)]; exact h1 i hi, fun r hr => ?_, ⟨W, w1, by rw [zb_uc _ _ _ _ (by omega)]; exact w2, fun k hk => by rw [zb_uc _ _ _ _ (by omega)]; exact w3 k hk⟩, h4.c (Nat.le_refl _) (zb_uc _ _ _ _ (by omega)) (zb_uc _ _ _ _ (by omega)) (zb_uc _ _ _ _ (by omega)) (zb_uc _ _ _ _ (by omega)) (by rw [zb_uc _ _ _ _ (by omega)]) (zb_uc _ _ _ _ (by omega)) (zb_uc _ _ _ _ (by omega)) (zb_uc _ _ _ _ (by omega)) (zb_uc _ _ _ _ (by omega)), by rw [zb_uc _ _ _ _ (by omega), zb_uc _ _ _ _ (by omega)]; exact h5, by rw [zb_uc _ _ _ _ (by omega), zb_uc _ _ _ _ (by omega)]; exact h6, by rw [zb_uc _ _ _ _ (by omega), zb_uc _ _ _ _ (by omega)]; exact h7⟩
  rw [zb_u, zb_u]
  by_cases e : r = q
  · rw [if_pos ⟨rfl, e⟩, if_pos ⟨rfl, e⟩]
  · rw [if_neg (fun w => e w.2), if_neg (fun w => e w.2)]; exact h2 r hr
/-- one more hit, or one more miss -/
theorem zQ.hm (hc : c0 = 45 ∨ c0 = 49) (h : zQ c0 a b f T) (hit : Bool) : zQ c0 (zd_u a c0 (if hit = true then 3 else 4) (a.1 c0 (if hit = true then 3 else 4) + 1)) (zd_u (zd_u b 101 2 (b.1 101 2 + (if hit = true then 1 else 0))) 101 3 (b.1 101 3 + (if hit = true then 0 else 1))) f T := by
  obtain ⟨h1, h2, ⟨W, w1, w2, w3⟩, h4, h5, h6, h7⟩ := h
  refine ⟨fun i hi => by rw [zb_uc _ _ _ _ (by omega), zb_uc _ _ _ _ (by omega), zb_uc _ _ _ _ (by omega)]; exact h1 i hi, fun i hi => by rw [zb_uc _ _ _ _ (by omega), zb_uc _ _ _ _ (by omega), zb_uc _ _ _ _ (by omega)]; exact h2 i hi, ⟨W, w1, by rw [zb_uc _ _ _ _ (by omega)]; exact w2, fun k hk => by rw [zb_uc _ _ _ _ (by omega), zb_uc _ _ _ _ (by omega)]; exact w3 k hk⟩, h4.c (Nat.le_refl _) (zb_uc _ _ _ _ (by omega)) (zb_uc _ _ _ _ (by omega)) (zb_uc _ _ _ _ (by omega)) (zb_uc _ _ _ _ (by omega)) (by rw [zb_uc _ _ _ _ (by omega), zb_uc _ _ _ _ (by omega)]) (by rw [zb_uc _ _ _ _ (by omega), zb_uc _ _ _ _ (by omega)]) (by rw [zb_uc _ _ _ _ (by omega), zb_uc _ _ _ _ (by omega)]) (by rw [zb_uc _ _ _ _ (by omega), zb_uc _ _ _ _ (by omega)]) (by rw [zb_uc _ _ _ _ (by omega), zb_uc _ _ _ _ (by omega)]), ?_, ?_, ?_⟩
  · cases hit
    · simp only [Bool.false_eq_true, reduceCtorEq, Nat.not_lt_zero, cond_true, cond_false, ↓reduceIte, if_true, if_false, Option.toList_some, Option.toList_none, List.nil_append, List.cons_append, Option.bind_some]; rw [zb_ui _ _ _ _ (by omega), zb_ui _ _ _ _ (by omega), zb_ue, Int32.add_zero]; exact h5
    · simp only [Bool.false_eq_true, reduceCtorEq, Nat.not_lt_zero, cond_true, cond_false, ↓reduceIte, if_true, if_false, Option.toList_some, Option.toList_none, List.nil_append, List.cons_append, Option.bind_some]; rw [zb_ue, zb_ui _ _ _ _ (by omega), zb_ue, h5]
  · cases hit
    · simp only [Bool.false_eq_true, reduceCtorEq, Nat.not_lt_zero, cond_true, cond_false, ↓reduceIte, if_true, if_false, Option.toList_some, Option.toList_none, List.nil_append, List.cons_append, Option.bind_some]; rw [zb_ue, zb_ue, h6]
    · simp only [Bool.false_eq_true, reduceCtorEq, Nat.not_lt_zero, cond_true, cond_false, ↓reduceIte, if_true, if_false, Option.toList_some, Option.toList_none, List.nil_append, List.cons_append, Option.bind_some]; rw [zb_ui _ _ _ _ (by omega), zb_ue, Int32.add_zero]; exact h6
  · cases hit
    · simp only [Bool.false_eq_true, reduceCtorEq, Nat.not_lt_zero, cond_true, cond_false, ↓reduceIte, if_true, if_false, Option.toList_some, Option.toList_none, List.nil_append, List.cons_append, Option.bind_some]; rw [zb_ui _ _ _ _ (by omega), zb_ui _ _ _ _ (by omega), zb_ui _ _ _ _ (by omega)]; exact h7
    · simp only [Bool.false_eq_true, reduceCtorEq, Nat.not_lt_zero, cond_true, cond_false, ↓reduceIte, if_true, if_false, Option.toList_some, Option.toList_none, List.nil_append, List.cons_append, Option.bind_some]; rw [zb_ui _ _ _ _ (by omega), zb_ui _ _ _ _ (by omega), zb_ui _ _ _ _ (by omega)]; exact h7
theorem zs_lead_next {k : Nat} (hk : k < n) (h4 : ¬ f (12 + 4 * k) = 4) (h7 : ¬ f (12 + 4 * k) = 7) : zs_lead f n k (min (k + 1) n) = true := by
  rw [show min (k + 1) n = k + 1 by omega]
  unfold zs_lead
  by_cases h : f (12 + 4 * k) = 3
  · rw [if_pos h]; exact decide_eq_true (Or.inr rfl)
  · rw [if_neg h, if_neg h4, if_neg h7]; exact decide_eq_true rfl
theorem zK_el {l : List Nat} {c : Nat} (h : ∀ x, x ∈ l → ¬ c = x) : l.elem c = false := by
  cases he : l.elem c with
  | false => rfl
  | true => exact absurd rfl (h c (List.elem_iff.mp he))
/-- a line is asked, locked or not -/
theorem z_ask {l : Nat} (hc : c0 = 45 ∨ c0 = 49) (hW : zW f n) (hV : zV 92 b f) (hlk : a.1 1 4 = b.1 92 9) (hQ : zQ c0 a b f T) (hT : T < 900) (hl : l < 16) : ∃ h : Bool, ∃ a' b', (((a.1 1 4 >>> (nI l &&& 31)) &&& 1 = 1 ∧ h = true ∧ a' = a) ∨ (¬ (a.1 1 4 >>> (nI l &&& 31)) &&& 1 = 1 ∧ zx nl 82 0 [z_r 39, z_i (nI l), none, none, none, none] [] a = some (some (.inl (if h = true then 1 else 0)), a'))) ∧ zm 229 0 [z_r 91, z_i (nI l), none, none, none, none, none] [] b = some (some (.inl (if h = true then 1 else 0)), b') ∧ zKp c0 a a' ∧ zKq b b' ∧ zQ c0 a' b' f (T + 1) ∧ a'.1 38 = a.1 38 ∧ b'.1 91 33 = b.1 91 33 := by
  by_cases c : (a.1 1 4 >>> (nI l &&& 31)) &&& 1 = 1
  · refine ⟨true, a, b, Or.inl ⟨c, rfl, rfl⟩, ?_, zKp.rf, zKq.rf, hQ.mono (by omega), rfl, rfl⟩
    rw [em_229_0, if_pos (by rw [← hlk]; exact c)]
    rfl
  · obtain ⟨h1, h2, ⟨W, w1, w2, w3⟩, h4, h5, h6, h7⟩ := hQ
    obtain ⟨h, a', b', e1, e2, k1, k2, hC⟩ := z_hits (nl := nl) hW hV h4 hT hl (by rw [← hlk]; exact c)
    have ka : ∀ c, ¬ (39 ≤ c ∧ c ≤ 42) → a'.1 c = a.1 c := fun c q => k1.1 c (by omega) (zK_el (by intro x hx; simp at hx; omega))
    have kb : ∀ c, ¬ c = 91 → ¬ (108 ≤ c ∧ c ≤ 111) → b'.1 c = b.1 c := fun c q1 q => k2.1 c q1 (zK_el (by intro x hx; simp at hx; omega))
    have kb9 : ∀ i, ¬ i = 31 → b'.1 91 i = b.1 91 i := fun i q => k2.2.1 i (zK_el (by intro x hx; simp at hx; omega))
    refine ⟨h, a', b', Or.inr ⟨c, e1⟩, e2, ⟨fun c q1 q2 q3 => ka c (by omega), fun i _ => by rw [ka c0 (by omega)], k1.2.2⟩, ⟨fun c q1 q2 q3 q4 => kb c q1 (by omega), fun i q1 q2 => kb9 i q1, fun i _ => by rw [kb 101 (by omega) (by omega)]⟩, ⟨fun r hr => ?_, fun i hi => ?_, ⟨W, w1, ?_, fun k hk => ?_⟩, hC, ?_, ?_, ?_⟩, ka 38 (by omega), kb9 33 (by omega)⟩
    · rw [ka (c0 + 1) (by omega), kb 105 (by omega) (by omega)]; exact h1 r hr
    · rw [ka 43 (by omega), kb 106 (by omega) (by omega)]; exact h2 i hi
    · rw [ka 38 (by omega)]; exact w2
    · rw [kb 112 (by omega) (by omega)]; exact w3 k hk
    · rw [ka c0 (by omega), kb 101 (by omega) (by omega)]; exact h5
    · rw [ka c0 (by omega), kb 101 (by omega) (by omega)]; exact h6
    · rw [ka c0 (by omega), kb 101 (by omega) (by omega)]; exact h7
theorem zb_h32 : ∀ x, x < 32 → nI x / 2 = nI (x / 2) := by decide +kernel
end ZDoes2
