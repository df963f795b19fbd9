/-! ===== a run: what holds between two orders ===== -/
def zKa (c0 : Nat) (a0 a : zd_D) : Prop := (∀ c, ¬ (38 ≤ c ∧ c ≤ 44) → ¬ (c0 ≤ c ∧ c ≤ c0 + 3) → a.1 c = a0.1 c) ∧ a.2 = a0.2
def zKb (told : Bool) (b0 b : zd_D) : Prop := (∀ c, ¬ c = 91 → ¬ (98 ≤ c ∧ c ≤ 101) → ¬ (103 ≤ c ∧ c ≤ 112) → b.1 c = b0.1 c) ∧ (told = false → b.1 103 = b0.1 103 ∧ b.1 104 = b0.1 104) ∧ ∀ i, ¬ i = 15 → ¬ i = 31 → ¬ i = 33 → b.1 91 i = b0.1 91 i
def zTk (c0 : Nat) (f : zF) (n : Nat) (nu : Nat → Nat) (T : Nat) (a b : zd_D) : Prop := ∃ tk : Nat → Nat, (∀ e, e < zs_B f n n → tk e ≤ T ∧ b.1 107 e = nI (tk e) ∧ (zs_tn f n e = true → a.1 44 e = nI (tk e))) ∧ a.1 c0 7 = if zs_over f n nu tk = true then 0 else 1
def zU (c0 : Nat) (told : Bool) (a0 b0 : zd_D) (f : zF) (n : Nat) (nu : Nat → Nat) (T : Nat) (a b : zd_D) : Prop :=
  zKa c0 a0 a ∧ zKb told b0 b ∧ zME b f n ∧ zQ c0 a b f T ∧
  (a.1 c0 0 = 1 ∧ a.1 c0 2 = nI T ∧ b.1 101 1 = nI T ∧ a.1 c0 6 = b.1 101 5 ∧ ∃ tt, tt ≤ 300 * T ∧ a.1 c0 1 = nI tt ∧ b.1 101 0 = nI tt) ∧
  (told = true → ∀ i, i < T → a.1 (c0 + 2) i = b.1 103 i ∧ a.1 (c0 + 3) i = b.1 104 i) ∧ zTk c0 f n nu T a b
/-- what holds at a run's end -/
def zEn (c0 : Nat) (told : Bool) (a0 b0 a b : zd_D) : Prop :=
  zKa c0 a0 a ∧ zKb told b0 b ∧ a.1 c0 0 = 1 ∧ (∃ T, T ≤ 600 ∧ a.1 c0 2 = nI T ∧ b.1 101 1 = nI T ∧ (told = true → ∀ i, i < T → a.1 (c0 + 2) i = b.1 103 i ∧ a.1 (c0 + 3) i = b.1 104 i)) ∧ (∃ tt, tt ≤ 200000 ∧ a.1 c0 1 = nI tt ∧ b.1 101 0 = nI tt) ∧ a.1 c0 3 = b.1 101 2 ∧ a.1 c0 4 = b.1 101 3 ∧ a.1 c0 5 = b.1 101 4 ∧ a.1 c0 6 = b.1 101 5 ∧ (∀ r, r < 4 → a.1 (c0 + 1) r = b.1 101 (6 + r)) ∧ (a.1 c0 7 = b.1 101 10 ∧ (b.1 101 10 = 0 ∨ b.1 101 10 = 1)) ∧ a.1 c0 8 = b.1 101 11 ∧ a.1 c0 9 = b.1 101 12
section ZWalk
variable {nl : Int32} {a a' a'' a0 b b' b'' b0 : zd_D} {f : zF} {n w : Nat} {nu : Nat → Nat} {c0 T : Nat} {told : Bool}
theorem z_stat (h0 : zR0 a0 b0 f n nu w) (ka : ∀ c, c ≤ 34 → a.1 c = a0.1 c) (kb : b.1 92 = b0.1 92) : zV 92 b f ∧ zAo 3 a f n ∧ zAe 3 a f n ∧ (∀ i, i < 8 → a.1 2 i = f i) ∧ a.1 1 4 = b.1 92 9 ∧ zAN 3 a nu f n ∧ ∀ e, e < zs_B f n n → b.1 92 (200 + e) = nI (nu e) ∧ nu e ≤ 10 := by
  refine ⟨fun i q1 q2 q3 => by rw [kb]; exact h0.V i q1 q2 q3, h0.P.1.c (fun k q1 q2 => ka k (by omega)), h0.P.2.1.c (ka _ (by omega)) (ka _ (by omega)) (ka _ (by omega)) (ka _ (by omega)), fun i hi => by rw [ka 2 (by omega)]; exact h0.P.2.2 i hi, by rw [ka 1 (by omega), kb]; exact h0.1.L.1, h0.N.c (ka _ (by omega)), fun e he => ?_⟩
  rw [kb]
  exact ⟨(h0.MN e he).1, (h0.MN e he).2.1⟩
theorem zKa.up (hc : c0 = 45 ∨ c0 = 49) (h : zKa c0 a0 a) (k : ∀ c, ¬ (38 ≤ c ∧ c ≤ 44) → ¬ (c0 ≤ c ∧ c ≤ c0 + 3) → a'.1 c = a.1 c) (k2 : a'.2 = a.2) : zKa c0 a0 a' := ⟨fun c q1 q2 => (k c q1 q2).trans (h.1 c q1 q2), k2.trans h.2⟩
theorem zQ.fr (hc : c0 = 45 ∨ c0 = 49) {T' : Nat} (h : zQ c0 a b f T) (hT : T ≤ T') (ka : ∀ c, (39 ≤ c ∧ c ≤ 43 ∨ c = c0 + 1) → a'.1 c = a.1 c) (k4 : a'.1 38 4 = a.1 38 4) (k3 : ∀ i, 3 ≤ i ∧ i ≤ 5 → a'.1 c0 i = a.1 c0 i) (kb : ∀ c, (105 ≤ c ∧ c ≤ 106 ∨ 108 ≤ c ∧ c ≤ 112) → b'.1 c = b.1 c) (m31 : b'.1 91 31 = b.1 91 31) (m2 : ∀ i, 2 ≤ i ∧ i ≤ 4 → b'.1 101 i = b.1 101 i) : zQ c0 a' b' f T' := by
  obtain ⟨h1, h2, ⟨W, w1, w2, w3⟩, h4, h5, h6, h7⟩ := h
  refine ⟨fun r hr => ?_, fun i hi => ?_, ⟨W, w1, by rw [k4]; exact w2, fun k hk => ?_⟩, h4.c hT (ka _ (by omega)) (ka _ (by omega)) (ka _ (by omega)) (ka _ (by omega)) m31 (kb _ (by omega)) (kb _ (by omega)) (kb _ (by omega)) (kb _ (by omega)), ?_, ?_, ?_⟩
  · rw [ka _ (by omega), kb _ (by omega)]; exact h1 r hr
  · rw [ka _ (by omega), kb _ (by omega)]; exact h2 i hi
  · rw [kb _ (by omega)]; exact w3 k hk
  · rw [k3 _ (by omega), m2 _ (by omega)]; exact h5
  · rw [k3 _ (by omega), m2 _ (by omega)]; exact h6
  · rw [k3 _ (by omega), m2 _ (by omega)]; exact h7
/-- the end -/
theorem z_fin (hc : c0 = 45 ∨ c0 = 49) (h0 : zR0 a0 b0 f n nu w) (h : zU c0 told a0 b0 f n nu T a b) (hT : T ≤ 600) (x y : Int32) : ∃ b', zm 223 169 [z_r 91, none, none, none, none, none, z_i 0, none] [] (zd_u (zd_u (zd_u b 101 12 y) 101 11 x) 101 10 1) = some (none, b') ∧ zEn c0 told a0 b0 (zd_u (zd_u a c0 8 x) c0 9 y) b' := by
  obtain ⟨ka, kb, hM, hQ, ⟨s0, s2, m1, s6, tt, t1, t2, t3⟩, hst, tk, k1, k7⟩ := h
  obtain ⟨hV, hAo, hAe, h2, hlk, hN, hNm⟩ := z_stat (a := a) (b := b) h0 (fun c q => ka.1 c (by omega) (by omega)) (kb.1 92 (by omega) (by omega) (by omega))
  have cel : ∀ c, ¬ c = 101 → (zd_u (zd_u (zd_u b 101 12 y) 101 11 x) 101 10 1).1 c = b.1 c := fun c q => by rw [zb_uc _ _ _ _ q, zb_uc _ _ _ _ q, zb_uc _ _ _ _ q]
  have fld : ∀ i, i < 10 → (zd_u (zd_u (zd_u b 101 12 y) 101 11 x) 101 10 1).1 101 i = b.1 101 i := fun i q => by rw [zb_ui _ _ _ _ (by omega), zb_ui _ _ _ _ (by omega), zb_ui _ _ _ _ (by omega)]
  obtain ⟨b', e1, e2, e3, e4, e5⟩ := rm_end (b := zd_u (zd_u (zd_u b 101 12 y) 101 11 x) 101 10 1) (T := T) (tk := tk) (nu := nu) h0.W (by
    unfold zME
    rw [cel 91 (by decide), cel 98 (by decide), cel 99 (by decide), cel 100 (by decide)]
    exact hM) (fun e he => by rw [cel 92 (by decide)]; exact hNm e he) (fun e he => by rw [cel 107 (by decide)]; exact ⟨(k1 e he).1, (k1 e he).2.1⟩) (by omega) (zb_ue _ _ _ _)
  have cb : ∀ c, ¬ c = 101 → b'.1 c = b.1 c := fun c q => (e2 c q).trans (cel c q)
  have fb : ∀ i, i < 6 → b'.1 101 i = b.1 101 i := fun i q => (e3 i (by omega)).trans (fld i (by omega))
  have fa : ∀ i, i < 8 → (zd_u (zd_u a c0 8 x) c0 9 y).1 c0 i = a.1 c0 i := fun i q => by rw [zb_ui _ _ _ _ (by omega), zb_ui _ _ _ _ (by omega)]
  have ca : ∀ c, ¬ c = c0 → (zd_u (zd_u a c0 8 x) c0 9 y).1 c = a.1 c := fun c q => by rw [zb_uc _ _ _ _ q, zb_uc _ _ _ _ q]
  refine ⟨b', e1, ka.up hc (fun c q1 q2 => ca c (by omega)) rfl, ⟨fun c q1 q2 q3 => by rw [cb c (by omega)]; exact kb.1 c q1 q2 q3, fun q => by rw [cb 103 (by decide), cb 104 (by decide)]; exact kb.2.1 q, fun i q1 q2 q3 => by rw [cb 91 (by decide)]; exact kb.2.2 i q1 q2 q3⟩, by rw [fa 0 (by omega)]; exact s0, ⟨T, hT, by rw [fa 2 (by omega)]; exact s2, by rw [fb 1 (by omega)]; exact m1, fun q i hi => ?_⟩, ⟨tt, by omega, by rw [fa 1 (by omega)]; exact t2, by rw [fb 0 (by omega)]; exact t3⟩, ?_, ?_, ?_, ?_, fun r hr => ?_, ⟨?_, ?_⟩, ?_, ?_⟩
  · rw [ca _ (by omega), ca _ (by omega), cb 103 (by decide), cb 104 (by decide)]; exact hst q i hi
  · rw [fa 3 (by omega), fb 2 (by omega)]; exact hQ.2.2.2.2.1
  · rw [fa 4 (by omega), fb 3 (by omega)]; exact hQ.2.2.2.2.2.1
  · rw [fa 5 (by omega), fb 4 (by omega)]; exact hQ.2.2.2.2.2.2
  · rw [fa 6 (by omega), fb 5 (by omega)]; exact s6
  · rw [ca _ (by omega), e4 r hr, cel 105 (by decide)]; exact hQ.1 r hr
  · rw [fa 7 (by omega), e5]; exact k7
  · rw [e5]
    split
    · exact Or.inl rfl
    · exact Or.inr rfl
  · rw [zb_ui _ _ _ _ (by decide), zb_ue, e3 11 (by omega), zb_ui _ _ _ _ (by decide), zb_ue]
  · rw [zb_ue, e3 12 (by omega), zb_ui _ _ _ _ (by decide), zb_ui _ _ _ _ (by decide), zb_ue]
/-- the class's ticks of an order, and its step -/
theorem rx_tick {k nx tt sp : Nat} {x3 : Int32} {sta : Bool} (hc : c0 = 45 ∨ c0 = 49) (hW : zW f n) (hP : zAo 3 a f n) (h2 : ∀ i, i < 8 → a.1 2 i = f i) (hk : k < n) (hnx : nx ≤ 28) (hT : T < 600) (hx : (x3 < 0 ∧ sta = false) ∨ ∃ j, j < n ∧ x3 = nI j ∧ sta = zs_sta f j k) {sl : Nat} (hsl : f 6 = nI sl) (s2 : a.1 c0 2 = nI T) (s1 : a.1 c0 1 = nI tt) (s6 : a.1 38 6 = nI sp) : ∃ A, zx nl 77 48 [z_r 38, none, z_r c0, z_i x3, z_i (nI k), z_i (nI T), none] [(.inl (nI nx))] a = ((zx nl 94 0 [z_r 38, z_i (nI k), z_i (nI (min nx n)), z_r c0, none] [] A).bind fun q => zx nl 77 101 [z_r 38, none, z_r c0, z_i x3, z_i (nI k), z_i (nI T), z_i (nI (min nx n))] (q.1.toList ++ []) q.2) ∧ (∀ c, ¬ c = 38 → ¬ c = c0 → ¬ c = c0 + 2 → ¬ c = c0 + 3 → A.1 c = a.1 c) ∧ A.2 = a.2 ∧ A.1 38 4 = a.1 38 4 ∧ (∀ i, ¬ i = 1 → ¬ i = 2 → ¬ i = 6 → A.1 c0 i = a.1 c0 i) ∧ A.1 c0 1 = nI (tt + (sp + if sta = true then sl else 0)) ∧ A.1 c0 2 = nI (T + 1) ∧ A.1 c0 6 = a.1 c0 6 + (if sta = true then 1 else 0) ∧ (∀ i, A.1 (c0 + 2) i = if i = T then nI k else a.1 (c0 + 2) i) ∧ ∀ i, A.1 (c0 + 3) i = if i = T then nI (tt + (sp + if sta = true then sl else 0)) else a.1 (c0 + 3) i := by
  have hn := hW.le
  have p0 : a.1 3 0 = nI n := hP.1
  have q6 : a.1 2 6 = nI sl := (h2 6 (by omega)).trans hsl
  have hmin : (if nI n < nI nx then nI n else nI nx) = nI (min nx n) := by
    by_cases c : n < nx
    · rw [if_pos (nI_lt c (by omega)), show min nx n = n by omega]
    · rw [if_neg (nI_nlt (by omega) (by omega)), show min nx n = nx by omega]
  have iT : mx_in (nI T) 600 = true := zb_in hT (by omega)
  have cT : (nI T).toNatClampNeg = T := nI_clamp (by omega)
  have plain : ∀ X, X = ((zx nl 94 0 [z_r 38, z_i (nI k), z_i (nI (min nx n)), z_r c0, none] [] (zd_u (zd_u (zd_u (zd_u a c0 1 (nI (tt + sp))) (c0 + 2) T (nI k)) (c0 + 3) T (nI (tt + sp))) c0 2 (nI (T + 1)))).bind fun q => zx nl 77 101 [z_r 38, none, z_r c0, z_i x3, z_i (nI k), z_i (nI T), z_i (nI (min nx n))] (q.1.toList ++ []) q.2) → sta = false → ∃ A, X = ((zx nl 94 0 [z_r 38, z_i (nI k), z_i (nI (min nx n)), z_r c0, none] [] A).bind fun q => zx nl 77 101 [z_r 38, none, z_r c0, z_i x3, z_i (nI k), z_i (nI T), z_i (nI (min nx n))] (q.1.toList ++ []) q.2) ∧ (∀ c, ¬ c = 38 → ¬ c = c0 → ¬ c = c0 + 2 → ¬ c = c0 + 3 → A.1 c = a.1 c) ∧ A.2 = a.2 ∧ A.1 38 4 = a.1 38 4 ∧ (∀ i, ¬ i = 1 → ¬ i = 2 → ¬ i = 6 → A.1 c0 i = a.1 c0 i) ∧ A.1 c0 1 = nI (tt + (sp + if sta = true then sl else 0)) ∧ A.1 c0 2 = nI (T + 1) ∧ A.1 c0 6 = a.1 c0 6 + (if sta = true then 1 else 0) ∧ (∀ i, A.1 (c0 + 2) i = if i = T then nI k else a.1 (c0 + 2) i) ∧ ∀ i, A.1 (c0 + 3) i = if i = T then nI (tt + (sp + if sta = true then sl else 0)) else a.1 (c0 + 3) i := by
    intro X hX hs
    rw [hs]
    refine ⟨_, hX, fun c c1 c2 c3 c4 => by rw [zb_uc _ _ _ _ c2, zb_uc _ _ _ _ c4, zb_uc _ _ _ _ c3, zb_uc _ _ _ _ c2], rfl, by rw [zb_uc _ _ _ _ (by omega), zb_uc _ _ _ _ (by omega), zb_uc _ _ _ _ (by omega), zb_uc _ _ _ _ (by omega)], fun i i1 i2 i6 => by rw [zb_ui _ _ _ _ i2, zb_uc _ _ _ _ (by omega), zb_uc _ _ _ _ (by omega), zb_ui _ _ _ _ i1], ?_, zb_ue _ _ _ _, ?_, fun i => ?_, fun i => ?_⟩
    · rw [zb_ui _ _ _ _ (by decide), zb_uc _ _ _ _ (by omega), zb_uc _ _ _ _ (by omega), zb_ue]; rfl
    · rw [zb_ui _ _ _ _ (by decide), zb_uc _ _ _ _ (by omega), zb_uc _ _ _ _ (by omega), zb_ui _ _ _ _ (by decide), if_neg (by decide), Int32.add_zero]
    · rw [zb_uc _ _ _ _ (by omega), zb_uc _ _ _ _ (by omega), zb_u, zb_uc _ _ _ _ (by omega)]
      simp only [true_and]
    · rw [zb_uc _ _ _ _ (by omega), zb_u, zb_uc _ _ _ _ (by omega), zb_uc _ _ _ _ (by omega)]
      simp only [true_and]; rfl
  rw [ex_77_48 c0 _ _ _ _ hc, if_neg (nI_pos (by omega)), p0, hmin, s2, s1, s6, iT, cT, nI_1]
  simp only [cond_true, nI_add]
  rcases hx with ⟨x1, x2⟩ | ⟨j, j1, j2, j3⟩
  · rw [if_pos x1]
    exact plain _ rfl x2
  · rw [if_neg (by rw [j2]; exact nI_pos (by omega)), j2, rx_stalls hW hP j1 hk, ← j3]
    simp only [Bool.false_eq_true, reduceCtorEq, Nat.not_lt_zero, cond_true, cond_false, ↓reduceIte, if_true, if_false, Option.toList_some, Option.toList_none, List.nil_append, List.cons_append, Option.bind_some]
    rw [ex_77_68 c0 _ _ _ _ _ hc, p0, hmin, s2, s1, s6, q6, iT, cT, nI_1]
    simp only [cond_true, nI_add]
    cases hs : sta with
    | false =>
      simp only [Bool.false_eq_true, reduceCtorEq, Nat.not_lt_zero, cond_true, cond_false, ↓reduceIte, if_true, if_false, Option.toList_some, Option.toList_none, List.nil_append, List.cons_append, Option.bind_some]
      have := plain _ rfl hs
      rw [hs, j2] at this
      exact this
    | true =>
      simp only [Bool.false_eq_true, reduceCtorEq, Nat.not_lt_zero, cond_true, cond_false, ↓reduceIte, if_true, if_false, Option.toList_some, Option.toList_none, List.nil_append, List.cons_append, Option.bind_some, show ¬ (1 : Int32) = 0 by decide]
      refine ⟨_, rfl, fun c c1 c2 c3 c4 => by rw [zb_uc _ _ _ _ c2, zb_uc _ _ _ _ c4, zb_uc _ _ _ _ c3, zb_uc _ _ _ _ c2, zb_uc _ _ _ _ c1, zb_uc _ _ _ _ c2], rfl, by rw [zb_uc _ _ _ _ (by omega), zb_uc _ _ _ _ (by omega), zb_uc _ _ _ _ (by omega), zb_uc _ _ _ _ (by omega), zb_ui _ _ _ _ (by decide), zb_uc _ _ _ _ (by omega)], fun i i1 i2 i6 => by rw [zb_ui _ _ _ _ i2, zb_uc _ _ _ _ (by omega), zb_uc _ _ _ _ (by omega), zb_ui _ _ _ _ i1, zb_uc _ _ _ _ (by omega), zb_ui _ _ _ _ i6], ?_, zb_ue _ _ _ _, ?_, fun i => ?_, fun i => ?_⟩
      · rw [zb_ui _ _ _ _ (by decide), zb_uc _ _ _ _ (by omega), zb_uc _ _ _ _ (by omega), zb_ue]
      · rw [zb_ui _ _ _ _ (by decide), zb_uc _ _ _ _ (by omega), zb_uc _ _ _ _ (by omega), zb_ui _ _ _ _ (by decide), zb_uc _ _ _ _ (by omega), zb_ue]
      · rw [zb_uc _ _ _ _ (by omega), zb_uc _ _ _ _ (by omega), zb_u, zb_uc _ _ _ _ (by omega), zb_uc _ _ _ _ (by omega), zb_uc _ _ _ _ (by omega)]
        simp only [true_and]
      · rw [zb_uc _ _ _ _ (by omega), zb_u, zb_uc _ _ _ _ (by omega), zb_uc _ _ _ _ (by omega), zb_uc _ _ _ _ (by omega), zb_uc _ _ _ _ (by omega)]
        simp only [true_and]
end ZWalk
