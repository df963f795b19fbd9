/-! ===== a run: its beginning ===== -/
section ZBegin
variable {nl : Int32} {a a' a'' a0 b b' b'' b0 : zd_D} {f : zF} {n w : Nat} {nu : Nat → Nat} {c0 T : Nat} {told : Bool}
theorem zl_fill {F : Nat → zd_D → Option (Option mx_V × zd_D)} {c N : Nat} {v : Nat → Int32} {b : zd_D} (hstep : ∀ j d, j < N → (∀ k, ¬ k = c → d.1 k = b.1 k) → F j d = F (j + 1) (zd_u d c j (v j))) : ∃ d', F 0 b = F N d' ∧ (∀ k, ¬ k = c → d'.1 k = b.1 k) ∧ ∀ i, i < N → d'.1 c i = v i := by
  obtain ⟨d', ⟨k1, k2⟩, e⟩ := zl_to (F := F) (I := fun j d => (∀ k, ¬ k = c → d.1 k = b.1 k) ∧ ∀ i, i < j → d.1 c i = v i) (n := N) (fun j d hj ⟨q1, q2⟩ => by
    refine ⟨_, ⟨fun k hk => by rw [zb_uc _ _ _ _ hk]; exact q1 k hk, fun i hi => ?_⟩, hstep j d hj q1⟩
    by_cases e : i = j
    · subst e; rw [zb_ue]
    · rw [zb_ui _ _ _ _ e]; exact q2 i (by omega)) 0 b (Nat.zero_le _) ⟨fun _ _ => rfl, fun i hi => absurd hi (Nat.not_lt_zero i)⟩
  exact ⟨d', e, k1, k2⟩
theorem rm_begin (hW : zW f n) (hV : zV 92 b f) (x : Int32) : ∃ b1, zm 224 0 [z_r 91, z_i x, none] [] b = some (none, b1) ∧ zKb false b b1 ∧ zME b1 f n ∧ (∀ i, i < 13 → b1.1 101 i = 0) ∧ (∀ r, r < 4 → b1.1 105 r = if r = 0 then x else 0) ∧ (∀ i, i < 32 → b1.1 106 i = b.1 92 (152 + i)) ∧ (∀ i, i < 16 → b1.1 108 i = -1) ∧ (∀ i, i < 12 → b1.1 111 i = 0) ∧ (∀ i, i < 28 → b1.1 112 i = 0) ∧ (∀ e, e < zs_B f n n → b1.1 107 e = 0) ∧ b1.1 91 31 = 0 := by
  have hn := hW.le
  have hB := zs_B812 (f := f) hn (Nat.le_refl n)
  obtain ⟨d0, e0, k0, hM0⟩ := rm_edges hW hV
  have c0d : ∀ c, ¬ c = 91 → ¬ (98 ≤ c ∧ c ≤ 100) → d0.1 c = b.1 c := fun c q1 q2 => k0.1 c q1 (zK_el (by intro y hy; simp at hy; omega))
  have f0d : ∀ i, ¬ i = 15 → d0.1 91 i = b.1 91 i := fun i q => k0.2.1 i (zK_el (by intro y hy; simp at hy; omega))
  obtain ⟨d1, e1, k1, v1⟩ := zl_fill (F := fun j d => zm 224 5 [z_r 91, z_i x, z_i (nI j)] [] d) (c := 101) (N := 13) (v := fun _ => 0) (b := d0) (fun j d hj _ => by
    (try dsimp only)
    rw [em_224_5, if_pos (show nI j < 13 from nI_lt (b := 13) (by omega) (by omega)), zb_in hj (by omega), cond_true, nI_clamp (by omega), nI_1])
  obtain ⟨d2, e2, k2, v2⟩ := zl_fill (F := fun j d => zm 224 18 [z_r 91, z_i x, z_i (nI j)] [] d) (c := 105) (N := 4) (v := fun j => if j = 0 then x else 0) (b := d1) (fun j d hj _ => by
    (try dsimp only)
    rw [em_224_18, if_pos (show nI j < 4 from nI_lt (b := 4) (by omega) (by omega)), zb_in hj (by omega), cond_true, cond_true, nI_clamp (by omega), nI_1]
    by_cases c : j = 0
    · rw [if_pos (show nI j = 0 by rw [c]; rfl), if_pos c]
    · rw [if_neg (show ¬ nI j = 0 from nI_ne0 (by omega) (by omega)), if_neg c])
  have d2c : ∀ c, ¬ c = 91 → ¬ (98 ≤ c ∧ c ≤ 101) → ¬ c = 105 → d2.1 c = b.1 c := fun c q1 q2 q3 => by rw [k2 c q3, k1 c (by omega)]; exact c0d c q1 (by omega)
  obtain ⟨d3, e3, k3, v3⟩ := zl_fill (F := fun j d => zm 224 35 [z_r 91, none, z_i (nI j)] [] d) (c := 106) (N := 32) (v := fun j => b.1 92 (152 + j)) (b := d2) (fun j d hj hd => by
    (try dsimp only)
    rw [em_224_35, if_pos (show nI j < 32 from nI_lt (b := 32) (by omega) (by omega)), zb_la, zb_in (show OfNat.ofNat 152 + j < 1020 from (by show 152 + j < 1020; omega)) (by omega), zb_in hj (by omega), cond_true, cond_true, nI_clamp (show j < 2 ^ 31 by omega), nI_clamp (show OfNat.ofNat 152 + j < 2 ^ 31 from (by show 152 + j < 2 ^ 31; omega)), nI_1, hd 92 (by decide), d2c 92 (by omega) (by omega) (by omega)])
  obtain ⟨d4, e4, k4, v4⟩ := zl_fill (F := fun j d => zm 224 53 [z_r 91, none, z_i (nI j)] [] d) (c := 108) (N := 16) (v := fun _ => -1) (b := d3) (fun j d hj _ => by
    (try dsimp only)
    rw [em_224_53, if_pos (show nI j < 16 from nI_lt (b := 16) (by omega) (by omega)), zb_in hj (by omega), cond_true, nI_clamp (by omega), nI_1])
  obtain ⟨d5, e5, k5, v5⟩ := zl_fill (F := fun j d => zm 224 66 [z_r 91, none, z_i (nI j)] [] d) (c := 111) (N := 12) (v := fun _ => 0) (b := d4) (fun j d hj _ => by
    (try dsimp only)
    rw [em_224_66, if_pos (show nI j < 12 from nI_lt (b := 12) (by omega) (by omega)), zb_in hj (by omega), cond_true, nI_clamp (by omega), nI_1])
  obtain ⟨d6, e6, k6, v6⟩ := zl_fill (F := fun j d => zm 224 79 [z_r 91, none, z_i (nI j)] [] d) (c := 112) (N := 28) (v := fun _ => 0) (b := d5) (fun j d hj _ => by
    (try dsimp only)
    rw [em_224_79, if_pos (show nI j < 28 from nI_lt (b := 28) (by omega) (by omega)), zb_in hj (by omega), cond_true, nI_clamp (by omega), nI_1])
  have d6c : ∀ c, ¬ (101 ≤ c ∧ c ≤ 112) → d6.1 c = d0.1 c := fun c q => by rw [k6 c (by omega), k5 c (by omega), k4 c (by omega), k3 c (by omega), k2 c (by omega), k1 c (by omega)]
  have h15 : d6.1 91 15 = nI (zs_B f n n) := by rw [d6c 91 (by omega)]; exact hM0.1
  obtain ⟨d7, e7, k7, v7⟩ := zl_fill (F := fun j d => zm 224 92 [z_r 91, none, z_i (nI j)] [] d) (c := 107) (N := zs_B f n n) (v := fun _ => 0) (b := d6) (fun j d hj hd => by
    (try dsimp only)
    rw [em_224_92, hd 91 (by decide), h15, if_pos (nI_lt hj (by omega)), zb_in (show j < 820 by omega) (by omega), cond_true, nI_clamp (by omega), nI_1])
  have e1 : zm 224 5 [z_r 91, z_i x, z_i 0] [] d0 = zm 224 5 [z_r 91, z_i x, z_i (nI 13)] [] d1 := e1
  have e2 : zm 224 18 [z_r 91, z_i x, z_i 0] [] d1 = zm 224 18 [z_r 91, z_i x, z_i (nI 4)] [] d2 := e2
  have e3 : zm 224 35 [z_r 91, none, z_i 0] [] d2 = zm 224 35 [z_r 91, none, z_i (nI 32)] [] d3 := e3
  have e4 : zm 224 53 [z_r 91, none, z_i 0] [] d3 = zm 224 53 [z_r 91, none, z_i (nI 16)] [] d4 := e4
  have e5 : zm 224 66 [z_r 91, none, z_i 0] [] d4 = zm 224 66 [z_r 91, none, z_i (nI 12)] [] d5 := e5
  have e6 : zm 224 79 [z_r 91, none, z_i 0] [] d5 = zm 224 79 [z_r 91, none, z_i (nI 28)] [] d6 := e6
  have e7 : zm 224 92 [z_r 91, none, z_i 0] [] d6 = zm 224 92 [z_r 91, none, z_i (nI (zs_B f n n))] [] d7 := e7
  have hrun : zm 224 0 [z_r 91, z_i x, none] [] b = some (none, zd_u d7 91 31 0) := by
    rw [em_224_0, e0]
    simp only [Bool.false_eq_true, reduceCtorEq, Nat.not_lt_zero, cond_true, cond_false, ↓reduceIte, if_true, if_false, Option.toList_some, Option.toList_none, List.nil_append, List.cons_append, Option.bind_some]
    rw [em_224_2, e1, em_224_5, if_neg (show ¬ nI 13 < 13 by decide), e2, em_224_18, if_neg (show ¬ nI 4 < 4 by decide), e3, em_224_35, if_neg (show ¬ nI 32 < 32 by decide), e4, em_224_53, if_neg (show ¬ nI 16 < 16 by decide), e5, em_224_66, if_neg (show ¬ nI 12 < 12 by decide), e6, em_224_79, if_neg (show ¬ nI 28 < 28 by decide), e7, em_224_92, k7 91 (by decide), h15, if_neg (nI_nlt (Nat.le_refl _) (by omega))]
  have u : ∀ c, ¬ c = 91 → (zd_u d7 91 31 0).1 c = d7.1 c := fun c q => zb_uc _ _ _ _ q
  have d7c : ∀ c, ¬ (101 ≤ c ∧ c ≤ 112) → d7.1 c = d0.1 c := fun c q => by rw [k7 c (by omega)]; exact d6c c q
  refine ⟨_, hrun, ⟨fun c q1 q2 q3 => ?_, fun _ => ⟨?_, ?_⟩, fun i q1 q2 q3 => ?_⟩, ?_, fun i hi => ?_, fun r hr => ?_, fun i hi => ?_, fun i hi => ?_, fun i hi => ?_, fun i hi => ?_, fun e he => ?_, zb_ue _ _ _ _⟩
  · by_cases c102 : c = 102
    · subst c102
      rw [u 102 (by decide), k7 102 (by decide), k6 102 (by decide), k5 102 (by decide), k4 102 (by decide), k3 102 (by decide), k2 102 (by decide), k1 102 (by decide)]; exact c0d 102 (by omega) (by omega)
    · rw [u c q1, d7c c (by omega)]; exact c0d c q1 (by omega)
  · rw [u 103 (by decide), k7 103 (by decide), k6 103 (by decide), k5 103 (by decide), k4 103 (by decide), k3 103 (by decide), k2 103 (by decide), k1 103 (by decide)]; exact c0d 103 (by omega) (by omega)
  · rw [u 104 (by decide), k7 104 (by decide), k6 104 (by decide), k5 104 (by decide), k4 104 (by decide), k3 104 (by decide), k2 104 (by decide), k1 104 (by decide)]; exact c0d 104 (by omega) (by omega)
  · rw [zb_ui _ _ _ _ q2, d7c 91 (by omega)]; exact f0d i q1
  · unfold zME
    rw [zb_ui _ _ _ _ (by decide), u 98 (by decide), u 99 (by decide), u 100 (by decide), d7c 91 (by omega), d7c 98 (by omega), d7c 99 (by omega), d7c 100 (by omega)]
    exact hM0
  · rw [u 101 (by decide), k7 101 (by decide), k6 101 (by decide), k5 101 (by decide), k4 101 (by decide), k3 101 (by decide), k2 101 (by decide)]; exact v1 i hi
  · rw [u 105 (by decide), k7 105 (by decide), k6 105 (by decide), k5 105 (by decide), k4 105 (by decide), k3 105 (by decide)]; exact v2 r hr
  · rw [u 106 (by decide), k7 106 (by decide), k6 106 (by decide), k5 106 (by decide), k4 106 (by decide)]; exact v3 i hi
  · rw [u 108 (by decide), k7 108 (by decide), k6 108 (by decide), k5 108 (by decide)]; exact v4 i hi
  · rw [u 111 (by decide), k7 111 (by decide), k6 111 (by decide)]; exact v5 i hi
  · rw [u 112 (by decide), k7 112 (by decide)]; exact v6 i hi
  · rw [u 107 (by decide)]; exact v7 e he
theorem rx_begin (hc : c0 = 45 ∨ c0 = 49) (hW : zW f n) (h7 : a.1 3 7 = nI (zs_B f n n)) (h2 : ∀ i, i < 8 → a.1 2 i = f i) (x : Int32) : ∃ a1, zx nl 77 0 [z_r 38, z_i x, z_r c0, none, none, none, none] [] a = zx nl 77 36 [z_r 38, none, z_r c0, z_i (-1), z_i 0, z_i 0, none] [] a1 ∧ zKa c0 a a1 ∧ (∀ i, i < 3 → a1.1 39 i = f i) ∧ a1.1 39 3 = 0 ∧ (∀ i, i < 16 → a1.1 40 i = -1) ∧ (∀ i, i < 12 → a1.1 42 i = 0) ∧ (∀ i, i < 32 → a1.1 43 i = a.1 14 i) ∧ a1.1 38 4 = 0 ∧ (∀ e, e < zs_B f n n → a1.1 44 e = 0) ∧ a1.1 c0 0 = 1 ∧ (∀ i, 1 ≤ i → i ≤ 6 → a1.1 c0 i = 0) ∧ a1.1 c0 7 = 1 ∧ ∀ r, r < 4 → a1.1 (c0 + 1) r = if r = 0 then x else 0 := by
  have hn := hW.le
  have hB := zs_B812 (f := f) hn (Nat.le_refl n)
  generalize hd0 : zd_u (zd_u (zd_u (zd_u a 39 0 (a.1 2 0)) 39 1 (a.1 2 1)) 39 2 (a.1 2 2)) 39 3 0 = d0
  have c0' : ∀ c, ¬ c = 39 → d0.1 c = a.1 c := fun c q => by rw [← hd0, zb_uc _ _ _ _ q, zb_uc _ _ _ _ q, zb_uc _ _ _ _ q, zb_uc _ _ _ _ q]
  have g0 : d0.1 39 0 = f 0 := by rw [← hd0, zb_ui _ _ _ _ (by decide), zb_ui _ _ _ _ (by decide), zb_ui _ _ _ _ (by decide), zb_ue]; exact h2 0 (by omega)
  have g1 : d0.1 39 1 = f 1 := by rw [← hd0, zb_ui _ _ _ _ (by decide), zb_ui _ _ _ _ (by decide), zb_ue]; exact h2 1 (by omega)
  have g2 : d0.1 39 2 = f 2 := by rw [← hd0, zb_ui _ _ _ _ (by decide), zb_ue]; exact h2 2 (by omega)
  have g3 : d0.1 39 3 = 0 := by rw [← hd0, zb_ue]
  obtain ⟨d1, e1, k1, v1⟩ := rx_fill (nl := nl) (a := d0) (c0 := 40) (L := 16) (by omega) rfl (by omega) (-1)
  obtain ⟨d2, e2, k2, v2⟩ := rx_fill (nl := nl) (a := d1) (c0 := 42) (L := 12) (by omega) rfl (by omega) 0
  have kc : ∀ {c0 : Nat} {u v : zd_D}, zK 0 [c0] [] u v → ∀ c, ¬ c = c0 → v.1 c = u.1 c := fun {c0 u v} h c q => by
    by_cases z : c = 0
    · subst z; funext i; exact h.2.1 i rfl
    · exact h.1 c z (zK_el (by intro y hy; simp at hy; omega))
  generalize hd3 : zd_u (zd_s d2 43 (va_cpy (d2.1 14) (d2.1 43) 0 0 32)) 38 4 0 = d3
  have c3 : ∀ c, ¬ c = 38 → ¬ c = 43 → d3.1 c = d2.1 c := fun c q1 q2 => by rw [← hd3, zb_uc _ _ _ _ q1, zb_sc _ _ _ q2]
  obtain ⟨d4, e4, k4, v4, -⟩ := rx_fillr (nl := nl) (a := d3) (c0 := 44) (L := 812) (q := zs_B f n n) (by omega) rfl (by omega) hB 0
  generalize hd5 : zd_u (zd_u (zd_u (zd_u (zd_u (zd_u (zd_u (zd_u d4 c0 0 1) c0 1 0) c0 2 0) c0 3 0) c0 4 0) c0 5 0) c0 6 0) c0 7 1 = d5
  have c5 : ∀ c, ¬ c = c0 → d5.1 c = d4.1 c := fun c q => by rw [← hd5, zb_uc _ _ _ _ q, zb_uc _ _ _ _ q, zb_uc _ _ _ _ q, zb_uc _ _ _ _ q, zb_uc _ _ _ _ q, zb_uc _ _ _ _ q, zb_uc _ _ _ _ q, zb_uc _ _ _ _ q]
  obtain ⟨d6, e6, k6, v6⟩ := rx_fill (nl := nl) (a := d5) (c0 := c0 + 1) (L := 4) (by omega) (by rcases hc with rfl | rfl <;> rfl) (by omega) 0
  have p7 : d2.1 3 7 = nI (zs_B f n n) := by rw [kc k2 3 (by omega), kc k1 3 (by omega), c0' 3 (by omega)]; exact h7
  have all : ∀ c, ¬ (38 ≤ c ∧ c ≤ 44) → ¬ (c0 ≤ c ∧ c ≤ c0 + 1) → d6.1 c = a.1 c := fun c q1 q2 => by rw [kc k6 c (by omega), c5 c (by omega), kc k4 c (by omega), c3 c (by omega) (by omega), kc k2 c (by omega), kc k1 c (by omega)]; exact c0' c (by omega)
  have late : ∀ c, c ≤ 43 → d6.1 c = d3.1 c := fun c q => by rw [kc k6 c (by omega), c5 c (by omega), kc k4 c (by omega)]
  have u : ∀ c, ¬ c = c0 + 1 → (zd_u d6 (c0 + 1) 0 x).1 c = d6.1 c := fun c q => zb_uc _ _ _ _ q
  refine ⟨zd_u d6 (c0 + 1) 0 x, ?_, ⟨fun c q1 q2 => ?_, ?_⟩, fun i hi => ?_, ?_, fun i hi => ?_, fun i hi => ?_, fun i hi => ?_, ?_, fun e he => ?_, ?_, fun i i1 i6 => ?_, ?_, fun r hr => ?_⟩
  · rw [ex_77_0 c0 _ hc, ex_78_0, hd0, e1]
    simp only [Bool.false_eq_true, reduceCtorEq, Nat.not_lt_zero, cond_true, cond_false, ↓reduceIte, if_true, if_false, Option.toList_some, Option.toList_none, List.nil_append, List.cons_append, Option.bind_some]
    rw [ex_78_22, e2]
    simp only [Bool.false_eq_true, reduceCtorEq, Nat.not_lt_zero, cond_true, cond_false, ↓reduceIte, if_true, if_false, Option.toList_some, Option.toList_none, List.nil_append, List.cons_append, Option.bind_some]
    rw [ex_78_26]
    simp only [Bool.false_eq_true, reduceCtorEq, Nat.not_lt_zero, cond_true, cond_false, ↓reduceIte, if_true, if_false, Option.toList_some, Option.toList_none, List.nil_append, List.cons_append, Option.bind_some]
    rw [ex_77_6 c0 _ hc, hd3, p7, e4]
    simp only [Bool.false_eq_true, reduceCtorEq, Nat.not_lt_zero, cond_true, cond_false, ↓reduceIte, if_true, if_false, Option.toList_some, Option.toList_none, List.nil_append, List.cons_append, Option.bind_some]
    rw [ex_77_26 c0 _ hc, ex_79_0 c0 _ hc, hd5, e6]
    simp only [Bool.false_eq_true, reduceCtorEq, Nat.not_lt_zero, cond_true, cond_false, ↓reduceIte, if_true, if_false, Option.toList_some, Option.toList_none, List.nil_append, List.cons_append, Option.bind_some]
    rw [ex_79_28 c0 _ hc]
    simp only [Bool.false_eq_true, reduceCtorEq, Nat.not_lt_zero, cond_true, cond_false, ↓reduceIte, if_true, if_false, Option.toList_some, Option.toList_none, List.nil_append, List.cons_append, Option.bind_some]
    rw [ex_77_29 c0 _ hc]
  · rw [u c (by omega)]; exact all c q1 (by omega)
  · show d6.2 = a.2
    rw [k6.2.2, ← hd5]
    show d4.2 = a.2
    rw [k4.2.2, ← hd3]
    show d2.2 = a.2
    rw [k2.2.2, k1.2.2, ← hd0]
    rfl
  · rw [u 39 (by omega), late 39 (by omega), c3 39 (by omega) (by omega), kc k2 39 (by omega), kc k1 39 (by omega)]
    have : i = 0 ∨ i = 1 ∨ i = 2 := by omega
    rcases this with rfl | rfl | rfl
    · exact g0
    · exact g1
    · exact g2
  · rw [u 39 (by omega), late 39 (by omega), c3 39 (by omega) (by omega), kc k2 39 (by omega), kc k1 39 (by omega)]; exact g3
  · rw [u 40 (by omega), late 40 (by omega), c3 40 (by omega) (by omega), kc k2 40 (by omega)]; exact v1 i hi
  · rw [u 42 (by omega), late 42 (by omega), c3 42 (by omega) (by omega)]; exact v2 i hi
  · rw [u 43 (by omega), late 43 (by omega), ← hd3, zb_uc _ _ _ _ (by decide), zb_se, zb_cpy _ _ hi, kc k2 14 (by omega), kc k1 14 (by omega), c0' 14 (by omega)]
  · rw [u 38 (by omega), late 38 (by omega), ← hd3, zb_ue]
  · rw [u 44 (by omega), kc k6 44 (by omega), c5 44 (by omega)]; exact v4 e he
  · rw [u c0 (by omega), kc k6 c0 (by omega), ← hd5, zb_ui _ _ _ _ (by decide), zb_ui _ _ _ _ (by decide), zb_ui _ _ _ _ (by decide), zb_ui _ _ _ _ (by decide), zb_ui _ _ _ _ (by decide), zb_ui _ _ _ _ (by decide), zb_ui _ _ _ _ (by decide), zb_ue]
  · rw [u c0 (by omega), kc k6 c0 (by omega), ← hd5]
    have : i = 1 ∨ i = 2 ∨ i = 3 ∨ i = 4 ∨ i = 5 ∨ i = 6 := by omega
    rcases this with rfl | rfl | rfl | rfl | rfl | rfl
    · rw [zb_ui _ _ _ _ (by decide), zb_ui _ _ _ _ (by decide), zb_ui _ _ _ _ (by decide), zb_ui _ _ _ _ (by decide), zb_ui _ _ _ _ (by decide), zb_ui _ _ _ _ (by decide), zb_ue]
    · rw [zb_ui _ _ _ _ (by decide), zb_ui _ _ _ _ (by decide), zb_ui _ _ _ _ (by decide), zb_ui _ _ _ _ (by decide), zb_ui _ _ _ _ (by decide), zb_ue]
    · rw [zb_ui _ _ _ _ (by decide), zb_ui _ _ _ _ (by decide), zb_ui _ _ _ _ (by decide), zb_ui _ _ _ _ (by decide), zb_ue]
    · rw [zb_ui _ _ _ _ (by decide), zb_ui _ _ _ _ (by decide), zb_ui _ _ _ _ (by decide), zb_ue]
    · rw [zb_ui _ _ _ _ (by decide), zb_ui _ _ _ _ (by decide), zb_ue]
    · rw [zb_ui _ _ _ _ (by decide), zb_ue]
  · rw [u c0 (by omega), kc k6 c0 (by omega), ← hd5, zb_ue]
  · rw [zb_u]
    by_cases c : r = 0
    · rw [if_pos ⟨rfl, c⟩, if_pos c]
    · rw [if_neg (fun w => c w.2), if_neg c]; exact v6 r hr
end ZBegin
