/-! ===== a run: edges that are taken; the end ===== -/
def zs_over (f : zF) (n : Nat) (nu tk : Nat → Nat) : Bool := zs_any (fun e => zs_tn f n e && decide (0 < nu e ∧ nu e ≤ tk e)) (zs_B f n n)
section ZTake
variable {nl : Int32} {a a' a'' b b' b'' : zd_D} {f : zF} {n : Nat} {nu : Nat → Nat} {c0 T : Nat}
theorem z_edge {k t : Nat} (hW : zW f n) (hA : zAe 3 a f n) (hM : zME b f n) (hk : k < n) (ht : t ≤ n) (hl : zs_lead f n k t = true) : ∃ e, e < zs_B f n n ∧ (zs_E f n e).1 = k ∧ (zs_E f n e).2 = t ∧ zx nl 95 0 [z_r 3, z_i (nI k), z_i (nI t), none] [] a = some (some (.inl (nI e)), a) ∧ zm 235 0 [z_r 91, z_i (nI k), z_i (nI t), none] [] b = some (some (.inl (nI e)), b) := by
  have hn := hW.le
  have hB := zs_B812 (f := f) hn (Nat.le_refl n)
  have hB1 := zs_B812 (f := f) hn (show k + 1 ≤ n by omega)
  have hBn := zs_Bm (f := f) (n := n) (show k + 1 ≤ n by omega)
  obtain ⟨e, e1, e2, e3⟩ := zs_Eto hk ht hl
  obtain ⟨g1, g2, g3⟩ := hA
  obtain ⟨j1, j2, j3⟩ := hM
  have ne : ∀ i, zs_B f n k ≤ i → i < e → ¬ (zs_E f n i).2 = t := fun i h1 h2 h3 => by
    have := zs_Einj hk h1 (by omega) e1 e2 (h3.trans e3.symm)
    omega
  have key : ∀ m i, i + m = e → zs_B f n k ≤ i → zx nl 95 6 [z_r 3, z_i (nI k), z_i (nI t), z_i (nI i)] [] a = some (some (.inl (nI e)), a) ∧ zm 235 6 [z_r 91, none, z_i (nI t), z_i (nI i)] [] b = some (some (.inl (nI e)), b) := by
    intro m
    induction m with
    | zero =>
      intro i hi hb
      have : i = e := by omega
      subst this
      have w1 : a.1 12 i = nI (zs_E f n i).2 := (g3 i (by omega)).2
      have w2 : b.1 99 i = nI (zs_E f n i).2 := (j2 i (by omega)).2
      have w3 : a.1 10 (k + 1) = nI (zs_B f n (k + 1)) := g2 (k + 1) (by omega)
      rw [ex_95_6, em_235_6, nI_1, zb_in (show k + 1 < 29 by omega) (by omega), cond_true, nI_clamp (show k + 1 < 2 ^ 31 by omega), w3, if_pos (nI_lt e2 (by omega)), zb_in (show i < 812 by omega) (by omega), cond_true, nI_clamp (show i < 2 ^ 31 by omega), w1, e3, if_pos rfl, zb_in (show i < 820 by omega) (by omega), cond_true, w2, e3, if_pos rfl]
      exact ⟨rfl, rfl⟩
    | succ m ih =>
      intro i hi hb
      have w1 : a.1 12 i = nI (zs_E f n i).2 := (g3 i (by omega)).2
      have w2 : b.1 99 i = nI (zs_E f n i).2 := (j2 i (by omega)).2
      have w3 : a.1 10 (k + 1) = nI (zs_B f n (k + 1)) := g2 (k + 1) (by omega)
      have hE := (zs_Elt (f := f) (n := n) (e := i) (by omega)).2
      have hne := ne i hb (by omega)
      have hne' : ¬ nI (zs_E f n i).2 = nI t := fun w => hne ((nI_eq (by omega) (by omega)).mp w)
      rw [ex_95_6, em_235_6, nI_1, zb_in (show k + 1 < 29 by omega) (by omega), cond_true, nI_clamp (show k + 1 < 2 ^ 31 by omega), w3, if_pos (nI_lt (by omega) (by omega)), zb_in (show i < 812 by omega) (by omega), cond_true, nI_clamp (show i < 2 ^ 31 by omega), w1, if_neg hne', zb_in (show i < 820 by omega) (by omega), cond_true, w2, if_neg hne', nI_1]
      exact ih (i + 1) (by omega) (by omega)
  have b0 : a.1 10 k = nI (zs_B f n k) := g2 k (by omega)
  have b1 : b.1 100 k = nI (zs_B f n k) := j3 k (by omega)
  obtain ⟨q1, q2⟩ := key (e - zs_B f n k) (zs_B f n k) (by omega) (Nat.le_refl _)
  refine ⟨e, by omega, (zs_Ein hk e1 e2).1, e3, ?_, ?_⟩
  · rw [ex_95_0, zb_in (show k < 29 by omega) (by omega), cond_true, nI_clamp (show k < 2 ^ 31 by omega), b0]; exact q1
  · rw [em_235_0, zb_in (show k < 30 by omega) (by omega), cond_true, nI_clamp (show k < 2 ^ 31 by omega), b1]; exact q2
theorem zs_over_step {tk : Nat → Nat} {e : Nat} (he : e < zs_B f n n) : zs_over f n nu (fun i => if i = e then tk e + 1 else tk i) = (zs_over f n nu tk || (zs_tn f n e && decide (0 < nu e ∧ nu e ≤ tk e + 1))) := by
  unfold zs_over
  rw [Bool.eq_iff_iff, Bool.or_eq_true, zs_any_iff, zs_any_iff]
  constructor
  · rintro ⟨j, hj, q⟩
    by_cases c : j = e
    · subst c
      simp only [if_true] at q
      exact Or.inr q
    · simp only [c, if_false] at q
      exact Or.inl ⟨j, hj, q⟩
  · rintro (⟨j, hj, q⟩ | q)
    · refine ⟨j, hj, ?_⟩
      by_cases c : j = e
      · subst c
        simp only [if_true]
        rw [Bool.and_eq_true, decide_eq_true_eq] at q ⊢
        exact ⟨q.1, q.2.1, by omega⟩
      · simp only [c, if_false]; exact q
    · exact ⟨e, he, by simp only [if_true]; exact q⟩
/-- the class counts a turn -/
theorem rx_take {k t e : Nat} {tk : Nat → Nat} (hc : c0 = 45 ∨ c0 = 49) (hW : zW f n) (hN : zAN 3 a nu f n) (hk : k < n) (ht : t ≤ n) (he : e < zs_B f n n) (e1 : (zs_E f n e).1 = k) (e2 : (zs_E f n e).2 = t) (h95 : zx nl 95 0 [z_r 3, z_i (nI k), z_i (nI t), none] [] a = some (some (.inl (nI e)), a)) (htk : ∀ e, e < zs_B f n n → tk e ≤ T ∧ (zs_tn f n e = true → a.1 44 e = nI (tk e))) (hT : T < 900) (h7 : a.1 c0 7 = if zs_over f n nu tk = true then 0 else 1) : ∃ a', zx nl 94 0 [z_r 38, z_i (nI k), z_i (nI t), z_r c0, none] [] a = some (none, a') ∧ (∀ c, ¬ c = 44 → ¬ c = c0 → a'.1 c = a.1 c) ∧ (∀ i, ¬ i = 7 → a'.1 c0 i = a.1 c0 i) ∧ a'.2 = a.2 ∧ (∀ i, i < zs_B f n n → zs_tn f n i = true → a'.1 44 i = nI (if i = e then tk e + 1 else tk i)) ∧ a'.1 c0 7 = (if zs_over f n nu (fun i => if i = e then tk e + 1 else tk i) = true then 0 else 1) := by
  have hn := hW.le
  have hB := zs_B812 (f := f) hn (Nat.le_refl n)
  rw [ex_94_0 c0 _ _ hc, zs_over_step he]
  have htn : zs_tn f n e = decide (t ≤ k) := by unfold zs_tn; rw [e1, e2]
  by_cases c : k < t
  · rw [if_pos (nI_lt c (by omega))]
    have hf : zs_tn f n e = false := by rw [htn]; exact decide_eq_false (by omega)
    refine ⟨a, rfl, fun _ _ _ => rfl, fun _ _ => rfl, rfl, fun i hi hti => ?_, ?_⟩
    · rw [if_neg (fun w => by rw [w, hf] at hti; cases hti)]
      exact (htk i hi).2 hti
    · rw [hf, Bool.false_and, Bool.or_false]; exact h7
  · have htt : zs_tn f n e = true := by rw [htn]; exact decide_eq_true (by omega)
    rw [if_neg (nI_nlt (by omega) (by omega)), h95]
    simp only [Bool.false_eq_true, reduceCtorEq, Nat.not_lt_zero, cond_true, cond_false, ↓reduceIte, if_true, if_false, Option.toList_some, Option.toList_none, List.nil_append, List.cons_append, Option.bind_some]
    obtain ⟨t1, t2⟩ := htk e he
    have t2 := t2 htt
    obtain ⟨n1, n2, -⟩ := hN e he
    have n1 : a.1 13 e = zs_nb (nu e) := n1
    rw [ex_94_8 c0 _ _ _ hc, if_neg (nI_pos (by omega)), zb_in (show e < 812 by omega) (by omega), nI_clamp (show e < 2 ^ 31 by omega), zb_ue, t2, n1, nI_1]
    simp only [cond_true]
    have up44 : ∀ i, i < zs_B f n n → zs_tn f n i = true → (zd_u a 44 e (nI (tk e + 1))).1 44 i = nI (if i = e then tk e + 1 else tk i) := fun i hi hti => by
      rw [zb_u]
      by_cases q : i = e
      · rw [if_pos ⟨rfl, q⟩, if_pos q]
      · rw [if_neg (fun w => q w.2), if_neg q]; exact (htk i hi).2 hti
    rw [htt, Bool.true_and]
    have same : ∀ d : Bool, d = false → ∃ a', (some (none, zd_u a 44 e (nI (tk e + 1))) : Option (Option mx_V × zd_D)) = some (none, a') ∧ (∀ c, ¬ c = 44 → ¬ c = c0 → a'.1 c = a.1 c) ∧ (∀ i, ¬ i = 7 → a'.1 c0 i = a.1 c0 i) ∧ a'.2 = a.2 ∧ (∀ i, i < zs_B f n n → zs_tn f n i = true → a'.1 44 i = nI (if i = e then tk e + 1 else tk i)) ∧ a'.1 c0 7 = (if (zs_over f n nu tk || d) = true then 0 else 1) := by
      intro d hd
      refine ⟨_, rfl, fun c c1 c2 => zb_uc _ _ _ _ c1, fun i hi => by rw [zb_uc _ _ _ _ (by omega)], rfl, up44, ?_⟩
      rw [zb_uc _ _ _ _ (by omega), hd, Bool.or_false]; exact h7
    by_cases z : nu e = 0
    · rw [if_pos (show zs_nb (nu e) = -1000000005 by unfold zs_nb; rw [if_pos z])]
      exact same _ (decide_eq_false (by omega))
    · have hnb : zs_nb (nu e) = nI (nu e - 1) := by unfold zs_nb; rw [if_neg z]
      rw [hnb, if_neg (show ¬ nI (nu e - 1) = -1000000005 from fun w => by
        have q := nI_pos (n := nu e - 1) (by omega)
        rw [w] at q
        exact q (by decide))]
      by_cases o : nu e ≤ tk e + 1
      · rw [if_pos (nI_lt (by omega) (by omega)), decide_eq_true (show 0 < nu e ∧ nu e ≤ tk e + 1 by omega), Bool.or_true]
        refine ⟨_, rfl, fun c c1 c2 => by rw [zb_uc _ _ _ _ c2, zb_uc _ _ _ _ c1], fun i hi => by rw [zb_ui _ _ _ _ hi, zb_uc _ _ _ _ (by omega)], rfl, fun i hi hti => by rw [zb_uc _ _ _ _ (by omega)]; exact up44 i hi hti, by rw [zb_ue]; rfl⟩
      · rw [if_neg (nI_nlt (by omega) (by omega))]
        exact same _ (decide_eq_false (by omega))
/-- the reference's end -/
theorem rm_end {tk : Nat → Nat} (hW : zW f n) (hM : zME b f n) (hN : ∀ e, e < zs_B f n n → b.1 92 (200 + e) = nI (nu e) ∧ nu e ≤ 10) (htk : ∀ e, e < zs_B f n n → tk e ≤ T ∧ b.1 107 e = nI (tk e)) (hT : T < 900) (h10 : b.1 101 10 = 1) : ∃ b', zm 223 169 [z_r 91, none, none, none, none, none, z_i 0, none] [] b = some (none, b') ∧ (∀ c, ¬ c = 101 → b'.1 c = b.1 c) ∧ (∀ i, ¬ (6 ≤ i ∧ i ≤ 10) → b'.1 101 i = b.1 101 i) ∧ (∀ r, r < 4 → b'.1 101 (6 + r) = b.1 105 r) ∧ b'.1 101 10 = if zs_over f n nu tk = true then 0 else 1 := by
  have hn := hW.le
  have hB := zs_B812 (f := f) hn (Nat.le_refl n)
  obtain ⟨b1, ⟨k1, k2, k3⟩, e1⟩ := zl_to (F := fun j d => zm 223 169 [z_r 91, none, none, none, none, none, z_i (nI j), none] [] d) (I := fun j d => (∀ c, ¬ c = 101 → d.1 c = b.1 c) ∧ (∀ i, ¬ (6 ≤ i ∧ i ≤ 9) → d.1 101 i = b.1 101 i) ∧ ∀ r, r < j → d.1 101 (6 + r) = b.1 105 r) (n := 4) (fun j d hj ⟨q1, q2, q3⟩ => by
    show ∃ d', _ ∧ zm 223 169 [z_r 91, none, none, none, none, none, z_i (nI j), none] [] d = zm 223 169 [z_r 91, none, none, none, none, none, z_i (nI (j + 1)), none] [] d'
    rw [em_223_169, if_pos (show nI j < 4 from nI_lt (b := 4) (by omega) (by omega)), zb_in hj (by omega), zb_la, zb_in (show OfNat.ofNat 6 + j < 13 from (by show 6 + j < 13; omega)) (by omega), cond_true, cond_true, nI_clamp (show j < 2 ^ 31 by omega), nI_clamp (show OfNat.ofNat 6 + j < 2 ^ 31 from (by show 6 + j < 2 ^ 31; omega)), nI_1]
    refine ⟨_, ⟨fun c hc => by rw [zb_uc _ _ _ _ hc]; exact q1 c hc, fun i hi => ?_, fun r hr => ?_⟩, rfl⟩
    · rw [zb_ui _ _ _ _ (show i ≠ 6 + j by omega)]; exact q2 i hi
    · by_cases e : r = j
      · subst e
        rw [show (6 + r) = OfNat.ofNat 6 + r from rfl, zb_ue, q1 105 (by decide)]
      · rw [zb_ui _ _ _ _ (show 6 + r ≠ 6 + j by omega)]; exact q3 r (by omega)) 0 b (by omega) ⟨fun _ _ => rfl, fun _ _ => rfl, fun r hr => absurd hr (Nat.not_lt_zero r)⟩
  have e1 : zm 223 169 [z_r 91, none, none, none, none, none, z_i 0, none] [] b = zm 223 169 [z_r 91, none, none, none, none, none, z_i (nI 4), none] [] b1 := e1
  rw [e1, em_223_169, if_neg (show ¬ nI 4 < 4 by decide)]
  obtain ⟨j1, j2, j3⟩ := hM
  obtain ⟨b2, ⟨m1, m2, m3⟩, e2⟩ := zl_to (F := fun j d => zm 223 187 [z_r 91, none, none, none, none, none, z_i (nI j), none] [] d) (I := fun j d => (∀ c, ¬ c = 101 → d.1 c = b.1 c) ∧ (∀ i, ¬ i = 10 → d.1 101 i = b1.1 101 i) ∧ d.1 101 10 = if zs_any (fun e => zs_tn f n e && decide (0 < nu e ∧ nu e ≤ tk e)) j = true then 0 else 1) (n := zs_B f n n) (fun j d hj ⟨q1, q2, q3⟩ => by
    show ∃ d', _ ∧ zm 223 187 [z_r 91, none, none, none, none, none, z_i (nI j), none] [] d = zm 223 187 [z_r 91, none, none, none, none, none, z_i (nI (j + 1)), none] [] d'
    have hE := zs_Elt (f := f) (n := n) (e := j) (by omega)
    have w98 : d.1 98 j = nI (zs_E f n j).1 := by rw [q1 98 (by decide)]; exact (j2 j hj).1
    have w99 : d.1 99 j = nI (zs_E f n j).2 := by rw [q1 99 (by decide)]; exact (j2 j hj).2
    have w92 : d.1 92 (200 + j) = nI (nu j) := by rw [q1 92 (by decide)]; exact (hN j hj).1
    have w107 : d.1 107 j = nI (tk j) := by rw [q1 107 (by decide)]; exact (htk j hj).2
    have hnu := (hN j hj).2
    have htj := (htk j hj).1
    have i200 : mx_in (200 + nI j) 1020 = true := by rw [zb_la]; exact zb_in (by show 200 + j < 1020; omega) (by omega)
    have n200 : (200 + nI j).toNatClampNeg = 200 + j := by rw [zb_la]; exact nI_clamp (by show 200 + j < 2 ^ 31; omega)
    have w15 : d.1 91 15 = nI (zs_B f n n) := by rw [q1 91 (by decide)]; exact j1
    rw [em_223_187, w15, if_pos (nI_lt hj (by omega)), zb_in (show j < 820 by omega) (by omega), nI_clamp (show j < 2 ^ 31 by omega), w98, w99, i200, n200, w92, w107, nI_1, zd_same]
    simp only [cond_true]
    have stay : (zs_tn f n j && decide (0 < nu j ∧ nu j ≤ tk j)) = false → ∃ d', ((∀ c, ¬ c = 101 → d'.1 c = b.1 c) ∧ (∀ i, ¬ i = 10 → d'.1 101 i = b1.1 101 i) ∧ d'.1 101 10 = if zs_any (fun e => zs_tn f n e && decide (0 < nu e ∧ nu e ≤ tk e)) (j + 1) = true then 0 else 1) ∧ zm 223 187 [z_r 91, none, none, none, none, none, z_i (nI (j + 1)), none] [] d = zm 223 187 [z_r 91, none, none, none, none, none, z_i (nI (j + 1)), none] [] d' := fun h => by
      refine ⟨d, ⟨q1, q2, ?_⟩, rfl⟩
      rw [show zs_any (fun e => zs_tn f n e && decide (0 < nu e ∧ nu e ≤ tk e)) (j + 1) = (zs_any (fun e => zs_tn f n e && decide (0 < nu e ∧ nu e ≤ tk e)) j || (zs_tn f n j && decide (0 < nu j ∧ nu j ≤ tk j))) from rfl, h, Bool.or_false]
      exact q3
    by_cases c1 : (zs_E f n j).1 < (zs_E f n j).2
    · rw [if_pos (nI_lt c1 (by omega))]
      refine stay ?_
      rw [show zs_tn f n j = false from decide_eq_false (by omega)]; rfl
    · rw [if_neg (nI_nlt (by omega) (by omega))]
      by_cases c2 : nu j = 0
      · rw [if_pos ((zb_m1lt (by omega)).mpr c2)]
        refine stay ?_
        rw [decide_eq_false (show ¬ (0 < nu j ∧ nu j ≤ tk j) by omega), Bool.and_false]
      · rw [if_neg (fun w => c2 ((zb_m1lt (by omega)).mp w))]
        by_cases c3 : nu j ≤ tk j
        · rw [if_pos ((zb_pl (by omega) (by omega)).mpr (by omega))]
          refine ⟨_, ⟨fun c hc => by rw [zb_uc _ _ _ _ hc]; exact q1 c hc, fun i hi => by rw [zb_ui _ _ _ _ hi]; exact q2 i hi, ?_⟩, rfl⟩
          rw [zb_ue, show zs_any (fun e => zs_tn f n e && decide (0 < nu e ∧ nu e ≤ tk e)) (j + 1) = (zs_any (fun e => zs_tn f n e && decide (0 < nu e ∧ nu e ≤ tk e)) j || (zs_tn f n j && decide (0 < nu j ∧ nu j ≤ tk j))) from rfl, show zs_tn f n j = true from decide_eq_true (by omega), decide_eq_true (show 0 < nu j ∧ nu j ≤ tk j by omega), Bool.and_self, Bool.or_true]
          rfl
        · rw [if_neg (show ¬ nI (nu j) - 1 < nI (tk j) from fun w => by have := (zb_pl (by omega) (by omega)).mp w; omega)]
          refine stay ?_
          rw [decide_eq_false (show ¬ (0 < nu j ∧ nu j ≤ tk j) by omega), Bool.and_false]) 0 b1 (Nat.zero_le _) ⟨k1, fun _ _ => rfl, by rw [k2 10 (by omega)]; exact h10⟩
  have e2 : zm 223 187 [z_r 91, none, none, none, none, none, z_i 0, none] [] b1 = zm 223 187 [z_r 91, none, none, none, none, none, z_i (nI (zs_B f n n)), none] [] b2 := e2
  rw [e2, em_223_187, m1 91 (by decide), j1, if_neg (nI_nlt (Nat.le_refl _) (by omega))]
  refine ⟨b2, rfl, m1, fun i hi => ?_, fun r hr => ?_, m3⟩
  · rw [m2 i (by omega)]; exact k2 i (by omega)
  · rw [m2 _ (by omega)]; exact k3 r hr
end ZTake
