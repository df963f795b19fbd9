/-! ===== one order of a run: branches and long orders ===== -/
section ZBranch
variable {nl : Int32} {a a' a'' b b' b'' : zd_D} {f : zF} {n : Nat} {nu : Nat → Nat} {c0 T : Nat}
theorem zQ.br (hc : c0 = 45 ∨ c0 = 49) (h : zQ c0 a b f T) (kx : ∀ c, ¬ c = 38 → ¬ c = c0 → a'.1 c = a.1 c) (k3 : a'.1 c0 3 = a.1 c0 3) (k4 : a'.1 c0 4 = a.1 c0 4) {W' : Nat} (hW' : W' < 2 ^ 28) (kw : a'.1 38 4 = nI W') (km : ∀ c, ¬ c = 91 → ¬ c = 101 → ¬ c = 112 → b'.1 c = b.1 c) (m31 : b'.1 91 31 = b.1 91 31) (m2 : b'.1 101 2 = b.1 101 2) (m3 : b'.1 101 3 = b.1 101 3) (hw : ∀ j, j < 28 → (W'.testBit j = true ↔ b'.1 112 j = 2)) (h5 : a'.1 c0 5 = b'.1 101 4) : zQ c0 a' b' f T := by
  obtain ⟨h1, h2, -, h4, q5, q6, -⟩ := h
  refine ⟨fun r hr => ?_, fun i hi => ?_, ⟨W', hW', kw, hw⟩, h4.c (Nat.le_refl _) (kx _ (by omega) (by omega)) (kx _ (by omega) (by omega)) (kx _ (by omega) (by omega)) (kx _ (by omega) (by omega)) m31 (km _ (by omega) (by omega) (by omega)) (km _ (by omega) (by omega) (by omega)) (km _ (by omega) (by omega) (by omega)) (km _ (by omega) (by omega) (by omega)), ?_, ?_, h5⟩
  · rw [kx _ (by omega) (by omega), km _ (by omega) (by omega) (by omega)]; exact h1 r hr
  · rw [kx _ (by omega) (by omega), km _ (by omega) (by omega) (by omega)]; exact h2 i hi
  · rw [k3, m2]; exact q5
  · rw [k4, m3]; exact q6
theorem zb_won {W k : Nat} (hk : k < 28) : nI W ||| ((1 : Int32) <<< (nI k &&& 31)) = nI (W ||| 2 ^ k) := by
  rw [zb_1s (by omega), zb_or]
theorem zb_woff {W k : Nat} (hk : k < 28) : nI W &&& (((1 : Int32) <<< (nI k &&& 31)) ^^^ (-1)) = nI (if W.testBit k = true then W ^^^ 2 ^ k else W) := by
  have hm : ((1 : Int32) <<< (nI k &&& 31)).toBitVec = BitVec.twoPow 32 k := by
    rw [zb_1s (by omega)]
    apply BitVec.eq_of_getLsbD_eq
    intro i hi
    show (BitVec.ofNat 32 (2 ^ k)).getLsbD i = _
    rw [BitVec.getLsbD_ofNat, BitVec.getLsbD_twoPow, Nat.testBit_two_pow, decide_eq_true hi, decide_eq_true (show k < 32 by omega)]
  have hbit : (nI W).toBitVec.getLsbD k = W.testBit k := by
    show (BitVec.ofNat 32 W).getLsbD k = _
    rw [BitVec.getLsbD_ofNat]
    simp [show k < 32 by omega]
  obtain ⟨B1, B2⟩ := zb_bits (x := nI W) (show k < 32 by omega) hm
  cases ht : W.testBit k with
  | true => rw [(B1 (by rw [hbit]; exact ht)).2, if_pos rfl, zb_1s (by omega), zb_xor]
  | false => rw [(B2 (by rw [hbit]; exact ht)).2, if_neg (by decide)]
theorem z_branch {k : Nat} (hc : c0 = 45 ∨ c0 = 49) (hW : zW f n) (hV : zV 92 b f) (hP : zAo 3 a f n) (h2 : ∀ i, i < 8 → a.1 2 i = f i) (hQ : zQ c0 a b f T) (hk : k < n) (hkd : f (12 + 4 * k) = 3) (h6 : a.1 38 6 = 1) : ∃ nx mo a' b', zx nl 88 0 [z_r 38, z_i (nI k), z_r c0, none, none, none] [] a = some (some (.inl (nI nx)), a') ∧ zm 232 0 [z_r 91, z_i (nI k), none, none] [] b = some (some (.inl (nI mo)), b') ∧ (nx ≤ 28 ∧ mo ≤ 150) ∧ b'.1 91 33 = nI nx ∧ a'.1 38 6 = nI (1 + mo) ∧ zKp c0 a a' ∧ zKq b b' ∧ zQ c0 a' b' f T ∧ zs_lead f n k (min nx n) = true := by
  have hn := hW.le
  obtain ⟨p4, p5, p6, p7, -⟩ := hP.p hk
  have hgg := (hW.2.2.2 k hk).1
  obtain ⟨rb, hrb, eb⟩ := hgg.bb
  obtain ⟨⟨ra, ha, ea⟩, -⟩ := hgg
  obtain ⟨wr, hwr, ewr⟩ := hW.2.2.1.2.2.2.1
  obtain ⟨g, hg3, eg⟩ : ∃ g, (g = 0 ∨ g = 1 ∨ g = 2) ∧ f 5 = nI g := by
    rcases hW.2.2.1.2.2.2.2.1 with q | q | q
    · exact ⟨0, Or.inl rfl, q⟩
    · exact ⟨1, Or.inr (Or.inl rfl), q⟩
    · exact ⟨2, Or.inr (Or.inr rfl), q⟩
  have q4 : a.1 2 4 = nI wr := (h2 4 (by omega)).trans ewr
  have q5 : a.1 2 5 = nI g := (h2 5 (by omega)).trans eg
  have v4 : b.1 92 4 = nI wr := (hV 4 (by omega) (by omega) (by omega)).trans ewr
  have v5 : b.1 92 5 = nI g := (hV 5 (by omega) (by omega) (by omega)).trans eg
  have rg : a.1 (c0 + 1) ra = b.1 105 ra := hQ.1 ra ha
  obtain ⟨W, w1, w2, w3⟩ := hQ.2.2.1
  have hbit : ((nI W >>> (nI k &&& 31)) &&& 1 = 1) ↔ b.1 112 k = 2 := (zb_bit1 (by omega) (by omega)).trans (w3 k (by omega))
  have lead1 : zs_lead f n k (min rb n) = true := by
    unfold zs_lead
    rw [if_pos hkd, eb, nI_clamp (by omega)]
    exact decide_eq_true (Or.inl rfl)
  have lead2 : zs_lead f n k (min (k + 1) n) = true := zs_lead_next hk (by rw [hkd]; decide) (by rw [hkd]; decide)
  have h5 := hQ.2.2.2.2.2.2
  have e112 : ∀ (y : Int32) (W' : Nat), (∀ j, j < 28 → (W'.testBit j = true ↔ (if j = k then y else b.1 112 j) = 2)) → ∀ j, j < 28 → (W'.testBit j = true ↔ (zd_u b 112 k y).1 112 j = 2) := by
    intro y W' h j hj
    rw [zb_u, h j hj]
    by_cases e : j = k
    · rw [if_pos e, if_pos ⟨rfl, e⟩]
    · rw [if_neg e, if_neg (fun w => e w.2)]
  have on : ∀ j, j < 28 → ((W ||| 2 ^ k).testBit j = true ↔ (if j = k then (2 : Int32) else b.1 112 j) = 2) := by
    intro j hj
    rw [Nat.testBit_or, Nat.testBit_two_pow, Bool.or_eq_true, decide_eq_true_eq, w3 j hj]
    by_cases e : j = k
    · rw [if_pos e]; exact ⟨fun _ => rfl, fun _ => Or.inr e.symm⟩
    · rw [if_neg e]
      exact ⟨fun w => w.resolve_right (fun q => e q.symm), fun w => Or.inl w⟩
  have off : ∀ j, j < 28 → ((if W.testBit k = true then W ^^^ 2 ^ k else W).testBit j = true ↔ (if j = k then (1 : Int32) else b.1 112 j) = 2) := by
    intro j hj
    by_cases e : j = k
    · subst e
      rw [if_pos rfl]
      refine ⟨fun w => ?_, fun w => absurd w (by decide)⟩
      exfalso
      cases ht : W.testBit j with
      | true => rw [ht, if_pos rfl, Nat.testBit_xor, ht, Nat.testBit_two_pow, decide_eq_true rfl] at w; cases w
      | false => rw [ht, if_neg (by decide), ht] at w; cases w
    · rw [if_neg e, ← w3 j hj]
      split
      · rw [Nat.testBit_xor, Nat.testBit_two_pow, decide_eq_false (fun q => e q.symm), Bool.xor_false]
      · exact Iff.rfl
  have on28 : W ||| 2 ^ k < 2 ^ 28 := Nat.or_lt_two_pow (n := 28) w1 (Nat.pow_lt_pow_right (by omega) (by omega))
  have off28 : (if W.testBit k = true then W ^^^ 2 ^ k else W) < 2 ^ 28 := by
    split
    · exact Nat.xor_lt_two_pow (n := 28) w1 (Nat.pow_lt_pow_right (by omega) (by omega))
    · exact w1
  have right : ∀ (X Y : Option (Option mx_V × zd_D)) (nx W' : Nat) (y : Int32), nx ≤ 28 → zs_lead f n k (min nx n) = true → W' < 2 ^ 28 → (∀ j, j < 28 → (W'.testBit j = true ↔ (if j = k then y else b.1 112 j) = 2)) → X = some (some (.inl (nI nx)), zd_u a 38 4 (nI W')) → Y = some (some (.inl 0), zd_u (zd_u b 112 k y) 91 33 (nI nx)) → ∃ nx mo a' b', X = some (some (.inl (nI nx)), a') ∧ Y = some (some (.inl (nI mo)), b') ∧ (nx ≤ 28 ∧ mo ≤ 150) ∧ b'.1 91 33 = nI nx ∧ a'.1 38 6 = nI (1 + mo) ∧ zKp c0 a a' ∧ zKq b b' ∧ zQ c0 a' b' f T ∧ zs_lead f n k (min nx n) = true := by
    intro X Y nx W' y hnx hld hW' hwb hX hY
    refine ⟨nx, 0, _, _, hX, hY, ⟨hnx, by omega⟩, zb_ue _ _ _ _, ?_, zKp.rf.u hc _ (by omega), (zKq.rf.u _ (by omega)).u _ (by omega), hQ.br hc (fun c c1 c2 => zb_uc _ _ _ _ c1) ?_ ?_ hW' (zb_ue _ _ _ _) (fun c c1 c2 c3 => by rw [zb_uc _ _ _ _ c1, zb_uc _ _ _ _ c3]) ?_ ?_ ?_ (fun j hj => ?_) ?_, hld⟩
    · rw [zb_ui _ _ _ _ (by decide)]; exact h6
    · rw [zb_uc _ _ _ _ (by omega)]
    · rw [zb_uc _ _ _ _ (by omega)]
    · rw [zb_ui _ _ _ _ (by decide), zb_uc _ _ _ _ (by decide)]
    · rw [zb_uc _ _ _ _ (by decide), zb_uc _ _ _ _ (by decide)]
    · rw [zb_uc _ _ _ _ (by decide), zb_uc _ _ _ _ (by decide)]
    · rw [zb_uc _ _ _ _ (by decide)]; exact e112 y W' hwb j hj
    · rw [zb_uc _ _ _ _ (by omega), zb_uc _ _ _ _ (by decide), zb_uc _ _ _ _ (by decide)]; exact h5
  have wrong : ∀ (X Y : Option (Option mx_V × zd_D)) (nx W' : Nat) (y : Int32), nx ≤ 28 → zs_lead f n k (min nx n) = true → W' < 2 ^ 28 → (∀ j, j < 28 → (W'.testBit j = true ↔ (if j = k then y else b.1 112 j) = 2)) → X = some (some (.inl (nI nx)), zd_u (zd_u (zd_u a c0 5 (a.1 c0 5 + 1)) 38 6 (1 + nI wr)) 38 4 (nI W')) → Y = some (some (.inl (nI wr)), zd_u (zd_u (zd_u b 112 k y) 91 33 (nI nx)) 101 4 (b.1 101 4 + 1)) → ∃ nx mo a' b', X = some (some (.inl (nI nx)), a') ∧ Y = some (some (.inl (nI mo)), b') ∧ (nx ≤ 28 ∧ mo ≤ 150) ∧ b'.1 91 33 = nI nx ∧ a'.1 38 6 = nI (1 + mo) ∧ zKp c0 a a' ∧ zKq b b' ∧ zQ c0 a' b' f T ∧ zs_lead f n k (min nx n) = true := by
    intro X Y nx W' y hnx hld hW' hwb hX hY
    refine ⟨nx, wr, _, _, hX, hY, ⟨hnx, by omega⟩, ?_, ?_, ((zKp.rf.u hc _ (by omega)).u hc _ (by omega)).u hc _ (by omega), ((zKq.rf.u _ (by omega)).u _ (by omega)).u _ (by omega), hQ.br hc (fun c c1 c2 => by rw [zb_uc _ _ _ _ c1, zb_uc _ _ _ _ c1, zb_uc _ _ _ _ c2]) ?_ ?_ hW' (zb_ue _ _ _ _) (fun c c1 c2 c3 => by rw [zb_uc _ _ _ _ c2, zb_uc _ _ _ _ c1, zb_uc _ _ _ _ c3]) ?_ ?_ ?_ (fun j hj => ?_) ?_, hld⟩
    · rw [zb_uc _ _ _ _ (by decide), zb_ue]
    · rw [zb_ui _ _ _ _ (by decide), zb_ue]; exact zb_la 1 wr
    · rw [zb_uc _ _ _ _ (by omega), zb_uc _ _ _ _ (by omega), zb_ui _ _ _ _ (by decide)]
    · rw [zb_uc _ _ _ _ (by omega), zb_uc _ _ _ _ (by omega), zb_ui _ _ _ _ (by decide)]
    · rw [zb_uc _ _ _ _ (by decide), zb_ui _ _ _ _ (by decide), zb_uc _ _ _ _ (by decide)]
    · rw [zb_ui _ _ _ _ (by decide), zb_uc _ _ _ _ (by decide), zb_uc _ _ _ _ (by decide)]
    · rw [zb_ui _ _ _ _ (by decide), zb_uc _ _ _ _ (by decide), zb_uc _ _ _ _ (by decide)]
    · rw [zb_uc _ _ _ _ (by decide), zb_uc _ _ _ _ (by decide)]; exact e112 y W' hwb j hj
    · rw [zb_uc _ _ _ _ (by omega), zb_uc _ _ _ _ (by omega), zb_ue, zb_ue, h5]
  rw [ex_88_0 c0 _ hc, em_232_0]
  have hon : nI W ||| nI (2 ^ k) = nI (W ||| 2 ^ k) := zb_or _ _
  have i1 : mx_in (nI k) 28 = true := zb_in (by omega) (by omega)
  have i2 : mx_in (nI ra) 4 = true := zb_in (by omega) (by omega)
  have kc : (nI k).toNatClampNeg = k := nI_clamp (by omega)
  have rc : (nI ra).toNatClampNeg = ra := nI_clamp (by omega)
  have m1 : mx_in (12 + 4 * nI k + 1) 1020 = true := by rw [zb_lm, zb_la, nI_1]; exact zb_in (by show 12 + 4 * k + 1 < 1020; omega) (by omega)
  have m2 : mx_in (12 + 4 * nI k + 2) 1020 = true := by rw [zb_lm, zb_la, zb_al]; exact zb_in (by show 12 + 4 * k + 2 < 1020; omega) (by omega)
  have m3 : mx_in (12 + 4 * nI k + 3) 1020 = true := by rw [zb_lm, zb_la, zb_al]; exact zb_in (by show 12 + 4 * k + 3 < 1020; omega) (by omega)
  have n1 : (12 + 4 * nI k + 1).toNatClampNeg = 12 + 4 * k + 1 := by rw [zb_lm, zb_la, nI_1]; exact nI_clamp (by show 12 + 4 * k + 1 < 2 ^ 31; omega)
  have n2 : (12 + 4 * nI k + 2).toNatClampNeg = 12 + 4 * k + 2 := by rw [zb_lm, zb_la, zb_al]; exact nI_clamp (by show 12 + 4 * k + 2 < 2 ^ 31; omega)
  have n3 : (12 + 4 * nI k + 3).toNatClampNeg = 12 + 4 * k + 3 := by rw [zb_lm, zb_la, zb_al]; exact nI_clamp (by show 12 + 4 * k + 3 < 2 ^ 31; omega)
  simp only [i1, i2, kc, rc, m1, m2, m3, n1, n2, n3, p5, p6, p7, ea, eb, rg, q4, q5, v4, v5, w2, h6, hV.o1 hW hk, hV.o2 hW hk, hV.o3 hW hk, cond_true, zb_won (W := W) (show k < 28 by omega), zb_woff (W := W) (show k < 28 by omega), nI_1, hbit]
  by_cases go : b.1 105 ra < f (15 + 4 * k)
  · simp only [go, if_true]
    rcases hg3 with rfl | rfl | rfl
    · simp only [show ¬ nI 0 = 1 by decide, show ¬ nI 0 = 2 by decide, if_false]
      exact wrong _ _ rb _ 2 hrb lead1 on28 on rfl rfl
    · simp only [show nI 1 = 1 from rfl, if_true]
      exact right _ _ rb _ 2 hrb lead1 on28 on rfl rfl
    · simp only [show ¬ nI 2 = 1 by decide, show nI 2 = 2 from rfl, if_true, if_false]
      by_cases c : b.1 112 k = 2
      · simp only [c, if_true]
        exact right _ _ rb _ 2 hrb lead1 on28 on rfl rfl
      · simp only [c, if_false]
        exact wrong _ _ rb _ 2 hrb lead1 on28 on rfl rfl
  · simp only [go, if_false]
    rcases hg3 with rfl | rfl | rfl
    · simp only [show ¬ nI 0 = 1 by decide, show ¬ nI 0 = 2 by decide, if_false]
      exact right _ _ (k + 1) _ 1 (by omega) lead2 off28 off rfl rfl
    · simp only [show nI 1 = 1 from rfl, if_true]
      exact wrong _ _ (k + 1) _ 1 (by omega) lead2 off28 off rfl rfl
    · simp only [show ¬ nI 2 = 1 by decide, show nI 2 = 2 from rfl, if_true, if_false]
      by_cases c : b.1 112 k = 2
      · simp only [c, if_true]
        exact wrong _ _ (k + 1) _ 1 (by omega) lead2 off28 off rfl rfl
      · simp only [c, if_false]
        exact right _ _ (k + 1) _ 1 (by omega) lead2 off28 off rfl rfl
end ZBranch
