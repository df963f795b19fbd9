/-! ===== one order of a run: all kinds ===== -/
section ZDoAll
variable {nl : Int32} {a a' a'' b b' b'' : zd_D} {f : zF} {n : Nat} {nu : Nat → Nat} {c0 T : Nat}
theorem zb_255v (x : Int32) : ∃ v, v < 256 ∧ x &&& 255 = nI v := by
  refine ⟨x.toBitVec.toNat % 256, Nat.mod_lt _ (by decide), ?_⟩
  apply Int32.toBitVec_inj.1
  show x.toBitVec &&& 255#32 = BitVec.ofNat 32 (x.toBitVec.toNat % 256)
  apply BitVec.eq_of_getLsbD_eq
  intro i hi
  rw [BitVec.getLsbD_and, zb_255 i hi, BitVec.getLsbD_ofNat, decide_eq_true hi, Bool.true_and, show 256 = 2 ^ 8 from rfl, Nat.testBit_mod_two_pow, BitVec.testBit_toNat, Bool.and_comm]
theorem z_long {k : Nat} (hc : c0 = 45 ∨ c0 = 49) (hW : zW f n) (hV : zV 92 b f) (hP : zAo 3 a f n) (h2 : ∀ i, i < 8 → a.1 2 i = f i) (hQ : zQ c0 a b f T) (hk : k < n) (hkd : f (12 + 4 * k) = 5 ∨ f (12 + 4 * k) = 6) (h6 : a.1 38 6 = 1) {ra rb rc : Nat} (ha : ra < 4) (ea : f (13 + 4 * k) = nI ra) (hb : rb < 4) (eb : f (14 + 4 * k) = nI rb) (hrc : rc < 4) (ec : f (15 + 4 * k) = nI rc) :
    ((f (12 + 4 * k) = 6 ∧ b.1 105 rc = 0) → ∃ a', zx nl 90 0 [z_r 38, z_i (nI k), z_r c0, none, none] [] a = some (some (.inl (-1)), a') ∧ zKp c0 a a' ∧ zQ c0 a' b f T) ∧
    (¬ (f (12 + 4 * k) = 6 ∧ b.1 105 rc = 0) → ∃ mo a' b', zx nl 90 0 [z_r 38, z_i (nI k), z_r c0, none, none] [] a = some (some (.inl (nI (k + 1))), a') ∧ ((zm 233 0 [z_i ((b.1 105 rc) &&& 255), none, none] [] b).bind fun q => zm 227 74 [z_r 91, z_i (nI k), z_i (nI ra), z_i (b.1 105 rc), none] (q.1.toList ++ [(.inl (b.1 92 7))]) q.2) = some (some (.inl (nI mo)), b') ∧ mo ≤ 150 ∧ a'.1 38 6 = nI (1 + mo) ∧ zKp c0 a a' ∧ zKq b b' ∧ zQ c0 a' b' f T ∧ b'.1 91 33 = b.1 91 33) := by
  have hn := hW.le
  obtain ⟨p4, p5, p6, p7, -⟩ := hP.p hk
  obtain ⟨lg, hlg, elg⟩ := hW.2.2.1.2.2.2.2.2.2
  have q7 : a.1 2 7 = nI lg := (h2 7 (by omega)).trans elg
  have v7 : b.1 92 7 = nI lg := (hV 7 (by omega) (by omega) (by omega)).trans elg
  have rgb : a.1 (c0 + 1) rb = b.1 105 rb := hQ.1 rb hb
  have rgc : a.1 (c0 + 1) rc = b.1 105 rc := hQ.1 rc hrc
  obtain ⟨v, hv, ev⟩ := zb_255v (b.1 105 rc)
  have hpop := zs_pop16 v
  have hmul : lg * zs_pop v ≤ 9 * 16 := Nat.mul_le_mul hlg hpop
  have i1 : mx_in (nI k) 28 = true := zb_in (by omega) (by omega)
  have i2 : mx_in (nI ra) 4 = true := zb_in (by omega) (by omega)
  have i3 : mx_in (nI rb) 4 = true := zb_in (by omega) (by omega)
  have i4 : mx_in (nI rc) 4 = true := zb_in (by omega) (by omega)
  have kc : (nI k).toNatClampNeg = k := nI_clamp (by omega)
  have ac : (nI ra).toNatClampNeg = ra := nI_clamp (by omega)
  have bc : (nI rb).toNatClampNeg = rb := nI_clamp (by omega)
  have cc : (nI rc).toNatClampNeg = rc := nI_clamp (by omega)
  have m0 : mx_in (12 + 4 * nI k) 1020 = true := by rw [zb_lm, zb_la]; exact zb_in (by show 12 + 4 * k < 1020; omega) (by omega)
  have m2 : mx_in (12 + 4 * nI k + 2) 1020 = true := by rw [zb_lm, zb_la, zb_al]; exact zb_in (by show 12 + 4 * k + 2 < 1020; omega) (by omega)
  have n0 : (12 + 4 * nI k).toNatClampNeg = 12 + 4 * k := by rw [zb_lm, zb_la]; exact nI_clamp (by show 12 + 4 * k < 2 ^ 31; omega)
  have n2 : (12 + 4 * nI k + 2).toNatClampNeg = 12 + 4 * k + 2 := by rw [zb_lm, zb_la, zb_al]; exact nI_clamp (by show 12 + 4 * k + 2 < 2 ^ 31; omega)
  have hcl : zx nl 90 0 [z_r 38, z_i (nI k), z_r c0, none, none] [] a = zx nl 90 30 [z_r 38, z_i (nI k), z_r c0, z_i (b.1 105 rb), z_i (b.1 105 rc)] [(.inl (nI (zs_pop v))), (.inl (nI lg)), (.inl 1), (.inr (.inr (some 38)))] a := by
    rw [ex_90_0 c0 _ hc]
    simp only [i1, i3, i4, kc, bc, cc, p6, p7, eb, ec, rgb, rgc, cond_true, ev, rx_bits (show v < 65536 by omega), q7, h6, Bool.false_eq_true, reduceCtorEq, Nat.not_lt_zero, cond_true, cond_false, ↓reduceIte, if_true, if_false, Option.toList_some, Option.toList_none, List.nil_append, List.cons_append, Option.bind_some]
  have hre : ((zm 233 0 [z_i ((b.1 105 rc) &&& 255), none, none] [] b).bind fun q => zm 227 74 [z_r 91, z_i (nI k), z_i (nI ra), z_i (b.1 105 rc), none] (q.1.toList ++ [(.inl (b.1 92 7))]) q.2) = zm 227 74 [z_r 91, z_i (nI k), z_i (nI ra), z_i (b.1 105 rc), none] [(.inl (nI (zs_pop v))), (.inl (nI lg))] b := by
    rw [ev, rm_bits (show v < 65536 by omega), v7]
    simp only [Bool.false_eq_true, reduceCtorEq, Nat.not_lt_zero, cond_true, cond_false, ↓reduceIte, if_true, if_false, Option.toList_some, Option.toList_none, List.nil_append, List.cons_append, Option.bind_some]
  rw [hcl, hre, ex_90_30 c0 _ _ _ _ _ _ hc, em_227_74]
  simp only [i1, i2, i3, kc, ac, bc, m0, m2, n0, n2, p4, p5, ea, eb, hV.o0 hW hk, hV.o2 hW hk, cond_true, zb_mul, nI_1]
  have sp : (1 : Int32) + nI (lg * zs_pop v) = nI (1 + lg * zs_pop v) := zb_la 1 _
  rcases hkd with kd | kd
  · simp only [kd, if_true]
    refine ⟨fun h => absurd h.1 (by decide), fun _ => ⟨lg * zs_pop v, _, _, rfl, rfl, by omega, ?_, (zKp.rf.u hc _ (by omega)).u hc _ (by omega), zKq.rf.u _ (by omega), (hQ.s6 hc _).reg hc _ _, ?_⟩⟩
    · rw [zb_uc _ _ _ _ (by omega), zb_ue, sp]
    · rw [zb_uc _ _ _ _ (by decide)]
  · simp only [kd, show ¬ (6 : Int32) = 5 by decide, if_false, true_and]
    by_cases c : b.1 105 rc = 0
    · simp only [c, if_true]
      exact ⟨fun _ => ⟨_, rfl, zKp.rf.u hc _ (by omega), hQ.s6 hc _⟩, fun h => absurd trivial h⟩
    · simp only [c, if_false]
      refine ⟨fun h => h.elim, fun _ => ⟨lg * zs_pop v + 2, _, _, rfl, congrArg (fun z : Int32 => (some (some (Sum.inl z), zd_u b 105 ra (b.1 105 rb / b.1 105 rc)) : Option (Option mx_V × zd_D))) (zb_al 2 (lg * zs_pop v)), by omega, ?_, ((zKp.rf.u hc _ (by omega)).u hc _ (by omega)).u hc _ (by omega), zKq.rf.u _ (by omega), ((hQ.s6 hc _).s6 hc _).reg hc _ _, ?_⟩⟩
      · rw [zb_uc _ _ _ _ (by omega), zb_ue, sp, zb_al]; rfl
      · rw [zb_uc _ _ _ _ (by decide)]
theorem z_do {k : Nat} (hc : c0 = 45 ∨ c0 = 49) (hW : zW f n) (hV : zV 92 b f) (hP : zAo 3 a f n) (h2 : ∀ i, i < 8 → a.1 2 i = f i) (hlk : a.1 1 4 = b.1 92 9) (hQ : zQ c0 a b f T) (hT : T < 900) (hk : k < n) :
    (zs_stop f k (b.1 105) = 0 ∧ ∃ nx mo a' b', zx nl 80 0 [z_r 38, z_i (nI k), z_r c0, none, none, none] [] a = some (some (.inl (nI nx)), a') ∧ zm 227 0 [z_r 91, z_i (nI k), none, none, none] [] b = some (some (.inl (nI mo)), b') ∧ (nx ≤ 28 ∧ mo ≤ 150) ∧ b'.1 91 33 = nI nx ∧ a'.1 38 6 = nI (1 + mo) ∧ zKp c0 a a' ∧ zKq b b' ∧ zQ c0 a' b' f (T + 1) ∧ zs_lead f n k (min nx n) = true) ∨
    ((1 ≤ zs_stop f k (b.1 105) ∧ zs_stop f k (b.1 105) ≤ 3) ∧ ∃ a', zx nl 80 0 [z_r 38, z_i (nI k), z_r c0, none, none, none] [] a = some (some (.inl (-nI (zs_stop f k (b.1 105)))), a') ∧ zKp c0 a a' ∧ zQ c0 a' b f T) := by
  have hn := hW.le
  obtain ⟨p4, p5, p6, p7, p8⟩ := hP.p hk
  obtain ⟨hg, p, hp, hpe⟩ := hW.2.2.2 k hk
  have hkn := hg.kinds
  obtain ⟨rb0, hb0, eb0⟩ := hg.bb
  obtain ⟨⟨ra, ha, ea⟩, hrest⟩ := hg
  have zero : f (12 + 4 * k) = 0 → ∃ r, r < 4 ∧ f (14 + 4 * k) = nI r := by
    intro h
    rcases hrest with ⟨_, q⟩ | ⟨q, _⟩ | ⟨q, _⟩ | ⟨q, _⟩ | ⟨q, _⟩
    · exact q
    · rw [h] at q; exact absurd q (by decide)
    · rw [h] at q; exact absurd q (by decide)
    · rw [h] at q; exact absurd q (by decide)
    · rw [h] at q; exact absurd q (by decide)
  have long : ∀ kd : Int32, (kd = 5 ∨ kd = 6) → f (12 + 4 * k) = kd → ∃ rb rc, rb < 4 ∧ f (14 + 4 * k) = nI rb ∧ rc < 4 ∧ f (15 + 4 * k) = nI rc := by
    intro kd hkd hkde
    rcases hrest with ⟨q, _⟩ | ⟨q, _⟩ | ⟨q, _⟩ | ⟨_, ⟨rb, q1, q2⟩, rc, q3, q4⟩ | ⟨q, _⟩
    · rw [hkde] at q; rcases hkd with r | r <;> rw [r] at q <;> exact absurd q (by decide)
    · rw [hkde] at q; rcases hkd with r | r <;> rw [r] at q <;> exact absurd q (by decide)
    · rw [hkde] at q; rcases hkd with r | r <;> rw [r] at q <;> exact absurd q (by decide)
    · exact ⟨rb, rc, q1, q2, q3, q4⟩
    · rw [hkde] at q; rcases hkd with r | r <;> rw [r] at q <;> exact absurd q (by decide)
  clear hrest
  -- the class's own beginning
  have hP0 : zAo 3 (zd_u a 38 6 1) f n := hP.c (fun c q1 q2 => zb_uc _ _ _ _ (by omega))
  have h20 : ∀ i, i < 8 → (zd_u a 38 6 1).1 2 i = f i := fun i hi => by rw [zb_uc _ _ _ _ (by omega)]; exact h2 i hi
  have hQ0 : zQ c0 (zd_u a 38 6 1) b f T := hQ.s6 hc 1
  have k0 : zKp c0 a (zd_u a 38 6 1) := zKp.rf.u hc _ (by omega)
  -- the reference's
  have hV1 : zV 92 (zd_u b 91 33 (nI (k + 1))) f := fun i q1 q2 q3 => by rw [zb_uc _ _ _ _ (by decide)]; exact hV i q1 q2 q3
  have hQ1 : zQ c0 (zd_u a 38 6 1) (zd_u b 91 33 (nI (k + 1))) f T := hQ0.n33 _
  have k1 : zKq b (zd_u b 91 33 (nI (k + 1))) := zKq.rf.u _ (by omega)
  have hlk1 : (zd_u a 38 6 1).1 1 4 = (zd_u b 91 33 (nI (k + 1))).1 92 9 := by rw [zb_uc _ _ _ _ (by omega), zb_uc _ _ _ _ (by omega)]; exact hlk
  have e105 : (zd_u b 91 33 (nI (k + 1))).1 105 = b.1 105 := zb_uc _ _ _ _ (by omega)
  have e33 : (zd_u b 91 33 (nI (k + 1))).1 91 33 = nI (k + 1) := zb_ue _ _ _ _
  have i1 : mx_in (nI k) 28 = true := zb_in (by omega) (by omega)
  have kc : (nI k).toNatClampNeg = k := nI_clamp (by omega)
  have i2 : mx_in (nI ra) 4 = true := zb_in (by omega) (by omega)
  have ac : (nI ra).toNatClampNeg = ra := nI_clamp (by omega)
  have m0 : mx_in (12 + 4 * nI k) 1020 = true := by rw [zb_lm, zb_la]; exact zb_in (by show 12 + 4 * k < 1020; omega) (by omega)
  have m1 : mx_in (12 + 4 * nI k + 1) 1020 = true := by rw [zb_lm, zb_la, nI_1]; exact zb_in (by show 12 + 4 * k + 1 < 1020; omega) (by omega)
  have m2 : mx_in (12 + 4 * nI k + 2) 1020 = true := by rw [zb_lm, zb_la, zb_al]; exact zb_in (by show 12 + 4 * k + 2 < 1020; omega) (by omega)
  have m3 : mx_in (12 + 4 * nI k + 3) 1020 = true := by rw [zb_lm, zb_la, zb_al]; exact zb_in (by show 12 + 4 * k + 3 < 1020; omega) (by omega)
  have n0 : (12 + 4 * nI k).toNatClampNeg = 12 + 4 * k := by rw [zb_lm, zb_la]; exact nI_clamp (by show 12 + 4 * k < 2 ^ 31; omega)
  have n1 : (12 + 4 * nI k + 1).toNatClampNeg = 12 + 4 * k + 1 := by rw [zb_lm, zb_la, nI_1]; exact nI_clamp (by show 12 + 4 * k + 1 < 2 ^ 31; omega)
  have n2 : (12 + 4 * nI k + 2).toNatClampNeg = 12 + 4 * k + 2 := by rw [zb_lm, zb_la, zb_al]; exact nI_clamp (by show 12 + 4 * k + 2 < 2 ^ 31; omega)
  have n3 : (12 + 4 * nI k + 3).toNatClampNeg = 12 + 4 * k + 3 := by rw [zb_lm, zb_la, zb_al]; exact nI_clamp (by show 12 + 4 * k + 3 < 2 ^ 31; omega)
  rw [ex_80_0 c0 _ hc, em_227_0]
  simp only [i1, i2, kc, ac, m0, m1, m2, m3, n0, n1, n2, n3, p4, p5, p6, p7, p8, ea, hV.o0 hW hk, hV.o1 hW hk, hV.o2 hW hk, hV.o3 hW hk, cond_true, nI_1]
  have load : ∀ kd : Int32, (kd = 1 ∨ kd = 2) → f (12 + 4 * k) = kd →
      (zs_stop f k (b.1 105) = 0 ∧ ∃ nx mo a' b', ((zx nl 81 0 [z_r 38, z_i (nI k), z_r c0, none, none, none, none] [] (zd_u a 38 6 1)).bind fun q => zx nl 80 28 [z_r 38, z_i (nI k), z_r c0, z_r (c0 + 1), z_i (nI ra), z_i (f (14 + 4 * k))] (q.1.toList ++ []) q.2) = some (some (.inl (nI nx)), a') ∧ ((zm 228 0 [z_r 91, z_i (nI k), none, none] [] (zd_u b 91 33 (nI (k + 1)))).bind fun q => zm 227 32 [z_r 91, z_i (nI k), z_i (nI ra), none, none] (q.1.toList ++ []) q.2) = some (some (.inl (nI mo)), b') ∧ (nx ≤ 28 ∧ mo ≤ 150) ∧ b'.1 91 33 = nI nx ∧ a'.1 38 6 = nI (1 + mo) ∧ zKp c0 a a' ∧ zKq b b' ∧ zQ c0 a' b' f (T + 1) ∧ zs_lead f n k (min nx n) = true) ∨
      ((1 ≤ zs_stop f k (b.1 105) ∧ zs_stop f k (b.1 105) ≤ 3) ∧ ∃ a', ((zx nl 81 0 [z_r 38, z_i (nI k), z_r c0, none, none, none, none] [] (zd_u a 38 6 1)).bind fun q => zx nl 80 28 [z_r 38, z_i (nI k), z_r c0, z_r (c0 + 1), z_i (nI ra), z_i (f (14 + 4 * k))] (q.1.toList ++ []) q.2) = some (some (.inl (-nI (zs_stop f k (b.1 105)))), a') ∧ zKp c0 a a' ∧ zQ c0 a' b f T) := by
    intro kd hkd hkde
    have hkd' : f (12 + 4 * k) = 1 ∨ f (12 + 4 * k) = 2 := by rw [hkde]; exact hkd
    obtain ⟨ld1, ld2⟩ := z_load (nl := nl) hc hW hV1 hP0 h20 hlk1 hQ1 hT hk hkd' (zb_ue _ _ _ _)
    rw [e105] at ld1 ld2
    have hst : zs_stop f k (b.1 105) = if zs_adr f k (b.1 105) < 0 ∨ 31 < zs_adr f k (b.1 105) then 2 else 0 := by
      unfold zs_stop
      rw [if_neg (by rcases hkd' with q | q <;> rw [q] <;> decide), if_pos hkd']
    by_cases c : zs_adr f k (b.1 105) < 0 ∨ 31 < zs_adr f k (b.1 105)
    · right
      rw [if_pos c] at hst
      rw [hst, ld1 c]
      simp only [Bool.false_eq_true, reduceCtorEq, Nat.not_lt_zero, cond_true, cond_false, ↓reduceIte, if_true, if_false, Option.toList_some, Option.toList_none, List.nil_append, List.cons_append, Option.bind_some]
      rw [ex_80_28 c0 _ _ _ _ hc]
      exact ⟨⟨by omega, by omega⟩, _, rfl, k0, hQ0⟩
    · left
      rw [if_neg c] at hst
      obtain ⟨mo, a', b', g1, g2, g3, g4, g5, g6, g7, g8⟩ := ld2 c
      rw [g1, g2]
      simp only [Bool.false_eq_true, reduceCtorEq, Nat.not_lt_zero, cond_true, cond_false, ↓reduceIte, if_true, if_false, Option.toList_some, Option.toList_none, List.nil_append, List.cons_append, Option.bind_some]
      rw [ex_80_28 c0 _ _ _ _ hc, em_227_32]
      exact ⟨hst, k + 1, mo, a', b', rfl, rfl, ⟨by omega, g3⟩, g8.trans e33, g4, k0.tr g5, k1.tr g6, g7, zs_lead_next hk (by rcases hkd' with q | q <;> rw [q] <;> decide) (by rcases hkd' with q | q <;> rw [q] <;> decide)⟩
  rcases hkn with h | h | h | h | h | h | h | h
  · -- 0
    left
    obtain ⟨rb, hb, eb⟩ := zero h
    have i3 : mx_in (nI rb) 4 = true := zb_in (by omega) (by omega)
    have bc : (nI rb).toNatClampNeg = rb := nI_clamp (by omega)
    have hst : zs_stop f k (b.1 105) = 0 := by unfold zs_stop; simp only [h]; rfl
    simp only [h, eb, i3, bc, cond_true, show ¬ (0 : Int32) = 1 by decide, show ¬ (0 : Int32) = 2 by decide, show ¬ (0 : Int32) = 3 by decide, show ¬ (0 : Int32) = 4 by decide, show ¬ (0 : Int32) = 5 by decide, show ¬ (0 : Int32) = 6 by decide, show ¬ (0 : Int32) = 7 by decide, if_true, if_false, hQ.1 rb hb]
    refine ⟨hst, k + 1, 0, _, _, rfl, rfl, ⟨by omega, by omega⟩, ?_, ?_, k0.u hc _ (by omega), k1.u _ (by omega), ((hQ1.reg hc _ _).mono (by omega)), zs_lead_next hk (by rw [h]; decide) (by rw [h]; decide)⟩
    · rw [zb_uc _ _ _ _ (by omega)]; exact e33
    · rw [zb_uc _ _ _ _ (by omega), zb_ue]; rfl
  · simp only [h, show ¬ (1 : Int32) = 0 by decide, if_true, if_false]
    exact load 1 (Or.inl rfl) h
  · simp only [h, show ¬ (2 : Int32) = 0 by decide, show ¬ (2 : Int32) = 1 by decide, if_true, if_false]
    exact load 2 (Or.inr rfl) h
  · -- 3
    left
    have hst : zs_stop f k (b.1 105) = 0 := by unfold zs_stop; simp only [h]; rfl
    simp only [h, show ¬ (3 : Int32) = 0 by decide, show ¬ (3 : Int32) = 1 by decide, show ¬ (3 : Int32) = 2 by decide, if_true, if_false]
    obtain ⟨nx, mo, a', b', g1, g2, g3, g4, g5, g6, g7, g8, g9⟩ := z_branch (nl := nl) hc hW hV1 hP0 h20 hQ1 hk h (zb_ue _ _ _ _)
    rw [g1, g2]
    simp only [Bool.false_eq_true, reduceCtorEq, Nat.not_lt_zero, cond_true, cond_false, ↓reduceIte, if_true, if_false, Option.toList_some, Option.toList_none, List.nil_append, List.cons_append, Option.bind_some]
    rw [ex_80_33 c0 _ _ _ _ hc, em_227_36]
    exact ⟨hst, nx, mo, a', b', rfl, rfl, g3, g4, g5, k0.tr g6, k1.tr g7, g8.mono (by omega), g9⟩
  · -- 4
    left
    have eb := eb0
    have hb := hb0
    have hst : zs_stop f k (b.1 105) = 0 := by unfold zs_stop; simp only [h]; rfl
    simp only [h, eb, show ¬ (4 : Int32) = 0 by decide, show ¬ (4 : Int32) = 1 by decide, show ¬ (4 : Int32) = 2 by decide, show ¬ (4 : Int32) = 3 by decide, if_true, if_false]
    refine ⟨hst, rb0, 1, _, _, rfl, rfl, ⟨hb, by omega⟩, zb_ue _ _ _ _, ?_, (k0.u hc _ (by omega)).u hc _ (by omega), (k1.u _ (by omega)).u _ (by omega), (((hQ1.s6 hc _).reg hc _ _).n33 _).mono (by omega), ?_⟩
    · rw [zb_uc _ _ _ _ (by omega), zb_ue]; rfl
    · unfold zs_lead
      rw [if_neg (by rw [h]; decide), if_pos h, eb, nI_clamp (by omega)]
      exact decide_eq_true rfl
  · -- 5
    obtain ⟨rb, rc, hb, eb, hrc, ec⟩ := long 5 (Or.inl rfl) h
    have i4 : mx_in (nI rc) 4 = true := zb_in (by omega) (by omega)
    have cc : (nI rc).toNatClampNeg = rc := nI_clamp (by omega)
    left
    have hst : zs_stop f k (b.1 105) = 0 := by unfold zs_stop; simp only [h]; rfl
    obtain ⟨-, lg2⟩ := z_long (nl := nl) hc hW hV1 hP0 h20 hQ1 hk (Or.inl h) (zb_ue _ _ _ _) ha ea hb eb hrc ec
    obtain ⟨mo, a', b', g1, g2, g3, g4, g5, g6, g7, g8⟩ := lg2 (fun w => absurd (h.symm.trans w.1) (by decide))
    rw [e105, zb_uc _ _ _ _ (show 92 ≠ 91 by decide)] at g2
    simp only [h, eb, ec, i4, cc, cond_true, show ¬ (5 : Int32) = 0 by decide, show ¬ (5 : Int32) = 1 by decide, show ¬ (5 : Int32) = 2 by decide, show ¬ (5 : Int32) = 3 by decide, show ¬ (5 : Int32) = 4 by decide, if_true, if_false]
    rw [g1, g2]
    simp only [Bool.false_eq_true, reduceCtorEq, Nat.not_lt_zero, cond_true, cond_false, ↓reduceIte, if_true, if_false, Option.toList_some, Option.toList_none, List.nil_append, List.cons_append, Option.bind_some]
    rw [ex_80_74 c0 _ _ _ _ hc]
    exact ⟨hst, k + 1, mo, a', b', rfl, rfl, ⟨by omega, g3⟩, g8.trans e33, g4, k0.tr g5, k1.tr g6, g7.mono (by omega), zs_lead_next hk (by rw [h]; decide) (by rw [h]; decide)⟩
  · -- 6
    obtain ⟨rb, rc, hb, eb, hrc, ec⟩ := long 6 (Or.inr rfl) h
    have i4 : mx_in (nI rc) 4 = true := zb_in (by omega) (by omega)
    have cc : (nI rc).toNatClampNeg = rc := nI_clamp (by omega)
    obtain ⟨lg1, lg2⟩ := z_long (nl := nl) hc hW hV1 hP0 h20 hQ1 hk (Or.inr h) (zb_ue _ _ _ _) ha ea hb eb hrc ec
    obtain ⟨lg0, -⟩ := z_long (nl := nl) hc hW hV hP0 h20 hQ0 hk (Or.inr h) (zb_ue _ _ _ _) ha ea hb eb hrc ec
    have hst : zs_stop f k (b.1 105) = if b.1 105 rc = 0 then 1 else 0 := by unfold zs_stop; rw [if_pos h, ec, cc]
    rw [e105] at lg2
    simp only [h, eb, ec, i4, cc, cond_true, show ¬ (6 : Int32) = 0 by decide, show ¬ (6 : Int32) = 1 by decide, show ¬ (6 : Int32) = 2 by decide, show ¬ (6 : Int32) = 3 by decide, show ¬ (6 : Int32) = 4 by decide, show ¬ (6 : Int32) = 5 by decide, if_true, if_false]
    by_cases c : b.1 105 rc = 0
    · right
      rw [if_pos c] at hst
      obtain ⟨a', g1, g2, g3⟩ := lg0 ⟨h, c⟩
      rw [hst, g1]
      simp only [Bool.false_eq_true, reduceCtorEq, Nat.not_lt_zero, cond_true, cond_false, ↓reduceIte, if_true, if_false, Option.toList_some, Option.toList_none, List.nil_append, List.cons_append, Option.bind_some]
      rw [ex_80_74 c0 _ _ _ _ hc]
      exact ⟨⟨by omega, by omega⟩, _, rfl, k0.tr g2, g3⟩
    · left
      rw [if_neg c] at hst
      obtain ⟨mo, a', b', g1, g2, g3, g4, g5, g6, g7, g8⟩ := lg2 (fun w => c w.2)
      rw [zb_uc _ _ _ _ (show 92 ≠ 91 by decide)] at g2
      rw [g1, g2]
      simp only [Bool.false_eq_true, reduceCtorEq, Nat.not_lt_zero, cond_true, cond_false, ↓reduceIte, if_true, if_false, Option.toList_some, Option.toList_none, List.nil_append, List.cons_append, Option.bind_some]
      rw [ex_80_74 c0 _ _ _ _ hc]
      exact ⟨hst, k + 1, mo, a', b', rfl, rfl, ⟨by omega, g3⟩, g8.trans e33, g4, k0.tr g5, k1.tr g6, g7.mono (by omega), zs_lead_next hk (by rw [h]; decide) (by rw [h]; decide)⟩
  · -- 7
    have rg : a.1 (c0 + 1) ra = b.1 105 ra := hQ.1 ra ha
    have hst : zs_stop f k (b.1 105) = if b.1 105 ra < 0 ∨ 28 < b.1 105 ra ∨ (f (124 + k) >>> (b.1 105 ra &&& 31)) &&& 1 = 0 then 3 else 0 := by
      unfold zs_stop
      rw [if_neg (by rw [h]; decide), if_neg (by rw [h]; decide), if_pos h, ea, ac]
    simp only [h, rg, show ¬ (7 : Int32) = 0 by decide, show ¬ (7 : Int32) = 1 by decide, show ¬ (7 : Int32) = 2 by decide, show ¬ (7 : Int32) = 3 by decide, show ¬ (7 : Int32) = 4 by decide, show ¬ (7 : Int32) = 5 by decide, show ¬ (7 : Int32) = 6 by decide, if_true, if_false]
    by_cases c1 : b.1 105 ra < 0
    · right
      rw [if_pos (Or.inl c1)] at hst
      rw [if_pos c1, hst]
      exact ⟨⟨by omega, by omega⟩, _, rfl, k0.u hc _ (by omega), hQ0.s6 hc _⟩
    by_cases c2 : 28 < b.1 105 ra
    · right
      rw [if_pos (Or.inr (Or.inl c2))] at hst
      rw [if_neg c1, if_neg ((zb_2829 _).mp c2), hst]
      exact ⟨⟨by omega, by omega⟩, _, rfl, k0.u hc _ (by omega), hQ0.s6 hc _⟩
    have c3 : b.1 105 ra < 29 := Classical.byContradiction (fun w => c2 ((zb_2829 _).mpr w))
    obtain ⟨v, hv, ev⟩ := zb_reg (m := 29) (by omega) c1 c3
    rw [if_neg c1, if_pos c3]
    rw [ev] at hst ⊢
    rw [hpe] at hst ⊢
    by_cases c4 : (nI p >>> (nI v &&& 31)) &&& 1 = 0
    · right
      rw [if_pos (Or.inr (Or.inr c4))] at hst
      rw [if_neg (fun w => (zb_bit01 (by omega) (by omega)).mp w c4), hst]
      exact ⟨⟨by omega, by omega⟩, _, rfl, k0.u hc _ (by omega), hQ0.s6 hc _⟩
    · left
      rw [if_neg (fun w => w.elim (nI_pos (by omega)) (fun w => w.elim (nI_nlt (a := 28) (b := v) (by omega) (by omega)) c4))] at hst
      have c5 := (zb_bit01 (p := p) (v := v) (by omega) (by omega)).mpr c4
      rw [if_pos c5]
      refine ⟨hst, v, 1, _, _, rfl, rfl, ⟨by omega, by omega⟩, zb_ue _ _ _ _, ?_, k0.u hc _ (by omega), k1.u _ (by omega), ((hQ1.s6 hc _).n33 _).mono (by omega), ?_⟩
      · rw [zb_ue]; rfl
      · have hbit := (zb_bit1 (v := p) (q := v) (by omega) (by omega)).mp c5
        unfold zs_lead
        rw [if_neg (by rw [h]; decide), if_neg (by rw [h]; decide), if_pos h, hpe]
        by_cases cn : v < n
        · rw [show min v n = v by omega, if_pos cn]
          exact decide_eq_true c5
        · rw [show min v n = n by omega, if_neg (Nat.lt_irrefl n), zb_sr (by omega) (by omega)]
          refine decide_eq_true (fun w => ?_)
          have hz := (nI_eq (b := 0) (Nat.lt_of_le_of_lt (Nat.div_le_self _ _) (by omega)) (by omega)).mp w
          have : p < 2 ^ n := by
            rcases Nat.div_eq_zero_iff.mp hz with q | q
            · exact absurd q (Nat.ne_of_gt (Nat.two_pow_pos n))
            · exact q
          have h2 : p < 2 ^ v := Nat.lt_of_lt_of_le this (Nat.pow_le_pow_right (by omega) (by omega))
          rw [Nat.testBit_lt_two_pow h2] at hbit
          cases hbit
end ZDoAll
