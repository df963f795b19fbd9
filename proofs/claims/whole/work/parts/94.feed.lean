/-! ===== calls: what is fed, what is recorded ===== -/
def zs_byte (x : Int32) (s : Nat) : Nat := (x.toBitVec.toNat >>> s) % 2 ^ 8
section ZFeed
variable {nl : Int32} {a a' b b' : zd_D} {f : zF} {n w : Nat} {nu : Nat → Nat}
theorem zl_lk2 {F G : Nat → zd_D → Option (Option mx_V × zd_D)} {I : Nat → zd_D → zd_D → Prop} {n : Nat} (step : ∀ t a b, t < n → I t a b → (∃ a' b', I (t + 1) a' b' ∧ F t a = F (t + 1) a' ∧ G t b = G (t + 1) b') ∨ zC (F t a) (G t b)) (fin : ∀ a b, I n a b → zC (F n a) (G n b)) : ∀ t a b, t ≤ n → I t a b → zC (F t a) (G t b) := by
  intro t
  generalize hd : n - t = d
  induction d generalizing t with
  | zero =>
    intro a b ht hI
    have : t = n := by omega
    subst this
    exact fin a b hI
  | succ d ih =>
    intro a b ht hI
    rcases step t a b (by omega) hI with ⟨a', b', h1, h2, h3⟩ | q
    · rw [h2, h3]
      exact ih (t + 1) (by omega) a' b' (by omega) h1
    · exact q
theorem zs_byte_lt (x : Int32) (s : Nat) : zs_byte x s < 256 := Nat.mod_lt _ (by decide)
theorem zb_255 : ∀ i, i < 32 → (255#32).getLsbD i = decide (i < 8) := by decide
theorem zs_byte_bit (x : Int32) (s i : Nat) : (zs_byte x s).testBit i = (decide (i < 8) && x.toBitVec.getLsbD (s + i)) := by
  unfold zs_byte
  rw [Nat.testBit_mod_two_pow, Nat.testBit_shiftRight]
  rfl
theorem zb_byte_m (x : Int32) {s : Nat} (hs : s ≤ 24) : (x >>> (nI s &&& 31)) &&& 255 = nI (zs_byte x s) := by
  apply Int32.toBitVec_inj.mp
  apply BitVec.eq_of_getLsbD_eq
  intro i hi
  have e : (x >>> (nI s &&& 31)).toBitVec = x.toBitVec.sshiftRight s := by
    rw [Int32.toBitVec_shiftRight]
    show x.toBitVec.sshiftRight ((nI s &&& 31).toBitVec.smod 32).toNat = _
    rw [zb_shn s (by omega)]
  show ((x >>> (nI s &&& 31)).toBitVec &&& 255#32).getLsbD i = (BitVec.ofNat 32 (zs_byte x s)).getLsbD i
  rw [BitVec.getLsbD_and, e, BitVec.getLsbD_sshiftRight, zb_255 i hi, BitVec.getLsbD_ofNat, zs_byte_bit, decide_eq_true hi]
  by_cases h8 : i < 8
  · simp [h8, hi, show s + i < 32 by omega]
  · simp [h8]
theorem zb_shu : ∀ n, n < 32 → (((nI n).toUInt32 &&& Int32.toUInt32 31).toBitVec % 32).toNat = n := by decide +kernel
theorem zb_byte_x (x : Int32) {s : Nat} (hs : s ≤ 24) : (Int32.toInt8 ((Int32.toInt8 ((x.toUInt32 >>> ((nI s).toUInt32 &&& Int32.toUInt32 31)).toInt32)).toInt32)).toInt32 = (nI (zs_byte x s)).toInt8.toInt32 := by
  rw [Int8.toInt8_toInt32]
  congr 1
  apply Int8.toBitVec_inj.mp
  rw [Int32.toBitVec_toInt8, Int32.toBitVec_toInt8, BitVec.signExtend_eq_setWidth_of_le _ (show 8 ≤ 32 by decide), BitVec.signExtend_eq_setWidth_of_le _ (show 8 ≤ 32 by decide)]
  apply BitVec.eq_of_getLsbD_eq
  intro i hi
  rw [BitVec.getLsbD_setWidth, BitVec.getLsbD_setWidth]
  have e : ((x.toUInt32 >>> ((nI s).toUInt32 &&& Int32.toUInt32 31)).toInt32).toBitVec = x.toBitVec >>> s := by
    show (x.toUInt32 >>> ((nI s).toUInt32 &&& Int32.toUInt32 31)).toBitVec = _
    rw [UInt32.toBitVec_shiftRight]
    show x.toBitVec >>> (((nI s).toUInt32 &&& Int32.toUInt32 31).toBitVec % 32).toNat = _
    rw [zb_shu s (by omega)]
  rw [e]
  show (decide (i < 8) && (x.toBitVec >>> s).getLsbD i) = (decide (i < 8) && (BitVec.ofNat 32 (zs_byte x s)).getLsbD i)
  rw [BitVec.getLsbD_ushiftRight, BitVec.getLsbD_ofNat, zs_byte_bit, decide_eq_true hi, decide_eq_true (show i < 32 by omega)]
  simp
theorem rx_app {t : Nat} (ht : t + 4 ≤ 96) (h1 : a.1 35 1 = nI t) (x : Int32) : ∃ a', zx nl 13 0 [z_r 35, z_i x, none] [] a = some (none, a') ∧ a'.1 35 1 = nI (t + 4) ∧ (∀ i, i < 4 → a'.1 36 (t + i) = (nI (zs_byte x (24 - 8 * i))).toInt8.toInt32) ∧ (∀ i, i < t → a'.1 36 i = a.1 36 i) ∧ (∀ c, ¬ c = 35 → ¬ c = 36 → a'.1 c = a.1 c) ∧ a'.2 = a.2 := by
  have step : ∀ (d : zd_D) (s u : Nat), s ≤ 24 → u < 96 → d.1 35 1 = nI u → zx nl 13 3 [z_r 35, z_i x, z_i (nI s)] [] d = zx nl 13 3 [z_r 35, z_i x, z_i (nI s + -8)] [] (zd_u (zd_u d 36 u ((nI (zs_byte x s)).toInt8.toInt32)) 35 1 (nI (u + 1))) := by
    intro d s u hs hu hd
    rw [ex_13_3, hd]
    simp (disch := omega) only [zb_ltl, zb_llt, zb_eql, zb_leq, nI_ltI, nI_eq, zb_in, nI_clamp, zb_al, zb_la, zb_ml, zb_lm, zb_mul, nI_add, Bool.false_eq_true, reduceCtorEq, Nat.not_lt_zero, cond_true, cond_false, ↓reduceIte, if_true, if_false, Option.toList_some, Option.toList_none, List.nil_append, List.cons_append, Option.bind_some, hu, zb_byte_x]
  rw [ex_13_0]
  have w1 := step a 24 t (by omega) (by omega) h1
  rw [show nI 24 + -8 = nI 16 by decide] at w1
  generalize hd1 : zd_u (zd_u a 36 t (nI (zs_byte x 24)).toInt8.toInt32) 35 1 (nI (t + 1)) = d1 at w1
  have w2 := step d1 16 (t + 1) (by omega) (by omega) (by rw [← hd1, zb_ue])
  rw [show nI 16 + -8 = nI 8 by decide] at w2
  generalize hd2 : zd_u (zd_u d1 36 (t + 1) (nI (zs_byte x 16)).toInt8.toInt32) 35 1 (nI (t + 1 + 1)) = d2 at w2
  have w3 := step d2 8 (t + 2) (by omega) (by omega) (by rw [← hd2, zb_ue])
  rw [show nI 8 + -8 = nI 0 by decide] at w3
  generalize hd3 : zd_u (zd_u d2 36 (t + 2) (nI (zs_byte x 8)).toInt8.toInt32) 35 1 (nI (t + 2 + 1)) = d3 at w3
  have w4 := step d3 0 (t + 3) (by omega) (by omega) (by rw [← hd3, zb_ue])
  generalize hd4 : zd_u (zd_u d3 36 (t + 3) (nI (zs_byte x 0)).toInt8.toInt32) 35 1 (nI (t + 3 + 1)) = d4 at w4
  have w5 : zx nl 13 3 [z_r 35, z_i x, z_i (nI 0 + -8)] [] d4 = some (none, d4) := by rw [ex_13_3, if_pos (show nI 0 + -8 < 0 by decide)]
  refine ⟨d4, w1.trans (w2.trans (w3.trans (w4.trans w5))), ?_⟩
  subst hd4 hd3 hd2 hd1
  refine ⟨zb_ue _ _ _ _, fun i hi => ?_, fun i hi => ?_, fun c q1 q2 => ?_, rfl⟩
  · have : i = 0 ∨ i = 1 ∨ i = 2 ∨ i = 3 := by omega
    rcases this with rfl | rfl | rfl | rfl <;> simp [zb_u]
  · simp [zb_u, show ¬ i = t by omega, show ¬ i = t + 1 by omega, show ¬ i = t + 2 by omega, show ¬ i = t + 3 by omega]
  · rw [zb_uc _ _ _ _ q1, zb_uc _ _ _ _ q2, zb_uc _ _ _ _ q1, zb_uc _ _ _ _ q2, zb_uc _ _ _ _ q1, zb_uc _ _ _ _ q2, zb_uc _ _ _ _ q1, zb_uc _ _ _ _ q2]
theorem zc_feed (x y z : Int32) (h : zR a b) : zC (zx nl 12 0 [z_r 0, z_i x, z_i y, z_i z] [] a) (zm 167 0 [z_r 91, z_i x, z_i y, z_i z, none, none] [] b) := by
  have hz := h
  obtain ⟨f, n, nu, w, ⟨hs, hi, ⟨t, ht, p1, p2, p3⟩, hr, hq, hh, hl, hk⟩, hf⟩ := h
  rw [ex_12_0, em_167_0, p1, p2, zb_al]
  by_cases h12 : 96 < t + 12
  · simp (disch := omega) only [zb_ltl, zb_llt, zb_eql, zb_leq, nI_ltI, nI_eq, zb_in, nI_clamp, zb_al, zb_la, zb_ml, zb_lm, zb_mul, nI_add, Bool.false_eq_true, reduceCtorEq, Nat.not_lt_zero, cond_true, cond_false, ↓reduceIte, if_true, if_false, Option.toList_some, Option.toList_none, List.nil_append, List.cons_append, Option.bind_some, h12]; exact zC.same hz _
  simp (disch := omega) only [zb_ltl, zb_llt, zb_eql, zb_leq, nI_ltI, nI_eq, zb_in, nI_clamp, zb_al, zb_la, zb_ml, zb_lm, zb_mul, nI_add, Bool.false_eq_true, reduceCtorEq, Nat.not_lt_zero, cond_true, cond_false, ↓reduceIte, if_true, if_false, Option.toList_some, Option.toList_none, List.nil_append, List.cons_append, Option.bind_some, h12]
  obtain ⟨a1, e1, q1, r1, s1, k1, l1⟩ := rx_app (nl := nl) (show t + 4 ≤ 96 by omega) p1 x
  obtain ⟨a2, e2, q2, r2, s2, k2, l2⟩ := rx_app (nl := nl) (show t + 4 + 4 ≤ 96 by omega) q1 y
  obtain ⟨a3, e3, q3, r3, s3, k3, l3⟩ := rx_app (nl := nl) (show t + 4 + 4 + 4 ≤ 96 by omega) q2 z
  simp only [e1, e2, e3, Bool.false_eq_true, reduceCtorEq, Nat.not_lt_zero, cond_true, cond_false, ↓reduceIte, if_true, if_false, Option.toList_some, Option.toList_none, List.nil_append, List.cons_append, Option.bind_some, ex_12_13, ex_12_17, ex_12_21, q3]
  have rr : ∀ i, i < 12 → a3.1 36 (t + i) = (nI (zs_byte (if i < 4 then x else if i < 8 then y else z) (24 - 8 * (i - i / 4 * 4)))).toInt8.toInt32 := by
    intro i hi
    by_cases c1 : i < 4
    · rw [s3 _ (by omega), s2 _ (by omega), r1 i c1, if_pos c1, show i - i / 4 * 4 = i by omega]
    · by_cases c2 : i < 8
      · rw [s3 _ (by omega), show t + i = t + 4 + (i - 4) by omega, r2 (i - 4) (by omega), if_neg c1, if_pos c2, show i - i / 4 * 4 = i - 4 by omega]
      · rw [show t + i = t + 4 + 4 + (i - 8) by omega, r3 (i - 8) (by omega), if_neg c1, if_neg c2, show i - i / 4 * 4 = i - 8 by omega]
  obtain ⟨b1, ⟨m1, m2, m3⟩, e⟩ := zl_to (F := fun i d => zm 167 11 [z_r 91, z_i x, z_i y, z_i z, z_i (nI i), none] [] d) (I := fun i d => (∀ c, ¬ c = 94 → d.1 c = b.1 c) ∧ (∀ k, k < t → d.1 94 k = b.1 94 k) ∧ ∀ k, k < i → d.1 94 (t + k) = nI (zs_byte (if k < 4 then x else if k < 8 then y else z) (24 - 8 * (k - k / 4 * 4)))) (n := 12) (by
    intro i d hi ⟨g1, g2, g3⟩
    refine ⟨zd_u d 94 (t + i) (nI (zs_byte (if i < 4 then x else if i < 8 then y else z) (24 - 8 * (i - i / 4 * 4)))), ⟨fun c q => by rw [zb_uc _ _ _ _ q]; exact g1 c q, fun k q => by rw [zb_ui _ _ _ _ (by omega)]; exact g2 k q, fun k q => ?_⟩, ?_⟩
    · rw [zb_u]
      by_cases c : k = i
      · rw [if_pos ⟨rfl, by omega⟩, c]
      · rw [if_neg (fun w => c (by omega))]; exact g3 k (by omega)
    · (try dsimp only)
      have es : (24 - 8 * (nI i - nI i / 4 * 4) : Int32) = nI (24 - 8 * (i - i / 4 * 4)) := by
        rw [show nI i / 4 = nI (i / 4) from pk_div (d := 4) (by omega) (by omega) (by omega), zb_ml, zb_sub (by omega), zb_lm]
        exact zb_sub (a := 24) (by omega)
      rw [em_167_11, g1 91 (by decide), p2, es]
      by_cases c1 : i < 4
      · simp (disch := omega) only [zb_ltl, zb_llt, zb_eql, zb_leq, nI_ltI, nI_eq, zb_in, nI_clamp, zb_al, zb_la, zb_ml, zb_lm, zb_mul, nI_add, Bool.false_eq_true, reduceCtorEq, Nat.not_lt_zero, cond_true, cond_false, ↓reduceIte, if_true, if_false, Option.toList_some, Option.toList_none, List.nil_append, List.cons_append, Option.bind_some, hi, c1, zb_byte_m]
      · by_cases c2 : i < 8
        · simp (disch := omega) only [zb_ltl, zb_llt, zb_eql, zb_leq, nI_ltI, nI_eq, zb_in, nI_clamp, zb_al, zb_la, zb_ml, zb_lm, zb_mul, nI_add, Bool.false_eq_true, reduceCtorEq, Nat.not_lt_zero, cond_true, cond_false, ↓reduceIte, if_true, if_false, Option.toList_some, Option.toList_none, List.nil_append, List.cons_append, Option.bind_some, hi, c1, c2, zb_byte_m]
        · simp (disch := omega) only [zb_ltl, zb_llt, zb_eql, zb_leq, nI_ltI, nI_eq, zb_in, nI_clamp, zb_al, zb_la, zb_ml, zb_lm, zb_mul, nI_add, Bool.false_eq_true, reduceCtorEq, Nat.not_lt_zero, cond_true, cond_false, ↓reduceIte, if_true, if_false, Option.toList_some, Option.toList_none, List.nil_append, List.cons_append, Option.bind_some, hi, c1, c2, zb_byte_m]) 0 b (by omega) ⟨fun _ _ => rfl, fun _ _ => rfl, fun k hk => by omega⟩
  refine ⟨nI (t + 4 + 4 + 4), a3, zd_u b1 91 4 (nI (t + 12)), rfl, ?_, ?_⟩
  · refine Eq.trans e ?_
    (try dsimp only)
    rw [em_167_11, m1 91 (by decide), p2, if_neg (show ¬ nI 12 < 12 by decide), zb_al]
  · have kx : ∀ c, ¬ c = 35 → ¬ c = 36 → a3.1 c = a.1 c := fun c w1 w2 => by rw [k3 c w1 w2, k2 c w1 w2, k1 c w1 w2]
    have k2' : a3.2 = a.2 := by rw [l3, l2, l1]
    have kb : ∀ c, ¬ c = 94 → ¬ c = 91 → (zd_u b1 91 4 (nI (t + 12))).1 c = b.1 c := fun c w1 w2 => by rw [zb_uc _ _ _ _ w2, m1 c w1]
    have kf : ∀ i, ¬ i = 4 → (zd_u b1 91 4 (nI (t + 12))).1 91 i = b.1 91 i := fun i w => by rw [zb_ui _ _ _ _ w, m1 91 (by decide)]
    refine ⟨f, n, nu, w, ⟨(hs.x (Or.inl rfl) (fun c q => kx c (by omega) (by omega))).m (kb 92 (by omega) (by omega)), ?_, ⟨t + 12, by omega, q3, zb_ue _ _ _ _, fun i hi => ?_⟩, ?_, ?_, ?_, ?_, ?_⟩, ?_⟩
    · exact (hi.x (by rw [kx 0 (by omega) (by omega)]) (fun c w1 w2 => kx c (by omega) (by omega))).m (kf _ (by omega)) (kb 93 (by omega) (by omega))
    · rw [zb_uc _ _ _ _ (by decide)]
      by_cases c : i < t
      · rw [m2 i c, s3 i (by omega), s2 i (by omega), s1 i c]
        exact p3 i c
      · have g := rr (i - t) (by omega)
        have g2 := m3 (i - t) (by omega)
        rw [show t + (i - t) = i by omega] at g g2
        exact ⟨_, zs_byte_lt _ _, g2, g⟩
    · exact (hr.x (kx _ (by omega) (by omega)) (kx _ (by omega) (by omega)) (kx _ (by omega) (by omega)) (kx _ (by omega) (by omega))).m (kf _ (by omega)) (kb _ (by omega) (by omega)) (kb _ (by omega) (by omega)) (kb _ (by omega) (by omega))
    · exact (hq.x (by rw [kx 0 (by omega) (by omega)]) (kx _ (by omega) (by omega))).m (kf _ (by omega)) (kb _ (by omega) (by omega))
    · exact (hh.x (fun c w1 w2 => kx c (by omega) (by omega)) (by rw [k2'])).m (kb _ (by omega) (by omega)) (kb _ (by omega) (by omega)) (kb _ (by omega) (by omega))
    · exact (hl.x (fun c w1 w2 => kx c (by omega) (by omega)) (by rw [k2'])).m (kb _ (by omega) (by omega)) (kb _ (by omega) (by omega)) (kb _ (by omega) (by omega)) (kb _ (by omega) (by omega)) (kb _ (by omega) (by omega))
    · exact hk.m (kf _ (by omega)) (kb _ (by omega) (by omega)) (kb _ (by omega) (by omega))
    · rw [kb 92 (by omega) (by omega)]
      exact hf.x (by rw [kx 0 (by omega) (by omega)]) (by rw [kx 0 (by omega) (by omega)]) (fun c w1 w2 => kx c (by omega) (by omega)) (kx _ (by omega) (by omega)) (by rw [k2'])
/-- what waits is forgotten -/
theorem zR.q0 (h : zR a b) : zR (zd_u a 0 14 0) (zd_u b 91 53 0) := by
  obtain ⟨f, n, nu, w, ⟨hs, hi, hp, hr, hq, hh, hl, hk⟩, hf⟩ := h
  have kx : ∀ c, ¬ c = 0 → (zd_u a 0 14 0).1 c = a.1 c := fun c q => zb_uc _ _ _ _ q
  have k0 : ∀ i, ¬ i = 14 → (zd_u a 0 14 0).1 0 i = a.1 0 i := fun i q => zb_ui _ _ _ _ q
  have kb : ∀ c, ¬ c = 91 → (zd_u b 91 53 0).1 c = b.1 c := fun c q => zb_uc _ _ _ _ q
  have kf : ∀ i, ¬ i = 53 → (zd_u b 91 53 0).1 91 i = b.1 91 i := fun i q => zb_ui _ _ _ _ q
  refine ⟨f, n, nu, w, ⟨(hs.x (Or.inl rfl) (fun c q => kx c (by omega))).m (kb 92 (by omega)), ?_, ?_, ?_, ⟨0, by omega, zb_ue _ _ _ _, zb_ue _ _ _ _, fun i hi => absurd hi (Nat.not_lt_zero i)⟩, ?_, ?_, ?_⟩, ?_⟩
  · exact (hi.x (k0 _ (by omega)) (fun c w1 w2 => kx c (by omega))).m (kf _ (by omega)) (kb 93 (by omega))
  · exact (hp.x (by rw [kx 35 (by omega)]) (kx _ (by omega))).m (kf _ (by omega)) (kb _ (by omega))
  · exact (hr.x (kx _ (by omega)) (kx _ (by omega)) (kx _ (by omega)) (kx _ (by omega))).m (kf _ (by omega)) (kb _ (by omega)) (kb _ (by omega)) (kb _ (by omega))
  · exact (hh.x (fun c w1 w2 => kx c (by omega)) rfl).m (kb _ (by omega)) (kb _ (by omega)) (kb _ (by omega))
  · exact (hl.x (fun c w1 w2 => kx c (by omega)) rfl).m (kb _ (by omega)) (kb _ (by omega)) (kb _ (by omega)) (kb _ (by omega)) (kb _ (by omega))
  · exact hk.m (kf _ (by omega)) (kb _ (by omega)) (kb _ (by omega))
  · rw [kb 92 (by omega)]
    exact hf.x (k0 _ (by omega)) (k0 _ (by omega)) (fun c w1 w2 => kx c (by omega)) (kx _ (by omega)) rfl
theorem zc_record (h : zR a b) : zC (zx nl 159 0 [z_r 0, none, none, none, none] [] a) (zm 277 0 [z_r 91, none, none, none] [] b) := by
  have hz := h.q0
  obtain ⟨f, n, nu, w, ⟨hs, hi, hp, hr, ⟨u, hu, q1, q2, q3⟩, hh, hl, hk⟩, hf⟩ := h
  rw [ex_159_0, em_277_0]
  rcases hr with ⟨r1, r2⟩ | ⟨r1, r2, ⟨m, hm, r3, r4, r5⟩, -⟩
  · rw [if_pos r1, if_pos r2]
    exact ⟨_, _, _, rfl, rfl, hz⟩
  · rw [if_neg (show ¬ a.1 45 0 = 0 by rw [r1]; decide), if_neg (show ¬ b.1 91 19 = 0 by rw [r2]; decide), q1, q2]
    have same : ∀ v : Int32, zC (some (some (.inl v), zd_u a 0 14 0)) (some (some (.inl v), zd_u b 91 53 0)) := fun v => ⟨_, _, _, rfl, rfl, hz⟩
    refine zl_lk2 (F := fun t d => zx nl 159 15 [z_r 0, z_i (nI u), z_i (nI t), none, none] [] d) (G := fun t d => zm 277 14 [z_r 91, z_i (nI u), z_i (nI t), none] [] d) (I := fun t x y => x = zd_u a 0 14 0 ∧ y = zd_u b 91 53 0) (n := u) (fun t x y ht hI => ?_) (fun x y hI => ?_) 0 _ _ (by omega) ⟨rfl, rfl⟩
    · obtain ⟨rfl, rfl⟩ := hI
      (try dsimp only)
      rw [ex_159_15, em_277_14, zb_uc _ _ _ _ (show ¬ 45 = 0 by decide), zb_uc _ _ _ _ (show ¬ 47 = 0 by decide), zb_uc _ _ _ _ (show ¬ 48 = 0 by decide), zb_uc _ _ _ _ (show ¬ 64 = 0 by decide), zb_uc _ _ _ _ (show ¬ 102 = 91 by decide), zb_uc _ _ _ _ (show ¬ 103 = 91 by decide), zb_uc _ _ _ _ (show ¬ 104 = 91 by decide), zb_uc _ _ _ _ (show ¬ 129 = 91 by decide), r3, r4, show nI t / 2 = nI (t / 2) from pk_div (d := 2) (by omega) (by omega) (by omega), zb_ml, zb_sub (by omega)]
      simp (disch := omega) only [zb_ltl, zb_llt, zb_eql, zb_leq, nI_ltI, nI_eq, zb_in, nI_clamp, zb_al, zb_la, zb_ml, zb_lm, zb_mul, nI_add, Bool.false_eq_true, reduceCtorEq, Nat.not_lt_zero, cond_true, cond_false, ↓reduceIte, if_true, if_false, Option.toList_some, Option.toList_none, List.nil_append, List.cons_append, Option.bind_some, ht]
      rw [q3 t ht]
      by_cases c1 : t / 2 < m
      · obtain ⟨v1, v2⟩ := r5 (t / 2) c1
        rw [v1, v2]
        simp only [c1, Bool.false_eq_true, reduceCtorEq, Nat.not_lt_zero, cond_true, cond_false, ↓reduceIte, if_true, if_false, Option.toList_some, Option.toList_none, List.nil_append, List.cons_append, Option.bind_some]
        by_cases c2 : t - t / 2 * 2 = 0
        · simp only [c2, Bool.false_eq_true, reduceCtorEq, Nat.not_lt_zero, cond_true, cond_false, ↓reduceIte, if_true, if_false, Option.toList_some, Option.toList_none, List.nil_append, List.cons_append, Option.bind_some]
          by_cases c3 : b.1 129 t = b.1 103 (t / 2)
          · simp only [c3, Bool.false_eq_true, reduceCtorEq, Nat.not_lt_zero, cond_true, cond_false, ↓reduceIte, if_true, if_false, Option.toList_some, Option.toList_none, List.nil_append, List.cons_append, Option.bind_some]
            exact Or.inl ⟨_, _, ⟨rfl, rfl⟩, rfl, rfl⟩
          · simp only [c3, Bool.false_eq_true, reduceCtorEq, Nat.not_lt_zero, cond_true, cond_false, ↓reduceIte, if_true, if_false, Option.toList_some, Option.toList_none, List.nil_append, List.cons_append, Option.bind_some]
            exact Or.inr (same _)
        · simp only [c2, Bool.false_eq_true, reduceCtorEq, Nat.not_lt_zero, cond_true, cond_false, ↓reduceIte, if_true, if_false, Option.toList_some, Option.toList_none, List.nil_append, List.cons_append, Option.bind_some]
          by_cases c3 : b.1 129 t = b.1 104 (t / 2)
          · simp only [c3, Bool.false_eq_true, reduceCtorEq, Nat.not_lt_zero, cond_true, cond_false, ↓reduceIte, if_true, if_false, Option.toList_some, Option.toList_none, List.nil_append, List.cons_append, Option.bind_some]
            exact Or.inl ⟨_, _, ⟨rfl, rfl⟩, rfl, rfl⟩
          · simp only [c3, Bool.false_eq_true, reduceCtorEq, Nat.not_lt_zero, cond_true, cond_false, ↓reduceIte, if_true, if_false, Option.toList_some, Option.toList_none, List.nil_append, List.cons_append, Option.bind_some]
            exact Or.inr (same _)
      · simp only [c1, Bool.false_eq_true, reduceCtorEq, Nat.not_lt_zero, cond_true, cond_false, ↓reduceIte, if_true, if_false, Option.toList_some, Option.toList_none, List.nil_append, List.cons_append, Option.bind_some]
        exact Or.inr (same _)
    · obtain ⟨rfl, rfl⟩ := hI
      (try dsimp only)
      rw [ex_159_15, em_277_14]
      simp (disch := omega) only [zb_ltl, zb_llt, zb_eql, zb_leq, nI_ltI, nI_eq, zb_in, nI_clamp, zb_al, zb_la, zb_ml, zb_lm, zb_mul, nI_add, Bool.false_eq_true, reduceCtorEq, Nat.not_lt_zero, cond_true, cond_false, ↓reduceIte, if_true, if_false, Option.toList_some, Option.toList_none, List.nil_append, List.cons_append, Option.bind_some, Nat.lt_irrefl]
      exact same _
end ZFeed
