/-! ===== bits counted; works ===== -/
def zg_1 (r : Nat) : Nat := r - (r / 2 &&& 1431655765)
def zg_2 (y : Nat) : Nat := (y &&& 858993459) + (y / 4 &&& 858993459)
def zg_3 (y : Nat) : Nat := (y + y / 16) &&& 252645135
def zg_4 (y : Nat) : Nat := y + y / 256
def zg_5 (y : Nat) : Nat := y + y / 65536
def zg_p : Nat → Nat → Nat
  | 0, _ => 0
  | n + 1, r => r % 2 + zg_p n (r / 2)
theorem zg_land {a b c d : Nat} (hb : b < 256) (hd : d < 256) : (256 * a + b) &&& (256 * c + d) = 256 * (a &&& c) + (b &&& d) := by
  apply Nat.eq_of_testBit_eq
  intro i
  have e : (256 : Nat) = 2 ^ 8 := rfl
  have hbd : b &&& d < 2 ^ 8 := Nat.lt_of_le_of_lt Nat.and_le_left hb
  rw [Nat.testBit_and, e, Nat.testBit_two_pow_mul_add a hb, Nat.testBit_two_pow_mul_add c hd, Nat.testBit_two_pow_mul_add (a &&& c) hbd, Nat.testBit_and, Nat.testBit_and]
  split <;> rfl
def zg_c1 (x : Nat) : Nat := x - (x / 2 &&& 85)
def zg_c2 (x : Nat) : Nat := (x &&& 51) + (x / 4 &&& 51)
theorem zg_L1 : ∀ k, k < 2 → ∀ l, l < 256 → (128 * k + l / 2) &&& 85 = l / 2 &&& 85 := by decide +kernel
theorem zg_H1 : ∀ h, h < 256 → (h / 2 &&& 5592405) = h / 2 &&& 85 := by decide +kernel
theorem zg_L2 : ∀ k, k < 4 → ∀ l, l < 256 → (64 * k + l / 4) &&& 51 = l / 4 &&& 51 := by decide +kernel
theorem zg_H2 : ∀ h, h < 256 → (h / 4 &&& 3355443) = (h / 4 &&& 51) ∧ (h &&& 3355443) = h &&& 51 := by decide +kernel
theorem zg_L3 : ∀ k, k < 16 → ∀ l, l < 103 → (l + l / 16 + 16 * k) &&& 15 = (l + l / 16) &&& 15 := by decide +kernel
theorem zg_c : ∀ h, h < 256 → zg_c1 h < 256 ∧ zg_c2 (zg_c1 h) < 103 ∧ zg_c2 (zg_c1 h) % 16 < 5 ∧ ((zg_c2 (zg_c1 h) + zg_c2 (zg_c1 h) / 16) &&& 986895) = zg_p 8 h ∧ ((zg_c2 (zg_c1 h) + zg_c2 (zg_c1 h) / 16) &&& 15) = zg_p 8 h ∧ zg_p 8 h ≤ 8 ∧ (h / 2 &&& 85) ≤ h := by decide +kernel
theorem zg_p_add : ∀ m k r, zg_p (m + k) r = zg_p m r + zg_p k (r / 2 ^ m)
  | 0, k, r => by rw [Nat.zero_add, Nat.pow_zero, Nat.div_one]; show _ = 0 + _; rw [Nat.zero_add]
  | m + 1, k, r => by
    rw [show m + 1 + k = (m + k) + 1 by omega]
    show r % 2 + zg_p (m + k) (r / 2) = (r % 2 + zg_p m (r / 2)) + zg_p k (r / 2 ^ (m + 1))
    rw [zg_p_add m k, Nat.div_div_eq_div_mul, Nat.pow_succ, Nat.mul_comm 2]
    omega
theorem zg_p_low : ∀ m h l, zg_p m (2 ^ m * h + l) = zg_p m l
  | 0, _, _ => rfl
  | m + 1, h, l => by
    show (2 ^ (m + 1) * h + l) % 2 + zg_p m ((2 ^ (m + 1) * h + l) / 2) = l % 2 + zg_p m (l / 2)
    have e : 2 ^ (m + 1) * h = 2 * (2 ^ m * h) := by rw [Nat.pow_succ, Nat.mul_comm (2 ^ m) 2, Nat.mul_assoc]
    rw [e, show (2 * (2 ^ m * h) + l) % 2 = l % 2 by omega, show (2 * (2 ^ m * h) + l) / 2 = 2 ^ m * h + l / 2 by omega, zg_p_low m]
theorem zg_all {r : Nat} (hr : r < 65536) : zg_5 (zg_4 (zg_3 (zg_2 (zg_1 r)))) &&& 63 = zg_p 16 r := by
  obtain ⟨h, l, hh, hl, rfl⟩ : ∃ h l, h < 256 ∧ l < 256 ∧ r = 256 * h + l := ⟨r / 256, r % 256, by omega, by omega, by omega⟩
  obtain ⟨c1, c2, c3, c4, c5, c6, c7⟩ := zg_c h hh
  obtain ⟨d1, d2, d3, d4, d5, d6, d7⟩ := zg_c l hl
  have e1 : zg_1 (256 * h + l) = 256 * zg_c1 h + zg_c1 l := by
    unfold zg_1 zg_c1
    rw [show (256 * h + l) / 2 = 256 * (h / 2) + (128 * (h % 2) + l / 2) by omega, show 1431655765 = 256 * 5592405 + 85 from rfl, zg_land (by omega) (by decide), zg_L1 _ (by omega) _ hl, zg_H1 _ hh]
    omega
  have e2 : zg_2 (256 * zg_c1 h + zg_c1 l) = 256 * zg_c2 (zg_c1 h) + zg_c2 (zg_c1 l) := by
    unfold zg_2
    rw [show (256 * zg_c1 h + zg_c1 l) / 4 = 256 * (zg_c1 h / 4) + (64 * (zg_c1 h % 4) + zg_c1 l / 4) by omega, show 858993459 = 256 * 3355443 + 51 from rfl, zg_land (by omega) (by decide), zg_land (by omega) (by decide), zg_L2 _ (by omega) _ d1, (zg_H2 _ c1).1, (zg_H2 _ c1).2]
    unfold zg_c2
    omega
  have e3 : zg_3 (256 * zg_c2 (zg_c1 h) + zg_c2 (zg_c1 l)) = 256 * zg_p 8 h + zg_p 8 l := by
    unfold zg_3
    rw [show 256 * zg_c2 (zg_c1 h) + zg_c2 (zg_c1 l) + (256 * zg_c2 (zg_c1 h) + zg_c2 (zg_c1 l)) / 16 = 256 * (zg_c2 (zg_c1 h) + zg_c2 (zg_c1 h) / 16) + (zg_c2 (zg_c1 l) + zg_c2 (zg_c1 l) / 16 + 16 * (zg_c2 (zg_c1 h) % 16)) by omega, show 252645135 = 256 * 986895 + 15 from rfl, zg_land (by omega) (by decide), zg_L3 _ (by omega) _ d2, c4, d5]
  have e4 : zg_5 (zg_4 (256 * zg_p 8 h + zg_p 8 l)) = 256 * zg_p 8 h + (zg_p 8 l + zg_p 8 h) := by
    unfold zg_5 zg_4
    omega
  rw [e1, e2, e3, e4, show (63 : Nat) = 256 * 0 + 63 from rfl, zg_land (by omega) (by decide), Nat.and_zero, show (63 : Nat) = 2 ^ 6 - 1 from rfl, Nat.and_two_pow_sub_one_eq_mod, show (16 : Nat) = 8 + 8 from rfl, zg_p_add, show (256 * h + l) / 2 ^ 8 = h by omega, show 256 * h + l = 2 ^ 8 * h + l from rfl, zg_p_low]
  omega
theorem zs_sum_split (g : Nat → Nat) : ∀ n, zs_sum g (n + 1) = g 0 + zs_sum (fun l => g (l + 1)) n
  | 0 => by show 0 + g 0 = g 0 + 0; omega
  | n + 1 => by
    show zs_sum g (n + 1) + g (n + 1) = g 0 + (zs_sum (fun l => g (l + 1)) n + g (n + 1))
    rw [zs_sum_split g n]
    omega
theorem zs_sum_congr {g h : Nat → Nat} : ∀ n, (∀ i, i < n → g i = h i) → zs_sum g n = zs_sum h n
  | 0, _ => rfl
  | n + 1, q => by
    show zs_sum g n + g n = zs_sum h n + h n
    rw [zs_sum_congr n (fun i hi => q i (by omega)), q n (by omega)]
theorem zg_p_eq : ∀ n r, zg_p n r = zs_sum (fun l => r / 2 ^ l % 2) n
  | 0, _ => rfl
  | n + 1, r => by
    show r % 2 + zg_p n (r / 2) = _
    rw [zg_p_eq n, zs_sum_split]
    have h1 : r / 2 ^ 0 % 2 = r % 2 := by rw [Nat.pow_zero, Nat.div_one]
    have h2 : (fun l => r / 2 / 2 ^ l % 2) = (fun l => r / 2 ^ (l + 1) % 2) := by
      funext l
      rw [Nat.div_div_eq_div_mul, Nat.pow_succ, Nat.mul_comm]
    rw [h1, h2]
theorem zs_pop_sum {r : Nat} : zs_pop r = zs_sum (fun l => r / 2 ^ l % 2) 16 := by
  unfold zs_pop
  refine zs_sum_congr 16 fun l _ => ?_
  rw [Nat.testBit_eq_decide_div_mod_eq]
  by_cases h : r / 2 ^ l % 2 = 1
  · simp only [h, decide_true, if_true]
  · simp only [h, decide_false, Bool.false_eq_true, if_false]
    omega
theorem zg_ush {n : Nat} (hn : n < 2 ^ 32) (k : Nat) (s : Int32) (hs : ((s.toUInt32 &&& Int32.toUInt32 31).toBitVec % 32).toNat = k) : ((nI n).toUInt32 >>> (s.toUInt32 &&& Int32.toUInt32 31)).toInt32 = nI (n / 2 ^ k) := pk_ushrN hn s k hs
section ZcWorks
variable {nl : Int32} {a b : zd_D} {f : zF} {n w : Nat} {nu : Nat → Nat}
theorem rx_bits {r : Nat} (hr : r < 65536) : zx nl 91 0 [z_i (nI r)] [] a = some (some (.inl (nI (zs_pop r))), a) := by
  have l1 : r / 2 &&& 1431655765 ≤ r := Nat.le_trans Nat.and_le_left (Nat.div_le_self _ _)
  have b1 : zg_1 r < 65536 := Nat.lt_of_le_of_lt (Nat.sub_le _ _) hr
  have b2 : zg_2 (zg_1 r) < 131072 := by
    have h1 : zg_1 r &&& 858993459 ≤ zg_1 r := Nat.and_le_left
    have h2 : zg_1 r / 4 &&& 858993459 ≤ zg_1 r / 4 := Nat.and_le_left
    unfold zg_2
    omega
  have b3 : zg_3 (zg_2 (zg_1 r)) < 262144 := by
    have h1 : (zg_2 (zg_1 r) + zg_2 (zg_1 r) / 16) &&& 252645135 ≤ zg_2 (zg_1 r) + zg_2 (zg_1 r) / 16 := Nat.and_le_left
    unfold zg_3
    omega
  have b4 : zg_4 (zg_3 (zg_2 (zg_1 r))) < 524288 := by unfold zg_4; omega
  have b5 : zg_5 (zg_4 (zg_3 (zg_2 (zg_1 r)))) < 1048576 := by unfold zg_5; omega
  have e1 : nI r - (((nI r).toUInt32 >>> ((Int32.toUInt32 1) &&& Int32.toUInt32 31)).toInt32 &&& 1431655765) = nI (zg_1 r) := by
    rw [zg_ush (by omega) 1 1 (by decide), show (1431655765 : Int32) = nI 1431655765 from rfl, zb_and, Nat.pow_one, zb_sub l1]
    rfl
  have e2 : (nI (zg_1 r) &&& 858993459) + (((nI (zg_1 r)).toUInt32 >>> ((Int32.toUInt32 2) &&& Int32.toUInt32 31)).toInt32 &&& 858993459) = nI (zg_2 (zg_1 r)) := by
    rw [zg_ush (by omega) 2 2 (by decide), show (858993459 : Int32) = nI 858993459 from rfl, zb_and, zb_and, nI_add]
    rfl
  have e3 : (nI (zg_2 (zg_1 r)) + ((nI (zg_2 (zg_1 r))).toUInt32 >>> ((Int32.toUInt32 4) &&& Int32.toUInt32 31)).toInt32) &&& 252645135 = nI (zg_3 (zg_2 (zg_1 r))) := by
    rw [zg_ush (by omega) 4 4 (by decide), show (252645135 : Int32) = nI 252645135 from rfl, nI_add, zb_and]
    rfl
  have e4 : nI (zg_3 (zg_2 (zg_1 r))) + ((nI (zg_3 (zg_2 (zg_1 r)))).toUInt32 >>> ((Int32.toUInt32 8) &&& Int32.toUInt32 31)).toInt32 = nI (zg_4 (zg_3 (zg_2 (zg_1 r)))) := by
    rw [zg_ush (by omega) 8 8 (by decide), nI_add]
    rfl
  have e5 : nI (zg_4 (zg_3 (zg_2 (zg_1 r)))) + ((nI (zg_4 (zg_3 (zg_2 (zg_1 r))))).toUInt32 >>> ((Int32.toUInt32 16) &&& Int32.toUInt32 31)).toInt32 = nI (zg_5 (zg_4 (zg_3 (zg_2 (zg_1 r))))) := by
    rw [zg_ush (by omega) 16 16 (by decide), nI_add]
    rfl
  have e6 : nI (zg_5 (zg_4 (zg_3 (zg_2 (zg_1 r))))) &&& 63 = nI (zs_pop r) := by
    rw [show (63 : Int32) = nI 63 from rfl, zb_and]
    rw [zg_all hr, zg_p_eq, ← zs_pop_sum]
  rw [ex_91_0, e1, e2, e3, e4, e5, e6]
theorem rm_bits {r : Nat} (hr : r < 65536) : zm 233 0 [z_i (nI r), none, none] [] b = some (some (.inl (nI (zs_pop r))), b) := by
  rw [em_233_0]
  have hb : ∀ i, zs_sum (fun l => r / 2 ^ l % 2) i ≤ i := fun i => by
    have := zs_sum_le (g := fun l => r / 2 ^ l % 2) (h := fun _ => 1) i (fun l _ => by (try dsimp only); omega)
    rw [zs_sum_const] at this
    omega
  have := zl_eq (G := fun i => zm 233 5 [z_i (nI r), z_i (nI (zs_sum (fun l => r / 2 ^ l % 2) i)), z_i (nI i)] [] b) (n := 32) (by
    intro i hi
    try dsimp only
    have hbi := hb i
    rw [em_233_5]
    simp (disch := omega) only [zb_ltl, zb_llt, zb_eql, zb_leq, nI_ltI, nI_eq, zb_in, nI_clamp, zb_al, zb_la, zb_ml, zb_lm, zb_mul, nI_add, Bool.false_eq_true, reduceCtorEq, Nat.not_lt_zero, cond_true, cond_false, ↓reduceIte, if_true, if_false, Option.toList_some, Option.toList_none, List.nil_append, List.cons_append, Option.bind_some, hi, zb_bit]
    rfl) 32 (Nat.le_refl _)
  refine Eq.trans this ?_
  have hsum : zs_sum (fun l => r / 2 ^ l % 2) 32 = zs_pop r := by
    rw [zs_pop_sum]
    have z : ∀ l, 16 ≤ l → r / 2 ^ l % 2 = 0 := fun l hl => by
      rw [Nat.div_eq_of_lt (Nat.lt_of_lt_of_le hr (Nat.pow_le_pow_right (n := 2) (i := 16) (by decide) hl))]
    have st : ∀ m, zs_sum (fun l => r / 2 ^ l % 2) (16 + m) = zs_sum (fun l => r / 2 ^ l % 2) 16 := by
      intro m
      induction m with
      | zero => rfl
      | succ m ih =>
        show zs_sum (fun l => r / 2 ^ l % 2) (16 + m) + r / 2 ^ (16 + m) % 2 = _
        rw [ih, z (16 + m) (by omega)]
        rfl
    exact st 16
  try dsimp only
  rw [hsum, em_233_5, if_neg (by decide)]
/-! works -/
def zs_nd (T P : Nat → Nat) (t : Nat) : Nat → Nat
  | 0 => 0
  | i + 1 => zs_nd T P t i + T i * ((t + P i - 1) / P i)
theorem zs_nd_mono {T P : Nat → Nat} {t t' : Nat} (h : t ≤ t') : ∀ i, zs_nd T P t i ≤ zs_nd T P t' i
  | 0 => Nat.le_refl 0
  | i + 1 => Nat.add_le_add (zs_nd_mono h i) (Nat.mul_le_mul_left _ (Nat.div_le_div_right (by omega)))
theorem zs_nd_le {T P : Nat → Nat} {t m : Nat} (ht : t ≤ 9999) (h : ∀ i, i < m → T i ≤ 9999 ∧ 1 ≤ P i) : ∀ i, i ≤ m → zs_nd T P t i ≤ i * 99980001
  | 0, _ => Nat.zero_le _
  | i + 1, hi => by
    have ih := zs_nd_le ht h i (by omega)
    obtain ⟨h1, h2⟩ := h i (by omega)
    have q1 : (t + P i - 1) / P i ≤ 9999 := by
      have : (t + P i - 1) / P i ≤ t := by
        by_cases h0 : t = 0
        · subst h0
          rw [Nat.div_eq_of_lt (by omega)]
          exact Nat.le_refl _
        · apply Nat.div_le_of_le_mul
          obtain ⟨p, hp⟩ : ∃ p, P i = p + 1 := ⟨P i - 1, by omega⟩
          rw [hp, Nat.succ_mul]
          have : p * 1 ≤ p * t := Nat.mul_le_mul_left _ (by omega)
          omega
      omega
    have q2 : T i * ((t + P i - 1) / P i) ≤ 9999 * 9999 := Nat.mul_le_mul h1 q1
    show zs_nd T P t i + _ ≤ _
    rw [Nat.succ_mul]
    omega
/-- the works, as both have them -/
def zTP (a b : zd_D) (w : Nat) (T P : Nat → Nat) : Prop := ∀ i, i < w → a.1 16 i = nI (T i) ∧ a.1 17 i = nI (P i) ∧ b.1 92 (184 + 2 * i) = nI (T i) ∧ b.1 92 (184 + 2 * i + 1) = nI (P i) ∧ 1 ≤ T i ∧ T i ≤ 9999 ∧ 1 ≤ P i ∧ P i ≤ 9999
theorem zWk.tp (h : zWk 1 92 a b w) : zTP a b w (fun i => (b.1 92 (184 + 2 * i)).toNatClampNeg) (fun i => (b.1 92 (185 + 2 * i)).toNatClampNeg) := by
  intro i hi
  obtain ⟨h1, h2, ⟨r, r1, r2, r3⟩, ⟨q, q1, q2, q3⟩⟩ := h.2 i hi
  have h1 : a.1 16 i = b.1 92 (184 + 2 * i) := h1
  have h2 : a.1 17 i = b.1 92 (185 + 2 * i) := h2
  (try dsimp only)
  rw [h1, h2, show 184 + 2 * i + 1 = 185 + 2 * i by omega, r3, q3, nI_clamp (by omega), nI_clamp (by omega)]
  exact ⟨rfl, rfl, rfl, rfl, r1, r2, q1, q2⟩
variable {T P : Nat → Nat}
theorem rm_needs (hT : zTP a b w T P) (hw : w ≤ 8) {j t : Nat} (hj : j < w) (ht : t ≤ 9999) : zm 261 0 [z_r 91, z_i (nI j), z_i (nI t), none, none, none] [] b = some (some (.inl (nI (T j + zs_nd T P t j))), b) := by
  have hb : ∀ i, i ≤ j → zs_nd T P t i ≤ i * 99980001 := zs_nd_le ht (fun i hi => ⟨(hT i (by omega)).2.2.2.2.2.1, (hT i (by omega)).2.2.2.2.2.2.1⟩)
  have hTj := hT j hj
  rw [em_261_0]
  simp (disch := omega) only [zb_ltl, zb_llt, zb_eql, zb_leq, nI_ltI, nI_eq, zb_in, nI_clamp, zb_al, zb_la, zb_ml, zb_lm, zb_mul, nI_add, Bool.false_eq_true, reduceCtorEq, Nat.not_lt_zero, cond_true, cond_false, ↓reduceIte, if_true, if_false, Option.toList_some, Option.toList_none, List.nil_append, List.cons_append, Option.bind_some, hTj.2.2.1]
  have := zl_eq (G := fun i => zm 261 12 [z_r 91, z_i (nI j), z_i (nI t), z_i (nI (T j + zs_nd T P t i)), z_i (nI i), none] [] b) (n := j) (by
    intro i hi
    try dsimp only
    obtain ⟨-, -, g3, g4, g5, g6, g7, g8⟩ := hT i (by omega)
    have hbi := hb i (by omega)
    rw [em_261_12]
    simp (disch := omega) only [zb_ltl, zb_llt, zb_eql, zb_leq, nI_ltI, nI_eq, zb_in, nI_clamp, zb_al, zb_la, zb_ml, zb_lm, zb_mul, nI_add, Bool.false_eq_true, reduceCtorEq, Nat.not_lt_zero, cond_true, cond_false, ↓reduceIte, if_true, if_false, Option.toList_some, Option.toList_none, List.nil_append, List.cons_append, Option.bind_some, hi, g3, g4, show ¬ P i = 0 by omega, zb_sl1, pk_div]
    show _ = zm 261 12 [z_r 91, z_i (nI j), z_i (nI t), z_i (nI (T j + (zs_nd T P t i + T i * ((t + P i - 1) / P i)))), z_i (nI (i + 1)), none] [] b
    rw [Nat.mul_comm, Nat.add_assoc]) j (Nat.le_refl _)
  refine Eq.trans this ?_
  try dsimp only
  rw [em_261_12, if_neg (nI_nlt (Nat.le_refl _) (by omega))]
theorem rm_ans (hT : zTP a b w T P) (hw : w ≤ 8) {j : Nat} (hj : j < w) : (∀ t, 1 ≤ t → t ≤ P j → (∀ s, 1 ≤ s → s < t → ¬ T j + zs_nd T P s j = s) → T j + zs_nd T P t j = t → zm 260 0 [z_r 91, z_i (nI j), none] [] b = some (some (.inl (nI t)), b)) ∧ ((∀ t, 1 ≤ t → t ≤ P j → ¬ T j + zs_nd T P t j = t) → zm 260 0 [z_r 91, z_i (nI j), none] [] b = some (some (.inl (-1000000005)), b)) := by
  obtain ⟨-, -, g3, g4, g5, g6, g7, g8⟩ := hT j hj
  rw [em_260_0]
  have step : ∀ t, 1 ≤ t → t ≤ P j → zm 260 3 [z_r 91, z_i (nI j), z_i (nI t)] [] b = if T j + zs_nd T P t j = t then some (some (.inl (nI t)), b) else zm 260 3 [z_r 91, z_i (nI j), z_i (nI (t + 1))] [] b := by
    intro t h1 h2
    have hb := zs_nd_le (T := T) (P := P) (t := t) (m := j) (by omega) (fun i hi => ⟨(hT i (by omega)).2.2.2.2.2.1, (hT i (by omega)).2.2.2.2.2.2.1⟩) j (Nat.le_refl _)
    have hj8 : j * 99980001 ≤ 7 * 99980001 := Nat.mul_le_mul_right _ (by omega)
    rw [em_260_3]
    simp (disch := omega) only [zb_ltl, zb_llt, zb_eql, zb_leq, nI_ltI, nI_eq, zb_in, nI_clamp, zb_al, zb_la, zb_ml, zb_lm, zb_mul, nI_add, Bool.false_eq_true, reduceCtorEq, Nat.not_lt_zero, cond_true, cond_false, ↓reduceIte, if_true, if_false, Option.toList_some, Option.toList_none, List.nil_append, List.cons_append, Option.bind_some, g4, show ¬ P j < t by omega, rm_needs hT hw hj (show t ≤ 9999 by omega)]
    rw [em_260_19]
    simp (disch := omega) only [zb_ltl, zb_llt, zb_eql, zb_leq, nI_ltI, nI_eq, zb_in, nI_clamp, zb_al, zb_la, zb_ml, zb_lm, zb_mul, nI_add, Bool.false_eq_true, reduceCtorEq, Nat.not_lt_zero, cond_true, cond_false, ↓reduceIte, if_true, if_false, Option.toList_some, Option.toList_none, List.nil_append, List.cons_append, Option.bind_some, g4, show ¬ P j < t by omega]
  constructor
  · intro t h1 h2 hl he
    have := zl_eqf (G := fun t => zm 260 3 [z_r 91, z_i (nI j), z_i (nI t)] [] b) h1 (fun s q1 q2 => by
      try dsimp only
      rw [step s q1 (by omega), if_neg (hl s q1 q2)])
    exact Eq.trans this (by (try dsimp only); rw [step t h1 h2, if_pos he])
  · intro hno
    have := zl_eqf (G := fun t => zm 260 3 [z_r 91, z_i (nI j), z_i (nI t)] [] b) (show 1 ≤ P j + 1 by omega) (fun s q1 q2 => by
      try dsimp only
      rw [step s q1 (by omega), if_neg (hno s q1 (by omega))])
    refine Eq.trans this ?_
    try dsimp only
    rw [em_260_3]
    simp (disch := omega) only [zb_ltl, zb_llt, zb_eql, zb_leq, nI_ltI, nI_eq, zb_in, nI_clamp, zb_al, zb_la, zb_ml, zb_lm, zb_mul, nI_add, Bool.false_eq_true, reduceCtorEq, Nat.not_lt_zero, cond_true, cond_false, ↓reduceIte, if_true, if_false, Option.toList_some, Option.toList_none, List.nil_append, List.cons_append, Option.bind_some, g4, show P j < P j + 1 by omega]
theorem rx_needs (hT : zTP a b w T P) (hw : w ≤ 8) {j t : Nat} (hj : j < w) (ht : t ≤ 9999) (x3 : Int32) : zx nl 138 25 [z_r 15, z_i (nI j), z_i (nI t), z_i x3, z_i (nI (T j)), z_i 0] [] a = if T j + zs_nd T P t j = t then some (some (.inl (nI t)), a) else zx nl 138 8 [z_r 15, z_i (nI j), z_i (nI (T j + zs_nd T P t j)), z_i (x3 + 1), none, none] [] a := by
  have hb : ∀ i, i ≤ j → zs_nd T P t i ≤ i * 99980001 := zs_nd_le ht (fun i hi => ⟨(hT i (by omega)).2.2.2.2.2.1, (hT i (by omega)).2.2.2.2.2.2.1⟩)
  have hTj := hT j hj
  have := zl_eq (G := fun i => zx nl 138 25 [z_r 15, z_i (nI j), z_i (nI t), z_i x3, z_i (nI (T j + zs_nd T P t i)), z_i (nI i)] [] a) (n := j) (by
    intro i hi
    try dsimp only
    obtain ⟨g1, g2, -, -, g5, g6, g7, g8⟩ := hT i (by omega)
    have hbi := hb i (by omega)
    rw [ex_138_25]
    simp (disch := omega) only [zb_ltl, zb_llt, zb_eql, zb_leq, nI_ltI, nI_eq, zb_in, nI_clamp, zb_al, zb_la, zb_ml, zb_lm, zb_mul, nI_add, Bool.false_eq_true, reduceCtorEq, Nat.not_lt_zero, cond_true, cond_false, ↓reduceIte, if_true, if_false, Option.toList_some, Option.toList_none, List.nil_append, List.cons_append, Option.bind_some, hi, g1, g2, show 0 < P i by omega, show ¬ P i = 0 by omega, zb_sl1, pk_div]
    show _ = zx nl 138 25 [z_r 15, z_i (nI j), z_i (nI t), z_i x3, z_i (nI (T j + (zs_nd T P t i + T i * ((t + P i - 1) / P i)))), z_i (nI (i + 1))] [] a
    rw [Nat.add_assoc]) j (Nat.le_refl _)
  refine Eq.trans this ?_
  have hbj := hb j (Nat.le_refl _)
  have hj8 : j * 99980001 ≤ 7 * 99980001 := Nat.mul_le_mul_right _ (by omega)
  try dsimp only
  rw [ex_138_25, if_neg (nI_nlt (Nat.le_refl _) (by omega))]
  simp (disch := omega) only [nI_eq]
theorem rx_ans (hT : zTP a b w T P) (hw : w ≤ 8) {j : Nat} (hj : j < w) : (∀ t, 1 ≤ t → t ≤ P j → (∀ s, 1 ≤ s → s < t → ¬ T j + zs_nd T P s j = s) → T j + zs_nd T P t j = t → zx nl 138 0 [z_r 15, z_i (nI j), none, none, none, none] [] a = some (some (.inl (nI t)), a)) ∧ ((∀ t, 1 ≤ t → t ≤ P j → ¬ T j + zs_nd T P t j = t) → zx nl 138 0 [z_r 15, z_i (nI j), none, none, none, none] [] a = some (some (.inl (-1000000005)), a)) := by
  obtain ⟨g1, g2, -, -, g5, g6, g7, g8⟩ := hT j hj
  rw [ex_138_0]
  simp (disch := omega) only [zb_ltl, zb_llt, zb_eql, zb_leq, nI_ltI, nI_eq, zb_in, nI_clamp, zb_al, zb_la, zb_ml, zb_lm, zb_mul, nI_add, Bool.false_eq_true, reduceCtorEq, Nat.not_lt_zero, cond_true, cond_false, ↓reduceIte, if_true, if_false, Option.toList_some, Option.toList_none, List.nil_append, List.cons_append, Option.bind_some, g1]
  have hj8 : j * 99980001 ≤ 7 * 99980001 := Nat.mul_le_mul_right _ (by omega)
  -- the loop, from an answer that is no more than what it gives
  have step : ∀ i s, i ≤ 9999 → s ≤ P j → zx nl 138 8 [z_r 15, z_i (nI j), z_i (nI s), z_i (nI i), none, none] [] a = if T j + zs_nd T P s j = s then some (some (.inl (nI s)), a) else zx nl 138 8 [z_r 15, z_i (nI j), z_i (nI (T j + zs_nd T P s j)), z_i (nI (i + 1)), none, none] [] a := by
    intro i s hi hs
    rw [ex_138_8]
    simp (disch := omega) only [zb_ltl, zb_llt, zb_eql, zb_leq, nI_ltI, nI_eq, zb_in, nI_clamp, zb_al, zb_la, zb_ml, zb_lm, zb_mul, nI_add, Bool.false_eq_true, reduceCtorEq, Nat.not_lt_zero, cond_true, cond_false, ↓reduceIte, if_true, if_false, Option.toList_some, Option.toList_none, List.nil_append, List.cons_append, Option.bind_some, show ¬ 9999 < i by omega, g1, g2, show ¬ P j < s by omega]
    rw [rx_needs hT hw hj (by omega), zb_al]
  have out : ∀ i s, s < 2 ^ 31 → i < 2 ^ 31 → (9999 < i ∨ P j < s) → zx nl 138 8 [z_r 15, z_i (nI j), z_i (nI s), z_i (nI i), none, none] [] a = some (some (.inl (-1000000005)), a) := by
    intro i s hs hi h
    rw [ex_138_8]
    by_cases h1 : 9999 < i
    · simp (disch := omega) only [zb_ltl, zb_llt, zb_eql, zb_leq, nI_ltI, nI_eq, zb_in, nI_clamp, zb_al, zb_la, zb_ml, zb_lm, zb_mul, nI_add, Bool.false_eq_true, reduceCtorEq, Nat.not_lt_zero, cond_true, cond_false, ↓reduceIte, if_true, if_false, Option.toList_some, Option.toList_none, List.nil_append, List.cons_append, Option.bind_some, h1]
    · simp (disch := omega) only [zb_ltl, zb_llt, zb_eql, zb_leq, nI_ltI, nI_eq, zb_in, nI_clamp, zb_al, zb_la, zb_ml, zb_lm, zb_mul, nI_add, Bool.false_eq_true, reduceCtorEq, Nat.not_lt_zero, cond_true, cond_false, ↓reduceIte, if_true, if_false, Option.toList_some, Option.toList_none, List.nil_append, List.cons_append, Option.bind_some, h1, g2, show P j < s by omega]
  have ndl : ∀ s, s ≤ 9999 → T j + zs_nd T P s j < 2 ^ 31 := fun s hs => by
    have hb := zs_nd_le (T := T) (P := P) (t := s) (m := j) hs (fun i hi => ⟨(hT i (by omega)).2.2.2.2.2.1, (hT i (by omega)).2.2.2.2.2.2.1⟩) j (Nat.le_refl _)
    omega
  constructor
  · intro t h1 h2 hl he
    have key : ∀ m i s, i + m = 10000 → i + 1 ≤ s → s ≤ t → s ≤ T j + zs_nd T P s j → zx nl 138 8 [z_r 15, z_i (nI j), z_i (nI s), z_i (nI i), none, none] [] a = some (some (.inl (nI t)), a) := by
      intro m
      induction m with
      | zero => intro i s q1 q2 q3; omega
      | succ m ih =>
        intro i s q1 q2 q3 q4
        rw [step i s (by omega) (by omega)]
        by_cases hc : T j + zs_nd T P s j = s
        · rw [if_pos hc]
          by_cases hst : s < t
          · exact absurd hc (hl s (by omega) hst)
          · rw [show s = t by omega]
        · rw [if_neg hc]
          have hm := zs_nd_mono (T := T) (P := P) q3 j
          have hm2 := zs_nd_mono (T := T) (P := P) q4 j
          exact ih (i + 1) _ (by omega) (by omega) (by omega) (by omega)
    exact key 10000 0 (T j) (by omega) (by omega) (by omega) (by omega)
  · intro hno
    have key : ∀ m i s, i + m = 10000 → i + 1 ≤ s → s < 2 ^ 31 → s ≤ T j + zs_nd T P s j → zx nl 138 8 [z_r 15, z_i (nI j), z_i (nI s), z_i (nI i), none, none] [] a = some (some (.inl (-1000000005)), a) := by
      intro m
      induction m with
      | zero => intro i s q1 q2 q3 q4; exact out i s q3 (by omega) (Or.inl (by omega))
      | succ m ih =>
        intro i s q1 q2 q3 q4
        by_cases hs : s ≤ P j
        · rw [step i s (by omega) hs, if_neg (hno s (by omega) hs)]
          have hm2 := zs_nd_mono (T := T) (P := P) q4 j
          exact ih (i + 1) _ (by omega) (by have := hno s (by omega) hs; omega) (ndl s (by omega)) (by omega)
        · exact out i s q3 (by omega) (Or.inr (by omega))
    exact key 10000 0 (T j) (by omega) (by omega) (by omega) (by omega)
/-- both answer alike of one work -/
theorem zw_ans (hT : zTP a b w T P) (hw : w ≤ 8) {j : Nat} (hj : j < w) : ∃ v, zx nl 138 0 [z_r 15, z_i (nI j), none, none, none, none] [] a = some (some (.inl v), a) ∧ zm 260 0 [z_r 91, z_i (nI j), none] [] b = some (some (.inl v), b) := by
  by_cases h : ∃ t, 1 ≤ t ∧ t ≤ P j ∧ T j + zs_nd T P t j = t
  · obtain ⟨t, ⟨h1, h2, h3⟩, hl⟩ := pk_least (fun t => 1 ≤ t ∧ t ≤ P j ∧ T j + zs_nd T P t j = t) h
    have hl' : ∀ s, 1 ≤ s → s < t → ¬ T j + zs_nd T P s j = s := fun s q1 q2 q3 => hl s q2 ⟨q1, by omega, q3⟩
    exact ⟨nI t, (rx_ans hT hw hj).1 t h1 h2 hl' h3, (rm_ans hT hw hj).1 t h1 h2 hl' h3⟩
  · have hno : ∀ t, 1 ≤ t → t ≤ P j → ¬ T j + zs_nd T P t j = t := fun t q1 q2 q3 => h ⟨t, q1, q2, q3⟩
    exact ⟨_, (rx_ans hT hw hj).2 hno, (rm_ans hT hw hj).2 hno⟩
theorem zc_answer (x : Int32) (h : zR a b) : zC (zx nl 137 0 [z_r 0, z_i x] [] a) (zm 259 0 [z_r 91, z_i x] [] b) := by
  have hz := h
  obtain ⟨f, n, nu, w, h0, hf⟩ := h
  have hT := h0.1.K.tp
  obtain ⟨⟨w1, w2, w3⟩, -⟩ := h0.1.K
  have w1 : a.1 15 0 = nI w := w1
  rw [ex_137_0, em_259_0, w1, w2]
  rcases zb_sgn x with hx | ⟨j, hj, rfl⟩
  · simp only [hx, Bool.false_eq_true, reduceCtorEq, Nat.not_lt_zero, cond_true, cond_false, ↓reduceIte, if_true, if_false, Option.toList_some, Option.toList_none, List.nil_append, List.cons_append, Option.bind_some]
    exact zC.same hz _
  by_cases hjw : j < w
  · obtain ⟨v, e1, e2⟩ := zw_ans (nl := nl) hT w3 hjw
    simp (disch := omega) only [zb_ltl, zb_llt, zb_eql, zb_leq, nI_ltI, nI_eq, zb_in, nI_clamp, zb_al, zb_la, zb_ml, zb_lm, zb_mul, nI_add, Bool.false_eq_true, reduceCtorEq, Nat.not_lt_zero, cond_true, cond_false, ↓reduceIte, if_true, if_false, Option.toList_some, Option.toList_none, List.nil_append, List.cons_append, Option.bind_some, zb_pl, hjw, show ¬ w < j + 1 by omega, e1, e2]
    rw [ex_137_15, em_259_13]
    exact zC.same hz _
  · simp (disch := omega) only [zb_ltl, zb_llt, zb_eql, zb_leq, nI_ltI, nI_eq, zb_in, nI_clamp, zb_al, zb_la, zb_ml, zb_lm, zb_mul, nI_add, Bool.false_eq_true, reduceCtorEq, Nat.not_lt_zero, cond_true, cond_false, ↓reduceIte, if_true, if_false, Option.toList_some, Option.toList_none, List.nil_append, List.cons_append, Option.bind_some, zb_pl, hjw, show w < j + 1 by omega]
    exact zC.same hz _
theorem zc_fits (h : zR a b) : zC (zx nl 139 0 [z_r 0, none] [] a) (zm 262 0 [z_r 91, none] [] b) := by
  have hz := h
  obtain ⟨f, n, nu, w, h0, hf⟩ := h
  have hT := h0.1.K.tp
  obtain ⟨⟨w1, w2, w3⟩, -⟩ := h0.1.K
  have w1 : a.1 15 0 = nI w := w1
  rw [ex_139_0, em_262_0]
  have key : ∀ m j, j + m = w → zC (zx nl 139 3 [z_r 0, z_i (nI j)] [] a) (zm 262 3 [z_r 91, z_i (nI j)] [] b) := by
    intro m
    induction m with
    | zero =>
      intro j hj
      rw [ex_139_3, em_262_3, w1, w2, if_neg (nI_nlt (by omega) (by omega)), if_neg (nI_nlt (by omega) (by omega))]
      exact zC.same hz _
    | succ m ih =>
      intro j hj
      obtain ⟨v, e1, e2⟩ := zw_ans (nl := nl) hT w3 (show j < w by omega)
      rw [ex_139_3, em_262_3, w1, w2, if_pos (nI_lt (show j < w by omega) (by omega)), if_pos (nI_lt (show j < w by omega) (by omega)), e1, e2]
      simp only [Bool.false_eq_true, reduceCtorEq, Nat.not_lt_zero, cond_true, cond_false, ↓reduceIte, if_true, if_false, Option.toList_some, Option.toList_none, List.nil_append, List.cons_append, Option.bind_some]
      rw [ex_139_14, em_262_12]
      by_cases hv : v = -1000000005
      · rw [if_pos hv, if_pos hv]
        exact zC.same hz _
      · rw [if_neg hv, if_neg hv, zb_al]
        exact ih (j + 1) (by omega)
  exact key w 0 (by omega)
end ZcWorks
