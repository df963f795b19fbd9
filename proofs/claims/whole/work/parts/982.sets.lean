/-! ===== the sets inside a set, one by one ===== -/
def zs_pd : Nat → Nat → Nat → Nat
  | 0, _, _ => 0
  | w + 1, O, i => if O % 2 = 1 then 2 * zs_pd w (O / 2) (i / 2) + i % 2 else 2 * zs_pd w (O / 2) i
section ZSets
theorem zb_land2 {a b c d : Nat} (hb : b < 2) (hd : d < 2) : (2 * a + b) &&& (2 * c + d) = 2 * (a &&& c) + (b &&& d) := by
  apply Nat.eq_of_testBit_eq
  intro i
  have e : (2 : Nat) = 2 ^ 1 := rfl
  have hbd : b &&& d < 2 ^ 1 := Nat.lt_of_le_of_lt Nat.and_le_left hb
  rw [Nat.testBit_and, e, Nat.testBit_two_pow_mul_add a hb, Nat.testBit_two_pow_mul_add c hd, Nat.testBit_two_pow_mul_add (a &&& c) hbd, Nat.testBit_and, Nat.testBit_and]
  split <;> rfl
theorem zs_pd_le : ∀ w O i, zs_pd w O i ≤ O
  | 0, _, _ => Nat.zero_le _
  | w + 1, O, i => by
    unfold zs_pd
    split
    · have := zs_pd_le w (O / 2) (i / 2)
      omega
    · have := zs_pd_le w (O / 2) i
      omega
theorem zs_pd_c : ∀ w O i, O < 2 ^ w → (zs_pd w O i + (2 ^ w - 1 - O)) &&& O = zs_pd w O i
  | 0, O, i, h => by
    have : O = 0 := by simpa using h
    subst this
    simp [zs_pd]
  | w + 1, O, i, h => by
    have hw : 2 ^ (w + 1) = 2 * 2 ^ w := by rw [Nat.pow_succ, Nat.mul_comm]
    have hp : 0 < 2 ^ w := Nat.two_pow_pos w
    unfold zs_pd
    by_cases ho : O % 2 = 1
    · rw [if_pos ho]
      have ih := zs_pd_c w (O / 2) (i / 2) (by omega)
      have hO : O = 2 * (O / 2) + 1 := by omega
      generalize zs_pd w (O / 2) (i / 2) = P at *
      generalize O / 2 = Q at *
      subst hO
      rw [hw, show 2 * P + i % 2 + (2 * 2 ^ w - 1 - (2 * Q + 1)) = 2 * (P + (2 ^ w - 1 - Q)) + i % 2 by omega, zb_land2 (by omega) (by omega), ih]
      have : i % 2 = 0 ∨ i % 2 = 1 := by omega
      rcases this with q | q <;> rw [q] <;> rfl
    · rw [if_neg ho]
      have ih := zs_pd_c w (O / 2) i (by omega)
      have hO : O = 2 * (O / 2) + 0 := by omega
      generalize zs_pd w (O / 2) i = P at *
      generalize O / 2 = Q at *
      subst hO
      rw [hw, show 2 * P + (2 * 2 ^ w - 1 - (2 * Q + 0)) = 2 * (P + (2 ^ w - 1 - Q)) + 1 by omega, zb_land2 (by omega) (by omega), ih]
      rfl
/-- the next one -/
theorem zs_pd_next : ∀ w O i, O < 2 ^ w → ((2 ^ w - O + zs_pd w O i) % 2 ^ w) &&& O = zs_pd w O (i + 1)
  | 0, O, i, h => by
    have : O = 0 := by simpa using h
    subst this
    simp [zs_pd]
  | w + 1, O, i, h => by
    have hw : 2 ^ (w + 1) = 2 * 2 ^ w := by rw [Nat.pow_succ, Nat.mul_comm]
    have hp : 0 < 2 ^ w := Nat.two_pow_pos w
    unfold zs_pd
    by_cases ho : O % 2 = 1
    · rw [if_pos ho, if_pos ho]
      have hO : O = 2 * (O / 2) + 1 := by omega
      have hQ : O / 2 < 2 ^ w := by omega
      have ih := zs_pd_next w (O / 2) (i / 2) hQ
      have ic := zs_pd_c w (O / 2) (i / 2) hQ
      have il := zs_pd_le w (O / 2) (i / 2)
      by_cases hi : i % 2 = 1
      · rw [show (i + 1) / 2 = i / 2 + 1 by omega, ← ih]
        generalize zs_pd w (O / 2) (i / 2) = P at *
        generalize O / 2 = Q at *
        subst hO
        rw [hw, show 2 * 2 ^ w - (2 * Q + 1) + (2 * P + i % 2) = 2 * (2 ^ w - Q + P) by omega, Nat.mul_mod_mul_left, show (i + 1) % 2 = 0 by omega, show 2 * ((2 ^ w - Q + P) % 2 ^ w) = 2 * ((2 ^ w - Q + P) % 2 ^ w) + 0 from rfl, zb_land2 (by omega) (by omega)]
        rfl
      · rw [show (i + 1) / 2 = i / 2 by omega]
        generalize zs_pd w (O / 2) (i / 2) = P at *
        generalize O / 2 = Q at *
        subst hO
        rw [hw, show 2 * 2 ^ w - (2 * Q + 1) + (2 * P + i % 2) = 2 * (P + (2 ^ w - 1 - Q)) + 1 by omega, Nat.mod_eq_of_lt (by omega), zb_land2 (by omega) (by omega), ic, show (i + 1) % 2 = 1 by omega]
        rfl
    · rw [if_neg ho, if_neg ho]
      have hO : O = 2 * (O / 2) + 0 := by omega
      have ih := zs_pd_next w (O / 2) i (by omega)
      rw [← ih]
      generalize zs_pd w (O / 2) i = P at *
      generalize O / 2 = Q at *
      subst hO
      rw [hw, show 2 * 2 ^ w - (2 * Q + 0) + 2 * P = 2 * (2 ^ w - Q + P) by omega, Nat.mul_mod_mul_left, show 2 * ((2 ^ w - Q + P) % 2 ^ w) = 2 * ((2 ^ w - Q + P) % 2 ^ w) + 0 from rfl, zb_land2 (by omega) (by omega)]
      rfl
theorem zs_cnt_shift (p : Nat → Bool) : ∀ t, zs_cnt p (t + 1) = (if p 0 = true then 1 else 0) + zs_cnt (fun i => p (i + 1)) t
  | 0 => by
    show zs_cnt p 0 + _ = _ + zs_cnt _ 0
    show 0 + _ = _ + 0
    rw [Nat.zero_add, Nat.add_zero]
  | t + 1 => by
    show zs_cnt p (t + 1) + (if p (t + 1) = true then 1 else 0) = _ + (zs_cnt (fun i => p (i + 1)) t + (if p (t + 1) = true then 1 else 0))
    rw [zs_cnt_shift p t, Nat.add_assoc]
/-- its lines -/
theorem zs_pd_bit : ∀ w O i t, O < 2 ^ w → (zs_pd w O i).testBit t = (O.testBit t && i.testBit (zs_cnt (fun l => O.testBit l) t))
  | 0, O, i, t, h => by
    have : O = 0 := by simpa using h
    subst this
    simp [zs_pd]
  | w + 1, O, i, t, h => by
    have hw : 2 ^ (w + 1) = 2 * 2 ^ w := by rw [Nat.pow_succ, Nat.mul_comm]
    unfold zs_pd
    have e : (2 : Nat) = 2 ^ 1 := rfl
    by_cases ho : O % 2 = 1
    · rw [if_pos ho]
      cases t with
      | zero =>
        have : O.testBit 0 = true := by rw [Nat.testBit_zero]; simp [ho]
        rw [this, Nat.testBit_zero, show zs_cnt (fun l => O.testBit l) 0 = 0 from rfl, Nat.testBit_zero]
        simp
      | succ t =>
        have o0 : O.testBit 0 = true := by rw [Nat.testBit_zero]; simp [ho]
        rw [zs_cnt_shift, if_pos o0, Nat.testBit_succ, show (2 * zs_pd w (O / 2) (i / 2) + i % 2) / 2 = zs_pd w (O / 2) (i / 2) by omega, zs_pd_bit w (O / 2) (i / 2) t (by omega), Nat.testBit_succ, Nat.add_comm 1, Nat.testBit_succ]
        simp only [Nat.testBit_succ]
    · rw [if_neg ho]
      cases t with
      | zero =>
        have : O.testBit 0 = false := by rw [Nat.testBit_zero]; simp; omega
        rw [this, Nat.testBit_zero]
        simp
      | succ t =>
        have o0 : ¬ O.testBit 0 = true := by rw [Nat.testBit_zero]; simp; omega
        rw [zs_cnt_shift, if_neg o0, Nat.zero_add, Nat.testBit_succ, show 2 * zs_pd w (O / 2) i / 2 = zs_pd w (O / 2) i by omega, zs_pd_bit w (O / 2) i t (by omega), Nat.testBit_succ]
        simp only [Nat.testBit_succ]
theorem zb_next {O i : Nat} (h : O < 65536) : (nI (zs_pd 32 O i) - nI O) &&& nI O = nI (zs_pd 32 O (i + 1)) := by
  rw [← zs_pd_next 32 O i (by omega)]
  apply Int32.toBitVec_inj.mp
  apply BitVec.eq_of_toNat_eq
  have hl := zs_pd_le 32 O i
  show ((BitVec.ofNat 32 (zs_pd 32 O i) - BitVec.ofNat 32 O) &&& BitVec.ofNat 32 O).toNat = (BitVec.ofNat 32 (((2 ^ 32 - O + zs_pd 32 O i) % 2 ^ 32) &&& O)).toNat
  rw [BitVec.toNat_and, BitVec.toNat_sub, BitVec.toNat_ofNat, BitVec.toNat_ofNat, BitVec.toNat_ofNat, Nat.mod_eq_of_lt (show O < 2 ^ 32 by omega), Nat.mod_eq_of_lt (show zs_pd 32 O i < 2 ^ 32 by omega), Nat.mod_eq_of_lt (Nat.lt_of_le_of_lt Nat.and_le_right (show O < 2 ^ 32 by omega))]
end ZSets
