/-! ===== plain facts for the rows behind ===== -/
theorem zb_in {i n : Nat} (h : i < n) (hn : n < 2 ^ 31) : mx_in (nI i) n = true := by
  unfold mx_in
  rw [nI_clamp (by omega), Nat.blt_eq.mpr h, decide_eq_false (nI_pos (by omega))]
  rfl
theorem zb_in_x {x : Int32} {n : Nat} (h0 : ¬ x < 0) (h : x.toNatClampNeg < n) : mx_in x n = true := by
  unfold mx_in
  rw [Nat.blt_eq.mpr h, decide_eq_false h0]
  rfl
theorem zb_u (d : zd_D) (c i : Nat) (x : Int32) (k j : Nat) : (zd_u d c i x).1 k j = if k = c ∧ j = i then x else d.1 k j := by
  show (if k = c then (fun j => if j = i then x else d.1 c j) else d.1 k) j = _
  by_cases hk : k = c
  · subst hk
    rw [if_pos rfl]
    by_cases hj : j = i
    · rw [if_pos hj, if_pos ⟨rfl, hj⟩]
    · rw [if_neg hj, if_neg (fun h => hj h.2)]
  · rw [if_neg hk, if_neg (fun h => hk h.1)]
theorem zb_u2 (d : zd_D) (c i : Nat) (x : Int32) : (zd_u d c i x).2 = d.2 := rfl
theorem zb_uc (d : zd_D) (c i : Nat) (x : Int32) {k : Nat} (h : k ≠ c) : (zd_u d c i x).1 k = d.1 k := if_neg h
theorem zb_ui (d : zd_D) (c i : Nat) (x : Int32) {j : Nat} (h : j ≠ i) : (zd_u d c i x).1 c j = d.1 c j := by
  rw [zb_u, if_neg (fun q => h q.2)]
theorem zb_ue (d : zd_D) (c i : Nat) (x : Int32) : (zd_u d c i x).1 c i = x := by
  rw [zb_u, if_pos ⟨rfl, rfl⟩]
theorem zb_ul (d : zd_D) (c i : Nat) (x : Int64) (k j : Nat) : (zd_ul d c i x).2.1 k j = if k = c ∧ j = i then x else d.2.1 k j := by
  show (if k = c then (fun j => if j = i then x else d.2.1 c j) else d.2.1 k) j = _
  by_cases hk : k = c
  · subst hk
    rw [if_pos rfl]
    by_cases hj : j = i
    · rw [if_pos hj, if_pos ⟨rfl, hj⟩]
    · rw [if_neg hj, if_neg (fun h => hj h.2)]
  · rw [if_neg hk, if_neg (fun h => hk h.1)]
theorem zb_s (d : zd_D) (c : Nat) (f : Nat → Int32) (k : Nat) : (zd_s d c f).1 k = if k = c then f else d.1 k := rfl
theorem zb_sl (d : zd_D) (c : Nat) (f : Nat → Int64) (k : Nat) : (zd_sl d c f).2.1 k = if k = c then f else d.2.1 k := rfl
/-- what a run brings -/
def zw (x : Option (Option mx_V × zd_D)) (Q : Option mx_V → zd_D → Prop) : Prop := ∃ v d, x = some (v, d) ∧ Q v d
theorem zw_ret {v : Option mx_V} {d : zd_D} {Q : Option mx_V → zd_D → Prop} (h : Q v d) : zw (some (v, d)) Q := ⟨v, d, rfl, h⟩
theorem zw_bind {x : Option (Option mx_V × zd_D)} {K : Option mx_V × zd_D → Option (Option mx_V × zd_D)} {Q : Option mx_V → zd_D → Prop} (h : zw x fun v d => zw (K (v, d)) Q) : zw (x.bind K) Q := by
  obtain ⟨v, d, e, h⟩ := h
  rw [e]
  exact h
theorem zw_mono {x : Option (Option mx_V × zd_D)} {P Q : Option mx_V → zd_D → Prop} (h : zw x P) (hq : ∀ v d, P v d → Q v d) : zw x Q := by
  obtain ⟨v, d, e, h⟩ := h
  exact ⟨v, d, e, hq v d h⟩
theorem zw_call {x : Option (Option mx_V × zd_D)} {K : Option mx_V × zd_D → Option (Option mx_V × zd_D)} {v : Option mx_V} {d : zd_D} (h : x = some (v, d)) : x.bind K = K (v, d) := by rw [h]; rfl
/-! numbers -/
theorem zb_la (n j : Nat) : (no_index (OfNat.ofNat n) : Int32) + nI j = nI (OfNat.ofNat n + j) := nI_add n j
theorem zb_al (n j : Nat) : nI j + (no_index (OfNat.ofNat n) : Int32) = nI (j + OfNat.ofNat n) := nI_add j n
theorem zb_mul (a b : Nat) : nI a * nI b = nI (a * b) := (Int32.ofNat_mul a b).symm
theorem zb_lm (n j : Nat) : (no_index (OfNat.ofNat n) : Int32) * nI j = nI (OfNat.ofNat n * j) := zb_mul n j
theorem zb_ml (n j : Nat) : nI j * (no_index (OfNat.ofNat n) : Int32) = nI (j * OfNat.ofNat n) := zb_mul j n
theorem zb_ltl {j : Nat} (n : Nat) (hj : j < 2 ^ 31) (hn : (OfNat.ofNat n : Nat) < 2 ^ 31) : nI j < (no_index (OfNat.ofNat n) : Int32) ↔ j < (OfNat.ofNat n : Nat) := nI_ltI hj hn
theorem zb_llt {j : Nat} (n : Nat) (hj : j < 2 ^ 31) (hn : (OfNat.ofNat n : Nat) < 2 ^ 31) : (no_index (OfNat.ofNat n) : Int32) < nI j ↔ (OfNat.ofNat n : Nat) < j := nI_ltI hn hj
theorem zb_eql {j : Nat} (n : Nat) (hj : j < 2 ^ 31) (hn : (OfNat.ofNat n : Nat) < 2 ^ 31) : nI j = (no_index (OfNat.ofNat n) : Int32) ↔ j = (OfNat.ofNat n : Nat) := nI_eq hj hn
theorem zb_sub {a b : Nat} (h : b ≤ a) : nI a - nI b = nI (a - b) := by
  have : nI a = nI (a - b) + nI b := by rw [nI_add, Nat.sub_add_cancel h]
  rw [this, Int32.add_sub_cancel]
theorem zb_sl1 {j : Nat} (n : Nat) (h : (OfNat.ofNat n : Nat) ≤ j) : nI j - (no_index (OfNat.ofNat n) : Int32) = nI (j - OfNat.ofNat n) := zb_sub h
theorem zb_nn (n : Nat) : ¬ ((OfNat.ofNat n : Int32) < nI 0) ∨ 2 ^ 31 ≤ n := by
  by_cases h : n < 2 ^ 31
  · exact Or.inl (nI_nlt (Nat.zero_le _) h)
  · exact Or.inr (by omega)
theorem zb_lt0 {j : Nat} (hj : j < 2 ^ 31) : (nI j < 0) ↔ False := iff_false_intro (nI_pos hj)
/-- an int that isn't below zero -/
theorem zb_nat {x : Int32} (h : ¬ x < 0) : ∃ j : Nat, j < 2 ^ 31 ∧ x = nI j := nI_of h
theorem zb_toInt (x : Int32) : -2147483648 ≤ x.toInt ∧ x.toInt ≤ 2147483647 := ⟨Int32.le_toInt x, by have := Int32.toInt_lt x; omega⟩
theorem zb_neg_lt {x : Int32} (h : x < 0) {j : Nat} (hj : j < 2 ^ 31) : x < nI j := by
  rw [Int32.lt_iff_toInt_lt] at h ⊢
  rw [nI_toInt hj]
  have : (0 : Int32).toInt = 0 := by decide
  omega
