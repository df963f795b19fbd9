/-! ===== the costliest way: what both must come to ===== -/
/-- which orders can be come to -/
def zs_rc (f : zF) (n : Nat) (R : Nat → Bool) : Prop := R 0 = true ∧ ∀ e, e < zs_B f n n → R (zs_E f n e).1 = true → R (zs_E f n e).2 = true
def zs_rl (f : zF) (n : Nat) (R : Nat → Bool) : Prop := zs_rc f n R ∧ ∀ R', zs_rc f n R' → ∀ k, k ≤ n → R k = true → R' k = true
noncomputable def zs_R (f : zF) (n : Nat) : Nat → Bool := Classical.epsilon (zs_rl f n)
theorem zs_R_eq {f : zF} {n : Nat} {R : Nat → Bool} (h : zs_rl f n R) : zs_rl f n (zs_R f n) ∧ ∀ k, k ≤ n → R k = zs_R f n k := by
  have h2 : zs_rl f n (zs_R f n) := Classical.epsilon_spec ⟨R, h⟩
  refine ⟨h2, fun k hk => ?_⟩
  cases h3 : R k with
  | true => exact (h.2 _ h2.1 k hk h3).symm
  | false =>
    cases h4 : zs_R f n k with
    | false => rfl
    | true => have := h2.2 _ h.1 k hk h4; rw [h3] at this; cases this
/-- why there is no bound: a place without an edge, a turn without a number -/
def zs_no (f : zF) (n : Nat) (nu : Nat → Nat) : Prop := (∃ k, k < n ∧ zs_R f n k = true ∧ zs_B f n k = zs_B f n (k + 1)) ∨ ∃ e, e < zs_B f n n ∧ zs_R f n (zs_E f n e).1 = true ∧ zs_tn f n e = true ∧ nu e = 0
/-- mixes of the first e edges -/
def zs_M (nu : Nat → Nat) : Nat → Nat
  | 0 => 1
  | e + 1 => zs_M nu e * max 1 (nu e)
theorem zs_M_pos (nu : Nat → Nat) : ∀ e, 1 ≤ zs_M nu e
  | 0 => Nat.le_refl 1
  | e + 1 => Nat.mul_le_mul (zs_M_pos nu e) (Nat.le_max_left 1 (nu e))
theorem zs_M_le (nu : Nat → Nat) {e e' : Nat} (h : e ≤ e') : zs_M nu e ≤ zs_M nu e' := by
  induction h with
  | refl => exact Nat.le_refl _
  | step _ ih => exact Nat.le_trans ih (Nat.le_mul_of_pos_right _ (Nat.lt_of_lt_of_le Nat.zero_lt_one (Nat.le_max_left _ _)))
/-- a sum that begins with an edge, one more; 0 without one -/
def zs_sb (f : zF) (n : Nat) (C nu : Nat → Nat) (S : Nat → Nat → Nat) (mix e : Nat) : Nat :=
  if zs_tn f n e = true then (if nu e ≤ 1 ∨ mix / zs_M nu e % nu e = 0 then 0 else if S (mix - zs_M nu e) (zs_E f n e).2 = 0 then 0 else S (mix - zs_M nu e) (zs_E f n e).2 + C e)
  else if S mix (zs_E f n e).2 = 0 then 0 else S mix (zs_E f n e).2 + C e
def zs_mx (g : Nat → Nat) (lo : Nat) : Nat → Nat
  | 0 => 0
  | j + 1 => max (zs_mx g lo j) (g (lo + j))
def zs_bs (f : zF) (n : Nat) (C nu : Nat → Nat) (S : Nat → Nat → Nat) : Prop := ∀ mix, mix < zs_M nu (zs_B f n n) → S mix n = 1 ∧ ∀ k, k < n → S mix k = zs_mx (zs_sb f n C nu S mix) (zs_B f n k) (zs_B f n (k + 1) - zs_B f n k)
theorem zs_mx_congr {g h : Nat → Nat} {lo : Nat} : ∀ j, (∀ i, i < j → g (lo + i) = h (lo + i)) → zs_mx g lo j = zs_mx h lo j
  | 0, _ => rfl
  | j + 1, q => by
    show max _ _ = max _ _
    rw [zs_mx_congr j (fun i hi => q i (by omega)), q j (by omega)]
theorem zs_mx_le {g : Nat → Nat} {lo m : Nat} : ∀ j, (∀ i, i < j → g (lo + i) ≤ m) → zs_mx g lo j ≤ m
  | 0, _ => Nat.zero_le _
  | j + 1, q => Nat.max_le.mpr ⟨zs_mx_le j (fun i hi => q i (by omega)), q j (by omega)⟩
theorem zs_mx_ex {g : Nat → Nat} {lo : Nat} : ∀ j, 0 < zs_mx g lo j → ∃ i, i < j ∧ g (lo + i) = zs_mx g lo j
  | 0, h => absurd h (Nat.lt_irrefl 0)
  | j + 1, h => by
    have hs : zs_mx g lo (j + 1) = max (zs_mx g lo j) (g (lo + j)) := rfl
    by_cases hc : zs_mx g lo j ≤ g (lo + j)
    · exact ⟨j, by omega, by rw [hs, Nat.max_eq_right hc]⟩
    · rw [hs, Nat.max_eq_left (by omega)] at h ⊢
      obtain ⟨i, hi, e⟩ := zs_mx_ex j h
      exact ⟨i, by omega, e⟩
section ZsPath
variable {f : zF} {n : Nat} {C nu : Nat → Nat}
/-- a turn that may be taken leads to a lesser mix -/
theorem zs_turn {mix e : Nat} (h : ¬ (nu e ≤ 1 ∨ mix / zs_M nu e % nu e = 0)) : 1 ≤ zs_M nu e ∧ zs_M nu e ≤ mix := by
  refine ⟨zs_M_pos nu e, ?_⟩
  apply Classical.byContradiction
  intro hc
  exact h (Or.inr (by rw [Nat.div_eq_of_lt (by omega), Nat.zero_mod]))
theorem zs_sb_congr {S S' : Nat → Nat → Nat} {mix k e : Nat} (hk : k < n) (h1 : zs_B f n k ≤ e) (h2 : e < zs_B f n (k + 1)) (hm : ∀ m t, m < mix → t ≤ n → S m t = S' m t) (hs : ∀ t, k < t → t ≤ n → S mix t = S' mix t) : zs_sb f n C nu S mix e = zs_sb f n C nu S' mix e := by
  have hE := zs_Ein (f := f) hk h1 h2
  unfold zs_sb zs_tn
  by_cases ht : (zs_E f n e).2 ≤ (zs_E f n e).1
  · simp only [ht, decide_true, if_true]
    by_cases hc : nu e ≤ 1 ∨ mix / zs_M nu e % nu e = 0
    · rw [if_pos hc, if_pos hc]
    · rw [if_neg hc, if_neg hc, hm _ _ (by have := zs_turn hc; omega) hE.2.1]
  · simp only [ht, decide_false, Bool.false_eq_true, if_false]
    rw [hs _ (by omega) hE.2.1]
theorem zs_bs_eq {S S' : Nat → Nat → Nat} (h : zs_bs f n C nu S) (h' : zs_bs f n C nu S') : ∀ mix k, mix < zs_M nu (zs_B f n n) → k ≤ n → S mix k = S' mix k := by
  intro mix
  induction mix using Nat.strongRecOn with
  | _ mix ih =>
    have key : ∀ m k, k + m = n → mix < zs_M nu (zs_B f n n) → S mix k = S' mix k := by
      intro m
      induction m using Nat.strongRecOn with
      | _ m ih2 =>
        intro k hk hM
        by_cases h0 : k = n
        · subst h0; rw [(h mix hM).1, (h' mix hM).1]
        · rw [(h mix hM).2 k (by omega), (h' mix hM).2 k (by omega)]
          refine zs_mx_congr _ fun i hi => zs_sb_congr (k := k) (by omega) (by omega) (by omega) (fun m t q1 q2 => ih m q1 t (by omega) q2) (fun t q1 q2 => ih2 (n - t) (by omega) t (by omega) hM)
    exact fun k hM hk => key (n - k) k (by omega) hM
noncomputable def zs_S (f : zF) (n : Nat) (C nu : Nat → Nat) : Nat → Nat → Nat := Classical.epsilon (zs_bs f n C nu)
theorem zs_S_eq {S : Nat → Nat → Nat} (h : zs_bs f n C nu S) : zs_bs f n C nu (zs_S f n C nu) ∧ ∀ mix k, mix < zs_M nu (zs_B f n n) → k ≤ n → S mix k = zs_S f n C nu mix k := by
  have h2 : zs_bs f n C nu (zs_S f n C nu) := Classical.epsilon_spec ⟨S, h⟩
  exact ⟨h2, zs_bs_eq h h2⟩
/-- sums don't grow beyond this -/
theorem zs_sb_le {S : Nat → Nat → Nat} {mix k e D : Nat} (hn : n ≤ 28) (hC : ∀ e, e < zs_B f n n → C e ≤ D) (hk : k < n) (h1 : zs_B f n k ≤ e) (h2 : e < zs_B f n (k + 1)) (hm : ∀ m t, m < mix → t ≤ n → S m t ≤ 1 + D * (29 * m + (n - t))) (hs : ∀ t, k < t → t ≤ n → S mix t ≤ 1 + D * (29 * mix + (n - t))) : zs_sb f n C nu S mix e ≤ 1 + D * (29 * mix + (n - k)) := by
  have hE := zs_Ein (f := f) hk h1 h2
  have hCe := hC e (Nat.lt_of_lt_of_le h2 (zs_Bm hk))
  unfold zs_sb zs_tn
  by_cases ht : (zs_E f n e).2 ≤ (zs_E f n e).1
  · simp only [ht, decide_true, if_true]
    by_cases hc : nu e ≤ 1 ∨ mix / zs_M nu e % nu e = 0
    · rw [if_pos hc]; exact Nat.zero_le _
    · rw [if_neg hc]
      have hw := zs_turn hc
      have q := hm (mix - zs_M nu e) (zs_E f n e).2 (by omega) hE.2.1
      have q2 : D * (29 * (mix - zs_M nu e) + (n - (zs_E f n e).2)) + D ≤ D * (29 * mix + (n - k)) := by
        rw [← Nat.mul_succ]
        exact Nat.mul_le_mul_left _ (by omega)
      split <;> omega
  · simp only [ht, decide_false, Bool.false_eq_true, if_false]
    have q := hs (zs_E f n e).2 (by omega) hE.2.1
    have q2 : D * (29 * mix + (n - (zs_E f n e).2)) + D ≤ D * (29 * mix + (n - k)) := by
      rw [← Nat.mul_succ]
      exact Nat.mul_le_mul_left _ (by omega)
    split <;> omega
theorem zs_S_le {S : Nat → Nat → Nat} {D : Nat} (hn : n ≤ 28) (hC : ∀ e, e < zs_B f n n → C e ≤ D) (h : zs_bs f n C nu S) : ∀ mix k, mix < zs_M nu (zs_B f n n) → k ≤ n → S mix k ≤ 1 + D * (29 * mix + (n - k)) := by
  intro mix
  induction mix using Nat.strongRecOn with
  | _ mix ih =>
    have key : ∀ m k, k + m = n → mix < zs_M nu (zs_B f n n) → S mix k ≤ 1 + D * (29 * mix + (n - k)) := by
      intro m
      induction m using Nat.strongRecOn with
      | _ m ih2 =>
        intro k hk hM
        by_cases h0 : k = n
        · subst h0; rw [(h mix hM).1]; exact Nat.le_add_right _ _
        · rw [(h mix hM).2 k (by omega)]
          refine zs_mx_le _ fun i hi => zs_sb_le (k := k) hn hC (by omega) (by omega) (by omega) (fun m t q1 q2 => ih m q1 t (by omega) q2) (fun t q1 q2 => ih2 (n - t) (by omega) t (by omega) hM)
    exact fun k hM hk => key (n - k) k (by omega) hM
theorem zs_cb_le {ms : Nat} (hW : zW f n) (kd : Int32) (hit : Bool) : zs_cb f kd ms hit ≤ ms + 75 := by
  obtain ⟨-, -, ⟨-, -, -, ⟨r4, hr4, e4⟩, -, -, ⟨r7, hr7, e7⟩⟩, -⟩ := hW
  unfold zs_cb
  rw [e4, e7, nI_clamp (by omega), nI_clamp (by omega)]
  cases hit <;> repeat' (first | omega | split)
theorem zs_ec_le {lk : Int32} {ms : Nat} (hW : zW f n) (hms : ms < 2000) (e : Nat) : zs_ec f n lk ms e ≤ 2100 := by
  have h := zs_cb_le (ms := ms) hW (f (12 + 4 * (zs_E f n e).1)) (zs_hit f n lk (zs_E f n e).1)
  obtain ⟨r6, hr6, e6⟩ : ∃ r6, r6 ≤ 9 ∧ f 6 = nI r6 := hW.2.2.1.2.2.2.2.2.1
  unfold zs_ec zs_c
  rw [e6, nI_clamp (by omega)]
  split <;> omega
end ZsPath
/-- the bound -/
noncomputable def zs_bd (f : zF) (n : Nat) (C nu : Nat → Nat) : Int32 :=
  match Classical.propDecidable (zs_no f n nu) with
  | .isTrue _ => if n = 0 then 0 else -1000000005
  | .isFalse _ => if n = 0 then 0 else if 600 < zs_M nu (zs_B f n n) then -1000000004 else if zs_S f n C nu (zs_M nu (zs_B f n n) - 1) 0 = 0 then -1000000005 else nI (zs_S f n C nu (zs_M nu (zs_B f n n) - 1) 0 - 1)
theorem zs_bd_0 {f : zF} {C nu : Nat → Nat} : zs_bd f 0 C nu = 0 := by
  unfold zs_bd
  split <;> rfl
theorem zs_bd_no {f : zF} {n : Nat} {C nu : Nat → Nat} (h0 : ¬ n = 0) (h : zs_no f n nu) : zs_bd f n C nu = -1000000005 := by
  unfold zs_bd
  split
  · rw [if_neg h0]
  · next q _ => exact absurd h q
theorem zs_bd_sp {f : zF} {n : Nat} {C nu : Nat → Nat} (h0 : ¬ n = 0) (h : ¬ zs_no f n nu) (h6 : 600 < zs_M nu (zs_B f n n)) : zs_bd f n C nu = -1000000004 := by
  unfold zs_bd
  split
  · next q _ => exact absurd q h
  · rw [if_neg h0, if_pos h6]
theorem zs_bd_go {f : zF} {n : Nat} {C nu : Nat → Nat} (h0 : ¬ n = 0) (h : ¬ zs_no f n nu) (h6 : ¬ 600 < zs_M nu (zs_B f n n)) : zs_bd f n C nu = if zs_S f n C nu (zs_M nu (zs_B f n n) - 1) 0 = 0 then -1000000005 else nI (zs_S f n C nu (zs_M nu (zs_B f n n) - 1) 0 - 1) := by
  unfold zs_bd
  split
  · next q _ => exact absurd q h
  · rw [if_neg h0, if_neg h6]
