/-! ===== more locked lines never make a bound greater ===== -/
section ZMono
variable {nl : Int32} {a a' b b' : zd_D} {f : zF} {n w : Nat} {nu : Nat → Nat}
theorem zs_X_mono {lk lk' : Int32} (hW : zW f n) (h : zs_must f n lk (zs_X f n lk)) (h' : zs_must f n lk' (zs_X f n lk')) (hs : ∀ l, l < 16 → zs_lk lk (nI l) = true → zs_lk lk' (nI l) = true) {k l : Nat} (hk : k < n) (hl : l < 16) (hlk : ¬ zs_lk lk' (nI l) = true) : zs_X f n lk' (16 * k + l) ≤ zs_X f n lk (16 * k + l) := by
  generalize hX : zs_X f n lk = X at *
  obtain ⟨⟨h1, h2⟩, h3, -⟩ := h
  have key := h'.2.2 (fun i => if zs_lk lk' (nI (i % 16)) = true then zs_rem f else X i) ⟨fun l hl => ?_, fun e he ht l hl => ?_⟩ (16 * k + l) (by omega)
  · (try dsimp only at key)
    rw [show (16 * k + l) % 16 = l by omega, if_neg hlk] at key
    exact key
  · (try dsimp only)
    split
    · exact Nat.le_refl _
    · exact h1 l hl
  · obtain ⟨e1, e2⟩ := zs_Elt he
    have hh := h2 e he ht l hl
    generalize (zs_E f n e).1 = p at *
    generalize (zs_E f n e).2 = t at *
    have hp := h3 (16 * p + l) (by omega)
    have htt := h3 (16 * t + l) (by omega)
    have m1 : (16 * p + l) % 16 = l := by omega
    have m2 : (16 * t + l) % 16 = l := by omega
    rcases zs_ln_cases (hW.2.2.2 p e1).1 with q | q | ⟨m, hm, q⟩
    · rw [zs_af_0 q] at hh ⊢
      (try dsimp only)
      rw [m1, m2]
      split
      · exact Nat.le_refl _
      · exact hh
    · rw [zs_af_1 q] at hh ⊢
      (try dsimp only)
      rw [m1, m2]
      by_cases c : zs_lk lk' (nI l) = true
      · rw [if_pos c, if_pos c, if_neg (Nat.lt_irrefl _)]; exact Nat.le_refl _
      · rw [if_neg c, if_neg c]; exact hh
    · rw [zs_af_q hm q] at hh ⊢
      (try dsimp only)
      have m3 : (16 * p + m) % 16 = m := by omega
      have hpm := h3 (16 * p + m) (by omega)
      rw [m1, m2, m3]
      by_cases c : zs_lk lk' (nI l) = true
      · simp only [c, if_true]
        by_cases d : zs_lk lk' (nI m) = true
        · rw [if_pos (Or.inl d)]; exact Nat.le_refl _
        · simp only [d]
          have : ¬ m = l := fun w => d (by rw [w]; exact c)
          simp only [this, if_false]
          split
          · exact Nat.le_refl _
          · rw [if_neg (by simp; omega)]
            exact Nat.le_refl _
      · simp only [c]
        by_cases d : zs_lk lk' (nI m) = true
        · have : ¬ m = l := fun w => c (by rw [← w]; exact d)
          rw [if_pos (Or.inl d)]
          refine Nat.le_trans ?_ hh
          simp only [this]
          repeat' split
          all_goals first | omega | simp_all
        · have d' : ¬ zs_lk lk (nI m) = true := fun w => d (hs m hm w)
          simp only [d, d'] at hh ⊢
          exact hh
theorem zs_hit_mono {lk lk' : Int32} (hW : zW f n) (h : zs_must f n lk (zs_X f n lk)) (h' : zs_must f n lk' (zs_X f n lk')) (hs : ∀ l, l < 16 → zs_lk lk (nI l) = true → zs_lk lk' (nI l) = true) {k : Nat} (hk : k < n) (hh : zs_hit f n lk k = true) : zs_hit f n lk' k = true := by
  unfold zs_hit at hh ⊢
  rw [Bool.and_eq_true, Bool.or_eq_true] at hh ⊢
  refine ⟨hh.1, ?_⟩
  have hneg := of_decide_eq_true hh.1
  rcases zs_ln_cases (hW.2.2.2 k hk).1 with q | q | ⟨m, hm, q⟩
  · rw [q] at hneg; exact absurd (by decide) hneg
  · rw [q] at hneg; exact absurd (by decide) hneg
  · rw [q] at hh ⊢
    rw [nI_clamp (by omega)] at hh ⊢
    by_cases c : zs_lk lk' (nI m) = true
    · exact Or.inl c
    · right
      rcases hh.2 with w | w
      · exact absurd (hs m hm w) c
      · have := zs_X_mono hW h h' hs hk hm c
        have w := of_decide_eq_true w
        exact decide_eq_true (by omega)
theorem zs_cb_mono (kd : Int32) (ms : Nat) {h h' : Bool} (q : h = true → h' = true) : zs_cb f kd ms h' ≤ zs_cb f kd ms h := by
  cases h with
  | true => rw [q rfl]; exact Nat.le_refl _
  | false =>
    cases h' with
    | false => exact Nat.le_refl _
    | true =>
      unfold zs_cb
      by_cases c1 : kd = 1
      · simp [c1]
      · by_cases c2 : kd = 2
        · simp [c2]
        · simp only [c1, c2, if_false]
          exact Nat.le_refl _
theorem zs_ec_mono {lk lk' : Int32} (hW : zW f n) (h : zs_must f n lk (zs_X f n lk)) (h' : zs_must f n lk' (zs_X f n lk')) (hs : ∀ l, l < 16 → zs_lk lk (nI l) = true → zs_lk lk' (nI l) = true) (ms : Nat) {e : Nat} (he : e < zs_B f n n) : zs_ec f n lk' ms e ≤ zs_ec f n lk ms e := by
  unfold zs_ec zs_c
  exact Nat.add_le_add_right (zs_cb_mono _ _ (zs_hit_mono hW h h' hs (zs_Elt he).1)) _
theorem zs_mx_mono {g h : Nat → Nat} {lo : Nat} : ∀ j, (∀ i, i < j → g (lo + i) ≤ h (lo + i)) → zs_mx g lo j ≤ zs_mx h lo j
  | 0, _ => Nat.le_refl _
  | j + 1, q => by
    show max _ _ ≤ max _ _
    have q1 := zs_mx_mono j (fun i hi => q i (by omega))
    have q2 := q j (by omega)
    omega
theorem zs_mx_zero {g h : Nat → Nat} {lo : Nat} : ∀ j, (∀ i, i < j → (g (lo + i) = 0 ↔ h (lo + i) = 0)) → (zs_mx g lo j = 0 ↔ zs_mx h lo j = 0)
  | 0, _ => Iff.rfl
  | j + 1, q => by
    show max _ _ = 0 ↔ max _ _ = 0
    have q1 := zs_mx_zero j (fun i hi => q i (by omega))
    have q2 := q j (by omega)
    omega
theorem zs_S_mono {C C' : Nat → Nat} {S S' : Nat → Nat → Nat} (hC : ∀ e, e < zs_B f n n → C' e ≤ C e) (h : zs_bs f n C nu S) (h' : zs_bs f n C' nu S') : ∀ mix k, mix < zs_M nu (zs_B f n n) → k ≤ n → S' mix k ≤ S mix k ∧ (S' mix k = 0 ↔ S mix k = 0) := by
  intro mix
  induction mix using Nat.strongRecOn with
  | _ mix ih =>
    have key : ∀ m k, k + m = n → mix < zs_M nu (zs_B f n n) → S' mix k ≤ S mix k ∧ (S' mix k = 0 ↔ S mix k = 0) := by
      intro m
      induction m using Nat.strongRecOn with
      | _ m ih2 =>
        intro k hk hM
        by_cases h0 : k = n
        · subst h0; rw [(h mix hM).1, (h' mix hM).1]; exact ⟨Nat.le_refl _, Iff.rfl⟩
        · rw [(h mix hM).2 k (by omega), (h' mix hM).2 k (by omega)]
          have st : ∀ i, i < zs_B f n (k + 1) - zs_B f n k → zs_sb f n C' nu S' mix (zs_B f n k + i) ≤ zs_sb f n C nu S mix (zs_B f n k + i) ∧ (zs_sb f n C' nu S' mix (zs_B f n k + i) = 0 ↔ zs_sb f n C nu S mix (zs_B f n k + i) = 0) := by
            intro i hi
            have hE := zs_Ein (f := f) (show k < n by omega) (e := zs_B f n k + i) (by omega) (by omega)
            have hCe := hC (zs_B f n k + i) (Nat.lt_of_lt_of_le (by omega) (zs_Bm (show k + 1 ≤ n by omega)))
            unfold zs_sb
            generalize zs_B f n k + i = e at *
            by_cases ht : zs_tn f n e = true
            · rw [if_pos ht, if_pos ht]
              by_cases hc : nu e ≤ 1 ∨ mix / zs_M nu e % nu e = 0
              · rw [if_pos hc, if_pos hc]; exact ⟨Nat.le_refl _, Iff.rfl⟩
              · rw [if_neg hc, if_neg hc]
                have hw := zs_turn hc
                have q := ih (mix - zs_M nu e) (by omega) (zs_E f n e).2 (by omega) hE.2.1
                by_cases z : S (mix - zs_M nu e) (zs_E f n e).2 = 0
                · rw [if_pos z, if_pos (q.2.mpr z)]; exact ⟨Nat.le_refl _, Iff.rfl⟩
                · rw [if_neg z, if_neg (fun w => z (q.2.mp w))]
                  refine ⟨by omega, ?_⟩
                  have := q.2
                  omega
            · rw [if_neg ht, if_neg ht]
              have hlt : k < (zs_E f n e).2 := by
                unfold zs_tn at ht
                rw [decide_eq_true_eq] at ht
                omega
              have q := ih2 (n - (zs_E f n e).2) (by omega) (zs_E f n e).2 (by omega) hM
              by_cases z : S mix (zs_E f n e).2 = 0
              · rw [if_pos z, if_pos (q.2.mpr z)]; exact ⟨Nat.le_refl _, Iff.rfl⟩
              · rw [if_neg z, if_neg (fun w => z (q.2.mp w))]
                refine ⟨by omega, ?_⟩
                have := q.2
                omega
          exact ⟨zs_mx_mono _ (fun i hi => (st i hi).1), zs_mx_zero _ (fun i hi => (st i hi).2)⟩
    exact fun k hM hk => key (n - k) k (by omega) hM
end ZMono
