/-! ===== what a run leaves as it was; loops ===== -/
/-- all but some cells, and but some fields of one cell, is as before -/
def zK (o : Nat) (cs fs : List Nat) (d d' : zd_D) : Prop := (∀ c, ¬ c = o → cs.elem c = false → d'.1 c = d.1 c) ∧ (∀ i, fs.elem i = false → d'.1 o i = d.1 o i) ∧ d'.2 = d.2
section ZKRows
variable {o : Nat} {cs fs cs' fs' : List Nat} {d d' d'' : zd_D}
theorem zK.rf : zK o cs fs d d := ⟨fun _ _ _ => rfl, fun _ _ => rfl, rfl⟩
theorem zK.tr (h : zK o cs fs d d') (h2 : zK o cs fs d' d'') : zK o cs fs d d'' := ⟨fun c h1 h3 => (h2.1 c h1 h3).trans (h.1 c h1 h3), fun i hi => (h2.2.1 i hi).trans (h.2.1 i hi), h2.2.2.trans h.2.2⟩
theorem zK_sub {l l' : List Nat} (h : l.all (fun c => l'.elem c) = true) {c : Nat} (hc : l'.elem c = false) : l.elem c = false := by
  cases he : l.elem c with
  | false => rfl
  | true =>
    have := List.all_eq_true.mp h c (List.elem_iff.mp he)
    rw [hc] at this
    cases this
theorem zK.up (h : zK o cs fs d d') (h1 : cs.all (fun c => cs'.elem c) = true) (h2 : fs.all (fun c => fs'.elem c) = true) : zK o cs' fs' d d' :=
  ⟨fun c q1 q2 => h.1 c q1 (zK_sub h1 q2), fun i q => h.2.1 i (zK_sub h2 q), h.2.2⟩
theorem zK.u (h : zK o cs fs d d') {c : Nat} (i : Nat) (x : Int32) (ho : ¬ c = o) (hc : cs.elem c = true) : zK o cs fs d (zd_u d' c i x) :=
  ⟨fun k q1 q2 => (zb_uc d' c i x (fun e => by rw [e, hc] at q2; cases q2)).trans (h.1 k q1 q2), fun j q => by
    rw [zb_uc d' c i x (fun e => ho e.symm)]
    exact h.2.1 j q, h.2.2⟩
theorem zK.f (h : zK o cs fs d d') {i : Nat} (x : Int32) (hi : fs.elem i = true) : zK o cs fs d (zd_u d' o i x) :=
  ⟨fun k q1 q2 => (zb_uc d' o i x q1).trans (h.1 k q1 q2), fun j q => by
    rw [zb_ui d' o i x (fun e => by rw [e, hi] at q; cases q)]
    exact h.2.1 j q, h.2.2⟩
theorem zK.s (h : zK o cs fs d d') {c : Nat} (g : Nat → Int32) (ho : ¬ c = o) (hc : cs.elem c = true) : zK o cs fs d (zd_s d' c g) :=
  ⟨fun k q1 q2 => by
    rw [zb_s, if_neg (fun e => by rw [e, hc] at q2; cases q2)]
    exact h.1 k q1 q2, fun j q => by
    rw [zb_s, if_neg (fun e => ho e.symm)]
    exact h.2.1 j q, h.2.2⟩
end ZKRows
section ZLRows
variable {F : Nat → zd_D → Option (Option mx_V × zd_D)} {I : Nat → zd_D → Prop} {Q : Option mx_V → zd_D → Prop}
/-- a loop that counts up -/
theorem zl_up {n : Nat} (step : ∀ i d, i < n → I i d → (∃ d', I (i + 1) d' ∧ F i d = F (i + 1) d') ∨ zw (F i d) Q) (fin : ∀ d, I n d → zw (F n d) Q) : ∀ i d, i ≤ n → I i d → zw (F i d) Q := by
  intro i
  have key : ∀ m i d, m = n - i → i ≤ n → I i d → zw (F i d) Q := by
    intro m
    induction m with
    | zero =>
      intro i d hm hi h
      have : i = n := by omega
      subst this
      exact fin d h
    | succ m ih =>
      intro i d hm hi h
      rcases step i d (by omega) h with ⟨d', h1, h2⟩ | h1
      · rw [h2]
        exact ih (i + 1) d' (by omega) (by omega) h1
      · exact h1
  exact fun d => key _ i d rfl
/-- a loop that counts down -/
theorem zl_dn (step : ∀ i d, I (i + 1) d → (∃ d', I i d' ∧ F (i + 1) d = F i d') ∨ zw (F (i + 1) d) Q) (fin : ∀ d, I 0 d → zw (F 0 d) Q) : ∀ i d, I i d → zw (F i d) Q := by
  intro i
  induction i with
  | zero => exact fin
  | succ i ih =>
    intro d h
    rcases step i d h with ⟨d', h1, h2⟩ | h1
    · rw [h2]
      exact ih d' h1
    · exact h1
theorem zl_eq {α : Type} {G : Nat → α} {n : Nat} (h : ∀ i, i < n → G i = G (i + 1)) : ∀ i, i ≤ n → G 0 = G i := by
  intro i
  induction i with
  | zero => intro _; rfl
  | succ i ih => intro hi; exact (ih (by omega)).trans (h i (by omega))
theorem zl_eqf {α : Type} {G : Nat → α} {m n : Nat} (hmn : m ≤ n) (h : ∀ i, m ≤ i → i < n → G i = G (i + 1)) : G m = G n := by
  induction hmn with
  | refl => rfl
  | step hm ih => exact (ih (fun i h1 h2 => h i h1 (Nat.lt_succ_of_lt h2))).trans (h _ hm (Nat.lt_succ_self _))
/-- a loop with a measure -/
theorem zl_ms {α : Type} {G : α → Option (Option mx_V × zd_D)} {J : α → Prop} {P : Option mx_V → zd_D → Prop} (μ : α → Nat) (step : ∀ s, J s → (∃ s', J s' ∧ μ s' < μ s ∧ G s = G s') ∨ zw (G s) P) : ∀ s, J s → zw (G s) P := by
  have key : ∀ m s, μ s < m → J s → zw (G s) P := by
    intro m
    induction m with
    | zero => intro s h; exact absurd h (Nat.not_lt_zero _)
    | succ m ih =>
      intro s hm h
      rcases step s h with ⟨s', h1, h2, h3⟩ | h1
      · rw [h3]
        exact ih s' (by omega) h1
      · exact h1
  exact fun s h => key _ s (Nat.lt_succ_self _) h
end ZLRows
/-! numbers once more -/
theorem zb_leq {j : Nat} (n : Nat) (hj : j < 2 ^ 31) (hn : (OfNat.ofNat n : Nat) < 2 ^ 31) : (no_index (OfNat.ofNat n) : Int32) = nI j ↔ (OfNat.ofNat n : Nat) = j := nI_eq hn hj
theorem zb_ll (m n : Nat) (hm : (OfNat.ofNat m : Nat) < 2 ^ 31) (hn : (OfNat.ofNat n : Nat) < 2 ^ 31) : ((no_index (OfNat.ofNat m) : Int32) = (no_index (OfNat.ofNat n) : Int32)) ↔ (OfNat.ofNat m : Nat) = (OfNat.ofNat n : Nat) := nI_eq hm hn
theorem zb_lit (n : Nat) : (OfNat.ofNat n : Int32) = nI n := rfl
theorem zb_0 : nI 0 = 0 := rfl
theorem zb_1 : nI 1 = 1 := rfl
theorem zb_pred {n : Nat} (h : 0 < n) : nI n - 1 = nI (n - 1) := zb_sub (a := n) (b := 1) h
/-- below zero, or a number -/
theorem zb_sgn (x : Int32) : x < 0 ∨ ∃ j : Nat, j < 2 ^ 31 ∧ x = nI j := by
  by_cases h : x < 0
  · exact Or.inl h
  · exact Or.inr (zb_nat h)
theorem zb_neg1 (x : Int32) (hx : x < 0) (j : Nat) (hj : j < 2 ^ 31) : (nI j < x) ↔ False := by
  refine iff_false_intro fun h => ?_
  have h2 := zb_neg_lt hx hj
  rw [Int32.lt_iff_toInt_lt] at h h2
  omega
/-- so many of a set of places -/
def zs_cnt (p : Nat → Bool) : Nat → Nat
  | 0 => 0
  | n + 1 => zs_cnt p n + (if p n = true then 1 else 0)
theorem zs_cnt_le (p : Nat → Bool) : ∀ n, zs_cnt p n ≤ n
  | 0 => Nat.le_refl 0
  | n + 1 => by
    have := zs_cnt_le p n
    show zs_cnt p n + (if p n = true then 1 else 0) ≤ n + 1
    split <;> omega
theorem zs_cnt_congr {p q : Nat → Bool} : ∀ n, (∀ i, i < n → p i = q i) → zs_cnt p n = zs_cnt q n
  | 0, _ => rfl
  | n + 1, h => by
    show zs_cnt p n + _ = zs_cnt q n + _
    rw [zs_cnt_congr n (fun i hi => h i (by omega)), h n (by omega)]
theorem zl_to {F : Nat → zd_D → Option (Option mx_V × zd_D)} {I : Nat → zd_D → Prop} {n : Nat} (step : ∀ i d, i < n → I i d → ∃ d', I (i + 1) d' ∧ F i d = F (i + 1) d') : ∀ i d, i ≤ n → I i d → ∃ d', I n d' ∧ F i d = F n d' := by
  intro i
  have key : ∀ m i d, m = n - i → i ≤ n → I i d → ∃ d', I n d' ∧ F i d = F n d' := by
    intro m
    induction m with
    | zero =>
      intro i d hm hi h
      have : i = n := by omega
      subst this
      exact ⟨d, h, rfl⟩
    | succ m ih =>
      intro i d hm hi h
      obtain ⟨d', h1, h2⟩ := step i d (by omega) h
      obtain ⟨d2, h3, h4⟩ := ih (i + 1) d' (by omega) (by omega) h1
      exact ⟨d2, h3, h2.trans h4⟩
  exact fun d => key _ i d rfl
theorem zl_td {F : Nat → zd_D → Option (Option mx_V × zd_D)} {I : Nat → zd_D → Prop} (step : ∀ i d, I (i + 1) d → ∃ d', I i d' ∧ F (i + 1) d = F i d') : ∀ i d, I i d → ∃ d', I 0 d' ∧ F i d = F 0 d' := by
  intro i
  induction i with
  | zero => exact fun d h => ⟨d, h, rfl⟩
  | succ i ih =>
    intro d h
    obtain ⟨d', h1, h2⟩ := step i d h
    obtain ⟨d2, h3, h4⟩ := ih d' h1
    exact ⟨d2, h3, h2.trans h4⟩
def zs_sum (g : Nat → Nat) : Nat → Nat
  | 0 => 0
  | n + 1 => zs_sum g n + g n
theorem zs_sum_le {g h : Nat → Nat} : ∀ n, (∀ i, i < n → g i ≤ h i) → zs_sum g n ≤ zs_sum h n
  | 0, _ => Nat.le_refl 0
  | n + 1, q => Nat.add_le_add (zs_sum_le n (fun i hi => q i (by omega))) (q n (by omega))
theorem zs_sum_lt {g h : Nat → Nat} : ∀ n, (∀ i, i < n → g i ≤ h i) → (∃ i, i < n ∧ g i < h i) → zs_sum g n < zs_sum h n
  | 0, _, ⟨i, hi, _⟩ => absurd hi (Nat.not_lt_zero i)
  | n + 1, q, ⟨i, hi, h2⟩ => by
    by_cases hin : i = n
    · subst hin
      exact Nat.add_lt_add_of_le_of_lt (zs_sum_le i (fun j hj => q j (by omega))) h2
    · exact Nat.add_lt_add_of_lt_of_le (zs_sum_lt n (fun j hj => q j (by omega)) ⟨i, by omega, h2⟩) (q n (by omega))
theorem zs_sum_const (c : Nat) : ∀ n, zs_sum (fun _ => c) n = n * c
  | 0 => (Nat.zero_mul c).symm
  | n + 1 => by
    show zs_sum (fun _ => c) n + c = (n + 1) * c
    rw [zs_sum_const c n, Nat.succ_mul]
def zs_any (p : Nat → Bool) : Nat → Bool
  | 0 => false
  | n + 1 => zs_any p n || p n
theorem zs_any_iff {p : Nat → Bool} : ∀ {n : Nat}, zs_any p n = true ↔ ∃ j, j < n ∧ p j = true
  | 0 => ⟨fun h => (by cases h), fun ⟨j, h, _⟩ => absurd h (Nat.not_lt_zero j)⟩
  | n + 1 => by
    show (zs_any p n || p n) = true ↔ _
    rw [Bool.or_eq_true, zs_any_iff]
    constructor
    · rintro (⟨j, h1, h2⟩ | h)
      · exact ⟨j, by omega, h2⟩
      · exact ⟨n, by omega, h⟩
    · rintro ⟨j, h1, h2⟩
      by_cases hj : j = n
      · subst hj; exact Or.inr h2
      · exact Or.inl ⟨j, by omega, h2⟩
