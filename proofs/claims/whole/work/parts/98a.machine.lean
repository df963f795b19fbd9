/-! ===== calls: machine ===== -/
def zGo (e : zd_D) (y : Nat → Nat) (t i : Nat) (gl : Bool) : Prop := e.1 91 8 = nI i ∧ e.1 91 9 = zy_kd y t i gl ∧ ((i < t ∧ (zy_l y i = true ∨ zy_d y i = true)) → e.1 91 7 = nI (zy_en y t i) ∧ e.1 91 11 = nI (zy_en y t i)) ∧ (i < t → zy_l y i = true → ∀ k, zy_lw y i (zy_en y t i) 14 = some k → e.1 91 10 = nI k) ∧ (i < t → zy_l y i = false → zy_d y i = true → zy_en y t i - i ≤ 3 → e.1 91 10 = nI (zy_nm y i (zy_en y t i - i)))
def zTp (d : zd_D) (y : Nat → Nat) (t i : Nat) (gl : Bool) : Prop := zY d y t ∧ d.1 35 2 = nI i ∧ d.1 35 3 = nI (zy_en y t i) ∧ d.1 35 4 = (if gl = true then 1 else 0)
section ZMachine
variable {nl : Int32} {a a' b b' : zd_D} {f f' : zF} {n w : Nat} {nu : Nat → Nat}
theorem zy_en_ge {y : Nat → Nat} {t i : Nat} (h : i ≤ t) : i ≤ zy_en y t i ∧ zy_en y t i ≤ t ∧ (i < t → i < zy_en y t i) := by
  unfold zy_en
  by_cases c : i < t
  · rw [if_pos c]
    have q1 := zy_to_ge (zy_l y) t 100 (i + 1)
    have q2 := zy_to_le (zy_l y) t 100 (i + 1) (by omega)
    have q3 := zy_to_ge (zy_d y) t 100 (i + 1)
    have q4 := zy_to_le (zy_d y) t 100 (i + 1) (by omega)
    split
    · omega
    · split <;> omega
  · rw [if_neg c]; omega
theorem zs_let_l : ∀ k, k < 14 → (zs_let (zs_beg k)).toNatClampNeg < 123 ∧ 97 ≤ (zs_let (zs_beg k)).toNatClampNeg ∧ nI (zs_let (zs_beg k)).toNatClampNeg = zs_let (zs_beg k) ∧ 0 < zy_len k := by decide +kernel
theorem zy_is_l {y : Nat → Nat} {t i k : Nat} (hy : ∀ i, i < t → y i < 256) (hi : i ≤ t) (hk : k < 14) (h : zy_is y i (zy_en y t i) k = true) : i < t ∧ zy_l y i = true := by
  obtain ⟨l1, l2, l3, l4⟩ := zs_let_l k hk
  unfold zy_is at h
  rw [Bool.and_eq_true, decide_eq_true_eq, Bool.not_eq_true'] at h
  have hit : i < t := by
    apply Classical.byContradiction
    intro c
    have : zy_en y t i = i := by unfold zy_en; rw [if_neg c]
    omega
  refine ⟨hit, ?_⟩
  have h0 : nI (y (i + 0)) = zs_let (zs_beg k + 0) := by
    apply Classical.byContradiction
    intro c
    have := (zs_any_iff (p := fun q => !decide (nI (y (i + q)) = zs_let (zs_beg k + q)))).mpr ⟨0, l4, by simp at c ⊢; exact c⟩
    rw [h.2] at this
    cases this
  rw [Nat.add_zero, Nat.add_zero, ← l3, nI_eq (by have := hy i hit; omega) (by omega)] at h0
  exact decide_eq_true (by omega)
theorem zy_part_cases {y : Nat → Nat} {t i : Nat} {gl : Bool} (hy : ∀ i, i < t → y i < 256) (hi : i ≤ t) : (∃ k, k < 8 ∧ gl = false ∧ zy_part y i (zy_en y t i) gl = nI k ∧ zy_kd y t i gl = 1 ∧ zy_lw y i (zy_en y t i) 14 = some k ∧ i < t ∧ zy_l y i = true) ∨ (zy_part y i (zy_en y t i) gl = -1 ∧ (¬ zy_kd y t i gl = 1 ∨ ∃ k, 8 ≤ k ∧ k < 14 ∧ zy_lw y i (zy_en y t i) 14 = some k ∧ i < t ∧ zy_l y i = true)) := by
  cases gl with
  | true =>
    right
    refine ⟨rfl, Or.inl ?_⟩
    unfold zy_kd
    simp only [if_true]
    split
    · decide
    · split
      · decide
      · split <;> decide
  | false =>
    cases hw : zy_lw y i (zy_en y t i) 14 with
    | some k =>
      obtain ⟨k1, k2⟩ := (zy_lw_some 14 k (by omega)).mp hw
      obtain ⟨hit, hl⟩ := zy_is_l hy hi k1 k2
      by_cases c : k < 8
      · left
        refine ⟨k, c, rfl, ?_, ?_, rfl, hit, hl⟩
        · unfold zy_part
          rw [(zy_lw_some 8 k (by omega)).mpr ⟨c, k2⟩]
          rfl
        · unfold zy_kd
          rw [if_neg (by omega), if_pos hl, hw]
          rfl
      · right
        refine ⟨?_, Or.inr ⟨k, by omega, k1, rfl, hit, hl⟩⟩
        unfold zy_part
        cases hw8 : zy_lw y i (zy_en y t i) 8 with
        | none => rfl
        | some q =>
          obtain ⟨q1, q2⟩ := (zy_lw_some 8 q (by omega)).mp hw8
          have := zy_is_one (by omega) (by omega) k2 q2
          omega
    | none =>
      right
      refine ⟨?_, Or.inl ?_⟩
      · unfold zy_part
        cases hw8 : zy_lw y i (zy_en y t i) 8 with
        | none => rfl
        | some q =>
          obtain ⟨q1, q2⟩ := (zy_lw_some 8 q (by omega)).mp hw8
          rw [(zy_lw_some 14 q (by omega)).mpr ⟨by omega, q2⟩] at hw
          cases hw
      · unfold zy_kd
        rw [hw]
        simp only [Bool.false_eq_true, if_false, Option.isSome_none]
        split
        · decide
        · split
          · decide
          · split
            · split <;> decide
            · decide
/-- the value that is told, on both sides -/
theorem zy_one_cases {y : Nat → Nat} {t i : Nat} {gl : Bool} (hy : ∀ i, i < t → y i < 256) (hi : i ≤ t) {c : Nat} (hc : c = 8 ∨ c = 11) : (∃ k, k < 3 ∧ zy_one y i (zy_en y t i) gl c = nI k ∧ zy_kd y t i gl = 1 ∧ zy_lw y i (zy_en y t i) 14 = some (c + k) ∧ i < t ∧ zy_l y i = true) ∨ (zy_one y i (zy_en y t i) gl c = -1 ∧ (¬ zy_kd y t i gl = 1 ∨ ∃ k, k < 14 ∧ (k < c ∨ c + 2 < k) ∧ zy_lw y i (zy_en y t i) 14 = some k ∧ i < t ∧ zy_l y i = true)) := by
  cases gl with
  | true =>
    right
    refine ⟨rfl, Or.inl ?_⟩
    unfold zy_kd
    simp only [if_true]
    split
    · decide
    · split
      · decide
      · split <;> decide
  | false =>
    have one : ∀ k, k < 14 → zy_is y i (zy_en y t i) k = true → ∀ q, q < 14 → ¬ q = k → zy_is y i (zy_en y t i) q = false := fun k hk h q hq hne => by
      cases e : zy_is y i (zy_en y t i) q with
      | false => rfl
      | true => exact absurd (zy_is_one hq hk e h) hne
    cases hw : zy_lw y i (zy_en y t i) 14 with
    | some k =>
      obtain ⟨k1, k2⟩ := (zy_lw_some 14 k (by omega)).mp hw
      obtain ⟨hit, hl⟩ := zy_is_l hy hi k1 k2
      have hkd : zy_kd y t i false = 1 := by
        unfold zy_kd
        rw [if_neg (by omega), if_pos hl, hw]
        rfl
      by_cases r : c ≤ k ∧ k ≤ c + 2
      · left
        refine ⟨k - c, by omega, ?_, hkd, by rw [show c + (k - c) = k by omega], hit, hl⟩
        unfold zy_one
        simp only [Bool.false_eq_true, if_false]
        have : k = c ∨ k = c + 1 ∨ k = c + 2 := by omega
        rcases this with q | q | q
        · subst q; rw [if_pos k2, Nat.sub_self]; rfl
        · subst q
          rw [one _ k1 k2 c (by omega) (by omega), if_neg (by decide), if_pos k2, show c + 1 - c = 1 by omega]; rfl
        · subst q
          rw [one _ k1 k2 c (by omega) (by omega), one _ k1 k2 (c + 1) (by omega) (by omega), if_neg (by decide), if_neg (by decide), if_pos k2, show c + 2 - c = 2 by omega]; rfl
      · right
        refine ⟨?_, Or.inr ⟨k, k1, by omega, rfl, hit, hl⟩⟩
        unfold zy_one
        rw [one _ k1 k2 c (by omega) (by omega), one _ k1 k2 (c + 1) (by omega) (by omega), one _ k1 k2 (c + 2) (by omega) (by omega)]
        rfl
    | none =>
      have none' : ∀ q, q < 14 → zy_is y i (zy_en y t i) q = false := fun q hq => by
        cases e : zy_is y i (zy_en y t i) q with
        | false => rfl
        | true =>
          rw [(zy_lw_some 14 q (by omega)).mpr ⟨hq, e⟩] at hw
          cases hw
      right
      refine ⟨?_, Or.inl ?_⟩
      · unfold zy_one
        rw [none' c (by omega), none' (c + 1) (by omega), none' (c + 2) (by omega)]
        rfl
      · unfold zy_kd
        rw [hw]
        simp only [Bool.false_eq_true, if_false, Option.isSome_none]
        split
        · decide
        · split
          · decide
          · split
            · split <;> decide
            · decide
theorem zy_num_cases {y : Nat → Nat} {t i : Nat} {gl : Bool} (ht : t ≤ 96) (hi : i ≤ t) : (∃ v, v < 1000 ∧ zy_num y t i gl = nI v ∧ zy_kd y t i gl = 2 ∧ (i < t ∧ zy_l y i = false ∧ zy_d y i = true ∧ zy_en y t i - i ≤ 3) ∧ v = zy_nm y i (zy_en y t i - i)) ∨ (zy_num y t i gl = -1 ∧ ¬ zy_kd y t i gl = 2) := by
  by_cases c : gl = false ∧ i < t ∧ zy_d y i = true ∧ zy_en y t i - i ≤ 3
  · left
    obtain ⟨c1, c2, c3, c4⟩ := c
    have hl : zy_l y i = false := by simpa using zy_ld c3
    have hen : zy_en y t i = zy_to (zy_d y) t 100 i := by unfold zy_en; rw [if_pos c2, if_neg (zy_ld c3), if_pos c3, zy_to_1 ht c2 c3]
    have hlt := zy_nm_lt (y := y) (i := i) (zy_en y t i - i) (fun k hk => zy_to_all (p := zy_d y) 100 i (i + k) (by omega) (by rw [← hen]; omega))
    have h1000 : 10 ^ (zy_en y t i - i) ≤ 10 ^ 3 := Nat.pow_le_pow_right (by omega) c4
    refine ⟨zy_nm y i (zy_en y t i - i), by omega, ?_, ?_, ⟨c2, hl, c3, c4⟩, rfl⟩
    · unfold zy_num; rw [if_pos ⟨c1, c2, c3, c4⟩]
    · unfold zy_kd
      rw [if_neg (by omega), if_neg (zy_ld c3), if_pos c3, c1, if_neg (by decide), if_neg (by omega)]
  · right
    refine ⟨by unfold zy_num; rw [if_neg c], ?_⟩
    unfold zy_kd
    by_cases e : i = t
    · rw [if_pos e]; decide
    rw [if_neg e]
    by_cases l : zy_l y i = true
    · rw [if_pos l]
      split
      · decide
      · split <;> decide
    rw [if_neg l]
    by_cases d : zy_d y i = true
    · rw [if_pos d]
      cases gl with
      | true => rw [if_pos rfl]; decide
      | false =>
        by_cases c3 : 3 < zy_en y t i - i
        · rw [if_neg (by decide), if_pos c3]; decide
        · exact absurd ⟨rfl, by omega, d, by omega⟩ c
    · rw [if_neg d]; decide
end ZMachine
