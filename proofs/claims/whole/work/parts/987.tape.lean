/-! ===== the machine's text: the reference's words ===== -/
def zy_len (k : Nat) : Nat := zs_beg (k + 1) - zs_beg k
def zy_is (y : Nat → Nat) (i j k : Nat) : Bool := decide (zy_len k = j - i) && !(zs_any (fun q => !decide (nI (y (i + q)) = zs_let (zs_beg k + q))) (zy_len k))
/-- which word it is -/
def zy_lw (y : Nat → Nat) (i j : Nat) : Nat → Option Nat
  | 0 => none
  | k + 1 => if zy_is y i j k = true then some k else zy_lw y i j k
def zy_nm (y : Nat → Nat) (i : Nat) : Nat → Nat
  | 0 => 0
  | q + 1 => 10 * zy_nm y i q + (y (i + q) - 48)
def zYm (b : zd_D) (y : Nat → Nat) (t : Nat) : Prop := b.1 91 4 = nI t ∧ t ≤ 96 ∧ (∀ i, i < t → y i < 256 ∧ b.1 94 i = nI (y i)) ∧ zR_k b
section ZTapeM
variable {nl : Int32} {a a' b b' : zd_D} {f : zF} {n w : Nat} {nu : Nat → Nat}
/-- what reading a word may change -/
def zKg (b d : zd_D) : Prop := zK 91 [] [7, 8, 9, 10, 11] b d
theorem zKg.Y {y : Nat → Nat} {t : Nat} {d : zd_D} (h : zYm b y t) (hk : zKg b d) : zYm d y t := by
  obtain ⟨h1, h2, h3, h4⟩ := h
  refine ⟨by rw [hk.2.1 4 (by decide)]; exact h1, h2, fun i hi => by rw [hk.1 94 (by decide) rfl]; exact h3 i hi, h4.m (hk.2.1 38 (by decide)) (hk.1 95 (by decide) rfl) (hk.1 96 (by decide) rfl)⟩
theorem zs_beg_lt : ∀ k, k < 14 → zs_beg k < zs_beg (k + 1) ∧ zs_beg (k + 1) ≤ 61 ∧ zy_len k ≤ 6 := by decide
theorem zy_is_one {y : Nat → Nat} {i j k k' : Nat} (hk : k < 14) (hk' : k' < 14) (h : zy_is y i j k = true) (h' : zy_is y i j k' = true) : k = k' := by
  have key : ∀ k, k < 14 → ∀ k', k' < 14 → k = k' ∨ ¬ zy_len k = zy_len k' ∨ ∃ q, q < zy_len k ∧ ¬ zs_let (zs_beg k + q) = zs_let (zs_beg k' + q) := by decide +kernel
  unfold zy_is at h h'
  rw [Bool.and_eq_true, decide_eq_true_eq, Bool.not_eq_true'] at h h'
  have all : ∀ {k}, zs_any (fun q => !decide (nI (y (i + q)) = zs_let (zs_beg k + q))) (zy_len k) = false → ∀ q, q < zy_len k → nI (y (i + q)) = zs_let (zs_beg k + q) := by
    intro k hh q hq
    apply Classical.byContradiction
    intro c
    have := (zs_any_iff (p := fun q => !decide (nI (y (i + q)) = zs_let (zs_beg k + q)))).mpr ⟨q, hq, (by simp [c] : (!decide (nI (y (i + q)) = zs_let (zs_beg k + q))) = true)⟩
    rw [hh] at this
    cases this
  rcases key k hk k' hk' with e | e | ⟨q, hq, e⟩
  · exact e
  · omega
  · have q1 := all h.2 q hq
    have q2 := all h'.2 q (by omega)
    rw [q1] at q2
    exact absurd q2 e
theorem zy_lw_some {y : Nat → Nat} {i j : Nat} : ∀ m k, m ≤ 14 → (zy_lw y i j m = some k ↔ k < m ∧ zy_is y i j k = true)
  | 0, k, _ => by simp [zy_lw]
  | m + 1, k, hm => by
    unfold zy_lw
    by_cases c : zy_is y i j m = true
    · rw [if_pos c]
      constructor
      · intro e
        cases e
        exact ⟨by omega, c⟩
      · rintro ⟨h1, h2⟩
        rw [zy_is_one (by omega) (by omega) c h2]
    · rw [if_neg c, zy_lw_some m k (by omega)]
      constructor
      · rintro ⟨h1, h2⟩; exact ⟨by omega, h2⟩
      · rintro ⟨h1, h2⟩
        refine ⟨?_, h2⟩
        by_cases e : k = m
        · subst e; exact absurd h2 c
        · omega
/-- a run of letters, and which word it is -/
theorem rm_letters {y : Nat → Nat} {t i : Nat} (hY : zYm b y t) (hi : i < t) (h7 : b.1 91 7 = nI i) (h8 : b.1 91 8 = nI i) (hl : zy_l y i = true) : ∃ d, zm 174 0 [z_r 91, none, none, none, none] [] b = some (none, d) ∧ zKg b d ∧ d.1 91 8 = nI i ∧ d.1 91 7 = nI (zy_en y t i) ∧ d.1 91 9 = (if (zy_lw y i (zy_en y t i) 14).isSome = true then 1 else 3) ∧ (∀ k, zy_lw y i (zy_en y t i) 14 = some k → d.1 91 10 = nI k) ∧ d.1 91 11 = b.1 91 11 := by
  obtain ⟨h4, ht, hy, hk⟩ := hY
  have run : ∀ g j (d : zd_D), t - j = g → j ≤ t → zKg b d → d.1 91 7 = nI j → d.1 91 8 = nI i → d.1 91 11 = b.1 91 11 → ∃ d', zm 174 1 [z_r 91, none, none, none, none] [] d = zm 174 19 [z_r 91, z_i 0, none, none, none] [] d' ∧ zKg b d' ∧ d'.1 91 7 = nI (zy_to (zy_l y) t 100 j) ∧ d'.1 91 8 = nI i ∧ d'.1 91 9 = 3 ∧ d'.1 91 11 = b.1 91 11 := by
    intro g
    induction g with
    | zero =>
      intro j d hg hj k1 k2 k3 k4
      have : j = t := by omega
      subst this
      rw [em_174_1, k2, k1.2.1 4 (by decide), h4, if_neg (nI_nlt (Nat.le_refl _) (by omega))]
      exact ⟨_, rfl, k1.f _ rfl, by rw [zb_ui _ _ _ _ (by decide), zy_to_0 (by omega)]; exact k2, by rw [zb_ui _ _ _ _ (by decide)]; exact k3, zb_ue _ _ _ _, by rw [zb_ui _ _ _ _ (by decide)]; exact k4⟩
    | succ g ih =>
      intro j d hg hj k1 k2 k3 k4
      obtain ⟨y1, y2⟩ := hy j (by omega)
      rw [em_174_1, k2, k1.2.1 4 (by decide), h4, k1.1 94 (by decide) rfl, nI_clamp (by omega), y2, nI_1]
      have e0 : ∀ X Y : Option (Option mx_V × zd_D), (if nI j < nI t then cond (mx_in (nI j) 96) (if nI (y j) < 97 then X else cond (mx_in (nI j) 96) (if 122 < nI (y j) then X else Y) none) none else X) = if zy_l y j = true then Y else X := by
        intro X Y
        simp (disch := omega) only [zb_ltl, zb_llt, zb_eql, zb_leq, nI_ltI, nI_eq, zb_in, nI_clamp, zb_al, zb_la, zb_ml, zb_lm, zb_mul, nI_add, Bool.false_eq_true, reduceCtorEq, Nat.not_lt_zero, cond_true, cond_false, ↓reduceIte, if_true, if_false, Option.toList_some, Option.toList_none, List.nil_append, List.cons_append, Option.bind_some, show j < t by omega, zy_l, decide_eq_true_eq]
        grind
      rw [e0]
      by_cases c : zy_l y j = true
      · rw [if_pos c, zy_to_1 ht (by omega) c]
        exact ih (j + 1) _ (by omega) (by omega) (k1.f _ rfl) (zb_ue _ _ _ _) (by rw [zb_ui _ _ _ _ (by decide)]; exact k3) (by rw [zb_ui _ _ _ _ (by decide)]; exact k4)
      · rw [if_neg c, zy_to_0 (fun w => c w.2)]
        exact ⟨_, rfl, k1.f _ rfl, by rw [zb_ui _ _ _ _ (by decide)]; exact k2, by rw [zb_ui _ _ _ _ (by decide)]; exact k3, zb_ue _ _ _ _, by rw [zb_ui _ _ _ _ (by decide)]; exact k4⟩
  rw [em_174_0]
  obtain ⟨d1, e1, k1, k2, k3, k4, k5⟩ := run (t - i) i b rfl (by omega) zK.rf h7 h8 rfl
  have hen : zy_en y t i = zy_to (zy_l y) t 100 i := by unfold zy_en; rw [if_pos hi, if_pos hl, zy_to_1 ht hi hl]
  have hj1 : i ≤ zy_to (zy_l y) t 100 i := zy_to_ge _ _ _ _
  have hj2 : zy_to (zy_l y) t 100 i ≤ t := zy_to_le _ _ _ _ (by omega)
  rw [e1, hen]
  generalize zy_to (zy_l y) t 100 i = j at *
  -- word by word
  have word : ∀ k (d : zd_D), k < 14 → zKg b d → d.1 91 7 = nI j → d.1 91 8 = nI i → zm 174 19 [z_r 91, z_i (nI k), none, none, none] [] d = zm 174 19 [z_r 91, z_i (nI (k + 1)), none, none, none] [] (if zy_is y i j k = true then zd_u (zd_u d 91 9 1) 91 10 (nI k) else d) := by
    intro k d hk14 q1 q2 q3
    obtain ⟨b1, b2, b3⟩ := zs_beg_lt k hk14
    have g1 : d.1 96 k = nI (zs_beg k) := by rw [q1.1 96 (by decide) rfl]; exact hk.2.1 k (by omega)
    have g2 : d.1 96 (k + 1) = nI (zs_beg (k + 1)) := by rw [q1.1 96 (by decide) rfl]; exact hk.2.1 (k + 1) (by omega)
    have hlen : nI (zs_beg (k + 1)) - nI (zs_beg k) = nI (zy_len k) := zb_sub (by omega)
    have loop : zy_len k = j - i → ∀ g q, zy_len k - q = g → q ≤ zy_len k → zm 174 48 [z_r 91, z_i (nI k), z_i (nI (zy_len k)), z_i (if (!(zs_any (fun q => !decide (nI (y (i + q)) = zs_let (zs_beg k + q))) q)) = true then 1 else 0), z_i (nI q)] [] d = zm 174 19 [z_r 91, z_i (nI (k + 1)), none, none, none] [] (if (!(zs_any (fun q => !decide (nI (y (i + q)) = zs_let (zs_beg k + q))) (zy_len k))) = true then zd_u (zd_u d 91 9 1) 91 10 (nI k) else d) := by
      intro hle g
      induction g with
      | zero =>
        intro q hg hq
        have : q = zy_len k := by omega
        subst this
        rw [em_174_48, if_neg (nI_nlt (Nat.le_refl _) (by omega)), nI_1]
        cases zs_any (fun q => !decide (nI (y (i + q)) = zs_let (zs_beg k + q))) (zy_len k) with
        | true => rfl
        | false => rfl
      | succ g ih =>
        intro q hg hq
        obtain ⟨y1, y2⟩ := hy (i + q) (by omega)
        rw [em_174_48, if_pos (nI_lt (by omega) (by omega)), nI_1, nI_1]
        cases hm : zs_any (fun q => !decide (nI (y (i + q)) = zs_let (zs_beg k + q))) q with
        | true =>
          obtain ⟨q', hq', hp⟩ := zs_any_iff.mp hm
          rw [(zs_any_iff (p := fun q => !decide (nI (y (i + q)) = zs_let (zs_beg k + q)))).mpr ⟨q', by omega, hp⟩]
          rfl
        | false =>
          have hlet : b.1 95 (zs_beg k + q) = zs_let (zs_beg k + q) := hk.1 _ (by unfold zy_len at hg hq; omega)
          have hstep : zs_any (fun q => !decide (nI (y (i + q)) = zs_let (zs_beg k + q))) (q + 1) = !decide (nI (y (i + q)) = zs_let (zs_beg k + q)) := by
            show (zs_any _ q || _) = _
            rw [hm, Bool.false_or]
          have ih := ih (q + 1) (by omega) (by omega)
          rw [hstep] at ih
          simp only [Bool.not_false, if_true, show ¬ (1 : Int32) = 0 by decide, if_false]
          rw [q3, nI_add, zb_in (by omega) (by omega), nI_clamp (show k < 2 ^ 31 by omega), g1, nI_add, zb_in (show k < 15 by omega) (by omega), zb_in (by unfold zy_len at hg hq; omega) (by omega), nI_clamp (by omega), nI_clamp (by omega), q1.1 94 (by decide) rfl, q1.1 95 (by decide) rfl, y2, hlet, cond_true, cond_true, cond_true, ← ih]
          by_cases c : nI (y (i + q)) = zs_let (zs_beg k + q)
          · simp only [c, if_true, decide_true, Bool.not_true, Bool.not_false]
          · simp only [c, if_false, decide_false, Bool.not_true, Bool.not_false, Bool.false_eq_true]
    rw [em_174_19, if_pos (show nI k < 14 from nI_lt (b := 14) hk14 (by omega)), nI_1, zb_in (by omega) (by omega), zb_in (by omega) (by omega), nI_clamp (by omega), nI_clamp (by omega), g1, g2, hlen, q2, q3, zb_sub hj1]
    simp only [Bool.false_eq_true, reduceCtorEq, Nat.not_lt_zero, cond_true, cond_false, ↓reduceIte, if_true, if_false, Option.toList_some, Option.toList_none, List.nil_append, List.cons_append, Option.bind_some]
    unfold zy_is
    by_cases c : zy_len k = j - i
    · rw [if_pos (show nI (zy_len k) = nI (j - i) by rw [c])]
      refine Eq.trans (loop c (zy_len k) 0 rfl (Nat.zero_le _)) ?_
      rw [decide_eq_true c, Bool.true_and]
    · rw [if_neg (fun w => c ((nI_eq (by omega) (by omega)).mp w)), decide_eq_false c, Bool.false_and, em_174_48]
      rw [if_pos (show (0 : Int32) < nI (zy_len k) from nI_lt (a := 0) (by unfold zy_len; omega) (by omega)), if_pos rfl, if_pos rfl, nI_1]
      rfl
  obtain ⟨d2, ⟨w1, w2, w3, w4, w5, w6⟩, e2⟩ := zl_to (F := fun k d => zm 174 19 [z_r 91, z_i (nI k), none, none, none] [] d) (I := fun k d => zKg b d ∧ d.1 91 7 = nI j ∧ d.1 91 8 = nI i ∧ d.1 91 9 = (if (zy_lw y i j k).isSome = true then 1 else 3) ∧ (∀ q, zy_lw y i j k = some q → d.1 91 10 = nI q) ∧ d.1 91 11 = b.1 91 11) (n := 14) (by
    intro k d hk14 ⟨q1, q2, q3, q4, q5, q6⟩
    refine ⟨_, ?_, word k d hk14 q1 q2 q3⟩
    unfold zy_lw
    by_cases c : zy_is y i j k = true
    · rw [if_pos c, if_pos c]
      exact ⟨(q1.f _ rfl).f _ rfl, by rw [zb_ui _ _ _ _ (by decide), zb_ui _ _ _ _ (by decide)]; exact q2, by rw [zb_ui _ _ _ _ (by decide), zb_ui _ _ _ _ (by decide)]; exact q3, by rw [zb_ui _ _ _ _ (by decide), zb_ue]; rfl, fun q hq => by rw [zb_ue]; cases hq; rfl, by rw [zb_ui _ _ _ _ (by decide), zb_ui _ _ _ _ (by decide)]; exact q6⟩
    · rw [if_neg c, if_neg c]
      exact ⟨q1, q2, q3, q4, q5, q6⟩) 0 d1 (by omega) ⟨k1, k2, k3, k4, fun q hq => (by cases hq), k5⟩
  refine ⟨d2, ?_, w1, w3, w2, w4, w5, w6⟩
  refine Eq.trans e2 ?_
  (try dsimp only)
  rw [em_174_19, if_neg (show ¬ nI 14 < 14 by decide)]
theorem zy_nm_lt {y : Nat → Nat} {i : Nat} : ∀ q, (∀ k, k < q → zy_d y (i + k) = true) → zy_nm y i q < 10 ^ q
  | 0, _ => show 0 < 10 ^ 0 by decide
  | q + 1, h => by
    have ih := zy_nm_lt q (fun k hk => h k (by omega))
    have hd := of_decide_eq_true (h q (by omega))
    show 10 * zy_nm y i q + (y (i + q) - 48) < 10 ^ (q + 1)
    rw [Nat.pow_succ]
    omega
theorem zy_to_all {p : Nat → Bool} {t : Nat} : ∀ g i k, i ≤ k → k < zy_to p t g i → p k = true
  | 0, i, k, h1, h2 => absurd h2 (by show ¬ k < i; omega)
  | g + 1, i, k, h1, h2 => by
    unfold zy_to at h2
    by_cases c : i < t ∧ p i = true
    · rw [if_pos c] at h2
      by_cases e : k = i
      · subst e; exact c.2
      · exact zy_to_all g (i + 1) k (by omega) h2
    · rw [if_neg c] at h2
      omega
/-- a run of figures, and the number -/
theorem rm_figures {y : Nat → Nat} {t i : Nat} (hY : zYm b y t) (hi : i < t) (h7 : b.1 91 7 = nI i) (h8 : b.1 91 8 = nI i) (hl : ¬ zy_l y i = true) (hd : zy_d y i = true) : ∃ d, zm 175 0 [z_r 91] [] b = some (none, d) ∧ zKg b d ∧ d.1 91 8 = nI i ∧ d.1 91 7 = nI (zy_en y t i) ∧ d.1 91 9 = (if 3 < zy_en y t i - i then 3 else 2) ∧ (zy_en y t i - i ≤ 3 → d.1 91 10 = nI (zy_nm y i (zy_en y t i - i))) ∧ d.1 91 11 = b.1 91 11 := by
  obtain ⟨h4, ht, hy, hk⟩ := hY
  have hen : zy_en y t i = zy_to (zy_d y) t 100 i := by unfold zy_en; rw [if_pos hi, if_neg hl, if_pos hd, zy_to_1 ht hi hd]
  rw [hen]
  have run : ∀ g j (d : zd_D), t - j = g → i ≤ j → j ≤ t → (∀ k, i ≤ k → k < j → zy_d y k = true) → zKg b d → d.1 91 7 = nI j → d.1 91 8 = nI i → d.1 91 11 = b.1 91 11 → (j - i ≤ 3 → d.1 91 10 = nI (zy_nm y i (j - i))) → zy_to (zy_d y) t 100 j = zy_to (zy_d y) t 100 i → ∃ d', zm 175 4 [z_r 91] [] d = some (none, d') ∧ zKg b d' ∧ d'.1 91 8 = nI i ∧ d'.1 91 7 = nI (zy_to (zy_d y) t 100 i) ∧ d'.1 91 9 = (if 3 < zy_to (zy_d y) t 100 i - i then 3 else 2) ∧ (zy_to (zy_d y) t 100 i - i ≤ 3 → d'.1 91 10 = nI (zy_nm y i (zy_to (zy_d y) t 100 i - i))) ∧ d'.1 91 11 = b.1 91 11 := by
    intro g
    have stop : ∀ j (d : zd_D), i ≤ j → j ≤ t → zKg b d → d.1 91 7 = nI j → d.1 91 8 = nI i → d.1 91 11 = b.1 91 11 → (j - i ≤ 3 → d.1 91 10 = nI (zy_nm y i (j - i))) → j = zy_to (zy_d y) t 100 i → ∃ d', (if 3 < nI j - nI i then some (none, zd_u d 91 9 3) else some (none, zd_u d 91 9 2) : Option (Option mx_V × zd_D)) = some (none, d') ∧ zKg b d' ∧ d'.1 91 8 = nI i ∧ d'.1 91 7 = nI (zy_to (zy_d y) t 100 i) ∧ d'.1 91 9 = (if 3 < zy_to (zy_d y) t 100 i - i then 3 else 2) ∧ (zy_to (zy_d y) t 100 i - i ≤ 3 → d'.1 91 10 = nI (zy_nm y i (zy_to (zy_d y) t 100 i - i))) ∧ d'.1 91 11 = b.1 91 11 := by
      intro j d hij hj k1 k2 k3 k4 k5 k6
      rw [← k6, zb_sub hij]
      by_cases c : 3 < j - i
      · rw [if_pos (show 3 < nI (j - i) from nI_lt (a := 3) c (by omega)), if_pos c]
        exact ⟨_, rfl, k1.f _ rfl, by rw [zb_ui _ _ _ _ (by decide)]; exact k3, by rw [zb_ui _ _ _ _ (by decide)]; exact k2, zb_ue _ _ _ _, fun w => by omega, by rw [zb_ui _ _ _ _ (by decide)]; exact k4⟩
      · rw [if_neg (show ¬ 3 < nI (j - i) from nI_nlt (a := 3) (by omega) (by omega)), if_neg c]
        exact ⟨_, rfl, k1.f _ rfl, by rw [zb_ui _ _ _ _ (by decide)]; exact k3, by rw [zb_ui _ _ _ _ (by decide)]; exact k2, zb_ue _ _ _ _, fun w => by rw [zb_ui _ _ _ _ (by decide)]; exact k5 w, by rw [zb_ui _ _ _ _ (by decide)]; exact k4⟩
    induction g with
    | zero =>
      intro j d hg hij hj hall k1 k2 k3 k4 k5 k6
      have : j = t := by omega
      subst this
      rw [em_175_4, k2, k3, k1.2.1 4 (by decide), h4, if_neg (show ¬ nI j < nI j from nI_nlt (Nat.le_refl _) (by omega))]
      exact stop j d hij hj k1 k2 k3 k4 k5 (by rw [← k6, zy_to_0 (by omega)])
    | succ g ih =>
      intro j d hg hij hj hall k1 k2 k3 k4 k5 k6
      obtain ⟨y1, y2⟩ := hy j (by omega)
      rw [em_175_4, k2, k3, k1.2.1 4 (by decide), h4, k1.1 94 (by decide) rfl, nI_clamp (show j < 2 ^ 31 by omega), y2]
      have e0 : ∀ X Y : Option (Option mx_V × zd_D), (if nI j < nI t then cond (mx_in (nI j) 96) (if nI (y j) < 48 then X else cond (mx_in (nI j) 96) (if 57 < nI (y j) then X else Y) none) none else X) = if zy_d y j = true then Y else X := by
        intro X Y
        simp (disch := omega) only [zb_ltl, zb_llt, zb_eql, zb_leq, nI_ltI, nI_eq, zb_in, nI_clamp, zb_al, zb_la, zb_ml, zb_lm, zb_mul, nI_add, Bool.false_eq_true, reduceCtorEq, Nat.not_lt_zero, cond_true, cond_false, ↓reduceIte, if_true, if_false, Option.toList_some, Option.toList_none, List.nil_append, List.cons_append, Option.bind_some, show j < t by omega, zy_d, decide_eq_true_eq]
        grind
      rw [e0]
      by_cases c : zy_d y j = true
      · have hcd := of_decide_eq_true c
        rw [if_pos c, zb_sub hij, zb_in (show j < 96 by omega) (by omega), cond_true, nI_1]
        have hall' : ∀ k, i ≤ k → k < j + 1 → zy_d y k = true := fun k h1 h2 => by
          by_cases e : k = j
          · subst e; exact c
          · exact hall k h1 (by omega)
        have k6' : zy_to (zy_d y) t 100 (j + 1) = zy_to (zy_d y) t 100 i := by rw [← zy_to_1 ht (by omega) c]; exact k6
        by_cases c3 : j - i < 3
        · rw [if_pos (show nI (j - i) < 3 from nI_lt (b := 3) c3 (by omega))]
          refine ih (j + 1) _ (by omega) (by omega) (by omega) hall' ((k1.f _ rfl).f _ rfl) (zb_ue _ _ _ _) (by rw [zb_ui _ _ _ _ (by decide), zb_ui _ _ _ _ (by decide)]; exact k3) (by rw [zb_ui _ _ _ _ (by decide), zb_ui _ _ _ _ (by decide)]; exact k4) (fun _ => ?_) k6'
          rw [zb_ui _ _ _ _ (by decide), zb_ue, k5 (by omega), zb_lm, nI_add, show j + 1 - i = (j - i) + 1 by omega]
          show nI (10 * zy_nm y i (j - i) + y j) - 48 = nI (10 * zy_nm y i (j - i) + (y (i + (j - i)) - 48))
          rw [show i + (j - i) = j by omega, ← Nat.add_sub_assoc hcd.1]
          exact zb_sub (b := 48) (by omega)
        · rw [if_neg (show ¬ nI (j - i) < 3 from nI_nlt (b := 3) (by omega) (by omega))]
          refine ih (j + 1) _ (by omega) (by omega) (by omega) hall' ((k1.f _ rfl).f _ rfl) (zb_ue _ _ _ _) (by rw [zb_ui _ _ _ _ (by decide), zb_ui _ _ _ _ (by decide)]; exact k3) (by rw [zb_ui _ _ _ _ (by decide), zb_ui _ _ _ _ (by decide)]; exact k4) (fun _ => by omega) k6'
      · rw [if_neg c]
        exact stop j d hij hj k1 k2 k3 k4 k5 (by rw [← k6, zy_to_0 (fun w => c w.2)])
  rw [em_175_0]
  obtain ⟨d', e', q1, q2, q3, q4, q5, q6⟩ := run (t - i) i (zd_u b 91 10 0) rfl (Nat.le_refl _) (by omega) (fun k h1 h2 => by omega) (zK.rf.f _ rfl) (by rw [zb_ui _ _ _ _ (by decide)]; exact h7) (by rw [zb_ui _ _ _ _ (by decide)]; exact h8) (by rw [zb_ui _ _ _ _ (by decide)]) (fun _ => by rw [zb_ue, Nat.sub_self]; rfl) rfl
  exact ⟨d', e', q1, q2, q3, q4, q5, q6⟩
/-- the kind of what is read: 0 the end, 1 a word, 2 a number, 3 else -/
def zy_kd (y : Nat → Nat) (t i : Nat) (gl : Bool) : Int32 := if i = t then 0 else if zy_l y i = true then (if gl = true then 3 else if (zy_lw y i (zy_en y t i) 14).isSome = true then 1 else 3) else if zy_d y i = true then (if gl = true then 3 else if 3 < zy_en y t i - i then 3 else 2) else 3
theorem rm_go {y : Nat → Nat} {t e : Nat} (hY : zYm b y t) (h7 : b.1 91 7 = nI e) (het : e ≤ t) {gl : Bool} (hgl : nI (zy_at y t e) = b.1 91 11 ↔ gl = true) : ∃ d, zm 171 0 [z_r 91, none] [] b = some (none, d) ∧ zKg b d ∧ d.1 91 8 = nI (zy_at y t e) ∧ d.1 91 9 = zy_kd y t (zy_at y t e) gl ∧ ((zy_at y t e < t ∧ (zy_l y (zy_at y t e) = true ∨ zy_d y (zy_at y t e) = true)) → d.1 91 7 = nI (zy_en y t (zy_at y t e)) ∧ d.1 91 11 = nI (zy_en y t (zy_at y t e))) ∧ (zy_at y t e < t → zy_l y (zy_at y t e) = true → ∀ k, zy_lw y (zy_at y t e) (zy_en y t (zy_at y t e)) 14 = some k → d.1 91 10 = nI k) ∧ (zy_at y t e < t → zy_l y (zy_at y t e) = false → zy_d y (zy_at y t e) = true → zy_en y t (zy_at y t e) - zy_at y t e ≤ 3 → d.1 91 10 = nI (zy_nm y (zy_at y t e) (zy_en y t (zy_at y t e) - zy_at y t e))) := by
  have hY0 := hY
  obtain ⟨h4, ht, hy, hk⟩ := hY
  have blank : ∀ g i (d : zd_D), t - i = g → i ≤ t → zKg b d → d.1 91 7 = nI i → d.1 91 11 = b.1 91 11 → ∃ d', zm 171 1 [z_r 91, none] [] d = zm 171 21 [z_r 91, none] [] d' ∧ zKg b d' ∧ d'.1 91 7 = nI (zy_at y t i) ∧ d'.1 91 11 = b.1 91 11 := by
    intro g
    induction g with
    | zero =>
      intro i d hg hi k1 k2 k3
      have : i = t := by omega
      subst this
      refine ⟨d, ?_, k1, ?_, k3⟩
      · rw [em_171_1, k2, k1.2.1 4 (by decide), h4, if_neg (nI_nlt (Nat.le_refl _) (by omega))]
      · unfold zy_at; rw [zy_to_0 (by omega)]; exact k2
    | succ g ih =>
      intro i d hg hi k1 k2 k3
      obtain ⟨y1, y2⟩ := hy i (by omega)
      rw [em_171_1, k2, k1.2.1 4 (by decide), h4, if_pos (nI_lt (by omega) (by omega)), zb_in (by omega) (by omega), nI_clamp (by omega), k1.1 94 (by decide) rfl, y2, cond_true]
      by_cases c : y i = 32
      · rw [if_pos (show nI (y i) = 32 by rw [c]; rfl), nI_1]
        have hst : zy_at y t i = zy_at y t (i + 1) := zy_to_1 ht (by omega) (decide_eq_true c)
        rw [hst]
        exact ih (i + 1) _ (by omega) (by omega) (k1.f _ rfl) (zb_ue _ _ _ _) (by rw [zb_ui _ _ _ _ (by decide)]; exact k3)
      · rw [if_neg (show ¬ nI (y i) = 32 from fun w => c ((nI_eq (b := 32) (by omega) (by omega)).mp w))]
        refine ⟨d, rfl, k1, ?_, k3⟩
        unfold zy_at; rw [zy_to_0 (fun w => c (of_decide_eq_true w.2))]; exact k2
  rw [em_171_0]
  obtain ⟨d1, e1, k1, k2, k3⟩ := blank (t - e) e b rfl het zK.rf h7 rfl
  rw [e1]
  have hat1 : e ≤ zy_at y t e := zy_to_ge _ _ _ _
  have hat2 : zy_at y t e ≤ t := zy_to_le _ _ _ _ het
  generalize zy_at y t e = i at *
  have e2 : zm 171 21 [z_r 91, none] [] d1 = zm 171 35 [z_r 91, z_i (if gl = true then 1 else 0)] [] (zd_u d1 91 8 (nI i)) := by
    rw [em_171_21, k2, k3]
    cases hg : gl with
    | true => rw [if_pos (hgl.mpr hg)]; rfl
    | false => rw [if_neg (fun w => by have := hgl.mp w; rw [hg] at this; cases this)]; rfl
  rw [e2]
  have j1 : zKg b (zd_u d1 91 8 (nI i)) := k1.f _ rfl
  have j8 : (zd_u d1 91 8 (nI i)).1 91 8 = nI i := zb_ue _ _ _ _
  have j7 : (zd_u d1 91 8 (nI i)).1 91 7 = nI i := by rw [zb_ui _ _ _ _ (by decide)]; exact k2
  have j11 : (zd_u d1 91 8 (nI i)).1 91 11 = b.1 91 11 := by rw [zb_ui _ _ _ _ (by decide)]; exact k3
  generalize zd_u d1 91 8 (nI i) = d2 at *
  have j4 : d2.1 91 4 = nI t := by rw [j1.2.1 4 (by decide)]; exact h4
  by_cases c : i = t
  · refine ⟨_, ?_, j1.f 0 (i := 9) rfl, by rw [zb_ui _ _ _ _ (by decide)]; exact j8, by rw [zb_ue]; unfold zy_kd; rw [if_pos c], fun w => by omega, fun w => by omega, fun w => by omega⟩
    rw [em_171_35, j8, j4, if_pos (show nI i = nI t by rw [c])]
  have hit : i < t := by omega
  obtain ⟨y1, y2⟩ := hy i hit
  have e3 : zm 171 35 [z_r 91, z_i (if gl = true then 1 else 0)] [] d2 = if zy_l y i = true then (zm 174 0 [z_r 91, none, none, none, none] [] d2).bind fun q => zm 171 61 [z_r 91, z_i (if gl = true then 1 else 0)] (q.1.toList ++ []) q.2 else if zy_d y i = true then (zm 175 0 [z_r 91] [] d2).bind fun q => zm 171 64 [z_r 91, z_i (if gl = true then 1 else 0)] (q.1.toList ++ []) q.2 else some (none, zd_u d2 91 9 3) := by
    rw [em_171_35, j8, j4, j1.1 94 (by decide) rfl, nI_clamp (by omega), y2]
    generalize ((zm 174 0 [z_r 91, none, none, none, none] [] d2).bind fun q => zm 171 61 [z_r 91, z_i (if gl = true then 1 else 0)] (q.1.toList ++ []) q.2) = X
    generalize ((zm 175 0 [z_r 91] [] d2).bind fun q => zm 171 64 [z_r 91, z_i (if gl = true then 1 else 0)] (q.1.toList ++ []) q.2) = Y
    simp (disch := omega) only [zb_ltl, zb_llt, zb_eql, zb_leq, nI_ltI, nI_eq, zb_in, nI_clamp, zb_al, zb_la, zb_ml, zb_lm, zb_mul, nI_add, Bool.false_eq_true, reduceCtorEq, Nat.not_lt_zero, cond_true, cond_false, ↓reduceIte, if_true, if_false, Option.toList_some, Option.toList_none, List.nil_append, List.cons_append, Option.bind_some, hit, c, zy_l, zy_d, decide_eq_true_eq]
    grind (splits := 40)
  rw [e3]
  have hYd : zYm d2 y t := zKg.Y hY0 j1
  have fin61 : ∀ (r : Nat) (d : zd_D) (v : Int32), (r = 61 ∨ r = 64) → d.1 91 9 = v → ∃ d', zm 171 r [z_r 91, z_i (if gl = true then 1 else 0)] [] d = some (none, d') ∧ (zKg b d → zKg b d') ∧ d'.1 91 9 = (if gl = true then 3 else v) ∧ d'.1 91 11 = d.1 91 7 ∧ d'.1 91 7 = d.1 91 7 ∧ d'.1 91 8 = d.1 91 8 ∧ d'.1 91 10 = d.1 91 10 := by
    intro r d v hr hv
    have hw : ∀ u : Int32, ∃ d', (some (none, zd_u (zd_u d 91 9 u) 91 11 (d.1 91 7)) : Option (Option mx_V × zd_D)) = some (none, d') ∧ (zKg b d → zKg b d') ∧ d'.1 91 9 = u ∧ d'.1 91 11 = d.1 91 7 ∧ d'.1 91 7 = d.1 91 7 ∧ d'.1 91 8 = d.1 91 8 ∧ d'.1 91 10 = d.1 91 10 := fun u => ⟨_, rfl, fun q => (q.f _ rfl).f _ rfl, by rw [zb_ui _ _ _ _ (by decide), zb_ue], zb_ue _ _ _ _, by rw [zb_ui _ _ _ _ (by decide), zb_ui _ _ _ _ (by decide)], by rw [zb_ui _ _ _ _ (by decide), zb_ui _ _ _ _ (by decide)], by rw [zb_ui _ _ _ _ (by decide), zb_ui _ _ _ _ (by decide)]⟩
    have e6 : zm 171 r [z_r 91, z_i (if gl = true then 1 else 0)] [] d = some (none, zd_u (zd_u d 91 9 (if gl = true then 3 else v)) 91 11 (d.1 91 7)) := by
      rcases hr with rfl | rfl
      · rw [em_171_61, hv]; cases gl <;> rfl
      · rw [em_171_64, hv]; cases gl <;> rfl
    rw [e6]
    exact hw _
  by_cases cl : zy_l y i = true
  · rw [if_pos cl]
    obtain ⟨d3, e4, m1, m2, m3, m4, m5, m6⟩ := rm_letters hYd hit j7 j8 cl
    rw [e4]
    simp only [Bool.false_eq_true, reduceCtorEq, Nat.not_lt_zero, cond_true, cond_false, ↓reduceIte, if_true, if_false, Option.toList_some, Option.toList_none, List.nil_append, List.cons_append, Option.bind_some]
    obtain ⟨d4, e5, n1, n2, n3, n4, n5, n6⟩ := fin61 61 d3 _ (Or.inl rfl) m4
    refine ⟨d4, e5, n1 (j1.tr m1), by rw [n5]; exact m2, ?_, fun _ => ⟨by rw [n4]; exact m3, by rw [n3]; exact m3⟩, fun _ _ k hk => by rw [n6]; exact m5 k hk, fun _ w => by rw [cl] at w; cases w⟩
    rw [n2]; unfold zy_kd; rw [if_neg c, if_pos cl]
  · rw [if_neg cl]
    by_cases cd : zy_d y i = true
    · rw [if_pos cd]
      obtain ⟨d3, e4, m1, m2, m3, m4, m5, m6⟩ := rm_figures hYd hit j7 j8 cl cd
      rw [e4]
      simp only [Bool.false_eq_true, reduceCtorEq, Nat.not_lt_zero, cond_true, cond_false, ↓reduceIte, if_true, if_false, Option.toList_some, Option.toList_none, List.nil_append, List.cons_append, Option.bind_some]
      obtain ⟨d4, e5, n1, n2, n3, n4, n5, n6⟩ := fin61 64 d3 _ (Or.inr rfl) m4
      refine ⟨d4, e5, n1 (j1.tr m1), by rw [n5]; exact m2, ?_, fun _ => ⟨by rw [n4]; exact m3, by rw [n3]; exact m3⟩, fun _ w => absurd w cl, fun _ _ _ w => by rw [n6]; exact m5 w⟩
      rw [n2]; unfold zy_kd; rw [if_neg c, if_neg cl, if_pos cd]
    · rw [if_neg cd]
      refine ⟨_, rfl, j1.f _ rfl, by rw [zb_ui _ _ _ _ (by decide)]; exact j8, ?_, fun w => ?_, fun _ w => absurd w cl, fun _ _ w => absurd w cd⟩
      · rw [zb_ue]; unfold zy_kd; rw [if_neg c, if_neg cl, if_neg cd]
      · rcases w.2 with q | q
        · exact absurd q cl
        · exact absurd q cd
end ZTapeM
