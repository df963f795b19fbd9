/-! ===== calls: check ===== -/
/-- what the first e edges add to the sum -/
def zs_sm (f : zF) (n : Nat) (nu : Nat → Nat) (W : Nat → Int32) : Nat → Int64
  | 0 => if n = 0 then 0 else (W 0).toInt64
  | e + 1 => if zs_tn f n e = true then zs_sm f n nu W e + (W (n + zs_cnt (zs_tn f n) e)).toInt64 * (nI (nu e - 1)).toInt64 else zs_sm f n nu W e
section ZCheck
variable {nl : Int32} {a a' b b' : zd_D} {f : zF} {n w : Nat} {nu : Nat → Nat}
theorem zs_cnt_step (p : Nat → Bool) (e : Nat) : zs_cnt p (e + 1) = zs_cnt p e + (if p e = true then 1 else 0) := rfl
theorem zs_cnt_up (p : Nat → Bool) {i j : Nat} (h : i ≤ j) : zs_cnt p i ≤ zs_cnt p j := by
  induction j with
  | zero => rw [show i = 0 by omega]; exact Nat.le_refl _
  | succ j ih =>
    by_cases e : i = j + 1
    · rw [e]; exact Nat.le_refl _
    · have := ih (by omega)
      rw [zs_cnt_step]; omega
theorem rm_toldof (hW : zW f n) (hV : zV 92 b f) (hE : zME b f n) {e : Nat} (he : e < zs_B f n n) (h60 : n + zs_cnt (zs_tn f n) (zs_B f n n) ≤ 60) : zm 276 0 [z_r 91, z_i (nI e), none, none] [] b = some (some (.inl (if zs_tn f n e = true then b.1 129 (n + zs_cnt (zs_tn f n) e) else 0)), b) := by
  have hn := hW.le
  have hB := zs_B812 (f := f) hn (Nat.le_refl n)
  rw [em_276_0, hV.sz hW]
  have := zl_eq (G := fun i => zm 276 8 [z_r 91, z_i (nI e), z_i (nI (n + zs_cnt (zs_tn f n) i)), z_i (nI i)] [] b) (n := e) (by
    intro i hi
    try dsimp only
    obtain ⟨q1, q2⟩ := hE.2.1 i (by omega)
    obtain ⟨l1, l2⟩ := zs_Elt (show i < zs_B f n n by omega)
    have hc := zs_cnt_le (zs_tn f n) i
    rw [em_276_8, nI_clamp (n := i) (by omega), q1, q2]
    simp (disch := omega) only [zb_ltl, zb_llt, zb_eql, zb_leq, nI_ltI, nI_eq, zb_in, nI_clamp, zb_al, zb_la, zb_ml, zb_lm, zb_mul, nI_add, Bool.false_eq_true, reduceCtorEq, Nat.not_lt_zero, cond_true, cond_false, ↓reduceIte, if_true, if_false, Option.toList_some, Option.toList_none, List.nil_append, List.cons_append, Option.bind_some, hi, Nat.add_zero, zs_cnt_step]
    by_cases ht : (zs_E f n i).1 < (zs_E f n i).2
    · have hnt : ¬ zs_tn f n i = true := by unfold zs_tn; rw [decide_eq_true_eq]; omega
      simp only [ht, hnt, Bool.false_eq_true, reduceCtorEq, Nat.not_lt_zero, cond_true, cond_false, ↓reduceIte, if_true, if_false, Option.toList_some, Option.toList_none, List.nil_append, List.cons_append, Option.bind_some, Nat.add_zero]
    · have htn : zs_tn f n i = true := by unfold zs_tn; rw [decide_eq_true_eq]; omega
      simp only [ht, htn, Bool.false_eq_true, reduceCtorEq, Nat.not_lt_zero, cond_true, cond_false, ↓reduceIte, if_true, if_false, Option.toList_some, Option.toList_none, List.nil_append, List.cons_append, Option.bind_some, Nat.add_assoc]) e (Nat.le_refl _)
  refine Eq.trans this ?_
  try dsimp only
  obtain ⟨q1, q2⟩ := hE.2.1 e he
  obtain ⟨l1, l2⟩ := zs_Elt he
  have hc := zs_cnt_le (zs_tn f n) e
  rw [em_276_8, nI_clamp (n := e) (by omega), q1, q2]
  by_cases ht : (zs_E f n e).1 < (zs_E f n e).2
  · have hnt : ¬ zs_tn f n e = true := by unfold zs_tn; rw [decide_eq_true_eq]; omega
    simp (disch := omega) only [zb_ltl, zb_llt, zb_eql, zb_leq, nI_ltI, nI_eq, zb_in, nI_clamp, zb_al, zb_la, zb_ml, zb_lm, zb_mul, nI_add, Bool.false_eq_true, reduceCtorEq, Nat.not_lt_zero, cond_true, cond_false, ↓reduceIte, if_true, if_false, Option.toList_some, Option.toList_none, List.nil_append, List.cons_append, Option.bind_some, ht, hnt, Nat.lt_irrefl]
  · have htn : zs_tn f n e = true := by unfold zs_tn; rw [decide_eq_true_eq]; omega
    have h1 : zs_cnt (zs_tn f n) (e + 1) ≤ zs_cnt (zs_tn f n) (zs_B f n n) := zs_cnt_up _ (by omega)
    rw [zs_cnt_step, if_pos htn] at h1
    simp (disch := omega) only [zb_ltl, zb_llt, zb_eql, zb_leq, nI_ltI, nI_eq, zb_in, nI_clamp, zb_al, zb_la, zb_ml, zb_lm, zb_mul, nI_add, Bool.false_eq_true, reduceCtorEq, Nat.not_lt_zero, cond_true, cond_false, ↓reduceIte, if_true, if_false, Option.toList_some, Option.toList_none, List.nil_append, List.cons_append, Option.bind_some, ht, htn, Nat.lt_irrefl]
theorem rx_bel0 {u : Nat} (hu : u ≤ 60) (hn : n ≤ u) : zx nl 157 0 [z_r 0, z_i (nI n), z_i (nI u), none] [] a = some (some (.inl (if zs_any (fun i => decide (n ≤ i ∧ a.1 64 i < 0)) u = true then 1 else 0)), a) := by
  rw [ex_157_0]
  have key : ∀ d i, u - i = d → n ≤ i → i ≤ u → (∀ k, k < i → ¬ (n ≤ k ∧ a.1 64 k < 0)) → zx nl 157 3 [z_r 0, none, z_i (nI u), z_i (nI i)] [] a = some (some (.inl (if zs_any (fun i => decide (n ≤ i ∧ a.1 64 i < 0)) u = true then 1 else 0)), a) := by
    intro d
    induction d with
    | zero =>
      intro i hd h1 h2 h3
      have : i = u := by omega
      subst this
      rw [ex_157_3, if_neg (nI_nlt (Nat.le_refl _) (by omega)), if_neg (fun q => by
        obtain ⟨k, hk, hq⟩ := zs_any_iff.mp q
        exact h3 k hk (of_decide_eq_true hq))]
    | succ d ih =>
      intro i hd h1 h2 h3
      rw [ex_157_3, if_pos (nI_lt (by omega) (by omega)), zb_in (show i < 60 by omega) (by omega), nI_clamp (show i < 2 ^ 31 by omega)]
      by_cases c : a.1 64 i < 0
      · simp only [c, Bool.false_eq_true, reduceCtorEq, Nat.not_lt_zero, cond_true, cond_false, ↓reduceIte, if_true, if_false, Option.toList_some, Option.toList_none, List.nil_append, List.cons_append, Option.bind_some]
        rw [if_pos (zs_any_iff.mpr ⟨i, by omega, decide_eq_true ⟨h1, c⟩⟩)]
      · simp only [c, Bool.false_eq_true, reduceCtorEq, Nat.not_lt_zero, cond_true, cond_false, ↓reduceIte, if_true, if_false, Option.toList_some, Option.toList_none, List.nil_append, List.cons_append, Option.bind_some]
        rw [nI_1]
        exact ih (i + 1) (by omega) (by omega) (by omega) (fun k hk q => by
          by_cases e : k = i
          · subst e; exact c q.2
          · exact h3 k (by omega) q)
  exact key _ n rfl (Nat.le_refl _) hn (fun k hk q => by omega)
theorem rm_bel0 {u : Nat} (hu : u ≤ 60) (hn : n ≤ u) : zm 275 25 [z_r 91, z_i (nI u), z_i (nI n), z_i (nI n), none, none, none, none, none] [] b = if zs_any (fun i => decide (n ≤ i ∧ b.1 129 i < 0)) u = true then some (some (.inl (-1000000002)), b) else (zm 253 0 [z_r 91, z_i 1, none, none] [] b).bind fun q => zm 275 40 [z_r 91, z_i (nI u), z_i (nI n), z_i (nI u), none, none, none, none, none] (q.1.toList ++ []) q.2 := by
  have key : ∀ d i, u - i = d → n ≤ i → i ≤ u → (∀ k, k < i → ¬ (n ≤ k ∧ b.1 129 k < 0)) → zm 275 25 [z_r 91, z_i (nI u), z_i (nI n), z_i (nI i), none, none, none, none, none] [] b = if zs_any (fun i => decide (n ≤ i ∧ b.1 129 i < 0)) u = true then some (some (.inl (-1000000002)), b) else (zm 253 0 [z_r 91, z_i 1, none, none] [] b).bind fun q => zm 275 40 [z_r 91, z_i (nI u), z_i (nI n), z_i (nI u), none, none, none, none, none] (q.1.toList ++ []) q.2 := by
    intro d
    induction d with
    | zero =>
      intro i hd h1 h2 h3
      have : i = u := by omega
      subst this
      rw [em_275_25, if_neg (nI_nlt (Nat.le_refl _) (by omega)), if_neg (fun q => by
        obtain ⟨k, hk, hq⟩ := zs_any_iff.mp q
        exact h3 k hk (of_decide_eq_true hq))]
    | succ d ih =>
      intro i hd h1 h2 h3
      rw [em_275_25, if_pos (nI_lt (by omega) (by omega)), zb_in (show i < 60 by omega) (by omega), nI_clamp (show i < 2 ^ 31 by omega)]
      by_cases c : b.1 129 i < 0
      · simp only [c, Bool.false_eq_true, reduceCtorEq, Nat.not_lt_zero, cond_true, cond_false, ↓reduceIte, if_true, if_false, Option.toList_some, Option.toList_none, List.nil_append, List.cons_append, Option.bind_some]
        rw [if_pos (zs_any_iff.mpr ⟨i, by omega, decide_eq_true ⟨h1, c⟩⟩)]
      · simp only [c, Bool.false_eq_true, reduceCtorEq, Nat.not_lt_zero, cond_true, cond_false, ↓reduceIte, if_true, if_false, Option.toList_some, Option.toList_none, List.nil_append, List.cons_append, Option.bind_some]
        rw [nI_1]
        exact ih (i + 1) (by omega) (by omega) (by omega) (fun k hk q => by
          by_cases e : k = i
          · subst e; exact c q.2
          · exact h3 k (by omega) q)
  exact key _ n rfl (Nat.le_refl _) hn (fun k hk q => by omega)
theorem zc_check (h : zR a b) : zC (zx nl 156 0 [z_r 0, none, none, none] [] a) (zm 275 0 [z_r 91, none, none, none, none, none, none, none, none] [] b) := by
  have hz := h.q0
  have hq : zR_q a b := by
    obtain ⟨f, n, nu, w, ⟨hs, hi, hp, hr, hq, hh, hl, hk⟩, hf⟩ := h
    exact hq
  obtain ⟨u, hu, q1, q2, q3⟩ := hq
  rw [ex_156_0, em_275_0, q1, q2]
  have q3 : ∀ i, i < u → (zd_u a 0 14 0).1 64 i = (zd_u b 91 53 0).1 129 i := fun i hi => by rw [zb_uc _ _ _ _ (by decide), zb_uc _ _ _ _ (by decide)]; exact q3 i hi
  generalize zd_u a 0 14 0 = a0 at *
  generalize zd_u b 91 53 0 = b0 at *
  clear h q1 q2
  obtain ⟨f, n, nu, w, h0, hf0⟩ := hz
  have hW := h0.W
  have hn := hW.le
  have hB := zs_B812 (f := f) hn (Nat.le_refl n)
  obtain ⟨b1, e1, m1, hA, -, -⟩ := rm_all hW h0.V
  have hcm : zCm b0 b1 := m1.cm (by decide) (by decide)
  have h1 : zR0 a0 b1 f n nu w := h0.m hcm
  have hf1 : zR_f a0 (b1.1 92 9) f n nu := by rw [hcm.1 92 (by omega)]; exact hf0
  have hz1 : zR a0 b1 := ⟨f, n, nu, w, h1, hf1⟩
  have q3 : ∀ i, i < u → a0.1 64 i = b1.1 129 i := fun i hi => by rw [hcm.1 129 (by omega)]; exact q3 i hi
  have hV := h1.V
  have hP := h1.P
  have hE := hA.1
  have same : ∀ v : Int32, zC (some (some (.inl v), a0)) (some (some (.inl v), b1)) := fun v => ⟨_, _, _, rfl, rfl, hz1⟩
  have hcT := zs_cnt_le (zs_tn f n) (zs_B f n n)
  have hcN := zs_cnt_le (fun e => decide (0 < nu e)) (zs_B f n n)
  have s30 : a0.1 3 0 = nI n := hP.1.1
  rw [e1, rx_turns hW hP]
  simp only [Bool.false_eq_true, reduceCtorEq, Nat.not_lt_zero, cond_true, cond_false, ↓reduceIte, if_true, if_false, Option.toList_some, Option.toList_none, List.nil_append, List.cons_append, Option.bind_some]
  rw [em_275_8, rm_turns hW hE, ex_156_12, s30, hV.sz hW]
  simp only [Bool.false_eq_true, reduceCtorEq, Nat.not_lt_zero, cond_true, cond_false, ↓reduceIte, if_true, if_false, Option.toList_some, Option.toList_none, List.nil_append, List.cons_append, Option.bind_some]
  rw [em_275_18]
  simp (disch := omega) only [zb_ltl, zb_llt, zb_eql, zb_leq, nI_ltI, nI_eq, zb_in, nI_clamp, zb_al, zb_la, zb_ml, zb_lm, zb_mul, nI_add, Bool.false_eq_true, reduceCtorEq, Nat.not_lt_zero, cond_true, cond_false, ↓reduceIte, if_true, if_false, Option.toList_some, Option.toList_none, List.nil_append, List.cons_append, Option.bind_some]
  by_cases c1 : u = n + zs_cnt (zs_tn f n) (zs_B f n n)
  rotate_left
  · simp only [c1, Bool.false_eq_true, reduceCtorEq, Nat.not_lt_zero, cond_true, cond_false, ↓reduceIte, if_true, if_false, Option.toList_some, Option.toList_none, List.nil_append, List.cons_append, Option.bind_some]; exact same _
  rw [if_pos c1, if_pos c1, rx_bel0 hu (by omega), rm_bel0 hu (by omega)]
  simp only [Bool.false_eq_true, reduceCtorEq, Nat.not_lt_zero, cond_true, cond_false, ↓reduceIte, if_true, if_false, Option.toList_some, Option.toList_none, List.nil_append, List.cons_append, Option.bind_some]
  rw [ex_156_24]
  have hany : zs_any (fun i => decide (n ≤ i ∧ a0.1 64 i < 0)) u = zs_any (fun i => decide (n ≤ i ∧ b1.1 129 i < 0)) u := by
    rw [Bool.eq_iff_iff, zs_any_iff, zs_any_iff]
    constructor
    · rintro ⟨j, hj, hq⟩
      rw [q3 j hj] at hq
      exact ⟨j, hj, hq⟩
    · rintro ⟨j, hj, hq⟩
      rw [← q3 j hj] at hq
      exact ⟨j, hj, hq⟩
  rw [hany]
  cases hb : zs_any (fun i => decide (n ≤ i ∧ b1.1 129 i < 0)) u with
  | true => simp only [Bool.false_eq_true, reduceCtorEq, Nat.not_lt_zero, cond_true, cond_false, ↓reduceIte, if_true, if_false, Option.toList_some, Option.toList_none, List.nil_append, List.cons_append, Option.bind_some, show ¬ (1 : Int32) = 0 by decide]; exact same _
  | false =>
    simp only [Bool.false_eq_true, reduceCtorEq, Nat.not_lt_zero, cond_true, cond_false, ↓reduceIte, if_true, if_false, Option.toList_some, Option.toList_none, List.nil_append, List.cons_append, Option.bind_some]
    rw [rx_told hW hP h1.N, rm_told hW hE h1.MN]
    simp only [Bool.false_eq_true, reduceCtorEq, Nat.not_lt_zero, cond_true, cond_false, ↓reduceIte, if_true, if_false, Option.toList_some, Option.toList_none, List.nil_append, List.cons_append, Option.bind_some]
    rw [ex_156_29, em_275_40, rm_turns hW hE]
    simp only [Bool.false_eq_true, reduceCtorEq, Nat.not_lt_zero, cond_true, cond_false, ↓reduceIte, if_true, if_false, Option.toList_some, Option.toList_none, List.nil_append, List.cons_append, Option.bind_some]
    rw [em_275_43]
    simp (disch := omega) only [zb_ltl, zb_llt, zb_eql, zb_leq, nI_ltI, nI_eq, zb_in, nI_clamp, zb_al, zb_la, zb_ml, zb_lm, zb_mul, nI_add, Bool.false_eq_true, reduceCtorEq, Nat.not_lt_zero, cond_true, cond_false, ↓reduceIte, if_true, if_false, Option.toList_some, Option.toList_none, List.nil_append, List.cons_append, Option.bind_some]
    have hle : zs_cnt (fun e => decide (0 < nu e)) (zs_B f n n) ≤ zs_cnt (zs_tn f n) (zs_B f n n) := zs_cnt_mono _ (fun i hi q => (h1.N i hi).2.2 (of_decide_eq_true q))
    by_cases c2 : zs_cnt (fun e => decide (0 < nu e)) (zs_B f n n) = zs_cnt (zs_tn f n) (zs_B f n n)
    rotate_left
    · simp only [c2, show zs_cnt (fun e => decide (0 < nu e)) (zs_B f n n) < zs_cnt (zs_tn f n) (zs_B f n n) by omega, Bool.false_eq_true, reduceCtorEq, Nat.not_lt_zero, cond_true, cond_false, ↓reduceIte, if_true, if_false, Option.toList_some, Option.toList_none, List.nil_append, List.cons_append, Option.bind_some]; exact same _
    have htold : ∀ e, e < zs_B f n n → zs_tn f n e = true → 0 < nu e := fun e he ht => of_decide_eq_true (zs_cnt_all (p := fun e => decide (0 < nu e)) _ (fun i hi q => (h1.N i hi).2.2 (of_decide_eq_true q)) c2 e he ht)
    simp only [c2, Nat.lt_irrefl, Bool.false_eq_true, reduceCtorEq, Nat.not_lt_zero, cond_true, cond_false, ↓reduceIte, if_true, if_false, Option.toList_some, Option.toList_none, List.nil_append, List.cons_append, Option.bind_some]
    obtain ⟨a2, e2, kx, hf2, -, hF⟩ := rx_fresh (nl := nl) h1 hf1
    have h2 : zR0 a2 b1 f n nu w := h1.x kx
    have hz2 : zR a2 b1 := ⟨f, n, nu, w, h2, hf2⟩
    have hP2 := h2.P
    have t30 : a2.1 3 0 = nI n := hP2.1.1
    have t37 : a2.1 3 7 = nI (zs_B f n n) := hP2.2.1.1
    have t64 : ∀ i, i < u → a2.1 64 i = b1.1 129 i := fun i hi => by rw [kx.1 64 (by omega)]; exact q3 i hi
    have h60 : n + zs_cnt (zs_tn f n) (zs_B f n n) ≤ 60 := by omega
    rw [e2]
    simp only [Bool.false_eq_true, reduceCtorEq, Nat.not_lt_zero, cond_true, cond_false, ↓reduceIte, if_true, if_false, Option.toList_some, Option.toList_none, List.nil_append, List.cons_append, Option.bind_some]
    rw [ex_156_35, ex_158_0, t30]
    have same2 : ∀ v : Int32, zC (some (some (.inl v), a2)) (some (some (.inl v), b1)) := fun v => ⟨_, _, _, rfl, rfl, hz2⟩
    -- the class's walk comes to its end in the caller
    have wrap : ∀ X Y, zC X Y → zC (X.bind fun q => zx nl 156 37 [z_r 0, z_i (nI u), z_r 3, z_i (nI (zs_cnt (zs_tn f n) (zs_B f n n)))] (q.1.toList ++ []) q.2) Y := by
      rintro X Y ⟨v, x, y, rfl, rfl, hr⟩
      simp only [Bool.false_eq_true, reduceCtorEq, Nat.not_lt_zero, cond_true, cond_false, ↓reduceIte, if_true, if_false, Option.toList_some, Option.toList_none, List.nil_append, List.cons_append, Option.bind_some]
      rw [ex_156_37]
      exact ⟨v, x, y, rfl, rfl, hr⟩
    have loop : zC (zx nl 158 21 [z_r 0, z_r 3, some (.inr (.inl (zs_sm f n nu (b1.1 129) 0))), none, z_i (nI (n + zs_cnt (zs_tn f n) 0)), z_i (nI 0), none, none, none, none] [] a2) (zm 275 59 [z_r 91, none, z_i (nI n), some (.inr (.inl (zs_sm f n nu (b1.1 129) 0))), none, z_i (nI 0), none, none, none] [] b1) := by
      refine zl_lk2 (F := fun e d => zx nl 158 21 [z_r 0, z_r 3, some (.inr (.inl (zs_sm f n nu (b1.1 129) e))), none, z_i (nI (n + zs_cnt (zs_tn f n) e)), z_i (nI e), none, none, none, none] [] d) (G := fun e d => zm 275 59 [z_r 91, none, z_i (nI n), some (.inr (.inl (zs_sm f n nu (b1.1 129) e))), none, z_i (nI e), none, none, none] [] d) (I := fun e x y => x = a2 ∧ y = b1) (n := zs_B f n n) (fun e x y he hI => ?_) (fun x y hI => ?_) 0 _ _ (by omega) ⟨rfl, rfl⟩
      · obtain ⟨rfl, rfl⟩ := hI
        (try dsimp only)
        obtain ⟨y1, y2⟩ := hE.2.1 e he
        obtain ⟨l1, l2⟩ := zs_Elt he
        have x1 : x.1 11 e = nI (zs_E f n e).1 := (hP2.2.1.2.2 e he).1
        have x2 : x.1 12 e = nI (zs_E f n e).2 := (hP2.2.1.2.2 e he).2
        have x3 : x.1 58 e = nI (zs_ec f n (y.1 92 9) (zs_ms f) e) := hF.2.2.1 e he
        have hup : zs_cnt (zs_tn f n) e ≤ zs_cnt (zs_tn f n) (zs_B f n n) := zs_cnt_up _ (by omega)
        have hec := rm_ec hW hV hA h1.Ms he
        have htof := rm_toldof hW hV hE he h60
        have hlk : b0.1 92 9 = y.1 92 9 := by rw [hcm.1 92 (by omega)]
        rw [hlk] at hec
        -- the reference, up to where it holds both against each other
        have M : zm 275 59 [z_r 91, none, z_i (nI n), some (.inr (.inl (zs_sm f n nu (y.1 129) e))), none, z_i (nI e), none, none, none] [] y = zm 275 99 [z_r 91, none, z_i (nI n), some (.inr (.inl (zs_sm f n nu (y.1 129) e))), none, z_i (nI e), z_i (nI (zs_E f n e).2), some (.inr (.inl ((y.1 129 (zs_E f n e).1).toInt64 + (if zs_tn f n e = true then y.1 129 (n + zs_cnt (zs_tn f n) e) else 0 : Int32).toInt64))), none] [.inl (lg_cmp ((y.1 129 (zs_E f n e).1).toInt64 + (if zs_tn f n e = true then y.1 129 (n + zs_cnt (zs_tn f n) e) else 0 : Int32).toInt64) ((nI (zs_ec f n (y.1 92 9) (zs_ms f) e)).toInt64 + (if (zs_E f n e).2 < n then y.1 129 (zs_E f n e).2 else 0 : Int32).toInt64))] y := by
          rw [em_275_59, hE.1, if_pos (nI_lt he (by omega)), em_275_63, htof, nI_clamp (show e < 2 ^ 31 by omega), y1, y2]
          simp (disch := omega) only [zb_ltl, zb_llt, zb_eql, zb_leq, nI_ltI, nI_eq, zb_in, nI_clamp, zb_al, zb_la, zb_ml, zb_lm, zb_mul, nI_add, Bool.false_eq_true, reduceCtorEq, Nat.not_lt_zero, cond_true, cond_false, ↓reduceIte, if_true, if_false, Option.toList_some, Option.toList_none, List.nil_append, List.cons_append, Option.bind_some]
          rw [em_275_79, hec]
          simp only [Bool.false_eq_true, reduceCtorEq, Nat.not_lt_zero, cond_true, cond_false, ↓reduceIte, if_true, if_false, Option.toList_some, Option.toList_none, List.nil_append, List.cons_append, Option.bind_some]
          rw [em_275_86]
          simp (disch := omega) only [zb_ltl, zb_llt, zb_eql, zb_leq, nI_ltI, nI_eq, zb_in, nI_clamp, zb_al, zb_la, zb_ml, zb_lm, zb_mul, nI_add]
          by_cases c : (zs_E f n e).2 < n
          · rw [if_pos c, if_pos c, em_275_90, zb_in (by omega) (by omega), cond_true, em_275_96, nI_clamp (by omega)]
          · rw [if_neg c, if_neg c, em_275_95, em_275_96]
        have M2 : zm 275 104 [z_r 91, none, z_i (nI n), some (.inr (.inl (zs_sm f n nu (y.1 129) e))), none, z_i (nI e), z_i (nI (zs_E f n e).2), some (.inr (.inl ((y.1 129 (zs_E f n e).1).toInt64 + (if zs_tn f n e = true then y.1 129 (n + zs_cnt (zs_tn f n) e) else 0 : Int32).toInt64))), none] [] y = zm 275 59 [z_r 91, none, z_i (nI n), some (.inr (.inl (zs_sm f n nu (y.1 129) (e + 1)))), none, z_i (nI (e + 1)), none, none, none] [] y := by
          rw [em_275_104, htof, nI_clamp (show e < 2 ^ 31 by omega), y1, y2]
          simp (disch := omega) only [zb_ltl, zb_llt, zb_eql, zb_leq, nI_ltI, nI_eq, zb_in, nI_clamp, zb_al, zb_la, zb_ml, zb_lm, zb_mul, nI_add, Bool.false_eq_true, reduceCtorEq, Nat.not_lt_zero, cond_true, cond_false, ↓reduceIte, if_true, if_false, Option.toList_some, Option.toList_none, List.nil_append, List.cons_append, Option.bind_some]
          by_cases ht : (zs_E f n e).1 < (zs_E f n e).2
          · have hnt : ¬ zs_tn f n e = true := by unfold zs_tn; rw [decide_eq_true_eq]; omega
            rw [if_pos ht, Int64.add_zero, show zs_sm f n nu (y.1 129) (e + 1) = zs_sm f n nu (y.1 129) e from if_neg hnt]
          · have htn : zs_tn f n e = true := by unfold zs_tn; rw [decide_eq_true_eq]; omega
            rw [if_neg ht, em_275_112, show (y.1 92 (200 + nI e).toNatClampNeg) = nI (nu e) from by rw [zb_la, nI_clamp (by omega)]; exact (h1.MN e he).1, zb_la, zb_in (by omega) (by omega), cond_true, zb_pred (htold e he htn), nI_1, if_pos htn, show zs_sm f n nu (y.1 129) (e + 1) = zs_sm f n nu (y.1 129) e + (y.1 129 (n + zs_cnt (zs_tn f n) e)).toInt64 * (nI (nu e - 1)).toInt64 from if_pos htn]
        have X : zx nl 158 21 [z_r 0, z_r 3, some (.inr (.inl (zs_sm f n nu (y.1 129) e))), none, z_i (nI (n + zs_cnt (zs_tn f n) e)), z_i (nI e), none, none, none, none] [] x = zx nl 158 61 [z_r 0, z_r 3, some (.inr (.inl (zs_sm f n nu (y.1 129) (e + 1)))), none, z_i (nI (n + zs_cnt (zs_tn f n) (e + 1))), z_i (nI e), some (.inr (.inl ((y.1 129 (zs_E f n e).1).toInt64 + (if zs_tn f n e = true then y.1 129 (n + zs_cnt (zs_tn f n) e) else 0 : Int32).toInt64))), none, none, none] [] x := by
          rw [ex_158_21, t37, if_pos (nI_lt he (by omega)), ex_158_25, nI_clamp (show e < 2 ^ 31 by omega), x1, nI_clamp (show (zs_E f n e).1 < 2 ^ 31 by omega), t64 _ (by omega)]
          simp (disch := omega) only [zb_ltl, zb_llt, zb_eql, zb_leq, nI_ltI, nI_eq, zb_in, nI_clamp, zb_al, zb_la, zb_ml, zb_lm, zb_mul, nI_add, Bool.false_eq_true, reduceCtorEq, Nat.not_lt_zero, cond_true, cond_false, ↓reduceIte, if_true, if_false, Option.toList_some, Option.toList_none, List.nil_append, List.cons_append, Option.bind_some]
          rw [ex_158_34, nI_clamp (show e < 2 ^ 31 by omega), x1, x2]
          simp (disch := omega) only [zb_ltl, zb_llt, zb_eql, zb_leq, nI_ltI, nI_eq, zb_in, nI_clamp, zb_al, zb_la, zb_ml, zb_lm, zb_mul, nI_add, Bool.false_eq_true, reduceCtorEq, Nat.not_lt_zero, cond_true, cond_false, ↓reduceIte, if_true, if_false, Option.toList_some, Option.toList_none, List.nil_append, List.cons_append, Option.bind_some]
          by_cases ht : (zs_E f n e).1 < (zs_E f n e).2
          · have hnt : ¬ zs_tn f n e = true := by unfold zs_tn; rw [decide_eq_true_eq]; omega
            rw [if_pos ht, if_neg hnt, show (0 : Int32).toInt64 = 0 from rfl, Int64.add_zero, show zs_sm f n nu (y.1 129) (e + 1) = zs_sm f n nu (y.1 129) e from if_neg hnt, zs_cnt_step, if_neg hnt, Nat.add_zero]
          · have htn : zs_tn f n e = true := by unfold zs_tn; rw [decide_eq_true_eq]; omega
            have h1' : zs_cnt (zs_tn f n) (e + 1) ≤ zs_cnt (zs_tn f n) (zs_B f n n) := zs_cnt_up _ (by omega)
            rw [zs_cnt_step, if_pos htn] at h1'
            rw [if_neg ht, ex_158_37, zb_in (show n + zs_cnt (zs_tn f n) e < 60 by omega) (by omega), zb_in (show e < 812 by omega) (by omega), cond_true, cond_true, cond_true, nI_clamp (show n + zs_cnt (zs_tn f n) e < 2 ^ 31 by omega), t64 _ (by omega), nI_clamp (show e < 2 ^ 31 by omega), show x.1 13 e = nI (nu e - 1) from ((h2.N e he).1).trans (by unfold zs_nb; rw [if_neg (show ¬ nu e = 0 from by have := htold e he htn; omega)]), nI_1, if_pos htn, show zs_sm f n nu (y.1 129) (e + 1) = zs_sm f n nu (y.1 129) e + (y.1 129 (n + zs_cnt (zs_tn f n) e)).toInt64 * (nI (nu e - 1)).toInt64 from if_pos htn, zs_cnt_step, if_pos htn, Nat.add_assoc]
        have X2 : ∀ (S L : Int64) (t : Int32), zx nl 158 61 [z_r 0, z_r 3, some (.inr (.inl S)), none, z_i t, z_i (nI e), some (.inr (.inl L)), none, none, none] [] x = if lg_cmp L ((nI (zs_ec f n (y.1 92 9) (zs_ms f) e)).toInt64 + (if (zs_E f n e).2 < n then y.1 129 (zs_E f n e).2 else 0 : Int32).toInt64) < 0 then some (some (.inl ((-11) - nI e)), x) else zx nl 158 21 [z_r 0, z_r 3, some (.inr (.inl S)), none, z_i t, z_i (nI (e + 1)), none, none, none, none] [] x := by
          intro S L t
          rw [ex_158_61, nI_clamp (show e < 2 ^ 31 by omega), x2, t30]
          simp (disch := omega) only [zb_ltl, zb_llt, zb_eql, zb_leq, nI_ltI, nI_eq, zb_in, nI_clamp, zb_al, zb_la, zb_ml, zb_lm, zb_mul, nI_add, Bool.false_eq_true, reduceCtorEq, Nat.not_lt_zero, cond_true, cond_false, ↓reduceIte, if_true, if_false, Option.toList_some, Option.toList_none, List.nil_append, List.cons_append, Option.bind_some]
          by_cases c : (zs_E f n e).2 < n
          · rw [if_pos c, if_pos c, ex_158_68, nI_clamp (show e < 2 ^ 31 by omega), x2, nI_clamp (show (zs_E f n e).2 < 2 ^ 31 by omega), zb_in (by omega) (by omega), zb_in (by omega) (by omega), cond_true, cond_true, ex_158_78, nI_clamp (show e < 2 ^ 31 by omega), x3, zb_in (by omega) (by omega), cond_true, ex_158_89, t64 _ (by omega), Int64.add_comm, nI_1]
          · rw [if_neg c, if_neg c, ex_158_77, ex_158_78, nI_clamp (show e < 2 ^ 31 by omega), x3, zb_in (by omega) (by omega), cond_true, ex_158_89, show (0 : Int32).toInt64 = 0 from rfl, Int64.add_comm, nI_1]
        rw [X, X2, M, em_275_99]
        by_cases c : lg_cmp ((y.1 129 (zs_E f n e).1).toInt64 + (if zs_tn f n e = true then y.1 129 (n + zs_cnt (zs_tn f n) e) else 0 : Int32).toInt64) ((nI (zs_ec f n (y.1 92 9) (zs_ms f) e)).toInt64 + (if (zs_E f n e).2 < n then y.1 129 (zs_E f n e).2 else 0 : Int32).toInt64) < 0
        · rw [if_pos c, if_pos c, em_275_100]
          exact Or.inr (same2 _)
        · rw [if_neg c, if_neg c, M2]
          exact Or.inl ⟨_, _, ⟨rfl, rfl⟩, rfl, rfl⟩
      · obtain ⟨rfl, rfl⟩ := hI
        (try dsimp only)
        rw [ex_158_21, t37, if_neg (nI_nlt (Nat.le_refl _) (by omega)), em_275_59, hE.1, if_neg (nI_nlt (Nat.le_refl _) (by omega)), ex_158_96, ex_158_99, em_275_124, em_275_127]
        by_cases c1 : lg_cmp (zs_sm f n nu (y.1 129) (zs_B f n n)) 0 < 0
        · rw [if_pos c1, ex_158_104]
          by_cases c2 : 0 < lg_cmp (zs_sm f n nu (y.1 129) (zs_B f n n)) 2000000000
          · rw [if_pos c2, em_275_132]; exact same2 _
          · rw [if_neg c2, em_275_128, em_275_131, if_pos c1]; exact same2 _
        · rw [if_neg c1, ex_158_100, ex_158_103]
          by_cases c2 : 0 < lg_cmp (zs_sm f n nu (y.1 129) (zs_B f n n)) 2000000000
          · rw [if_pos c2, if_pos c2, em_275_132]; exact same2 _
          · rw [if_neg c2, if_neg c2, em_275_128, em_275_131, if_neg c1]; exact same2 _
    refine wrap _ _ ?_
    have hS : zs_sm f n nu (b1.1 129) 0 = if n = 0 then 0 else (b1.1 129 0).toInt64 := rfl
    rw [hS, show zs_cnt (zs_tn f n) 0 = 0 from rfl, Nat.add_zero] at loop
    by_cases hn0 : n = 0
    · rw [if_pos hn0] at loop ⊢
      rw [if_neg (show ¬ 0 < nI n from by rw [hn0]; decide)]
      exact loop
    · rw [if_neg hn0] at loop ⊢
      rw [if_pos (show 0 < nI n from nI_lt (a := 0) (by omega) (by omega)), t64 0 (by omega)]
      exact loop
end ZCheck
