/-! ===== what must and may be there: the class, one order ===== -/
/-- the class's program as the flow sees it -/
def zAP (a : zd_D) (f : zF) (n : Nat) : Prop := zAo 3 a f n ∧ zAe 3 a f n ∧ ∀ i, i < 8 → a.1 2 i = f i
/-- rows of ages and of what may be there -/
def zXV (a : zd_D) (f : zF) (n : Nat) (lk : Int32) (X V : Nat → Nat) : Prop := (a.1 53 2 = f 0 ∧ a.1 53 3 = nI (zs_rem f) ∧ a.1 53 4 = lk) ∧ (∀ i, i < 16 * n → a.1 54 i = nI (X i) ∧ X i ≤ zs_rem f) ∧ ∀ k, k < n → a.1 55 k = nI (V k) ∧ V k < 65536
theorem zb_fl (c c' : Bool) : (if c = true then (1 : Int32) else 0) ||| (if c' = true then (1 : Int32) else 0) = if (c || c') = true then 1 else 0 := by cases c <;> cases c' <;> decide
theorem zb_rt {α : Type} (c : Bool) (r : Option α) : mx_rt 1 (if c = true then (1 : Int32) else 0) r = r := by cases c <;> rfl
theorem zb_fl0 (c : Bool) : ((if c = true then (1 : Int32) else 0) = 0) ↔ c = false := by cases c <;> decide
theorem zb_fl1 (c : Bool) : ((if c = true then (1 : Int32) else 0) = 1) ↔ c = true := by cases c <;> decide
theorem zb_same : ∀ q, q < 16 → ∀ l, l < 16 → (((nI l ^^^ nI q) &&& (nI 1 - 1) = 0 ↔ q % 1 = l % 1) ∧ ((nI l ^^^ nI q) &&& (nI 2 - 1) = 0 ↔ q % 2 = l % 2) ∧ ((nI l ^^^ nI q) &&& (nI 4 - 1) = 0 ↔ q % 4 = l % 4)) := by decide +kernel
theorem zb_sub0 (x y : Int32) : x &&& (y ^^^ (-1)) = 0 ↔ y ||| x = y := by
  have hb : ∀ u v : BitVec 32, u &&& (v ^^^ BitVec.allOnes 32) = 0#32 ↔ v ||| u = v := by
    intro u v
    constructor
    · intro h
      apply BitVec.eq_of_getLsbD_eq
      intro i hi
      have := congrArg (fun w => w.getLsbD i) h
      simp only [BitVec.getLsbD_and, BitVec.getLsbD_xor, BitVec.getLsbD_allOnes, hi, decide_true, BitVec.getLsbD_zero] at this
      rw [BitVec.getLsbD_or]
      revert this
      cases u.getLsbD i <;> cases v.getLsbD i <;> decide
    · intro h
      apply BitVec.eq_of_getLsbD_eq
      intro i hi
      have := congrArg (fun w => w.getLsbD i) h
      simp only [BitVec.getLsbD_or] at this
      simp only [BitVec.getLsbD_and, BitVec.getLsbD_xor, BitVec.getLsbD_allOnes, hi, decide_true, BitVec.getLsbD_zero]
      revert this
      cases u.getLsbD i <;> cases v.getLsbD i <;> decide
  have e : (-1 : Int32).toBitVec = BitVec.allOnes 32 := by decide
  constructor
  · intro h
    apply Int32.toBitVec_inj.1
    have h2 := congrArg Int32.toBitVec h
    rw [Int32.toBitVec_and, Int32.toBitVec_xor, e] at h2
    rw [Int32.toBitVec_or]
    exact (hb _ _).mp h2
  · intro h
    apply Int32.toBitVec_inj.1
    have h2 := congrArg Int32.toBitVec h
    rw [Int32.toBitVec_or] at h2
    rw [Int32.toBitVec_and, Int32.toBitVec_xor, e]
    exact (hb _ _).mpr h2
section RxAge
variable {nl : Int32} {a a' : zd_D} {f : zF} {n : Nat}
theorem zK.lo {cs fs : List Nat} (h : zK 0 cs fs a a') (hc : cs.all (fun c => Nat.blt 17 c) = true) {c : Nat} (h1 : 1 ≤ c) (h2 : c ≤ 17) : a'.1 c = a.1 c := by
  refine h.1 c (by omega) ?_
  cases he : cs.elem c with
  | false => rfl
  | true =>
    have := List.all_eq_true.mp hc c (List.elem_iff.mp he)
    have := Nat.blt_eq.mp this
    omega
theorem zAP.k {cs fs : List Nat} (h : zAP a f n) (hk : zK 0 cs fs a a') (hc : cs.all (fun c => Nat.blt 17 c) = true) : zAP a' f n := by
  unfold zAP zAo zAe
  rw [hk.lo hc (c := 2) (by omega) (by omega), hk.lo hc (c := 3) (by omega) (by omega), hk.lo hc (c := 3 + 1) (by omega) (by omega), hk.lo hc (c := 3 + 2) (by omega) (by omega), hk.lo hc (c := 3 + 3) (by omega) (by omega), hk.lo hc (c := 3 + 4) (by omega) (by omega), hk.lo hc (c := 3 + 5) (by omega) (by omega), hk.lo hc (c := 3 + 6) (by omega) (by omega), hk.lo hc (c := 3 + 7) (by omega) (by omega), hk.lo hc (c := 3 + 8) (by omega) (by omega), hk.lo hc (c := 3 + 9) (by omega) (by omega)]
  exact h
/-- lines below an age grow older -/
theorem rx_below {A : Nat} (hA : A < 100) (x2 x3 : Int32) {g : Nat → Nat} (hg : ∀ l, l < 16 → a.1 56 l = nI (g l) ∧ g l < 100) : ∃ a', zx nl 63 0 [z_r 53, z_i (nI A), z_i x2, z_i x3, none] [] a = some (none, a') ∧ zK 0 [56] [] a a' ∧ ∀ l, l < 16 → a'.1 56 l = nI (if (nI l ^^^ x3) &&& x2 = 0 ∧ g l < A then g l + 1 else g l) := by
  rw [ex_63_0]
  have key := zl_up (F := fun l c => zx nl 63 3 [z_r 53, z_i (nI A), z_i x2, z_i x3, z_i (nI l)] [] c) (n := 16) (I := fun i c => zK 0 [56] [] a c ∧ ∀ l, l < 16 → c.1 56 l = nI (if l < i ∧ (nI l ^^^ x3) &&& x2 = 0 ∧ g l < A then g l + 1 else g l)) (Q := fun v c => v = none ∧ zK 0 [56] [] a c ∧ ∀ l, l < 16 → c.1 56 l = nI (if (nI l ^^^ x3) &&& x2 = 0 ∧ g l < A then g l + 1 else g l))
    (by
      rintro i c hi ⟨h1, h2⟩
      left
      try dsimp only
      have g1 := h2 i hi
      rw [if_neg (fun q => Nat.lt_irrefl _ q.1)] at g1
      have g2 := (hg i hi).2
      have keep : (¬ ((nI i ^^^ x3) &&& x2 = 0 ∧ g i < A)) → ∀ l, l < 16 → c.1 56 l = nI (if l < i + 1 ∧ (nI l ^^^ x3) &&& x2 = 0 ∧ g l < A then g l + 1 else g l) := by
        intro hno l hl
        rw [h2 l hl]
        by_cases hli : l = i
        · subst hli
          rw [if_neg (fun q => Nat.lt_irrefl _ q.1), if_neg (fun q => hno q.2)]
        · by_cases hc : l < i ∧ (nI l ^^^ x3) &&& x2 = 0 ∧ g l < A
          · rw [if_pos hc, if_pos ⟨by omega, hc.2⟩]
          · rw [if_neg hc, if_neg (fun q => hc ⟨by omega, q.2⟩)]
      rw [ex_63_3]
      simp (disch := omega) only [zb_ltl, zb_llt, zb_eql, zb_leq, nI_ltI, nI_eq, zb_in, nI_clamp, zb_al, zb_la, zb_ml, zb_lm, zb_mul, nI_add, Bool.false_eq_true, reduceCtorEq, Nat.not_lt_zero, cond_true, cond_false, ↓reduceIte, if_true, if_false, Option.toList_some, Option.toList_none, List.nil_append, List.cons_append, Option.bind_some, hi, g1]
      by_cases hs : (nI i ^^^ x3) &&& x2 = 0
      · simp only [hs, Bool.false_eq_true, reduceCtorEq, Nat.not_lt_zero, cond_true, cond_false, ↓reduceIte, if_true, if_false, Option.toList_some, Option.toList_none, List.nil_append, List.cons_append, Option.bind_some]
        by_cases hlt : g i < A
        · simp only [hlt, Bool.false_eq_true, reduceCtorEq, Nat.not_lt_zero, cond_true, cond_false, ↓reduceIte, if_true, if_false, Option.toList_some, Option.toList_none, List.nil_append, List.cons_append, Option.bind_some]
          refine ⟨_, ⟨h1.u _ _ (by decide) rfl, fun l hl => ?_⟩, rfl⟩
          by_cases hli : l = i
          · subst hli
            rw [zb_ue, if_pos ⟨by omega, hs, hlt⟩]
          · rw [zb_ui _ _ _ _ hli, h2 l hl]
            by_cases hc : l < i ∧ (nI l ^^^ x3) &&& x2 = 0 ∧ g l < A
            · rw [if_pos hc, if_pos ⟨by omega, hc.2⟩]
            · rw [if_neg hc, if_neg (fun q => hc ⟨by omega, q.2⟩)]
        · simp only [hlt, Bool.false_eq_true, reduceCtorEq, Nat.not_lt_zero, cond_true, cond_false, ↓reduceIte, if_true, if_false, Option.toList_some, Option.toList_none, List.nil_append, List.cons_append, Option.bind_some]
          exact ⟨c, ⟨h1, keep (fun q => hlt q.2)⟩, rfl⟩
      · simp only [hs, Bool.false_eq_true, reduceCtorEq, Nat.not_lt_zero, cond_true, cond_false, ↓reduceIte, if_true, if_false, Option.toList_some, Option.toList_none, List.nil_append, List.cons_append, Option.bind_some]
        exact ⟨c, ⟨h1, keep (fun q => hs q.1)⟩, rfl⟩)
    (by
      rintro c ⟨h1, h2⟩
      try dsimp only
      rw [ex_63_3]
      simp (disch := omega) only [zb_ltl, zb_llt, zb_eql, zb_leq, nI_ltI, nI_eq, zb_in, nI_clamp, zb_al, zb_la, zb_ml, zb_lm, zb_mul, nI_add, Bool.false_eq_true, reduceCtorEq, Nat.not_lt_zero, cond_true, cond_false, ↓reduceIte, if_true, if_false, Option.toList_some, Option.toList_none, List.nil_append, List.cons_append, Option.bind_some, Nat.lt_irrefl]
      refine zw_ret ⟨rfl, h1, fun l hl => ?_⟩
      rw [h2 l hl]
      by_cases hc : (nI l ^^^ x3) &&& x2 = 0 ∧ g l < A
      · rw [if_pos ⟨hl, hc⟩, if_pos hc]
      · rw [if_neg (fun q => hc q.2), if_neg hc])
    0 a (Nat.zero_le _) ⟨zK.rf, fun l hl => by rw [if_neg (fun q => Nat.not_lt_zero _ q.1)]; exact (hg l hl).1⟩
  obtain ⟨v, d, e, hv, h1, h2⟩ := key
  subst hv
  exact ⟨d, e, h1, h2⟩
set_option maxHeartbeats 2000000 in
theorem rx_ages (hW : zW f n) (hP : zAP a f n) {lk : Int32} {X V : Nat → Nat} (hX : zXV a f n lk X V) {k : Nat} (hk : k < n) : ∃ a', zx nl 62 0 [z_r 53, z_i (nI k), none] [] a = some (none, a') ∧ zK 0 [56] [] a a' ∧ ∀ l, l < 16 → a'.1 56 l = nI (zs_af f lk X k l) := by
  have hn := hW.le
  obtain ⟨hr1, hr4⟩ := hW.rem
  obtain ⟨⟨x0, x3, x4⟩, hX1, hV1⟩ := hX
  have hln : a.1 9 k = zs_ln f k := (hP.1.2 k hk).2.2.2.2.2
  have hcp : ∀ l, l < 16 → (zd_s a 56 (va_cpy (a.1 54) (a.1 56) (k * 16) 0 16)).1 56 l = nI (X (16 * k + l)) ∧ X (16 * k + l) < 100 := by
    intro l hl
    have := hX1 (16 * k + l) (by omega)
    refine ⟨?_, by omega⟩
    rw [zb_s, if_pos rfl, pk_cpy_in (Nat.zero_le _) (by omega), show k * 16 + (l - 0) = 16 * k + l by omega]
    exact this.1
  have hKs : zK 0 [56] [] a (zd_s a 56 (va_cpy (a.1 54) (a.1 56) (k * 16) 0 16)) := zK.rf.s _ (by decide) rfl
  rw [ex_62_0]
  have hcond : ¬ (nI k * 16) < 0 ∧ ¬ (0 : Int32) < 0 ∧ ¬ (16 : Int32) < 0 ∧ (nI k * 16).toNatClampNeg + 16 ≤ 448 ∧ 0 + 16 ≤ 16 := by
    rw [zb_ml, nI_clamp (by omega)]
    exact ⟨nI_pos (by omega), by decide, by decide, by omega, by omega⟩
  rw [if_pos hcond]
  simp (disch := omega) only [zb_ltl, zb_llt, zb_eql, zb_leq, nI_ltI, nI_eq, zb_in, nI_clamp, zb_al, zb_la, zb_ml, zb_lm, zb_mul, nI_add, Bool.false_eq_true, reduceCtorEq, Nat.not_lt_zero, cond_true, cond_false, ↓reduceIte, if_true, if_false, Option.toList_some, Option.toList_none, List.nil_append, List.cons_append, Option.bind_some, hln, x3, x4, x0]
  rcases zs_ln_cases (hW.2.2.2 k hk).1 with h | h | ⟨q, hq, h⟩
  · simp only [h, show ¬ ((-2 : Int32) = -1) by decide, show ((-2 : Int32) < 0) by decide, Bool.false_eq_true, reduceCtorEq, Nat.not_lt_zero, cond_true, cond_false, ↓reduceIte, if_true, if_false, Option.toList_some, Option.toList_none, List.nil_append, List.cons_append, Option.bind_some]
    refine ⟨_, rfl, hKs, fun l hl => ?_⟩
    rw [(hcp l hl).1]
    rw [zs_af_0 h]
  · simp only [h, Bool.false_eq_true, reduceCtorEq, Nat.not_lt_zero, cond_true, cond_false, ↓reduceIte, if_true, if_false, Option.toList_some, Option.toList_none, List.nil_append, List.cons_append, Option.bind_some]
    obtain ⟨a2, g1, g2, g3⟩ := rx_below (nl := nl) (A := zs_rem f) (by omega) 0 0 hcp
    rw [g1]
    simp only [Bool.false_eq_true, reduceCtorEq, Nat.not_lt_zero, cond_true, cond_false, ↓reduceIte, if_true, if_false, Option.toList_some, Option.toList_none, List.nil_append, List.cons_append, Option.bind_some]
    rw [ex_62_25]
    refine ⟨a2, rfl, hKs.tr g2, fun l hl => ?_⟩
    rw [g3 l hl]
    rw [zs_af_1 h]
    simp only [Int32.and_zero, true_and]
  · simp (disch := omega) only [h, zb_m1', zb_l0, zb_ltl, zb_llt, zb_eql, zb_leq, nI_ltI, nI_eq, zb_in, nI_clamp, zb_al, zb_la, zb_ml, zb_lm, zb_mul, nI_add, Bool.false_eq_true, reduceCtorEq, Nat.not_lt_zero, cond_true, cond_false, ↓reduceIte, if_true, if_false, Option.toList_some, Option.toList_none, List.nil_append, List.cons_append, Option.bind_some]
    by_cases hlk : (lk >>> (nI q &&& 31)) &&& 1 = 1
    · simp only [hlk, Bool.false_eq_true, reduceCtorEq, Nat.not_lt_zero, cond_true, cond_false, ↓reduceIte, if_true, if_false, Option.toList_some, Option.toList_none, List.nil_append, List.cons_append, Option.bind_some]
      refine ⟨_, rfl, hKs, fun l hl => ?_⟩
      rw [(hcp l hl).1, zs_af_q hq h, if_pos (Or.inl (show zs_lk lk (nI q) = true from decide_eq_true hlk))]
    · simp only [hlk, Bool.false_eq_true, reduceCtorEq, Nat.not_lt_zero, cond_true, cond_false, ↓reduceIte, if_true, if_false, Option.toList_some, Option.toList_none, List.nil_append, List.cons_append, Option.bind_some]
      obtain ⟨s, hs0, hs1, hs⟩ := hW.set
      rw [(hcp q hq).1, hs0]
      obtain ⟨a2, g1, g2, g3⟩ := rx_below (nl := nl) (A := X (16 * k + q)) (hcp q hq).2 (nI s - 1) (nI q) hcp
      rw [g1]
      simp only [Bool.false_eq_true, reduceCtorEq, Nat.not_lt_zero, cond_true, cond_false, ↓reduceIte, if_true, if_false, Option.toList_some, Option.toList_none, List.nil_append, List.cons_append, Option.bind_some]
      rw [ex_62_43]
      simp (disch := omega) only [zb_ltl, zb_llt, zb_eql, zb_leq, nI_ltI, nI_eq, zb_in, nI_clamp, zb_al, zb_la, zb_ml, zb_lm, zb_mul, nI_add, Bool.false_eq_true, reduceCtorEq, Nat.not_lt_zero, cond_true, cond_false, ↓reduceIte, if_true, if_false, Option.toList_some, Option.toList_none, List.nil_append, List.cons_append, Option.bind_some]
      refine ⟨_, rfl, (hKs.tr g2).u _ _ (by decide) rfl, fun l hl => ?_⟩
      rw [zs_af_q hq h, hs1]
      have hlk2 : ¬ zs_lk lk (nI q) = true := fun w => hlk (of_decide_eq_true w)
      have hmod : ((nI l ^^^ nI q) &&& (nI s - 1) = 0) ↔ q % s = l % s := by
        have := zb_same q hq l hl
        rcases hs with rfl | rfl | rfl
        · exact this.1
        · exact this.2.1
        · exact this.2.2
      by_cases hql : l = q
      · subst hql
        rw [zb_ue, if_neg (show ¬ (zs_lk lk (nI l) = true ∨ ¬ l % s = l % s) from fun w => w.elim hlk2 (fun w => w rfl)), if_pos rfl]
        rfl
      · rw [zb_ui _ _ _ _ hql, g3 l hl]
        by_cases hm : q % s = l % s
        · rw [if_neg (show ¬ (zs_lk lk (nI q) = true ∨ ¬ q % s = l % s) from fun w => w.elim hlk2 (fun w => w hm)), if_neg (show ¬ q = l from fun w => hql w.symm)]
          by_cases hlt : X (16 * k + l) < X (16 * k + q)
          · rw [if_pos ⟨hmod.mpr hm, hlt⟩, if_pos hlt]
          · rw [if_neg (show ¬ ((nI l ^^^ nI q) &&& (nI s - 1) = 0 ∧ X (16 * k + l) < X (16 * k + q)) from fun w => hlt w.2), if_neg hlt]
        · rw [if_neg (show ¬ ((nI l ^^^ nI q) &&& (nI s - 1) = 0 ∧ X (16 * k + l) < X (16 * k + q)) from fun w => hm (hmod.mp w.1)), if_pos (show zs_lk lk (nI q) = true ∨ ¬ q % s = l % s from Or.inr hm)]
theorem rx_come (hW : zW f n) (hP : zAP a f n) {lk : Int32} {X V : Nat → Nat} (hX : zXV a f n lk X V) {k : Nat} (hk : k < n) : ∃ w, zx nl 65 0 [z_r 53, z_i (nI k), none] [] a = some (some (.inl (nI w)), a) ∧ V k ||| w = zs_vf f lk V k ∧ w < 65536 := by
  have hn := hW.le
  have hln : a.1 9 k = zs_ln f k := (hP.1.2 k hk).2.2.2.2.2
  obtain ⟨⟨x0, x3, x4⟩, hX1, hV1⟩ := hX
  rw [ex_65_0]
  simp (disch := omega) only [zb_ltl, zb_llt, zb_eql, zb_leq, nI_ltI, nI_eq, zb_in, nI_clamp, zb_al, zb_la, zb_ml, zb_lm, zb_mul, nI_add, Bool.false_eq_true, reduceCtorEq, Nat.not_lt_zero, cond_true, cond_false, ↓reduceIte, if_true, if_false, Option.toList_some, Option.toList_none, List.nil_append, List.cons_append, Option.bind_some, hln, x4]
  rcases zs_ln_cases (hW.2.2.2 k hk).1 with h | h | ⟨q, hq, h⟩
  · rw [zs_vf_0 h]
    simp only [h, show ((-2 : Int32) < 0) by decide, Bool.false_eq_true, reduceCtorEq, Nat.not_lt_zero, cond_true, cond_false, ↓reduceIte, if_true, if_false, Option.toList_some, Option.toList_none, List.nil_append, List.cons_append, Option.bind_some]
    exact ⟨0, rfl, Nat.or_zero _, by decide⟩
  · rw [zs_vf_1 h]
    simp only [h, show ((-1 : Int32) < 0) by decide, show ¬ ((-1 : Int32) = -2) by decide, Bool.false_eq_true, reduceCtorEq, Nat.not_lt_zero, cond_true, cond_false, ↓reduceIte, if_true, if_false, Option.toList_some, Option.toList_none, List.nil_append, List.cons_append, Option.bind_some]
    exact ⟨65535, rfl, rfl, by decide⟩
  · rw [zs_vf_q hq h]
    unfold zs_lk
    simp (disch := omega) only [h, zb_l0, zb_ltl, zb_llt, zb_eql, zb_leq, nI_ltI, nI_eq, zb_in, nI_clamp, zb_al, zb_la, zb_ml, zb_lm, zb_mul, nI_add, Bool.false_eq_true, reduceCtorEq, Nat.not_lt_zero, cond_true, cond_false, ↓reduceIte, if_true, if_false, Option.toList_some, Option.toList_none, List.nil_append, List.cons_append, Option.bind_some, zb_1s]
    by_cases hlk : (lk >>> (nI q &&& 31)) &&& 1 = 1
    · simp only [hlk, Bool.false_eq_true, reduceCtorEq, Nat.not_lt_zero, cond_true, cond_false, ↓reduceIte, if_true, if_false, Option.toList_some, Option.toList_none, List.nil_append, List.cons_append, Option.bind_some, decide_true]
      exact ⟨0, rfl, Nat.or_zero _, by decide⟩
    · simp only [hlk, Bool.false_eq_true, reduceCtorEq, Nat.not_lt_zero, cond_true, cond_false, ↓reduceIte, if_true, if_false, Option.toList_some, Option.toList_none, List.nil_append, List.cons_append, Option.bind_some, decide_false, show (false = true) = False by simp]
      exact ⟨2 ^ q, rfl, rfl, zb_2p hq⟩
end RxAge
