theorem zd_cond_sup {β : Type} {q : Bool} {r : Option β} {y : β} (e : cond q r none = some y) : q = true ∧ r = some y := by
  cases q with
  | true => exact ⟨rfl, e⟩
  | false => cases e
theorem zd_lt_of_c (d : zd_D) {c : Nat} (h : zd_c d c ≠ 0) : Nat.blt c 1000000 = true := by
  have h2 := (List.getElem?_eq_some_iff.mp (zd_at d h)).1
  rw [zd_len] at h2
  refine Nat.blt_eq.mpr ?_
  cases hd : d.2.2 <;> rw [hd] at h2 <;> simp at h2 <;> omega
theorem zd_pf_sup {β : Type} {a b c : Nat} {w : mx_V} {d : zd_D} {K : zd_D → Option β} {y : β} (hc : zd_c d c = a + 1) (ha : a + 1 < 100) (e : zd_pf a b c w d K = some y) : ∃ d', K d' = some y ∧ (∀ (γ : Type) (K' : zd_D → Option γ) z, K' d' = some z → zd_pf a b c w d K' = some z) ∧ mx_ft (zt_ty a b) w = true ∧ zd_mk d' = ((zd_mk d).1, mx_ur (zd_mk d).2 c (mx_u1 ((zd_mk d).2 c) b w)) := by
  unfold zd_pf at e
  match w, e with
  | .inl x, e =>
    dsimp only at e
    split at e
    · next hk =>
      have ht := zd_k_at (a := a) (b := b) (by rw [hk]; decide)
      rw [hk] at ht
      have ht := of_decide_eq_true ht
      refine ⟨_, e, fun γ K' z q => by unfold zd_pf; dsimp only; rw [hk]; exact q, by rw [ht]; rfl, zd_mk_uF d hc ha ?_⟩
      unfold zd_fv
      rw [hk]
      simp [zd_u]
    · next hk =>
      have ht := zd_k_at (a := a) (b := b) (by rw [hk]; decide)
      rw [hk] at ht
      have ht := of_decide_eq_true ht
      obtain ⟨hb, e2⟩ := zd_cond_sup e
      refine ⟨_, e2, fun γ K' z q => by unfold zd_pf; dsimp only; rw [hk]; show cond _ _ _ = _; rw [hb]; exact q, by rw [ht]; exact hb, zd_mk_uF d hc ha ?_⟩
      unfold zd_fv
      rw [hk]
      simp [zd_u]
    · cases e
  | .inr (.inr (some o)), e =>
    dsimp only at e
    split at e
    · next q hk =>
      have ht := zd_k_at (a := a) (b := b) (by rw [hk]; intro h; cases h)
      rw [hk] at ht
      have ht := of_decide_eq_true ht
      obtain ⟨hb, e2⟩ := zd_cond_sup e
      have ho := Nat.eq_of_beq_eq_true hb
      refine ⟨_, e2, fun γ K' z q => by unfold zd_pf; dsimp only; rw [hk]; show cond _ _ _ = _; rw [hb]; exact q, by rw [ht]; rfl, zd_mk_uF d hc ha ?_⟩
      unfold zd_fv
      rw [hk, ho]
      simp [zd_u]
    · cases e
  | .inr (.inl _), e => cases e
  | .inr (.inr none), e => cases e
section ZdSup
variable {n : Nat} {xs : Nat → Int32}
set_option maxHeartbeats 4000000 in
theorem zd_sup {i : Instr} {pc nx a b : Nat} {v : Int32} {sw : List (Int32 × Nat)} {st : List mx_V} {d : zd_D} {K : List mx_V → zd_D → Option (Option mx_V × zd_D)} {y : Option mx_V × zd_D} (e : zd_hop n xs (i, pc, nx, a, b, v, sw) st d K = some y) :
    ∃ st' d', K st' d' = some y ∧ (∀ K' z, K' st' d' = some z → zd_hop n xs (i, pc, nx, a, b, v, sw) st d K' = some z) ∧ ∀ KH z, KH st' (zd_mk d') = some z → zt_H n xs (i, pc, nx, a, b, v, sw) st (zd_mk d) KH = some z := by
  cases i with
  | getfield x =>
    obtain ⟨c, st1, rfl, e1⟩ := mx_1r_sup (show mx_1r st (fun c st => cond (Nat.blt a 100) (cond (Nat.beq (zd_c d c) (a + 1) && Nat.blt a 50) (K (zd_fv a b c d :: st) d) none) (match zt_xF a b c with
      | some w => K (w :: st) d
      | none => none)) = some y from e)
    cases ha : Nat.blt a 100 with
    | true =>
      rw [ha] at e1
      obtain ⟨hc, e2⟩ := zd_cond_sup (show cond (Nat.beq (zd_c d c) (a + 1) && Nat.blt a 50) (K (zd_fv a b c d :: st1) d) none = some y from e1)
      have hc0 := hc
      rw [Bool.and_eq_true] at hc
      have hcc := Nat.eq_of_beq_eq_true hc.1
      have ha' := Nat.blt_eq.mp hc.2
      refine ⟨_, _, e2, fun K' z q => ?_, fun KH z q => ?_⟩
      · show cond (Nat.blt a 100) (cond (Nat.beq (zd_c d c) (a + 1) && Nat.blt a 50) (K' (zd_fv a b c d :: st1) d) none) _ = some z
        rw [ha, hc0]
        exact q
      · show cond (Nat.blt a 100) (mx_ob (zd_mk d) c a (KH ((zd_mk d).2 c b :: st1) (zd_mk d))) _ = some z
        rw [ha, zd_vO d hcc (by omega) b]
        show mx_ob (zd_mk d) c a _ = some z
        simp only [mx_ob, zd_atO d hcc (by omega), if_pos]
        exact q
    | false =>
      rw [ha] at e1
      have e1 : (match zt_xF a b c with
        | some w => K (w :: st1) d
        | none => none) = some y := e1
      cases hx : zt_xF a b c with
      | none => rw [hx] at e1; cases e1
      | some w =>
        rw [hx] at e1
        refine ⟨_, _, e1, fun K' z q => ?_, fun KH z q => ?_⟩
        · show cond (Nat.blt a 100) _ (match zt_xF a b c with
            | some w => K' (w :: st1) d
            | none => none) = some z
          rw [ha, hx]
          exact q
        · show cond (Nat.blt a 100) _ (match zt_xF a b c with
            | some w => KH (w :: st1) (zd_mk d)
            | none => none) = some z
          rw [ha, hx]
          exact q
  | putfield x =>
    cases st with
    | nil => cases e
    | cons w st =>
    obtain ⟨c, st1, rfl, e1⟩ := mx_1r_sup (show mx_1r st (fun c st => cond (Nat.beq (zd_c d c) (a + 1) && Nat.blt a 50) (zd_pf a b c w d (fun d => K st d)) none) = some y from e)
    obtain ⟨hc, e2⟩ := zd_cond_sup e1
    have hc0 := hc
    rw [Bool.and_eq_true] at hc
    have hcc := Nat.eq_of_beq_eq_true hc.1
    have ha' := Nat.blt_eq.mp hc.2
    obtain ⟨d', h1, h2, h3, h4⟩ := zd_pf_sup hcc (by omega) e2
    refine ⟨st1, d', h1, fun K' z q => ?_, fun KH z q => ?_⟩
    · show cond (Nat.beq (zd_c d c) (a + 1) && Nat.blt a 50) (zd_pf a b c w d (fun d => K' st1 d)) none = some z
      rw [hc0]
      exact h2 _ _ _ q
    · show mx_ob (zd_mk d) c a (if mx_ft (zt_ty a b) w = true then KH st1 ((zd_mk d).1, mx_ur (zd_mk d).2 c (mx_u1 ((zd_mk d).2 c) b w)) else none) = some z
      rw [← h4]
      simp only [mx_ob, zd_atO d hcc (by omega), if_pos, h3]
      exact q
  | getstatic x => exact ⟨_, _, (show K (zt_xS xs a :: st) d = some y from e), fun K' z q => q, fun KH z q => q⟩
  | iaload =>
    obtain ⟨i, st0, rfl, e0⟩ := mx_1i_sup (show mx_1i st (fun i st => mx_1r st fun c st => cond (Nat.blt c 1000000) (cond (Nat.beq (zd_c d c) 100) (cond (mx_in i (zd_l c)) (K (.inl (d.1 c i.toNatClampNeg) :: st) d) none) none) (mx_xr (zt_xA n xs) c fun t n f => if t = 0 ∧ mx_in i n = true then K (.inl (f i.toNatClampNeg) :: st) d else none)) = some y from e)
    obtain ⟨c, st1, rfl, e1⟩ := mx_1r_sup e0
    cases hc : Nat.blt c 1000000 with
    | true =>
      rw [hc] at e1
      obtain ⟨hb, e2⟩ := zd_cond_sup (show cond (Nat.beq (zd_c d c) 100) (cond (mx_in i (zd_l c)) (K (.inl (d.1 c i.toNatClampNeg) :: st1) d) none) none = some y from e1)
      obtain ⟨hin, e3⟩ := zd_cond_sup e2
      have hcc := Nat.eq_of_beq_eq_true hb
      refine ⟨_, _, e3, fun K' z q => ?_, fun KH z q => ?_⟩
      · show cond (Nat.blt c 1000000) (cond (Nat.beq (zd_c d c) 100) (cond (mx_in i (zd_l c)) (K' (.inl (d.1 c i.toNatClampNeg) :: st1) d) none) none) _ = some z
        rw [hc, hb, hin]
        exact q
      · show cond (Nat.blt c 1000000) (mx_ar (zd_mk d) c fun t n => if t = 0 ∧ mx_in i n = true then KH (.inl (mx_tI ((zd_mk d).2 c i.toNatClampNeg)) :: st1) (zd_mk d) else none) _ = some z
        rw [hc, zd_vI d (t := 0) hcc (by omega)]
        show mx_ar (zd_mk d) c _ = some z
        simp only [mx_ar, zd_atA d (t := 0) hcc]
        rw [if_pos ⟨trivial, hin⟩]
        exact q
    | false =>
      rw [hc] at e1
      obtain ⟨t, m, f, hs, e2⟩ := mx_xr_sup (show mx_xr (zt_xA n xs) c (fun t n f => if t = 0 ∧ mx_in i n = true then K (.inl (f i.toNatClampNeg) :: st1) d else none) = some y from e1)
      obtain ⟨hin, e3⟩ := mx_if_sup e2
      refine ⟨_, _, e3, fun K' z q => ?_, fun KH z q => ?_⟩
      · show cond (Nat.blt c 1000000) _ (mx_xr (zt_xA n xs) c fun t n f => if t = 0 ∧ mx_in i n = true then K' (.inl (f i.toNatClampNeg) :: st1) d else none) = some z
        rw [hc]
        show mx_xr (zt_xA n xs) c _ = some z
        simp only [mx_xr, hs]
        rw [if_pos hin]
        exact q
      · show cond (Nat.blt c 1000000) _ (mx_xr (zt_xA n xs) c fun t n f => if t = 0 ∧ mx_in i n = true then KH (.inl (f i.toNatClampNeg) :: st1) (zd_mk d) else none) = some z
        rw [hc]
        show mx_xr (zt_xA n xs) c _ = some z
        simp only [mx_xr, hs]
        rw [if_pos hin]
        exact q
  | baload =>
    obtain ⟨i, st0, rfl, e0⟩ := mx_1i_sup (show mx_1i st (fun i st => mx_1r st fun c st => cond (Nat.blt c 1000000) (cond (Nat.beq (zd_c d c) 101 || Nat.beq (zd_c d c) 102) (cond (mx_in i (zd_l c)) (K (.inl (d.1 c i.toNatClampNeg) :: st) d) none) none) (mx_xr (zt_xA n xs) c fun t n f => if t = 1 ∧ mx_in i n = true then K (.inl (f i.toNatClampNeg) :: st) d else none)) = some y from e)
    obtain ⟨c, st1, rfl, e1⟩ := mx_1r_sup e0
    cases hc : Nat.blt c 1000000 with
    | true =>
      rw [hc] at e1
      obtain ⟨hb, e2⟩ := zd_cond_sup (show cond (Nat.beq (zd_c d c) 101 || Nat.beq (zd_c d c) 102) (cond (mx_in i (zd_l c)) (K (.inl (d.1 c i.toNatClampNeg) :: st1) d) none) none = some y from e1)
      obtain ⟨hin, e3⟩ := zd_cond_sup e2
      refine ⟨_, _, e3, fun K' z q => ?_, fun KH z q => ?_⟩
      · show cond (Nat.blt c 1000000) (cond (Nat.beq (zd_c d c) 101 || Nat.beq (zd_c d c) 102) (cond (mx_in i (zd_l c)) (K' (.inl (d.1 c i.toNatClampNeg) :: st1) d) none) none) _ = some z
        rw [hc, hb, hin]
        exact q
      · show cond (Nat.blt c 1000000) (mx_ar (zd_mk d) c fun t n => if (t = 1 ∨ t = 2) ∧ mx_in i n = true then KH (.inl (mx_tI ((zd_mk d).2 c i.toNatClampNeg)) :: st1) (zd_mk d) else none) _ = some z
        rw [Bool.or_eq_true] at hb
        rw [hc]
        show mx_ar (zd_mk d) c _ = some z
        rcases hb with hb | hb
        · have hcc := Nat.eq_of_beq_eq_true hb
          rw [zd_vI d (t := 1) hcc (by omega)]
          simp only [mx_ar, zd_atA d (t := 1) hcc]
          rw [if_pos ⟨Or.inl trivial, hin⟩]
          exact q
        · have hcc := Nat.eq_of_beq_eq_true hb
          rw [zd_vI d (t := 2) hcc (by omega)]
          simp only [mx_ar, zd_atA d (t := 2) hcc]
          rw [if_pos ⟨Or.inr trivial, hin⟩]
          exact q
    | false =>
      rw [hc] at e1
      obtain ⟨t, m, f, hs, e2⟩ := mx_xr_sup (show mx_xr (zt_xA n xs) c (fun t n f => if t = 1 ∧ mx_in i n = true then K (.inl (f i.toNatClampNeg) :: st1) d else none) = some y from e1)
      obtain ⟨hin, e3⟩ := mx_if_sup e2
      refine ⟨_, _, e3, fun K' z q => ?_, fun KH z q => ?_⟩
      · show cond (Nat.blt c 1000000) _ (mx_xr (zt_xA n xs) c fun t n f => if t = 1 ∧ mx_in i n = true then K' (.inl (f i.toNatClampNeg) :: st1) d else none) = some z
        rw [hc]
        show mx_xr (zt_xA n xs) c _ = some z
        simp only [mx_xr, hs]
        rw [if_pos hin]
        exact q
      · show cond (Nat.blt c 1000000) _ (mx_xr (zt_xA n xs) c fun t n f => if t = 1 ∧ mx_in i n = true then KH (.inl (f i.toNatClampNeg) :: st1) (zd_mk d) else none) = some z
        rw [hc]
        show mx_xr (zt_xA n xs) c _ = some z
        simp only [mx_xr, hs]
        rw [if_pos hin]
        exact q
  | caload =>
    obtain ⟨i, st0, rfl, e0⟩ := mx_1i_sup (show mx_1i st (fun i st => mx_1r st fun c st => cond (Nat.beq (zd_c d c) 103) (cond (mx_in i (zd_l c)) (K (.inl (d.1 c i.toNatClampNeg) :: st) d) none) none) = some y from e)
    obtain ⟨c, st1, rfl, e1⟩ := mx_1r_sup e0
    obtain ⟨hb, e2⟩ := zd_cond_sup e1
    obtain ⟨hin, e3⟩ := zd_cond_sup e2
    have hcc := Nat.eq_of_beq_eq_true hb
    refine ⟨_, _, e3, fun K' z q => ?_, fun KH z q => ?_⟩
    · show cond (Nat.beq (zd_c d c) 103) (cond (mx_in i (zd_l c)) (K' (.inl (d.1 c i.toNatClampNeg) :: st1) d) none) none = some z
      rw [hb, hin]
      exact q
    · show mx_ar (zd_mk d) c (fun t n => if t = 3 ∧ mx_in i n = true then KH (.inl (mx_tI ((zd_mk d).2 c i.toNatClampNeg)) :: st1) (zd_mk d) else none) = some z
      rw [zd_vI d (t := 3) hcc (by omega)]
      simp only [mx_ar, zd_atA d (t := 3) hcc]
      rw [if_pos ⟨trivial, hin⟩]
      exact q
  | laload =>
    obtain ⟨i, st0, rfl, e0⟩ := mx_1i_sup (show mx_1i st (fun i st => mx_1r st fun c st => cond (Nat.beq (zd_c d c) 104) (cond (mx_in i (zd_l c)) (K (.inr (.inl (d.2.1 c i.toNatClampNeg)) :: st) d) none) none) = some y from e)
    obtain ⟨c, st1, rfl, e1⟩ := mx_1r_sup e0
    obtain ⟨hb, e2⟩ := zd_cond_sup e1
    obtain ⟨hin, e3⟩ := zd_cond_sup e2
    have hcc := Nat.eq_of_beq_eq_true hb
    refine ⟨_, _, e3, fun K' z q => ?_, fun KH z q => ?_⟩
    · show cond (Nat.beq (zd_c d c) 104) (cond (mx_in i (zd_l c)) (K' (.inr (.inl (d.2.1 c i.toNatClampNeg)) :: st1) d) none) none = some z
      rw [hb, hin]
      exact q
    · show mx_ar (zd_mk d) c (fun t n => if t = 4 ∧ mx_in i n = true then KH (.inr (.inl (mx_tL ((zd_mk d).2 c i.toNatClampNeg))) :: st1) (zd_mk d) else none) = some z
      rw [zd_vL d hcc]
      simp only [mx_ar, zd_atA d (t := 4) hcc]
      rw [if_pos ⟨trivial, hin⟩]
      exact q
  | aaload =>
    obtain ⟨i, st0, rfl, e0⟩ := mx_1i_sup (show mx_1i st (fun i st => mx_1r st fun c st => cond (Nat.beq (zd_c d c) 105 || Nat.beq (zd_c d c) 106) (cond (mx_in i (zd_l c)) (K (.inr (.inr (some (zd_rr c i.toNatClampNeg))) :: st) d) none) none) = some y from e)
    obtain ⟨c, st1, rfl, e1⟩ := mx_1r_sup e0
    obtain ⟨hb, e2⟩ := zd_cond_sup e1
    obtain ⟨hin, e3⟩ := zd_cond_sup e2
    refine ⟨_, _, e3, fun K' z q => ?_, fun KH z q => ?_⟩
    · show cond (Nat.beq (zd_c d c) 105 || Nat.beq (zd_c d c) 106) (cond (mx_in i (zd_l c)) (K' (.inr (.inr (some (zd_rr c i.toNatClampNeg))) :: st1) d) none) none = some z
      rw [hb, hin]
      exact q
    · show mx_ar (zd_mk d) c (fun t n => if (t = 5 ∨ t = 6) ∧ mx_in i n = true then KH (.inr (.inr (mx_tR ((zd_mk d).2 c i.toNatClampNeg))) :: st1) (zd_mk d) else none) = some z
      rw [Bool.or_eq_true] at hb
      rcases hb with hb | hb
      · have hcc := Nat.eq_of_beq_eq_true hb
        rw [zd_vR d (Or.inl hcc) ((Bool.and_eq_true _ _).mp hin).2]
        simp only [mx_ar, zd_atA d (t := 5) hcc]
        rw [if_pos ⟨Or.inl trivial, hin⟩]
        exact q
      · have hcc := Nat.eq_of_beq_eq_true hb
        rw [zd_vR d (Or.inr hcc) ((Bool.and_eq_true _ _).mp hin).2]
        simp only [mx_ar, zd_atA d (t := 6) hcc]
        rw [if_pos ⟨Or.inr trivial, hin⟩]
        exact q
  | iastore =>
    obtain ⟨x, sta, rfl, ea⟩ := mx_1i_sup (show mx_1i st (fun x st => mx_1i st fun i st => mx_1r st fun c st => cond (Nat.beq (zd_c d c) 100) (cond (mx_in i (zd_l c)) (K st (zd_u d c i.toNatClampNeg x)) none) none) = some y from e)
    obtain ⟨i, st0, rfl, e0⟩ := mx_1i_sup ea
    obtain ⟨c, st1, rfl, e1⟩ := mx_1r_sup e0
    obtain ⟨hb, e2⟩ := zd_cond_sup e1
    obtain ⟨hin, e3⟩ := zd_cond_sup e2
    have hcc := Nat.eq_of_beq_eq_true hb
    refine ⟨_, _, e3, fun K' z q => ?_, fun KH z q => ?_⟩
    · show cond (Nat.beq (zd_c d c) 100) (cond (mx_in i (zd_l c)) (K' st1 (zd_u d c i.toNatClampNeg x)) none) none = some z
      rw [hb, hin]
      exact q
    · show mx_ar (zd_mk d) c (fun t n => if t = 0 ∧ mx_in i n = true then KH st1 ((zd_mk d).1, mx_ur (zd_mk d).2 c (mx_u1 ((zd_mk d).2 c) i.toNatClampNeg (.inl x))) else none) = some z
      rw [← zd_mk_uA d (t := 0) hcc (by omega)]
      simp only [mx_ar, zd_atA d (t := 0) hcc]
      rw [if_pos ⟨trivial, hin⟩]
      exact q
  | bastore =>
    obtain ⟨x, sta, rfl, ea⟩ := mx_1i_sup (show mx_1i st (fun x st => mx_1i st fun i st => mx_1r st fun c st => cond (Nat.beq (zd_c d c) 101) (cond (mx_in i (zd_l c)) (K st (zd_u d c i.toNatClampNeg x.toInt8.toInt32)) none) (cond (Nat.beq (zd_c d c) 102) (cond (mx_in i (zd_l c)) (K st (zd_u d c i.toNatClampNeg (x &&& 1))) none) none)) = some y from e)
    obtain ⟨i, st0, rfl, e0⟩ := mx_1i_sup ea
    obtain ⟨c, st1, rfl, e1⟩ := mx_1r_sup e0
    cases hb : Nat.beq (zd_c d c) 101 with
    | true =>
      rw [hb] at e1
      obtain ⟨hin, e3⟩ := zd_cond_sup (show cond (mx_in i (zd_l c)) (K st1 (zd_u d c i.toNatClampNeg x.toInt8.toInt32)) none = some y from e1)
      have hcc := Nat.eq_of_beq_eq_true hb
      refine ⟨_, _, e3, fun K' z q => ?_, fun KH z q => ?_⟩
      · show cond (Nat.beq (zd_c d c) 101) (cond (mx_in i (zd_l c)) (K' st1 (zd_u d c i.toNatClampNeg x.toInt8.toInt32)) none) _ = some z
        rw [hb, hin]
        exact q
      · show mx_ar (zd_mk d) c (fun t n => if t = 1 ∧ mx_in i n = true then KH st1 ((zd_mk d).1, mx_ur (zd_mk d).2 c (mx_u1 ((zd_mk d).2 c) i.toNatClampNeg (.inl x.toInt8.toInt32))) else _) = some z
        rw [← zd_mk_uA d (t := 1) hcc (by omega)]
        simp only [mx_ar, zd_atA d (t := 1) hcc]
        rw [if_pos ⟨trivial, hin⟩]
        exact q
    | false =>
      rw [hb] at e1
      obtain ⟨hb2, e2⟩ := zd_cond_sup (show cond (Nat.beq (zd_c d c) 102) (cond (mx_in i (zd_l c)) (K st1 (zd_u d c i.toNatClampNeg (x &&& 1))) none) none = some y from e1)
      obtain ⟨hin, e3⟩ := zd_cond_sup e2
      have hcc := Nat.eq_of_beq_eq_true hb2
      refine ⟨_, _, e3, fun K' z q => ?_, fun KH z q => ?_⟩
      · show cond (Nat.beq (zd_c d c) 101) _ (cond (Nat.beq (zd_c d c) 102) (cond (mx_in i (zd_l c)) (K' st1 (zd_u d c i.toNatClampNeg (x &&& 1))) none) none) = some z
        rw [hb, hb2, hin]
        exact q
      · show mx_ar (zd_mk d) c (fun t n => if t = 1 ∧ mx_in i n = true then _ else if t = 2 ∧ mx_in i n = true then KH st1 ((zd_mk d).1, mx_ur (zd_mk d).2 c (mx_u1 ((zd_mk d).2 c) i.toNatClampNeg (.inl (x &&& 1)))) else none) = some z
        rw [← zd_mk_uA d (t := 2) (x := x &&& 1) hcc (by omega)]
        simp only [mx_ar, zd_atA d (t := 2) hcc]
        rw [if_neg (by simp), if_pos ⟨trivial, hin⟩]
        exact q
  | lastore =>
    obtain ⟨x, sta, rfl, ea⟩ := mx_1l_sup (show mx_1l st (fun x st => mx_1i st fun i st => mx_1r st fun c st => cond (Nat.beq (zd_c d c) 104) (cond (mx_in i (zd_l c)) (K st (zd_ul d c i.toNatClampNeg x)) none) none) = some y from e)
    obtain ⟨i, st0, rfl, e0⟩ := mx_1i_sup ea
    obtain ⟨c, st1, rfl, e1⟩ := mx_1r_sup e0
    obtain ⟨hb, e2⟩ := zd_cond_sup e1
    obtain ⟨hin, e3⟩ := zd_cond_sup e2
    have hcc := Nat.eq_of_beq_eq_true hb
    refine ⟨_, _, e3, fun K' z q => ?_, fun KH z q => ?_⟩
    · show cond (Nat.beq (zd_c d c) 104) (cond (mx_in i (zd_l c)) (K' st1 (zd_ul d c i.toNatClampNeg x)) none) none = some z
      rw [hb, hin]
      exact q
    · show mx_ar (zd_mk d) c (fun t n => if t = 4 ∧ mx_in i n = true then KH st1 ((zd_mk d).1, mx_ur (zd_mk d).2 c (mx_u1 ((zd_mk d).2 c) i.toNatClampNeg (.inr (.inl x)))) else none) = some z
      rw [← zd_mk_uL d hcc]
      simp only [mx_ar, zd_atA d (t := 4) hcc]
      rw [if_pos ⟨trivial, hin⟩]
      exact q
  | arraylength =>
    obtain ⟨c, st1, rfl, e1⟩ := mx_1r_sup (show mx_1r st (fun c st => cond (Nat.blt c 1000000) (cond (Nat.ble 100 (zd_c d c) && Nat.blt (zd_c d c) 107) (K (.inl (Int32.ofNat (zd_l c)) :: st) d) none) (mx_xr (zt_xA n xs) c fun _ n _ => K (.inl (Int32.ofNat n) :: st) d)) = some y from e)
    cases hc : Nat.blt c 1000000 with
    | true =>
      rw [hc] at e1
      obtain ⟨hb, e2⟩ := zd_cond_sup (show cond (Nat.ble 100 (zd_c d c) && Nat.blt (zd_c d c) 107) (K (.inl (Int32.ofNat (zd_l c)) :: st1) d) none = some y from e1)
      refine ⟨_, _, e2, fun K' z q => ?_, fun KH z q => ?_⟩
      · show cond (Nat.blt c 1000000) (cond (Nat.ble 100 (zd_c d c) && Nat.blt (zd_c d c) 107) (K' (.inl (Int32.ofNat (zd_l c)) :: st1) d) none) _ = some z
        rw [hc, hb]
        exact q
      · rw [Bool.and_eq_true] at hb
        have g1 := Nat.le_of_ble_eq_true hb.1
        have g2 := Nat.blt_eq.mp hb.2
        show cond (Nat.blt c 1000000) (mx_ar (zd_mk d) c fun t n => if t < 7 then KH (.inl (Int32.ofNat n) :: st1) (zd_mk d) else none) _ = some z
        rw [hc]
        show mx_ar (zd_mk d) c _ = some z
        have hs := zd_atA d (c := c) (t := zd_c d c - 100) (by omega)
        simp only [mx_ar, hs]
        rw [if_pos (by omega)]
        exact q
    | false =>
      rw [hc] at e1
      obtain ⟨t, m, f, hs, e2⟩ := mx_xr_sup (show mx_xr (zt_xA n xs) c (fun _ n _ => K (.inl (Int32.ofNat n) :: st1) d) = some y from e1)
      refine ⟨_, _, e2, fun K' z q => ?_, fun KH z q => ?_⟩
      · show cond (Nat.blt c 1000000) _ (mx_xr (zt_xA n xs) c fun _ n _ => K' (.inl (Int32.ofNat n) :: st1) d) = some z
        rw [hc]
        show mx_xr (zt_xA n xs) c _ = some z
        simp only [mx_xr, hs]
        exact q
      · show cond (Nat.blt c 1000000) _ (mx_xr (zt_xA n xs) c fun _ n _ => KH (.inl (Int32.ofNat n) :: st1) (zd_mk d)) = some z
        rw [hc]
        show mx_xr (zt_xA n xs) c _ = some z
        simp only [mx_xr, hs]
        exact q
  | newarray t =>
    obtain ⟨m, st1, rfl, e0⟩ := mx_1i_sup (show mx_1i st (fun m st => if m = 17400 ∧ a = 0 ∧ d.2.2 = false then K (.inr (.inr (some 130)) :: st) (fun k => if k = 130 then (fun _ => 0) else d.1 k, d.2.1, true) else none) = some y from e)
    obtain ⟨⟨rfl, rfl, hd⟩, e1⟩ := mx_if_sup e0
    refine ⟨_, _, e1, fun K' z q => ?_, fun KH z q => ?_⟩
    · show (if (17400 : Int32) = 17400 ∧ 0 = 0 ∧ d.2.2 = false then K' _ _ else none) = some z
      rw [if_pos ⟨rfl, rfl, hd⟩]
      exact q
    · show (if (zd_mk d).1.length < 1000000 ∧ mx_in 17400 1000001 = true then KH (.inr (.inr (some (zd_mk d).1.length)) :: st1) ((zd_mk d).1 ++ [.inr (0, (17400 : Int32).toNatClampNeg)], mx_ur (zd_mk d).2 (zd_mk d).1.length (fun _ => mx_df (mx_ty 0))) else none) = some z
      have hl : (zd_mk d).1.length = 130 := by rw [zd_len, hd]; rfl
      rw [if_pos ⟨by omega, by decide +kernel⟩]
      have hm := zd_mk_new d hd
      rw [hm] at q
      rw [hl] at q ⊢
      exact q
  | invokestatic x =>
    have e : cond (Nat.beq b 0) (cond (Nat.beq a 1) (mx_1i st fun v st => mx_1i st fun u st => cond (Nat.ble (mx_ct st) 8) (K (.inl (if u < v then v else u) :: st) d) none) (cond (Nat.beq a 2) (mx_1i st fun v st => mx_1i st fun u st => cond (Nat.ble (mx_ct st) 8) (K (.inl (if v < u then v else u) :: st) d) none) (mx_1i st fun m st => mx_1i st fun dp st => mx_1r st fun o1 st => mx_1i st fun sp st => mx_1r st fun o0 st => cond (Nat.ble (mx_ct st) 8) (cond (Nat.beq (zd_c d o0) 100 && Nat.beq (zd_c d o1) 100) (if ¬ sp < 0 ∧ ¬ dp < 0 ∧ ¬ m < 0 ∧ sp.toNatClampNeg + m.toNatClampNeg ≤ zd_l o0 ∧ dp.toNatClampNeg + m.toNatClampNeg ≤ zd_l o1 then K st (zd_s d o1 (va_cpy (d.1 o0) (d.1 o1) sp.toNatClampNeg dp.toNatClampNeg m.toNatClampNeg)) else none) (cond (Nat.beq (zd_c d o0) 104 && Nat.beq (zd_c d o1) 104) (if ¬ sp < 0 ∧ ¬ dp < 0 ∧ ¬ m < 0 ∧ sp.toNatClampNeg + m.toNatClampNeg ≤ zd_l o0 ∧ dp.toNatClampNeg + m.toNatClampNeg ≤ zd_l o1 then K st (zd_sl d o1 (va_cpy (d.2.1 o0) (d.2.1 o1) sp.toNatClampNeg dp.toNatClampNeg m.toNatClampNeg)) else none) none)) none))) none = some y := e
    obtain ⟨hb0, e⟩ := zd_cond_sup e
    cases hb1 : Nat.beq a 1 with
    | true =>
      rw [hb1] at e
      obtain ⟨v, s1, rfl, e1⟩ := mx_1i_sup (show mx_1i st (fun v st => mx_1i st fun u st => cond (Nat.ble (mx_ct st) 8) (K (.inl (if u < v then v else u) :: st) d) none) = some y from e)
      obtain ⟨u, s2, rfl, e2⟩ := mx_1i_sup e1
      obtain ⟨hct, e3⟩ := zd_cond_sup e2
      refine ⟨_, _, e3, fun K' z q => ?_, fun KH z q => ?_⟩
      · show cond (Nat.beq b 0) (cond (Nat.beq a 1) (cond (Nat.ble (mx_ct s2) 8) (K' _ d) none) _) none = some z
        rw [hb0, hb1, hct]
        exact q
      · show cond (Nat.beq b 0) (cond (Nat.beq a 1) (if mx_ct s2 ≤ 8 then KH _ (zd_mk d) else none) _) none = some z
        rw [hb0, hb1, if_pos (Nat.le_of_ble_eq_true hct)]
        exact q
    | false =>
    rw [hb1] at e
    cases hb2 : Nat.beq a 2 with
    | true =>
      rw [hb2] at e
      obtain ⟨v, s1, rfl, e1⟩ := mx_1i_sup (show mx_1i st (fun v st => mx_1i st fun u st => cond (Nat.ble (mx_ct st) 8) (K (.inl (if v < u then v else u) :: st) d) none) = some y from e)
      obtain ⟨u, s2, rfl, e2⟩ := mx_1i_sup e1
      obtain ⟨hct, e3⟩ := zd_cond_sup e2
      refine ⟨_, _, e3, fun K' z q => ?_, fun KH z q => ?_⟩
      · show cond (Nat.beq b 0) (cond (Nat.beq a 1) _ (cond (Nat.beq a 2) (cond (Nat.ble (mx_ct s2) 8) (K' _ d) none) _)) none = some z
        rw [hb0, hb1, hb2, hct]
        exact q
      · show cond (Nat.beq b 0) (cond (Nat.beq a 1) _ (cond (Nat.beq a 2) (if mx_ct s2 ≤ 8 then KH _ (zd_mk d) else none) _)) none = some z
        rw [hb0, hb1, hb2, if_pos (Nat.le_of_ble_eq_true hct)]
        exact q
    | false =>
    rw [hb2] at e
    obtain ⟨m, s1, rfl, e1⟩ := mx_1i_sup (show mx_1i st (fun m st => mx_1i st fun dp st => mx_1r st fun o1 st => mx_1i st fun sp st => mx_1r st fun o0 st => cond (Nat.ble (mx_ct st) 8) (cond (Nat.beq (zd_c d o0) 100 && Nat.beq (zd_c d o1) 100) (if ¬ sp < 0 ∧ ¬ dp < 0 ∧ ¬ m < 0 ∧ sp.toNatClampNeg + m.toNatClampNeg ≤ zd_l o0 ∧ dp.toNatClampNeg + m.toNatClampNeg ≤ zd_l o1 then K st (zd_s d o1 (va_cpy (d.1 o0) (d.1 o1) sp.toNatClampNeg dp.toNatClampNeg m.toNatClampNeg)) else none) (cond (Nat.beq (zd_c d o0) 104 && Nat.beq (zd_c d o1) 104) (if ¬ sp < 0 ∧ ¬ dp < 0 ∧ ¬ m < 0 ∧ sp.toNatClampNeg + m.toNatClampNeg ≤ zd_l o0 ∧ dp.toNatClampNeg + m.toNatClampNeg ≤ zd_l o1 then K st (zd_sl d o1 (va_cpy (d.2.1 o0) (d.2.1 o1) sp.toNatClampNeg dp.toNatClampNeg m.toNatClampNeg)) else none) none)) none) = some y from e)
    obtain ⟨dp, s2, rfl, e2⟩ := mx_1i_sup e1
    obtain ⟨o1, s3, rfl, e3⟩ := mx_1r_sup e2
    obtain ⟨sp, s4, rfl, e4⟩ := mx_1i_sup e3
    obtain ⟨o0, s5, rfl, e5⟩ := mx_1r_sup e4
    obtain ⟨hct, e6⟩ := zd_cond_sup e5
    cases hi : (Nat.beq (zd_c d o0) 100 && Nat.beq (zd_c d o1) 100) with
    | true =>
      rw [hi] at e6
      obtain ⟨g, e7⟩ := mx_if_sup (show (if ¬ sp < 0 ∧ ¬ dp < 0 ∧ ¬ m < 0 ∧ sp.toNatClampNeg + m.toNatClampNeg ≤ zd_l o0 ∧ dp.toNatClampNeg + m.toNatClampNeg ≤ zd_l o1 then K s5 (zd_s d o1 (va_cpy (d.1 o0) (d.1 o1) sp.toNatClampNeg dp.toNatClampNeg m.toNatClampNeg)) else none) = some y from e6)
      refine ⟨_, _, e7, fun K' z q => ?_, fun KH z q => ?_⟩
      · show cond (Nat.beq b 0) (cond (Nat.beq a 1) _ (cond (Nat.beq a 2) _ (cond (Nat.ble (mx_ct s5) 8) (cond (Nat.beq (zd_c d o0) 100 && Nat.beq (zd_c d o1) 100) (if ¬ sp < 0 ∧ ¬ dp < 0 ∧ ¬ m < 0 ∧ sp.toNatClampNeg + m.toNatClampNeg ≤ zd_l o0 ∧ dp.toNatClampNeg + m.toNatClampNeg ≤ zd_l o1 then K' s5 _ else none) _) none))) none = some z
        rw [hb0, hb1, hb2, hct, hi, if_pos g]
        exact q
      · rw [Bool.and_eq_true] at hi
        have c0 := Nat.eq_of_beq_eq_true hi.1
        have c1 := Nat.eq_of_beq_eq_true hi.2
        show cond (Nat.beq b 0) (cond (Nat.beq a 1) _ (cond (Nat.beq a 2) _ (mx_ar (zd_mk d) o0 fun t0 n0 => mx_ar (zd_mk d) o1 fun t1 n1 => if (t0 = t1 ∧ (t0 = 0 ∨ t0 = 4)) ∧ ¬ sp < 0 ∧ ¬ dp < 0 ∧ ¬ m < 0 ∧ sp.toNatClampNeg + m.toNatClampNeg ≤ n0 ∧ dp.toNatClampNeg + m.toNatClampNeg ≤ n1 ∧ mx_ct s5 ≤ 8 then KH s5 ((zd_mk d).1, mx_ur (zd_mk d).2 o1 (va_cpy ((zd_mk d).2 o0) ((zd_mk d).2 o1) sp.toNatClampNeg dp.toNatClampNeg m.toNatClampNeg)) else none))) none = some z
        rw [hb0, hb1, hb2, ← zd_mk_s d c0 c1]
        show mx_ar (zd_mk d) o0 _ = some z
        simp only [mx_ar, zd_atA d (t := 0) c0, zd_atA d (t := 0) c1]
        rw [if_pos ⟨⟨trivial, Or.inl trivial⟩, g.1, g.2.1, g.2.2.1, g.2.2.2.1, g.2.2.2.2, Nat.le_of_ble_eq_true hct⟩]
        exact q
    | false =>
      rw [hi] at e6
      obtain ⟨hi2, e6⟩ := zd_cond_sup (show cond (Nat.beq (zd_c d o0) 104 && Nat.beq (zd_c d o1) 104) _ none = some y from e6)
      obtain ⟨g, e7⟩ := mx_if_sup e6
      refine ⟨_, _, e7, fun K' z q => ?_, fun KH z q => ?_⟩
      · show cond (Nat.beq b 0) (cond (Nat.beq a 1) _ (cond (Nat.beq a 2) _ (cond (Nat.ble (mx_ct s5) 8) (cond (Nat.beq (zd_c d o0) 100 && Nat.beq (zd_c d o1) 100) _ (cond (Nat.beq (zd_c d o0) 104 && Nat.beq (zd_c d o1) 104) (if ¬ sp < 0 ∧ ¬ dp < 0 ∧ ¬ m < 0 ∧ sp.toNatClampNeg + m.toNatClampNeg ≤ zd_l o0 ∧ dp.toNatClampNeg + m.toNatClampNeg ≤ zd_l o1 then K' s5 _ else none) none)) none))) none = some z
        rw [hb0, hb1, hb2, hct, hi, hi2]
        show (if ¬ sp < 0 ∧ ¬ dp < 0 ∧ ¬ m < 0 ∧ sp.toNatClampNeg + m.toNatClampNeg ≤ zd_l o0 ∧ dp.toNatClampNeg + m.toNatClampNeg ≤ zd_l o1 then K' s5 (zd_sl d o1 (va_cpy (d.2.1 o0) (d.2.1 o1) sp.toNatClampNeg dp.toNatClampNeg m.toNatClampNeg)) else none) = some z
        rw [if_pos g]
        exact q
      · rw [Bool.and_eq_true] at hi2
        have c0 := Nat.eq_of_beq_eq_true hi2.1
        have c1 := Nat.eq_of_beq_eq_true hi2.2
        show cond (Nat.beq b 0) (cond (Nat.beq a 1) _ (cond (Nat.beq a 2) _ (mx_ar (zd_mk d) o0 fun t0 n0 => mx_ar (zd_mk d) o1 fun t1 n1 => if (t0 = t1 ∧ (t0 = 0 ∨ t0 = 4)) ∧ ¬ sp < 0 ∧ ¬ dp < 0 ∧ ¬ m < 0 ∧ sp.toNatClampNeg + m.toNatClampNeg ≤ n0 ∧ dp.toNatClampNeg + m.toNatClampNeg ≤ n1 ∧ mx_ct s5 ≤ 8 then KH s5 ((zd_mk d).1, mx_ur (zd_mk d).2 o1 (va_cpy ((zd_mk d).2 o0) ((zd_mk d).2 o1) sp.toNatClampNeg dp.toNatClampNeg m.toNatClampNeg)) else none))) none = some z
        rw [hb0, hb1, hb2, ← zd_mk_sl d c0 c1]
        show mx_ar (zd_mk d) o0 _ = some z
        simp only [mx_ar, zd_atA d (t := 4) c0, zd_atA d (t := 4) c1]
        rw [if_pos ⟨⟨trivial, Or.inr trivial⟩, g.1, g.2.1, g.2.2.1, g.2.2.2.1, g.2.2.2.2, Nat.le_of_ble_eq_true hct⟩]
        exact q
  | _ => cases e
theorem zd_HP : mx_HP (zd_hop n xs) := by
  intro r st s K x e
  obtain ⟨i, pc, nx, a, b, v, sw⟩ := r
  obtain ⟨st', d', h1, h2, -⟩ := zd_sup e
  exact ⟨st', d', h1, h2⟩
theorem zd_SH : mx_SH zd_mk (zd_hop n xs) (zt_H n xs) := by
  intro r st s K x e
  obtain ⟨i, pc, nx, a, b, v, sw⟩ := r
  obtain ⟨st', d', h1, -, h2⟩ := zd_sup e
  exact ⟨st', d', h1, h2⟩
end ZdSup
theorem zd_rc_ok (a : Nat) (as : List mx_V) (d : zd_D) (h : zd_rc a as d = true) : zt_rc a as (zd_mk d) = true := by
  unfold zd_rc at h
  rw [Bool.and_eq_true] at h
  unfold zt_rc
  rw [Bool.and_eq_true]
  refine ⟨h.1, ?_⟩
  have h2 := h.2
  cases hq : Nat.blt (zt_q a) 2 with
  | false => rfl
  | true =>
    rw [hq] at h2
    match as, h2 with
    | .inr (.inr (some c)) :: _, h2 =>
      have h2 : cond (Nat.blt c 1000000) (Nat.beq (zd_c d c) (zt_o a + 1) && Nat.blt (zt_o a) 50) (Nat.beq (zt_o a) 15 && (Nat.ble 1000001 c && Nat.ble c 1000014)) = true := h2
      show zt_rv a c (zd_mk d) = true
      unfold zt_rv
      cases hc : Nat.blt c 1000000 with
      | false => rw [hc] at h2; exact h2
      | true =>
        rw [hc] at h2
        have h2 : (Nat.beq (zd_c d c) (zt_o a + 1) && Nat.blt (zt_o a) 50) = true := h2
        rw [Bool.and_eq_true] at h2
        have hcc := Nat.eq_of_beq_eq_true h2.1
        have ho : zt_o a + 1 < 100 := by
          have := Nat.blt_eq.mp h2.2
          omega
        show (match (zd_mk d).1[c]? with
          | some (.inl ci) => Nat.beq ci (zt_o a)
          | _ => false) = true
        rw [zd_atO d hcc ho]
        exact Nat.beq_refl _
    | [], h2 => cases h2
    | .inl _ :: _, h2 => cases h2
    | .inr (.inl _) :: _, h2 => cases h2
    | .inr (.inr none) :: _, h2 => cases h2
