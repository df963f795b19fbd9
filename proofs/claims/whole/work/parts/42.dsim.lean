/-! ===== the machine over data does what the machine over cells does ===== -/
theorem zd_len (d : zd_D) : (zd_mk d).1.length = cond d.2.2 131 130 := by
  simp [zd_mk]
theorem zd_at (d : zd_D) {c : Nat} (h : zd_c d c ≠ 0) : (zd_mk d).1[c]? = some (zd_sp d c) := by
  have hc : c < cond d.2.2 131 130 := by
    unfold zd_c at h
    cases h1 : Nat.blt c 130 with
    | true =>
      have := Nat.blt_eq.mp h1
      cases d.2.2 <;> simp <;> omega
    | false =>
      rw [h1] at h
      cases h2 : (Nat.beq c 130 && d.2.2) with
      | false => rw [h2] at h; exact absurd rfl h
      | true =>
        rw [Bool.and_eq_true] at h2
        have := Nat.eq_of_beq_eq_true h2.1
        rw [h2.2, this]
        decide
  show ((List.range (cond d.2.2 131 130)).map (zd_sp d))[c]? = _
  rw [List.getElem?_map, List.getElem?_range hc]
  rfl
theorem zd_atO (d : zd_D) {c a : Nat} (h : zd_c d c = a + 1) (ha : a + 1 < 100) : (zd_mk d).1[c]? = some (.inl a) := by
  rw [zd_at d (by omega)]
  unfold zd_sp
  rw [h, Nat.blt_eq.mpr ha]
  rfl
theorem zd_blt {n m : Nat} (h : ¬ n < m) : Nat.blt n m = false := by
  cases hb : Nat.blt n m with
  | false => rfl
  | true => exact absurd (Nat.blt_eq.mp hb) h
theorem zd_atA (d : zd_D) {c t : Nat} (h : zd_c d c = 100 + t) : (zd_mk d).1[c]? = some (.inr (t, zd_l c)) := by
  rw [zd_at d (by omega)]
  unfold zd_sp
  rw [h, zd_blt (by omega), Nat.add_sub_cancel_left]
  rfl
theorem zd_vO (d : zd_D) {c a : Nat} (h : zd_c d c = a + 1) (ha : a + 1 < 100) (b : Nat) : (zd_mk d).2 c b = zd_fv a b c d := by
  show zd_v d c b = _
  unfold zd_v
  rw [h, Nat.blt_eq.mpr ha]
  rfl
theorem zd_beq {n m : Nat} (h : n ≠ m) : Nat.beq n m = false := by
  cases hb : Nat.beq n m with
  | false => rfl
  | true => exact absurd (Nat.eq_of_beq_eq_true hb) h
theorem zd_vI (d : zd_D) {c t : Nat} (h : zd_c d c = 100 + t) (ht : t < 4) (i : Nat) : (zd_mk d).2 c i = .inl (d.1 c i) := by
  show zd_v d c i = _
  unfold zd_v
  rw [h, zd_blt (by omega), zd_beq (by omega), zd_blt (by omega)]
  rfl
theorem zd_vL (d : zd_D) {c : Nat} (h : zd_c d c = 104) (i : Nat) : (zd_mk d).2 c i = .inr (.inl (d.2.1 c i)) := by
  show zd_v d c i = _
  unfold zd_v
  rw [h]
  rfl
theorem zd_vR (d : zd_D) {c : Nat} (h : zd_c d c = 105 ∨ zd_c d c = 106) {i : Nat} (hi : Nat.blt i (zd_l c) = true) : (zd_mk d).2 c i = .inr (.inr (some (zd_rr c i))) := by
  show zd_v d c i = _
  unfold zd_v
  rcases h with h | h
  · rw [h, hi]; rfl
  · rw [h, hi]; rfl
theorem zd_v_same {d d' : zd_D} {c : Nat} (hc : zd_c d' c = zd_c d c) (h1 : d'.1 c = d.1 c) (h2 : d'.2.1 c = d.2.1 c) : zd_v d' c = zd_v d c := by
  funext i
  unfold zd_v zd_fv
  rw [hc, h1, h2]
/-- an int of a row or of a field -/
theorem zd_mk_u (d : zd_D) {c i : Nat} {x : Int32} {w : mx_V} (hv : ∀ j, zd_v (zd_u d c i x) c j = if j = i then w else zd_v d c j) : zd_mk (zd_u d c i x) = ((zd_mk d).1, mx_ur (zd_mk d).2 c (mx_u1 ((zd_mk d).2 c) i w)) := by
  have e2 : zd_v (zd_u d c i x) = mx_ur (zd_v d) c (mx_u1 (zd_v d c) i w) := by
    funext k
    unfold mx_ur
    by_cases hk : k = c
    · subst hk
      rw [if_pos rfl]
      funext j
      exact hv j
    · rw [if_neg hk]
      exact zd_v_same rfl (by simp [zd_u, hk]) rfl
  show ((List.range (cond d.2.2 (130 + 1) 130)).map (zd_sp d), zd_v (zd_u d c i x)) = _
  rw [e2]
  rfl
theorem zd_mk_uA (d : zd_D) {c t i : Nat} {x : Int32} (h : zd_c d c = 100 + t) (ht : t < 4) : zd_mk (zd_u d c i x) = ((zd_mk d).1, mx_ur (zd_mk d).2 c (mx_u1 ((zd_mk d).2 c) i (.inl x))) := by
  refine zd_mk_u d fun j => ?_
  have e1 := zd_vI (zd_u d c i x) (c := c) (t := t) h ht j
  have e2 := zd_vI d h ht j
  rw [show zd_v (zd_u d c i x) c j = _ from e1, show zd_v d c j = _ from e2]
  by_cases hj : j = i <;> simp [zd_u, hj]
theorem zd_mk_uF (d : zd_D) {c a b : Nat} {x : Int32} {w : mx_V} (h : zd_c d c = a + 1) (ha : a + 1 < 100) (hw : zd_fv a b c (zd_u d c b x) = w) : zd_mk (zd_u d c b x) = ((zd_mk d).1, mx_ur (zd_mk d).2 c (mx_u1 ((zd_mk d).2 c) b w)) := by
  refine zd_mk_u d fun j => ?_
  have e1 := zd_vO (zd_u d c b x) (c := c) (a := a) h ha j
  have e2 := zd_vO d h ha j
  rw [show zd_v (zd_u d c b x) c j = _ from e1, show zd_v d c j = _ from e2]
  by_cases hj : j = b
  · subst hj
    rw [if_pos rfl]
    exact hw
  · rw [if_neg hj]
    unfold zd_fv
    have : (zd_u d c b x).1 c j = d.1 c j := by simp [zd_u, hj]
    rw [this]
theorem zd_mk_uL (d : zd_D) {c i : Nat} {x : Int64} (h : zd_c d c = 104) : zd_mk (zd_ul d c i x) = ((zd_mk d).1, mx_ur (zd_mk d).2 c (mx_u1 ((zd_mk d).2 c) i (.inr (.inl x)))) := by
  have e2 : zd_v (zd_ul d c i x) = mx_ur (zd_v d) c (mx_u1 (zd_v d c) i (.inr (.inl x))) := by
    funext k
    unfold mx_ur
    by_cases hk : k = c
    · subst hk
      rw [if_pos rfl]
      funext j
      have e1 := zd_vL (zd_ul d k i x) (c := k) h j
      have e2 := zd_vL d h j
      rw [show zd_v (zd_ul d k i x) k j = _ from e1]
      unfold mx_u1
      rw [show zd_v d k j = _ from e2]
      by_cases hj : j = i <;> simp [zd_ul, hj]
    · rw [if_neg hk]
      exact zd_v_same rfl rfl (by simp [zd_ul, hk])
  show ((List.range (cond d.2.2 (130 + 1) 130)).map (zd_sp d), zd_v (zd_ul d c i x)) = _
  rw [e2]
  rfl
theorem zd_mk_s (d : zd_D) {o0 o1 sp dp n : Nat} (h0 : zd_c d o0 = 100) (h1 : zd_c d o1 = 100) : zd_mk (zd_s d o1 (va_cpy (d.1 o0) (d.1 o1) sp dp n)) = ((zd_mk d).1, mx_ur (zd_mk d).2 o1 (va_cpy ((zd_mk d).2 o0) ((zd_mk d).2 o1) sp dp n)) := by
  have e2 : zd_v (zd_s d o1 (va_cpy (d.1 o0) (d.1 o1) sp dp n)) = mx_ur (zd_v d) o1 (va_cpy (zd_v d o0) (zd_v d o1) sp dp n) := by
    funext k
    unfold mx_ur
    by_cases hk : k = o1
    · subst hk
      rw [if_pos rfl]
      funext j
      have e1 := zd_vI (zd_s d k (va_cpy (d.1 o0) (d.1 k) sp dp n)) (c := k) (t := 0) h1 (by omega) j
      rw [show zd_v (zd_s d k (va_cpy (d.1 o0) (d.1 k) sp dp n)) k j = _ from e1]
      unfold va_cpy
      rw [show zd_v d o0 (sp + (j - dp)) = _ from zd_vI d (t := 0) h0 (by omega) _, show zd_v d k j = _ from zd_vI d (t := 0) h1 (by omega) _]
      simp only [zd_s, if_pos]
      split <;> rfl
    · rw [if_neg hk]
      exact zd_v_same rfl (by simp [zd_s, hk]) rfl
  show ((List.range (cond d.2.2 (130 + 1) 130)).map (zd_sp d), _) = _
  rw [e2]
  rfl
theorem zd_mk_sl (d : zd_D) {o0 o1 sp dp n : Nat} (h0 : zd_c d o0 = 104) (h1 : zd_c d o1 = 104) : zd_mk (zd_sl d o1 (va_cpy (d.2.1 o0) (d.2.1 o1) sp dp n)) = ((zd_mk d).1, mx_ur (zd_mk d).2 o1 (va_cpy ((zd_mk d).2 o0) ((zd_mk d).2 o1) sp dp n)) := by
  have e2 : zd_v (zd_sl d o1 (va_cpy (d.2.1 o0) (d.2.1 o1) sp dp n)) = mx_ur (zd_v d) o1 (va_cpy (zd_v d o0) (zd_v d o1) sp dp n) := by
    funext k
    unfold mx_ur
    by_cases hk : k = o1
    · subst hk
      rw [if_pos rfl]
      funext j
      have e1 := zd_vL (zd_sl d k (va_cpy (d.2.1 o0) (d.2.1 k) sp dp n)) (c := k) h1 j
      rw [show zd_v (zd_sl d k (va_cpy (d.2.1 o0) (d.2.1 k) sp dp n)) k j = _ from e1]
      unfold va_cpy
      rw [show zd_v d o0 (sp + (j - dp)) = _ from zd_vL d h0 _, show zd_v d k j = _ from zd_vL d h1 _]
      simp only [zd_sl, if_pos]
      split <;> rfl
    · rw [if_neg hk]
      exact zd_v_same rfl rfl (by simp [zd_sl, hk])
  show ((List.range (cond d.2.2 (130 + 1) 130)).map (zd_sp d), _) = _
  rw [e2]
  rfl
theorem zd_mk_new (d : zd_D) (h : d.2.2 = false) : zd_mk (fun k => if k = 130 then (fun _ => 0) else d.1 k, d.2.1, true) = ((zd_mk d).1 ++ [.inr (0, 17400)], mx_ur (zd_mk d).2 (zd_mk d).1.length (fun _ => .inl 0)) := by
  have hl : (zd_mk d).1.length = 130 := by rw [zd_len, h]; rfl
  have hcs : ∀ k, k ≠ 130 → zd_c (fun k => if k = 130 then (fun _ => 0) else d.1 k, d.2.1, true) k = zd_c d k := by
    intro k hk
    unfold zd_c
    rw [zd_beq hk]
    rfl
  rw [hl]
  have e1 : (List.range 131).map (zd_sp (fun k => if k = 130 then (fun _ => 0) else d.1 k, d.2.1, true)) = (List.range 130).map (zd_sp d) ++ [.inr (0, 17400)] := by
    rw [show (131 : Nat) = 130 + 1 from rfl, List.range_succ, List.map_append]
    have e0 : (List.range 130).map (zd_sp (fun k => if k = 130 then (fun _ => 0) else d.1 k, d.2.1, true)) = (List.range 130).map (zd_sp d) := by
      apply List.map_congr_left
      intro k hk
      have hk := List.mem_range.mp hk
      unfold zd_sp
      rw [hcs k (by omega)]
    rw [e0]
    rfl
  have e2 : zd_v (fun k => if k = 130 then (fun _ => 0) else d.1 k, d.2.1, true) = mx_ur (zd_v d) 130 (fun _ => .inl 0) := by
    funext k
    unfold mx_ur
    by_cases hk : k = 130
    · subst hk
      rw [if_pos rfl]
      funext j
      rfl
    · rw [if_neg hk]
      exact zd_v_same (hcs k hk) (by simp [hk]) rfl
  show ((List.range (cond true (130 + 1) 130)).map _, _) = _
  rw [show cond true (130 + 1) 130 = 131 from rfl, e1, e2]
  show _ = ((List.range (cond d.2.2 (130 + 1) 130)).map (zd_sp d) ++ _, _)
  rw [h]
  rfl
/-- the kinds of fields are those of their types -/
theorem zd_k_ok : (List.range 13).all (fun a => (List.range 64).all (fun b => match zd_k a b with
  | (0, 0) => decide (zt_ty a b = .int)
  | (0, 1) => decide (zt_ty a b = .boolean)
  | (3, _) => decide (zt_ty a b = .array .int)
  | _ => true)) = true := by decide +kernel
theorem zd_k_lt {a b : Nat} (h : zd_k a b ≠ (9, 0)) : a < 13 ∧ b < 64 := by
  unfold zd_k at h
  cases hb : (Nat.blt a 13 && Nat.blt b 64) with
  | false => rw [hb] at h; exact absurd rfl h
  | true =>
    rw [Bool.and_eq_true] at hb
    exact ⟨Nat.blt_eq.mp hb.1, Nat.blt_eq.mp hb.2⟩
theorem zd_k_at {a b : Nat} (h : zd_k a b ≠ (9, 0)) : (match zd_k a b with
  | (0, 0) => decide (zt_ty a b = .int)
  | (0, 1) => decide (zt_ty a b = .boolean)
  | (3, _) => decide (zt_ty a b = .array .int)
  | _ => true) = true :=
  List.all_eq_true.mp (List.all_eq_true.mp zd_k_ok a (List.mem_range.mpr (zd_k_lt h).1)) b (List.mem_range.mpr (zd_k_lt h).2)
