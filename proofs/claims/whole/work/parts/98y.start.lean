/-! ===== the constructors: what they leave ===== -/
section ZStart
variable {g : zq_G}
theorem zq_lk_ge {d : mx_V} {i : Nat} (hi : 64 ≤ i) : ∀ l : List (Nat × mx_V), l.all (fun p => Nat.blt p.1 64) = true → zq_lk d i l = d
  | [], _ => rfl
  | x :: l, h => by
    rw [List.all_cons, Bool.and_eq_true] at h
    have h1 : x.1 < 64 := Nat.blt_eq.mp h.1
    show cond (Nat.beq i x.1) x.2 (zq_lk d i l) = d
    rw [zg_nb (show ¬ i = x.1 by omega)]
    exact zq_lk_ge hi l h.2
theorem zq_zc (d : zd_D) {c : Nat} (hc : c < 130) : zd_c d c = mx_gx zd_cc c := by
  unfold zd_c
  rw [Nat.blt_eq.mpr hc]
  rfl
theorem zq_far {c i : Nat} (hc : c < 130) (hi : 64 ≤ i) (hok : zq_ok c = true) (hv : zq_val g c i = mx_tI (zq_df (zd_sp zq_z c) i)) : zq_df (zd_sp zq_z c) i = zd_v (zq_d0 g) c i := by
  unfold zd_v
  rw [zq_zc _ hc]
  have hsp : zd_sp zq_z c = cond (Nat.blt (mx_gx zd_cc c) 100) (.inl (mx_gx zd_cc c - 1)) (.inr (mx_gx zd_cc c - 100, zd_l c)) := by
    unfold zd_sp
    rw [zq_zc _ hc]
  rw [show (zq_d0 g).1 c i = zq_val g c i from rfl, hv, hsp]
  unfold zq_ok at hok
  rw [Bool.and_eq_true, Bool.and_eq_true] at hok
  obtain ⟨⟨o1, o2⟩, o3⟩ := hok
  have o1 := Nat.blt_eq.mp o1
  have o2 := Nat.blt_eq.mp o2
  generalize mx_gx zd_cc c = q at *
  cases hb : Nat.blt q 100 with
  | true =>
    show mx_df (zt_ty (q - 1) i) = zd_fv (q - 1) i c (zq_d0 g)
    have hk : zd_k (q - 1) i = (9, 0) := by
      unfold zd_k
      rw [show Nat.blt i 64 = false from zd_blt (by omega), Bool.and_false]
      rfl
    unfold zd_fv
    rw [hk]
    rfl
  | false =>
    have hb : ¬ q < 100 := fun w => by rw [Nat.blt_eq.mpr w] at hb; cases hb
    have hq : q = 100 ∨ q = 101 ∨ q = 102 ∨ q = 103 ∨ q = 104 ∨ q = 105 ∨ q = 106 := by omega
    rcases hq with rfl | rfl | rfl | rfl | rfl | rfl | rfl
    · rfl
    · rfl
    · rfl
    · rfl
    · rfl
    · have : zd_l c ≤ 64 := Nat.le_of_ble_eq_true o3
      show _ = Sum.inr (Sum.inr (cond (Nat.blt i (zd_l c)) (some (zd_rr c i)) none))
      rw [show Nat.blt i (zd_l c) = false from zd_blt (by omega)]
      rfl
    · have : zd_l c ≤ 64 := Nat.le_of_ble_eq_true o3
      show _ = Sum.inr (Sum.inr (cond (Nat.blt i (zd_l c)) (some (zd_rr c i)) none))
      rw [show Nat.blt i (zd_l c) = false from zd_blt (by omega)]
      rfl
theorem zq_eq (h : zq_ck g = true) : zq_mk zq_base g = zd_mk (zq_d0 g) := by
  unfold zq_ck at h
  rw [Bool.and_eq_true] at h
  have hlen : g.length = 130 := Nat.eq_of_beq_eq_true h.1
  have hall : ∀ c, c < 130 → ∃ x, g[c]? = some x ∧ zq_c1 g c x = true := by
    intro c hc
    have := List.all_eq_true.mp h.2 c (List.mem_range.mpr hc)
    split at this
    · cases this
    · next x hx => exact ⟨x, hx, this⟩
  refine Prod.ext ?_ (funext fun c => funext fun i => ?_)
  · show g.map (fun x => x.1) = (List.range 130).map (zd_sp (zq_d0 g))
    apply List.ext_getElem?
    intro k
    rw [List.getElem?_map, List.getElem?_map]
    by_cases hk : k < 130
    · obtain ⟨x, hx, h1⟩ := hall k hk
      unfold zq_c1 at h1
      rw [Bool.and_eq_true] at h1
      rw [hx, List.getElem?_range hk]
      show some x.1 = some (zd_sp (zq_d0 g) k)
      rw [of_decide_eq_true h1.1]
      rfl
    · rw [List.getElem?_eq_none (by omega), List.getElem?_eq_none (by rw [List.length_range]; omega)]
      rfl
  · show (match g[c]? with | none => zq_base c i | some x => zq_lk (zq_df x.1 i) i x.2) = zd_v (zq_d0 g) c i
    by_cases hc : c < 130
    · obtain ⟨x, hx, h1⟩ := hall c hc
      unfold zq_c1 at h1
      rw [Bool.and_eq_true, Bool.and_eq_true, Bool.and_eq_true] at h1
      obtain ⟨e1, e2, e3, e4⟩ := h1
      rw [hx]
      by_cases hi : i < 64
      · exact of_decide_eq_true (List.all_eq_true.mp e3 i (List.mem_range.mpr hi))
      · have hv : zq_val g c i = mx_tI (zq_df (zd_sp zq_z c) i) := by
          unfold zq_val
          rw [hx]
          show mx_tI (zq_lk (zq_df x.1 i) i x.2) = _
          rw [zq_lk_ge (by omega) _ e2, of_decide_eq_true e1]
        show zq_lk (zq_df x.1 i) i x.2 = _
        rw [zq_lk_ge (by omega) _ e2, of_decide_eq_true e1]
        exact zq_far hc (by omega) e4 hv
    · have hg : g[c]? = none := List.getElem?_eq_none (by omega)
      rw [hg]
      show zd_v zq_z c i = _
      have := zd_v_same (d := zq_z) (d' := zq_d0 g) (c := c) rfl (funext fun j => by
        show zq_val g c j = 0
        unfold zq_val
        rw [hg]) rfl
      rw [this]
theorem zq_zR (h : zq_fk (zq_val g) = true) : zR (zq_d0 g) (zq_d0 g) := by
  unfold zq_fk at h
  simp only [Bool.and_eq_true, decide_eq_true_eq] at h
  obtain ⟨⟨⟨a1, ⟨m0, m1, m2, m3, m4, m5, m6, m7⟩, ⟨b8, b9, b10, s0, s7, t0, l4, w0⟩⟩, ⟨mm, ⟨i2, j2, p1, q4, r0, r19, q14, q53⟩, ⟨k38, f9, f10, f60⟩⟩⟩, ⟨sh, sl, lt, bg⟩⟩ := h
  have a1 : ∀ i, i < 8 → zq_val g 2 i = zq_val g 92 i := fun i hi => of_decide_eq_true (List.all_eq_true.mp a1 i (List.mem_range.mpr hi))
  have mm : ∀ i, i < 32 → zq_val g 14 i = zq_val g 92 (152 + i) := fun i hi => of_decide_eq_true (List.all_eq_true.mp mm i (List.mem_range.mpr hi))
  have sh : ∀ j, j < 4 → zq_val g (65 + 2 * j) 0 = 0 ∧ zq_val g 123 j = -1 := fun i hi => of_decide_eq_true (List.all_eq_true.mp sh i (List.mem_range.mpr hi))
  have sl : ∀ j, j < 6 → zq_val g (73 + 3 * j) 0 = 0 ∧ zq_val g 127 j = 0 := fun i hi => of_decide_eq_true (List.all_eq_true.mp sl i (List.mem_range.mpr hi))
  have lt : ∀ i, i < 61 → zq_val g 95 i = zs_let i := fun i hi => of_decide_eq_true (List.all_eq_true.mp lt i (List.mem_range.mpr hi))
  have bg : ∀ i, i < 15 → zq_val g 96 i = nI (zs_beg i) := fun i hi => of_decide_eq_true (List.all_eq_true.mp bg i (List.mem_range.mpr hi))
  have hB : zs_B (zq_val g 92) 0 0 = 0 := rfl
  refine ⟨zq_val g 92, 0, fun _ => 0, 0, ⟨⟨⟨b8, by omega, ⟨⟨Or.inl m0, Or.inr (Or.inl m1)⟩, Or.inl m2, ⟨10, by omega, m3⟩, ⟨3, by omega, m4⟩, Or.inl m5, ⟨1, by omega, m6⟩, ⟨2, by omega, m7⟩⟩, fun k hk => absurd hk (Nat.not_lt_zero k)⟩, fun i _ _ _ => rfl, a1, ⟨s0, fun k hk => absurd hk (Nat.not_lt_zero k)⟩, ⟨s7, fun k hk => ?_, fun e he => absurd he (Nat.not_lt_zero e)⟩, fun e he => absurd he (Nat.not_lt_zero e), fun e he => absurd he (Nat.not_lt_zero e), ⟨l4.trans b9.symm, ⟨0, by omega, b9⟩, mm⟩, ⟨⟨w0, b10, by omega⟩, fun i hi => absurd hi (Nat.not_lt_zero i)⟩⟩, Or.inl ⟨i2, j2⟩, ⟨0, by omega, p1, q4, fun i hi => absurd hi (Nat.not_lt_zero i)⟩, Or.inl ⟨r0, r19⟩, ⟨0, by omega, q14, q53, fun i hi => absurd hi (Nat.not_lt_zero i)⟩, fun j hj => Or.inl (sh j hj), fun j hj => ⟨0, by omega, (sl j hj).1, (sl j hj).2, fun q => absurd q (by decide), fun q => absurd q (by decide)⟩, ⟨lt, bg, k38⟩⟩, ⟨Or.inl f9, Or.inl f10, Or.inl ⟨f60, rfl⟩⟩⟩
  have : k = 0 := by omega
  subst this
  exact t0
end ZStart
