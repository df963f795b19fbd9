/-! ===== the law's run, whole ===== -/
section ZPure
theorem zq_nil {base : Nat → Nat → mx_V} : zq_mk base [] = ([], base) := Prod.ext rfl (funext fun _ => funext fun _ => rfl)
theorem zp_same (d : zd_D) : zp_j d d = d := by
  refine Prod.ext (funext fun c => ?_) (Prod.ext (funext fun c => ?_) ?_)
  · show (if zm_ok c = true then d.1 c else d.1 c) = d.1 c
    split <;> rfl
  · show (if zm_ok c = true then d.2.1 c else d.2.1 c) = d.2.1 c
    split <;> rfl
  · show (if zm_ok 130 = true then d.2.2 else d.2.2) = d.2.2
    split <;> rfl
theorem zq_gs (d : zd_D) : mx_gs zt_nf (zd_mk d) ≤ 7302250 := by
  have key : ∀ t, d.2.2 = t → zd_sp d = zd_sp (fun _ _ => 0, fun _ _ => 0, t) := fun t h => by
    funext c
    unfold zd_sp zd_c
    rw [h]
  unfold mx_gs zd_mk
  cases ht : d.2.2 with
  | false =>
    rw [key _ ht]
    show (((List.range 130).map (zd_sp (fun _ _ => 0, fun _ _ => 0, false))).map (mx_sz zt_nf)).sum ≤ 7302250
    decide +kernel
  | true =>
    rw [key _ ht]
    show (((List.range 131).map (zd_sp (fun _ _ => 0, fun _ _ => 0, true))).map (mx_sz zt_nf)).sum ≤ 7302250
    decide +kernel
noncomputable abbrev zt_den (L : Nat) (xs : Nat → Int32) : mx_F mx_Hp := mx_den zc zt_x zt_rc (zt_H L xs)
theorem el_0 (L : Nat) (xs : Nat → Int32) (base : Nat → Nat → mx_V) : zt_den L xs 283 0 [z_r 1200000, none, none, none] [] ([], base) = (zt_den L xs 0 0 [z_r 0, none] [] ([.inl 11], mx_ur base 0 (fun i => mx_df (zt_ty 11 i)))).bind fun q => zt_den L xs 283 3 [z_r 1200000, none, none, none] (q.1.toList ++ [(.inr (.inr (some 0)))]) q.2 := mx_den_at (zt_HP L xs) 3 rfl
theorem el_3 (L : Nat) (xs : Nat → Int32) (h : mx_Hp) : zt_den L xs 283 3 [z_r 1200000, none, none, none] [(.inr (.inr (some 0)))] h = zt_den L xs 283 4 [z_r 1200000, z_r 0, none, none] [] h := mx_den_at (zt_HP L xs) 1 rfl
theorem el_4 (L : Nat) (xs : Nat → Int32) (h : mx_Hp) : zt_den L xs 283 4 [z_r 1200000, z_r 0, none, none] [] h = if h.1.length < 1000000 then zt_den L xs 283 5 [z_r 1200000, z_r 0, none, none] [(.inr (.inr (some h.1.length)))] (h.1 ++ [.inl 12], mx_ur h.2 h.1.length (fun i => mx_df (zt_ty 12 i))) else none := mx_den_at (zt_HP L xs) 1 rfl
theorem el_5 (L : Nat) (xs : Nat → Int32) (h : mx_Hp) : zt_den L xs 283 5 [z_r 1200000, z_r 0, none, none] [(.inr (.inr (some 91)))] h = cond (zt_rc 166 [(.inr (.inr (some 91)))] h && Nat.ble 1 8) ((zt_den L xs 166 0 [z_r 91] [] h).bind fun q => zt_den L xs 283 7 [z_r 1200000, z_r 0, none, none] (q.1.toList ++ [(.inr (.inr (some 91)))]) q.2) none := mx_den_at (zt_HP L xs) 2 rfl
theorem el_7 (L : Nat) (xs : Nat → Int32) (h : mx_Hp) : zt_den L xs 283 7 [z_r 1200000, z_r 0, none, none] [(.inr (.inr (some 91)))] h = zt_den L xs 283 11 [z_r 1200000, z_r 0, z_r 91, z_i 0] [] h := mx_den_at (zt_HP L xs) 4 rfl
theorem zp_rv {h : mx_Hp} (e : h.1[91]? = some (.inl 12)) : zt_rv 166 91 h = true := by
  unfold zt_rv
  rw [e]
  rfl
theorem zp_rc {h : mx_Hp} (e : h.1[91]? = some (.inl 12)) : zt_rc 166 [(.inr (.inr (some 91)))] h = true := by
  show (Nat.ble (mx_ct [(.inr (.inr (some 91)))]) (zt_x 166) && cond (Nat.blt (zt_q 166) 2) (zt_rv 166 91 h) true) = true
  rw [zp_rv e]
  rfl
theorem zp_pure (L : Nat) (hL : L ≤ 384) (xs : Nat → Int32) : ∃ f h', mx_ex zc zt_x zt_rc (zt_H L xs) f 283 0 [some (.inr (.inr (some 1200000))), none, none, none] [] ([], zq_base) = some (some (.inl 1), h') ∧ h'.1.length ≤ 600000 ∧ mx_gs zt_nf h' ≤ 7302250 := by
  obtain ⟨g1, g2, r0, hl, r1, ck, fk⟩ := zq_run
  have e0 : zt_den L xs 0 0 [z_r 0, none] [] (zq_mk zq_base [(.inl 11, [])]) = some (none, zq_mk zq_base g1) := mx_ex_den (zt_HP L xs) (mx_ex_sim (zq_mk zq_base) zq_SH (fun a as s h => h) 700 0 0 _ _ _ _ _ r0)
  have e1 : zt_den L xs 166 0 [z_r 91] [] (zq_mk zq_base (g1 ++ [(.inl 12, [])])) = some (none, zq_mk zq_base g2) := mx_ex_den (zt_HP L xs) (mx_ex_sim (zq_mk zq_base) zq_SH (fun a as s h => h) 700 166 0 _ _ _ _ _ r1)
  have s0 : zq_mk zq_base [(.inl 11, [])] = ([.inl 11], mx_ur zq_base 0 (fun i => mx_df (zt_ty 11 i))) := by
    have := zq_app (base := zq_base) (g := []) (sh := .inl 11)
    rw [zq_nil] at this
    exact this
  have s1 := zq_app (base := zq_base) (g := g1) (sh := .inl 12)
  have hl1 : (zq_mk zq_base g1).1.length = 91 := zq_len.trans hl
  have hrun : ∃ d', zt_den L xs 283 0 [z_r 1200000, none, none, none] [] ([], zq_base) = some (some (.inl 1), zd_mk d') := by
    obtain ⟨a', b', e2⟩ := zl_all (n := L) (xs := xs) hL L 0 _ _ (by omega) (by omega) (zq_zR fk)
    have e2 : zd_den L xs 283 11 [z_r 1200000, z_r 0, z_r 91, z_i 0] [] (zp_j (zq_d0 g2) (zq_d0 g2)) = some (some (.inl 1), zp_j a' b') := e2
    rw [zp_same] at e2
    have e3 := mx_den_sim (φ := zd_mk) (zt_HP L xs) zd_SH zd_rc_ok e2
    refine ⟨zp_j a' b', ?_⟩
    rw [el_0, ← s0, e0]
    show zt_den L xs 283 3 [z_r 1200000, none, none, none] [(.inr (.inr (some 0)))] (zq_mk zq_base g1) = _
    rw [el_3, el_4, hl1, if_pos (by omega)]
    have hst : ((zq_mk zq_base g1).1 ++ [Sum.inl 12], mx_ur (zq_mk zq_base g1).2 91 (fun i => mx_df (zt_ty 12 i))) = zq_mk zq_base (g1 ++ [(.inl 12, [])]) := by
      rw [s1, hl]
      rfl
    rw [hst, el_5, zp_rc (by
      rw [s1]
      show ((zq_mk zq_base g1).1 ++ [Sum.inl 12])[91]? = _
      rw [List.getElem?_append_right (Nat.le_of_eq hl1), hl1]
      rfl), e1]
    show zt_den L xs 283 7 [z_r 1200000, z_r 0, none, none] [(.inr (.inr (some 91)))] (zq_mk zq_base g2) = _
    rw [el_7, zq_eq ck]
    exact e3
  obtain ⟨d', hd⟩ := hrun
  obtain ⟨f, hf⟩ := mx_den_ex hd
  refine ⟨f, _, hf, ?_, zq_gs d'⟩
  rw [zd_len]
  cases d'.2.2
  · show 130 ≤ 600000; omega
  · show 131 ≤ 600000; omega
end ZPure
