section ZtInst2
variable {l : Launch} {ad : Nat → Nat} {bs : Nat} {D : va_G} {cid : Nat → ClassId} {n : Nat} {xs : Nat → Int32}
theorem zt_rc_ok (a : Nat) (as : List mx_V) (h : mx_Hp) (hr : zt_rc a as h = true) : mx_ct as ≤ zt_x a ∧ (Nat.blt (zt_q a) 2 = true → ∃ c as', as = .inr (.inr (some c)) :: as' ∧ ∀ H U locs, mx_RH D zt_cl ad bs cid zt_nf h H → zt_E ad bs D cid n xs U → va_S (fun q => bs ≤ q) U.heap H locs → ∃ cell : Cell, H[ad c]? = some cell ∧ cell.vm.isStatics = false ∧ U.vm.findClass (zt_y a).cls = some cell.cls) := by
  unfold zt_rc at hr
  rw [Bool.and_eq_true] at hr
  refine ⟨Nat.le_of_ble_eq_true hr.1, fun hq => ?_⟩
  have h2 := hr.2
  rw [hq] at h2
  match as, h2 with
  | .inr (.inr (some c)) :: as', h2 =>
    have h2 : zt_rv a c h = true := h2
    refine ⟨c, as', rfl, fun H U locs hR hE hS => ?_⟩
    unfold zt_rv at h2
    cases hc : Nat.blt c 1000000 with
    | true =>
      rw [hc] at h2
      have h2 : (match h.1[c]? with
        | some (.inl ci) => Nat.beq ci (zt_o a)
        | _ => false) = true := h2
      split at h2
      · next ci hs =>
        have hci := Nat.eq_of_beq_eq_true h2
        have hw := mx_wl_get (ad := ad) (cid := cid) (nf := zt_nf) hs
        obtain ⟨r, hr1, -⟩ := hR.1 c _ hw
        obtain ⟨C, T, N⟩ := r
        have hC := (zt_cl_at hr1).2.2.2.2
        have q := va_recv hE.1 hR.1 hr1 hw
        dsimp only at q
        rw [hC, hci] at q
        exact q
      · cases h2
    | false =>
      rw [hc] at h2
      have h2 : (Nat.beq (zt_o a) 15 && (Nat.ble 1000001 c && Nat.ble c 1000014)) = true := h2
      simp only [Bool.and_eq_true] at h2
      have g0 := Nat.eq_of_beq_eq_true h2.1
      have g1 := Nat.le_of_ble_eq_true h2.2.1
      have g2 := Nat.le_of_ble_eq_true h2.2.2
      obtain ⟨-, -, -, -, -, ⟨-, h9⟩, -⟩ := hE
      have q := vk_recv h9 (i := c - 1000001) (by omega) hS
      try dsimp only at q
      rw [show 1000001 + (c - 1000001) = c by omega] at q
      have hcls : (zt_y a).cls = "java/lang/String" := by
        show zt_cn (zt_m a).1 = _
        rw [show (zt_m a).1 = 15 from g0]
        rfl
      rw [hcls]
      exact q
  | [], h2 => cases h2
  | .inl _ :: _, h2 => cases h2
  | .inr (.inl _) :: _, h2 => cases h2
  | .inr (.inr none) :: _, h2 => cases h2
/-- the small machine of this claim is sound -/
theorem zt_snd (hA : ∀ k, k < 1000000 → ad k = bs + k) : ∀ (f k j : Nat) (L : mx_L) (st : List mx_V) (s : mx_Hp) (r : Option mx_V) (s' : mx_Hp), mx_ex zc zt_x zt_rc (zt_H n xs) f k j L st s = some (r, s') → mx_G l zt_x ad (mx_RH D zt_cl ad bs cid zt_nf) mx_gc (mx_gs zt_nf) bs (zt_E ad bs D cid n xs) (fun q => bs ≤ q) zt_y zt_c zt_r zt_f zt_l zt_Ts k (mx_pc zc k j) L st s r s' := by
  refine mx_snd (hC := zt_hC) (hC2 := zt_hC2) (hZ := zt_hZ) (hM := zt_hM) (hL := zt_hL) (hN := zt_hN) (iN := fun a => Nat.blt (zt_q a) 2) (fun s H h => h.2.1) (mx_hH_HS (zt_X hA) (fun c t N f h U hE => zt_xA_ok c t N f h U hE) (fun k j i pc nx a b v sw h hq => zt_hrow k j i pc nx a b v sw h hq)) (fun k j => ?_) zt_pc0 zt_hCT zt_hCT2 zt_good (fun k x a h U hE => ?_) zt_hLT (fun k x a h U hE => ?_) zt_hMT (fun a as s h => zt_rc_ok a as s h) (fun s0 U locs h hS hW => zt_E1 s0 U locs h hS hW) (fun U g mk a h => zt_E2 U g mk a h)
  · have hc := zt_ck_all k j
    unfold zt_ck at hc
    rw [Bool.and_eq_true] at hc
    exact hc.1
  · unfold zt_hZ at h
    rw [Bool.and_eq_true] at h
    obtain ⟨q, hq1, hq2⟩ := List.any_eq_true.mp h.2
    rw [Bool.and_eq_true] at hq2
    rw [zt_st_eq] at hq1
    obtain ⟨i, hi, hqi⟩ := List.mem_map.mp hq1
    have hi := List.mem_range.mp hi
    have hx := Nat.eq_of_beq_eq_true hq2.1
    have ha := Nat.eq_of_beq_eq_true hq2.2
    have hcls : (zt_y k).cls = "TickBound$Tape" := by
      show zt_cn (zt_m k).1 = _
      rw [show (zt_m k).1 = 9 from Nat.eq_of_beq_eq_true h.1]
      rfl
    obtain ⟨-, -, -, -, -, ⟨h8, -⟩, -⟩ := hE
    have q8 := h8 i hi
    subst hqi
    rw [hcls]
    dsimp only at hx ha
    rw [← hx, ← ha]
    exact ⟨_, q8⟩
  · unfold zt_hN at h
    obtain ⟨q, hq1, hq2⟩ := List.any_eq_true.mp h
    rw [Bool.and_eq_true] at hq2
    have q8 := hE.2.2.1 (zt_o k) q hq1
    rw [Nat.eq_of_beq_eq_true hq2.1, Nat.eq_of_beq_eq_true hq2.2] at q8
    exact ⟨_, q8⟩
end ZtInst2
