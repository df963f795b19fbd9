/-! ===== the constructors, run ===== -/
def zq_val (g : zq_G) (c i : Nat) : Int32 := match g[c]? with
  | none => 0
  | some x => mx_tI (zq_lk (zq_df x.1 i) i x.2)
def zq_d0 (g : zq_G) : zd_D := (zq_val g, fun _ _ => 0, false)
def zq_z : zd_D := (fun _ _ => 0, fun _ _ => 0, false)
noncomputable def zq_base : Nat → Nat → mx_V := zd_v zq_z
noncomputable def zq_ok (c : Nat) : Bool := (Nat.blt 0 (mx_gx zd_cc c) && Nat.blt (mx_gx zd_cc c) 107) && cond (Nat.blt 104 (mx_gx zd_cc c)) (Nat.ble (zd_l c) 64) true
noncomputable def zq_c1 (g : zq_G) (c : Nat) (x : mx_Sh × List (Nat × mx_V)) : Bool := decide (x.1 = zd_sp zq_z c) && (x.2.all (fun p => Nat.blt p.1 64) && ((List.range 64).all (fun i => decide (zq_lk (zq_df x.1 i) i x.2 = zd_v (zq_d0 g) c i)) && zq_ok c))
noncomputable def zq_ck (g : zq_G) : Bool := Nat.beq g.length 130 && (List.range 130).all (fun c => match g[c]? with
  | none => false
  | some x => zq_c1 g c x)
def zq_fk (v : Nat → Nat → Int32) : Bool :=
  ((List.range 8).all (fun i => decide (v 2 i = v 92 i)) && (decide (v 92 0 = 1 ∧ v 92 1 = 2 ∧ v 92 2 = 0 ∧ v 92 3 = 10 ∧ v 92 4 = 3 ∧ v 92 5 = 0 ∧ v 92 6 = 1 ∧ v 92 7 = 2) && decide (v 92 8 = 0 ∧ v 92 9 = 0 ∧ v 92 10 = 0 ∧ v 3 0 = 0 ∧ v 3 7 = 0 ∧ v 10 0 = 0 ∧ v 1 4 = 0 ∧ v 15 0 = 0))) &&
  ((List.range 32).all (fun i => decide (v 14 i = v 92 (152 + i))) && (decide (v 0 2 = 0 ∧ v 91 2 = 0 ∧ v 35 1 = 0 ∧ v 91 4 = 0 ∧ v 45 0 = 0 ∧ v 91 19 = 0 ∧ v 0 14 = 0 ∧ v 91 53 = 0) && decide (v 91 38 = -1 ∧ v 0 9 = 0 ∧ v 0 10 = 0 ∧ v 60 6 = 0))) &&
  ((List.range 4).all (fun j => decide (v (65 + 2 * j) 0 = 0 ∧ v 123 j = -1)) && ((List.range 6).all (fun j => decide (v (73 + 3 * j) 0 = 0 ∧ v 127 j = 0)) && ((List.range 61).all (fun i => decide (v 95 i = zs_let i)) && (List.range 15).all (fun i => decide (v 96 i = nI (zs_beg i))))))
noncomputable def zq_r0 : Option (Option mx_V × zq_G) := mx_ex zc zt_x zq_rc zq_hop 700 0 0 [z_r 0, none] [] [(.inl 11, [])]
noncomputable def zq_r1 (g : zq_G) : Option (Option mx_V × zq_G) := mx_ex zc zt_x zq_rc zq_hop 700 166 0 [z_r 91] [] (g ++ [(.inl 12, [])])
noncomputable def zq_all : Bool := match zq_r0 with
  | some (none, g1) => Nat.beq g1.length 91 && (match zq_r1 g1 with
    | some (none, g2) => zq_ck g2 && zq_fk (zq_val g2)
    | _ => false)
  | _ => false
set_option maxRecDepth 1000000 in
theorem zq_all_ok : zq_all = true := by decide +kernel
theorem zq_run : ∃ g1 g2, zq_r0 = some (none, g1) ∧ g1.length = 91 ∧ zq_r1 g1 = some (none, g2) ∧ zq_ck g2 = true ∧ zq_fk (zq_val g2) = true := by
  have h := zq_all_ok
  unfold zq_all at h
  split at h
  · next g1 h0 =>
    rw [Bool.and_eq_true] at h
    obtain ⟨h1, h2⟩ := h
    split at h2
    · next g2 h3 =>
      rw [Bool.and_eq_true] at h2
      exact ⟨g1, g2, h0, Nat.eq_of_beq_eq_true h1, h3, h2.1, h2.2⟩
    · cases h2
  · cases h
