/-! ===== the small machine of this claim is sound over the JVM ===== -/
def zt_clok (ci : Nat) : Bool := match zt_cl[ci]? with
  | some (C, T, N) => (List.range N).all (fun j => zt_wi ((zt_ly.getD ci []).getD j 0) (u_lay C T j)) && ((List.range N).all (fun j => decide (parseFieldDescriptor (T j).2.2.1 = some (zt_ty ci j))) && ((List.range N).all (fun a => (List.range N).all (fun b => Nat.beq a b || decide ((T a).2.1 ≠ (T b).2.1))) && (Nat.beq (zt_nf ci) N && decide (C = zt_cn ci))))
  | none => true
theorem zt_cl_ok : (List.range 13).all zt_clok = true := by decide +kernel
theorem zt_cl_at {ci N : Nat} {C : String} {T : u_T} (h : zt_cl[ci]? = some (C, T, N)) : (∀ w ∈ u_ws C T N, w ∈ zt_Ts) ∧ (∀ k, k < N → parseFieldDescriptor (T k).2.2.1 = some (zt_ty ci k)) ∧ (∀ a, a < N → ∀ b, b < N → a ≠ b → (T a).2.1 ≠ (T b).2.1) ∧ zt_nf ci = N ∧ C = zt_cn ci := by
  have hci : ci < 13 := (List.getElem?_eq_some_iff.mp h).1
  have hk := List.all_eq_true.mp zt_cl_ok ci (List.mem_range.mpr hci)
  unfold zt_clok at hk
  rw [h] at hk
  simp only [Bool.and_eq_true] at hk
  obtain ⟨h1, h2, h3, h4, h5⟩ := hk
  refine ⟨fun w hw => ?_, fun k hk => ?_, fun a ha b hb hab => ?_, Nat.eq_of_beq_eq_true h4, of_decide_eq_true h5⟩
  · obtain ⟨j, hj, rfl⟩ := List.mem_map.mp hw
    exact zt_wi_ok (List.all_eq_true.mp h1 j hj)
  · exact of_decide_eq_true (List.all_eq_true.mp h2 k (List.mem_range.mpr hk))
  · have q := List.all_eq_true.mp (List.all_eq_true.mp h3 a (List.mem_range.mpr ha)) b (List.mem_range.mpr hb)
    rw [Bool.or_eq_true] at q
    rcases q with q | q
    · exact absurd (Nat.eq_of_beq_eq_true q) hab
    · exact of_decide_eq_true q
theorem zt_pc0 (k : Nat) : mx_pc zc k 0 = 0 := by
  have key : (List.range 284).all (fun k => Nat.beq (mx_pc zc k 0) 0) = true := by decide +kernel
  by_cases h : k < 284
  · exact Nat.eq_of_beq_eq_true (List.all_eq_true.mp key k (List.mem_range.mpr h))
  · have hz : zc k = .leaf (.athrow, 0, 0, 0, 0, 0, []) := by
      unfold zc
      have hb : Nat.blt k 284 = false := by
        cases hb : Nat.blt k 284 with
        | false => rfl
        | true => exact absurd (Nat.blt_eq.mp hb) h
      rw [hb]
      rfl
    unfold mx_pc
    rw [hz]
    rfl
/-- the receiver and the arguments of a call are as they must be -/
noncomputable def zt_rv (a c : Nat) (h : mx_Hp) : Bool := cond (Nat.blt c 1000000) (match h.1[c]? with
  | some (.inl ci) => Nat.beq ci (zt_o a)
  | _ => false) (Nat.beq (zt_o a) 15 && (Nat.ble 1000001 c && Nat.ble c 1000014))
noncomputable def zt_rc (a : Nat) (as : List mx_V) (h : mx_Hp) : Bool := Nat.ble (mx_ct as) (zt_x a) && cond (Nat.blt (zt_q a) 2) (match as with
  | .inr (.inr (some c)) :: _ => zt_rv a c h
  | _ => false) true
def zt_H (n : Nat) (xs : Nat → Int32) : mx_H mx_Hp := mx_hH zt_nf zt_ty zt_xF (zt_xS xs) (zt_xA n xs)
theorem zt_HP (n : Nat) (xs : Nat → Int32) : mx_HP (zt_H n xs) := mx_hH_HP _ _ _ _ _
theorem zt_st_eq : zt_st = (List.range 14).map (fun i => (zt_sx.getD i 0, 1000001 + i)) := by decide +kernel
section ZtInst
variable {l : Launch} {ad : Nat → Nat} {bs : Nat} {D : va_G} {cid : Nat → ClassId} {n : Nat} {xs : Nat → Int32}
theorem zt_X (hA : ∀ k, k < 1000000 → ad k = bs + k) : mx_X ad bs (zt_E ad bs D cid n xs) zt_Ts (mx_hw zt_Ts) D zt_cl cid zt_nf (zt_tys cid) zt_ty mx_ty :=
  ⟨fun ci C T N h => ⟨(zt_cl_at h).1, (zt_cl_at h).2.1, (zt_cl_at h).2.2.1, (zt_cl_at h).2.2.2.1⟩, hA, fun w h => mx_hw_in h, fun U h => h.1, fun t ht => zt_tys_at cid t ht⟩
theorem zt_xA_ok (c t N : Nat) (f : Nat → Int32) (h : zt_xA n xs c = some (t, N, f)) (U : State) (hE : zt_E ad bs D cid n xs U) : va_T (mx_ty t) (ad c) N (fun j => .int (f j)) (fun q => bs ≤ q) U U.heap := by
  obtain ⟨h1, h2, h4, ⟨h5, h6⟩, h7, ⟨h8, h9⟩, h10⟩ := hE
  unfold zt_xA at h
  cases c1 : Nat.beq c 1000000 with
  | true =>
    rw [c1] at h
    cases h
    rw [Nat.eq_of_beq_eq_true c1]
    exact h6
  | false =>
    rw [c1] at h
    cases c2 : Nat.beq c 1200000 with
    | true =>
      rw [c2] at h
      cases h
      rw [Nat.eq_of_beq_eq_true c2]
      exact h10
    | false =>
      rw [c2] at h
      cases c3 : (Nat.ble 1100001 c && Nat.ble c 1100014) with
      | false => rw [c3] at h; cases h
      | true =>
        rw [c3] at h
        rw [Bool.and_eq_true] at c3
        have g1 := Nat.le_of_ble_eq_true c3.1
        have g2 := Nat.le_of_ble_eq_true c3.2
        simp only [cond_true, cond_false, Option.some.injEq, Prod.mk.injEq] at h
        obtain ⟨rfl, rfl, rfl⟩ := h
        have q := (h9.1 (c - 1100001) (by omega)).2.2.2
        dsimp only at q
        rw [show 1100001 + (c - 1100001) = c by omega] at q
        exact q
theorem zt_hrow (k j : Nat) (i : Instr) (pc nx a b : Nat) (v : Int32) (sw : List (Int32 × Nat)) (hg : mx_get (zc k) j = (i, pc, nx, a, b, v, sw)) (hq : mx_hq i b = true) : mx_hf zt_x ad bs (zt_E ad bs D cid n xs) zt_y zt_c zt_f zt_l zt_Ts zt_cl zt_ty zt_xF (zt_xS xs) k i pc a b ∧ mx_pc zc k nx = pc + mx_ln i := by
  have hc := zt_ck_all k j
  rw [hg] at hc
  have hc := (Bool.and_eq_true _ _ ▸ hc : mx_ck zc zt_x zt_c zt_r zt_f zt_l zt_hC zt_hC2 zt_hZ zt_hM zt_hL zt_hN k (i, pc, nx, a, b, v, sw) = true ∧ zt_hb k (i, pc, nx, a, b, v, sw) = true).2
  unfold zt_hb at hc
  dsimp only at hc
  rw [hq] at hc
  simp only [cond_true, Bool.and_eq_true] at hc
  obtain ⟨hd, hnx, hi⟩ := hc
  refine ⟨⟨of_decide_eq_true hd, ?_⟩, Nat.eq_of_beq_eq_true hnx⟩
  have fl : ∀ x, (zt_fl.getD (zt_o k) []).any (fun q => Nat.beq q.1 x && (Nat.beq q.2.1 a && Nat.beq q.2.2.1 b)) = true → ∃ C T N, zt_cl[a]? = some (C, T, N) ∧ b < N ∧ Jvm.Cond.fieldLink (zt_y k).cls x (T b).1 (T b).2.1 (T b).2.2.1 ∈ zt_Ts := by
    intro x h
    obtain ⟨q, hq1, hq2⟩ := List.any_eq_true.mp h
    simp only [Bool.and_eq_true] at hq2
    have h3 := zt_tab zt_fl_ok hq1
    try dsimp only at h3
    rw [Nat.eq_of_beq_eq_true hq2.1, Nat.eq_of_beq_eq_true hq2.2.1, Nat.eq_of_beq_eq_true hq2.2.2] at h3
    cases hc : zt_cl[a]? with
    | none => rw [hc] at h3; cases h3
    | some w =>
      obtain ⟨C, T, N⟩ := w
      rw [hc] at h3
      simp only [Bool.and_eq_true] at h3
      exact ⟨C, T, N, rfl, of_decide_eq_true h3.1, zt_wi_ok h3.2⟩
  have w1 := zt_w1_ok
  have w2 := zt_w2_ok
  have w3 := zt_w3_ok
  simp only [Bool.and_eq_true] at w1 w2 w3
  cases i with
  | getfield x =>
    dsimp only at hi
    refine ⟨fun ha => ?_, fun ha => ?_⟩
    · rw [Nat.blt_eq.mpr ha] at hi
      exact fl x hi
    · have hb : Nat.blt a 100 = false := by
        cases hb : Nat.blt a 100 with
        | false => rfl
        | true => exact absurd (Nat.blt_eq.mp hb) (by omega)
      rw [hb] at hi
      obtain ⟨q, hq1, hq2⟩ := List.any_eq_true.mp (show (zt_xf.getD (zt_o k) []).any (fun q => Nat.beq q.1 x && Nat.beq q.2.1 b) = true from hi)
      simp only [Bool.and_eq_true] at hq2
      have h3 := zt_tab zt_xf_ok hq1
      simp only [Bool.and_eq_true] at h3
      rw [Nat.eq_of_beq_eq_true hq2.1, Nat.eq_of_beq_eq_true hq2.2] at h3
      refine ⟨_, _, _, zt_wi_ok h3.1, fun o w hw U hE => ?_⟩
      obtain ⟨-, -, -, -, -, ⟨-, h9⟩, -⟩ := hE
      unfold zt_xF at hw
      cases c3 : (Nat.ble 1000001 o && Nat.ble o 1000014) with
      | false => rw [c3] at hw; cases hw
      | true =>
        rw [c3] at hw
        rw [Bool.and_eq_true] at c3
        have g1 := Nat.le_of_ble_eq_true c3.1
        have g2 := Nat.le_of_ble_eq_true c3.2
        have hs := h9.1 (o - 1000001) (by omega)
        dsimp only at hs
        rw [show 1000001 + (o - 1000001) = o by omega, show 1100001 + (o - 1000001) = o + 100000 by omega] at hs
        match b, h3.2, hw with
        | 0, _, hw => cases hw; exact hs.2.2.1
        | 1, _, hw => cases hw; exact hs.2.1
        | b + 2, h, _ => simp [Nat.beq] at h
  | putfield x =>
    dsimp only at hi
    rw [Bool.and_eq_true] at hi
    obtain ⟨C, T, N, g1, g2, g3⟩ := fl x hi.1
    refine ⟨C, T, N, g1, g2, g3, ?_⟩
    have h5 := hi.2
    rw [g1] at h5
    simp only [Bool.or_eq_true, Bool.and_eq_true, Bool.not_eq_true', decide_eq_true_eq] at h5
    rcases h5 with h5 | h5
    · exact Or.inl h5
    · refine Or.inr ⟨?_, h5.2⟩
      have hq1 := Nat.eq_of_beq_eq_true h5.1
      by_cases hk : k < 283
      · have hm := zt_mok_all k hk
        simp only [zt_mok, Bool.and_eq_true, hq1] at hm
        exact of_decide_eq_true hm.2.2.2.2.1
      · exfalso
        have : zt_q k = 2 := by
          by_cases hk2 : k = 283
          · subst hk2; decide +kernel
          · have hz : zc k = .leaf (.athrow, 0, 0, 0, 0, 0, []) := by
              unfold zc
              have hb : Nat.blt k 284 = false := by
                cases hb : Nat.blt k 284 with
                | false => rfl
                | true => exact absurd (Nat.blt_eq.mp hb) (by omega)
              rw [hb]
              rfl
            rw [hz] at hg
            cases hg
        omega
  | getstatic x =>
    dsimp only at hi
    obtain ⟨q, hq1, hq2⟩ := List.any_eq_true.mp hi
    simp only [Bool.and_eq_true] at hq2
    have h3 := zt_tab zt_gs_ok hq1
    simp only [Bool.and_eq_true] at h3
    rw [Nat.eq_of_beq_eq_true hq2.1, Nat.eq_of_beq_eq_true hq2.2] at h3
    refine ⟨_, _, _, zt_wi_ok h3.1, fun U hE => ?_⟩
    obtain ⟨-, -, -, ⟨h5, -⟩, ⟨h7, h7b⟩, -⟩ := hE
    match a, h3.2 with
    | 0, _ => exact h5
    | 1, _ => exact h7
    | 2, _ => exact h7b
    | a + 3, h => simp [Nat.beq] at h
  | aastore =>
    dsimp only at hi
    simp only [Bool.or_eq_true, Bool.and_eq_true] at hi
    rcases hi with ⟨g1, g2⟩ | ⟨g1, g2⟩
    · have g1 := Nat.eq_of_beq_eq_true g1
      have g2 := Nat.eq_of_beq_eq_true g2
      subst g1; subst g2
      exact ⟨Or.inl rfl, _, rfl, rfl⟩
    · have g1 := Nat.eq_of_beq_eq_true g1
      have g2 := Nat.eq_of_beq_eq_true g2
      subst g1; subst g2
      exact ⟨Or.inr rfl, _, rfl, rfl⟩
  | new x =>
    dsimp only at hi
    obtain ⟨q, hq1, hq2⟩ := List.any_eq_true.mp hi
    simp only [Bool.and_eq_true] at hq2
    have h3 := zt_tab zt_nw_ok hq1
    try dsimp only at h3
    rw [Nat.eq_of_beq_eq_true hq2.1, Nat.eq_of_beq_eq_true hq2.2] at h3
    cases hc : zt_cl[a]? with
    | none => rw [hc] at h3; cases h3
    | some w =>
      obtain ⟨C, T, N⟩ := w
      rw [hc] at h3
      simp only [Bool.and_eq_true] at h3
      exact ⟨C, T, N, rfl, zt_wi_ok h3.1, zt_wi_ok h3.2.1, zt_wi_ok h3.2.2.1, fun j hj => List.all_eq_true.mp h3.2.2.2 j (List.mem_range.mpr hj)⟩
  | newarray t =>
    dsimp only at hi
    rw [Bool.and_eq_true] at hi
    have g1 := Nat.eq_of_beq_eq_true hi.1
    have g2 := Nat.blt_eq.mp hi.2
    subst g1
    cases t with
    | int => exact ⟨g2, rfl, zt_wi_ok w2.1⟩
    | byte => exact ⟨g2, rfl, zt_wi_ok w2.2.1⟩
    | boolean => exact ⟨g2, rfl, zt_wi_ok w2.2.2.1⟩
    | char => exact ⟨g2, rfl, zt_wi_ok w2.2.2.2.1⟩
    | long => exact ⟨g2, rfl, zt_wi_ok w2.2.2.2.2⟩
    | _ => exact absurd g2 (by decide)
  | anewarray x =>
    dsimp only at hi
    obtain ⟨q, hq1, hq2⟩ := List.any_eq_true.mp hi
    simp only [Bool.and_eq_true] at hq2
    have h3 := zt_tab zt_an_ok hq1
    simp only [Bool.and_eq_true, Bool.or_eq_true] at h3
    rw [Nat.eq_of_beq_eq_true hq2.1, Nat.eq_of_beq_eq_true hq2.2] at h3
    rcases h3.2 with g | g
    · have g := Nat.eq_of_beq_eq_true g
      subst g
      exact ⟨"TickBound$Sheet", ⟨Or.inl rfl, rfl⟩, zt_wi_ok h3.1, fun U hE => hE.2.1.1⟩
    · have g := Nat.eq_of_beq_eq_true g
      subst g
      exact ⟨"TickBound$Slot", ⟨Or.inr rfl, rfl⟩, zt_wi_ok h3.1, fun U hE => hE.2.1.2⟩
  | invokespecial x =>
    dsimp only at hi
    simp only [Bool.and_eq_true] at hi
    obtain ⟨q, hq1, hq2⟩ := List.any_eq_true.mp hi.1
    have h3 := zt_tab zt_oi_ok hq1
    try dsimp only at h3
    try dsimp only at hq2
    rw [Nat.eq_of_beq_eq_true hq2] at h3
    exact ⟨zt_wi_ok h3, zt_wi_ok w1.1, zt_wi_ok w1.2.1, Nat.le_of_ble_eq_true hi.2.1, Nat.le_of_ble_eq_true hi.2.2⟩
  | invokestatic x =>
    dsimp only at hi
    simp only [Bool.and_eq_true] at hi
    have e1 := Nat.le_of_ble_eq_true hi.2.1
    have e2 := Nat.le_of_ble_eq_true hi.2.2
    have mm : ∀ y : Nat, (zt_mm.getD (zt_o k) []).any (fun q => Nat.beq q.1 x && Nat.beq q.2.1 y) = true → Jvm.Cond.methodLink (zt_y k).cls x (cond (Nat.beq y 1) Lib.Math.max.name Lib.Math.min.name) ∈ zt_Ts := by
      intro y hy
      obtain ⟨q, hq1, hq2⟩ := List.any_eq_true.mp hy
      simp only [Bool.and_eq_true] at hq2
      have h3 := zt_tab zt_mm_ok hq1
      try dsimp only at h3
      rw [Nat.eq_of_beq_eq_true hq2.1, Nat.eq_of_beq_eq_true hq2.2] at h3
      exact zt_wi_ok h3
    refine ⟨fun ha => ?_, fun ha => ?_, fun ha1 ha2 => ?_⟩
    · subst ha
      exact ⟨mm 1 hi.1, zt_wi_ok w3.1, zt_wi_ok w3.2.2.2.2, zt_wi_ok w3.2.1, e1, by omega⟩
    · subst ha
      exact ⟨mm 2 hi.1, zt_wi_ok w3.2.2.1, zt_wi_ok w3.2.2.2.2, zt_wi_ok w3.2.2.2.1, e1, by omega⟩
    · have hf : (Nat.beq a 1 || Nat.beq a 2) = false := by
        cases hz : (Nat.beq a 1 || Nat.beq a 2) with
        | false => rfl
        | true =>
          rw [Bool.or_eq_true] at hz
          rcases hz with hz | hz
          · exact absurd (Nat.eq_of_beq_eq_true hz) ha1
          · exact absurd (Nat.eq_of_beq_eq_true hz) ha2
      have h4 := hi.1
      rw [hf] at h4
      obtain ⟨q, hq1, hq2⟩ := List.any_eq_true.mp (show (zt_ac.getD (zt_o k) []).any (fun q => Nat.beq q.1 x) = true from h4)
      have h3 := zt_tab zt_ac_ok hq1
      try dsimp only at h3
      try dsimp only at hq2
      rw [Nat.eq_of_beq_eq_true hq2] at h3
      exact ⟨zt_wi_ok h3, zt_wi_ok w1.2.2.1, zt_wi_ok w1.2.2.2.1, zt_wi_ok w1.2.2.2.2, e1, by show 8 + (7 + 11) ≤ zt_l k; omega⟩
  | _ => exact trivial
end ZtInst
