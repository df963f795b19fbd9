def zt_ad (bs tA : Nat) (aK aV : Nat → Nat) (b : Nat) (k : Nat) : Nat := if k < 1000000 then bs + k else if k = 1000000 then tA else if k = 1200000 then b else if k < 1100001 then aK (k - 1000001) else aV (k - 1100001)
theorem zt_arr {s : State} {args : Array Value} {t : FieldType} (h : (Jvm.Cond.arrayClass t).before args s = true) : ∃ cA, ArrOfT s cA t ∧ s.vm.findClass ("[" ++ t.toString) = some cA := by
  obtain ⟨cA, kA, comp, h1, h2, h3⟩ := Cond.arrayClass_spec h
  exact ⟨cA, fun n z => ⟨fun k h => (by cases h), kA, h2, comp, h3⟩, h1⟩
theorem zt_arO {s : State} {C : String} (h : va_AO C s) : ∃ cA, ArrOfT s cA (.object C) ∧ va_RA s cA (.object C) := by
  obtain ⟨comp, cA, kA, h1, -, h3, h4, h5⟩ := Cond.arrayOver_spec h
  exact ⟨cA, fun n z => ⟨fun k h => (by cases h), kA, h3, comp, h4⟩, kA, comp, h3, h4, h1, h5⟩
/-- the start: all that the small machine's rows lean on -/
theorem zt_begin {s : State} {b L : Nat} {xs : Nat → Int32} (hts : ∀ w ∈ lw_tbl, w.before #[Value.ref b] s = true) (hX : va_X b L xs s s.heap) (hbl : b < s.heap.size) (hL : L ≤ 384) (hgv : (Jvm.Cond.and given_1 narrow_1).before #[Value.ref b] s = true) :
    ∃ (ad : Nat → Nat) (D : va_G) (cid : Nat → ClassId) (xs2 : Nat → Int32), (∀ k, k < 1000000 → ad k = s.heap.size + k) ∧ ad 1200000 = b ∧ zt_E ad s.heap.size D cid L xs2 s := by
  have hs := flat_of_before _ hgv
  have hT : ∀ w ∈ zt_Ts, w.before #[Value.ref b] s = true := fun w h => hts w (List.mem_filter.mp h).1
  have hA : ∀ a : Nat, a < s.heap.size → ¬ s.heap.size ≤ a := fun a h => by omega
  -- classes
  have h0 : ∀ ci : Nat, ∃ q : ClassId × (Nat → Nat), ∀ (C : String) (T : u_T) (N : Nat), zt_cl[ci]? = some (C, T, N) → u_Kn s C T N q.1 q.2 := by
    intro ci
    cases hc : zt_cl[ci]? with
    | none => exact ⟨(0, fun _ => 0), fun C T N h => by cases h⟩
    | some w =>
      obtain ⟨C, T, N⟩ := w
      have hci : ci < 13 := (List.getElem?_eq_some_iff.mp hc).1
      have hk := List.all_eq_true.mp zt_ii_ok ci (List.mem_range.mpr hci)
      rw [hc] at hk
      obtain ⟨cC, iS, h⟩ := u_known hT (zt_cl_at hc).1 (hT _ (zt_wi_ok hk))
      exact ⟨(cC, iS), fun C' T' N' h' => by cases h'; exact h⟩
  obtain ⟨dq, hdq⟩ := Classical.axiomOfChoice h0
  -- rows
  have hAO1 : va_AO "TickBound$Sheet" s := va_AO.of (hts _ (List.mem_of_getElem? (i := 479) (by decide +kernel)))
  have hAO2 : va_AO "TickBound$Slot" s := va_AO.of (hts _ (List.mem_of_getElem? (i := 481) (by decide +kernel)))
  have w2 := zt_w2_ok
  simp only [Bool.and_eq_true] at w2
  have h1 : ∀ t : Nat, ∃ cA : ClassId, t < 7 → ArrOfT s cA (mx_ty t) ∧ va_RA s cA (mx_ty t) := by
    intro t
    match t with
    | 0 => obtain ⟨cA, g1, g2⟩ := zt_arr (hT _ (zt_wi_ok w2.1)); exact ⟨cA, fun _ => ⟨g1, g2⟩⟩
    | 1 => obtain ⟨cA, g1, g2⟩ := zt_arr (hT _ (zt_wi_ok w2.2.1)); exact ⟨cA, fun _ => ⟨g1, g2⟩⟩
    | 2 => obtain ⟨cA, g1, g2⟩ := zt_arr (hT _ (zt_wi_ok w2.2.2.1)); exact ⟨cA, fun _ => ⟨g1, g2⟩⟩
    | 3 => obtain ⟨cA, g1, g2⟩ := zt_arr (hT _ (zt_wi_ok w2.2.2.2.1)); exact ⟨cA, fun _ => ⟨g1, g2⟩⟩
    | 4 => obtain ⟨cA, g1, g2⟩ := zt_arr (hT _ (zt_wi_ok w2.2.2.2.2)); exact ⟨cA, fun _ => ⟨g1, g2⟩⟩
    | 5 => obtain ⟨cA, g⟩ := zt_arO hAO1; exact ⟨cA, fun _ => g⟩
    | 6 => obtain ⟨cA, g⟩ := zt_arO hAO2; exact ⟨cA, fun _ => g⟩
    | t + 7 => exact ⟨0, fun h => absurd h (by omega)⟩
  obtain ⟨cid, hcid⟩ := Classical.axiomOfChoice h1
  -- the constant row
  obtain ⟨tA, ht, hTA⟩ := va_Tof (tm := .static "TickBound" "ABOVE" "[I") (ty := .int) (N := 8) (f := fun j => .int (zt_ab j)) (A := fun q => s.heap.size ≤ q) (by decide) (hs _ zt_n7.1) (va_eqt (hs _ zt_n7.2.1)) (fun j hj => va_eqt (hs _ (zt_n8 j hj))) hA
  have hZA : va_Z "TickBound" "ABOVE" "[I" (.ref tA) (fun q => s.heap.size ≤ q) s s.heap := va_Zref (hts _ (List.mem_of_getElem? (i := 756) (by decide +kernel))) (hts _ (List.mem_of_getElem? (i := 104) (by decide +kernel))) ht hA
  have hZC : va_Z "java/lang/String" "COMPACT_STRINGS" "Z" (.int 1) (fun q => s.heap.size ≤ q) s s.heap := va_Zof (hts _ (List.mem_of_getElem? (i := 645) (by decide +kernel))) (hts _ (List.mem_of_getElem? (i := 118) (by decide +kernel))) (va_eqt (hs _ zt_n7.2.2)) hA
  -- what is a reference, or nothing
  obtain ⟨fl, tS, hv2⟩ : ∃ (fl : Int32) (tS : Nat), (Term.static "jdk/internal/util/Preconditions" "SIOOBE_FORMATTER" "Ljava/util/function/BiFunction;").eval #[Value.ref b] s none [] s = some (if fl = 0 then .null else .ref tS) := by
    obtain ⟨v, hv, hvr⟩ := Cond.isRef_spec (show (Cond.isRef (.static "jdk/internal/util/Preconditions" "SIOOBE_FORMATTER" "Ljava/util/function/BiFunction;")).before #[Value.ref b] s = true from hs _ zt_n10)
    cases v with
    | null => exact ⟨0, 0, hv⟩
    | ref t => exact ⟨1, t, hv⟩
    | _ => cases hvr
  have hZS : va_Z "jdk/internal/util/Preconditions" "SIOOBE_FORMATTER" "Ljava/util/function/BiFunction;" (if fl = 0 then .null else .ref tS) (fun q => s.heap.size ≤ q) s s.heap := va_Zof (hts _ (List.mem_of_getElem? (i := 661) (by decide +kernel))) (hts _ (List.mem_of_getElem? (i := 120) (by decide +kernel))) hv2 hA
  -- texts
  have hlen : ∀ i : Nat, i < 14 → zt_ln.getD i 0 < 2 ^ 31 := by decide +kernel
  obtain ⟨aK, aV, hK, hKe⟩ := vk_Sof (N := 14) (tm := zt_tm) (len := zt_ln) (byt := zt_by) (A := fun q => s.heap.size ≤ q) hlen (fun i hi => hs _ (zt_n1 i hi)) (fun i hi => hs _ (zt_n2 i hi)) (fun i hi => hs _ (zt_n3 i hi)) (fun i hi => hs _ (zt_n4 i hi)) (fun i hi j hj => hs _ (zt_n5 i hi j hj)) (fun i j hi hj hij => (zt_n6 i hi j hj hij).imp (hs _) (hs _)) hA
  obtain ⟨aW, haW, haS⟩ : ∃ aW : Nat → Nat, (∀ i, i < 14 → aW i = aV i) ∧ aW 199999 = tS := ⟨fun i => if i < 14 then aV i else tS, fun i hi => if_pos hi, if_neg (by omega)⟩
  have eK : ∀ i, i < 14 → zt_ad s.heap.size tA aK aW b (1000001 + i) = aK i := by
    intro i hi
    unfold zt_ad
    rw [if_neg (by omega), if_neg (by omega), if_neg (by omega), if_pos (by omega), show 1000001 + i - 1000001 = i by omega]
  have eV : ∀ i, i < 14 → zt_ad s.heap.size tA aK aW b (1100001 + i) = aV i := by
    intro i hi
    unfold zt_ad
    rw [if_neg (by omega), if_neg (by omega), if_neg (by omega), if_neg (by omega), show 1100001 + i - 1100001 = i by omega, haW i hi]
  have eA : zt_ad s.heap.size tA aK aW b 1000000 = tA := by unfold zt_ad; rw [if_neg (by omega), if_pos rfl]
  have eB : zt_ad s.heap.size tA aK aW b 1200000 = b := by unfold zt_ad; rw [if_neg (by omega), if_neg (by omega), if_pos rfl]
  have eS : zt_ad s.heap.size tA aK aW b 1300000 = tS := by
    unfold zt_ad
    rw [if_neg (by omega), if_neg (by omega), if_neg (by omega), if_neg (by omega)]
    exact haS
  refine ⟨zt_ad s.heap.size tA aK aW b, (fun ci => (dq ci).1, fun ci => (dq ci).2), cid, fun j => if j < L then xs j else fl, fun k hk => by unfold zt_ad; rw [if_pos hk], eB, ⟨fun ci q h => hdq ci q.1 q.2.1 q.2.2 h, fun k q h => ?_⟩, ⟨hAO1, hAO2⟩, fun o q hq => ?_, ⟨by rw [eA]; exact hZA, by rw [eA]; exact hTA⟩, ⟨hZC, ?_⟩, ⟨fun i hi => ?_, ⟨fun i hi => ?_, fun i j hi hj h => ?_⟩⟩, ?_⟩
  · have hk : k < 7 := by
      have := (List.getElem?_eq_some_iff.mp h).1
      simpa [zt_tys] using this
    rw [zt_tys_at cid k hk] at h
    cases h
    exact hcid k hk
  · exact va_Nw.of rfl (hts _ (of_decide_eq_true (zt_tab zt_ns_ok hq)))
  · have hx : (if 1000000 < L then xs 1000000 else fl) = fl := if_neg (by omega)
    by_cases h0 : fl = 0
    · rw [if_pos h0] at hZS
      simp only [hx, if_pos h0]
      exact hZS
    · rw [if_neg h0] at hZS
      simp only [hx, if_neg h0]
      show va_Z _ _ _ (Value.ref (zt_ad s.heap.size tA aK aW b 1300000)) _ _ _
      rw [eS]
      exact hZS
  · rw [eK i hi]
    exact vk_R.of (hts _ (zt_n9 i hi)) (hKe i hi)
  · have q := hK.1 i hi
    dsimp only
    rw [eK i hi, eV i hi]
    exact q
  · dsimp only at h
    rw [eK i hi, eK j hj] at h
    exact hK.2 i j hi hj h
  · rw [eB]
    obtain ⟨scr, g1, g2, g3, g4, g5⟩ := hX
    exact ⟨scr, g1, g2, g3, by omega, by rw [g4], fun j hj => (g5 j hj).trans (by dsimp only; rw [if_pos hj]), by omega⟩

