noncomputable def zt_mok (a : Nat) : Bool := decide ((zt_y a).cls ≠ "java/lang/invoke/MethodHandle") && (decide ((zt_y a).cls ≠ "java/lang/invoke/VarHandle") && (decide ((parseMethodDescriptor (zt_y a).desc).map (fun d => d.parameters.length) = some (zt_n a)) && (plainName (zt_y a).cls && (match zt_q a with
  | 1 => decide ((zt_y a).name = "<init>") && decide (zt_r a = none)
  | _ => true))))
theorem zt_mok_0 : (List.range 20).all (fun j => zt_mok (0 + j)) = true := by decide +kernel
theorem zt_mok_1 : (List.range 20).all (fun j => zt_mok (20 + j)) = true := by decide +kernel
theorem zt_mok_2 : (List.range 20).all (fun j => zt_mok (40 + j)) = true := by decide +kernel
theorem zt_mok_3 : (List.range 20).all (fun j => zt_mok (60 + j)) = true := by decide +kernel
theorem zt_mok_4 : (List.range 20).all (fun j => zt_mok (80 + j)) = true := by decide +kernel
theorem zt_mok_5 : (List.range 20).all (fun j => zt_mok (100 + j)) = true := by decide +kernel
theorem zt_mok_6 : (List.range 20).all (fun j => zt_mok (120 + j)) = true := by decide +kernel
theorem zt_mok_7 : (List.range 20).all (fun j => zt_mok (140 + j)) = true := by decide +kernel
theorem zt_mok_8 : (List.range 20).all (fun j => zt_mok (160 + j)) = true := by decide +kernel
theorem zt_mok_9 : (List.range 20).all (fun j => zt_mok (180 + j)) = true := by decide +kernel
theorem zt_mok_10 : (List.range 20).all (fun j => zt_mok (200 + j)) = true := by decide +kernel
theorem zt_mok_11 : (List.range 20).all (fun j => zt_mok (220 + j)) = true := by decide +kernel
theorem zt_mok_12 : (List.range 20).all (fun j => zt_mok (240 + j)) = true := by decide +kernel
theorem zt_mok_13 : (List.range 20).all (fun j => zt_mok (260 + j)) = true := by decide +kernel
theorem zt_mok_14 : (List.range 3).all (fun j => zt_mok (280 + j)) = true := by decide +kernel
theorem zt_ch {P : Nat → Bool} {n o : Nat} (h : (List.range n).all (fun j => P (o + j)) = true) {k : Nat} (h1 : o ≤ k) (h2 : k < o + n) : P k = true := by
  have h3 := List.all_eq_true.mp h (k - o) (List.mem_range.mpr (by omega))
  rw [show o + (k - o) = k by omega] at h3
  exact h3
theorem zt_mok_all (a : Nat) (h : a < 283) : zt_mok a = true := by
  by_cases h0 : a < 20
  · exact zt_ch zt_mok_0 (by omega) (by omega)
  by_cases h1 : a < 40
  · exact zt_ch zt_mok_1 (by omega) (by omega)
  by_cases h2 : a < 60
  · exact zt_ch zt_mok_2 (by omega) (by omega)
  by_cases h3 : a < 80
  · exact zt_ch zt_mok_3 (by omega) (by omega)
  by_cases h4 : a < 100
  · exact zt_ch zt_mok_4 (by omega) (by omega)
  by_cases h5 : a < 120
  · exact zt_ch zt_mok_5 (by omega) (by omega)
  by_cases h6 : a < 140
  · exact zt_ch zt_mok_6 (by omega) (by omega)
  by_cases h7 : a < 160
  · exact zt_ch zt_mok_7 (by omega) (by omega)
  by_cases h8 : a < 180
  · exact zt_ch zt_mok_8 (by omega) (by omega)
  by_cases h9 : a < 200
  · exact zt_ch zt_mok_9 (by omega) (by omega)
  by_cases h10 : a < 220
  · exact zt_ch zt_mok_10 (by omega) (by omega)
  by_cases h11 : a < 240
  · exact zt_ch zt_mok_11 (by omega) (by omega)
  by_cases h12 : a < 260
  · exact zt_ch zt_mok_12 (by omega) (by omega)
  by_cases h13 : a < 280
  · exact zt_ch zt_mok_13 (by omega) (by omega)
  by_cases h14 : a < 283
  · exact zt_ch zt_mok_14 (by omega) (by omega)
  omega
theorem zt_hMT (q a b : Nat) (h : zt_hM q a b = true) : Jvm.Cond.code (zt_y a) (zt_c a) (zt_x a) (zt_r a) ∈ zt_Ts ∧ Jvm.Cond.initialized (zt_y a).cls ∈ zt_Ts ∧ (zt_y a).cls ≠ "java/lang/invoke/MethodHandle" ∧ (zt_y a).cls ≠ "java/lang/invoke/VarHandle" ∧ (parseMethodDescriptor (zt_y a).desc).map (fun d => d.parameters.length) = some b ∧ plainName (zt_y a).cls = true ∧ (q = 0 → Jvm.Cond.instanceMethod (zt_y a) ∈ zt_Ts ∧ Jvm.Cond.selects (zt_y a).cls (zt_y a) (zt_y a) ∈ zt_Ts ∧ Nat.blt (zt_q a) 2 = true) ∧ (q = 1 → Jvm.Cond.instanceMethod (zt_y a) ∈ zt_Ts ∧ (zt_y a).name = "<init>" ∧ zt_r a = none ∧ Nat.blt (zt_q a) 2 = true) ∧ (q = 2 → Jvm.Cond.static (zt_y a) ∈ zt_Ts) := by
  simp only [zt_hM, Bool.and_eq_true] at h
  obtain ⟨h1, h2, h3⟩ := h
  have h1 := Nat.eq_of_beq_eq_true h1
  have h2 := Nat.eq_of_beq_eq_true h2
  have ha := Nat.blt_eq.mp h3
  have hm := zt_mok_all a ha
  obtain ⟨f1, f2, f3, f4, f5⟩ := zt_F_all a ha
  simp only [zt_mok, Bool.and_eq_true] at hm
  obtain ⟨m3, m4, m5, m6, m7⟩ := hm
  rw [h1] at m7
  rw [h2] at m5
  refine ⟨f1, f2, of_decide_eq_true m3, of_decide_eq_true m4, of_decide_eq_true m5, m6, fun e => ?_, fun e => ?_, fun e => ?_⟩
  · subst e
    exact ⟨(f3 h1).1, (f3 h1).2, by rw [h1]; rfl⟩
  · subst e
    simp only [Bool.and_eq_true] at m7
    exact ⟨f4 h1, of_decide_eq_true m7.1, of_decide_eq_true m7.2, by rw [h1]; rfl⟩
  · subst e
    exact f5 h1
