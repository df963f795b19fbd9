/-! ===== the small machine's rows over the JVM: locals and the stack ===== -/
def mx_rv (ad : Nat → Nat) : mx_V → Value
  | .inl x => .int x
  | .inr (.inl x) => .long x
  | .inr (.inr none) => .null
  | .inr (.inr (some k)) => .ref (ad k)
def mx_LR (ad : Nat → Nat) (ls : Array Slot) (nL : Nat) (L : mx_L) : Prop := ls.size = nL ∧ lv_wf ls ∧ ∀ i v, mx_at L i = some v → ls[i]? = some (.val (mx_rv ad v))
theorem mx_at_lt : ∀ (L : mx_L) (i : Nat) (v : mx_V), mx_at L i = some v → i < L.length
  | [], i, v, h => by cases h
  | x :: L, 0, v, h => Nat.succ_pos _
  | x :: L, i + 1, v, h => Nat.succ_lt_succ (mx_at_lt L i v h)
theorem mx_at_set_ne : ∀ (L : mx_L) (i j : Nat) (x : Option mx_V), i ≠ j → mx_at (L.set i x) j = mx_at L j
  | [], i, j, x, h => by simp [mx_at]
  | y :: L, 0, 0, x, h => absurd rfl h
  | y :: L, 0, j + 1, x, h => rfl
  | y :: L, i + 1, 0, x, h => rfl
  | y :: L, i + 1, j + 1, x, h => mx_at_set_ne L i j x (fun q => h (by rw [q]))
theorem mx_at_set_self : ∀ (L : mx_L) (i : Nat) (x : Option mx_V) (w : mx_V), mx_at (L.set i x) i = some w → x = some w
  | [], i, x, w, h => by simp [mx_at] at h
  | y :: L, 0, x, w, h => h
  | y :: L, i + 1, x, w, h => mx_at_set_self L i x w h
theorem mx_at_kl {L : mx_L} {i j : Nat} {w : mx_V} (h : mx_at (mx_kl L i) j = some w) : mx_at L j = some w ∧ ¬ (j + 1 = i ∧ ∃ z, w = .inr (.inl z)) := by
  cases i with
  | zero => exact ⟨h, fun q => by omega⟩
  | succ i =>
    unfold mx_kl at h
    by_cases hj : i = j
    · subst hj
      dsimp only at h
      split at h
      · next z e =>
        have := mx_at_set_self _ _ _ _ h
        cases this
      · next e =>
        refine ⟨h, fun q => ?_⟩
        obtain ⟨-, z, rfl⟩ := q
        exact e z h
    · dsimp only at h
      split at h
      · rw [mx_at_set_ne _ _ _ _ hj] at h
        exact ⟨h, fun q => hj (by omega)⟩
      · exact ⟨h, fun q => hj (by omega)⟩
def mx_as (ad : Nat → Nat) (L : mx_L) : List (Nat × Value) := (List.range L.length).filterMap (fun i => (mx_at L i).map (fun v => (i, mx_rv ad v)))
theorem mx_as_mem {ad : Nat → Nat} {L : mx_L} {i : Nat} {v : mx_V} (h : mx_at L i = some v) : (i, mx_rv ad v) ∈ mx_as ad L :=
  List.mem_filterMap.mpr ⟨i, List.mem_range.mpr (mx_at_lt _ _ _ h), by rw [h]; rfl⟩
theorem mx_as_has {ad : Nat → Nat} {ls : Array Slot} {nL : Nat} {L : mx_L} (h : mx_LR ad ls nL L) : lv_has ls nL (mx_as ad L) := by
  refine ⟨h.1, h.2.1, fun q hq => ?_⟩
  obtain ⟨i, -, hi⟩ := List.mem_filterMap.mp hq
  cases hv : mx_at L i with
  | none => rw [hv] at hi; cases hi
  | some v =>
    rw [hv] at hi
    cases hi
    exact h.2.2 i v hv
theorem mx_rv_cat {ad : Nat → Nat} {w : mx_V} (h : (mx_rv ad w).category = 2) : ∃ z, w = .inr (.inl z) := by
  match w, h with
  | .inl x, h => simp [mx_rv, Value.category] at h
  | .inr (.inl z), h => exact ⟨z, rfl⟩
  | .inr (.inr none), h => simp [mx_rv, Value.category] at h
  | .inr (.inr (some k)), h => simp [mx_rv, Value.category] at h
theorem mx_LR_s1 {ad : Nat → Nat} {ls : Array Slot} {nL : Nat} {L : mx_L} {i : Nat} {v : mx_V} (h : lv_has ls nL ((i, mx_rv ad v) :: (mx_as ad L).filter (fun q => !(q.1 == i) && !(q.1 + 1 == i && q.2.category == 2)))) : mx_LR ad ls nL (mx_s1 L i v) := by
  refine ⟨h.1, h.2.1, fun j w hj => ?_⟩
  unfold mx_s1 at hj
  by_cases hij : i = j
  · subst hij
    have := mx_at_set_self _ _ _ _ hj
    cases this
    exact h.2.2 _ List.mem_cons_self
  · rw [mx_at_set_ne _ _ _ _ hij] at hj
    obtain ⟨h1, h2⟩ := mx_at_kl hj
    refine h.2.2 (j, mx_rv ad w) (List.mem_cons_of_mem _ (List.mem_filter.mpr ⟨mx_as_mem h1, ?_⟩))
    simp only [Bool.and_eq_true, Bool.not_eq_true', beq_eq_false_iff_ne, ne_eq, Bool.and_eq_false_iff]
    refine ⟨fun q => hij q.symm, ?_⟩
    by_cases hq : j + 1 = i
    · refine Or.inr fun q => h2 ⟨hq, mx_rv_cat q⟩
    · exact Or.inl hq
theorem mx_LR_s2 {ad : Nat → Nat} {ls : Array Slot} {nL : Nat} {L : mx_L} {i : Nat} {v : mx_V} (h : lv_has ls nL ((i, mx_rv ad v) :: (mx_as ad L).filter (fun q => !(q.1 == i) && (!(q.1 == i + 1) && !(q.1 + 1 == i && q.2.category == 2))))) : mx_LR ad ls nL (mx_s2 L i v) := by
  refine ⟨h.1, h.2.1, fun j w hj => ?_⟩
  unfold mx_s2 at hj
  by_cases hj1 : i + 1 = j
  · subst hj1
    have := mx_at_set_self _ _ _ _ hj
    cases this
  · rw [mx_at_set_ne _ _ _ _ hj1] at hj
    by_cases hij : i = j
    · subst hij
      have := mx_at_set_self _ _ _ _ hj
      cases this
      exact h.2.2 _ List.mem_cons_self
    · rw [mx_at_set_ne _ _ _ _ hij] at hj
      obtain ⟨h1, h2⟩ := mx_at_kl hj
      refine h.2.2 (j, mx_rv ad w) (List.mem_cons_of_mem _ (List.mem_filter.mpr ⟨mx_as_mem h1, ?_⟩))
      simp only [Bool.and_eq_true, Bool.not_eq_true', beq_eq_false_iff_ne, ne_eq, Bool.and_eq_false_iff]
      refine ⟨fun q => hij q.symm, fun q => hj1 q.symm, ?_⟩
      by_cases hq : j + 1 = i
      · refine Or.inr fun q => h2 ⟨hq, mx_rv_cat q⟩
      · exact Or.inl hq
theorem mx_at_mk : ∀ (m : Nat) (L : mx_L) (i : Nat) (v : mx_V), mx_at (mx_mk m L) i = some v → mx_at L i = some v
  | m, [], i, v, h => by cases h
  | m, x :: L, 0, v, h => by
    simp only [mx_mk, mx_at] at h ⊢
    split at h
    · exact h
    · cases h
  | m, x :: L, i + 1, v, h => mx_at_mk (m / 2) L i v h
theorem mx_LR_mk {ad : Nat → Nat} {ls : Array Slot} {nL : Nat} {L : mx_L} (m : Nat) (h : mx_LR ad ls nL L) : mx_LR ad ls nL (mx_mk m L) := ⟨h.1, h.2.1, fun i v hi => h.2.2 i v (mx_at_mk m L i v hi)⟩
/-- a row's length -/
def mx_ln (i : Instr) : Nat := match i with
  | .bipush _ => 2
  | .sipush _ => 3
  | .ldc _ => 2
  | .ldc_w _ => 3
  | .ldc2_w _ => 3
  | .iload _ => 2
  | .lload _ => 2
  | .aload _ => 2
  | .istore _ => 2
  | .lstore _ => 2
  | .astore _ => 2
  | .iinc _ _ => 3
  | .goto _ => 3
  | .ifCond _ _ => 3
  | .if_icmp _ _ => 3
  | .ifnonnull _ => 3
  | .invokevirtual _ => 3
  | .invokespecial _ => 3
  | .invokestatic _ => 3
  | .getfield _ => 3
  | .putfield _ => 3
  | .getstatic _ => 3
  | .new _ => 3
  | .anewarray _ => 3
  | .newarray _ => 2
  | _ => 1
/-- what the row of a pure instruction must say -/
def mx_cx (hc : Nat → Int32 → Bool) (hc2 : Nat → Int64 → Bool) (hs : Nat → Nat → Bool) (nL : Nat) (i : Instr) (a : Nat) (v : Int32) : Bool := match i with
  | .iconst n => decide (Int32.ofInt n = v)
  | .bipush n => decide ((Int8.ofInt n).toInt32 = v)
  | .sipush n => decide ((Int16.ofInt n).toInt32 = v)
  | .ldc x => match a with
    | 0 => hc x v
    | a + 1 => hs x (a + 1)
  | .ldc_w x => hc x v
  | .ldc2_w x => hc2 x v.toInt64
  | .lconst n => decide (Int64.ofNat n.val = v.toInt64)
  | .iload x => decide (x = a)
  | .lload x => decide (x = a)
  | .aload x => decide (x = a)
  | .iload_n x => decide (x.val = a)
  | .lload_n x => decide (x.val = a)
  | .aload_n x => decide (x.val = a)
  | .istore x => decide (x = a) && decide (a < nL)
  | .astore x => decide (x = a) && decide (a < nL)
  | .lstore x => decide (x = a) && decide (a + 1 < nL)
  | .istore_n x => decide (x.val = a) && decide (a < nL)
  | .astore_n x => decide (x.val = a) && decide (a < nL)
  | .lstore_n x => decide (x.val = a) && decide (a + 1 < nL)
  | .iinc x n => decide (x = a) && (decide (Int32.ofInt n = v) && decide (a < nL))
  | _ => true
