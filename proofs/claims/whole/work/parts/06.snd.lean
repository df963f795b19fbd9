/-! ===== the small machine is sound over the JVM: control, calls, ends ===== -/
theorem mx_at_rep : ∀ (n i : Nat) (v : mx_V), mx_at (List.replicate n none) i = some v → False
  | 0, i, v, h => by cases h
  | n + 1, 0, v, h => by cases h
  | n + 1, i + 1, v, h => mx_at_rep n i v h
theorem mx_en_at (ad : Nat → Nat) : ∀ (as : List mx_V) (n o i : Nat) (v : mx_V), mx_at (mx_en n as) i = some v → (o + i, mx_rv ad v) ∈ lv_args o (as.map (mx_rv ad))
  | [], n, o, i, v, h => (mx_at_rep n i v h).elim
  | .inl x :: as, n, o, 0, v, h => by cases h; exact List.mem_cons_self
  | .inl x :: as, n, o, i + 1, v, h => by
    have := mx_en_at ad as (n - 1) (o + 1) i v h
    rw [show o + (i + 1) = o + 1 + i by omega]
    exact List.mem_cons_of_mem _ this
  | .inr (.inl x) :: as, n, o, 0, v, h => by cases h; exact List.mem_cons_self
  | .inr (.inl x) :: as, n, o, 1, v, h => by cases h
  | .inr (.inl x) :: as, n, o, i + 2, v, h => by
    have := mx_en_at ad as (n - 2) (o + 2) i v h
    rw [show o + (i + 2) = o + 2 + i by omega]
    exact List.mem_cons_of_mem _ this
  | .inr (.inr none) :: as, n, o, 0, v, h => by cases h; exact List.mem_cons_self
  | .inr (.inr (some x)) :: as, n, o, 0, v, h => by cases h; exact List.mem_cons_self
  | .inr (.inr none) :: as, n, o, i + 1, v, h => by
    have := mx_en_at ad as (n - 1) (o + 1) i v h
    rw [show o + (i + 1) = o + 1 + i by omega]
    exact List.mem_cons_of_mem _ this
  | .inr (.inr (some x)) :: as, n, o, i + 1, v, h => by
    have := mx_en_at ad as (n - 1) (o + 1) i v h
    rw [show o + (i + 1) = o + 1 + i by omega]
    exact List.mem_cons_of_mem _ this
theorem mx_sl_cons (v : Value) (vs : List Value) : (lg_sl (v :: vs)).length = (if v.category = 2 then 2 else 1) + (lg_sl vs).length := by
  have h : lg_sl (v :: vs) = (if v.category = 2 then [.val v, .second] else [.val v]) ++ lg_sl vs := rfl
  rw [h, List.length_append]
  split <;> rfl
theorem mx_ct_sl (ad : Nat → Nat) : ∀ (as : List mx_V), (lg_sl (as.map (mx_rv ad))).length = mx_ct as
  | [] => rfl
  | .inl x :: as => by
    rw [List.map_cons, mx_sl_cons, mx_ct_sl ad as]; simp [mx_rv, Value.category, mx_ct]; omega
  | .inr (.inl x) :: as => by
    rw [List.map_cons, mx_sl_cons, mx_ct_sl ad as]; simp [mx_rv, Value.category, mx_ct]; omega
  | .inr (.inr none) :: as => by
    rw [List.map_cons, mx_sl_cons, mx_ct_sl ad as]; simp [mx_rv, Value.category, mx_ct]; omega
  | .inr (.inr (some x)) :: as => by
    rw [List.map_cons, mx_sl_cons, mx_ct_sl ad as]; simp [mx_rv, Value.category, mx_ct]; omega
theorem mx_ct_sum (ad : Nat → Nat) : ∀ (as : List mx_V), ((as.map (mx_rv ad)).map fun v => v.category).sum = mx_ct as
  | [] => rfl
  | .inl x :: as => by
    have := mx_ct_sum ad as
    simp only [List.map_cons, List.sum_cons, this]; simp [mx_rv, Value.category, mx_ct]; omega
  | .inr (.inl x) :: as => by
    have := mx_ct_sum ad as
    simp only [List.map_cons, List.sum_cons, this]; simp [mx_rv, Value.category, mx_ct]; omega
  | .inr (.inr none) :: as => by
    have := mx_ct_sum ad as
    simp only [List.map_cons, List.sum_cons, this]; simp [mx_rv, Value.category, mx_ct]; omega
  | .inr (.inr (some x)) :: as => by
    have := mx_ct_sum ad as
    simp only [List.map_cons, List.sum_cons, this]; simp [mx_rv, Value.category, mx_ct]; omega
theorem mx_tk_st {β : Type} : ∀ (n : Nat) {as st : List mx_V} {K : List mx_V → List mx_V → Option β} {x : β}, mx_tk n as st K = some x → ∃ as' st', as'.length = n ∧ st = as'.reverse ++ st' ∧ K (as' ++ as) st' = some x
  | 0, as, st, K, x, h => ⟨[], st, rfl, rfl, h⟩
  | n + 1, as, [], K, x, h => by cases h
  | n + 1, as, v :: st, K, x, h => by
    obtain ⟨as', st', h1, h2, h3⟩ := mx_tk_st n (as := v :: as) (st := st) h
    exact ⟨as' ++ [v], st', by simp [h1], by simp [h2], by simpa using h3⟩
section MxSnd
variable {σ : Type} (l : Launch) (cd : Nat → mx_T) (xl : Nat → Nat) (rc : Nat → List mx_V → σ → Bool) (hop : mx_H σ) (ad : Nat → Nat) (Rl : σ → Heap → Prop) (gc gs : σ → Nat) (bs : Nat) (mE : State → Prop) (A : Nat → Prop)
variable (yN : Nat → MethodName) (cN : Nat → ByteArray) (rN : Nat → Option FieldType) (fN lN : Nat → Nat) (Ts : List Jvm.Cond) (hC : Nat → Nat → Int32 → Bool) (hC2 : Nat → Nat → Int64 → Bool) (hZ : Nat → Nat → Nat → Bool) (hM : Nat → Nat → Nat → Bool) (hL hN : Nat → Nat → Nat → Bool)
noncomputable def mx_pc (k j : Nat) : Nat := (mx_get (cd k) j).2.1
def mx_C (k : Nat) (p : Program) (R : Room) (s : State) (m : MethodId) (args : Array Value) (meth : Method) (c : Code) : Prop :=
  p.tables.exec = Jvm.exec ∧ c.code = cN k ∧ c.maxLocals = xl k ∧ meth.sig.returnType = rN k ∧ meth.locks = false ∧ s.vm.findClass (yN k).cls = some m.cls ∧ (∀ w ∈ Ts, w.before args s = true) ∧ meth.name = (yN k).name ∧ fN k ≤ R.frames ∧ lN k ≤ R.locals ∧ mE s
def mx_Q (r : Option mx_V) (s' : σ) : Array Value → State → Outcome → State → Prop := fun _ st o t => o = .returned (r.map (mx_rv ad)) ∧ Rl s' t.heap ∧ va_F A st t
def mx_P (as : List mx_V) (s : σ) : Array Value → State → Prop := va_Pc (as.map (mx_rv ad)) (fun U => Rl s U.heap ∧ mE U)
/-- from here the JVM comes to that end -/
def mx_G (k pc : Nat) (L : mx_L) (st : List mx_V) (s : σ) (r : Option mx_V) (s' : σ) : Prop := gc s ≤ gc s' ∧ gs s ≤ gs s' ∧
  ∀ (p : Program) (e : Env) (R : Room) (s0 : State) (m : MethodId) (args : Array Value) (below : List Frame) (meth : Method) (c : Code), mx_C xl mE yN cN rN fN lN Ts k p R s0 m args meth c →
  ∀ (H : Heap) (locs : List Loc) (ls : Array Slot) (c0 d0 : Nat), c0 ≤ gc s → d0 ≤ gs s → gc s' - c0 ≤ R.cells → gs s' - d0 ≤ R.slots → s0.heap.size = bs + c0 → Rl s H → va_S A s0.heap H locs → mx_LR ad ls (xl k) L →
  W p l e R s0 m args below meth c H locs (gc s - c0) (gs s - d0) (MQ below (mx_Q ad Rl A r s') args s0 (gc s' - c0) (gs s' - d0) A) (F0 m pc ls (st.map (mx_rv ad)))
/-- the rows of the heap are sound -/
def mx_HS : Prop := ∀ (k j : Nat) (L : mx_L) (st : List mx_V) (s : σ) (K : List mx_V → σ → Option (Option mx_V × σ)) (x : Option mx_V × σ), hop (mx_get (cd k) j) st s K = some x →
  ∃ st' s', K st' s' = some x ∧ ∀ r s2, mx_G l xl ad Rl gc gs bs mE A yN cN rN fN lN Ts k (mx_pc cd k (mx_get (cd k) j).2.2.1) L st' s' r s2 → mx_G l xl ad Rl gc gs bs mE A yN cN rN fN lN Ts k (mx_pc cd k j) L st s r s2
def mx_dc (k pc : Nat) (i : Instr) : Bool := decide (decode (cN k) pc = .ok (i, mx_ln i))
def mx_cl (k a : Nat) : Bool := decide (fN a + 1 ≤ fN k) && decide (8 + (xl a + 11) + lN a ≤ lN k)
/-- what a row must say -/
noncomputable def mx_ck (k : Nat) (r : mx_I) : Bool := match r with
  | (i, pc, nx, a, b, v, sw) => match i with
    | .athrow => true
    | .nop => decide (mx_pc cd k nx = pc)
    | .goto o => mx_dc cN k pc i && decide ((pc : Int) + o = (mx_pc cd k a : Nat))
    | .ifCond _ o => mx_dc cN k pc i && (decide ((pc : Int) + o = (mx_pc cd k a : Nat)) && decide (mx_pc cd k nx = pc + 3))
    | .if_icmp _ o => mx_dc cN k pc i && (decide ((pc : Int) + o = (mx_pc cd k a : Nat)) && decide (mx_pc cd k nx = pc + 3))
    | .ifnonnull o => mx_dc cN k pc i && (decide ((pc : Int) + o = (mx_pc cd k a : Nat)) && decide (mx_pc cd k nx = pc + 3))
    | .tableswitch dflt lo hi offs => decide ((decode (cN k) pc).toOption.map (fun q => q.1) = some i) && (decide ((pc : Int) + dflt = (mx_pc cd k a : Nat)) && (decide (sw.map (fun q => q.1.toInt) = (List.range (hi - lo + 1).toNat).map (fun (n : Nat) => lo + (n : Int))) && sw.all (fun q => match offs[(q.1.toInt - lo).toNat]? with
      | some o => decide ((pc : Int) + o = (mx_pc cd k q.2 : Nat))
      | none => false)))
    | .ireturn => mx_dc cN k pc i && (match rN k with
      | some .int => decide (b = 0)
      | some .boolean => decide (b = 1)
      | some .char => decide (b = 2)
      | some .byte => decide (b = 3)
      | _ => false)
    | .areturn => mx_dc cN k pc i && (match rN k with
      | some (.object _) => true
      | _ => false)
    | .return_ => mx_dc cN k pc i && decide (rN k = none)
    | .invokevirtual x => match b with
      | 0 => true
      | b + 1 => mx_dc cN k pc i && (decide (mx_pc cd k nx = pc + 3) && (mx_cl xl fN lN k a && (hM 0 a b && hL k x a)))
    | .invokespecial x => match b with
      | 0 => true
      | b + 1 => mx_dc cN k pc i && (decide (mx_pc cd k nx = pc + 3) && (mx_cl xl fN lN k a && (hM 1 a b && (hL k x a || hN k x a))))
    | .invokestatic x => match b with
      | 0 => true
      | b + 1 => mx_dc cN k pc i && (decide (mx_pc cd k nx = pc + 3) && (mx_cl xl fN lN k a && (hM 2 a (b + 1) && (hL k x a || hN k x a))))
    | .getfield _ => true
    | .putfield _ => true
    | .getstatic _ => true
    | .iaload => true
    | .iastore => true
    | .baload => true
    | .bastore => true
    | .caload => true
    | .castore => true
    | .laload => true
    | .lastore => true
    | .aaload => true
    | .aastore => true
    | .arraylength => true
    | .new _ => true
    | .newarray _ => true
    | .anewarray _ => true
    | i => mx_dc cN k pc i && (decide (mx_pc cd k nx = pc + mx_ln i) && mx_cx (hC k) (hC2 k) (hZ k) (xl k) i a v)
end MxSnd
