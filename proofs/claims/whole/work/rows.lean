section
/-! ===== a small machine: values, rows of code, what they do ===== -/
abbrev mx_V : Type := Int32 ⊕ (Int64 ⊕ Option Nat)
abbrev mx_L : Type := List (Option mx_V)
/-- an instruction, its pc, the next row, two numbers, a constant, the rows of a switch -/
abbrev mx_I : Type := Instr × Nat × Nat × Nat × Nat × Int32 × List (Int32 × Nat)
abbrev mx_T : Type := Lean.RArray mx_I
noncomputable def mx_get (t : mx_T) (n : Nat) : mx_I := Lean.RArray.rec (fun x => x) (fun p _ _ l r => cond (Nat.blt n p) l r) t
noncomputable def mx_all (q : mx_I → Bool) (t : mx_T) : Bool := Lean.RArray.rec (fun x => q x) (fun _ _ _ l r => l && r) t
theorem mx_all_get {q : mx_I → Bool} (t : mx_T) (n : Nat) (h : mx_all q t = true) : q (mx_get t n) = true := by
  induction t with
  | leaf x => exact h
  | branch p l r hl hr =>
    have h2 : (mx_all q l && mx_all q r) = true := h
    rw [Bool.and_eq_true] at h2
    show q (cond (Nat.blt n p) (mx_get l n) (mx_get r n)) = true
    cases Nat.blt n p
    · exact hr h2.2
    · exact hl h2.1
def mx_at : mx_L → Nat → Option mx_V
  | [], _ => none
  | x :: _, 0 => x
  | _ :: L, n + 1 => mx_at L n
/-- a long whose second half goes is gone -/
def mx_kl (L : mx_L) (i : Nat) : mx_L := match i with
  | 0 => L
  | i + 1 => match mx_at L i with
    | some (.inr (.inl _)) => L.set i none
    | _ => L
def mx_s1 (L : mx_L) (i : Nat) (v : mx_V) : mx_L := (mx_kl L i).set i (some v)
def mx_s2 (L : mx_L) (i : Nat) (v : mx_V) : mx_L := ((mx_kl L i).set i (some v)).set (i + 1) none
/-- only the places of a set are kept -/
def mx_mk : Nat → mx_L → mx_L
  | _, [] => []
  | m, x :: L => (if m % 2 = 1 then x else none) :: mx_mk (m / 2) L
/-- a method's locals as it begins -/
def mx_en : Nat → List mx_V → mx_L
  | n, [] => List.replicate n none
  | n, .inl x :: l => some (.inl x) :: mx_en (n - 1) l
  | n, .inr (.inl x) :: l => some (.inr (.inl x)) :: none :: mx_en (n - 2) l
  | n, .inr (.inr x) :: l => some (.inr (.inr x)) :: mx_en (n - 1) l
section MxPure
variable {β : Type}
def mx_li (L : mx_L) (a : Nat) (K : Int32 → Option β) : Option β := match mx_at L a with
  | some (.inl x) => K x
  | _ => none
def mx_ll (L : mx_L) (a : Nat) (K : Int64 → Option β) : Option β := match mx_at L a with
  | some (.inr (.inl x)) => K x
  | _ => none
def mx_la (L : mx_L) (a : Nat) (K : Option Nat → Option β) : Option β := match mx_at L a with
  | some (.inr (.inr x)) => K x
  | _ => none
def mx_1i (st : List mx_V) (K : Int32 → List mx_V → Option β) : Option β := match st with
  | .inl x :: st => K x st
  | _ => none
def mx_1l (st : List mx_V) (K : Int64 → List mx_V → Option β) : Option β := match st with
  | .inr (.inl x) :: st => K x st
  | _ => none
def mx_1a (st : List mx_V) (K : Option Nat → List mx_V → Option β) : Option β := match st with
  | .inr (.inr x) :: st => K x st
  | _ => none
/-- what touches the locals and the stack alone, and goes on behind itself -/
def mx_pu (i : Instr) (a : Nat) (v : Int32) (L : mx_L) (st : List mx_V) (K : mx_L → List mx_V → Option β) : Option β := match i with
  | .iconst _ => K L (.inl v :: st)
  | .bipush _ => K L (.inl v :: st)
  | .sipush _ => K L (.inl v :: st)
  | .ldc _ => match a with
    | 0 => K L (.inl v :: st)
    | a + 1 => K L (.inr (.inr (some (a + 1))) :: st)
  | .ldc_w _ => K L (.inl v :: st)
  | .ldc2_w _ => K L (.inr (.inl v.toInt64) :: st)
  | .lconst _ => K L (.inr (.inl v.toInt64) :: st)
  | .aconst_null => K L (.inr (.inr none) :: st)
  | .iload _ => mx_li L a fun x => K L (.inl x :: st)
  | .iload_n _ => mx_li L a fun x => K L (.inl x :: st)
  | .lload _ => mx_ll L a fun x => K L (.inr (.inl x) :: st)
  | .lload_n _ => mx_ll L a fun x => K L (.inr (.inl x) :: st)
  | .aload _ => mx_la L a fun x => K L (.inr (.inr x) :: st)
  | .aload_n _ => mx_la L a fun x => K L (.inr (.inr x) :: st)
  | .istore _ => mx_1i st fun x st => K (mx_s1 L a (.inl x)) st
  | .istore_n _ => mx_1i st fun x st => K (mx_s1 L a (.inl x)) st
  | .lstore _ => mx_1l st fun x st => K (mx_s2 L a (.inr (.inl x))) st
  | .lstore_n _ => mx_1l st fun x st => K (mx_s2 L a (.inr (.inl x))) st
  | .astore _ => mx_1a st fun x st => K (mx_s1 L a (.inr (.inr x))) st
  | .astore_n _ => mx_1a st fun x st => K (mx_s1 L a (.inr (.inr x))) st
  | .iinc _ _ => mx_li L a fun x => K (mx_s1 L a (.inl (x + v))) st
  | .iadd => mx_1i st fun y st => mx_1i st fun x st => K L (.inl (x + y) :: st)
  | .isub => mx_1i st fun y st => mx_1i st fun x st => K L (.inl (x - y) :: st)
  | .imul => mx_1i st fun y st => mx_1i st fun x st => K L (.inl (x * y) :: st)
  | .iand => mx_1i st fun y st => mx_1i st fun x st => K L (.inl (x &&& y) :: st)
  | .ior => mx_1i st fun y st => mx_1i st fun x st => K L (.inl (x ||| y) :: st)
  | .ixor => mx_1i st fun y st => mx_1i st fun x st => K L (.inl (x ^^^ y) :: st)
  | .ishl => mx_1i st fun y st => mx_1i st fun x st => K L (.inl (x <<< (y &&& 31)) :: st)
  | .ishr => mx_1i st fun y st => mx_1i st fun x st => K L (.inl (x >>> (y &&& 31)) :: st)
  | .iushr => mx_1i st fun y st => mx_1i st fun x st => K L (.inl (x.toUInt32 >>> (y.toUInt32 &&& Int32.toUInt32 31)).toInt32 :: st)
  | .idiv => mx_1i st fun y st => mx_1i st fun x st => if y = 0 then none else K L (.inl (x / y) :: st)
  | .irem => mx_1i st fun y st => mx_1i st fun x st => if y = 0 then none else K L (.inl (x - x / y * y) :: st)
  | .ineg => mx_1i st fun x st => K L (.inl (-x) :: st)
  | .ladd => mx_1l st fun y st => mx_1l st fun x st => K L (.inr (.inl (x + y)) :: st)
  | .lmul => mx_1l st fun y st => mx_1l st fun x st => K L (.inr (.inl (x * y)) :: st)
  | .lcmp => mx_1l st fun y st => mx_1l st fun x st => K L (.inl (lg_cmp x y) :: st)
  | .i2l => mx_1i st fun x st => K L (.inr (.inl x.toInt64) :: st)
  | .l2i => mx_1l st fun x st => K L (.inl x.toInt32 :: st)
  | .i2b => mx_1i st fun x st => K L (.inl x.toInt8.toInt32 :: st)
  | .i2s => mx_1i st fun x st => K L (.inl x.toInt16.toInt32 :: st)
  | .dup => match st with
    | .inl x :: st => K L (.inl x :: .inl x :: st)
    | .inr (.inr x) :: st => K L (.inr (.inr x) :: .inr (.inr x) :: st)
    | _ => none
  | .dup2 => match st with
    | .inl y :: .inr (.inr x) :: st => K L (.inl y :: .inr (.inr x) :: .inl y :: .inr (.inr x) :: st)
    | _ => none
  | .pop => match st with
    | .inl _ :: st => K L st
    | .inr (.inr _) :: st => K L st
    | _ => none
  | _ => none
def mx_br (c : ClassFile.Cond) (x y : Int32) (A B : β) : β := match c with
  | .eq => if x = y then A else B
  | .ne => if x = y then B else A
  | .lt => if x < y then A else B
  | .ge => if x < y then B else A
  | .gt => if y < x then A else B
  | .le => if y < x then B else A
def mx_sw (x : Int32) (K : Nat → β) (d : β) : List (Int32 × Nat) → β
  | [] => d
  | (y, t) :: l => if x = y then K t else mx_sw x K d l
/-- so many arguments off the stack -/
def mx_tk : Nat → List mx_V → List mx_V → (List mx_V → List mx_V → Option β) → Option β
  | 0, as, st, K => K as st
  | _ + 1, _, [], _ => none
  | n + 1, as, x :: st, K => mx_tk n (x :: as) st K
def mx_rt (b : Nat) (x : Int32) (r : Option β) : Option β := match b with
  | 0 => r
  | _ => if x = 0 then r else if x = 1 then r else none
end MxPure
abbrev mx_F (σ : Type) : Type := Nat → Nat → mx_L → List mx_V → σ → Option (Option mx_V × σ)
abbrev mx_H (σ : Type) : Type := mx_I → List mx_V → σ → (List mx_V → σ → Option (Option mx_V × σ)) → Option (Option mx_V × σ)
/-- the words of a stack -/
def mx_ct : List mx_V → Nat
  | [] => 0
  | .inr (.inl _) :: l => mx_ct l + 2
  | _ :: l => mx_ct l + 1
/-- one row: f goes on, g goes on behind a cut, h is a call -/
def mx_b {σ : Type} (xl : Nat → Nat) (rc : Nat → List mx_V → σ → Bool) (hop : mx_H σ) (f g h : mx_F σ) (k : Nat) (r : mx_I) (L : mx_L) (st : List mx_V) (s : σ) : Option (Option mx_V × σ) :=
  match r with
  | (i, pc, nx, a, b, v, sw) => match i with
    | .nop => g k nx (mx_mk a L) st s
    | .goto _ => f k a L st s
    | .ifCond c _ => mx_1i st fun x st => mx_br c x 0 (f k a L st s) (f k nx L st s)
    | .if_icmp c _ => mx_1i st fun y st => mx_1i st fun x st => mx_br c x y (f k a L st s) (f k nx L st s)
    | .ifnonnull _ => mx_1a st fun x st => match x with
      | none => f k nx L st s
      | some _ => f k a L st s
    | .tableswitch _ _ _ _ => mx_1i st fun x st => mx_sw x (fun t => f k t L st s) (f k a L st s) sw
    | .ireturn => match st with
      | [.inl x] => mx_rt b x (some (some (.inl x), s))
      | _ => none
    | .areturn => match st with
      | [.inr (.inr x)] => some (some (.inr (.inr x)), s)
      | _ => none
    | .return_ => match st with
      | [] => some (none, s)
      | _ => none
    | .invokevirtual _ => match b with
      | 0 => hop (i, pc, nx, a, b, v, sw) st s (fun st s => f k nx L st s)
      | b + 1 => mx_tk (b + 1) [] st fun as st => cond (rc a as s && Nat.ble (mx_ct st) 8) ((h a 0 (mx_en (xl a) as) [] s).bind fun q => f k nx L (q.1.toList ++ st) q.2) none
    | .invokespecial _ => match b with
      | 0 => hop (i, pc, nx, a, b, v, sw) st s (fun st s => f k nx L st s)
      | b + 1 => mx_tk (b + 1) [] st fun as st => cond (rc a as s && Nat.ble (mx_ct st) 8) ((h a 0 (mx_en (xl a) as) [] s).bind fun q => f k nx L (q.1.toList ++ st) q.2) none
    | .invokestatic _ => match b with
      | 0 => hop (i, pc, nx, a, b, v, sw) st s (fun st s => f k nx L st s)
      | b + 1 => mx_tk (b + 1) [] st fun as st => cond (rc a as s && Nat.ble (mx_ct st) 8) ((h a 0 (mx_en (xl a) as) [] s).bind fun q => f k nx L (q.1.toList ++ st) q.2) none
    | .getfield _ => hop (i, pc, nx, a, b, v, sw) st s (fun st s => f k nx L st s)
    | .putfield _ => hop (i, pc, nx, a, b, v, sw) st s (fun st s => f k nx L st s)
    | .getstatic _ => hop (i, pc, nx, a, b, v, sw) st s (fun st s => f k nx L st s)
    | .iaload => hop (i, pc, nx, a, b, v, sw) st s (fun st s => f k nx L st s)
    | .iastore => hop (i, pc, nx, a, b, v, sw) st s (fun st s => f k nx L st s)
    | .baload => hop (i, pc, nx, a, b, v, sw) st s (fun st s => f k nx L st s)
    | .bastore => hop (i, pc, nx, a, b, v, sw) st s (fun st s => f k nx L st s)
    | .caload => hop (i, pc, nx, a, b, v, sw) st s (fun st s => f k nx L st s)
    | .castore => hop (i, pc, nx, a, b, v, sw) st s (fun st s => f k nx L st s)
    | .laload => hop (i, pc, nx, a, b, v, sw) st s (fun st s => f k nx L st s)
    | .lastore => hop (i, pc, nx, a, b, v, sw) st s (fun st s => f k nx L st s)
    | .aaload => hop (i, pc, nx, a, b, v, sw) st s (fun st s => f k nx L st s)
    | .aastore => hop (i, pc, nx, a, b, v, sw) st s (fun st s => f k nx L st s)
    | .arraylength => hop (i, pc, nx, a, b, v, sw) st s (fun st s => f k nx L st s)
    | .new _ => hop (i, pc, nx, a, b, v, sw) st s (fun st s => f k nx L st s)
    | .newarray _ => hop (i, pc, nx, a, b, v, sw) st s (fun st s => f k nx L st s)
    | .anewarray _ => hop (i, pc, nx, a, b, v, sw) st s (fun st s => f k nx L st s)
    | i => mx_pu i a v L st (fun L st => f k nx L st s)
noncomputable def mx_ex {σ : Type} (cd : Nat → mx_T) (xl : Nat → Nat) (rc : Nat → List mx_V → σ → Bool) (hop : mx_H σ) : Nat → mx_F σ
  | 0 => fun _ _ _ _ _ => none
  | n + 1 => fun k j L st s => mx_b xl rc hop (mx_ex cd xl rc hop n) (mx_ex cd xl rc hop n) (mx_ex cd xl rc hop n) k (mx_get (cd k) j) L st s
end
section
/-! ===== what a row rests on; the machine without fuel; evaluation up to a cut ===== -/
section MxSup
variable {σ : Type} {xl : Nat → Nat} {hop : mx_H σ}
def mx_HP (hop : mx_H σ) : Prop := ∀ r st s K x, hop r st s K = some x → ∃ st' s', K st' s' = some x ∧ ∀ K' y, K' st' s' = some y → hop r st s K' = some y
theorem mx_pu_sup {β : Type} {i : Instr} {a : Nat} {v : Int32} {L : mx_L} {st : List mx_V} {K : mx_L → List mx_V → Option β} {x : β} (h : mx_pu i a v L st K = some x) :
    ∃ L' st', K L' st' = some x ∧ ∀ (γ : Type) (K' : mx_L → List mx_V → Option γ) y, K' L' st' = some y → mx_pu i a v L st K' = some y := by
  have h1i : ∀ (γ : Type) (st : List mx_V) (K : Int32 → List mx_V → Option γ) (y : γ), mx_1i st K = some y → ∃ z st', st = .inl z :: st' ∧ K z st' = some y := by
    intro γ st K y h
    match st, h with
    | .inl z :: st', h => exact ⟨z, st', rfl, h⟩
    | [], h => cases h
    | .inr _ :: _, h => cases h
  have h1l : ∀ (γ : Type) (st : List mx_V) (K : Int64 → List mx_V → Option γ) (y : γ), mx_1l st K = some y → ∃ z st', st = .inr (.inl z) :: st' ∧ K z st' = some y := by
    intro γ st K y h
    match st, h with
    | .inr (.inl z) :: st', h => exact ⟨z, st', rfl, h⟩
    | [], h => cases h
    | .inl _ :: _, h => cases h
    | .inr (.inr _) :: _, h => cases h
  have h1a : ∀ (γ : Type) (st : List mx_V) (K : Option Nat → List mx_V → Option γ) (y : γ), mx_1a st K = some y → ∃ z st', st = .inr (.inr z) :: st' ∧ K z st' = some y := by
    intro γ st K y h
    match st, h with
    | .inr (.inr z) :: st', h => exact ⟨z, st', rfl, h⟩
    | [], h => cases h
    | .inl _ :: _, h => cases h
    | .inr (.inl _) :: _, h => cases h
  have hli : ∀ (γ : Type) (K : Int32 → Option γ) (y : γ), mx_li L a K = some y → ∃ z, mx_at L a = some (.inl z) ∧ K z = some y := by
    intro γ K y h
    unfold mx_li at h
    split at h
    · next z e => exact ⟨z, e, h⟩
    · cases h
  have hll : ∀ (γ : Type) (K : Int64 → Option γ) (y : γ), mx_ll L a K = some y → ∃ z, mx_at L a = some (.inr (.inl z)) ∧ K z = some y := by
    intro γ K y h
    unfold mx_ll at h
    split at h
    · next z e => exact ⟨z, e, h⟩
    · cases h
  have hla : ∀ (γ : Type) (K : Option Nat → Option γ) (y : γ), mx_la L a K = some y → ∃ z, mx_at L a = some (.inr (.inr z)) ∧ K z = some y := by
    intro γ K y h
    unfold mx_la at h
    split at h
    · next z e => exact ⟨z, e, h⟩
    · cases h
  have two : ∀ (op : Int32 → Int32 → Int32), mx_1i st (fun y st => mx_1i st fun x st => K L (.inl (op x y) :: st)) = some x → ∃ L' st', K L' st' = some x ∧ ∀ (γ : Type) (K' : mx_L → List mx_V → Option γ) y, K' L' st' = some y → mx_1i st (fun y st => mx_1i st fun x st => K' L (.inl (op x y) :: st)) = some y := by
    intro op h
    obtain ⟨y, s1, e1, h⟩ := h1i _ _ _ _ h
    obtain ⟨z, s2, e2, h⟩ := h1i _ _ _ _ h
    subst e2; subst e1
    exact ⟨_, _, h, fun _ K' y h => h⟩
  have twod : ∀ (op : Int32 → Int32 → Int32), mx_1i st (fun y st => mx_1i st fun x st => if y = 0 then none else K L (.inl (op x y) :: st)) = some x → ∃ L' st', K L' st' = some x ∧ ∀ (γ : Type) (K' : mx_L → List mx_V → Option γ) y, K' L' st' = some y → mx_1i st (fun y st => mx_1i st fun x st => if y = 0 then none else K' L (.inl (op x y) :: st)) = some y := by
    intro op h
    obtain ⟨y, s1, e1, h2⟩ := h1i _ _ _ _ h
    obtain ⟨z, s2, e2, h3⟩ := h1i _ _ _ _ h2
    clear h h2
    subst e2; subst e1
    by_cases hy : y = 0
    · rw [if_pos hy] at h3; cases h3
    · rw [if_neg hy] at h3
      exact ⟨_, _, h3, fun _ K' w h => by show (if y = 0 then none else _) = _; rw [if_neg hy]; exact h⟩
  have twol : ∀ (op : Int64 → Int64 → mx_V), mx_1l st (fun y st => mx_1l st fun x st => K L (op x y :: st)) = some x → ∃ L' st', K L' st' = some x ∧ ∀ (γ : Type) (K' : mx_L → List mx_V → Option γ) y, K' L' st' = some y → mx_1l st (fun y st => mx_1l st fun x st => K' L (op x y :: st)) = some y := by
    intro op h
    obtain ⟨y, s1, e1, h⟩ := h1l _ _ _ _ h
    obtain ⟨z, s2, e2, h⟩ := h1l _ _ _ _ h
    subst e2; subst e1
    exact ⟨_, _, h, fun _ K' y h => h⟩
  have onei : ∀ (L2 : Int32 → mx_L) (op : Int32 → List mx_V → List mx_V), mx_1i st (fun z st => K (L2 z) (op z st)) = some x → ∃ L' st', K L' st' = some x ∧ ∀ (γ : Type) (K' : mx_L → List mx_V → Option γ) y, K' L' st' = some y → mx_1i st (fun z st => K' (L2 z) (op z st)) = some y := by
    intro L2 op h
    obtain ⟨y, s1, e1, h⟩ := h1i _ _ _ _ h
    subst e1
    exact ⟨_, _, h, fun _ K' y h => h⟩
  have onel : ∀ (L2 : Int64 → mx_L) (op : Int64 → List mx_V → List mx_V), mx_1l st (fun z st => K (L2 z) (op z st)) = some x → ∃ L' st', K L' st' = some x ∧ ∀ (γ : Type) (K' : mx_L → List mx_V → Option γ) y, K' L' st' = some y → mx_1l st (fun z st => K' (L2 z) (op z st)) = some y := by
    intro L2 op h
    obtain ⟨y, s1, e1, h⟩ := h1l _ _ _ _ h
    subst e1
    exact ⟨_, _, h, fun _ K' y h => h⟩
  have onea : ∀ (L2 : Option Nat → mx_L) (op : Option Nat → List mx_V → List mx_V), mx_1a st (fun z st => K (L2 z) (op z st)) = some x → ∃ L' st', K L' st' = some x ∧ ∀ (γ : Type) (K' : mx_L → List mx_V → Option γ) y, K' L' st' = some y → mx_1a st (fun z st => K' (L2 z) (op z st)) = some y := by
    intro L2 op h
    obtain ⟨y, s1, e1, h⟩ := h1a _ _ _ _ h
    subst e1
    exact ⟨_, _, h, fun _ K' y h => h⟩
  have loci : ∀ (L2 : Int32 → mx_L) (op : Int32 → List mx_V), mx_li L a (fun z => K (L2 z) (op z)) = some x → ∃ L' st', K L' st' = some x ∧ ∀ (γ : Type) (K' : mx_L → List mx_V → Option γ) y, K' L' st' = some y → mx_li L a (fun z => K' (L2 z) (op z)) = some y := by
    intro L2 op h
    obtain ⟨z, e, h⟩ := hli _ _ _ h
    exact ⟨_, _, h, fun _ K' y h => by unfold mx_li; rw [e]; exact h⟩
  have locl : ∀ (op : Int64 → List mx_V), mx_ll L a (fun z => K L (op z)) = some x → ∃ L' st', K L' st' = some x ∧ ∀ (γ : Type) (K' : mx_L → List mx_V → Option γ) y, K' L' st' = some y → mx_ll L a (fun z => K' L (op z)) = some y := by
    intro op h
    obtain ⟨z, e, h⟩ := hll _ _ _ h
    exact ⟨_, _, h, fun _ K' y h => by unfold mx_ll; rw [e]; exact h⟩
  have loca : ∀ (op : Option Nat → List mx_V), mx_la L a (fun z => K L (op z)) = some x → ∃ L' st', K L' st' = some x ∧ ∀ (γ : Type) (K' : mx_L → List mx_V → Option γ) y, K' L' st' = some y → mx_la L a (fun z => K' L (op z)) = some y := by
    intro op h
    obtain ⟨z, e, h⟩ := hla _ _ _ h
    exact ⟨_, _, h, fun _ K' y h => by unfold mx_la; rw [e]; exact h⟩
  cases i with
  | iconst _ => exact ⟨_, _, h, fun _ K' y h => h⟩
  | bipush _ => exact ⟨_, _, h, fun _ K' y h => h⟩
  | sipush _ => exact ⟨_, _, h, fun _ K' y h => h⟩
  | ldc _ => cases a with
    | zero => exact ⟨_, _, h, fun _ K' y h => h⟩
    | succ a => exact ⟨_, _, h, fun _ K' y h => h⟩
  | ldc_w _ => exact ⟨_, _, h, fun _ K' y h => h⟩
  | ldc2_w _ => exact ⟨_, _, h, fun _ K' y h => h⟩
  | lconst _ => exact ⟨_, _, h, fun _ K' y h => h⟩
  | aconst_null => exact ⟨_, _, h, fun _ K' y h => h⟩
  | iload _ => exact loci (fun _ => L) (fun z => .inl z :: st) h
  | iload_n _ => exact loci (fun _ => L) (fun z => .inl z :: st) h
  | lload _ => exact locl (fun z => .inr (.inl z) :: st) h
  | lload_n _ => exact locl (fun z => .inr (.inl z) :: st) h
  | aload _ => exact loca (fun z => .inr (.inr z) :: st) h
  | aload_n _ => exact loca (fun z => .inr (.inr z) :: st) h
  | istore _ => exact onei (fun z => mx_s1 L a (.inl z)) (fun _ st => st) h
  | istore_n _ => exact onei (fun z => mx_s1 L a (.inl z)) (fun _ st => st) h
  | lstore _ => exact onel (fun z => mx_s2 L a (.inr (.inl z))) (fun _ st => st) h
  | lstore_n _ => exact onel (fun z => mx_s2 L a (.inr (.inl z))) (fun _ st => st) h
  | astore _ => exact onea (fun z => mx_s1 L a (.inr (.inr z))) (fun _ st => st) h
  | astore_n _ => exact onea (fun z => mx_s1 L a (.inr (.inr z))) (fun _ st => st) h
  | iinc _ _ => exact loci (fun z => mx_s1 L a (.inl (z + v))) (fun _ => st) h
  | iadd => exact two (fun x y => x + y) h
  | isub => exact two (fun x y => x - y) h
  | imul => exact two (fun x y => x * y) h
  | iand => exact two (fun x y => x &&& y) h
  | ior => exact two (fun x y => x ||| y) h
  | ixor => exact two (fun x y => x ^^^ y) h
  | ishl => exact two (fun x y => x <<< (y &&& 31)) h
  | ishr => exact two (fun x y => x >>> (y &&& 31)) h
  | iushr => exact two (fun x y => (x.toUInt32 >>> (y.toUInt32 &&& Int32.toUInt32 31)).toInt32) h
  | idiv => exact twod (fun x y => x / y) h
  | irem => exact twod (fun x y => x - x / y * y) h
  | ineg => exact onei (fun _ => L) (fun z st => .inl (-z) :: st) h
  | ladd => exact twol (fun x y => .inr (.inl (x + y))) h
  | lmul => exact twol (fun x y => .inr (.inl (x * y))) h
  | lcmp => exact twol (fun x y => .inl (lg_cmp x y)) h
  | i2l => exact onei (fun _ => L) (fun z st => .inr (.inl z.toInt64) :: st) h
  | l2i => exact onel (fun _ => L) (fun z st => .inl z.toInt32 :: st) h
  | i2b => exact onei (fun _ => L) (fun z st => .inl z.toInt8.toInt32 :: st) h
  | i2s => exact onei (fun _ => L) (fun z st => .inl z.toInt16.toInt32 :: st) h
  | dup =>
    match st, h with
    | .inl _ :: _, h => exact ⟨_, _, h, fun _ K' y h => h⟩
    | .inr (.inr _) :: _, h => exact ⟨_, _, h, fun _ K' y h => h⟩
    | .inr (.inl _) :: _, h => cases h
    | [], h => cases h
  | dup2 =>
    match st, h with
    | .inl _ :: .inr (.inr _) :: _, h => exact ⟨_, _, h, fun _ K' y h => h⟩
    | .inl _ :: .inl _ :: _, h => cases h
    | .inl _ :: .inr (.inl _) :: _, h => cases h
    | [.inl _], h => cases h
    | .inr _ :: _, h => cases h
    | [], h => cases h
  | pop =>
    match st, h with
    | .inl _ :: _, h => exact ⟨_, _, h, fun _ K' y h => h⟩
    | .inr (.inr _) :: _, h => exact ⟨_, _, h, fun _ K' y h => h⟩
    | .inr (.inl _) :: _, h => cases h
    | [], h => cases h
  | _ => cases h
end MxSup
end
section
section MxDen
variable {σ : Type} {cd : Nat → mx_T} {xl : Nat → Nat} {rc : Nat → List mx_V → σ → Bool} {hop : mx_H σ}
theorem mx_tk_sup {β : Type} : ∀ (n : Nat) {as st : List mx_V} {K : List mx_V → List mx_V → Option β} {x : β}, mx_tk n as st K = some x → ∃ as' st', K as' st' = some x ∧ ∀ (γ : Type) (K' : List mx_V → List mx_V → Option γ) y, K' as' st' = some y → mx_tk n as st K' = some y
  | 0, as, st, K, x, h => ⟨as, st, h, fun _ K' y h => h⟩
  | n + 1, as, [], K, x, h => by cases h
  | n + 1, as, v :: st, K, x, h => mx_tk_sup n (as := v :: as) (st := st) h
theorem mx_sw_cases {β : Type} (x : Int32) (K : Nat → β) (d : β) : ∀ (l : List (Int32 × Nat)), (mx_sw x K d l = d ∧ ∀ (γ : Type) (K' : Nat → γ) (d' : γ), mx_sw x K' d' l = d') ∨ ∃ t, mx_sw x K d l = K t ∧ ∀ (γ : Type) (K' : Nat → γ) (d' : γ), mx_sw x K' d' l = K' t
  | [] => Or.inl ⟨rfl, fun _ _ _ => rfl⟩
  | (y, t) :: l => by
    by_cases h : x = y
    · exact Or.inr ⟨t, by simp [mx_sw, h], fun _ K' d' => by simp [mx_sw, h]⟩
    · simp only [mx_sw, if_neg h]
      exact mx_sw_cases x K d l
theorem mx_br_cases {β : Type} (c : ClassFile.Cond) (x y : Int32) (A B : β) : (mx_br c x y A B = A ∧ ∀ (γ : Type) (A' B' : γ), mx_br c x y A' B' = A') ∨ (mx_br c x y A B = B ∧ ∀ (γ : Type) (A' B' : γ), mx_br c x y A' B' = B') := by
  cases c
  · by_cases h : x = y <;> simp [mx_br, h]
  · by_cases h : x = y <;> simp [mx_br, h]
  · by_cases h : x < y <;> simp [mx_br, h]
  · by_cases h : x < y <;> simp [mx_br, h]
  · by_cases h : y < x <;> simp [mx_br, h]
  · by_cases h : y < x <;> simp [mx_br, h]
theorem mx_1i_sup {β : Type} {st : List mx_V} {K : Int32 → List mx_V → Option β} {y : β} (h : mx_1i st K = some y) : ∃ z st', st = .inl z :: st' ∧ K z st' = some y := by
  match st, h with
  | .inl z :: st', h => exact ⟨z, st', rfl, h⟩
  | [], h => cases h
  | .inr _ :: _, h => cases h
theorem mx_1a_sup {β : Type} {st : List mx_V} {K : Option Nat → List mx_V → Option β} {y : β} (h : mx_1a st K = some y) : ∃ z st', st = .inr (.inr z) :: st' ∧ K z st' = some y := by
  match st, h with
  | .inr (.inr z) :: st', h => exact ⟨z, st', rfl, h⟩
  | [], h => cases h
  | .inl _ :: _, h => cases h
  | .inr (.inl _) :: _, h => cases h
/-- what a row's answer rests on: nothing, one going on, one going on behind a cut, or a call and a going on -/
def mx_sup (f g h : mx_F σ) (k : Nat) (x : Option mx_V × σ) (P : mx_F σ → mx_F σ → mx_F σ → Prop) : Prop :=
  (∀ f' g' h', P f' g' h') ∨ (∃ j L st s, f k j L st s = some x ∧ ∀ f' g' h', f' k j L st s = some x → P f' g' h') ∨ (∃ j L st s, g k j L st s = some x ∧ ∀ f' g' h', g' k j L st s = some x → P f' g' h') ∨
  ∃ a L0 s q j L st, h a 0 L0 [] s = some q ∧ f k j L (q.1.toList ++ st) q.2 = some x ∧ ∀ f' g' h', h' a 0 L0 [] s = some q → f' k j L (q.1.toList ++ st) q.2 = some x → P f' g' h'
theorem mx_b_sup (hH : mx_HP hop) {f g h : mx_F σ} {k : Nat} {r : mx_I} {L : mx_L} {st : List mx_V} {s : σ} {x : Option mx_V × σ} (e : mx_b xl rc hop f g h k r L st s = some x) :
    mx_sup f g h k x (fun f' g' h' => mx_b xl rc hop f' g' h' k r L st s = some x) := by
  obtain ⟨i, pc, nx, a, b, v, sw⟩ := r
  have viaHop : hop (i, pc, nx, a, b, v, sw) st s (fun st s => f k nx L st s) = some x → (∀ f' g' h', mx_b xl rc hop f' g' h' k (i, pc, nx, a, b, v, sw) L st s = hop (i, pc, nx, a, b, v, sw) st s (fun st s => f' k nx L st s)) → mx_sup f g h k x (fun f' g' h' => mx_b xl rc hop f' g' h' k (i, pc, nx, a, b, v, sw) L st s = some x) := by
    intro e e2
    obtain ⟨st', s', h1, h2⟩ := hH _ _ _ _ _ e
    exact Or.inr (Or.inl ⟨nx, L, st', s', h1, fun f' g' h' q => (e2 f' g' h').trans (h2 _ _ q)⟩)
  have viaCall : mx_tk b [] st (fun as st => cond (rc a as s && Nat.ble (mx_ct st) 8) ((h a 0 (mx_en (xl a) as) [] s).bind fun q => f k nx L (q.1.toList ++ st) q.2) none) = some x → (∀ f' g' h', mx_b xl rc hop f' g' h' k (i, pc, nx, a, b, v, sw) L st s = mx_tk b [] st (fun as st => cond (rc a as s && Nat.ble (mx_ct st) 8) ((h' a 0 (mx_en (xl a) as) [] s).bind fun q => f' k nx L (q.1.toList ++ st) q.2) none)) → mx_sup f g h k x (fun f' g' h' => mx_b xl rc hop f' g' h' k (i, pc, nx, a, b, v, sw) L st s = some x) := by
    intro e e2
    obtain ⟨as, st', h1, h2⟩ := mx_tk_sup _ e
    cases hg : (rc a as s && Nat.ble (mx_ct st') 8) with
    | false => rw [hg] at h1; cases h1
    | true =>
    rw [hg] at h1
    obtain ⟨q, h3, h4⟩ := Option.bind_eq_some_iff.mp h1
    exact Or.inr (Or.inr (Or.inr ⟨a, _, s, q, nx, L, st', h3, h4, fun f' g' h' q1 q2 => (e2 f' g' h').trans (h2 _ _ _ (by rw [hg]; show Option.bind _ _ = _; rw [q1]; exact q2))⟩))
  have viaPu : mx_pu i a v L st (fun L st => f k nx L st s) = some x → (∀ f' g' h', mx_b xl rc hop f' g' h' k (i, pc, nx, a, b, v, sw) L st s = mx_pu i a v L st (fun L st => f' k nx L st s)) → mx_sup f g h k x (fun f' g' h' => mx_b xl rc hop f' g' h' k (i, pc, nx, a, b, v, sw) L st s = some x) := by
    intro e e2
    obtain ⟨L', st', h1, h2⟩ := mx_pu_sup e
    exact Or.inr (Or.inl ⟨nx, L', st', s, h1, fun f' g' h' q => (e2 f' g' h').trans (h2 _ _ _ q)⟩)
  cases i with
  | nop => exact Or.inr (Or.inr (Or.inl ⟨_, _, _, _, e, fun f' g' h' q => q⟩))
  | goto _ => exact Or.inr (Or.inl ⟨_, _, _, _, e, fun f' g' h' q => q⟩)
  | ifCond c _ =>
    obtain ⟨z, st', e1, e2⟩ := mx_1i_sup e
    subst e1
    rcases mx_br_cases c z 0 (f k a L st' s) (f k nx L st' s) with ⟨h1, h2⟩ | ⟨h1, h2⟩
    · rw [h1] at e2
      exact Or.inr (Or.inl ⟨_, _, _, _, e2, fun f' g' h' q => (h2 _ _ _).trans q⟩)
    · rw [h1] at e2
      exact Or.inr (Or.inl ⟨_, _, _, _, e2, fun f' g' h' q => (h2 _ _ _).trans q⟩)
  | if_icmp c _ =>
    obtain ⟨z, st', e1, e3⟩ := mx_1i_sup e
    obtain ⟨w, st2, e2, e4⟩ := mx_1i_sup e3
    subst e2; subst e1
    rcases mx_br_cases c w z (f k a L st2 s) (f k nx L st2 s) with ⟨h1, h2⟩ | ⟨h1, h2⟩
    · rw [h1] at e4
      exact Or.inr (Or.inl ⟨_, _, _, _, e4, fun f' g' h' q => (h2 _ _ _).trans q⟩)
    · rw [h1] at e4
      exact Or.inr (Or.inl ⟨_, _, _, _, e4, fun f' g' h' q => (h2 _ _ _).trans q⟩)
  | ifnonnull _ =>
    obtain ⟨z, st', e1, e2⟩ := mx_1a_sup e
    subst e1
    cases z with
    | none => exact Or.inr (Or.inl ⟨_, _, _, _, e2, fun f' g' h' q => q⟩)
    | some z => exact Or.inr (Or.inl ⟨_, _, _, _, e2, fun f' g' h' q => q⟩)
  | tableswitch _ _ _ _ =>
    obtain ⟨z, st', e1, e2⟩ := mx_1i_sup e
    subst e1
    rcases mx_sw_cases z (fun t => f k t L st' s) (f k a L st' s) sw with ⟨h1, h2⟩ | ⟨t, h1, h2⟩
    · rw [h1] at e2
      exact Or.inr (Or.inl ⟨_, _, _, _, e2, fun f' g' h' q => (h2 _ _ _).trans q⟩)
    · rw [h1] at e2
      exact Or.inr (Or.inl ⟨_, _, _, _, e2, fun f' g' h' q => (h2 _ _ _).trans q⟩)
  | ireturn => exact Or.inl fun f' g' h' => e
  | areturn => exact Or.inl fun f' g' h' => e
  | return_ => exact Or.inl fun f' g' h' => e
  | invokevirtual _ => cases b with
    | zero => exact viaHop e (fun _ _ _ => rfl)
    | succ b => exact viaCall e (fun _ _ _ => rfl)
  | invokespecial _ => cases b with
    | zero => exact viaHop e (fun _ _ _ => rfl)
    | succ b => exact viaCall e (fun _ _ _ => rfl)
  | invokestatic _ => cases b with
    | zero => exact viaHop e (fun _ _ _ => rfl)
    | succ b => exact viaCall e (fun _ _ _ => rfl)
  | getfield _ => exact viaHop e (fun _ _ _ => rfl)
  | putfield _ => exact viaHop e (fun _ _ _ => rfl)
  | getstatic _ => exact viaHop e (fun _ _ _ => rfl)
  | iaload => exact viaHop e (fun _ _ _ => rfl)
  | iastore => exact viaHop e (fun _ _ _ => rfl)
  | baload => exact viaHop e (fun _ _ _ => rfl)
  | bastore => exact viaHop e (fun _ _ _ => rfl)
  | caload => exact viaHop e (fun _ _ _ => rfl)
  | castore => exact viaHop e (fun _ _ _ => rfl)
  | laload => exact viaHop e (fun _ _ _ => rfl)
  | lastore => exact viaHop e (fun _ _ _ => rfl)
  | aaload => exact viaHop e (fun _ _ _ => rfl)
  | aastore => exact viaHop e (fun _ _ _ => rfl)
  | arraylength => exact viaHop e (fun _ _ _ => rfl)
  | new _ => exact viaHop e (fun _ _ _ => rfl)
  | newarray _ => exact viaHop e (fun _ _ _ => rfl)
  | anewarray _ => exact viaHop e (fun _ _ _ => rfl)
  | _ => exact viaPu e (fun _ _ _ => rfl)
def mx_le (f f' : mx_F σ) : Prop := ∀ k j L st s x, f k j L st s = some x → f' k j L st s = some x
theorem mx_b_mono (hH : mx_HP hop) {f g h f' g' h' : mx_F σ} (hf : mx_le f f') (hg : mx_le g g') (hh : mx_le h h') {k : Nat} {r : mx_I} {L : mx_L} {st : List mx_V} {s : σ} {x : Option mx_V × σ} (e : mx_b xl rc hop f g h k r L st s = some x) : mx_b xl rc hop f' g' h' k r L st s = some x := by
  rcases mx_b_sup hH e with q | ⟨j, L1, st1, s1, q1, q2⟩ | ⟨j, L1, st1, s1, q1, q2⟩ | ⟨a, L0, s0, q, j, L1, st1, q1, q2, q3⟩
  · exact q _ _ _
  · exact q2 _ _ _ (hf _ _ _ _ _ _ q1)
  · exact q2 _ _ _ (hg _ _ _ _ _ _ q1)
  · exact q3 _ _ _ (hh _ _ _ _ _ _ q1) (hf _ _ _ _ _ _ q2)
theorem mx_ex_succ (hH : mx_HP hop) : ∀ n, mx_le (mx_ex cd xl rc hop n) (mx_ex cd xl rc hop (n + 1))
  | 0 => fun k j L st s x h => by cases h
  | n + 1 => fun k j L st s x h => mx_b_mono hH (mx_ex_succ hH n) (mx_ex_succ hH n) (mx_ex_succ hH n) h
theorem mx_ex_le (hH : mx_HP hop) {n m : Nat} (h : n ≤ m) : mx_le (mx_ex cd xl rc hop n) (mx_ex cd xl rc hop m) := by
  induction h with
  | refl => exact fun k j L st s x h => h
  | step _ ih => exact fun k j L st s x h => mx_ex_succ hH _ _ _ _ _ _ _ (ih _ _ _ _ _ _ h)
noncomputable def mx_den (cd : Nat → mx_T) (xl : Nat → Nat) (rc : Nat → List mx_V → σ → Bool) (hop : mx_H σ) : mx_F σ := fun k j L st s =>
  match Classical.propDecidable (∃ n x, mx_ex cd xl rc hop n k j L st s = some x) with
  | .isTrue h => some (h.choose_spec.choose)
  | .isFalse _ => none
theorem mx_den_ex {k j : Nat} {L : mx_L} {st : List mx_V} {s : σ} {x : Option mx_V × σ} (h : mx_den cd xl rc hop k j L st s = some x) : ∃ n, mx_ex cd xl rc hop n k j L st s = some x := by
  unfold mx_den at h
  split at h
  · next q e =>
    cases h
    exact ⟨_, q.choose_spec.choose_spec⟩
  · cases h
theorem mx_ex_den (hH : mx_HP hop) {n k j : Nat} {L : mx_L} {st : List mx_V} {s : σ} {x : Option mx_V × σ} (h : mx_ex cd xl rc hop n k j L st s = some x) : mx_den cd xl rc hop k j L st s = some x := by
  unfold mx_den
  split
  · next q e =>
    have h2 := q.choose_spec.choose_spec
    rcases Nat.le_total n q.choose with hl | hl
    · have h3 := mx_ex_le hH hl _ _ _ _ _ _ h
      rw [h2] at h3
      exact h3
    · have h3 := mx_ex_le hH hl _ _ _ _ _ _ h2
      rw [h] at h3
      exact h3.symm
  · next q e => exact absurd ⟨n, x, h⟩ q
/-- the machine without fuel is what its row says -/
theorem mx_den_b (hH : mx_HP hop) (k j : Nat) (L : mx_L) (st : List mx_V) (s : σ) : mx_den cd xl rc hop k j L st s = mx_b xl rc hop (mx_den cd xl rc hop) (mx_den cd xl rc hop) (mx_den cd xl rc hop) k (mx_get (cd k) j) L st s := by
  have hle : ∀ n, mx_le (mx_ex cd xl rc hop n) (mx_den cd xl rc hop) := fun n k j L st s x h => mx_ex_den hH h
  apply Option.ext
  intro x
  constructor
  · intro h
    obtain ⟨n, h⟩ := mx_den_ex h
    cases n with
    | zero => cases h
    | succ n => exact mx_b_mono hH (hle n) (hle n) (hle n) h
  · intro e
    rcases mx_b_sup hH e with q | ⟨j1, L1, st1, s1, q1, q2⟩ | ⟨j1, L1, st1, s1, q1, q2⟩ | ⟨a, L0, s0, q, j1, L1, st1, q1, q2, q3⟩
    · exact mx_ex_den hH (n := 1) (q _ _ _)
    · obtain ⟨n, hn⟩ := mx_den_ex q1
      exact mx_ex_den hH (n := n + 1) (q2 _ _ _ hn)
    · obtain ⟨n, hn⟩ := mx_den_ex q1
      exact mx_ex_den hH (n := n + 1) (q2 _ _ _ hn)
    · obtain ⟨n, hn⟩ := mx_den_ex q1
      obtain ⟨m, hm⟩ := mx_den_ex q2
      exact mx_ex_den hH (n := max n m + 1) (q3 _ _ _ (mx_ex_le hH (Nat.le_max_left n m) _ _ _ _ _ _ hn) (mx_ex_le hH (Nat.le_max_right n m) _ _ _ _ _ _ hm))
/-- evaluation up to a cut, a call, an end -/
noncomputable def mx_ev (cd : Nat → mx_T) (xl : Nat → Nat) (rc : Nat → List mx_V → σ → Bool) (hop : mx_H σ) (d : mx_F σ) : Nat → mx_F σ
  | 0 => d
  | n + 1 => fun k j L st s => mx_b xl rc hop (mx_ev cd xl rc hop d n) d d k (mx_get (cd k) j) L st s
theorem mx_den_ev (hH : mx_HP hop) : ∀ n, mx_den cd xl rc hop = mx_ev cd xl rc hop (mx_den cd xl rc hop) n
  | 0 => rfl
  | n + 1 => by
    funext k j L st s
    rw [mx_den_b hH]
    show _ = mx_b xl rc hop (mx_ev cd xl rc hop (mx_den cd xl rc hop) n) _ _ k (mx_get (cd k) j) L st s
    rw [← mx_den_ev hH n]
theorem mx_den_at (hH : mx_HP hop) (n : Nat) {k j : Nat} {L : mx_L} {st : List mx_V} {s : σ} {y : Option (Option mx_V × σ)} (h : mx_ev cd xl rc hop (mx_den cd xl rc hop) n k j L st s = y) : mx_den cd xl rc hop k j L st s = y := by
  rw [← h, ← mx_den_ev hH n]
end MxDen
end
