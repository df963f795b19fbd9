section
/-! ===== a small machine: values, rows of code, what they do ===== -/
abbrev mx_V : Type := Int32 ⊕ (Int64 ⊕ Option Nat)
abbrev mx_L : Type := List (Option mx_V)
/-- an instruction, its pc, the next row, two numbers, a constant, the rows of a switch -/
abbrev mx_I : Type := Instr × Nat × Nat × Nat × Nat × Int32 × List (Int32 × Nat)
abbrev mx_T : Type := Lean.RArray mx_I
noncomputable def mx_get (t : mx_T) (n : Nat) : mx_I := Lean.RArray.rec (fun x => x) (fun p _ _ l r => cond (Nat.blt n p) l r) t
noncomputable def mx_all (q : mx_I → Bool) (t : mx_T) : Bool := Lean.RArray.rec (fun x => q x) (fun _ _ _ l r => l && r) t
theorem mx_all_get {q : mx_I → Bool} (t : mx_T) (n : Nat) (h : mx_all q t = true) : q (mx_get t n) = true := by
  induction t with
  | leaf x => exact h
  | branch p l r hl hr =>
    have h2 : (mx_all q l && mx_all q r) = true := h
    rw [Bool.and_eq_true] at h2
    show q (cond (Nat.blt n p) (mx_get l n) (mx_get r n)) = true
    cases Nat.blt n p
    · exact hr h2.2
    · exact hl h2.1
def mx_at : mx_L → Nat → Option mx_V
  | [], _ => none
  | x :: _, 0 => x
  | _ :: L, n + 1 => mx_at L n
/-- a long whose second half goes is gone -/
def mx_kl (L : mx_L) (i : Nat) : mx_L := match i with
  | 0 => L
  | i + 1 => match mx_at L i with
    | some (.inr (.inl _)) => L.set i none
    | _ => L
def mx_s1 (L : mx_L) (i : Nat) (v : mx_V) : mx_L := (mx_kl L i).set i (some v)
def mx_s2 (L : mx_L) (i : Nat) (v : mx_V) : mx_L := ((mx_kl L i).set i (some v)).set (i + 1) none
/-- only the places of a set are kept -/
def mx_mk : Nat → mx_L → mx_L
  | _, [] => []
  | m, x :: L => (if m % 2 = 1 then x else none) :: mx_mk (m / 2) L
/-- a method's locals as it begins -/
def mx_en : Nat → List mx_V → mx_L
  | n, [] => List.replicate n none
  | n, .inl x :: l => some (.inl x) :: mx_en (n - 1) l
  | n, .inr (.inl x) :: l => some (.inr (.inl x)) :: none :: mx_en (n - 2) l
  | n, .inr (.inr x) :: l => some (.inr (.inr x)) :: mx_en (n - 1) l
section MxPure
variable {β : Type}
def mx_li (L : mx_L) (a : Nat) (K : Int32 → Option β) : Option β := match mx_at L a with
  | some (.inl x) => K x
  | _ => none
def mx_ll (L : mx_L) (a : Nat) (K : Int64 → Option β) : Option β := match mx_at L a with
  | some (.inr (.inl x)) => K x
  | _ => none
def mx_la (L : mx_L) (a : Nat) (K : Option Nat → Option β) : Option β := match mx_at L a with
  | some (.inr (.inr x)) => K x
  | _ => none
def mx_1i (st : List mx_V) (K : Int32 → List mx_V → Option β) : Option β := match st with
  | .inl x :: st => K x st
  | _ => none
def mx_1l (st : List mx_V) (K : Int64 → List mx_V → Option β) : Option β := match st with
  | .inr (.inl x) :: st => K x st
  | _ => none
def mx_1a (st : List mx_V) (K : Option Nat → List mx_V → Option β) : Option β := match st with
  | .inr (.inr x) :: st => K x st
  | _ => none
/-- what touches the locals and the stack alone, and goes on behind itself -/
def mx_pu (i : Instr) (a : Nat) (v : Int32) (L : mx_L) (st : List mx_V) (K : mx_L → List mx_V → Option β) : Option β := match i with
  | .iconst _ => K L (.inl v :: st)
  | .bipush _ => K L (.inl v :: st)
  | .sipush _ => K L (.inl v :: st)
  | .ldc _ => match a with
    | 0 => K L (.inl v :: st)
    | a + 1 => K L (.inr (.inr (some (a + 1))) :: st)
  | .ldc_w _ => K L (.inl v :: st)
  | .ldc2_w _ => K L (.inr (.inl v.toInt64) :: st)
  | .lconst _ => K L (.inr (.inl v.toInt64) :: st)
  | .aconst_null => K L (.inr (.inr none) :: st)
  | .iload _ => mx_li L a fun x => K L (.inl x :: st)
  | .iload_n _ => mx_li L a fun x => K L (.inl x :: st)
  | .lload _ => mx_ll L a fun x => K L (.inr (.inl x) :: st)
  | .lload_n _ => mx_ll L a fun x => K L (.inr (.inl x) :: st)
  | .aload _ => mx_la L a fun x => K L (.inr (.inr x) :: st)
  | .aload_n _ => mx_la L a fun x => K L (.inr (.inr x) :: st)
  | .istore _ => mx_1i st fun x st => K (mx_s1 L a (.inl x)) st
  | .istore_n _ => mx_1i st fun x st => K (mx_s1 L a (.inl x)) st
  | .lstore _ => mx_1l st fun x st => K (mx_s2 L a (.inr (.inl x))) st
  | .lstore_n _ => mx_1l st fun x st => K (mx_s2 L a (.inr (.inl x))) st
  | .astore _ => mx_1a st fun x st => K (mx_s1 L a (.inr (.inr x))) st
  | .astore_n _ => mx_1a st fun x st => K (mx_s1 L a (.inr (.inr x))) st
  | .iinc _ _ => mx_li L a fun x => K (mx_s1 L a (.inl (x + v))) st
  | .iadd => mx_1i st fun y st => mx_1i st fun x st => K L (.inl (x + y) :: st)
  | .isub => mx_1i st fun y st => mx_1i st fun x st => K L (.inl (x - y) :: st)
  | .imul => mx_1i st fun y st => mx_1i st fun x st => K L (.inl (x * y) :: st)
  | .iand => mx_1i st fun y st => mx_1i st fun x st => K L (.inl (x &&& y) :: st)
  | .ior => mx_1i st fun y st => mx_1i st fun x st => K L (.inl (x ||| y) :: st)
  | .ixor => mx_1i st fun y st => mx_1i st fun x st => K L (.inl (x ^^^ y) :: st)
  | .ishl => mx_1i st fun y st => mx_1i st fun x st => K L (.inl (x <<< (y &&& 31)) :: st)
  | .ishr => mx_1i st fun y st => mx_1i st fun x st => K L (.inl (x >>> (y &&& 31)) :: st)
  | .iushr => mx_1i st fun y st => mx_1i st fun x st => K L (.inl (x.toUInt32 >>> (y.toUInt32 &&& Int32.toUInt32 31)).toInt32 :: st)
  | .idiv => mx_1i st fun y st => mx_1i st fun x st => if y = 0 then none else K L (.inl (x / y) :: st)
  | .irem => mx_1i st fun y st => mx_1i st fun x st => if y = 0 then none else K L (.inl (x - x / y * y) :: st)
  | .ineg => mx_1i st fun x st => K L (.inl (-x) :: st)
  | .ladd => mx_1l st fun y st => mx_1l st fun x st => K L (.inr (.inl (x + y)) :: st)
  | .lmul => mx_1l st fun y st => mx_1l st fun x st => K L (.inr (.inl (x * y)) :: st)
  | .lcmp => mx_1l st fun y st => mx_1l st fun x st => K L (.inl (lg_cmp x y) :: st)
  | .i2l => mx_1i st fun x st => K L (.inr (.inl x.toInt64) :: st)
  | .l2i => mx_1l st fun x st => K L (.inl x.toInt32 :: st)
  | .i2b => mx_1i st fun x st => K L (.inl x.toInt8.toInt32 :: st)
  | .i2s => mx_1i st fun x st => K L (.inl x.toInt16.toInt32 :: st)
  | .i2c => mx_1i st fun x st => K L (.inl (x.toUInt32 % 65536).toInt32 :: st)
  | .dup => match st with
    | .inl x :: st => K L (.inl x :: .inl x :: st)
    | .inr (.inr x) :: st => K L (.inr (.inr x) :: .inr (.inr x) :: st)
    | _ => none
  | .dup2 => match st with
    | .inl y :: .inr (.inr x) :: st => K L (.inl y :: .inr (.inr x) :: .inl y :: .inr (.inr x) :: st)
    | _ => none
  | .pop => match st with
    | .inl _ :: st => K L st
    | .inr (.inr _) :: st => K L st
    | _ => none
  | _ => none
def mx_br (c : ClassFile.Cond) (x y : Int32) (A B : β) : β := match c with
  | .eq => if x = y then A else B
  | .ne => if x = y then B else A
  | .lt => if x < y then A else B
  | .ge => if x < y then B else A
  | .gt => if y < x then A else B
  | .le => if y < x then B else A
def mx_sw (x : Int32) (K : Nat → β) (d : β) : List (Int32 × Nat) → β
  | [] => d
  | (y, t) :: l => if x = y then K t else mx_sw x K d l
/-- so many arguments off the stack -/
def mx_tk : Nat → List mx_V → List mx_V → (List mx_V → List mx_V → Option β) → Option β
  | 0, as, st, K => K as st
  | _ + 1, _, [], _ => none
  | n + 1, as, x :: st, K => mx_tk n (x :: as) st K
def mx_rt (b : Nat) (x : Int32) (r : Option β) : Option β := match b with
  | 0 => r
  | 1 => if x = 0 then r else if x = 1 then r else none
  | 2 => if x.toUInt32.toUInt16.toUInt32.toInt32 = x then r else none
  | _ => if x.toInt8.toInt32 = x then r else none
end MxPure
abbrev mx_F (σ : Type) : Type := Nat → Nat → mx_L → List mx_V → σ → Option (Option mx_V × σ)
abbrev mx_H (σ : Type) : Type := mx_I → List mx_V → σ → (List mx_V → σ → Option (Option mx_V × σ)) → Option (Option mx_V × σ)
/-- the words of a stack -/
def mx_ct : List mx_V → Nat
  | [] => 0
  | .inr (.inl _) :: l => mx_ct l + 2
  | _ :: l => mx_ct l + 1
/-- one row: f goes on, g goes on behind a cut, h is a call -/
def mx_b {σ : Type} (xl : Nat → Nat) (rc : Nat → List mx_V → σ → Bool) (hop : mx_H σ) (f g h : mx_F σ) (k : Nat) (r : mx_I) (L : mx_L) (st : List mx_V) (s : σ) : Option (Option mx_V × σ) :=
  match r with
  | (i, pc, nx, a, b, v, sw) => match i with
    | .nop => g k nx (mx_mk a L) st s
    | .goto _ => f k a L st s
    | .ifCond c _ => mx_1i st fun x st => mx_br c x 0 (f k a L st s) (f k nx L st s)
    | .if_icmp c _ => mx_1i st fun y st => mx_1i st fun x st => mx_br c x y (f k a L st s) (f k nx L st s)
    | .ifnonnull _ => mx_1a st fun x st => match x with
      | none => f k nx L st s
      | some _ => f k a L st s
    | .tableswitch _ _ _ _ => mx_1i st fun x st => mx_sw x (fun t => f k t L st s) (f k a L st s) sw
    | .ireturn => match st with
      | [.inl x] => mx_rt b x (some (some (.inl x), s))
      | _ => none
    | .areturn => match st with
      | [.inr (.inr x)] => some (some (.inr (.inr x)), s)
      | _ => none
    | .return_ => match st with
      | [] => some (none, s)
      | _ => none
    | .invokevirtual _ => match b with
      | 0 => hop (i, pc, nx, a, b, v, sw) st s (fun st s => f k nx L st s)
      | b + 1 => mx_tk (b + 1) [] st fun as st => cond (rc a as s && Nat.ble (mx_ct st) 8) ((h a 0 (mx_en (xl a) as) [] s).bind fun q => f k nx L (q.1.toList ++ st) q.2) none
    | .invokespecial _ => match b with
      | 0 => hop (i, pc, nx, a, b, v, sw) st s (fun st s => f k nx L st s)
      | b + 1 => mx_tk (b + 1) [] st fun as st => cond (rc a as s && Nat.ble (mx_ct st) 8) ((h a 0 (mx_en (xl a) as) [] s).bind fun q => f k nx L (q.1.toList ++ st) q.2) none
    | .invokestatic _ => match b with
      | 0 => hop (i, pc, nx, a, b, v, sw) st s (fun st s => f k nx L st s)
      | b + 1 => mx_tk (b + 1) [] st fun as st => cond (rc a as s && Nat.ble (mx_ct st) 8) ((h a 0 (mx_en (xl a) as) [] s).bind fun q => f k nx L (q.1.toList ++ st) q.2) none
    | .getfield _ => hop (i, pc, nx, a, b, v, sw) st s (fun st s => f k nx L st s)
    | .putfield _ => hop (i, pc, nx, a, b, v, sw) st s (fun st s => f k nx L st s)
    | .getstatic _ => hop (i, pc, nx, a, b, v, sw) st s (fun st s => f k nx L st s)
    | .iaload => hop (i, pc, nx, a, b, v, sw) st s (fun st s => f k nx L st s)
    | .iastore => hop (i, pc, nx, a, b, v, sw) st s (fun st s => f k nx L st s)
    | .baload => hop (i, pc, nx, a, b, v, sw) st s (fun st s => f k nx L st s)
    | .bastore => hop (i, pc, nx, a, b, v, sw) st s (fun st s => f k nx L st s)
    | .caload => hop (i, pc, nx, a, b, v, sw) st s (fun st s => f k nx L st s)
    | .castore => hop (i, pc, nx, a, b, v, sw) st s (fun st s => f k nx L st s)
    | .laload => hop (i, pc, nx, a, b, v, sw) st s (fun st s => f k nx L st s)
    | .lastore => hop (i, pc, nx, a, b, v, sw) st s (fun st s => f k nx L st s)
    | .aaload => hop (i, pc, nx, a, b, v, sw) st s (fun st s => f k nx L st s)
    | .aastore => hop (i, pc, nx, a, b, v, sw) st s (fun st s => f k nx L st s)
    | .arraylength => hop (i, pc, nx, a, b, v, sw) st s (fun st s => f k nx L st s)
    | .new _ => hop (i, pc, nx, a, b, v, sw) st s (fun st s => f k nx L st s)
    | .newarray _ => hop (i, pc, nx, a, b, v, sw) st s (fun st s => f k nx L st s)
    | .anewarray _ => hop (i, pc, nx, a, b, v, sw) st s (fun st s => f k nx L st s)
    | i => mx_pu i a v L st (fun L st => f k nx L st s)
noncomputable def mx_ex {σ : Type} (cd : Nat → mx_T) (xl : Nat → Nat) (rc : Nat → List mx_V → σ → Bool) (hop : mx_H σ) : Nat → mx_F σ
  | 0 => fun _ _ _ _ _ => none
  | n + 1 => fun k j L st s => mx_b xl rc hop (mx_ex cd xl rc hop n) (mx_ex cd xl rc hop n) (mx_ex cd xl rc hop n) k (mx_get (cd k) j) L st s
end
section
/-! ===== what a row rests on; the machine without fuel; evaluation up to a cut ===== -/
section MxSup
variable {σ : Type} {xl : Nat → Nat} {hop : mx_H σ}
def mx_HP (hop : mx_H σ) : Prop := ∀ r st s K x, hop r st s K = some x → ∃ st' s', K st' s' = some x ∧ ∀ K' y, K' st' s' = some y → hop r st s K' = some y
theorem mx_pu_sup {β : Type} {i : Instr} {a : Nat} {v : Int32} {L : mx_L} {st : List mx_V} {K : mx_L → List mx_V → Option β} {x : β} (h : mx_pu i a v L st K = some x) :
    ∃ L' st', K L' st' = some x ∧ ∀ (γ : Type) (K' : mx_L → List mx_V → Option γ) y, K' L' st' = some y → mx_pu i a v L st K' = some y := by
  have h1i : ∀ (γ : Type) (st : List mx_V) (K : Int32 → List mx_V → Option γ) (y : γ), mx_1i st K = some y → ∃ z st', st = .inl z :: st' ∧ K z st' = some y := by
    intro γ st K y h
    match st, h with
    | .inl z :: st', h => exact ⟨z, st', rfl, h⟩
    | [], h => cases h
    | .inr _ :: _, h => cases h
  have h1l : ∀ (γ : Type) (st : List mx_V) (K : Int64 → List mx_V → Option γ) (y : γ), mx_1l st K = some y → ∃ z st', st = .inr (.inl z) :: st' ∧ K z st' = some y := by
    intro γ st K y h
    match st, h with
    | .inr (.inl z) :: st', h => exact ⟨z, st', rfl, h⟩
    | [], h => cases h
    | .inl _ :: _, h => cases h
    | .inr (.inr _) :: _, h => cases h
  have h1a : ∀ (γ : Type) (st : List mx_V) (K : Option Nat → List mx_V → Option γ) (y : γ), mx_1a st K = some y → ∃ z st', st = .inr (.inr z) :: st' ∧ K z st' = some y := by
    intro γ st K y h
    match st, h with
    | .inr (.inr z) :: st', h => exact ⟨z, st', rfl, h⟩
    | [], h => cases h
    | .inl _ :: _, h => cases h
    | .inr (.inl _) :: _, h => cases h
  have hli : ∀ (γ : Type) (K : Int32 → Option γ) (y : γ), mx_li L a K = some y → ∃ z, mx_at L a = some (.inl z) ∧ K z = some y := by
    intro γ K y h
    unfold mx_li at h
    split at h
    · next z e => exact ⟨z, e, h⟩
    · cases h
  have hll : ∀ (γ : Type) (K : Int64 → Option γ) (y : γ), mx_ll L a K = some y → ∃ z, mx_at L a = some (.inr (.inl z)) ∧ K z = some y := by
    intro γ K y h
    unfold mx_ll at h
    split at h
    · next z e => exact ⟨z, e, h⟩
    · cases h
  have hla : ∀ (γ : Type) (K : Option Nat → Option γ) (y : γ), mx_la L a K = some y → ∃ z, mx_at L a = some (.inr (.inr z)) ∧ K z = some y := by
    intro γ K y h
    unfold mx_la at h
    split at h
    · next z e => exact ⟨z, e, h⟩
    · cases h
  have two : ∀ (op : Int32 → Int32 → Int32), mx_1i st (fun y st => mx_1i st fun x st => K L (.inl (op x y) :: st)) = some x → ∃ L' st', K L' st' = some x ∧ ∀ (γ : Type) (K' : mx_L → List mx_V → Option γ) y, K' L' st' = some y → mx_1i st (fun y st => mx_1i st fun x st => K' L (.inl (op x y) :: st)) = some y := by
    intro op h
    obtain ⟨y, s1, e1, h⟩ := h1i _ _ _ _ h
    obtain ⟨z, s2, e2, h⟩ := h1i _ _ _ _ h
    subst e2; subst e1
    exact ⟨_, _, h, fun _ K' y h => h⟩
  have twod : ∀ (op : Int32 → Int32 → Int32), mx_1i st (fun y st => mx_1i st fun x st => if y = 0 then none else K L (.inl (op x y) :: st)) = some x → ∃ L' st', K L' st' = some x ∧ ∀ (γ : Type) (K' : mx_L → List mx_V → Option γ) y, K' L' st' = some y → mx_1i st (fun y st => mx_1i st fun x st => if y = 0 then none else K' L (.inl (op x y) :: st)) = some y := by
    intro op h
    obtain ⟨y, s1, e1, h2⟩ := h1i _ _ _ _ h
    obtain ⟨z, s2, e2, h3⟩ := h1i _ _ _ _ h2
    clear h h2
    subst e2; subst e1
    by_cases hy : y = 0
    · rw [if_pos hy] at h3; cases h3
    · rw [if_neg hy] at h3
      exact ⟨_, _, h3, fun _ K' w h => by show (if y = 0 then none else _) = _; rw [if_neg hy]; exact h⟩
  have twol : ∀ (op : Int64 → Int64 → mx_V), mx_1l st (fun y st => mx_1l st fun x st => K L (op x y :: st)) = some x → ∃ L' st', K L' st' = some x ∧ ∀ (γ : Type) (K' : mx_L → List mx_V → Option γ) y, K' L' st' = some y → mx_1l st (fun y st => mx_1l st fun x st => K' L (op x y :: st)) = some y := by
    intro op h
    obtain ⟨y, s1, e1, h⟩ := h1l _ _ _ _ h
    obtain ⟨z, s2, e2, h⟩ := h1l _ _ _ _ h
    subst e2; subst e1
    exact ⟨_, _, h, fun _ K' y h => h⟩
  have onei : ∀ (L2 : Int32 → mx_L) (op : Int32 → List mx_V → List mx_V), mx_1i st (fun z st => K (L2 z) (op z st)) = some x → ∃ L' st', K L' st' = some x ∧ ∀ (γ : Type) (K' : mx_L → List mx_V → Option γ) y, K' L' st' = some y → mx_1i st (fun z st => K' (L2 z) (op z st)) = some y := by
    intro L2 op h
    obtain ⟨y, s1, e1, h⟩ := h1i _ _ _ _ h
    subst e1
    exact ⟨_, _, h, fun _ K' y h => h⟩
  have onel : ∀ (L2 : Int64 → mx_L) (op : Int64 → List mx_V → List mx_V), mx_1l st (fun z st => K (L2 z) (op z st)) = some x → ∃ L' st', K L' st' = some x ∧ ∀ (γ : Type) (K' : mx_L → List mx_V → Option γ) y, K' L' st' = some y → mx_1l st (fun z st => K' (L2 z) (op z st)) = some y := by
    intro L2 op h
    obtain ⟨y, s1, e1, h⟩ := h1l _ _ _ _ h
    subst e1
    exact ⟨_, _, h, fun _ K' y h => h⟩
  have onea : ∀ (L2 : Option Nat → mx_L) (op : Option Nat → List mx_V → List mx_V), mx_1a st (fun z st => K (L2 z) (op z st)) = some x → ∃ L' st', K L' st' = some x ∧ ∀ (γ : Type) (K' : mx_L → List mx_V → Option γ) y, K' L' st' = some y → mx_1a st (fun z st => K' (L2 z) (op z st)) = some y := by
    intro L2 op h
    obtain ⟨y, s1, e1, h⟩ := h1a _ _ _ _ h
    subst e1
    exact ⟨_, _, h, fun _ K' y h => h⟩
  have loci : ∀ (L2 : Int32 → mx_L) (op : Int32 → List mx_V), mx_li L a (fun z => K (L2 z) (op z)) = some x → ∃ L' st', K L' st' = some x ∧ ∀ (γ : Type) (K' : mx_L → List mx_V → Option γ) y, K' L' st' = some y → mx_li L a (fun z => K' (L2 z) (op z)) = some y := by
    intro L2 op h
    obtain ⟨z, e, h⟩ := hli _ _ _ h
    exact ⟨_, _, h, fun _ K' y h => by unfold mx_li; rw [e]; exact h⟩
  have locl : ∀ (op : Int64 → List mx_V), mx_ll L a (fun z => K L (op z)) = some x → ∃ L' st', K L' st' = some x ∧ ∀ (γ : Type) (K' : mx_L → List mx_V → Option γ) y, K' L' st' = some y → mx_ll L a (fun z => K' L (op z)) = some y := by
    intro op h
    obtain ⟨z, e, h⟩ := hll _ _ _ h
    exact ⟨_, _, h, fun _ K' y h => by unfold mx_ll; rw [e]; exact h⟩
  have loca : ∀ (op : Option Nat → List mx_V), mx_la L a (fun z => K L (op z)) = some x → ∃ L' st', K L' st' = some x ∧ ∀ (γ : Type) (K' : mx_L → List mx_V → Option γ) y, K' L' st' = some y → mx_la L a (fun z => K' L (op z)) = some y := by
    intro op h
    obtain ⟨z, e, h⟩ := hla _ _ _ h
    exact ⟨_, _, h, fun _ K' y h => by unfold mx_la; rw [e]; exact h⟩
  cases i with
  | iconst _ => exact ⟨_, _, h, fun _ K' y h => h⟩
  | bipush _ => exact ⟨_, _, h, fun _ K' y h => h⟩
  | sipush _ => exact ⟨_, _, h, fun _ K' y h => h⟩
  | ldc _ => cases a with
    | zero => exact ⟨_, _, h, fun _ K' y h => h⟩
    | succ a => exact ⟨_, _, h, fun _ K' y h => h⟩
  | ldc_w _ => exact ⟨_, _, h, fun _ K' y h => h⟩
  | ldc2_w _ => exact ⟨_, _, h, fun _ K' y h => h⟩
  | lconst _ => exact ⟨_, _, h, fun _ K' y h => h⟩
  | aconst_null => exact ⟨_, _, h, fun _ K' y h => h⟩
  | iload _ => exact loci (fun _ => L) (fun z => .inl z :: st) h
  | iload_n _ => exact loci (fun _ => L) (fun z => .inl z :: st) h
  | lload _ => exact locl (fun z => .inr (.inl z) :: st) h
  | lload_n _ => exact locl (fun z => .inr (.inl z) :: st) h
  | aload _ => exact loca (fun z => .inr (.inr z) :: st) h
  | aload_n _ => exact loca (fun z => .inr (.inr z) :: st) h
  | istore _ => exact onei (fun z => mx_s1 L a (.inl z)) (fun _ st => st) h
  | istore_n _ => exact onei (fun z => mx_s1 L a (.inl z)) (fun _ st => st) h
  | lstore _ => exact onel (fun z => mx_s2 L a (.inr (.inl z))) (fun _ st => st) h
  | lstore_n _ => exact onel (fun z => mx_s2 L a (.inr (.inl z))) (fun _ st => st) h
  | astore _ => exact onea (fun z => mx_s1 L a (.inr (.inr z))) (fun _ st => st) h
  | astore_n _ => exact onea (fun z => mx_s1 L a (.inr (.inr z))) (fun _ st => st) h
  | iinc _ _ => exact loci (fun z => mx_s1 L a (.inl (z + v))) (fun _ => st) h
  | iadd => exact two (fun x y => x + y) h
  | isub => exact two (fun x y => x - y) h
  | imul => exact two (fun x y => x * y) h
  | iand => exact two (fun x y => x &&& y) h
  | ior => exact two (fun x y => x ||| y) h
  | ixor => exact two (fun x y => x ^^^ y) h
  | ishl => exact two (fun x y => x <<< (y &&& 31)) h
  | ishr => exact two (fun x y => x >>> (y &&& 31)) h
  | iushr => exact two (fun x y => (x.toUInt32 >>> (y.toUInt32 &&& Int32.toUInt32 31)).toInt32) h
  | idiv => exact twod (fun x y => x / y) h
  | irem => exact twod (fun x y => x - x / y * y) h
  | ineg => exact onei (fun _ => L) (fun z st => .inl (-z) :: st) h
  | ladd => exact twol (fun x y => .inr (.inl (x + y))) h
  | lmul => exact twol (fun x y => .inr (.inl (x * y))) h
  | lcmp => exact twol (fun x y => .inl (lg_cmp x y)) h
  | i2l => exact onei (fun _ => L) (fun z st => .inr (.inl z.toInt64) :: st) h
  | l2i => exact onel (fun _ => L) (fun z st => .inl z.toInt32 :: st) h
  | i2b => exact onei (fun _ => L) (fun z st => .inl z.toInt8.toInt32 :: st) h
  | i2s => exact onei (fun _ => L) (fun z st => .inl z.toInt16.toInt32 :: st) h
  | i2c => exact onei (fun _ => L) (fun z st => .inl (z.toUInt32 % 65536).toInt32 :: st) h
  | dup =>
    match st, h with
    | .inl _ :: _, h => exact ⟨_, _, h, fun _ K' y h => h⟩
    | .inr (.inr _) :: _, h => exact ⟨_, _, h, fun _ K' y h => h⟩
    | .inr (.inl _) :: _, h => cases h
    | [], h => cases h
  | dup2 =>
    match st, h with
    | .inl _ :: .inr (.inr _) :: _, h => exact ⟨_, _, h, fun _ K' y h => h⟩
    | .inl _ :: .inl _ :: _, h => cases h
    | .inl _ :: .inr (.inl _) :: _, h => cases h
    | [.inl _], h => cases h
    | .inr _ :: _, h => cases h
    | [], h => cases h
  | pop =>
    match st, h with
    | .inl _ :: _, h => exact ⟨_, _, h, fun _ K' y h => h⟩
    | .inr (.inr _) :: _, h => exact ⟨_, _, h, fun _ K' y h => h⟩
    | .inr (.inl _) :: _, h => cases h
    | [], h => cases h
  | _ => cases h
end MxSup
end
section
section MxDen
variable {σ : Type} {cd : Nat → mx_T} {xl : Nat → Nat} {rc : Nat → List mx_V → σ → Bool} {hop : mx_H σ}
theorem mx_tk_sup {β : Type} : ∀ (n : Nat) {as st : List mx_V} {K : List mx_V → List mx_V → Option β} {x : β}, mx_tk n as st K = some x → ∃ as' st', K as' st' = some x ∧ ∀ (γ : Type) (K' : List mx_V → List mx_V → Option γ) y, K' as' st' = some y → mx_tk n as st K' = some y
  | 0, as, st, K, x, h => ⟨as, st, h, fun _ K' y h => h⟩
  | n + 1, as, [], K, x, h => by cases h
  | n + 1, as, v :: st, K, x, h => mx_tk_sup n (as := v :: as) (st := st) h
theorem mx_sw_cases {β : Type} (x : Int32) (K : Nat → β) (d : β) : ∀ (l : List (Int32 × Nat)), (mx_sw x K d l = d ∧ ∀ (γ : Type) (K' : Nat → γ) (d' : γ), mx_sw x K' d' l = d') ∨ ∃ t, mx_sw x K d l = K t ∧ ∀ (γ : Type) (K' : Nat → γ) (d' : γ), mx_sw x K' d' l = K' t
  | [] => Or.inl ⟨rfl, fun _ _ _ => rfl⟩
  | (y, t) :: l => by
    by_cases h : x = y
    · exact Or.inr ⟨t, by simp [mx_sw, h], fun _ K' d' => by simp [mx_sw, h]⟩
    · simp only [mx_sw, if_neg h]
      exact mx_sw_cases x K d l
theorem mx_br_cases {β : Type} (c : ClassFile.Cond) (x y : Int32) (A B : β) : (mx_br c x y A B = A ∧ ∀ (γ : Type) (A' B' : γ), mx_br c x y A' B' = A') ∨ (mx_br c x y A B = B ∧ ∀ (γ : Type) (A' B' : γ), mx_br c x y A' B' = B') := by
  cases c
  · by_cases h : x = y <;> simp [mx_br, h]
  · by_cases h : x = y <;> simp [mx_br, h]
  · by_cases h : x < y <;> simp [mx_br, h]
  · by_cases h : x < y <;> simp [mx_br, h]
  · by_cases h : y < x <;> simp [mx_br, h]
  · by_cases h : y < x <;> simp [mx_br, h]
theorem mx_1i_sup {β : Type} {st : List mx_V} {K : Int32 → List mx_V → Option β} {y : β} (h : mx_1i st K = some y) : ∃ z st', st = .inl z :: st' ∧ K z st' = some y := by
  match st, h with
  | .inl z :: st', h => exact ⟨z, st', rfl, h⟩
  | [], h => cases h
  | .inr _ :: _, h => cases h
theorem mx_1a_sup {β : Type} {st : List mx_V} {K : Option Nat → List mx_V → Option β} {y : β} (h : mx_1a st K = some y) : ∃ z st', st = .inr (.inr z) :: st' ∧ K z st' = some y := by
  match st, h with
  | .inr (.inr z) :: st', h => exact ⟨z, st', rfl, h⟩
  | [], h => cases h
  | .inl _ :: _, h => cases h
  | .inr (.inl _) :: _, h => cases h
/-- what a row's answer rests on: nothing, one going on, one going on behind a cut, or a call and a going on -/
def mx_sup (f g h : mx_F σ) (k : Nat) (x : Option mx_V × σ) (P : mx_F σ → mx_F σ → mx_F σ → Prop) : Prop :=
  (∀ f' g' h', P f' g' h') ∨ (∃ j L st s, f k j L st s = some x ∧ ∀ f' g' h', f' k j L st s = some x → P f' g' h') ∨ (∃ j L st s, g k j L st s = some x ∧ ∀ f' g' h', g' k j L st s = some x → P f' g' h') ∨
  ∃ a L0 s q j L st, h a 0 L0 [] s = some q ∧ f k j L (q.1.toList ++ st) q.2 = some x ∧ ∀ f' g' h', h' a 0 L0 [] s = some q → f' k j L (q.1.toList ++ st) q.2 = some x → P f' g' h'
theorem mx_b_sup (hH : mx_HP hop) {f g h : mx_F σ} {k : Nat} {r : mx_I} {L : mx_L} {st : List mx_V} {s : σ} {x : Option mx_V × σ} (e : mx_b xl rc hop f g h k r L st s = some x) :
    mx_sup f g h k x (fun f' g' h' => mx_b xl rc hop f' g' h' k r L st s = some x) := by
  obtain ⟨i, pc, nx, a, b, v, sw⟩ := r
  have viaHop : hop (i, pc, nx, a, b, v, sw) st s (fun st s => f k nx L st s) = some x → (∀ f' g' h', mx_b xl rc hop f' g' h' k (i, pc, nx, a, b, v, sw) L st s = hop (i, pc, nx, a, b, v, sw) st s (fun st s => f' k nx L st s)) → mx_sup f g h k x (fun f' g' h' => mx_b xl rc hop f' g' h' k (i, pc, nx, a, b, v, sw) L st s = some x) := by
    intro e e2
    obtain ⟨st', s', h1, h2⟩ := hH _ _ _ _ _ e
    exact Or.inr (Or.inl ⟨nx, L, st', s', h1, fun f' g' h' q => (e2 f' g' h').trans (h2 _ _ q)⟩)
  have viaCall : mx_tk b [] st (fun as st => cond (rc a as s && Nat.ble (mx_ct st) 8) ((h a 0 (mx_en (xl a) as) [] s).bind fun q => f k nx L (q.1.toList ++ st) q.2) none) = some x → (∀ f' g' h', mx_b xl rc hop f' g' h' k (i, pc, nx, a, b, v, sw) L st s = mx_tk b [] st (fun as st => cond (rc a as s && Nat.ble (mx_ct st) 8) ((h' a 0 (mx_en (xl a) as) [] s).bind fun q => f' k nx L (q.1.toList ++ st) q.2) none)) → mx_sup f g h k x (fun f' g' h' => mx_b xl rc hop f' g' h' k (i, pc, nx, a, b, v, sw) L st s = some x) := by
    intro e e2
    obtain ⟨as, st', h1, h2⟩ := mx_tk_sup _ e
    cases hg : (rc a as s && Nat.ble (mx_ct st') 8) with
    | false => rw [hg] at h1; cases h1
    | true =>
    rw [hg] at h1
    obtain ⟨q, h3, h4⟩ := Option.bind_eq_some_iff.mp h1
    exact Or.inr (Or.inr (Or.inr ⟨a, _, s, q, nx, L, st', h3, h4, fun f' g' h' q1 q2 => (e2 f' g' h').trans (h2 _ _ _ (by rw [hg]; show Option.bind _ _ = _; rw [q1]; exact q2))⟩))
  have viaPu : mx_pu i a v L st (fun L st => f k nx L st s) = some x → (∀ f' g' h', mx_b xl rc hop f' g' h' k (i, pc, nx, a, b, v, sw) L st s = mx_pu i a v L st (fun L st => f' k nx L st s)) → mx_sup f g h k x (fun f' g' h' => mx_b xl rc hop f' g' h' k (i, pc, nx, a, b, v, sw) L st s = some x) := by
    intro e e2
    obtain ⟨L', st', h1, h2⟩ := mx_pu_sup e
    exact Or.inr (Or.inl ⟨nx, L', st', s, h1, fun f' g' h' q => (e2 f' g' h').trans (h2 _ _ _ q)⟩)
  cases i with
  | nop => exact Or.inr (Or.inr (Or.inl ⟨_, _, _, _, e, fun f' g' h' q => q⟩))
  | goto _ => exact Or.inr (Or.inl ⟨_, _, _, _, e, fun f' g' h' q => q⟩)
  | ifCond c _ =>
    obtain ⟨z, st', e1, e2⟩ := mx_1i_sup e
    subst e1
    rcases mx_br_cases c z 0 (f k a L st' s) (f k nx L st' s) with ⟨h1, h2⟩ | ⟨h1, h2⟩
    · rw [h1] at e2
      exact Or.inr (Or.inl ⟨_, _, _, _, e2, fun f' g' h' q => (h2 _ _ _).trans q⟩)
    · rw [h1] at e2
      exact Or.inr (Or.inl ⟨_, _, _, _, e2, fun f' g' h' q => (h2 _ _ _).trans q⟩)
  | if_icmp c _ =>
    obtain ⟨z, st', e1, e3⟩ := mx_1i_sup e
    obtain ⟨w, st2, e2, e4⟩ := mx_1i_sup e3
    subst e2; subst e1
    rcases mx_br_cases c w z (f k a L st2 s) (f k nx L st2 s) with ⟨h1, h2⟩ | ⟨h1, h2⟩
    · rw [h1] at e4
      exact Or.inr (Or.inl ⟨_, _, _, _, e4, fun f' g' h' q => (h2 _ _ _).trans q⟩)
    · rw [h1] at e4
      exact Or.inr (Or.inl ⟨_, _, _, _, e4, fun f' g' h' q => (h2 _ _ _).trans q⟩)
  | ifnonnull _ =>
    obtain ⟨z, st', e1, e2⟩ := mx_1a_sup e
    subst e1
    cases z with
    | none => exact Or.inr (Or.inl ⟨_, _, _, _, e2, fun f' g' h' q => q⟩)
    | some z => exact Or.inr (Or.inl ⟨_, _, _, _, e2, fun f' g' h' q => q⟩)
  | tableswitch _ _ _ _ =>
    obtain ⟨z, st', e1, e2⟩ := mx_1i_sup e
    subst e1
    rcases mx_sw_cases z (fun t => f k t L st' s) (f k a L st' s) sw with ⟨h1, h2⟩ | ⟨t, h1, h2⟩
    · rw [h1] at e2
      exact Or.inr (Or.inl ⟨_, _, _, _, e2, fun f' g' h' q => (h2 _ _ _).trans q⟩)
    · rw [h1] at e2
      exact Or.inr (Or.inl ⟨_, _, _, _, e2, fun f' g' h' q => (h2 _ _ _).trans q⟩)
  | ireturn => exact Or.inl fun f' g' h' => e
  | areturn => exact Or.inl fun f' g' h' => e
  | return_ => exact Or.inl fun f' g' h' => e
  | invokevirtual _ => cases b with
    | zero => exact viaHop e (fun _ _ _ => rfl)
    | succ b => exact viaCall e (fun _ _ _ => rfl)
  | invokespecial _ => cases b with
    | zero => exact viaHop e (fun _ _ _ => rfl)
    | succ b => exact viaCall e (fun _ _ _ => rfl)
  | invokestatic _ => cases b with
    | zero => exact viaHop e (fun _ _ _ => rfl)
    | succ b => exact viaCall e (fun _ _ _ => rfl)
  | getfield _ => exact viaHop e (fun _ _ _ => rfl)
  | putfield _ => exact viaHop e (fun _ _ _ => rfl)
  | getstatic _ => exact viaHop e (fun _ _ _ => rfl)
  | iaload => exact viaHop e (fun _ _ _ => rfl)
  | iastore => exact viaHop e (fun _ _ _ => rfl)
  | baload => exact viaHop e (fun _ _ _ => rfl)
  | bastore => exact viaHop e (fun _ _ _ => rfl)
  | caload => exact viaHop e (fun _ _ _ => rfl)
  | castore => exact viaHop e (fun _ _ _ => rfl)
  | laload => exact viaHop e (fun _ _ _ => rfl)
  | lastore => exact viaHop e (fun _ _ _ => rfl)
  | aaload => exact viaHop e (fun _ _ _ => rfl)
  | aastore => exact viaHop e (fun _ _ _ => rfl)
  | arraylength => exact viaHop e (fun _ _ _ => rfl)
  | new _ => exact viaHop e (fun _ _ _ => rfl)
  | newarray _ => exact viaHop e (fun _ _ _ => rfl)
  | anewarray _ => exact viaHop e (fun _ _ _ => rfl)
  | _ => exact viaPu e (fun _ _ _ => rfl)
def mx_le (f f' : mx_F σ) : Prop := ∀ k j L st s x, f k j L st s = some x → f' k j L st s = some x
theorem mx_b_mono (hH : mx_HP hop) {f g h f' g' h' : mx_F σ} (hf : mx_le f f') (hg : mx_le g g') (hh : mx_le h h') {k : Nat} {r : mx_I} {L : mx_L} {st : List mx_V} {s : σ} {x : Option mx_V × σ} (e : mx_b xl rc hop f g h k r L st s = some x) : mx_b xl rc hop f' g' h' k r L st s = some x := by
  rcases mx_b_sup hH e with q | ⟨j, L1, st1, s1, q1, q2⟩ | ⟨j, L1, st1, s1, q1, q2⟩ | ⟨a, L0, s0, q, j, L1, st1, q1, q2, q3⟩
  · exact q _ _ _
  · exact q2 _ _ _ (hf _ _ _ _ _ _ q1)
  · exact q2 _ _ _ (hg _ _ _ _ _ _ q1)
  · exact q3 _ _ _ (hh _ _ _ _ _ _ q1) (hf _ _ _ _ _ _ q2)
theorem mx_ex_succ (hH : mx_HP hop) : ∀ n, mx_le (mx_ex cd xl rc hop n) (mx_ex cd xl rc hop (n + 1))
  | 0 => fun k j L st s x h => by cases h
  | n + 1 => fun k j L st s x h => mx_b_mono hH (mx_ex_succ hH n) (mx_ex_succ hH n) (mx_ex_succ hH n) h
theorem mx_ex_le (hH : mx_HP hop) {n m : Nat} (h : n ≤ m) : mx_le (mx_ex cd xl rc hop n) (mx_ex cd xl rc hop m) := by
  induction h with
  | refl => exact fun k j L st s x h => h
  | step _ ih => exact fun k j L st s x h => mx_ex_succ hH _ _ _ _ _ _ _ (ih _ _ _ _ _ _ h)
noncomputable def mx_den (cd : Nat → mx_T) (xl : Nat → Nat) (rc : Nat → List mx_V → σ → Bool) (hop : mx_H σ) : mx_F σ := fun k j L st s =>
  match Classical.propDecidable (∃ n x, mx_ex cd xl rc hop n k j L st s = some x) with
  | .isTrue h => some (h.choose_spec.choose)
  | .isFalse _ => none
theorem mx_den_ex {k j : Nat} {L : mx_L} {st : List mx_V} {s : σ} {x : Option mx_V × σ} (h : mx_den cd xl rc hop k j L st s = some x) : ∃ n, mx_ex cd xl rc hop n k j L st s = some x := by
  unfold mx_den at h
  split at h
  · next q e =>
    cases h
    exact ⟨_, q.choose_spec.choose_spec⟩
  · cases h
theorem mx_ex_den (hH : mx_HP hop) {n k j : Nat} {L : mx_L} {st : List mx_V} {s : σ} {x : Option mx_V × σ} (h : mx_ex cd xl rc hop n k j L st s = some x) : mx_den cd xl rc hop k j L st s = some x := by
  unfold mx_den
  split
  · next q e =>
    have h2 := q.choose_spec.choose_spec
    rcases Nat.le_total n q.choose with hl | hl
    · have h3 := mx_ex_le hH hl _ _ _ _ _ _ h
      rw [h2] at h3
      exact h3
    · have h3 := mx_ex_le hH hl _ _ _ _ _ _ h2
      rw [h] at h3
      exact h3.symm
  · next q e => exact absurd ⟨n, x, h⟩ q
/-- the machine without fuel is what its row says -/
theorem mx_den_b (hH : mx_HP hop) (k j : Nat) (L : mx_L) (st : List mx_V) (s : σ) : mx_den cd xl rc hop k j L st s = mx_b xl rc hop (mx_den cd xl rc hop) (mx_den cd xl rc hop) (mx_den cd xl rc hop) k (mx_get (cd k) j) L st s := by
  have hle : ∀ n, mx_le (mx_ex cd xl rc hop n) (mx_den cd xl rc hop) := fun n k j L st s x h => mx_ex_den hH h
  apply Option.ext
  intro x
  constructor
  · intro h
    obtain ⟨n, h⟩ := mx_den_ex h
    cases n with
    | zero => cases h
    | succ n => exact mx_b_mono hH (hle n) (hle n) (hle n) h
  · intro e
    rcases mx_b_sup hH e with q | ⟨j1, L1, st1, s1, q1, q2⟩ | ⟨j1, L1, st1, s1, q1, q2⟩ | ⟨a, L0, s0, q, j1, L1, st1, q1, q2, q3⟩
    · exact mx_ex_den hH (n := 1) (q _ _ _)
    · obtain ⟨n, hn⟩ := mx_den_ex q1
      exact mx_ex_den hH (n := n + 1) (q2 _ _ _ hn)
    · obtain ⟨n, hn⟩ := mx_den_ex q1
      exact mx_ex_den hH (n := n + 1) (q2 _ _ _ hn)
    · obtain ⟨n, hn⟩ := mx_den_ex q1
      obtain ⟨m, hm⟩ := mx_den_ex q2
      exact mx_ex_den hH (n := max n m + 1) (q3 _ _ _ (mx_ex_le hH (Nat.le_max_left n m) _ _ _ _ _ _ hn) (mx_ex_le hH (Nat.le_max_right n m) _ _ _ _ _ _ hm))
/-- evaluation up to a cut, a call, an end -/
noncomputable def mx_ev (cd : Nat → mx_T) (xl : Nat → Nat) (rc : Nat → List mx_V → σ → Bool) (hop : mx_H σ) (d : mx_F σ) : Nat → mx_F σ
  | 0 => d
  | n + 1 => fun k j L st s => mx_b xl rc hop (mx_ev cd xl rc hop d n) d d k (mx_get (cd k) j) L st s
theorem mx_den_ev (hH : mx_HP hop) : ∀ n, mx_den cd xl rc hop = mx_ev cd xl rc hop (mx_den cd xl rc hop) n
  | 0 => rfl
  | n + 1 => by
    funext k j L st s
    rw [mx_den_b hH]
    show _ = mx_b xl rc hop (mx_ev cd xl rc hop (mx_den cd xl rc hop) n) _ _ k (mx_get (cd k) j) L st s
    rw [← mx_den_ev hH n]
theorem mx_den_at (hH : mx_HP hop) (n : Nat) {k j : Nat} {L : mx_L} {st : List mx_V} {s : σ} {y : Option (Option mx_V × σ)} (h : mx_ev cd xl rc hop (mx_den cd xl rc hop) n k j L st s = y) : mx_den cd xl rc hop k j L st s = y := by
  rw [← h, ← mx_den_ev hH n]
end MxDen
end
section
/-! ===== the small machine's rows over the JVM: locals and the stack ===== -/
def mx_rv (ad : Nat → Nat) : mx_V → Value
  | .inl x => .int x
  | .inr (.inl x) => .long x
  | .inr (.inr none) => .null
  | .inr (.inr (some k)) => .ref (ad k)
def mx_LR (ad : Nat → Nat) (ls : Array Slot) (nL : Nat) (L : mx_L) : Prop := ls.size = nL ∧ lv_wf ls ∧ ∀ i v, mx_at L i = some v → ls[i]? = some (.val (mx_rv ad v))
theorem mx_at_lt : ∀ (L : mx_L) (i : Nat) (v : mx_V), mx_at L i = some v → i < L.length
  | [], i, v, h => by cases h
  | x :: L, 0, v, h => Nat.succ_pos _
  | x :: L, i + 1, v, h => Nat.succ_lt_succ (mx_at_lt L i v h)
theorem mx_at_set_ne : ∀ (L : mx_L) (i j : Nat) (x : Option mx_V), i ≠ j → mx_at (L.set i x) j = mx_at L j
  | [], i, j, x, h => by simp [mx_at]
  | y :: L, 0, 0, x, h => absurd rfl h
  | y :: L, 0, j + 1, x, h => rfl
  | y :: L, i + 1, 0, x, h => rfl
  | y :: L, i + 1, j + 1, x, h => mx_at_set_ne L i j x (fun q => h (by rw [q]))
theorem mx_at_set_self : ∀ (L : mx_L) (i : Nat) (x : Option mx_V) (w : mx_V), mx_at (L.set i x) i = some w → x = some w
  | [], i, x, w, h => by simp [mx_at] at h
  | y :: L, 0, x, w, h => h
  | y :: L, i + 1, x, w, h => mx_at_set_self L i x w h
theorem mx_at_kl {L : mx_L} {i j : Nat} {w : mx_V} (h : mx_at (mx_kl L i) j = some w) : mx_at L j = some w ∧ ¬ (j + 1 = i ∧ ∃ z, w = .inr (.inl z)) := by
  cases i with
  | zero => exact ⟨h, fun q => by omega⟩
  | succ i =>
    unfold mx_kl at h
    by_cases hj : i = j
    · subst hj
      dsimp only at h
      split at h
      · next z e =>
        have := mx_at_set_self _ _ _ _ h
        cases this
      · next e =>
        refine ⟨h, fun q => ?_⟩
        obtain ⟨-, z, rfl⟩ := q
        exact e z h
    · dsimp only at h
      split at h
      · rw [mx_at_set_ne _ _ _ _ hj] at h
        exact ⟨h, fun q => hj (by omega)⟩
      · exact ⟨h, fun q => hj (by omega)⟩
def mx_as (ad : Nat → Nat) (L : mx_L) : List (Nat × Value) := (List.range L.length).filterMap (fun i => (mx_at L i).map (fun v => (i, mx_rv ad v)))
theorem mx_as_mem {ad : Nat → Nat} {L : mx_L} {i : Nat} {v : mx_V} (h : mx_at L i = some v) : (i, mx_rv ad v) ∈ mx_as ad L :=
  List.mem_filterMap.mpr ⟨i, List.mem_range.mpr (mx_at_lt _ _ _ h), by rw [h]; rfl⟩
theorem mx_as_has {ad : Nat → Nat} {ls : Array Slot} {nL : Nat} {L : mx_L} (h : mx_LR ad ls nL L) : lv_has ls nL (mx_as ad L) := by
  refine ⟨h.1, h.2.1, fun q hq => ?_⟩
  obtain ⟨i, -, hi⟩ := List.mem_filterMap.mp hq
  cases hv : mx_at L i with
  | none => rw [hv] at hi; cases hi
  | some v =>
    rw [hv] at hi
    cases hi
    exact h.2.2 i v hv
theorem mx_rv_cat {ad : Nat → Nat} {w : mx_V} (h : (mx_rv ad w).category = 2) : ∃ z, w = .inr (.inl z) := by
  match w, h with
  | .inl x, h => simp [mx_rv, Value.category] at h
  | .inr (.inl z), h => exact ⟨z, rfl⟩
  | .inr (.inr none), h => simp [mx_rv, Value.category] at h
  | .inr (.inr (some k)), h => simp [mx_rv, Value.category] at h
theorem mx_LR_s1 {ad : Nat → Nat} {ls : Array Slot} {nL : Nat} {L : mx_L} {i : Nat} {v : mx_V} (h : lv_has ls nL ((i, mx_rv ad v) :: (mx_as ad L).filter (fun q => !(q.1 == i) && !(q.1 + 1 == i && q.2.category == 2)))) : mx_LR ad ls nL (mx_s1 L i v) := by
  refine ⟨h.1, h.2.1, fun j w hj => ?_⟩
  unfold mx_s1 at hj
  by_cases hij : i = j
  · subst hij
    have := mx_at_set_self _ _ _ _ hj
    cases this
    exact h.2.2 _ List.mem_cons_self
  · rw [mx_at_set_ne _ _ _ _ hij] at hj
    obtain ⟨h1, h2⟩ := mx_at_kl hj
    refine h.2.2 (j, mx_rv ad w) (List.mem_cons_of_mem _ (List.mem_filter.mpr ⟨mx_as_mem h1, ?_⟩))
    simp only [Bool.and_eq_true, Bool.not_eq_true', beq_eq_false_iff_ne, ne_eq, Bool.and_eq_false_iff]
    refine ⟨fun q => hij q.symm, ?_⟩
    by_cases hq : j + 1 = i
    · refine Or.inr fun q => h2 ⟨hq, mx_rv_cat q⟩
    · exact Or.inl hq
theorem mx_LR_s2 {ad : Nat → Nat} {ls : Array Slot} {nL : Nat} {L : mx_L} {i : Nat} {v : mx_V} (h : lv_has ls nL ((i, mx_rv ad v) :: (mx_as ad L).filter (fun q => !(q.1 == i) && (!(q.1 == i + 1) && !(q.1 + 1 == i && q.2.category == 2))))) : mx_LR ad ls nL (mx_s2 L i v) := by
  refine ⟨h.1, h.2.1, fun j w hj => ?_⟩
  unfold mx_s2 at hj
  by_cases hj1 : i + 1 = j
  · subst hj1
    have := mx_at_set_self _ _ _ _ hj
    cases this
  · rw [mx_at_set_ne _ _ _ _ hj1] at hj
    by_cases hij : i = j
    · subst hij
      have := mx_at_set_self _ _ _ _ hj
      cases this
      exact h.2.2 _ List.mem_cons_self
    · rw [mx_at_set_ne _ _ _ _ hij] at hj
      obtain ⟨h1, h2⟩ := mx_at_kl hj
      refine h.2.2 (j, mx_rv ad w) (List.mem_cons_of_mem _ (List.mem_filter.mpr ⟨mx_as_mem h1, ?_⟩))
      simp only [Bool.and_eq_true, Bool.not_eq_true', beq_eq_false_iff_ne, ne_eq, Bool.and_eq_false_iff]
      refine ⟨fun q => hij q.symm, fun q => hj1 q.symm, ?_⟩
      by_cases hq : j + 1 = i
      · refine Or.inr fun q => h2 ⟨hq, mx_rv_cat q⟩
      · exact Or.inl hq
theorem mx_at_mk : ∀ (m : Nat) (L : mx_L) (i : Nat) (v : mx_V), mx_at (mx_mk m L) i = some v → mx_at L i = some v
  | m, [], i, v, h => by cases h
  | m, x :: L, 0, v, h => by
    simp only [mx_mk, mx_at] at h ⊢
    split at h
    · exact h
    · cases h
  | m, x :: L, i + 1, v, h => mx_at_mk (m / 2) L i v h
theorem mx_LR_mk {ad : Nat → Nat} {ls : Array Slot} {nL : Nat} {L : mx_L} (m : Nat) (h : mx_LR ad ls nL L) : mx_LR ad ls nL (mx_mk m L) := ⟨h.1, h.2.1, fun i v hi => h.2.2 i v (mx_at_mk m L i v hi)⟩
/-- a row's length -/
def mx_ln (i : Instr) : Nat := match i with
  | .bipush _ => 2
  | .sipush _ => 3
  | .ldc _ => 2
  | .ldc_w _ => 3
  | .ldc2_w _ => 3
  | .iload _ => 2
  | .lload _ => 2
  | .aload _ => 2
  | .istore _ => 2
  | .lstore _ => 2
  | .astore _ => 2
  | .iinc _ _ => 3
  | .goto _ => 3
  | .ifCond _ _ => 3
  | .if_icmp _ _ => 3
  | .ifnonnull _ => 3
  | .invokevirtual _ => 3
  | .invokespecial _ => 3
  | .invokestatic _ => 3
  | .getfield _ => 3
  | .putfield _ => 3
  | .getstatic _ => 3
  | .new _ => 3
  | .anewarray _ => 3
  | .newarray _ => 2
  | _ => 1
/-- what the row of a pure instruction must say -/
def mx_cx (hc : Nat → Int32 → Bool) (hc2 : Nat → Int64 → Bool) (hs : Nat → Nat → Bool) (nL : Nat) (i : Instr) (a : Nat) (v : Int32) : Bool := match i with
  | .iconst n => decide (Int32.ofInt n = v)
  | .bipush n => decide ((Int8.ofInt n).toInt32 = v)
  | .sipush n => decide ((Int16.ofInt n).toInt32 = v)
  | .ldc x => match a with
    | 0 => hc x v
    | a + 1 => hs x (a + 1)
  | .ldc_w x => hc x v
  | .ldc2_w x => hc2 x v.toInt64
  | .lconst n => decide (Int64.ofNat n.val = v.toInt64)
  | .iload x => decide (x = a)
  | .lload x => decide (x = a)
  | .aload x => decide (x = a)
  | .iload_n x => decide (x.val = a)
  | .lload_n x => decide (x.val = a)
  | .aload_n x => decide (x.val = a)
  | .istore x => decide (x = a) && decide (a < nL)
  | .astore x => decide (x = a) && decide (a < nL)
  | .lstore x => decide (x = a) && decide (a + 1 < nL)
  | .istore_n x => decide (x.val = a) && decide (a < nL)
  | .astore_n x => decide (x.val = a) && decide (a < nL)
  | .lstore_n x => decide (x.val = a) && decide (a + 1 < nL)
  | .iinc x n => decide (x = a) && (decide (Int32.ofInt n = v) && decide (a < nL))
  | _ => true
end
section
section MxPureW
variable {p : Program} {l : Launch} {e : Env} {R : Room} {s : State} {m : MethodId} {args : Array Value} {below : List Frame} {meth : Method} {c : Code} {H : Heap} {locs : List Loc} {cells slots : Nat} {Q : State → Prop}
theorem mx_li_sup {β : Type} {L : mx_L} {a : Nat} {K : Int32 → Option β} {y : β} (h : mx_li L a K = some y) : ∃ z, mx_at L a = some (.inl z) ∧ K z = some y := by
  unfold mx_li at h
  split at h
  · next z e => exact ⟨z, e, h⟩
  · cases h
theorem mx_ll_sup {β : Type} {L : mx_L} {a : Nat} {K : Int64 → Option β} {y : β} (h : mx_ll L a K = some y) : ∃ z, mx_at L a = some (.inr (.inl z)) ∧ K z = some y := by
  unfold mx_ll at h
  split at h
  · next z e => exact ⟨z, e, h⟩
  · cases h
theorem mx_la_sup {β : Type} {L : mx_L} {a : Nat} {K : Option Nat → Option β} {y : β} (h : mx_la L a K = some y) : ∃ z, mx_at L a = some (.inr (.inr z)) ∧ K z = some y := by
  unfold mx_la at h
  split at h
  · next z e => exact ⟨z, e, h⟩
  · cases h
theorem mx_1l_sup {β : Type} {st : List mx_V} {K : Int64 → List mx_V → Option β} {y : β} (h : mx_1l st K = some y) : ∃ z st', st = .inr (.inl z) :: st' ∧ K z st' = some y := by
  match st, h with
  | .inr (.inl z) :: st', h => exact ⟨z, st', rfl, h⟩
  | [], h => cases h
  | .inl _ :: _, h => cases h
  | .inr (.inr _) :: _, h => cases h
set_option maxHeartbeats 4000000 in
/-- a pure row over the JVM -/
theorem mx_pu_W {cc : ByteArray} {ad : Nat → Nat} {hc : Nat → Int32 → Bool} {hc2 : Nat → Int64 → Bool} {hs : Nat → Nat → Bool} {own : String} {nL : Nat} {β : Type} {i : Instr} {pc a : Nat} {v : Int32} {L : mx_L} {st : List mx_V} {K : mx_L → List mx_V → Option β} {x : β}
    (h : mx_pu i a v L st K = some x) : ∃ L' st', K L' st' = some x ∧
    ∀ (hx : p.tables.exec = Jvm.exec) (hb : c.code = cc) (hown : s.vm.findClass own = some m.cls) (hwT : ∀ x v, hc x v = true → (Jvm.Cond.constant own x v).before args s = true) (hwT2 : ∀ x v, hc2 x v = true → (Jvm.Cond.constantLong own x v).before args s = true) (hst : ∀ x a, hs x a = true → ∃ tx, vk_R own x tx (ad a) s)
      (hck : mx_cx hc hc2 hs nL i a v = true) (hd : decode cc pc = .ok (i, mx_ln i)) {ls : Array Slot} (hl : mx_LR ad ls nL L)
      (kk : ∀ ls', mx_LR ad ls' nL L' → W p l e R s m args below meth c H locs cells slots Q (F0 m (pc + mx_ln i) ls' (st'.map (mx_rv ad)))),
      W p l e R s m args below meth c H locs cells slots Q (F0 m pc ls (st.map (mx_rv ad))) := by
  have hdx : ∀ {n : Nat} {q : Bool}, n = n := fun {n q} => rfl
  cases i with
  | iconst n => exact ⟨_, _, h, fun hx hb hown hwT hwT2 hst hck hd ls hl kk => lv_iconst hx hb hd (of_decide_eq_true hck) (kk ls hl)⟩
  | bipush n => exact ⟨_, _, h, fun hx hb hown hwT hwT2 hst hck hd ls hl kk => lv_bipush hx hb hd (of_decide_eq_true hck) (kk ls hl)⟩
  | sipush n => exact ⟨_, _, h, fun hx hb hown hwT hwT2 hst hck hd ls hl kk => lv_sipush hx hb hd (of_decide_eq_true hck) (kk ls hl)⟩
  | ldc y => cases a with
    | zero => exact ⟨_, _, h, fun hx hb hown hwT hwT2 hst hck hd ls hl kk => lv_ldc hx hb hown (hwT _ _ hck) hd (kk ls hl)⟩
    | succ a => exact ⟨_, _, h, fun hx hb hown hwT hwT2 hst hck hd ls hl kk => by
        obtain ⟨tx, hZ⟩ := hst _ _ hck
        exact va_ldcS hx hb hown hZ hd (kk ls hl)⟩
  | ldc_w y => exact ⟨_, _, h, fun hx hb hown hwT hwT2 hst hck hd ls hl kk => lv_ldcw hx hb hown (hwT _ _ hck) hd (kk ls hl)⟩
  | ldc2_w y => exact ⟨_, _, h, fun hx hb hown hwT hwT2 hst hck hd ls hl kk => lv_ldc2 hx hb hown (hwT2 _ _ hck) hd (kk ls hl)⟩
  | lconst n => exact ⟨_, _, h, fun hx hb hown hwT hwT2 hst hck hd ls hl kk => lv_lconst hx hb hd (of_decide_eq_true hck) (kk ls hl)⟩
  | aconst_null => exact ⟨_, _, h, fun hx hb hown hwT hwT2 hst hck hd ls hl kk => lv_null hx hb hd (kk ls hl)⟩
  | iload y =>
    obtain ⟨z, e1, h⟩ := mx_li_sup h
    exact ⟨_, _, h, fun hx hb hown hwT hwT2 hst hck hd ls hl kk => by
      have e := of_decide_eq_true hck
      subst e
      exact lv_iload hx hb hd (hl.2.2 _ _ e1) (kk ls hl)⟩
  | iload_n y =>
    obtain ⟨z, e1, h⟩ := mx_li_sup h
    exact ⟨_, _, h, fun hx hb hown hwT hwT2 hst hck hd ls hl kk => lv_iload_n hx hb hd (of_decide_eq_true hck) (hl.2.2 _ _ e1) (kk ls hl)⟩
  | lload y =>
    obtain ⟨z, e1, h⟩ := mx_ll_sup h
    exact ⟨_, _, h, fun hx hb hown hwT hwT2 hst hck hd ls hl kk => by
      have e := of_decide_eq_true hck
      subst e
      exact lv_lload hx hb hd (hl.2.2 _ _ e1) (kk ls hl)⟩
  | lload_n y =>
    obtain ⟨z, e1, h⟩ := mx_ll_sup h
    exact ⟨_, _, h, fun hx hb hown hwT hwT2 hst hck hd ls hl kk => lv_lload_n hx hb hd (of_decide_eq_true hck) (hl.2.2 _ _ e1) (kk ls hl)⟩
  | aload y =>
    obtain ⟨z, e1, h⟩ := mx_la_sup h
    exact ⟨_, _, h, fun hx hb hown hwT hwT2 hst hck hd ls hl kk => by
      have e := of_decide_eq_true hck
      subst e
      cases z with
      | none => exact lv_aloadN hx hb hd (hl.2.2 _ _ e1) (kk ls hl)
      | some z => exact lv_aload hx hb hd (hl.2.2 _ _ e1) (kk ls hl)⟩
  | aload_n y =>
    obtain ⟨z, e1, h⟩ := mx_la_sup h
    exact ⟨_, _, h, fun hx hb hown hwT hwT2 hst hck hd ls hl kk => by
      cases z with
      | none => exact lv_aload_nN hx hb hd (of_decide_eq_true hck) (hl.2.2 _ _ e1) (kk ls hl)
      | some z => exact lv_aload_n hx hb hd (of_decide_eq_true hck) (hl.2.2 _ _ e1) (kk ls hl)⟩
  | istore y =>
    obtain ⟨z, st', e1, h⟩ := mx_1i_sup h
    subst e1
    exact ⟨_, _, h, fun hx hb hown hwT hwT2 hst hck hd ls hl kk => by
      simp only [mx_cx, Bool.and_eq_true, decide_eq_true_eq] at hck
      obtain ⟨rfl, hn⟩ := hck
      exact lv_istore hx hb hd (mx_as_has hl) hn rfl (fun ls' h' => kk ls' (mx_LR_s1 h'))⟩
  | istore_n y =>
    obtain ⟨z, st', e1, h⟩ := mx_1i_sup h
    subst e1
    exact ⟨_, _, h, fun hx hb hown hwT hwT2 hst hck hd ls hl kk => by
      simp only [mx_cx, Bool.and_eq_true, decide_eq_true_eq] at hck
      exact lv_istore_n hx hb hd hck.1 (mx_as_has hl) hck.2 rfl (fun ls' h' => kk ls' (mx_LR_s1 h'))⟩
  | lstore y =>
    obtain ⟨z, st', e1, h⟩ := mx_1l_sup h
    subst e1
    exact ⟨_, _, h, fun hx hb hown hwT hwT2 hst hck hd ls hl kk => by
      simp only [mx_cx, Bool.and_eq_true, decide_eq_true_eq] at hck
      obtain ⟨rfl, hn⟩ := hck
      exact lv_lstore hx hb hd (mx_as_has hl) hn rfl (fun ls' h' => kk ls' (mx_LR_s2 h'))⟩
  | lstore_n y =>
    obtain ⟨z, st', e1, h⟩ := mx_1l_sup h
    subst e1
    exact ⟨_, _, h, fun hx hb hown hwT hwT2 hst hck hd ls hl kk => by
      simp only [mx_cx, Bool.and_eq_true, decide_eq_true_eq] at hck
      exact lv_lstore_n hx hb hd hck.1 (mx_as_has hl) hck.2 rfl (fun ls' h' => kk ls' (mx_LR_s2 h'))⟩
  | astore y =>
    obtain ⟨z, st', e1, h⟩ := mx_1a_sup h
    subst e1
    exact ⟨_, _, h, fun hx hb hown hwT hwT2 hst hck hd ls hl kk => by
      simp only [mx_cx, Bool.and_eq_true, decide_eq_true_eq] at hck
      obtain ⟨rfl, hn⟩ := hck
      cases z with
      | none => exact lv_astoreN hx hb hd (mx_as_has hl) hn rfl (fun ls' h' => kk ls' (mx_LR_s1 h'))
      | some z => exact lv_astore hx hb hd (mx_as_has hl) hn rfl (fun ls' h' => kk ls' (mx_LR_s1 h'))⟩
  | astore_n y =>
    obtain ⟨z, st', e1, h⟩ := mx_1a_sup h
    subst e1
    exact ⟨_, _, h, fun hx hb hown hwT hwT2 hst hck hd ls hl kk => by
      simp only [mx_cx, Bool.and_eq_true, decide_eq_true_eq] at hck
      cases z with
      | none => exact lv_astore_nN hx hb hd hck.1 (mx_as_has hl) hck.2 rfl (fun ls' h' => kk ls' (mx_LR_s1 h'))
      | some z => exact lv_astore_n hx hb hd hck.1 (mx_as_has hl) hck.2 rfl (fun ls' h' => kk ls' (mx_LR_s1 h'))⟩
  | iinc y n =>
    obtain ⟨z, e1, h⟩ := mx_li_sup h
    exact ⟨_, _, h, fun hx hb hown hwT hwT2 hst hck hd ls hl kk => by
      simp only [mx_cx, Bool.and_eq_true, decide_eq_true_eq] at hck
      obtain ⟨rfl, rfl, hn⟩ := hck
      obtain ⟨k, hk⟩ := List.getElem?_of_mem (mx_as_mem (ad := ad) e1)
      exact lv_iinc hx hb hd (mx_as_has hl) hk rfl hn rfl (fun ls' h' => kk ls' (mx_LR_s1 (v := .inl _) h'))⟩
  | iadd =>
    obtain ⟨y, s1, e1, h2⟩ := mx_1i_sup h
    obtain ⟨z, s2, e2, h3⟩ := mx_1i_sup h2
    subst e2; subst e1
    exact ⟨_, _, h3, fun hx hb hown hwT hwT2 hst hck hd ls hl kk => lv_iadd hx hb hd (kk ls hl)⟩
  | isub =>
    obtain ⟨y, s1, e1, h2⟩ := mx_1i_sup h
    obtain ⟨z, s2, e2, h3⟩ := mx_1i_sup h2
    subst e2; subst e1
    exact ⟨_, _, h3, fun hx hb hown hwT hwT2 hst hck hd ls hl kk => lv_isub hx hb hd (kk ls hl)⟩
  | imul =>
    obtain ⟨y, s1, e1, h2⟩ := mx_1i_sup h
    obtain ⟨z, s2, e2, h3⟩ := mx_1i_sup h2
    subst e2; subst e1
    exact ⟨_, _, h3, fun hx hb hown hwT hwT2 hst hck hd ls hl kk => lv_imul hx hb hd (kk ls hl)⟩
  | iand =>
    obtain ⟨y, s1, e1, h2⟩ := mx_1i_sup h
    obtain ⟨z, s2, e2, h3⟩ := mx_1i_sup h2
    subst e2; subst e1
    exact ⟨_, _, h3, fun hx hb hown hwT hwT2 hst hck hd ls hl kk => lv_iand hx hb hd (kk ls hl)⟩
  | ior =>
    obtain ⟨y, s1, e1, h2⟩ := mx_1i_sup h
    obtain ⟨z, s2, e2, h3⟩ := mx_1i_sup h2
    subst e2; subst e1
    exact ⟨_, _, h3, fun hx hb hown hwT hwT2 hst hck hd ls hl kk => lv_ior hx hb hd (kk ls hl)⟩
  | ixor =>
    obtain ⟨y, s1, e1, h2⟩ := mx_1i_sup h
    obtain ⟨z, s2, e2, h3⟩ := mx_1i_sup h2
    subst e2; subst e1
    exact ⟨_, _, h3, fun hx hb hown hwT hwT2 hst hck hd ls hl kk => lv_ixor hx hb hd (kk ls hl)⟩
  | ishl =>
    obtain ⟨y, s1, e1, h2⟩ := mx_1i_sup h
    obtain ⟨z, s2, e2, h3⟩ := mx_1i_sup h2
    subst e2; subst e1
    exact ⟨_, _, h3, fun hx hb hown hwT hwT2 hst hck hd ls hl kk => lv_ishl hx hb hd (kk ls hl)⟩
  | ishr =>
    obtain ⟨y, s1, e1, h2⟩ := mx_1i_sup h
    obtain ⟨z, s2, e2, h3⟩ := mx_1i_sup h2
    subst e2; subst e1
    exact ⟨_, _, h3, fun hx hb hown hwT hwT2 hst hck hd ls hl kk => lv_ishr hx hb hd (kk ls hl)⟩
  | iushr =>
    obtain ⟨y, s1, e1, h2⟩ := mx_1i_sup h
    obtain ⟨z, s2, e2, h3⟩ := mx_1i_sup h2
    subst e2; subst e1
    exact ⟨_, _, h3, fun hx hb hown hwT hwT2 hst hck hd ls hl kk => lv_iushr hx hb hd rfl (kk ls hl)⟩
  | idiv =>
    obtain ⟨y, s1, e1, h2⟩ := mx_1i_sup h
    obtain ⟨z, s2, e2, h3⟩ := mx_1i_sup h2
    clear h h2
    subst e2; subst e1
    by_cases hy : y = 0
    · rw [if_pos hy] at h3; cases h3
    · rw [if_neg hy] at h3
      exact ⟨_, _, h3, fun hx hb hown hwT hwT2 hst hck hd ls hl kk => lv_idiv hx hb hd hy (kk ls hl)⟩
  | irem =>
    obtain ⟨y, s1, e1, h2⟩ := mx_1i_sup h
    obtain ⟨z, s2, e2, h3⟩ := mx_1i_sup h2
    clear h h2
    subst e2; subst e1
    by_cases hy : y = 0
    · rw [if_pos hy] at h3; cases h3
    · rw [if_neg hy] at h3
      exact ⟨_, _, h3, fun hx hb hown hwT hwT2 hst hck hd ls hl kk => lv_irem hx hb hd hy (kk ls hl)⟩
  | ineg =>
    obtain ⟨y, s1, e1, h2⟩ := mx_1i_sup h
    subst e1
    exact ⟨_, _, h2, fun hx hb hown hwT hwT2 hst hck hd ls hl kk => lv_ineg hx hb hd (kk ls hl)⟩
  | ladd =>
    obtain ⟨y, s1, e1, h2⟩ := mx_1l_sup h
    obtain ⟨z, s2, e2, h3⟩ := mx_1l_sup h2
    subst e2; subst e1
    exact ⟨_, _, h3, fun hx hb hown hwT hwT2 hst hck hd ls hl kk => lv_ladd hx hb hd (kk ls hl)⟩
  | lmul =>
    obtain ⟨y, s1, e1, h2⟩ := mx_1l_sup h
    obtain ⟨z, s2, e2, h3⟩ := mx_1l_sup h2
    subst e2; subst e1
    exact ⟨_, _, h3, fun hx hb hown hwT hwT2 hst hck hd ls hl kk => lv_lmul hx hb hd (kk ls hl)⟩
  | lcmp =>
    obtain ⟨y, s1, e1, h2⟩ := mx_1l_sup h
    obtain ⟨z, s2, e2, h3⟩ := mx_1l_sup h2
    subst e2; subst e1
    exact ⟨_, _, h3, fun hx hb hown hwT hwT2 hst hck hd ls hl kk => W.lcmp hx hb hd (kk ls hl)⟩
  | i2l =>
    obtain ⟨y, s1, e1, h2⟩ := mx_1i_sup h
    subst e1
    exact ⟨_, _, h2, fun hx hb hown hwT hwT2 hst hck hd ls hl kk => lv_i2l hx hb hd rfl (kk ls hl)⟩
  | l2i =>
    obtain ⟨y, s1, e1, h2⟩ := mx_1l_sup h
    subst e1
    exact ⟨_, _, h2, fun hx hb hown hwT hwT2 hst hck hd ls hl kk => lv_l2i hx hb hd rfl (kk ls hl)⟩
  | i2b =>
    obtain ⟨y, s1, e1, h2⟩ := mx_1i_sup h
    subst e1
    exact ⟨_, _, h2, fun hx hb hown hwT hwT2 hst hck hd ls hl kk => lv_i2b hx hb hd rfl (kk ls hl)⟩
  | i2s =>
    obtain ⟨y, s1, e1, h2⟩ := mx_1i_sup h
    subst e1
    exact ⟨_, _, h2, fun hx hb hown hwT hwT2 hst hck hd ls hl kk => lv_i2s hx hb hd rfl (kk ls hl)⟩
  | i2c =>
    obtain ⟨y, s1, e1, h2⟩ := mx_1i_sup h
    subst e1
    exact ⟨_, _, h2, fun hx hb hown hwT hwT2 hst hck hd ls hl kk => lv_i2c hx hb hd rfl (kk ls hl)⟩
  | dup =>
    match st, h with
    | .inl _ :: _, h => exact ⟨_, _, h, fun hx hb hown hwT hwT2 hst hck hd ls hl kk => lv_dup hx hb hd rfl (kk ls hl)⟩
    | .inr (.inr none) :: _, h => exact ⟨_, _, h, fun hx hb hown hwT hwT2 hst hck hd ls hl kk => lv_dup hx hb hd rfl (kk ls hl)⟩
    | .inr (.inr (some _)) :: _, h => exact ⟨_, _, h, fun hx hb hown hwT hwT2 hst hck hd ls hl kk => lv_dup hx hb hd rfl (kk ls hl)⟩
    | .inr (.inl _) :: _, h => cases h
    | [], h => cases h
  | dup2 =>
    match st, h with
    | .inl _ :: .inr (.inr none) :: _, h => exact ⟨_, _, h, fun hx hb hown hwT hwT2 hst hck hd ls hl kk => lv_dup2_11 hx hb hd rfl rfl (kk ls hl)⟩
    | .inl _ :: .inr (.inr (some _)) :: _, h => exact ⟨_, _, h, fun hx hb hown hwT hwT2 hst hck hd ls hl kk => lv_dup2_11 hx hb hd rfl rfl (kk ls hl)⟩
    | .inl _ :: .inl _ :: _, h => cases h
    | .inl _ :: .inr (.inl _) :: _, h => cases h
    | [.inl _], h => cases h
    | .inr _ :: _, h => cases h
    | [], h => cases h
  | pop =>
    match st, h with
    | .inl _ :: _, h => exact ⟨_, _, h, fun hx hb hown hwT hwT2 hst hck hd ls hl kk => lv_pop hx hb hd rfl (kk ls hl)⟩
    | .inr (.inr none) :: _, h => exact ⟨_, _, h, fun hx hb hown hwT hwT2 hst hck hd ls hl kk => lv_pop hx hb hd rfl (kk ls hl)⟩
    | .inr (.inr (some _)) :: _, h => exact ⟨_, _, h, fun hx hb hown hwT hwT2 hst hck hd ls hl kk => lv_pop hx hb hd rfl (kk ls hl)⟩
    | .inr (.inl _) :: _, h => cases h
    | [], h => cases h
  | _ => cases h
end MxPureW
end
section
/-! ===== the small machine is sound over the JVM: control, calls, ends ===== -/
theorem mx_at_rep : ∀ (n i : Nat) (v : mx_V), mx_at (List.replicate n none) i = some v → False
  | 0, i, v, h => by cases h
  | n + 1, 0, v, h => by cases h
  | n + 1, i + 1, v, h => mx_at_rep n i v h
theorem mx_en_at (ad : Nat → Nat) : ∀ (as : List mx_V) (n o i : Nat) (v : mx_V), mx_at (mx_en n as) i = some v → (o + i, mx_rv ad v) ∈ lv_args o (as.map (mx_rv ad))
  | [], n, o, i, v, h => (mx_at_rep n i v h).elim
  | .inl x :: as, n, o, 0, v, h => by cases h; exact List.mem_cons_self
  | .inl x :: as, n, o, i + 1, v, h => by
    have := mx_en_at ad as (n - 1) (o + 1) i v h
    rw [show o + (i + 1) = o + 1 + i by omega]
    exact List.mem_cons_of_mem _ this
  | .inr (.inl x) :: as, n, o, 0, v, h => by cases h; exact List.mem_cons_self
  | .inr (.inl x) :: as, n, o, 1, v, h => by cases h
  | .inr (.inl x) :: as, n, o, i + 2, v, h => by
    have := mx_en_at ad as (n - 2) (o + 2) i v h
    rw [show o + (i + 2) = o + 2 + i by omega]
    exact List.mem_cons_of_mem _ this
  | .inr (.inr none) :: as, n, o, 0, v, h => by cases h; exact List.mem_cons_self
  | .inr (.inr (some x)) :: as, n, o, 0, v, h => by cases h; exact List.mem_cons_self
  | .inr (.inr none) :: as, n, o, i + 1, v, h => by
    have := mx_en_at ad as (n - 1) (o + 1) i v h
    rw [show o + (i + 1) = o + 1 + i by omega]
    exact List.mem_cons_of_mem _ this
  | .inr (.inr (some x)) :: as, n, o, i + 1, v, h => by
    have := mx_en_at ad as (n - 1) (o + 1) i v h
    rw [show o + (i + 1) = o + 1 + i by omega]
    exact List.mem_cons_of_mem _ this
theorem mx_sl_cons (v : Value) (vs : List Value) : (lg_sl (v :: vs)).length = (if v.category = 2 then 2 else 1) + (lg_sl vs).length := by
  have h : lg_sl (v :: vs) = (if v.category = 2 then [.val v, .second] else [.val v]) ++ lg_sl vs := rfl
  rw [h, List.length_append]
  split <;> rfl
theorem mx_ct_sl (ad : Nat → Nat) : ∀ (as : List mx_V), (lg_sl (as.map (mx_rv ad))).length = mx_ct as
  | [] => rfl
  | .inl x :: as => by
    rw [List.map_cons, mx_sl_cons, mx_ct_sl ad as]; simp [mx_rv, Value.category, mx_ct]; omega
  | .inr (.inl x) :: as => by
    rw [List.map_cons, mx_sl_cons, mx_ct_sl ad as]; simp [mx_rv, Value.category, mx_ct]; omega
  | .inr (.inr none) :: as => by
    rw [List.map_cons, mx_sl_cons, mx_ct_sl ad as]; simp [mx_rv, Value.category, mx_ct]; omega
  | .inr (.inr (some x)) :: as => by
    rw [List.map_cons, mx_sl_cons, mx_ct_sl ad as]; simp [mx_rv, Value.category, mx_ct]; omega
theorem mx_ct_sum (ad : Nat → Nat) : ∀ (as : List mx_V), ((as.map (mx_rv ad)).map fun v => v.category).sum = mx_ct as
  | [] => rfl
  | .inl x :: as => by
    have := mx_ct_sum ad as
    simp only [List.map_cons, List.sum_cons, this]; simp [mx_rv, Value.category, mx_ct]; omega
  | .inr (.inl x) :: as => by
    have := mx_ct_sum ad as
    simp only [List.map_cons, List.sum_cons, this]; simp [mx_rv, Value.category, mx_ct]; omega
  | .inr (.inr none) :: as => by
    have := mx_ct_sum ad as
    simp only [List.map_cons, List.sum_cons, this]; simp [mx_rv, Value.category, mx_ct]; omega
  | .inr (.inr (some x)) :: as => by
    have := mx_ct_sum ad as
    simp only [List.map_cons, List.sum_cons, this]; simp [mx_rv, Value.category, mx_ct]; omega
theorem mx_tk_st {β : Type} : ∀ (n : Nat) {as st : List mx_V} {K : List mx_V → List mx_V → Option β} {x : β}, mx_tk n as st K = some x → ∃ as' st', as'.length = n ∧ st = as'.reverse ++ st' ∧ K (as' ++ as) st' = some x
  | 0, as, st, K, x, h => ⟨[], st, rfl, rfl, h⟩
  | n + 1, as, [], K, x, h => by cases h
  | n + 1, as, v :: st, K, x, h => by
    obtain ⟨as', st', h1, h2, h3⟩ := mx_tk_st n (as := v :: as) (st := st) h
    exact ⟨as' ++ [v], st', by simp [h1], by simp [h2], by simpa using h3⟩
section MxSnd
variable {σ : Type} (l : Launch) (cd : Nat → mx_T) (xl : Nat → Nat) (rc : Nat → List mx_V → σ → Bool) (hop : mx_H σ) (ad : Nat → Nat) (Rl : σ → Heap → Prop) (gc gs : σ → Nat) (bs : Nat) (mE : State → Prop) (A : Nat → Prop)
variable (yN : Nat → MethodName) (cN : Nat → ByteArray) (rN : Nat → Option FieldType) (fN lN : Nat → Nat) (Ts : List Jvm.Cond) (hC : Nat → Nat → Int32 → Bool) (hC2 : Nat → Nat → Int64 → Bool) (hZ : Nat → Nat → Nat → Bool) (hM : Nat → Nat → Nat → Bool) (hL hN : Nat → Nat → Nat → Bool)
noncomputable def mx_pc (k j : Nat) : Nat := (mx_get (cd k) j).2.1
def mx_C (k : Nat) (p : Program) (R : Room) (s : State) (m : MethodId) (args : Array Value) (meth : Method) (c : Code) : Prop :=
  p.tables.exec = Jvm.exec ∧ c.code = cN k ∧ c.maxLocals = xl k ∧ meth.sig.returnType = rN k ∧ meth.locks = false ∧ s.vm.findClass (yN k).cls = some m.cls ∧ (∀ w ∈ Ts, w.before args s = true) ∧ meth.name = (yN k).name ∧ fN k ≤ R.frames ∧ lN k ≤ R.locals ∧ mE s
def mx_Q (r : Option mx_V) (s' : σ) : Array Value → State → Outcome → State → Prop := fun _ st o t => o = .returned (r.map (mx_rv ad)) ∧ Rl s' t.heap ∧ va_F A st t
def mx_P (as : List mx_V) (s : σ) : Array Value → State → Prop := va_Pc (as.map (mx_rv ad)) (fun U => Rl s U.heap ∧ mE U)
/-- from here the JVM comes to that end -/
def mx_G (k pc : Nat) (L : mx_L) (st : List mx_V) (s : σ) (r : Option mx_V) (s' : σ) : Prop := gc s ≤ gc s' ∧ gs s ≤ gs s' ∧
  ∀ (p : Program) (e : Env) (R : Room) (s0 : State) (m : MethodId) (args : Array Value) (below : List Frame) (meth : Method) (c : Code), mx_C xl mE yN cN rN fN lN Ts k p R s0 m args meth c →
  ∀ (H : Heap) (locs : List Loc) (ls : Array Slot) (c0 d0 : Nat), c0 ≤ gc s → d0 ≤ gs s → gc s' - c0 ≤ R.cells → gs s' - d0 ≤ R.slots → s0.heap.size = bs + c0 → Rl s H → va_S A s0.heap H locs → mx_LR ad ls (xl k) L →
  W p l e R s0 m args below meth c H locs (gc s - c0) (gs s - d0) (MQ below (mx_Q ad Rl A r s') args s0 (gc s' - c0) (gs s' - d0) A) (F0 m pc ls (st.map (mx_rv ad)))
/-- the rows of the heap are sound -/
def mx_HS : Prop := ∀ (k j : Nat) (L : mx_L) (st : List mx_V) (s : σ) (K : List mx_V → σ → Option (Option mx_V × σ)) (x : Option mx_V × σ), hop (mx_get (cd k) j) st s K = some x →
  ∃ st' s', K st' s' = some x ∧ ∀ r s2, mx_G l xl ad Rl gc gs bs mE A yN cN rN fN lN Ts k (mx_pc cd k (mx_get (cd k) j).2.2.1) L st' s' r s2 → mx_G l xl ad Rl gc gs bs mE A yN cN rN fN lN Ts k (mx_pc cd k j) L st s r s2
def mx_dc (k pc : Nat) (i : Instr) : Bool := decide (decode (cN k) pc = .ok (i, mx_ln i))
def mx_cl (k a : Nat) : Bool := decide (fN a + 1 ≤ fN k) && decide (8 + (xl a + 11) + lN a ≤ lN k)
/-- what a row must say -/
noncomputable def mx_ck (k : Nat) (r : mx_I) : Bool := match r with
  | (i, pc, nx, a, b, v, sw) => match i with
    | .athrow => true
    | .nop => decide (mx_pc cd k nx = pc)
    | .goto o => mx_dc cN k pc i && decide ((pc : Int) + o = (mx_pc cd k a : Nat))
    | .ifCond _ o => mx_dc cN k pc i && (decide ((pc : Int) + o = (mx_pc cd k a : Nat)) && decide (mx_pc cd k nx = pc + 3))
    | .if_icmp _ o => mx_dc cN k pc i && (decide ((pc : Int) + o = (mx_pc cd k a : Nat)) && decide (mx_pc cd k nx = pc + 3))
    | .ifnonnull o => mx_dc cN k pc i && (decide ((pc : Int) + o = (mx_pc cd k a : Nat)) && decide (mx_pc cd k nx = pc + 3))
    | .tableswitch dflt lo hi offs => decide ((decode (cN k) pc).toOption.map (fun q => q.1) = some i) && (decide ((pc : Int) + dflt = (mx_pc cd k a : Nat)) && (decide (sw.map (fun q => q.1.toInt) = (List.range (hi - lo + 1).toNat).map (fun (n : Nat) => lo + (n : Int))) && sw.all (fun q => match offs[(q.1.toInt - lo).toNat]? with
      | some o => decide ((pc : Int) + o = (mx_pc cd k q.2 : Nat))
      | none => false)))
    | .ireturn => mx_dc cN k pc i && (match rN k with
      | some .int => decide (b = 0)
      | some .boolean => decide (b = 1)
      | some .char => decide (b = 2)
      | some .byte => decide (b = 3)
      | _ => false)
    | .areturn => mx_dc cN k pc i && (match rN k with
      | some (.object _) => true
      | _ => false)
    | .return_ => mx_dc cN k pc i && decide (rN k = none)
    | .invokevirtual x => match b with
      | 0 => true
      | b + 1 => mx_dc cN k pc i && (decide (mx_pc cd k nx = pc + 3) && (mx_cl xl fN lN k a && (hM 0 a b && hL k x a)))
    | .invokespecial x => match b with
      | 0 => true
      | b + 1 => mx_dc cN k pc i && (decide (mx_pc cd k nx = pc + 3) && (mx_cl xl fN lN k a && (hM 1 a b && (hL k x a || hN k x a))))
    | .invokestatic x => match b with
      | 0 => true
      | b + 1 => mx_dc cN k pc i && (decide (mx_pc cd k nx = pc + 3) && (mx_cl xl fN lN k a && (hM 2 a (b + 1) && (hL k x a || hN k x a))))
    | .getfield _ => true
    | .putfield _ => true
    | .getstatic _ => true
    | .iaload => true
    | .iastore => true
    | .baload => true
    | .bastore => true
    | .caload => true
    | .castore => true
    | .laload => true
    | .lastore => true
    | .aaload => true
    | .aastore => true
    | .arraylength => true
    | .new _ => true
    | .newarray _ => true
    | .anewarray _ => true
    | i => mx_dc cN k pc i && (decide (mx_pc cd k nx = pc + mx_ln i) && mx_cx (hC k) (hC2 k) (hZ k) (xl k) i a v)
end MxSnd
end
section
theorem mx_sw_spec (x : Int32) : ∀ (l : List (Int32 × Nat)), (∃ t, (x, t) ∈ l ∧ ∀ (γ : Type) (K : Nat → γ) (d : γ), mx_sw x K d l = K t) ∨ ((∀ q ∈ l, q.1 ≠ x) ∧ ∀ (γ : Type) (K : Nat → γ) (d : γ), mx_sw x K d l = d)
  | [] => Or.inr ⟨fun q h => absurd h List.not_mem_nil, fun _ _ _ => rfl⟩
  | (y, t) :: l => by
    by_cases h : x = y
    · subst h
      exact Or.inl ⟨t, List.mem_cons_self, fun _ K d => by simp [mx_sw]⟩
    · rcases mx_sw_spec x l with ⟨t', h1, h2⟩ | ⟨h1, h2⟩
      · exact Or.inl ⟨t', List.mem_cons_of_mem _ h1, fun _ K d => by simp only [mx_sw, if_neg h]; exact h2 _ K d⟩
      · refine Or.inr ⟨fun q hq => ?_, fun _ K d => by simp only [mx_sw, if_neg h]; exact h2 _ K d⟩
        rcases List.mem_cons.mp hq with rfl | hq
        · exact fun e => h e.symm
        · exact h1 q hq
section MxCtl
variable {p : Program} {l : Launch} {e : Env} {R : Room} {s : State} {m : MethodId} {args : Array Value} {below : List Frame} {meth : Method} {c : Code} {H : Heap} {locs : List Loc} {cells slots : Nat} {Q : State → Prop}
variable {cc : ByteArray} {pc : Nat} {ls : Array Slot} {rest : List Value}
theorem mx_icmp_W (hx : p.tables.exec = Jvm.exec) (hb : c.code = cc) {cnd : ClassFile.Cond} {x y : Int32} {off : Int} {tgt : Nat} (hdg : decode cc pc = .ok (.if_icmp cnd off, 3)) (ht : (pc : Int) + off = (tgt : Int))
    (kt : (∀ (γ : Type) (A B : γ), mx_br cnd x y A B = A) → W p l e R s m args below meth c H locs cells slots Q (F0 m tgt ls rest)) (kf : (∀ (γ : Type) (A B : γ), mx_br cnd x y A B = B) → W p l e R s m args below meth c H locs cells slots Q (F0 m (pc + 3) ls rest)) : W p l e R s m args below meth c H locs cells slots Q (F0 m pc ls (.int y :: .int x :: rest)) := by
  cases cnd
  · exact lv_icmp_eq hx hb hdg ht (fun q => kt fun _ A B => if_pos q) (fun q => kf fun _ A B => if_neg q)
  · exact lv_icmp_ne hx hb hdg ht (fun q => kt fun _ A B => if_neg q) (fun q => kf fun _ A B => if_pos q)
  · exact lv_icmp_lt hx hb hdg ht (fun q => kt fun _ A B => if_pos q) (fun q => kf fun _ A B => if_neg q)
  · exact lv_icmp_ge hx hb hdg ht (fun q => kt fun _ A B => if_neg (Int32.not_lt.mpr q)) (fun q => kf fun _ A B => if_pos (Int32.not_le.mp q))
  · exact lv_icmp_gt hx hb hdg ht (fun q => kt fun _ A B => if_pos q) (fun q => kf fun _ A B => if_neg q)
  · exact lv_icmp_le hx hb hdg ht (fun q => kt fun _ A B => if_neg (Int32.not_lt.mpr q)) (fun q => kf fun _ A B => if_pos (Int32.not_le.mp q))
theorem mx_if_W (hx : p.tables.exec = Jvm.exec) (hb : c.code = cc) {cnd : ClassFile.Cond} {x : Int32} {off : Int} {tgt : Nat} (hdg : decode cc pc = .ok (.ifCond cnd off, 3)) (ht : (pc : Int) + off = (tgt : Int))
    (kt : (∀ (γ : Type) (A B : γ), mx_br cnd x 0 A B = A) → W p l e R s m args below meth c H locs cells slots Q (F0 m tgt ls rest)) (kf : (∀ (γ : Type) (A B : γ), mx_br cnd x 0 A B = B) → W p l e R s m args below meth c H locs cells slots Q (F0 m (pc + 3) ls rest)) : W p l e R s m args below meth c H locs cells slots Q (F0 m pc ls (.int x :: rest)) := by
  cases cnd
  · exact lv_if_eq hx hb hdg ht (fun q => kt fun _ A B => if_pos q) (fun q => kf fun _ A B => if_neg q)
  · exact lv_if_ne hx hb hdg ht (fun q => kt fun _ A B => if_neg q) (fun q => kf fun _ A B => if_pos q)
  · exact lv_if_lt hx hb hdg ht (fun q => kt fun _ A B => if_pos q) (fun q => kf fun _ A B => if_neg q)
  · exact lv_if_ge hx hb hdg ht (fun q => kt fun _ A B => if_neg (Int32.not_lt.mpr q)) (fun q => kf fun _ A B => if_pos (Int32.not_le.mp q))
  · exact lv_if_gt hx hb hdg ht (fun q => kt fun _ A B => if_pos q) (fun q => kf fun _ A B => if_neg q)
  · exact lv_if_le hx hb hdg ht (fun q => kt fun _ A B => if_neg (Int32.not_lt.mpr q)) (fun q => kf fun _ A B => if_pos (Int32.not_le.mp q))
/-- behind a call -/
theorem mx_call {σ : Type} {ad : Nat → Nat} {Rl : σ → Heap → Prop} {A : Nat → Prop} {mc ms : Nat} {r : Option mx_V} {s' : σ} {a : Array Value} {st0 : List Value}
    (hr : va_Run p l e R s m args below meth c H locs cells slots mc ms (F0 m pc ls st0) rest (mx_Q ad Rl A r s' a) A) (hS : va_S A s.heap H locs)
    (kk : ∀ (H1 : Heap) (locs1 : List Loc), Rl s' H1 → va_S A s.heap H1 locs1 → W p l e R s m args below meth c H1 locs1 (cells + mc) (slots + ms) Q (F0 m (pc + 3) ls ((r.map (mx_rv ad)).toList ++ rest))) : W p l e R s m args below meth c H locs cells slots Q (F0 m pc ls st0) := by
  intro T hT X
  obtain ⟨v, st₀, t, T', L, h0, X', hL, e1, e2, ⟨hv, hp, hz, hk⟩, st⟩ := hr T hT X
  cases hv
  rw [h0] at hz hk
  obtain ⟨t2, a1, b1⟩ := kk T'.heap (locs ++ L) (by rw [e1]; exact hp) ⟨Nat.le_trans hS.1 (by rw [e1]; exact hz), fun q h1 h2 => by rw [e1, hk q (Nat.lt_of_lt_of_le h1 hS.1) h2]; exact hS.2.1 q h1 h2, fun q hq => by
      rcases List.mem_append.mp hq with h | h
      · exact hS.2.2 q h
      · exact hL q h⟩ T' rfl X'
  exact ⟨t2, st t2 a1, b1⟩
end MxCtl
section MxSnd2
variable {σ : Type} {l : Launch} {cd : Nat → mx_T} {xl : Nat → Nat} {rc : Nat → List mx_V → σ → Bool} {hop : mx_H σ} {ad : Nat → Nat} {Rl : σ → Heap → Prop} {gc gs : σ → Nat} {bs : Nat} {mE : State → Prop} {A : Nat → Prop}
variable {yN : Nat → MethodName} {cN : Nat → ByteArray} {rN : Nat → Option FieldType} {fN lN : Nat → Nat} {Ts : List Jvm.Cond} {hC : Nat → Nat → Int32 → Bool} {hC2 : Nat → Nat → Int64 → Bool} {hZ : Nat → Nat → Nat → Bool} {hM : Nat → Nat → Nat → Bool} {hL hN : Nat → Nat → Nat → Bool} {iN : Nat → Bool}
theorem mx_met {a : Nat} {as : List mx_V} {s s' : σ} {r : Option mx_V} (G : mx_G l xl ad Rl gc gs bs mE A yN cN rN fN lN Ts a (mx_pc cd a 0) (mx_en (xl a) as) [] s r s') (hRz : ∀ s H, Rl s H → H.size = bs + gc s) (h0 : mx_pc cd a 0 = 0) (hct : mx_ct as ≤ xl a) (hpl : plainName (yN a).cls = true) :
    Met l (yN a) (.code (yN a) (cN a) (xl a) (rN a) :: Ts) { frames := fN a, cells := gc s' - gc s, slots := gs s' - gs s, locals := lN a } (mx_P ad Rl mE as s) (mx_Q ad Rl A r s') (gc s' - gc s) (gs s' - gs s) A := by
  refine Met.ofW (cc := cN a) (maxL := xl a) (ret := rN a) hpl rfl ?_
  intro p e s0 m args below meth c s₁ B hml hv
  obtain ⟨rfl, hR, hE⟩ := hv
  have hts := atoms_spec (ws := .code (yN a) (cN a) (xl a) (rN a) :: Ts) B.pre
  have C : mx_C xl mE yN cN rN fN lN Ts a p (headSpec (.code (yN a) (cN a) (xl a) (rN a) :: Ts) { frames := fN a, cells := gc s' - gc s, slots := gs s' - gs s, locals := lN a }).room s0 m (as.map (mx_rv ad)).toArray meth c :=
    ⟨B.exec, B.bytes, hml, B.returns, B.notSynchronized, findClass_of_methodNamed B.named, fun w h => hts w (List.mem_cons_of_mem _ h), (name_of_methodNamed B.named B.method).1, Nat.le_refl _, Nat.le_refl _, hE⟩
  rw [lg_entry_eq]
  have hl := lv_entry (as.map (mx_rv ad)) (n := xl a) (by rw [mx_ct_sl]; exact hct)
  have key := G.2.2 p e _ s0 m _ below meth c C s0.heap [] _ (gc s) (gs s) (Nat.le_refl _) (Nat.le_refl _) (Nat.le_refl _) (Nat.le_refl _) (hRz _ _ hR) hR va_S.rf ⟨hl.1, hl.2.1, fun i v hi => hl.2.2 (i, mx_rv ad v) (by have q := mx_en_at ad as _ 0 i v hi; rw [Nat.zero_add] at q; exact q)⟩
  rw [h0, Nat.sub_self, Nat.sub_self] at key
  exact key
set_option maxHeartbeats 4000000 in
theorem mx_snd (hRz : ∀ s H, Rl s H → H.size = bs + gc s) (hHS : mx_HS l cd xl hop ad Rl gc gs bs mE A yN cN rN fN lN Ts) (hck : ∀ k j, mx_ck cd xl cN rN fN lN hC hC2 hZ hM hL hN k (mx_get (cd k) j) = true) (h0 : ∀ k, mx_pc cd k 0 = 0)
    (hCT : ∀ k x v, hC k x v = true → Jvm.Cond.constant (yN k).cls x v ∈ Ts) (hCT2 : ∀ k x v, hC2 k x v = true → Jvm.Cond.constantLong (yN k).cls x v ∈ Ts) (hG : GoodIn Ts Ts) (hst : ∀ k x a, hZ k x a = true → ∀ U, mE U → ∃ tx, vk_R (yN k).cls x tx (ad a) U) (hLT : ∀ k x a, hL k x a = true → Jvm.Cond.methodLink (yN k).cls x (yN a) ∈ Ts) (hNT : ∀ k x a, hN k x a = true → ∀ U, mE U → ∃ host, va_Nw (.methodLinkNest (yN k).cls x (yN a) host) U)
    (hMT : ∀ q a b, hM q a b = true → Jvm.Cond.code (yN a) (cN a) (xl a) (rN a) ∈ Ts ∧ Jvm.Cond.initialized (yN a).cls ∈ Ts ∧ (yN a).cls ≠ "java/lang/invoke/MethodHandle" ∧ (yN a).cls ≠ "java/lang/invoke/VarHandle" ∧ (parseMethodDescriptor (yN a).desc).map (fun d => d.parameters.length) = some b ∧ plainName (yN a).cls = true ∧ (q = 0 → Jvm.Cond.instanceMethod (yN a) ∈ Ts ∧ Jvm.Cond.selects (yN a).cls (yN a) (yN a) ∈ Ts ∧ iN a = true) ∧ (q = 1 → Jvm.Cond.instanceMethod (yN a) ∈ Ts ∧ (yN a).name = "<init>" ∧ rN a = none ∧ iN a = true) ∧ (q = 2 → Jvm.Cond.static (yN a) ∈ Ts))
    (hrc : ∀ a as s, rc a as s = true → mx_ct as ≤ xl a ∧ (iN a = true → ∃ c as', as = .inr (.inr (some c)) :: as' ∧ ∀ H U, Rl s H → mE U → ∃ cell : Cell, H[ad c]? = some cell ∧ cell.vm.isStatics = false ∧ U.vm.findClass (yN a).cls = some cell.cls))
    (hE1 : ∀ (s0 U : State) (locs : List Loc), mE s0 → va_S A s0.heap U.heap locs → s0.WarmedH U.vm → mE U) (hE2 : ∀ (U : State) (g : JFrame) (mk : MethodId) (a : Array Value), mE U → mE (U.calling g mk a)) :
    ∀ (n k j : Nat) (L : mx_L) (st : List mx_V) (s : σ) (r : Option mx_V) (s' : σ), mx_ex cd xl rc hop n k j L st s = some (r, s') → mx_G l xl ad Rl gc gs bs mE A yN cN rN fN lN Ts k (mx_pc cd k j) L st s r s' := by
  intro n
  induction n with
  | zero => intro k j L st s r s' h; cases h
  | succ n ih =>
  intro k j L st s r s' e
  have hc := hck k j
  have hHk := hHS k j L st s
  have e : mx_b xl rc hop (mx_ex cd xl rc hop n) (mx_ex cd xl rc hop n) (mx_ex cd xl rc hop n) k (mx_get (cd k) j) L st s = some (r, s') := e
  have hpc : mx_pc cd k j = (mx_get (cd k) j).2.1 := rfl
  rw [hpc] at hHk ⊢
  generalize mx_get (cd k) j = row at e hc hHk ⊢
  clear hpc
  obtain ⟨i, pc, nx, a, b, v, sw⟩ := row
  have viaHop : hop (i, pc, nx, a, b, v, sw) st s (fun st s => mx_ex cd xl rc hop n k nx L st s) = some (r, s') → mx_G l xl ad Rl gc gs bs mE A yN cN rN fN lN Ts k pc L st s r s' := by
    intro e
    obtain ⟨st', s1, h1, h2⟩ := hHk _ _ e
    exact h2 r s' (ih _ _ _ _ _ _ _ h1)
  have viaPu : mx_pu i a v L st (fun L st => mx_ex cd xl rc hop n k nx L st s) = some (r, s') → decode (cN k) pc = .ok (i, mx_ln i) → mx_pc cd k nx = pc + mx_ln i → mx_cx (hC k) (hC2 k) (hZ k) (xl k) i a v = true → mx_G l xl ad Rl gc gs bs mE A yN cN rN fN lN Ts k pc L st s r s' := by
    intro e hd hnx hcx
    have key : ∃ L' st', mx_ex cd xl rc hop n k nx L' st' s = some (r, s') := by
      obtain ⟨L', st', h1, -⟩ := mx_pu_sup e
      exact ⟨L', st', h1⟩
    obtain ⟨L1, st1, h1⟩ := key
    refine ⟨(ih _ _ _ _ _ _ _ h1).1, (ih _ _ _ _ _ _ _ h1).2.1, ?_⟩
    intro p en R s0 m args below meth c C H locs ls c0 d0 g1 g2 g3 g4 g5 hR hS hl
    obtain ⟨L', st', h1, h2⟩ := mx_pu_W (p := p) (l := l) (e := en) (R := R) (s := s0) (m := m) (args := args) (below := below) (meth := meth) (c := c) (H := H) (locs := locs) (cells := gc s - c0) (slots := gs s - d0) (Q := MQ below (mx_Q ad Rl A r s') args s0 (gc s' - c0) (gs s' - d0) A) (cc := cN k) (ad := ad) (hc := hC k) (hc2 := hC2 k) (hs := hZ k) (own := (yN k).cls) (nL := xl k) (pc := pc) e
    have G := ih _ _ _ _ _ _ _ h1
    obtain ⟨hx, hb, hml, hr, hlk, hown, hts, hnm, hfr, hlo, hE⟩ := id C
    refine h2 hx hb hown (fun x v hww => hts _ (hCT k x v hww)) (fun x v hww => hts _ (hCT2 k x v hww)) (fun x a h => hst _ _ _ h _ hE) hcx hd hl (fun ls' hl' => ?_)
    have G2 := G.2.2 p en R s0 m args below meth c C H locs ls' c0 d0 g1 g2 g3 g4 g5 hR hS hl'
    rw [hnx] at G2
    exact G2
  have viaCall : ∀ (nb : Nat), mx_tk (b) [] st (fun as st => cond (rc a as s && Nat.ble (mx_ct st) 8) ((mx_ex cd xl rc hop n a 0 (mx_en (xl a) as) [] s).bind fun q => mx_ex cd xl rc hop n k nx L (q.1.toList ++ st) q.2) none) = some (r, s') → mx_pc cd k nx = pc + 3 → plainName (yN a).cls = true →
      (∀ (as st' : List mx_V) (q1 : Option mx_V) (s1 : σ), as.length = b → st = as.reverse ++ st' → rc a as s = true → mx_ct st' ≤ 8 →
        Met l (yN a) (.code (yN a) (cN a) (xl a) (rN a) :: Ts) { frames := fN a, cells := gc s1 - gc s, slots := gs s1 - gs s, locals := lN a } (mx_P ad Rl mE as s) (mx_Q ad Rl A q1 s1) (gc s1 - gc s) (gs s1 - gs s) A →
        ∀ (p : Program) (en : Env) (R : Room) (s0 : State) (m : MethodId) (args : Array Value) (below : List Frame) (meth : Method) (c : Code), mx_C xl mE yN cN rN fN lN Ts k p R s0 m args meth c → ∀ (H : Heap) (locs : List Loc) (ls : Array Slot) (cells slots : Nat), cells + (gc s1 - gc s) ≤ R.cells ∧ slots + (gs s1 - gs s) ≤ R.slots → Rl s H → va_S A s0.heap H locs → ls.size = xl k →
        FrameBlind (mx_P ad Rl mE as s) → (∀ U : State, U.heap = H → s0.WarmedH U.vm → mx_P ad Rl mE as s (as.map (mx_rv ad)).toArray U) →
        va_Run p l en R s0 m args below meth c H locs cells slots (gc s1 - gc s) (gs s1 - gs s) (F0 m pc ls (st.map (mx_rv ad))) (st'.map (mx_rv ad)) (mx_Q ad Rl A q1 s1 (as.map (mx_rv ad)).toArray) A) →
      mx_G l xl ad Rl gc gs bs mE A yN cN rN fN lN Ts k pc L st s r s' := by
    intro nb e hnx hpl run
    obtain ⟨as, st', h1, h2, h3⟩ := mx_tk_st _ e
    rw [List.append_nil] at h3
    cases hg : (rc a as s && Nat.ble (mx_ct st') 8) with
    | false => rw [hg] at h3; cases h3
    | true =>
    rw [hg] at h3
    rw [Bool.and_eq_true] at hg
    have hg2 : mx_ct st' ≤ 8 := Nat.le_of_ble_eq_true hg.2
    obtain ⟨⟨q1, s1⟩, h4, h5⟩ := Option.bind_eq_some_iff.mp h3
    have h5 : mx_ex cd xl rc hop n k nx L (q1.toList ++ st') s1 = some (r, s') := h5
    have G1 := ih _ _ _ _ _ _ _ h4
    have G2 := ih _ _ _ _ _ _ _ h5
    refine ⟨Nat.le_trans G1.1 G2.1, Nat.le_trans G1.2.1 G2.2.1, ?_⟩
    intro p en R s0 m args below meth c C H locs ls c0 d0 g1 g2 g3 g4 g5 hR hS hl
    have z1 := G1.1
    have z2 := G1.2.1
    have z3 := G2.1
    have z4 := G2.2.1
    have hE := C.2.2.2.2.2.2.2.2.2.2
    refine mx_call (run as st' q1 s1 h1 h2 hg.1 hg2 (mx_met G1 hRz (h0 a) (hrc _ _ _ hg.1).1 hpl) p en R s0 m args below meth c C H locs ls (gc s - c0) (gs s - d0) ⟨by omega, by omega⟩ hR hS hl.1 (fun a U g mk q => ⟨q.1, q.2.1, hE2 _ _ _ _ q.2.2⟩) (fun U hU hW => ⟨rfl, by rw [hU]; exact hR, hE1 s0 U locs hE (by rw [hU]; exact hS) hW⟩)) hS (fun H1 locs1 hR1 hS1 => ?_)
    have key := G2.2.2 p en R s0 m args below meth c C H1 locs1 ls c0 d0 (by omega) (by omega) g3 g4 g5 hR1 hS1 hl
    rw [hnx] at key
    refine W.cs (cells' := gc s1 - c0) (slots' := gs s1 - d0) (by omega) (by omega) ?_
    rw [List.map_append] at key
    cases q1 with
    | none => exact key
    | some q1 => exact key
  have isTF : ∀ {cnd : ClassFile.Cond} {x y : Int32}, (∀ (γ : Type) (A B : γ), mx_br cnd x y A B = A) → (∀ (γ : Type) (A B : γ), mx_br cnd x y A B = B) → False := by
    intro cnd x y h1 h2
    have h3 := h1 Bool true false
    rw [h2 Bool true false] at h3
    cases h3
  have pure : mx_b xl rc hop (mx_ex cd xl rc hop n) (mx_ex cd xl rc hop n) (mx_ex cd xl rc hop n) k (i, pc, nx, a, b, v, sw) L st s = mx_pu i a v L st (fun L st => mx_ex cd xl rc hop n k nx L st s) → mx_ck cd xl cN rN fN lN hC hC2 hZ hM hL hN k (i, pc, nx, a, b, v, sw) = (mx_dc cN k pc i && (decide (mx_pc cd k nx = pc + mx_ln i) && mx_cx (hC k) (hC2 k) (hZ k) (xl k) i a v)) → mx_G l xl ad Rl gc gs bs mE A yN cN rN fN lN Ts k pc L st s r s' := by
    intro q1 q2
    rw [q1] at e
    rw [q2] at hc
    simp only [Bool.and_eq_true] at hc
    exact viaPu e (of_decide_eq_true hc.1) (of_decide_eq_true hc.2.1) hc.2.2
  have ends : ∀ {v : Option mx_V}, some (v, s) = some (r, s') → v = r ∧ s = s' := by
    intro v h
    cases h
    exact ⟨rfl, rfl⟩
  cases i with
  | athrow => cases e
  | nop =>
    have G := ih _ _ _ _ _ _ _ (show mx_ex cd xl rc hop n k nx (mx_mk a L) st s = some (r, s') from e)
    have hp : mx_pc cd k nx = pc := of_decide_eq_true hc
    rw [hp] at G
    exact ⟨G.1, G.2.1, fun p en R s0 m args below meth c C H locs ls c0 d0 g1 g2 g3 g4 g5 hR hS hl => G.2.2 p en R s0 m args below meth c C H locs ls c0 d0 g1 g2 g3 g4 g5 hR hS (mx_LR_mk a hl)⟩
  | goto o =>
    have G := ih _ _ _ _ _ _ _ (show mx_ex cd xl rc hop n k a L st s = some (r, s') from e)
    have hc : (mx_dc cN k pc (.goto o) && decide ((pc : Int) + o = (mx_pc cd k a : Nat))) = true := hc
    simp only [Bool.and_eq_true] at hc
    have hd : decode (cN k) pc = .ok (.goto o, 3) := of_decide_eq_true hc.1
    exact ⟨G.1, G.2.1, fun p en R s0 m args below meth c C H locs ls c0 d0 g1 g2 g3 g4 g5 hR hS hl => lv_goto C.1 C.2.1 hd (of_decide_eq_true hc.2) (G.2.2 p en R s0 m args below meth c C H locs ls c0 d0 g1 g2 g3 g4 g5 hR hS hl)⟩
  | ifCond cnd o =>
    have hc : (mx_dc cN k pc (.ifCond cnd o) && (decide ((pc : Int) + o = (mx_pc cd k a : Nat)) && decide (mx_pc cd k nx = pc + 3))) = true := hc
    simp only [Bool.and_eq_true] at hc
    have hd : decode (cN k) pc = .ok (.ifCond cnd o, 3) := of_decide_eq_true hc.1
    have hnx := of_decide_eq_true hc.2.2
    obtain ⟨z, st1, e1, e2⟩ := mx_1i_sup (show mx_1i st (fun x st => mx_br cnd x 0 (mx_ex cd xl rc hop n k a L st s) (mx_ex cd xl rc hop n k nx L st s)) = some (r, s') from e)
    subst e1
    rcases mx_br_cases cnd z 0 (mx_ex cd xl rc hop n k a L st1 s) (mx_ex cd xl rc hop n k nx L st1 s) with ⟨h1, h2⟩ | ⟨h1, h2⟩
    · rw [h1] at e2
      have G := ih _ _ _ _ _ _ _ e2
      exact ⟨G.1, G.2.1, fun p en R s0 m args below meth c C H locs ls c0 d0 g1 g2 g3 g4 g5 hR hS hl => mx_if_W C.1 C.2.1 hd (of_decide_eq_true hc.2.1) (fun _ => G.2.2 p en R s0 m args below meth c C H locs ls c0 d0 g1 g2 g3 g4 g5 hR hS hl) (fun q => (isTF h2 q).elim)⟩
    · rw [h1] at e2
      have G := ih _ _ _ _ _ _ _ e2
      rw [hnx] at G
      exact ⟨G.1, G.2.1, fun p en R s0 m args below meth c C H locs ls c0 d0 g1 g2 g3 g4 g5 hR hS hl => mx_if_W C.1 C.2.1 hd (of_decide_eq_true hc.2.1) (fun q => (isTF q h2).elim) (fun _ => G.2.2 p en R s0 m args below meth c C H locs ls c0 d0 g1 g2 g3 g4 g5 hR hS hl)⟩
  | if_icmp cnd o =>
    have hc : (mx_dc cN k pc (.if_icmp cnd o) && (decide ((pc : Int) + o = (mx_pc cd k a : Nat)) && decide (mx_pc cd k nx = pc + 3))) = true := hc
    simp only [Bool.and_eq_true] at hc
    have hd : decode (cN k) pc = .ok (.if_icmp cnd o, 3) := of_decide_eq_true hc.1
    have hnx := of_decide_eq_true hc.2.2
    obtain ⟨z, st1, e1, e2⟩ := mx_1i_sup (show mx_1i st (fun y st => mx_1i st fun x st => mx_br cnd x y (mx_ex cd xl rc hop n k a L st s) (mx_ex cd xl rc hop n k nx L st s)) = some (r, s') from e)
    obtain ⟨w, st2, e3, e4⟩ := mx_1i_sup e2
    clear e2 e viaHop viaPu viaCall pure hHk
    subst e3; subst e1
    rcases mx_br_cases cnd w z (mx_ex cd xl rc hop n k a L st2 s) (mx_ex cd xl rc hop n k nx L st2 s) with ⟨h1, h2⟩ | ⟨h1, h2⟩
    · rw [h1] at e4
      have G := ih _ _ _ _ _ _ _ e4
      exact ⟨G.1, G.2.1, fun p en R s0 m args below meth c C H locs ls c0 d0 g1 g2 g3 g4 g5 hR hS hl => mx_icmp_W C.1 C.2.1 hd (of_decide_eq_true hc.2.1) (fun _ => G.2.2 p en R s0 m args below meth c C H locs ls c0 d0 g1 g2 g3 g4 g5 hR hS hl) (fun q => (isTF h2 q).elim)⟩
    · rw [h1] at e4
      have G := ih _ _ _ _ _ _ _ e4
      rw [hnx] at G
      exact ⟨G.1, G.2.1, fun p en R s0 m args below meth c C H locs ls c0 d0 g1 g2 g3 g4 g5 hR hS hl => mx_icmp_W C.1 C.2.1 hd (of_decide_eq_true hc.2.1) (fun q => (isTF q h2).elim) (fun _ => G.2.2 p en R s0 m args below meth c C H locs ls c0 d0 g1 g2 g3 g4 g5 hR hS hl)⟩
  | ifnonnull o =>
    have hc : (mx_dc cN k pc (.ifnonnull o) && (decide ((pc : Int) + o = (mx_pc cd k a : Nat)) && decide (mx_pc cd k nx = pc + 3))) = true := hc
    simp only [Bool.and_eq_true] at hc
    have hd : decode (cN k) pc = .ok (.ifnonnull o, 3) := of_decide_eq_true hc.1
    have hnx := of_decide_eq_true hc.2.2
    obtain ⟨z, st1, e1, e2⟩ := mx_1a_sup (show mx_1a st (fun x st => match x with
      | none => mx_ex cd xl rc hop n k nx L st s
      | some _ => mx_ex cd xl rc hop n k a L st s) = some (r, s') from e)
    subst e1
    cases z with
    | none =>
      have G := ih _ _ _ _ _ _ _ (show mx_ex cd xl rc hop n k nx L st1 s = some (r, s') from e2)
      rw [hnx] at G
      exact ⟨G.1, G.2.1, fun p en R s0 m args below meth c C H locs ls c0 d0 g1 g2 g3 g4 g5 hR hS hl => lv_ifnonnullN C.1 C.2.1 hd (G.2.2 p en R s0 m args below meth c C H locs ls c0 d0 g1 g2 g3 g4 g5 hR hS hl)⟩
    | some z =>
      have G := ih _ _ _ _ _ _ _ (show mx_ex cd xl rc hop n k a L st1 s = some (r, s') from e2)
      exact ⟨G.1, G.2.1, fun p en R s0 m args below meth c C H locs ls c0 d0 g1 g2 g3 g4 g5 hR hS hl => lv_ifnonnull C.1 C.2.1 hd (of_decide_eq_true hc.2.1) (G.2.2 p en R s0 m args below meth c C H locs ls c0 d0 g1 g2 g3 g4 g5 hR hS hl)⟩
  | tableswitch dflt lo hi offs =>
    have hc : (decide ((decode (cN k) pc).toOption.map (fun q => q.1) = some (.tableswitch dflt lo hi offs)) && (decide ((pc : Int) + dflt = (mx_pc cd k a : Nat)) && (decide (sw.map (fun q => q.1.toInt) = (List.range (hi - lo + 1).toNat).map (fun (n : Nat) => lo + (n : Int))) && sw.all (fun q => match offs[(q.1.toInt - lo).toNat]? with
      | some o => decide ((pc : Int) + o = (mx_pc cd k q.2 : Nat))
      | none => false)))) = true := hc
    simp only [Bool.and_eq_true] at hc
    obtain ⟨hc1, hc2, hc3, hc4⟩ := hc
    have hd0 := of_decide_eq_true hc1
    obtain ⟨len, hd⟩ : ∃ len, decode (cN k) pc = .ok (.tableswitch dflt lo hi offs, len) := by
      cases hq : decode (cN k) pc with
      | error x => rw [hq] at hd0; cases hd0
      | ok x =>
        rw [hq] at hd0
        have h2 : x.1 = .tableswitch dflt lo hi offs := Option.some.inj hd0
        exact ⟨x.2, by rw [← h2]⟩
    have hkeys := of_decide_eq_true hc3
    obtain ⟨z, st1, e1, e2⟩ := mx_1i_sup (show mx_1i st (fun x st => mx_sw x (fun t => mx_ex cd xl rc hop n k t L st s) (mx_ex cd xl rc hop n k a L st s) sw) = some (r, s') from e)
    subst e1
    rcases mx_sw_spec z sw with ⟨t, h1, h2⟩ | ⟨h1, h2⟩
    · rw [h2] at e2
      have G := ih _ _ _ _ _ _ _ e2
      have hz : z.toInt ∈ sw.map (fun q => q.1.toInt) := List.mem_map.mpr ⟨_, h1, rfl⟩
      rw [hkeys] at hz
      obtain ⟨nn, hn1, hn2⟩ := List.mem_map.mp hz
      have hn1 := List.mem_range.mp hn1
      have hq := List.all_eq_true.mp hc4 _ h1
      dsimp only at hq
      cases ho : offs[(z.toInt - lo).toNat]? with
      | none => rw [ho] at hq; cases hq
      | some o =>
        rw [ho] at hq
        exact ⟨G.1, G.2.1, fun p en R s0 m args below meth c C H locs ls c0 d0 g1 g2 g3 g4 g5 hR hS hl => lv_tableIn C.1 C.2.1 hd (by omega) (by omega) ho (of_decide_eq_true hq) (G.2.2 p en R s0 m args below meth c C H locs ls c0 d0 g1 g2 g3 g4 g5 hR hS hl)⟩
    · rw [h2] at e2
      have G := ih _ _ _ _ _ _ _ e2
      have hout : z.toInt < lo ∨ hi < z.toInt := by
        by_cases q : z.toInt < lo
        · exact Or.inl q
        · by_cases q2 : hi < z.toInt
          · exact Or.inr q2
          · have hm : z.toInt ∈ (List.range (hi - lo + 1).toNat).map (fun (n : Nat) => lo + (n : Int)) := List.mem_map.mpr ⟨(z.toInt - lo).toNat, List.mem_range.mpr (by omega), by omega⟩
            rw [← hkeys] at hm
            obtain ⟨q3, hq3, hq4⟩ := List.mem_map.mp hm
            exact absurd (Int32.toInt_inj.mp hq4) (h1 q3 hq3)
      exact ⟨G.1, G.2.1, fun p en R s0 m args below meth c C H locs ls c0 d0 g1 g2 g3 g4 g5 hR hS hl => lv_tableOut C.1 C.2.1 hd hout (of_decide_eq_true hc2) (G.2.2 p en R s0 m args below meth c C H locs ls c0 d0 g1 g2 g3 g4 g5 hR hS hl)⟩
  | ireturn =>
    have hc : (mx_dc cN k pc .ireturn && (match rN k with
      | some .int => decide (b = 0)
      | some .boolean => decide (b = 1)
      | some .char => decide (b = 2)
      | some .byte => decide (b = 3)
      | _ => false)) = true := hc
    simp only [Bool.and_eq_true] at hc
    have hd : decode (cN k) pc = .ok (.ireturn, 1) := of_decide_eq_true hc.1
    match st, e with
    | [.inl x], e =>
      have e : mx_rt b x (some (some (.inl x), s)) = some (r, s') := e
      have hc2 := hc.2
      split at hc2
      · next hrt =>
        have hb := of_decide_eq_true hc2
        subst hb
        obtain ⟨rfl, rfl⟩ := ends e
        exact ⟨Nat.le_refl _, Nat.le_refl _, fun p en R s0 m args below meth c C H locs ls c0 d0 g1 g2 g3 g4 g5 hR hS hl => W.iret C.1 C.2.1 (C.2.2.2.1.trans hrt) (fun t ht _ => ⟨rfl, by rw [ht]; exact hR, hS.F ht⟩) hS.2.2 hd C.2.2.2.2.1⟩
      · next hrt =>
        have hb := of_decide_eq_true hc2
        subst hb
        have e3 : (x = 0 ∨ x = 1) ∧ some (some (.inl x), s) = some (r, s') := by
          unfold mx_rt at e
          by_cases q0 : x = 0
          · rw [if_pos q0] at e; exact ⟨Or.inl q0, e⟩
          · rw [if_neg q0] at e
            by_cases q1 : x = 1
            · rw [if_pos q1] at e; exact ⟨Or.inr q1, e⟩
            · rw [if_neg q1] at e; cases e
        obtain ⟨rfl, rfl⟩ := ends e3.2
        exact ⟨Nat.le_refl _, Nat.le_refl _, fun p en R s0 m args below meth c C H locs ls c0 d0 g1 g2 g3 g4 g5 hR hS hl => W.zret C.1 C.2.1 (C.2.2.2.1.trans hrt) (by rcases e3.1 with rfl | rfl <;> rfl) (fun t ht _ => ⟨rfl, by rw [ht]; exact hR, hS.F ht⟩) hS.2.2 hd C.2.2.2.2.1⟩
      · next hrt =>
        have hb := of_decide_eq_true hc2
        subst hb
        have e3 : (x.toUInt32.toUInt16.toUInt32.toInt32 = x) ∧ some (some (.inl x), s) = some (r, s') := by
          unfold mx_rt at e
          by_cases q0 : x.toUInt32.toUInt16.toUInt32.toInt32 = x
          · rw [if_pos q0] at e; exact ⟨q0, e⟩
          · rw [if_neg q0] at e; cases e
        obtain ⟨rfl, rfl⟩ := ends e3.2
        exact ⟨Nat.le_refl _, Nat.le_refl _, fun p en R s0 m args below meth c C H locs ls c0 d0 g1 g2 g3 g4 g5 hR hS hl => W.zret C.1 C.2.1 (C.2.2.2.1.trans hrt) (congrArg Value.int e3.1) (fun t ht _ => ⟨rfl, by rw [ht]; exact hR, hS.F ht⟩) hS.2.2 hd C.2.2.2.2.1⟩
      · next hrt =>
        have hb := of_decide_eq_true hc2
        subst hb
        have e3 : (x.toInt8.toInt32 = x) ∧ some (some (.inl x), s) = some (r, s') := by
          unfold mx_rt at e
          by_cases q0 : x.toInt8.toInt32 = x
          · rw [if_pos q0] at e; exact ⟨q0, e⟩
          · rw [if_neg q0] at e; cases e
        obtain ⟨rfl, rfl⟩ := ends e3.2
        exact ⟨Nat.le_refl _, Nat.le_refl _, fun p en R s0 m args below meth c C H locs ls c0 d0 g1 g2 g3 g4 g5 hR hS hl => W.zret C.1 C.2.1 (C.2.2.2.1.trans hrt) (congrArg Value.int e3.1) (fun t ht _ => ⟨rfl, by rw [ht]; exact hR, hS.F ht⟩) hS.2.2 hd C.2.2.2.2.1⟩
      · cases hc2
    | [], e => cases e
    | .inr _ :: _, e => cases e
    | .inl _ :: _ :: _, e => cases e
  | areturn =>
    have hc : (mx_dc cN k pc .areturn && (match rN k with
      | some (.object _) => true
      | _ => false)) = true := hc
    simp only [Bool.and_eq_true] at hc
    have hd : decode (cN k) pc = .ok (.areturn, 1) := of_decide_eq_true hc.1
    match st, e with
    | [.inr (.inr x)], e =>
      have e : some (some (.inr (.inr x)), s) = some (r, s') := e
      have hc2 := hc.2
      split at hc2
      · next nm hrt =>
        obtain ⟨rfl, rfl⟩ := ends e
        exact ⟨Nat.le_refl _, Nat.le_refl _, fun p en R s0 m args below meth c C H locs ls c0 d0 g1 g2 g3 g4 g5 hR hS hl => W.aret C.1 C.2.1 (C.2.2.2.1.trans hrt) (Or.inl ⟨_, rfl⟩) (by cases x with
          | none => exact Or.inl rfl
          | some x => exact Or.inr ⟨_, rfl⟩) (fun t ht _ => ⟨rfl, by rw [ht]; exact hR, hS.F ht⟩) hS.2.2 hd C.2.2.2.2.1⟩
      · cases hc2
    | [], e => cases e
    | .inl _ :: _, e => cases e
    | .inr (.inl _) :: _, e => cases e
    | .inr (.inr _) :: _ :: _, e => cases e
  | return_ =>
    have hc : (mx_dc cN k pc .return_ && decide (rN k = none)) = true := hc
    simp only [Bool.and_eq_true] at hc
    have hd : decode (cN k) pc = .ok (.return_, 1) := of_decide_eq_true hc.1
    match st, e with
    | [], e =>
      have e : some (none, s) = some (r, s') := e
      obtain ⟨rfl, rfl⟩ := ends e
      exact ⟨Nat.le_refl _, Nat.le_refl _, fun p en R s0 m args below meth c C H locs ls c0 d0 g1 g2 g3 g4 g5 hR hS hl => W.vret C.1 C.2.1 (C.2.2.2.1.trans (of_decide_eq_true hc.2)) (fun t ht _ => ⟨rfl, by rw [ht]; exact hR, hS.F ht⟩) hS.2.2 hd C.2.2.2.2.1⟩
    | _ :: _, e => cases e
  | invokevirtual x => cases b with
    | zero => exact viaHop e
    | succ b =>
      have hc : (mx_dc cN k pc (.invokevirtual x) && (decide (mx_pc cd k nx = pc + 3) && (mx_cl xl fN lN k a && (hM 0 a b && hL k x a)))) = true := hc
      simp only [Bool.and_eq_true] at hc
      have hd : decode (cN k) pc = .ok (.invokevirtual x, 3) := of_decide_eq_true hc.1
      obtain ⟨kc6, kc7⟩ : (fN a + 1 ≤ fN k) ∧ (8 + (xl a + 11) + lN a ≤ lN k) := by
        have q := hc.2.2.1
        simp only [mx_cl, Bool.and_eq_true, decide_eq_true_eq] at q
        exact q
      obtain ⟨kc1, kc2, kc3, kc4, kc5, kc8, kv, ki, ks⟩ := hMT _ _ _ hc.2.2.2.1
      have hG' : GoodIn Ts (.code (yN a) (cN a) (xl a) (rN a) :: Ts) := fun w h => by
        rcases List.mem_cons.mp h with rfl | h
        · exact ⟨kc1, (hG _ kc1).2⟩
        · exact hG w h
      refine viaCall 0 e (of_decide_eq_true hc.2.1) kc8 ?_
      intro as st' q1 s1 hlen hst2 hrcv hct hMet p en R s0 m args below meth c C H locs ls cells slots hf hR hS hsz hFB hPre
      obtain ⟨hx, hb, hml, hr, hlk, hown, hts, hnm, hfr, hlo, hE⟩ := id C
      obtain ⟨o, as2, rfl, hrv⟩ := (hrc _ _ _ hrcv).2 (kv rfl).2.2
      refine va_runV (As := as2.map (mx_rv ad)) (rest := st'.map (mx_rv ad)) (b := ad o) (C := (yN a).cls) (n := b) ⟨hx, hb, hml, hown, hts⟩ hMet ⟨callB_of b hts hG' rfl rfl rfl (hts _ kc2) (hts _ (hLT _ _ _ hc.2.2.2.2)) ⟨kc3, kc4, kc5⟩ ⟨by dsimp only; omega, by dsimp only; omega⟩, hts _ (kv rfl).1, hts _ (kv rfl).2.1⟩ ⟨hFB, hrv H s0 hR hE, hPre⟩ rfl ?_ hsz ?_ (lv_room (by rw [mx_ct_sum]; exact hct)) hd hf
      · simp only [List.length_cons, Nat.add_right_cancel_iff] at hlen
        rw [List.length_map]
        exact hlen
      · show st.map (mx_rv ad) = _
        rw [hst2]
        simp [mx_rv]
  | invokespecial x => cases b with
    | zero => exact viaHop e
    | succ b =>
      have hc : (mx_dc cN k pc (.invokespecial x) && (decide (mx_pc cd k nx = pc + 3) && (mx_cl xl fN lN k a && (hM 1 a b && (hL k x a || hN k x a))))) = true := hc
      simp only [Bool.and_eq_true] at hc
      have hd : decode (cN k) pc = .ok (.invokespecial x, 3) := of_decide_eq_true hc.1
      obtain ⟨kc6, kc7⟩ : (fN a + 1 ≤ fN k) ∧ (8 + (xl a + 11) + lN a ≤ lN k) := by
        have q := hc.2.2.1
        simp only [mx_cl, Bool.and_eq_true, decide_eq_true_eq] at q
        exact q
      obtain ⟨kc1, kc2, kc3, kc4, kc5, kc8, kv, ki, ks⟩ := hMT _ _ _ hc.2.2.2.1
      have hG' : GoodIn Ts (.code (yN a) (cN a) (xl a) (rN a) :: Ts) := fun w h => by
        rcases List.mem_cons.mp h with rfl | h
        · exact ⟨kc1, (hG _ kc1).2⟩
        · exact hG w h
      refine viaCall 0 e (of_decide_eq_true hc.2.1) kc8 ?_
      intro as st' q1 s1 hlen hst2 hrcv hct hMet p en R s0 m args below meth c C H locs ls cells slots hf hR hS hsz hFB hPre
      obtain ⟨hx, hb, hml, hr, hlk, hown, hts, hnm, hfr, hlo, hE⟩ := id C
      obtain ⟨o, as2, rfl, hrv⟩ := (hrc _ _ _ hrcv).2 (ki rfl).2.2.2
      have hnone : rN a = none := (ki rfl).2.2.1
      rw [hnone] at hMet hG'
      have e1 : (as2.map (mx_rv ad)).length = b := by
        simp only [List.length_cons, Nat.add_right_cancel_iff] at hlen
        rw [List.length_map]
        exact hlen
      have e2 : st.map (mx_rv ad) = (as2.map (mx_rv ad)).reverse ++ .ref (ad o) :: st'.map (mx_rv ad) := by
        rw [hst2]
        simp [mx_rv]
      have hor := hc.2.2.2.2
      rw [Bool.or_eq_true] at hor
      rcases hor with hl1 | hl1
      · exact va_runI (As := as2.map (mx_rv ad)) (rest := st'.map (mx_rv ad)) (b := ad o) (n := b) ⟨hx, hb, hml, hown, hts⟩ hMet ⟨callB_of b hts hG' rfl rfl rfl (hts _ kc2) (hts _ (hLT _ _ _ hl1)) ⟨kc3, kc4, kc5⟩ ⟨by dsimp only; omega, by dsimp only; omega⟩, (ki rfl).2.1, hts _ (ki rfl).1⟩ ⟨hFB, hPre⟩ rfl e1 hsz e2 (lv_room (by rw [mx_ct_sum]; exact hct)) hd hf
      · obtain ⟨host, hN⟩ := hNT _ _ _ hl1 _ hE
        exact va_runIN (As := as2.map (mx_rv ad)) (rest := st'.map (mx_rv ad)) (b := ad o) (n := b) ⟨hx, hb, hml, hown, hts⟩ hMet ⟨va_cnB b hts hG' rfl rfl rfl hN (hts _ kc2) ⟨kc3, kc4, kc5⟩ ⟨by dsimp only; omega, by dsimp only; omega⟩, (ki rfl).2.1, hts _ (ki rfl).1⟩ ⟨hFB, hPre⟩ rfl e1 hsz e2 (lv_room (by rw [mx_ct_sum]; exact hct)) hd hf
  | invokestatic x => cases b with
    | zero => exact viaHop e
    | succ b =>
      have hc : (mx_dc cN k pc (.invokestatic x) && (decide (mx_pc cd k nx = pc + 3) && (mx_cl xl fN lN k a && (hM 2 a (b + 1) && (hL k x a || hN k x a))))) = true := hc
      simp only [Bool.and_eq_true] at hc
      have hd : decode (cN k) pc = .ok (.invokestatic x, 3) := of_decide_eq_true hc.1
      obtain ⟨kc6, kc7⟩ : (fN a + 1 ≤ fN k) ∧ (8 + (xl a + 11) + lN a ≤ lN k) := by
        have q := hc.2.2.1
        simp only [mx_cl, Bool.and_eq_true, decide_eq_true_eq] at q
        exact q
      obtain ⟨kc1, kc2, kc3, kc4, kc5, kc8, kv, ki, ks⟩ := hMT _ _ _ hc.2.2.2.1
      have hG' : GoodIn Ts (.code (yN a) (cN a) (xl a) (rN a) :: Ts) := fun w h => by
        rcases List.mem_cons.mp h with rfl | h
        · exact ⟨kc1, (hG _ kc1).2⟩
        · exact hG w h
      refine viaCall 0 e (of_decide_eq_true hc.2.1) kc8 ?_
      intro as st' q1 s1 hlen hst2 hrcv hct hMet p en R s0 m args below meth c C H locs ls cells slots hf hR hS hsz hFB hPre
      obtain ⟨hx, hb, hml, hr, hlk, hown, hts, hnm, hfr, hlo, hE⟩ := id C
      have e1 : (as.map (mx_rv ad)).length = b + 1 := by rw [List.length_map]; exact hlen
      have e2 : st.map (mx_rv ad) = (as.map (mx_rv ad)).reverse ++ st'.map (mx_rv ad) := by
        rw [hst2]
        simp
      have hor := hc.2.2.2.2
      rw [Bool.or_eq_true] at hor
      rcases hor with hl1 | hl1
      · exact va_runS (As := as.map (mx_rv ad)) (rest := st'.map (mx_rv ad)) (n := b + 1) ⟨hx, hb, hml, hown, hts⟩ hMet ⟨callB_of (b + 1) hts hG' rfl rfl rfl (hts _ kc2) (hts _ (hLT _ _ _ hl1)) ⟨kc3, kc4, kc5⟩ ⟨by dsimp only; omega, by dsimp only; omega⟩, hts _ (ks rfl)⟩ ⟨hFB, hPre⟩ rfl e1 hsz e2 (lv_room (by rw [mx_ct_sum]; exact hct)) hd hf
      · obtain ⟨host, hN⟩ := hNT _ _ _ hl1 _ hE
        exact va_runSN (As := as.map (mx_rv ad)) (rest := st'.map (mx_rv ad)) (n := b + 1) ⟨hx, hb, hml, hown, hts⟩ hMet ⟨va_cnB (b + 1) hts hG' rfl rfl rfl hN (hts _ kc2) ⟨kc3, kc4, kc5⟩ ⟨by dsimp only; omega, by dsimp only; omega⟩, hts _ (ks rfl), trivial⟩ ⟨hFB, hPre⟩ rfl e1 hsz e2 (lv_room (by rw [mx_ct_sum]; exact hct)) hd hf
  | getfield _ => exact viaHop e
  | putfield _ => exact viaHop e
  | getstatic _ => exact viaHop e
  | iaload => exact viaHop e
  | iastore => exact viaHop e
  | baload => exact viaHop e
  | bastore => exact viaHop e
  | caload => exact viaHop e
  | castore => exact viaHop e
  | laload => exact viaHop e
  | lastore => exact viaHop e
  | aaload => exact viaHop e
  | aastore => exact viaHop e
  | arraylength => exact viaHop e
  | new _ => exact viaHop e
  | newarray _ => exact viaHop e
  | anewarray _ => exact viaHop e
  | _ => exact pure rfl rfl
end MxSnd2
end
section
/-! ===== the small machine's heap: cells one behind the other from a base on ===== -/
abbrev mx_Sh : Type := Nat ⊕ (Nat × Nat)
abbrev mx_Hp : Type := List mx_Sh × (Nat → Nat → mx_V)
def mx_tI : mx_V → Int32
  | .inl x => x
  | _ => 0
def mx_tL : mx_V → Int64
  | .inr (.inl x) => x
  | _ => 0
def mx_tR : mx_V → Option Nat
  | .inr (.inr r) => r
  | _ => none
/-- kinds of rows: 0 int, 1 byte, 2 boolean, 3 char, 4 long, 5 and 6 references -/
def mx_ca (ad : Nat → Nat) (t : Nat) (f : Nat → mx_V) : (Nat → Int32) ⊕ (Nat → Int64) ⊕ (Nat → UInt32) ⊕ (Nat → UInt64) ⊕ (Nat → Option Nat) := match t with
  | 4 => .inr (.inl (fun i => mx_tL (f i)))
  | 5 => .inr (.inr (.inr (.inr (fun i => (mx_tR (f i)).map ad))))
  | 6 => .inr (.inr (.inr (.inr (fun i => (mx_tR (f i)).map ad))))
  | _ => .inl (fun i => mx_tI (f i))
def mx_ce (ad : Nat → Nat) (cid : Nat → ClassId) (nf : Nat → Nat) (sh : mx_Sh) (f : Nat → mx_V) : va_E := match sh with
  | .inl ci => .inr (ci, (List.range (nf ci)).map (fun i => mx_rv ad (f i)))
  | .inr (t, n) => .inl (cid t, n, mx_ca ad t f)
def mx_wl (ad : Nat → Nat) (cid : Nat → ClassId) (nf : Nat → Nat) (h : mx_Hp) : va_W := (List.range h.1.length).map (fun k => (ad k, mx_ce ad cid nf (h.1.getD k (.inl 0)) (h.2 k)))
def mx_RH (D : va_G) (cl : List vw_C) (ad : Nat → Nat) (bs : Nat) (cid : Nat → ClassId) (nf : Nat → Nat) (h : mx_Hp) (H : Heap) : Prop := va_P D cl (mx_wl ad cid nf h) H ∧ H.size = bs + h.1.length ∧ h.1.length ≤ 1000000
def mx_sz (nf : Nat → Nat) : mx_Sh → Nat
  | .inl ci => nf ci
  | .inr (_, n) => n
def mx_gc (h : mx_Hp) : Nat := h.1.length
def mx_gs (nf : Nat → Nat) (h : mx_Hp) : Nat := (h.1.map (mx_sz nf)).sum
def mx_u1 (f : Nat → mx_V) (i : Nat) (w : mx_V) : Nat → mx_V := fun j => if j = i then w else f j
def mx_ur (f : Nat → Nat → mx_V) (c : Nat) (g : Nat → mx_V) : Nat → Nat → mx_V := fun k => if k = c then g else f k
section MxWorld
variable {ad : Nat → Nat} {cid : Nat → ClassId} {nf : Nat → Nat} {bs : Nat}
theorem mx_wl_len (h : mx_Hp) : (mx_wl ad cid nf h).length = h.1.length := by simp [mx_wl]
theorem mx_wl_get {h : mx_Hp} {c : Nat} {sh : mx_Sh} (hs : h.1[c]? = some sh) : (mx_wl ad cid nf h)[c]? = some (ad c, mx_ce ad cid nf sh (h.2 c)) := by
  have hl := (List.getElem?_eq_some_iff.mp hs).1
  unfold mx_wl
  rw [List.getElem?_map, List.getElem?_range hl]
  simp [hs]
theorem mx_wl_at {h : mx_Hp} {k : Nat} {q : Nat × va_E} (hq : (mx_wl ad cid nf h)[k]? = some q) : k < h.1.length ∧ q.1 = ad k := by
  have hl := (List.getElem?_eq_some_iff.mp hq).1
  rw [mx_wl_len] at hl
  refine ⟨hl, ?_⟩
  unfold mx_wl at hq
  rw [List.getElem?_map, List.getElem?_range hl] at hq
  cases hq
  rfl
theorem mx_wl_D (hA : ∀ k, k < 1000000 → ad k = bs + k) {h : mx_Hp} (hl : h.1.length ≤ 1000000) : va_D (fun q => bs ≤ q) (mx_wl ad cid nf h) := by
  refine ⟨fun i j p q hi hj hpq => ?_, fun k q hk => ?_⟩
  · obtain ⟨h1, h2⟩ := mx_wl_at hi
    obtain ⟨h3, h4⟩ := mx_wl_at hj
    rw [h2, h4, hA i (by omega), hA j (by omega)] at hpq
    omega
  · obtain ⟨h1, h2⟩ := mx_wl_at hk
    show bs ≤ q.1
    rw [h2, hA k (by omega)]
    omega
theorem mx_wl_set {h : mx_Hp} {c : Nat} {sh : mx_Sh} (hs : h.1[c]? = some sh) (g : Nat → mx_V) : (mx_wl ad cid nf h).set c (ad c, mx_ce ad cid nf sh g) = mx_wl ad cid nf (h.1, mx_ur h.2 c g) := by
  have hl := (List.getElem?_eq_some_iff.mp hs).1
  apply List.ext_getElem?
  intro k
  by_cases hk : k = c
  · subst hk
    rw [List.getElem?_set_self (by rw [mx_wl_len]; exact hl)]
    rw [mx_wl_get (h := (h.1, mx_ur h.2 k g)) (sh := sh) hs]
    simp [mx_ur]
  · rw [List.getElem?_set_ne (Ne.symm hk)]
    unfold mx_wl
    rw [List.getElem?_map, List.getElem?_map]
    show _ = ((List.range h.1.length)[k]?).map _
    cases hr : (List.range h.1.length)[k]? with
    | none => rfl
    | some z =>
      have hz : z = k := by
        have h2 := (List.getElem?_eq_some_iff.mp hr)
        obtain ⟨h3, h4⟩ := h2
        rw [List.getElem_range] at h4
        exact h4.symm
      subst hz
      simp [mx_ur, hk]
theorem mx_wl_push (h : mx_Hp) (sh : mx_Sh) (g : Nat → mx_V) : mx_wl ad cid nf (h.1 ++ [sh], mx_ur h.2 h.1.length g) = mx_wl ad cid nf h ++ [(ad h.1.length, mx_ce ad cid nf sh g)] := by
  unfold mx_wl
  simp only [List.length_append, List.length_singleton, List.range_succ, List.map_append, List.map_singleton]
  congr 1
  · apply List.map_congr_left
    intro k hk
    have hk := List.mem_range.mp hk
    simp [mx_ur, Nat.ne_of_lt hk, List.getD, List.getElem?_append_left hk]
  · simp [mx_ur, List.getD]
theorem mx_RH_low {D : va_G} {cl : List vw_C} (hA : ∀ k, k < 1000000 → ad k = bs + k) {h : mx_Hp} {H : Heap} (hP : va_P D cl (mx_wl ad cid nf h) H) (hl : h.1.length ≤ 1000000) (hb : bs ≤ H.size) : bs + h.1.length ≤ H.size := by
  cases hn : h.1.length with
  | zero => omega
  | succ n =>
    have hs : h.1[n]? = some (h.1[n]'(by omega)) := List.getElem?_eq_getElem (by omega)
    have h2 := (hP n _ (mx_wl_get hs)).lt
    dsimp only at h2
    rw [hA n (by omega)] at h2
    omega
/-- a method's heap is no larger than what it made -/
theorem mx_Wsize {p : Program} {l : Launch} {e : Env} {R : Room} {s : State} {m : MethodId} {args : Array Value} {below : List Frame} {meth : Method} {c : Code} {H : Heap} {locs : List Loc} {cells slots : Nat} {Q : State → Prop} {g : JFrame} (hk : H.size ≤ s.heap.size + cells → W p l e R s m args below meth c H locs cells slots Q g) : W p l e R s m args below meth c H locs cells slots Q g := by
  intro T hT X
  refine hk ?_ T hT X
  rw [← hT]
  exact X.same.2.2.1
end MxWorld
end
section
/-! ===== the rows of the heap over the JVM ===== -/
section MxOps
variable {l : Launch} {xl : Nat → Nat} {ad : Nat → Nat} {bs : Nat} {mE : State → Prop}
variable {yN : Nat → MethodName} {cN : Nat → ByteArray} {rN : Nat → Option FieldType} {fN lN : Nat → Nat} {Ts : List Jvm.Cond} {hw : Jvm.Cond → Bool}
variable {D : va_G} {cl : List vw_C} {cid : Nat → ClassId} {nf : Nat → Nat} {tys : List (ClassId × FieldType)} {ty : Nat → Nat → FieldType} {tyF : Nat → FieldType}
abbrev mx_GH (l : Launch) (xl : Nat → Nat) (ad : Nat → Nat) (bs : Nat) (mE : State → Prop) (yN : Nat → MethodName) (cN : Nat → ByteArray) (rN : Nat → Option FieldType) (fN lN : Nat → Nat) (Ts : List Jvm.Cond) (D : va_G) (cl : List vw_C) (cid : Nat → ClassId) (nf : Nat → Nat) :=
  mx_G l xl ad (mx_RH D cl ad bs cid nf) mx_gc (mx_gs nf) bs mE (fun q => bs ≤ q) yN cN rN fN lN Ts
/-- what stands fast -/
def mx_X (ad : Nat → Nat) (bs : Nat) (mE : State → Prop) (Ts : List Jvm.Cond) (hw : Jvm.Cond → Bool) (D : va_G) (cl : List vw_C) (cid : Nat → ClassId) (nf : Nat → Nat) (tys : List (ClassId × FieldType)) (ty : Nat → Nat → FieldType) (tyF : Nat → FieldType) : Prop :=
  (∀ ci C T N, cl[ci]? = some (C, T, N) → (∀ w ∈ u_ws C T N, w ∈ Ts) ∧ (∀ k, k < N → parseFieldDescriptor (T k).2.2.1 = some (ty ci k)) ∧ (∀ a, a < N → ∀ b, b < N → a ≠ b → (T a).2.1 ≠ (T b).2.1) ∧ nf ci = N) ∧
  (∀ k, k < 1000000 → ad k = bs + k) ∧ (∀ w, hw w = true → w ∈ Ts) ∧ (∀ U, mE U → va_K D cl tys U) ∧ (∀ t, t < 7 → tys[t]? = some (cid t, tyF t))
theorem mx_o_st (X : mx_X ad bs mE Ts hw D cl cid nf tys ty tyF) {k pc pc' : Nat} {L : mx_L} {st st' : List mx_V} {h h2 : mx_Hp} {hp : Nat → Nat → mx_V} {r : Option mx_V}
    (G : mx_GH l xl ad bs mE yN cN rN fN lN Ts D cl cid nf k pc' L st' (h.1, hp) r h2)
    (step : ∀ (p : Program) (en : Env) (R : Room) (s0 : State) (m : MethodId) (args : Array Value) (below : List Frame) (meth : Method) (c : Code), mx_C xl mE yN cN rN fN lN Ts k p R s0 m args meth c → va_K D cl tys s0 →
      ∀ (H : Heap) (locs : List Loc) (ls : Array Slot) (cells slots : Nat) (Q : State → Prop), va_P D cl (mx_wl ad cid nf h) H → va_D (fun q => bs ≤ q) (mx_wl ad cid nf h) → va_S (fun q => bs ≤ q) s0.heap H locs → ls.size = xl k → cells ≤ R.cells → slots ≤ R.slots →
      (∀ (H1 : Heap) (locs1 : List Loc), va_P D cl (mx_wl ad cid nf (h.1, hp)) H1 → va_S (fun q => bs ≤ q) s0.heap H1 locs1 → W p l en R s0 m args below meth c H1 locs1 cells slots Q (F0 m pc' ls (st'.map (mx_rv ad)))) →
      W p l en R s0 m args below meth c H locs cells slots Q (F0 m pc ls (st.map (mx_rv ad)))) :
    mx_GH l xl ad bs mE yN cN rN fN lN Ts D cl cid nf k pc L st h r h2 := by
  refine ⟨G.1, G.2.1, ?_⟩
  intro p en R s0 m args below meth c C H locs ls c0 d0 g1 g2 g3 g4 g5 hR hS hl
  refine step p en R s0 m args below meth c C (X.2.2.2.1 _ C.2.2.2.2.2.2.2.2.2.2) H locs ls _ _ _ hR.1 (mx_wl_D X.2.1 hR.2.2) hS hl.1 (by have := G.1; have : mx_gc (h.1, hp) = mx_gc h := rfl; omega) (by have := G.2.1; have : mx_gs nf (h.1, hp) = mx_gs nf h := rfl; omega) (fun H1 locs1 hP1 hS1 => ?_)
  refine mx_Wsize fun hz => ?_
  have hlow := mx_RH_low (bs := bs) (h := (h.1, hp)) X.2.1 hP1 hR.2.2 (by have := hS1.1; omega)
  have g1' : c0 ≤ h.1.length := g1
  have hz' : H1.size ≤ s0.heap.size + (h.1.length - c0) := hz
  have hlow' : bs + h.1.length ≤ H1.size := hlow
  exact G.2.2 p en R s0 m args below meth c C H1 locs1 ls c0 d0 g1 g2 g3 g4 g5 ⟨hP1, by show H1.size = bs + h.1.length; omega, hR.2.2⟩ hS1 hl
theorem mx_o_al (X : mx_X ad bs mE Ts hw D cl cid nf tys ty tyF) {k pc pc' : Nat} {L : mx_L} {st st' : List mx_V} {h h2 : mx_Hp} {sh : mx_Sh} {g : Nat → mx_V} {r : Option mx_V}
    (hmost : h.1.length < 1000000) (G : mx_GH l xl ad bs mE yN cN rN fN lN Ts D cl cid nf k pc' L (.inr (.inr (some h.1.length)) :: st') (h.1 ++ [sh], mx_ur h.2 h.1.length g) r h2)
    (step : ∀ (p : Program) (en : Env) (R : Room) (s0 : State) (m : MethodId) (args : Array Value) (below : List Frame) (meth : Method) (c : Code), mx_C xl mE yN cN rN fN lN Ts k p R s0 m args meth c → va_K D cl tys s0 →
      ∀ (H : Heap) (locs : List Loc) (ls : Array Slot) (cells slots : Nat) (Q : State → Prop), va_P D cl (mx_wl ad cid nf h) H → va_D (fun q => bs ≤ q) (mx_wl ad cid nf h) → va_S (fun q => bs ≤ q) s0.heap H locs → ls.size = xl k → cells + 1 ≤ R.cells → slots + mx_sz nf sh ≤ R.slots → (∀ q, s0.heap.size ≤ q → bs ≤ q) →
      (∀ (q : Nat) (H1 : Heap) (locs1 : List Loc), va_P D cl (mx_wl ad cid nf h ++ [(q, mx_ce ad cid nf sh g)]) H1 → va_D (fun q => bs ≤ q) (mx_wl ad cid nf h ++ [(q, mx_ce ad cid nf sh g)]) → va_S (fun q => bs ≤ q) s0.heap H1 locs1 → W p l en R s0 m args below meth c H1 locs1 (cells + 1) (slots + mx_sz nf sh) Q (F0 m pc' ls (.ref q :: st'.map (mx_rv ad)))) →
      W p l en R s0 m args below meth c H locs cells slots Q (F0 m pc ls (st.map (mx_rv ad)))) :
    mx_GH l xl ad bs mE yN cN rN fN lN Ts D cl cid nf k pc L st h r h2 := by
  have e1 : mx_gc (h.1 ++ [sh], mx_ur h.2 h.1.length g) = mx_gc h + 1 := by simp [mx_gc]
  have e2 : mx_gs nf (h.1 ++ [sh], mx_ur h.2 h.1.length g) = mx_gs nf h + mx_sz nf sh := by simp [mx_gs]
  have G1 := G.1
  have G2 := G.2.1
  rw [e1] at G1
  rw [e2] at G2
  refine ⟨by omega, by omega, ?_⟩
  intro p en R s0 m args below meth c C H locs ls c0 d0 g1 g2 g3 g4 g5 hR hS hl
  refine step p en R s0 m args below meth c C (X.2.2.2.1 _ C.2.2.2.2.2.2.2.2.2.2) H locs ls _ _ _ hR.1 (mx_wl_D X.2.1 hR.2.2) hS hl.1 (by omega) (by omega) (fun q hq => by omega) (fun q H1 locs1 hP1 hD1 hS1 => ?_)
  refine mx_Wsize fun hz => ?_
  have hlen : (mx_wl ad cid nf h).length = h.1.length := mx_wl_len h
  have hq0 : (mx_wl ad cid nf h ++ [(q, mx_ce ad cid nf sh g)])[h.1.length]? = some (q, mx_ce ad cid nf sh g) := by
    rw [List.getElem?_append_right (by rw [hlen]; exact Nat.le_refl _), hlen, Nat.sub_self]
    rfl
  have hqb : bs ≤ q := hD1.2 _ _ hq0
  have hqs : q < H1.size := (hP1 _ _ hq0).lt
  have g1' : c0 ≤ h.1.length := g1
  have hz' : H1.size ≤ s0.heap.size + (h.1.length - c0 + 1) := hz
  have hq : q = ad h.1.length := by
    rw [X.2.1 _ hmost]
    by_cases hh : q < bs + h.1.length
    · exfalso
      have hk : q - bs < h.1.length := by omega
      have hs : h.1[q - bs]? = some (h.1[q - bs]'hk) := List.getElem?_eq_getElem hk
      have hw1 := mx_wl_get (ad := ad) (cid := cid) (nf := nf) hs
      have hw2 : (mx_wl ad cid nf h ++ [(q, mx_ce ad cid nf sh g)])[q - bs]? = some (ad (q - bs), mx_ce ad cid nf (h.1[q - bs]'hk) (h.2 (q - bs))) := by
        rw [List.getElem?_append_left (by rw [hlen]; exact hk)]
        exact hw1
      have := hD1.1 _ _ _ _ hw2 hq0 (by dsimp only; rw [X.2.1 _ (by omega)]; omega)
      omega
    · omega
  subst hq
  rw [← mx_wl_push] at hP1
  have hqs' : ad h.1.length < H1.size := hqs
  rw [X.2.1 _ hmost] at hqs'
  have key := G.2.2 p en R s0 m args below meth c C H1 locs1 ls c0 d0 (by rw [e1]; omega) (by rw [e2]; omega) g3 g4 g5 ⟨hP1, by show H1.size = bs + (h.1 ++ [sh]).length; rw [List.length_append, List.length_singleton]; omega, by show (h.1 ++ [sh]).length ≤ _; rw [List.length_append, List.length_singleton]; omega⟩ hS1 hl
  rw [e1, e2] at key
  exact W.cs (cells' := mx_gc h + 1 - c0) (slots' := mx_gs nf h + mx_sz nf sh - d0) (by omega) (by omega) key
end MxOps
end
section
def mx_ty : Nat → FieldType
  | 0 => .int
  | 1 => .byte
  | 2 => .boolean
  | 3 => .char
  | 4 => .long
  | 5 => .object "TickBound$Sheet"
  | _ => .object "TickBound$Slot"
def mx_ft : FieldType → mx_V → Bool
  | .int, .inl _ => true
  | .boolean, .inl x => x == 0 || x == 1
  | .object _, .inr (.inr _) => true
  | .array _, .inr (.inr _) => true
  | _, _ => false
theorem mx_ft_ok {ad : Nat → Nat} {t : FieldType} {w : mx_V} (h : mx_ft t w = true) : narrow t (mx_rv ad w) = mx_rv ad w ∧ fits t (mx_rv ad w) = true := by
  match t, w, h with
  | .int, .inl x, h => exact ⟨rfl, rfl⟩
  | .boolean, .inl x, h =>
    simp only [mx_ft, Bool.or_eq_true, beq_iff_eq] at h
    rcases h with rfl | rfl
    · exact ⟨rfl, rfl⟩
    · exact ⟨rfl, rfl⟩
  | .object _, .inr (.inr none), h => exact ⟨rfl, rfl⟩
  | .object _, .inr (.inr (some _)), h => exact ⟨rfl, rfl⟩
  | .array _, .inr (.inr none), h => exact ⟨rfl, rfl⟩
  | .array _, .inr (.inr (some _)), h => exact ⟨rfl, rfl⟩
theorem mx_fs_set {ad : Nat → Nat} (f : Nat → mx_V) (n b : Nat) (w : mx_V) : (List.range n).map (fun i => mx_rv ad (mx_u1 f b w i)) = ((List.range n).map (fun i => mx_rv ad (f i))).set b (mx_rv ad w) := by
  apply List.ext_getElem?
  intro i
  by_cases hi : i = b
  · subst hi
    by_cases hl : i < n
    · rw [List.getElem?_set_self (by simpa using hl), List.getElem?_map, List.getElem?_range hl]
      simp [mx_u1]
    · rw [List.getElem?_eq_none (by simpa using hl), List.getElem?_eq_none (by simpa using hl)]
  · rw [List.getElem?_set_ne (Ne.symm hi), List.getElem?_map, List.getElem?_map]
    cases hr : (List.range n)[i]? with
    | none => rfl
    | some z =>
      obtain ⟨h3, h4⟩ := List.getElem?_eq_some_iff.mp hr
      rw [List.getElem_range] at h4
      subst h4
      simp [mx_u1, hi]
theorem mx_ui (f : Nat → mx_V) (i : Nat) (x : Int32) : (fun j => mx_tI (mx_u1 f i (.inl x) j)) = upd (fun j => mx_tI (f j)) i x := by
  funext j
  unfold mx_u1 upd
  by_cases h : j = i <;> simp [h, mx_tI]
theorem mx_ul (f : Nat → mx_V) (i : Nat) (x : Int64) : (fun j => mx_tL (mx_u1 f i (.inr (.inl x)) j)) = vp_updL (fun j => mx_tL (f j)) i x := by
  funext j
  unfold mx_u1 vp_updL
  by_cases h : j = i <;> simp [h, mx_tL]
theorem mx_uq (ad : Nat → Nat) (f : Nat → mx_V) (i : Nat) (x : Nat) : (fun j => (mx_tR (mx_u1 f i (.inr (.inr (some x))) j)).map ad) = va_up (fun j => (mx_tR (f j)).map ad) i (some (ad x)) := by
  funext j
  unfold mx_u1 va_up
  by_cases h : j = i <;> simp [h, mx_tR]
section MxOps2
variable {l : Launch} {xl : Nat → Nat} {ad : Nat → Nat} {bs : Nat} {mE : State → Prop}
variable {yN : Nat → MethodName} {cN : Nat → ByteArray} {rN : Nat → Option FieldType} {fN lN : Nat → Nat} {Ts : List Jvm.Cond} {hw : Jvm.Cond → Bool}
variable {D : va_G} {cl : List vw_C} {cid : Nat → ClassId} {nf : Nat → Nat} {tys : List (ClassId × FieldType)} {ty : Nat → Nat → FieldType}
variable {k pc : Nat} {L : mx_L} {st : List mx_V} {h h2 : mx_Hp} {r : Option mx_V}
theorem mx_o_get (X : mx_X ad bs mE Ts hw D cl cid nf tys ty mx_ty) {x a b o N : Nat} {Cn : String} {T : u_T} (hc : cl[a]? = some (Cn, T, N)) (hb : b < N) (hlk : hw (.fieldLink (yN k).cls x (T b).1 (T b).2.1 (T b).2.2.1) = true) (hd : decode (cN k) pc = .ok (.getfield x, 3)) (hs : h.1[o]? = some (.inl a))
    (G : mx_GH l xl ad bs mE yN cN rN fN lN Ts D cl cid nf k (pc + 3) L (h.2 o b :: st) h r h2) : mx_GH l xl ad bs mE yN cN rN fN lN Ts D cl cid nf k pc L (.inr (.inr (some o)) :: st) h r h2 := by
  refine mx_o_st X (h := h) (hp := h.2) G ?_
  intro p en R s0 m args below meth c C hK H locs ls cells slots Q hP hD hS hl hcc hss kk
  obtain ⟨hx, hbb, hml, hr, hlk', hown, hts, hnm, hfr, hlo, hE⟩ := id C
  refine va_get hx hbb hts (X.1 _ _ _ _ hc).1 hown hK hP o (mx_wl_get hs) hc b hb (hts _ (X.2.2.1 _ hlk)) (fun _ h => h) (v := mx_rv ad (h.2 o b)) ?_ hd (kk H locs hP hS)
  rw [List.getElem?_map, List.getElem?_range (by rw [(X.1 _ _ _ _ hc).2.2.2]; exact hb)]
  rfl
theorem mx_o_put (X : mx_X ad bs mE Ts hw D cl cid nf tys ty mx_ty) {x a b o N : Nat} {w : mx_V} {Cn : String} {T : u_T} (hc : cl[a]? = some (Cn, T, N)) (hb : b < N) (hlk : hw (.fieldLink (yN k).cls x (T b).1 (T b).2.1 (T b).2.2.1) = true) (hd : decode (cN k) pc = .ok (.putfield x, 3)) (hs : h.1[o]? = some (.inl a))
    (hfin : (T b).2.2.2 = false ∨ ((yN k).name = "<init>" ∧ (T b).1 = (yN k).cls)) (hft : mx_ft (ty a b) w = true)
    (G : mx_GH l xl ad bs mE yN cN rN fN lN Ts D cl cid nf k (pc + 3) L st (h.1, mx_ur h.2 o (mx_u1 (h.2 o) b w)) r h2) : mx_GH l xl ad bs mE yN cN rN fN lN Ts D cl cid nf k pc L (w :: .inr (.inr (some o)) :: st) h r h2 := by
  refine mx_o_st X (h := h) (hp := mx_ur h.2 o (mx_u1 (h.2 o) b w)) G ?_
  intro p en R s0 m args below meth c C hK H locs ls cells slots Q hP hD hS hl hcc hss kk
  obtain ⟨hx, hbb, hml, hr, hlk', hown, hts, hnm, hfr, hlo, hE⟩ := id C
  obtain ⟨f1, f2⟩ := mx_ft_ok (ad := ad) hft
  have hset : (mx_wl ad cid nf h).set o (ad o, .inr (a, ((List.range (nf a)).map (fun i => mx_rv ad (h.2 o i))).set b (mx_rv ad w))) = mx_wl ad cid nf (h.1, mx_ur h.2 o (mx_u1 (h.2 o) b w)) := by
    rw [← mx_wl_set hs, ← mx_fs_set]
    rfl
  have hlen : b < ((List.range (nf a)).map (fun i => mx_rv ad (h.2 o i))).length := by
    rw [List.length_map, List.length_range, (X.1 _ _ _ _ hc).2.2.2]; exact hb
  cases hf : (T b).2.2.2 with
  | false => exact va_put hx hbb hts (X.1 _ _ _ _ hc).1 (ty a) (X.1 _ _ _ _ hc).2.1 (X.1 _ _ _ _ hc).2.2.1 hown hK hP hD hS o (mx_wl_get hs) hc b hb (hts _ (X.2.2.1 _ hlk)) (fun _ h => h) hf ((X.1 _ _ _ _ hc).2.1 b hb) f1 f2 hlen hd (fun H1 locs1 hP1 hD1 hS1 => kk H1 locs1 (by rw [← hset]; exact hP1) hS1)
  | true =>
    rcases hfin with hfin | hfin
    · rw [hf] at hfin; cases hfin
    · exact va_putF hx hbb hts (X.1 _ _ _ _ hc).1 (ty a) (X.1 _ _ _ _ hc).2.1 (X.1 _ _ _ _ hc).2.2.1 hown hK hP hD hS o (mx_wl_get hs) hc b hb (hts _ (X.2.2.1 _ hlk)) (fun _ h => h) hf (hnm.trans hfin.1) hfin.2 ((X.1 _ _ _ _ hc).2.1 b hb) f1 f2 hlen hd (fun H1 locs1 hP1 hD1 hS1 => kk H1 locs1 (by rw [← hset]; exact hP1) hS1)
theorem mx_o_iald (X : mx_X ad bs mE Ts hw D cl cid nf tys ty mx_ty) {i : Int32} {o n : Nat} (hd : decode (cN k) pc = .ok (.iaload, 1)) (hs : h.1[o]? = some (.inr (0, n))) (hin : vp_in i n)
    (G : mx_GH l xl ad bs mE yN cN rN fN lN Ts D cl cid nf k (pc + 1) L (.inl (mx_tI (h.2 o i.toNatClampNeg)) :: st) h r h2) : mx_GH l xl ad bs mE yN cN rN fN lN Ts D cl cid nf k pc L (.inl i :: .inr (.inr (some o)) :: st) h r h2 := by
  refine mx_o_st X (h := h) (hp := h.2) G ?_
  intro p en R s0 m args below meth c C hK H locs ls cells slots Q hP hD hS hl hcc hss kk
  exact va_iald C.1 C.2.1 hK hP o 0 (mx_wl_get hs) (X.2.2.2.2 0 (by omega)) hin hd (kk H locs hP hS)
theorem mx_o_bald (X : mx_X ad bs mE Ts hw D cl cid nf tys ty mx_ty) {i : Int32} {o n : Nat} (hd : decode (cN k) pc = .ok (.baload, 1)) (hs : h.1[o]? = some (.inr (1, n))) (hin : vp_in i n)
    (G : mx_GH l xl ad bs mE yN cN rN fN lN Ts D cl cid nf k (pc + 1) L (.inl (mx_tI (h.2 o i.toNatClampNeg)) :: st) h r h2) : mx_GH l xl ad bs mE yN cN rN fN lN Ts D cl cid nf k pc L (.inl i :: .inr (.inr (some o)) :: st) h r h2 := by
  refine mx_o_st X (h := h) (hp := h.2) G ?_
  intro p en R s0 m args below meth c C hK H locs ls cells slots Q hP hD hS hl hcc hss kk
  exact va_bald C.1 C.2.1 hK hP o 1 (mx_wl_get hs) (X.2.2.2.2 1 (by omega)) hin hd (kk H locs hP hS)
theorem mx_o_zald (X : mx_X ad bs mE Ts hw D cl cid nf tys ty mx_ty) {i : Int32} {o n : Nat} (hd : decode (cN k) pc = .ok (.baload, 1)) (hs : h.1[o]? = some (.inr (2, n))) (hin : vp_in i n)
    (G : mx_GH l xl ad bs mE yN cN rN fN lN Ts D cl cid nf k (pc + 1) L (.inl (mx_tI (h.2 o i.toNatClampNeg)) :: st) h r h2) : mx_GH l xl ad bs mE yN cN rN fN lN Ts D cl cid nf k pc L (.inl i :: .inr (.inr (some o)) :: st) h r h2 := by
  refine mx_o_st X (h := h) (hp := h.2) G ?_
  intro p en R s0 m args below meth c C hK H locs ls cells slots Q hP hD hS hl hcc hss kk
  exact va_zald C.1 C.2.1 hK hP o 2 (mx_wl_get hs) (X.2.2.2.2 2 (by omega)) hin hd (kk H locs hP hS)
theorem mx_o_cald (X : mx_X ad bs mE Ts hw D cl cid nf tys ty mx_ty) {i : Int32} {o n : Nat} (hd : decode (cN k) pc = .ok (.caload, 1)) (hs : h.1[o]? = some (.inr (3, n))) (hin : vp_in i n)
    (G : mx_GH l xl ad bs mE yN cN rN fN lN Ts D cl cid nf k (pc + 1) L (.inl (mx_tI (h.2 o i.toNatClampNeg)) :: st) h r h2) : mx_GH l xl ad bs mE yN cN rN fN lN Ts D cl cid nf k pc L (.inl i :: .inr (.inr (some o)) :: st) h r h2 := by
  refine mx_o_st X (h := h) (hp := h.2) G ?_
  intro p en R s0 m args below meth c C hK H locs ls cells slots Q hP hD hS hl hcc hss kk
  exact va_cald C.1 C.2.1 hK hP o 3 (mx_wl_get hs) (X.2.2.2.2 3 (by omega)) hin hd (kk H locs hP hS)
theorem mx_o_lald (X : mx_X ad bs mE Ts hw D cl cid nf tys ty mx_ty) {i : Int32} {o n : Nat} (hd : decode (cN k) pc = .ok (.laload, 1)) (hs : h.1[o]? = some (.inr (4, n))) (hin : vp_in i n)
    (G : mx_GH l xl ad bs mE yN cN rN fN lN Ts D cl cid nf k (pc + 1) L (.inr (.inl (mx_tL (h.2 o i.toNatClampNeg))) :: st) h r h2) : mx_GH l xl ad bs mE yN cN rN fN lN Ts D cl cid nf k pc L (.inl i :: .inr (.inr (some o)) :: st) h r h2 := by
  refine mx_o_st X (h := h) (hp := h.2) G ?_
  intro p en R s0 m args below meth c C hK H locs ls cells slots Q hP hD hS hl hcc hss kk
  exact va_lald C.1 C.2.1 hK hP o 4 (mx_wl_get hs) (X.2.2.2.2 4 (by omega)) hin hd (kk H locs hP hS)
theorem mx_rf_map (ad : Nat → Nat) (z : Option Nat) : va_rf (z.map ad) = mx_rv ad (.inr (.inr z)) := by
  cases z <;> rfl
theorem mx_o_aald (X : mx_X ad bs mE Ts hw D cl cid nf tys ty mx_ty) {i : Int32} {o n t : Nat} (ht : t = 5 ∨ t = 6) (hd : decode (cN k) pc = .ok (.aaload, 1)) (hs : h.1[o]? = some (.inr (t, n))) (hin : vp_in i n)
    (G : mx_GH l xl ad bs mE yN cN rN fN lN Ts D cl cid nf k (pc + 1) L (.inr (.inr (mx_tR (h.2 o i.toNatClampNeg))) :: st) h r h2) : mx_GH l xl ad bs mE yN cN rN fN lN Ts D cl cid nf k pc L (.inl i :: .inr (.inr (some o)) :: st) h r h2 := by
  refine mx_o_st X (h := h) (hp := h.2) G ?_
  intro p en R s0 m args below meth c C hK H locs ls cells slots Q hP hD hS hl hcc hss kk
  have k2 := kk H locs hP hS
  rw [List.map_cons, ← mx_rf_map] at k2
  rcases ht with rfl | rfl
  · exact va_aldq (f := fun i => (mx_tR (h.2 o i)).map ad) C.1 C.2.1 hK hP o 5 (mx_wl_get hs) (X.2.2.2.2 5 (by omega)) hin hd k2
  · exact va_aldq (f := fun i => (mx_tR (h.2 o i)).map ad) C.1 C.2.1 hK hP o 6 (mx_wl_get hs) (X.2.2.2.2 6 (by omega)) hin hd k2
theorem mx_o_alen (X : mx_X ad bs mE Ts hw D cl cid nf tys ty mx_ty) {o n t : Nat} (ht : t < 7) (hd : decode (cN k) pc = .ok (.arraylength, 1)) (hs : h.1[o]? = some (.inr (t, n)))
    (G : mx_GH l xl ad bs mE yN cN rN fN lN Ts D cl cid nf k (pc + 1) L (.inl (Int32.ofNat n) :: st) h r h2) : mx_GH l xl ad bs mE yN cN rN fN lN Ts D cl cid nf k pc L (.inr (.inr (some o)) :: st) h r h2 := by
  refine mx_o_st X (h := h) (hp := h.2) G ?_
  intro p en R s0 m args below meth c C hK H locs ls cells slots Q hP hD hS hl hcc hss kk
  exact va_alen C.1 C.2.1 hK hP o t (mx_wl_get hs) (X.2.2.2.2 t ht) rfl hd (kk H locs hP hS)
theorem mx_o_iast (X : mx_X ad bs mE Ts hw D cl cid nf tys ty mx_ty) {i x : Int32} {o n : Nat} (hd : decode (cN k) pc = .ok (.iastore, 1)) (hs : h.1[o]? = some (.inr (0, n))) (hin : vp_in i n)
    (G : mx_GH l xl ad bs mE yN cN rN fN lN Ts D cl cid nf k (pc + 1) L st (h.1, mx_ur h.2 o (mx_u1 (h.2 o) i.toNatClampNeg (.inl x))) r h2) : mx_GH l xl ad bs mE yN cN rN fN lN Ts D cl cid nf k pc L (.inl x :: .inl i :: .inr (.inr (some o)) :: st) h r h2 := by
  refine mx_o_st X (h := h) (hp := mx_ur h.2 o (mx_u1 (h.2 o) i.toNatClampNeg (.inl x))) G ?_
  intro p en R s0 m args below meth c C hK H locs ls cells slots Q hP hD hS hl hcc hss kk
  refine va_iast C.1 C.2.1 hK hP hD hS o 0 (mx_wl_get hs) (X.2.2.2.2 0 (by omega)) hin hd (fun H1 locs1 hP1 hD1 hS1 => kk H1 locs1 ?_ hS1)
  rw [← mx_wl_set hs]
  rw [← mx_ui] at hP1
  exact hP1
theorem mx_o_bast (X : mx_X ad bs mE Ts hw D cl cid nf tys ty mx_ty) {i x : Int32} {o n : Nat} (hd : decode (cN k) pc = .ok (.bastore, 1)) (hs : h.1[o]? = some (.inr (1, n))) (hin : vp_in i n)
    (G : mx_GH l xl ad bs mE yN cN rN fN lN Ts D cl cid nf k (pc + 1) L st (h.1, mx_ur h.2 o (mx_u1 (h.2 o) i.toNatClampNeg (.inl x.toInt8.toInt32))) r h2) : mx_GH l xl ad bs mE yN cN rN fN lN Ts D cl cid nf k pc L (.inl x :: .inl i :: .inr (.inr (some o)) :: st) h r h2 := by
  refine mx_o_st X (h := h) (hp := mx_ur h.2 o (mx_u1 (h.2 o) i.toNatClampNeg (.inl x.toInt8.toInt32))) G ?_
  intro p en R s0 m args below meth c C hK H locs ls cells slots Q hP hD hS hl hcc hss kk
  refine va_bast C.1 C.2.1 hK hP hD hS o 1 (mx_wl_get hs) (X.2.2.2.2 1 (by omega)) hin hd (fun H1 locs1 hP1 hD1 hS1 => kk H1 locs1 ?_ hS1)
  rw [← mx_wl_set hs]
  rw [vp_nar_byte, ← mx_ui] at hP1
  exact hP1
theorem mx_o_zast (X : mx_X ad bs mE Ts hw D cl cid nf tys ty mx_ty) {i x : Int32} {o n : Nat} (hd : decode (cN k) pc = .ok (.bastore, 1)) (hs : h.1[o]? = some (.inr (2, n))) (hin : vp_in i n)
    (G : mx_GH l xl ad bs mE yN cN rN fN lN Ts D cl cid nf k (pc + 1) L st (h.1, mx_ur h.2 o (mx_u1 (h.2 o) i.toNatClampNeg (.inl (x &&& 1)))) r h2) : mx_GH l xl ad bs mE yN cN rN fN lN Ts D cl cid nf k pc L (.inl x :: .inl i :: .inr (.inr (some o)) :: st) h r h2 := by
  refine mx_o_st X (h := h) (hp := mx_ur h.2 o (mx_u1 (h.2 o) i.toNatClampNeg (.inl (x &&& 1)))) G ?_
  intro p en R s0 m args below meth c C hK H locs ls cells slots Q hP hD hS hl hcc hss kk
  refine va_zast C.1 C.2.1 hK hP hD hS o 2 (mx_wl_get hs) (X.2.2.2.2 2 (by omega)) hin hd (fun H1 locs1 hP1 hD1 hS1 => kk H1 locs1 ?_ hS1)
  rw [← mx_wl_set hs]
  rw [show vp_nar .boolean x = x &&& 1 from rfl, ← mx_ui] at hP1
  exact hP1
theorem mx_o_cast (X : mx_X ad bs mE Ts hw D cl cid nf tys ty mx_ty) {i x : Int32} {o n : Nat} (hd : decode (cN k) pc = .ok (.castore, 1)) (hs : h.1[o]? = some (.inr (3, n))) (hin : vp_in i n)
    (G : mx_GH l xl ad bs mE yN cN rN fN lN Ts D cl cid nf k (pc + 1) L st (h.1, mx_ur h.2 o (mx_u1 (h.2 o) i.toNatClampNeg (.inl x.toUInt32.toUInt16.toUInt32.toInt32))) r h2) : mx_GH l xl ad bs mE yN cN rN fN lN Ts D cl cid nf k pc L (.inl x :: .inl i :: .inr (.inr (some o)) :: st) h r h2 := by
  refine mx_o_st X (h := h) (hp := mx_ur h.2 o (mx_u1 (h.2 o) i.toNatClampNeg (.inl x.toUInt32.toUInt16.toUInt32.toInt32))) G ?_
  intro p en R s0 m args below meth c C hK H locs ls cells slots Q hP hD hS hl hcc hss kk
  refine va_cast C.1 C.2.1 hK hP hD hS o 3 (mx_wl_get hs) (X.2.2.2.2 3 (by omega)) hin hd (fun H1 locs1 hP1 hD1 hS1 => kk H1 locs1 ?_ hS1)
  rw [← mx_wl_set hs]
  rw [vp_nar_char, ← mx_ui] at hP1
  exact hP1
theorem mx_o_last (X : mx_X ad bs mE Ts hw D cl cid nf tys ty mx_ty) {i : Int32} {x : Int64} {o n : Nat} (hd : decode (cN k) pc = .ok (.lastore, 1)) (hs : h.1[o]? = some (.inr (4, n))) (hin : vp_in i n)
    (G : mx_GH l xl ad bs mE yN cN rN fN lN Ts D cl cid nf k (pc + 1) L st (h.1, mx_ur h.2 o (mx_u1 (h.2 o) i.toNatClampNeg (.inr (.inl x)))) r h2) : mx_GH l xl ad bs mE yN cN rN fN lN Ts D cl cid nf k pc L (.inr (.inl x) :: .inl i :: .inr (.inr (some o)) :: st) h r h2 := by
  refine mx_o_st X (h := h) (hp := mx_ur h.2 o (mx_u1 (h.2 o) i.toNatClampNeg (.inr (.inl x)))) G ?_
  intro p en R s0 m args below meth c C hK H locs ls cells slots Q hP hD hS hl hcc hss kk
  refine va_last C.1 C.2.1 hK hP hD hS o 4 (mx_wl_get hs) (X.2.2.2.2 4 (by omega)) hin hd (fun H1 locs1 hP1 hD1 hS1 => kk H1 locs1 ?_ hS1)
  rw [← mx_wl_set hs]
  rw [← mx_ul] at hP1
  exact hP1
theorem mx_o_aast (X : mx_X ad bs mE Ts hw D cl cid nf tys ty mx_ty) {i : Int32} {o o2 n t a : Nat} {rr : vw_C} (ht : (t = 5 ∨ t = 6) ∧ mx_ty t = .object rr.1) (hc : cl[a]? = some rr) (hd : decode (cN k) pc = .ok (.aastore, 1)) (hs : h.1[o]? = some (.inr (t, n))) (hs2 : h.1[o2]? = some (.inl a)) (hin : vp_in i n)
    (G : mx_GH l xl ad bs mE yN cN rN fN lN Ts D cl cid nf k (pc + 1) L st (h.1, mx_ur h.2 o (mx_u1 (h.2 o) i.toNatClampNeg (.inr (.inr (some o2))))) r h2) : mx_GH l xl ad bs mE yN cN rN fN lN Ts D cl cid nf k pc L (.inr (.inr (some o2)) :: .inl i :: .inr (.inr (some o)) :: st) h r h2 := by
  refine mx_o_st X (h := h) (hp := mx_ur h.2 o (mx_u1 (h.2 o) i.toNatClampNeg (.inr (.inr (some o2))))) G ?_
  intro p en R s0 m args below meth c C hK H locs ls cells slots Q hP hD hS hl hcc hss kk
  obtain ⟨ht, hty⟩ := ht
  have htys := X.2.2.2.2 t (by omega)
  rw [hty] at htys
  rcases ht with rfl | rfl
  · refine va_astq (f := fun i => (mx_tR (h.2 o i)).map ad) C.1 C.2.1 hK hP hD hS o 5 o2 a (mx_wl_get hs) htys (mx_wl_get hs2) hc hin hd (fun H1 locs1 hP1 hD1 hS1 => kk H1 locs1 ?_ hS1)
    rw [← mx_wl_set hs]
    rw [← mx_uq] at hP1
    exact hP1
  · refine va_astq (f := fun i => (mx_tR (h.2 o i)).map ad) C.1 C.2.1 hK hP hD hS o 6 o2 a (mx_wl_get hs) htys (mx_wl_get hs2) hc hin hd (fun H1 locs1 hP1 hD1 hS1 => kk H1 locs1 ?_ hS1)
    rw [← mx_wl_set hs]
    rw [← mx_uq] at hP1
    exact hP1
end MxOps2
end
section
def mx_df : FieldType → mx_V
  | .long => .inr (.inl 0)
  | .object _ => .inr (.inr none)
  | .array _ => .inr (.inr none)
  | _ => .inl 0
def mx_dk : FieldType → Bool
  | .float => false
  | .double => false
  | _ => true
theorem mx_df_ok {ad : Nat → Nat} {t : FieldType} (h : mx_dk t = true) : defaultValue t = mx_rv ad (mx_df t) := by
  cases t <;> first | rfl | cases h
theorem mx_cpy_i (f g : Nat → mx_V) (sp dp n : Nat) : (fun j => mx_tI (va_cpy f g sp dp n j)) = va_cpy (fun j => mx_tI (f j)) (fun j => mx_tI (g j)) sp dp n := by
  funext j
  unfold va_cpy
  split <;> rfl
theorem mx_cpy_l (f g : Nat → mx_V) (sp dp n : Nat) : (fun j => mx_tL (va_cpy f g sp dp n j)) = va_cpy (fun j => mx_tL (f j)) (fun j => mx_tL (g j)) sp dp n := by
  funext j
  unfold va_cpy
  split <;> rfl
section MxOps3
variable {l : Launch} {xl : Nat → Nat} {ad : Nat → Nat} {bs : Nat} {mE : State → Prop}
variable {yN : Nat → MethodName} {cN : Nat → ByteArray} {rN : Nat → Option FieldType} {fN lN : Nat → Nat} {Ts : List Jvm.Cond} {hw : Jvm.Cond → Bool}
variable {D : va_G} {cl : List vw_C} {cid : Nat → ClassId} {nf : Nat → Nat} {tys : List (ClassId × FieldType)} {ty : Nat → Nat → FieldType}
variable {k pc : Nat} {L : mx_L} {st : List mx_V} {h h2 : mx_Hp} {r : Option mx_V}
theorem mx_o_new (X : mx_X ad bs mE Ts hw D cl cid nf tys ty mx_ty) {x a N : Nat} {Cn : String} {T : u_T} (hc : cl[a]? = some (Cn, T, N)) (hcl : hw (.classLink (yN k).cls x Cn) = true) (hin : hw (.instantiable Cn N) = true) (hini : hw (.initialized Cn) = true) (hd : decode (cN k) pc = .ok (.new x, 3)) (hmost : h.1.length < 1000000) (hdk : ∀ j, j < N → mx_dk (ty a j) = true)
    (G : mx_GH l xl ad bs mE yN cN rN fN lN Ts D cl cid nf k (pc + 3) L (.inr (.inr (some h.1.length)) :: st) (h.1 ++ [.inl a], mx_ur h.2 h.1.length (fun i => mx_df (ty a i))) r h2) : mx_GH l xl ad bs mE yN cN rN fN lN Ts D cl cid nf k pc L st h r h2 := by
  refine mx_o_al X hmost G ?_
  intro p en R s0 m args below meth c C hK H locs ls cells slots Q hP hD hS hl q1 q2 hA kk
  obtain ⟨hx, hbb, hml, hr, hlk', hown, hts, hnm, hfr, hlo, hE⟩ := id C
  have hN : nf a = N := (X.1 _ _ _ _ hc).2.2.2
  have q2' : slots + nf a ≤ R.slots := q2
  have kk' : ∀ (q : Nat) (H1 : Heap) (locs1 : List Loc), va_P D cl (mx_wl ad cid nf h ++ [(q, .inr (a, (List.range (nf a)).map (fun i => mx_rv ad (mx_df (ty a i)))))]) H1 → va_D (fun q => bs ≤ q) (mx_wl ad cid nf h ++ [(q, .inr (a, (List.range (nf a)).map (fun i => mx_rv ad (mx_df (ty a i)))))]) → va_S (fun q => bs ≤ q) s0.heap H1 locs1 → W p l en R s0 m args below meth c H1 locs1 (cells + 1) (slots + nf a) Q (F0 m (pc + 3) ls (.ref q :: st.map (mx_rv ad))) := kk
  rw [hN] at q2' kk'
  refine va_new hx hbb hts (X.1 _ _ _ _ hc).1 (ty a) (X.1 _ _ _ _ hc).2.1 hown (hts _ (X.2.2.1 _ hcl)) (hts _ (X.2.2.1 _ hin)) (hts _ (X.2.2.1 _ hini)) hK hP hD hS hA hc ?_ q1 q2' hd (fun q H1 hP1 hD1 hS1 => kk' q H1 locs hP1 hD1 hS1)
  intro j hj
  rw [mx_df_ok (ad := ad) (hdk j hj)]
  simp [vp_V, List.getD, List.getElem?_map, List.getElem?_range hj]
theorem mx_o_newa (X : mx_X ad bs mE Ts hw D cl cid nf tys ty mx_ty) {atype : ArrayType} {t N : Nat} {n : Int32} (ht : t < 5) (hty : newarray.typeOf atype = mx_ty t) (harr : hw (.arrayClass (newarray.typeOf atype)) = true) (hd : decode (cN k) pc = .ok (.newarray atype, 2)) (hmost : h.1.length < 1000000) (hn : ¬ n < 0) (hN : n.toNatClampNeg = N) (hN2 : N ≤ 1000000)
    (G : mx_GH l xl ad bs mE yN cN rN fN lN Ts D cl cid nf k (pc + 2) L (.inr (.inr (some h.1.length)) :: st) (h.1 ++ [.inr (t, N)], mx_ur h.2 h.1.length (fun _ => mx_df (mx_ty t))) r h2) : mx_GH l xl ad bs mE yN cN rN fN lN Ts D cl cid nf k pc L (.inl n :: st) h r h2 := by
  refine mx_o_al X hmost G ?_
  intro p en R s0 m args below meth c C hK H locs ls cells slots Q hP hD hS hl q1 q2 hA kk
  obtain ⟨hx, hbb, hml, hr, hlk', hown, hts, hnm, hfr, hlo, hE⟩ := id C
  refine va_newa (a0 := (N, mx_ca ad t (fun _ => mx_df (mx_ty t)))) hx hbb (hts _ (X.2.2.1 _ harr)) hty hK hP hD hS hA ?_ hn hN ?_ q1 q2 hd (fun q cA H1 hK1 hP1 hD1 hS1 => ?_)
  · intro cA
    match t, ht with
    | 0, _ => rfl
    | 1, _ => rfl
    | 2, _ => rfl
    | 3, _ => rfl
    | 4, _ => rfl
  · have : componentBytes (mx_ty t) ≤ 8 := by
      match t, ht with
      | 0, _ => decide
      | 1, _ => decide
      | 2, _ => decide
      | 3, _ => decide
      | 4, _ => decide
    calc N * componentBytes (mx_ty t) ≤ N * 8 := Nat.mul_le_mul_left _ this
      _ ≤ 536870912 := by omega
  · have r1 := (hK1.2 tys.length (cA, mx_ty t) (by simp)).2
    have r2 := (hK.2 t _ (X.2.2.2.2 t (by omega))).2
    have e : cA = cid t := by
      match t, ht, r1, r2 with
      | 0, _, r1, r2 => exact Option.some.inj (r1.symm.trans r2)
      | 1, _, r1, r2 => exact Option.some.inj (r1.symm.trans r2)
      | 2, _, r1, r2 => exact Option.some.inj (r1.symm.trans r2)
      | 3, _, r1, r2 => exact Option.some.inj (r1.symm.trans r2)
      | 4, _, r1, r2 => exact Option.some.inj (r1.symm.trans r2)
    subst e
    exact kk q H1 locs hP1 hD1 hS1
theorem mx_o_anew (X : mx_X ad bs mE Ts hw D cl cid nf tys ty mx_ty) {x t N : Nat} {n : Int32} {Cn : String} (ht : (t = 5 ∨ t = 6) ∧ mx_ty t = .object Cn) (hAO : ∀ U, mE U → va_AO Cn U) (hcl : hw (.classLink (yN k).cls x Cn) = true) (hd : decode (cN k) pc = .ok (.anewarray x, 3)) (hmost : h.1.length < 1000000) (hn : ¬ n < 0) (hN : n.toNatClampNeg = N) (hN2 : N ≤ 1000000)
    (G : mx_GH l xl ad bs mE yN cN rN fN lN Ts D cl cid nf k (pc + 3) L (.inr (.inr (some h.1.length)) :: st) (h.1 ++ [.inr (t, N)], mx_ur h.2 h.1.length (fun _ => mx_df (mx_ty t))) r h2) : mx_GH l xl ad bs mE yN cN rN fN lN Ts D cl cid nf k pc L (.inl n :: st) h r h2 := by
  refine mx_o_al X hmost G ?_
  intro p en R s0 m args below meth c C hK H locs ls cells slots Q hP hD hS hl q1 q2 hA kk
  obtain ⟨hx, hbb, hml, hr, hlk', hown, hts, hnm, hfr, hlo, hE⟩ := id C
  obtain ⟨ht, hty⟩ := ht
  refine va_newq hx hbb hown (hts _ (X.2.2.1 _ hcl)) (hAO _ hE) hK hP hD hS hA hn hN (by omega) q1 q2 hd (fun q cA H1 hK1 hP1 hD1 hS1 => ?_)
  have r1 := (hK1.2 tys.length (cA, .object Cn) (by simp)).2
  have r2 := (hK.2 t _ (X.2.2.2.2 t (by omega))).2
  rw [hty] at r2
  have e : cA = cid t := by
    obtain ⟨_, _, _, _, _, a1⟩ := r1
    obtain ⟨_, _, _, _, _, a2⟩ := r2
    exact Option.some.inj (a1.symm.trans a2)
  subst e
  rcases ht with rfl | rfl
  · exact kk q H1 locs hP1 hD1 hS1
  · exact kk q H1 locs hP1 hD1 hS1
theorem mx_o_init (X : mx_X ad bs mE Ts hw D cl cid nf tys ty mx_ty) {x o : Nat} (h1 : hw (.methodLink (yN k).cls x Lib.objectInit) = true) (h2' : hw (.instanceMethod Lib.objectInit) = true) (h3 : hw (.code Lib.objectInit ⟨#[0xb1]⟩ 1 none) = true) (hd : decode (cN k) pc = .ok (.invokespecial x, 3)) (hct : mx_ct st ≤ 8) (hf : 1 ≤ fN k) (hlo0 : 20 ≤ lN k)
    (G : mx_GH l xl ad bs mE yN cN rN fN lN Ts D cl cid nf k (pc + 3) L st h r h2) : mx_GH l xl ad bs mE yN cN rN fN lN Ts D cl cid nf k pc L (.inr (.inr (some o)) :: st) h r h2 := by
  refine mx_o_st X (h := h) (hp := h.2) G ?_
  intro p en R s0 m args below meth c C hK H locs ls cells slots Q hP hD hS hl hcc hss kk
  obtain ⟨hx, hbb, hml, hr, hlk', hown, hts, hnm, hfr, hlo, hE⟩ := id C
  refine W.objInit (a := ad o) (rest := st.map (mx_rv ad)) hx hbb hown (hts _ (X.2.2.1 _ h1)) (hts _ (X.2.2.1 _ h2')) (hts _ (X.2.2.1 _ h3)) rfl (hl.trans hml.symm) rfl hd (by omega) ?_ (kk H locs hP hS)
  rw [mx_ct_sum]
  have : (F0 m pc ls ((.inr (.inr (some o)) :: st).map (mx_rv ad))).monitorRoom = 0 := rfl
  rw [this]
  omega
theorem mx_o_cpi (X : mx_X ad bs mE Ts hw D cl cid nf tys ty mx_ty) {x o0 o1 n0 n1 : Nat} {sp dp n : Int32} (w1 : hw (.methodLink (yN k).cls x arraycopyName) = true) (w2 : hw (.native arraycopyName) = true) (w3 : hw (.static arraycopyName) = true) (w4 : hw (.initialized "java/lang/System") = true) (hd : decode (cN k) pc = .ok (.invokestatic x, 3))
    (hs0 : h.1[o0]? = some (.inr (0, n0))) (hs1 : h.1[o1]? = some (.inr (0, n1))) (g1 : ¬ sp < 0) (g2 : ¬ dp < 0) (g3 : ¬ n < 0) (g4 : sp.toNatClampNeg + n.toNatClampNeg ≤ n0) (g5 : dp.toNatClampNeg + n.toNatClampNeg ≤ n1) (hct : mx_ct st ≤ 8) (hf : 1 ≤ fN k) (hlo0 : 8 + (nativeFrameWords "java/lang/System" "arraycopy" 5 + 11) ≤ lN k)
    (G : mx_GH l xl ad bs mE yN cN rN fN lN Ts D cl cid nf k (pc + 3) L st (h.1, mx_ur h.2 o1 (va_cpy (h.2 o0) (h.2 o1) sp.toNatClampNeg dp.toNatClampNeg n.toNatClampNeg)) r h2) : mx_GH l xl ad bs mE yN cN rN fN lN Ts D cl cid nf k pc L (.inl n :: .inl dp :: .inr (.inr (some o1)) :: .inl sp :: .inr (.inr (some o0)) :: st) h r h2 := by
  refine mx_o_st X (h := h) (hp := mx_ur h.2 o1 (va_cpy (h.2 o0) (h.2 o1) sp.toNatClampNeg dp.toNatClampNeg n.toNatClampNeg)) G ?_
  intro p en R s0 m args below meth c C hK H locs ls cells slots Q hP hD hS hl hcc hss kk
  obtain ⟨hx, hbb, hml, hr, hlk', hown, hts, hnm, hfr, hlo, hE⟩ := id C
  refine va_copyi (ty := .int) hx hbb (hml.trans hl.symm) hown (hts _ (X.2.2.1 _ w1)) (hts _ (X.2.2.1 _ w2)) (hts _ (X.2.2.1 _ w3)) (hts _ (X.2.2.1 _ w4)) hK hP hD hS o0 o1 0 0 (mx_wl_get hs0) (mx_wl_get hs1) (X.2.2.2.2 0 (by omega)) (X.2.2.2.2 0 (by omega)) rfl g1 g2 g3 g4 g5 (fun _ _ => rfl) (by omega) (by rw [mx_ct_sum]; omega) hd (fun H1 locs1 hP1 hD1 hS1 => kk H1 locs1 ?_ hS1)
  rw [← mx_wl_set hs1]
  rw [← mx_cpy_i] at hP1
  exact hP1
theorem mx_o_cpl (X : mx_X ad bs mE Ts hw D cl cid nf tys ty mx_ty) {x o0 o1 n0 n1 : Nat} {sp dp n : Int32} (w1 : hw (.methodLink (yN k).cls x arraycopyName) = true) (w2 : hw (.native arraycopyName) = true) (w3 : hw (.static arraycopyName) = true) (w4 : hw (.initialized "java/lang/System") = true) (hd : decode (cN k) pc = .ok (.invokestatic x, 3))
    (hs0 : h.1[o0]? = some (.inr (4, n0))) (hs1 : h.1[o1]? = some (.inr (4, n1))) (g1 : ¬ sp < 0) (g2 : ¬ dp < 0) (g3 : ¬ n < 0) (g4 : sp.toNatClampNeg + n.toNatClampNeg ≤ n0) (g5 : dp.toNatClampNeg + n.toNatClampNeg ≤ n1) (hct : mx_ct st ≤ 8) (hf : 1 ≤ fN k) (hlo0 : 8 + (nativeFrameWords "java/lang/System" "arraycopy" 5 + 11) ≤ lN k)
    (G : mx_GH l xl ad bs mE yN cN rN fN lN Ts D cl cid nf k (pc + 3) L st (h.1, mx_ur h.2 o1 (va_cpy (h.2 o0) (h.2 o1) sp.toNatClampNeg dp.toNatClampNeg n.toNatClampNeg)) r h2) : mx_GH l xl ad bs mE yN cN rN fN lN Ts D cl cid nf k pc L (.inl n :: .inl dp :: .inr (.inr (some o1)) :: .inl sp :: .inr (.inr (some o0)) :: st) h r h2 := by
  refine mx_o_st X (h := h) (hp := mx_ur h.2 o1 (va_cpy (h.2 o0) (h.2 o1) sp.toNatClampNeg dp.toNatClampNeg n.toNatClampNeg)) G ?_
  intro p en R s0 m args below meth c C hK H locs ls cells slots Q hP hD hS hl hcc hss kk
  obtain ⟨hx, hbb, hml, hr, hlk', hown, hts, hnm, hfr, hlo, hE⟩ := id C
  refine va_copyl (ty := .long) hx hbb (hml.trans hl.symm) hown (hts _ (X.2.2.1 _ w1)) (hts _ (X.2.2.1 _ w2)) (hts _ (X.2.2.1 _ w3)) (hts _ (X.2.2.1 _ w4)) hK hP hD hS o0 o1 4 4 (mx_wl_get hs0) (mx_wl_get hs1) (X.2.2.2.2 4 (by omega)) (X.2.2.2.2 4 (by omega)) rfl g1 g2 g3 g4 g5 (fun _ _ => rfl) (by omega) (by rw [mx_ct_sum]; omega) hd (fun H1 locs1 hP1 hD1 hS1 => kk H1 locs1 ?_ hS1)
  rw [← mx_wl_set hs1]
  rw [← mx_cpy_l] at hP1
  exact hP1
theorem mx_o_gets (X : mx_X ad bs mE Ts hw D cl cid nf tys ty mx_ty) {x : Nat} {w : mx_V} {Cn n d : String} (hZ : ∀ U, mE U → va_Z Cn n d (mx_rv ad w) (fun q => bs ≤ q) U U.heap) (hlk : hw (.fieldLink (yN k).cls x Cn n d) = true) (hd : decode (cN k) pc = .ok (.getstatic x, 3))
    (G : mx_GH l xl ad bs mE yN cN rN fN lN Ts D cl cid nf k (pc + 3) L (w :: st) h r h2) : mx_GH l xl ad bs mE yN cN rN fN lN Ts D cl cid nf k pc L st h r h2 := by
  refine mx_o_st X (h := h) (hp := h.2) G ?_
  intro p en R s0 m args below meth c C hK H locs ls cells slots Q hP hD hS hl hcc hss kk
  obtain ⟨hx, hbb, hml, hr, hlk', hown, hts, hnm, hfr, hlo, hE⟩ := id C
  exact va_gets hx hbb (hZ _ hE) hS hown (hts _ (X.2.2.1 _ hlk)) (fun _ h => h) hd (kk H locs hP hS)
theorem mx_o_xget (X : mx_X ad bs mE Ts hw D cl cid nf tys ty mx_ty) {x o : Nat} {w : mx_V} {Cn n d : String} (hF : ∀ U, mE U → va_OF Cn n d (mx_rv ad w) (ad o) (fun q => bs ≤ q) U U.heap) (hlk : hw (.fieldLink (yN k).cls x Cn n d) = true) (hd : decode (cN k) pc = .ok (.getfield x, 3))
    (G : mx_GH l xl ad bs mE yN cN rN fN lN Ts D cl cid nf k (pc + 3) L (w :: st) h r h2) : mx_GH l xl ad bs mE yN cN rN fN lN Ts D cl cid nf k pc L (.inr (.inr (some o)) :: st) h r h2 := by
  refine mx_o_st X (h := h) (hp := h.2) G ?_
  intro p en R s0 m args below meth c C hK H locs ls cells slots Q hP hD hS hl hcc hss kk
  obtain ⟨hx, hbb, hml, hr, hlk', hown, hts, hnm, hfr, hlo, hE⟩ := id C
  exact vk_getf hx hbb (hF _ hE) hS hown (hts _ (X.2.2.1 _ hlk)) (fun _ h => h) hd (kk H locs hP hS)
theorem mx_o_xi (X : mx_X ad bs mE Ts hw D cl cid nf tys ty mx_ty) {o N : Nat} {f : Nat → Int32} {i : Int32} (hT : ∀ U, mE U → va_T .int (ad o) N (fun j => .int (f j)) (fun q => bs ≤ q) U U.heap) (hin : vp_in i N) (hd : decode (cN k) pc = .ok (.iaload, 1))
    (G : mx_GH l xl ad bs mE yN cN rN fN lN Ts D cl cid nf k (pc + 1) L (.inl (f i.toNatClampNeg) :: st) h r h2) : mx_GH l xl ad bs mE yN cN rN fN lN Ts D cl cid nf k pc L (.inl i :: .inr (.inr (some o)) :: st) h r h2 := by
  refine mx_o_st X (h := h) (hp := h.2) G ?_
  intro p en R s0 m args below meth c C hK H locs ls cells slots Q hP hD hS hl hcc hss kk
  obtain ⟨hx, hbb, hml, hr, hlk', hown, hts, hnm, hfr, hlo, hE⟩ := id C
  exact va_ti hx hbb (hT _ hE) hS hin rfl hd (kk H locs hP hS)
theorem mx_o_xb (X : mx_X ad bs mE Ts hw D cl cid nf tys ty mx_ty) {o N : Nat} {f : Nat → Int32} {i : Int32} (hT : ∀ U, mE U → va_T .byte (ad o) N (fun j => .int (f j)) (fun q => bs ≤ q) U U.heap) (hin : vp_in i N) (hd : decode (cN k) pc = .ok (.baload, 1))
    (G : mx_GH l xl ad bs mE yN cN rN fN lN Ts D cl cid nf k (pc + 1) L (.inl (f i.toNatClampNeg) :: st) h r h2) : mx_GH l xl ad bs mE yN cN rN fN lN Ts D cl cid nf k pc L (.inl i :: .inr (.inr (some o)) :: st) h r h2 := by
  refine mx_o_st X (h := h) (hp := h.2) G ?_
  intro p en R s0 m args below meth c C hK H locs ls cells slots Q hP hD hS hl hcc hss kk
  obtain ⟨hx, hbb, hml, hr, hlk', hown, hts, hnm, hfr, hlo, hE⟩ := id C
  exact va_tb hx hbb (hT _ hE) hS hin rfl hd (kk H locs hP hS)
theorem mx_o_xlen (X : mx_X ad bs mE Ts hw D cl cid nf tys ty mx_ty) {o N : Nat} {f : Nat → Int32} {t : FieldType} (hT : ∀ U, mE U → va_T t (ad o) N (fun j => .int (f j)) (fun q => bs ≤ q) U U.heap) (hd : decode (cN k) pc = .ok (.arraylength, 1))
    (G : mx_GH l xl ad bs mE yN cN rN fN lN Ts D cl cid nf k (pc + 1) L (.inl (Int32.ofNat N) :: st) h r h2) : mx_GH l xl ad bs mE yN cN rN fN lN Ts D cl cid nf k pc L (.inr (.inr (some o)) :: st) h r h2 := by
  refine mx_o_st X (h := h) (hp := h.2) G ?_
  intro p en R s0 m args below meth c C hK H locs ls cells slots Q hP hD hS hl hcc hss kk
  obtain ⟨hx, hbb, hml, hr, hlk', hown, hts, hnm, hfr, hlo, hE⟩ := id C
  exact va_tlen hx hbb (hT _ hE) hS rfl hd (kk H locs hP hS)
theorem mx_o_max (X : mx_X ad bs mE Ts hw D cl cid nf tys ty mx_ty) {x : Nat} {u v : Int32} (w1 : hw (.methodLink (yN k).cls x Lib.Math.max.name) = true) (w2 : hw (.static Lib.Math.max.name) = true) (w3 : hw (.initialized "java/lang/Math") = true) (w4 : hw (.code Lib.Math.max.name Lib.Math.max.code 2 (some .int)) = true) (hd : decode (cN k) pc = .ok (.invokestatic x, 3)) (hct : mx_ct st ≤ 8) (hf : 1 ≤ fN k) (hlo0 : 21 ≤ lN k)
    (G : mx_GH l xl ad bs mE yN cN rN fN lN Ts D cl cid nf k (pc + 3) L (.inl (if u < v then v else u) :: st) h r h2) : mx_GH l xl ad bs mE yN cN rN fN lN Ts D cl cid nf k pc L (.inl v :: .inl u :: st) h r h2 := by
  refine mx_o_st X (h := h) (hp := h.2) G ?_
  intro p en R s0 m args below meth c C hK H locs ls cells slots Q hP hD hS hl hcc hss kk
  obtain ⟨hx, hbb, hml, hr, hlk', hown, hts, hnm, hfr, hlo, hE⟩ := id C
  exact va_mmax hx hbb (hml.trans hl.symm) hown (hts _ (X.2.2.1 _ w1)) (hts _ (X.2.2.1 _ w2)) (hts _ (X.2.2.1 _ w3)) (hts _ (X.2.2.1 _ w4)) (by omega) (by rw [mx_ct_sum]; omega) hcc hss hd (kk H locs hP hS)
theorem mx_o_min (X : mx_X ad bs mE Ts hw D cl cid nf tys ty mx_ty) {x : Nat} {u v : Int32} (w1 : hw (.methodLink (yN k).cls x Lib.Math.min.name) = true) (w2 : hw (.static Lib.Math.min.name) = true) (w3 : hw (.initialized "java/lang/Math") = true) (w4 : hw (.code Lib.Math.min.name Lib.Math.min.code 2 (some .int)) = true) (hd : decode (cN k) pc = .ok (.invokestatic x, 3)) (hct : mx_ct st ≤ 8) (hf : 1 ≤ fN k) (hlo0 : 21 ≤ lN k)
    (G : mx_GH l xl ad bs mE yN cN rN fN lN Ts D cl cid nf k (pc + 3) L (.inl (if v < u then v else u) :: st) h r h2) : mx_GH l xl ad bs mE yN cN rN fN lN Ts D cl cid nf k pc L (.inl v :: .inl u :: st) h r h2 := by
  refine mx_o_st X (h := h) (hp := h.2) G ?_
  intro p en R s0 m args below meth c C hK H locs ls cells slots Q hP hD hS hl hcc hss kk
  obtain ⟨hx, hbb, hml, hr, hlk', hown, hts, hnm, hfr, hlo, hE⟩ := id C
  exact va_mmin hx hbb (hml.trans hl.symm) hown (hts _ (X.2.2.1 _ w1)) (hts _ (X.2.2.1 _ w2)) (hts _ (X.2.2.1 _ w3)) (hts _ (X.2.2.1 _ w4)) (by omega) (by rw [mx_ct_sum]; omega) hcc hss hd (kk H locs hP hS)
end MxOps3
end
section
/-! ===== the heap rows of the small machine ===== -/
def mx_in (i : Int32) (n : Nat) : Bool := !(decide (i < 0)) && Nat.blt i.toNatClampNeg n
theorem mx_in_ok {i : Int32} {n : Nat} (h : mx_in i n = true) : vp_in i n := by
  simp only [mx_in, Bool.and_eq_true, Bool.not_eq_true', decide_eq_false_iff_not] at h
  intro q
  rcases q with q | q
  · exact h.1 q
  · have := Nat.blt_eq.mp h.2
    omega
abbrev mx_XA : Type := Nat → Option (Nat × Nat × (Nat → Int32))
section MxHop
variable {β : Type}
def mx_ob (h : mx_Hp) (c a : Nat) (r : Option β) : Option β := match h.1[c]? with
  | some (.inl ci) => if ci = a then r else none
  | _ => none
def mx_ar (h : mx_Hp) (c : Nat) (K : Nat → Nat → Option β) : Option β := match h.1[c]? with
  | some (.inr (t, n)) => K t n
  | _ => none
def mx_xr (xA : mx_XA) (c : Nat) (K : Nat → Nat → (Nat → Int32) → Option β) : Option β := match xA c with
  | some (t, n, f) => K t n f
  | none => none
def mx_1r (st : List mx_V) (K : Nat → List mx_V → Option β) : Option β := match st with
  | .inr (.inr (some c)) :: st => K c st
  | _ => none
theorem mx_ob_sup {h : mx_Hp} {c a : Nat} {r : Option β} {y : β} (e : mx_ob h c a r = some y) : h.1[c]? = some (.inl a) ∧ r = some y := by
  unfold mx_ob at e
  split at e
  · next ci hc =>
    by_cases q : ci = a
    · subst q
      rw [if_pos rfl] at e
      exact ⟨hc, e⟩
    · rw [if_neg q] at e; cases e
  · cases e
theorem mx_ar_sup {h : mx_Hp} {c : Nat} {K : Nat → Nat → Option β} {y : β} (e : mx_ar h c K = some y) : ∃ t n, h.1[c]? = some (.inr (t, n)) ∧ K t n = some y := by
  unfold mx_ar at e
  split at e
  · next t n hc => exact ⟨t, n, hc, e⟩
  · cases e
theorem mx_xr_sup {xA : mx_XA} {c : Nat} {K : Nat → Nat → (Nat → Int32) → Option β} {y : β} (e : mx_xr xA c K = some y) : ∃ t n f, xA c = some (t, n, f) ∧ K t n f = some y := by
  unfold mx_xr at e
  split at e
  · next t n f hc => exact ⟨t, n, f, hc, e⟩
  · cases e
theorem mx_1r_sup {st : List mx_V} {K : Nat → List mx_V → Option β} {y : β} (e : mx_1r st K = some y) : ∃ c st', st = .inr (.inr (some c)) :: st' ∧ K c st' = some y := by
  unfold mx_1r at e
  split at e
  · next c st' => exact ⟨c, st', rfl, e⟩
  · cases e
theorem mx_if_sup {P : Prop} [Decidable P] {r : Option β} {y : β} (e : (if P then r else none) = some y) : P ∧ r = some y := by
  by_cases q : P
  · rw [if_pos q] at e; exact ⟨q, e⟩
  · rw [if_neg q] at e; cases e
end MxHop
/-- the heap rows: nf, ty: fields of classes; xF, xS, xA: what was there before -/
def mx_hH (nf : Nat → Nat) (ty : Nat → Nat → FieldType) (xF : Nat → Nat → Nat → Option mx_V) (xS : Nat → mx_V) (xA : mx_XA) : mx_H mx_Hp := fun r st h K => match r with
  | (i, _, _, a, b, _, _) => match i with
    | .getfield _ => mx_1r st fun c st => cond (Nat.blt a 100) (mx_ob h c a (K (h.2 c b :: st) h)) (match xF a b c with
      | some w => K (w :: st) h
      | none => none)
    | .putfield _ => match st with
      | w :: st => mx_1r st fun c st => mx_ob h c a (if mx_ft (ty a b) w = true then K st (h.1, mx_ur h.2 c (mx_u1 (h.2 c) b w)) else none)
      | [] => none
    | .getstatic _ => K (xS a :: st) h
    | .iaload => mx_1i st fun i st => mx_1r st fun c st => cond (Nat.blt c 1000000) (mx_ar h c fun t n => if t = 0 ∧ mx_in i n = true then K (.inl (mx_tI (h.2 c i.toNatClampNeg)) :: st) h else none) (mx_xr xA c fun t n f => if t = 0 ∧ mx_in i n = true then K (.inl (f i.toNatClampNeg) :: st) h else none)
    | .baload => mx_1i st fun i st => mx_1r st fun c st => cond (Nat.blt c 1000000) (mx_ar h c fun t n => if (t = 1 ∨ t = 2) ∧ mx_in i n = true then K (.inl (mx_tI (h.2 c i.toNatClampNeg)) :: st) h else none) (mx_xr xA c fun t n f => if t = 1 ∧ mx_in i n = true then K (.inl (f i.toNatClampNeg) :: st) h else none)
    | .caload => mx_1i st fun i st => mx_1r st fun c st => mx_ar h c fun t n => if t = 3 ∧ mx_in i n = true then K (.inl (mx_tI (h.2 c i.toNatClampNeg)) :: st) h else none
    | .laload => mx_1i st fun i st => mx_1r st fun c st => mx_ar h c fun t n => if t = 4 ∧ mx_in i n = true then K (.inr (.inl (mx_tL (h.2 c i.toNatClampNeg))) :: st) h else none
    | .aaload => mx_1i st fun i st => mx_1r st fun c st => mx_ar h c fun t n => if (t = 5 ∨ t = 6) ∧ mx_in i n = true then K (.inr (.inr (mx_tR (h.2 c i.toNatClampNeg))) :: st) h else none
    | .iastore => mx_1i st fun x st => mx_1i st fun i st => mx_1r st fun c st => mx_ar h c fun t n => if t = 0 ∧ mx_in i n = true then K st (h.1, mx_ur h.2 c (mx_u1 (h.2 c) i.toNatClampNeg (.inl x))) else none
    | .bastore => mx_1i st fun x st => mx_1i st fun i st => mx_1r st fun c st => mx_ar h c fun t n => if t = 1 ∧ mx_in i n = true then K st (h.1, mx_ur h.2 c (mx_u1 (h.2 c) i.toNatClampNeg (.inl x.toInt8.toInt32))) else if t = 2 ∧ mx_in i n = true then K st (h.1, mx_ur h.2 c (mx_u1 (h.2 c) i.toNatClampNeg (.inl (x &&& 1)))) else none
    | .castore => mx_1i st fun x st => mx_1i st fun i st => mx_1r st fun c st => mx_ar h c fun t n => if t = 3 ∧ mx_in i n = true then K st (h.1, mx_ur h.2 c (mx_u1 (h.2 c) i.toNatClampNeg (.inl x.toUInt32.toUInt16.toUInt32.toInt32))) else none
    | .lastore => mx_1l st fun x st => mx_1i st fun i st => mx_1r st fun c st => mx_ar h c fun t n => if t = 4 ∧ mx_in i n = true then K st (h.1, mx_ur h.2 c (mx_u1 (h.2 c) i.toNatClampNeg (.inr (.inl x)))) else none
    | .aastore => mx_1r st fun x st => mx_1i st fun i st => mx_1r st fun c st => mx_ar h c fun t n => mx_ob h x b (if t = a ∧ mx_in i n = true then K st (h.1, mx_ur h.2 c (mx_u1 (h.2 c) i.toNatClampNeg (.inr (.inr (some x))))) else none)
    | .arraylength => mx_1r st fun c st => cond (Nat.blt c 1000000) (mx_ar h c fun t n => if t < 7 then K (.inl (Int32.ofNat n) :: st) h else none) (mx_xr xA c fun _ n _ => K (.inl (Int32.ofNat n) :: st) h)
    | .new _ => if h.1.length < 1000000 then K (.inr (.inr (some h.1.length)) :: st) (h.1 ++ [.inl a], mx_ur h.2 h.1.length (fun i => mx_df (ty a i))) else none
    | .newarray _ => mx_1i st fun n st => if h.1.length < 1000000 ∧ mx_in n 1000001 = true then K (.inr (.inr (some h.1.length)) :: st) (h.1 ++ [.inr (a, n.toNatClampNeg)], mx_ur h.2 h.1.length (fun _ => mx_df (mx_ty a))) else none
    | .anewarray _ => mx_1i st fun n st => if h.1.length < 1000000 ∧ mx_in n 1000001 = true then K (.inr (.inr (some h.1.length)) :: st) (h.1 ++ [.inr (a, n.toNatClampNeg)], mx_ur h.2 h.1.length (fun _ => mx_df (mx_ty a))) else none
    | .invokespecial _ => cond (Nat.beq b 0) (mx_1r st fun _ st => if mx_ct st ≤ 8 then K st h else none) none
    | .invokestatic _ => cond (Nat.beq b 0) (cond (Nat.beq a 1) (mx_1i st fun v st => mx_1i st fun u st => if mx_ct st ≤ 8 then K (.inl (if u < v then v else u) :: st) h else none) (cond (Nat.beq a 2) (mx_1i st fun v st => mx_1i st fun u st => if mx_ct st ≤ 8 then K (.inl (if v < u then v else u) :: st) h else none) (mx_1i st fun n st => mx_1i st fun dp st => mx_1r st fun o1 st => mx_1i st fun sp st => mx_1r st fun o0 st => mx_ar h o0 fun t0 n0 => mx_ar h o1 fun t1 n1 => if (t0 = t1 ∧ (t0 = 0 ∨ t0 = 4)) ∧ ¬ sp < 0 ∧ ¬ dp < 0 ∧ ¬ n < 0 ∧ sp.toNatClampNeg + n.toNatClampNeg ≤ n0 ∧ dp.toNatClampNeg + n.toNatClampNeg ≤ n1 ∧ mx_ct st ≤ 8 then K st (h.1, mx_ur h.2 o1 (va_cpy (h.2 o0) (h.2 o1) sp.toNatClampNeg dp.toNatClampNeg n.toNatClampNeg)) else none))) none
    | _ => none
end
section
noncomputable def mx_hw (Ts : List Jvm.Cond) (w : Jvm.Cond) : Bool := @decide (w ∈ Ts) (Classical.propDecidable _)
theorem mx_hw_of {Ts : List Jvm.Cond} {w : Jvm.Cond} (h : w ∈ Ts) : mx_hw Ts w = true := by
  unfold mx_hw
  exact @decide_eq_true _ (Classical.propDecidable _) h
section MxHS
variable {l : Launch} {cd : Nat → mx_T} {xl : Nat → Nat} {ad : Nat → Nat} {bs : Nat} {mE : State → Prop}
variable {yN : Nat → MethodName} {cN : Nat → ByteArray} {rN : Nat → Option FieldType} {fN lN : Nat → Nat} {Ts : List Jvm.Cond}
variable {D : va_G} {cl : List vw_C} {cid : Nat → ClassId} {nf : Nat → Nat} {tys : List (ClassId × FieldType)} {ty : Nat → Nat → FieldType}
variable {xF : Nat → Nat → Nat → Option mx_V} {xS : Nat → mx_V} {xA : mx_XA}
/-- what a heap row must say, as a fact -/
def mx_hf (xl : Nat → Nat) (ad : Nat → Nat) (bs : Nat) (mE : State → Prop) (yN : Nat → MethodName) (cN : Nat → ByteArray) (fN lN : Nat → Nat) (Ts : List Jvm.Cond) (cl : List vw_C) (ty : Nat → Nat → FieldType) (xF : Nat → Nat → Nat → Option mx_V) (xS : Nat → mx_V) (k : Nat) (i : Instr) (pc a b : Nat) : Prop :=
  decode (cN k) pc = .ok (i, mx_ln i) ∧ match i with
    | .getfield x => (a < 100 → ∃ C T N, cl[a]? = some (C, T, N) ∧ b < N ∧ Jvm.Cond.fieldLink (yN k).cls x (T b).1 (T b).2.1 (T b).2.2.1 ∈ Ts) ∧ (100 ≤ a → ∃ C n d, Jvm.Cond.fieldLink (yN k).cls x C n d ∈ Ts ∧ ∀ o w, xF a b o = some w → ∀ U, mE U → va_OF C n d (mx_rv ad w) (ad o) (fun q => bs ≤ q) U U.heap)
    | .putfield x => ∃ C T N, cl[a]? = some (C, T, N) ∧ b < N ∧ Jvm.Cond.fieldLink (yN k).cls x (T b).1 (T b).2.1 (T b).2.2.1 ∈ Ts ∧ ((T b).2.2.2 = false ∨ ((yN k).name = "<init>" ∧ (T b).1 = (yN k).cls))
    | .getstatic x => ∃ C n d, Jvm.Cond.fieldLink (yN k).cls x C n d ∈ Ts ∧ ∀ U, mE U → va_Z C n d (mx_rv ad (xS a)) (fun q => bs ≤ q) U U.heap
    | .aastore => (a = 5 ∨ a = 6) ∧ ∃ r, cl[b]? = some r ∧ mx_ty a = .object r.1
    | .new x => ∃ C T N, cl[a]? = some (C, T, N) ∧ Jvm.Cond.classLink (yN k).cls x C ∈ Ts ∧ Jvm.Cond.instantiable C N ∈ Ts ∧ Jvm.Cond.initialized C ∈ Ts ∧ ∀ j, j < N → mx_dk (ty a j) = true
    | .newarray t => a < 5 ∧ newarray.typeOf t = mx_ty a ∧ Jvm.Cond.arrayClass (newarray.typeOf t) ∈ Ts
    | .anewarray x => ∃ C, ((a = 5 ∨ a = 6) ∧ mx_ty a = .object C) ∧ Jvm.Cond.classLink (yN k).cls x C ∈ Ts ∧ ∀ U, mE U → va_AO C U
    | .invokespecial x => Jvm.Cond.methodLink (yN k).cls x Lib.objectInit ∈ Ts ∧ Jvm.Cond.instanceMethod Lib.objectInit ∈ Ts ∧ Jvm.Cond.code Lib.objectInit ⟨#[0xb1]⟩ 1 none ∈ Ts ∧ 1 ≤ fN k ∧ 20 ≤ lN k
    | .invokestatic x => (a = 1 → Jvm.Cond.methodLink (yN k).cls x Lib.Math.max.name ∈ Ts ∧ Jvm.Cond.static Lib.Math.max.name ∈ Ts ∧ Jvm.Cond.initialized "java/lang/Math" ∈ Ts ∧ Jvm.Cond.code Lib.Math.max.name Lib.Math.max.code 2 (some .int) ∈ Ts ∧ 1 ≤ fN k ∧ 21 ≤ lN k) ∧ (a = 2 → Jvm.Cond.methodLink (yN k).cls x Lib.Math.min.name ∈ Ts ∧ Jvm.Cond.static Lib.Math.min.name ∈ Ts ∧ Jvm.Cond.initialized "java/lang/Math" ∈ Ts ∧ Jvm.Cond.code Lib.Math.min.name Lib.Math.min.code 2 (some .int) ∈ Ts ∧ 1 ≤ fN k ∧ 21 ≤ lN k) ∧ (a ≠ 1 → a ≠ 2 → Jvm.Cond.methodLink (yN k).cls x arraycopyName ∈ Ts ∧ Jvm.Cond.native arraycopyName ∈ Ts ∧ Jvm.Cond.static arraycopyName ∈ Ts ∧ Jvm.Cond.initialized "java/lang/System" ∈ Ts ∧ 1 ≤ fN k ∧ 8 + (nativeFrameWords "java/lang/System" "arraycopy" 5 + 11) ≤ lN k)
    | _ => True
set_option maxHeartbeats 4000000 in
theorem mx_hH_sup (X : mx_X ad bs mE Ts (mx_hw Ts) D cl cid nf tys ty mx_ty) (hXA : ∀ c t n f, xA c = some (t, n, f) → ∀ U, mE U → va_T (mx_ty t) (ad c) n (fun j => .int (f j)) (fun q => bs ≤ q) U U.heap)
    {i : Instr} {pc nx a b : Nat} {v : Int32} {sw : List (Int32 × Nat)} {st : List mx_V} {h : mx_Hp} {K : List mx_V → mx_Hp → Option (Option mx_V × mx_Hp)} {y : Option mx_V × mx_Hp} (e : mx_hH nf ty xF xS xA (i, pc, nx, a, b, v, sw) st h K = some y) :
    ∃ st' h', K st' h' = some y ∧ (∀ K' z, K' st' h' = some z → mx_hH nf ty xF xS xA (i, pc, nx, a, b, v, sw) st h K' = some z) ∧
      ∀ (k : Nat), mx_hf xl ad bs mE yN cN fN lN Ts cl ty xF xS k i pc a b → ∀ (L : mx_L) (r : Option mx_V) (h2 : mx_Hp), mx_GH l xl ad bs mE yN cN rN fN lN Ts D cl cid nf k (pc + mx_ln i) L st' h' r h2 → mx_GH l xl ad bs mE yN cN rN fN lN Ts D cl cid nf k pc L st h r h2 := by
  cases i with
  | getfield x =>
    obtain ⟨c, st1, rfl, e1⟩ := mx_1r_sup (show mx_1r st (fun c st => cond (Nat.blt a 100) (mx_ob h c a (K (h.2 c b :: st) h)) (match xF a b c with
      | some w => K (w :: st) h
      | none => none)) = some y from e)
    cases ha : Nat.blt a 100 with
    | true =>
      rw [ha] at e1
      obtain ⟨hs, e2⟩ := mx_ob_sup (show mx_ob h c a (K (h.2 c b :: st1) h) = some y from e1)
      refine ⟨_, _, e2, fun K' z q => ?_, fun k hf L r h2 G => ?_⟩
      · show cond (Nat.blt a 100) (mx_ob h c a (K' (h.2 c b :: st1) h)) _ = some z
        rw [ha]
        simp [mx_ob, hs, q]
      · obtain ⟨hd, hf1, -⟩ := hf
        obtain ⟨C, T, N, h1, h3, h4⟩ := hf1 (Nat.blt_eq.mp ha)
        exact mx_o_get X h1 h3 (mx_hw_of h4) hd hs G
    | false =>
      rw [ha] at e1
      have e1 : (match xF a b c with
        | some w => K (w :: st1) h
        | none => none) = some y := e1
      cases hx : xF a b c with
      | none => rw [hx] at e1; cases e1
      | some w =>
        rw [hx] at e1
        refine ⟨_, _, e1, fun K' z q => ?_, fun k hf L r h2 G => ?_⟩
        · show cond (Nat.blt a 100) _ (match xF a b c with
            | some w => K' (w :: st1) h
            | none => none) = some z
          rw [ha, hx]
          exact q
        · obtain ⟨hd, -, hf2⟩ := hf
          obtain ⟨C, n, d, h1, h3⟩ := hf2 (Nat.le_of_not_lt fun q => by rw [Nat.blt_eq.mpr q] at ha; cases ha)
          exact mx_o_xget X (h3 _ _ hx) (mx_hw_of h1) hd G
  | putfield x =>
    cases st with
    | nil => cases e
    | cons w st =>
    obtain ⟨c, st1, rfl, e1⟩ := mx_1r_sup (show mx_1r st (fun c st => mx_ob h c a (if mx_ft (ty a b) w = true then K st (h.1, mx_ur h.2 c (mx_u1 (h.2 c) b w)) else none)) = some y from e)
    obtain ⟨hs, e2⟩ := mx_ob_sup e1
    obtain ⟨hft, e3⟩ := mx_if_sup e2
    refine ⟨_, _, e3, fun K' z q => ?_, fun k hf L r h2 G => ?_⟩
    · show mx_ob h c a (if mx_ft (ty a b) w = true then K' st1 _ else none) = some z
      simp [mx_ob, hs, hft, q]
    · obtain ⟨hd, C, T, N, h1, h3, h4, h5⟩ := hf
      exact mx_o_put X h1 h3 (mx_hw_of h4) hd hs h5 hft G
  | getstatic x =>
    refine ⟨_, _, (show K (xS a :: st) h = some y from e), fun K' z q => q, fun k hf L r h2 G => ?_⟩
    obtain ⟨hd, C, n, d, h1, h3⟩ := hf
    exact mx_o_gets X h3 (mx_hw_of h1) hd G
  | iaload =>
    obtain ⟨i, st0, rfl, e0⟩ := mx_1i_sup (show mx_1i st (fun i st => mx_1r st fun c st => cond (Nat.blt c 1000000) (mx_ar h c fun t n => if t = 0 ∧ mx_in i n = true then K (.inl (mx_tI (h.2 c i.toNatClampNeg)) :: st) h else none) (mx_xr xA c fun t n f => if t = 0 ∧ mx_in i n = true then K (.inl (f i.toNatClampNeg) :: st) h else none)) = some y from e)
    obtain ⟨c, st1, rfl, e1⟩ := mx_1r_sup e0
    cases hc : Nat.blt c 1000000 with
    | true =>
      rw [hc] at e1
      obtain ⟨t, n, hs, e2⟩ := mx_ar_sup (show mx_ar h c (fun t n => if t = 0 ∧ mx_in i n = true then K (.inl (mx_tI (h.2 c i.toNatClampNeg)) :: st1) h else none) = some y from e1)
      obtain ⟨⟨rfl, hin⟩, e3⟩ := mx_if_sup e2
      refine ⟨_, _, e3, fun K' z q => ?_, fun k hf L r h2 G => mx_o_iald X hf.1 hs (mx_in_ok hin) G⟩
      show cond (Nat.blt c 1000000) (mx_ar h c fun t n => if t = 0 ∧ mx_in i n = true then K' (.inl (mx_tI (h.2 c i.toNatClampNeg)) :: st1) h else none) _ = some z
      rw [hc]
      simp [mx_ar, hs, hin, q]
    | false =>
      rw [hc] at e1
      obtain ⟨t, n, f, hs, e2⟩ := mx_xr_sup (show mx_xr xA c (fun t n f => if t = 0 ∧ mx_in i n = true then K (.inl (f i.toNatClampNeg) :: st1) h else none) = some y from e1)
      obtain ⟨⟨rfl, hin⟩, e3⟩ := mx_if_sup e2
      refine ⟨_, _, e3, fun K' z q => ?_, fun k hf L r h2 G => mx_o_xi X (hXA _ _ _ _ hs) (mx_in_ok hin) hf.1 G⟩
      show cond (Nat.blt c 1000000) _ (mx_xr xA c fun t n f => if t = 0 ∧ mx_in i n = true then K' (.inl (f i.toNatClampNeg) :: st1) h else none) = some z
      rw [hc]
      simp [mx_xr, hs, hin, q]
  | baload =>
    obtain ⟨i, st0, rfl, e0⟩ := mx_1i_sup (show mx_1i st (fun i st => mx_1r st fun c st => cond (Nat.blt c 1000000) (mx_ar h c fun t n => if (t = 1 ∨ t = 2) ∧ mx_in i n = true then K (.inl (mx_tI (h.2 c i.toNatClampNeg)) :: st) h else none) (mx_xr xA c fun t n f => if t = 1 ∧ mx_in i n = true then K (.inl (f i.toNatClampNeg) :: st) h else none)) = some y from e)
    obtain ⟨c, st1, rfl, e1⟩ := mx_1r_sup e0
    cases hc : Nat.blt c 1000000 with
    | true =>
      rw [hc] at e1
      obtain ⟨t, n, hs, e2⟩ := mx_ar_sup (show mx_ar h c (fun t n => if (t = 1 ∨ t = 2) ∧ mx_in i n = true then K (.inl (mx_tI (h.2 c i.toNatClampNeg)) :: st1) h else none) = some y from e1)
      obtain ⟨⟨ht, hin⟩, e3⟩ := mx_if_sup e2
      refine ⟨_, _, e3, fun K' z q => ?_, fun k hf L r h2 G => ?_⟩
      · show cond (Nat.blt c 1000000) (mx_ar h c fun t n => if (t = 1 ∨ t = 2) ∧ mx_in i n = true then K' (.inl (mx_tI (h.2 c i.toNatClampNeg)) :: st1) h else none) _ = some z
        rw [hc]
        simp [mx_ar, hs, hin, q, ht]
      · rcases ht with rfl | rfl
        · exact mx_o_bald X hf.1 hs (mx_in_ok hin) G
        · exact mx_o_zald X hf.1 hs (mx_in_ok hin) G
    | false =>
      rw [hc] at e1
      obtain ⟨t, n, f, hs, e2⟩ := mx_xr_sup (show mx_xr xA c (fun t n f => if t = 1 ∧ mx_in i n = true then K (.inl (f i.toNatClampNeg) :: st1) h else none) = some y from e1)
      obtain ⟨⟨rfl, hin⟩, e3⟩ := mx_if_sup e2
      refine ⟨_, _, e3, fun K' z q => ?_, fun k hf L r h2 G => mx_o_xb X (hXA _ _ _ _ hs) (mx_in_ok hin) hf.1 G⟩
      show cond (Nat.blt c 1000000) _ (mx_xr xA c fun t n f => if t = 1 ∧ mx_in i n = true then K' (.inl (f i.toNatClampNeg) :: st1) h else none) = some z
      rw [hc]
      simp [mx_xr, hs, hin, q]
  | caload =>
    obtain ⟨i, st0, rfl, e0⟩ := mx_1i_sup (show mx_1i st (fun i st => mx_1r st fun c st => mx_ar h c fun t n => if t = 3 ∧ mx_in i n = true then K (.inl (mx_tI (h.2 c i.toNatClampNeg)) :: st) h else none) = some y from e)
    obtain ⟨c, st1, rfl, e1⟩ := mx_1r_sup e0
    obtain ⟨t, n, hs, e2⟩ := mx_ar_sup e1
    obtain ⟨⟨rfl, hin⟩, e3⟩ := mx_if_sup e2
    refine ⟨_, _, e3, fun K' z q => ?_, fun k hf L r h2 G => mx_o_cald X hf.1 hs (mx_in_ok hin) G⟩
    show mx_ar h c (fun t n => if t = 3 ∧ mx_in i n = true then K' (.inl (mx_tI (h.2 c i.toNatClampNeg)) :: st1) h else none) = some z
    simp [mx_ar, hs, hin, q]
  | laload =>
    obtain ⟨i, st0, rfl, e0⟩ := mx_1i_sup (show mx_1i st (fun i st => mx_1r st fun c st => mx_ar h c fun t n => if t = 4 ∧ mx_in i n = true then K (.inr (.inl (mx_tL (h.2 c i.toNatClampNeg))) :: st) h else none) = some y from e)
    obtain ⟨c, st1, rfl, e1⟩ := mx_1r_sup e0
    obtain ⟨t, n, hs, e2⟩ := mx_ar_sup e1
    obtain ⟨⟨rfl, hin⟩, e3⟩ := mx_if_sup e2
    refine ⟨_, _, e3, fun K' z q => ?_, fun k hf L r h2 G => mx_o_lald X hf.1 hs (mx_in_ok hin) G⟩
    show mx_ar h c (fun t n => if t = 4 ∧ mx_in i n = true then K' (.inr (.inl (mx_tL (h.2 c i.toNatClampNeg))) :: st1) h else none) = some z
    simp [mx_ar, hs, hin, q]
  | aaload =>
    obtain ⟨i, st0, rfl, e0⟩ := mx_1i_sup (show mx_1i st (fun i st => mx_1r st fun c st => mx_ar h c fun t n => if (t = 5 ∨ t = 6) ∧ mx_in i n = true then K (.inr (.inr (mx_tR (h.2 c i.toNatClampNeg))) :: st) h else none) = some y from e)
    obtain ⟨c, st1, rfl, e1⟩ := mx_1r_sup e0
    obtain ⟨t, n, hs, e2⟩ := mx_ar_sup e1
    obtain ⟨⟨ht, hin⟩, e3⟩ := mx_if_sup e2
    refine ⟨_, _, e3, fun K' z q => ?_, fun k hf L r h2 G => mx_o_aald X ht hf.1 hs (mx_in_ok hin) G⟩
    show mx_ar h c (fun t n => if (t = 5 ∨ t = 6) ∧ mx_in i n = true then K' (.inr (.inr (mx_tR (h.2 c i.toNatClampNeg))) :: st1) h else none) = some z
    simp [mx_ar, hs, hin, q, ht]
  | iastore =>
    obtain ⟨x, sta, rfl, ea⟩ := mx_1i_sup (show mx_1i st (fun x st => mx_1i st fun i st => mx_1r st fun c st => mx_ar h c fun t n => if t = 0 ∧ mx_in i n = true then K st (h.1, mx_ur h.2 c (mx_u1 (h.2 c) i.toNatClampNeg (.inl x))) else none) = some y from e)
    obtain ⟨i, st0, rfl, e0⟩ := mx_1i_sup ea
    obtain ⟨c, st1, rfl, e1⟩ := mx_1r_sup e0
    obtain ⟨t, n, hs, e2⟩ := mx_ar_sup e1
    obtain ⟨⟨rfl, hin⟩, e3⟩ := mx_if_sup e2
    refine ⟨_, _, e3, fun K' z q => ?_, fun k hf L r h2 G => mx_o_iast X hf.1 hs (mx_in_ok hin) G⟩
    show mx_ar h c (fun t n => if t = 0 ∧ mx_in i n = true then K' st1 _ else none) = some z
    simp [mx_ar, hs, hin, q]
  | bastore =>
    obtain ⟨x, sta, rfl, ea⟩ := mx_1i_sup (show mx_1i st (fun x st => mx_1i st fun i st => mx_1r st fun c st => mx_ar h c fun t n => if t = 1 ∧ mx_in i n = true then K st (h.1, mx_ur h.2 c (mx_u1 (h.2 c) i.toNatClampNeg (.inl x.toInt8.toInt32))) else if t = 2 ∧ mx_in i n = true then K st (h.1, mx_ur h.2 c (mx_u1 (h.2 c) i.toNatClampNeg (.inl (x &&& 1)))) else none) = some y from e)
    obtain ⟨i, st0, rfl, e0⟩ := mx_1i_sup ea
    obtain ⟨c, st1, rfl, e1⟩ := mx_1r_sup e0
    obtain ⟨t, n, hs, e2⟩ := mx_ar_sup e1
    by_cases ht : t = 1 ∧ mx_in i n = true
    · rw [if_pos ht] at e2
      obtain ⟨rfl, hin⟩ := ht
      refine ⟨_, _, e2, fun K' z q => ?_, fun k hf L r h2 G => mx_o_bast X hf.1 hs (mx_in_ok hin) G⟩
      show mx_ar h c (fun t n => if t = 1 ∧ mx_in i n = true then K' st1 _ else if t = 2 ∧ mx_in i n = true then K' st1 _ else none) = some z
      simp [mx_ar, hs, hin, q]
    · rw [if_neg ht] at e2
      obtain ⟨⟨rfl, hin⟩, e3⟩ := mx_if_sup e2
      refine ⟨_, _, e3, fun K' z q => ?_, fun k hf L r h2 G => mx_o_zast X hf.1 hs (mx_in_ok hin) G⟩
      show mx_ar h c (fun t n => if t = 1 ∧ mx_in i n = true then K' st1 _ else if t = 2 ∧ mx_in i n = true then K' st1 _ else none) = some z
      simp [mx_ar, hs, hin, q]
  | castore =>
    obtain ⟨x, sta, rfl, ea⟩ := mx_1i_sup (show mx_1i st (fun x st => mx_1i st fun i st => mx_1r st fun c st => mx_ar h c fun t n => if t = 3 ∧ mx_in i n = true then K st (h.1, mx_ur h.2 c (mx_u1 (h.2 c) i.toNatClampNeg (.inl x.toUInt32.toUInt16.toUInt32.toInt32))) else none) = some y from e)
    obtain ⟨i, st0, rfl, e0⟩ := mx_1i_sup ea
    obtain ⟨c, st1, rfl, e1⟩ := mx_1r_sup e0
    obtain ⟨t, n, hs, e2⟩ := mx_ar_sup e1
    obtain ⟨⟨rfl, hin⟩, e3⟩ := mx_if_sup e2
    refine ⟨_, _, e3, fun K' z q => ?_, fun k hf L r h2 G => mx_o_cast X hf.1 hs (mx_in_ok hin) G⟩
    show mx_ar h c (fun t n => if t = 3 ∧ mx_in i n = true then K' st1 _ else none) = some z
    simp only [mx_ar, hs]
    rw [if_pos ⟨trivial, hin⟩]
    exact q
  | lastore =>
    obtain ⟨x, sta, rfl, ea⟩ := mx_1l_sup (show mx_1l st (fun x st => mx_1i st fun i st => mx_1r st fun c st => mx_ar h c fun t n => if t = 4 ∧ mx_in i n = true then K st (h.1, mx_ur h.2 c (mx_u1 (h.2 c) i.toNatClampNeg (.inr (.inl x)))) else none) = some y from e)
    obtain ⟨i, st0, rfl, e0⟩ := mx_1i_sup ea
    obtain ⟨c, st1, rfl, e1⟩ := mx_1r_sup e0
    obtain ⟨t, n, hs, e2⟩ := mx_ar_sup e1
    obtain ⟨⟨rfl, hin⟩, e3⟩ := mx_if_sup e2
    refine ⟨_, _, e3, fun K' z q => ?_, fun k hf L r h2 G => mx_o_last X hf.1 hs (mx_in_ok hin) G⟩
    show mx_ar h c (fun t n => if t = 4 ∧ mx_in i n = true then K' st1 _ else none) = some z
    simp [mx_ar, hs, hin, q]
  | aastore =>
    obtain ⟨x, sta, rfl, ea⟩ := mx_1r_sup (show mx_1r st (fun x st => mx_1i st fun i st => mx_1r st fun c st => mx_ar h c fun t n => mx_ob h x b (if t = a ∧ mx_in i n = true then K st (h.1, mx_ur h.2 c (mx_u1 (h.2 c) i.toNatClampNeg (.inr (.inr (some x))))) else none)) = some y from e)
    obtain ⟨i, st0, rfl, e0⟩ := mx_1i_sup ea
    obtain ⟨c, st1, rfl, e1⟩ := mx_1r_sup e0
    obtain ⟨t, n, hs, e2⟩ := mx_ar_sup e1
    obtain ⟨hs2, e3⟩ := mx_ob_sup e2
    obtain ⟨⟨rfl, hin⟩, e4⟩ := mx_if_sup e3
    refine ⟨_, _, e4, fun K' z q => ?_, fun k hf L r h2 G => ?_⟩
    · show mx_ar h c (fun t' n => mx_ob h x b (if t' = t ∧ mx_in i n = true then K' st1 _ else none)) = some z
      simp [mx_ar, mx_ob, hs, hs2, hin, q]
    · obtain ⟨hd, ht, rr, h1, h3⟩ := hf
      exact mx_o_aast X ⟨ht, h3⟩ h1 hd hs hs2 (mx_in_ok hin) G
  | arraylength =>
    obtain ⟨c, st1, rfl, e1⟩ := mx_1r_sup (show mx_1r st (fun c st => cond (Nat.blt c 1000000) (mx_ar h c fun t n => if t < 7 then K (.inl (Int32.ofNat n) :: st) h else none) (mx_xr xA c fun _ n _ => K (.inl (Int32.ofNat n) :: st) h)) = some y from e)
    cases hc : Nat.blt c 1000000 with
    | true =>
      rw [hc] at e1
      obtain ⟨t, n, hs, e2⟩ := mx_ar_sup (show mx_ar h c (fun t n => if t < 7 then K (.inl (Int32.ofNat n) :: st1) h else none) = some y from e1)
      obtain ⟨ht, e3⟩ := mx_if_sup e2
      refine ⟨_, _, e3, fun K' z q => ?_, fun k hf L r h2 G => mx_o_alen X ht hf.1 hs G⟩
      show cond (Nat.blt c 1000000) (mx_ar h c fun t n => if t < 7 then K' (.inl (Int32.ofNat n) :: st1) h else none) _ = some z
      rw [hc]
      simp [mx_ar, hs, ht, q]
    | false =>
      rw [hc] at e1
      obtain ⟨t, n, f, hs, e2⟩ := mx_xr_sup (show mx_xr xA c (fun _ n _ => K (.inl (Int32.ofNat n) :: st1) h) = some y from e1)
      refine ⟨_, _, e2, fun K' z q => ?_, fun k hf L r h2 G => mx_o_xlen X (hXA _ _ _ _ hs) hf.1 G⟩
      show cond (Nat.blt c 1000000) _ (mx_xr xA c fun _ n _ => K' (.inl (Int32.ofNat n) :: st1) h) = some z
      rw [hc]
      simp [mx_xr, hs, q]
  | new x =>
    obtain ⟨hm, e1⟩ := mx_if_sup (show (if h.1.length < 1000000 then K (.inr (.inr (some h.1.length)) :: st) (h.1 ++ [.inl a], mx_ur h.2 h.1.length (fun i => mx_df (ty a i))) else none) = some y from e)
    refine ⟨_, _, e1, fun K' z q => ?_, fun k hf L r h2 G => ?_⟩
    · show (if h.1.length < 1000000 then K' _ _ else none) = some z
      rw [if_pos hm]
      exact q
    · obtain ⟨hd, C, T, N, h1, h3, h4, h5, h6⟩ := hf
      exact mx_o_new X h1 (mx_hw_of h3) (mx_hw_of h4) (mx_hw_of h5) hd hm h6 G
  | newarray t =>
    obtain ⟨n, st1, rfl, e0⟩ := mx_1i_sup (show mx_1i st (fun n st => if h.1.length < 1000000 ∧ mx_in n 1000001 = true then K (.inr (.inr (some h.1.length)) :: st) (h.1 ++ [.inr (a, n.toNatClampNeg)], mx_ur h.2 h.1.length (fun _ => mx_df (mx_ty a))) else none) = some y from e)
    obtain ⟨⟨hm, hin⟩, e1⟩ := mx_if_sup e0
    refine ⟨_, _, e1, fun K' z q => ?_, fun k hf L r h2 G => ?_⟩
    · show (if h.1.length < 1000000 ∧ mx_in n 1000001 = true then K' _ _ else none) = some z
      rw [if_pos ⟨hm, hin⟩]
      exact q
    · obtain ⟨hd, h1, h3, h4⟩ := hf
      have hi := mx_in_ok hin
      exact mx_o_newa X h1 h3 (mx_hw_of h4) hd hm (fun q => hi (Or.inl q)) rfl (by have : ¬ 1000001 ≤ n.toNatClampNeg := fun q => hi (Or.inr q); omega) G
  | anewarray x =>
    obtain ⟨n, st1, rfl, e0⟩ := mx_1i_sup (show mx_1i st (fun n st => if h.1.length < 1000000 ∧ mx_in n 1000001 = true then K (.inr (.inr (some h.1.length)) :: st) (h.1 ++ [.inr (a, n.toNatClampNeg)], mx_ur h.2 h.1.length (fun _ => mx_df (mx_ty a))) else none) = some y from e)
    obtain ⟨⟨hm, hin⟩, e1⟩ := mx_if_sup e0
    refine ⟨_, _, e1, fun K' z q => ?_, fun k hf L r h2 G => ?_⟩
    · show (if h.1.length < 1000000 ∧ mx_in n 1000001 = true then K' _ _ else none) = some z
      rw [if_pos ⟨hm, hin⟩]
      exact q
    · obtain ⟨hd, C, h1, h3, h4⟩ := hf
      have hi := mx_in_ok hin
      exact mx_o_anew X h1 h4 (mx_hw_of h3) hd hm (fun q => hi (Or.inl q)) rfl (by have : ¬ 1000001 ≤ n.toNatClampNeg := fun q => hi (Or.inr q); omega) G
  | invokespecial x =>
    cases hb0 : Nat.beq b 0 with
    | false =>
      have e : cond (Nat.beq b 0) (mx_1r st fun _ st => if mx_ct st ≤ 8 then K st h else none) none = some y := e
      rw [hb0] at e
      cases e
    | true =>
    have e : cond (Nat.beq b 0) (mx_1r st fun _ st => if mx_ct st ≤ 8 then K st h else none) none = some y := e
    rw [hb0] at e
    obtain ⟨c, st1, rfl, e0⟩ := mx_1r_sup (show mx_1r st (fun _ st => if mx_ct st ≤ 8 then K st h else none) = some y from e)
    obtain ⟨hct, e1⟩ := mx_if_sup e0
    refine ⟨_, _, e1, fun K' z q => ?_, fun k hf L r h2 G => ?_⟩
    · show cond (Nat.beq b 0) (if mx_ct st1 ≤ 8 then K' st1 h else none) none = some z
      rw [hb0]
      show (if mx_ct st1 ≤ 8 then K' st1 h else none) = some z
      rw [if_pos hct]
      exact q
    · obtain ⟨hd, h1, h3, h4, h5, h6⟩ := hf
      exact mx_o_init X (mx_hw_of h1) (mx_hw_of h3) (mx_hw_of h4) hd hct h5 h6 G
  | invokestatic x =>
    cases hb0 : Nat.beq b 0 with
    | false =>
      have e : cond (Nat.beq b 0) (cond (Nat.beq a 1) (mx_1i st fun v st => mx_1i st fun u st => if mx_ct st ≤ 8 then K (.inl (if u < v then v else u) :: st) h else none) (cond (Nat.beq a 2) (mx_1i st fun v st => mx_1i st fun u st => if mx_ct st ≤ 8 then K (.inl (if v < u then v else u) :: st) h else none) (mx_1i st fun n st => mx_1i st fun dp st => mx_1r st fun o1 st => mx_1i st fun sp st => mx_1r st fun o0 st => mx_ar h o0 fun t0 n0 => mx_ar h o1 fun t1 n1 => if (t0 = t1 ∧ (t0 = 0 ∨ t0 = 4)) ∧ ¬ sp < 0 ∧ ¬ dp < 0 ∧ ¬ n < 0 ∧ sp.toNatClampNeg + n.toNatClampNeg ≤ n0 ∧ dp.toNatClampNeg + n.toNatClampNeg ≤ n1 ∧ mx_ct st ≤ 8 then K st (h.1, mx_ur h.2 o1 (va_cpy (h.2 o0) (h.2 o1) sp.toNatClampNeg dp.toNatClampNeg n.toNatClampNeg)) else none))) none = some y := e
      rw [hb0] at e
      cases e
    | true =>
    have e : cond (Nat.beq b 0) (cond (Nat.beq a 1) (mx_1i st fun v st => mx_1i st fun u st => if mx_ct st ≤ 8 then K (.inl (if u < v then v else u) :: st) h else none) (cond (Nat.beq a 2) (mx_1i st fun v st => mx_1i st fun u st => if mx_ct st ≤ 8 then K (.inl (if v < u then v else u) :: st) h else none) (mx_1i st fun n st => mx_1i st fun dp st => mx_1r st fun o1 st => mx_1i st fun sp st => mx_1r st fun o0 st => mx_ar h o0 fun t0 n0 => mx_ar h o1 fun t1 n1 => if (t0 = t1 ∧ (t0 = 0 ∨ t0 = 4)) ∧ ¬ sp < 0 ∧ ¬ dp < 0 ∧ ¬ n < 0 ∧ sp.toNatClampNeg + n.toNatClampNeg ≤ n0 ∧ dp.toNatClampNeg + n.toNatClampNeg ≤ n1 ∧ mx_ct st ≤ 8 then K st (h.1, mx_ur h.2 o1 (va_cpy (h.2 o0) (h.2 o1) sp.toNatClampNeg dp.toNatClampNeg n.toNatClampNeg)) else none))) none = some y := e
    rw [hb0] at e
    have e : (cond (Nat.beq a 1) (mx_1i st fun v st => mx_1i st fun u st => if mx_ct st ≤ 8 then K (.inl (if u < v then v else u) :: st) h else none) (cond (Nat.beq a 2) (mx_1i st fun v st => mx_1i st fun u st => if mx_ct st ≤ 8 then K (.inl (if v < u then v else u) :: st) h else none) (mx_1i st fun n st => mx_1i st fun dp st => mx_1r st fun o1 st => mx_1i st fun sp st => mx_1r st fun o0 st => mx_ar h o0 fun t0 n0 => mx_ar h o1 fun t1 n1 => if (t0 = t1 ∧ (t0 = 0 ∨ t0 = 4)) ∧ ¬ sp < 0 ∧ ¬ dp < 0 ∧ ¬ n < 0 ∧ sp.toNatClampNeg + n.toNatClampNeg ≤ n0 ∧ dp.toNatClampNeg + n.toNatClampNeg ≤ n1 ∧ mx_ct st ≤ 8 then K st (h.1, mx_ur h.2 o1 (va_cpy (h.2 o0) (h.2 o1) sp.toNatClampNeg dp.toNatClampNeg n.toNatClampNeg)) else none))) = some y := e
    cases hb1 : Nat.beq a 1 with
    | true =>
      rw [hb1] at e
      obtain ⟨v, s1, rfl, e1⟩ := mx_1i_sup (show mx_1i st (fun v st => mx_1i st fun u st => if mx_ct st ≤ 8 then K (.inl (if u < v then v else u) :: st) h else none) = some y from e)
      obtain ⟨u, s2, rfl, e2⟩ := mx_1i_sup e1
      obtain ⟨hct, e3⟩ := mx_if_sup e2
      refine ⟨_, _, e3, fun K' z q => ?_, fun k hf L r h2 G => ?_⟩
      · show cond (Nat.beq b 0) (cond (Nat.beq a 1) (if mx_ct s2 ≤ 8 then K' _ h else none) _) none = some z
        rw [hb0, hb1]
        show (if mx_ct s2 ≤ 8 then K' _ h else none) = some z
        rw [if_pos hct]
        exact q
      · obtain ⟨hd, hf1, -, -⟩ := hf
        obtain ⟨w1, w2, w3, w4, w5, w6⟩ := hf1 (Nat.eq_of_beq_eq_true hb1)
        exact mx_o_max X (mx_hw_of w1) (mx_hw_of w2) (mx_hw_of w3) (mx_hw_of w4) hd hct w5 w6 G
    | false =>
    rw [hb1] at e
    have e : cond (Nat.beq a 2) (mx_1i st fun v st => mx_1i st fun u st => if mx_ct st ≤ 8 then K (.inl (if v < u then v else u) :: st) h else none) (mx_1i st fun n st => mx_1i st fun dp st => mx_1r st fun o1 st => mx_1i st fun sp st => mx_1r st fun o0 st => mx_ar h o0 fun t0 n0 => mx_ar h o1 fun t1 n1 => if (t0 = t1 ∧ (t0 = 0 ∨ t0 = 4)) ∧ ¬ sp < 0 ∧ ¬ dp < 0 ∧ ¬ n < 0 ∧ sp.toNatClampNeg + n.toNatClampNeg ≤ n0 ∧ dp.toNatClampNeg + n.toNatClampNeg ≤ n1 ∧ mx_ct st ≤ 8 then K st (h.1, mx_ur h.2 o1 (va_cpy (h.2 o0) (h.2 o1) sp.toNatClampNeg dp.toNatClampNeg n.toNatClampNeg)) else none) = some y := e
    cases hb2 : Nat.beq a 2 with
    | true =>
      rw [hb2] at e
      obtain ⟨v, s1, rfl, e1⟩ := mx_1i_sup (show mx_1i st (fun v st => mx_1i st fun u st => if mx_ct st ≤ 8 then K (.inl (if v < u then v else u) :: st) h else none) = some y from e)
      obtain ⟨u, s2, rfl, e2⟩ := mx_1i_sup e1
      obtain ⟨hct, e3⟩ := mx_if_sup e2
      refine ⟨_, _, e3, fun K' z q => ?_, fun k hf L r h2 G => ?_⟩
      · show cond (Nat.beq b 0) (cond (Nat.beq a 1) _ (cond (Nat.beq a 2) (if mx_ct s2 ≤ 8 then K' _ h else none) _)) none = some z
        rw [hb0, hb1, hb2]
        show (if mx_ct s2 ≤ 8 then K' _ h else none) = some z
        rw [if_pos hct]
        exact q
      · obtain ⟨hd, -, hf1, -⟩ := hf
        obtain ⟨w1, w2, w3, w4, w5, w6⟩ := hf1 (Nat.eq_of_beq_eq_true hb2)
        exact mx_o_min X (mx_hw_of w1) (mx_hw_of w2) (mx_hw_of w3) (mx_hw_of w4) hd hct w5 w6 G
    | false =>
    rw [hb2] at e
    obtain ⟨n, s1, rfl, e1⟩ := mx_1i_sup (show mx_1i st (fun n st => mx_1i st fun dp st => mx_1r st fun o1 st => mx_1i st fun sp st => mx_1r st fun o0 st => mx_ar h o0 fun t0 n0 => mx_ar h o1 fun t1 n1 => if (t0 = t1 ∧ (t0 = 0 ∨ t0 = 4)) ∧ ¬ sp < 0 ∧ ¬ dp < 0 ∧ ¬ n < 0 ∧ sp.toNatClampNeg + n.toNatClampNeg ≤ n0 ∧ dp.toNatClampNeg + n.toNatClampNeg ≤ n1 ∧ mx_ct st ≤ 8 then K st (h.1, mx_ur h.2 o1 (va_cpy (h.2 o0) (h.2 o1) sp.toNatClampNeg dp.toNatClampNeg n.toNatClampNeg)) else none) = some y from e)
    obtain ⟨dp, s2, rfl, e2⟩ := mx_1i_sup e1
    obtain ⟨o1, s3, rfl, e3⟩ := mx_1r_sup e2
    obtain ⟨sp, s4, rfl, e4⟩ := mx_1i_sup e3
    obtain ⟨o0, s5, rfl, e5⟩ := mx_1r_sup e4
    obtain ⟨t0, n0, hs0, e6⟩ := mx_ar_sup e5
    obtain ⟨t1, n1, hs1, e7⟩ := mx_ar_sup e6
    obtain ⟨⟨⟨rfl, ht⟩, g1, g2, g3, g4, g5, g6⟩, e8⟩ := mx_if_sup e7
    refine ⟨_, _, e8, fun K' z q => ?_, fun k hf L r h2 G => ?_⟩
    · show cond (Nat.beq b 0) (cond (Nat.beq a 1) _ (cond (Nat.beq a 2) _ (mx_ar h o0 (fun t0 n0 => mx_ar h o1 fun t1 n1 => if (t0 = t1 ∧ (t0 = 0 ∨ t0 = 4)) ∧ ¬ sp < 0 ∧ ¬ dp < 0 ∧ ¬ n < 0 ∧ sp.toNatClampNeg + n.toNatClampNeg ≤ n0 ∧ dp.toNatClampNeg + n.toNatClampNeg ≤ n1 ∧ mx_ct s5 ≤ 8 then K' s5 _ else none)))) none = some z
      rw [hb0, hb1, hb2]
      show mx_ar h o0 (fun t0 n0 => mx_ar h o1 fun t1 n1 => if (t0 = t1 ∧ (t0 = 0 ∨ t0 = 4)) ∧ ¬ sp < 0 ∧ ¬ dp < 0 ∧ ¬ n < 0 ∧ sp.toNatClampNeg + n.toNatClampNeg ≤ n0 ∧ dp.toNatClampNeg + n.toNatClampNeg ≤ n1 ∧ mx_ct s5 ≤ 8 then K' s5 _ else none) = some z
      simp only [mx_ar, hs0, hs1]
      rw [if_pos ⟨⟨trivial, ht⟩, g1, g2, g3, g4, g5, g6⟩]
      exact q
    · obtain ⟨hd, -, -, hf2⟩ := hf
      obtain ⟨w1, w2, w3, w4, w5, w6⟩ := hf2 (fun q => by rw [q] at hb1; cases hb1) (fun q => by rw [q] at hb2; cases hb2)
      rcases ht with rfl | rfl
      · exact mx_o_cpi X (mx_hw_of w1) (mx_hw_of w2) (mx_hw_of w3) (mx_hw_of w4) hd hs0 hs1 g1 g2 g3 g4 g5 g6 w5 w6 G
      · exact mx_o_cpl X (mx_hw_of w1) (mx_hw_of w2) (mx_hw_of w3) (mx_hw_of w4) hd hs0 hs1 g1 g2 g3 g4 g5 g6 w5 w6 G
  | _ => cases e
end MxHS
end
section
theorem mx_hw_in {Ts : List Jvm.Cond} {w : Jvm.Cond} (h : mx_hw Ts w = true) : w ∈ Ts := by
  unfold mx_hw at h
  exact @of_decide_eq_true _ (Classical.propDecidable _) h
theorem mx_hH_HP (nf : Nat → Nat) (ty : Nat → Nat → FieldType) (xF : Nat → Nat → Nat → Option mx_V) (xS : Nat → mx_V) (xA : mx_XA) : mx_HP (mx_hH nf ty xF xS xA) := by
  intro r st s K x e
  obtain ⟨i, pc, nx, a, b, v, sw⟩ := r
  have X : mx_X (fun k => k) 0 (fun _ => False) [] (mx_hw []) (fun _ => 0, fun _ _ => 0) [] (fun _ => 0) nf ((List.range 7).map (fun t => (0, mx_ty t))) ty mx_ty :=
    ⟨fun ci C T N h => by simp at h, fun k _ => (Nat.zero_add k).symm, fun w h => mx_hw_in h, fun U h => h.elim, fun t ht => by rw [List.getElem?_map, List.getElem?_range ht]; rfl⟩
  obtain ⟨st', h', h1, h2, -⟩ := mx_hH_sup (l := launch0) (xl := fun _ => 0) (yN := fun _ => ⟨"", "", ""⟩) (cN := fun _ => ⟨#[]⟩) (rN := fun _ => none) (fN := fun _ => 0) (lN := fun _ => 0) X (fun _ _ _ _ _ _ h => h.elim) e
  exact ⟨st', h', h1, h2⟩
/-- whether a row is one of the heap's -/
def mx_hq (i : Instr) (b : Nat) : Bool := match i with
  | .getfield _ => true
  | .putfield _ => true
  | .getstatic _ => true
  | .iaload => true
  | .iastore => true
  | .baload => true
  | .bastore => true
  | .caload => true
  | .castore => true
  | .laload => true
  | .lastore => true
  | .aaload => true
  | .aastore => true
  | .arraylength => true
  | .new _ => true
  | .newarray _ => true
  | .anewarray _ => true
  | .invokespecial _ => Nat.beq b 0
  | .invokestatic _ => Nat.beq b 0
  | _ => false
section MxHS2
variable {l : Launch} {cd : Nat → mx_T} {xl : Nat → Nat} {ad : Nat → Nat} {bs : Nat} {mE : State → Prop}
variable {yN : Nat → MethodName} {cN : Nat → ByteArray} {rN : Nat → Option FieldType} {fN lN : Nat → Nat} {Ts : List Jvm.Cond}
variable {D : va_G} {cl : List vw_C} {cid : Nat → ClassId} {nf : Nat → Nat} {tys : List (ClassId × FieldType)} {ty : Nat → Nat → FieldType}
variable {xF : Nat → Nat → Nat → Option mx_V} {xS : Nat → mx_V} {xA : mx_XA}
theorem mx_hH_HS (X : mx_X ad bs mE Ts (mx_hw Ts) D cl cid nf tys ty mx_ty) (hXA : ∀ c t n f, xA c = some (t, n, f) → ∀ U, mE U → va_T (mx_ty t) (ad c) n (fun j => .int (f j)) (fun q => bs ≤ q) U U.heap)
    (hrow : ∀ (k j : Nat) (i : Instr) (pc nx a b : Nat) (v : Int32) (sw : List (Int32 × Nat)), mx_get (cd k) j = (i, pc, nx, a, b, v, sw) → mx_hq i b = true → mx_hf xl ad bs mE yN cN fN lN Ts cl ty xF xS k i pc a b ∧ mx_pc cd k nx = pc + mx_ln i) :
    mx_HS l cd xl (mx_hH nf ty xF xS xA) ad (mx_RH D cl ad bs cid nf) mx_gc (mx_gs nf) bs mE (fun q => bs ≤ q) yN cN rN fN lN Ts := by
  intro k j L st s K x e
  have hpc : mx_pc cd k j = (mx_get (cd k) j).2.1 := rfl
  rw [hpc]
  have hr := hrow k j
  generalize mx_get (cd k) j = row at e hr ⊢
  obtain ⟨i, pc, nx, a, b, v, sw⟩ := row
  have hq : mx_hq i b = true := by
    cases i with
    | invokespecial xx =>
      cases hb : Nat.beq b 0 with
      | true => exact hb
      | false =>
        have e : cond (Nat.beq b 0) (_ : Option (Option mx_V × mx_Hp)) none = some x := e
        rw [hb] at e
        cases e
    | invokestatic xx =>
      cases hb : Nat.beq b 0 with
      | true => exact hb
      | false =>
        have e : cond (Nat.beq b 0) (_ : Option (Option mx_V × mx_Hp)) none = some x := e
        rw [hb] at e
        cases e
    | _ => first | rfl | cases e
  obtain ⟨hf, hnx⟩ := hr i pc nx a b v sw rfl hq
  obtain ⟨st', h', h1, -, h3⟩ := mx_hH_sup (l := l) (rN := rN) X hXA e
  refine ⟨st', h', h1, fun r s2 G => h3 k hf L r s2 ?_⟩
  have G2 : mx_GH l xl ad bs mE yN cN rN fN lN Ts D cl cid nf k (mx_pc cd k nx) L st' h' r s2 := G
  rw [hnx] at G2
  exact G2
end MxHS2
end
