/-! ===== what a row rests on; the machine without fuel; evaluation up to a cut ===== -/
section MxSup
variable {σ : Type} {xl : Nat → Nat} {hop : mx_H σ}
def mx_HP (hop : mx_H σ) : Prop := ∀ r st s K x, hop r st s K = some x → ∃ st' s', K st' s' = some x ∧ ∀ K' y, K' st' s' = some y → hop r st s K' = some y
theorem mx_pu_sup {β : Type} {i : Instr} {a : Nat} {v : Int32} {L : mx_L} {st : List mx_V} {K : mx_L → List mx_V → Option β} {x : β} (h : mx_pu i a v L st K = some x) :
    ∃ L' st', K L' st' = some x ∧ ∀ (γ : Type) (K' : mx_L → List mx_V → Option γ) y, K' L' st' = some y → mx_pu i a v L st K' = some y := by
  have h1i : ∀ (γ : Type) (st : List mx_V) (K : Int32 → List mx_V → Option γ) (y : γ), mx_1i st K = some y → ∃ z st', st = .inl z :: st' ∧ K z st' = some y := by
    intro γ st K y h
    match st, h with
    | .inl z :: st', h => exact ⟨z, st', rfl, h⟩
    | [], h => cases h
    | .inr _ :: _, h => cases h
  have h1l : ∀ (γ : Type) (st : List mx_V) (K : Int64 → List mx_V → Option γ) (y : γ), mx_1l st K = some y → ∃ z st', st = .inr (.inl z) :: st' ∧ K z st' = some y := by
    intro γ st K y h
    match st, h with
    | .inr (.inl z) :: st', h => exact ⟨z, st', rfl, h⟩
    | [], h => cases h
    | .inl _ :: _, h => cases h
    | .inr (.inr _) :: _, h => cases h
  have h1a : ∀ (γ : Type) (st : List mx_V) (K : Option Nat → List mx_V → Option γ) (y : γ), mx_1a st K = some y → ∃ z st', st = .inr (.inr z) :: st' ∧ K z st' = some y := by
    intro γ st K y h
    match st, h with
    | .inr (.inr z) :: st', h => exact ⟨z, st', rfl, h⟩
    | [], h => cases h
    | .inl _ :: _, h => cases h
    | .inr (.inl _) :: _, h => cases h
  have hli : ∀ (γ : Type) (K : Int32 → Option γ) (y : γ), mx_li L a K = some y → ∃ z, mx_at L a = some (.inl z) ∧ K z = some y := by
    intro γ K y h
    unfold mx_li at h
    split at h
    · next z e => exact ⟨z, e, h⟩
    · cases h
  have hll : ∀ (γ : Type) (K : Int64 → Option γ) (y : γ), mx_ll L a K = some y → ∃ z, mx_at L a = some (.inr (.inl z)) ∧ K z = some y := by
    intro γ K y h
    unfold mx_ll at h
    split at h
    · next z e => exact ⟨z, e, h⟩
    · cases h
  have hla : ∀ (γ : Type) (K : Option Nat → Option γ) (y : γ), mx_la L a K = some y → ∃ z, mx_at L a = some (.inr (.inr z)) ∧ K z = some y := by
    intro γ K y h
    unfold mx_la at h
    split at h
    · next z e => exact ⟨z, e, h⟩
    · cases h
  have two : ∀ (op : Int32 → Int32 → Int32), mx_1i st (fun y st => mx_1i st fun x st => K L (.inl (op x y) :: st)) = some x → ∃ L' st', K L' st' = some x ∧ ∀ (γ : Type) (K' : mx_L → List mx_V → Option γ) y, K' L' st' = some y → mx_1i st (fun y st => mx_1i st fun x st => K' L (.inl (op x y) :: st)) = some y := by
    intro op h
    obtain ⟨y, s1, e1, h⟩ := h1i _ _ _ _ h
    obtain ⟨z, s2, e2, h⟩ := h1i _ _ _ _ h
    subst e2; subst e1
    exact ⟨_, _, h, fun _ K' y h => h⟩
  have twod : ∀ (op : Int32 → Int32 → Int32), mx_1i st (fun y st => mx_1i st fun x st => if y = 0 then none else K L (.inl (op x y) :: st)) = some x → ∃ L' st', K L' st' = some x ∧ ∀ (γ : Type) (K' : mx_L → List mx_V → Option γ) y, K' L' st' = some y → mx_1i st (fun y st => mx_1i st fun x st => if y = 0 then none else K' L (.inl (op x y) :: st)) = some y := by
    intro op h
    obtain ⟨y, s1, e1, h2⟩ := h1i _ _ _ _ h
    obtain ⟨z, s2, e2, h3⟩ := h1i _ _ _ _ h2
    clear h h2
    subst e2; subst e1
    by_cases hy : y = 0
    · rw [if_pos hy] at h3; cases h3
    · rw [if_neg hy] at h3
      exact ⟨_, _, h3, fun _ K' w h => by show (if y = 0 then none else _) = _; rw [if_neg hy]; exact h⟩
  have twol : ∀ (op : Int64 → Int64 → mx_V), mx_1l st (fun y st => mx_1l st fun x st => K L (op x y :: st)) = some x → ∃ L' st', K L' st' = some x ∧ ∀ (γ : Type) (K' : mx_L → List mx_V → Option γ) y, K' L' st' = some y → mx_1l st (fun y st => mx_1l st fun x st => K' L (op x y :: st)) = some y := by
    intro op h
    obtain ⟨y, s1, e1, h⟩ := h1l _ _ _ _ h
    obtain ⟨z, s2, e2, h⟩ := h1l _ _ _ _ h
    subst e2; subst e1
    exact ⟨_, _, h, fun _ K' y h => h⟩
  have onei : ∀ (L2 : Int32 → mx_L) (op : Int32 → List mx_V → List mx_V), mx_1i st (fun z st => K (L2 z) (op z st)) = some x → ∃ L' st', K L' st' = some x ∧ ∀ (γ : Type) (K' : mx_L → List mx_V → Option γ) y, K' L' st' = some y → mx_1i st (fun z st => K' (L2 z) (op z st)) = some y := by
    intro L2 op h
    obtain ⟨y, s1, e1, h⟩ := h1i _ _ _ _ h
    subst e1
    exact ⟨_, _, h, fun _ K' y h => h⟩
  have onel : ∀ (L2 : Int64 → mx_L) (op : Int64 → List mx_V → List mx_V), mx_1l st (fun z st => K (L2 z) (op z st)) = some x → ∃ L' st', K L' st' = some x ∧ ∀ (γ : Type) (K' : mx_L → List mx_V → Option γ) y, K' L' st' = some y → mx_1l st (fun z st => K' (L2 z) (op z st)) = some y := by
    intro L2 op h
    obtain ⟨y, s1, e1, h⟩ := h1l _ _ _ _ h
    subst e1
    exact ⟨_, _, h, fun _ K' y h => h⟩
  have onea : ∀ (L2 : Option Nat → mx_L) (op : Option Nat → List mx_V → List mx_V), mx_1a st (fun z st => K (L2 z) (op z st)) = some x → ∃ L' st', K L' st' = some x ∧ ∀ (γ : Type) (K' : mx_L → List mx_V → Option γ) y, K' L' st' = some y → mx_1a st (fun z st => K' (L2 z) (op z st)) = some y := by
    intro L2 op h
    obtain ⟨y, s1, e1, h⟩ := h1a _ _ _ _ h
    subst e1
    exact ⟨_, _, h, fun _ K' y h => h⟩
  have loci : ∀ (L2 : Int32 → mx_L) (op : Int32 → List mx_V), mx_li L a (fun z => K (L2 z) (op z)) = some x → ∃ L' st', K L' st' = some x ∧ ∀ (γ : Type) (K' : mx_L → List mx_V → Option γ) y, K' L' st' = some y → mx_li L a (fun z => K' (L2 z) (op z)) = some y := by
    intro L2 op h
    obtain ⟨z, e, h⟩ := hli _ _ _ h
    exact ⟨_, _, h, fun _ K' y h => by unfold mx_li; rw [e]; exact h⟩
  have locl : ∀ (op : Int64 → List mx_V), mx_ll L a (fun z => K L (op z)) = some x → ∃ L' st', K L' st' = some x ∧ ∀ (γ : Type) (K' : mx_L → List mx_V → Option γ) y, K' L' st' = some y → mx_ll L a (fun z => K' L (op z)) = some y := by
    intro op h
    obtain ⟨z, e, h⟩ := hll _ _ _ h
    exact ⟨_, _, h, fun _ K' y h => by unfold mx_ll; rw [e]; exact h⟩
  have loca : ∀ (op : Option Nat → List mx_V), mx_la L a (fun z => K L (op z)) = some x → ∃ L' st', K L' st' = some x ∧ ∀ (γ : Type) (K' : mx_L → List mx_V → Option γ) y, K' L' st' = some y → mx_la L a (fun z => K' L (op z)) = some y := by
    intro op h
    obtain ⟨z, e, h⟩ := hla _ _ _ h
    exact ⟨_, _, h, fun _ K' y h => by unfold mx_la; rw [e]; exact h⟩
  cases i with
  | iconst _ => exact ⟨_, _, h, fun _ K' y h => h⟩
  | bipush _ => exact ⟨_, _, h, fun _ K' y h => h⟩
  | sipush _ => exact ⟨_, _, h, fun _ K' y h => h⟩
  | ldc _ => cases a with
    | zero => exact ⟨_, _, h, fun _ K' y h => h⟩
    | succ a => exact ⟨_, _, h, fun _ K' y h => h⟩
  | ldc_w _ => exact ⟨_, _, h, fun _ K' y h => h⟩
  | ldc2_w _ => exact ⟨_, _, h, fun _ K' y h => h⟩
  | lconst _ => exact ⟨_, _, h, fun _ K' y h => h⟩
  | aconst_null => exact ⟨_, _, h, fun _ K' y h => h⟩
  | iload _ => exact loci (fun _ => L) (fun z => .inl z :: st) h
  | iload_n _ => exact loci (fun _ => L) (fun z => .inl z :: st) h
  | lload _ => exact locl (fun z => .inr (.inl z) :: st) h
  | lload_n _ => exact locl (fun z => .inr (.inl z) :: st) h
  | aload _ => exact loca (fun z => .inr (.inr z) :: st) h
  | aload_n _ => exact loca (fun z => .inr (.inr z) :: st) h
  | istore _ => exact onei (fun z => mx_s1 L a (.inl z)) (fun _ st => st) h
  | istore_n _ => exact onei (fun z => mx_s1 L a (.inl z)) (fun _ st => st) h
  | lstore _ => exact onel (fun z => mx_s2 L a (.inr (.inl z))) (fun _ st => st) h
  | lstore_n _ => exact onel (fun z => mx_s2 L a (.inr (.inl z))) (fun _ st => st) h
  | astore _ => exact onea (fun z => mx_s1 L a (.inr (.inr z))) (fun _ st => st) h
  | astore_n _ => exact onea (fun z => mx_s1 L a (.inr (.inr z))) (fun _ st => st) h
  | iinc _ _ => exact loci (fun z => mx_s1 L a (.inl (z + v))) (fun _ => st) h
  | iadd => exact two (fun x y => x + y) h
  | isub => exact two (fun x y => x - y) h
  | imul => exact two (fun x y => x * y) h
  | iand => exact two (fun x y => x &&& y) h
  | ior => exact two (fun x y => x ||| y) h
  | ixor => exact two (fun x y => x ^^^ y) h
  | ishl => exact two (fun x y => x <<< (y &&& 31)) h
  | ishr => exact two (fun x y => x >>> (y &&& 31)) h
  | iushr => exact two (fun x y => (x.toUInt32 >>> (y.toUInt32 &&& Int32.toUInt32 31)).toInt32) h
  | idiv => exact twod (fun x y => x / y) h
  | irem => exact twod (fun x y => x - x / y * y) h
  | ineg => exact onei (fun _ => L) (fun z st => .inl (-z) :: st) h
  | ladd => exact twol (fun x y => .inr (.inl (x + y))) h
  | lmul => exact twol (fun x y => .inr (.inl (x * y))) h
  | lcmp => exact twol (fun x y => .inl (lg_cmp x y)) h
  | i2l => exact onei (fun _ => L) (fun z st => .inr (.inl z.toInt64) :: st) h
  | l2i => exact onel (fun _ => L) (fun z st => .inl z.toInt32 :: st) h
  | i2b => exact onei (fun _ => L) (fun z st => .inl z.toInt8.toInt32 :: st) h
  | i2s => exact onei (fun _ => L) (fun z st => .inl z.toInt16.toInt32 :: st) h
  | i2c => exact onei (fun _ => L) (fun z st => .inl (z.toUInt32 % 65536).toInt32 :: st) h
  | dup =>
    match st, h with
    | .inl _ :: _, h => exact ⟨_, _, h, fun _ K' y h => h⟩
    | .inr (.inr _) :: _, h => exact ⟨_, _, h, fun _ K' y h => h⟩
    | .inr (.inl _) :: _, h => cases h
    | [], h => cases h
  | dup2 =>
    match st, h with
    | .inl _ :: .inr (.inr _) :: _, h => exact ⟨_, _, h, fun _ K' y h => h⟩
    | .inl _ :: .inl _ :: _, h => cases h
    | .inl _ :: .inr (.inl _) :: _, h => cases h
    | [.inl _], h => cases h
    | .inr _ :: _, h => cases h
    | [], h => cases h
  | pop =>
    match st, h with
    | .inl _ :: _, h => exact ⟨_, _, h, fun _ K' y h => h⟩
    | .inr (.inr _) :: _, h => exact ⟨_, _, h, fun _ K' y h => h⟩
    | .inr (.inl _) :: _, h => cases h
    | [], h => cases h
  | _ => cases h
end MxSup
