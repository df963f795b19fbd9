/-! ===== evaluation that goes into small calls ===== -/
abbrev mx_Fr : Type := List (Nat × Nat × mx_L × List mx_V)
section MxEi
variable {σ : Type}
def mx_rs (d : mx_F σ) : mx_Fr → Option mx_V × σ → Option (Option mx_V × σ)
  | [], q => some q
  | (k, nx, L, st) :: fs, q => (d k nx L (q.1.toList ++ st) q.2).bind (mx_rs d fs)
def mx_gg (d : mx_F σ) (fs : mx_Fr) : mx_F σ := match fs with
  | [] => d
  | f :: fs => fun k j L st s => (d k j L st s).bind (mx_rs d (f :: fs))
def mx_re (E : mx_Fr → mx_F σ) (fs : mx_Fr) (v : Option mx_V) (s : σ) : Option (Option mx_V × σ) := match fs with
  | [] => some (v, s)
  | (k, nx, L, st) :: fs => E fs k nx L (v.toList ++ st) s
def mx_bc (xl : Nat → Nat) (rc : Nat → List mx_V → σ → Bool) (hop : mx_H σ) (inl : Nat → Bool) (d : mx_F σ) (E : mx_Fr → mx_F σ) (fs : mx_Fr) (k : Nat) (r : mx_I) (L : mx_L) (st : List mx_V) (s : σ) : Option (Option mx_V × σ) :=
  match r with
  | (i, pc, nx, a, b, v, sw) => match i with
    | .nop => mx_gg d fs k nx (mx_mk a L) st s
    | .goto _ => E fs k a L st s
    | .ifCond c _ => mx_1i st fun x st => mx_br c x 0 (E fs k a L st s) (E fs k nx L st s)
    | .if_icmp c _ => mx_1i st fun y st => mx_1i st fun x st => mx_br c x y (E fs k a L st s) (E fs k nx L st s)
    | .ifnonnull _ => mx_1a st fun x st => match x with
      | none => E fs k nx L st s
      | some _ => E fs k a L st s
    | .tableswitch _ _ _ _ => mx_1i st fun x st => mx_sw x (fun t => E fs k t L st s) (E fs k a L st s) sw
    | .ireturn => match st with
      | [.inl x] => mx_rt b x (mx_re E fs (some (.inl x)) s)
      | _ => none
    | .areturn => match st with
      | [.inr (.inr x)] => mx_re E fs (some (.inr (.inr x))) s
      | _ => none
    | .return_ => match st with
      | [] => mx_re E fs none s
      | _ => none
    | .invokevirtual _ => match b with
      | 0 => hop (i, pc, nx, a, b, v, sw) st s (fun st s => E fs k nx L st s)
      | b + 1 => mx_tk (b + 1) [] st fun as st => cond (rc a as s && Nat.ble (mx_ct st) 8) (cond (inl a) (E ((k, nx, L, st) :: fs) a 0 (mx_en (xl a) as) [] s) ((d a 0 (mx_en (xl a) as) [] s).bind fun q => mx_gg d fs k nx L (q.1.toList ++ st) q.2)) none
    | .invokespecial _ => match b with
      | 0 => hop (i, pc, nx, a, b, v, sw) st s (fun st s => E fs k nx L st s)
      | b + 1 => mx_tk (b + 1) [] st fun as st => cond (rc a as s && Nat.ble (mx_ct st) 8) (cond (inl a) (E ((k, nx, L, st) :: fs) a 0 (mx_en (xl a) as) [] s) ((d a 0 (mx_en (xl a) as) [] s).bind fun q => mx_gg d fs k nx L (q.1.toList ++ st) q.2)) none
    | .invokestatic _ => match b with
      | 0 => hop (i, pc, nx, a, b, v, sw) st s (fun st s => E fs k nx L st s)
      | b + 1 => mx_tk (b + 1) [] st fun as st => cond (rc a as s && Nat.ble (mx_ct st) 8) (cond (inl a) (E ((k, nx, L, st) :: fs) a 0 (mx_en (xl a) as) [] s) ((d a 0 (mx_en (xl a) as) [] s).bind fun q => mx_gg d fs k nx L (q.1.toList ++ st) q.2)) none
    | .getfield _ => hop (i, pc, nx, a, b, v, sw) st s (fun st s => E fs k nx L st s)
    | .putfield _ => hop (i, pc, nx, a, b, v, sw) st s (fun st s => E fs k nx L st s)
    | .getstatic _ => hop (i, pc, nx, a, b, v, sw) st s (fun st s => E fs k nx L st s)
    | .iaload => hop (i, pc, nx, a, b, v, sw) st s (fun st s => E fs k nx L st s)
    | .iastore => hop (i, pc, nx, a, b, v, sw) st s (fun st s => E fs k nx L st s)
    | .baload => hop (i, pc, nx, a, b, v, sw) st s (fun st s => E fs k nx L st s)
    | .bastore => hop (i, pc, nx, a, b, v, sw) st s (fun st s => E fs k nx L st s)
    | .caload => hop (i, pc, nx, a, b, v, sw) st s (fun st s => E fs k nx L st s)
    | .castore => hop (i, pc, nx, a, b, v, sw) st s (fun st s => E fs k nx L st s)
    | .laload => hop (i, pc, nx, a, b, v, sw) st s (fun st s => E fs k nx L st s)
    | .lastore => hop (i, pc, nx, a, b, v, sw) st s (fun st s => E fs k nx L st s)
    | .aaload => hop (i, pc, nx, a, b, v, sw) st s (fun st s => E fs k nx L st s)
    | .aastore => hop (i, pc, nx, a, b, v, sw) st s (fun st s => E fs k nx L st s)
    | .arraylength => hop (i, pc, nx, a, b, v, sw) st s (fun st s => E fs k nx L st s)
    | .new _ => hop (i, pc, nx, a, b, v, sw) st s (fun st s => E fs k nx L st s)
    | .newarray _ => hop (i, pc, nx, a, b, v, sw) st s (fun st s => E fs k nx L st s)
    | .anewarray _ => hop (i, pc, nx, a, b, v, sw) st s (fun st s => E fs k nx L st s)
    | i => mx_pu i a v L st (fun L st => E fs k nx L st s)
noncomputable def mx_ei (cd : Nat → mx_T) (xl : Nat → Nat) (rc : Nat → List mx_V → σ → Bool) (hop : mx_H σ) (inl : Nat → Bool) (d : mx_F σ) : Nat → mx_Fr → mx_F σ
  | 0 => mx_gg d
  | n + 1 => fun fs k j L st s => mx_bc xl rc hop inl d (mx_ei cd xl rc hop inl d n) fs k (mx_get (cd k) j) L st s
variable {cd : Nat → mx_T} {xl : Nat → Nat} {rc : Nat → List mx_V → σ → Bool} {hop : mx_H σ} {inl : Nat → Bool}
theorem mx_gg_eq (d : mx_F σ) (fs : mx_Fr) (k j : Nat) (L : mx_L) (st : List mx_V) (s : σ) : (d k j L st s).bind (mx_rs d fs) = mx_gg d fs k j L st s := by
  cases fs with
  | nil =>
    show (d k j L st s).bind (fun q => some q) = d k j L st s
    cases d k j L st s <;> rfl
  | cons f fs => rfl
theorem mx_bd_1i {β γ : Type} (st : List mx_V) (F : Int32 → List mx_V → Option β) (R : β → Option γ) : (mx_1i st F).bind R = mx_1i st (fun x st => (F x st).bind R) := by
  match st with
  | .inl x :: st' => rfl
  | [] => rfl
  | .inr _ :: _ => rfl
theorem mx_bd_1a {β γ : Type} (st : List mx_V) (F : Option Nat → List mx_V → Option β) (R : β → Option γ) : (mx_1a st F).bind R = mx_1a st (fun x st => (F x st).bind R) := by
  match st with
  | .inr (.inr x) :: st' => rfl
  | [] => rfl
  | .inl _ :: _ => rfl
  | .inr (.inl _) :: _ => rfl
theorem mx_bd_br {β γ : Type} (c : ClassFile.Cond) (x y : Int32) (A B : Option β) (R : β → Option γ) : (mx_br c x y A B).bind R = mx_br c x y (A.bind R) (B.bind R) := by
  rcases mx_br_cases c x y A B with ⟨h1, h2⟩ | ⟨h1, h2⟩
  · rw [h1, h2]
  · rw [h1, h2]
theorem mx_bd_sw {β γ : Type} (x : Int32) (K : Nat → Option β) (A : Option β) (R : β → Option γ) (l : List (Int32 × Nat)) : (mx_sw x K A l).bind R = mx_sw x (fun t => (K t).bind R) (A.bind R) l := by
  rcases mx_sw_cases x K A l with ⟨h1, h2⟩ | ⟨t, h1, h2⟩
  · rw [h1, h2]
  · rw [h1, h2]
theorem mx_bd_rt {β γ : Type} (b : Nat) (x : Int32) (A : Option β) (R : β → Option γ) : (mx_rt b x A).bind R = mx_rt b x (A.bind R) := by
  match b with
  | 0 => rfl
  | 1 =>
    show (if x = 0 then A else if x = 1 then A else none).bind R = (if x = 0 then A.bind R else if x = 1 then A.bind R else none)
    by_cases h0 : x = 0
    · rw [if_pos h0, if_pos h0]
    · rw [if_neg h0, if_neg h0]
      by_cases h1 : x = 1
      · rw [if_pos h1, if_pos h1]
      · rw [if_neg h1, if_neg h1]; rfl
  | 2 =>
    show (if x.toUInt32.toUInt16.toUInt32.toInt32 = x then A else none).bind R = (if x.toUInt32.toUInt16.toUInt32.toInt32 = x then A.bind R else none)
    by_cases h0 : x.toUInt32.toUInt16.toUInt32.toInt32 = x
    · rw [if_pos h0, if_pos h0]
    · rw [if_neg h0, if_neg h0]; rfl
  | n + 3 =>
    show (if x.toInt8.toInt32 = x then A else none).bind R = (if x.toInt8.toInt32 = x then A.bind R else none)
    by_cases h0 : x.toInt8.toInt32 = x
    · rw [if_pos h0, if_pos h0]
    · rw [if_neg h0, if_neg h0]; rfl
theorem mx_bd_tk {β γ : Type} (R : β → Option γ) : ∀ (n : Nat) (as st : List mx_V) (K : List mx_V → List mx_V → Option β), (mx_tk n as st K).bind R = mx_tk n as st (fun as st => (K as st).bind R)
  | 0, as, st, K => rfl
  | _ + 1, _, [], _ => rfl
  | n + 1, as, x :: st, K => mx_bd_tk R n (x :: as) st K
theorem mx_bd_pu {β γ : Type} (i : Instr) (a : Nat) (v : Int32) (L : mx_L) (st : List mx_V) (K : mx_L → List mx_V → Option β) (R : β → Option γ) : (mx_pu i a v L st K).bind R = mx_pu i a v L st (fun L st => (K L st).bind R) := by
  apply Option.ext
  intro y
  constructor
  · intro h
    obtain ⟨x, h1, h2⟩ := Option.bind_eq_some_iff.mp h
    obtain ⟨L', st', h3, h4⟩ := mx_pu_sup h1
    exact h4 _ _ _ (by rw [h3]; exact h2)
  · intro h
    obtain ⟨L', st', h3, h4⟩ := mx_pu_sup h
    obtain ⟨x, h1, h2⟩ := Option.bind_eq_some_iff.mp h3
    exact Option.bind_eq_some_iff.mpr ⟨x, h4 _ _ _ h1, h2⟩
theorem mx_bd_hop (hH : mx_HP hop) (r : mx_I) (st : List mx_V) (s : σ) (K : List mx_V → σ → Option (Option mx_V × σ)) (R : Option mx_V × σ → Option (Option mx_V × σ)) : (hop r st s K).bind R = hop r st s (fun st s => (K st s).bind R) := by
  apply Option.ext
  intro y
  constructor
  · intro h
    obtain ⟨x, h1, h2⟩ := Option.bind_eq_some_iff.mp h
    obtain ⟨st', s', h3, h4⟩ := hH _ _ _ _ _ h1
    exact h4 _ _ (by rw [h3]; exact h2)
  · intro h
    obtain ⟨st', s', h3, h4⟩ := hH _ _ _ _ _ h
    obtain ⟨x, h1, h2⟩ := Option.bind_eq_some_iff.mp h3
    exact Option.bind_eq_some_iff.mpr ⟨x, h4 _ _ h1, h2⟩
theorem mx_bc_eq (hH : mx_HP hop) {d : mx_F σ} {E : mx_Fr → mx_F σ} (hE : ∀ fs k j L st s, (d k j L st s).bind (mx_rs d fs) = E fs k j L st s) (fs : mx_Fr) (k : Nat) (r : mx_I) (L : mx_L) (st : List mx_V) (s : σ) : (mx_b xl rc hop d d d k r L st s).bind (mx_rs d fs) = mx_bc xl rc hop inl d E fs k r L st s := by
  obtain ⟨i, pc, nx, a, b, v, sw⟩ := r
  have hR : ∀ v s, mx_rs d fs (v, s) = mx_re E fs v s := by
    intro v s
    cases fs with
    | nil => rfl
    | cons f fs => exact hE _ _ _ _ _ _
  have viaHop : (hop (i, pc, nx, a, b, v, sw) st s (fun st s => d k nx L st s)).bind (mx_rs d fs) = hop (i, pc, nx, a, b, v, sw) st s (fun st s => E fs k nx L st s) := by
    rw [mx_bd_hop hH]
    congr 1
    funext st s
    exact hE _ _ _ _ _ _
  have viaPu : (mx_pu i a v L st (fun L st => d k nx L st s)).bind (mx_rs d fs) = mx_pu i a v L st (fun L st => E fs k nx L st s) := by
    rw [mx_bd_pu]
    congr 1
    funext L st
    exact hE _ _ _ _ _ _
  have viaCall : ∀ b, (mx_tk (b + 1) [] st (fun as st => cond (rc a as s && Nat.ble (mx_ct st) 8) ((d a 0 (mx_en (xl a) as) [] s).bind fun q => d k nx L (q.1.toList ++ st) q.2) none)).bind (mx_rs d fs) = mx_tk (b + 1) [] st fun as st => cond (rc a as s && Nat.ble (mx_ct st) 8) (cond (inl a) (E ((k, nx, L, st) :: fs) a 0 (mx_en (xl a) as) [] s) ((d a 0 (mx_en (xl a) as) [] s).bind fun q => mx_gg d fs k nx L (q.1.toList ++ st) q.2)) none := by
    intro b
    rw [mx_bd_tk]
    congr 1
    funext as st
    cases (rc a as s && Nat.ble (mx_ct st) 8) with
    | false => rfl
    | true =>
    show ((d a 0 (mx_en (xl a) as) [] s).bind fun q => d k nx L (q.1.toList ++ st) q.2).bind (mx_rs d fs) = cond (inl a) _ _
    rw [Option.bind_assoc]
    cases inl a with
    | true => exact hE ((k, nx, L, st) :: fs) _ _ _ _ _
    | false =>
      show _ = (d a 0 (mx_en (xl a) as) [] s).bind fun q => mx_gg d fs k nx L (q.1.toList ++ st) q.2
      congr 1
      funext q
      exact mx_gg_eq d fs _ _ _ _ _
  cases i with
  | nop => exact mx_gg_eq d fs _ _ _ _ _
  | goto _ => exact hE _ _ _ _ _ _
  | ifCond c _ =>
    show (mx_1i st fun x st => mx_br c x 0 (d k a L st s) (d k nx L st s)).bind _ = mx_1i st fun x st => mx_br c x 0 (E fs k a L st s) (E fs k nx L st s)
    rw [mx_bd_1i]
    congr 1
    funext x st
    rw [mx_bd_br, hE, hE]
  | if_icmp c _ =>
    show (mx_1i st fun y st => mx_1i st fun x st => mx_br c x y (d k a L st s) (d k nx L st s)).bind _ = mx_1i st fun y st => mx_1i st fun x st => mx_br c x y (E fs k a L st s) (E fs k nx L st s)
    rw [mx_bd_1i]
    congr 1
    funext y st
    rw [mx_bd_1i]
    congr 1
    funext x st
    rw [mx_bd_br, hE, hE]
  | ifnonnull _ =>
    refine (mx_bd_1a _ _ _).trans ?_
    show mx_1a st _ = mx_1a st _
    congr 1
    funext x st
    cases x with
    | none => exact hE _ _ _ _ _ _
    | some x => exact hE _ _ _ _ _ _
  | tableswitch _ _ _ _ =>
    show (mx_1i st fun x st => mx_sw x (fun t => d k t L st s) (d k a L st s) sw).bind _ = mx_1i st fun x st => mx_sw x (fun t => E fs k t L st s) (E fs k a L st s) sw
    rw [mx_bd_1i]
    congr 1
    funext x st
    rw [mx_bd_sw, hE]
    congr 1
    funext t
    exact hE _ _ _ _ _ _
  | ireturn =>
    match st with
    | [.inl x] =>
      show (mx_rt b x (some (some (.inl x), s))).bind (mx_rs d fs) = mx_rt b x (mx_re E fs (some (.inl x)) s)
      rw [mx_bd_rt]
      congr 1
      exact hR _ _
    | [] => rfl
    | .inl _ :: _ :: _ => rfl
    | .inr _ :: _ => rfl
  | areturn =>
    match st with
    | [.inr (.inr x)] => exact hR _ _
    | [] => rfl
    | .inl _ :: _ => rfl
    | .inr (.inl _) :: _ => rfl
    | .inr (.inr _) :: _ :: _ => rfl
  | return_ =>
    match st with
    | [] => exact hR _ _
    | _ :: _ => rfl
  | invokevirtual _ => cases b with
    | zero => exact viaHop
    | succ b => exact viaCall b
  | invokespecial _ => cases b with
    | zero => exact viaHop
    | succ b => exact viaCall b
  | invokestatic _ => cases b with
    | zero => exact viaHop
    | succ b => exact viaCall b
  | getfield _ => exact viaHop
  | putfield _ => exact viaHop
  | getstatic _ => exact viaHop
  | iaload => exact viaHop
  | iastore => exact viaHop
  | baload => exact viaHop
  | bastore => exact viaHop
  | caload => exact viaHop
  | castore => exact viaHop
  | laload => exact viaHop
  | lastore => exact viaHop
  | aaload => exact viaHop
  | aastore => exact viaHop
  | arraylength => exact viaHop
  | new _ => exact viaHop
  | newarray _ => exact viaHop
  | anewarray _ => exact viaHop
  | _ => exact viaPu
theorem mx_ei_eq (hH : mx_HP hop) : ∀ n fs k j L st s, (mx_den cd xl rc hop k j L st s).bind (mx_rs (mx_den cd xl rc hop) fs) = mx_ei cd xl rc hop inl (mx_den cd xl rc hop) n fs k j L st s
  | 0 => fun fs k j L st s => mx_gg_eq _ fs _ _ _ _ _
  | n + 1 => fun fs k j L st s => by
    rw [mx_den_b hH]
    exact mx_bc_eq hH (mx_ei_eq hH n) fs k _ L st s
/-- evaluation up to a cut, a great call, an end -/
theorem mx_di (hH : mx_HP hop) (inl : Nat → Bool) (n : Nat) {k j : Nat} {L : mx_L} {st : List mx_V} {s : σ} {y : Option (Option mx_V × σ)} (h : mx_ei cd xl rc hop inl (mx_den cd xl rc hop) n [] k j L st s = y) : mx_den cd xl rc hop k j L st s = y := by
  rw [← h, ← mx_ei_eq hH]
  show _ = (mx_den cd xl rc hop k j L st s).bind (fun q => some q)
  cases mx_den cd xl rc hop k j L st s <;> rfl
end MxEi
