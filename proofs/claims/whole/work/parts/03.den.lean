section MxDen
variable {σ : Type} {cd : Nat → mx_T} {xl : Nat → Nat} {rc : Nat → List mx_V → σ → Bool} {hop : mx_H σ}
theorem mx_tk_sup {β : Type} : ∀ (n : Nat) {as st : List mx_V} {K : List mx_V → List mx_V → Option β} {x : β}, mx_tk n as st K = some x → ∃ as' st', K as' st' = some x ∧ ∀ (γ : Type) (K' : List mx_V → List mx_V → Option γ) y, K' as' st' = some y → mx_tk n as st K' = some y
  | 0, as, st, K, x, h => ⟨as, st, h, fun _ K' y h => h⟩
  | n + 1, as, [], K, x, h => by cases h
  | n + 1, as, v :: st, K, x, h => mx_tk_sup n (as := v :: as) (st := st) h
theorem mx_sw_cases {β : Type} (x : Int32) (K : Nat → β) (d : β) : ∀ (l : List (Int32 × Nat)), (mx_sw x K d l = d ∧ ∀ (γ : Type) (K' : Nat → γ) (d' : γ), mx_sw x K' d' l = d') ∨ ∃ t, mx_sw x K d l = K t ∧ ∀ (γ : Type) (K' : Nat → γ) (d' : γ), mx_sw x K' d' l = K' t
  | [] => Or.inl ⟨rfl, fun _ _ _ => rfl⟩
  | (y, t) :: l => by
    by_cases h : x = y
    · exact Or.inr ⟨t, by simp [mx_sw, h], fun _ K' d' => by simp [mx_sw, h]⟩
    · simp only [mx_sw, if_neg h]
      exact mx_sw_cases x K d l
theorem mx_br_cases {β : Type} (c : ClassFile.Cond) (x y : Int32) (A B : β) : (mx_br c x y A B = A ∧ ∀ (γ : Type) (A' B' : γ), mx_br c x y A' B' = A') ∨ (mx_br c x y A B = B ∧ ∀ (γ : Type) (A' B' : γ), mx_br c x y A' B' = B') := by
  cases c
  · by_cases h : x = y <;> simp [mx_br, h]
  · by_cases h : x = y <;> simp [mx_br, h]
  · by_cases h : x < y <;> simp [mx_br, h]
  · by_cases h : x < y <;> simp [mx_br, h]
  · by_cases h : y < x <;> simp [mx_br, h]
  · by_cases h : y < x <;> simp [mx_br, h]
theorem mx_1i_sup {β : Type} {st : List mx_V} {K : Int32 → List mx_V → Option β} {y : β} (h : mx_1i st K = some y) : ∃ z st', st = .inl z :: st' ∧ K z st' = some y := by
  match st, h with
  | .inl z :: st', h => exact ⟨z, st', rfl, h⟩
  | [], h => cases h
  | .inr _ :: _, h => cases h
theorem mx_1a_sup {β : Type} {st : List mx_V} {K : Option Nat → List mx_V → Option β} {y : β} (h : mx_1a st K = some y) : ∃ z st', st = .inr (.inr z) :: st' ∧ K z st' = some y := by
  match st, h with
  | .inr (.inr z) :: st', h => exact ⟨z, st', rfl, h⟩
  | [], h => cases h
  | .inl _ :: _, h => cases h
  | .inr (.inl _) :: _, h => cases h
/-- what a row's answer rests on: nothing, one going on, one going on behind a cut, or a call and a going on -/
def mx_sup (f g h : mx_F σ) (k : Nat) (x : Option mx_V × σ) (P : mx_F σ → mx_F σ → mx_F σ → Prop) : Prop :=
  (∀ f' g' h', P f' g' h') ∨ (∃ j L st s, f k j L st s = some x ∧ ∀ f' g' h', f' k j L st s = some x → P f' g' h') ∨ (∃ j L st s, g k j L st s = some x ∧ ∀ f' g' h', g' k j L st s = some x → P f' g' h') ∨
  ∃ a L0 s q j L st, h a 0 L0 [] s = some q ∧ f k j L (q.1.toList ++ st) q.2 = some x ∧ ∀ f' g' h', h' a 0 L0 [] s = some q → f' k j L (q.1.toList ++ st) q.2 = some x → P f' g' h'
theorem mx_b_sup (hH : mx_HP hop) {f g h : mx_F σ} {k : Nat} {r : mx_I} {L : mx_L} {st : List mx_V} {s : σ} {x : Option mx_V × σ} (e : mx_b xl rc hop f g h k r L st s = some x) :
    mx_sup f g h k x (fun f' g' h' => mx_b xl rc hop f' g' h' k r L st s = some x) := by
  obtain ⟨i, pc, nx, a, b, v, sw⟩ := r
  have viaHop : hop (i, pc, nx, a, b, v, sw) st s (fun st s => f k nx L st s) = some x → (∀ f' g' h', mx_b xl rc hop f' g' h' k (i, pc, nx, a, b, v, sw) L st s = hop (i, pc, nx, a, b, v, sw) st s (fun st s => f' k nx L st s)) → mx_sup f g h k x (fun f' g' h' => mx_b xl rc hop f' g' h' k (i, pc, nx, a, b, v, sw) L st s = some x) := by
    intro e e2
    obtain ⟨st', s', h1, h2⟩ := hH _ _ _ _ _ e
    exact Or.inr (Or.inl ⟨nx, L, st', s', h1, fun f' g' h' q => (e2 f' g' h').trans (h2 _ _ q)⟩)
  have viaCall : mx_tk b [] st (fun as st => cond (rc a as s && Nat.ble (mx_ct st) 8) ((h a 0 (mx_en (xl a) as) [] s).bind fun q => f k nx L (q.1.toList ++ st) q.2) none) = some x → (∀ f' g' h', mx_b xl rc hop f' g' h' k (i, pc, nx, a, b, v, sw) L st s = mx_tk b [] st (fun as st => cond (rc a as s && Nat.ble (mx_ct st) 8) ((h' a 0 (mx_en (xl a) as) [] s).bind fun q => f' k nx L (q.1.toList ++ st) q.2) none)) → mx_sup f g h k x (fun f' g' h' => mx_b xl rc hop f' g' h' k (i, pc, nx, a, b, v, sw) L st s = some x) := by
    intro e e2
    obtain ⟨as, st', h1, h2⟩ := mx_tk_sup _ e
    cases hg : (rc a as s && Nat.ble (mx_ct st') 8) with
    | false => rw [hg] at h1; cases h1
    | true =>
    rw [hg] at h1
    obtain ⟨q, h3, h4⟩ := Option.bind_eq_some_iff.mp h1
    exact Or.inr (Or.inr (Or.inr ⟨a, _, s, q, nx, L, st', h3, h4, fun f' g' h' q1 q2 => (e2 f' g' h').trans (h2 _ _ _ (by rw [hg]; show Option.bind _ _ = _; rw [q1]; exact q2))⟩))
  have viaPu : mx_pu i a v L st (fun L st => f k nx L st s) = some x → (∀ f' g' h', mx_b xl rc hop f' g' h' k (i, pc, nx, a, b, v, sw) L st s = mx_pu i a v L st (fun L st => f' k nx L st s)) → mx_sup f g h k x (fun f' g' h' => mx_b xl rc hop f' g' h' k (i, pc, nx, a, b, v, sw) L st s = some x) := by
    intro e e2
    obtain ⟨L', st', h1, h2⟩ := mx_pu_sup e
    exact Or.inr (Or.inl ⟨nx, L', st', s, h1, fun f' g' h' q => (e2 f' g' h').trans (h2 _ _ _ q)⟩)
  cases i with
  | nop => exact Or.inr (Or.inr (Or.inl ⟨_, _, _, _, e, fun f' g' h' q => q⟩))
  | goto _ => exact Or.inr (Or.inl ⟨_, _, _, _, e, fun f' g' h' q => q⟩)
  | ifCond c _ =>
    obtain ⟨z, st', e1, e2⟩ := mx_1i_sup e
    subst e1
    rcases mx_br_cases c z 0 (f k a L st' s) (f k nx L st' s) with ⟨h1, h2⟩ | ⟨h1, h2⟩
    · rw [h1] at e2
      exact Or.inr (Or.inl ⟨_, _, _, _, e2, fun f' g' h' q => (h2 _ _ _).trans q⟩)
    · rw [h1] at e2
      exact Or.inr (Or.inl ⟨_, _, _, _, e2, fun f' g' h' q => (h2 _ _ _).trans q⟩)
  | if_icmp c _ =>
    obtain ⟨z, st', e1, e3⟩ := mx_1i_sup e
    obtain ⟨w, st2, e2, e4⟩ := mx_1i_sup e3
    subst e2; subst e1
    rcases mx_br_cases c w z (f k a L st2 s) (f k nx L st2 s) with ⟨h1, h2⟩ | ⟨h1, h2⟩
    · rw [h1] at e4
      exact Or.inr (Or.inl ⟨_, _, _, _, e4, fun f' g' h' q => (h2 _ _ _).trans q⟩)
    · rw [h1] at e4
      exact Or.inr (Or.inl ⟨_, _, _, _, e4, fun f' g' h' q => (h2 _ _ _).trans q⟩)
  | ifnonnull _ =>
    obtain ⟨z, st', e1, e2⟩ := mx_1a_sup e
    subst e1
    cases z with
    | none => exact Or.inr (Or.inl ⟨_, _, _, _, e2, fun f' g' h' q => q⟩)
    | some z => exact Or.inr (Or.inl ⟨_, _, _, _, e2, fun f' g' h' q => q⟩)
  | tableswitch _ _ _ _ =>
    obtain ⟨z, st', e1, e2⟩ := mx_1i_sup e
    subst e1
    rcases mx_sw_cases z (fun t => f k t L st' s) (f k a L st' s) sw with ⟨h1, h2⟩ | ⟨t, h1, h2⟩
    · rw [h1] at e2
      exact Or.inr (Or.inl ⟨_, _, _, _, e2, fun f' g' h' q => (h2 _ _ _).trans q⟩)
    · rw [h1] at e2
      exact Or.inr (Or.inl ⟨_, _, _, _, e2, fun f' g' h' q => (h2 _ _ _).trans q⟩)
  | ireturn => exact Or.inl fun f' g' h' => e
  | areturn => exact Or.inl fun f' g' h' => e
  | return_ => exact Or.inl fun f' g' h' => e
  | invokevirtual _ => cases b with
    | zero => exact viaHop e (fun _ _ _ => rfl)
    | succ b => exact viaCall e (fun _ _ _ => rfl)
  | invokespecial _ => cases b with
    | zero => exact viaHop e (fun _ _ _ => rfl)
    | succ b => exact viaCall e (fun _ _ _ => rfl)
  | invokestatic _ => cases b with
    | zero => exact viaHop e (fun _ _ _ => rfl)
    | succ b => exact viaCall e (fun _ _ _ => rfl)
  | getfield _ => exact viaHop e (fun _ _ _ => rfl)
  | putfield _ => exact viaHop e (fun _ _ _ => rfl)
  | getstatic _ => exact viaHop e (fun _ _ _ => rfl)
  | iaload => exact viaHop e (fun _ _ _ => rfl)
  | iastore => exact viaHop e (fun _ _ _ => rfl)
  | baload => exact viaHop e (fun _ _ _ => rfl)
  | bastore => exact viaHop e (fun _ _ _ => rfl)
  | caload => exact viaHop e (fun _ _ _ => rfl)
  | castore => exact viaHop e (fun _ _ _ => rfl)
  | laload => exact viaHop e (fun _ _ _ => rfl)
  | lastore => exact viaHop e (fun _ _ _ => rfl)
  | aaload => exact viaHop e (fun _ _ _ => rfl)
  | aastore => exact viaHop e (fun _ _ _ => rfl)
  | arraylength => exact viaHop e (fun _ _ _ => rfl)
  | new _ => exact viaHop e (fun _ _ _ => rfl)
  | newarray _ => exact viaHop e (fun _ _ _ => rfl)
  | anewarray _ => exact viaHop e (fun _ _ _ => rfl)
  | _ => exact viaPu e (fun _ _ _ => rfl)
def mx_le (f f' : mx_F σ) : Prop := ∀ k j L st s x, f k j L st s = some x → f' k j L st s = some x
theorem mx_b_mono (hH : mx_HP hop) {f g h f' g' h' : mx_F σ} (hf : mx_le f f') (hg : mx_le g g') (hh : mx_le h h') {k : Nat} {r : mx_I} {L : mx_L} {st : List mx_V} {s : σ} {x : Option mx_V × σ} (e : mx_b xl rc hop f g h k r L st s = some x) : mx_b xl rc hop f' g' h' k r L st s = some x := by
  rcases mx_b_sup hH e with q | ⟨j, L1, st1, s1, q1, q2⟩ | ⟨j, L1, st1, s1, q1, q2⟩ | ⟨a, L0, s0, q, j, L1, st1, q1, q2, q3⟩
  · exact q _ _ _
  · exact q2 _ _ _ (hf _ _ _ _ _ _ q1)
  · exact q2 _ _ _ (hg _ _ _ _ _ _ q1)
  · exact q3 _ _ _ (hh _ _ _ _ _ _ q1) (hf _ _ _ _ _ _ q2)
theorem mx_ex_succ (hH : mx_HP hop) : ∀ n, mx_le (mx_ex cd xl rc hop n) (mx_ex cd xl rc hop (n + 1))
  | 0 => fun k j L st s x h => by cases h
  | n + 1 => fun k j L st s x h => mx_b_mono hH (mx_ex_succ hH n) (mx_ex_succ hH n) (mx_ex_succ hH n) h
theorem mx_ex_le (hH : mx_HP hop) {n m : Nat} (h : n ≤ m) : mx_le (mx_ex cd xl rc hop n) (mx_ex cd xl rc hop m) := by
  induction h with
  | refl => exact fun k j L st s x h => h
  | step _ ih => exact fun k j L st s x h => mx_ex_succ hH _ _ _ _ _ _ _ (ih _ _ _ _ _ _ h)
noncomputable def mx_den (cd : Nat → mx_T) (xl : Nat → Nat) (rc : Nat → List mx_V → σ → Bool) (hop : mx_H σ) : mx_F σ := fun k j L st s =>
  match Classical.propDecidable (∃ n x, mx_ex cd xl rc hop n k j L st s = some x) with
  | .isTrue h => some (h.choose_spec.choose)
  | .isFalse _ => none
theorem mx_den_ex {k j : Nat} {L : mx_L} {st : List mx_V} {s : σ} {x : Option mx_V × σ} (h : mx_den cd xl rc hop k j L st s = some x) : ∃ n, mx_ex cd xl rc hop n k j L st s = some x := by
  unfold mx_den at h
  split at h
  · next q e =>
    cases h
    exact ⟨_, q.choose_spec.choose_spec⟩
  · cases h
theorem mx_ex_den (hH : mx_HP hop) {n k j : Nat} {L : mx_L} {st : List mx_V} {s : σ} {x : Option mx_V × σ} (h : mx_ex cd xl rc hop n k j L st s = some x) : mx_den cd xl rc hop k j L st s = some x := by
  unfold mx_den
  split
  · next q e =>
    have h2 := q.choose_spec.choose_spec
    rcases Nat.le_total n q.choose with hl | hl
    · have h3 := mx_ex_le hH hl _ _ _ _ _ _ h
      rw [h2] at h3
      exact h3
    · have h3 := mx_ex_le hH hl _ _ _ _ _ _ h2
      rw [h] at h3
      exact h3.symm
  · next q e => exact absurd ⟨n, x, h⟩ q
/-- the machine without fuel is what its row says -/
theorem mx_den_b (hH : mx_HP hop) (k j : Nat) (L : mx_L) (st : List mx_V) (s : σ) : mx_den cd xl rc hop k j L st s = mx_b xl rc hop (mx_den cd xl rc hop) (mx_den cd xl rc hop) (mx_den cd xl rc hop) k (mx_get (cd k) j) L st s := by
  have hle : ∀ n, mx_le (mx_ex cd xl rc hop n) (mx_den cd xl rc hop) := fun n k j L st s x h => mx_ex_den hH h
  apply Option.ext
  intro x
  constructor
  · intro h
    obtain ⟨n, h⟩ := mx_den_ex h
    cases n with
    | zero => cases h
    | succ n => exact mx_b_mono hH (hle n) (hle n) (hle n) h
  · intro e
    rcases mx_b_sup hH e with q | ⟨j1, L1, st1, s1, q1, q2⟩ | ⟨j1, L1, st1, s1, q1, q2⟩ | ⟨a, L0, s0, q, j1, L1, st1, q1, q2, q3⟩
    · exact mx_ex_den hH (n := 1) (q _ _ _)
    · obtain ⟨n, hn⟩ := mx_den_ex q1
      exact mx_ex_den hH (n := n + 1) (q2 _ _ _ hn)
    · obtain ⟨n, hn⟩ := mx_den_ex q1
      exact mx_ex_den hH (n := n + 1) (q2 _ _ _ hn)
    · obtain ⟨n, hn⟩ := mx_den_ex q1
      obtain ⟨m, hm⟩ := mx_den_ex q2
      exact mx_ex_den hH (n := max n m + 1) (q3 _ _ _ (mx_ex_le hH (Nat.le_max_left n m) _ _ _ _ _ _ hn) (mx_ex_le hH (Nat.le_max_right n m) _ _ _ _ _ _ hm))
/-- evaluation up to a cut, a call, an end -/
noncomputable def mx_ev (cd : Nat → mx_T) (xl : Nat → Nat) (rc : Nat → List mx_V → σ → Bool) (hop : mx_H σ) (d : mx_F σ) : Nat → mx_F σ
  | 0 => d
  | n + 1 => fun k j L st s => mx_b xl rc hop (mx_ev cd xl rc hop d n) d d k (mx_get (cd k) j) L st s
theorem mx_den_ev (hH : mx_HP hop) : ∀ n, mx_den cd xl rc hop = mx_ev cd xl rc hop (mx_den cd xl rc hop) n
  | 0 => rfl
  | n + 1 => by
    funext k j L st s
    rw [mx_den_b hH]
    show _ = mx_b xl rc hop (mx_ev cd xl rc hop (mx_den cd xl rc hop) n) _ _ k (mx_get (cd k) j) L st s
    rw [← mx_den_ev hH n]
theorem mx_den_at (hH : mx_HP hop) (n : Nat) {k j : Nat} {L : mx_L} {st : List mx_V} {s : σ} {y : Option (Option mx_V × σ)} (h : mx_ev cd xl rc hop (mx_den cd xl rc hop) n k j L st s = y) : mx_den cd xl rc hop k j L st s = y := by
  rw [← h, ← mx_den_ev hH n]
end MxDen
