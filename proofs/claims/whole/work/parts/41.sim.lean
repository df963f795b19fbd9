/-! ===== one small machine does what another does ===== -/
section MxSim
variable {σ τ : Type} {cd : Nat → mx_T} {xl : Nat → Nat} {rcS : Nat → List mx_V → σ → Bool} {rcT : Nat → List mx_V → τ → Bool} {hopS : mx_H σ} {hopT : mx_H τ} (φ : σ → τ)
def mx_SH (hopS : mx_H σ) (hopT : mx_H τ) : Prop := ∀ r st s K x, hopS r st s K = some x → ∃ st' s', K st' s' = some x ∧ ∀ KT y, KT st' (φ s') = some y → hopT r st (φ s) KT = some y
theorem mx_b_sim (hop : mx_SH φ hopS hopT) (hrc : ∀ a as s, rcS a as s = true → rcT a as (φ s) = true) {f : mx_F σ} {f' : mx_F τ} (hf : ∀ k j L st s r s', f k j L st s = some (r, s') → f' k j L st (φ s) = some (r, φ s'))
    {k : Nat} {row : mx_I} {L : mx_L} {st : List mx_V} {s s' : σ} {x : Option mx_V} (e : mx_b xl rcS hopS f f f k row L st s = some (x, s')) : mx_b xl rcT hopT f' f' f' k row L st (φ s) = some (x, φ s') := by
  obtain ⟨i, pc, nx, a, b, v, sw⟩ := row
  have viaHop : hopS (i, pc, nx, a, b, v, sw) st s (fun st s => f k nx L st s) = some (x, s') → hopT (i, pc, nx, a, b, v, sw) st (φ s) (fun st s => f' k nx L st s) = some (x, φ s') := by
    intro e
    obtain ⟨st', s1, h1, h2⟩ := hop _ _ _ _ _ e
    exact h2 _ _ (hf _ _ _ _ _ _ _ h1)
  have viaCall : mx_tk b [] st (fun as st => cond (rcS a as s && Nat.ble (mx_ct st) 8) ((f a 0 (mx_en (xl a) as) [] s).bind fun q => f k nx L (q.1.toList ++ st) q.2) none) = some (x, s') → mx_tk b [] st (fun as st => cond (rcT a as (φ s) && Nat.ble (mx_ct st) 8) ((f' a 0 (mx_en (xl a) as) [] (φ s)).bind fun q => f' k nx L (q.1.toList ++ st) q.2) none) = some (x, φ s') := by
    intro e
    obtain ⟨as, st', h1, h2⟩ := mx_tk_sup _ e
    cases hg : (rcS a as s && Nat.ble (mx_ct st') 8) with
    | false => rw [hg] at h1; cases h1
    | true =>
    rw [hg] at h1
    rw [Bool.and_eq_true] at hg
    obtain ⟨⟨q1, s1⟩, h3, h4⟩ := Option.bind_eq_some_iff.mp h1
    refine h2 _ _ _ ?_
    rw [hrc _ _ _ hg.1, hg.2]
    show (f' a 0 (mx_en (xl a) as) [] (φ s)).bind _ = _
    rw [hf _ _ _ _ _ _ _ h3]
    exact hf _ _ _ _ _ _ _ h4
  have viaPu : mx_pu i a v L st (fun L st => f k nx L st s) = some (x, s') → mx_pu i a v L st (fun L st => f' k nx L st (φ s)) = some (x, φ s') := by
    intro e
    obtain ⟨L', st', h1, h2⟩ := mx_pu_sup e
    exact h2 _ _ _ (hf _ _ _ _ _ _ _ h1)
  have ends : ∀ {v : Option mx_V}, some (v, s) = some (x, s') → some (v, φ s) = some (x, φ s') := by
    intro v h
    cases h
    rfl
  cases i with
  | nop => exact hf _ _ _ _ _ _ _ e
  | goto _ => exact hf _ _ _ _ _ _ _ e
  | ifCond c _ =>
    obtain ⟨z, st', e1, e2⟩ := mx_1i_sup (show mx_1i st (fun x st => mx_br c x 0 (f k a L st s) (f k nx L st s)) = some (x, s') from e)
    subst e1
    show mx_br c z 0 (f' k a L st' (φ s)) (f' k nx L st' (φ s)) = some (x, φ s')
    rcases mx_br_cases c z 0 (f k a L st' s) (f k nx L st' s) with ⟨h1, h2⟩ | ⟨h1, h2⟩
    · rw [h1] at e2
      rw [h2]
      exact hf _ _ _ _ _ _ _ e2
    · rw [h1] at e2
      rw [h2]
      exact hf _ _ _ _ _ _ _ e2
  | if_icmp c _ =>
    obtain ⟨z, st', e1, e3⟩ := mx_1i_sup (show mx_1i st (fun y st => mx_1i st fun x st => mx_br c x y (f k a L st s) (f k nx L st s)) = some (x, s') from e)
    obtain ⟨w, st2, e2, e4⟩ := mx_1i_sup e3
    clear e e3
    subst e2; subst e1
    show mx_br c w z (f' k a L st2 (φ s)) (f' k nx L st2 (φ s)) = some (x, φ s')
    rcases mx_br_cases c w z (f k a L st2 s) (f k nx L st2 s) with ⟨h1, h2⟩ | ⟨h1, h2⟩
    · rw [h1] at e4
      rw [h2]
      exact hf _ _ _ _ _ _ _ e4
    · rw [h1] at e4
      rw [h2]
      exact hf _ _ _ _ _ _ _ e4
  | ifnonnull _ =>
    obtain ⟨z, st', e1, e2⟩ := mx_1a_sup (show mx_1a st (fun x st => match x with
      | none => f k nx L st s
      | some _ => f k a L st s) = some (x, s') from e)
    subst e1
    cases z with
    | none => exact hf _ _ _ _ _ _ _ e2
    | some z => exact hf _ _ _ _ _ _ _ e2
  | tableswitch _ _ _ _ =>
    obtain ⟨z, st', e1, e2⟩ := mx_1i_sup (show mx_1i st (fun x st => mx_sw x (fun t => f k t L st s) (f k a L st s) sw) = some (x, s') from e)
    subst e1
    show mx_sw z (fun t => f' k t L st' (φ s)) (f' k a L st' (φ s)) sw = some (x, φ s')
    rcases mx_sw_cases z (fun t => f k t L st' s) (f k a L st' s) sw with ⟨h1, h2⟩ | ⟨t, h1, h2⟩
    · rw [h1] at e2
      rw [h2]
      exact hf _ _ _ _ _ _ _ e2
    · rw [h1] at e2
      rw [h2]
      exact hf _ _ _ _ _ _ _ e2
  | ireturn =>
    match st, e with
    | [.inl z], e =>
      have e : mx_rt b z (some (some (.inl z), s)) = some (x, s') := e
      show mx_rt b z (some (some (.inl z), φ s)) = some (x, φ s')
      unfold mx_rt at e ⊢
      split at e
      · exact ends e
      · by_cases q0 : z = 0
        · rw [if_pos q0] at e ⊢; exact ends e
        · rw [if_neg q0] at e ⊢
          by_cases q1 : z = 1
          · rw [if_pos q1] at e ⊢; exact ends e
          · rw [if_neg q1] at e; cases e
      · obtain ⟨q, e⟩ := mx_if_sup e
        rw [if_pos q]; exact ends e
      · obtain ⟨q, e⟩ := mx_if_sup e
        rw [if_pos q]; exact ends e
    | [], e => cases e
    | .inr _ :: _, e => cases e
    | .inl _ :: _ :: _, e => cases e
  | areturn =>
    match st, e with
    | [.inr (.inr z)], e => exact ends e
    | [], e => cases e
    | .inl _ :: _, e => cases e
    | .inr (.inl _) :: _, e => cases e
    | .inr (.inr _) :: _ :: _, e => cases e
  | return_ =>
    match st, e with
    | [], e => exact ends e
    | _ :: _, e => cases e
  | invokevirtual _ => cases b with
    | zero => exact viaHop e
    | succ b => exact viaCall e
  | invokespecial _ => cases b with
    | zero => exact viaHop e
    | succ b => exact viaCall e
  | invokestatic _ => cases b with
    | zero => exact viaHop e
    | succ b => exact viaCall e
  | getfield _ => exact viaHop e
  | putfield _ => exact viaHop e
  | getstatic _ => exact viaHop e
  | iaload => exact viaHop e
  | iastore => exact viaHop e
  | baload => exact viaHop e
  | bastore => exact viaHop e
  | caload => exact viaHop e
  | castore => exact viaHop e
  | laload => exact viaHop e
  | lastore => exact viaHop e
  | aaload => exact viaHop e
  | aastore => exact viaHop e
  | arraylength => exact viaHop e
  | new _ => exact viaHop e
  | newarray _ => exact viaHop e
  | anewarray _ => exact viaHop e
  | _ => exact viaPu e
theorem mx_ex_sim (hop : mx_SH φ hopS hopT) (hrc : ∀ a as s, rcS a as s = true → rcT a as (φ s) = true) : ∀ (n k j : Nat) (L : mx_L) (st : List mx_V) (s : σ) (r : Option mx_V) (s' : σ), mx_ex cd xl rcS hopS n k j L st s = some (r, s') → mx_ex cd xl rcT hopT n k j L st (φ s) = some (r, φ s')
  | 0, k, j, L, st, s, r, s', h => by cases h
  | n + 1, k, j, L, st, s, r, s', h => mx_b_sim φ hop hrc (mx_ex_sim hop hrc n) h
theorem mx_den_sim (hH : mx_HP hopT) (hop : mx_SH φ hopS hopT) (hrc : ∀ a as s, rcS a as s = true → rcT a as (φ s) = true) {k j : Nat} {L : mx_L} {st : List mx_V} {s s' : σ} {r : Option mx_V} (h : mx_den cd xl rcS hopS k j L st s = some (r, s')) : mx_den cd xl rcT hopT k j L st (φ s) = some (r, φ s') := by
  obtain ⟨n, hn⟩ := mx_den_ex h
  exact mx_ex_den hH (mx_ex_sim φ hop hrc n k j L st s r s' hn)
end MxSim
