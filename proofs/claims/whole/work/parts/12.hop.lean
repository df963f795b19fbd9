/-! ===== the heap rows of the small machine ===== -/
def mx_in (i : Int32) (n : Nat) : Bool := !(decide (i < 0)) && Nat.blt i.toNatClampNeg n
theorem mx_in_ok {i : Int32} {n : Nat} (h : mx_in i n = true) : vp_in i n := by
  simp only [mx_in, Bool.and_eq_true, Bool.not_eq_true', decide_eq_false_iff_not] at h
  intro q
  rcases q with q | q
  · exact h.1 q
  · have := Nat.blt_eq.mp h.2
    omega
abbrev mx_XA : Type := Nat → Option (Nat × Nat × (Nat → Int32))
section MxHop
variable {β : Type}
def mx_ob (h : mx_Hp) (c a : Nat) (r : Option β) : Option β := match h.1[c]? with
  | some (.inl ci) => if ci = a then r else none
  | _ => none
def mx_ar (h : mx_Hp) (c : Nat) (K : Nat → Nat → Option β) : Option β := match h.1[c]? with
  | some (.inr (t, n)) => K t n
  | _ => none
def mx_xr (xA : mx_XA) (c : Nat) (K : Nat → Nat → (Nat → Int32) → Option β) : Option β := match xA c with
  | some (t, n, f) => K t n f
  | none => none
def mx_1r (st : List mx_V) (K : Nat → List mx_V → Option β) : Option β := match st with
  | .inr (.inr (some c)) :: st => K c st
  | _ => none
theorem mx_ob_sup {h : mx_Hp} {c a : Nat} {r : Option β} {y : β} (e : mx_ob h c a r = some y) : h.1[c]? = some (.inl a) ∧ r = some y := by
  unfold mx_ob at e
  split at e
  · next ci hc =>
    by_cases q : ci = a
    · subst q
      rw [if_pos rfl] at e
      exact ⟨hc, e⟩
    · rw [if_neg q] at e; cases e
  · cases e
theorem mx_ar_sup {h : mx_Hp} {c : Nat} {K : Nat → Nat → Option β} {y : β} (e : mx_ar h c K = some y) : ∃ t n, h.1[c]? = some (.inr (t, n)) ∧ K t n = some y := by
  unfold mx_ar at e
  split at e
  · next t n hc => exact ⟨t, n, hc, e⟩
  · cases e
theorem mx_xr_sup {xA : mx_XA} {c : Nat} {K : Nat → Nat → (Nat → Int32) → Option β} {y : β} (e : mx_xr xA c K = some y) : ∃ t n f, xA c = some (t, n, f) ∧ K t n f = some y := by
  unfold mx_xr at e
  split at e
  · next t n f hc => exact ⟨t, n, f, hc, e⟩
  · cases e
theorem mx_1r_sup {st : List mx_V} {K : Nat → List mx_V → Option β} {y : β} (e : mx_1r st K = some y) : ∃ c st', st = .inr (.inr (some c)) :: st' ∧ K c st' = some y := by
  unfold mx_1r at e
  split at e
  · next c st' => exact ⟨c, st', rfl, e⟩
  · cases e
theorem mx_if_sup {P : Prop} [Decidable P] {r : Option β} {y : β} (e : (if P then r else none) = some y) : P ∧ r = some y := by
  by_cases q : P
  · rw [if_pos q] at e; exact ⟨q, e⟩
  · rw [if_neg q] at e; cases e
end MxHop
/-- the heap rows: nf, ty: fields of classes; xF, xS, xA: what was there before -/
def mx_hH (nf : Nat → Nat) (ty : Nat → Nat → FieldType) (xF : Nat → Nat → Nat → Option mx_V) (xS : Nat → mx_V) (xA : mx_XA) : mx_H mx_Hp := fun r st h K => match r with
  | (i, _, _, a, b, _, _) => match i with
    | .getfield _ => mx_1r st fun c st => cond (Nat.blt a 100) (mx_ob h c a (K (h.2 c b :: st) h)) (match xF a b c with
      | some w => K (w :: st) h
      | none => none)
    | .putfield _ => match st with
      | w :: st => mx_1r st fun c st => mx_ob h c a (if mx_ft (ty a b) w = true then K st (h.1, mx_ur h.2 c (mx_u1 (h.2 c) b w)) else none)
      | [] => none
    | .getstatic _ => K (xS a :: st) h
    | .iaload => mx_1i st fun i st => mx_1r st fun c st => cond (Nat.blt c 1000000) (mx_ar h c fun t n => if t = 0 ∧ mx_in i n = true then K (.inl (mx_tI (h.2 c i.toNatClampNeg)) :: st) h else none) (mx_xr xA c fun t n f => if t = 0 ∧ mx_in i n = true then K (.inl (f i.toNatClampNeg) :: st) h else none)
    | .baload => mx_1i st fun i st => mx_1r st fun c st => cond (Nat.blt c 1000000) (mx_ar h c fun t n => if (t = 1 ∨ t = 2) ∧ mx_in i n = true then K (.inl (mx_tI (h.2 c i.toNatClampNeg)) :: st) h else none) (mx_xr xA c fun t n f => if t = 1 ∧ mx_in i n = true then K (.inl (f i.toNatClampNeg) :: st) h else none)
    | .caload => mx_1i st fun i st => mx_1r st fun c st => mx_ar h c fun t n => if t = 3 ∧ mx_in i n = true then K (.inl (mx_tI (h.2 c i.toNatClampNeg)) :: st) h else none
    | .laload => mx_1i st fun i st => mx_1r st fun c st => mx_ar h c fun t n => if t = 4 ∧ mx_in i n = true then K (.inr (.inl (mx_tL (h.2 c i.toNatClampNeg))) :: st) h else none
    | .aaload => mx_1i st fun i st => mx_1r st fun c st => mx_ar h c fun t n => if (t = 5 ∨ t = 6) ∧ mx_in i n = true then K (.inr (.inr (mx_tR (h.2 c i.toNatClampNeg))) :: st) h else none
    | .iastore => mx_1i st fun x st => mx_1i st fun i st => mx_1r st fun c st => mx_ar h c fun t n => if t = 0 ∧ mx_in i n = true then K st (h.1, mx_ur h.2 c (mx_u1 (h.2 c) i.toNatClampNeg (.inl x))) else none
    | .bastore => mx_1i st fun x st => mx_1i st fun i st => mx_1r st fun c st => mx_ar h c fun t n => if t = 1 ∧ mx_in i n = true then K st (h.1, mx_ur h.2 c (mx_u1 (h.2 c) i.toNatClampNeg (.inl x.toInt8.toInt32))) else if t = 2 ∧ mx_in i n = true then K st (h.1, mx_ur h.2 c (mx_u1 (h.2 c) i.toNatClampNeg (.inl (x &&& 1)))) else none
    | .castore => mx_1i st fun x st => mx_1i st fun i st => mx_1r st fun c st => mx_ar h c fun t n => if t = 3 ∧ mx_in i n = true then K st (h.1, mx_ur h.2 c (mx_u1 (h.2 c) i.toNatClampNeg (.inl x.toUInt32.toUInt16.toUInt32.toInt32))) else none
    | .lastore => mx_1l st fun x st => mx_1i st fun i st => mx_1r st fun c st => mx_ar h c fun t n => if t = 4 ∧ mx_in i n = true then K st (h.1, mx_ur h.2 c (mx_u1 (h.2 c) i.toNatClampNeg (.inr (.inl x)))) else none
    | .aastore => mx_1r st fun x st => mx_1i st fun i st => mx_1r st fun c st => mx_ar h c fun t n => mx_ob h x b (if t = a ∧ mx_in i n = true then K st (h.1, mx_ur h.2 c (mx_u1 (h.2 c) i.toNatClampNeg (.inr (.inr (some x))))) else none)
    | .arraylength => mx_1r st fun c st => cond (Nat.blt c 1000000) (mx_ar h c fun t n => if t < 7 then K (.inl (Int32.ofNat n) :: st) h else none) (mx_xr xA c fun _ n _ => K (.inl (Int32.ofNat n) :: st) h)
    | .new _ => if h.1.length < 1000000 then K (.inr (.inr (some h.1.length)) :: st) (h.1 ++ [.inl a], mx_ur h.2 h.1.length (fun i => mx_df (ty a i))) else none
    | .newarray _ => mx_1i st fun n st => if h.1.length < 1000000 ∧ mx_in n 1000001 = true then K (.inr (.inr (some h.1.length)) :: st) (h.1 ++ [.inr (a, n.toNatClampNeg)], mx_ur h.2 h.1.length (fun _ => mx_df (mx_ty a))) else none
    | .anewarray _ => mx_1i st fun n st => if h.1.length < 1000000 ∧ mx_in n 1000001 = true then K (.inr (.inr (some h.1.length)) :: st) (h.1 ++ [.inr (a, n.toNatClampNeg)], mx_ur h.2 h.1.length (fun _ => mx_df (mx_ty a))) else none
    | .invokespecial _ => cond (Nat.beq b 0) (mx_1r st fun _ st => if mx_ct st ≤ 8 then K st h else none) none
    | .invokestatic _ => cond (Nat.beq b 0) (cond (Nat.beq a 1) (mx_1i st fun v st => mx_1i st fun u st => if mx_ct st ≤ 8 then K (.inl (if u < v then v else u) :: st) h else none) (cond (Nat.beq a 2) (mx_1i st fun v st => mx_1i st fun u st => if mx_ct st ≤ 8 then K (.inl (if v < u then v else u) :: st) h else none) (mx_1i st fun n st => mx_1i st fun dp st => mx_1r st fun o1 st => mx_1i st fun sp st => mx_1r st fun o0 st => mx_ar h o0 fun t0 n0 => mx_ar h o1 fun t1 n1 => if (t0 = t1 ∧ (t0 = 0 ∨ t0 = 4)) ∧ ¬ sp < 0 ∧ ¬ dp < 0 ∧ ¬ n < 0 ∧ sp.toNatClampNeg + n.toNatClampNeg ≤ n0 ∧ dp.toNatClampNeg + n.toNatClampNeg ≤ n1 ∧ mx_ct st ≤ 8 then K st (h.1, mx_ur h.2 o1 (va_cpy (h.2 o0) (h.2 o1) sp.toNatClampNeg dp.toNatClampNeg n.toNatClampNeg)) else none))) none
    | _ => none
