/-! ===== two halves of the data: a run that stays in one leaves the other ===== -/
def zg_ok (ok : Nat → Bool) (r : mx_I) (st : List mx_V) : Bool := match r with
  | (i, _, _, a, _, _, _) => match i with
    | .getfield _ => match st with
      | .inr (.inr (some c)) :: _ => cond (Nat.blt a 100) (ok c) true
      | _ => false
    | .putfield _ => match st with
      | _ :: .inr (.inr (some c)) :: _ => ok c
      | _ => false
    | .iaload => match st with
      | _ :: .inr (.inr (some c)) :: _ => cond (Nat.blt c 1000000) (ok c) (Nat.blt c 1200000)
      | _ => false
    | .baload => match st with
      | _ :: .inr (.inr (some c)) :: _ => cond (Nat.blt c 1000000) (ok c) (Nat.blt c 1200000)
      | _ => false
    | .caload => match st with
      | _ :: .inr (.inr (some c)) :: _ => ok c
      | _ => false
    | .laload => match st with
      | _ :: .inr (.inr (some c)) :: _ => ok c
      | _ => false
    | .aaload => match st with
      | _ :: .inr (.inr (some c)) :: _ => ok c
      | _ => false
    | .iastore => match st with
      | _ :: _ :: .inr (.inr (some c)) :: _ => ok c
      | _ => false
    | .bastore => match st with
      | _ :: _ :: .inr (.inr (some c)) :: _ => ok c
      | _ => false
    | .lastore => match st with
      | _ :: _ :: .inr (.inr (some c)) :: _ => ok c
      | _ => false
    | .arraylength => match st with
      | .inr (.inr (some c)) :: _ => cond (Nat.blt c 1000000) (ok c) (Nat.blt c 1200000)
      | _ => false
    | .newarray _ => ok 130
    | .getstatic _ => cond (Nat.beq a 0 || Nat.beq a 1) true (ok 1300000)
    | .invokestatic _ => cond (Nat.beq a 1 || Nat.beq a 2) true (match st with
      | _ :: _ :: .inr (.inr (some o1)) :: _ :: .inr (.inr (some o0)) :: _ => ok o0 && ok o1
      | _ => false)
    | _ => true
/-- the row that may hold nothing -/
def zg_b (r : mx_I) : Bool := match r with
  | (i, _, _, a, b, _, _) => match i with
    | .getfield _ => Nat.beq a 2 && Nat.beq b 6
    | _ => false
noncomputable def zg_hop (ok : Nat → Bool) (nl : Int32) : mx_H zd_D := fun r st d K => cond (zg_ok ok r st) (cond (zg_b r) (mx_1r st fun c st => cond (Nat.beq (zd_c d c) 3) (if d.1 c 6 = 0 then K (.inr (.inr none) :: st) d else K (.inr (.inr (some 130)) :: st) d) none) (zd_hop 0 (fun _ => nl) r st d K)) none
/-- one half out of d, the other out of e -/
def zg_j (ok : Nat → Bool) (e d : zd_D) : zd_D := (fun c => if ok c = true then d.1 c else e.1 c, fun c => if ok c = true then d.2.1 c else e.2.1 c, if ok 130 = true then d.2.2 else e.2.2)
theorem zg_nb {a b : Nat} (h : ¬ a = b) : Nat.beq a b = false := by
  cases hb : Nat.beq a b with
  | false => rfl
  | true => exact absurd (Nat.eq_of_beq_eq_true hb) h
section ZgLoc
variable {ok : Nat → Bool} {e d : zd_D} {c : Nat}
theorem zg_j1 (h : ok c = true) : (zg_j ok e d).1 c = d.1 c := if_pos h
theorem zg_j2 (h : ok c = true) : (zg_j ok e d).2.1 c = d.2.1 c := if_pos h
theorem zg_jc (h : ok c = true) : zd_c (zg_j ok e d) c = zd_c d c := by
  unfold zd_c
  by_cases hc : c = 130
  · subst hc
    show cond (Nat.blt 130 130) _ (cond (Nat.beq 130 130 && (zg_j ok e d).2.2) 100 0) = _
    rw [show (zg_j ok e d).2.2 = d.2.2 from if_pos h]
  · rw [show Nat.beq c 130 = false from zg_nb hc]
    rfl
theorem zg_jf (h : ok c = true) (a b : Nat) : zd_fv a b c (zg_j ok e d) = zd_fv a b c d := by
  unfold zd_fv
  rw [zg_j1 h]
theorem zg_ju (h : ok c = true) (i : Nat) (x : Int32) : zd_u (zg_j ok e d) c i x = zg_j ok e (zd_u d c i x) := by
  refine Prod.ext (funext fun k => ?_) rfl
  show (if k = c then _ else (zg_j ok e d).1 k) = (if ok k = true then (zd_u d c i x).1 k else e.1 k)
  by_cases hk : k = c
  · subst hk
    rw [if_pos rfl, if_pos h, zg_j1 h]
    show _ = (if k = k then _ else _)
    rw [if_pos rfl]
  · rw [if_neg hk]
    show (if ok k = true then d.1 k else e.1 k) = (if ok k = true then (if k = c then _ else d.1 k) else e.1 k)
    rw [if_neg hk]
theorem zg_jul (h : ok c = true) (i : Nat) (x : Int64) : zd_ul (zg_j ok e d) c i x = zg_j ok e (zd_ul d c i x) := by
  refine Prod.ext rfl (Prod.ext (funext fun k => ?_) rfl)
  show (if k = c then _ else (zg_j ok e d).2.1 k) = (if ok k = true then (zd_ul d c i x).2.1 k else e.2.1 k)
  by_cases hk : k = c
  · subst hk
    rw [if_pos rfl, if_pos h, zg_j2 h]
    show _ = (if k = k then _ else _)
    rw [if_pos rfl]
  · rw [if_neg hk]
    show (if ok k = true then d.2.1 k else e.2.1 k) = (if ok k = true then (if k = c then _ else d.2.1 k) else e.2.1 k)
    rw [if_neg hk]
theorem zg_js (h : ok c = true) (f : Nat → Int32) : zd_s (zg_j ok e d) c f = zg_j ok e (zd_s d c f) := by
  refine Prod.ext (funext fun k => ?_) rfl
  show (if k = c then f else (zg_j ok e d).1 k) = (if ok k = true then (if k = c then f else d.1 k) else e.1 k)
  by_cases hk : k = c
  · subst hk
    rw [if_pos rfl, if_pos h, if_pos rfl]
  · rw [if_neg hk, if_neg hk]
    rfl
theorem zg_jsl (h : ok c = true) (f : Nat → Int64) : zd_sl (zg_j ok e d) c f = zg_j ok e (zd_sl d c f) := by
  refine Prod.ext rfl (Prod.ext (funext fun k => ?_) rfl)
  show (if k = c then f else (zg_j ok e d).2.1 k) = (if ok k = true then (if k = c then f else d.2.1 k) else e.2.1 k)
  by_cases hk : k = c
  · subst hk
    rw [if_pos rfl, if_pos h, if_pos rfl]
  · rw [if_neg hk, if_neg hk]
    rfl
theorem zg_jp {β : Type} (h : ok c = true) (a b : Nat) (w : mx_V) (K : zd_D → Option β) : zd_pf a b c w (zg_j ok e d) K = zd_pf a b c w d (fun d => K (zg_j ok e d)) := by
  unfold zd_pf
  match w with
  | .inl x =>
    dsimp only
    split
    · rw [zg_ju h]
    · rw [zg_ju h]
    · rfl
  | .inr (.inr (some o)) =>
    dsimp only
    split
    · rw [zg_ju h]
    · rfl
  | .inr (.inl _) => rfl
  | .inr (.inr none) => rfl
theorem zg_1i {β : Type} {st : List mx_V} {F G : Int32 → List mx_V → Option β} (h : ∀ x st', st = .inl x :: st' → F x st' = G x st') : mx_1i st F = mx_1i st G := by
  match st, h with
  | .inl x :: st', h => exact h x st' rfl
  | [], _ => rfl
  | .inr _ :: _, _ => rfl
theorem zg_1l {β : Type} {st : List mx_V} {F G : Int64 → List mx_V → Option β} (h : ∀ x st', st = .inr (.inl x) :: st' → F x st' = G x st') : mx_1l st F = mx_1l st G := by
  match st, h with
  | .inr (.inl x) :: st', h => exact h x st' rfl
  | [], _ => rfl
  | .inl _ :: _, _ => rfl
  | .inr (.inr _) :: _, _ => rfl
theorem zg_1r {β : Type} {st : List mx_V} {F G : Nat → List mx_V → Option β} (h : ∀ x st', st = .inr (.inr (some x)) :: st' → F x st' = G x st') : mx_1r st F = mx_1r st G := by
  match st, h with
  | .inr (.inr (some x)) :: st', h => exact h x st' rfl
  | [], _ => rfl
  | .inl _ :: _, _ => rfl
  | .inr (.inl _) :: _, _ => rfl
  | .inr (.inr none) :: _, _ => rfl
set_option maxHeartbeats 4000000 in
theorem zg_loc {n : Nat} {xs : Nat → Int32} {nl : Int32} (hn : ok 1300000 = true → nl = xs 1000000) {r : mx_I} {st : List mx_V} {K : List mx_V → zd_D → Option (Option mx_V × zd_D)} (h : zg_ok ok r st = true) : zd_hop n xs r st (zg_j ok e d) K = zd_hop 0 (fun _ => nl) r st d (fun st d => K st (zg_j ok e d)) := by
  obtain ⟨i, pc, nx, a, b, v, sw⟩ := r
  have hx : ∀ {c : Nat} {β : Type} {A B : Option β} {F : Nat → Nat → (Nat → Int32) → Option β}, cond (Nat.blt c 1000000) (ok c) (Nat.blt c 1200000) = true → (ok c = true → A = B) → cond (Nat.blt c 1000000) A (mx_xr (zt_xA n xs) c F) = cond (Nat.blt c 1000000) B (mx_xr (zt_xA 0 (fun _ => nl)) c F) := by
    intro c β A B F h1 h2
    cases hc : Nat.blt c 1000000 with
    | true => rw [hc] at h1; exact h2 h1
    | false =>
      rw [hc] at h1
      have h3 := Nat.blt_eq.mp (show Nat.blt c 1200000 = true from h1)
      show mx_xr (zt_xA n xs) c F = mx_xr (zt_xA 0 (fun _ => nl)) c F
      unfold mx_xr zt_xA
      rw [show Nat.beq c 1200000 = false from zg_nb (by omega)]
      rfl
  cases i with
  | getfield x =>
    refine zg_1r fun c st' e1 => ?_
    subst e1
    have h : cond (Nat.blt a 100) (ok c) true = true := h
    cases ha : Nat.blt a 100 with
    | true =>
      rw [ha] at h
      show cond (Nat.beq (zd_c (zg_j ok e d) c) (a + 1) && Nat.blt a 50) (K (zd_fv a b c (zg_j ok e d) :: st') (zg_j ok e d)) none = _
      rw [zg_jc h, zg_jf h]
      rfl
    | false => rfl
  | putfield x =>
    cases st with
    | nil => rfl
    | cons w st =>
    refine zg_1r fun c st' e1 => ?_
    subst e1
    have h : ok c = true := h
    rw [zg_jc h, zg_jp h]
  | getstatic x =>
    show K (zt_xS xs a :: st) _ = K (zt_xS (fun _ => nl) a :: st) _
    have h : cond (Nat.beq a 0 || Nat.beq a 1) true (ok 1300000) = true := h
    match a, h with
    | 0, _ => rfl
    | 1, _ => rfl
    | a + 2, h =>
      have e := hn h
      subst e
      rfl
  | iaload =>
    refine zg_1i fun i st1 e1 => zg_1r fun c st2 e2 => ?_
    subst e1 e2
    refine hx h fun h => ?_
    rw [zg_jc h, zg_j1 h]
  | baload =>
    refine zg_1i fun i st1 e1 => zg_1r fun c st2 e2 => ?_
    subst e1 e2
    refine hx h fun h => ?_
    rw [zg_jc h, zg_j1 h]
  | caload =>
    refine zg_1i fun i st1 e1 => zg_1r fun c st2 e2 => ?_
    subst e1 e2
    have h : ok c = true := h
    rw [zg_jc h, zg_j1 h]
  | laload =>
    refine zg_1i fun i st1 e1 => zg_1r fun c st2 e2 => ?_
    subst e1 e2
    have h : ok c = true := h
    rw [zg_jc h, zg_j2 h]
  | aaload =>
    refine zg_1i fun i st1 e1 => zg_1r fun c st2 e2 => ?_
    subst e1 e2
    have h : ok c = true := h
    rw [zg_jc h]
  | iastore =>
    refine zg_1i fun x st0 e0 => zg_1i fun i st1 e1 => zg_1r fun c st2 e2 => ?_
    subst e0 e1 e2
    have h : ok c = true := h
    rw [zg_jc h, zg_ju h]
  | bastore =>
    refine zg_1i fun x st0 e0 => zg_1i fun i st1 e1 => zg_1r fun c st2 e2 => ?_
    subst e0 e1 e2
    have h : ok c = true := h
    rw [zg_jc h, zg_ju h, zg_ju h]
  | lastore =>
    refine zg_1l fun x st0 e0 => zg_1i fun i st1 e1 => zg_1r fun c st2 e2 => ?_
    subst e0 e1 e2
    have h : ok c = true := h
    rw [zg_jc h, zg_jul h]
  | arraylength =>
    refine zg_1r fun c st2 e2 => ?_
    subst e2
    refine hx h fun h => ?_
    rw [zg_jc h]
  | newarray t =>
    refine zg_1i fun m st1 e1 => ?_
    have h : ok 130 = true := h
    rw [show (zg_j ok e d).2.2 = d.2.2 from if_pos h]
    have key : ((fun k => if k = 130 then (fun _ => 0) else (zg_j ok e d).1 k, (zg_j ok e d).2.1, true) : zd_D) = zg_j ok e (fun k => if k = 130 then (fun _ => 0) else d.1 k, d.2.1, true) := by
      refine Prod.ext (funext fun k => ?_) (Prod.ext rfl ?_)
      · show (if k = 130 then _ else (if ok k = true then d.1 k else e.1 k)) = (if ok k = true then (if k = 130 then _ else d.1 k) else e.1 k)
        by_cases hk : k = 130
        · subst hk
          rw [if_pos rfl, if_pos h, if_pos rfl]
        · rw [if_neg hk, if_neg hk]
      · show true = (if ok 130 = true then true else e.2.2)
        rw [if_pos h]
    rw [key]
  | invokestatic x =>
    show cond (Nat.beq b 0) (cond (Nat.beq a 1) _ (cond (Nat.beq a 2) _ (mx_1i st _))) none = cond (Nat.beq b 0) (cond (Nat.beq a 1) _ (cond (Nat.beq a 2) _ (mx_1i st _))) none
    cases Nat.beq b 0 with
    | false => rfl
    | true =>
    cases h1 : Nat.beq a 1 with
    | true => rfl
    | false =>
    cases h2 : Nat.beq a 2 with
    | true => rfl
    | false =>
    refine zg_1i fun m s1 e1 => zg_1i fun dp s2 e2 => zg_1r fun o1 s3 e3 => zg_1i fun sp s4 e4 => zg_1r fun o0 s5 e5 => ?_
    subst e1 e2 e3 e4 e5
    have h : cond (Nat.beq a 1 || Nat.beq a 2) true (ok o0 && ok o1) = true := h
    rw [h1, h2] at h
    have h : (ok o0 && ok o1) = true := h
    rw [Bool.and_eq_true] at h
    rw [zg_jc h.1, zg_jc h.2, zg_j1 h.1, zg_j1 h.2, zg_j2 h.1, zg_j2 h.2, zg_js h.2, zg_jsl h.2]
  | _ => rfl
end ZgLoc
theorem zg_hop_eq (ok : Nat → Bool) (nl : Int32) (r : mx_I) (st : List mx_V) (d : zd_D) (K : List mx_V → zd_D → Option (Option mx_V × zd_D)) : zg_hop ok nl r st d K = cond (zg_ok ok r st) (zd_hop 0 (fun _ => nl) r st d K) none := by
  unfold zg_hop
  cases zg_ok ok r st with
  | false => rfl
  | true =>
  cases hb : zg_b r with
  | false => rfl
  | true =>
  obtain ⟨i, pc, nx, a, b, v, sw⟩ := r
  cases i with
  | getfield x =>
    have hb : (Nat.beq a 2 && Nat.beq b 6) = true := hb
    rw [Bool.and_eq_true] at hb
    have h1 := Nat.eq_of_beq_eq_true hb.1
    have h2 := Nat.eq_of_beq_eq_true hb.2
    subst h1 h2
    refine zg_1r fun c st' e1 => ?_
    show cond (Nat.beq (zd_c d c) 3) _ none = cond (Nat.beq (zd_c d c) 3 && true) (K (.inr (.inr (if d.1 c 6 = 0 then none else some 130)) :: st') d) none
    rw [Bool.and_true]
    by_cases h0 : d.1 c 6 = 0
    · rw [if_pos h0, if_pos h0]
    · rw [if_neg h0, if_neg h0]
  | _ => cases hb
theorem zg_HP (ok : Nat → Bool) (nl : Int32) : mx_HP (zg_hop ok nl) := by
  intro r st s K x e
  rw [zg_hop_eq] at e
  obtain ⟨h, e⟩ := zd_cond_sup e
  obtain ⟨st', s', h1, h2⟩ := zd_HP _ _ _ _ _ e
  refine ⟨st', s', h1, fun K' y q => ?_⟩
  rw [zg_hop_eq, h]
  exact h2 _ _ q
theorem zg_SH (ok : Nat → Bool) (nl : Int32) (n : Nat) (xs : Nat → Int32) (hn : ok 1300000 = true → nl = xs 1000000) (e : zd_D) : mx_SH (zg_j ok e) (zg_hop ok nl) (zd_hop n xs) := by
  intro r st s K x e
  rw [zg_hop_eq] at e
  obtain ⟨h, e⟩ := zd_cond_sup e
  obtain ⟨st', s', h1, h2⟩ := zd_HP _ _ _ _ _ e
  refine ⟨st', s', h1, fun KT y q => ?_⟩
  rw [zg_loc hn h]
  exact h2 _ _ q
theorem zg_rc (ok : Nat → Bool) (e : zd_D) (a : Nat) (as : List mx_V) (d : zd_D) (h : zd_rc a as d = true) : zd_rc a as (zg_j ok e d) = true := by
  unfold zd_rc at h ⊢
  rw [Bool.and_eq_true] at h ⊢
  refine ⟨h.1, ?_⟩
  have h2 := h.2
  cases hq : Nat.blt (zt_q a) 2 with
  | false => rfl
  | true =>
    rw [hq] at h2
    match as, h2 with
    | .inr (.inr (some c)) :: _, h2 =>
      have h2 : cond (Nat.blt c 1000000) (Nat.beq (zd_c d c) (zt_o a + 1) && Nat.blt (zt_o a) 50) (Nat.beq (zt_o a) 15 && (Nat.ble 1000001 c && Nat.ble c 1000014)) = true := h2
      show cond (Nat.blt c 1000000) (Nat.beq (zd_c (zg_j ok e d) c) (zt_o a + 1) && Nat.blt (zt_o a) 50) (Nat.beq (zt_o a) 15 && (Nat.ble 1000001 c && Nat.ble c 1000014)) = true
      by_cases hc : c = 130
      · subst hc
        have h2 : (Nat.beq (cond d.2.2 100 0) (zt_o a + 1) && Nat.blt (zt_o a) 50) = true := h2
        rw [Bool.and_eq_true] at h2
        have g1 := Nat.eq_of_beq_eq_true h2.1
        have g2 := Nat.blt_eq.mp h2.2
        cases hd : d.2.2 <;> rw [hd] at g1 <;> simp at g1 <;> omega
      · have hz : zd_c (zg_j ok e d) c = zd_c d c := by
          unfold zd_c
          rw [show Nat.beq c 130 = false from zg_nb hc]
          rfl
        rw [hz]
        exact h2
    | [], h2 => cases h2
    | .inl _ :: _, h2 => cases h2
    | .inr (.inl _) :: _, h2 => cases h2
    | .inr (.inr none) :: _, h2 => cases h2
