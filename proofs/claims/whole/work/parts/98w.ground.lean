/-! ===== the constructors: a run over cells as they come ===== -/
abbrev zq_G : Type := List (mx_Sh × List (Nat × mx_V))
def zq_lk (d : mx_V) (i : Nat) : List (Nat × mx_V) → mx_V
  | [] => d
  | x :: l => cond (Nat.beq i x.1) x.2 (zq_lk d i l)
def zq_df (sh : mx_Sh) (i : Nat) : mx_V := match sh with
  | .inl a => mx_df (zt_ty a i)
  | .inr (t, _) => mx_df (mx_ty t)
def zq_mk (base : Nat → Nat → mx_V) (g : zq_G) : mx_Hp := (g.map (fun x => x.1), fun c i => match g[c]? with
  | none => base c i
  | some x => zq_lk (zq_df x.1 i) i x.2)
/-- a list that is there whole -/
def zq_fc {α β : Type} : List α → (List α → β) → β
  | [], k => k []
  | x :: l, k => zq_fc l (fun l' => k (x :: l'))
theorem zq_fc_eq {α β : Type} : ∀ (l : List α) (k : List α → β), zq_fc l k = k l
  | [], _ => rfl
  | x :: l, k => zq_fc_eq l (fun l' => k (x :: l'))
def zq_ob {β : Type} (g : zq_G) (c a : Nat) (K : List (Nat × mx_V) → Option β) : Option β := match g[c]? with
  | some (.inl ci, l) => cond (Nat.beq ci a) (K l) none
  | _ => none
def zq_ar {β : Type} (g : zq_G) (c : Nat) (K : Nat → Nat → List (Nat × mx_V) → Option β) : Option β := match g[c]? with
  | some (.inr (t, n), l) => K t n l
  | _ => none
def zq_hop : mx_H zq_G := fun r st g K => match r with
  | (i, _, _, a, b, _, _) => match i with
    | .getfield _ => mx_1r st fun c st => cond (Nat.blt a 100) (zq_ob g c a fun l => K (zq_lk (mx_df (zt_ty a b)) b l :: st) g) none
    | .putfield _ => match st with
      | w :: st => mx_1r st fun c st => zq_ob g c a fun l => cond (mx_ft (zt_ty a b) w) (zq_fc (g.set c (.inl a, (b, w) :: l)) fun g => K st g) none
      | [] => none
    | .iastore => mx_1i st fun x st => mx_1i st fun i st => mx_1r st fun c st => zq_ar g c fun t n l => cond (Nat.beq t 0 && mx_in i n) (zq_fc (g.set c (.inr (t, n), (i.toNatClampNeg, .inl x) :: l)) fun g => K st g) none
    | .castore => mx_1i st fun x st => mx_1i st fun i st => mx_1r st fun c st => zq_ar g c fun t n l => cond (Nat.beq t 3 && mx_in i n) (zq_fc (g.set c (.inr (t, n), (i.toNatClampNeg, .inl x.toUInt32.toUInt16.toUInt32.toInt32) :: l)) fun g => K st g) none
    | .aastore => mx_1r st fun x st => mx_1i st fun i st => mx_1r st fun c st => zq_ar g c fun t n l => zq_ob g x b fun _ => cond (Nat.beq t a && mx_in i n) (zq_fc (g.set c (.inr (t, n), (i.toNatClampNeg, .inr (.inr (some x))) :: l)) fun g => K st g) none
    | .new _ => cond (Nat.blt g.length 1000000) (zq_fc (g ++ [(.inl a, [])]) fun g' => K (.inr (.inr (some g.length)) :: st) g') none
    | .newarray _ => mx_1i st fun n st => cond (Nat.blt g.length 1000000 && mx_in n 1000001) (zq_fc (g ++ [(.inr (a, n.toNatClampNeg), [])]) fun g' => K (.inr (.inr (some g.length)) :: st) g') none
    | .anewarray _ => mx_1i st fun n st => cond (Nat.blt g.length 1000000 && mx_in n 1000001) (zq_fc (g ++ [(.inr (a, n.toNatClampNeg), [])]) fun g' => K (.inr (.inr (some g.length)) :: st) g') none
    | .invokespecial _ => cond (Nat.beq b 0) (mx_1r st fun _ st => cond (Nat.ble (mx_ct st) 8) (K st g) none) none
    | _ => none
noncomputable def zq_rc (a : Nat) (as : List mx_V) (g : zq_G) : Bool := zt_rc a as (g.map (fun x => x.1), fun _ _ => .inl 0)
section ZGround
variable {base : Nat → Nat → mx_V} {g : zq_G} {n : Nat} {xs : Nat → Int32}
theorem zq_ob_sup {β : Type} {c a : Nat} {K : List (Nat × mx_V) → Option β} {y : β} (e : zq_ob g c a K = some y) : ∃ l, g[c]? = some (.inl a, l) ∧ K l = some y := by
  unfold zq_ob at e
  split at e
  · next ci l hc =>
    obtain ⟨h1, h2⟩ := zd_cond_sup e
    rw [Nat.eq_of_beq_eq_true h1] at hc
    exact ⟨l, hc, h2⟩
  · cases e
theorem zq_ar_sup {β : Type} {c : Nat} {K : Nat → Nat → List (Nat × mx_V) → Option β} {y : β} (e : zq_ar g c K = some y) : ∃ t n l, g[c]? = some (.inr (t, n), l) ∧ K t n l = some y := by
  unfold zq_ar at e
  split at e
  · next t n l hc => exact ⟨t, n, l, hc, e⟩
  · cases e
theorem zq_sh {c : Nat} {x : mx_Sh × List (Nat × mx_V)} (h : g[c]? = some x) : (zq_mk base g).1[c]? = some x.1 := by
  show (g.map (fun x => x.1))[c]? = _
  rw [List.getElem?_map, h]
  rfl
theorem zq_ct {c : Nat} {x : mx_Sh × List (Nat × mx_V)} (h : g[c]? = some x) (i : Nat) : (zq_mk base g).2 c i = zq_lk (zq_df x.1 i) i x.2 := by
  show (match g[c]? with | none => base c i | some x => zq_lk (zq_df x.1 i) i x.2) = _
  rw [h]
theorem zq_len : (zq_mk base g).1.length = g.length := List.length_map _
theorem zq_set {c i : Nat} {sh : mx_Sh} {l : List (Nat × mx_V)} {w : mx_V} (h : g[c]? = some (sh, l)) : zq_mk base (g.set c (sh, (i, w) :: l)) = ((zq_mk base g).1, mx_ur (zq_mk base g).2 c (mx_u1 ((zq_mk base g).2 c) i w)) := by
  have hc : c < g.length := (List.getElem?_eq_some_iff.mp h).1
  refine Prod.ext ?_ (funext fun k => funext fun j => ?_)
  · apply List.ext_getElem?
    intro k
    show ((g.set c (sh, (i, w) :: l)).map (fun x => x.1))[k]? = (g.map (fun x => x.1))[k]?
    rw [List.getElem?_map, List.getElem?_map, List.getElem?_set]
    by_cases q : c = k
    · subst q
      rw [if_pos rfl, if_pos hc, h]
      rfl
    · rw [if_neg q]
  · show (match (g.set c (sh, (i, w) :: l))[k]? with | none => base k j | some x => zq_lk (zq_df x.1 j) j x.2) = (if k = c then mx_u1 ((zq_mk base g).2 c) i w else (zq_mk base g).2 k) j
    rw [List.getElem?_set]
    by_cases q : c = k
    · subst q
      rw [if_pos rfl, if_pos hc, if_pos rfl]
      show cond (Nat.beq j i) w (zq_lk (zq_df sh j) j l) = if j = i then w else (zq_mk base g).2 c j
      rw [zq_ct h]
      by_cases e : j = i
      · subst e
        rw [if_pos rfl, Nat.beq_refl]
        rfl
      · rw [if_neg e, zg_nb e]
        rfl
    · rw [if_neg q, if_neg (fun e => q e.symm)]
      rfl
theorem zq_app {sh : mx_Sh} : zq_mk base (g ++ [(sh, [])]) = ((zq_mk base g).1 ++ [sh], mx_ur (zq_mk base g).2 g.length (zq_df sh)) := by
  refine Prod.ext ?_ (funext fun k => funext fun j => ?_)
  · show (g ++ [(sh, [])] : zq_G).map (fun x => x.1) = g.map (fun x => x.1) ++ [sh]
    rw [List.map_append]
    rfl
  · show (match (g ++ [(sh, [])] : zq_G)[k]? with | none => base k j | some x => zq_lk (zq_df x.1 j) j x.2) = (if k = g.length then zq_df sh else (zq_mk base g).2 k) j
    by_cases q : k = g.length
    · subst q
      rw [if_pos rfl, List.getElem?_append_right (Nat.le_refl _), Nat.sub_self]
      rfl
    · rw [if_neg q]
      by_cases q2 : k < g.length
      · rw [List.getElem?_append_left q2]
        rfl
      · rw [List.getElem?_append_right (by omega), show [(sh, ([] : List (Nat × mx_V)))][k - g.length]? = none from List.getElem?_eq_none (by show 1 ≤ k - g.length; omega)]
        show base k j = match g[k]? with | none => base k j | some x => zq_lk (zq_df x.1 j) j x.2
        rw [List.getElem?_eq_none (by omega)]
theorem zq_SH : mx_SH (zq_mk base) zq_hop (zt_H n xs) := by
  intro r st g K x e
  obtain ⟨i, pc, nx, a, b, v, sw⟩ := r
  cases i with
  | getfield _ =>
    obtain ⟨c, st', rfl, e1⟩ := mx_1r_sup e
    obtain ⟨h1, e2⟩ := zd_cond_sup e1
    obtain ⟨l, hg, e3⟩ := zq_ob_sup e2
    refine ⟨_, _, e3, fun KT y q => ?_⟩
    show cond (Nat.blt a 100) (mx_ob (zq_mk base g) c a (KT ((zq_mk base g).2 c b :: st') (zq_mk base g))) _ = some y
    rw [h1, cond_true]
    unfold mx_ob
    rw [zq_sh hg, zq_ct hg]
    show (if a = a then _ else none) = some y
    rw [if_pos rfl]
    exact q
  | putfield _ =>
    match st, e with
    | w :: st, e =>
      obtain ⟨c, st', rfl, e1⟩ := mx_1r_sup e
      obtain ⟨l, hg, e2⟩ := zq_ob_sup e1
      obtain ⟨h1, e3⟩ := zd_cond_sup e2
      rw [zq_fc_eq] at e3
      refine ⟨_, _, e3, fun KT y q => ?_⟩
      show mx_ob (zq_mk base g) c a (if mx_ft (zt_ty a b) w = true then KT st' ((zq_mk base g).1, mx_ur (zq_mk base g).2 c (mx_u1 ((zq_mk base g).2 c) b w)) else none) = some y
      unfold mx_ob
      rw [zq_sh hg]
      show (if a = a then _ else none) = some y
      rw [if_pos rfl, if_pos h1, ← zq_set hg]
      exact q
  | iastore =>
    obtain ⟨z, s1, rfl, e1⟩ := mx_1i_sup e
    obtain ⟨j, s2, rfl, e2⟩ := mx_1i_sup e1
    obtain ⟨c, s3, rfl, e3⟩ := mx_1r_sup e2
    obtain ⟨t, m, l, hg, e4⟩ := zq_ar_sup e3
    obtain ⟨h1, e5⟩ := zd_cond_sup e4
    rw [Bool.and_eq_true] at h1
    rw [zq_fc_eq] at e5
    refine ⟨_, _, e5, fun KT y q => ?_⟩
    show mx_ar (zq_mk base g) c (fun t n => if t = 0 ∧ mx_in j n = true then KT s3 ((zq_mk base g).1, mx_ur (zq_mk base g).2 c (mx_u1 ((zq_mk base g).2 c) j.toNatClampNeg (.inl z))) else none) = some y
    unfold mx_ar
    rw [zq_sh hg]
    show (if t = 0 ∧ mx_in j m = true then _ else none) = some y
    rw [if_pos ⟨Nat.eq_of_beq_eq_true h1.1, h1.2⟩, ← zq_set hg]
    exact q
  | castore =>
    obtain ⟨z, s1, rfl, e1⟩ := mx_1i_sup e
    obtain ⟨j, s2, rfl, e2⟩ := mx_1i_sup e1
    obtain ⟨c, s3, rfl, e3⟩ := mx_1r_sup e2
    obtain ⟨t, m, l, hg, e4⟩ := zq_ar_sup e3
    obtain ⟨h1, e5⟩ := zd_cond_sup e4
    rw [Bool.and_eq_true] at h1
    rw [zq_fc_eq] at e5
    refine ⟨_, _, e5, fun KT y q => ?_⟩
    show mx_ar (zq_mk base g) c (fun t n => if t = 3 ∧ mx_in j n = true then KT s3 ((zq_mk base g).1, mx_ur (zq_mk base g).2 c (mx_u1 ((zq_mk base g).2 c) j.toNatClampNeg (.inl z.toUInt32.toUInt16.toUInt32.toInt32))) else none) = some y
    unfold mx_ar
    rw [zq_sh hg]
    show (if t = 3 ∧ mx_in j m = true then _ else none) = some y
    rw [if_pos ⟨Nat.eq_of_beq_eq_true h1.1, h1.2⟩, ← zq_set hg]
    exact q
  | aastore =>
    obtain ⟨z, s1, rfl, e1⟩ := mx_1r_sup e
    obtain ⟨j, s2, rfl, e2⟩ := mx_1i_sup e1
    obtain ⟨c, s3, rfl, e3⟩ := mx_1r_sup e2
    obtain ⟨t, m, l, hg, e4⟩ := zq_ar_sup e3
    obtain ⟨l2, hg2, e5⟩ := zq_ob_sup e4
    obtain ⟨h1, e6⟩ := zd_cond_sup e5
    rw [Bool.and_eq_true] at h1
    rw [zq_fc_eq] at e6
    refine ⟨_, _, e6, fun KT y q => ?_⟩
    show mx_ar (zq_mk base g) c (fun t n => mx_ob (zq_mk base g) z b (if t = a ∧ mx_in j n = true then KT s3 ((zq_mk base g).1, mx_ur (zq_mk base g).2 c (mx_u1 ((zq_mk base g).2 c) j.toNatClampNeg (.inr (.inr (some z))))) else none)) = some y
    unfold mx_ar
    rw [zq_sh hg]
    show mx_ob (zq_mk base g) z b (if t = a ∧ mx_in j m = true then _ else none) = some y
    unfold mx_ob
    rw [zq_sh hg2]
    show (if b = b then (if t = a ∧ mx_in j m = true then _ else none) else none) = some y
    rw [if_pos rfl, if_pos ⟨Nat.eq_of_beq_eq_true h1.1, h1.2⟩, ← zq_set hg]
    exact q
  | new _ =>
    obtain ⟨h1, e1⟩ := zd_cond_sup e
    rw [zq_fc_eq] at e1
    refine ⟨_, _, e1, fun KT y q => ?_⟩
    show (if (zq_mk base g).1.length < 1000000 then KT (.inr (.inr (some (zq_mk base g).1.length)) :: st) ((zq_mk base g).1 ++ [.inl a], mx_ur (zq_mk base g).2 (zq_mk base g).1.length (fun i => mx_df (zt_ty a i))) else none) = some y
    rw [zq_len, if_pos (Nat.blt_eq.mp h1)]
    rw [zq_app] at q
    exact q
  | newarray _ =>
    obtain ⟨m, s1, rfl, e1⟩ := mx_1i_sup e
    obtain ⟨h1, e2⟩ := zd_cond_sup e1
    rw [Bool.and_eq_true] at h1
    rw [zq_fc_eq] at e2
    refine ⟨_, _, e2, fun KT y q => ?_⟩
    show (if (zq_mk base g).1.length < 1000000 ∧ mx_in m 1000001 = true then KT (.inr (.inr (some (zq_mk base g).1.length)) :: s1) ((zq_mk base g).1 ++ [.inr (a, m.toNatClampNeg)], mx_ur (zq_mk base g).2 (zq_mk base g).1.length (fun _ => mx_df (mx_ty a))) else none) = some y
    rw [zq_len, if_pos ⟨Nat.blt_eq.mp h1.1, h1.2⟩]
    rw [zq_app] at q
    exact q
  | anewarray _ =>
    obtain ⟨m, s1, rfl, e1⟩ := mx_1i_sup e
    obtain ⟨h1, e2⟩ := zd_cond_sup e1
    rw [Bool.and_eq_true] at h1
    rw [zq_fc_eq] at e2
    refine ⟨_, _, e2, fun KT y q => ?_⟩
    show (if (zq_mk base g).1.length < 1000000 ∧ mx_in m 1000001 = true then KT (.inr (.inr (some (zq_mk base g).1.length)) :: s1) ((zq_mk base g).1 ++ [.inr (a, m.toNatClampNeg)], mx_ur (zq_mk base g).2 (zq_mk base g).1.length (fun _ => mx_df (mx_ty a))) else none) = some y
    rw [zq_len, if_pos ⟨Nat.blt_eq.mp h1.1, h1.2⟩]
    rw [zq_app] at q
    exact q
  | invokespecial _ =>
    obtain ⟨h1, e1⟩ := zd_cond_sup e
    obtain ⟨c, s1, rfl, e2⟩ := mx_1r_sup e1
    obtain ⟨h2, e3⟩ := zd_cond_sup e2
    refine ⟨_, _, e3, fun KT y q => ?_⟩
    show cond (Nat.beq b 0) (if mx_ct s1 ≤ 8 then KT s1 (zq_mk base g) else none) none = some y
    rw [h1, cond_true, if_pos (Nat.le_of_ble_eq_true h2)]
    exact q
  | _ => cases e
end ZGround
