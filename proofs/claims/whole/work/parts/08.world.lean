/-! ===== the small machine's heap: cells one behind the other from a base on ===== -/
abbrev mx_Sh : Type := Nat ⊕ (Nat × Nat)
abbrev mx_Hp : Type := List mx_Sh × (Nat → Nat → mx_V)
def mx_tI : mx_V → Int32
  | .inl x => x
  | _ => 0
def mx_tL : mx_V → Int64
  | .inr (.inl x) => x
  | _ => 0
def mx_tR : mx_V → Option Nat
  | .inr (.inr r) => r
  | _ => none
/-- kinds of rows: 0 int, 1 byte, 2 boolean, 3 char, 4 long, 5 and 6 references -/
def mx_ca (ad : Nat → Nat) (t : Nat) (f : Nat → mx_V) : (Nat → Int32) ⊕ (Nat → Int64) ⊕ (Nat → UInt32) ⊕ (Nat → UInt64) ⊕ (Nat → Option Nat) := match t with
  | 4 => .inr (.inl (fun i => mx_tL (f i)))
  | 5 => .inr (.inr (.inr (.inr (fun i => (mx_tR (f i)).map ad))))
  | 6 => .inr (.inr (.inr (.inr (fun i => (mx_tR (f i)).map ad))))
  | _ => .inl (fun i => mx_tI (f i))
def mx_ce (ad : Nat → Nat) (cid : Nat → ClassId) (nf : Nat → Nat) (sh : mx_Sh) (f : Nat → mx_V) : va_E := match sh with
  | .inl ci => .inr (ci, (List.range (nf ci)).map (fun i => mx_rv ad (f i)))
  | .inr (t, n) => .inl (cid t, n, mx_ca ad t f)
def mx_wl (ad : Nat → Nat) (cid : Nat → ClassId) (nf : Nat → Nat) (h : mx_Hp) : va_W := (List.range h.1.length).map (fun k => (ad k, mx_ce ad cid nf (h.1.getD k (.inl 0)) (h.2 k)))
def mx_RH (D : va_G) (cl : List vw_C) (ad : Nat → Nat) (bs : Nat) (cid : Nat → ClassId) (nf : Nat → Nat) (h : mx_Hp) (H : Heap) : Prop := va_P D cl (mx_wl ad cid nf h) H ∧ H.size = bs + h.1.length ∧ h.1.length ≤ 1000000
def mx_sz (nf : Nat → Nat) : mx_Sh → Nat
  | .inl ci => nf ci
  | .inr (_, n) => n
def mx_gc (h : mx_Hp) : Nat := h.1.length
def mx_gs (nf : Nat → Nat) (h : mx_Hp) : Nat := (h.1.map (mx_sz nf)).sum
def mx_u1 (f : Nat → mx_V) (i : Nat) (w : mx_V) : Nat → mx_V := fun j => if j = i then w else f j
def mx_ur (f : Nat → Nat → mx_V) (c : Nat) (g : Nat → mx_V) : Nat → Nat → mx_V := fun k => if k = c then g else f k
section MxWorld
variable {ad : Nat → Nat} {cid : Nat → ClassId} {nf : Nat → Nat} {bs : Nat}
theorem mx_wl_len (h : mx_Hp) : (mx_wl ad cid nf h).length = h.1.length := by simp [mx_wl]
theorem mx_wl_get {h : mx_Hp} {c : Nat} {sh : mx_Sh} (hs : h.1[c]? = some sh) : (mx_wl ad cid nf h)[c]? = some (ad c, mx_ce ad cid nf sh (h.2 c)) := by
  have hl := (List.getElem?_eq_some_iff.mp hs).1
  unfold mx_wl
  rw [List.getElem?_map, List.getElem?_range hl]
  simp [hs]
theorem mx_wl_at {h : mx_Hp} {k : Nat} {q : Nat × va_E} (hq : (mx_wl ad cid nf h)[k]? = some q) : k < h.1.length ∧ q.1 = ad k := by
  have hl := (List.getElem?_eq_some_iff.mp hq).1
  rw [mx_wl_len] at hl
  refine ⟨hl, ?_⟩
  unfold mx_wl at hq
  rw [List.getElem?_map, List.getElem?_range hl] at hq
  cases hq
  rfl
theorem mx_wl_D (hA : ∀ k, k < 1000000 → ad k = bs + k) {h : mx_Hp} (hl : h.1.length ≤ 1000000) : va_D (fun q => bs ≤ q) (mx_wl ad cid nf h) := by
  refine ⟨fun i j p q hi hj hpq => ?_, fun k q hk => ?_⟩
  · obtain ⟨h1, h2⟩ := mx_wl_at hi
    obtain ⟨h3, h4⟩ := mx_wl_at hj
    rw [h2, h4, hA i (by omega), hA j (by omega)] at hpq
    omega
  · obtain ⟨h1, h2⟩ := mx_wl_at hk
    show bs ≤ q.1
    rw [h2, hA k (by omega)]
    omega
theorem mx_wl_set {h : mx_Hp} {c : Nat} {sh : mx_Sh} (hs : h.1[c]? = some sh) (g : Nat → mx_V) : (mx_wl ad cid nf h).set c (ad c, mx_ce ad cid nf sh g) = mx_wl ad cid nf (h.1, mx_ur h.2 c g) := by
  have hl := (List.getElem?_eq_some_iff.mp hs).1
  apply List.ext_getElem?
  intro k
  by_cases hk : k = c
  · subst hk
    rw [List.getElem?_set_self (by rw [mx_wl_len]; exact hl)]
    rw [mx_wl_get (h := (h.1, mx_ur h.2 k g)) (sh := sh) hs]
    simp [mx_ur]
  · rw [List.getElem?_set_ne (Ne.symm hk)]
    unfold mx_wl
    rw [List.getElem?_map, List.getElem?_map]
    show _ = ((List.range h.1.length)[k]?).map _
    cases hr : (List.range h.1.length)[k]? with
    | none => rfl
    | some z =>
      have hz : z = k := by
        have h2 := (List.getElem?_eq_some_iff.mp hr)
        obtain ⟨h3, h4⟩ := h2
        rw [List.getElem_range] at h4
        exact h4.symm
      subst hz
      simp [mx_ur, hk]
theorem mx_wl_push (h : mx_Hp) (sh : mx_Sh) (g : Nat → mx_V) : mx_wl ad cid nf (h.1 ++ [sh], mx_ur h.2 h.1.length g) = mx_wl ad cid nf h ++ [(ad h.1.length, mx_ce ad cid nf sh g)] := by
  unfold mx_wl
  simp only [List.length_append, List.length_singleton, List.range_succ, List.map_append, List.map_singleton]
  congr 1
  · apply List.map_congr_left
    intro k hk
    have hk := List.mem_range.mp hk
    simp [mx_ur, Nat.ne_of_lt hk, List.getD, List.getElem?_append_left hk]
  · simp [mx_ur, List.getD]
theorem mx_RH_low {D : va_G} {cl : List vw_C} (hA : ∀ k, k < 1000000 → ad k = bs + k) {h : mx_Hp} {H : Heap} (hP : va_P D cl (mx_wl ad cid nf h) H) (hl : h.1.length ≤ 1000000) (hb : bs ≤ H.size) : bs + h.1.length ≤ H.size := by
  cases hn : h.1.length with
  | zero => omega
  | succ n =>
    have hs : h.1[n]? = some (h.1[n]'(by omega)) := List.getElem?_eq_getElem (by omega)
    have h2 := (hP n _ (mx_wl_get hs)).lt
    dsimp only at h2
    rw [hA n (by omega)] at h2
    omega
/-- a method's heap is no larger than what it made -/
theorem mx_Wsize {p : Program} {l : Launch} {e : Env} {R : Room} {s : State} {m : MethodId} {args : Array Value} {below : List Frame} {meth : Method} {c : Code} {H : Heap} {locs : List Loc} {cells slots : Nat} {Q : State → Prop} {g : JFrame} (hk : H.size ≤ s.heap.size + cells → W p l e R s m args below meth c H locs cells slots Q g) : W p l e R s m args below meth c H locs cells slots Q g := by
  intro T hT X
  refine hk ?_ T hT X
  rw [← hT]
  exact X.same.2.2.1
end MxWorld
