def mx_ty : Nat → FieldType
  | 0 => .int
  | 1 => .byte
  | 2 => .boolean
  | 3 => .char
  | 4 => .long
  | 5 => .object "TickBound$Sheet"
  | _ => .object "TickBound$Slot"
def mx_ft : FieldType → mx_V → Bool
  | .int, .inl _ => true
  | .boolean, .inl x => x == 0 || x == 1
  | .object _, .inr (.inr _) => true
  | .array _, .inr (.inr _) => true
  | _, _ => false
theorem mx_ft_ok {ad : Nat → Nat} {t : FieldType} {w : mx_V} (h : mx_ft t w = true) : narrow t (mx_rv ad w) = mx_rv ad w ∧ fits t (mx_rv ad w) = true := by
  match t, w, h with
  | .int, .inl x, h => exact ⟨rfl, rfl⟩
  | .boolean, .inl x, h =>
    simp only [mx_ft, Bool.or_eq_true, beq_iff_eq] at h
    rcases h with rfl | rfl
    · exact ⟨rfl, rfl⟩
    · exact ⟨rfl, rfl⟩
  | .object _, .inr (.inr none), h => exact ⟨rfl, rfl⟩
  | .object _, .inr (.inr (some _)), h => exact ⟨rfl, rfl⟩
  | .array _, .inr (.inr none), h => exact ⟨rfl, rfl⟩
  | .array _, .inr (.inr (some _)), h => exact ⟨rfl, rfl⟩
theorem mx_fs_set {ad : Nat → Nat} (f : Nat → mx_V) (n b : Nat) (w : mx_V) : (List.range n).map (fun i => mx_rv ad (mx_u1 f b w i)) = ((List.range n).map (fun i => mx_rv ad (f i))).set b (mx_rv ad w) := by
  apply List.ext_getElem?
  intro i
  by_cases hi : i = b
  · subst hi
    by_cases hl : i < n
    · rw [List.getElem?_set_self (by simpa using hl), List.getElem?_map, List.getElem?_range hl]
      simp [mx_u1]
    · rw [List.getElem?_eq_none (by simpa using hl), List.getElem?_eq_none (by simpa using hl)]
  · rw [List.getElem?_set_ne (Ne.symm hi), List.getElem?_map, List.getElem?_map]
    cases hr : (List.range n)[i]? with
    | none => rfl
    | some z =>
      obtain ⟨h3, h4⟩ := List.getElem?_eq_some_iff.mp hr
      rw [List.getElem_range] at h4
      subst h4
      simp [mx_u1, hi]
theorem mx_ui (f : Nat → mx_V) (i : Nat) (x : Int32) : (fun j => mx_tI (mx_u1 f i (.inl x) j)) = upd (fun j => mx_tI (f j)) i x := by
  funext j
  unfold mx_u1 upd
  by_cases h : j = i <;> simp [h, mx_tI]
theorem mx_ul (f : Nat → mx_V) (i : Nat) (x : Int64) : (fun j => mx_tL (mx_u1 f i (.inr (.inl x)) j)) = vp_updL (fun j => mx_tL (f j)) i x := by
  funext j
  unfold mx_u1 vp_updL
  by_cases h : j = i <;> simp [h, mx_tL]
theorem mx_uq (ad : Nat → Nat) (f : Nat → mx_V) (i : Nat) (x : Nat) : (fun j => (mx_tR (mx_u1 f i (.inr (.inr (some x))) j)).map ad) = va_up (fun j => (mx_tR (f j)).map ad) i (some (ad x)) := by
  funext j
  unfold mx_u1 va_up
  by_cases h : j = i <;> simp [h, mx_tR]
section MxOps2
variable {l : Launch} {xl : Nat → Nat} {ad : Nat → Nat} {bs : Nat} {mE : State → Prop}
variable {yN : Nat → MethodName} {cN : Nat → ByteArray} {rN : Nat → Option FieldType} {fN lN : Nat → Nat} {Ts : List Jvm.Cond} {hw : Jvm.Cond → Bool}
variable {D : va_G} {cl : List vw_C} {cid : Nat → ClassId} {nf : Nat → Nat} {tys : List (ClassId × FieldType)} {ty : Nat → Nat → FieldType}
variable {k pc : Nat} {L : mx_L} {st : List mx_V} {h h2 : mx_Hp} {r : Option mx_V}
theorem mx_o_get (X : mx_X ad bs mE Ts hw D cl cid nf tys ty mx_ty) {x a b o N : Nat} {Cn : String} {T : u_T} (hc : cl[a]? = some (Cn, T, N)) (hb : b < N) (hlk : hw (.fieldLink (yN k).cls x (T b).1 (T b).2.1 (T b).2.2.1) = true) (hd : decode (cN k) pc = .ok (.getfield x, 3)) (hs : h.1[o]? = some (.inl a))
    (G : mx_GH l xl ad bs mE yN cN rN fN lN Ts D cl cid nf k (pc + 3) L (h.2 o b :: st) h r h2) : mx_GH l xl ad bs mE yN cN rN fN lN Ts D cl cid nf k pc L (.inr (.inr (some o)) :: st) h r h2 := by
  refine mx_o_st X (h := h) (hp := h.2) G ?_
  intro p en R s0 m args below meth c C hK H locs ls cells slots Q hP hD hS hl hcc hss kk
  obtain ⟨hx, hbb, hml, hr, hlk', hown, hts, hnm, hfr, hlo, hE⟩ := id C
  refine va_get hx hbb hts (X.1 _ _ _ _ hc).1 hown hK hP o (mx_wl_get hs) hc b hb (hts _ (X.2.2.1 _ hlk)) (fun _ h => h) (v := mx_rv ad (h.2 o b)) ?_ hd (kk H locs hP hS)
  rw [List.getElem?_map, List.getElem?_range (by rw [(X.1 _ _ _ _ hc).2.2.2]; exact hb)]
  rfl
theorem mx_o_put (X : mx_X ad bs mE Ts hw D cl cid nf tys ty mx_ty) {x a b o N : Nat} {w : mx_V} {Cn : String} {T : u_T} (hc : cl[a]? = some (Cn, T, N)) (hb : b < N) (hlk : hw (.fieldLink (yN k).cls x (T b).1 (T b).2.1 (T b).2.2.1) = true) (hd : decode (cN k) pc = .ok (.putfield x, 3)) (hs : h.1[o]? = some (.inl a))
    (hfin : (T b).2.2.2 = false ∨ ((yN k).name = "<init>" ∧ (T b).1 = (yN k).cls)) (hft : mx_ft (ty a b) w = true)
    (G : mx_GH l xl ad bs mE yN cN rN fN lN Ts D cl cid nf k (pc + 3) L st (h.1, mx_ur h.2 o (mx_u1 (h.2 o) b w)) r h2) : mx_GH l xl ad bs mE yN cN rN fN lN Ts D cl cid nf k pc L (w :: .inr (.inr (some o)) :: st) h r h2 := by
  refine mx_o_st X (h := h) (hp := mx_ur h.2 o (mx_u1 (h.2 o) b w)) G ?_
  intro p en R s0 m args below meth c C hK H locs ls cells slots Q hP hD hS hl hcc hss kk
  obtain ⟨hx, hbb, hml, hr, hlk', hown, hts, hnm, hfr, hlo, hE⟩ := id C
  obtain ⟨f1, f2⟩ := mx_ft_ok (ad := ad) hft
  have hset : (mx_wl ad cid nf h).set o (ad o, .inr (a, ((List.range (nf a)).map (fun i => mx_rv ad (h.2 o i))).set b (mx_rv ad w))) = mx_wl ad cid nf (h.1, mx_ur h.2 o (mx_u1 (h.2 o) b w)) := by
    rw [← mx_wl_set hs, ← mx_fs_set]
    rfl
  have hlen : b < ((List.range (nf a)).map (fun i => mx_rv ad (h.2 o i))).length := by
    rw [List.length_map, List.length_range, (X.1 _ _ _ _ hc).2.2.2]; exact hb
  cases hf : (T b).2.2.2 with
  | false => exact va_put hx hbb hts (X.1 _ _ _ _ hc).1 (ty a) (X.1 _ _ _ _ hc).2.1 (X.1 _ _ _ _ hc).2.2.1 hown hK hP hD hS o (mx_wl_get hs) hc b hb (hts _ (X.2.2.1 _ hlk)) (fun _ h => h) hf ((X.1 _ _ _ _ hc).2.1 b hb) f1 f2 hlen hd (fun H1 locs1 hP1 hD1 hS1 => kk H1 locs1 (by rw [← hset]; exact hP1) hS1)
  | true =>
    rcases hfin with hfin | hfin
    · rw [hf] at hfin; cases hfin
    · exact va_putF hx hbb hts (X.1 _ _ _ _ hc).1 (ty a) (X.1 _ _ _ _ hc).2.1 (X.1 _ _ _ _ hc).2.2.1 hown hK hP hD hS o (mx_wl_get hs) hc b hb (hts _ (X.2.2.1 _ hlk)) (fun _ h => h) hf (hnm.trans hfin.1) hfin.2 ((X.1 _ _ _ _ hc).2.1 b hb) f1 f2 hlen hd (fun H1 locs1 hP1 hD1 hS1 => kk H1 locs1 (by rw [← hset]; exact hP1) hS1)
theorem mx_o_iald (X : mx_X ad bs mE Ts hw D cl cid nf tys ty mx_ty) {i : Int32} {o n : Nat} (hd : decode (cN k) pc = .ok (.iaload, 1)) (hs : h.1[o]? = some (.inr (0, n))) (hin : vp_in i n)
    (G : mx_GH l xl ad bs mE yN cN rN fN lN Ts D cl cid nf k (pc + 1) L (.inl (mx_tI (h.2 o i.toNatClampNeg)) :: st) h r h2) : mx_GH l xl ad bs mE yN cN rN fN lN Ts D cl cid nf k pc L (.inl i :: .inr (.inr (some o)) :: st) h r h2 := by
  refine mx_o_st X (h := h) (hp := h.2) G ?_
  intro p en R s0 m args below meth c C hK H locs ls cells slots Q hP hD hS hl hcc hss kk
  exact va_iald C.1 C.2.1 hK hP o 0 (mx_wl_get hs) (X.2.2.2.2 0 (by omega)) hin hd (kk H locs hP hS)
theorem mx_o_bald (X : mx_X ad bs mE Ts hw D cl cid nf tys ty mx_ty) {i : Int32} {o n : Nat} (hd : decode (cN k) pc = .ok (.baload, 1)) (hs : h.1[o]? = some (.inr (1, n))) (hin : vp_in i n)
    (G : mx_GH l xl ad bs mE yN cN rN fN lN Ts D cl cid nf k (pc + 1) L (.inl (mx_tI (h.2 o i.toNatClampNeg)) :: st) h r h2) : mx_GH l xl ad bs mE yN cN rN fN lN Ts D cl cid nf k pc L (.inl i :: .inr (.inr (some o)) :: st) h r h2 := by
  refine mx_o_st X (h := h) (hp := h.2) G ?_
  intro p en R s0 m args below meth c C hK H locs ls cells slots Q hP hD hS hl hcc hss kk
  exact va_bald C.1 C.2.1 hK hP o 1 (mx_wl_get hs) (X.2.2.2.2 1 (by omega)) hin hd (kk H locs hP hS)
theorem mx_o_zald (X : mx_X ad bs mE Ts hw D cl cid nf tys ty mx_ty) {i : Int32} {o n : Nat} (hd : decode (cN k) pc = .ok (.baload, 1)) (hs : h.1[o]? = some (.inr (2, n))) (hin : vp_in i n)
    (G : mx_GH l xl ad bs mE yN cN rN fN lN Ts D cl cid nf k (pc + 1) L (.inl (mx_tI (h.2 o i.toNatClampNeg)) :: st) h r h2) : mx_GH l xl ad bs mE yN cN rN fN lN Ts D cl cid nf k pc L (.inl i :: .inr (.inr (some o)) :: st) h r h2 := by
  refine mx_o_st X (h := h) (hp := h.2) G ?_
  intro p en R s0 m args below meth c C hK H locs ls cells slots Q hP hD hS hl hcc hss kk
  exact va_zald C.1 C.2.1 hK hP o 2 (mx_wl_get hs) (X.2.2.2.2 2 (by omega)) hin hd (kk H locs hP hS)
theorem mx_o_cald (X : mx_X ad bs mE Ts hw D cl cid nf tys ty mx_ty) {i : Int32} {o n : Nat} (hd : decode (cN k) pc = .ok (.caload, 1)) (hs : h.1[o]? = some (.inr (3, n))) (hin : vp_in i n)
    (G : mx_GH l xl ad bs mE yN cN rN fN lN Ts D cl cid nf k (pc + 1) L (.inl (mx_tI (h.2 o i.toNatClampNeg)) :: st) h r h2) : mx_GH l xl ad bs mE yN cN rN fN lN Ts D cl cid nf k pc L (.inl i :: .inr (.inr (some o)) :: st) h r h2 := by
  refine mx_o_st X (h := h) (hp := h.2) G ?_
  intro p en R s0 m args below meth c C hK H locs ls cells slots Q hP hD hS hl hcc hss kk
  exact va_cald C.1 C.2.1 hK hP o 3 (mx_wl_get hs) (X.2.2.2.2 3 (by omega)) hin hd (kk H locs hP hS)
theorem mx_o_lald (X : mx_X ad bs mE Ts hw D cl cid nf tys ty mx_ty) {i : Int32} {o n : Nat} (hd : decode (cN k) pc = .ok (.laload, 1)) (hs : h.1[o]? = some (.inr (4, n))) (hin : vp_in i n)
    (G : mx_GH l xl ad bs mE yN cN rN fN lN Ts D cl cid nf k (pc + 1) L (.inr (.inl (mx_tL (h.2 o i.toNatClampNeg))) :: st) h r h2) : mx_GH l xl ad bs mE yN cN rN fN lN Ts D cl cid nf k pc L (.inl i :: .inr (.inr (some o)) :: st) h r h2 := by
  refine mx_o_st X (h := h) (hp := h.2) G ?_
  intro p en R s0 m args below meth c C hK H locs ls cells slots Q hP hD hS hl hcc hss kk
  exact va_lald C.1 C.2.1 hK hP o 4 (mx_wl_get hs) (X.2.2.2.2 4 (by omega)) hin hd (kk H locs hP hS)
theorem mx_rf_map (ad : Nat → Nat) (z : Option Nat) : va_rf (z.map ad) = mx_rv ad (.inr (.inr z)) := by
  cases z <;> rfl
theorem mx_o_aald (X : mx_X ad bs mE Ts hw D cl cid nf tys ty mx_ty) {i : Int32} {o n t : Nat} (ht : t = 5 ∨ t = 6) (hd : decode (cN k) pc = .ok (.aaload, 1)) (hs : h.1[o]? = some (.inr (t, n))) (hin : vp_in i n)
    (G : mx_GH l xl ad bs mE yN cN rN fN lN Ts D cl cid nf k (pc + 1) L (.inr (.inr (mx_tR (h.2 o i.toNatClampNeg))) :: st) h r h2) : mx_GH l xl ad bs mE yN cN rN fN lN Ts D cl cid nf k pc L (.inl i :: .inr (.inr (some o)) :: st) h r h2 := by
  refine mx_o_st X (h := h) (hp := h.2) G ?_
  intro p en R s0 m args below meth c C hK H locs ls cells slots Q hP hD hS hl hcc hss kk
  have k2 := kk H locs hP hS
  rw [List.map_cons, ← mx_rf_map] at k2
  rcases ht with rfl | rfl
  · exact va_aldq (f := fun i => (mx_tR (h.2 o i)).map ad) C.1 C.2.1 hK hP o 5 (mx_wl_get hs) (X.2.2.2.2 5 (by omega)) hin hd k2
  · exact va_aldq (f := fun i => (mx_tR (h.2 o i)).map ad) C.1 C.2.1 hK hP o 6 (mx_wl_get hs) (X.2.2.2.2 6 (by omega)) hin hd k2
theorem mx_o_alen (X : mx_X ad bs mE Ts hw D cl cid nf tys ty mx_ty) {o n t : Nat} (ht : t < 7) (hd : decode (cN k) pc = .ok (.arraylength, 1)) (hs : h.1[o]? = some (.inr (t, n)))
    (G : mx_GH l xl ad bs mE yN cN rN fN lN Ts D cl cid nf k (pc + 1) L (.inl (Int32.ofNat n) :: st) h r h2) : mx_GH l xl ad bs mE yN cN rN fN lN Ts D cl cid nf k pc L (.inr (.inr (some o)) :: st) h r h2 := by
  refine mx_o_st X (h := h) (hp := h.2) G ?_
  intro p en R s0 m args below meth c C hK H locs ls cells slots Q hP hD hS hl hcc hss kk
  exact va_alen C.1 C.2.1 hK hP o t (mx_wl_get hs) (X.2.2.2.2 t ht) rfl hd (kk H locs hP hS)
theorem mx_o_iast (X : mx_X ad bs mE Ts hw D cl cid nf tys ty mx_ty) {i x : Int32} {o n : Nat} (hd : decode (cN k) pc = .ok (.iastore, 1)) (hs : h.1[o]? = some (.inr (0, n))) (hin : vp_in i n)
    (G : mx_GH l xl ad bs mE yN cN rN fN lN Ts D cl cid nf k (pc + 1) L st (h.1, mx_ur h.2 o (mx_u1 (h.2 o) i.toNatClampNeg (.inl x))) r h2) : mx_GH l xl ad bs mE yN cN rN fN lN Ts D cl cid nf k pc L (.inl x :: .inl i :: .inr (.inr (some o)) :: st) h r h2 := by
  refine mx_o_st X (h := h) (hp := mx_ur h.2 o (mx_u1 (h.2 o) i.toNatClampNeg (.inl x))) G ?_
  intro p en R s0 m args below meth c C hK H locs ls cells slots Q hP hD hS hl hcc hss kk
  refine va_iast C.1 C.2.1 hK hP hD hS o 0 (mx_wl_get hs) (X.2.2.2.2 0 (by omega)) hin hd (fun H1 locs1 hP1 hD1 hS1 => kk H1 locs1 ?_ hS1)
  rw [← mx_wl_set hs]
  rw [← mx_ui] at hP1
  exact hP1
theorem mx_o_bast (X : mx_X ad bs mE Ts hw D cl cid nf tys ty mx_ty) {i x : Int32} {o n : Nat} (hd : decode (cN k) pc = .ok (.bastore, 1)) (hs : h.1[o]? = some (.inr (1, n))) (hin : vp_in i n)
    (G : mx_GH l xl ad bs mE yN cN rN fN lN Ts D cl cid nf k (pc + 1) L st (h.1, mx_ur h.2 o (mx_u1 (h.2 o) i.toNatClampNeg (.inl x.toInt8.toInt32))) r h2) : mx_GH l xl ad bs mE yN cN rN fN lN Ts D cl cid nf k pc L (.inl x :: .inl i :: .inr (.inr (some o)) :: st) h r h2 := by
  refine mx_o_st X (h := h) (hp := mx_ur h.2 o (mx_u1 (h.2 o) i.toNatClampNeg (.inl x.toInt8.toInt32))) G ?_
  intro p en R s0 m args below meth c C hK H locs ls cells slots Q hP hD hS hl hcc hss kk
  refine va_bast C.1 C.2.1 hK hP hD hS o 1 (mx_wl_get hs) (X.2.2.2.2 1 (by omega)) hin hd (fun H1 locs1 hP1 hD1 hS1 => kk H1 locs1 ?_ hS1)
  rw [← mx_wl_set hs]
  rw [vp_nar_byte, ← mx_ui] at hP1
  exact hP1
theorem mx_o_zast (X : mx_X ad bs mE Ts hw D cl cid nf tys ty mx_ty) {i x : Int32} {o n : Nat} (hd : decode (cN k) pc = .ok (.bastore, 1)) (hs : h.1[o]? = some (.inr (2, n))) (hin : vp_in i n)
    (G : mx_GH l xl ad bs mE yN cN rN fN lN Ts D cl cid nf k (pc + 1) L st (h.1, mx_ur h.2 o (mx_u1 (h.2 o) i.toNatClampNeg (.inl (x &&& 1)))) r h2) : mx_GH l xl ad bs mE yN cN rN fN lN Ts D cl cid nf k pc L (.inl x :: .inl i :: .inr (.inr (some o)) :: st) h r h2 := by
  refine mx_o_st X (h := h) (hp := mx_ur h.2 o (mx_u1 (h.2 o) i.toNatClampNeg (.inl (x &&& 1)))) G ?_
  intro p en R s0 m args below meth c C hK H locs ls cells slots Q hP hD hS hl hcc hss kk
  refine va_zast C.1 C.2.1 hK hP hD hS o 2 (mx_wl_get hs) (X.2.2.2.2 2 (by omega)) hin hd (fun H1 locs1 hP1 hD1 hS1 => kk H1 locs1 ?_ hS1)
  rw [← mx_wl_set hs]
  rw [show vp_nar .boolean x = x &&& 1 from rfl, ← mx_ui] at hP1
  exact hP1
theorem mx_o_cast (X : mx_X ad bs mE Ts hw D cl cid nf tys ty mx_ty) {i x : Int32} {o n : Nat} (hd : decode (cN k) pc = .ok (.castore, 1)) (hs : h.1[o]? = some (.inr (3, n))) (hin : vp_in i n)
    (G : mx_GH l xl ad bs mE yN cN rN fN lN Ts D cl cid nf k (pc + 1) L st (h.1, mx_ur h.2 o (mx_u1 (h.2 o) i.toNatClampNeg (.inl x.toUInt32.toUInt16.toUInt32.toInt32))) r h2) : mx_GH l xl ad bs mE yN cN rN fN lN Ts D cl cid nf k pc L (.inl x :: .inl i :: .inr (.inr (some o)) :: st) h r h2 := by
  refine mx_o_st X (h := h) (hp := mx_ur h.2 o (mx_u1 (h.2 o) i.toNatClampNeg (.inl x.toUInt32.toUInt16.toUInt32.toInt32))) G ?_
  intro p en R s0 m args below meth c C hK H locs ls cells slots Q hP hD hS hl hcc hss kk
  refine va_cast C.1 C.2.1 hK hP hD hS o 3 (mx_wl_get hs) (X.2.2.2.2 3 (by omega)) hin hd (fun H1 locs1 hP1 hD1 hS1 => kk H1 locs1 ?_ hS1)
  rw [← mx_wl_set hs]
  rw [vp_nar_char, ← mx_ui] at hP1
  exact hP1
theorem mx_o_last (X : mx_X ad bs mE Ts hw D cl cid nf tys ty mx_ty) {i : Int32} {x : Int64} {o n : Nat} (hd : decode (cN k) pc = .ok (.lastore, 1)) (hs : h.1[o]? = some (.inr (4, n))) (hin : vp_in i n)
    (G : mx_GH l xl ad bs mE yN cN rN fN lN Ts D cl cid nf k (pc + 1) L st (h.1, mx_ur h.2 o (mx_u1 (h.2 o) i.toNatClampNeg (.inr (.inl x)))) r h2) : mx_GH l xl ad bs mE yN cN rN fN lN Ts D cl cid nf k pc L (.inr (.inl x) :: .inl i :: .inr (.inr (some o)) :: st) h r h2 := by
  refine mx_o_st X (h := h) (hp := mx_ur h.2 o (mx_u1 (h.2 o) i.toNatClampNeg (.inr (.inl x)))) G ?_
  intro p en R s0 m args below meth c C hK H locs ls cells slots Q hP hD hS hl hcc hss kk
  refine va_last C.1 C.2.1 hK hP hD hS o 4 (mx_wl_get hs) (X.2.2.2.2 4 (by omega)) hin hd (fun H1 locs1 hP1 hD1 hS1 => kk H1 locs1 ?_ hS1)
  rw [← mx_wl_set hs]
  rw [← mx_ul] at hP1
  exact hP1
theorem mx_o_aast (X : mx_X ad bs mE Ts hw D cl cid nf tys ty mx_ty) {i : Int32} {o o2 n t a : Nat} {rr : vw_C} (ht : (t = 5 ∨ t = 6) ∧ mx_ty t = .object rr.1) (hc : cl[a]? = some rr) (hd : decode (cN k) pc = .ok (.aastore, 1)) (hs : h.1[o]? = some (.inr (t, n))) (hs2 : h.1[o2]? = some (.inl a)) (hin : vp_in i n)
    (G : mx_GH l xl ad bs mE yN cN rN fN lN Ts D cl cid nf k (pc + 1) L st (h.1, mx_ur h.2 o (mx_u1 (h.2 o) i.toNatClampNeg (.inr (.inr (some o2))))) r h2) : mx_GH l xl ad bs mE yN cN rN fN lN Ts D cl cid nf k pc L (.inr (.inr (some o2)) :: .inl i :: .inr (.inr (some o)) :: st) h r h2 := by
  refine mx_o_st X (h := h) (hp := mx_ur h.2 o (mx_u1 (h.2 o) i.toNatClampNeg (.inr (.inr (some o2))))) G ?_
  intro p en R s0 m args below meth c C hK H locs ls cells slots Q hP hD hS hl hcc hss kk
  obtain ⟨ht, hty⟩ := ht
  have htys := X.2.2.2.2 t (by omega)
  rw [hty] at htys
  rcases ht with rfl | rfl
  · refine va_astq (f := fun i => (mx_tR (h.2 o i)).map ad) C.1 C.2.1 hK hP hD hS o 5 o2 a (mx_wl_get hs) htys (mx_wl_get hs2) hc hin hd (fun H1 locs1 hP1 hD1 hS1 => kk H1 locs1 ?_ hS1)
    rw [← mx_wl_set hs]
    rw [← mx_uq] at hP1
    exact hP1
  · refine va_astq (f := fun i => (mx_tR (h.2 o i)).map ad) C.1 C.2.1 hK hP hD hS o 6 o2 a (mx_wl_get hs) htys (mx_wl_get hs2) hc hin hd (fun H1 locs1 hP1 hD1 hS1 => kk H1 locs1 ?_ hS1)
    rw [← mx_wl_set hs]
    rw [← mx_uq] at hP1
    exact hP1
end MxOps2
