def mx_df : FieldType → mx_V
  | .long => .inr (.inl 0)
  | .object _ => .inr (.inr none)
  | .array _ => .inr (.inr none)
  | _ => .inl 0
def mx_dk : FieldType → Bool
  | .float => false
  | .double => false
  | _ => true
theorem mx_df_ok {ad : Nat → Nat} {t : FieldType} (h : mx_dk t = true) : defaultValue t = mx_rv ad (mx_df t) := by
  cases t <;> first | rfl | cases h
theorem mx_cpy_i (f g : Nat → mx_V) (sp dp n : Nat) : (fun j => mx_tI (va_cpy f g sp dp n j)) = va_cpy (fun j => mx_tI (f j)) (fun j => mx_tI (g j)) sp dp n := by
  funext j
  unfold va_cpy
  split <;> rfl
theorem mx_cpy_l (f g : Nat → mx_V) (sp dp n : Nat) : (fun j => mx_tL (va_cpy f g sp dp n j)) = va_cpy (fun j => mx_tL (f j)) (fun j => mx_tL (g j)) sp dp n := by
  funext j
  unfold va_cpy
  split <;> rfl
section MxOps3
variable {l : Launch} {xl : Nat → Nat} {ad : Nat → Nat} {bs : Nat} {mE : State → Prop}
variable {yN : Nat → MethodName} {cN : Nat → ByteArray} {rN : Nat → Option FieldType} {fN lN : Nat → Nat} {Ts : List Jvm.Cond} {hw : Jvm.Cond → Bool}
variable {D : va_G} {cl : List vw_C} {cid : Nat → ClassId} {nf : Nat → Nat} {tys : List (ClassId × FieldType)} {ty : Nat → Nat → FieldType}
variable {k pc : Nat} {L : mx_L} {st : List mx_V} {h h2 : mx_Hp} {r : Option mx_V}
theorem mx_o_new (X : mx_X ad bs mE Ts hw D cl cid nf tys ty mx_ty) {x a N : Nat} {Cn : String} {T : u_T} (hc : cl[a]? = some (Cn, T, N)) (hcl : hw (.classLink (yN k).cls x Cn) = true) (hin : hw (.instantiable Cn N) = true) (hini : hw (.initialized Cn) = true) (hd : decode (cN k) pc = .ok (.new x, 3)) (hmost : h.1.length < 1000000) (hdk : ∀ j, j < N → mx_dk (ty a j) = true)
    (G : mx_GH l xl ad bs mE yN cN rN fN lN Ts D cl cid nf k (pc + 3) L (.inr (.inr (some h.1.length)) :: st) (h.1 ++ [.inl a], mx_ur h.2 h.1.length (fun i => mx_df (ty a i))) r h2) : mx_GH l xl ad bs mE yN cN rN fN lN Ts D cl cid nf k pc L st h r h2 := by
  refine mx_o_al X hmost G ?_
  intro p en R s0 m args below meth c C hK H locs ls cells slots Q hP hD hS hl q1 q2 hA kk
  obtain ⟨hx, hbb, hml, hr, hlk', hown, hts, hnm, hfr, hlo, hE⟩ := id C
  have hN : nf a = N := (X.1 _ _ _ _ hc).2.2.2
  have q2' : slots + nf a ≤ R.slots := q2
  have kk' : ∀ (q : Nat) (H1 : Heap) (locs1 : List Loc), va_P D cl (mx_wl ad cid nf h ++ [(q, .inr (a, (List.range (nf a)).map (fun i => mx_rv ad (mx_df (ty a i)))))]) H1 → va_D (fun q => bs ≤ q) (mx_wl ad cid nf h ++ [(q, .inr (a, (List.range (nf a)).map (fun i => mx_rv ad (mx_df (ty a i)))))]) → va_S (fun q => bs ≤ q) s0.heap H1 locs1 → W p l en R s0 m args below meth c H1 locs1 (cells + 1) (slots + nf a) Q (F0 m (pc + 3) ls (.ref q :: st.map (mx_rv ad))) := kk
  rw [hN] at q2' kk'
  refine va_new hx hbb hts (X.1 _ _ _ _ hc).1 (ty a) (X.1 _ _ _ _ hc).2.1 hown (hts _ (X.2.2.1 _ hcl)) (hts _ (X.2.2.1 _ hin)) (hts _ (X.2.2.1 _ hini)) hK hP hD hS hA hc ?_ q1 q2' hd (fun q H1 hP1 hD1 hS1 => kk' q H1 locs hP1 hD1 hS1)
  intro j hj
  rw [mx_df_ok (ad := ad) (hdk j hj)]
  simp [vp_V, List.getD, List.getElem?_map, List.getElem?_range hj]
theorem mx_o_newa (X : mx_X ad bs mE Ts hw D cl cid nf tys ty mx_ty) {atype : ArrayType} {t N : Nat} {n : Int32} (ht : t < 5) (hty : newarray.typeOf atype = mx_ty t) (harr : hw (.arrayClass (newarray.typeOf atype)) = true) (hd : decode (cN k) pc = .ok (.newarray atype, 2)) (hmost : h.1.length < 1000000) (hn : ¬ n < 0) (hN : n.toNatClampNeg = N) (hN2 : N ≤ 1000000)
    (G : mx_GH l xl ad bs mE yN cN rN fN lN Ts D cl cid nf k (pc + 2) L (.inr (.inr (some h.1.length)) :: st) (h.1 ++ [.inr (t, N)], mx_ur h.2 h.1.length (fun _ => mx_df (mx_ty t))) r h2) : mx_GH l xl ad bs mE yN cN rN fN lN Ts D cl cid nf k pc L (.inl n :: st) h r h2 := by
  refine mx_o_al X hmost G ?_
  intro p en R s0 m args below meth c C hK H locs ls cells slots Q hP hD hS hl q1 q2 hA kk
  obtain ⟨hx, hbb, hml, hr, hlk', hown, hts, hnm, hfr, hlo, hE⟩ := id C
  refine va_newa (a0 := (N, mx_ca ad t (fun _ => mx_df (mx_ty t)))) hx hbb (hts _ (X.2.2.1 _ harr)) hty hK hP hD hS hA ?_ hn hN ?_ q1 q2 hd (fun q cA H1 hK1 hP1 hD1 hS1 => ?_)
  · intro cA
    match t, ht with
    | 0, _ => rfl
    | 1, _ => rfl
    | 2, _ => rfl
    | 3, _ => rfl
    | 4, _ => rfl
  · have : componentBytes (mx_ty t) ≤ 8 := by
      match t, ht with
      | 0, _ => decide
      | 1, _ => decide
      | 2, _ => decide
      | 3, _ => decide
      | 4, _ => decide
    calc N * componentBytes (mx_ty t) ≤ N * 8 := Nat.mul_le_mul_left _ this
      _ ≤ 536870912 := by omega
  · have r1 := (hK1.2 tys.length (cA, mx_ty t) (by simp)).2
    have r2 := (hK.2 t _ (X.2.2.2.2 t (by omega))).2
    have e : cA = cid t := by
      match t, ht, r1, r2 with
      | 0, _, r1, r2 => exact Option.some.inj (r1.symm.trans r2)
      | 1, _, r1, r2 => exact Option.some.inj (r1.symm.trans r2)
      | 2, _, r1, r2 => exact Option.some.inj (r1.symm.trans r2)
      | 3, _, r1, r2 => exact Option.some.inj (r1.symm.trans r2)
      | 4, _, r1, r2 => exact Option.some.inj (r1.symm.trans r2)
    subst e
    exact kk q H1 locs hP1 hD1 hS1
theorem mx_o_anew (X : mx_X ad bs mE Ts hw D cl cid nf tys ty mx_ty) {x t N : Nat} {n : Int32} {Cn : String} (ht : (t = 5 ∨ t = 6) ∧ mx_ty t = .object Cn) (hAO : ∀ U, mE U → va_AO Cn U) (hcl : hw (.classLink (yN k).cls x Cn) = true) (hd : decode (cN k) pc = .ok (.anewarray x, 3)) (hmost : h.1.length < 1000000) (hn : ¬ n < 0) (hN : n.toNatClampNeg = N) (hN2 : N ≤ 1000000)
    (G : mx_GH l xl ad bs mE yN cN rN fN lN Ts D cl cid nf k (pc + 3) L (.inr (.inr (some h.1.length)) :: st) (h.1 ++ [.inr (t, N)], mx_ur h.2 h.1.length (fun _ => mx_df (mx_ty t))) r h2) : mx_GH l xl ad bs mE yN cN rN fN lN Ts D cl cid nf k pc L (.inl n :: st) h r h2 := by
  refine mx_o_al X hmost G ?_
  intro p en R s0 m args below meth c C hK H locs ls cells slots Q hP hD hS hl q1 q2 hA kk
  obtain ⟨hx, hbb, hml, hr, hlk', hown, hts, hnm, hfr, hlo, hE⟩ := id C
  obtain ⟨ht, hty⟩ := ht
  refine va_newq hx hbb hown (hts _ (X.2.2.1 _ hcl)) (hAO _ hE) hK hP hD hS hA hn hN (by omega) q1 q2 hd (fun q cA H1 hK1 hP1 hD1 hS1 => ?_)
  have r1 := (hK1.2 tys.length (cA, .object Cn) (by simp)).2
  have r2 := (hK.2 t _ (X.2.2.2.2 t (by omega))).2
  rw [hty] at r2
  have e : cA = cid t := by
    obtain ⟨_, _, _, _, _, a1⟩ := r1
    obtain ⟨_, _, _, _, _, a2⟩ := r2
    exact Option.some.inj (a1.symm.trans a2)
  subst e
  rcases ht with rfl | rfl
  · exact kk q H1 locs hP1 hD1 hS1
  · exact kk q H1 locs hP1 hD1 hS1
theorem mx_o_init (X : mx_X ad bs mE Ts hw D cl cid nf tys ty mx_ty) {x o : Nat} (h1 : hw (.methodLink (yN k).cls x Lib.objectInit) = true) (h2' : hw (.instanceMethod Lib.objectInit) = true) (h3 : hw (.code Lib.objectInit ⟨#[0xb1]⟩ 1 none) = true) (hd : decode (cN k) pc = .ok (.invokespecial x, 3)) (hct : mx_ct st ≤ 8) (hf : 1 ≤ fN k) (hlo0 : 20 ≤ lN k)
    (G : mx_GH l xl ad bs mE yN cN rN fN lN Ts D cl cid nf k (pc + 3) L st h r h2) : mx_GH l xl ad bs mE yN cN rN fN lN Ts D cl cid nf k pc L (.inr (.inr (some o)) :: st) h r h2 := by
  refine mx_o_st X (h := h) (hp := h.2) G ?_
  intro p en R s0 m args below meth c C hK H locs ls cells slots Q hP hD hS hl hcc hss kk
  obtain ⟨hx, hbb, hml, hr, hlk', hown, hts, hnm, hfr, hlo, hE⟩ := id C
  refine W.objInit (a := ad o) (rest := st.map (mx_rv ad)) hx hbb hown (hts _ (X.2.2.1 _ h1)) (hts _ (X.2.2.1 _ h2')) (hts _ (X.2.2.1 _ h3)) rfl (hl.trans hml.symm) rfl hd (by omega) ?_ (kk H locs hP hS)
  rw [mx_ct_sum]
  have : (F0 m pc ls ((.inr (.inr (some o)) :: st).map (mx_rv ad))).monitorRoom = 0 := rfl
  rw [this]
  omega
theorem mx_o_cpi (X : mx_X ad bs mE Ts hw D cl cid nf tys ty mx_ty) {x o0 o1 n0 n1 : Nat} {sp dp n : Int32} (w1 : hw (.methodLink (yN k).cls x arraycopyName) = true) (w2 : hw (.native arraycopyName) = true) (w3 : hw (.static arraycopyName) = true) (w4 : hw (.initialized "java/lang/System") = true) (hd : decode (cN k) pc = .ok (.invokestatic x, 3))
    (hs0 : h.1[o0]? = some (.inr (0, n0))) (hs1 : h.1[o1]? = some (.inr (0, n1))) (g1 : ¬ sp < 0) (g2 : ¬ dp < 0) (g3 : ¬ n < 0) (g4 : sp.toNatClampNeg + n.toNatClampNeg ≤ n0) (g5 : dp.toNatClampNeg + n.toNatClampNeg ≤ n1) (hct : mx_ct st ≤ 8) (hf : 1 ≤ fN k) (hlo0 : 8 + (nativeFrameWords "java/lang/System" "arraycopy" 5 + 11) ≤ lN k)
    (G : mx_GH l xl ad bs mE yN cN rN fN lN Ts D cl cid nf k (pc + 3) L st (h.1, mx_ur h.2 o1 (va_cpy (h.2 o0) (h.2 o1) sp.toNatClampNeg dp.toNatClampNeg n.toNatClampNeg)) r h2) : mx_GH l xl ad bs mE yN cN rN fN lN Ts D cl cid nf k pc L (.inl n :: .inl dp :: .inr (.inr (some o1)) :: .inl sp :: .inr (.inr (some o0)) :: st) h r h2 := by
  refine mx_o_st X (h := h) (hp := mx_ur h.2 o1 (va_cpy (h.2 o0) (h.2 o1) sp.toNatClampNeg dp.toNatClampNeg n.toNatClampNeg)) G ?_
  intro p en R s0 m args below meth c C hK H locs ls cells slots Q hP hD hS hl hcc hss kk
  obtain ⟨hx, hbb, hml, hr, hlk', hown, hts, hnm, hfr, hlo, hE⟩ := id C
  refine va_copyi (ty := .int) hx hbb (hml.trans hl.symm) hown (hts _ (X.2.2.1 _ w1)) (hts _ (X.2.2.1 _ w2)) (hts _ (X.2.2.1 _ w3)) (hts _ (X.2.2.1 _ w4)) hK hP hD hS o0 o1 0 0 (mx_wl_get hs0) (mx_wl_get hs1) (X.2.2.2.2 0 (by omega)) (X.2.2.2.2 0 (by omega)) rfl g1 g2 g3 g4 g5 (fun _ _ => rfl) (by omega) (by rw [mx_ct_sum]; omega) hd (fun H1 locs1 hP1 hD1 hS1 => kk H1 locs1 ?_ hS1)
  rw [← mx_wl_set hs1]
  rw [← mx_cpy_i] at hP1
  exact hP1
theorem mx_o_cpl (X : mx_X ad bs mE Ts hw D cl cid nf tys ty mx_ty) {x o0 o1 n0 n1 : Nat} {sp dp n : Int32} (w1 : hw (.methodLink (yN k).cls x arraycopyName) = true) (w2 : hw (.native arraycopyName) = true) (w3 : hw (.static arraycopyName) = true) (w4 : hw (.initialized "java/lang/System") = true) (hd : decode (cN k) pc = .ok (.invokestatic x, 3))
    (hs0 : h.1[o0]? = some (.inr (4, n0))) (hs1 : h.1[o1]? = some (.inr (4, n1))) (g1 : ¬ sp < 0) (g2 : ¬ dp < 0) (g3 : ¬ n < 0) (g4 : sp.toNatClampNeg + n.toNatClampNeg ≤ n0) (g5 : dp.toNatClampNeg + n.toNatClampNeg ≤ n1) (hct : mx_ct st ≤ 8) (hf : 1 ≤ fN k) (hlo0 : 8 + (nativeFrameWords "java/lang/System" "arraycopy" 5 + 11) ≤ lN k)
    (G : mx_GH l xl ad bs mE yN cN rN fN lN Ts D cl cid nf k (pc + 3) L st (h.1, mx_ur h.2 o1 (va_cpy (h.2 o0) (h.2 o1) sp.toNatClampNeg dp.toNatClampNeg n.toNatClampNeg)) r h2) : mx_GH l xl ad bs mE yN cN rN fN lN Ts D cl cid nf k pc L (.inl n :: .inl dp :: .inr (.inr (some o1)) :: .inl sp :: .inr (.inr (some o0)) :: st) h r h2 := by
  refine mx_o_st X (h := h) (hp := mx_ur h.2 o1 (va_cpy (h.2 o0) (h.2 o1) sp.toNatClampNeg dp.toNatClampNeg n.toNatClampNeg)) G ?_
  intro p en R s0 m args below meth c C hK H locs ls cells slots Q hP hD hS hl hcc hss kk
  obtain ⟨hx, hbb, hml, hr, hlk', hown, hts, hnm, hfr, hlo, hE⟩ := id C
  refine va_copyl (ty := .long) hx hbb (hml.trans hl.symm) hown (hts _ (X.2.2.1 _ w1)) (hts _ (X.2.2.1 _ w2)) (hts _ (X.2.2.1 _ w3)) (hts _ (X.2.2.1 _ w4)) hK hP hD hS o0 o1 4 4 (mx_wl_get hs0) (mx_wl_get hs1) (X.2.2.2.2 4 (by omega)) (X.2.2.2.2 4 (by omega)) rfl g1 g2 g3 g4 g5 (fun _ _ => rfl) (by omega) (by rw [mx_ct_sum]; omega) hd (fun H1 locs1 hP1 hD1 hS1 => kk H1 locs1 ?_ hS1)
  rw [← mx_wl_set hs1]
  rw [← mx_cpy_l] at hP1
  exact hP1
theorem mx_o_gets (X : mx_X ad bs mE Ts hw D cl cid nf tys ty mx_ty) {x : Nat} {w : mx_V} {Cn n d : String} (hZ : ∀ U, mE U → va_Z Cn n d (mx_rv ad w) (fun q => bs ≤ q) U U.heap) (hlk : hw (.fieldLink (yN k).cls x Cn n d) = true) (hd : decode (cN k) pc = .ok (.getstatic x, 3))
    (G : mx_GH l xl ad bs mE yN cN rN fN lN Ts D cl cid nf k (pc + 3) L (w :: st) h r h2) : mx_GH l xl ad bs mE yN cN rN fN lN Ts D cl cid nf k pc L st h r h2 := by
  refine mx_o_st X (h := h) (hp := h.2) G ?_
  intro p en R s0 m args below meth c C hK H locs ls cells slots Q hP hD hS hl hcc hss kk
  obtain ⟨hx, hbb, hml, hr, hlk', hown, hts, hnm, hfr, hlo, hE⟩ := id C
  exact va_gets hx hbb (hZ _ hE) hS hown (hts _ (X.2.2.1 _ hlk)) (fun _ h => h) hd (kk H locs hP hS)
theorem mx_o_xget (X : mx_X ad bs mE Ts hw D cl cid nf tys ty mx_ty) {x o : Nat} {w : mx_V} {Cn n d : String} (hF : ∀ U, mE U → va_OF Cn n d (mx_rv ad w) (ad o) (fun q => bs ≤ q) U U.heap) (hlk : hw (.fieldLink (yN k).cls x Cn n d) = true) (hd : decode (cN k) pc = .ok (.getfield x, 3))
    (G : mx_GH l xl ad bs mE yN cN rN fN lN Ts D cl cid nf k (pc + 3) L (w :: st) h r h2) : mx_GH l xl ad bs mE yN cN rN fN lN Ts D cl cid nf k pc L (.inr (.inr (some o)) :: st) h r h2 := by
  refine mx_o_st X (h := h) (hp := h.2) G ?_
  intro p en R s0 m args below meth c C hK H locs ls cells slots Q hP hD hS hl hcc hss kk
  obtain ⟨hx, hbb, hml, hr, hlk', hown, hts, hnm, hfr, hlo, hE⟩ := id C
  exact vk_getf hx hbb (hF _ hE) hS hown (hts _ (X.2.2.1 _ hlk)) (fun _ h => h) hd (kk H locs hP hS)
theorem mx_o_xi (X : mx_X ad bs mE Ts hw D cl cid nf tys ty mx_ty) {o N : Nat} {f : Nat → Int32} {i : Int32} (hT : ∀ U, mE U → va_T .int (ad o) N (fun j => .int (f j)) (fun q => bs ≤ q) U U.heap) (hin : vp_in i N) (hd : decode (cN k) pc = .ok (.iaload, 1))
    (G : mx_GH l xl ad bs mE yN cN rN fN lN Ts D cl cid nf k (pc + 1) L (.inl (f i.toNatClampNeg) :: st) h r h2) : mx_GH l xl ad bs mE yN cN rN fN lN Ts D cl cid nf k pc L (.inl i :: .inr (.inr (some o)) :: st) h r h2 := by
  refine mx_o_st X (h := h) (hp := h.2) G ?_
  intro p en R s0 m args below meth c C hK H locs ls cells slots Q hP hD hS hl hcc hss kk
  obtain ⟨hx, hbb, hml, hr, hlk', hown, hts, hnm, hfr, hlo, hE⟩ := id C
  exact va_ti hx hbb (hT _ hE) hS hin rfl hd (kk H locs hP hS)
theorem mx_o_xb (X : mx_X ad bs mE Ts hw D cl cid nf tys ty mx_ty) {o N : Nat} {f : Nat → Int32} {i : Int32} (hT : ∀ U, mE U → va_T .byte (ad o) N (fun j => .int (f j)) (fun q => bs ≤ q) U U.heap) (hin : vp_in i N) (hd : decode (cN k) pc = .ok (.baload, 1))
    (G : mx_GH l xl ad bs mE yN cN rN fN lN Ts D cl cid nf k (pc + 1) L (.inl (f i.toNatClampNeg) :: st) h r h2) : mx_GH l xl ad bs mE yN cN rN fN lN Ts D cl cid nf k pc L (.inl i :: .inr (.inr (some o)) :: st) h r h2 := by
  refine mx_o_st X (h := h) (hp := h.2) G ?_
  intro p en R s0 m args below meth c C hK H locs ls cells slots Q hP hD hS hl hcc hss kk
  obtain ⟨hx, hbb, hml, hr, hlk', hown, hts, hnm, hfr, hlo, hE⟩ := id C
  exact va_tb hx hbb (hT _ hE) hS hin rfl hd (kk H locs hP hS)
theorem mx_o_xlen (X : mx_X ad bs mE Ts hw D cl cid nf tys ty mx_ty) {o N : Nat} {f : Nat → Int32} {t : FieldType} (hT : ∀ U, mE U → va_T t (ad o) N (fun j => .int (f j)) (fun q => bs ≤ q) U U.heap) (hd : decode (cN k) pc = .ok (.arraylength, 1))
    (G : mx_GH l xl ad bs mE yN cN rN fN lN Ts D cl cid nf k (pc + 1) L (.inl (Int32.ofNat N) :: st) h r h2) : mx_GH l xl ad bs mE yN cN rN fN lN Ts D cl cid nf k pc L (.inr (.inr (some o)) :: st) h r h2 := by
  refine mx_o_st X (h := h) (hp := h.2) G ?_
  intro p en R s0 m args below meth c C hK H locs ls cells slots Q hP hD hS hl hcc hss kk
  obtain ⟨hx, hbb, hml, hr, hlk', hown, hts, hnm, hfr, hlo, hE⟩ := id C
  exact va_tlen hx hbb (hT _ hE) hS rfl hd (kk H locs hP hS)
theorem mx_o_max (X : mx_X ad bs mE Ts hw D cl cid nf tys ty mx_ty) {x : Nat} {u v : Int32} (w1 : hw (.methodLink (yN k).cls x Lib.Math.max.name) = true) (w2 : hw (.static Lib.Math.max.name) = true) (w3 : hw (.initialized "java/lang/Math") = true) (w4 : hw (.code Lib.Math.max.name Lib.Math.max.code 2 (some .int)) = true) (hd : decode (cN k) pc = .ok (.invokestatic x, 3)) (hct : mx_ct st ≤ 8) (hf : 1 ≤ fN k) (hlo0 : 21 ≤ lN k)
    (G : mx_GH l xl ad bs mE yN cN rN fN lN Ts D cl cid nf k (pc + 3) L (.inl (if u < v then v else u) :: st) h r h2) : mx_GH l xl ad bs mE yN cN rN fN lN Ts D cl cid nf k pc L (.inl v :: .inl u :: st) h r h2 := by
  refine mx_o_st X (h := h) (hp := h.2) G ?_
  intro p en R s0 m args below meth c C hK H locs ls cells slots Q hP hD hS hl hcc hss kk
  obtain ⟨hx, hbb, hml, hr, hlk', hown, hts, hnm, hfr, hlo, hE⟩ := id C
  exact va_mmax hx hbb (hml.trans hl.symm) hown (hts _ (X.2.2.1 _ w1)) (hts _ (X.2.2.1 _ w2)) (hts _ (X.2.2.1 _ w3)) (hts _ (X.2.2.1 _ w4)) (by omega) (by rw [mx_ct_sum]; omega) hcc hss hd (kk H locs hP hS)
theorem mx_o_min (X : mx_X ad bs mE Ts hw D cl cid nf tys ty mx_ty) {x : Nat} {u v : Int32} (w1 : hw (.methodLink (yN k).cls x Lib.Math.min.name) = true) (w2 : hw (.static Lib.Math.min.name) = true) (w3 : hw (.initialized "java/lang/Math") = true) (w4 : hw (.code Lib.Math.min.name Lib.Math.min.code 2 (some .int)) = true) (hd : decode (cN k) pc = .ok (.invokestatic x, 3)) (hct : mx_ct st ≤ 8) (hf : 1 ≤ fN k) (hlo0 : 21 ≤ lN k)
    (G : mx_GH l xl ad bs mE yN cN rN fN lN Ts D cl cid nf k (pc + 3) L (.inl (if v < u then v else u) :: st) h r h2) : mx_GH l xl ad bs mE yN cN rN fN lN Ts D cl cid nf k pc L (.inl v :: .inl u :: st) h r h2 := by
  refine mx_o_st X (h := h) (hp := h.2) G ?_
  intro p en R s0 m args below meth c C hK H locs ls cells slots Q hP hD hS hl hcc hss kk
  obtain ⟨hx, hbb, hml, hr, hlk', hown, hts, hnm, hfr, hlo, hE⟩ := id C
  exact va_mmin hx hbb (hml.trans hl.symm) hown (hts _ (X.2.2.1 _ w1)) (hts _ (X.2.2.1 _ w2)) (hts _ (X.2.2.1 _ w3)) (hts _ (X.2.2.1 _ w4)) (by omega) (by rw [mx_ct_sum]; omega) hcc hss hd (kk H locs hP hS)
end MxOps3
