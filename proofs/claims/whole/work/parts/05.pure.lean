section MxPureW
variable {p : Program} {l : Launch} {e : Env} {R : Room} {s : State} {m : MethodId} {args : Array Value} {below : List Frame} {meth : Method} {c : Code} {H : Heap} {locs : List Loc} {cells slots : Nat} {Q : State → Prop}
theorem mx_li_sup {β : Type} {L : mx_L} {a : Nat} {K : Int32 → Option β} {y : β} (h : mx_li L a K = some y) : ∃ z, mx_at L a = some (.inl z) ∧ K z = some y := by
  unfold mx_li at h
  split at h
  · next z e => exact ⟨z, e, h⟩
  · cases h
theorem mx_ll_sup {β : Type} {L : mx_L} {a : Nat} {K : Int64 → Option β} {y : β} (h : mx_ll L a K = some y) : ∃ z, mx_at L a = some (.inr (.inl z)) ∧ K z = some y := by
  unfold mx_ll at h
  split at h
  · next z e => exact ⟨z, e, h⟩
  · cases h
theorem mx_la_sup {β : Type} {L : mx_L} {a : Nat} {K : Option Nat → Option β} {y : β} (h : mx_la L a K = some y) : ∃ z, mx_at L a = some (.inr (.inr z)) ∧ K z = some y := by
  unfold mx_la at h
  split at h
  · next z e => exact ⟨z, e, h⟩
  · cases h
theorem mx_1l_sup {β : Type} {st : List mx_V} {K : Int64 → List mx_V → Option β} {y : β} (h : mx_1l st K = some y) : ∃ z st', st = .inr (.inl z) :: st' ∧ K z st' = some y := by
  match st, h with
  | .inr (.inl z) :: st', h => exact ⟨z, st', rfl, h⟩
  | [], h => cases h
  | .inl _ :: _, h => cases h
  | .inr (.inr _) :: _, h => cases h
set_option maxHeartbeats 4000000 in
/-- a pure row over the JVM -/
theorem mx_pu_W {cc : ByteArray} {ad : Nat → Nat} {hc : Nat → Int32 → Bool} {hc2 : Nat → Int64 → Bool} {hs : Nat → Nat → Bool} {own : String} {nL : Nat} {β : Type} {i : Instr} {pc a : Nat} {v : Int32} {L : mx_L} {st : List mx_V} {K : mx_L → List mx_V → Option β} {x : β}
    (h : mx_pu i a v L st K = some x) : ∃ L' st', K L' st' = some x ∧
    ∀ (hx : p.tables.exec = Jvm.exec) (hb : c.code = cc) (hown : s.vm.findClass own = some m.cls) (hwT : ∀ x v, hc x v = true → (Jvm.Cond.constant own x v).before args s = true) (hwT2 : ∀ x v, hc2 x v = true → (Jvm.Cond.constantLong own x v).before args s = true) (hst : ∀ x a, hs x a = true → ∃ tx, vk_R own x tx (ad a) s)
      (hck : mx_cx hc hc2 hs nL i a v = true) (hd : decode cc pc = .ok (i, mx_ln i)) {ls : Array Slot} (hl : mx_LR ad ls nL L)
      (kk : ∀ ls', mx_LR ad ls' nL L' → W p l e R s m args below meth c H locs cells slots Q (F0 m (pc + mx_ln i) ls' (st'.map (mx_rv ad)))),
      W p l e R s m args below meth c H locs cells slots Q (F0 m pc ls (st.map (mx_rv ad))) := by
  have hdx : ∀ {n : Nat} {q : Bool}, n = n := fun {n q} => rfl
  cases i with
  | iconst n => exact ⟨_, _, h, fun hx hb hown hwT hwT2 hst hck hd ls hl kk => lv_iconst hx hb hd (of_decide_eq_true hck) (kk ls hl)⟩
  | bipush n => exact ⟨_, _, h, fun hx hb hown hwT hwT2 hst hck hd ls hl kk => lv_bipush hx hb hd (of_decide_eq_true hck) (kk ls hl)⟩
  | sipush n => exact ⟨_, _, h, fun hx hb hown hwT hwT2 hst hck hd ls hl kk => lv_sipush hx hb hd (of_decide_eq_true hck) (kk ls hl)⟩
  | ldc y => cases a with
    | zero => exact ⟨_, _, h, fun hx hb hown hwT hwT2 hst hck hd ls hl kk => lv_ldc hx hb hown (hwT _ _ hck) hd (kk ls hl)⟩
    | succ a => exact ⟨_, _, h, fun hx hb hown hwT hwT2 hst hck hd ls hl kk => by
        obtain ⟨tx, hZ⟩ := hst _ _ hck
        exact va_ldcS hx hb hown hZ hd (kk ls hl)⟩
  | ldc_w y => exact ⟨_, _, h, fun hx hb hown hwT hwT2 hst hck hd ls hl kk => lv_ldcw hx hb hown (hwT _ _ hck) hd (kk ls hl)⟩
  | ldc2_w y => exact ⟨_, _, h, fun hx hb hown hwT hwT2 hst hck hd ls hl kk => lv_ldc2 hx hb hown (hwT2 _ _ hck) hd (kk ls hl)⟩
  | lconst n => exact ⟨_, _, h, fun hx hb hown hwT hwT2 hst hck hd ls hl kk => lv_lconst hx hb hd (of_decide_eq_true hck) (kk ls hl)⟩
  | aconst_null => exact ⟨_, _, h, fun hx hb hown hwT hwT2 hst hck hd ls hl kk => lv_null hx hb hd (kk ls hl)⟩
  | iload y =>
    obtain ⟨z, e1, h⟩ := mx_li_sup h
    exact ⟨_, _, h, fun hx hb hown hwT hwT2 hst hck hd ls hl kk => by
      have e := of_decide_eq_true hck
      subst e
      exact lv_iload hx hb hd (hl.2.2 _ _ e1) (kk ls hl)⟩
  | iload_n y =>
    obtain ⟨z, e1, h⟩ := mx_li_sup h
    exact ⟨_, _, h, fun hx hb hown hwT hwT2 hst hck hd ls hl kk => lv_iload_n hx hb hd (of_decide_eq_true hck) (hl.2.2 _ _ e1) (kk ls hl)⟩
  | lload y =>
    obtain ⟨z, e1, h⟩ := mx_ll_sup h
    exact ⟨_, _, h, fun hx hb hown hwT hwT2 hst hck hd ls hl kk => by
      have e := of_decide_eq_true hck
      subst e
      exact lv_lload hx hb hd (hl.2.2 _ _ e1) (kk ls hl)⟩
  | lload_n y =>
    obtain ⟨z, e1, h⟩ := mx_ll_sup h
    exact ⟨_, _, h, fun hx hb hown hwT hwT2 hst hck hd ls hl kk => lv_lload_n hx hb hd (of_decide_eq_true hck) (hl.2.2 _ _ e1) (kk ls hl)⟩
  | aload y =>
    obtain ⟨z, e1, h⟩ := mx_la_sup h
    exact ⟨_, _, h, fun hx hb hown hwT hwT2 hst hck hd ls hl kk => by
      have e := of_decide_eq_true hck
      subst e
      cases z with
      | none => exact lv_aloadN hx hb hd (hl.2.2 _ _ e1) (kk ls hl)
      | some z => exact lv_aload hx hb hd (hl.2.2 _ _ e1) (kk ls hl)⟩
  | aload_n y =>
    obtain ⟨z, e1, h⟩ := mx_la_sup h
    exact ⟨_, _, h, fun hx hb hown hwT hwT2 hst hck hd ls hl kk => by
      cases z with
      | none => exact lv_aload_nN hx hb hd (of_decide_eq_true hck) (hl.2.2 _ _ e1) (kk ls hl)
      | some z => exact lv_aload_n hx hb hd (of_decide_eq_true hck) (hl.2.2 _ _ e1) (kk ls hl)⟩
  | istore y =>
    obtain ⟨z, st', e1, h⟩ := mx_1i_sup h
    subst e1
    exact ⟨_, _, h, fun hx hb hown hwT hwT2 hst hck hd ls hl kk => by
      simp only [mx_cx, Bool.and_eq_true, decide_eq_true_eq] at hck
      obtain ⟨rfl, hn⟩ := hck
      exact lv_istore hx hb hd (mx_as_has hl) hn rfl (fun ls' h' => kk ls' (mx_LR_s1 h'))⟩
  | istore_n y =>
    obtain ⟨z, st', e1, h⟩ := mx_1i_sup h
    subst e1
    exact ⟨_, _, h, fun hx hb hown hwT hwT2 hst hck hd ls hl kk => by
      simp only [mx_cx, Bool.and_eq_true, decide_eq_true_eq] at hck
      exact lv_istore_n hx hb hd hck.1 (mx_as_has hl) hck.2 rfl (fun ls' h' => kk ls' (mx_LR_s1 h'))⟩
  | lstore y =>
    obtain ⟨z, st', e1, h⟩ := mx_1l_sup h
    subst e1
    exact ⟨_, _, h, fun hx hb hown hwT hwT2 hst hck hd ls hl kk => by
      simp only [mx_cx, Bool.and_eq_true, decide_eq_true_eq] at hck
      obtain ⟨rfl, hn⟩ := hck
      exact lv_lstore hx hb hd (mx_as_has hl) hn rfl (fun ls' h' => kk ls' (mx_LR_s2 h'))⟩
  | lstore_n y =>
    obtain ⟨z, st', e1, h⟩ := mx_1l_sup h
    subst e1
    exact ⟨_, _, h, fun hx hb hown hwT hwT2 hst hck hd ls hl kk => by
      simp only [mx_cx, Bool.and_eq_true, decide_eq_true_eq] at hck
      exact lv_lstore_n hx hb hd hck.1 (mx_as_has hl) hck.2 rfl (fun ls' h' => kk ls' (mx_LR_s2 h'))⟩
  | astore y =>
    obtain ⟨z, st', e1, h⟩ := mx_1a_sup h
    subst e1
    exact ⟨_, _, h, fun hx hb hown hwT hwT2 hst hck hd ls hl kk => by
      simp only [mx_cx, Bool.and_eq_true, decide_eq_true_eq] at hck
      obtain ⟨rfl, hn⟩ := hck
      cases z with
      | none => exact lv_astoreN hx hb hd (mx_as_has hl) hn rfl (fun ls' h' => kk ls' (mx_LR_s1 h'))
      | some z => exact lv_astore hx hb hd (mx_as_has hl) hn rfl (fun ls' h' => kk ls' (mx_LR_s1 h'))⟩
  | astore_n y =>
    obtain ⟨z, st', e1, h⟩ := mx_1a_sup h
    subst e1
    exact ⟨_, _, h, fun hx hb hown hwT hwT2 hst hck hd ls hl kk => by
      simp only [mx_cx, Bool.and_eq_true, decide_eq_true_eq] at hck
      cases z with
      | none => exact lv_astore_nN hx hb hd hck.1 (mx_as_has hl) hck.2 rfl (fun ls' h' => kk ls' (mx_LR_s1 h'))
      | some z => exact lv_astore_n hx hb hd hck.1 (mx_as_has hl) hck.2 rfl (fun ls' h' => kk ls' (mx_LR_s1 h'))⟩
  | iinc y n =>
    obtain ⟨z, e1, h⟩ := mx_li_sup h
    exact ⟨_, _, h, fun hx hb hown hwT hwT2 hst hck hd ls hl kk => by
      simp only [mx_cx, Bool.and_eq_true, decide_eq_true_eq] at hck
      obtain ⟨rfl, rfl, hn⟩ := hck
      obtain ⟨k, hk⟩ := List.getElem?_of_mem (mx_as_mem (ad := ad) e1)
      exact lv_iinc hx hb hd (mx_as_has hl) hk rfl hn rfl (fun ls' h' => kk ls' (mx_LR_s1 (v := .inl _) h'))⟩
  | iadd =>
    obtain ⟨y, s1, e1, h2⟩ := mx_1i_sup h
    obtain ⟨z, s2, e2, h3⟩ := mx_1i_sup h2
    subst e2; subst e1
    exact ⟨_, _, h3, fun hx hb hown hwT hwT2 hst hck hd ls hl kk => lv_iadd hx hb hd (kk ls hl)⟩
  | isub =>
    obtain ⟨y, s1, e1, h2⟩ := mx_1i_sup h
    obtain ⟨z, s2, e2, h3⟩ := mx_1i_sup h2
    subst e2; subst e1
    exact ⟨_, _, h3, fun hx hb hown hwT hwT2 hst hck hd ls hl kk => lv_isub hx hb hd (kk ls hl)⟩
  | imul =>
    obtain ⟨y, s1, e1, h2⟩ := mx_1i_sup h
    obtain ⟨z, s2, e2, h3⟩ := mx_1i_sup h2
    subst e2; subst e1
    exact ⟨_, _, h3, fun hx hb hown hwT hwT2 hst hck hd ls hl kk => lv_imul hx hb hd (kk ls hl)⟩
  | iand =>
    obtain ⟨y, s1, e1, h2⟩ := mx_1i_sup h
    obtain ⟨z, s2, e2, h3⟩ := mx_1i_sup h2
    subst e2; subst e1
    exact ⟨_, _, h3, fun hx hb hown hwT hwT2 hst hck hd ls hl kk => lv_iand hx hb hd (kk ls hl)⟩
  | ior =>
    obtain ⟨y, s1, e1, h2⟩ := mx_1i_sup h
    obtain ⟨z, s2, e2, h3⟩ := mx_1i_sup h2
    subst e2; subst e1
    exact ⟨_, _, h3, fun hx hb hown hwT hwT2 hst hck hd ls hl kk => lv_ior hx hb hd (kk ls hl)⟩
  | ixor =>
    obtain ⟨y, s1, e1, h2⟩ := mx_1i_sup h
    obtain ⟨z, s2, e2, h3⟩ := mx_1i_sup h2
    subst e2; subst e1
    exact ⟨_, _, h3, fun hx hb hown hwT hwT2 hst hck hd ls hl kk => lv_ixor hx hb hd (kk ls hl)⟩
  | ishl =>
    obtain ⟨y, s1, e1, h2⟩ := mx_1i_sup h
    obtain ⟨z, s2, e2, h3⟩ := mx_1i_sup h2
    subst e2; subst e1
    exact ⟨_, _, h3, fun hx hb hown hwT hwT2 hst hck hd ls hl kk => lv_ishl hx hb hd (kk ls hl)⟩
  | ishr =>
    obtain ⟨y, s1, e1, h2⟩ := mx_1i_sup h
    obtain ⟨z, s2, e2, h3⟩ := mx_1i_sup h2
    subst e2; subst e1
    exact ⟨_, _, h3, fun hx hb hown hwT hwT2 hst hck hd ls hl kk => lv_ishr hx hb hd (kk ls hl)⟩
  | iushr =>
    obtain ⟨y, s1, e1, h2⟩ := mx_1i_sup h
    obtain ⟨z, s2, e2, h3⟩ := mx_1i_sup h2
    subst e2; subst e1
    exact ⟨_, _, h3, fun hx hb hown hwT hwT2 hst hck hd ls hl kk => lv_iushr hx hb hd rfl (kk ls hl)⟩
  | idiv =>
    obtain ⟨y, s1, e1, h2⟩ := mx_1i_sup h
    obtain ⟨z, s2, e2, h3⟩ := mx_1i_sup h2
    clear h h2
    subst e2; subst e1
    by_cases hy : y = 0
    · rw [if_pos hy] at h3; cases h3
    · rw [if_neg hy] at h3
      exact ⟨_, _, h3, fun hx hb hown hwT hwT2 hst hck hd ls hl kk => lv_idiv hx hb hd hy (kk ls hl)⟩
  | irem =>
    obtain ⟨y, s1, e1, h2⟩ := mx_1i_sup h
    obtain ⟨z, s2, e2, h3⟩ := mx_1i_sup h2
    clear h h2
    subst e2; subst e1
    by_cases hy : y = 0
    · rw [if_pos hy] at h3; cases h3
    · rw [if_neg hy] at h3
      exact ⟨_, _, h3, fun hx hb hown hwT hwT2 hst hck hd ls hl kk => lv_irem hx hb hd hy (kk ls hl)⟩
  | ineg =>
    obtain ⟨y, s1, e1, h2⟩ := mx_1i_sup h
    subst e1
    exact ⟨_, _, h2, fun hx hb hown hwT hwT2 hst hck hd ls hl kk => lv_ineg hx hb hd (kk ls hl)⟩
  | ladd =>
    obtain ⟨y, s1, e1, h2⟩ := mx_1l_sup h
    obtain ⟨z, s2, e2, h3⟩ := mx_1l_sup h2
    subst e2; subst e1
    exact ⟨_, _, h3, fun hx hb hown hwT hwT2 hst hck hd ls hl kk => lv_ladd hx hb hd (kk ls hl)⟩
  | lmul =>
    obtain ⟨y, s1, e1, h2⟩ := mx_1l_sup h
    obtain ⟨z, s2, e2, h3⟩ := mx_1l_sup h2
    subst e2; subst e1
    exact ⟨_, _, h3, fun hx hb hown hwT hwT2 hst hck hd ls hl kk => lv_lmul hx hb hd (kk ls hl)⟩
  | lcmp =>
    obtain ⟨y, s1, e1, h2⟩ := mx_1l_sup h
    obtain ⟨z, s2, e2, h3⟩ := mx_1l_sup h2
    subst e2; subst e1
    exact ⟨_, _, h3, fun hx hb hown hwT hwT2 hst hck hd ls hl kk => W.lcmp hx hb hd (kk ls hl)⟩
  | i2l =>
    obtain ⟨y, s1, e1, h2⟩ := mx_1i_sup h
    subst e1
    exact ⟨_, _, h2, fun hx hb hown hwT hwT2 hst hck hd ls hl kk => lv_i2l hx hb hd rfl (kk ls hl)⟩
  | l2i =>
    obtain ⟨y, s1, e1, h2⟩ := mx_1l_sup h
    subst e1
    exact ⟨_, _, h2, fun hx hb hown hwT hwT2 hst hck hd ls hl kk => lv_l2i hx hb hd rfl (kk ls hl)⟩
  | i2b =>
    obtain ⟨y, s1, e1, h2⟩ := mx_1i_sup h
    subst e1
    exact ⟨_, _, h2, fun hx hb hown hwT hwT2 hst hck hd ls hl kk => lv_i2b hx hb hd rfl (kk ls hl)⟩
  | i2s =>
    obtain ⟨y, s1, e1, h2⟩ := mx_1i_sup h
    subst e1
    exact ⟨_, _, h2, fun hx hb hown hwT hwT2 hst hck hd ls hl kk => lv_i2s hx hb hd rfl (kk ls hl)⟩
  | i2c =>
    obtain ⟨y, s1, e1, h2⟩ := mx_1i_sup h
    subst e1
    exact ⟨_, _, h2, fun hx hb hown hwT hwT2 hst hck hd ls hl kk => lv_i2c hx hb hd rfl (kk ls hl)⟩
  | dup =>
    match st, h with
    | .inl _ :: _, h => exact ⟨_, _, h, fun hx hb hown hwT hwT2 hst hck hd ls hl kk => lv_dup hx hb hd rfl (kk ls hl)⟩
    | .inr (.inr none) :: _, h => exact ⟨_, _, h, fun hx hb hown hwT hwT2 hst hck hd ls hl kk => lv_dup hx hb hd rfl (kk ls hl)⟩
    | .inr (.inr (some _)) :: _, h => exact ⟨_, _, h, fun hx hb hown hwT hwT2 hst hck hd ls hl kk => lv_dup hx hb hd rfl (kk ls hl)⟩
    | .inr (.inl _) :: _, h => cases h
    | [], h => cases h
  | dup2 =>
    match st, h with
    | .inl _ :: .inr (.inr none) :: _, h => exact ⟨_, _, h, fun hx hb hown hwT hwT2 hst hck hd ls hl kk => lv_dup2_11 hx hb hd rfl rfl (kk ls hl)⟩
    | .inl _ :: .inr (.inr (some _)) :: _, h => exact ⟨_, _, h, fun hx hb hown hwT hwT2 hst hck hd ls hl kk => lv_dup2_11 hx hb hd rfl rfl (kk ls hl)⟩
    | .inl _ :: .inl _ :: _, h => cases h
    | .inl _ :: .inr (.inl _) :: _, h => cases h
    | [.inl _], h => cases h
    | .inr _ :: _, h => cases h
    | [], h => cases h
  | pop =>
    match st, h with
    | .inl _ :: _, h => exact ⟨_, _, h, fun hx hb hown hwT hwT2 hst hck hd ls hl kk => lv_pop hx hb hd rfl (kk ls hl)⟩
    | .inr (.inr none) :: _, h => exact ⟨_, _, h, fun hx hb hown hwT hwT2 hst hck hd ls hl kk => lv_pop hx hb hd rfl (kk ls hl)⟩
    | .inr (.inr (some _)) :: _, h => exact ⟨_, _, h, fun hx hb hown hwT hwT2 hst hck hd ls hl kk => lv_pop hx hb hd rfl (kk ls hl)⟩
    | .inr (.inl _) :: _, h => cases h
    | [], h => cases h
  | _ => cases h
end MxPureW
