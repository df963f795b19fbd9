theorem mx_sw_spec (x : Int32) : ∀ (l : List (Int32 × Nat)), (∃ t, (x, t) ∈ l ∧ ∀ (γ : Type) (K : Nat → γ) (d : γ), mx_sw x K d l = K t) ∨ ((∀ q ∈ l, q.1 ≠ x) ∧ ∀ (γ : Type) (K : Nat → γ) (d : γ), mx_sw x K d l = d)
  | [] => Or.inr ⟨fun q h => absurd h List.not_mem_nil, fun _ _ _ => rfl⟩
  | (y, t) :: l => by
    by_cases h : x = y
    · subst h
      exact Or.inl ⟨t, List.mem_cons_self, fun _ K d => by simp [mx_sw]⟩
    · rcases mx_sw_spec x l with ⟨t', h1, h2⟩ | ⟨h1, h2⟩
      · exact Or.inl ⟨t', List.mem_cons_of_mem _ h1, fun _ K d => by simp only [mx_sw, if_neg h]; exact h2 _ K d⟩
      · refine Or.inr ⟨fun q hq => ?_, fun _ K d => by simp only [mx_sw, if_neg h]; exact h2 _ K d⟩
        rcases List.mem_cons.mp hq with rfl | hq
        · exact fun e => h e.symm
        · exact h1 q hq
section MxCtl
variable {p : Program} {l : Launch} {e : Env} {R : Room} {s : State} {m : MethodId} {args : Array Value} {below : List Frame} {meth : Method} {c : Code} {H : Heap} {locs : List Loc} {cells slots : Nat} {Q : State → Prop}
variable {cc : ByteArray} {pc : Nat} {ls : Array Slot} {rest : List Value}
theorem mx_icmp_W (hx : p.tables.exec = Jvm.exec) (hb : c.code = cc) {cnd : ClassFile.Cond} {x y : Int32} {off : Int} {tgt : Nat} (hdg : decode cc pc = .ok (.if_icmp cnd off, 3)) (ht : (pc : Int) + off = (tgt : Int))
    (kt : (∀ (γ : Type) (A B : γ), mx_br cnd x y A B = A) → W p l e R s m args below meth c H locs cells slots Q (F0 m tgt ls rest)) (kf : (∀ (γ : Type) (A B : γ), mx_br cnd x y A B = B) → W p l e R s m args below meth c H locs cells slots Q (F0 m (pc + 3) ls rest)) : W p l e R s m args below meth c H locs cells slots Q (F0 m pc ls (.int y :: .int x :: rest)) := by
  cases cnd
  · exact lv_icmp_eq hx hb hdg ht (fun q => kt fun _ A B => if_pos q) (fun q => kf fun _ A B => if_neg q)
  · exact lv_icmp_ne hx hb hdg ht (fun q => kt fun _ A B => if_neg q) (fun q => kf fun _ A B => if_pos q)
  · exact lv_icmp_lt hx hb hdg ht (fun q => kt fun _ A B => if_pos q) (fun q => kf fun _ A B => if_neg q)
  · exact lv_icmp_ge hx hb hdg ht (fun q => kt fun _ A B => if_neg (Int32.not_lt.mpr q)) (fun q => kf fun _ A B => if_pos (Int32.not_le.mp q))
  · exact lv_icmp_gt hx hb hdg ht (fun q => kt fun _ A B => if_pos q) (fun q => kf fun _ A B => if_neg q)
  · exact lv_icmp_le hx hb hdg ht (fun q => kt fun _ A B => if_neg (Int32.not_lt.mpr q)) (fun q => kf fun _ A B => if_pos (Int32.not_le.mp q))
theorem mx_if_W (hx : p.tables.exec = Jvm.exec) (hb : c.code = cc) {cnd : ClassFile.Cond} {x : Int32} {off : Int} {tgt : Nat} (hdg : decode cc pc = .ok (.ifCond cnd off, 3)) (ht : (pc : Int) + off = (tgt : Int))
    (kt : (∀ (γ : Type) (A B : γ), mx_br cnd x 0 A B = A) → W p l e R s m args below meth c H locs cells slots Q (F0 m tgt ls rest)) (kf : (∀ (γ : Type) (A B : γ), mx_br cnd x 0 A B = B) → W p l e R s m args below meth c H locs cells slots Q (F0 m (pc + 3) ls rest)) : W p l e R s m args below meth c H locs cells slots Q (F0 m pc ls (.int x :: rest)) := by
  cases cnd
  · exact lv_if_eq hx hb hdg ht (fun q => kt fun _ A B => if_pos q) (fun q => kf fun _ A B => if_neg q)
  · exact lv_if_ne hx hb hdg ht (fun q => kt fun _ A B => if_neg q) (fun q => kf fun _ A B => if_pos q)
  · exact lv_if_lt hx hb hdg ht (fun q => kt fun _ A B => if_pos q) (fun q => kf fun _ A B => if_neg q)
  · exact lv_if_ge hx hb hdg ht (fun q => kt fun _ A B => if_neg (Int32.not_lt.mpr q)) (fun q => kf fun _ A B => if_pos (Int32.not_le.mp q))
  · exact lv_if_gt hx hb hdg ht (fun q => kt fun _ A B => if_pos q) (fun q => kf fun _ A B => if_neg q)
  · exact lv_if_le hx hb hdg ht (fun q => kt fun _ A B => if_neg (Int32.not_lt.mpr q)) (fun q => kf fun _ A B => if_pos (Int32.not_le.mp q))
/-- behind a call -/
theorem mx_call {σ : Type} {ad : Nat → Nat} {Rl : σ → Heap → Prop} {A : Nat → Prop} {mc ms : Nat} {r : Option mx_V} {s' : σ} {a : Array Value} {st0 : List Value}
    (hr : va_Run p l e R s m args below meth c H locs cells slots mc ms (F0 m pc ls st0) rest (mx_Q ad Rl A r s' a) A) (hS : va_S A s.heap H locs)
    (kk : ∀ (H1 : Heap) (locs1 : List Loc), Rl s' H1 → va_S A s.heap H1 locs1 → W p l e R s m args below meth c H1 locs1 (cells + mc) (slots + ms) Q (F0 m (pc + 3) ls ((r.map (mx_rv ad)).toList ++ rest))) : W p l e R s m args below meth c H locs cells slots Q (F0 m pc ls st0) := by
  intro T hT X
  obtain ⟨v, st₀, t, T', L, h0, X', hL, e1, e2, ⟨hv, hp, hz, hk⟩, st⟩ := hr T hT X
  cases hv
  rw [h0] at hz hk
  obtain ⟨t2, a1, b1⟩ := kk T'.heap (locs ++ L) (by rw [e1]; exact hp) ⟨Nat.le_trans hS.1 (by rw [e1]; exact hz), fun q h1 h2 => by rw [e1, hk q (Nat.lt_of_lt_of_le h1 hS.1) h2]; exact hS.2.1 q h1 h2, fun q hq => by
      rcases List.mem_append.mp hq with h | h
      · exact hS.2.2 q h
      · exact hL q h⟩ T' rfl X'
  exact ⟨t2, st t2 a1, b1⟩
end MxCtl
section MxSnd2
variable {σ : Type} {l : Launch} {cd : Nat → mx_T} {xl : Nat → Nat} {rc : Nat → List mx_V → σ → Bool} {hop : mx_H σ} {ad : Nat → Nat} {Rl : σ → Heap → Prop} {gc gs : σ → Nat} {bs : Nat} {mE : State → Prop} {A : Nat → Prop}
variable {yN : Nat → MethodName} {cN : Nat → ByteArray} {rN : Nat → Option FieldType} {fN lN : Nat → Nat} {Ts : List Jvm.Cond} {hC : Nat → Nat → Int32 → Bool} {hC2 : Nat → Nat → Int64 → Bool} {hZ : Nat → Nat → Nat → Bool} {hM : Nat → Nat → Nat → Bool} {hL hN : Nat → Nat → Nat → Bool} {iN : Nat → Bool}
theorem mx_met {a : Nat} {as : List mx_V} {s s' : σ} {r : Option mx_V} (G : mx_G l xl ad Rl gc gs bs mE A yN cN rN fN lN Ts a (mx_pc cd a 0) (mx_en (xl a) as) [] s r s') (hRz : ∀ s H, Rl s H → H.size = bs + gc s) (h0 : mx_pc cd a 0 = 0) (hct : mx_ct as ≤ xl a) (hpl : plainName (yN a).cls = true) :
    Met l (yN a) (.code (yN a) (cN a) (xl a) (rN a) :: Ts) { frames := fN a, cells := gc s' - gc s, slots := gs s' - gs s, locals := lN a } (mx_P ad Rl mE as s) (mx_Q ad Rl A r s') (gc s' - gc s) (gs s' - gs s) A := by
  refine Met.ofW (cc := cN a) (maxL := xl a) (ret := rN a) hpl rfl ?_
  intro p e s0 m args below meth c s₁ B hml hv
  obtain ⟨rfl, hR, hE⟩ := hv
  have hts := atoms_spec (ws := .code (yN a) (cN a) (xl a) (rN a) :: Ts) B.pre
  have C : mx_C xl mE yN cN rN fN lN Ts a p (headSpec (.code (yN a) (cN a) (xl a) (rN a) :: Ts) { frames := fN a, cells := gc s' - gc s, slots := gs s' - gs s, locals := lN a }).room s0 m (as.map (mx_rv ad)).toArray meth c :=
    ⟨B.exec, B.bytes, hml, B.returns, B.notSynchronized, findClass_of_methodNamed B.named, fun w h => hts w (List.mem_cons_of_mem _ h), (name_of_methodNamed B.named B.method).1, Nat.le_refl _, Nat.le_refl _, hE⟩
  rw [lg_entry_eq]
  have hl := lv_entry (as.map (mx_rv ad)) (n := xl a) (by rw [mx_ct_sl]; exact hct)
  have key := G.2.2 p e _ s0 m _ below meth c C s0.heap [] _ (gc s) (gs s) (Nat.le_refl _) (Nat.le_refl _) (Nat.le_refl _) (Nat.le_refl _) (hRz _ _ hR) hR va_S.rf ⟨hl.1, hl.2.1, fun i v hi => hl.2.2 (i, mx_rv ad v) (by have q := mx_en_at ad as _ 0 i v hi; rw [Nat.zero_add] at q; exact q)⟩
  rw [h0, Nat.sub_self, Nat.sub_self] at key
  exact key
set_option maxHeartbeats 4000000 in
theorem mx_snd (hRz : ∀ s H, Rl s H → H.size = bs + gc s) (hHS : mx_HS l cd xl hop ad Rl gc gs bs mE A yN cN rN fN lN Ts) (hck : ∀ k j, mx_ck cd xl cN rN fN lN hC hC2 hZ hM hL hN k (mx_get (cd k) j) = true) (h0 : ∀ k, mx_pc cd k 0 = 0)
    (hCT : ∀ k x v, hC k x v = true → Jvm.Cond.constant (yN k).cls x v ∈ Ts) (hCT2 : ∀ k x v, hC2 k x v = true → Jvm.Cond.constantLong (yN k).cls x v ∈ Ts) (hG : GoodIn Ts Ts) (hst : ∀ k x a, hZ k x a = true → ∀ U, mE U → ∃ tx, vk_R (yN k).cls x tx (ad a) U) (hLT : ∀ k x a, hL k x a = true → Jvm.Cond.methodLink (yN k).cls x (yN a) ∈ Ts) (hNT : ∀ k x a, hN k x a = true → ∀ U, mE U → ∃ host, va_Nw (.methodLinkNest (yN k).cls x (yN a) host) U)
    (hMT : ∀ q a b, hM q a b = true → Jvm.Cond.code (yN a) (cN a) (xl a) (rN a) ∈ Ts ∧ Jvm.Cond.initialized (yN a).cls ∈ Ts ∧ (yN a).cls ≠ "java/lang/invoke/MethodHandle" ∧ (yN a).cls ≠ "java/lang/invoke/VarHandle" ∧ (parseMethodDescriptor (yN a).desc).map (fun d => d.parameters.length) = some b ∧ plainName (yN a).cls = true ∧ (q = 0 → Jvm.Cond.instanceMethod (yN a) ∈ Ts ∧ Jvm.Cond.selects (yN a).cls (yN a) (yN a) ∈ Ts ∧ iN a = true) ∧ (q = 1 → Jvm.Cond.instanceMethod (yN a) ∈ Ts ∧ (yN a).name = "<init>" ∧ rN a = none ∧ iN a = true) ∧ (q = 2 → Jvm.Cond.static (yN a) ∈ Ts))
    (hrc : ∀ a as s, rc a as s = true → mx_ct as ≤ xl a ∧ (iN a = true → ∃ c as', as = .inr (.inr (some c)) :: as' ∧ ∀ H U locs, Rl s H → mE U → va_S A U.heap H locs → ∃ cell : Cell, H[ad c]? = some cell ∧ cell.vm.isStatics = false ∧ U.vm.findClass (yN a).cls = some cell.cls))
    (hE1 : ∀ (s0 U : State) (locs : List Loc), mE s0 → va_S A s0.heap U.heap locs → s0.WarmedH U.vm → mE U) (hE2 : ∀ (U : State) (g : JFrame) (mk : MethodId) (a : Array Value), mE U → mE (U.calling g mk a)) :
    ∀ (n k j : Nat) (L : mx_L) (st : List mx_V) (s : σ) (r : Option mx_V) (s' : σ), mx_ex cd xl rc hop n k j L st s = some (r, s') → mx_G l xl ad Rl gc gs bs mE A yN cN rN fN lN Ts k (mx_pc cd k j) L st s r s' := by
  intro n
  induction n with
  | zero => intro k j L st s r s' h; cases h
  | succ n ih =>
  intro k j L st s r s' e
  have hc := hck k j
  have hHk := hHS k j L st s
  have e : mx_b xl rc hop (mx_ex cd xl rc hop n) (mx_ex cd xl rc hop n) (mx_ex cd xl rc hop n) k (mx_get (cd k) j) L st s = some (r, s') := e
  have hpc : mx_pc cd k j = (mx_get (cd k) j).2.1 := rfl
  rw [hpc] at hHk ⊢
  generalize mx_get (cd k) j = row at e hc hHk ⊢
  clear hpc
  obtain ⟨i, pc, nx, a, b, v, sw⟩ := row
  have viaHop : hop (i, pc, nx, a, b, v, sw) st s (fun st s => mx_ex cd xl rc hop n k nx L st s) = some (r, s') → mx_G l xl ad Rl gc gs bs mE A yN cN rN fN lN Ts k pc L st s r s' := by
    intro e
    obtain ⟨st', s1, h1, h2⟩ := hHk _ _ e
    exact h2 r s' (ih _ _ _ _ _ _ _ h1)
  have viaPu : mx_pu i a v L st (fun L st => mx_ex cd xl rc hop n k nx L st s) = some (r, s') → decode (cN k) pc = .ok (i, mx_ln i) → mx_pc cd k nx = pc + mx_ln i → mx_cx (hC k) (hC2 k) (hZ k) (xl k) i a v = true → mx_G l xl ad Rl gc gs bs mE A yN cN rN fN lN Ts k pc L st s r s' := by
    intro e hd hnx hcx
    have key : ∃ L' st', mx_ex cd xl rc hop n k nx L' st' s = some (r, s') := by
      obtain ⟨L', st', h1, -⟩ := mx_pu_sup e
      exact ⟨L', st', h1⟩
    obtain ⟨L1, st1, h1⟩ := key
    refine ⟨(ih _ _ _ _ _ _ _ h1).1, (ih _ _ _ _ _ _ _ h1).2.1, ?_⟩
    intro p en R s0 m args below meth c C H locs ls c0 d0 g1 g2 g3 g4 g5 hR hS hl
    obtain ⟨L', st', h1, h2⟩ := mx_pu_W (p := p) (l := l) (e := en) (R := R) (s := s0) (m := m) (args := args) (below := below) (meth := meth) (c := c) (H := H) (locs := locs) (cells := gc s - c0) (slots := gs s - d0) (Q := MQ below (mx_Q ad Rl A r s') args s0 (gc s' - c0) (gs s' - d0) A) (cc := cN k) (ad := ad) (hc := hC k) (hc2 := hC2 k) (hs := hZ k) (own := (yN k).cls) (nL := xl k) (pc := pc) e
    have G := ih _ _ _ _ _ _ _ h1
    obtain ⟨hx, hb, hml, hr, hlk, hown, hts, hnm, hfr, hlo, hE⟩ := id C
    refine h2 hx hb hown (fun x v hww => hts _ (hCT k x v hww)) (fun x v hww => hts _ (hCT2 k x v hww)) (fun x a h => hst _ _ _ h _ hE) hcx hd hl (fun ls' hl' => ?_)
    have G2 := G.2.2 p en R s0 m args below meth c C H locs ls' c0 d0 g1 g2 g3 g4 g5 hR hS hl'
    rw [hnx] at G2
    exact G2
  have viaCall : ∀ (nb : Nat), mx_tk (b) [] st (fun as st => cond (rc a as s && Nat.ble (mx_ct st) 8) ((mx_ex cd xl rc hop n a 0 (mx_en (xl a) as) [] s).bind fun q => mx_ex cd xl rc hop n k nx L (q.1.toList ++ st) q.2) none) = some (r, s') → mx_pc cd k nx = pc + 3 → plainName (yN a).cls = true →
      (∀ (as st' : List mx_V) (q1 : Option mx_V) (s1 : σ), as.length = b → st = as.reverse ++ st' → rc a as s = true → mx_ct st' ≤ 8 →
        Met l (yN a) (.code (yN a) (cN a) (xl a) (rN a) :: Ts) { frames := fN a, cells := gc s1 - gc s, slots := gs s1 - gs s, locals := lN a } (mx_P ad Rl mE as s) (mx_Q ad Rl A q1 s1) (gc s1 - gc s) (gs s1 - gs s) A →
        ∀ (p : Program) (en : Env) (R : Room) (s0 : State) (m : MethodId) (args : Array Value) (below : List Frame) (meth : Method) (c : Code), mx_C xl mE yN cN rN fN lN Ts k p R s0 m args meth c → ∀ (H : Heap) (locs : List Loc) (ls : Array Slot) (cells slots : Nat), cells + (gc s1 - gc s) ≤ R.cells ∧ slots + (gs s1 - gs s) ≤ R.slots → Rl s H → va_S A s0.heap H locs → ls.size = xl k →
        FrameBlind (mx_P ad Rl mE as s) → (∀ U : State, U.heap = H → s0.WarmedH U.vm → mx_P ad Rl mE as s (as.map (mx_rv ad)).toArray U) →
        va_Run p l en R s0 m args below meth c H locs cells slots (gc s1 - gc s) (gs s1 - gs s) (F0 m pc ls (st.map (mx_rv ad))) (st'.map (mx_rv ad)) (mx_Q ad Rl A q1 s1 (as.map (mx_rv ad)).toArray) A) →
      mx_G l xl ad Rl gc gs bs mE A yN cN rN fN lN Ts k pc L st s r s' := by
    intro nb e hnx hpl run
    obtain ⟨as, st', h1, h2, h3⟩ := mx_tk_st _ e
    rw [List.append_nil] at h3
    cases hg : (rc a as s && Nat.ble (mx_ct st') 8) with
    | false => rw [hg] at h3; cases h3
    | true =>
    rw [hg] at h3
    rw [Bool.and_eq_true] at hg
    have hg2 : mx_ct st' ≤ 8 := Nat.le_of_ble_eq_true hg.2
    obtain ⟨⟨q1, s1⟩, h4, h5⟩ := Option.bind_eq_some_iff.mp h3
    have h5 : mx_ex cd xl rc hop n k nx L (q1.toList ++ st') s1 = some (r, s') := h5
    have G1 := ih _ _ _ _ _ _ _ h4
    have G2 := ih _ _ _ _ _ _ _ h5
    refine ⟨Nat.le_trans G1.1 G2.1, Nat.le_trans G1.2.1 G2.2.1, ?_⟩
    intro p en R s0 m args below meth c C H locs ls c0 d0 g1 g2 g3 g4 g5 hR hS hl
    have z1 := G1.1
    have z2 := G1.2.1
    have z3 := G2.1
    have z4 := G2.2.1
    have hE := C.2.2.2.2.2.2.2.2.2.2
    refine mx_call (run as st' q1 s1 h1 h2 hg.1 hg2 (mx_met G1 hRz (h0 a) (hrc _ _ _ hg.1).1 hpl) p en R s0 m args below meth c C H locs ls (gc s - c0) (gs s - d0) ⟨by omega, by omega⟩ hR hS hl.1 (fun a U g mk q => ⟨q.1, q.2.1, hE2 _ _ _ _ q.2.2⟩) (fun U hU hW => ⟨rfl, by rw [hU]; exact hR, hE1 s0 U locs hE (by rw [hU]; exact hS) hW⟩)) hS (fun H1 locs1 hR1 hS1 => ?_)
    have key := G2.2.2 p en R s0 m args below meth c C H1 locs1 ls c0 d0 (by omega) (by omega) g3 g4 g5 hR1 hS1 hl
    rw [hnx] at key
    refine W.cs (cells' := gc s1 - c0) (slots' := gs s1 - d0) (by omega) (by omega) ?_
    rw [List.map_append] at key
    cases q1 with
    | none => exact key
    | some q1 => exact key
  have isTF : ∀ {cnd : ClassFile.Cond} {x y : Int32}, (∀ (γ : Type) (A B : γ), mx_br cnd x y A B = A) → (∀ (γ : Type) (A B : γ), mx_br cnd x y A B = B) → False := by
    intro cnd x y h1 h2
    have h3 := h1 Bool true false
    rw [h2 Bool true false] at h3
    cases h3
  have pure : mx_b xl rc hop (mx_ex cd xl rc hop n) (mx_ex cd xl rc hop n) (mx_ex cd xl rc hop n) k (i, pc, nx, a, b, v, sw) L st s = mx_pu i a v L st (fun L st => mx_ex cd xl rc hop n k nx L st s) → mx_ck cd xl cN rN fN lN hC hC2 hZ hM hL hN k (i, pc, nx, a, b, v, sw) = (mx_dc cN k pc i && (decide (mx_pc cd k nx = pc + mx_ln i) && mx_cx (hC k) (hC2 k) (hZ k) (xl k) i a v)) → mx_G l xl ad Rl gc gs bs mE A yN cN rN fN lN Ts k pc L st s r s' := by
    intro q1 q2
    rw [q1] at e
    rw [q2] at hc
    simp only [Bool.and_eq_true] at hc
    exact viaPu e (of_decide_eq_true hc.1) (of_decide_eq_true hc.2.1) hc.2.2
  have ends : ∀ {v : Option mx_V}, some (v, s) = some (r, s') → v = r ∧ s = s' := by
    intro v h
    cases h
    exact ⟨rfl, rfl⟩
  cases i with
  | athrow => cases e
  | nop =>
    have G := ih _ _ _ _ _ _ _ (show mx_ex cd xl rc hop n k nx (mx_mk a L) st s = some (r, s') from e)
    have hp : mx_pc cd k nx = pc := of_decide_eq_true hc
    rw [hp] at G
    exact ⟨G.1, G.2.1, fun p en R s0 m args below meth c C H locs ls c0 d0 g1 g2 g3 g4 g5 hR hS hl => G.2.2 p en R s0 m args below meth c C H locs ls c0 d0 g1 g2 g3 g4 g5 hR hS (mx_LR_mk a hl)⟩
  | goto o =>
    have G := ih _ _ _ _ _ _ _ (show mx_ex cd xl rc hop n k a L st s = some (r, s') from e)
    have hc : (mx_dc cN k pc (.goto o) && decide ((pc : Int) + o = (mx_pc cd k a : Nat))) = true := hc
    simp only [Bool.and_eq_true] at hc
    have hd : decode (cN k) pc = .ok (.goto o, 3) := of_decide_eq_true hc.1
    exact ⟨G.1, G.2.1, fun p en R s0 m args below meth c C H locs ls c0 d0 g1 g2 g3 g4 g5 hR hS hl => lv_goto C.1 C.2.1 hd (of_decide_eq_true hc.2) (G.2.2 p en R s0 m args below meth c C H locs ls c0 d0 g1 g2 g3 g4 g5 hR hS hl)⟩
  | ifCond cnd o =>
    have hc : (mx_dc cN k pc (.ifCond cnd o) && (decide ((pc : Int) + o = (mx_pc cd k a : Nat)) && decide (mx_pc cd k nx = pc + 3))) = true := hc
    simp only [Bool.and_eq_true] at hc
    have hd : decode (cN k) pc = .ok (.ifCond cnd o, 3) := of_decide_eq_true hc.1
    have hnx := of_decide_eq_true hc.2.2
    obtain ⟨z, st1, e1, e2⟩ := mx_1i_sup (show mx_1i st (fun x st => mx_br cnd x 0 (mx_ex cd xl rc hop n k a L st s) (mx_ex cd xl rc hop n k nx L st s)) = some (r, s') from e)
    subst e1
    rcases mx_br_cases cnd z 0 (mx_ex cd xl rc hop n k a L st1 s) (mx_ex cd xl rc hop n k nx L st1 s) with ⟨h1, h2⟩ | ⟨h1, h2⟩
    · rw [h1] at e2
      have G := ih _ _ _ _ _ _ _ e2
      exact ⟨G.1, G.2.1, fun p en R s0 m args below meth c C H locs ls c0 d0 g1 g2 g3 g4 g5 hR hS hl => mx_if_W C.1 C.2.1 hd (of_decide_eq_true hc.2.1) (fun _ => G.2.2 p en R s0 m args below meth c C H locs ls c0 d0 g1 g2 g3 g4 g5 hR hS hl) (fun q => (isTF h2 q).elim)⟩
    · rw [h1] at e2
      have G := ih _ _ _ _ _ _ _ e2
      rw [hnx] at G
      exact ⟨G.1, G.2.1, fun p en R s0 m args below meth c C H locs ls c0 d0 g1 g2 g3 g4 g5 hR hS hl => mx_if_W C.1 C.2.1 hd (of_decide_eq_true hc.2.1) (fun q => (isTF q h2).elim) (fun _ => G.2.2 p en R s0 m args below meth c C H locs ls c0 d0 g1 g2 g3 g4 g5 hR hS hl)⟩
  | if_icmp cnd o =>
    have hc : (mx_dc cN k pc (.if_icmp cnd o) && (decide ((pc : Int) + o = (mx_pc cd k a : Nat)) && decide (mx_pc cd k nx = pc + 3))) = true := hc
    simp only [Bool.and_eq_true] at hc
    have hd : decode (cN k) pc = .ok (.if_icmp cnd o, 3) := of_decide_eq_true hc.1
    have hnx := of_decide_eq_true hc.2.2
    obtain ⟨z, st1, e1, e2⟩ := mx_1i_sup (show mx_1i st (fun y st => mx_1i st fun x st => mx_br cnd x y (mx_ex cd xl rc hop n k a L st s) (mx_ex cd xl rc hop n k nx L st s)) = some (r, s') from e)
    obtain ⟨w, st2, e3, e4⟩ := mx_1i_sup e2
    clear e2 e viaHop viaPu viaCall pure hHk
    subst e3; subst e1
    rcases mx_br_cases cnd w z (mx_ex cd xl rc hop n k a L st2 s) (mx_ex cd xl rc hop n k nx L st2 s) with ⟨h1, h2⟩ | ⟨h1, h2⟩
    · rw [h1] at e4
      have G := ih _ _ _ _ _ _ _ e4
      exact ⟨G.1, G.2.1, fun p en R s0 m args below meth c C H locs ls c0 d0 g1 g2 g3 g4 g5 hR hS hl => mx_icmp_W C.1 C.2.1 hd (of_decide_eq_true hc.2.1) (fun _ => G.2.2 p en R s0 m args below meth c C H locs ls c0 d0 g1 g2 g3 g4 g5 hR hS hl) (fun q => (isTF h2 q).elim)⟩
    · rw [h1] at e4
      have G := ih _ _ _ _ _ _ _ e4
      rw [hnx] at G
      exact ⟨G.1, G.2.1, fun p en R s0 m args below meth c C H locs ls c0 d0 g1 g2 g3 g4 g5 hR hS hl => mx_icmp_W C.1 C.2.1 hd (of_decide_eq_true hc.2.1) (fun q => (isTF q h2).elim) (fun _ => G.2.2 p en R s0 m args below meth c C H locs ls c0 d0 g1 g2 g3 g4 g5 hR hS hl)⟩
  | ifnonnull o =>
    have hc : (mx_dc cN k pc (.ifnonnull o) && (decide ((pc : Int) + o = (mx_pc cd k a : Nat)) && decide (mx_pc cd k nx = pc + 3))) = true := hc
    simp only [Bool.and_eq_true] at hc
    have hd : decode (cN k) pc = .ok (.ifnonnull o, 3) := of_decide_eq_true hc.1
    have hnx := of_decide_eq_true hc.2.2
    obtain ⟨z, st1, e1, e2⟩ := mx_1a_sup (show mx_1a st (fun x st => match x with
      | none => mx_ex cd xl rc hop n k nx L st s
      | some _ => mx_ex cd xl rc hop n k a L st s) = some (r, s') from e)
    subst e1
    cases z with
    | none =>
      have G := ih _ _ _ _ _ _ _ (show mx_ex cd xl rc hop n k nx L st1 s = some (r, s') from e2)
      rw [hnx] at G
      exact ⟨G.1, G.2.1, fun p en R s0 m args below meth c C H locs ls c0 d0 g1 g2 g3 g4 g5 hR hS hl => lv_ifnonnullN C.1 C.2.1 hd (G.2.2 p en R s0 m args below meth c C H locs ls c0 d0 g1 g2 g3 g4 g5 hR hS hl)⟩
    | some z =>
      have G := ih _ _ _ _ _ _ _ (show mx_ex cd xl rc hop n k a L st1 s = some (r, s') from e2)
      exact ⟨G.1, G.2.1, fun p en R s0 m args below meth c C H locs ls c0 d0 g1 g2 g3 g4 g5 hR hS hl => lv_ifnonnull C.1 C.2.1 hd (of_decide_eq_true hc.2.1) (G.2.2 p en R s0 m args below meth c C H locs ls c0 d0 g1 g2 g3 g4 g5 hR hS hl)⟩
  | tableswitch dflt lo hi offs =>
    have hc : (decide ((decode (cN k) pc).toOption.map (fun q => q.1) = some (.tableswitch dflt lo hi offs)) && (decide ((pc : Int) + dflt = (mx_pc cd k a : Nat)) && (decide (sw.map (fun q => q.1.toInt) = (List.range (hi - lo + 1).toNat).map (fun (n : Nat) => lo + (n : Int))) && sw.all (fun q => match offs[(q.1.toInt - lo).toNat]? with
      | some o => decide ((pc : Int) + o = (mx_pc cd k q.2 : Nat))
      | none => false)))) = true := hc
    simp only [Bool.and_eq_true] at hc
    obtain ⟨hc1, hc2, hc3, hc4⟩ := hc
    have hd0 := of_decide_eq_true hc1
    obtain ⟨len, hd⟩ : ∃ len, decode (cN k) pc = .ok (.tableswitch dflt lo hi offs, len) := by
      cases hq : decode (cN k) pc with
      | error x => rw [hq] at hd0; cases hd0
      | ok x =>
        rw [hq] at hd0
        have h2 : x.1 = .tableswitch dflt lo hi offs := Option.some.inj hd0
        exact ⟨x.2, by rw [← h2]⟩
    have hkeys := of_decide_eq_true hc3
    obtain ⟨z, st1, e1, e2⟩ := mx_1i_sup (show mx_1i st (fun x st => mx_sw x (fun t => mx_ex cd xl rc hop n k t L st s) (mx_ex cd xl rc hop n k a L st s) sw) = some (r, s') from e)
    subst e1
    rcases mx_sw_spec z sw with ⟨t, h1, h2⟩ | ⟨h1, h2⟩
    · rw [h2] at e2
      have G := ih _ _ _ _ _ _ _ e2
      have hz : z.toInt ∈ sw.map (fun q => q.1.toInt) := List.mem_map.mpr ⟨_, h1, rfl⟩
      rw [hkeys] at hz
      obtain ⟨nn, hn1, hn2⟩ := List.mem_map.mp hz
      have hn1 := List.mem_range.mp hn1
      have hq := List.all_eq_true.mp hc4 _ h1
      dsimp only at hq
      cases ho : offs[(z.toInt - lo).toNat]? with
      | none => rw [ho] at hq; cases hq
      | some o =>
        rw [ho] at hq
        exact ⟨G.1, G.2.1, fun p en R s0 m args below meth c C H locs ls c0 d0 g1 g2 g3 g4 g5 hR hS hl => lv_tableIn C.1 C.2.1 hd (by omega) (by omega) ho (of_decide_eq_true hq) (G.2.2 p en R s0 m args below meth c C H locs ls c0 d0 g1 g2 g3 g4 g5 hR hS hl)⟩
    · rw [h2] at e2
      have G := ih _ _ _ _ _ _ _ e2
      have hout : z.toInt < lo ∨ hi < z.toInt := by
        by_cases q : z.toInt < lo
        · exact Or.inl q
        · by_cases q2 : hi < z.toInt
          · exact Or.inr q2
          · have hm : z.toInt ∈ (List.range (hi - lo + 1).toNat).map (fun (n : Nat) => lo + (n : Int)) := List.mem_map.mpr ⟨(z.toInt - lo).toNat, List.mem_range.mpr (by omega), by omega⟩
            rw [← hkeys] at hm
            obtain ⟨q3, hq3, hq4⟩ := List.mem_map.mp hm
            exact absurd (Int32.toInt_inj.mp hq4) (h1 q3 hq3)
      exact ⟨G.1, G.2.1, fun p en R s0 m args below meth c C H locs ls c0 d0 g1 g2 g3 g4 g5 hR hS hl => lv_tableOut C.1 C.2.1 hd hout (of_decide_eq_true hc2) (G.2.2 p en R s0 m args below meth c C H locs ls c0 d0 g1 g2 g3 g4 g5 hR hS hl)⟩
  | ireturn =>
    have hc : (mx_dc cN k pc .ireturn && (match rN k with
      | some .int => decide (b = 0)
      | some .boolean => decide (b = 1)
      | some .char => decide (b = 2)
      | some .byte => decide (b = 3)
      | _ => false)) = true := hc
    simp only [Bool.and_eq_true] at hc
    have hd : decode (cN k) pc = .ok (.ireturn, 1) := of_decide_eq_true hc.1
    match st, e with
    | [.inl x], e =>
      have e : mx_rt b x (some (some (.inl x), s)) = some (r, s') := e
      have hc2 := hc.2
      split at hc2
      · next hrt =>
        have hb := of_decide_eq_true hc2
        subst hb
        obtain ⟨rfl, rfl⟩ := ends e
        exact ⟨Nat.le_refl _, Nat.le_refl _, fun p en R s0 m args below meth c C H locs ls c0 d0 g1 g2 g3 g4 g5 hR hS hl => W.iret C.1 C.2.1 (C.2.2.2.1.trans hrt) (fun t ht _ => ⟨rfl, by rw [ht]; exact hR, hS.F ht⟩) hS.2.2 hd C.2.2.2.2.1⟩
      · next hrt =>
        have hb := of_decide_eq_true hc2
        subst hb
        have e3 : (x = 0 ∨ x = 1) ∧ some (some (.inl x), s) = some (r, s') := by
          unfold mx_rt at e
          by_cases q0 : x = 0
          · rw [if_pos q0] at e; exact ⟨Or.inl q0, e⟩
          · rw [if_neg q0] at e
            by_cases q1 : x = 1
            · rw [if_pos q1] at e; exact ⟨Or.inr q1, e⟩
            · rw [if_neg q1] at e; cases e
        obtain ⟨rfl, rfl⟩ := ends e3.2
        exact ⟨Nat.le_refl _, Nat.le_refl _, fun p en R s0 m args below meth c C H locs ls c0 d0 g1 g2 g3 g4 g5 hR hS hl => W.zret C.1 C.2.1 (C.2.2.2.1.trans hrt) (by rcases e3.1 with rfl | rfl <;> rfl) (fun t ht _ => ⟨rfl, by rw [ht]; exact hR, hS.F ht⟩) hS.2.2 hd C.2.2.2.2.1⟩
      · next hrt =>
        have hb := of_decide_eq_true hc2
        subst hb
        have e3 : (x.toUInt32.toUInt16.toUInt32.toInt32 = x) ∧ some (some (.inl x), s) = some (r, s') := by
          unfold mx_rt at e
          by_cases q0 : x.toUInt32.toUInt16.toUInt32.toInt32 = x
          · rw [if_pos q0] at e; exact ⟨q0, e⟩
          · rw [if_neg q0] at e; cases e
        obtain ⟨rfl, rfl⟩ := ends e3.2
        exact ⟨Nat.le_refl _, Nat.le_refl _, fun p en R s0 m args below meth c C H locs ls c0 d0 g1 g2 g3 g4 g5 hR hS hl => W.zret C.1 C.2.1 (C.2.2.2.1.trans hrt) (congrArg Value.int e3.1) (fun t ht _ => ⟨rfl, by rw [ht]; exact hR, hS.F ht⟩) hS.2.2 hd C.2.2.2.2.1⟩
      · next hrt =>
        have hb := of_decide_eq_true hc2
        subst hb
        have e3 : (x.toInt8.toInt32 = x) ∧ some (some (.inl x), s) = some (r, s') := by
          unfold mx_rt at e
          by_cases q0 : x.toInt8.toInt32 = x
          · rw [if_pos q0] at e; exact ⟨q0, e⟩
          · rw [if_neg q0] at e; cases e
        obtain ⟨rfl, rfl⟩ := ends e3.2
        exact ⟨Nat.le_refl _, Nat.le_refl _, fun p en R s0 m args below meth c C H locs ls c0 d0 g1 g2 g3 g4 g5 hR hS hl => W.zret C.1 C.2.1 (C.2.2.2.1.trans hrt) (congrArg Value.int e3.1) (fun t ht _ => ⟨rfl, by rw [ht]; exact hR, hS.F ht⟩) hS.2.2 hd C.2.2.2.2.1⟩
      · cases hc2
    | [], e => cases e
    | .inr _ :: _, e => cases e
    | .inl _ :: _ :: _, e => cases e
  | areturn =>
    have hc : (mx_dc cN k pc .areturn && (match rN k with
      | some (.object _) => true
      | _ => false)) = true := hc
    simp only [Bool.and_eq_true] at hc
    have hd : decode (cN k) pc = .ok (.areturn, 1) := of_decide_eq_true hc.1
    match st, e with
    | [.inr (.inr x)], e =>
      have e : some (some (.inr (.inr x)), s) = some (r, s') := e
      have hc2 := hc.2
      split at hc2
      · next nm hrt =>
        obtain ⟨rfl, rfl⟩ := ends e
        exact ⟨Nat.le_refl _, Nat.le_refl _, fun p en R s0 m args below meth c C H locs ls c0 d0 g1 g2 g3 g4 g5 hR hS hl => W.aret C.1 C.2.1 (C.2.2.2.1.trans hrt) (Or.inl ⟨_, rfl⟩) (by cases x with
          | none => exact Or.inl rfl
          | some x => exact Or.inr ⟨_, rfl⟩) (fun t ht _ => ⟨rfl, by rw [ht]; exact hR, hS.F ht⟩) hS.2.2 hd C.2.2.2.2.1⟩
      · cases hc2
    | [], e => cases e
    | .inl _ :: _, e => cases e
    | .inr (.inl _) :: _, e => cases e
    | .inr (.inr _) :: _ :: _, e => cases e
  | return_ =>
    have hc : (mx_dc cN k pc .return_ && decide (rN k = none)) = true := hc
    simp only [Bool.and_eq_true] at hc
    have hd : decode (cN k) pc = .ok (.return_, 1) := of_decide_eq_true hc.1
    match st, e with
    | [], e =>
      have e : some (none, s) = some (r, s') := e
      obtain ⟨rfl, rfl⟩ := ends e
      exact ⟨Nat.le_refl _, Nat.le_refl _, fun p en R s0 m args below meth c C H locs ls c0 d0 g1 g2 g3 g4 g5 hR hS hl => W.vret C.1 C.2.1 (C.2.2.2.1.trans (of_decide_eq_true hc.2)) (fun t ht _ => ⟨rfl, by rw [ht]; exact hR, hS.F ht⟩) hS.2.2 hd C.2.2.2.2.1⟩
    | _ :: _, e => cases e
  | invokevirtual x => cases b with
    | zero => exact viaHop e
    | succ b =>
      have hc : (mx_dc cN k pc (.invokevirtual x) && (decide (mx_pc cd k nx = pc + 3) && (mx_cl xl fN lN k a && (hM 0 a b && hL k x a)))) = true := hc
      simp only [Bool.and_eq_true] at hc
      have hd : decode (cN k) pc = .ok (.invokevirtual x, 3) := of_decide_eq_true hc.1
      obtain ⟨kc6, kc7⟩ : (fN a + 1 ≤ fN k) ∧ (8 + (xl a + 11) + lN a ≤ lN k) := by
        have q := hc.2.2.1
        simp only [mx_cl, Bool.and_eq_true, decide_eq_true_eq] at q
        exact q
      obtain ⟨kc1, kc2, kc3, kc4, kc5, kc8, kv, ki, ks⟩ := hMT _ _ _ hc.2.2.2.1
      have hG' : GoodIn Ts (.code (yN a) (cN a) (xl a) (rN a) :: Ts) := fun w h => by
        rcases List.mem_cons.mp h with rfl | h
        · exact ⟨kc1, (hG _ kc1).2⟩
        · exact hG w h
      refine viaCall 0 e (of_decide_eq_true hc.2.1) kc8 ?_
      intro as st' q1 s1 hlen hst2 hrcv hct hMet p en R s0 m args below meth c C H locs ls cells slots hf hR hS hsz hFB hPre
      obtain ⟨hx, hb, hml, hr, hlk, hown, hts, hnm, hfr, hlo, hE⟩ := id C
      obtain ⟨o, as2, rfl, hrv⟩ := (hrc _ _ _ hrcv).2 (kv rfl).2.2
      refine va_runV (As := as2.map (mx_rv ad)) (rest := st'.map (mx_rv ad)) (b := ad o) (C := (yN a).cls) (n := b) ⟨hx, hb, hml, hown, hts⟩ hMet ⟨callB_of b hts hG' rfl rfl rfl (hts _ kc2) (hts _ (hLT _ _ _ hc.2.2.2.2)) ⟨kc3, kc4, kc5⟩ ⟨by dsimp only; omega, by dsimp only; omega⟩, hts _ (kv rfl).1, hts _ (kv rfl).2.1⟩ ⟨hFB, hrv H s0 locs hR hE hS, hPre⟩ rfl ?_ hsz ?_ (lv_room (by rw [mx_ct_sum]; exact hct)) hd hf
      · simp only [List.length_cons, Nat.add_right_cancel_iff] at hlen
        rw [List.length_map]
        exact hlen
      · show st.map (mx_rv ad) = _
        rw [hst2]
        simp [mx_rv]
  | invokespecial x => cases b with
    | zero => exact viaHop e
    | succ b =>
      have hc : (mx_dc cN k pc (.invokespecial x) && (decide (mx_pc cd k nx = pc + 3) && (mx_cl xl fN lN k a && (hM 1 a b && (hL k x a || hN k x a))))) = true := hc
      simp only [Bool.and_eq_true] at hc
      have hd : decode (cN k) pc = .ok (.invokespecial x, 3) := of_decide_eq_true hc.1
      obtain ⟨kc6, kc7⟩ : (fN a + 1 ≤ fN k) ∧ (8 + (xl a + 11) + lN a ≤ lN k) := by
        have q := hc.2.2.1
        simp only [mx_cl, Bool.and_eq_true, decide_eq_true_eq] at q
        exact q
      obtain ⟨kc1, kc2, kc3, kc4, kc5, kc8, kv, ki, ks⟩ := hMT _ _ _ hc.2.2.2.1
      have hG' : GoodIn Ts (.code (yN a) (cN a) (xl a) (rN a) :: Ts) := fun w h => by
        rcases List.mem_cons.mp h with rfl | h
        · exact ⟨kc1, (hG _ kc1).2⟩
        · exact hG w h
      refine viaCall 0 e (of_decide_eq_true hc.2.1) kc8 ?_
      intro as st' q1 s1 hlen hst2 hrcv hct hMet p en R s0 m args below meth c C H locs ls cells slots hf hR hS hsz hFB hPre
      obtain ⟨hx, hb, hml, hr, hlk, hown, hts, hnm, hfr, hlo, hE⟩ := id C
      obtain ⟨o, as2, rfl, hrv⟩ := (hrc _ _ _ hrcv).2 (ki rfl).2.2.2
      have hnone : rN a = none := (ki rfl).2.2.1
      rw [hnone] at hMet hG'
      have e1 : (as2.map (mx_rv ad)).length = b := by
        simp only [List.length_cons, Nat.add_right_cancel_iff] at hlen
        rw [List.length_map]
        exact hlen
      have e2 : st.map (mx_rv ad) = (as2.map (mx_rv ad)).reverse ++ .ref (ad o) :: st'.map (mx_rv ad) := by
        rw [hst2]
        simp [mx_rv]
      have hor := hc.2.2.2.2
      rw [Bool.or_eq_true] at hor
      rcases hor with hl1 | hl1
      · exact va_runI (As := as2.map (mx_rv ad)) (rest := st'.map (mx_rv ad)) (b := ad o) (n := b) ⟨hx, hb, hml, hown, hts⟩ hMet ⟨callB_of b hts hG' rfl rfl rfl (hts _ kc2) (hts _ (hLT _ _ _ hl1)) ⟨kc3, kc4, kc5⟩ ⟨by dsimp only; omega, by dsimp only; omega⟩, (ki rfl).2.1, hts _ (ki rfl).1⟩ ⟨hFB, hPre⟩ rfl e1 hsz e2 (lv_room (by rw [mx_ct_sum]; exact hct)) hd hf
      · obtain ⟨host, hN⟩ := hNT _ _ _ hl1 _ hE
        exact va_runIN (As := as2.map (mx_rv ad)) (rest := st'.map (mx_rv ad)) (b := ad o) (n := b) ⟨hx, hb, hml, hown, hts⟩ hMet ⟨va_cnB b hts hG' rfl rfl rfl hN (hts _ kc2) ⟨kc3, kc4, kc5⟩ ⟨by dsimp only; omega, by dsimp only; omega⟩, (ki rfl).2.1, hts _ (ki rfl).1⟩ ⟨hFB, hPre⟩ rfl e1 hsz e2 (lv_room (by rw [mx_ct_sum]; exact hct)) hd hf
  | invokestatic x => cases b with
    | zero => exact viaHop e
    | succ b =>
      have hc : (mx_dc cN k pc (.invokestatic x) && (decide (mx_pc cd k nx = pc + 3) && (mx_cl xl fN lN k a && (hM 2 a (b + 1) && (hL k x a || hN k x a))))) = true := hc
      simp only [Bool.and_eq_true] at hc
      have hd : decode (cN k) pc = .ok (.invokestatic x, 3) := of_decide_eq_true hc.1
      obtain ⟨kc6, kc7⟩ : (fN a + 1 ≤ fN k) ∧ (8 + (xl a + 11) + lN a ≤ lN k) := by
        have q := hc.2.2.1
        simp only [mx_cl, Bool.and_eq_true, decide_eq_true_eq] at q
        exact q
      obtain ⟨kc1, kc2, kc3, kc4, kc5, kc8, kv, ki, ks⟩ := hMT _ _ _ hc.2.2.2.1
      have hG' : GoodIn Ts (.code (yN a) (cN a) (xl a) (rN a) :: Ts) := fun w h => by
        rcases List.mem_cons.mp h with rfl | h
        · exact ⟨kc1, (hG _ kc1).2⟩
        · exact hG w h
      refine viaCall 0 e (of_decide_eq_true hc.2.1) kc8 ?_
      intro as st' q1 s1 hlen hst2 hrcv hct hMet p en R s0 m args below meth c C H locs ls cells slots hf hR hS hsz hFB hPre
      obtain ⟨hx, hb, hml, hr, hlk, hown, hts, hnm, hfr, hlo, hE⟩ := id C
      have e1 : (as.map (mx_rv ad)).length = b + 1 := by rw [List.length_map]; exact hlen
      have e2 : st.map (mx_rv ad) = (as.map (mx_rv ad)).reverse ++ st'.map (mx_rv ad) := by
        rw [hst2]
        simp
      have hor := hc.2.2.2.2
      rw [Bool.or_eq_true] at hor
      rcases hor with hl1 | hl1
      · exact va_runS (As := as.map (mx_rv ad)) (rest := st'.map (mx_rv ad)) (n := b + 1) ⟨hx, hb, hml, hown, hts⟩ hMet ⟨callB_of (b + 1) hts hG' rfl rfl rfl (hts _ kc2) (hts _ (hLT _ _ _ hl1)) ⟨kc3, kc4, kc5⟩ ⟨by dsimp only; omega, by dsimp only; omega⟩, hts _ (ks rfl)⟩ ⟨hFB, hPre⟩ rfl e1 hsz e2 (lv_room (by rw [mx_ct_sum]; exact hct)) hd hf
      · obtain ⟨host, hN⟩ := hNT _ _ _ hl1 _ hE
        exact va_runSN (As := as.map (mx_rv ad)) (rest := st'.map (mx_rv ad)) (n := b + 1) ⟨hx, hb, hml, hown, hts⟩ hMet ⟨va_cnB (b + 1) hts hG' rfl rfl rfl hN (hts _ kc2) ⟨kc3, kc4, kc5⟩ ⟨by dsimp only; omega, by dsimp only; omega⟩, hts _ (ks rfl), trivial⟩ ⟨hFB, hPre⟩ rfl e1 hsz e2 (lv_room (by rw [mx_ct_sum]; exact hct)) hd hf
  | getfield _ => exact viaHop e
  | putfield _ => exact viaHop e
  | getstatic _ => exact viaHop e
  | iaload => exact viaHop e
  | iastore => exact viaHop e
  | baload => exact viaHop e
  | bastore => exact viaHop e
  | caload => exact viaHop e
  | castore => exact viaHop e
  | laload => exact viaHop e
  | lastore => exact viaHop e
  | aaload => exact viaHop e
  | aastore => exact viaHop e
  | arraylength => exact viaHop e
  | new _ => exact viaHop e
  | newarray _ => exact viaHop e
  | anewarray _ => exact viaHop e
  | _ => exact pure rfl rfl
end MxSnd2
