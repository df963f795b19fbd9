noncomputable def mx_hw (Ts : List Jvm.Cond) (w : Jvm.Cond) : Bool := @decide (w ∈ Ts) (Classical.propDecidable _)
theorem mx_hw_of {Ts : List Jvm.Cond} {w : Jvm.Cond} (h : w ∈ Ts) : mx_hw Ts w = true := by
  unfold mx_hw
  exact @decide_eq_true _ (Classical.propDecidable _) h
section MxHS
variable {l : Launch} {cd : Nat → mx_T} {xl : Nat → Nat} {ad : Nat → Nat} {bs : Nat} {mE : State → Prop}
variable {yN : Nat → MethodName} {cN : Nat → ByteArray} {rN : Nat → Option FieldType} {fN lN : Nat → Nat} {Ts : List Jvm.Cond}
variable {D : va_G} {cl : List vw_C} {cid : Nat → ClassId} {nf : Nat → Nat} {tys : List (ClassId × FieldType)} {ty : Nat → Nat → FieldType}
variable {xF : Nat → Nat → Nat → Option mx_V} {xS : Nat → mx_V} {xA : mx_XA}
/-- what a heap row must say, as a fact -/
def mx_hf (xl : Nat → Nat) (ad : Nat → Nat) (bs : Nat) (mE : State → Prop) (yN : Nat → MethodName) (cN : Nat → ByteArray) (fN lN : Nat → Nat) (Ts : List Jvm.Cond) (cl : List vw_C) (ty : Nat → Nat → FieldType) (xF : Nat → Nat → Nat → Option mx_V) (xS : Nat → mx_V) (k : Nat) (i : Instr) (pc a b : Nat) : Prop :=
  decode (cN k) pc = .ok (i, mx_ln i) ∧ match i with
    | .getfield x => (a < 100 → ∃ C T N, cl[a]? = some (C, T, N) ∧ b < N ∧ Jvm.Cond.fieldLink (yN k).cls x (T b).1 (T b).2.1 (T b).2.2.1 ∈ Ts) ∧ (100 ≤ a → ∃ C n d, Jvm.Cond.fieldLink (yN k).cls x C n d ∈ Ts ∧ ∀ o w, xF a b o = some w → ∀ U, mE U → va_OF C n d (mx_rv ad w) (ad o) (fun q => bs ≤ q) U U.heap)
    | .putfield x => ∃ C T N, cl[a]? = some (C, T, N) ∧ b < N ∧ Jvm.Cond.fieldLink (yN k).cls x (T b).1 (T b).2.1 (T b).2.2.1 ∈ Ts ∧ ((T b).2.2.2 = false ∨ ((yN k).name = "<init>" ∧ (T b).1 = (yN k).cls))
    | .getstatic x => ∃ C n d, Jvm.Cond.fieldLink (yN k).cls x C n d ∈ Ts ∧ ∀ U, mE U → va_Z C n d (mx_rv ad (xS a)) (fun q => bs ≤ q) U U.heap
    | .aastore => (a = 5 ∨ a = 6) ∧ ∃ r, cl[b]? = some r ∧ mx_ty a = .object r.1
    | .new x => ∃ C T N, cl[a]? = some (C, T, N) ∧ Jvm.Cond.classLink (yN k).cls x C ∈ Ts ∧ Jvm.Cond.instantiable C N ∈ Ts ∧ Jvm.Cond.initialized C ∈ Ts ∧ ∀ j, j < N → mx_dk (ty a j) = true
    | .newarray t => a < 5 ∧ newarray.typeOf t = mx_ty a ∧ Jvm.Cond.arrayClass (newarray.typeOf t) ∈ Ts
    | .anewarray x => ∃ C, ((a = 5 ∨ a = 6) ∧ mx_ty a = .object C) ∧ Jvm.Cond.classLink (yN k).cls x C ∈ Ts ∧ ∀ U, mE U → va_AO C U
    | .invokespecial x => Jvm.Cond.methodLink (yN k).cls x Lib.objectInit ∈ Ts ∧ Jvm.Cond.instanceMethod Lib.objectInit ∈ Ts ∧ Jvm.Cond.code Lib.objectInit ⟨#[0xb1]⟩ 1 none ∈ Ts ∧ 1 ≤ fN k ∧ 20 ≤ lN k
    | .invokestatic x => (a = 1 → Jvm.Cond.methodLink (yN k).cls x Lib.Math.max.name ∈ Ts ∧ Jvm.Cond.static Lib.Math.max.name ∈ Ts ∧ Jvm.Cond.initialized "java/lang/Math" ∈ Ts ∧ Jvm.Cond.code Lib.Math.max.name Lib.Math.max.code 2 (some .int) ∈ Ts ∧ 1 ≤ fN k ∧ 21 ≤ lN k) ∧ (a = 2 → Jvm.Cond.methodLink (yN k).cls x Lib.Math.min.name ∈ Ts ∧ Jvm.Cond.static Lib.Math.min.name ∈ Ts ∧ Jvm.Cond.initialized "java/lang/Math" ∈ Ts ∧ Jvm.Cond.code Lib.Math.min.name Lib.Math.min.code 2 (some .int) ∈ Ts ∧ 1 ≤ fN k ∧ 21 ≤ lN k) ∧ (a ≠ 1 → a ≠ 2 → Jvm.Cond.methodLink (yN k).cls x arraycopyName ∈ Ts ∧ Jvm.Cond.native arraycopyName ∈ Ts ∧ Jvm.Cond.static arraycopyName ∈ Ts ∧ Jvm.Cond.initialized "java/lang/System" ∈ Ts ∧ 1 ≤ fN k ∧ 8 + (nativeFrameWords "java/lang/System" "arraycopy" 5 + 11) ≤ lN k)
    | _ => True
set_option maxHeartbeats 4000000 in
theorem mx_hH_sup (X : mx_X ad bs mE Ts (mx_hw Ts) D cl cid nf tys ty mx_ty) (hXA : ∀ c t n f, xA c = some (t, n, f) → ∀ U, mE U → va_T (mx_ty t) (ad c) n (fun j => .int (f j)) (fun q => bs ≤ q) U U.heap)
    {i : Instr} {pc nx a b : Nat} {v : Int32} {sw : List (Int32 × Nat)} {st : List mx_V} {h : mx_Hp} {K : List mx_V → mx_Hp → Option (Option mx_V × mx_Hp)} {y : Option mx_V × mx_Hp} (e : mx_hH nf ty xF xS xA (i, pc, nx, a, b, v, sw) st h K = some y) :
    ∃ st' h', K st' h' = some y ∧ (∀ K' z, K' st' h' = some z → mx_hH nf ty xF xS xA (i, pc, nx, a, b, v, sw) st h K' = some z) ∧
      ∀ (k : Nat), mx_hf xl ad bs mE yN cN fN lN Ts cl ty xF xS k i pc a b → ∀ (L : mx_L) (r : Option mx_V) (h2 : mx_Hp), mx_GH l xl ad bs mE yN cN rN fN lN Ts D cl cid nf k (pc + mx_ln i) L st' h' r h2 → mx_GH l xl ad bs mE yN cN rN fN lN Ts D cl cid nf k pc L st h r h2 := by
  cases i with
  | getfield x =>
    obtain ⟨c, st1, rfl, e1⟩ := mx_1r_sup (show mx_1r st (fun c st => cond (Nat.blt a 100) (mx_ob h c a (K (h.2 c b :: st) h)) (match xF a b c with
      | some w => K (w :: st) h
      | none => none)) = some y from e)
    cases ha : Nat.blt a 100 with
    | true =>
      rw [ha] at e1
      obtain ⟨hs, e2⟩ := mx_ob_sup (show mx_ob h c a (K (h.2 c b :: st1) h) = some y from e1)
      refine ⟨_, _, e2, fun K' z q => ?_, fun k hf L r h2 G => ?_⟩
      · show cond (Nat.blt a 100) (mx_ob h c a (K' (h.2 c b :: st1) h)) _ = some z
        rw [ha]
        simp [mx_ob, hs, q]
      · obtain ⟨hd, hf1, -⟩ := hf
        obtain ⟨C, T, N, h1, h3, h4⟩ := hf1 (Nat.blt_eq.mp ha)
        exact mx_o_get X h1 h3 (mx_hw_of h4) hd hs G
    | false =>
      rw [ha] at e1
      have e1 : (match xF a b c with
        | some w => K (w :: st1) h
        | none => none) = some y := e1
      cases hx : xF a b c with
      | none => rw [hx] at e1; cases e1
      | some w =>
        rw [hx] at e1
        refine ⟨_, _, e1, fun K' z q => ?_, fun k hf L r h2 G => ?_⟩
        · show cond (Nat.blt a 100) _ (match xF a b c with
            | some w => K' (w :: st1) h
            | none => none) = some z
          rw [ha, hx]
          exact q
        · obtain ⟨hd, -, hf2⟩ := hf
          obtain ⟨C, n, d, h1, h3⟩ := hf2 (Nat.le_of_not_lt fun q => by rw [Nat.blt_eq.mpr q] at ha; cases ha)
          exact mx_o_xget X (h3 _ _ hx) (mx_hw_of h1) hd G
  | putfield x =>
    cases st with
    | nil => cases e
    | cons w st =>
    obtain ⟨c, st1, rfl, e1⟩ := mx_1r_sup (show mx_1r st (fun c st => mx_ob h c a (if mx_ft (ty a b) w = true then K st (h.1, mx_ur h.2 c (mx_u1 (h.2 c) b w)) else none)) = some y from e)
    obtain ⟨hs, e2⟩ := mx_ob_sup e1
    obtain ⟨hft, e3⟩ := mx_if_sup e2
    refine ⟨_, _, e3, fun K' z q => ?_, fun k hf L r h2 G => ?_⟩
    · show mx_ob h c a (if mx_ft (ty a b) w = true then K' st1 _ else none) = some z
      simp [mx_ob, hs, hft, q]
    · obtain ⟨hd, C, T, N, h1, h3, h4, h5⟩ := hf
      exact mx_o_put X h1 h3 (mx_hw_of h4) hd hs h5 hft G
  | getstatic x =>
    refine ⟨_, _, (show K (xS a :: st) h = some y from e), fun K' z q => q, fun k hf L r h2 G => ?_⟩
    obtain ⟨hd, C, n, d, h1, h3⟩ := hf
    exact mx_o_gets X h3 (mx_hw_of h1) hd G
  | iaload =>
    obtain ⟨i, st0, rfl, e0⟩ := mx_1i_sup (show mx_1i st (fun i st => mx_1r st fun c st => cond (Nat.blt c 1000000) (mx_ar h c fun t n => if t = 0 ∧ mx_in i n = true then K (.inl (mx_tI (h.2 c i.toNatClampNeg)) :: st) h else none) (mx_xr xA c fun t n f => if t = 0 ∧ mx_in i n = true then K (.inl (f i.toNatClampNeg) :: st) h else none)) = some y from e)
    obtain ⟨c, st1, rfl, e1⟩ := mx_1r_sup e0
    cases hc : Nat.blt c 1000000 with
    | true =>
      rw [hc] at e1
      obtain ⟨t, n, hs, e2⟩ := mx_ar_sup (show mx_ar h c (fun t n => if t = 0 ∧ mx_in i n = true then K (.inl (mx_tI (h.2 c i.toNatClampNeg)) :: st1) h else none) = some y from e1)
      obtain ⟨⟨rfl, hin⟩, e3⟩ := mx_if_sup e2
      refine ⟨_, _, e3, fun K' z q => ?_, fun k hf L r h2 G => mx_o_iald X hf.1 hs (mx_in_ok hin) G⟩
      show cond (Nat.blt c 1000000) (mx_ar h c fun t n => if t = 0 ∧ mx_in i n = true then K' (.inl (mx_tI (h.2 c i.toNatClampNeg)) :: st1) h else none) _ = some z
      rw [hc]
      simp [mx_ar, hs, hin, q]
    | false =>
      rw [hc] at e1
      obtain ⟨t, n, f, hs, e2⟩ := mx_xr_sup (show mx_xr xA c (fun t n f => if t = 0 ∧ mx_in i n = true then K (.inl (f i.toNatClampNeg) :: st1) h else none) = some y from e1)
      obtain ⟨⟨rfl, hin⟩, e3⟩ := mx_if_sup e2
      refine ⟨_, _, e3, fun K' z q => ?_, fun k hf L r h2 G => mx_o_xi X (hXA _ _ _ _ hs) (mx_in_ok hin) hf.1 G⟩
      show cond (Nat.blt c 1000000) _ (mx_xr xA c fun t n f => if t = 0 ∧ mx_in i n = true then K' (.inl (f i.toNatClampNeg) :: st1) h else none) = some z
      rw [hc]
      simp [mx_xr, hs, hin, q]
  | baload =>
    obtain ⟨i, st0, rfl, e0⟩ := mx_1i_sup (show mx_1i st (fun i st => mx_1r st fun c st => cond (Nat.blt c 1000000) (mx_ar h c fun t n => if (t = 1 ∨ t = 2) ∧ mx_in i n = true then K (.inl (mx_tI (h.2 c i.toNatClampNeg)) :: st) h else none) (mx_xr xA c fun t n f => if t = 1 ∧ mx_in i n = true then K (.inl (f i.toNatClampNeg) :: st) h else none)) = some y from e)
    obtain ⟨c, st1, rfl, e1⟩ := mx_1r_sup e0
    cases hc : Nat.blt c 1000000 with
    | true =>
      rw [hc] at e1
      obtain ⟨t, n, hs, e2⟩ := mx_ar_sup (show mx_ar h c (fun t n => if (t = 1 ∨ t = 2) ∧ mx_in i n = true then K (.inl (mx_tI (h.2 c i.toNatClampNeg)) :: st1) h else none) = some y from e1)
      obtain ⟨⟨ht, hin⟩, e3⟩ := mx_if_sup e2
      refine ⟨_, _, e3, fun K' z q => ?_, fun k hf L r h2 G => ?_⟩
      · show cond (Nat.blt c 1000000) (mx_ar h c fun t n => if (t = 1 ∨ t = 2) ∧ mx_in i n = true then K' (.inl (mx_tI (h.2 c i.toNatClampNeg)) :: st1) h else none) _ = some z
        rw [hc]
        simp [mx_ar, hs, hin, q, ht]
      · rcases ht with rfl | rfl
        · exact mx_o_bald X hf.1 hs (mx_in_ok hin) G
        · exact mx_o_zald X hf.1 hs (mx_in_ok hin) G
    | false =>
      rw [hc] at e1
      obtain ⟨t, n, f, hs, e2⟩ := mx_xr_sup (show mx_xr xA c (fun t n f => if t = 1 ∧ mx_in i n = true then K (.inl (f i.toNatClampNeg) :: st1) h else none) = some y from e1)
      obtain ⟨⟨rfl, hin⟩, e3⟩ := mx_if_sup e2
      refine ⟨_, _, e3, fun K' z q => ?_, fun k hf L r h2 G => mx_o_xb X (hXA _ _ _ _ hs) (mx_in_ok hin) hf.1 G⟩
      show cond (Nat.blt c 1000000) _ (mx_xr xA c fun t n f => if t = 1 ∧ mx_in i n = true then K' (.inl (f i.toNatClampNeg) :: st1) h else none) = some z
      rw [hc]
      simp [mx_xr, hs, hin, q]
  | caload =>
    obtain ⟨i, st0, rfl, e0⟩ := mx_1i_sup (show mx_1i st (fun i st => mx_1r st fun c st => mx_ar h c fun t n => if t = 3 ∧ mx_in i n = true then K (.inl (mx_tI (h.2 c i.toNatClampNeg)) :: st) h else none) = some y from e)
    obtain ⟨c, st1, rfl, e1⟩ := mx_1r_sup e0
    obtain ⟨t, n, hs, e2⟩ := mx_ar_sup e1
    obtain ⟨⟨rfl, hin⟩, e3⟩ := mx_if_sup e2
    refine ⟨_, _, e3, fun K' z q => ?_, fun k hf L r h2 G => mx_o_cald X hf.1 hs (mx_in_ok hin) G⟩
    show mx_ar h c (fun t n => if t = 3 ∧ mx_in i n = true then K' (.inl (mx_tI (h.2 c i.toNatClampNeg)) :: st1) h else none) = some z
    simp [mx_ar, hs, hin, q]
  | laload =>
    obtain ⟨i, st0, rfl, e0⟩ := mx_1i_sup (show mx_1i st (fun i st => mx_1r st fun c st => mx_ar h c fun t n => if t = 4 ∧ mx_in i n = true then K (.inr (.inl (mx_tL (h.2 c i.toNatClampNeg))) :: st) h else none) = some y from e)
    obtain ⟨c, st1, rfl, e1⟩ := mx_1r_sup e0
    obtain ⟨t, n, hs, e2⟩ := mx_ar_sup e1
    obtain ⟨⟨rfl, hin⟩, e3⟩ := mx_if_sup e2
    refine ⟨_, _, e3, fun K' z q => ?_, fun k hf L r h2 G => mx_o_lald X hf.1 hs (mx_in_ok hin) G⟩
    show mx_ar h c (fun t n => if t = 4 ∧ mx_in i n = true then K' (.inr (.inl (mx_tL (h.2 c i.toNatClampNeg))) :: st1) h else none) = some z
    simp [mx_ar, hs, hin, q]
  | aaload =>
    obtain ⟨i, st0, rfl, e0⟩ := mx_1i_sup (show mx_1i st (fun i st => mx_1r st fun c st => mx_ar h c fun t n => if (t = 5 ∨ t = 6) ∧ mx_in i n = true then K (.inr (.inr (mx_tR (h.2 c i.toNatClampNeg))) :: st) h else none) = some y from e)
    obtain ⟨c, st1, rfl, e1⟩ := mx_1r_sup e0
    obtain ⟨t, n, hs, e2⟩ := mx_ar_sup e1
    obtain ⟨⟨ht, hin⟩, e3⟩ := mx_if_sup e2
    refine ⟨_, _, e3, fun K' z q => ?_, fun k hf L r h2 G => mx_o_aald X ht hf.1 hs (mx_in_ok hin) G⟩
    show mx_ar h c (fun t n => if (t = 5 ∨ t = 6) ∧ mx_in i n = true then K' (.inr (.inr (mx_tR (h.2 c i.toNatClampNeg))) :: st1) h else none) = some z
    simp [mx_ar, hs, hin, q, ht]
  | iastore =>
    obtain ⟨x, sta, rfl, ea⟩ := mx_1i_sup (show mx_1i st (fun x st => mx_1i st fun i st => mx_1r st fun c st => mx_ar h c fun t n => if t = 0 ∧ mx_in i n = true then K st (h.1, mx_ur h.2 c (mx_u1 (h.2 c) i.toNatClampNeg (.inl x))) else none) = some y from e)
    obtain ⟨i, st0, rfl, e0⟩ := mx_1i_sup ea
    obtain ⟨c, st1, rfl, e1⟩ := mx_1r_sup e0
    obtain ⟨t, n, hs, e2⟩ := mx_ar_sup e1
    obtain ⟨⟨rfl, hin⟩, e3⟩ := mx_if_sup e2
    refine ⟨_, _, e3, fun K' z q => ?_, fun k hf L r h2 G => mx_o_iast X hf.1 hs (mx_in_ok hin) G⟩
    show mx_ar h c (fun t n => if t = 0 ∧ mx_in i n = true then K' st1 _ else none) = some z
    simp [mx_ar, hs, hin, q]
  | bastore =>
    obtain ⟨x, sta, rfl, ea⟩ := mx_1i_sup (show mx_1i st (fun x st => mx_1i st fun i st => mx_1r st fun c st => mx_ar h c fun t n => if t = 1 ∧ mx_in i n = true then K st (h.1, mx_ur h.2 c (mx_u1 (h.2 c) i.toNatClampNeg (.inl x.toInt8.toInt32))) else if t = 2 ∧ mx_in i n = true then K st (h.1, mx_ur h.2 c (mx_u1 (h.2 c) i.toNatClampNeg (.inl (x &&& 1)))) else none) = some y from e)
    obtain ⟨i, st0, rfl, e0⟩ := mx_1i_sup ea
    obtain ⟨c, st1, rfl, e1⟩ := mx_1r_sup e0
    obtain ⟨t, n, hs, e2⟩ := mx_ar_sup e1
    by_cases ht : t = 1 ∧ mx_in i n = true
    · rw [if_pos ht] at e2
      obtain ⟨rfl, hin⟩ := ht
      refine ⟨_, _, e2, fun K' z q => ?_, fun k hf L r h2 G => mx_o_bast X hf.1 hs (mx_in_ok hin) G⟩
      show mx_ar h c (fun t n => if t = 1 ∧ mx_in i n = true then K' st1 _ else if t = 2 ∧ mx_in i n = true then K' st1 _ else none) = some z
      simp [mx_ar, hs, hin, q]
    · rw [if_neg ht] at e2
      obtain ⟨⟨rfl, hin⟩, e3⟩ := mx_if_sup e2
      refine ⟨_, _, e3, fun K' z q => ?_, fun k hf L r h2 G => mx_o_zast X hf.1 hs (mx_in_ok hin) G⟩
      show mx_ar h c (fun t n => if t = 1 ∧ mx_in i n = true then K' st1 _ else if t = 2 ∧ mx_in i n = true then K' st1 _ else none) = some z
      simp [mx_ar, hs, hin, q]
  | castore =>
    obtain ⟨x, sta, rfl, ea⟩ := mx_1i_sup (show mx_1i st (fun x st => mx_1i st fun i st => mx_1r st fun c st => mx_ar h c fun t n => if t = 3 ∧ mx_in i n = true then K st (h.1, mx_ur h.2 c (mx_u1 (h.2 c) i.toNatClampNeg (.inl x.toUInt32.toUInt16.toUInt32.toInt32))) else none) = some y from e)
    obtain ⟨i, st0, rfl, e0⟩ := mx_1i_sup ea
    obtain ⟨c, st1, rfl, e1⟩ := mx_1r_sup e0
    obtain ⟨t, n, hs, e2⟩ := mx_ar_sup e1
    obtain ⟨⟨rfl, hin⟩, e3⟩ := mx_if_sup e2
    refine ⟨_, _, e3, fun K' z q => ?_, fun k hf L r h2 G => mx_o_cast X hf.1 hs (mx_in_ok hin) G⟩
    show mx_ar h c (fun t n => if t = 3 ∧ mx_in i n = true then K' st1 _ else none) = some z
    simp only [mx_ar, hs]
    rw [if_pos ⟨trivial, hin⟩]
    exact q
  | lastore =>
    obtain ⟨x, sta, rfl, ea⟩ := mx_1l_sup (show mx_1l st (fun x st => mx_1i st fun i st => mx_1r st fun c st => mx_ar h c fun t n => if t = 4 ∧ mx_in i n = true then K st (h.1, mx_ur h.2 c (mx_u1 (h.2 c) i.toNatClampNeg (.inr (.inl x)))) else none) = some y from e)
    obtain ⟨i, st0, rfl, e0⟩ := mx_1i_sup ea
    obtain ⟨c, st1, rfl, e1⟩ := mx_1r_sup e0
    obtain ⟨t, n, hs, e2⟩ := mx_ar_sup e1
    obtain ⟨⟨rfl, hin⟩, e3⟩ := mx_if_sup e2
    refine ⟨_, _, e3, fun K' z q => ?_, fun k hf L r h2 G => mx_o_last X hf.1 hs (mx_in_ok hin) G⟩
    show mx_ar h c (fun t n => if t = 4 ∧ mx_in i n = true then K' st1 _ else none) = some z
    simp [mx_ar, hs, hin, q]
  | aastore =>
    obtain ⟨x, sta, rfl, ea⟩ := mx_1r_sup (show mx_1r st (fun x st => mx_1i st fun i st => mx_1r st fun c st => mx_ar h c fun t n => mx_ob h x b (if t = a ∧ mx_in i n = true then K st (h.1, mx_ur h.2 c (mx_u1 (h.2 c) i.toNatClampNeg (.inr (.inr (some x))))) else none)) = some y from e)
    obtain ⟨i, st0, rfl, e0⟩ := mx_1i_sup ea
    obtain ⟨c, st1, rfl, e1⟩ := mx_1r_sup e0
    obtain ⟨t, n, hs, e2⟩ := mx_ar_sup e1
    obtain ⟨hs2, e3⟩ := mx_ob_sup e2
    obtain ⟨⟨rfl, hin⟩, e4⟩ := mx_if_sup e3
    refine ⟨_, _, e4, fun K' z q => ?_, fun k hf L r h2 G => ?_⟩
    · show mx_ar h c (fun t' n => mx_ob h x b (if t' = t ∧ mx_in i n = true then K' st1 _ else none)) = some z
      simp [mx_ar, mx_ob, hs, hs2, hin, q]
    · obtain ⟨hd, ht, rr, h1, h3⟩ := hf
      exact mx_o_aast X ⟨ht, h3⟩ h1 hd hs hs2 (mx_in_ok hin) G
  | arraylength =>
    obtain ⟨c, st1, rfl, e1⟩ := mx_1r_sup (show mx_1r st (fun c st => cond (Nat.blt c 1000000) (mx_ar h c fun t n => if t < 7 then K (.inl (Int32.ofNat n) :: st) h else none) (mx_xr xA c fun _ n _ => K (.inl (Int32.ofNat n) :: st) h)) = some y from e)
    cases hc : Nat.blt c 1000000 with
    | true =>
      rw [hc] at e1
      obtain ⟨t, n, hs, e2⟩ := mx_ar_sup (show mx_ar h c (fun t n => if t < 7 then K (.inl (Int32.ofNat n) :: st1) h else none) = some y from e1)
      obtain ⟨ht, e3⟩ := mx_if_sup e2
      refine ⟨_, _, e3, fun K' z q => ?_, fun k hf L r h2 G => mx_o_alen X ht hf.1 hs G⟩
      show cond (Nat.blt c 1000000) (mx_ar h c fun t n => if t < 7 then K' (.inl (Int32.ofNat n) :: st1) h else none) _ = some z
      rw [hc]
      simp [mx_ar, hs, ht, q]
    | false =>
      rw [hc] at e1
      obtain ⟨t, n, f, hs, e2⟩ := mx_xr_sup (show mx_xr xA c (fun _ n _ => K (.inl (Int32.ofNat n) :: st1) h) = some y from e1)
      refine ⟨_, _, e2, fun K' z q => ?_, fun k hf L r h2 G => mx_o_xlen X (hXA _ _ _ _ hs) hf.1 G⟩
      show cond (Nat.blt c 1000000) _ (mx_xr xA c fun _ n _ => K' (.inl (Int32.ofNat n) :: st1) h) = some z
      rw [hc]
      simp [mx_xr, hs, q]
  | new x =>
    obtain ⟨hm, e1⟩ := mx_if_sup (show (if h.1.length < 1000000 then K (.inr (.inr (some h.1.length)) :: st) (h.1 ++ [.inl a], mx_ur h.2 h.1.length (fun i => mx_df (ty a i))) else none) = some y from e)
    refine ⟨_, _, e1, fun K' z q => ?_, fun k hf L r h2 G => ?_⟩
    · show (if h.1.length < 1000000 then K' _ _ else none) = some z
      rw [if_pos hm]
      exact q
    · obtain ⟨hd, C, T, N, h1, h3, h4, h5, h6⟩ := hf
      exact mx_o_new X h1 (mx_hw_of h3) (mx_hw_of h4) (mx_hw_of h5) hd hm h6 G
  | newarray t =>
    obtain ⟨n, st1, rfl, e0⟩ := mx_1i_sup (show mx_1i st (fun n st => if h.1.length < 1000000 ∧ mx_in n 1000001 = true then K (.inr (.inr (some h.1.length)) :: st) (h.1 ++ [.inr (a, n.toNatClampNeg)], mx_ur h.2 h.1.length (fun _ => mx_df (mx_ty a))) else none) = some y from e)
    obtain ⟨⟨hm, hin⟩, e1⟩ := mx_if_sup e0
    refine ⟨_, _, e1, fun K' z q => ?_, fun k hf L r h2 G => ?_⟩
    · show (if h.1.length < 1000000 ∧ mx_in n 1000001 = true then K' _ _ else none) = some z
      rw [if_pos ⟨hm, hin⟩]
      exact q
    · obtain ⟨hd, h1, h3, h4⟩ := hf
      have hi := mx_in_ok hin
      exact mx_o_newa X h1 h3 (mx_hw_of h4) hd hm (fun q => hi (Or.inl q)) rfl (by have : ¬ 1000001 ≤ n.toNatClampNeg := fun q => hi (Or.inr q); omega) G
  | anewarray x =>
    obtain ⟨n, st1, rfl, e0⟩ := mx_1i_sup (show mx_1i st (fun n st => if h.1.length < 1000000 ∧ mx_in n 1000001 = true then K (.inr (.inr (some h.1.length)) :: st) (h.1 ++ [.inr (a, n.toNatClampNeg)], mx_ur h.2 h.1.length (fun _ => mx_df (mx_ty a))) else none) = some y from e)
    obtain ⟨⟨hm, hin⟩, e1⟩ := mx_if_sup e0
    refine ⟨_, _, e1, fun K' z q => ?_, fun k hf L r h2 G => ?_⟩
    · show (if h.1.length < 1000000 ∧ mx_in n 1000001 = true then K' _ _ else none) = some z
      rw [if_pos ⟨hm, hin⟩]
      exact q
    · obtain ⟨hd, C, h1, h3, h4⟩ := hf
      have hi := mx_in_ok hin
      exact mx_o_anew X h1 h4 (mx_hw_of h3) hd hm (fun q => hi (Or.inl q)) rfl (by have : ¬ 1000001 ≤ n.toNatClampNeg := fun q => hi (Or.inr q); omega) G
  | invokespecial x =>
    cases hb0 : Nat.beq b 0 with
    | false =>
      have e : cond (Nat.beq b 0) (mx_1r st fun _ st => if mx_ct st ≤ 8 then K st h else none) none = some y := e
      rw [hb0] at e
      cases e
    | true =>
    have e : cond (Nat.beq b 0) (mx_1r st fun _ st => if mx_ct st ≤ 8 then K st h else none) none = some y := e
    rw [hb0] at e
    obtain ⟨c, st1, rfl, e0⟩ := mx_1r_sup (show mx_1r st (fun _ st => if mx_ct st ≤ 8 then K st h else none) = some y from e)
    obtain ⟨hct, e1⟩ := mx_if_sup e0
    refine ⟨_, _, e1, fun K' z q => ?_, fun k hf L r h2 G => ?_⟩
    · show cond (Nat.beq b 0) (if mx_ct st1 ≤ 8 then K' st1 h else none) none = some z
      rw [hb0]
      show (if mx_ct st1 ≤ 8 then K' st1 h else none) = some z
      rw [if_pos hct]
      exact q
    · obtain ⟨hd, h1, h3, h4, h5, h6⟩ := hf
      exact mx_o_init X (mx_hw_of h1) (mx_hw_of h3) (mx_hw_of h4) hd hct h5 h6 G
  | invokestatic x =>
    cases hb0 : Nat.beq b 0 with
    | false =>
      have e : cond (Nat.beq b 0) (cond (Nat.beq a 1) (mx_1i st fun v st => mx_1i st fun u st => if mx_ct st ≤ 8 then K (.inl (if u < v then v else u) :: st) h else none) (cond (Nat.beq a 2) (mx_1i st fun v st => mx_1i st fun u st => if mx_ct st ≤ 8 then K (.inl (if v < u then v else u) :: st) h else none) (mx_1i st fun n st => mx_1i st fun dp st => mx_1r st fun o1 st => mx_1i st fun sp st => mx_1r st fun o0 st => mx_ar h o0 fun t0 n0 => mx_ar h o1 fun t1 n1 => if (t0 = t1 ∧ (t0 = 0 ∨ t0 = 4)) ∧ ¬ sp < 0 ∧ ¬ dp < 0 ∧ ¬ n < 0 ∧ sp.toNatClampNeg + n.toNatClampNeg ≤ n0 ∧ dp.toNatClampNeg + n.toNatClampNeg ≤ n1 ∧ mx_ct st ≤ 8 then K st (h.1, mx_ur h.2 o1 (va_cpy (h.2 o0) (h.2 o1) sp.toNatClampNeg dp.toNatClampNeg n.toNatClampNeg)) else none))) none = some y := e
      rw [hb0] at e
      cases e
    | true =>
    have e : cond (Nat.beq b 0) (cond (Nat.beq a 1) (mx_1i st fun v st => mx_1i st fun u st => if mx_ct st ≤ 8 then K (.inl (if u < v then v else u) :: st) h else none) (cond (Nat.beq a 2) (mx_1i st fun v st => mx_1i st fun u st => if mx_ct st ≤ 8 then K (.inl (if v < u then v else u) :: st) h else none) (mx_1i st fun n st => mx_1i st fun dp st => mx_1r st fun o1 st => mx_1i st fun sp st => mx_1r st fun o0 st => mx_ar h o0 fun t0 n0 => mx_ar h o1 fun t1 n1 => if (t0 = t1 ∧ (t0 = 0 ∨ t0 = 4)) ∧ ¬ sp < 0 ∧ ¬ dp < 0 ∧ ¬ n < 0 ∧ sp.toNatClampNeg + n.toNatClampNeg ≤ n0 ∧ dp.toNatClampNeg + n.toNatClampNeg ≤ n1 ∧ mx_ct st ≤ 8 then K st (h.1, mx_ur h.2 o1 (va_cpy (h.2 o0) (h.2 o1) sp.toNatClampNeg dp.toNatClampNeg n.toNatClampNeg)) else none))) none = some y := e
    rw [hb0] at e
    have e : (cond (Nat.beq a 1) (mx_1i st fun v st => mx_1i st fun u st => if mx_ct st ≤ 8 then K (.inl (if u < v then v else u) :: st) h else none) (cond (Nat.beq a 2) (mx_1i st fun v st => mx_1i st fun u st => if mx_ct st ≤ 8 then K (.inl (if v < u then v else u) :: st) h else none) (mx_1i st fun n st => mx_1i st fun dp st => mx_1r st fun o1 st => mx_1i st fun sp st => mx_1r st fun o0 st => mx_ar h o0 fun t0 n0 => mx_ar h o1 fun t1 n1 => if (t0 = t1 ∧ (t0 = 0 ∨ t0 = 4)) ∧ ¬ sp < 0 ∧ ¬ dp < 0 ∧ ¬ n < 0 ∧ sp.toNatClampNeg + n.toNatClampNeg ≤ n0 ∧ dp.toNatClampNeg + n.toNatClampNeg ≤ n1 ∧ mx_ct st ≤ 8 then K st (h.1, mx_ur h.2 o1 (va_cpy (h.2 o0) (h.2 o1) sp.toNatClampNeg dp.toNatClampNeg n.toNatClampNeg)) else none))) = some y := e
    cases hb1 : Nat.beq a 1 with
    | true =>
      rw [hb1] at e
      obtain ⟨v, s1, rfl, e1⟩ := mx_1i_sup (show mx_1i st (fun v st => mx_1i st fun u st => if mx_ct st ≤ 8 then K (.inl (if u < v then v else u) :: st) h else none) = some y from e)
      obtain ⟨u, s2, rfl, e2⟩ := mx_1i_sup e1
      obtain ⟨hct, e3⟩ := mx_if_sup e2
      refine ⟨_, _, e3, fun K' z q => ?_, fun k hf L r h2 G => ?_⟩
      · show cond (Nat.beq b 0) (cond (Nat.beq a 1) (if mx_ct s2 ≤ 8 then K' _ h else none) _) none = some z
        rw [hb0, hb1]
        show (if mx_ct s2 ≤ 8 then K' _ h else none) = some z
        rw [if_pos hct]
        exact q
      · obtain ⟨hd, hf1, -, -⟩ := hf
        obtain ⟨w1, w2, w3, w4, w5, w6⟩ := hf1 (Nat.eq_of_beq_eq_true hb1)
        exact mx_o_max X (mx_hw_of w1) (mx_hw_of w2) (mx_hw_of w3) (mx_hw_of w4) hd hct w5 w6 G
    | false =>
    rw [hb1] at e
    have e : cond (Nat.beq a 2) (mx_1i st fun v st => mx_1i st fun u st => if mx_ct st ≤ 8 then K (.inl (if v < u then v else u) :: st) h else none) (mx_1i st fun n st => mx_1i st fun dp st => mx_1r st fun o1 st => mx_1i st fun sp st => mx_1r st fun o0 st => mx_ar h o0 fun t0 n0 => mx_ar h o1 fun t1 n1 => if (t0 = t1 ∧ (t0 = 0 ∨ t0 = 4)) ∧ ¬ sp < 0 ∧ ¬ dp < 0 ∧ ¬ n < 0 ∧ sp.toNatClampNeg + n.toNatClampNeg ≤ n0 ∧ dp.toNatClampNeg + n.toNatClampNeg ≤ n1 ∧ mx_ct st ≤ 8 then K st (h.1, mx_ur h.2 o1 (va_cpy (h.2 o0) (h.2 o1) sp.toNatClampNeg dp.toNatClampNeg n.toNatClampNeg)) else none) = some y := e
    cases hb2 : Nat.beq a 2 with
    | true =>
      rw [hb2] at e
      obtain ⟨v, s1, rfl, e1⟩ := mx_1i_sup (show mx_1i st (fun v st => mx_1i st fun u st => if mx_ct st ≤ 8 then K (.inl (if v < u then v else u) :: st) h else none) = some y from e)
      obtain ⟨u, s2, rfl, e2⟩ := mx_1i_sup e1
      obtain ⟨hct, e3⟩ := mx_if_sup e2
      refine ⟨_, _, e3, fun K' z q => ?_, fun k hf L r h2 G => ?_⟩
      · show cond (Nat.beq b 0) (cond (Nat.beq a 1) _ (cond (Nat.beq a 2) (if mx_ct s2 ≤ 8 then K' _ h else none) _)) none = some z
        rw [hb0, hb1, hb2]
        show (if mx_ct s2 ≤ 8 then K' _ h else none) = some z
        rw [if_pos hct]
        exact q
      · obtain ⟨hd, -, hf1, -⟩ := hf
        obtain ⟨w1, w2, w3, w4, w5, w6⟩ := hf1 (Nat.eq_of_beq_eq_true hb2)
        exact mx_o_min X (mx_hw_of w1) (mx_hw_of w2) (mx_hw_of w3) (mx_hw_of w4) hd hct w5 w6 G
    | false =>
    rw [hb2] at e
    obtain ⟨n, s1, rfl, e1⟩ := mx_1i_sup (show mx_1i st (fun n st => mx_1i st fun dp st => mx_1r st fun o1 st => mx_1i st fun sp st => mx_1r st fun o0 st => mx_ar h o0 fun t0 n0 => mx_ar h o1 fun t1 n1 => if (t0 = t1 ∧ (t0 = 0 ∨ t0 = 4)) ∧ ¬ sp < 0 ∧ ¬ dp < 0 ∧ ¬ n < 0 ∧ sp.toNatClampNeg + n.toNatClampNeg ≤ n0 ∧ dp.toNatClampNeg + n.toNatClampNeg ≤ n1 ∧ mx_ct st ≤ 8 then K st (h.1, mx_ur h.2 o1 (va_cpy (h.2 o0) (h.2 o1) sp.toNatClampNeg dp.toNatClampNeg n.toNatClampNeg)) else none) = some y from e)
    obtain ⟨dp, s2, rfl, e2⟩ := mx_1i_sup e1
    obtain ⟨o1, s3, rfl, e3⟩ := mx_1r_sup e2
    obtain ⟨sp, s4, rfl, e4⟩ := mx_1i_sup e3
    obtain ⟨o0, s5, rfl, e5⟩ := mx_1r_sup e4
    obtain ⟨t0, n0, hs0, e6⟩ := mx_ar_sup e5
    obtain ⟨t1, n1, hs1, e7⟩ := mx_ar_sup e6
    obtain ⟨⟨⟨rfl, ht⟩, g1, g2, g3, g4, g5, g6⟩, e8⟩ := mx_if_sup e7
    refine ⟨_, _, e8, fun K' z q => ?_, fun k hf L r h2 G => ?_⟩
    · show cond (Nat.beq b 0) (cond (Nat.beq a 1) _ (cond (Nat.beq a 2) _ (mx_ar h o0 (fun t0 n0 => mx_ar h o1 fun t1 n1 => if (t0 = t1 ∧ (t0 = 0 ∨ t0 = 4)) ∧ ¬ sp < 0 ∧ ¬ dp < 0 ∧ ¬ n < 0 ∧ sp.toNatClampNeg + n.toNatClampNeg ≤ n0 ∧ dp.toNatClampNeg + n.toNatClampNeg ≤ n1 ∧ mx_ct s5 ≤ 8 then K' s5 _ else none)))) none = some z
      rw [hb0, hb1, hb2]
      show mx_ar h o0 (fun t0 n0 => mx_ar h o1 fun t1 n1 => if (t0 = t1 ∧ (t0 = 0 ∨ t0 = 4)) ∧ ¬ sp < 0 ∧ ¬ dp < 0 ∧ ¬ n < 0 ∧ sp.toNatClampNeg + n.toNatClampNeg ≤ n0 ∧ dp.toNatClampNeg + n.toNatClampNeg ≤ n1 ∧ mx_ct s5 ≤ 8 then K' s5 _ else none) = some z
      simp only [mx_ar, hs0, hs1]
      rw [if_pos ⟨⟨trivial, ht⟩, g1, g2, g3, g4, g5, g6⟩]
      exact q
    · obtain ⟨hd, -, -, hf2⟩ := hf
      obtain ⟨w1, w2, w3, w4, w5, w6⟩ := hf2 (fun q => by rw [q] at hb1; cases hb1) (fun q => by rw [q] at hb2; cases hb2)
      rcases ht with rfl | rfl
      · exact mx_o_cpi X (mx_hw_of w1) (mx_hw_of w2) (mx_hw_of w3) (mx_hw_of w4) hd hs0 hs1 g1 g2 g3 g4 g5 g6 w5 w6 G
      · exact mx_o_cpl X (mx_hw_of w1) (mx_hw_of w2) (mx_hw_of w3) (mx_hw_of w4) hd hs0 hs1 g1 g2 g3 g4 g5 g6 w5 w6 G
  | _ => cases e
end MxHS
