theorem mx_hw_in {Ts : List Jvm.Cond} {w : Jvm.Cond} (h : mx_hw Ts w = true) : w ∈ Ts := by
  unfold mx_hw at h
  exact @of_decide_eq_true _ (Classical.propDecidable _) h
theorem mx_hH_HP (nf : Nat → Nat) (ty : Nat → Nat → FieldType) (xF : Nat → Nat → Nat → Option mx_V) (xS : Nat → mx_V) (xA : mx_XA) : mx_HP (mx_hH nf ty xF xS xA) := by
  intro r st s K x e
  obtain ⟨i, pc, nx, a, b, v, sw⟩ := r
  have X : mx_X (fun k => k) 0 (fun _ => False) [] (mx_hw []) (fun _ => 0, fun _ _ => 0) [] (fun _ => 0) nf ((List.range 7).map (fun t => (0, mx_ty t))) ty mx_ty :=
    ⟨fun ci C T N h => by simp at h, fun k _ => (Nat.zero_add k).symm, fun w h => mx_hw_in h, fun U h => h.elim, fun t ht => by rw [List.getElem?_map, List.getElem?_range ht]; rfl⟩
  obtain ⟨st', h', h1, h2, -⟩ := mx_hH_sup (l := launch0) (xl := fun _ => 0) (yN := fun _ => ⟨"", "", ""⟩) (cN := fun _ => ⟨#[]⟩) (rN := fun _ => none) (fN := fun _ => 0) (lN := fun _ => 0) X (fun _ _ _ _ _ _ h => h.elim) e
  exact ⟨st', h', h1, h2⟩
/-- whether a row is one of the heap's -/
def mx_hq (i : Instr) (b : Nat) : Bool := match i with
  | .getfield _ => true
  | .putfield _ => true
  | .getstatic _ => true
  | .iaload => true
  | .iastore => true
  | .baload => true
  | .bastore => true
  | .caload => true
  | .castore => true
  | .laload => true
  | .lastore => true
  | .aaload => true
  | .aastore => true
  | .arraylength => true
  | .new _ => true
  | .newarray _ => true
  | .anewarray _ => true
  | .invokespecial _ => Nat.beq b 0
  | .invokestatic _ => Nat.beq b 0
  | _ => false
section MxHS2
variable {l : Launch} {cd : Nat → mx_T} {xl : Nat → Nat} {ad : Nat → Nat} {bs : Nat} {mE : State → Prop}
variable {yN : Nat → MethodName} {cN : Nat → ByteArray} {rN : Nat → Option FieldType} {fN lN : Nat → Nat} {Ts : List Jvm.Cond}
variable {D : va_G} {cl : List vw_C} {cid : Nat → ClassId} {nf : Nat → Nat} {tys : List (ClassId × FieldType)} {ty : Nat → Nat → FieldType}
variable {xF : Nat → Nat → Nat → Option mx_V} {xS : Nat → mx_V} {xA : mx_XA}
theorem mx_hH_HS (X : mx_X ad bs mE Ts (mx_hw Ts) D cl cid nf tys ty mx_ty) (hXA : ∀ c t n f, xA c = some (t, n, f) → ∀ U, mE U → va_T (mx_ty t) (ad c) n (fun j => .int (f j)) (fun q => bs ≤ q) U U.heap)
    (hrow : ∀ (k j : Nat) (i : Instr) (pc nx a b : Nat) (v : Int32) (sw : List (Int32 × Nat)), mx_get (cd k) j = (i, pc, nx, a, b, v, sw) → mx_hq i b = true → mx_hf xl ad bs mE yN cN fN lN Ts cl ty xF xS k i pc a b ∧ mx_pc cd k nx = pc + mx_ln i) :
    mx_HS l cd xl (mx_hH nf ty xF xS xA) ad (mx_RH D cl ad bs cid nf) mx_gc (mx_gs nf) bs mE (fun q => bs ≤ q) yN cN rN fN lN Ts := by
  intro k j L st s K x e
  have hpc : mx_pc cd k j = (mx_get (cd k) j).2.1 := rfl
  rw [hpc]
  have hr := hrow k j
  generalize mx_get (cd k) j = row at e hr ⊢
  obtain ⟨i, pc, nx, a, b, v, sw⟩ := row
  have hq : mx_hq i b = true := by
    cases i with
    | invokespecial xx =>
      cases hb : Nat.beq b 0 with
      | true => exact hb
      | false =>
        have e : cond (Nat.beq b 0) (_ : Option (Option mx_V × mx_Hp)) none = some x := e
        rw [hb] at e
        cases e
    | invokestatic xx =>
      cases hb : Nat.beq b 0 with
      | true => exact hb
      | false =>
        have e : cond (Nat.beq b 0) (_ : Option (Option mx_V × mx_Hp)) none = some x := e
        rw [hb] at e
        cases e
    | _ => first | rfl | cases e
  obtain ⟨hf, hnx⟩ := hr i pc nx a b v sw rfl hq
  obtain ⟨st', h', h1, -, h3⟩ := mx_hH_sup (l := l) (rN := rN) X hXA e
  refine ⟨st', h', h1, fun r s2 G => h3 k hf L r s2 ?_⟩
  have G2 : mx_GH l xl ad bs mE yN cN rN fN lN Ts D cl cid nf k (mx_pc cd k nx) L st' h' r s2 := G
  rw [hnx] at G2
  exact G2
end MxHS2
