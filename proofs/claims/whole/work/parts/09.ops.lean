/-! ===== the rows of the heap over the JVM ===== -/
section MxOps
variable {l : Launch} {xl : Nat → Nat} {ad : Nat → Nat} {bs : Nat} {mE : State → Prop}
variable {yN : Nat → MethodName} {cN : Nat → ByteArray} {rN : Nat → Option FieldType} {fN lN : Nat → Nat} {Ts : List Jvm.Cond} {hw : Jvm.Cond → Bool}
variable {D : va_G} {cl : List vw_C} {cid : Nat → ClassId} {nf : Nat → Nat} {tys : List (ClassId × FieldType)} {ty : Nat → Nat → FieldType} {tyF : Nat → FieldType}
abbrev mx_GH (l : Launch) (xl : Nat → Nat) (ad : Nat → Nat) (bs : Nat) (mE : State → Prop) (yN : Nat → MethodName) (cN : Nat → ByteArray) (rN : Nat → Option FieldType) (fN lN : Nat → Nat) (Ts : List Jvm.Cond) (D : va_G) (cl : List vw_C) (cid : Nat → ClassId) (nf : Nat → Nat) :=
  mx_G l xl ad (mx_RH D cl ad bs cid nf) mx_gc (mx_gs nf) bs mE (fun q => bs ≤ q) yN cN rN fN lN Ts
/-- what stands fast -/
def mx_X (ad : Nat → Nat) (bs : Nat) (mE : State → Prop) (Ts : List Jvm.Cond) (hw : Jvm.Cond → Bool) (D : va_G) (cl : List vw_C) (cid : Nat → ClassId) (nf : Nat → Nat) (tys : List (ClassId × FieldType)) (ty : Nat → Nat → FieldType) (tyF : Nat → FieldType) : Prop :=
  (∀ ci C T N, cl[ci]? = some (C, T, N) → (∀ w ∈ u_ws C T N, w ∈ Ts) ∧ (∀ k, k < N → parseFieldDescriptor (T k).2.2.1 = some (ty ci k)) ∧ (∀ a, a < N → ∀ b, b < N → a ≠ b → (T a).2.1 ≠ (T b).2.1) ∧ nf ci = N) ∧
  (∀ k, k < 1000000 → ad k = bs + k) ∧ (∀ w, hw w = true → w ∈ Ts) ∧ (∀ U, mE U → va_K D cl tys U) ∧ (∀ t, t < 7 → tys[t]? = some (cid t, tyF t))
theorem mx_o_st (X : mx_X ad bs mE Ts hw D cl cid nf tys ty tyF) {k pc pc' : Nat} {L : mx_L} {st st' : List mx_V} {h h2 : mx_Hp} {hp : Nat → Nat → mx_V} {r : Option mx_V}
    (G : mx_GH l xl ad bs mE yN cN rN fN lN Ts D cl cid nf k pc' L st' (h.1, hp) r h2)
    (step : ∀ (p : Program) (en : Env) (R : Room) (s0 : State) (m : MethodId) (args : Array Value) (below : List Frame) (meth : Method) (c : Code), mx_C xl mE yN cN rN fN lN Ts k p R s0 m args meth c → va_K D cl tys s0 →
      ∀ (H : Heap) (locs : List Loc) (ls : Array Slot) (cells slots : Nat) (Q : State → Prop), va_P D cl (mx_wl ad cid nf h) H → va_D (fun q => bs ≤ q) (mx_wl ad cid nf h) → va_S (fun q => bs ≤ q) s0.heap H locs → ls.size = xl k → cells ≤ R.cells → slots ≤ R.slots →
      (∀ (H1 : Heap) (locs1 : List Loc), va_P D cl (mx_wl ad cid nf (h.1, hp)) H1 → va_S (fun q => bs ≤ q) s0.heap H1 locs1 → W p l en R s0 m args below meth c H1 locs1 cells slots Q (F0 m pc' ls (st'.map (mx_rv ad)))) →
      W p l en R s0 m args below meth c H locs cells slots Q (F0 m pc ls (st.map (mx_rv ad)))) :
    mx_GH l xl ad bs mE yN cN rN fN lN Ts D cl cid nf k pc L st h r h2 := by
  refine ⟨G.1, G.2.1, ?_⟩
  intro p en R s0 m args below meth c C H locs ls c0 d0 g1 g2 g3 g4 g5 hR hS hl
  refine step p en R s0 m args below meth c C (X.2.2.2.1 _ C.2.2.2.2.2.2.2.2.2.2) H locs ls _ _ _ hR.1 (mx_wl_D X.2.1 hR.2.2) hS hl.1 (by have := G.1; have : mx_gc (h.1, hp) = mx_gc h := rfl; omega) (by have := G.2.1; have : mx_gs nf (h.1, hp) = mx_gs nf h := rfl; omega) (fun H1 locs1 hP1 hS1 => ?_)
  refine mx_Wsize fun hz => ?_
  have hlow := mx_RH_low (bs := bs) (h := (h.1, hp)) X.2.1 hP1 hR.2.2 (by have := hS1.1; omega)
  have g1' : c0 ≤ h.1.length := g1
  have hz' : H1.size ≤ s0.heap.size + (h.1.length - c0) := hz
  have hlow' : bs + h.1.length ≤ H1.size := hlow
  exact G.2.2 p en R s0 m args below meth c C H1 locs1 ls c0 d0 g1 g2 g3 g4 g5 ⟨hP1, by show H1.size = bs + h.1.length; omega, hR.2.2⟩ hS1 hl
theorem mx_o_al (X : mx_X ad bs mE Ts hw D cl cid nf tys ty tyF) {k pc pc' : Nat} {L : mx_L} {st st' : List mx_V} {h h2 : mx_Hp} {sh : mx_Sh} {g : Nat → mx_V} {r : Option mx_V}
    (hmost : h.1.length < 1000000) (G : mx_GH l xl ad bs mE yN cN rN fN lN Ts D cl cid nf k pc' L (.inr (.inr (some h.1.length)) :: st') (h.1 ++ [sh], mx_ur h.2 h.1.length g) r h2)
    (step : ∀ (p : Program) (en : Env) (R : Room) (s0 : State) (m : MethodId) (args : Array Value) (below : List Frame) (meth : Method) (c : Code), mx_C xl mE yN cN rN fN lN Ts k p R s0 m args meth c → va_K D cl tys s0 →
      ∀ (H : Heap) (locs : List Loc) (ls : Array Slot) (cells slots : Nat) (Q : State → Prop), va_P D cl (mx_wl ad cid nf h) H → va_D (fun q => bs ≤ q) (mx_wl ad cid nf h) → va_S (fun q => bs ≤ q) s0.heap H locs → ls.size = xl k → cells + 1 ≤ R.cells → slots + mx_sz nf sh ≤ R.slots → (∀ q, s0.heap.size ≤ q → bs ≤ q) →
      (∀ (q : Nat) (H1 : Heap) (locs1 : List Loc), va_P D cl (mx_wl ad cid nf h ++ [(q, mx_ce ad cid nf sh g)]) H1 → va_D (fun q => bs ≤ q) (mx_wl ad cid nf h ++ [(q, mx_ce ad cid nf sh g)]) → va_S (fun q => bs ≤ q) s0.heap H1 locs1 → W p l en R s0 m args below meth c H1 locs1 (cells + 1) (slots + mx_sz nf sh) Q (F0 m pc' ls (.ref q :: st'.map (mx_rv ad)))) →
      W p l en R s0 m args below meth c H locs cells slots Q (F0 m pc ls (st.map (mx_rv ad)))) :
    mx_GH l xl ad bs mE yN cN rN fN lN Ts D cl cid nf k pc L st h r h2 := by
  have e1 : mx_gc (h.1 ++ [sh], mx_ur h.2 h.1.length g) = mx_gc h + 1 := by simp [mx_gc]
  have e2 : mx_gs nf (h.1 ++ [sh], mx_ur h.2 h.1.length g) = mx_gs nf h + mx_sz nf sh := by simp [mx_gs]
  have G1 := G.1
  have G2 := G.2.1
  rw [e1] at G1
  rw [e2] at G2
  refine ⟨by omega, by omega, ?_⟩
  intro p en R s0 m args below meth c C H locs ls c0 d0 g1 g2 g3 g4 g5 hR hS hl
  refine step p en R s0 m args below meth c C (X.2.2.2.1 _ C.2.2.2.2.2.2.2.2.2.2) H locs ls _ _ _ hR.1 (mx_wl_D X.2.1 hR.2.2) hS hl.1 (by omega) (by omega) (fun q hq => by omega) (fun q H1 locs1 hP1 hD1 hS1 => ?_)
  refine mx_Wsize fun hz => ?_
  have hlen : (mx_wl ad cid nf h).length = h.1.length := mx_wl_len h
  have hq0 : (mx_wl ad cid nf h ++ [(q, mx_ce ad cid nf sh g)])[h.1.length]? = some (q, mx_ce ad cid nf sh g) := by
    rw [List.getElem?_append_right (by rw [hlen]; exact Nat.le_refl _), hlen, Nat.sub_self]
    rfl
  have hqb : bs ≤ q := hD1.2 _ _ hq0
  have hqs : q < H1.size := (hP1 _ _ hq0).lt
  have g1' : c0 ≤ h.1.length := g1
  have hz' : H1.size ≤ s0.heap.size + (h.1.length - c0 + 1) := hz
  have hq : q = ad h.1.length := by
    rw [X.2.1 _ hmost]
    by_cases hh : q < bs + h.1.length
    · exfalso
      have hk : q - bs < h.1.length := by omega
      have hs : h.1[q - bs]? = some (h.1[q - bs]'hk) := List.getElem?_eq_getElem hk
      have hw1 := mx_wl_get (ad := ad) (cid := cid) (nf := nf) hs
      have hw2 : (mx_wl ad cid nf h ++ [(q, mx_ce ad cid nf sh g)])[q - bs]? = some (ad (q - bs), mx_ce ad cid nf (h.1[q - bs]'hk) (h.2 (q - bs))) := by
        rw [List.getElem?_append_left (by rw [hlen]; exact hk)]
        exact hw1
      have := hD1.1 _ _ _ _ hw2 hq0 (by dsimp only; rw [X.2.1 _ (by omega)]; omega)
      omega
    · omega
  subst hq
  rw [← mx_wl_push] at hP1
  have hqs' : ad h.1.length < H1.size := hqs
  rw [X.2.1 _ hmost] at hqs'
  have key := G.2.2 p en R s0 m args below meth c C H1 locs1 ls c0 d0 (by rw [e1]; omega) (by rw [e2]; omega) g3 g4 g5 ⟨hP1, by show H1.size = bs + (h.1 ++ [sh]).length; rw [List.length_append, List.length_singleton]; omega, by show (h.1 ++ [sh]).length ≤ _; rw [List.length_append, List.length_singleton]; omega⟩ hS1 hl
  rw [e1, e2] at key
  exact W.cs (cells' := mx_gc h + 1 - c0) (slots' := mx_gs nf h + mx_sz nf sh - d0) (by omega) (by omega) key
end MxOps
