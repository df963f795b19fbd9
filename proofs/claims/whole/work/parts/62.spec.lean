/-! ===== what both must come to, in plain words ===== -/
abbrev zF : Type := Nat → Int32
/-- the line that an order tells -/
def zs_line (k b c : Int32) : Int32 := if k = 1 ∨ k = 2 then (if b = 4 then c / 2 else -1) else -2
/-- an order as it may be told -/
def zs_good (k a b c : Int32) : Prop := (∃ r, r < 4 ∧ a = nI r) ∧ ((k = 0 ∧ (∃ r, r < 4 ∧ b = nI r)) ∨ ((k = 1 ∨ k = 2) ∧ ((∃ r, r < 4 ∧ b = nI r) ∨ (b = nI 4 ∧ ∃ r, r < 32 ∧ c = nI r))) ∨ ((k = 3 ∨ k = 4) ∧ ∃ r, r ≤ 28 ∧ b = nI r) ∨ ((k = 5 ∨ k = 6) ∧ (∃ r, r < 4 ∧ b = nI r) ∧ ∃ r, r < 4 ∧ c = nI r) ∨ (k = 7 ∧ b = nI 0))
/-- where an order leads: f is the reference's row -/
def zs_lead (f : zF) (n k t : Nat) : Bool :=
  if f (12 + 4 * k) = 3 then decide (t = min (f (14 + 4 * k)).toNatClampNeg n ∨ t = k + 1)
  else if f (12 + 4 * k) = 4 then decide (t = min (f (14 + 4 * k)).toNatClampNeg n)
  else if f (12 + 4 * k) = 7 then (if t < n then decide ((f (124 + k) >>> (nI t &&& 31)) &&& 1 = 1) else decide (¬ f (124 + k) >>> (nI n &&& 31) = 0))
  else decide (t = k + 1)
/-- the first t places that an order leads to -/
def zs_tu (f : zF) (n k : Nat) : Nat → List Nat
  | 0 => []
  | t + 1 => zs_tu f n k t ++ (if zs_lead f n k t = true then [t] else [])
def zs_ts (f : zF) (n k : Nat) : List Nat := zs_tu f n k (n + 1)
/-- the edges of the first k orders -/
def zs_es (f : zF) (n : Nat) : Nat → List (Nat × Nat)
  | 0 => []
  | k + 1 => zs_es f n k ++ (zs_ts f n k).map fun t => (k, t)
def zs_E (f : zF) (n e : Nat) : Nat × Nat := (zs_es f n n).getD e (0, 0)
def zs_B (f : zF) (n k : Nat) : Nat := (zs_es f n k).length
section ZsEdges
variable {f : zF} {n : Nat}
theorem zs_tu_len (k : Nat) : ∀ t, (zs_tu f n k t).length ≤ t
  | 0 => Nat.le_refl 0
  | t + 1 => by
    have := zs_tu_len k t
    show (zs_tu f n k t ++ _).length ≤ t + 1
    rw [List.length_append]
    split
    · simp; omega
    · simp; omega
theorem zs_tu_mem {k t x : Nat} : x ∈ zs_tu f n k t ↔ x < t ∧ zs_lead f n k x = true := by
  induction t with
  | zero => simp [zs_tu]
  | succ t ih =>
    simp only [zs_tu, List.mem_append, ih]
    by_cases h : zs_lead f n k t = true
    · simp only [h, if_true, List.mem_singleton]
      constructor
      · rintro (⟨h1, h2⟩ | rfl)
        · exact ⟨by omega, h2⟩
        · exact ⟨by omega, h⟩
      · rintro ⟨h1, h2⟩
        by_cases hx : x = t
        · exact Or.inr hx
        · exact Or.inl ⟨by omega, h2⟩
    · simp only [h]
      constructor
      · rintro (⟨h1, h2⟩ | h2)
        · exact ⟨by omega, h2⟩
        · simp at h2
      · rintro ⟨h1, h2⟩
        by_cases hx : x = t
        · subst hx; exact absurd h2 h
        · exact Or.inl ⟨by omega, h2⟩
theorem zs_ts_mem {k x : Nat} : x ∈ zs_ts f n k ↔ x ≤ n ∧ zs_lead f n k x = true := by
  rw [show zs_ts f n k = zs_tu f n k (n + 1) from rfl, zs_tu_mem]
  constructor
  · rintro ⟨h1, h2⟩; exact ⟨by omega, h2⟩
  · rintro ⟨h1, h2⟩; exact ⟨by omega, h2⟩
theorem zs_B0 : zs_B f n 0 = 0 := rfl
theorem zs_B1 (k : Nat) : zs_B f n (k + 1) = zs_B f n k + (zs_ts f n k).length := by
  show (zs_es f n k ++ _).length = _
  rw [List.length_append, List.length_map]
  rfl
theorem zs_Bm {k m : Nat} (h : k ≤ m) : zs_B f n k ≤ zs_B f n m := by
  induction h with
  | refl => exact Nat.le_refl _
  | step _ ih => exact Nat.le_trans ih (by rw [Nat.succ_eq_add_one, zs_B1]; omega)
theorem zs_Bc (k : Nat) : zs_B f n k ≤ k * (n + 1) := by
  induction k with
  | zero => exact Nat.le_of_eq (by rw [zs_B0, Nat.zero_mul])
  | succ k ih =>
    rw [zs_B1, Nat.succ_mul]
    have := zs_tu_len (f := f) (n := n) k (n + 1)
    show _ + (zs_tu f n k (n + 1)).length ≤ _
    omega
theorem zs_B812 (hn : n ≤ 28) {k : Nat} (hk : k ≤ n) : zs_B f n k ≤ 812 :=
  Nat.le_trans (zs_Bm hk) (Nat.le_trans (zs_Bc n) (Nat.le_trans (Nat.mul_le_mul hn (show n + 1 ≤ 29 by omega)) (by decide)))
theorem zs_pre {k m : Nat} (h : k ≤ m) : ∃ l, zs_es f n m = zs_es f n k ++ l := by
  induction h with
  | refl => exact ⟨[], (List.append_nil _).symm⟩
  | step _ ih =>
    obtain ⟨l, e⟩ := ih
    exact ⟨_, (congrArg (· ++ _) e).trans (List.append_assoc _ _ _)⟩
/-- an edge by its order -/
theorem zs_Eat {k j : Nat} (hk : k < n) (hj : j < (zs_ts f n k).length) : zs_E f n (zs_B f n k + j) = (k, (zs_ts f n k).getD j 0) := by
  obtain ⟨l, e⟩ := zs_pre (f := f) (n := n) (show k + 1 ≤ n from hk)
  unfold zs_E
  rw [e]
  show (((zs_es f n k ++ (zs_ts f n k).map fun t => (k, t)) ++ l).getD _ _) = _
  rw [List.getD_eq_getElem?_getD, List.append_assoc, List.getElem?_append_right (by unfold zs_B; omega)]
  rw [show zs_B f n k + j - (zs_es f n k).length = j by unfold zs_B; omega, List.getElem?_append_left (by rw [List.length_map]; exact hj), List.getElem?_map, List.getD_eq_getElem?_getD, List.getElem?_eq_getElem hj]
  rfl
theorem zs_Ein {k e : Nat} (hk : k < n) (h1 : zs_B f n k ≤ e) (h2 : e < zs_B f n (k + 1)) : (zs_E f n e).1 = k ∧ (zs_E f n e).2 ≤ n ∧ zs_lead f n k (zs_E f n e).2 = true := by
  rw [zs_B1] at h2
  have hj : e - zs_B f n k < (zs_ts f n k).length := by omega
  have h := zs_Eat hk hj
  rw [show zs_B f n k + (e - zs_B f n k) = e by omega] at h
  rw [h]
  have hm : (zs_ts f n k).getD (e - zs_B f n k) 0 ∈ zs_ts f n k := by
    rw [List.getD_eq_getElem?_getD, List.getElem?_eq_getElem hj]
    exact List.getElem_mem hj
  have := zs_ts_mem.mp hm
  exact ⟨rfl, this.1, this.2⟩
theorem zs_Eof {e m : Nat} (h : e < zs_B f n m) : ∃ k, k < m ∧ zs_B f n k ≤ e ∧ e < zs_B f n (k + 1) := by
  induction m with
  | zero => rw [zs_B0] at h; exact absurd h (Nat.not_lt_zero _)
  | succ m ih =>
    by_cases h2 : e < zs_B f n m
    · obtain ⟨k, q1, q2, q3⟩ := ih h2
      exact ⟨k, by omega, q2, q3⟩
    · exact ⟨m, by omega, by omega, h⟩
theorem zs_Elt {e : Nat} (h : e < zs_B f n n) : (zs_E f n e).1 < n ∧ (zs_E f n e).2 ≤ n := by
  obtain ⟨k, q1, q2, q3⟩ := zs_Eof h
  have := zs_Ein q1 q2 q3
  exact ⟨by omega, this.2.1⟩
/-- an edge by where it leads -/
theorem zs_Eto {k t : Nat} (hk : k < n) (ht : t ≤ n) (h : zs_lead f n k t = true) : ∃ e, zs_B f n k ≤ e ∧ e < zs_B f n (k + 1) ∧ (zs_E f n e).2 = t := by
  have hm : t ∈ zs_ts f n k := zs_ts_mem.mpr ⟨ht, h⟩
  obtain ⟨j, hj, e⟩ := List.getElem_of_mem hm
  refine ⟨zs_B f n k + j, by omega, by rw [zs_B1]; omega, ?_⟩
  rw [zs_Eat hk hj]
  show (zs_ts f n k).getD j 0 = t
  rw [List.getD_eq_getElem?_getD, List.getElem?_eq_getElem hj]
  exact e
theorem zs_tu_nd (k : Nat) : ∀ t, (zs_tu f n k t).Nodup
  | 0 => List.nodup_nil
  | t + 1 => by
    show (zs_tu f n k t ++ _).Nodup
    split
    · refine List.nodup_append.mpr ⟨zs_tu_nd k t, by simp, fun a ha b hb => ?_⟩
      have := (zs_tu_mem.mp ha).1
      simp at hb
      omega
    · rw [List.append_nil]
      exact zs_tu_nd k t
/-- where edges of one order lead, no two lead alike -/
theorem zs_Einj {k e e' : Nat} (hk : k < n) (h1 : zs_B f n k ≤ e) (h2 : e < zs_B f n (k + 1)) (h3 : zs_B f n k ≤ e') (h4 : e' < zs_B f n (k + 1)) (h : (zs_E f n e).2 = (zs_E f n e').2) : e = e' := by
  rw [zs_B1] at h2 h4
  have hj : e - zs_B f n k < (zs_ts f n k).length := by omega
  have hj' : e' - zs_B f n k < (zs_ts f n k).length := by omega
  have q := zs_Eat hk hj
  have q' := zs_Eat hk hj'
  rw [show zs_B f n k + (e - zs_B f n k) = e by omega] at q
  rw [show zs_B f n k + (e' - zs_B f n k) = e' by omega] at q'
  rw [q, q'] at h
  have h : (zs_ts f n k).getD (e - zs_B f n k) 0 = (zs_ts f n k).getD (e' - zs_B f n k) 0 := h
  rw [List.getD_eq_getElem?_getD, List.getElem?_eq_getElem hj, List.getD_eq_getElem?_getD, List.getElem?_eq_getElem hj'] at h
  have := (List.getElem_inj (zs_tu_nd (f := f) (n := n) k (n + 1))).mp (show (zs_ts f n k)[e - zs_B f n k] = (zs_ts f n k)[e' - zs_B f n k] from h)
  omega
end ZsEdges
/-- a machine's row -/
def zs_mach (f : zF) : Prop := ((f 0 = nI 1 ∨ f 0 = nI 2 ∨ f 0 = nI 4) ∧ (f 1 = nI 1 ∨ f 1 = nI 2 ∨ f 1 = nI 4)) ∧ (f 2 = nI 0 ∨ f 2 = nI 1 ∨ f 2 = nI 2) ∧ (∃ r, r ≤ 99 ∧ f 3 = nI r) ∧ (∃ r, r ≤ 9 ∧ f 4 = nI r) ∧ (f 5 = nI 0 ∨ f 5 = nI 1 ∨ f 5 = nI 2) ∧ (∃ r, r ≤ 9 ∧ f 6 = nI r) ∧ (∃ r, r ≤ 9 ∧ f 7 = nI r)
/-- a row that is well told -/
def zW (f : zF) (n : Nat) : Prop := f 8 = nI n ∧ n ≤ 28 ∧ zs_mach f ∧ ∀ k, k < n → zs_good (f (12 + 4 * k)) (f (13 + 4 * k)) (f (14 + 4 * k)) (f (15 + 4 * k)) ∧ ∃ p, p < 2 ^ 29 ∧ f (124 + k) = nI p
/-- the reference's row m is f, where edges and costs hang on it -/
def zV (m : Nat) (b : zd_D) (f : zF) : Prop := ∀ i, i < 152 → ¬ i = 9 → ¬ i = 10 → b.1 m i = f i
/-! what must and what may be there -/
def zs_ln (f : zF) (k : Nat) : Int32 := zs_line (f (12 + 4 * k)) (f (14 + 4 * k)) (f (15 + 4 * k))
def zs_lk (lk x : Int32) : Bool := decide ((lk >>> (x &&& 31)) &&& 1 = 1)
def zs_rem (f : zF) : Nat := if f 2 = 0 then (f 1).toNatClampNeg else if f 2 = 1 then 1 else if f 1 = 4 then 3 else (f 1).toNatClampNeg
def zs_set (f : zF) : Nat := (f 0).toNatClampNeg
/-- ages behind an order; ages lie flat, sixteen to an order -/
def zs_af (f : zF) (lk : Int32) (X : Nat → Nat) (k l : Nat) : Nat :=
  if zs_ln f k = -2 then X (16 * k + l)
  else if zs_ln f k = -1 then (if X (16 * k + l) < zs_rem f then X (16 * k + l) + 1 else X (16 * k + l))
  else if zs_lk lk (zs_ln f k) = true ∨ ¬ (zs_ln f k).toNatClampNeg % zs_set f = l % zs_set f then X (16 * k + l)
  else if (zs_ln f k).toNatClampNeg = l then 0
  else if X (16 * k + l) < X (16 * k + (zs_ln f k).toNatClampNeg) then X (16 * k + l) + 1 else X (16 * k + l)
def zs_mc (f : zF) (n : Nat) (lk : Int32) (X : Nat → Nat) : Prop := (∀ l, l < 16 → zs_rem f ≤ X l) ∧ ∀ e, e < zs_B f n n → (zs_E f n e).2 < n → ∀ l, l < 16 → zs_af f lk X (zs_E f n e).1 l ≤ X (16 * (zs_E f n e).2 + l)
def zs_must (f : zF) (n : Nat) (lk : Int32) (X : Nat → Nat) : Prop := zs_mc f n lk X ∧ (∀ i, i < 16 * n → X i ≤ zs_rem f) ∧ ∀ Y, zs_mc f n lk Y → ∀ i, i < 16 * n → X i ≤ Y i
noncomputable def zs_X (f : zF) (n : Nat) (lk : Int32) : Nat → Nat := Classical.epsilon (zs_must f n lk)
theorem zs_X_eq {f : zF} {n : Nat} {lk : Int32} {X : Nat → Nat} (h : zs_must f n lk X) : zs_must f n lk (zs_X f n lk) ∧ ∀ i, i < 16 * n → X i = zs_X f n lk i := by
  have h2 : zs_must f n lk (zs_X f n lk) := Classical.epsilon_spec ⟨X, h⟩
  exact ⟨h2, fun i hi => Nat.le_antisymm (h.2.2 _ h2.1 i hi) (h2.2.2 _ h.1 i hi)⟩
/-- lines that may be there behind an order -/
def zs_vf (f : zF) (lk : Int32) (V : Nat → Nat) (k : Nat) : Nat :=
  if zs_ln f k = -2 then V k else if zs_ln f k = -1 then V k ||| 65535 else if zs_lk lk (zs_ln f k) = true then V k else V k ||| 2 ^ (zs_ln f k).toNatClampNeg
def zs_vc (f : zF) (n : Nat) (lk : Int32) (V : Nat → Nat) : Prop := ∀ e, e < zs_B f n n → (zs_E f n e).2 < n → V (zs_E f n e).2 ||| zs_vf f lk V (zs_E f n e).1 = V (zs_E f n e).2
def zs_may (f : zF) (n : Nat) (lk : Int32) (V : Nat → Nat) : Prop := zs_vc f n lk V ∧ (∀ k, k < n → V k < 65536) ∧ ∀ U, zs_vc f n lk U → ∀ k, k < n → U k ||| V k = U k
noncomputable def zs_V (f : zF) (n : Nat) (lk : Int32) : Nat → Nat := Classical.epsilon (zs_may f n lk)
theorem zs_V_eq {f : zF} {n : Nat} {lk : Int32} {V : Nat → Nat} (h : zs_may f n lk V) : zs_may f n lk (zs_V f n lk) ∧ ∀ k, k < n → V k = zs_V f n lk k := by
  have h2 : zs_may f n lk (zs_V f n lk) := Classical.epsilon_spec ⟨V, h⟩
  refine ⟨h2, fun k hk => ?_⟩
  have q1 := h.2.2 _ h2.1 k hk
  have q2 := h2.2.2 _ h.1 k hk
  rw [Nat.or_comm] at q1
  exact q2.symm.trans q1
/-- whether a load hits for sure; costs -/
noncomputable def zs_hit (f : zF) (n : Nat) (lk : Int32) (k : Nat) : Bool := decide (¬ zs_ln f k < 0) && (zs_lk lk (zs_ln f k) || decide (zs_X f n lk (16 * k + (zs_ln f k).toNatClampNeg) < zs_rem f))
def zs_cb (f : zF) (k : Int32) (ms : Nat) (hit : Bool) : Nat :=
  if k = 1 then 1 + (if hit = true then 0 else ms) else if k = 2 then 2 + (if hit = true then 0 else ms) else if k = 3 then 1 + (f 4).toNatClampNeg else if k = 4 then 2 else if k = 5 then 1 + 8 * (f 7).toNatClampNeg else if k = 6 then 3 + 8 * (f 7).toNatClampNeg else if k = 7 then 2 else 1
noncomputable def zs_c (f : zF) (n : Nat) (lk : Int32) (ms k : Nat) : Nat := zs_cb f (f (12 + 4 * k)) ms (zs_hit f n lk k)
def zs_rd (f : zF) (k : Nat) (r : Int32) : Bool :=
  if f (12 + 4 * k) = 0 ∨ f (12 + 4 * k) = 1 then decide (f (14 + 4 * k) = r)
  else if f (12 + 4 * k) = 2 then decide (f (13 + 4 * k) = r ∨ f (14 + 4 * k) = r)
  else if f (12 + 4 * k) = 3 ∨ f (12 + 4 * k) = 7 then decide (f (13 + 4 * k) = r)
  else if f (12 + 4 * k) = 5 ∨ f (12 + 4 * k) = 6 then decide (f (14 + 4 * k) = r ∨ f (15 + 4 * k) = r)
  else false
/-- whether an order stalls behind another -/
def zs_sta (f : zF) (k t : Nat) : Bool := decide (f (12 + 4 * k) = 1) && zs_rd f t (f (13 + 4 * k))
noncomputable def zs_ec (f : zF) (n : Nat) (lk : Int32) (ms e : Nat) : Nat := zs_c f n lk ms (zs_E f n e).1 + (if (zs_E f n e).2 < n ∧ zs_sta f (zs_E f n e).1 (zs_E f n e).2 = true then (f 6).toNatClampNeg else 0)
/-- the greatest of some -/
def zs_tn (f : zF) (n e : Nat) : Bool := decide ((zs_E f n e).2 ≤ (zs_E f n e).1)
def zs_om (f : zF) (n : Nat) (C : Nat → Nat) (O : Nat → Int32) (lo : Nat) : Nat → Int32
  | 0 => 0
  | j + 1 => if zs_tn f n (lo + j) = true then zs_om f n C O lo j else (if zs_om f n C O lo j < nI (C (lo + j)) + O (zs_E f n (lo + j)).2 then nI (C (lo + j)) + O (zs_E f n (lo + j)).2 else zs_om f n C O lo j)
/-- own factors -/
def zs_own (f : zF) (n : Nat) (C : Nat → Nat) (O : Nat → Int32) : Prop := O n = 0 ∧ ∀ k, k < n → O k = zs_om f n C O (zs_B f n k) (zs_B f n (k + 1) - zs_B f n k)
theorem zs_om_congr {f : zF} {n : Nat} {C : Nat → Nat} {O O' : Nat → Int32} {k : Nat} (hk : k < n) (h : ∀ t, k < t → t ≤ n → O t = O' t) : ∀ j, j ≤ zs_B f n (k + 1) - zs_B f n k → zs_om f n C O (zs_B f n k) j = zs_om f n C O' (zs_B f n k) j
  | 0, _ => rfl
  | j + 1, hj => by
    show (if zs_tn f n (zs_B f n k + j) = true then _ else _) = (if zs_tn f n (zs_B f n k + j) = true then _ else _)
    rw [zs_om_congr hk h j (by omega)]
    by_cases ht : zs_tn f n (zs_B f n k + j) = true
    · rw [if_pos ht, if_pos ht]
    · rw [if_neg ht, if_neg ht]
      have q := zs_Ein (f := f) hk (e := zs_B f n k + j) (by omega) (by omega)
      unfold zs_tn at ht
      rw [decide_eq_true_iff] at ht
      rw [h _ (by omega) q.2.1]
theorem zs_own_eq {f : zF} {n : Nat} {C : Nat → Nat} {O O' : Nat → Int32} (h : zs_own f n C O) (h' : zs_own f n C O') : ∀ k, k ≤ n → O k = O' k := by
  have key : ∀ m k, k + m = n → O k = O' k := by
    intro m
    induction m using Nat.strongRecOn with
    | _ m ih =>
      intro k hk
      by_cases h0 : k = n
      · subst h0; rw [h.1, h'.1]
      · rw [h.2 k (by omega), h'.2 k (by omega)]
        exact zs_om_congr (by omega) (fun t h1 h2 => ih (n - t) (by omega) t (by omega)) _ (Nat.le_refl _)
  exact fun k hk => key (n - k) k (by omega)
