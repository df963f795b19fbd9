/-! ===== what holds of the class's half and the reference's half between two calls ===== -/
def zL (s m : Nat) (a b : zd_D) : Prop := a.1 s 4 = b.1 m 9 ∧ (∃ r, r < 65536 ∧ b.1 m 9 = nI r) ∧ ∀ i, i < 32 → a.1 (s + 13) i = b.1 m (152 + i)
def zWk (s m : Nat) (a b : zd_D) (w : Nat) : Prop := (a.1 (s + 14) 0 = nI w ∧ b.1 m 10 = nI w ∧ w ≤ 8) ∧ ∀ i, i < w → a.1 (s + 15) i = b.1 m (184 + 2 * i) ∧ a.1 (s + 16) i = b.1 m (185 + 2 * i) ∧ (∃ r, 1 ≤ r ∧ r ≤ 9999 ∧ b.1 m (184 + 2 * i) = nI r) ∧ ∃ r, 1 ≤ r ∧ r ≤ 9999 ∧ b.1 m (185 + 2 * i) = nI r
def zMm (m : Nat) (b : zd_D) (nu : Nat → Nat) (f : zF) (n : Nat) : Prop := ∀ e, e < zs_B f n n → b.1 m (200 + e) = nI (nu e)
/-- a state: s the class's cell, m the reference's row -/
def zS (s m : Nat) (a b : zd_D) (f : zF) (n : Nat) (nu : Nat → Nat) (w : Nat) : Prop := zW f n ∧ zV m b f ∧ (∀ i, i < 8 → a.1 (s + 1) i = f i) ∧ zAo (s + 2) a f n ∧ zAe (s + 2) a f n ∧ zAN (s + 2) a nu f n ∧ zMm m b nu f n ∧ zL s m a b ∧ zWk s m a b w
/-- the text that waits -/
def zR_p (a b : zd_D) : Prop := ∃ t, t ≤ 96 ∧ a.1 35 1 = nI t ∧ b.1 91 4 = nI t ∧ ∀ i, i < t → ∃ r, r < 256 ∧ b.1 94 i = nI r ∧ a.1 36 i = (nI r).toInt8.toInt32
/-- the latest run -/
def zR_r (a b : zd_D) : Prop := (a.1 45 0 = 0 ∧ b.1 91 19 = 0) ∨ (a.1 45 0 = 1 ∧ b.1 91 19 = 1 ∧ (∃ u, u ≤ 600 ∧ a.1 45 2 = nI u ∧ b.1 102 1 = nI u ∧ ∀ i, i < u → a.1 47 i = b.1 103 i ∧ a.1 48 i = b.1 104 i) ∧ a.1 45 1 = b.1 102 0 ∧ a.1 45 3 = b.1 102 2 ∧ a.1 45 4 = b.1 102 3 ∧ a.1 45 5 = b.1 102 4 ∧ a.1 45 6 = b.1 102 5 ∧ (∀ r, r < 4 → a.1 46 r = b.1 102 (6 + r)) ∧ (a.1 45 7 = b.1 102 10 ∧ (b.1 102 10 = 0 ∨ b.1 102 10 = 1)) ∧ a.1 45 8 = b.1 102 11 ∧ a.1 45 9 = b.1 102 12)
/-- what waits -/
def zR_q (a b : zd_D) : Prop := ∃ u, u ≤ 60 ∧ a.1 0 14 = nI u ∧ b.1 91 53 = nI u ∧ ∀ i, i < u → a.1 64 i = b.1 129 i
/-- one sheet: c the class's cell, j the reference's row -/
def zR_1 (a b : zd_D) (c j : Nat) : Prop := (a.1 c 0 = 0 ∧ b.1 123 j = -1) ∨ (a.1 c 0 = 1 ∧ (∃ r, r < 4 ∧ a.1 c 1 = nI r ∧ b.1 123 j = nI r) ∧ (∃ z, z ≤ 32 ∧ a.1 c 2 = nI z ∧ b.1 124 j = nI z) ∧ ∀ i, i < 32 → a.2.1 (c + 1) i = (b.1 125 (32 * j + i)).toInt64)
def zR_h (a b : zd_D) : Prop := ∀ j, j < 4 → zR_1 a b (65 + 2 * j) j
/-- one slot -/
def zR_2 (a b : zd_D) (j : Nat) : Prop := ∃ r, r < 4 ∧ a.1 (73 + 3 * j) 0 = nI r ∧ b.1 127 j = nI r ∧ (r = 1 → a.1 (73 + 3 * j) 1 = b.1 128 (4 * j) ∧ a.1 (73 + 3 * j) 2 = zs_line (b.1 128 (4 * j)) (b.1 128 (4 * j + 2)) (b.1 128 (4 * j + 3)) ∧ zs_good (b.1 128 (4 * j)) (b.1 128 (4 * j + 1)) (b.1 128 (4 * j + 2)) (b.1 128 (4 * j + 3))) ∧ (r = 2 → zR_1 a b (74 + 3 * j) (4 + j) ∧ a.1 (74 + 3 * j) 0 = 1)
def zR_l (a b : zd_D) : Prop := ∀ j, j < 6 → zR_2 a b j
def zR_i (a b : zd_D) : Prop := (a.1 0 2 = 0 ∧ b.1 91 2 = 0) ∨ (a.1 0 2 = 1 ∧ b.1 91 2 = 1 ∧ ∃ f n nu w, zS 18 93 a b f n nu w)
/-- the reference's own words -/
def zs_let (i : Nat) : Int32 := ([115, 101, 116, 115, 119, 97, 121, 115, 114, 117, 108, 101, 109, 105, 115, 115, 119, 114, 111, 110, 103, 103, 117, 101, 115, 115, 115, 116, 97, 108, 108, 108, 111, 110, 103, 97, 103, 101, 116, 117, 114, 110, 116, 114, 101, 101, 110, 101, 118, 101, 114, 97, 108, 119, 97, 121, 115, 108, 97, 115, 116] : List Int32).getD i 0
def zs_beg (i : Nat) : Nat := ([0, 4, 8, 12, 16, 21, 26, 31, 35, 38, 42, 46, 51, 57, 61] : List Nat).getD i 0
def zR_k (b : zd_D) : Prop := (∀ i, i < 61 → b.1 95 i = zs_let i) ∧ (∀ i, i < 15 → b.1 96 i = nI (zs_beg i)) ∧ b.1 91 38 = -1
/-- all but the rows that are made anew when they are asked for -/
def zR0 (a b : zd_D) (f : zF) (n : Nat) (nu : Nat → Nat) (w : Nat) : Prop := zS 1 92 a b f n nu w ∧ zR_i a b ∧ zR_p a b ∧ zR_r a b ∧ zR_q a b ∧ zR_h a b ∧ zR_l a b ∧ zR_k b
def zs_ms (f : zF) : Nat := (f 3).toNatClampNeg
/-- the rows that are made anew -/
def zR_f (a : zd_D) (lk : Int32) (f : zF) (n : Nat) (nu : Nat → Nat) : Prop := (a.1 0 9 = 0 ∨ (a.1 0 9 = 1 ∧ zFl a f n lk (zs_ms f))) ∧ (a.1 0 10 = 0 ∨ (a.1 0 10 = 1 ∧ a.1 0 9 = 1 ∧ zPa a f n (zs_ec f n lk (zs_ms f)) nu)) ∧ zBf a
def zR (a b : zd_D) : Prop := ∃ f n nu w, zR0 a b f n nu w ∧ zR_f a (b.1 92 9) f n nu
/-- both answer alike, and all holds again -/
def zC (x m : Option (Option mx_V × zd_D)) : Prop := ∃ v a' b', x = some (some (.inl v), a') ∧ m = some (some (.inl v), b') ∧ zR a' b'
/-- the class's cells that count between calls -/
def zCx (a a' : zd_D) : Prop := (∀ c, (1 ≤ c ∧ c ≤ 34 ∨ c = 36 ∨ 45 ≤ c ∧ c ≤ 48 ∨ 64 ≤ c ∧ c ≤ 90) → a'.1 c = a.1 c) ∧ a'.1 0 2 = a.1 0 2 ∧ a'.1 0 14 = a.1 0 14 ∧ a'.1 35 1 = a.1 35 1 ∧ a'.2.1 = a.2.1
/-- the reference's cells that count between calls -/
def zCm (b b' : zd_D) : Prop := (∀ c, (92 ≤ c ∧ c ≤ 96 ∨ 102 ≤ c ∧ c ≤ 104 ∨ 123 ≤ c ∧ c ≤ 125 ∨ 127 ≤ c ∧ c ≤ 129) → b'.1 c = b.1 c) ∧ b'.1 91 2 = b.1 91 2 ∧ b'.1 91 4 = b.1 91 4 ∧ b'.1 91 19 = b.1 91 19 ∧ b'.1 91 38 = b.1 91 38 ∧ b'.1 91 53 = b.1 91 53
section ZRel
variable {nl : Int32} {a a' b b' : zd_D} {f : zF} {n w : Nat} {nu : Nat → Nat}
theorem zCx.rf : zCx a a := ⟨fun _ _ => rfl, rfl, rfl, rfl, rfl⟩
theorem zCm.rf : zCm b b := ⟨fun _ _ => rfl, rfl, rfl, rfl, rfl, rfl⟩
theorem zCx.tr {a'' : zd_D} (h : zCx a a') (h2 : zCx a' a'') : zCx a a'' := ⟨fun c q => (h2.1 c q).trans (h.1 c q), h2.2.1.trans h.2.1, h2.2.2.1.trans h.2.2.1, h2.2.2.2.1.trans h.2.2.2.1, h2.2.2.2.2.trans h.2.2.2.2⟩
theorem zCm.tr {b'' : zd_D} (h : zCm b b') (h2 : zCm b' b'') : zCm b b'' := ⟨fun c q => (h2.1 c q).trans (h.1 c q), h2.2.1.trans h.2.1, h2.2.2.1.trans h.2.2.1, h2.2.2.2.1.trans h.2.2.2.1, h2.2.2.2.2.1.trans h.2.2.2.2.1, h2.2.2.2.2.2.trans h.2.2.2.2.2⟩
theorem zK.cm {cs fs : List Nat} (h : zK 91 cs fs b b') (hc : cs.all (fun c => !(Nat.ble 92 c && Nat.ble c 96 || Nat.ble 102 c && Nat.ble c 104 || Nat.ble 123 c && Nat.ble c 125 || Nat.ble 127 c && Nat.ble c 129)) = true) (hf : fs.all (fun i => !(Nat.beq i 2 || Nat.beq i 4 || Nat.beq i 19 || Nat.beq i 38 || Nat.beq i 53)) = true) : zCm b b' := by
  have hc' : ∀ c, (92 ≤ c ∧ c ≤ 96 ∨ 102 ≤ c ∧ c ≤ 104 ∨ 123 ≤ c ∧ c ≤ 125 ∨ 127 ≤ c ∧ c ≤ 129) → b'.1 c = b.1 c := by
    intro c q
    refine h.1 c (by omega) ?_
    cases he : cs.elem c with
    | false => rfl
    | true =>
      have := List.all_eq_true.mp hc c (List.elem_iff.mp he)
      rw [Bool.not_eq_true', Bool.or_eq_false_iff, Bool.or_eq_false_iff, Bool.or_eq_false_iff, Bool.and_eq_false_iff, Bool.and_eq_false_iff, Bool.and_eq_false_iff, Bool.and_eq_false_iff] at this
      have hb : ∀ {x y : Nat}, Nat.ble x y = false → y < x := fun {x y} q => Nat.lt_of_not_le (fun w => by rw [Nat.ble_eq_true_of_le w] at q; cases q)
      obtain ⟨⟨⟨q1, q2⟩, q3⟩, q4⟩ := this
      have q1' := q1.imp hb hb
      have q2' := q2.imp hb hb
      have q3' := q3.imp hb hb
      have q4' := q4.imp hb hb
      omega
  have hf' : ∀ i, (i = 2 ∨ i = 4 ∨ i = 19 ∨ i = 38 ∨ i = 53) → b'.1 91 i = b.1 91 i := by
    intro i q
    refine h.2.1 i ?_
    cases he : fs.elem i with
    | false => rfl
    | true =>
      have := List.all_eq_true.mp hf i (List.elem_iff.mp he)
      rcases q with rfl | rfl | rfl | rfl | rfl <;> exact absurd this (by decide)
  exact ⟨hc', hf' 2 (by simp), hf' 4 (by simp), hf' 19 (by simp), hf' 38 (by simp), hf' 53 (by simp)⟩
theorem zS.x {s m : Nat} (hs : s = 1 ∨ s = 18) (hk : ∀ c, 1 ≤ c ∧ c ≤ 34 → a'.1 c = a.1 c) (h : zS s m a b f n nu w) : zS s m a' b f n nu w := by
  unfold zS zAo zAe zAN zL zWk at h ⊢
  rw [hk s (by omega), hk (s + 1) (by omega), hk (s + 2) (by omega), hk (s + 2 + 1) (by omega), hk (s + 2 + 2) (by omega), hk (s + 2 + 3) (by omega), hk (s + 2 + 4) (by omega), hk (s + 2 + 5) (by omega), hk (s + 2 + 6) (by omega), hk (s + 2 + 7) (by omega), hk (s + 2 + 8) (by omega), hk (s + 2 + 9) (by omega), hk (s + 2 + 10) (by omega), hk (s + 13) (by omega), hk (s + 14) (by omega), hk (s + 15) (by omega), hk (s + 16) (by omega)]
  exact h
theorem zS.m {s m : Nat} (hk : b'.1 m = b.1 m) (h : zS s m a b f n nu w) : zS s m a b' f n nu w := by
  unfold zS zV zMm zL zWk at h ⊢
  rw [hk]
  exact h
theorem zR_1.x {c j : Nat} (hc : a'.1 c = a.1 c) (h2 : a'.2.1 = a.2.1) (h : zR_1 a b c j) : zR_1 a' b c j := by
  unfold zR_1 at h ⊢
  rw [hc, h2]
  exact h
theorem zR_1.m {c j : Nat} (h3 : b'.1 123 = b.1 123) (h4 : b'.1 124 = b.1 124) (h5 : b'.1 125 = b.1 125) (h : zR_1 a b c j) : zR_1 a b' c j := by
  unfold zR_1 at h ⊢
  rw [h3, h4, h5]
  exact h
theorem zR0.x (hk : zCx a a') (h : zR0 a b f n nu w) : zR0 a' b f n nu w := by
  obtain ⟨k1, k2, k3, k4, k5⟩ := hk
  obtain ⟨hs, hi, hp, hr, hq, hh, hl, hkk⟩ := h
  refine ⟨hs.x (Or.inl rfl) (fun c q => k1 c (by omega)), ?_, ?_, ?_, ?_, fun j hj => (hh j hj).x (k1 _ (by omega)) k5, fun j hj => ?_, hkk⟩
  · unfold zR_i at hi ⊢
    rw [k2]
    rcases hi with hi | ⟨h1, h2, g, m, mu, v, h3⟩
    · exact Or.inl hi
    · exact Or.inr ⟨h1, h2, g, m, mu, v, h3.x (Or.inr rfl) (fun c q => k1 c (by omega))⟩
  · unfold zR_p at hp ⊢
    rw [k4, k1 36 (by omega)]
    exact hp
  · unfold zR_r at hr ⊢
    rw [k1 45 (by omega), k1 46 (by omega), k1 47 (by omega), k1 48 (by omega)]
    exact hr
  · unfold zR_q at hq ⊢
    rw [k3, k1 64 (by omega)]
    exact hq
  · have := hl j hj
    unfold zR_2 at this ⊢
    rw [k1 (73 + 3 * j) (by omega), k1 (74 + 3 * j) (by omega)]
    obtain ⟨r, g1, g2, g3, g4, g5⟩ := this
    exact ⟨r, g1, g2, g3, g4, fun q => ⟨(g5 q).1.x (k1 _ (by omega)) k5, (g5 q).2⟩⟩
theorem zR0.m (hk : zCm b b') (h : zR0 a b f n nu w) : zR0 a b' f n nu w := by
  obtain ⟨k1, k2, k3, k4, k5, k6⟩ := hk
  obtain ⟨hs, hi, hp, hr, hq, hh, hl, hkk⟩ := h
  refine ⟨hs.m (k1 92 (by omega)), ?_, ?_, ?_, ?_, fun j hj => (hh j hj).m (k1 _ (by omega)) (k1 _ (by omega)) (k1 _ (by omega)), fun j hj => ?_, ?_⟩
  · unfold zR_i at hi ⊢
    rw [k2]
    rcases hi with hi | ⟨h1, h2, g, m, mu, v, h3⟩
    · exact Or.inl hi
    · exact Or.inr ⟨h1, h2, g, m, mu, v, h3.m (k1 93 (by omega))⟩
  · unfold zR_p at hp ⊢
    rw [k3, k1 94 (by omega)]
    exact hp
  · unfold zR_r at hr ⊢
    rw [k4, k1 102 (by omega), k1 103 (by omega), k1 104 (by omega)]
    exact hr
  · unfold zR_q at hq ⊢
    rw [k6, k1 129 (by omega)]
    exact hq
  · have := hl j hj
    unfold zR_2 at this ⊢
    rw [k1 127 (by omega), k1 128 (by omega)]
    obtain ⟨r, g1, g2, g3, g4, g5⟩ := this
    exact ⟨r, g1, g2, g3, g4, fun q => ⟨(g5 q).1.m (k1 _ (by omega)) (k1 _ (by omega)) (k1 _ (by omega)), (g5 q).2⟩⟩
  · unfold zR_k at hkk ⊢
    rw [k5, k1 95 (by omega), k1 96 (by omega)]
    exact hkk
/-- only the reference's scratch has changed -/
theorem zR.m (hk : zCm b b') (h : zR a b) : zR a b' := by
  obtain ⟨f, n, nu, w, h0, hf⟩ := h
  refine ⟨f, n, nu, w, h0.m hk, ?_⟩
  rw [hk.1 92 (by omega)]
  exact hf
theorem zR0.W (h : zR0 a b f n nu w) : zW f n := h.1.1
theorem zR0.V (h : zR0 a b f n nu w) : zV 92 b f := h.1.2.1
theorem zR0.P (h : zR0 a b f n nu w) : zAP a f n := ⟨h.1.2.2.2.1, h.1.2.2.2.2.1, h.1.2.2.1⟩
theorem zR0.N (h : zR0 a b f n nu w) : zAN 3 a nu f n := h.1.2.2.2.2.2.1
theorem zR0.MN (h : zR0 a b f n nu w) : zMN b nu f n := fun e he => ⟨h.1.2.2.2.2.2.2.1 e he, (h.N e he).2.1, (h.N e he).2.2⟩
theorem zW.ms (h : zW f n) : f 3 = nI (zs_ms f) ∧ zs_ms f ≤ 99 := by
  obtain ⟨r, hr, e⟩ := h.2.2.1.2.2.1
  unfold zs_ms
  rw [e, nI_clamp (by omega)]
  exact ⟨rfl, hr⟩
theorem zR0.Ms (h : zR0 a b f n nu w) : zMs b f (zs_ms f) := ⟨by have := h.W.ms; omega, Or.inl ⟨h.2.2.2.2.2.2.2.2.2, h.W.ms.1⟩⟩
theorem zFl.k {cs fs : List Nat} {lk : Int32} {ms : Nat} (h : zFl a f n lk ms) (h3 : a'.1 53 = a.1 53) (h4 : a'.1 54 = a.1 54) (h5 : a'.1 55 = a.1 55) (h7 : a'.1 57 = a.1 57) (h8 : a'.1 58 = a.1 58) (h9 : a'.1 59 = a.1 59) : zFl a' f n lk ms := by
  unfold zFl zXV at h ⊢
  rw [h3, h4, h5, h7, h8, h9]
  exact h
/-- the flow is fresh -/
theorem rx_fresh (h : zR0 a b f n nu w) (hf : zR_f a (b.1 92 9) f n nu) : ∃ a', zx nl 56 0 [z_r 0] [] a = some (none, a') ∧ zCx a a' ∧ zR_f a' (b.1 92 9) f n nu ∧ a'.1 0 9 = 1 ∧ zFl a' f n (b.1 92 9) (zs_ms f) := by
  obtain ⟨h1, h2, h3⟩ := hf
  rw [ex_56_0]
  rcases h1 with h1 | ⟨h1, hF⟩
  · have h10 : a.1 0 10 = 0 := by
      rcases h2 with q | ⟨_, q, _⟩
      · exact q
      · rw [h1] at q; exact absurd q (by decide)
    rw [if_pos h1, show a.1 1 4 = b.1 92 9 from h.1.2.2.2.2.2.2.2.1.1, show a.1 2 3 = f 3 from h.P.2.2 3 (by omega), h.W.ms.1]
    obtain ⟨a1, e1, k1, hF1⟩ := rx_settle (nl := nl) h.W h.P (b.1 92 9) (zs_ms f)
    rw [e1]
    simp only [Bool.false_eq_true, reduceCtorEq, Nat.not_lt_zero, cond_true, cond_false, ↓reduceIte, if_true, if_false, Option.toList_some, Option.toList_none, List.nil_append, List.cons_append, Option.bind_some]
    rw [ex_56_14]
    have hc : ∀ c, ¬ (53 ≤ c ∧ c ≤ 59) → ¬ c = 0 → a1.1 c = a.1 c := fun c q1 q2 => k1.1 c q2 (by
      cases he : [53, 54, 55, 56, 57, 58, 59].elem c with
      | false => rfl
      | true =>
        have := List.elem_iff.mp he
        simp at this
        omega)
    have h0 : ∀ i, a1.1 0 i = a.1 0 i := fun i => k1.2.1 i rfl
    refine ⟨_, rfl, ⟨fun c q => ?_, ?_, ?_, ?_, by rw [← k1.2.2]; rfl⟩, ⟨Or.inr ⟨zb_ue _ _ _ _, ?_⟩, Or.inl ?_, ?_⟩, zb_ue _ _ _ _, ?_⟩
    · rw [zb_uc _ _ _ _ (by omega)]; exact hc c (by omega) (by omega)
    · rw [zb_ui _ _ _ _ (by decide)]; exact h0 2
    · rw [zb_ui _ _ _ _ (by decide)]; exact h0 14
    · rw [zb_uc _ _ _ _ (by decide), hc 35 (by omega) (by omega)]
    · exact hF1.k (cs := []) (fs := []) (zb_uc _ _ _ _ (by decide)) (zb_uc _ _ _ _ (by decide)) (zb_uc _ _ _ _ (by decide)) (zb_uc _ _ _ _ (by decide)) (zb_uc _ _ _ _ (by decide)) (zb_uc _ _ _ _ (by decide))
    · rw [zb_ui _ _ _ _ (by decide), h0 10]; exact h10
    · unfold zBf
      rw [zb_uc _ _ _ _ (by decide), hc 60 (by omega) (by omega)]
      rw [show (zd_u a1 0 9 1).2.2 = a1.2.2 from rfl, k1.2.2]
      exact h3
    · exact hF1.k (cs := []) (fs := []) (zb_uc _ _ _ _ (by decide)) (zb_uc _ _ _ _ (by decide)) (zb_uc _ _ _ _ (by decide)) (zb_uc _ _ _ _ (by decide)) (zb_uc _ _ _ _ (by decide)) (zb_uc _ _ _ _ (by decide))
  · rw [h1, if_neg (by decide)]
    exact ⟨a, rfl, zCx.rf, ⟨Or.inr ⟨h1, hF⟩, h2, h3⟩, h1, hF⟩
/-- the way is fresh -/
theorem rx_freshp (h : zR0 a b f n nu w) (hf : zR_f a (b.1 92 9) f n nu) : ∃ a', zx nl 111 0 [z_r 0] [] a = some (none, a') ∧ zCx a a' ∧ zR_f a' (b.1 92 9) f n nu ∧ a'.1 0 9 = 1 ∧ zFl a' f n (b.1 92 9) (zs_ms f) ∧ zPa a' f n (zs_ec f n (b.1 92 9) (zs_ms f)) nu := by
  obtain ⟨a1, e1, k1, hf1, h9, hF1⟩ := rx_fresh (nl := nl) h hf
  rw [ex_111_0, e1]
  simp only [Bool.false_eq_true, reduceCtorEq, Nat.not_lt_zero, cond_true, cond_false, ↓reduceIte, if_true, if_false, Option.toList_some, Option.toList_none, List.nil_append, List.cons_append, Option.bind_some]
  rw [ex_111_2]
  have h01 := h.x k1
  obtain ⟨g1, g2, g3⟩ := hf1
  rcases g2 with q | ⟨q1, q2, q3⟩
  · rw [if_pos q]
    obtain ⟨a2, e2, k2, hP2, hb2⟩ := rx_solve (nl := nl) (C := zs_ec f n (b.1 92 9) (zs_ms f)) h01.W h01.P h01.N hF1.2.2.1 (fun e _ => zs_ec_le h01.W (by have := h01.W.ms; omega) e) g3
    rw [e2]
    simp only [Bool.false_eq_true, reduceCtorEq, Nat.not_lt_zero, cond_true, cond_false, ↓reduceIte, if_true, if_false, Option.toList_some, Option.toList_none, List.nil_append, List.cons_append, Option.bind_some]
    rw [ex_111_8]
    have hF2 : zFl (zd_u a2 0 10 1) f n (b.1 92 9) (zs_ms f) := hF1.k (cs := []) (fs := []) (by rw [zb_uc _ _ _ _ (by decide), k2.1 53 (by omega) (by omega) (by omega)]) (by rw [zb_uc _ _ _ _ (by decide), k2.1 54 (by omega) (by omega) (by omega)]) (by rw [zb_uc _ _ _ _ (by decide), k2.1 55 (by omega) (by omega) (by omega)]) (by rw [zb_uc _ _ _ _ (by decide), k2.1 57 (by omega) (by omega) (by omega)]) (by rw [zb_uc _ _ _ _ (by decide), k2.1 58 (by omega) (by omega) (by omega)]) (by rw [zb_uc _ _ _ _ (by decide), k2.1 59 (by omega) (by omega) (by omega)])
    have hPa2 : zPa (zd_u a2 0 10 1) f n (zs_ec f n (b.1 92 9) (zs_ms f)) nu := by
      unfold zPa zPr at hP2 ⊢
      rw [zb_uc _ _ _ _ (by decide), zb_uc _ _ _ _ (by decide), zb_uc _ _ _ _ (by decide)]
      exact hP2
    have hz : ∀ i, ¬ i = 10 → (zd_u a2 0 10 1).1 0 i = a1.1 0 i := fun i hi => by rw [zb_ui _ _ _ _ hi, k2.1 0 (by omega) (by omega) (by omega)]
    have h9' : (zd_u a2 0 10 1).1 0 9 = 1 := (hz 9 (by decide)).trans h9
    refine ⟨_, rfl, k1.tr ⟨fun c q => ?_, hz 2 (by decide), hz 14 (by decide), ?_, k2.2⟩, ⟨Or.inr ⟨h9', hF2⟩, Or.inr ⟨zb_ue _ _ _ _, h9', hPa2⟩, ?_⟩, h9', hF2, hPa2⟩
    · rw [zb_uc _ _ _ _ (by omega), k2.1 c (by omega) (by omega) (by omega)]
    · rw [zb_uc _ _ _ _ (by decide), k2.1 35 (by omega) (by omega) (by omega)]
    · unfold zBf at hb2 ⊢
      rw [zb_uc _ _ _ _ (by decide)]
      exact hb2
  · rw [q1, if_neg (by decide)]
    exact ⟨a1, rfl, k1, ⟨g1, Or.inr ⟨q1, q2, q3⟩, g3⟩, h9, hF1, q3⟩
end ZRel
