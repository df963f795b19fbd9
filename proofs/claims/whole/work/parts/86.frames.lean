/-! ===== what stays when one thing is written ===== -/
def zRr (a b : zd_D) : Prop := zR_i a b ∧ zR_p a b ∧ zR_r a b ∧ zR_q a b ∧ zR_h a b ∧ zR_l a b ∧ zR_k b
section ZFrames
variable {nl : Int32} {a a' b b' : zd_D} {f : zF} {n w : Nat} {nu : Nat → Nat}
theorem zR.mk2 (hs : zS 1 92 a b f n nu w) (hr : zRr a b) (hf : zR_f a (b.1 92 9) f n nu) : zR a b := ⟨f, n, nu, w, ⟨hs, hr⟩, hf⟩
theorem zR_i.x (hi : zR_i a b) (k0 : a'.1 0 2 = a.1 0 2) (k1 : ∀ c, 18 ≤ c → c ≤ 34 → a'.1 c = a.1 c) : zR_i a' b := by
  unfold zR_i at hi ⊢
  rw [k0]
  rcases hi with hi | ⟨h1, h2, g, m, mu, v, h3⟩
  · exact Or.inl hi
  · refine Or.inr ⟨h1, h2, g, m, mu, v, ?_⟩
    unfold zS zAo zAe zAN zL zWk at h3 ⊢
    rw [k1 18 (by omega) (by omega), k1 (18 + 1) (by omega) (by omega), k1 (18 + 2) (by omega) (by omega), k1 (18 + 2 + 1) (by omega) (by omega), k1 (18 + 2 + 2) (by omega) (by omega), k1 (18 + 2 + 3) (by omega) (by omega), k1 (18 + 2 + 4) (by omega) (by omega), k1 (18 + 2 + 5) (by omega) (by omega), k1 (18 + 2 + 6) (by omega) (by omega), k1 (18 + 2 + 7) (by omega) (by omega), k1 (18 + 2 + 8) (by omega) (by omega), k1 (18 + 2 + 9) (by omega) (by omega), k1 (18 + 2 + 10) (by omega) (by omega), k1 (18 + 13) (by omega) (by omega), k1 (18 + 14) (by omega) (by omega), k1 (18 + 15) (by omega) (by omega), k1 (18 + 16) (by omega) (by omega)]
    exact h3
theorem zR_i.m (hi : zR_i a b) (k0 : b'.1 91 2 = b.1 91 2) (k1 : b'.1 93 = b.1 93) : zR_i a b' := by
  unfold zR_i at hi ⊢
  rw [k0]
  rcases hi with hi | ⟨h1, h2, g, m, mu, v, h3⟩
  · exact Or.inl hi
  · exact Or.inr ⟨h1, h2, g, m, mu, v, h3.m k1⟩
theorem zR_p.x (h : zR_p a b) (k1 : a'.1 35 1 = a.1 35 1) (k2 : a'.1 36 = a.1 36) : zR_p a' b := by
  unfold zR_p at h ⊢; rw [k1, k2]; exact h
theorem zR_p.m (h : zR_p a b) (k1 : b'.1 91 4 = b.1 91 4) (k2 : b'.1 94 = b.1 94) : zR_p a b' := by
  unfold zR_p at h ⊢; rw [k1, k2]; exact h
theorem zR_r.x (h : zR_r a b) (k1 : a'.1 45 = a.1 45) (k2 : a'.1 46 = a.1 46) (k3 : a'.1 47 = a.1 47) (k4 : a'.1 48 = a.1 48) : zR_r a' b := by
  unfold zR_r at h ⊢; rw [k1, k2, k3, k4]; exact h
theorem zR_r.m (h : zR_r a b) (k1 : b'.1 91 19 = b.1 91 19) (k2 : b'.1 102 = b.1 102) (k3 : b'.1 103 = b.1 103) (k4 : b'.1 104 = b.1 104) : zR_r a b' := by
  unfold zR_r at h ⊢; rw [k1, k2, k3, k4]; exact h
theorem zR_q.x (h : zR_q a b) (k1 : a'.1 0 14 = a.1 0 14) (k2 : a'.1 64 = a.1 64) : zR_q a' b := by
  unfold zR_q at h ⊢; rw [k1, k2]; exact h
theorem zR_q.m (h : zR_q a b) (k1 : b'.1 91 53 = b.1 91 53) (k2 : b'.1 129 = b.1 129) : zR_q a b' := by
  unfold zR_q at h ⊢; rw [k1, k2]; exact h
theorem zR_h.x (h : zR_h a b) (k1 : ∀ c, 65 ≤ c → c ≤ 72 → a'.1 c = a.1 c) (k2 : a'.2.1 = a.2.1) : zR_h a' b := fun j hj => (h j hj).x (k1 _ (by omega) (by omega)) k2
theorem zR_h.m (h : zR_h a b) (k3 : b'.1 123 = b.1 123) (k4 : b'.1 124 = b.1 124) (k5 : b'.1 125 = b.1 125) : zR_h a b' := fun j hj => (h j hj).m k3 k4 k5
theorem zR_l.x (h : zR_l a b) (k1 : ∀ c, 73 ≤ c → c ≤ 90 → a'.1 c = a.1 c) (k2 : a'.2.1 = a.2.1) : zR_l a' b := by
  intro j hj
  have := h j hj
  unfold zR_2 at this ⊢
  rw [k1 (73 + 3 * j) (by omega) (by omega), k1 (74 + 3 * j) (by omega) (by omega)]
  obtain ⟨r, g1, g2, g3, g4, g5⟩ := this
  exact ⟨r, g1, g2, g3, g4, fun q => ⟨(g5 q).1.x (k1 _ (by omega) (by omega)) k2, (g5 q).2⟩⟩
theorem zR_l.m (h : zR_l a b) (k3 : b'.1 123 = b.1 123) (k4 : b'.1 124 = b.1 124) (k5 : b'.1 125 = b.1 125) (k7 : b'.1 127 = b.1 127) (k8 : b'.1 128 = b.1 128) : zR_l a b' := by
  intro j hj
  have := h j hj
  unfold zR_2 at this ⊢
  rw [k7, k8]
  obtain ⟨r, g1, g2, g3, g4, g5⟩ := this
  exact ⟨r, g1, g2, g3, g4, fun q => ⟨(g5 q).1.m k3 k4 k5, (g5 q).2⟩⟩
theorem zR_k.m (h : zR_k b) (k1 : b'.1 91 38 = b.1 91 38) (k2 : b'.1 95 = b.1 95) (k3 : b'.1 96 = b.1 96) : zR_k b' := by
  unfold zR_k at h ⊢; rw [k1, k2, k3]; exact h
/-- the rest, when a cell of the state is written -/
theorem zRr.x (h : zRr a b) (k : ∀ c, 18 ≤ c → ¬ (37 ≤ c ∧ c ≤ 44) → ¬ (49 ≤ c ∧ c ≤ 63) → c ≤ 90 → ¬ c = 35 → a'.1 c = a.1 c) (k0 : a'.1 0 2 = a.1 0 2) (k14 : a'.1 0 14 = a.1 0 14) (k35 : a'.1 35 1 = a.1 35 1) (k2 : a'.2.1 = a.2.1) : zRr a' b := by
  obtain ⟨hi, hp, hr, hq, hh, hl, hk⟩ := h
  exact ⟨hi.x k0 (fun c q1 q2 => k c q1 (by omega) (by omega) (by omega) (by omega)), hp.x k35 (k _ (by omega) (by omega) (by omega) (by omega) (by omega)), hr.x (k _ (by omega) (by omega) (by omega) (by omega) (by omega)) (k _ (by omega) (by omega) (by omega) (by omega) (by omega)) (k _ (by omega) (by omega) (by omega) (by omega) (by omega)) (k _ (by omega) (by omega) (by omega) (by omega) (by omega)), hq.x k14 (k _ (by omega) (by omega) (by omega) (by omega) (by omega)), hh.x (fun c q1 q2 => k c (by omega) (by omega) (by omega) (by omega) (by omega)) k2, hl.x (fun c q1 q2 => k c (by omega) (by omega) (by omega) (by omega) (by omega)) k2, hk⟩
theorem zRr.m (h : zRr a b) (k : ∀ c, 93 ≤ c → c ≤ 129 → ¬ (97 ≤ c ∧ c ≤ 101) → ¬ (105 ≤ c ∧ c ≤ 122) → ¬ c = 126 → b'.1 c = b.1 c) (k2 : b'.1 91 2 = b.1 91 2) (k4 : b'.1 91 4 = b.1 91 4) (k19 : b'.1 91 19 = b.1 91 19) (k38 : b'.1 91 38 = b.1 91 38) (k53 : b'.1 91 53 = b.1 91 53) : zRr a b' := by
  obtain ⟨hi, hp, hr, hq, hh, hl, hk⟩ := h
  have kk : ∀ c, (c = 93 ∨ c = 94 ∨ c = 95 ∨ c = 96 ∨ c = 102 ∨ c = 103 ∨ c = 104 ∨ c = 123 ∨ c = 124 ∨ c = 125 ∨ c = 127 ∨ c = 128 ∨ c = 129) → b'.1 c = b.1 c := fun c q => k c (by omega) (by omega) (by omega) (by omega) (by omega)
  exact ⟨hi.m k2 (kk _ (by simp)), hp.m k4 (kk _ (by simp)), hr.m k19 (kk _ (by simp)) (kk _ (by simp)) (kk _ (by simp)), hq.m k53 (kk _ (by simp)), hh.m (kk _ (by simp)) (kk _ (by simp)) (kk _ (by simp)), hl.m (kk _ (by simp)) (kk _ (by simp)) (kk _ (by simp)) (kk _ (by simp)) (kk _ (by simp)), hk.m k38 (kk _ (by simp)) (kk _ (by simp))⟩
/-- one place of the reference's row is written -/
theorem zRr.m92 (h : zRr a b) (i : Nat) (x : Int32) : zRr a (zd_u b 92 i x) := h.m (fun c q _ _ _ _ => zb_uc _ _ _ _ (by omega)) (by rw [zb_uc _ _ _ _ (by decide)]) (by rw [zb_uc _ _ _ _ (by decide)]) (by rw [zb_uc _ _ _ _ (by decide)]) (by rw [zb_uc _ _ _ _ (by decide)]) (by rw [zb_uc _ _ _ _ (by decide)])
/-- one place of the class's state is written -/
theorem zRr.xs (h : zRr a b) {c : Nat} (hc : 1 ≤ c ∧ c ≤ 17) (i : Nat) (x : Int32) : zRr (zd_u a c i x) b := h.x (fun k q _ _ _ _ => zb_uc _ _ _ _ (by omega)) (by rw [zb_uc _ _ _ _ (by omega)]) (by rw [zb_uc _ _ _ _ (by omega)]) (by rw [zb_uc _ _ _ _ (by omega)]) rfl
/-- a field of the class's own cell is written, neither the image's nor the waiting's -/
theorem zRr.x0 (h : zRr a b) {i : Nat} (hi : ¬ i = 2 ∧ ¬ i = 14) (x : Int32) : zRr (zd_u a 0 i x) b := h.x (fun k q _ _ _ _ => zb_uc _ _ _ _ (by omega)) (zb_ui _ _ _ _ (by omega)) (zb_ui _ _ _ _ (by omega)) (by rw [zb_uc _ _ _ _ (by omega)]) rfl
theorem zV.u {m i : Nat} (h : zV m b f) (hi : 152 ≤ i ∨ i = 9 ∨ i = 10) (x : Int32) : zV m (zd_u b m i x) f := fun k q1 q2 q3 => by
  rw [zb_ui _ _ _ _ (by omega)]; exact h k q1 q2 q3
theorem zMm.u {m i : Nat} (h : zMm m b nu f n) (hi : i < 200) (x : Int32) : zMm m (zd_u b m i x) nu f n := fun e he => by
  rw [zb_ui _ _ _ _ (by omega)]; exact h e he
theorem zWk.bu {s m i : Nat} (h : zWk s m a b w) (hi : ¬ i = 10 ∧ (i < 184 ∨ 200 ≤ i)) (x : Int32) : zWk s m a (zd_u b m i x) w := by
  obtain ⟨⟨h1, h2, h3⟩, h4⟩ := h
  refine ⟨⟨h1, by rw [zb_ui _ _ _ _ (by omega)]; exact h2, h3⟩, fun k hk => ?_⟩
  rw [zb_ui _ _ _ _ (by omega), zb_ui _ _ _ _ (by omega)]
  exact h4 k hk
theorem zL.bu {s m i : Nat} (h : zL s m a b) (hi : ¬ i = 9 ∧ (i < 152 ∨ 184 ≤ i)) (x : Int32) : zL s m a (zd_u b m i x) := by
  obtain ⟨h1, h2, h3⟩ := h
  unfold zL
  rw [zb_ui _ _ _ _ (by omega)]
  refine ⟨h1, h2, fun k hk => ?_⟩
  rw [zb_ui _ _ _ _ (by omega)]
  exact h3 k hk
theorem zAo.c {c : Nat} (h : zAo c a f n) (hk : ∀ k, c ≤ k → k ≤ c + 6 → a'.1 k = a.1 k) : zAo c a' f n := by
  unfold zAo at h ⊢
  rw [hk c (by omega) (by omega), hk (c + 1) (by omega) (by omega), hk (c + 2) (by omega) (by omega), hk (c + 3) (by omega) (by omega), hk (c + 4) (by omega) (by omega), hk (c + 5) (by omega) (by omega), hk (c + 6) (by omega) (by omega)]
  exact h
theorem zAe.c {c : Nat} (h : zAe c a f n) (hk : a'.1 c = a.1 c) (h7 : a'.1 (c + 7) = a.1 (c + 7)) (h8 : a'.1 (c + 8) = a.1 (c + 8)) (h9 : a'.1 (c + 9) = a.1 (c + 9)) : zAe c a' f n := by
  unfold zAe at h ⊢
  rw [hk, h7, h8, h9]
  exact h
theorem zAN.c {c : Nat} (h : zAN c a nu f n) (hk : a'.1 (c + 10) = a.1 (c + 10)) : zAN c a' nu f n := by
  unfold zAN at h ⊢
  rw [hk]
  exact h
theorem zWk.c {s m : Nat} (h : zWk s m a b w) (h4 : a'.1 (s + 14) = a.1 (s + 14)) (h5 : a'.1 (s + 15) = a.1 (s + 15)) (h6 : a'.1 (s + 16) = a.1 (s + 16)) : zWk s m a' b w := by
  unfold zWk at h ⊢
  rw [h4, h5, h6]
  exact h
theorem zL.c {s m : Nat} (h : zL s m a b) (h4 : a'.1 s = a.1 s) (h5 : a'.1 (s + 13) = a.1 (s + 13)) : zL s m a' b := by
  unfold zL at h ⊢
  rw [h4, h5]
  exact h
/-- the rows that are made anew don't hang on other cells -/
theorem zR_f.x {lk : Int32} (h : zR_f a lk f n nu) (k9 : a'.1 0 9 = a.1 0 9) (k10 : a'.1 0 10 = a.1 0 10) (k : ∀ c, 53 ≤ c → c ≤ 61 → a'.1 c = a.1 c) (k130 : a'.1 130 = a.1 130) (k2 : a'.2.2 = a.2.2) : zR_f a' lk f n nu := by
  unfold zR_f zFl zXV zPa zPr zBf at h ⊢
  rw [k9, k10, k 53 (by omega) (by omega), k 54 (by omega) (by omega), k 55 (by omega) (by omega), k 57 (by omega) (by omega), k 58 (by omega) (by omega), k 59 (by omega) (by omega), k 60 (by omega) (by omega), k 61 (by omega) (by omega), k130, k2]
  exact h
theorem zR_f.xs {lk : Int32} (h : zR_f a lk f n nu) {c : Nat} (hc : ¬ c = 0 ∧ c < 53 ∨ 62 ≤ c ∧ c ≤ 129) (i : Nat) (x : Int32) : zR_f (zd_u a c i x) lk f n nu := h.x (by rw [zb_uc _ _ _ _ (by omega)]) (by rw [zb_uc _ _ _ _ (by omega)]) (fun k q1 q2 => zb_uc _ _ _ _ (by omega)) (zb_uc _ _ _ _ (by omega)) rfl
/-- nothing of them is fresh -/
theorem zR_f.no {lk : Int32} (h9 : a.1 0 9 = 0) (h10 : a.1 0 10 = 0) (hb : zBf a) : zR_f a lk f n nu := ⟨Or.inl h9, Or.inl h10, hb⟩
theorem zBf.x (h : zBf a) (k : a'.1 60 = a.1 60) (k2 : a'.2.2 = a.2.2) : zBf a' := by
  unfold zBf at h ⊢
  rw [k, k2]
  exact h
theorem zS.L {s m : Nat} (h : zS s m a b f n nu w) : zL s m a b := h.2.2.2.2.2.2.2.1
theorem zS.K {s m : Nat} (h : zS s m a b f n nu w) : zWk s m a b w := h.2.2.2.2.2.2.2.2
theorem zS.mm {s m : Nat} (h : zS s m a b f n nu w) : zMm m b nu f n := h.2.2.2.2.2.2.1
end ZFrames
