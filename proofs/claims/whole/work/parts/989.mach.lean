/-! ===== a new machine under the same program ===== -/
section ZMach
variable {nl : Int32} {a a' b b' : zd_D} {f f' : zF} {n w : Nat} {nu : Nat → Nat}
theorem zs_es_f (h : ∀ i, 8 ≤ i → f' i = f i) : ∀ k, zs_es f' n k = zs_es f n k := by
  have hl : ∀ k t, zs_lead f' n k t = zs_lead f n k t := by
    intro k t
    unfold zs_lead
    rw [h (12 + 4 * k) (by omega), h (14 + 4 * k) (by omega), h (124 + k) (by omega)]
  have ht : ∀ k t, zs_tu f' n k t = zs_tu f n k t := by
    intro k t
    induction t with
    | zero => rfl
    | succ t ih =>
      show zs_tu f' n k t ++ _ = zs_tu f n k t ++ _
      rw [ih, hl]
  intro k
  induction k with
  | zero => rfl
  | succ k ih =>
    show zs_es f' n k ++ (zs_tu f' n k (n + 1)).map _ = zs_es f n k ++ (zs_tu f n k (n + 1)).map _
    rw [ih, ht]
theorem zR.mach (h : zR0 a b f n nu w) (hb : zBf a) (hf : ∀ i, 8 ≤ i → f' i = f i) (hm : zs_mach f') (kx : ∀ c, ¬ c = 0 → ¬ c = 2 → ¬ c = 35 → ¬ c = 37 → ¬ c = 45 → a'.1 c = a.1 c) (k0 : ∀ i, ¬ i = 9 → ¬ i = 10 → a'.1 0 i = a.1 0 i) (h9 : a'.1 0 9 = 0) (h10 : a'.1 0 10 = 0) (h2 : ∀ i, i < 8 → a'.1 2 i = f' i) (h35 : a'.1 35 1 = 0) (h45 : a'.1 45 0 = 0) (h22 : a'.2 = a.2) (km : ∀ c, ¬ c = 91 → ¬ c = 92 → ¬ c = 97 → b'.1 c = b.1 c) (m92 : ∀ i, 8 ≤ i → b'.1 92 i = b.1 92 i) (m8 : ∀ i, i < 8 → b'.1 92 i = f' i) (m4 : b'.1 91 4 = 0) (m19 : b'.1 91 19 = 0) (mf : ∀ i, (i = 2 ∨ i = 38 ∨ i = 53) → b'.1 91 i = b.1 91 i) : zR a' b' := by
  obtain ⟨⟨hW, hV, hmm, hA, hE, hN, hM, ⟨l1, l2, l3⟩, ⟨⟨w1, w2, w3⟩, w4⟩⟩, hi, hp, hr, hq, hh, hl, hk⟩ := h
  have es := zs_es_f (n := n) hf
  have eB : ∀ k, zs_B f' n k = zs_B f n k := fun k => by unfold zs_B; rw [es]
  have eE : ∀ e, zs_E f' n e = zs_E f n e := fun e => by unfold zs_E; rw [es]
  have eln : ∀ k, zs_ln f' k = zs_ln f k := fun k => by unfold zs_ln; rw [hf (12 + 4 * k) (by omega), hf (14 + 4 * k) (by omega), hf (15 + 4 * k) (by omega)]
  have etn : ∀ e, zs_tn f' n e = zs_tn f n e := fun e => by unfold zs_tn; rw [eE]
  have hn := hW.le
  have hB := zs_B812 (f := f) hn (Nat.le_refl n)
  refine ⟨f', n, nu, w, ⟨⟨⟨by rw [hf 8 (by omega)]; exact hW.1, hW.2.1, hm, fun k hk => ?_⟩, fun i q1 q2 q3 => ?_, fun i hi => h2 i hi, ?_, ?_, ?_, fun e he => ?_, ⟨?_, by rw [m92 9 (by omega)]; exact l2, fun i hi => ?_⟩, ⟨⟨?_, by rw [m92 10 (by omega)]; exact w2, w3⟩, fun i hi => ?_⟩⟩, ?_, ?_, Or.inl ⟨h45, m19⟩, ?_, ?_, ?_, ?_⟩, zR_f.no h9 h10 (hb.x (kx 60 (by omega) (by omega) (by omega) (by omega) (by omega)) (by rw [h22]))⟩
  · rw [hf (12 + 4 * k) (by omega), hf (13 + 4 * k) (by omega), hf (14 + 4 * k) (by omega), hf (15 + 4 * k) (by omega), hf (124 + k) (by omega)]
    exact hW.2.2.2 k hk
  · by_cases c : i < 8
    · exact m8 i c
    · rw [m92 i (by omega), hf i (by omega)]; exact hV i q1 q2 q3
  · have hA' : zAo 3 a f n := hA
    have hA2 : zAo 3 a' f n := hA'.c (fun k q1 q2 => kx k (by omega) (by omega) (by omega) (by omega) (by omega))
    refine ⟨hA2.1, fun k hk => ?_⟩
    rw [hf (12 + 4 * k) (by omega), hf (13 + 4 * k) (by omega), hf (14 + 4 * k) (by omega), hf (15 + 4 * k) (by omega), hf (124 + k) (by omega), eln]
    exact hA2.2 k hk
  · have hE2 : zAe 3 a' f n := hE.c (kx _ (by omega) (by omega) (by omega) (by omega) (by omega)) (kx _ (by omega) (by omega) (by omega) (by omega) (by omega)) (kx _ (by omega) (by omega) (by omega) (by omega) (by omega)) (kx _ (by omega) (by omega) (by omega) (by omega) (by omega))
    unfold zAe at hE2 ⊢
    simp only [eB, eE]
    exact hE2
  · have hN2 : zAN 3 a' nu f n := hN.c (kx _ (by omega) (by omega) (by omega) (by omega) (by omega))
    unfold zAN at hN2 ⊢
    simp only [eB, etn]
    exact hN2
  · rw [eB] at he
    rw [m92 _ (by omega)]; exact hM e he
  · rw [kx 1 (by omega) (by omega) (by omega) (by omega) (by omega), m92 9 (by omega)]; exact l1
  · rw [kx (1 + 13) (by omega) (by omega) (by omega) (by omega) (by omega), m92 _ (by omega)]; exact l3 i hi
  · rw [kx (1 + 14) (by omega) (by omega) (by omega) (by omega) (by omega)]; exact w1
  · rw [kx (1 + 15) (by omega) (by omega) (by omega) (by omega) (by omega), kx (1 + 16) (by omega) (by omega) (by omega) (by omega) (by omega), m92 _ (by omega), m92 _ (by omega)]; exact w4 i hi
  · exact (hi.x (k0 _ (by omega) (by omega)) (fun c q1 q2 => kx c (by omega) (by omega) (by omega) (by omega) (by omega))).m (mf 2 (by omega)) (km 93 (by omega) (by omega) (by omega))
  · exact ⟨0, by omega, h35, m4, fun i hi => absurd hi (Nat.not_lt_zero i)⟩
  · exact (hq.x (k0 _ (by omega) (by omega)) (kx _ (by omega) (by omega) (by omega) (by omega) (by omega))).m (mf 53 (by omega)) (km _ (by omega) (by omega) (by omega))
  · exact (hh.x (fun c w1 w2 => kx c (by omega) (by omega) (by omega) (by omega) (by omega)) (by rw [h22])).m (km _ (by omega) (by omega) (by omega)) (km _ (by omega) (by omega) (by omega)) (km _ (by omega) (by omega) (by omega))
  · exact (hl.x (fun c w1 w2 => kx c (by omega) (by omega) (by omega) (by omega) (by omega)) (by rw [h22])).m (km _ (by omega) (by omega) (by omega)) (km _ (by omega) (by omega) (by omega)) (km _ (by omega) (by omega) (by omega)) (km _ (by omega) (by omega) (by omega)) (km _ (by omega) (by omega) (by omega))
  · exact hk.m (mf 38 (by omega)) (km _ (by omega) (by omega) (by omega)) (km _ (by omega) (by omega) (by omega))
/-- nothing but the text is gone -/
theorem zR.text (h : zR a b) (kx : ∀ c, ¬ c = 35 → ¬ c = 37 → a'.1 c = a.1 c) (h35 : a'.1 35 1 = 0) (h22 : a'.2 = a.2) (km : ∀ c, ¬ c = 91 → ¬ c = 97 → b'.1 c = b.1 c) (m4 : b'.1 91 4 = 0) (mf : ∀ i, (i = 2 ∨ i = 19 ∨ i = 38 ∨ i = 53) → b'.1 91 i = b.1 91 i) : zR a' b' := by
  obtain ⟨f, n, nu, w, ⟨hs, hi, hp, hr, hq, hh, hl, hk⟩, hf⟩ := h
  refine ⟨f, n, nu, w, ⟨(hs.x (Or.inl rfl) (fun c q => kx c (by omega) (by omega))).m (km 92 (by omega) (by omega)), ?_, ⟨0, by omega, h35, m4, fun i hi => absurd hi (Nat.not_lt_zero i)⟩, ?_, ?_, ?_, ?_, ?_⟩, ?_⟩
  · exact (hi.x (by rw [kx 0 (by omega) (by omega)]) (fun c w1 w2 => kx c (by omega) (by omega))).m (mf 2 (by omega)) (km 93 (by omega) (by omega))
  · exact (hr.x (kx _ (by omega) (by omega)) (kx _ (by omega) (by omega)) (kx _ (by omega) (by omega)) (kx _ (by omega) (by omega))).m (mf 19 (by omega)) (km _ (by omega) (by omega)) (km _ (by omega) (by omega)) (km _ (by omega) (by omega))
  · exact (hq.x (by rw [kx 0 (by omega) (by omega)]) (kx _ (by omega) (by omega))).m (mf 53 (by omega)) (km _ (by omega) (by omega))
  · exact (hh.x (fun c w1 w2 => kx c (by omega) (by omega)) (by rw [h22])).m (km _ (by omega) (by omega)) (km _ (by omega) (by omega)) (km _ (by omega) (by omega))
  · exact (hl.x (fun c w1 w2 => kx c (by omega) (by omega)) (by rw [h22])).m (km _ (by omega) (by omega)) (km _ (by omega) (by omega)) (km _ (by omega) (by omega)) (km _ (by omega) (by omega)) (km _ (by omega) (by omega))
  · exact hk.m (mf 38 (by omega)) (km _ (by omega) (by omega)) (km _ (by omega) (by omega))
  · rw [km 92 (by omega) (by omega)]
    exact hf.x (by rw [kx 0 (by omega) (by omega)]) (by rw [kx 0 (by omega) (by omega)]) (fun c w1 w2 => kx c (by omega) (by omega)) (kx _ (by omega) (by omega)) (by rw [h22])
end ZMach
