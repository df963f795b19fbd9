/-- the law out of a run of the small machine -/
theorem zt_law {p : Program} {e : Env} {s : State} {m : MethodId} {below : List Frame} {meth : Method} {c : Code} (l : Launch) {b L : Nat} {xs : Nat → Int32} (hL : L ≤ 384) (C0 : lw_At p s m meth c b L xs)
    (g0 : Nat → Nat → mx_V) (hp : ∀ xs, ∃ f h', mx_ex zc zt_x zt_rc (zt_H L xs) f 283 0 [some (.inr (.inr (some 1200000))), none, none, none] [] ([], g0) = some (some (.inl 1), h') ∧ h'.1.length ≤ 600000 ∧ mx_gs zt_nf h' ≤ 7302250) :
    W p l e room_1 s m #[Value.ref b] below meth c s.heap [] 0 0 (lw_Z below #[Value.ref b] s) (entryFrame m ([Value.ref b] : List Value).toArray 4) := by
  obtain ⟨hx, hb, hr, hml, hown, hts, hX, hbl, hlocks, hgv, hnm⟩ := C0
  obtain ⟨ad, D, cid, xs2, hA, hadb, hE⟩ := zt_begin hts hX hbl hL hgv
  obtain ⟨f, h', hex, hc1, hc2⟩ := hp xs2
  have G := zt_snd (l := l) (D := D) (cid := cid) hA f 283 0 _ _ _ _ _ hex
  rw [zt_pc0] at G
  have C : mx_C zt_x (zt_E ad s.heap.size D cid L xs2) zt_y zt_c zt_r zt_f zt_l zt_Ts 283 p room_1 s m #[Value.ref b] meth c :=
    ⟨hx, hb.trans (by rfl), hml.trans (by rfl), hr.trans (by rfl), hlocks, hown, fun w h => hts w (List.mem_filter.mp h).1, hnm.trans (by rfl), by decide +kernel, by decide +kernel, hE⟩
  rw [lg_entry_eq]
  have hl := lv_entry ([Value.ref b]) (n := 4) (Nat.le_of_ble_eq_true rfl)
  have key := G.2.2 p e room_1 s m #[Value.ref b] below meth c C s.heap [] _ 0 0 (Nat.zero_le _) (Nat.zero_le _) (by show h'.1.length - 0 ≤ 600000; omega) (by show mx_gs zt_nf h' - 0 ≤ 7302250; omega) rfl ⟨fun k q h => by simp [mx_wl] at h, rfl, Nat.zero_le _⟩ va_S.rf ⟨hl.1, hl.2.1, fun i v hi => by
    match i, hi with
    | 0, hi =>
      cases hi
      show _ = some (Slot.val (Value.ref (ad 1200000)))
      rw [hadb]
      exact hl.2.2 (0, .ref b) List.mem_cons_self
    | 1, hi => cases hi
    | 2, hi => cases hi
    | 3, hi => cases hi
    | i + 4, hi => cases hi⟩
  intro T hT X
  obtain ⟨t, a1, o, b1, b2, ⟨ho, hR, hF⟩, L2, ⟨hv, hW, e1, e2, e3, e4, e5, e6⟩, hfree⟩ := key T hT X
  refine ⟨t, a1, o, b1, b2, ho, hv, hW, e1, e2, ?_, e4, ?_, fun a cc hcc => ?_⟩
  · have : mx_gc h' = h'.1.length := rfl
    omega
  · omega
  · obtain ⟨c', g1, g2, g3, g4⟩ := e6 a cc hcc
    refine ⟨c', g1, g2, g3, fun i _ => g4 i (fun hm => ?_)⟩
    have q1 := hfree _ hm
    have q2 := (Array.getElem?_eq_some_iff.mp hcc).1
    dsimp only at q1
    omega
