/-! ===== the tables' words behind the rows ===== -/
def zt_Ts : List Jvm.Cond := lw_tbl.filter goodWord
theorem zt_mem {w : Jvm.Cond} {i : Nat} (h : lw_tbl[i]? = some w) (hg : goodWord w = true) : w ∈ zt_Ts := List.mem_filter.mpr ⟨List.mem_of_getElem? h, hg⟩
theorem zt_good : GoodIn zt_Ts zt_Ts := fun w h => ⟨h, good_of_word (List.mem_filter.mp h).2⟩
def zt_wi (i : Nat) (w : Jvm.Cond) : Bool := decide (lw_tbl[i]? = some w) && goodWord w
theorem zt_wi_ok {i : Nat} {w : Jvm.Cond} (h : zt_wi i w = true) : w ∈ zt_Ts := by
  simp only [zt_wi, Bool.and_eq_true, decide_eq_true_eq] at h
  exact zt_mem h.1 h.2
theorem zt_tab {α : Type} {T : List (List α)} {chk : Nat → α → Bool} (h : (List.range T.length).all (fun o => (T.getD o []).all (chk o)) = true) {o : Nat} {q : α} (hq : q ∈ T.getD o []) : chk o q = true := by
  by_cases ho : o < T.length
  · exact List.all_eq_true.mp (List.all_eq_true.mp h o (List.mem_range.mpr ho)) q hq
  · rw [List.getD, List.getElem?_eq_none (by omega)] at hq
    exact absurd hq List.not_mem_nil
noncomputable def zt_hC (k x : Nat) (v : Int32) : Bool := (zt_cs.getD (zt_o k) []).any (fun q => Nat.beq q.1 x && decide (q.2.1 = v))
noncomputable def zt_hC2 (k x : Nat) (v : Int64) : Bool := (zt_c2.getD (zt_o k) []).any (fun q => Nat.beq q.1 x && decide (q.2.1 = v))
noncomputable def zt_hZ (k x a : Nat) : Bool := Nat.beq (zt_o k) 9 && zt_st.any (fun q => Nat.beq q.1 x && Nat.beq q.2 a)
noncomputable def zt_hM (q a b : Nat) : Bool := Nat.beq (zt_q a) q && (Nat.beq (zt_n a) b && Nat.blt a 283)
noncomputable def zt_hL (k x a : Nat) : Bool := (zt_lk.getD (zt_o k) []).any (fun q => Nat.beq q.1 x && Nat.beq q.2.1 a)
noncomputable def zt_hN (k x a : Nat) : Bool := (zt_ns.getD (zt_o k) []).any (fun q => Nat.beq q.1 x && Nat.beq q.2 a)
theorem zt_cs_ok : (List.range zt_cs.length).all (fun o => (zt_cs.getD o []).all (fun q => zt_wi q.2.2 (.constant (zt_cn o) q.1 q.2.1))) = true := by decide +kernel
theorem zt_c2_ok : (List.range zt_c2.length).all (fun o => (zt_c2.getD o []).all (fun q => zt_wi q.2.2 (.constantLong (zt_cn o) q.1 q.2.1))) = true := by decide +kernel
theorem zt_lk_ok : (List.range zt_lk.length).all (fun o => (zt_lk.getD o []).all (fun q => zt_wi q.2.2 (.methodLink (zt_cn o) q.1 (zt_y q.2.1)))) = true := by decide +kernel
theorem zt_hCT (k x : Nat) (v : Int32) (h : zt_hC k x v = true) : Jvm.Cond.constant (zt_y k).cls x v ∈ zt_Ts := by
  obtain ⟨q, hq, h2⟩ := List.any_eq_true.mp h
  simp only [Bool.and_eq_true, decide_eq_true_eq] at h2
  have h3 := zt_wi_ok (zt_tab zt_cs_ok hq)
  rw [Nat.eq_of_beq_eq_true h2.1, h2.2] at h3
  exact h3
theorem zt_hCT2 (k x : Nat) (v : Int64) (h : zt_hC2 k x v = true) : Jvm.Cond.constantLong (zt_y k).cls x v ∈ zt_Ts := by
  obtain ⟨q, hq, h2⟩ := List.any_eq_true.mp h
  simp only [Bool.and_eq_true, decide_eq_true_eq] at h2
  have h3 := zt_wi_ok (zt_tab zt_c2_ok hq)
  rw [Nat.eq_of_beq_eq_true h2.1, h2.2] at h3
  exact h3
theorem zt_hLT (k x a : Nat) (h : zt_hL k x a = true) : Jvm.Cond.methodLink (zt_y k).cls x (zt_y a) ∈ zt_Ts := by
  obtain ⟨q, hq, h2⟩ := List.any_eq_true.mp h
  simp only [Bool.and_eq_true] at h2
  have h3 := zt_wi_ok (zt_tab zt_lk_ok hq)
  rw [Nat.eq_of_beq_eq_true h2.1, Nat.eq_of_beq_eq_true h2.2] at h3
  exact h3
