/-! ===== the law out of one run of the small machine ===== -/
def R_law : String := "TickBoundLaw"
def lw_P (b : Addr) (xs : List Int32) (args : Array Value) (s : State) : Prop := args = #[.ref b] ∧ s.IntsAt b xs ∧ xs.length ≤ 384 ∧ (Jvm.Cond.and given_1 narrow_1).before args s = true
def lw_Q (_ : Array Value) (s : State) (o : Outcome) (t : State) : Prop := o = .returned (some (.int 1)) ∧ Framed s o t [] 600000 7302250
def lw_Z (below : List Frame) (a : Array Value) (s : State) : State → Prop := fun t => ∃ o, t.status = .running ∧ Ended t below o ∧ lw_Q a s o t
/-- the law's own end, with 1 on the stack, nothing written that was there before, its room as the claim has it -/
theorem lw_ret {p : Program} {l : Launch} {e : Env} {s : State} {m : MethodId} {below : List Frame} {meth : Method} {c : Code} {b : Nat} (hx : p.tables.exec = Jvm.exec) (hb : c.code = code) (hr : meth.sig.returnType = ret) (hlocks : meth.locks = false) {pc : Nat} {H : Heap} {ls : Array Slot} (hdg : decode code pc = .ok (.ireturn, 1)) : W p l e room_1 s m #[Value.ref b] below meth c H [] 600000 7302250 (lw_Z below #[Value.ref b] s) (F0 m pc ls [.int 1]) := by
  intro T hT X
  obtain ⟨fs, hret, hrun, hended, hW, hframe⟩ := X.leave (v := some (.int 1)) (hlocks := hlocks) (fun h => by rw [hr] at h; cases h)
  have hmeth' : T.vm.method? m = some meth := X.method'
  refine ⟨T.setFrames fs, ?_, .returned (some (.int 1)), hrun, hended, rfl, ⟨_, rfl⟩, hW, hframe⟩
  jvm_step X.here [X.here.top, hx, hb, hdg, hmeth', hr, ret, narrow_b1]
  (try refine ⟨rfl, ?_⟩); (try refine ⟨rfl, ?_⟩)
  first | (intro acts; rw [hret _ acts rfl rfl rfl]) | rw [hret _ _ rfl rfl rfl]
  exact Steps.refl _
/-- what holds at the law's entry: the machine, the code, the tables' words (any of lw_tbl by 'hts w (by decide +kernel)'), the script of L ints xs at the cell b, what the Statement gives of the start (any of its parts by flat_of_before) -/
def lw_At (p : Program) (s : State) (m : MethodId) (meth : Method) (c : Code) (b L : Nat) (xs : Nat → Int32) : Prop :=
  p.tables.exec = Jvm.exec ∧ c.code = code ∧ meth.sig.returnType = ret ∧ c.maxLocals = 4 ∧ s.vm.findClass R_law = some m.cls ∧ (∀ w ∈ lw_tbl, w.before #[Value.ref b] s = true) ∧ va_X b L xs s s.heap ∧ b < s.heap.size ∧ meth.locks = false ∧ (Jvm.Cond.and given_1 narrow_1).before #[Value.ref b] s = true ∧ meth.name = "law"
def zt_ii : List Nat := [295, 404, 449, 140, 345, 482, 504, 134, 289, 262, 218, 126, 1271]
theorem zt_ii_ok : (List.range 13).all (fun ci => match zt_cl[ci]? with
  | some (C, _, N) => zt_wi (zt_ii.getD ci 0) (.instantiable C N)
  | none => false) = true := by decide +kernel
theorem zt_ns_ok : (List.range zt_ns.length).all (fun o => (zt_ns.getD o []).all (fun q => decide (Jvm.Cond.methodLinkNest (zt_cn o) q.1 (zt_y q.2) "TickBound" ∈ lw_tbl))) = true := by decide +kernel
def zt_tm (i : Nat) : Term := .string "TickBound$Tape" (zt_sx.getD i 0)
theorem zt_n1 : ∀ i, i < 14 → (Jvm.Cond.exactly (zt_tm i) "java/lang/String") ∈ flatC (Jvm.Cond.and given_1 narrow_1) := by decide +kernel
theorem zt_n2 : ∀ i, i < 14 → (Jvm.Cond.eq (.field (zt_tm i) "java/lang/String" "coder" "B") (.int 0)) ∈ flatC (Jvm.Cond.and given_1 narrow_1) := by decide +kernel
theorem zt_n3 : ∀ i, i < 14 → (Jvm.Cond.arrayOf (.field (zt_tm i) "java/lang/String" "value" "[B") .byte) ∈ flatC (Jvm.Cond.and given_1 narrow_1) := by decide +kernel
theorem zt_n4 : ∀ i, i < 14 → (Jvm.Cond.eq (.length (.field (zt_tm i) "java/lang/String" "value" "[B")) (.int (Int32.ofNat (zt_ln.getD i 0)))) ∈ flatC (Jvm.Cond.and given_1 narrow_1) := by decide +kernel
theorem zt_n5 : ∀ i, i < 14 → ∀ j, j < zt_ln.getD i 0 → (Jvm.Cond.eq (.elem (.field (zt_tm i) "java/lang/String" "value" "[B") (.int (Int32.ofNat j))) (.int ((zt_by.getD i []).getD j 0))) ∈ flatC (Jvm.Cond.and given_1 narrow_1) := by decide +kernel
theorem zt_n6_0 : ∀ j, j < 14 → 0 ≠ j → (Jvm.Cond.not (Jvm.Cond.eq (zt_tm 0) (zt_tm j))) ∈ flatC (Jvm.Cond.and given_1 narrow_1) ∨ (Jvm.Cond.not (Jvm.Cond.eq (zt_tm j) (zt_tm 0))) ∈ flatC (Jvm.Cond.and given_1 narrow_1) := by decide +kernel
theorem zt_n6_1 : ∀ j, j < 14 → 1 ≠ j → (Jvm.Cond.not (Jvm.Cond.eq (zt_tm 1) (zt_tm j))) ∈ flatC (Jvm.Cond.and given_1 narrow_1) ∨ (Jvm.Cond.not (Jvm.Cond.eq (zt_tm j) (zt_tm 1))) ∈ flatC (Jvm.Cond.and given_1 narrow_1) := by decide +kernel
theorem zt_n6_2 : ∀ j, j < 14 → 2 ≠ j → (Jvm.Cond.not (Jvm.Cond.eq (zt_tm 2) (zt_tm j))) ∈ flatC (Jvm.Cond.and given_1 narrow_1) ∨ (Jvm.Cond.not (Jvm.Cond.eq (zt_tm j) (zt_tm 2))) ∈ flatC (Jvm.Cond.and given_1 narrow_1) := by decide +kernel
theorem zt_n6_3 : ∀ j, j < 14 → 3 ≠ j → (Jvm.Cond.not (Jvm.Cond.eq (zt_tm 3) (zt_tm j))) ∈ flatC (Jvm.Cond.and given_1 narrow_1) ∨ (Jvm.Cond.not (Jvm.Cond.eq (zt_tm j) (zt_tm 3))) ∈ flatC (Jvm.Cond.and given_1 narrow_1) := by decide +kernel
theorem zt_n6_4 : ∀ j, j < 14 → 4 ≠ j → (Jvm.Cond.not (Jvm.Cond.eq (zt_tm 4) (zt_tm j))) ∈ flatC (Jvm.Cond.and given_1 narrow_1) ∨ (Jvm.Cond.not (Jvm.Cond.eq (zt_tm j) (zt_tm 4))) ∈ flatC (Jvm.Cond.and given_1 narrow_1) := by decide +kernel
theorem zt_n6_5 : ∀ j, j < 14 → 5 ≠ j → (Jvm.Cond.not (Jvm.Cond.eq (zt_tm 5) (zt_tm j))) ∈ flatC (Jvm.Cond.and given_1 narrow_1) ∨ (Jvm.Cond.not (Jvm.Cond.eq (zt_tm j) (zt_tm 5))) ∈ flatC (Jvm.Cond.and given_1 narrow_1) := by decide +kernel
theorem zt_n6_6 : ∀ j, j < 14 → 6 ≠ j → (Jvm.Cond.not (Jvm.Cond.eq (zt_tm 6) (zt_tm j))) ∈ flatC (Jvm.Cond.and given_1 narrow_1) ∨ (Jvm.Cond.not (Jvm.Cond.eq (zt_tm j) (zt_tm 6))) ∈ flatC (Jvm.Cond.and given_1 narrow_1) := by decide +kernel
theorem zt_n6_7 : ∀ j, j < 14 → 7 ≠ j → (Jvm.Cond.not (Jvm.Cond.eq (zt_tm 7) (zt_tm j))) ∈ flatC (Jvm.Cond.and given_1 narrow_1) ∨ (Jvm.Cond.not (Jvm.Cond.eq (zt_tm j) (zt_tm 7))) ∈ flatC (Jvm.Cond.and given_1 narrow_1) := by decide +kernel
theorem zt_n6_8 : ∀ j, j < 14 → 8 ≠ j → (Jvm.Cond.not (Jvm.Cond.eq (zt_tm 8) (zt_tm j))) ∈ flatC (Jvm.Cond.and given_1 narrow_1) ∨ (Jvm.Cond.not (Jvm.Cond.eq (zt_tm j) (zt_tm 8))) ∈ flatC (Jvm.Cond.and given_1 narrow_1) := by decide +kernel
theorem zt_n6_9 : ∀ j, j < 14 → 9 ≠ j → (Jvm.Cond.not (Jvm.Cond.eq (zt_tm 9) (zt_tm j))) ∈ flatC (Jvm.Cond.and given_1 narrow_1) ∨ (Jvm.Cond.not (Jvm.Cond.eq (zt_tm j) (zt_tm 9))) ∈ flatC (Jvm.Cond.and given_1 narrow_1) := by decide +kernel
theorem zt_n6_10 : ∀ j, j < 14 → 10 ≠ j → (Jvm.Cond.not (Jvm.Cond.eq (zt_tm 10) (zt_tm j))) ∈ flatC (Jvm.Cond.and given_1 narrow_1) ∨ (Jvm.Cond.not (Jvm.Cond.eq (zt_tm j) (zt_tm 10))) ∈ flatC (Jvm.Cond.and given_1 narrow_1) := by decide +kernel
theorem zt_n6_11 : ∀ j, j < 14 → 11 ≠ j → (Jvm.Cond.not (Jvm.Cond.eq (zt_tm 11) (zt_tm j))) ∈ flatC (Jvm.Cond.and given_1 narrow_1) ∨ (Jvm.Cond.not (Jvm.Cond.eq (zt_tm j) (zt_tm 11))) ∈ flatC (Jvm.Cond.and given_1 narrow_1) := by decide +kernel
theorem zt_n6_12 : ∀ j, j < 14 → 12 ≠ j → (Jvm.Cond.not (Jvm.Cond.eq (zt_tm 12) (zt_tm j))) ∈ flatC (Jvm.Cond.and given_1 narrow_1) ∨ (Jvm.Cond.not (Jvm.Cond.eq (zt_tm j) (zt_tm 12))) ∈ flatC (Jvm.Cond.and given_1 narrow_1) := by decide +kernel
theorem zt_n6_13 : ∀ j, j < 14 → 13 ≠ j → (Jvm.Cond.not (Jvm.Cond.eq (zt_tm 13) (zt_tm j))) ∈ flatC (Jvm.Cond.and given_1 narrow_1) ∨ (Jvm.Cond.not (Jvm.Cond.eq (zt_tm j) (zt_tm 13))) ∈ flatC (Jvm.Cond.and given_1 narrow_1) := by decide +kernel
theorem zt_n6 (i : Nat) (hi : i < 14) (j : Nat) (hj : j < 14) (hij : i ≠ j) : (Jvm.Cond.not (Jvm.Cond.eq (zt_tm i) (zt_tm j))) ∈ flatC (Jvm.Cond.and given_1 narrow_1) ∨ (Jvm.Cond.not (Jvm.Cond.eq (zt_tm j) (zt_tm i))) ∈ flatC (Jvm.Cond.and given_1 narrow_1) := by
  match i, hi, hij with
  | 0, _, h => exact zt_n6_0 j hj h
  | 1, _, h => exact zt_n6_1 j hj h
  | 2, _, h => exact zt_n6_2 j hj h
  | 3, _, h => exact zt_n6_3 j hj h
  | 4, _, h => exact zt_n6_4 j hj h
  | 5, _, h => exact zt_n6_5 j hj h
  | 6, _, h => exact zt_n6_6 j hj h
  | 7, _, h => exact zt_n6_7 j hj h
  | 8, _, h => exact zt_n6_8 j hj h
  | 9, _, h => exact zt_n6_9 j hj h
  | 10, _, h => exact zt_n6_10 j hj h
  | 11, _, h => exact zt_n6_11 j hj h
  | 12, _, h => exact zt_n6_12 j hj h
  | 13, _, h => exact zt_n6_13 j hj h
  | i + 14, h, _ => exact absurd h (by omega)
theorem zt_n7 : (Jvm.Cond.arrayOf (.static "TickBound" "ABOVE" "[I") .int) ∈ flatC (Jvm.Cond.and given_1 narrow_1) ∧ (Jvm.Cond.eq (.length (.static "TickBound" "ABOVE" "[I")) (.int 8)) ∈ flatC (Jvm.Cond.and given_1 narrow_1) ∧ (Jvm.Cond.eq (.static "java/lang/String" "COMPACT_STRINGS" "Z") (.int 1)) ∈ flatC (Jvm.Cond.and given_1 narrow_1) := by decide +kernel
theorem zt_n8 : ∀ j, j < 8 → (Jvm.Cond.eq (.elem (.static "TickBound" "ABOVE" "[I") (.int (Int32.ofNat j))) (.int (zt_ab j))) ∈ flatC (Jvm.Cond.and given_1 narrow_1) := by decide +kernel
theorem zt_n9 : ∀ i, i < 14 → (Jvm.Cond.stringRef "TickBound$Tape" (zt_sx.getD i 0) (zt_tx.getD i "")) ∈ lw_tbl := by decide +kernel
theorem zt_n10 : (Jvm.Cond.isRef (.static "jdk/internal/util/Preconditions" "SIOOBE_FORMATTER" "Ljava/util/function/BiFunction;")) ∈ flatC (Jvm.Cond.and given_1 narrow_1) := by decide +kernel
