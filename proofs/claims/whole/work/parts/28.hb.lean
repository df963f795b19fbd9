/-! ===== the heap rows have their words ===== -/
theorem zt_fl_ok : (List.range zt_fl.length).all (fun o => (zt_fl.getD o []).all (fun q => match zt_cl[q.2.1]? with
  | some (_, T, N) => decide (q.2.2.1 < N) && zt_wi q.2.2.2 (.fieldLink (zt_cn o) q.1 (T q.2.2.1).1 (T q.2.2.1).2.1 (T q.2.2.1).2.2.1)
  | none => false)) = true := by decide +kernel
theorem zt_nw_ok : (List.range zt_nw.length).all (fun o => (zt_nw.getD o []).all (fun q => match zt_cl[q.2.1]? with
  | some (C, _, N) => zt_wi q.2.2.1 (.classLink (zt_cn o) q.1 C) && (zt_wi q.2.2.2.1 (.instantiable C N) && (zt_wi q.2.2.2.2 (.initialized C) && (List.range N).all (fun j => mx_dk (zt_ty q.2.1 j))))
  | none => false)) = true := by decide +kernel
theorem zt_oi_ok : (List.range zt_oi.length).all (fun o => (zt_oi.getD o []).all (fun q => zt_wi q.2 (.methodLink (zt_cn o) q.1 Lib.objectInit))) = true := by decide +kernel
theorem zt_ac_ok : (List.range zt_ac.length).all (fun o => (zt_ac.getD o []).all (fun q => zt_wi q.2 (.methodLink (zt_cn o) q.1 arraycopyName))) = true := by decide +kernel
theorem zt_mm_ok : (List.range zt_mm.length).all (fun o => (zt_mm.getD o []).all (fun q => zt_wi q.2.2 (.methodLink (zt_cn o) q.1 (cond (Nat.beq q.2.1 1) Lib.Math.max.name Lib.Math.min.name)))) = true := by decide +kernel
theorem zt_an_ok : (List.range zt_an.length).all (fun o => (zt_an.getD o []).all (fun q => zt_wi q.2.2 (.classLink (zt_cn o) q.1 (cond (Nat.beq q.2.1 5) "TickBound$Sheet" "TickBound$Slot")) && (Nat.beq q.2.1 5 || Nat.beq q.2.1 6))) = true := by decide +kernel
theorem zt_xf_ok : (List.range zt_xf.length).all (fun o => (zt_xf.getD o []).all (fun q => zt_wi q.2.2 (.fieldLink (zt_cn o) q.1 "java/lang/String" (cond (Nat.beq q.2.1 0) "value" "coder") (cond (Nat.beq q.2.1 0) "[B" "B")) && (Nat.beq q.2.1 0 || Nat.beq q.2.1 1))) = true := by decide +kernel
theorem zt_gs_ok : (List.range zt_gs.length).all (fun o => (zt_gs.getD o []).all (fun q => zt_wi q.2.2 (.fieldLink (zt_cn o) q.1 (cond (Nat.beq q.2.1 0) "TickBound" (cond (Nat.beq q.2.1 1) "java/lang/String" "jdk/internal/util/Preconditions")) (cond (Nat.beq q.2.1 0) "ABOVE" (cond (Nat.beq q.2.1 1) "COMPACT_STRINGS" "SIOOBE_FORMATTER")) (cond (Nat.beq q.2.1 0) "[I" (cond (Nat.beq q.2.1 1) "Z" "Ljava/util/function/BiFunction;"))) && (Nat.beq q.2.1 0 || (Nat.beq q.2.1 1 || Nat.beq q.2.1 2)))) = true := by decide +kernel
theorem zt_w1_ok : (zt_wi (zt_w1.getD 0 0) (.instanceMethod Lib.objectInit) && (zt_wi (zt_w1.getD 1 0) (.code Lib.objectInit ⟨#[0xb1]⟩ 1 none) && (zt_wi (zt_w1.getD 2 0) (.native arraycopyName) && (zt_wi (zt_w1.getD 3 0) (.static arraycopyName) && zt_wi (zt_w1.getD 4 0) (.initialized "java/lang/System"))))) = true := by decide +kernel
theorem zt_w2_ok : (zt_wi (zt_w2.getD 0 0) (.arrayClass .int) && (zt_wi (zt_w2.getD 1 0) (.arrayClass .byte) && (zt_wi (zt_w2.getD 2 0) (.arrayClass .boolean) && (zt_wi (zt_w2.getD 3 0) (.arrayClass .char) && zt_wi (zt_w2.getD 4 0) (.arrayClass .long))))) = true := by decide +kernel
theorem zt_w3_ok : (zt_wi (zt_w3.getD 0 0) (.static Lib.Math.max.name) && (zt_wi (zt_w3.getD 1 0) (.code Lib.Math.max.name Lib.Math.max.code 2 (some .int)) && (zt_wi (zt_w3.getD 2 0) (.static Lib.Math.min.name) && (zt_wi (zt_w3.getD 3 0) (.code Lib.Math.min.name Lib.Math.min.code 2 (some .int)) && zt_wi (zt_w3.getD 4 0) (.initialized "java/lang/Math"))))) = true := by decide +kernel
def zt_tc (t : ArrayType) : Nat := match t with
  | .int => 0
  | .byte => 1
  | .boolean => 2
  | .char => 3
  | .long => 4
  | _ => 9
/-- what a heap row must say -/
noncomputable def zt_hb (k : Nat) (r : mx_I) : Bool := match r with
  | (i, pc, nx, a, b, _, _) => cond (mx_hq i b) (mx_dc zt_c k pc i && (Nat.beq (mx_pc zc k nx) (pc + mx_ln i) && (match i with
    | .getfield x => cond (Nat.blt a 100) ((zt_fl.getD (zt_o k) []).any (fun q => Nat.beq q.1 x && (Nat.beq q.2.1 a && Nat.beq q.2.2.1 b))) ((zt_xf.getD (zt_o k) []).any (fun q => Nat.beq q.1 x && Nat.beq q.2.1 b))
    | .putfield x => (zt_fl.getD (zt_o k) []).any (fun q => Nat.beq q.1 x && (Nat.beq q.2.1 a && Nat.beq q.2.2.1 b)) && (match zt_cl[a]? with
      | some (_, T, _) => !(T b).2.2.2 || (Nat.beq (zt_q k) 1 && decide ((T b).1 = (zt_y k).cls))
      | none => false)
    | .getstatic x => (zt_gs.getD (zt_o k) []).any (fun q => Nat.beq q.1 x && Nat.beq q.2.1 a)
    | .aastore => (Nat.beq a 5 && Nat.beq b 5) || (Nat.beq a 6 && Nat.beq b 6)
    | .new x => (zt_nw.getD (zt_o k) []).any (fun q => Nat.beq q.1 x && Nat.beq q.2.1 a)
    | .newarray t => Nat.beq (zt_tc t) a && Nat.blt a 5
    | .anewarray x => (zt_an.getD (zt_o k) []).any (fun q => Nat.beq q.1 x && Nat.beq q.2.1 a)
    | .invokespecial x => (zt_oi.getD (zt_o k) []).any (fun q => Nat.beq q.1 x) && (Nat.ble 1 (zt_f k) && Nat.ble 20 (zt_l k))
    | .invokestatic x => cond (Nat.beq a 1 || Nat.beq a 2) ((zt_mm.getD (zt_o k) []).any (fun q => Nat.beq q.1 x && Nat.beq q.2.1 a)) ((zt_ac.getD (zt_o k) []).any (fun q => Nat.beq q.1 x)) && (Nat.ble 1 (zt_f k) && Nat.ble 26 (zt_l k))
    | _ => true))) true
/-- all that is asked of a row -/
noncomputable def zt_ck (k : Nat) (r : mx_I) : Bool := mx_ck zc zt_x zt_c zt_r zt_f zt_l zt_hC zt_hC2 zt_hZ zt_hM zt_hL zt_hN k r && zt_hb k r
