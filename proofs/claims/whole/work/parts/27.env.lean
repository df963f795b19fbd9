/-! ===== what was there before: constants, texts, the script; the heap rows have their words ===== -/
def zt_ly : List (List Nat) := [[307, 309, 311, 313, 315, 317, 319], [425, 427, 429, 431, 433, 435, 437, 439, 441, 443, 445], [463, 465, 467, 469, 471, 473, 475], [191, 193, 195, 197, 199, 201, 203, 205, 207, 209, 211, 213], [376, 378, 380, 382, 384, 386, 388, 390, 392, 394, 396, 398, 400], [494, 496, 498, 500], [519, 521, 523, 525], [250, 252, 254, 256, 258], [329, 331, 333, 335, 337, 339, 341], [274, 276, 278, 280, 282, 284], [227, 229, 231], [543, 545, 547, 549, 551, 553, 555, 557, 559, 561, 563, 565, 567, 569, 571], [1331, 1333, 1335, 1337, 1339, 1341, 1343, 1345, 1347, 1349, 1351, 1353, 1355, 1357, 1359, 1361, 1363, 1365, 1367, 1369, 1371, 1373, 1375, 1377, 1379, 1381, 1383, 1385, 1387, 1389, 1391, 1393, 1395, 1397, 1399, 1401, 1403, 1405, 1407, 1409, 1411, 1413, 1415, 1417, 1419, 1421, 1423, 1425, 1427, 1429, 1431, 1433, 1435, 1437, 1439]]
def zt_sx : List Nat := [82, 84, 86, 88, 90, 92, 94, 96, 98, 100, 102, 108, 110, 112]
def zt_tx : List String := ["sets", "ways", "rule", "miss", "wrong", "guess", "stall", "long", "age", "turn", "tree", "never", "always", "last"]
def zt_ln : List Nat := [4, 4, 4, 4, 5, 5, 5, 4, 3, 4, 4, 5, 6, 4]
def zt_by : List (List Int32) := [[115, 101, 116, 115], [119, 97, 121, 115], [114, 117, 108, 101], [109, 105, 115, 115], [119, 114, 111, 110, 103], [103, 117, 101, 115, 115], [115, 116, 97, 108, 108], [108, 111, 110, 103], [97, 103, 101], [116, 117, 114, 110], [116, 114, 101, 101], [110, 101, 118, 101, 114], [97, 108, 119, 97, 121, 115], [108, 97, 115, 116]]
def zt_ab (j : Nat) : Int32 := [-1, 0, 1, 0, 3, 0, 5, 4].getD j 0
def zt_tys (cid : Nat → ClassId) : List (ClassId × FieldType) := (List.range 7).map (fun t => (cid t, mx_ty t))
theorem zt_tys_at (cid : Nat → ClassId) (t : Nat) (ht : t < 7) : (zt_tys cid)[t]? = some (cid t, mx_ty t) := by
  unfold zt_tys
  rw [List.getElem?_map, List.getElem?_range ht]
  rfl
/-- what a state must hold beside the small machine's heap -/
def zt_E (ad : Nat → Nat) (bs : Nat) (D : va_G) (cid : Nat → ClassId) (n : Nat) (xs : Nat → Int32) (U : State) : Prop :=
  va_K D zt_cl (zt_tys cid) U ∧ (va_AO "TickBound$Sheet" U ∧ va_AO "TickBound$Slot" U) ∧ (∀ o q, q ∈ zt_ns.getD o [] → va_Nw (.methodLinkNest (zt_cn o) q.1 (zt_y q.2) "TickBound") U) ∧
  (va_Z "TickBound" "ABOVE" "[I" (.ref (ad 1000000)) (fun q => bs ≤ q) U U.heap ∧ va_T .int (ad 1000000) 8 (fun j => .int (zt_ab j)) (fun q => bs ≤ q) U U.heap) ∧ (va_Z "java/lang/String" "COMPACT_STRINGS" "Z" (.int 1) (fun q => bs ≤ q) U U.heap ∧ va_Z "jdk/internal/util/Preconditions" "SIOOBE_FORMATTER" "Ljava/util/function/BiFunction;" (mx_rv ad (.inr (.inr (if xs 1000000 = 0 then none else some 1300000)))) (fun q => bs ≤ q) U U.heap) ∧
  ((∀ i, i < 14 → vk_R "TickBound$Tape" (zt_sx.getD i 0) (zt_tx.getD i "") (ad (1000001 + i)) U) ∧ vk_S 14 zt_ln zt_by (fun i => ad (1000001 + i)) (fun i => ad (1100001 + i)) (fun q => bs ≤ q) U U.heap) ∧
  va_T .int (ad 1200000) n (fun j => .int (xs j)) (fun q => bs ≤ q) U U.heap
def zt_xF (_ b o : Nat) : Option mx_V := cond (Nat.ble 1000001 o && Nat.ble o 1000014) (match b with
  | 0 => some (.inr (.inr (some (o + 100000))))
  | _ => some (.inl 0)) none
def zt_xS (xs : Nat → Int32) (a : Nat) : mx_V := match a with
  | 0 => .inr (.inr (some 1000000))
  | 1 => .inl 1
  | _ => .inr (.inr (if xs 1000000 = 0 then none else some 1300000))
def zt_xA (n : Nat) (xs : Nat → Int32) : mx_XA := fun c => cond (Nat.beq c 1000000) (some (0, 8, zt_ab)) (cond (Nat.beq c 1200000) (some (0, n, xs)) (cond (Nat.ble 1100001 c && Nat.ble c 1100014) (some (1, zt_ln.getD (c - 1100001) 0, fun j => (zt_by.getD (c - 1100001) []).getD j 0)) none))
section ZtE
variable {ad : Nat → Nat} {bs : Nat} {D : va_G} {cid : Nat → ClassId} {n : Nat} {xs : Nat → Int32}
theorem zt_E1 (s0 U : State) (locs : List Loc) (h : zt_E ad bs D cid n xs s0) (hS : va_S (fun q => bs ≤ q) s0.heap U.heap locs) (hW : s0.WarmedH U.vm) : zt_E ad bs D cid n xs U := by
  obtain ⟨h1, ⟨h2, h3⟩, h4, ⟨h5, h6⟩, ⟨h7, h7b⟩, ⟨h8, h9⟩, h10⟩ := h
  have hk : ∀ a : Nat, a < s0.heap.size → ¬ bs ≤ a → U.heap[a]? = s0.heap[a]? := hS.2.1
  exact ⟨va_K.moved hW.alike h1, ⟨va_AO.moved hW.alike h2, va_AO.moved hW.alike h3⟩, fun o q hq => va_Nw.warmM hW (h4 o q hq), ⟨(va_Z.moved hW.alike h5).kept hk, (va_T.moved hW.alike h6).kept hk⟩, ⟨(va_Z.moved hW.alike h7).kept hk, (va_Z.moved hW.alike h7b).kept hk⟩, ⟨fun i hi => vk_R.warm hW (h8 i hi), (vk_S.moved hW.alike h9).kept hk⟩, (va_T.moved hW.alike h10).kept hk⟩
theorem zt_E2 (U : State) (g : JFrame) (mk : MethodId) (a : Array Value) (h : zt_E ad bs D cid n xs U) : zt_E ad bs D cid n xs (U.calling g mk a) := by
  obtain ⟨h1, ⟨h2, h3⟩, h4, ⟨h5, h6⟩, ⟨h7, h7b⟩, ⟨h8, h9⟩, h10⟩ := h
  have hA : U.vm.Alike (U.calling g mk a).vm := Vm.Alike.refl U.vm
  exact ⟨va_K.moved hA h1, ⟨va_AO.moved hA h2, va_AO.moved hA h3⟩, fun o q hq => va_Nw.same rfl rfl (h4 o q hq), ⟨va_Z.moved hA h5, va_T.moved hA h6⟩, ⟨va_Z.moved hA h7, va_Z.moved hA h7b⟩, ⟨fun i hi => vk_R.same rfl (h8 i hi), vk_S.moved hA h9⟩, va_T.moved hA h10⟩
end ZtE

