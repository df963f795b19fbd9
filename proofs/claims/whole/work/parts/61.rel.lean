/-! ===== what holds of the class's half and the reference's half between two calls ===== -/
abbrev zF : Type := Nat → Int32
/-- the line that an order tells -/
def zs_line (k b c : Int32) : Int32 := if k = 1 ∨ k = 2 then (if b = 4 then c / 2 else -1) else -2
/-- an order as it may be told -/
def zs_good (k a b c : Int32) : Prop := (∃ r, r < 4 ∧ a = nI r) ∧ ((k = 0 ∧ (∃ r, r < 4 ∧ b = nI r)) ∨ ((k = 1 ∨ k = 2) ∧ ((∃ r, r < 4 ∧ b = nI r) ∨ (b = 4 ∧ ∃ r, r < 32 ∧ c = nI r))) ∨ ((k = 3 ∨ k = 4) ∧ ∃ r, r ≤ 28 ∧ b = nI r) ∨ ((k = 5 ∨ k = 6) ∧ (∃ r, r < 4 ∧ b = nI r) ∧ ∃ r, r < 4 ∧ c = nI r) ∨ k = 7)
/-- where an order leads: f is the reference's row -/
def zs_lead (f : zF) (n k t : Nat) : Bool :=
  if f (12 + 4 * k) = 3 then decide (t = min (f (14 + 4 * k)).toNatClampNeg n ∨ t = k + 1)
  else if f (12 + 4 * k) = 4 then decide (t = min (f (14 + 4 * k)).toNatClampNeg n)
  else if f (12 + 4 * k) = 7 then (if t < n then decide ((f (124 + k) >>> (nI t &&& 31)) &&& 1 = 1) else decide (¬ f (124 + k) >>> (nI n &&& 31) = 0))
  else decide (t = k + 1)
def zs_ts (f : zF) (n k : Nat) : List Nat := (List.range (n + 1)).filter (zs_lead f n k)
/-- the edges of the first k orders -/
def zs_es (f : zF) (n k : Nat) : List (Nat × Nat) := (List.range k).flatMap fun j => (zs_ts f n j).map fun t => (j, t)
/-- a machine's row -/
def zs_mach (f : zF) : Prop := ((f 0 = 1 ∨ f 0 = 2 ∨ f 0 = 4) ∧ (f 1 = 1 ∨ f 1 = 2 ∨ f 1 = 4)) ∧ (∃ r, r ≤ 2 ∧ f 2 = nI r) ∧ (∃ r, r ≤ 99 ∧ f 3 = nI r) ∧ (∃ r, r ≤ 9 ∧ f 4 = nI r) ∧ (∃ r, r ≤ 2 ∧ f 5 = nI r) ∧ (∃ r, r ≤ 9 ∧ f 6 = nI r) ∧ (∃ r, r ≤ 9 ∧ f 7 = nI r)
/-- a number of a turn, as the reference has it and as the class has it -/
def zs_nb (x : Int32) : Int32 := if x = 0 then -1000000005 else x - 1
/-- a state: s the class's cell, m the reference's row, n orders, w works -/
def zR_o (s m : Nat) (a b : zd_D) (n : Nat) : Prop := (a.1 (s + 2) 0 = nI n ∧ b.1 m 8 = nI n ∧ n ≤ 28) ∧
  (∀ k, k < n → a.1 (s + 3) k = b.1 m (12 + 4 * k) ∧ a.1 (s + 4) k = b.1 m (13 + 4 * k) ∧ a.1 (s + 5) k = b.1 m (14 + 4 * k) ∧ a.1 (s + 6) k = b.1 m (15 + 4 * k) ∧ a.1 (s + 7) k = b.1 m (124 + k) ∧ a.1 (s + 8) k = zs_line (b.1 m (12 + 4 * k)) (b.1 m (14 + 4 * k)) (b.1 m (15 + 4 * k)) ∧ zs_good (b.1 m (12 + 4 * k)) (b.1 m (13 + 4 * k)) (b.1 m (14 + 4 * k)) (b.1 m (15 + 4 * k)) ∧ ∃ p, p < 2 ^ 29 ∧ b.1 m (124 + k) = nI p)
/-- the class's edges -/
def zR_e (s m : Nat) (a b : zd_D) (n : Nat) : Prop := a.1 (s + 2) 7 = nI (zs_es (b.1 m) n n).length ∧ (∀ k, k ≤ n → a.1 (s + 9) k = nI (zs_es (b.1 m) n k).length) ∧
  (∀ e, e < (zs_es (b.1 m) n n).length → a.1 (s + 10) e = nI ((zs_es (b.1 m) n n).getD e (0, 0)).1 ∧ a.1 (s + 11) e = nI ((zs_es (b.1 m) n n).getD e (0, 0)).2)
/-- told numbers -/
def zR_t (s m : Nat) (a b : zd_D) (n : Nat) : Prop := ∀ e, e < (zs_es (b.1 m) n n).length → a.1 (s + 12) e = zs_nb (b.1 m (200 + e)) ∧ ∃ r, r ≤ 10 ∧ b.1 m (200 + e) = nI r ∧ (0 < r → ((zs_es (b.1 m) n n).getD e (0, 0)).2 ≤ ((zs_es (b.1 m) n n).getD e (0, 0)).1)
def zR_m (s m : Nat) (a b : zd_D) : Prop := (∀ i, i < 8 → a.1 (s + 1) i = b.1 m i) ∧ zs_mach (b.1 m) ∧ (a.1 s 4 = b.1 m 9 ∧ ∃ r, r < 65536 ∧ b.1 m 9 = nI r) ∧ (∀ i, i < 32 → a.1 (s + 13) i = b.1 m (152 + i))
def zR_w (s m : Nat) (a b : zd_D) (w : Nat) : Prop := (a.1 (s + 14) 0 = nI w ∧ b.1 m 10 = nI w ∧ w ≤ 8) ∧ ∀ i, i < w → a.1 (s + 15) i = b.1 m (184 + 2 * i) ∧ a.1 (s + 16) i = b.1 m (185 + 2 * i) ∧ (∃ r, 1 ≤ r ∧ r ≤ 9999 ∧ b.1 m (184 + 2 * i) = nI r) ∧ ∃ r, 1 ≤ r ∧ r ≤ 9999 ∧ b.1 m (185 + 2 * i) = nI r
def zR_s (s m : Nat) (a b : zd_D) (n w : Nat) : Prop := zR_m s m a b ∧ zR_o s m a b n ∧ zR_e s m a b n ∧ zR_t s m a b n ∧ zR_w s m a b w
/-- the text that waits -/
def zR_p (a b : zd_D) : Prop := ∃ t, t ≤ 96 ∧ a.1 35 1 = nI t ∧ b.1 91 4 = nI t ∧ ∀ i, i < t → ∃ r, r < 256 ∧ b.1 94 i = nI r ∧ a.1 36 i = (nI r).toInt8.toInt32
/-- the latest run -/
def zR_r (a b : zd_D) : Prop := (a.1 45 0 = 0 ∧ b.1 91 19 = 0) ∨ (a.1 45 0 = 1 ∧ b.1 91 19 = 1 ∧ (∃ u, u ≤ 600 ∧ a.1 45 2 = nI u ∧ b.1 102 1 = nI u ∧ ∀ i, i < u → a.1 47 i = b.1 103 i ∧ a.1 48 i = b.1 104 i) ∧ a.1 45 1 = b.1 102 0 ∧ a.1 45 3 = b.1 102 2 ∧ a.1 45 4 = b.1 102 3 ∧ a.1 45 5 = b.1 102 4 ∧ a.1 45 6 = b.1 102 5 ∧ (∀ r, r < 4 → a.1 46 r = b.1 102 (6 + r)) ∧ (a.1 45 7 = b.1 102 10 ∧ (b.1 102 10 = 0 ∨ b.1 102 10 = 1)) ∧ a.1 45 8 = b.1 102 11 ∧ a.1 45 9 = b.1 102 12)
/-- what waits -/
def zR_q (a b : zd_D) : Prop := ∃ u, u ≤ 60 ∧ a.1 0 14 = nI u ∧ b.1 91 53 = nI u ∧ ∀ i, i < u → a.1 64 i = b.1 129 i
/-- one sheet: c the class's cell, j the reference's row -/
def zR_1 (a b : zd_D) (c j : Nat) : Prop := (a.1 c 0 = 0 ∧ b.1 123 j = -1) ∨ (a.1 c 0 = 1 ∧ (∃ r, r < 4 ∧ a.1 c 1 = nI r ∧ b.1 123 j = nI r) ∧ (∃ z, z ≤ 32 ∧ a.1 c 2 = nI z ∧ b.1 124 j = nI z) ∧ ∀ i, i < 32 → a.2.1 (c + 1) i = (b.1 125 (32 * j + i)).toInt64)
def zR_h (a b : zd_D) : Prop := ∀ j, j < 4 → zR_1 a b (65 + 2 * j) j
/-- one slot -/
def zR_2 (a b : zd_D) (j : Nat) : Prop := ∃ r, r < 4 ∧ a.1 (73 + 3 * j) 0 = nI r ∧ b.1 127 j = nI r ∧ (r = 1 → a.1 (73 + 3 * j) 1 = b.1 128 (4 * j) ∧ a.1 (73 + 3 * j) 2 = zs_line (b.1 128 (4 * j)) (b.1 128 (4 * j + 2)) (b.1 128 (4 * j + 3)) ∧ zs_good (b.1 128 (4 * j)) (b.1 128 (4 * j + 1)) (b.1 128 (4 * j + 2)) (b.1 128 (4 * j + 3))) ∧ (r = 2 → zR_1 a b (74 + 3 * j) (4 + j) ∧ a.1 (74 + 3 * j) 0 = 1)
def zR_l (a b : zd_D) : Prop := ∀ j, j < 6 → zR_2 a b j
def zR_i (a b : zd_D) : Prop := (a.1 0 2 = 0 ∧ b.1 91 2 = 0) ∨ (a.1 0 2 = 1 ∧ b.1 91 2 = 1 ∧ ∃ n w, zR_s 18 93 a b n w)
/-- the reference's own words -/
def zs_let (i : Nat) : Int32 := ([115, 101, 116, 115, 119, 97, 121, 115, 114, 117, 108, 101, 109, 105, 115, 115, 119, 114, 111, 110, 103, 103, 117, 101, 115, 115, 115, 116, 97, 108, 108, 108, 111, 110, 103, 97, 103, 101, 116, 117, 114, 110, 116, 114, 101, 101, 110, 101, 118, 101, 114, 97, 108, 119, 97, 121, 115, 108, 97, 115, 116] : List Int32).getD i 0
def zs_beg (i : Nat) : Nat := ([0, 4, 8, 12, 16, 21, 26, 31, 35, 38, 42, 46, 51, 57, 61] : List Nat).getD i 0
def zR_k (b : zd_D) : Prop := (∀ i, i < 61 → b.1 95 i = zs_let i) ∧ (∀ i, i < 15 → b.1 96 i = nI (zs_beg i)) ∧ b.1 91 38 = -1
/-! what must and what may be there -/
def zs_ln (f : zF) (k : Nat) : Int32 := zs_line (f (12 + 4 * k)) (f (14 + 4 * k)) (f (15 + 4 * k))
def zs_lk (lk : Int32) (q : Nat) : Prop := (lk >>> (nI q &&& 31)) &&& 1 = 1
def zs_rem (f : zF) : Nat := if f 2 = 0 then (f 1).toNatClampNeg else if f 2 = 1 then 1 else if f 1 = 4 then 3 else (f 1).toNatClampNeg
/-- ages behind an order -/
def zs_af (f : zF) (lk : Int32) (X : Nat → Nat → Nat) (k l : Nat) : Nat :=
  if zs_ln f k = -2 then X k l
  else if zs_ln f k = -1 then (if X k l < zs_rem f then X k l + 1 else X k l)
  else if (lk >>> (zs_ln f k &&& 31)) &&& 1 = 1 ∨ ¬ (zs_ln f k).toNatClampNeg % (f 0).toNatClampNeg = l % (f 0).toNatClampNeg then X k l
  else if (zs_ln f k).toNatClampNeg = l then 0
  else if X k l < X k (zs_ln f k).toNatClampNeg then X k l + 1 else X k l
def zs_mc (f : zF) (n : Nat) (lk : Int32) (X : Nat → Nat → Nat) : Prop := (∀ l, l < 16 → zs_rem f ≤ X 0 l) ∧ ∀ p ∈ zs_es f n n, p.2 < n → ∀ l, l < 16 → zs_af f lk X p.1 l ≤ X p.2 l
def zs_must (f : zF) (n : Nat) (lk : Int32) (X : Nat → Nat → Nat) : Prop := zs_mc f n lk X ∧ (∀ k l, X k l ≤ zs_rem f) ∧ ∀ Y, zs_mc f n lk Y → ∀ k l, k < n → l < 16 → X k l ≤ Y k l
/-- lines that may be there behind an order -/
def zs_vf (f : zF) (lk : Int32) (V : Nat → Int32) (k : Nat) : Int32 :=
  if zs_ln f k = -2 then V k else if zs_ln f k = -1 then V k ||| 65535 else if (lk >>> (zs_ln f k &&& 31)) &&& 1 = 1 then V k else V k ||| ((1 : Int32) <<< (zs_ln f k &&& 31))
def zs_vc (f : zF) (n : Nat) (lk : Int32) (V : Nat → Int32) : Prop := ∀ p ∈ zs_es f n n, p.2 < n → V p.2 ||| zs_vf f lk V p.1 = V p.2
def zs_may (f : zF) (n : Nat) (lk : Int32) (V : Nat → Int32) : Prop := zs_vc f n lk V ∧ (∀ k, ∃ r, r < 65536 ∧ V k = nI r) ∧ ∀ U, zs_vc f n lk U → ∀ k, k < n → U k ||| V k = U k
/-- whether a load hits for sure; costs -/
def zs_hit (f : zF) (lk : Int32) (X : Nat → Nat → Nat) (k : Nat) : Bool := decide (¬ zs_ln f k < 0 ∧ ((lk >>> (zs_ln f k &&& 31)) &&& 1 = 1 ∨ X k (zs_ln f k).toNatClampNeg < zs_rem f))
def zs_cb (f : zF) (k ms : Int32) (hit : Bool) : Int32 :=
  if k = 1 then 1 + (if hit then 0 else ms) else if k = 2 then 2 + (if hit then 0 else ms) else if k = 3 then 1 + f 4 else if k = 4 then 2 else if k = 5 then 1 + 8 * f 7 else if k = 6 then 3 + 8 * f 7 else if k = 7 then 2 else 1
def zs_cost (f : zF) (lk ms : Int32) (X : Nat → Nat → Nat) (k : Nat) : Int32 := zs_cb f (f (12 + 4 * k)) ms (zs_hit f lk X k)
def zs_rd (f : zF) (k : Nat) (r : Int32) : Bool :=
  if f (12 + 4 * k) = 0 ∨ f (12 + 4 * k) = 1 then decide (f (14 + 4 * k) = r)
  else if f (12 + 4 * k) = 2 then decide (f (13 + 4 * k) = r ∨ f (14 + 4 * k) = r)
  else if f (12 + 4 * k) = 3 ∨ f (12 + 4 * k) = 7 then decide (f (13 + 4 * k) = r)
  else if f (12 + 4 * k) = 5 ∨ f (12 + 4 * k) = 6 then decide (f (14 + 4 * k) = r ∨ f (15 + 4 * k) = r)
  else false
/-- whether an order stalls behind another -/
def zs_sta (f : zF) (k t : Nat) : Bool := decide (f (12 + 4 * k) = 1) && zs_rd f t (f (13 + 4 * k))
def zs_ec (f : zF) (n : Nat) (lk ms : Int32) (X : Nat → Nat → Nat) (p : Nat × Nat) : Int32 := zs_cost f lk ms X p.1 + (if p.2 < n ∧ zs_sta f p.1 p.2 = true then f 6 else 0)
/-- own factors -/
def zs_own (f : zF) (n : Nat) (lk ms : Int32) (X : Nat → Nat → Nat) (O : Nat → Int32) : Prop := O n = 0 ∧ ∀ k, k < n → O k = ((zs_ts f n k).filter (fun t => decide (k < t))).foldl (fun m t => if m < zs_ec f n lk ms X (k, t) + O t then zs_ec f n lk ms X (k, t) + O t else m) 0
/-- the class's rows of what must and may be there speak of (lk, ms) -/
def zR_fl (a b : zd_D) (n : Nat) (lk ms : Int32) : Prop := a.1 53 4 = lk ∧ a.1 53 3 = nI (zs_rem (b.1 92)) ∧ ∃ X V O, zs_must (b.1 92) n lk X ∧ zs_may (b.1 92) n lk V ∧ zs_own (b.1 92) n lk ms X O ∧
  (∀ k l, k < n → l < 16 → a.1 54 (16 * k + l) = nI (X k l)) ∧ (∀ k, k < n → a.1 55 k = V k) ∧ (∀ k, k < n → a.1 57 k = zs_cost (b.1 92) lk ms X k) ∧ (∀ e, e < (zs_es (b.1 92) n n).length → a.1 58 e = zs_ec (b.1 92) n lk ms X ((zs_es (b.1 92) n n).getD e (0, 0))) ∧ ∀ k, k ≤ n → a.1 59 k = O k
