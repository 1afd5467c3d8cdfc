/-! THE STATES: rows and numbers of the class (18 cells at ad 0 .. ad 17), of the reference (16 cells at ad 0 .. ad 15), the law's answer row -/
def zT (cI cZ cL : ClassId) : List (ClassId × FieldType) := [(cI, .int), (cZ, .boolean), (cL, .long)]
/-- the class: rows 0 members 1 forecasts 2 meters 3 prices 4 parts 5 stores 6 bills 7 lefts 8 limits 9 flows 10 ways, of the book 11 sellers 12 buyers 13 units 14 cuts 15 prices; numbers 0 sells 1 buys 2 pool 3 supplied 4 quarter 5 the book's count -/
def Gp (ad : Nat → Nat) (cI cZ : ClassId) (u : GS) : va_W :=
  [(ad 0, .inr (1, [.ref (ad 1), .ref (ad 2), .ref (ad 3), .ref (ad 4), .ref (ad 5), .ref (ad 6), .ref (ad 7), .ref (ad 8), .ref (ad 9), .ref (ad 10), .ref (ad 11), .ref (ad 12), .int (iZ (u.2 0)), .int (iZ (u.2 1)), .int (iZ (u.2 2)), .int (iZ (u.2 3)), .int (iZ (u.2 4))])),
   (ad 1, .inl (cZ, 6, .inl (zF (u.1 0)))), (ad 2, .inl (cI, 6, .inl (zF (u.1 1)))), (ad 3, .inl (cI, 6, .inl (zF (u.1 2)))), (ad 4, .inl (cI, 6, .inl (zF (u.1 3)))), (ad 5, .inl (cI, 6, .inl (zF (u.1 4)))), (ad 6, .inl (cI, 6, .inl (zF (u.1 5)))), (ad 7, .inl (cI, 6, .inl (zF (u.1 6)))), (ad 8, .inl (cI, 6, .inl (zF (u.1 7)))),
   (ad 9, .inl (cI, 5, .inl (zF (u.1 8)))), (ad 10, .inl (cI, 5, .inl (zF (u.1 9)))), (ad 11, .inl (cI, 6, .inl (zF (u.1 10))))]
def Bw (ad : Nat → Nat) (cI : ClassId) (u : GS) : va_W :=
  [(ad 12, .inr (0, [.ref (ad 13), .ref (ad 14), .ref (ad 15), .ref (ad 16), .ref (ad 17), .int (iZ (u.2 5))])),
   (ad 13, .inl (cI, 6, .inl (zF (u.1 11)))), (ad 14, .inl (cI, 6, .inl (zF (u.1 12)))), (ad 15, .inl (cI, 6, .inl (zF (u.1 13)))), (ad 16, .inl (cI, 6, .inl (zF (u.1 14)))), (ad 17, .inl (cI, 6, .inl (zF (u.1 15))))]
def Gw (ad : Nat → Nat) (cI cZ : ClassId) (u : GS) : va_W := Gp ad cI cZ u ++ (Bw ad cI u ++ [])
/-- the reference: rows 0 forecasts 1 meters 2 prices 3 limits 4 parts 5 stores 6 bills 7 gone 8 sellers 9 buyers 10 units 11 costs 12 went 13 flows 14 left; numbers 0 sells 1 buys 2 pool 3 supplied 4 quarter 5 trades 6 last -/
def Mw (ad : Nat → Nat) (cI cZ : ClassId) (u : GS) : va_W :=
  [(ad 0, .inr (2, [.ref (ad 1), .ref (ad 2), .ref (ad 3), .ref (ad 4), .ref (ad 5), .ref (ad 6), .ref (ad 7), .ref (ad 8), .int (iZ (u.2 0)), .int (iZ (u.2 1)), .int (iZ (u.2 2)), .int (iZ (u.2 3)), .int (iZ (u.2 4)), .ref (ad 9), .ref (ad 10), .ref (ad 11), .ref (ad 12), .int (iZ (u.2 5)), .ref (ad 13), .ref (ad 14), .ref (ad 15), .int (iZ (u.2 6))])),
   (ad 1, .inl (cI, 6, .inl (zF (u.1 0)))), (ad 2, .inl (cI, 6, .inl (zF (u.1 1)))), (ad 3, .inl (cI, 6, .inl (zF (u.1 2)))), (ad 4, .inl (cI, 5, .inl (zF (u.1 3)))), (ad 5, .inl (cI, 6, .inl (zF (u.1 4)))), (ad 6, .inl (cI, 6, .inl (zF (u.1 5)))), (ad 7, .inl (cI, 6, .inl (zF (u.1 6)))), (ad 8, .inl (cZ, 6, .inl (zF (u.1 7)))),
   (ad 9, .inl (cI, 36, .inl (zF (u.1 8)))), (ad 10, .inl (cI, 36, .inl (zF (u.1 9)))), (ad 11, .inl (cI, 36, .inl (zF (u.1 10)))), (ad 12, .inl (cI, 36, .inl (zF (u.1 11)))), (ad 13, .inl (cI, 6, .inl (zF (u.1 12)))), (ad 14, .inl (cI, 5, .inl (zF (u.1 13)))), (ad 15, .inl (cI, 6, .inl (zF (u.1 14))))]
/-! THE CLASS, as functions of its state -/
def f_rankS (P : Int → Int) (h : Int) : Int → Int → Int := fun o r => if P h < P o ∨ (P o = P h ∧ o < h) then r + 1 else r
def f_rank (P : Int → Int) (h : Int) : Int := zfor 6 (f_rankS P h) 0
def f_better (P : Int → Int) (h best b : Int) : Int := if P h ≠ P best then (if P h < P best then 1 else 0) else (if zabs (h - b) < zabs (best - b) then 1 else 0)
def f_bestS (L P : Int → Int) (b : Int) : Int → Int → Int := fun h best => if 0 < L h ∧ P h ≤ P b ∧ (best < 0 ∨ f_better P h best b ≠ 0) then h else best
def f_best (L P : Int → Int) (b : Int) : Int := zfor 6 (f_bestS L P b) (-1)
def f_add (u : GS) (s b x p : Int) : GS := if 6 ≤ u.2 5 then u else gV (gA (gA (gA (gA (gA u 11 (u.2 5) s) 12 (u.2 5) b) 13 (u.2 5) x) 14 (u.2 5) 0) 15 (u.2 5) p) 5 (u.2 5 + 1)
def f_tradeL (u : GS) (s b : Int) : GS := gA (gA u 7 s (u.1 7 s - zmin (u.1 7 s) (-(u.1 7 b)))) 7 b (updZ (u.1 7) s (u.1 7 s - zmin (u.1 7 s) (-(u.1 7 b))) b + zmin (u.1 7 s) (-(u.1 7 b)))
def f_trade (u : GS) (s b : Int) : GS := f_add (f_tradeL u s b) s b (zmin (u.1 7 s) (-(u.1 7 b))) ((u.1 3 s + u.1 3 b) / 2)
def f_serve (b : Int) : Nat → GS → GS
  | 0, u => u
  | n + 1, u => if u.1 7 b < 0 then (if f_best (u.1 7) (u.1 3) b < 0 then u else f_serve b n (f_trade u (f_best (u.1 7) (u.1 3) b) b)) else u
def f_matchI (r : Int) : Int → GS → GS := fun h u => if u.1 7 h < 0 ∧ f_rank (u.1 3) h = r then f_serve h 6 u else u
def f_matchO : Int → GS → GS := fun r u => zfor 6 (f_matchI r) u
def f_match (u : GS) : GS := zfor 6 f_matchO u
def f_beginW : Int → GS → GS := fun w u => gA u 10 w 0
def f_beginL : Int → GS → GS := fun h u => gA u 7 h (u.1 2 h)
def f_begin (u : GS) : GS := zfor 6 f_beginL (zfor 6 f_beginW (gV u 5 0))
def f_nextS : Int → GS → GS := fun h u => gA (gA u 1 h 0) 2 h 0
def f_next (u : GS) : GS := gV (zfor 6 f_nextS u) 4 ((zfor 6 f_nextS u).2 4 + 1)
def f_dir (s b k : Int) : Int := if s ≤ k ∧ k < b then 1 else (if b ≤ k ∧ k < s then -1 else 0)
def f_flowS (S B U : Int → Int) (k : Int) : Int → Int → Int := fun t a => a + f_dir (S t) (B t) k * U t
def f_flow (u : GS) (k : Int) : Int := zfor (u.2 5).toNat (f_flowS (u.1 11) (u.1 12) (u.1 13) k) 0
def f_cutL (k w : Int) : Nat → Int → GS → GS
  | 0, _, u => u
  | n + 1, ab, u => if 0 < ab then (if f_dir (u.1 11 (n : Int)) (u.1 12 (n : Int)) k = w then f_cutL k w n (ab - zmin (u.1 13 (n : Int)) ab) (gA (gA u 13 (n : Int) (u.1 13 (n : Int) - zmin (u.1 13 (n : Int)) ab)) 14 (n : Int) (u.1 14 (n : Int) + zmin (u.1 13 (n : Int)) ab)) else f_cutL k w n ab u) else u
def f_cutR (u : GS) (k lim : Int) : Int := if zabs (f_flow u k) - lim ≤ 0 then 0 else 1
def f_cutU (u : GS) (k lim : Int) : GS := if zabs (f_flow u k) - lim ≤ 0 then u else f_cutL k (if 0 < f_flow u k then 1 else -1) (u.2 5).toNat (zabs (f_flow u k) - lim) u
def f_pass : Nat → Int × GS → Int × GS
  | 0, x => x
  | n + 1, x => f_pass n (if f_cutR x.2 (n : Int) (x.2.1 8 (n : Int)) ≠ 0 then 1 else x.1, f_cutU x.2 (n : Int) (x.2.1 8 (n : Int)))
def f_cutsL : Nat → Int × GS → GS
  | 0, x => x.2
  | n + 1, x => if x.1 ≠ 0 then f_cutsL n (f_pass 5 (0, x.2)) else x.2
def f_cuts (u : GS) : GS := f_cutsL 1000 (1, u)
def f_countS : Int → GS → GS := fun t u => gA (gA u 10 0 (u.1 10 0 + u.1 13 t)) 10 1 (u.1 10 1 + u.1 14 t)
def f_countF : Int → GS → GS := fun k u => gA u 9 k (f_flow u k)
def f_countP (u : GS) : GS := gV u 2 (u.2 2 - u.1 10 1)
def f_count (u : GS) : GS := zfor 5 f_countF (f_countP (zfor (u.2 5).toNat f_countS u))
def f_settleA (h t : Int) (u : GS) : GS := if u.1 11 t = h then gA (gA u 6 h (u.1 6 h - (u.1 13 t * u.1 15 t + u.1 14 t))) 7 h (u.1 7 h + u.1 14 t) else u
def f_settleB (h t : Int) (u : GS) : GS := if u.1 12 t = h then gA (gA u 6 h (u.1 6 h + u.1 13 t * u.1 15 t)) 7 h (u.1 7 h - u.1 14 t) else u
def f_settleS (h : Int) : Int → GS → GS := fun t u => f_settleB h t (f_settleA h t u)
def f_settle (u : GS) (h : Int) : GS := zfor (u.2 5).toNat (f_settleS h) u
def f_pay (u : GS) (h x : Int) : GS := gV (gA u 6 h (u.1 6 h + x)) 2 (u.2 2 + x)
def f_putIn (u : GS) (h x : Int) : GS := gA (gA (gA u 7 h (u.1 7 h - x)) 5 h (u.1 5 h + x)) 10 2 (u.1 10 2 + x)
def f_takeA (u : GS) (h x : Int) : GS := gA (gA (gA u 7 h (u.1 7 h + x)) 5 h (u.1 5 h - x)) 10 3 (u.1 10 3 + x)
def f_takeOut (u : GS) (h x : Int) : GS := if x ≤ 0 then u else f_pay (f_takeA u h x) h (2 * x + zmax 0 (u.1 4 h / 4 - updZ (u.1 5) h (u.1 5 h - x) h))
def f_battery (u : GS) (h : Int) : GS := if 0 < u.1 7 h then f_putIn u h (zmin (u.1 7 h) (u.1 4 h - u.1 5 h)) else f_takeOut u h (zmin (-(u.1 7 h)) (u.1 5 h))
def f_supSum (u : GS) (h : Int) : Int := if u.1 7 h < 0 then -(u.1 7 h) * u.2 0 else -(u.1 7 h) * u.2 1
def f_supPay (u : GS) (h : Int) : GS := gV (gA u 6 h (u.1 6 h + f_supSum u h)) 3 (u.2 3 + f_supSum u h)
def f_supplier (u : GS) (h : Int) : GS := if u.1 7 h < 0 then gA (f_supPay u h) 10 4 (u.1 10 4 - u.1 7 h) else gA (f_supPay u h) 10 5 (u.1 10 5 + u.1 7 h)
def f_house : Int → GS → GS := fun h u => f_pay (f_supplier (f_battery (f_settle u h) h) h) h (zabs ((f_supplier (f_battery (f_settle u h) h) h).1 2 h - (f_supplier (f_battery (f_settle u h) h) h).1 1 h))
def f_clearU (u : GS) : GS := f_next (zfor 6 f_house (f_count (f_cuts (f_match (f_begin u)))))
def f_bit (set h : Int) : Int := set / (2 ^ h.toNat) % 2
def f_sellsL (M P : Int → Int) (s set : Int) : Nat → Int → Int
  | 0, _ => 0
  | n + 1, h => if M h < 0 ∧ f_bit set h ≠ 0 ∧ P s ≤ P h then 1 else f_sellsL M P s set n (h + 1)
def f_sells (M P : Int → Int) (s set : Int) : Int := f_sellsL M P s set 6 0
def f_boundA (M : Int → Int) (set h b : Int) : Int := if M h < 0 ∧ f_bit set h = 0 then b - M h else b
def f_boundS (M P : Int → Int) (set : Int) : Int → Int → Int := fun h b => if 0 < M h ∧ f_sells M P h set ≠ 0 then f_boundA M set h b + M h else f_boundA M set h b
def f_bound (M P : Int → Int) (set : Int) : Int := zfor 6 (f_boundS M P set) 0
def f_mostS (M P : Int → Int) : Int → Int → Int := fun i m => zmin m (f_bound M P (i + 1))
def f_most (M P : Int → Int) : Int := zfor 63 (f_mostS M P) (f_bound M P 0)
def f_ofTrade (u : GS) (t w : Int) : Int := if w = 0 then u.1 11 t else (if w = 1 then u.1 12 t else (if w = 2 then u.1 13 t else u.1 15 t))
def f_leave (u : GS) (h : Int) : GS := gA (gA (gA (gA (gA (f_pay u h (-(u.1 5 h * u.2 1))) 0 h 0) 1 h 0) 2 h 0) 4 h 0) 5 h 0
def f_rent (u : GS) (h o x : Int) : GS := gA (gA u 4 h (u.1 4 h - x)) 4 o (updZ (u.1 4) h (u.1 4 h - x) o + x)
/-! what is compared is small -/
def zok (j : Nat) : Bool := decide (j < 16) && decide (j ≠ 6) && decide (j ≠ 9) && decide (j ≠ 10) && decide (j ≠ 15)
def Bd (u : GS) : Prop := ∀ j : Nat, zok j = true → ∀ i : Int, -1000 ≤ u.1 j i ∧ u.1 j i ≤ 1000
/-! THE REFERENCE, as functions of its state -/
def m_in (v a b : Int) : Int := if a ≤ v ∧ v ≤ b then 1 else 0
def m_goesC (a b c : Int) : Int := if a = 0 then 1 else (if b = 0 then 2 else (if c ≠ 0 then 0 else 3))
def m_goesR (a b c : Int) : Int := if m_goesC a b c = 0 then 1 else 0
def m_goesW (w : GS) (a b c : Int) : GS := gV w 6 (m_goesC a b c)
def m_belongs (w : GS) (h : Int) : Int := if m_in h 0 5 ≠ 0 ∧ w.1 7 h = 0 then 1 else 0
def m_lesser (a b : Int) : Int := if a < b then a else b
def m_size (a : Int) : Int := if a < 0 then -a else a
def m_buyer (w : GS) (h : Int) : Int := if w.1 7 h = 0 ∧ w.1 1 h < 0 then 1 else 0
def m_isel (w : GS) (h : Int) : Int := if w.1 7 h = 0 ∧ 0 < w.1 1 h then 1 else 0
def m_turnS (w : GS) (h : Int) : Int → Int → Int := fun k n => if m_buyer w k ≠ 0 ∧ (w.1 2 h < w.1 2 k ∨ (w.1 2 k = w.1 2 h ∧ k < h)) then n + 1 else n + 0
def m_turn (w : GS) (h : Int) : Int := zfor 6 (m_turnS w h) 0
def m_sellerS (w : GS) (b : Int) : Int → Int → Int := fun k best => if m_isel w k ≠ 0 ∧ 0 < w.1 14 k ∧ w.1 2 k ≤ w.1 2 b ∧ (best = -1 ∨ w.1 2 k < w.1 2 best ∨ (w.1 2 k = w.1 2 best ∧ m_size (k - b) < m_size (best - b))) then k else best
def m_seller (w : GS) (b : Int) : Int := zfor 6 (m_sellerS w b) (-1)
def m_trade (w : GS) (s b : Int) : GS := gA (gA (gV (gA (gA (gA (gA w 8 (w.2 5) s) 9 (w.2 5) b) 10 (w.2 5) (m_lesser (w.1 14 b) (w.1 14 s))) 11 (w.2 5) ((w.1 2 s + w.1 2 b) / 2)) 5 (w.2 5 + 1)) 14 b (w.1 14 b - m_lesser (w.1 14 b) (w.1 14 s))) 14 s (updZ (w.1 14) b (w.1 14 b - m_lesser (w.1 14 b) (w.1 14 s)) s - m_lesser (w.1 14 b) (w.1 14 s))
def m_takesL (b : Int) : Nat → GS → GS
  | 0, w => w
  | n + 1, w => if 0 < w.1 14 b ∧ m_seller w b ≠ -1 then m_takesL b n (m_trade w (m_seller w b) b) else w
def m_takes (w : GS) (b : Int) : GS := m_takesL b 8 w
def m_low (w : GS) (t : Int) : Int := m_lesser (w.1 8 t) (w.1 9 t)
def m_high (w : GS) (t : Int) : Int := w.1 8 t + w.1 9 t - m_low w t
def m_over (w : GS) (t k : Int) : Int := if k < m_low w t ∨ m_high w t ≤ k then 0 else (if w.1 8 t = m_low w t then 1 else -1)
def m_flowS (w : GS) (k : Int) : Int → Int → Int := fun t a => a + m_over w t k * w.1 10 t
def m_flow (w : GS) (k : Int) : Int := zfor (w.2 5).toNat (m_flowS w k) 0
def m_latS (w : GS) (k fl : Int) : Int → Int → Int := fun t lt => if 0 < w.1 10 t ∧ m_over w t k = (if 0 < fl then 1 else -1) then t else lt
def m_lat (w : GS) (k : Int) : Int := zfor (w.2 5).toNat (m_latS w k (m_flow w k)) (-1)
def m_its (w : GS) (k : Int) : Int := m_lesser (w.1 10 (m_lat w k)) (m_size (m_flow w k) - w.1 3 k)
def m_cutA (w : GS) (lt x : Int) : GS := gA (gA w 10 lt (w.1 10 lt - x)) 14 (w.1 8 lt) (w.1 14 (w.1 8 lt) + x)
def m_cutB (w : GS) (lt x : Int) : GS := gA w 14 (w.1 9 lt) (w.1 14 (w.1 9 lt) + x)
def m_cutC (w : GS) (lt x : Int) : GS := gV (gA w 6 (w.1 8 lt) (w.1 6 (w.1 8 lt) - x)) 2 (w.2 2 - x)
def m_cut1 (w : GS) (lt x : Int) : GS := m_cutC (m_cutB (m_cutA w lt x) lt x) lt x
def m_cutsL (k : Int) : Nat → Int × GS → Int × GS
  | 0, x => x
  | n + 1, x => if x.2.1 3 k < m_size (m_flow x.2 k) then m_cutsL k n (x.1 + m_its x.2 k, m_cut1 x.2 (m_lat x.2 k) (m_its x.2 k)) else x
def m_cuts (w : GS) (k : Int) : Int × GS := m_cutsL k 301 (0, w)
def m_keepX (w : GS) (h : Int) : Int := m_lesser (w.1 14 h) (w.1 4 h - w.1 5 h)
def m_keepA (w : GS) (h x : Int) : GS := gA (gA (gA w 5 h (w.1 5 h + x)) 14 h (w.1 14 h - x)) 12 2 (w.1 12 2 + x)
def m_keepB (v : GS) (h : Int) : GS := gA v 12 5 (v.1 12 5 + v.1 14 h)
def m_keepC (v : GS) (h : Int) : GS := gA v 6 h (v.1 6 h - v.1 14 h * v.2 1)
def m_keepD (v : GS) (h : Int) : GS := gV v 3 (v.2 3 - v.1 14 h * v.2 1)
def m_keeps (w : GS) (h : Int) : GS := m_keepD (m_keepC (m_keepB (m_keepA w h (m_keepX w h)) h) h) h
def m_drawX (w : GS) (h : Int) : Int := m_lesser (w.1 14 h) (w.1 5 h)
def m_drawA (w : GS) (h x : Int) : GS := gA (gA w 5 h (w.1 5 h - x)) 14 h (w.1 14 h - x)
def m_wear (w : GS) (h x : Int) : Int := if x = 0 then 0 else (if 0 < w.1 4 h / 4 - updZ (w.1 5) h (w.1 5 h - x) h then 2 * x + (w.1 4 h / 4 - updZ (w.1 5) h (w.1 5 h - x) h) else 2 * x + 0)
def m_drawB (v : GS) (h z : Int) : GS := gV (gA v 6 h (v.1 6 h + z)) 2 (v.2 2 + z)
def m_drawC (v : GS) (h x : Int) : GS := gA v 12 3 (v.1 12 3 + x)
def m_drawD (v : GS) (h : Int) : GS := gA v 12 4 (v.1 12 4 + v.1 14 h)
def m_drawE (v : GS) (h : Int) : GS := gA v 6 h (v.1 6 h + v.1 14 h * v.2 0)
def m_drawF (v : GS) (h : Int) : GS := gV v 3 (v.2 3 + v.1 14 h * v.2 0)
def m_drawZ (w : GS) (h x z : Int) : GS := m_drawF (m_drawE (m_drawD (m_drawC (m_drawB (m_drawA w h x) h z) h x) h) h) h
def m_draws (w : GS) (h : Int) : GS := m_drawZ w h (m_drawX w h) (m_wear w h (m_drawX w h))
def m_beginW : Int → GS → GS := fun k w => gA w 12 k 0
def m_beginL : Int → GS → GS := fun k w => gA w 14 k (if w.1 7 k = 0 then m_size (w.1 1 k) else 0)
def m_begin (w : GS) : GS := zfor 6 m_beginL (zfor 6 m_beginW (gV w 5 0))
def m_matchI (r : Int) : Int → GS → GS := fun k w => if m_buyer w k ≠ 0 ∧ m_turn w k = r then m_takes w k else w
def m_matchO : Int → GS → GS := fun r w => zfor 6 (m_matchI r) w
def m_match (w : GS) : GS := zfor 6 m_matchO w
def m_pass : Nat → Int × GS → Int × GS
  | 0, x => x
  | n + 1, x => m_pass n (x.1 + (m_cuts x.2 (n : Int)).1, (m_cuts x.2 (n : Int)).2)
def m_cutAll : Nat → Int × GS → GS
  | 0, x => x.2
  | n + 1, x => if 0 < x.1 then m_cutAll n ((m_pass 5 (0, x.2)).1, gA (m_pass 5 (0, x.2)).2 12 1 ((m_pass 5 (0, x.2)).2.1 12 1 + (m_pass 5 (0, x.2)).1)) else x.2
def m_setA (t : Int) (w : GS) : GS := gA w 6 (w.1 9 t) (w.1 6 (w.1 9 t) + w.1 10 t * w.1 11 t)
def m_setB (t : Int) (w : GS) : GS := gA w 6 (w.1 8 t) (w.1 6 (w.1 8 t) - w.1 10 t * w.1 11 t)
def m_setC (t : Int) (w : GS) : GS := gA w 12 0 (w.1 12 0 + w.1 10 t)
def m_setS : Int → GS → GS := fun t w => m_setC t (m_setB t (m_setA t w))
def m_set (w : GS) : GS := zfor (w.2 5).toNat m_setS w
def m_store (w : GS) (k : Int) : GS := if m_isel w k ≠ 0 then m_keeps w k else (if m_buyer w k ≠ 0 then m_draws w k else w)
def m_wrong (w : GS) (k : Int) : Int := if w.1 7 k = 0 then m_size (w.1 1 k - w.1 0 k) else 0
def m_fine (w : GS) (k : Int) : GS := gV (gA w 6 k (w.1 6 k + m_wrong w k)) 2 (w.2 2 + m_wrong w k)
def m_house : Int → GS → GS := fun k w => m_fine (m_store w k) k
def m_flowF : Int → GS → GS := fun k w => gA w 13 k (m_flow w k)
def m_nextS : Int → GS → GS := fun k w => gA (gA w 0 k 0) 1 k 0
def m_next (w : GS) : GS := gV (zfor 6 m_nextS w) 4 ((zfor 6 m_nextS w).2 4 + 1)
def m_clearU (w : GS) : GS := m_next (zfor 5 m_flowF (zfor 6 m_house (m_set (m_cutAll 302 (1, m_match (m_begin w))))))
def m_tradS (w : GS) (x : Int) : Int → Int → Int := fun k b => (b + (if m_buyer w k ≠ 0 ∧ x < w.1 2 k then -(w.1 1 k) else 0)) + (if m_isel w k ≠ 0 ∧ w.1 2 k ≤ x then w.1 1 k else 0)
def m_trad (w : GS) (x : Int) : Int := zfor 6 (m_tradS w x) 0
def m_mostS (w : GS) : Int → Int → Int := fun k b => if m_buyer w k ≠ 0 then m_lesser b (m_trad w (w.1 2 k)) else b
def m_most (w : GS) : Int := zfor 6 (m_mostS w) (m_trad w (-1))
/-- what a call that tells leaves behind, by its code: nothing but the code, or the change -/
def m_when (w : GS) (k : Int) (v : GS) : GS := if k = 0 then v else gV w 6 k
def m_tellC (w : GS) (h x : Int) : Int := m_goesC (m_in h 0 5) (m_in x (-50) 50) (m_belongs w h)
def m_priceC (h x : Int) : Int := m_goesC (m_in h 0 5) (m_in x 0 100) 1
def m_limitC (h x : Int) : Int := m_goesC (m_in h 0 4) (m_in x 0 300) 1
def m_supC (a b : Int) : Int := if m_in a 1 100 ≠ 0 ∧ m_in b 0 a ≠ 0 then 0 else 1
def m_rentC (w : GS) (h o x : Int) : Int := if m_in h 0 5 = 0 ∨ m_in o 0 5 = 0 then 1 else (if h = o ∨ m_in x 1 100 = 0 then 2 else (if m_belongs w h ≠ 0 ∧ m_belongs w o ≠ 0 ∧ w.1 5 h ≤ w.1 4 h - x then 0 else 3))
def m_rentW (w : GS) (h o x : Int) : GS := gA (gA w 4 h (w.1 4 h - x)) 4 o (updZ (w.1 4) h (w.1 4 h - x) o + x)
def m_leaveC (w : GS) (h : Int) : Int := m_goesC (m_in h 0 5) (m_belongs w h) 1
def m_leaveW (w : GS) (h : Int) : GS := gA (gA (gA (gV (gA w 6 h (w.1 6 h - w.1 5 h * w.2 1)) 2 (w.2 2 - w.1 5 h * w.2 1)) 4 h 0) 5 h 0) 7 h 1
def m_ofC (w : GS) (t x : Int) : Int := if m_in t 0 (w.2 5 - 1) ≠ 0 ∧ m_in x 0 3 ≠ 0 then 0 else 1
def m_ofV (w : GS) (t x : Int) : Int := if x = 0 then w.1 8 t else (if x = 1 then w.1 9 t else (if x = 2 then w.1 10 t else w.1 11 t))
def m_askC (h hi : Int) : Int := m_goesC (m_in h 0 hi) 1 1
def zokM (j : Nat) : Bool := decide (j < 15) && decide (j ≠ 6) && decide (j ≠ 11) && decide (j ≠ 12) && decide (j ≠ 13)
def Bdm (w : GS) : Prop := ∀ j : Nat, zokM j = true → ∀ i : Int, -1000 ≤ w.1 j i ∧ w.1 j i ≤ 1000
