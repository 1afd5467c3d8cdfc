/-! ONE HOUSE -/
theorem bat_pos {u : GS} {h : Int} (hL : 0 ≤ u.1 7 h) (h0 : 0 ≤ u.1 5 h) (h1 : u.1 5 h ≤ u.1 4 h) : ∃ y, y = zmin (u.1 7 h) (u.1 4 h - u.1 5 h) ∧ 0 ≤ y ∧ y ≤ u.1 7 h ∧ (f_battery u h).1 5 = updZ (u.1 5) h (u.1 5 h + y) ∧ (f_battery u h).1 7 h = u.1 7 h - y ∧ (∀ i, i ≠ h → (f_battery u h).1 7 i = u.1 7 i) ∧ (f_battery u h).1 6 = u.1 6 ∧ (∀ i, (f_battery u h).1 10 i = u.1 10 i + (if i = 2 then y else 0)) ∧ (f_battery u h).2 = u.2 := by
  have hz := zmin_sp (u.1 7 h) (u.1 4 h - u.1 5 h)
  refine ⟨_, rfl, by omega, by omega, ?_⟩
  generalize zmin (u.1 7 h) (u.1 4 h - u.1 5 h) = y at hz ⊢
  by_cases q : 0 < u.1 7 h
  · have e : f_battery u h = f_putIn u h (zmin (u.1 7 h) (u.1 4 h - u.1 5 h)) := if_pos q
    have ey : zmin (u.1 7 h) (u.1 4 h - u.1 5 h) = y := by
      have := zmin_sp (u.1 7 h) (u.1 4 h - u.1 5 h)
      omega
    rw [e, ey]
    refine ⟨rfl, updZ_s _ _ _, fun i hi => updZ_n _ _ hi, rfl, fun i => ?_, rfl⟩
    show updZ (u.1 10) 2 (u.1 10 2 + y) i = _
    unfold updZ
    split
    · next w => rw [w]
    · omega
  · have e : f_battery u h = u := by
      show (if 0 < u.1 7 h then _ else f_takeOut u h (zmin (-(u.1 7 h)) (u.1 5 h))) = u
      rw [if_neg q]
      have := zmin_sp (-(u.1 7 h)) (u.1 5 h)
      exact if_pos (by omega)
    have ey : y = 0 := by omega
    rw [e, ey]
    refine ⟨by rw [Int.add_zero, updZ_same], by omega, fun i _ => rfl, rfl, fun i => by split <;> omega, rfl⟩
theorem bat_neg {u : GS} {h : Int} (hL : u.1 7 h ≤ 0) (h0 : 0 ≤ u.1 5 h) : ∃ y z, y = zmin (-(u.1 7 h)) (u.1 5 h) ∧ 0 ≤ y ∧ y ≤ -(u.1 7 h) ∧ z = (if y = 0 then 0 else 2 * y + zmax 0 (u.1 4 h / 4 - (u.1 5 h - y))) ∧ (f_battery u h).1 5 = updZ (u.1 5) h (u.1 5 h - y) ∧ (f_battery u h).1 7 h = u.1 7 h + y ∧ (∀ i, i ≠ h → (f_battery u h).1 7 i = u.1 7 i) ∧ (∀ i, (f_battery u h).1 6 i = u.1 6 i + (if i = h then z else 0)) ∧ (∀ i, (f_battery u h).1 10 i = u.1 10 i + (if i = 3 then y else 0)) ∧ (f_battery u h).2 2 = u.2 2 + z ∧ (∀ j : Nat, j ≠ 2 → (f_battery u h).2 j = u.2 j) := by
  have hz := zmin_sp (-(u.1 7 h)) (u.1 5 h)
  have e : f_battery u h = f_takeOut u h (zmin (-(u.1 7 h)) (u.1 5 h)) := if_neg (by omega)
  refine ⟨zmin (-(u.1 7 h)) (u.1 5 h), _, rfl, by omega, by omega, rfl, ?_⟩
  rw [e]
  generalize zmin (-(u.1 7 h)) (u.1 5 h) = y at hz ⊢
  by_cases q : y ≤ 0
  · have e2 : f_takeOut u h y = u := if_pos q
    have ey : y = 0 := by omega
    rw [e2, ey]
    rw [if_pos rfl]
    exact ⟨by rw [Int.sub_zero, updZ_same], by omega, fun i _ => rfl, fun i => by split <;> omega, fun i => by split <;> omega, by omega, fun j _ => rfl⟩
  · have e2 : f_takeOut u h y = f_pay (f_takeA u h y) h (2 * y + zmax 0 (u.1 4 h / 4 - updZ (u.1 5) h (u.1 5 h - y) h)) := if_neg q
    rw [e2, if_neg (by omega), updZ_s]
    refine ⟨rfl, updZ_s _ _ _, fun i hi => updZ_n _ _ hi, fun i => ?_, fun i => ?_, rfl, fun j hj => f_pay_2 _ _ _ j hj⟩
    · show updZ (u.1 6) h (u.1 6 h + _) i = _
      unfold updZ
      split
      · next w => rw [w]
      · omega
    · show updZ (u.1 10) 3 (u.1 10 3 + y) i = _
      unfold updZ
      split
      · next w => rw [w]
      · omega
theorem sup_pos {u : GS} {h : Int} (hM : 0 ≤ u.1 7 h) : (∀ i, (f_supplier u h).1 6 i = u.1 6 i - (if i = h then u.1 7 h * u.2 1 else 0)) ∧ (f_supplier u h).2 3 = u.2 3 - u.1 7 h * u.2 1 ∧ (∀ i, (f_supplier u h).1 10 i = u.1 10 i + (if i = 5 then u.1 7 h else 0)) := by
  have e1 : f_supSum u h = -(u.1 7 h * u.2 1) := (if_neg (by omega)).trans (Int.neg_mul _ _)
  have e : f_supplier u h = gA (f_supPay u h) 10 5 (u.1 10 5 + u.1 7 h) := if_neg (by omega)
  rw [e]
  refine ⟨fun i => ?_, ?_, fun i => ?_⟩
  · show updZ (u.1 6) h (u.1 6 h + f_supSum u h) i = _
    rw [e1]
    unfold updZ
    split
    · next w => rw [w]; omega
    · omega
  · show u.2 3 + f_supSum u h = _
    rw [e1]; omega
  · show updZ (u.1 10) 5 (u.1 10 5 + u.1 7 h) i = _
    unfold updZ
    split
    · next w => rw [w]
    · omega
theorem sup_neg {u : GS} {h : Int} (hM : u.1 7 h ≤ 0) : (∀ i, (f_supplier u h).1 6 i = u.1 6 i - (if i = h then u.1 7 h * u.2 0 else 0)) ∧ (f_supplier u h).2 3 = u.2 3 - u.1 7 h * u.2 0 ∧ (∀ i, (f_supplier u h).1 10 i = u.1 10 i - (if i = 4 then u.1 7 h else 0)) := by
  by_cases q : u.1 7 h < 0
  · have e1 : f_supSum u h = -(u.1 7 h * u.2 0) := (if_pos q).trans (Int.neg_mul _ _)
    have e : f_supplier u h = gA (f_supPay u h) 10 4 (u.1 10 4 - u.1 7 h) := if_pos q
    rw [e]
    refine ⟨fun i => ?_, ?_, fun i => ?_⟩
    · show updZ (u.1 6) h (u.1 6 h + f_supSum u h) i = _
      rw [e1]
      unfold updZ
      split
      · next w => rw [w]; omega
      · omega
    · show u.2 3 + f_supSum u h = _
      rw [e1]; omega
    · show updZ (u.1 10) 4 (u.1 10 4 - u.1 7 h) i = _
      unfold updZ
      split
      · next w => rw [w]
      · omega
  · have ez : u.1 7 h = 0 := by omega
    obtain ⟨a, b, c⟩ := sup_pos (u := u) (h := h) (by omega)
    rw [ez, Int.zero_mul] at a b
    rw [ez, Int.zero_mul]
    exact ⟨a, b, fun i => by rw [c i, ez]; split <;> split <;> omega⟩
/-- what the reference's steps leave -/
theorem keeps_val (x : GS) (h : Int) : ∃ y, y = m_lesser (x.1 14 h) (x.1 4 h - x.1 5 h) ∧ (m_keeps x h).1 5 = updZ (x.1 5) h (x.1 5 h + y) ∧ (∀ i, (m_keeps x h).1 6 i = x.1 6 i - (if i = h then (x.1 14 h - y) * x.2 1 else 0)) ∧ (∀ i, (m_keeps x h).1 12 i = x.1 12 i + (if i = 2 then y else 0) + (if i = 5 then x.1 14 h - y else 0)) ∧ (m_keeps x h).2 3 = x.2 3 - (x.1 14 h - y) * x.2 1 ∧ (m_keeps x h).2 2 = x.2 2 ∧ (∀ i, i ≠ h → (m_keeps x h).1 14 i = x.1 14 i) := by
  refine ⟨m_keepX x h, rfl, rfl, fun i => ?_, fun i => ?_, ?_, rfl, fun i hi => updZ_n _ _ hi⟩
  · show updZ (x.1 6) h (x.1 6 h - updZ (x.1 14) h (x.1 14 h - m_keepX x h) h * x.2 1) i = _
    rw [updZ_s]
    unfold updZ
    split
    · next w => rw [w]
    · omega
  · show updZ (updZ (x.1 12) 2 (x.1 12 2 + m_keepX x h)) 5 (updZ (x.1 12) 2 (x.1 12 2 + m_keepX x h) 5 + updZ (x.1 14) h (x.1 14 h - m_keepX x h) h) i = _
    rw [updZ_s, updZ_n _ _ (show (5 : Int) ≠ 2 by omega)]
    unfold updZ
    split
    · next w => rw [w, if_neg (by omega)]; omega
    · split
      · next w => rw [w]; omega
      · omega
  · show x.2 3 - updZ (x.1 14) h (x.1 14 h - m_keepX x h) h * x.2 1 = _
    rw [updZ_s]
theorem draws_val (x : GS) (h : Int) : ∃ y z, y = m_lesser (x.1 14 h) (x.1 5 h) ∧ z = (if y = 0 then 0 else (if 0 < x.1 4 h / 4 - (x.1 5 h - y) then 2 * y + (x.1 4 h / 4 - (x.1 5 h - y)) else 2 * y + 0)) ∧ (m_draws x h).1 5 = updZ (x.1 5) h (x.1 5 h - y) ∧ (∀ i, (m_draws x h).1 6 i = x.1 6 i + (if i = h then z + (x.1 14 h - y) * x.2 0 else 0)) ∧ (∀ i, (m_draws x h).1 12 i = x.1 12 i + (if i = 3 then y else 0) + (if i = 4 then x.1 14 h - y else 0)) ∧ (m_draws x h).2 3 = x.2 3 + (x.1 14 h - y) * x.2 0 ∧ (m_draws x h).2 2 = x.2 2 + z ∧ (∀ i, i ≠ h → (m_draws x h).1 14 i = x.1 14 i) := by
  refine ⟨m_drawX x h, m_wear x h (m_drawX x h), rfl, by unfold m_wear; rw [updZ_s], rfl, fun i => ?_, fun i => ?_, ?_, rfl, fun i hi => updZ_n _ _ hi⟩
  · show updZ (updZ (x.1 6) h (x.1 6 h + m_wear x h (m_drawX x h))) h (updZ (x.1 6) h (x.1 6 h + m_wear x h (m_drawX x h)) h + updZ (x.1 14) h (x.1 14 h - m_drawX x h) h * x.2 0) i = _
    rw [updZ_s, updZ_s]
    unfold updZ
    split
    · next w => rw [w]; omega
    · omega
  · show updZ (updZ (x.1 12) 3 (x.1 12 3 + m_drawX x h)) 4 (updZ (x.1 12) 3 (x.1 12 3 + m_drawX x h) 4 + updZ (x.1 14) h (x.1 14 h - m_drawX x h) h) i = _
    rw [updZ_s, updZ_n _ _ (show (4 : Int) ≠ 3 by omega)]
    unfold updZ
    split
    · next w => rw [w, if_neg (by omega)]; omega
    · split
      · next w => rw [w]; omega
      · omega
  · show x.2 3 + updZ (x.1 14) h (x.1 14 h - m_drawX x h) h * x.2 0 = _
    rw [updZ_s]
def RH (h : Int) (v x : GS) : Prop := RS v x ∧ RB v x ∧ RK x ∧ v.1 5 = x.1 5 ∧ (∀ i, v.1 10 i = x.1 12 i) ∧ v.2 2 = x.2 2 ∧ (∀ i, 0 ≤ i → i ≤ 5 → (i < h → v.1 6 i = x.1 6 i) ∧ (h ≤ i → x.1 6 i = v.1 6 i - VS v i - CS v i + VB v i ∧ x.1 14 i = m_size (v.1 7 i) + CS v i + CB v i ∧ (m_buyer x i = 0 → 0 ≤ v.1 7 i) ∧ (m_buyer x i ≠ 0 → v.1 7 i ≤ 0) ∧ (m_buyer x i = 0 → m_isel x i = 0 → v.1 7 i = 0)))
theorem sums_congr {u v : GS} (h : ∀ j : Nat, 11 ≤ j → v.1 j = u.1 j) (h5 : v.2 5 = u.2 5) (i : Int) : VS v i = VS u i ∧ CS v i = CS u i ∧ VB v i = VB u i ∧ CB v i = CB u i := by
  unfold VS CS VB CB
  rw [h5, h 11 (by omega), h 12 (by omega), h 13 (by omega), h 14 (by omega), h 15 (by omega)]
  exact ⟨rfl, rfl, rfl, rfl⟩
theorem f_house_1 (h : Int) (v : GS) (j : Nat) (h5 : j ≠ 5) (h6 : j ≠ 6) (h7 : j ≠ 7) (h10 : j ≠ 10) : (f_house h v).1 j = v.1 j := by
  show (f_pay (f_supplier (f_battery (f_settle v h) h) h) h _).1 j = _
  rw [f_pay_1 _ _ _ j h6, f_supplier_1 _ _ j h6 h10, f_battery_1 _ _ j h5 h6 h7 h10]
  exact f_settlek_1 h v _ j h6 h7
theorem f_house_2 (h : Int) (v : GS) (j : Nat) (h2 : j ≠ 2) (h3 : j ≠ 3) : (f_house h v).2 j = v.2 j := by
  show (f_pay (f_supplier (f_battery (f_settle v h) h) h) h _).2 j = _
  rw [f_pay_2 _ _ _ j h2, f_supplier_2 _ _ j h3, f_battery_2 _ _ j h2]
  show (zfor (v.2 5).toNat (f_settleS h) v).2 j = _
  rw [f_settlek_2]
theorem m_store_1 (x : GS) (k : Int) (j : Nat) (h5 : j ≠ 5) (h6 : j ≠ 6) (h12 : j ≠ 12) (h14 : j ≠ 14) : (m_store x k).1 j = x.1 j := by
  unfold m_store
  split
  · exact m_keeps_1 x k j h5 h6 h12 h14
  · split
    · exact m_draws_1 x k j h5 h6 h12 h14
    · rfl
theorem m_store_2 (x : GS) (k : Int) (j : Nat) (h2 : j ≠ 2) (h3 : j ≠ 3) : (m_store x k).2 j = x.2 j := by
  unfold m_store
  split
  · exact m_keeps_2 x k j h3
  · split
    · exact m_draws_2 x k j h2 h3
    · rfl
/-- how a house's own rows end, in one and in the other -/
theorem house_val {h : Int} (hh : 0 ≤ h ∧ h ≤ 5) {v x : GS} (r : RH h v x) (g : GI3 h v) : (f_house h v).1 5 = (m_house h x).1 5 ∧ (∀ i, (f_house h v).1 10 i = (m_house h x).1 12 i) ∧ (f_house h v).2 2 = (m_house h x).2 2 ∧ (f_house h v).2 3 = (m_house h x).2 3 ∧ (f_house h v).1 6 h = (m_house h x).1 6 h ∧ (∀ i, i ≠ h → (f_house h v).1 6 i = v.1 6 i ∧ (f_house h v).1 7 i = v.1 7 i ∧ (m_house h x).1 6 i = x.1 6 i ∧ (m_house h x).1 14 i = x.1 14 i) := by
  obtain ⟨⟨s1, s2, s3, s4, s5, s6, s7, s8⟩, rb, rk, r5, r10, rp, ri⟩ := r
  obtain ⟨b6, b14, bp, bn, bz⟩ := (ri h hh.1 hh.2).2 (Int.le_refl _)
  obtain ⟨v7, v6⟩ := settle_val v h
  have vh7 := v7 h
  have vh6 := v6 h
  rw [if_pos rfl] at vh7 vh6
  have a1 : ∀ j : Nat, j ≠ 6 → j ≠ 7 → (f_settle v h).1 j = v.1 j := fun j q1 q2 => f_settlek_1 h v _ j q1 q2
  have a2 : (f_settle v h).2 = v.2 := f_settlek_2 h v _
  have st := g.1.2.2.2.2.2.1 h
  have hcs : 0 ≤ CS v h := by
    refine zfor_inv (fun t a => a + (if v.1 11 t = h then v.1 14 t else 0)) 0 (fun _ a => 0 ≤ a) (v.2 5).toNat (Int.le_refl _) (fun t a _ _ q => ?_) _ (Nat.le_refl _)
    have := (g.2.1.2.2 t).2.1
    show 0 ≤ a + (if v.1 11 t = h then v.1 14 t else 0)
    split <;> omega
  have hcb : 0 ≤ CB v h := by
    refine zfor_inv (fun t a => a + (if v.1 12 t = h then v.1 14 t else 0)) 0 (fun _ a => 0 ≤ a) (v.2 5).toNat (Int.le_refl _) (fun t a _ _ q => ?_) _ (Nat.le_refl _)
    have := (g.2.1.2.2 t).2.1
    show 0 ≤ a + (if v.1 12 t = h then v.1 14 t else 0)
    split <;> omega
  have hc5 : v.2 5 = x.2 5 := rb.1
  have zcs : m_isel x h = 0 → CS v h = 0 := fun q => SZ_zero (fun t t0 t1 => by
    show (if v.1 11 t = h then v.1 14 t else 0) = 0
    rw [if_neg]
    intro e
    have := (rk t t0 (by omega)).1
    rw [← rb.2.1, e] at this
    exact this q)
  have zcb : m_buyer x h = 0 → CB v h = 0 := fun q => SZ_zero (fun t t0 t1 => by
    show (if v.1 12 t = h then v.1 14 t else 0) = 0
    rw [if_neg]
    intro e
    have := (rk t t0 (by omega)).2
    rw [← rb.2.2.1, e] at this
    exact this q)
  have sz := m_size_sp (v.1 7 h)
  have hbs := buyer_isel x h
  -- the error's price
  have err : zabs ((f_supplier (f_battery (f_settle v h) h) h).1 2 h - (f_supplier (f_battery (f_settle v h) h) h).1 1 h) = m_wrong (m_store x h) h := by
    rw [f_supplier_1 _ _ 2 (by decide) (by decide), f_supplier_1 _ _ 1 (by decide) (by decide), f_battery_1 _ _ 2 (by decide) (by decide) (by decide) (by decide), f_battery_1 _ _ 1 (by decide) (by decide) (by decide) (by decide), a1 2 (by decide) (by decide), a1 1 (by decide) (by decide), (s4 h hh.1 hh.2).2.1, (s4 h hh.1 hh.2).2.2]
    unfold m_wrong
    rw [m_store_1 _ _ 7 (by decide) (by decide) (by decide) (by decide), m_store_1 _ _ 1 (by decide) (by decide) (by decide) (by decide), m_store_1 _ _ 0 (by decide) (by decide) (by decide) (by decide)]
    have z1 := zabs_sp (x.1 1 h - x.1 0 h)
    have z2 := m_size_sp (x.1 1 h - x.1 0 h)
    by_cases q : x.1 7 h = 0
    · rw [if_pos q, if_pos q, if_pos q]; omega
    · rw [if_neg q, if_neg q, if_neg q]; rfl
  have eF : f_house h v = f_pay (f_supplier (f_battery (f_settle v h) h) h) h (m_wrong (m_store x h) h) := by rw [← err]; rfl
  have eM : m_house h x = m_fine (m_store x h) h := rfl
  generalize hw : m_wrong (m_store x h) h = wr at eF
  rw [eF, eM]
  have pay6 : ∀ (u : GS) (i : Int), (f_pay u h wr).1 6 i = u.1 6 i + (if i = h then wr else 0) := by
    intro u i
    show updZ (u.1 6) h (u.1 6 h + wr) i = _
    unfold updZ
    split
    · next e => rw [e]
    · omega
  have fine6 : ∀ i : Int, (m_fine (m_store x h) h).1 6 i = (m_store x h).1 6 i + (if i = h then wr else 0) := by
    intro i
    show updZ ((m_store x h).1 6) h ((m_store x h).1 6 h + m_wrong (m_store x h) h) i = _
    rw [hw]
    unfold updZ
    split
    · next e => rw [e]
    · omega
  have fine2 : (m_fine (m_store x h) h).2 2 = (m_store x h).2 2 + wr := by
    show (m_store x h).2 2 + m_wrong (m_store x h) h = _
    rw [hw]
  have sup1 : ∀ i, i ≠ h → (f_supplier (f_battery (f_settle v h) h) h).1 7 i = (f_battery (f_settle v h) h).1 7 i := fun i _ => by rw [f_supplier_1 _ _ 7 (by decide) (by decide)]
  -- the three kinds of houses
  by_cases kb : m_buyer x h = 0
  · -- nobody who buys
    have cb0 := zcb kb
    have l0 := bp kb
    obtain ⟨y, ey, y0, y1, d5, d7, d7n, d6, d10, d2⟩ := bat_pos (u := f_settle v h) (h := h) (by omega) (by rw [a1 5 (by decide) (by decide)]; omega) (by rw [a1 5 (by decide) (by decide), a1 4 (by decide) (by decide)]; omega)
    obtain ⟨p6, p3, p10⟩ := sup_pos (u := f_battery (f_settle v h) h) (h := h) (by omega)
    have eL : (f_settle v h).1 7 h = x.1 14 h := by omega
    rw [eL, a1 4 (by decide) (by decide), a1 5 (by decide) (by decide)] at ey
    rw [d7, eL, d2, a2] at p6 p3
    rw [d7, eL] at p10
    rw [a1 5 (by decide) (by decide)] at d5
    rw [a1 10 (by decide) (by decide)] at d10
    have store : ∃ y', y' = y ∧ (m_store x h).1 5 = updZ (x.1 5) h (x.1 5 h + y') ∧ (∀ i, (m_store x h).1 6 i = x.1 6 i - (if i = h then (x.1 14 h - y') * x.2 1 else 0)) ∧ (∀ i, (m_store x h).1 12 i = x.1 12 i + (if i = 2 then y' else 0) + (if i = 5 then x.1 14 h - y' else 0)) ∧ (m_store x h).2 3 = x.2 3 - (x.1 14 h - y') * x.2 1 ∧ (m_store x h).2 2 = x.2 2 ∧ (∀ i, i ≠ h → (m_store x h).1 14 i = x.1 14 i) := by
      by_cases ks : m_isel x h = 0
      · have e : m_store x h = x := by unfold m_store; rw [if_neg (by omega), if_neg (by omega)]
        have w0 : x.1 14 h = 0 := by have := bz kb ks; have := zcs ks; omega
        have yz : y = 0 := by omega
        refine ⟨0, yz.symm, ?_⟩
        rw [e, w0]
        exact ⟨by rw [Int.add_zero, updZ_same], fun i => by rw [Int.sub_zero, Int.zero_mul]; split <;> omega, fun i => by split <;> split <;> omega, by rw [Int.sub_zero, Int.zero_mul]; omega, rfl, fun i _ => rfl⟩
      · have e : m_store x h = m_keeps x h := by unfold m_store; rw [if_pos ks]
        obtain ⟨y', ey', q⟩ := keeps_val x h
        refine ⟨y', ?_, by rw [e]; exact q⟩
        rw [ey, ey', s3, r5]
        have z1 := zmin_sp (x.1 14 h) (x.1 4 h - x.1 5 h)
        have z2 := m_lesser_sp (x.1 14 h) (x.1 4 h - x.1 5 h)
        omega
    obtain ⟨y', rfl, e5, e6, e12, e3, e2, e14⟩ := store
    refine ⟨?_, fun i => ?_, ?_, ?_, ?_, fun i hi => ⟨?_, ?_, ?_, ?_⟩⟩
    · rw [f_pay_1 _ _ _ 5 (by decide), f_supplier_1 _ _ 5 (by decide) (by decide), d5, r5]; exact e5.symm
    · rw [f_pay_1 _ _ _ 10 (by decide), p10, d10, r10]
      exact (e12 i).symm
    · rw [fine2, e2]
      show (f_supplier (f_battery (f_settle v h) h) h).2 2 + wr = _
      rw [f_supplier_2 _ _ 2 (by decide), d2, a2, rp]
    · rw [f_pay_2 _ _ _ 3 (by decide), p3]
      show _ = (m_store x h).2 3
      rw [e3, s7, s6]
    · rw [pay6, fine6, p6, e6, d6, vh6, if_pos rfl, if_pos rfl, if_pos rfl, b6, s6]
    · rw [pay6, p6, d6, v6 i, if_neg hi, if_neg hi, if_neg hi]; omega
    · rw [f_pay_1 _ _ _ 7 (by decide), sup1 i hi, d7n i hi, v7 i, if_neg hi]
    · rw [fine6, e6, if_neg hi, if_neg hi]; omega
    · exact e14 i hi
  · -- a buyer
    have ks := hbs kb
    have cs0 := zcs ks
    have l0 := bn kb
    obtain ⟨y, z, ey, y0, y1, ez, d5, d7, d7n, d6, d10, dp, d2⟩ := bat_neg (u := f_settle v h) (h := h) (by omega) (by rw [a1 5 (by decide) (by decide)]; omega)
    obtain ⟨p6, p3, p10⟩ := sup_neg (u := f_battery (f_settle v h) h) (h := h) (by omega)
    have eL : (f_settle v h).1 7 h = -(x.1 14 h) := by omega
    rw [eL, a1 5 (by decide) (by decide)] at ey
    rw [a1 4 (by decide) (by decide), a1 5 (by decide) (by decide)] at ez
    have eM7 : (f_battery (f_settle v h) h).1 7 h = -(x.1 14 h - y) := by omega
    rw [eM7, d2 0 (by decide), a2, Int.neg_mul] at p6 p3
    rw [eM7] at p10
    rw [d2 3 (by decide), a2] at p3
    rw [a1 5 (by decide) (by decide)] at d5
    rw [a1 10 (by decide) (by decide)] at d10
    rw [a2] at dp
    have e : m_store x h = m_draws x h := by unfold m_store; rw [if_neg (by omega), if_pos kb]
    obtain ⟨y', z', ey', ez', e5, e6, e12, e3, e2, e14⟩ := draws_val x h
    have hy : y = y' := by
      rw [ey, ey', r5]
      have z1 := zmin_sp (- -(x.1 14 h)) (x.1 5 h)
      have z2 := m_lesser_sp (x.1 14 h) (x.1 5 h)
      omega
    subst hy
    have hz : z = z' := by
      rw [ez, ez', s3, r5]
      have z1 := zmax_sp 0 (x.1 4 h / 4 - (x.1 5 h - y))
      repeat' split
      all_goals omega
    subst hz
    rw [e] at fine6 fine2 ⊢
    refine ⟨?_, fun i => ?_, ?_, ?_, ?_, fun i hi => ⟨?_, ?_, ?_, ?_⟩⟩
    · rw [f_pay_1 _ _ _ 5 (by decide), f_supplier_1 _ _ 5 (by decide) (by decide), d5, r5]; exact e5.symm
    · rw [f_pay_1 _ _ _ 10 (by decide), p10, d10, r10]
      show _ = (m_draws x h).1 12 i
      rw [e12 i]
      split <;> split <;> omega
    · rw [fine2, e2]
      show (f_supplier (f_battery (f_settle v h) h) h).2 2 + wr = _
      rw [f_supplier_2 _ _ 2 (by decide), dp, rp]
    · rw [f_pay_2 _ _ _ 3 (by decide), p3]
      show _ = (m_draws x h).2 3
      rw [e3, s7, s5]; omega
    · rw [pay6, fine6, p6, e6, d6, vh6, if_pos rfl, if_pos rfl, if_pos rfl, if_pos rfl, b6, s5]; omega
    · rw [pay6, p6, d6, v6 i, if_neg hi, if_neg hi, if_neg hi, if_neg hi]; omega
    · rw [f_pay_1 _ _ _ 7 (by decide), sup1 i hi, d7n i hi, v7 i, if_neg hi]
    · rw [fine6, e6, if_neg hi, if_neg hi]; omega
    · exact e14 i hi
theorem RH_house {h : Int} (hh : 0 ≤ h ∧ h ≤ 5) {v x : GS} (r : RH h v x) (g : GI3 h v) : RH (h + 1) (f_house h v) (m_house h x) := by
  obtain ⟨q5, q10, qp, qs, q6, qo⟩ := house_val hh r g
  obtain ⟨⟨s1, s2, s3, s4, s5, s6, s7, s8⟩, ⟨b1, b2, b3, b4, b5⟩, rk, r5, r10, rp, ri⟩ := r
  have f1 : ∀ j : Nat, j ≠ 5 → j ≠ 6 → j ≠ 7 → j ≠ 10 → (f_house h v).1 j = v.1 j := fun j a b c d => f_house_1 h v j a b c d
  have m1 : ∀ j : Nat, j ≠ 5 → j ≠ 6 → j ≠ 12 → j ≠ 14 → (m_house h x).1 j = x.1 j := fun j a b c d => by
    show (m_fine (m_store x h) h).1 j = _
    unfold m_fine
    rw [gV_1, gA_1n _ _ _ b]
    exact m_store_1 x h j a b c d
  have m2 : ∀ j : Nat, j ≠ 2 → j ≠ 3 → (m_house h x).2 j = x.2 j := fun j a b => by
    show (m_fine (m_store x h) h).2 j = _
    unfold m_fine
    rw [gV_2n _ _ a]
    exact m_store_2 x h j a b
  have f2 : ∀ j : Nat, j ≠ 2 → j ≠ 3 → (f_house h v).2 j = v.2 j := fun j a b => f_house_2 h v j a b
  have n1 := m1 1 (by decide) (by decide) (by decide) (by decide)
  have n7 := m1 7 (by decide) (by decide) (by decide) (by decide)
  refine ⟨?_, ⟨?_, ?_, ?_, ?_, ?_⟩, ?_, q5, q10, qp, fun i i0 i5 => ⟨fun hl => ?_, fun hg => ?_⟩⟩
  · unfold RS
    rw [f1 3 (by decide) (by decide) (by decide) (by decide), f1 8 (by decide) (by decide) (by decide) (by decide), f1 4 (by decide) (by decide) (by decide) (by decide), f1 0 (by decide) (by decide) (by decide) (by decide), f1 1 (by decide) (by decide) (by decide) (by decide), f1 2 (by decide) (by decide) (by decide) (by decide), m1 2 (by decide) (by decide) (by decide) (by decide), m1 3 (by decide) (by decide) (by decide) (by decide), m1 4 (by decide) (by decide) (by decide) (by decide), m1 0 (by decide) (by decide) (by decide) (by decide), n1, n7, f2 0 (by decide) (by decide), f2 1 (by decide) (by decide), f2 4 (by decide) (by decide), m2 0 (by decide) (by decide), m2 1 (by decide) (by decide), m2 4 (by decide) (by decide)]
    exact ⟨s1, s2, s3, s4, s5, s6, qs, s8⟩
  · rw [f2 5 (by decide) (by decide), m2 5 (by decide) (by decide)]; exact b1
  · rw [f1 11 (by decide) (by decide) (by decide) (by decide), m1 8 (by decide) (by decide) (by decide) (by decide)]; exact b2
  · rw [f1 12 (by decide) (by decide) (by decide) (by decide), m1 9 (by decide) (by decide) (by decide) (by decide)]; exact b3
  · rw [f1 13 (by decide) (by decide) (by decide) (by decide), m1 10 (by decide) (by decide) (by decide) (by decide)]; exact b4
  · rw [f1 15 (by decide) (by decide) (by decide) (by decide), m1 11 (by decide) (by decide) (by decide) (by decide)]; exact b5
  · intro t t0 t1
    rw [isel_congr n1 n7, buyer_congr n1 n7, m1 8 (by decide) (by decide) (by decide) (by decide), m1 9 (by decide) (by decide) (by decide) (by decide)]
    exact rk t t0 (by rw [m2 5 (by decide) (by decide)] at t1; exact t1)
  · by_cases e : i = h
    · rw [e]; exact q6
    · obtain ⟨o1, o2, o3, o4⟩ := qo i e
      rw [o1, o3]
      exact (ri i i0 i5).1 (by omega)
  · obtain ⟨o1, o2, o3, o4⟩ := qo i (by omega)
    obtain ⟨c1, c2, c3, c4⟩ := sums_congr (u := v) (v := f_house h v) (fun j hj => f1 j (by omega) (by omega) (by omega) (by omega)) (f2 5 (by decide) (by decide)) i
    rw [o1, o2, o3, o4, c1, c2, c3, c4, buyer_congr n1 n7, isel_congr n1 n7]
    exact (ri i i0 i5).2 (by omega)
