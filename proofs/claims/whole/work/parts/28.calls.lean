/-! THE LAW'S HELPERS beside the reference: one call each -/
theorem m_when_6 {w V : GS} {k : Int} (h : V.2 6 = 0) : (m_when w k V).2 6 = k := by
  unfold m_when
  split
  · next e => rw [h, e]
  · exact gV_2s _ _ _
theorem when_t {w V : GS} {k : Int} (h : k = 0) : m_when w k V = V := if_pos h
theorem when_f {w V : GS} {k : Int} (h : ¬ k = 0) : m_when w k V = gV w 6 k := if_neg h
theorem clear_6 {w : GS} (hI : MI w) : (m_clearU (gV w 6 0)).2 6 = 0 := by
  have hT : ∀ (b : Int) (n : Nat) (y : GS), (m_takesL b n y).2 6 = y.2 6 := by
    intro b n
    induction n with
    | zero => intro y; rfl
    | succ n ih =>
      intro y
      simp only [m_takesL]
      split
      · rw [ih]; rfl
      · rfl
  have hMI : ∀ (r i : Int) (y : GS), (m_matchI r i y).2 6 = y.2 6 := by
    intro r i y
    simp only [m_matchI]
    split
    · exact hT _ _ _
    · rfl
  have hMO : ∀ (r : Int) (y : GS), (m_matchO r y).2 6 = y.2 6 := fun r y => zfor_inv (m_matchI r) y (fun _ a => a.2 6 = y.2 6) 6 rfl (fun i a _ _ q => (hMI r i a).trans q) 6 (by omega)
  have hM : ∀ y : GS, (m_match y).2 6 = y.2 6 := by
    intro y
    unfold m_match
    exact zfor_inv m_matchO y (fun _ a => a.2 6 = y.2 6) 6 rfl (fun i a _ _ q => (hMO i a).trans q) 6 (by omega)
  have hC : ∀ (k : Int) (n : Nat) (y : Int × GS), (m_cutsL k n y).2.2 6 = y.2.2 6 := by
    intro k n
    induction n with
    | zero => intro y; rfl
    | succ n ih =>
      intro y
      simp only [m_cutsL]
      split
      · rw [ih]; exact m_cut1_2 _ _ _ 6 (by decide)
      · rfl
  have hCs : ∀ (y : GS) (k : Int), (m_cuts y k).2.2 6 = y.2 6 := by
    intro y k
    unfold m_cuts
    generalize (301 : Nat) = N
    exact hC k N (0, y)
  have hP : ∀ (n : Nat) (y : Int × GS), (m_pass n y).2.2 6 = y.2.2 6 := by
    intro n
    induction n with
    | zero => intro y; rfl
    | succ n ih => intro y; simp only [m_pass]; rw [ih]; exact hCs _ _
  have hA : ∀ (n : Nat) (y : Int × GS), (m_cutAll n y).2 6 = y.2.2 6 := by
    intro n
    induction n with
    | zero => intro y; rfl
    | succ n ih =>
      intro y
      simp only [m_cutAll]
      split
      · rw [ih]; exact hP 5 (0, y.2)
      · rfl
  have hS : ∀ y : GS, (m_set y).2 6 = y.2 6 := fun y => by
    have : (m_set y).2 = y.2 := m_setk_2 y _
    rw [this]
  have hH : ∀ y : GS, (zfor 6 m_house y).2 6 = y.2 6 := fun y => zfor_inv m_house y (fun _ a => a.2 6 = y.2 6) 6 rfl (fun i a _ _ q => by
    show (m_fine (m_store a i) i).2 6 = _
    unfold m_fine
    rw [gV_2n _ _ (by decide)]
    exact (m_store_2 a i 6 (by decide) (by decide)).trans q) 6 (by omega)
  have e : m_clearU (gV w 6 0) = m_next (zfor 5 m_flowF (zfor 6 m_house (m_set (m_cutAll 302 (1, m_match (m_begin (gV w 6 0))))))) := by unfold m_clearU; exact Eq.refl _
  have q : (m_match (m_begin (gV w 6 0))).2 6 = 0 := by rw [hM, m_begin_2]; rfl
  rw [e]
  generalize m_match (m_begin (gV w 6 0)) = y at q ⊢
  generalize (302 : Nat) = N
  rw [(nextm_val _).2.2.2.1 6 (by decide), m_flowFk_2, hH, hS, hA]
  exact q
theorem H_forecast (l : Launch) (hl : l.stackTraces = false) (D : va_G) (ad : Nat → Nat) (cI cZ cL : ClassId) (ao : Nat) (lf : Nat → Int64) {u w : GS} (hR : RR u w) (h x : Int) (hz : zB h) (hz2 : zB x) : ∃ (u1 : GS) (lf1 : Nat → Int64), zMi l D (zT cI cZ cL) yL_forecast wsL_forecast ({ frames := 8, cells := 1, slots := 6, locals := 127 } : Room) (Gw ad cI cZ u ++ Ow ao cL lf) [.ref (ad 0), .int (iZ h), .int (iZ x), .ref ao] (m_goesC (m_in h 0 5) (m_in x (-50) 50) (m_belongs w h)) (Gw ad cI cZ u1 ++ Ow ao cL lf1) 1 6 ∧ RR u1 (m_when w (m_goesC (m_in h 0 5) (m_in x (-50) 50) (m_belongs w h)) (gA (gV w 6 0) 0 h x)) ∧ (m_goesC (m_in h 0 5) (m_in x (-50) 50) (m_belongs w h) = 0 → lf1 0 = (iZ (if m_goesC (m_in h 0 5) (m_in x (-50) 50) (m_belongs w h) = 0 then w.1 0 h else 0)).toInt64) := by
  have a := m_in_sp h 0 5
  have b := m_in_sp x (-50) 50
  have d := m_belongs_sp w h
  have g := m_goes_sp (m_in h 0 5) (m_in x (-50) 50) (m_belongs w h)
  by_cases h0 : 0 ≤ h ∧ h ≤ 5
  · by_cases h1 : -50 ≤ x ∧ x ≤ 50
    · rcases RR_mem hR h0 with ⟨m1, m2⟩ | ⟨m1, m2⟩
      · have t0 := (hR.2.2.1.2.2.2.1 h h0.1 h0.2).2.2
        rw [if_pos m1] at t0
        have e9 : m_goesC (m_in h 0 5) (m_in x (-50) 50) (m_belongs w h) = 0 := by omega
        exact ⟨gA u 1 h x, (vp_updL lf (iZ 0).toNatClampNeg ((iZ (u.1 1 h)).toInt64)), by rw [e9]; exact L_forecast_0 l hl D ad cI cZ cL ao lf u h x h0 h1 hR.bd m2, by rw [when_t e9]; exact RR_fore hR h1 m1, fun q9 => by rw [Ow_s, if_pos e9, t0]⟩
      · skip
        have e9 : m_goesC (m_in h 0 5) (m_in x (-50) 50) (m_belongs w h) = 3 := by omega
        exact ⟨u, lf, by rw [e9]; exact L_forecast_3 l hl D ad cI cZ cL ao lf u h x hz hz2 h0 h1 hR.bd m2, by rw [when_f (by omega)]; exact RR_6 hR _, fun q9 => absurd q9 (by omega)⟩
    · skip
      have e9 : m_goesC (m_in h 0 5) (m_in x (-50) 50) (m_belongs w h) = 2 := by omega
      exact ⟨u, lf, by rw [e9]; exact L_forecast_2 l hl D ad cI cZ cL ao lf u h x hz hz2 h0 h1, by rw [when_f (by omega)]; exact RR_6 hR _, fun q9 => absurd q9 (by omega)⟩
  · skip
    have e9 : m_goesC (m_in h 0 5) (m_in x (-50) 50) (m_belongs w h) = 1 := by omega
    exact ⟨u, lf, by rw [e9]; exact L_forecast_1 l hl D ad cI cZ cL ao lf u h x hz hz2 h0, by rw [when_f (by omega)]; exact RR_6 hR _, fun q9 => absurd q9 (by omega)⟩
theorem H_meter (l : Launch) (hl : l.stackTraces = false) (D : va_G) (ad : Nat → Nat) (cI cZ cL : ClassId) (ao : Nat) (lf : Nat → Int64) {u w : GS} (hR : RR u w) (h x : Int) (hz : zB h) (hz2 : zB x) : ∃ (u1 : GS) (lf1 : Nat → Int64), zMi l D (zT cI cZ cL) yL_meter wsL_meter ({ frames := 8, cells := 1, slots := 6, locals := 127 } : Room) (Gw ad cI cZ u ++ Ow ao cL lf) [.ref (ad 0), .int (iZ h), .int (iZ x), .ref ao] (m_goesC (m_in h 0 5) (m_in x (-50) 50) (m_belongs w h)) (Gw ad cI cZ u1 ++ Ow ao cL lf1) 1 6 ∧ RR u1 (m_when w (m_goesC (m_in h 0 5) (m_in x (-50) 50) (m_belongs w h)) (gA (gV w 6 0) 1 h x)) ∧ (m_goesC (m_in h 0 5) (m_in x (-50) 50) (m_belongs w h) = 0 → lf1 0 = (iZ (if m_goesC (m_in h 0 5) (m_in x (-50) 50) (m_belongs w h) = 0 then w.1 1 h else 0)).toInt64) := by
  have a := m_in_sp h 0 5
  have b := m_in_sp x (-50) 50
  have d := m_belongs_sp w h
  have g := m_goes_sp (m_in h 0 5) (m_in x (-50) 50) (m_belongs w h)
  by_cases h0 : 0 ≤ h ∧ h ≤ 5
  · by_cases h1 : -50 ≤ x ∧ x ≤ 50
    · rcases RR_mem hR h0 with ⟨m1, m2⟩ | ⟨m1, m2⟩
      · have t0 := (hR.2.2.1.2.2.2.1 h h0.1 h0.2).2.1
        rw [if_pos m1] at t0
        have e9 : m_goesC (m_in h 0 5) (m_in x (-50) 50) (m_belongs w h) = 0 := by omega
        exact ⟨gA u 2 h x, (vp_updL lf (iZ 0).toNatClampNeg ((iZ (u.1 2 h)).toInt64)), by rw [e9]; exact L_meter_0 l hl D ad cI cZ cL ao lf u h x h0 h1 hR.bd m2, by rw [when_t e9]; exact RR_meter hR h1 m1, fun q9 => by rw [Ow_s, if_pos e9, t0]⟩
      · skip
        have e9 : m_goesC (m_in h 0 5) (m_in x (-50) 50) (m_belongs w h) = 3 := by omega
        exact ⟨u, lf, by rw [e9]; exact L_meter_3 l hl D ad cI cZ cL ao lf u h x hz hz2 h0 h1 hR.bd m2, by rw [when_f (by omega)]; exact RR_6 hR _, fun q9 => absurd q9 (by omega)⟩
    · skip
      have e9 : m_goesC (m_in h 0 5) (m_in x (-50) 50) (m_belongs w h) = 2 := by omega
      exact ⟨u, lf, by rw [e9]; exact L_meter_2 l hl D ad cI cZ cL ao lf u h x hz hz2 h0 h1, by rw [when_f (by omega)]; exact RR_6 hR _, fun q9 => absurd q9 (by omega)⟩
  · skip
    have e9 : m_goesC (m_in h 0 5) (m_in x (-50) 50) (m_belongs w h) = 1 := by omega
    exact ⟨u, lf, by rw [e9]; exact L_meter_1 l hl D ad cI cZ cL ao lf u h x hz hz2 h0, by rw [when_f (by omega)]; exact RR_6 hR _, fun q9 => absurd q9 (by omega)⟩
theorem H_setPrice (l : Launch) (hl : l.stackTraces = false) (D : va_G) (ad : Nat → Nat) (cI cZ cL : ClassId) (ao : Nat) (lf : Nat → Int64) {u w : GS} (hR : RR u w) (h x : Int) (hz : zB h) (hz2 : zB x) : ∃ (u1 : GS) (lf1 : Nat → Int64), zMi l D (zT cI cZ cL) yL_setPrice wsL_setPrice ({ frames := 8, cells := 1, slots := 6, locals := 127 } : Room) (Gw ad cI cZ u ++ Ow ao cL lf) [.ref (ad 0), .int (iZ h), .int (iZ x), .ref ao] (m_goesC (m_in h 0 5) (m_in x 0 100) 1) (Gw ad cI cZ u1 ++ Ow ao cL lf1) 1 6 ∧ RR u1 (m_when w (m_goesC (m_in h 0 5) (m_in x 0 100) 1) (gA (gV w 6 0) 2 h x)) ∧ (m_goesC (m_in h 0 5) (m_in x 0 100) 1 = 0 → lf1 0 = (iZ (if m_goesC (m_in h 0 5) (m_in x 0 100) 1 = 0 then w.1 2 h else 0)).toInt64) := by
  have a := m_in_sp h 0 5
  have b := m_in_sp x 0 100
  have g := m_goes_sp (m_in h 0 5) (m_in x 0 100) 1
  have t0 : u.1 3 h = w.1 2 h := congrFun hR.2.2.1.1 h
  by_cases h0 : 0 ≤ h ∧ h ≤ 5
  · by_cases h1 : 0 ≤ x ∧ x ≤ 100
    · skip
      have e9 : m_goesC (m_in h 0 5) (m_in x 0 100) 1 = 0 := by omega
      exact ⟨gA u 3 h x, (vp_updL lf (iZ 0).toNatClampNeg ((iZ (u.1 3 h)).toInt64)), by rw [e9]; exact L_setPrice_0 l hl D ad cI cZ cL ao lf u h x h0 h1, by rw [when_t e9]; exact RR_price hR h1, fun q9 => by rw [Ow_s, if_pos e9, t0]⟩
    · skip
      have e9 : m_goesC (m_in h 0 5) (m_in x 0 100) 1 = 2 := by omega
      exact ⟨u, lf, by rw [e9]; exact L_setPrice_2 l hl D ad cI cZ cL ao lf u h x hz hz2 h0 h1, by rw [when_f (by omega)]; exact RR_6 hR _, fun q9 => absurd q9 (by omega)⟩
  · skip
    have e9 : m_goesC (m_in h 0 5) (m_in x 0 100) 1 = 1 := by omega
    exact ⟨u, lf, by rw [e9]; exact L_setPrice_1 l hl D ad cI cZ cL ao lf u h x hz hz2 h0, by rw [when_f (by omega)]; exact RR_6 hR _, fun q9 => absurd q9 (by omega)⟩
theorem H_setLimit (l : Launch) (hl : l.stackTraces = false) (D : va_G) (ad : Nat → Nat) (cI cZ cL : ClassId) (ao : Nat) (lf : Nat → Int64) {u w : GS} (hR : RR u w) (h x : Int) (hz : zB h) (hz2 : zB x) : ∃ (u1 : GS) (lf1 : Nat → Int64), zMi l D (zT cI cZ cL) yL_setLimit wsL_setLimit ({ frames := 8, cells := 1, slots := 6, locals := 127 } : Room) (Gw ad cI cZ u ++ Ow ao cL lf) [.ref (ad 0), .int (iZ h), .int (iZ x), .ref ao] (m_goesC (m_in h 0 4) (m_in x 0 300) 1) (Gw ad cI cZ u1 ++ Ow ao cL lf1) 1 6 ∧ RR u1 (m_when w (m_goesC (m_in h 0 4) (m_in x 0 300) 1) (gA (gV w 6 0) 3 h x)) ∧ (m_goesC (m_in h 0 4) (m_in x 0 300) 1 = 0 → lf1 0 = (iZ (if m_goesC (m_in h 0 4) (m_in x 0 300) 1 = 0 then w.1 3 h else 0)).toInt64) := by
  have a := m_in_sp h 0 4
  have b := m_in_sp x 0 300
  have g := m_goes_sp (m_in h 0 4) (m_in x 0 300) 1
  have t0 : u.1 8 h = w.1 3 h := congrFun hR.2.2.1.2.1 h
  by_cases h0 : 0 ≤ h ∧ h ≤ 4
  · by_cases h1 : 0 ≤ x ∧ x ≤ 300
    · skip
      have e9 : m_goesC (m_in h 0 4) (m_in x 0 300) 1 = 0 := by omega
      exact ⟨gA u 8 h x, (vp_updL lf (iZ 0).toNatClampNeg ((iZ (u.1 8 h)).toInt64)), by rw [e9]; exact L_setLimit_0 l hl D ad cI cZ cL ao lf u h x h0 h1, by rw [when_t e9]; exact RR_limit hR h1, fun q9 => by rw [Ow_s, if_pos e9, t0]⟩
    · skip
      have e9 : m_goesC (m_in h 0 4) (m_in x 0 300) 1 = 2 := by omega
      exact ⟨u, lf, by rw [e9]; exact L_setLimit_2 l hl D ad cI cZ cL ao lf u h x hz hz2 h0 h1, by rw [when_f (by omega)]; exact RR_6 hR _, fun q9 => absurd q9 (by omega)⟩
  · skip
    have e9 : m_goesC (m_in h 0 4) (m_in x 0 300) 1 = 1 := by omega
    exact ⟨u, lf, by rw [e9]; exact L_setLimit_1 l hl D ad cI cZ cL ao lf u h x hz hz2 h0, by rw [when_f (by omega)]; exact RR_6 hR _, fun q9 => absurd q9 (by omega)⟩
theorem H_setSupplier (l : Launch) (hl : l.stackTraces = false) (D : va_G) (ad : Nat → Nat) (cI cZ cL : ClassId) (ao : Nat) (lf : Nat → Int64) {u w : GS} (hR : RR u w) (a b : Int) (hz : zB a) (hz2 : zB b) : ∃ (u1 : GS) (lf1 : Nat → Int64), zMi l D (zT cI cZ cL) yL_setSupplier wsL_setSupplier ({ frames := 8, cells := 1, slots := 6, locals := 126 } : Room) (Gw ad cI cZ u ++ Ow ao cL lf) [.ref (ad 0), .int (iZ a), .int (iZ b)] (m_supC a b) (Gw ad cI cZ u1 ++ Ow ao cL lf1) 1 6 ∧ RR u1 (m_when w (m_supC a b) (gV (gV (gV w 6 0) 0 a) 1 b)) := by
  have a1 := m_in_sp a 1 100
  have b1 := m_in_sp b 0 a
  by_cases h0 : 1 ≤ a ∧ a ≤ 100
  · by_cases h1 : 0 ≤ b ∧ b ≤ a
    · skip
      have e9 : m_supC a b = 0 := (if_pos ⟨by omega, by omega⟩)
      exact ⟨gV (gV u 0 a) 1 b, lf, by rw [e9]; exact L_setSupplier_0 l hl D ad cI cZ cL ao lf u a b hz hz2 h0 h1, by rw [when_t e9]; exact RR_sup a b hR⟩
    · skip
      have e9 : m_supC a b = 1 := (if_neg (fun q => by omega))
      exact ⟨u, lf, by rw [e9]; exact L_setSupplier_2 l hl D ad cI cZ cL ao lf u a b hz hz2 h0 h1, by rw [when_f (by omega)]; exact RR_6 hR _⟩
  · skip
    have e9 : m_supC a b = 1 := (if_neg (fun q => by omega))
    exact ⟨u, lf, by rw [e9]; exact L_setSupplier_1 l hl D ad cI cZ cL ao lf u a b hz hz2 h0, by rw [when_f (by omega)]; exact RR_6 hR _⟩
theorem H_rent (l : Launch) (hl : l.stackTraces = false) (D : va_G) (ad : Nat → Nat) (cI cZ cL : ClassId) (ao : Nat) (lf : Nat → Int64) {u w : GS} (hR : RR u w) (h o x : Int) (hz : zB h) (hzo : zB o) (hz2 : zB x) : ∃ (u1 : GS) (lf1 : Nat → Int64), zMi l D (zT cI cZ cL) yL_rent wsL_rent ({ frames := 8, cells := 1, slots := 6, locals := 127 } : Room) (Gw ad cI cZ u ++ Ow ao cL lf) [.ref (ad 0), .int (iZ h), .int (iZ o), .int (iZ x), .ref ao] (m_rentC w h o x) (Gw ad cI cZ u1 ++ Ow ao cL lf1) 1 6 ∧ RR u1 (m_when w (m_rentC w h o x) (m_rentW (gV w 6 0) h o x)) ∧ (m_rentC w h o x = 0 → lf1 0 = (iZ (if m_rentC w h o x = 0 then (m_rentW w h o x).1 4 o else 0)).toInt64) := by
  have a1 := m_in_sp h 0 5
  have a2 := m_in_sp o 0 5
  have a3 := m_in_sp x 1 100
  have d1 := m_belongs_sp w h
  have d2 := m_belongs_sp w o
  have e5 : u.1 5 h = w.1 5 h := congrFun hR.2.2.2.2.1.1 h
  have e4 : u.1 4 = w.1 4 := hR.2.2.1.2.2.1
  have e4h : u.1 4 h = w.1 4 h := congrFun e4 h
  by_cases h0 : 0 ≤ h ∧ h ≤ 5
  · by_cases h1 : 0 ≤ o ∧ o ≤ 5
    · by_cases hho : h = o
      · skip
        have e9 : m_rentC w h o x = 2 := ((if_neg (by omega)).trans (if_pos (by omega)))
        exact ⟨u, lf, by rw [e9]; exact L_rent_3 l hl D ad cI cZ cL ao lf u h o x hz hzo hz2 h0 h1 hho, by rw [when_f (by omega)]; exact RR_6 hR _, fun q9 => absurd q9 (by omega)⟩
      · by_cases hx : 1 ≤ x ∧ x ≤ 100
        · rcases RR_mem hR h0 with ⟨m1, m2⟩ | ⟨m1, m2⟩
          · rcases RR_mem hR h1 with ⟨n1, n2⟩ | ⟨n1, n2⟩
            · by_cases hr : w.1 5 h ≤ w.1 4 h - x
              · have t0 : (f_rent u h o x).1 4 o = (m_rentW w h o x).1 4 o := by show updZ (updZ (u.1 4) h (u.1 4 h - x)) o (updZ (u.1 4) h (u.1 4 h - x) o + x) o = updZ (updZ (w.1 4) h (w.1 4 h - x)) o (updZ (w.1 4) h (w.1 4 h - x) o + x) o; rw [e4]
                have e9 : m_rentC w h o x = 0 := ((if_neg (by omega)).trans ((if_neg (by omega)).trans (if_pos ⟨by omega, by omega, by omega⟩)))
                exact ⟨f_rent u h o x, (vp_updL lf (iZ 0).toNatClampNeg ((iZ ((f_rent u h o x).1 4 o)).toInt64)), by rw [e9]; exact L_rent_0 l hl D ad cI cZ cL ao lf u h o x hz hzo hz2 h0 h1 hho hx hR.bd m2 n2 (by omega), by rw [when_t e9]; exact RR_rent hR h0 h1 hho hx hr, fun q9 => by rw [Ow_s, if_pos e9, t0]⟩
              · skip
                have e9 : m_rentC w h o x = 3 := ((if_neg (by omega)).trans ((if_neg (by omega)).trans (if_neg (fun q => by omega))))
                exact ⟨u, lf, by rw [e9]; exact L_rent_7 l hl D ad cI cZ cL ao lf u h o x hz hzo hz2 h0 h1 hho hx hR.bd m2 n2 (by omega), by rw [when_f (by omega)]; exact RR_6 hR _, fun q9 => absurd q9 (by omega)⟩
            · skip
              have e9 : m_rentC w h o x = 3 := ((if_neg (by omega)).trans ((if_neg (by omega)).trans (if_neg (fun q => by omega))))
              exact ⟨u, lf, by rw [e9]; exact L_rent_6 l hl D ad cI cZ cL ao lf u h o x hz hzo hz2 h0 h1 hho hx hR.bd m2 n2, by rw [when_f (by omega)]; exact RR_6 hR _, fun q9 => absurd q9 (by omega)⟩
          · skip
            have e9 : m_rentC w h o x = 3 := ((if_neg (by omega)).trans ((if_neg (by omega)).trans (if_neg (fun q => by omega))))
            exact ⟨u, lf, by rw [e9]; exact L_rent_5 l hl D ad cI cZ cL ao lf u h o x hz hzo hz2 h0 h1 hho hx hR.bd m2, by rw [when_f (by omega)]; exact RR_6 hR _, fun q9 => absurd q9 (by omega)⟩
        · skip
          have e9 : m_rentC w h o x = 2 := ((if_neg (by omega)).trans (if_pos (by omega)))
          exact ⟨u, lf, by rw [e9]; exact L_rent_4 l hl D ad cI cZ cL ao lf u h o x hz hzo hz2 h0 h1 hho hx, by rw [when_f (by omega)]; exact RR_6 hR _, fun q9 => absurd q9 (by omega)⟩
    · skip
      have e9 : m_rentC w h o x = 1 := (if_pos (by omega))
      exact ⟨u, lf, by rw [e9]; exact L_rent_2 l hl D ad cI cZ cL ao lf u h o x hz hzo hz2 h0 h1, by rw [when_f (by omega)]; exact RR_6 hR _, fun q9 => absurd q9 (by omega)⟩
  · skip
    have e9 : m_rentC w h o x = 1 := (if_pos (by omega))
    exact ⟨u, lf, by rw [e9]; exact L_rent_1 l hl D ad cI cZ cL ao lf u h o x hz hzo hz2 h0, by rw [when_f (by omega)]; exact RR_6 hR _, fun q9 => absurd q9 (by omega)⟩
theorem H_leave (l : Launch) (hl : l.stackTraces = false) (D : va_G) (ad : Nat → Nat) (cI cZ cL : ClassId) (ao : Nat) (lf : Nat → Int64) {u w : GS} (hR : RR u w) (h : Int) (hz : zB h) : ∃ (u1 : GS) (lf1 : Nat → Int64), zMi l D (zT cI cZ cL) yL_leave wsL_leave ({ frames := 8, cells := 1, slots := 6, locals := 125 } : Room) (Gw ad cI cZ u ++ Ow ao cL lf) [.ref (ad 0), .int (iZ h), .ref ao] (m_goesC (m_in h 0 5) (m_belongs w h) 1) (Gw ad cI cZ u1 ++ Ow ao cL lf1) 1 6 ∧ RR u1 (m_when w (m_goesC (m_in h 0 5) (m_belongs w h) 1) (m_leaveW (gV w 6 0) h)) ∧ (m_goesC (m_in h 0 5) (m_belongs w h) 1 = 0 → lf1 0 = (iZ (if m_goesC (m_in h 0 5) (m_belongs w h) 1 = 0 then w.1 5 h * w.2 1 else 0)).toInt64) := by
  have a := m_in_sp h 0 5
  have d := m_belongs_sp w h
  have g := m_goes_sp (m_in h 0 5) (m_belongs w h) 1
  by_cases h0 : 0 ≤ h ∧ h ≤ 5
  · rcases RR_mem hR h0 with ⟨m1, m2⟩ | ⟨m1, m2⟩
    · have t0 := RR_leave hR h0
      have e9 : m_goesC (m_in h 0 5) (m_belongs w h) 1 = 0 := by omega
      exact ⟨f_leave u h, (vp_updL lf (iZ 0).toNatClampNeg ((iZ (u.1 5 h * u.2 1)).toInt64)), by rw [e9]; exact L_leave_0 l hl D ad cI cZ cL ao lf u h h0 hR.bd m2, by rw [when_t e9]; exact t0.1, fun q9 => by rw [Ow_s, if_pos e9, t0.2]⟩
    · skip
      have e9 : m_goesC (m_in h 0 5) (m_belongs w h) 1 = 2 := by omega
      exact ⟨u, lf, by rw [e9]; exact L_leave_2 l hl D ad cI cZ cL ao lf u h hz h0 hR.bd m2, by rw [when_f (by omega)]; exact RR_6 hR _, fun q9 => absurd q9 (by omega)⟩
  · skip
    have e9 : m_goesC (m_in h 0 5) (m_belongs w h) 1 = 1 := by omega
    exact ⟨u, lf, by rw [e9]; exact L_leave_1 l hl D ad cI cZ cL ao lf u h hz h0, by rw [when_f (by omega)]; exact RR_6 hR _, fun q9 => absurd q9 (by omega)⟩
theorem H_clear (l : Launch) (hl : l.stackTraces = false) (D : va_G) (ad : Nat → Nat) (cI cZ cL : ClassId) (ao : Nat) (lf : Nat → Int64) {u w : GS} (hR : RR u w) (hq : w.2 4 < 500) : ∃ (u1 : GS) (lf1 : Nat → Int64), zMi l D (zT cI cZ cL) yL_clear wsL_clear ({ frames := 7, cells := 1, slots := 6, locals := 134 } : Room) (Gw ad cI cZ u ++ Ow ao cL lf) [.ref (ad 0), .ref ao] (0) (Gw ad cI cZ u1 ++ Ow ao cL lf1) 1 6 ∧ RR u1 (m_clearU (gV w 6 0)) ∧ (0 = 0 → lf1 0 = (iZ ((m_clearU (gV w 6 0)).1 12 0)).toInt64) := by
  have k := clear_ok hR hq
  have e := hR.2.2.1.2.2.2.2.2.2.2
  exact ⟨f_clearU u, (vp_updL lf (iZ 0).toNatClampNeg ((iZ ((f_clearU u).1 10 0)).toInt64)), L_clear_0 l hl D ad cI cZ cL ao lf u (by omega) (by have := hR.2.2.2.2.2.2.2.1; omega) hR.1, k.1, fun _ => by rw [Ow_s, k.2]⟩
theorem H_clear_1 (l : Launch) (hl : l.stackTraces = false) (D : va_G) (ad : Nat → Nat) (cI cZ cL : ClassId) (ao : Nat) (lf : Nat → Int64) {u w : GS} (hR : RR u w) (hq : w.2 4 = 500) : ∃ (u1 : GS) (lf1 : Nat → Int64), zMi l D (zT cI cZ cL) yL_clear wsL_clear ({ frames := 7, cells := 1, slots := 6, locals := 134 } : Room) (Gw ad cI cZ u ++ Ow ao cL lf) [.ref (ad 0), .ref ao] (1) (Gw ad cI cZ u1 ++ Ow ao cL lf1) 1 6 ∧ RR u1 (gV w 6 1) := by
  have e := hR.2.2.1.2.2.2.2.2.2.2
  exact ⟨u, lf, L_clear_1 l hl D ad cI cZ cL ao lf u (by omega), RR_6 hR 1⟩
theorem H_ofTrade (l : Launch) (hl : l.stackTraces = false) (D : va_G) (ad : Nat → Nat) (cI cZ cL : ClassId) (ao : Nat) (lf : Nat → Int64) {u w : GS} (hR : RR u w) (t x : Int) (hz : zB t) (hz2 : zB x) : ∃ (u1 : GS) (lf1 : Nat → Int64), zMi l D (zT cI cZ cL) yL_ofTrade wsL_ofTrade ({ frames := 7, cells := 1, slots := 6, locals := 104 } : Room) (Gw ad cI cZ u ++ Ow ao cL lf) [.ref (ad 0), .int (iZ t), .int (iZ x), .ref ao] (m_ofC w t x) (Gw ad cI cZ u1 ++ Ow ao cL lf1) 1 6 ∧ RR u1 (gV w 6 (m_ofC w t x)) ∧ (m_ofC w t x = 0 → lf1 0 = (iZ (if m_ofC w t x = 0 then m_ofV w t x else 0)).toInt64) := by
  have a := m_in_sp t 0 (w.2 5 - 1)
  have b := m_in_sp x 0 3
  obtain ⟨e5, e8, e9a, e10, e11⟩ := hR.2.2.2.1
  have c0 := hR.1.2.1.1
  have c6 := hR.1.2.1.2.1
  by_cases h0 : 0 ≤ t ∧ t < u.2 5
  · by_cases h1 : 0 ≤ x ∧ x ≤ 3
    · have t0 : f_ofTrade u t x = m_ofV w t x := by unfold f_ofTrade m_ofV; rw [e8, e9a, e10, e11]
      have e9 : m_ofC w t x = 0 := (if_pos ⟨by omega, by omega⟩)
      exact ⟨u, (vp_updL lf (iZ 0).toNatClampNeg ((iZ (f_ofTrade u t x)).toInt64)), by rw [e9]; exact L_ofTrade_0 l hl D ad cI cZ cL ao lf u t x ⟨c0, c6⟩ h0 h1, by exact RR_6 hR _, fun q9 => by rw [Ow_s, if_pos e9, t0]⟩
    · skip
      have e9 : m_ofC w t x = 1 := (if_neg (fun q => by omega))
      exact ⟨u, lf, by rw [e9]; exact L_ofTrade_2 l hl D ad cI cZ cL ao lf u t x hz hz2 ⟨c0, c6⟩ h0 h1, by exact RR_6 hR _, fun q9 => absurd q9 (by omega)⟩
  · skip
    have e9 : m_ofC w t x = 1 := (if_neg (fun q => by omega))
    exact ⟨u, lf, by rw [e9]; exact L_ofTrade_1 l hl D ad cI cZ cL ao lf u t x hz hz2 ⟨c0, c6⟩ h0, by exact RR_6 hR _, fun q9 => absurd q9 (by omega)⟩
theorem H_went (l : Launch) (hl : l.stackTraces = false) (D : va_G) (ad : Nat → Nat) (cI cZ cL : ClassId) (ao : Nat) (lf : Nat → Int64) {u w : GS} (hR : RR u w) (h : Int) (hz : zB h) : ∃ (u1 : GS) (lf1 : Nat → Int64), zMi l D (zT cI cZ cL) yL_went wsL_went ({ frames := 7, cells := 1, slots := 6, locals := 103 } : Room) (Gw ad cI cZ u ++ Ow ao cL lf) [.ref (ad 0), .int (iZ h), .ref ao] (m_goesC (m_in h 0 5) 1 1) (Gw ad cI cZ u1 ++ Ow ao cL lf1) 1 6 ∧ RR u1 (gV w 6 (m_goesC (m_in h 0 5) 1 1)) ∧ (m_goesC (m_in h 0 5) 1 1 = 0 → lf1 0 = (iZ (if m_goesC (m_in h 0 5) 1 1 = 0 then w.1 12 h else 0)).toInt64) := by
  have a := m_in_sp h 0 5
  have g := m_goes_sp (m_in h 0 5) 1 1
  by_cases h0 : 0 ≤ h ∧ h ≤ 5
  · have t0 : u.1 10 h = w.1 12 h := hR.2.2.2.2.1.2.2.2.1 h
    have e9 : m_goesC (m_in h 0 5) 1 1 = 0 := by omega
    exact ⟨u, (vp_updL lf (iZ 0).toNatClampNeg ((iZ (u.1 10 h)).toInt64)), by rw [e9]; exact L_went_0 l hl D ad cI cZ cL ao lf u h h0, by exact RR_6 hR _, fun q9 => by rw [Ow_s, if_pos e9, t0]⟩
  · skip
    have e9 : m_goesC (m_in h 0 5) 1 1 = 1 := by omega
    exact ⟨u, lf, by rw [e9]; exact L_went_1 l hl D ad cI cZ cL ao lf u h hz h0, by exact RR_6 hR _, fun q9 => absurd q9 (by omega)⟩
theorem H_flow (l : Launch) (hl : l.stackTraces = false) (D : va_G) (ad : Nat → Nat) (cI cZ cL : ClassId) (ao : Nat) (lf : Nat → Int64) {u w : GS} (hR : RR u w) (h : Int) (hz : zB h) : ∃ (u1 : GS) (lf1 : Nat → Int64), zMi l D (zT cI cZ cL) yL_flow wsL_flow ({ frames := 8, cells := 1, slots := 6, locals := 123 } : Room) (Gw ad cI cZ u ++ Ow ao cL lf) [.ref (ad 0), .int (iZ h), .ref ao] (m_goesC (m_in h 0 4) 1 1) (Gw ad cI cZ u1 ++ Ow ao cL lf1) 1 6 ∧ RR u1 (gV w 6 (m_goesC (m_in h 0 4) 1 1)) ∧ (m_goesC (m_in h 0 4) 1 1 = 0 → lf1 0 = (iZ (if m_goesC (m_in h 0 4) 1 1 = 0 then w.1 13 h else 0)).toInt64) := by
  have a := m_in_sp h 0 4
  have g := m_goes_sp (m_in h 0 4) 1 1
  by_cases h0 : 0 ≤ h ∧ h ≤ 4
  · have t0 : u.1 9 h = w.1 13 h := congrFun hR.2.2.2.2.1.2.2.1 h
    have e9 : m_goesC (m_in h 0 4) 1 1 = 0 := by omega
    exact ⟨u, (vp_updL lf (iZ 0).toNatClampNeg ((iZ (u.1 9 h)).toInt64)), by rw [e9]; exact L_flow_0 l hl D ad cI cZ cL ao lf u h h0, by exact RR_6 hR _, fun q9 => by rw [Ow_s, if_pos e9, t0]⟩
  · skip
    have e9 : m_goesC (m_in h 0 4) 1 1 = 1 := by omega
    exact ⟨u, lf, by rw [e9]; exact L_flow_1 l hl D ad cI cZ cL ao lf u h hz h0, by exact RR_6 hR _, fun q9 => absurd q9 (by omega)⟩
theorem H_stored (l : Launch) (hl : l.stackTraces = false) (D : va_G) (ad : Nat → Nat) (cI cZ cL : ClassId) (ao : Nat) (lf : Nat → Int64) {u w : GS} (hR : RR u w) (h : Int) (hz : zB h) : ∃ (u1 : GS) (lf1 : Nat → Int64), zMi l D (zT cI cZ cL) yL_stored wsL_stored ({ frames := 8, cells := 1, slots := 6, locals := 123 } : Room) (Gw ad cI cZ u ++ Ow ao cL lf) [.ref (ad 0), .int (iZ h), .ref ao] (m_goesC (m_in h 0 5) 1 1) (Gw ad cI cZ u1 ++ Ow ao cL lf1) 1 6 ∧ RR u1 (gV w 6 (m_goesC (m_in h 0 5) 1 1)) ∧ (m_goesC (m_in h 0 5) 1 1 = 0 → lf1 0 = (iZ (if m_goesC (m_in h 0 5) 1 1 = 0 then w.1 5 h else 0)).toInt64) := by
  have a := m_in_sp h 0 5
  have g := m_goes_sp (m_in h 0 5) 1 1
  by_cases h0 : 0 ≤ h ∧ h ≤ 5
  · have t0 : u.1 5 h = w.1 5 h := congrFun hR.2.2.2.2.1.1 h
    have e9 : m_goesC (m_in h 0 5) 1 1 = 0 := by omega
    exact ⟨u, (vp_updL lf (iZ 0).toNatClampNeg ((iZ (u.1 5 h)).toInt64)), by rw [e9]; exact L_stored_0 l hl D ad cI cZ cL ao lf u h h0, by exact RR_6 hR _, fun q9 => by rw [Ow_s, if_pos e9, t0]⟩
  · skip
    have e9 : m_goesC (m_in h 0 5) 1 1 = 1 := by omega
    exact ⟨u, lf, by rw [e9]; exact L_stored_1 l hl D ad cI cZ cL ao lf u h hz h0, by exact RR_6 hR _, fun q9 => absurd q9 (by omega)⟩
theorem H_part (l : Launch) (hl : l.stackTraces = false) (D : va_G) (ad : Nat → Nat) (cI cZ cL : ClassId) (ao : Nat) (lf : Nat → Int64) {u w : GS} (hR : RR u w) (h : Int) (hz : zB h) : ∃ (u1 : GS) (lf1 : Nat → Int64), zMi l D (zT cI cZ cL) yL_part wsL_part ({ frames := 8, cells := 1, slots := 6, locals := 123 } : Room) (Gw ad cI cZ u ++ Ow ao cL lf) [.ref (ad 0), .int (iZ h), .ref ao] (m_goesC (m_in h 0 5) 1 1) (Gw ad cI cZ u1 ++ Ow ao cL lf1) 1 6 ∧ RR u1 (gV w 6 (m_goesC (m_in h 0 5) 1 1)) ∧ (m_goesC (m_in h 0 5) 1 1 = 0 → lf1 0 = (iZ (if m_goesC (m_in h 0 5) 1 1 = 0 then w.1 4 h else 0)).toInt64) := by
  have a := m_in_sp h 0 5
  have g := m_goes_sp (m_in h 0 5) 1 1
  by_cases h0 : 0 ≤ h ∧ h ≤ 5
  · have t0 : u.1 4 h = w.1 4 h := congrFun hR.2.2.1.2.2.1 h
    have e9 : m_goesC (m_in h 0 5) 1 1 = 0 := by omega
    exact ⟨u, (vp_updL lf (iZ 0).toNatClampNeg ((iZ (u.1 4 h)).toInt64)), by rw [e9]; exact L_part_0 l hl D ad cI cZ cL ao lf u h h0, by exact RR_6 hR _, fun q9 => by rw [Ow_s, if_pos e9, t0]⟩
  · skip
    have e9 : m_goesC (m_in h 0 5) 1 1 = 1 := by omega
    exact ⟨u, lf, by rw [e9]; exact L_part_1 l hl D ad cI cZ cL ao lf u h hz h0, by exact RR_6 hR _, fun q9 => absurd q9 (by omega)⟩
theorem H_bill (l : Launch) (hl : l.stackTraces = false) (D : va_G) (ad : Nat → Nat) (cI cZ cL : ClassId) (ao : Nat) (lf : Nat → Int64) {u w : GS} (hR : RR u w) (h : Int) (hz : zB h) : ∃ (u1 : GS) (lf1 : Nat → Int64), zMi l D (zT cI cZ cL) yL_bill wsL_bill ({ frames := 8, cells := 1, slots := 6, locals := 123 } : Room) (Gw ad cI cZ u ++ Ow ao cL lf) [.ref (ad 0), .int (iZ h), .ref ao] (m_goesC (m_in h 0 5) 1 1) (Gw ad cI cZ u1 ++ Ow ao cL lf1) 1 6 ∧ RR u1 (gV w 6 (m_goesC (m_in h 0 5) 1 1)) ∧ (m_goesC (m_in h 0 5) 1 1 = 0 → lf1 0 = (iZ (if m_goesC (m_in h 0 5) 1 1 = 0 then w.1 6 h else 0)).toInt64) := by
  have a := m_in_sp h 0 5
  have g := m_goes_sp (m_in h 0 5) 1 1
  by_cases h0 : 0 ≤ h ∧ h ≤ 5
  · have t0 : u.1 6 h = w.1 6 h := hR.2.2.2.2.1.2.1 h h0.1 h0.2
    have e9 : m_goesC (m_in h 0 5) 1 1 = 0 := by omega
    exact ⟨u, (vp_updL lf (iZ 0).toNatClampNeg ((iZ (u.1 6 h)).toInt64)), by rw [e9]; exact L_bill_0 l hl D ad cI cZ cL ao lf u h h0, by exact RR_6 hR _, fun q9 => by rw [Ow_s, if_pos e9, t0]⟩
  · skip
    have e9 : m_goesC (m_in h 0 5) 1 1 = 1 := by omega
    exact ⟨u, lf, by rw [e9]; exact L_bill_1 l hl D ad cI cZ cL ao lf u h hz h0, by exact RR_6 hR _, fun q9 => absurd q9 (by omega)⟩
theorem H_isMember (l : Launch) (hl : l.stackTraces = false) (D : va_G) (ad : Nat → Nat) (cI cZ cL : ClassId) (ao : Nat) (lf : Nat → Int64) {u w : GS} (hR : RR u w) (h : Int) (hz : zB h) : ∃ (u1 : GS) (lf1 : Nat → Int64), zMi l D (zT cI cZ cL) yL_isMember wsL_isMember ({ frames := 8, cells := 1, slots := 6, locals := 123 } : Room) (Gw ad cI cZ u ++ Ow ao cL lf) [.ref (ad 0), .int (iZ h), .ref ao] (m_goesC (m_in h 0 5) 1 1) (Gw ad cI cZ u1 ++ Ow ao cL lf1) 1 6 ∧ RR u1 (gV w 6 (m_goesC (m_in h 0 5) 1 1)) ∧ (m_goesC (m_in h 0 5) 1 1 = 0 → lf1 0 = (if (if m_goesC (m_in h 0 5) 1 1 = 0 ∧ w.1 7 h = 0 then (1 : Int) else 0) = 0 then (0 : Int64) else 1)) := by
  have a := m_in_sp h 0 5
  have g := m_goes_sp (m_in h 0 5) 1 1
  by_cases h0 : 0 ≤ h ∧ h ≤ 5
  · have hm := hR.1.1.1
    have e9 : m_goesC (m_in h 0 5) 1 1 = 0 := by omega
    rcases RR_mem hR h0 with ⟨m1, m2⟩ | ⟨m1, m2⟩
    · exact ⟨u, vp_updL lf (iZ 0).toNatClampNeg 1, by rw [e9]; exact L_isMember_0a l hl D ad cI cZ cL ao lf u h h0 hm (by have := hm h; omega), RR_6 hR _, fun q9 => by rw [Ow_s]; exact (if_neg (fun q => by rw [if_pos ⟨e9, m1⟩] at q; exact absurd q (by decide))).symm⟩
    · exact ⟨u, vp_updL lf (iZ 0).toNatClampNeg 0, by rw [e9]; exact L_isMember_0b l hl D ad cI cZ cL ao lf u h h0 hm m2, RR_6 hR _, fun q9 => by rw [Ow_s]; exact (if_pos (if_neg (fun q => m1 q.2))).symm⟩
  · skip
    have e9 : m_goesC (m_in h 0 5) 1 1 = 1 := by omega
    exact ⟨u, lf, by rw [e9]; exact L_isMember_1 l hl D ad cI cZ cL ao lf u h hz h0, by exact RR_6 hR _, fun q9 => absurd q9 (by omega)⟩
