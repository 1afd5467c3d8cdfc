set_option maxHeartbeats 4000000 in
set_option maxRecDepth 100000 in
theorem c_X2_in (l : Launch) (D : va_G) (ad : Nat → Nat) (cI cZ cL : ClassId) (v a b : Int) (hv : zB v) (ha : zB a) (hb : zB b) : zMi l D (zT cI cZ cL) yX2_in wsX2_in ({ frames := 0, cells := 0, slots := 0, locals := 0 } : Room) ([]) [.int (iZ v), .int (iZ a), .int (iZ b)] (m_in v a b) ([]) 0 0 := by
  refine z_mi (cc := cX2_in) (maxL := 3) (ret := (some .boolean)) (by decide) rfl (Nat.le_of_ble_eq_true rfl) ?_
  intro p e s m below meth c A X hr hlk hin
  refine z_sub (lv' := [(0, .int (iZ v)), (1, .int (iZ a)), (2, .int (iZ b))]) [0, 1, 2] rfl ?_
  refine z_iload_n X 0 rfl dX2_in_0 ?_
  refine z_iload_n X 1 rfl dX2_in_1 ?_
  refine z_icmp_lt (tgt := 14) X ⟨by omega, by omega⟩ ⟨by omega, by omega⟩ (by decide) dX2_in_2 (fun c_1 => ?_) (fun c_1 => ?_)
  · skip
    refine z_iconst X dX2_in_14 ?_
    exact z_zret X hr hlk (by omega) (by have := m_in_sp v a b; omega) rfl dX2_in_15
  · skip
    refine z_iload_n X 0 rfl dX2_in_5 ?_
    refine z_iload_n X 2 rfl dX2_in_6 ?_
    refine z_icmp_gt (tgt := 14) X ⟨by omega, by omega⟩ ⟨by omega, by omega⟩ (by decide) dX2_in_7 (fun c_2 => ?_) (fun c_2 => ?_)
    · skip
      refine z_iconst X dX2_in_14 ?_
      exact z_zret X hr hlk (by omega) (by have := m_in_sp v a b; omega) rfl dX2_in_15
    · skip
      refine z_iconst X dX2_in_10 ?_
      refine z_goto (tgt := 15) X (by decide) dX2_in_11 ?_
      exact z_zret X hr hlk (by omega) (by have := m_in_sp v a b; omega) rfl dX2_in_15
set_option maxHeartbeats 4000000 in
set_option maxRecDepth 100000 in
theorem c_X2_goes (l : Launch) (D : va_G) (ad : Nat → Nat) (cI cZ cL : ClassId) (w : GS) (a b c9 : Int) (ha : a = 0 ∨ a = 1) (hb : b = 0 ∨ b = 1) (hc : c9 = 0 ∨ c9 = 1) : zMi l D (zT cI cZ cL) yX2_goes wsX2_goes ({ frames := 0, cells := 0, slots := 0, locals := 0 } : Room) (Mw ad cI cZ w) [.ref (ad 0), .int (iZ a), .int (iZ b), .int (iZ c9)] (m_goesR a b c9) (Mw ad cI cZ (m_goesW w a b c9)) 0 0 := by
  refine z_mi (cc := cX2_goes) (maxL := 4) (ret := (some .boolean)) (by decide) rfl (Nat.le_of_ble_eq_true rfl) ?_
  intro p e s m below meth c A X hr hlk hin
  have hiX2 : ∀ w ∈ wsX20, w ∈ wsX2_goes := by decide +kernel
  refine z_sub (lv' := [(0, .ref (ad 0)), (1, .int (iZ a)), (2, .int (iZ b)), (3, .int (iZ c9))]) [0, 1, 2, 3] rfl ?_
  refine z_aload_n X 0 rfl dX2_goes_0 ?_
  refine z_iload_n X 1 rfl dX2_goes_1 ?_
  refine z_if_ne (tgt := 9) X ⟨by omega, by omega⟩ (by decide) dX2_goes_2 (fun c_1 => ?_) (fun c_1 => ?_)
  · skip
    refine z_iload_n X 2 rfl dX2_goes_9 ?_
    refine z_if_ne (tgt := 17) X ⟨by omega, by omega⟩ (by decide) dX2_goes_10 (fun c_2 => ?_) (fun c_2 => ?_)
    · skip
      refine z_iload_n X 3 rfl dX2_goes_17 ?_
      refine z_if_eq (tgt := 25) X ⟨by omega, by omega⟩ (by decide) dX2_goes_18 (fun c_3 => ?_) (fun c_3 => ?_)
      · skip
        refine z_iconst X dX2_goes_25 ?_
        refine z_put (v := .int (iZ 3)) (ty := .int) X tyX2 2 0 21 (Mw ad cI cZ (gV w 6 3)) tyX2_ok nmX2 hiX2 rfl rfl (by decide) ⟨rfl, rfl, rfl, rfl⟩ (by decide +kernel) rfl rfl rfl (Nat.le_of_ble_eq_true rfl) rfl dX2_goes_26 ?_
        refine z_aload_n X 0 rfl dX2_goes_29 ?_
        refine z_get (v := .int (iZ 3)) X 2 0 21 hiX2 rfl rfl (by decide) ⟨rfl, rfl, rfl⟩ (by decide +kernel) rfl dX2_goes_30 ?_
        refine z_if_ne (tgt := 40) X ⟨by omega, by omega⟩ (by decide) dX2_goes_33 (fun c_4 => ?_) (fun c_4 => ?_)
        · skip
          refine z_iconst X dX2_goes_40 ?_
          exact z_zret X hr hlk (by omega) (by have := m_goes_sp a b c9; omega) (congrArg (Mw ad cI cZ) (by have hg := m_goes_sp a b c9; unfold m_goesW; exact congrArg (gV w 6) (by omega))) dX2_goes_41
        · exact absurd c_4 (by omega)
      · skip
        refine z_iconst X dX2_goes_21 ?_
        refine z_goto (tgt := 26) X (by decide) dX2_goes_22 ?_
        refine z_put (v := .int (iZ 0)) (ty := .int) X tyX2 2 0 21 (Mw ad cI cZ (gV w 6 0)) tyX2_ok nmX2 hiX2 rfl rfl (by decide) ⟨rfl, rfl, rfl, rfl⟩ (by decide +kernel) rfl rfl rfl (Nat.le_of_ble_eq_true rfl) rfl dX2_goes_26 ?_
        refine z_aload_n X 0 rfl dX2_goes_29 ?_
        refine z_get (v := .int (iZ 0)) X 2 0 21 hiX2 rfl rfl (by decide) ⟨rfl, rfl, rfl⟩ (by decide +kernel) rfl dX2_goes_30 ?_
        refine z_if_ne (tgt := 40) X ⟨by omega, by omega⟩ (by decide) dX2_goes_33 (fun c_5 => ?_) (fun c_5 => ?_)
        · exact absurd c_5 (by omega)
        · skip
          refine z_iconst X dX2_goes_36 ?_
          refine z_goto (tgt := 41) X (by decide) dX2_goes_37 ?_
          exact z_zret X hr hlk (by omega) (by have := m_goes_sp a b c9; omega) (congrArg (Mw ad cI cZ) (by have hg := m_goes_sp a b c9; unfold m_goesW; exact congrArg (gV w 6) (by omega))) dX2_goes_41
    · skip
      refine z_iconst X dX2_goes_13 ?_
      refine z_goto (tgt := 26) X (by decide) dX2_goes_14 ?_
      refine z_put (v := .int (iZ 2)) (ty := .int) X tyX2 2 0 21 (Mw ad cI cZ (gV w 6 2)) tyX2_ok nmX2 hiX2 rfl rfl (by decide) ⟨rfl, rfl, rfl, rfl⟩ (by decide +kernel) rfl rfl rfl (Nat.le_of_ble_eq_true rfl) rfl dX2_goes_26 ?_
      refine z_aload_n X 0 rfl dX2_goes_29 ?_
      refine z_get (v := .int (iZ 2)) X 2 0 21 hiX2 rfl rfl (by decide) ⟨rfl, rfl, rfl⟩ (by decide +kernel) rfl dX2_goes_30 ?_
      refine z_if_ne (tgt := 40) X ⟨by omega, by omega⟩ (by decide) dX2_goes_33 (fun c_6 => ?_) (fun c_6 => ?_)
      · skip
        refine z_iconst X dX2_goes_40 ?_
        exact z_zret X hr hlk (by omega) (by have := m_goes_sp a b c9; omega) (congrArg (Mw ad cI cZ) (by have hg := m_goes_sp a b c9; unfold m_goesW; exact congrArg (gV w 6) (by omega))) dX2_goes_41
      · exact absurd c_6 (by omega)
  · skip
    refine z_iconst X dX2_goes_5 ?_
    refine z_goto (tgt := 26) X (by decide) dX2_goes_6 ?_
    refine z_put (v := .int (iZ 1)) (ty := .int) X tyX2 2 0 21 (Mw ad cI cZ (gV w 6 1)) tyX2_ok nmX2 hiX2 rfl rfl (by decide) ⟨rfl, rfl, rfl, rfl⟩ (by decide +kernel) rfl rfl rfl (Nat.le_of_ble_eq_true rfl) rfl dX2_goes_26 ?_
    refine z_aload_n X 0 rfl dX2_goes_29 ?_
    refine z_get (v := .int (iZ 1)) X 2 0 21 hiX2 rfl rfl (by decide) ⟨rfl, rfl, rfl⟩ (by decide +kernel) rfl dX2_goes_30 ?_
    refine z_if_ne (tgt := 40) X ⟨by omega, by omega⟩ (by decide) dX2_goes_33 (fun c_7 => ?_) (fun c_7 => ?_)
    · skip
      refine z_iconst X dX2_goes_40 ?_
      exact z_zret X hr hlk (by omega) (by have := m_goes_sp a b c9; omega) (congrArg (Mw ad cI cZ) (by have hg := m_goes_sp a b c9; unfold m_goesW; exact congrArg (gV w 6) (by omega))) dX2_goes_41
    · exact absurd c_7 (by omega)
theorem c_X2_goesK (l : Launch) (D : va_G) (ad : Nat → Nat) (cI cZ cL : ClassId) (w : GS) (a b c9 k r : Int) (ha : a = 0 ∨ a = 1) (hb : b = 0 ∨ b = 1) (hc : c9 = 0 ∨ c9 = 1) (hk : m_goesC a b c9 = k) (hr : m_goesR a b c9 = r) : zMi l D (zT cI cZ cL) yX2_goes wsX2_goes ({ frames := 0, cells := 0, slots := 0, locals := 0 } : Room) (Mw ad cI cZ w) [.ref (ad 0), .int (iZ a), .int (iZ b), .int (iZ c9)] r (Mw ad cI cZ (gV w 6 k)) 0 0 := by
  subst hk hr
  exact c_X2_goes l D ad cI cZ cL w a b c9 ha hb hc
set_option maxHeartbeats 4000000 in
set_option maxRecDepth 100000 in
theorem c_X2_isHouse (l : Launch) (D : va_G) (ad : Nat → Nat) (cI cZ cL : ClassId) (h : Int) (hz : zB h) : zMi l D (zT cI cZ cL) yX2_isHouse wsX2_isHouse ({ frames := 1, cells := 0, slots := 0, locals := 22 } : Room) ([]) [.int (iZ h)] (m_in h 0 5) ([]) 0 0 := by
  refine z_mi (cc := cX2_isHouse) (maxL := 1) (ret := (some .boolean)) (by decide) rfl (Nat.le_of_ble_eq_true rfl) ?_
  intro p e s m below meth c A X hr hlk hin
  refine z_sub (lv' := [(0, .int (iZ h))]) [0] rfl ?_
  refine z_iload_n X 0 rfl dX2_isHouse_0 ?_
  refine z_iconst X dX2_isHouse_1 ?_
  refine z_iconst X dX2_isHouse_2 ?_
  refine z_callis X (c_X2_in l D ad cI cZ cL h 0 5 ⟨by omega, by omega⟩ ⟨by omega, by omega⟩ ⟨by omega, by omega⟩) (va_cwS 3 X.2.2.2.2.1 gX2_isHouse_X2_in rfl rfl rfl (by decide +kernel) ⟨Nat.le_of_ble_eq_true rfl, Nat.le_of_ble_eq_true rfl⟩) rfl [] ([]) rfl [] rfl (Nat.le_of_ble_eq_true rfl) dX2_isHouse_3 ⟨Nat.le_of_ble_eq_true rfl, Nat.le_of_ble_eq_true rfl⟩ rfl ?_
  have r_1 := m_in_sp h 0 5
  exact z_zret X hr hlk (by omega) rfl rfl dX2_isHouse_6
set_option maxHeartbeats 4000000 in
set_option maxRecDepth 100000 in
theorem c_X2_belongs (l : Launch) (D : va_G) (ad : Nat → Nat) (cI cZ cL : ClassId) (w : GS) (h : Int) (hz : zB h) (hB : Bdm w) : zMi l D (zT cI cZ cL) yX2_belongs wsX2_belongs ({ frames := 2, cells := 0, slots := 0, locals := 42 } : Room) (Mw ad cI cZ w) [.ref (ad 0), .int (iZ h)] (m_belongs w h) (Mw ad cI cZ w) 0 0 := by
  refine z_mi (cc := cX2_belongs) (maxL := 2) (ret := (some .boolean)) (by decide) rfl (Nat.le_of_ble_eq_true rfl) ?_
  intro p e s m below meth c A X hr hlk hin
  have hiX2 : ∀ w ∈ wsX20, w ∈ wsX2_belongs := by decide +kernel
  refine z_sub (lv' := [(0, .ref (ad 0)), (1, .int (iZ h))]) [0, 1] rfl ?_
  refine z_iload_n X 1 rfl dX2_belongs_0 ?_
  refine z_callis X (c_X2_isHouse l D ad cI cZ cL h ⟨by omega, by omega⟩) (va_cwS 1 X.2.2.2.2.1 gX2_belongs_X2_isHouse rfl rfl rfl (by decide +kernel) ⟨Nat.le_of_ble_eq_true rfl, Nat.le_of_ble_eq_true rfl⟩) rfl [] (Mw ad cI cZ w) rfl [] rfl (Nat.le_of_ble_eq_true rfl) dX2_belongs_1 ⟨Nat.le_of_ble_eq_true rfl, Nat.le_of_ble_eq_true rfl⟩ rfl ?_
  have r_1 := m_in_sp h 0 5
  refine z_if_eq (tgt := 20) X ⟨by omega, by omega⟩ (by decide) dX2_belongs_4 (fun c_2 => ?_) (fun c_2 => ?_)
  · skip
    refine z_iconst X dX2_belongs_20 ?_
    exact z_zret X hr hlk (by omega) (by have := m_belongs_sp w h; omega) rfl dX2_belongs_21
  · skip
    refine z_aload_n X 0 rfl dX2_belongs_7 ?_
    refine z_get (v := .ref (ad 8)) X 2 0 7 hiX2 rfl rfl (by decide) ⟨rfl, rfl, rfl⟩ (by decide +kernel) rfl dX2_belongs_8 ?_
    refine z_iload_n X 1 rfl dX2_belongs_11 ?_
    refine z_zald (g := w.1 7) X 8 1 rfl rfl (by omega) (by omega) ⟨by omega, by omega⟩ dX2_belongs_12 ?_
    have b_3 := hB 7 rfl h
    refine z_if_ne (tgt := 20) X ⟨by omega, by omega⟩ (by decide) dX2_belongs_13 (fun c_4 => ?_) (fun c_4 => ?_)
    · skip
      refine z_iconst X dX2_belongs_20 ?_
      exact z_zret X hr hlk (by omega) (by have := m_belongs_sp w h; omega) rfl dX2_belongs_21
    · skip
      refine z_iconst X dX2_belongs_16 ?_
      refine z_goto (tgt := 21) X (by decide) dX2_belongs_17 ?_
      exact z_zret X hr hlk (by omega) (by have := m_belongs_sp w h; omega) rfl dX2_belongs_21
set_option maxHeartbeats 4000000 in
set_option maxRecDepth 100000 in
theorem c_X2_lesser (l : Launch) (D : va_G) (ad : Nat → Nat) (cI cZ cL : ClassId) (a b : Int) (ha : zB a) (hb : zB b) : zMi l D (zT cI cZ cL) yX2_lesser wsX2_lesser ({ frames := 0, cells := 0, slots := 0, locals := 0 } : Room) ([]) [.int (iZ a), .int (iZ b)] (m_lesser a b) ([]) 0 0 := by
  refine z_mi (cc := cX2_lesser) (maxL := 2) (ret := (some .int)) (by decide) rfl (Nat.le_of_ble_eq_true rfl) ?_
  intro p e s m below meth c A X hr hlk hin
  refine z_sub (lv' := [(0, .int (iZ a)), (1, .int (iZ b))]) [0, 1] rfl ?_
  refine z_iload_n X 0 rfl dX2_lesser_0 ?_
  refine z_iload_n X 1 rfl dX2_lesser_1 ?_
  refine z_icmp_ge (tgt := 9) X ⟨by omega, by omega⟩ ⟨by omega, by omega⟩ (by decide) dX2_lesser_2 (fun c_1 => ?_) (fun c_1 => ?_)
  · skip
    refine z_iload_n X 1 rfl dX2_lesser_9 ?_
    exact z_iret X hr hlk (by have := m_lesser_sp a b; omega) rfl dX2_lesser_10
  · skip
    refine z_iload_n X 0 rfl dX2_lesser_5 ?_
    refine z_goto (tgt := 10) X (by decide) dX2_lesser_6 ?_
    exact z_iret X hr hlk (by have := m_lesser_sp a b; omega) rfl dX2_lesser_10
set_option maxHeartbeats 4000000 in
set_option maxRecDepth 100000 in
theorem c_X2_size (l : Launch) (D : va_G) (ad : Nat → Nat) (cI cZ cL : ClassId) (a : Int) (ha : zB a) : zMi l D (zT cI cZ cL) yX2_size wsX2_size ({ frames := 0, cells := 0, slots := 0, locals := 0 } : Room) ([]) [.int (iZ a)] (m_size a) ([]) 0 0 := by
  refine z_mi (cc := cX2_size) (maxL := 1) (ret := (some .int)) (by decide) rfl (Nat.le_of_ble_eq_true rfl) ?_
  intro p e s m below meth c A X hr hlk hin
  refine z_sub (lv' := [(0, .int (iZ a))]) [0] rfl ?_
  refine z_iload_n X 0 rfl dX2_size_0 ?_
  refine z_if_ge (tgt := 9) X ⟨by omega, by omega⟩ (by decide) dX2_size_1 (fun c_1 => ?_) (fun c_1 => ?_)
  · skip
    refine z_iload_n X 0 rfl dX2_size_9 ?_
    exact z_iret X hr hlk (by have := m_size_sp a; omega) rfl dX2_size_10
  · skip
    refine z_iload_n X 0 rfl dX2_size_4 ?_
    refine z_ineg X dX2_size_5 ?_
    refine z_goto (tgt := 10) X (by decide) dX2_size_6 ?_
    exact z_iret X hr hlk (by have := m_size_sp a; omega) rfl dX2_size_10
set_option maxHeartbeats 4000000 in
set_option maxRecDepth 100000 in
theorem c_X2_thrown (l : Launch) (D : va_G) (ad : Nat → Nat) (cI cZ cL : ClassId) (w : GS) : zMi l D (zT cI cZ cL) yX2_thrown wsX2_thrown ({ frames := 0, cells := 0, slots := 0, locals := 0 } : Room) (Mw ad cI cZ w) [.ref (ad 0)] (w.2 6) (Mw ad cI cZ w) 0 0 := by
  refine z_mi (cc := cX2_thrown) (maxL := 1) (ret := (some .int)) (by decide) rfl (Nat.le_of_ble_eq_true rfl) ?_
  intro p e s m below meth c A X hr hlk hin
  have hiX2 : ∀ w ∈ wsX20, w ∈ wsX2_thrown := by decide +kernel
  refine z_sub (lv' := [(0, .ref (ad 0))]) [0] rfl ?_
  refine z_aload_n X 0 rfl dX2_thrown_0 ?_
  refine z_get (v := .int (iZ (w.2 6))) X 2 0 21 hiX2 rfl rfl (by decide) ⟨rfl, rfl, rfl⟩ (by decide +kernel) rfl dX2_thrown_1 ?_
  exact z_iret X hr hlk rfl rfl dX2_thrown_4
set_option maxHeartbeats 4000000 in
set_option maxRecDepth 100000 in
theorem c_X2_isBuyer (l : Launch) (D : va_G) (ad : Nat → Nat) (cI cZ cL : ClassId) (w : GS) (h : Int) (h0 : 0 ≤ h ∧ h ≤ 5) (hB : Bdm w) : zMi l D (zT cI cZ cL) yX2_isBuyer wsX2_isBuyer ({ frames := 0, cells := 0, slots := 0, locals := 0 } : Room) (Mw ad cI cZ w) [.ref (ad 0), .int (iZ h)] (m_buyer w h) (Mw ad cI cZ w) 0 0 := by
  refine z_mi (cc := cX2_isBuyer) (maxL := 2) (ret := (some .boolean)) (by decide) rfl (Nat.le_of_ble_eq_true rfl) ?_
  intro p e s m below meth c A X hr hlk hin
  have hiX2 : ∀ w ∈ wsX20, w ∈ wsX2_isBuyer := by decide +kernel
  refine z_sub (lv' := [(0, .ref (ad 0)), (1, .int (iZ h))]) [0, 1] rfl ?_
  refine z_aload_n X 0 rfl dX2_isBuyer_0 ?_
  refine z_get (v := .ref (ad 8)) X 2 0 7 hiX2 rfl rfl (by decide) ⟨rfl, rfl, rfl⟩ (by decide +kernel) rfl dX2_isBuyer_1 ?_
  refine z_iload_n X 1 rfl dX2_isBuyer_4 ?_
  refine z_zald (g := w.1 7) X 8 1 rfl rfl (by omega) (by omega) ⟨by omega, by omega⟩ dX2_isBuyer_5 ?_
  have b_1 := hB 7 rfl h
  refine z_if_ne (tgt := 22) X ⟨by omega, by omega⟩ (by decide) dX2_isBuyer_6 (fun c_2 => ?_) (fun c_2 => ?_)
  · skip
    refine z_iconst X dX2_isBuyer_22 ?_
    exact z_zret X hr hlk (by omega) (by have := m_buyer_sp w h; omega) rfl dX2_isBuyer_23
  · skip
    refine z_aload_n X 0 rfl dX2_isBuyer_9 ?_
    refine z_get (v := .ref (ad 2)) X 2 0 1 hiX2 rfl rfl (by decide) ⟨rfl, rfl, rfl⟩ (by decide +kernel) rfl dX2_isBuyer_10 ?_
    refine z_iload_n X 1 rfl dX2_isBuyer_13 ?_
    refine z_iald (g := w.1 1) X 2 0 rfl rfl (by omega) (by omega) ⟨by omega, by omega⟩ dX2_isBuyer_14 ?_
    have b_3 := hB 1 rfl h
    refine z_if_ge (tgt := 22) X ⟨by omega, by omega⟩ (by decide) dX2_isBuyer_15 (fun c_4 => ?_) (fun c_4 => ?_)
    · skip
      refine z_iconst X dX2_isBuyer_22 ?_
      exact z_zret X hr hlk (by omega) (by have := m_buyer_sp w h; omega) rfl dX2_isBuyer_23
    · skip
      refine z_iconst X dX2_isBuyer_18 ?_
      refine z_goto (tgt := 23) X (by decide) dX2_isBuyer_19 ?_
      exact z_zret X hr hlk (by omega) (by have := m_buyer_sp w h; omega) rfl dX2_isBuyer_23
set_option maxHeartbeats 4000000 in
set_option maxRecDepth 100000 in
theorem c_X2_isSeller (l : Launch) (D : va_G) (ad : Nat → Nat) (cI cZ cL : ClassId) (w : GS) (h : Int) (h0 : 0 ≤ h ∧ h ≤ 5) (hB : Bdm w) : zMi l D (zT cI cZ cL) yX2_isSeller wsX2_isSeller ({ frames := 0, cells := 0, slots := 0, locals := 0 } : Room) (Mw ad cI cZ w) [.ref (ad 0), .int (iZ h)] (m_isel w h) (Mw ad cI cZ w) 0 0 := by
  refine z_mi (cc := cX2_isSeller) (maxL := 2) (ret := (some .boolean)) (by decide) rfl (Nat.le_of_ble_eq_true rfl) ?_
  intro p e s m below meth c A X hr hlk hin
  have hiX2 : ∀ w ∈ wsX20, w ∈ wsX2_isSeller := by decide +kernel
  refine z_sub (lv' := [(0, .ref (ad 0)), (1, .int (iZ h))]) [0, 1] rfl ?_
  refine z_aload_n X 0 rfl dX2_isSeller_0 ?_
  refine z_get (v := .ref (ad 8)) X 2 0 7 hiX2 rfl rfl (by decide) ⟨rfl, rfl, rfl⟩ (by decide +kernel) rfl dX2_isSeller_1 ?_
  refine z_iload_n X 1 rfl dX2_isSeller_4 ?_
  refine z_zald (g := w.1 7) X 8 1 rfl rfl (by omega) (by omega) ⟨by omega, by omega⟩ dX2_isSeller_5 ?_
  have b_1 := hB 7 rfl h
  refine z_if_ne (tgt := 22) X ⟨by omega, by omega⟩ (by decide) dX2_isSeller_6 (fun c_2 => ?_) (fun c_2 => ?_)
  · skip
    refine z_iconst X dX2_isSeller_22 ?_
    exact z_zret X hr hlk (by omega) (by have := m_isel_sp w h; omega) rfl dX2_isSeller_23
  · skip
    refine z_aload_n X 0 rfl dX2_isSeller_9 ?_
    refine z_get (v := .ref (ad 2)) X 2 0 1 hiX2 rfl rfl (by decide) ⟨rfl, rfl, rfl⟩ (by decide +kernel) rfl dX2_isSeller_10 ?_
    refine z_iload_n X 1 rfl dX2_isSeller_13 ?_
    refine z_iald (g := w.1 1) X 2 0 rfl rfl (by omega) (by omega) ⟨by omega, by omega⟩ dX2_isSeller_14 ?_
    have b_3 := hB 1 rfl h
    refine z_if_le (tgt := 22) X ⟨by omega, by omega⟩ (by decide) dX2_isSeller_15 (fun c_4 => ?_) (fun c_4 => ?_)
    · skip
      refine z_iconst X dX2_isSeller_22 ?_
      exact z_zret X hr hlk (by omega) (by have := m_isel_sp w h; omega) rfl dX2_isSeller_23
    · skip
      refine z_iconst X dX2_isSeller_18 ?_
      refine z_goto (tgt := 23) X (by decide) dX2_isSeller_19 ?_
      exact z_zret X hr hlk (by omega) (by have := m_isel_sp w h; omega) rfl dX2_isSeller_23
set_option maxHeartbeats 4000000 in
set_option maxRecDepth 100000 in
theorem c_X2_turnOf (l : Launch) (D : va_G) (ad : Nat → Nat) (cI cZ cL : ClassId) (w : GS) (h : Int) (h0 : 0 ≤ h ∧ h ≤ 5) (hB : Bdm w) : zMi l D (zT cI cZ cL) yX2_turnOf wsX2_turnOf ({ frames := 1, cells := 0, slots := 0, locals := 21 } : Room) (Mw ad cI cZ w) [.ref (ad 0), .int (iZ h)] (m_turn w h) (Mw ad cI cZ w) 0 0 := by
  refine z_mi (cc := cX2_turnOf) (maxL := 4) (ret := (some .int)) (by decide) rfl (Nat.le_of_ble_eq_true rfl) ?_
  intro p e s m below meth c A X hr hlk hin
  have hiX2 : ∀ w ∈ wsX20, w ∈ wsX2_turnOf := by decide +kernel
  refine z_sub (lv' := [(0, .ref (ad 0)), (1, .int (iZ h))]) [0, 1] rfl ?_
  refine z_iconst X dX2_turnOf_0 ?_
  refine z_istore_n X [1, 2, 0] [(0, .ref (ad 0)), (1, .int (iZ h)), (2, .int (iZ 0))] rfl (Nat.le_of_ble_eq_true rfl) dX2_turnOf_1 ?_
  refine z_iconst X dX2_turnOf_2 ?_
  refine z_istore_n X [1, 2, 3, 0] [(0, .ref (ad 0)), (1, .int (iZ h)), (2, .int (iZ 0)), (3, .int (iZ 0))] rfl (Nat.le_of_ble_eq_true rfl) dX2_turnOf_3 ?_
  refine zfor_ind 6 6 (rfl) (m_turnS w h) 0 (fun (i_4 : Int) (a_4 : Int) => zW p l e ({ frames := 1, cells := 0, slots := 0, locals := 21 } : Room) s m ([.ref (ad 0), .int (iZ h)] : List Value).toArray below meth c 4 D A 0 0 (MQ below (zPi D (zT cI cZ cL) (Mw ad cI cZ w) (m_turn w h) A) ([.ref (ad 0), .int (iZ h)] : List Value).toArray s 0 0 A) (Mw ad cI cZ w) 4 [(0, .ref (ad 0)), (1, .int (iZ h)), (2, .int (iZ a_4)), (3, .int (iZ i_4))] []) ?_ ?_
  · intro a_4 ha_4
    refine z_iload_n X 3 rfl dX2_turnOf_4 ?_
    refine z_bipush X (by decide) dX2_turnOf_5 ?_
    refine z_icmp_ge (tgt := 67) X ⟨by omega, by omega⟩ ⟨by omega, by omega⟩ (by decide) dX2_turnOf_7 (fun c_1 => ?_) (fun c_1 => ?_)
    · skip
      refine z_iload_n X 2 rfl dX2_turnOf_67 ?_
      exact z_iret X hr hlk ha_4 rfl dX2_turnOf_68
    · exact absurd c_1 (by omega)
  · intro i_4 k_4 a_4 hi_4 h0i_4 h1i_4 ha_4 hk_4
    refine z_iload_n X 3 rfl dX2_turnOf_4 ?_
    refine z_bipush X (by decide) dX2_turnOf_5 ?_
    refine z_icmp_ge (tgt := 67) X ⟨by omega, by omega⟩ ⟨by omega, by omega⟩ (by decide) dX2_turnOf_7 (fun c_2 => ?_) (fun c_2 => ?_)
    · exact absurd c_2 (by omega)
    · skip
      refine z_iload_n X 2 rfl dX2_turnOf_10 ?_
      refine z_aload_n X 0 rfl dX2_turnOf_11 ?_
      refine z_iload_n X 3 rfl dX2_turnOf_12 ?_
      refine z_calli X (c_X2_isBuyer l D ad cI cZ cL w i_4 (by omega) hB) (cwV 1 X.2.2.2.2.1 gX2_turnOf_X2_isBuyer rfl rfl rfl (by decide +kernel) ⟨Nat.le_of_ble_eq_true rfl, Nat.le_of_ble_eq_true rfl⟩) rfl [] [] (List.append_nil _).symm 2 0 rfl rfl [.int (iZ a_4)] rfl (Nat.le_of_ble_eq_true rfl) dX2_turnOf_13 ⟨Nat.le_of_ble_eq_true rfl, Nat.le_of_ble_eq_true rfl⟩ (List.append_nil _) ?_
      have r_3 := m_buyer_sp w i_4
      refine z_if_eq (tgt := 58) X ⟨by omega, by omega⟩ (by decide) dX2_turnOf_16 (fun c_4 => ?_) (fun c_4 => ?_)
      · skip
        refine z_iconst X dX2_turnOf_58 ?_
        refine z_iadd X dX2_turnOf_59 ?_
        refine z_istore_n X [1, 2, 0, 3] [(0, .ref (ad 0)), (1, .int (iZ h)), (2, .int (iZ (a_4 + 0))), (3, .int (iZ i_4))] rfl (Nat.le_of_ble_eq_true rfl) dX2_turnOf_60 ?_
        refine z_iinc X 3 [1, 2, 3, 0] [(0, .ref (ad 0)), (1, .int (iZ h)), (2, .int (iZ (a_4 + 0))), (3, .int (iZ (i_4 + 1)))] rfl rfl (Nat.le_of_ble_eq_true rfl) dX2_turnOf_61 ?_
        refine z_goto (tgt := 4) X (by decide) dX2_turnOf_64 ?_
        exact z_eq rfl (congrArg (fun z : Int => ([(0, .ref (ad 0)), (1, .int (iZ h)), (2, .int (iZ z)), (3, .int (iZ (i_4 + 1)))] : List (Nat × Value))) (show (m_turnS w h) i_4 a_4 = a_4 + 0 from (by simp only [m_turnS] <;> repeat' (first | with_reducible rfl | omega | split)))) hk_4
      · skip
        refine z_aload_n X 0 rfl dX2_turnOf_19 ?_
        refine z_get (v := .ref (ad 3)) X 2 0 2 hiX2 rfl rfl (by decide) ⟨rfl, rfl, rfl⟩ (by decide +kernel) rfl dX2_turnOf_20 ?_
        refine z_iload_n X 3 rfl dX2_turnOf_23 ?_
        refine z_iald (g := w.1 2) X 3 0 rfl rfl (by omega) (by omega) ⟨by omega, by omega⟩ dX2_turnOf_24 ?_
        have b_5 := hB 2 rfl i_4
        refine z_aload_n X 0 rfl dX2_turnOf_25 ?_
        refine z_get (v := .ref (ad 3)) X 2 0 2 hiX2 rfl rfl (by decide) ⟨rfl, rfl, rfl⟩ (by decide +kernel) rfl dX2_turnOf_26 ?_
        refine z_iload_n X 1 rfl dX2_turnOf_29 ?_
        refine z_iald (g := w.1 2) X 3 0 rfl rfl (by omega) (by omega) ⟨by omega, by omega⟩ dX2_turnOf_30 ?_
        have b_6 := hB 2 rfl h
        refine z_icmp_gt (tgt := 54) X ⟨by omega, by omega⟩ ⟨by omega, by omega⟩ (by decide) dX2_turnOf_31 (fun c_7 => ?_) (fun c_7 => ?_)
        · skip
          refine z_iconst X dX2_turnOf_54 ?_
          refine z_goto (tgt := 59) X (by decide) dX2_turnOf_55 ?_
          refine z_iadd X dX2_turnOf_59 ?_
          refine z_istore_n X [1, 2, 0, 3] [(0, .ref (ad 0)), (1, .int (iZ h)), (2, .int (iZ (a_4 + 1))), (3, .int (iZ i_4))] rfl (Nat.le_of_ble_eq_true rfl) dX2_turnOf_60 ?_
          refine z_iinc X 3 [1, 2, 3, 0] [(0, .ref (ad 0)), (1, .int (iZ h)), (2, .int (iZ (a_4 + 1))), (3, .int (iZ (i_4 + 1)))] rfl rfl (Nat.le_of_ble_eq_true rfl) dX2_turnOf_61 ?_
          refine z_goto (tgt := 4) X (by decide) dX2_turnOf_64 ?_
          exact z_eq rfl (congrArg (fun z : Int => ([(0, .ref (ad 0)), (1, .int (iZ h)), (2, .int (iZ z)), (3, .int (iZ (i_4 + 1)))] : List (Nat × Value))) (show (m_turnS w h) i_4 a_4 = a_4 + 1 from (by simp only [m_turnS] <;> repeat' (first | with_reducible rfl | omega | split)))) hk_4
        · skip
          refine z_aload_n X 0 rfl dX2_turnOf_34 ?_
          refine z_get (v := .ref (ad 3)) X 2 0 2 hiX2 rfl rfl (by decide) ⟨rfl, rfl, rfl⟩ (by decide +kernel) rfl dX2_turnOf_35 ?_
          refine z_iload_n X 3 rfl dX2_turnOf_38 ?_
          refine z_iald (g := w.1 2) X 3 0 rfl rfl (by omega) (by omega) ⟨by omega, by omega⟩ dX2_turnOf_39 ?_
          refine z_aload_n X 0 rfl dX2_turnOf_40 ?_
          refine z_get (v := .ref (ad 3)) X 2 0 2 hiX2 rfl rfl (by decide) ⟨rfl, rfl, rfl⟩ (by decide +kernel) rfl dX2_turnOf_41 ?_
          refine z_iload_n X 1 rfl dX2_turnOf_44 ?_
          refine z_iald (g := w.1 2) X 3 0 rfl rfl (by omega) (by omega) ⟨by omega, by omega⟩ dX2_turnOf_45 ?_
          refine z_icmp_ne (tgt := 58) X ⟨by omega, by omega⟩ ⟨by omega, by omega⟩ (by decide) dX2_turnOf_46 (fun c_8 => ?_) (fun c_8 => ?_)
          · skip
            refine z_iconst X dX2_turnOf_58 ?_
            refine z_iadd X dX2_turnOf_59 ?_
            refine z_istore_n X [1, 2, 0, 3] [(0, .ref (ad 0)), (1, .int (iZ h)), (2, .int (iZ (a_4 + 0))), (3, .int (iZ i_4))] rfl (Nat.le_of_ble_eq_true rfl) dX2_turnOf_60 ?_
            refine z_iinc X 3 [1, 2, 3, 0] [(0, .ref (ad 0)), (1, .int (iZ h)), (2, .int (iZ (a_4 + 0))), (3, .int (iZ (i_4 + 1)))] rfl rfl (Nat.le_of_ble_eq_true rfl) dX2_turnOf_61 ?_
            refine z_goto (tgt := 4) X (by decide) dX2_turnOf_64 ?_
            exact z_eq rfl (congrArg (fun z : Int => ([(0, .ref (ad 0)), (1, .int (iZ h)), (2, .int (iZ z)), (3, .int (iZ (i_4 + 1)))] : List (Nat × Value))) (show (m_turnS w h) i_4 a_4 = a_4 + 0 from (by simp only [m_turnS] <;> repeat' (first | with_reducible rfl | omega | split)))) hk_4
          · skip
            refine z_iload_n X 3 rfl dX2_turnOf_49 ?_
            refine z_iload_n X 1 rfl dX2_turnOf_50 ?_
            refine z_icmp_ge (tgt := 58) X ⟨by omega, by omega⟩ ⟨by omega, by omega⟩ (by decide) dX2_turnOf_51 (fun c_9 => ?_) (fun c_9 => ?_)
            · skip
              refine z_iconst X dX2_turnOf_58 ?_
              refine z_iadd X dX2_turnOf_59 ?_
              refine z_istore_n X [1, 2, 0, 3] [(0, .ref (ad 0)), (1, .int (iZ h)), (2, .int (iZ (a_4 + 0))), (3, .int (iZ i_4))] rfl (Nat.le_of_ble_eq_true rfl) dX2_turnOf_60 ?_
              refine z_iinc X 3 [1, 2, 3, 0] [(0, .ref (ad 0)), (1, .int (iZ h)), (2, .int (iZ (a_4 + 0))), (3, .int (iZ (i_4 + 1)))] rfl rfl (Nat.le_of_ble_eq_true rfl) dX2_turnOf_61 ?_
              refine z_goto (tgt := 4) X (by decide) dX2_turnOf_64 ?_
              exact z_eq rfl (congrArg (fun z : Int => ([(0, .ref (ad 0)), (1, .int (iZ h)), (2, .int (iZ z)), (3, .int (iZ (i_4 + 1)))] : List (Nat × Value))) (show (m_turnS w h) i_4 a_4 = a_4 + 0 from (by simp only [m_turnS] <;> repeat' (first | with_reducible rfl | omega | split)))) hk_4
            · skip
              refine z_iconst X dX2_turnOf_54 ?_
              refine z_goto (tgt := 59) X (by decide) dX2_turnOf_55 ?_
              refine z_iadd X dX2_turnOf_59 ?_
              refine z_istore_n X [1, 2, 0, 3] [(0, .ref (ad 0)), (1, .int (iZ h)), (2, .int (iZ (a_4 + 1))), (3, .int (iZ i_4))] rfl (Nat.le_of_ble_eq_true rfl) dX2_turnOf_60 ?_
              refine z_iinc X 3 [1, 2, 3, 0] [(0, .ref (ad 0)), (1, .int (iZ h)), (2, .int (iZ (a_4 + 1))), (3, .int (iZ (i_4 + 1)))] rfl rfl (Nat.le_of_ble_eq_true rfl) dX2_turnOf_61 ?_
              refine z_goto (tgt := 4) X (by decide) dX2_turnOf_64 ?_
              exact z_eq rfl (congrArg (fun z : Int => ([(0, .ref (ad 0)), (1, .int (iZ h)), (2, .int (iZ z)), (3, .int (iZ (i_4 + 1)))] : List (Nat × Value))) (show (m_turnS w h) i_4 a_4 = a_4 + 1 from (by simp only [m_turnS] <;> repeat' (first | with_reducible rfl | omega | split)))) hk_4
set_option maxHeartbeats 4000000 in
set_option maxRecDepth 100000 in
theorem c_X2_sellerFor (l : Launch) (D : va_G) (ad : Nat → Nat) (cI cZ cL : ClassId) (w : GS) (b : Int) (h0 : 0 ≤ b ∧ b ≤ 5) (hB : Bdm w) : zMi l D (zT cI cZ cL) yX2_sellerFor wsX2_sellerFor ({ frames := 1, cells := 0, slots := 0, locals := 21 } : Room) (Mw ad cI cZ w) [.ref (ad 0), .int (iZ b)] (m_seller w b) (Mw ad cI cZ w) 0 0 := by
  refine z_mi (cc := cX2_sellerFor) (maxL := 6) (ret := (some .int)) (by decide) rfl (Nat.le_of_ble_eq_true rfl) ?_
  intro p e s m below meth c A X hr hlk hin
  have hiX2 : ∀ w ∈ wsX20, w ∈ wsX2_sellerFor := by decide +kernel
  refine z_sub (lv' := [(0, .ref (ad 0)), (1, .int (iZ b))]) [0, 1] rfl ?_
  refine z_iconst X dX2_sellerFor_0 ?_
  refine z_istore_n X [1, 2, 0] [(0, .ref (ad 0)), (1, .int (iZ b)), (2, .int (iZ (-1)))] rfl (Nat.le_of_ble_eq_true rfl) dX2_sellerFor_1 ?_
  refine z_iconst X dX2_sellerFor_2 ?_
  refine z_istore_n X [1, 2, 3, 0] [(0, .ref (ad 0)), (1, .int (iZ b)), (2, .int (iZ (-1))), (3, .int (iZ 0))] rfl (Nat.le_of_ble_eq_true rfl) dX2_sellerFor_3 ?_
  refine zfor_ind 6 6 (rfl) (m_sellerS w b) (-1) (fun (i_4 : Int) (a_4 : Int) => zW p l e ({ frames := 1, cells := 0, slots := 0, locals := 21 } : Room) s m ([.ref (ad 0), .int (iZ b)] : List Value).toArray below meth c 6 D A 0 0 (MQ below (zPi D (zT cI cZ cL) (Mw ad cI cZ w) (m_seller w b) A) ([.ref (ad 0), .int (iZ b)] : List Value).toArray s 0 0 A) (Mw ad cI cZ w) 4 [(0, .ref (ad 0)), (1, .int (iZ b)), (2, .int (iZ a_4)), (3, .int (iZ i_4))] []) ?_ ?_
  · intro a_4 ha_4
    have hv_4 := m_sellerk w b 6 (by omega)
    rw [← ha_4] at hv_4
    refine z_iload_n X 3 rfl dX2_sellerFor_4 ?_
    refine z_bipush X (by decide) dX2_sellerFor_5 ?_
    refine z_icmp_ge (tgt := 133) X ⟨by omega, by omega⟩ ⟨by omega, by omega⟩ (by decide) dX2_sellerFor_7 (fun c_1 => ?_) (fun c_1 => ?_)
    · skip
      refine z_iload_n X 2 rfl dX2_sellerFor_133 ?_
      exact z_iret X hr hlk ha_4 rfl dX2_sellerFor_134
    · exact absurd c_1 (by omega)
  · intro i_4 k_4 a_4 hi_4 h0i_4 h1i_4 ha_4 hk_4
    have hv_4 := m_sellerk w b k_4 (by omega)
    rw [← ha_4] at hv_4
    refine z_iload_n X 3 rfl dX2_sellerFor_4 ?_
    refine z_bipush X (by decide) dX2_sellerFor_5 ?_
    refine z_icmp_ge (tgt := 133) X ⟨by omega, by omega⟩ ⟨by omega, by omega⟩ (by decide) dX2_sellerFor_7 (fun c_2 => ?_) (fun c_2 => ?_)
    · exact absurd c_2 (by omega)
    · skip
      refine z_aload_n X 0 rfl dX2_sellerFor_10 ?_
      refine z_iload_n X 3 rfl dX2_sellerFor_11 ?_
      refine z_calli X (c_X2_isSeller l D ad cI cZ cL w i_4 (by omega) hB) (cwV 1 X.2.2.2.2.1 gX2_sellerFor_X2_isSeller rfl rfl rfl (by decide +kernel) ⟨Nat.le_of_ble_eq_true rfl, Nat.le_of_ble_eq_true rfl⟩) rfl [] [] (List.append_nil _).symm 2 0 rfl rfl [] rfl (Nat.le_of_ble_eq_true rfl) dX2_sellerFor_12 ⟨Nat.le_of_ble_eq_true rfl, Nat.le_of_ble_eq_true rfl⟩ (List.append_nil _) ?_
      have r_3 := m_isel_sp w i_4
      refine z_if_eq (tgt := 127) X ⟨by omega, by omega⟩ (by decide) dX2_sellerFor_15 (fun c_4 => ?_) (fun c_4 => ?_)
      · skip
        refine z_iinc X 3 [1, 2, 3, 0] [(0, .ref (ad 0)), (1, .int (iZ b)), (2, .int (iZ a_4)), (3, .int (iZ (i_4 + 1)))] rfl rfl (Nat.le_of_ble_eq_true rfl) dX2_sellerFor_127 ?_
        refine z_goto (tgt := 4) X (by decide) dX2_sellerFor_130 ?_
        exact z_eq rfl (congrArg (fun z : Int => ([(0, .ref (ad 0)), (1, .int (iZ b)), (2, .int (iZ z)), (3, .int (iZ (i_4 + 1)))] : List (Nat × Value))) (show (m_sellerS w b) i_4 a_4 = a_4 from (by simp only [m_sellerS] <;> repeat' (first | with_reducible rfl | omega | split)))) hk_4
      · skip
        refine z_aload_n X 0 rfl dX2_sellerFor_18 ?_
        refine z_get (v := .ref (ad 15)) X 2 0 20 hiX2 rfl rfl (by decide) ⟨rfl, rfl, rfl⟩ (by decide +kernel) rfl dX2_sellerFor_19 ?_
        refine z_iload_n X 3 rfl dX2_sellerFor_22 ?_
        refine z_iald (g := w.1 14) X 15 0 rfl rfl (by omega) (by omega) ⟨by omega, by omega⟩ dX2_sellerFor_23 ?_
        have b_5 := hB 14 rfl i_4
        refine z_if_le (tgt := 127) X ⟨by omega, by omega⟩ (by decide) dX2_sellerFor_24 (fun c_6 => ?_) (fun c_6 => ?_)
        · skip
          refine z_iinc X 3 [1, 2, 3, 0] [(0, .ref (ad 0)), (1, .int (iZ b)), (2, .int (iZ a_4)), (3, .int (iZ (i_4 + 1)))] rfl rfl (Nat.le_of_ble_eq_true rfl) dX2_sellerFor_127 ?_
          refine z_goto (tgt := 4) X (by decide) dX2_sellerFor_130 ?_
          exact z_eq rfl (congrArg (fun z : Int => ([(0, .ref (ad 0)), (1, .int (iZ b)), (2, .int (iZ z)), (3, .int (iZ (i_4 + 1)))] : List (Nat × Value))) (show (m_sellerS w b) i_4 a_4 = a_4 from (by simp only [m_sellerS] <;> repeat' (first | with_reducible rfl | omega | split)))) hk_4
        · skip
          refine z_aload_n X 0 rfl dX2_sellerFor_27 ?_
          refine z_get (v := .ref (ad 3)) X 2 0 2 hiX2 rfl rfl (by decide) ⟨rfl, rfl, rfl⟩ (by decide +kernel) rfl dX2_sellerFor_28 ?_
          refine z_iload_n X 3 rfl dX2_sellerFor_31 ?_
          refine z_iald (g := w.1 2) X 3 0 rfl rfl (by omega) (by omega) ⟨by omega, by omega⟩ dX2_sellerFor_32 ?_
          have b_7 := hB 2 rfl i_4
          refine z_aload_n X 0 rfl dX2_sellerFor_33 ?_
          refine z_get (v := .ref (ad 3)) X 2 0 2 hiX2 rfl rfl (by decide) ⟨rfl, rfl, rfl⟩ (by decide +kernel) rfl dX2_sellerFor_34 ?_
          refine z_iload_n X 1 rfl dX2_sellerFor_37 ?_
          refine z_iald (g := w.1 2) X 3 0 rfl rfl (by omega) (by omega) ⟨by omega, by omega⟩ dX2_sellerFor_38 ?_
          have b_8 := hB 2 rfl b
          refine z_icmp_gt (tgt := 127) X ⟨by omega, by omega⟩ ⟨by omega, by omega⟩ (by decide) dX2_sellerFor_39 (fun c_9 => ?_) (fun c_9 => ?_)
          · skip
            refine z_iinc X 3 [1, 2, 3, 0] [(0, .ref (ad 0)), (1, .int (iZ b)), (2, .int (iZ a_4)), (3, .int (iZ (i_4 + 1)))] rfl rfl (Nat.le_of_ble_eq_true rfl) dX2_sellerFor_127 ?_
            refine z_goto (tgt := 4) X (by decide) dX2_sellerFor_130 ?_
            exact z_eq rfl (congrArg (fun z : Int => ([(0, .ref (ad 0)), (1, .int (iZ b)), (2, .int (iZ z)), (3, .int (iZ (i_4 + 1)))] : List (Nat × Value))) (show (m_sellerS w b) i_4 a_4 = a_4 from (by simp only [m_sellerS] <;> repeat' (first | with_reducible rfl | omega | split)))) hk_4
          · skip
            refine z_iload_n X 2 rfl dX2_sellerFor_42 ?_
            refine z_iconst X dX2_sellerFor_43 ?_
            refine z_icmp_eq (tgt := 62) X ⟨by omega, by omega⟩ ⟨by omega, by omega⟩ (by decide) dX2_sellerFor_44 (fun c_10 => ?_) (fun c_10 => ?_)
            · skip
              refine z_iconst X dX2_sellerFor_62 ?_
              refine z_goto (tgt := 67) X (by decide) dX2_sellerFor_63 ?_
              refine z_istore X [1, 2, 3, 4, 0] [(0, .ref (ad 0)), (1, .int (iZ b)), (2, .int (iZ a_4)), (3, .int (iZ i_4)), (4, .int (iZ 1))] rfl (Nat.le_of_ble_eq_true rfl) dX2_sellerFor_67 ?_
              refine z_iload_n X 2 rfl dX2_sellerFor_69 ?_
              refine z_iconst X dX2_sellerFor_70 ?_
              refine z_icmp_eq (tgt := 108) X ⟨by omega, by omega⟩ ⟨by omega, by omega⟩ (by decide) dX2_sellerFor_71 (fun c_11 => ?_) (fun c_11 => ?_)
              · skip
                refine z_iconst X dX2_sellerFor_108 ?_
                refine z_istore X [1, 2, 3, 4, 5, 0] [(0, .ref (ad 0)), (1, .int (iZ b)), (2, .int (iZ a_4)), (3, .int (iZ i_4)), (4, .int (iZ 1)), (5, .int (iZ 0))] rfl (Nat.le_of_ble_eq_true rfl) dX2_sellerFor_109 ?_
                refine z_iload X 4 rfl dX2_sellerFor_111 ?_
                refine z_if_ne (tgt := 121) X ⟨by omega, by omega⟩ (by decide) dX2_sellerFor_113 (fun c_12 => ?_) (fun c_12 => ?_)
                · skip
                  refine z_iload_n X 3 rfl dX2_sellerFor_121 ?_
                  refine z_goto (tgt := 126) X (by decide) dX2_sellerFor_122 ?_
                  refine z_istore_n X [1, 2, 0, 3, 4, 5] [(0, .ref (ad 0)), (1, .int (iZ b)), (2, .int (iZ i_4)), (3, .int (iZ i_4)), (4, .int (iZ 1)), (5, .int (iZ 0))] rfl (Nat.le_of_ble_eq_true rfl) dX2_sellerFor_126 ?_
                  refine z_iinc X 3 [1, 2, 3, 0, 4, 5] [(0, .ref (ad 0)), (1, .int (iZ b)), (2, .int (iZ i_4)), (3, .int (iZ (i_4 + 1))), (4, .int (iZ 1)), (5, .int (iZ 0))] rfl rfl (Nat.le_of_ble_eq_true rfl) dX2_sellerFor_127 ?_
                  refine z_goto (tgt := 4) X (by decide) dX2_sellerFor_130 ?_
                  refine z_sub (lv' := [(0, .ref (ad 0)), (1, .int (iZ b)), (2, .int (iZ i_4)), (3, .int (iZ (i_4 + 1)))]) [0, 1, 2, 3] rfl ?_
                  exact z_eq rfl (congrArg (fun z : Int => ([(0, .ref (ad 0)), (1, .int (iZ b)), (2, .int (iZ z)), (3, .int (iZ (i_4 + 1)))] : List (Nat × Value))) (show (m_sellerS w b) i_4 a_4 = i_4 from (by simp only [m_sellerS] <;> repeat' (first | with_reducible rfl | omega | split)))) hk_4
                · exact absurd c_12 (by omega)
              · skip
                refine z_aload_n X 0 rfl dX2_sellerFor_74 ?_
                refine z_get (v := .ref (ad 3)) X 2 0 2 hiX2 rfl rfl (by decide) ⟨rfl, rfl, rfl⟩ (by decide +kernel) rfl dX2_sellerFor_75 ?_
                refine z_iload_n X 3 rfl dX2_sellerFor_78 ?_
                refine z_iald (g := w.1 2) X 3 0 rfl rfl (by omega) (by omega) ⟨by omega, by omega⟩ dX2_sellerFor_79 ?_
                refine z_aload_n X 0 rfl dX2_sellerFor_80 ?_
                refine z_get (v := .ref (ad 3)) X 2 0 2 hiX2 rfl rfl (by decide) ⟨rfl, rfl, rfl⟩ (by decide +kernel) rfl dX2_sellerFor_81 ?_
                refine z_iload_n X 2 rfl dX2_sellerFor_84 ?_
                refine z_iald (g := w.1 2) X 3 0 rfl rfl (by omega) (by omega) ⟨by omega, by omega⟩ dX2_sellerFor_85 ?_
                have b_13 := hB 2 rfl a_4
                refine z_icmp_ne (tgt := 108) X ⟨by omega, by omega⟩ ⟨by omega, by omega⟩ (by decide) dX2_sellerFor_86 (fun c_14 => ?_) (fun c_14 => ?_)
                · skip
                  refine z_iconst X dX2_sellerFor_108 ?_
                  refine z_istore X [1, 2, 3, 4, 5, 0] [(0, .ref (ad 0)), (1, .int (iZ b)), (2, .int (iZ a_4)), (3, .int (iZ i_4)), (4, .int (iZ 1)), (5, .int (iZ 0))] rfl (Nat.le_of_ble_eq_true rfl) dX2_sellerFor_109 ?_
                  refine z_iload X 4 rfl dX2_sellerFor_111 ?_
                  refine z_if_ne (tgt := 121) X ⟨by omega, by omega⟩ (by decide) dX2_sellerFor_113 (fun c_15 => ?_) (fun c_15 => ?_)
                  · skip
                    refine z_iload_n X 3 rfl dX2_sellerFor_121 ?_
                    refine z_goto (tgt := 126) X (by decide) dX2_sellerFor_122 ?_
                    refine z_istore_n X [1, 2, 0, 3, 4, 5] [(0, .ref (ad 0)), (1, .int (iZ b)), (2, .int (iZ i_4)), (3, .int (iZ i_4)), (4, .int (iZ 1)), (5, .int (iZ 0))] rfl (Nat.le_of_ble_eq_true rfl) dX2_sellerFor_126 ?_
                    refine z_iinc X 3 [1, 2, 3, 0, 4, 5] [(0, .ref (ad 0)), (1, .int (iZ b)), (2, .int (iZ i_4)), (3, .int (iZ (i_4 + 1))), (4, .int (iZ 1)), (5, .int (iZ 0))] rfl rfl (Nat.le_of_ble_eq_true rfl) dX2_sellerFor_127 ?_
                    refine z_goto (tgt := 4) X (by decide) dX2_sellerFor_130 ?_
                    refine z_sub (lv' := [(0, .ref (ad 0)), (1, .int (iZ b)), (2, .int (iZ i_4)), (3, .int (iZ (i_4 + 1)))]) [0, 1, 2, 3] rfl ?_
                    exact z_eq rfl (congrArg (fun z : Int => ([(0, .ref (ad 0)), (1, .int (iZ b)), (2, .int (iZ z)), (3, .int (iZ (i_4 + 1)))] : List (Nat × Value))) (show (m_sellerS w b) i_4 a_4 = i_4 from (by simp only [m_sellerS] <;> repeat' (first | with_reducible rfl | omega | split)))) hk_4
                  · exact absurd c_15 (by omega)
                · skip
                  refine z_iload_n X 3 rfl dX2_sellerFor_89 ?_
                  refine z_iload_n X 1 rfl dX2_sellerFor_90 ?_
                  refine z_isub X dX2_sellerFor_91 ?_
                  refine z_callis X (c_X2_size l D ad cI cZ cL (i_4 - b) ⟨by omega, by omega⟩) (va_cwS 1 X.2.2.2.2.1 gX2_sellerFor_X2_size rfl rfl rfl (by decide +kernel) ⟨Nat.le_of_ble_eq_true rfl, Nat.le_of_ble_eq_true rfl⟩) rfl [] (Mw ad cI cZ w) rfl [] rfl (Nat.le_of_ble_eq_true rfl) dX2_sellerFor_92 ⟨Nat.le_of_ble_eq_true rfl, Nat.le_of_ble_eq_true rfl⟩ rfl ?_
                  have r_16 := m_size_sp (i_4 - b)
                  refine z_iload_n X 2 rfl dX2_sellerFor_95 ?_
                  refine z_iload_n X 1 rfl dX2_sellerFor_96 ?_
                  refine z_isub X dX2_sellerFor_97 ?_
                  refine z_callis X (c_X2_size l D ad cI cZ cL (a_4 - b) ⟨by omega, by omega⟩) (va_cwS 1 X.2.2.2.2.1 gX2_sellerFor_X2_size rfl rfl rfl (by decide +kernel) ⟨Nat.le_of_ble_eq_true rfl, Nat.le_of_ble_eq_true rfl⟩) rfl [] (Mw ad cI cZ w) rfl [.int (iZ (m_size (i_4 - b)))] rfl (Nat.le_of_ble_eq_true rfl) dX2_sellerFor_98 ⟨Nat.le_of_ble_eq_true rfl, Nat.le_of_ble_eq_true rfl⟩ rfl ?_
                  have r_17 := m_size_sp (a_4 - b)
                  refine z_icmp_ge (tgt := 108) X ⟨by omega, by omega⟩ ⟨by omega, by omega⟩ (by decide) dX2_sellerFor_101 (fun c_18 => ?_) (fun c_18 => ?_)
                  · skip
                    refine z_iconst X dX2_sellerFor_108 ?_
                    refine z_istore X [1, 2, 3, 4, 5, 0] [(0, .ref (ad 0)), (1, .int (iZ b)), (2, .int (iZ a_4)), (3, .int (iZ i_4)), (4, .int (iZ 1)), (5, .int (iZ 0))] rfl (Nat.le_of_ble_eq_true rfl) dX2_sellerFor_109 ?_
                    refine z_iload X 4 rfl dX2_sellerFor_111 ?_
                    refine z_if_ne (tgt := 121) X ⟨by omega, by omega⟩ (by decide) dX2_sellerFor_113 (fun c_19 => ?_) (fun c_19 => ?_)
                    · skip
                      refine z_iload_n X 3 rfl dX2_sellerFor_121 ?_
                      refine z_goto (tgt := 126) X (by decide) dX2_sellerFor_122 ?_
                      refine z_istore_n X [1, 2, 0, 3, 4, 5] [(0, .ref (ad 0)), (1, .int (iZ b)), (2, .int (iZ i_4)), (3, .int (iZ i_4)), (4, .int (iZ 1)), (5, .int (iZ 0))] rfl (Nat.le_of_ble_eq_true rfl) dX2_sellerFor_126 ?_
                      refine z_iinc X 3 [1, 2, 3, 0, 4, 5] [(0, .ref (ad 0)), (1, .int (iZ b)), (2, .int (iZ i_4)), (3, .int (iZ (i_4 + 1))), (4, .int (iZ 1)), (5, .int (iZ 0))] rfl rfl (Nat.le_of_ble_eq_true rfl) dX2_sellerFor_127 ?_
                      refine z_goto (tgt := 4) X (by decide) dX2_sellerFor_130 ?_
                      refine z_sub (lv' := [(0, .ref (ad 0)), (1, .int (iZ b)), (2, .int (iZ i_4)), (3, .int (iZ (i_4 + 1)))]) [0, 1, 2, 3] rfl ?_
                      exact z_eq rfl (congrArg (fun z : Int => ([(0, .ref (ad 0)), (1, .int (iZ b)), (2, .int (iZ z)), (3, .int (iZ (i_4 + 1)))] : List (Nat × Value))) (show (m_sellerS w b) i_4 a_4 = i_4 from (by simp only [m_sellerS] <;> repeat' (first | with_reducible rfl | omega | split)))) hk_4
                    · exact absurd c_19 (by omega)
                  · skip
                    refine z_iconst X dX2_sellerFor_104 ?_
                    refine z_goto (tgt := 109) X (by decide) dX2_sellerFor_105 ?_
                    refine z_istore X [1, 2, 3, 4, 5, 0] [(0, .ref (ad 0)), (1, .int (iZ b)), (2, .int (iZ a_4)), (3, .int (iZ i_4)), (4, .int (iZ 1)), (5, .int (iZ 1))] rfl (Nat.le_of_ble_eq_true rfl) dX2_sellerFor_109 ?_
                    refine z_iload X 4 rfl dX2_sellerFor_111 ?_
                    refine z_if_ne (tgt := 121) X ⟨by omega, by omega⟩ (by decide) dX2_sellerFor_113 (fun c_20 => ?_) (fun c_20 => ?_)
                    · skip
                      refine z_iload_n X 3 rfl dX2_sellerFor_121 ?_
                      refine z_goto (tgt := 126) X (by decide) dX2_sellerFor_122 ?_
                      refine z_istore_n X [1, 2, 0, 3, 4, 5] [(0, .ref (ad 0)), (1, .int (iZ b)), (2, .int (iZ i_4)), (3, .int (iZ i_4)), (4, .int (iZ 1)), (5, .int (iZ 1))] rfl (Nat.le_of_ble_eq_true rfl) dX2_sellerFor_126 ?_
                      refine z_iinc X 3 [1, 2, 3, 0, 4, 5] [(0, .ref (ad 0)), (1, .int (iZ b)), (2, .int (iZ i_4)), (3, .int (iZ (i_4 + 1))), (4, .int (iZ 1)), (5, .int (iZ 1))] rfl rfl (Nat.le_of_ble_eq_true rfl) dX2_sellerFor_127 ?_
                      refine z_goto (tgt := 4) X (by decide) dX2_sellerFor_130 ?_
                      refine z_sub (lv' := [(0, .ref (ad 0)), (1, .int (iZ b)), (2, .int (iZ i_4)), (3, .int (iZ (i_4 + 1)))]) [0, 1, 2, 3] rfl ?_
                      exact z_eq rfl (congrArg (fun z : Int => ([(0, .ref (ad 0)), (1, .int (iZ b)), (2, .int (iZ z)), (3, .int (iZ (i_4 + 1)))] : List (Nat × Value))) (show (m_sellerS w b) i_4 a_4 = i_4 from (by simp only [m_sellerS] <;> repeat' (first | with_reducible rfl | omega | split)))) hk_4
                    · exact absurd c_20 (by omega)
            · skip
              refine z_aload_n X 0 rfl dX2_sellerFor_47 ?_
              refine z_get (v := .ref (ad 3)) X 2 0 2 hiX2 rfl rfl (by decide) ⟨rfl, rfl, rfl⟩ (by decide +kernel) rfl dX2_sellerFor_48 ?_
              refine z_iload_n X 3 rfl dX2_sellerFor_51 ?_
              refine z_iald (g := w.1 2) X 3 0 rfl rfl (by omega) (by omega) ⟨by omega, by omega⟩ dX2_sellerFor_52 ?_
              refine z_aload_n X 0 rfl dX2_sellerFor_53 ?_
              refine z_get (v := .ref (ad 3)) X 2 0 2 hiX2 rfl rfl (by decide) ⟨rfl, rfl, rfl⟩ (by decide +kernel) rfl dX2_sellerFor_54 ?_
              refine z_iload_n X 2 rfl dX2_sellerFor_57 ?_
              refine z_iald (g := w.1 2) X 3 0 rfl rfl (by omega) (by omega) ⟨by omega, by omega⟩ dX2_sellerFor_58 ?_
              have b_21 := hB 2 rfl a_4
              refine z_icmp_ge (tgt := 66) X ⟨by omega, by omega⟩ ⟨by omega, by omega⟩ (by decide) dX2_sellerFor_59 (fun c_22 => ?_) (fun c_22 => ?_)
              · skip
                refine z_iconst X dX2_sellerFor_66 ?_
                refine z_istore X [1, 2, 3, 4, 0] [(0, .ref (ad 0)), (1, .int (iZ b)), (2, .int (iZ a_4)), (3, .int (iZ i_4)), (4, .int (iZ 0))] rfl (Nat.le_of_ble_eq_true rfl) dX2_sellerFor_67 ?_
                refine z_iload_n X 2 rfl dX2_sellerFor_69 ?_
                refine z_iconst X dX2_sellerFor_70 ?_
                refine z_icmp_eq (tgt := 108) X ⟨by omega, by omega⟩ ⟨by omega, by omega⟩ (by decide) dX2_sellerFor_71 (fun c_23 => ?_) (fun c_23 => ?_)
                · skip
                  refine z_iconst X dX2_sellerFor_108 ?_
                  refine z_istore X [1, 2, 3, 4, 5, 0] [(0, .ref (ad 0)), (1, .int (iZ b)), (2, .int (iZ a_4)), (3, .int (iZ i_4)), (4, .int (iZ 0)), (5, .int (iZ 0))] rfl (Nat.le_of_ble_eq_true rfl) dX2_sellerFor_109 ?_
                  refine z_iload X 4 rfl dX2_sellerFor_111 ?_
                  refine z_if_ne (tgt := 121) X ⟨by omega, by omega⟩ (by decide) dX2_sellerFor_113 (fun c_24 => ?_) (fun c_24 => ?_)
                  · exact absurd c_24 (by omega)
                  · skip
                    refine z_iload X 5 rfl dX2_sellerFor_116 ?_
                    refine z_if_eq (tgt := 125) X ⟨by omega, by omega⟩ (by decide) dX2_sellerFor_118 (fun c_25 => ?_) (fun c_25 => ?_)
                    · skip
                      refine z_iload_n X 2 rfl dX2_sellerFor_125 ?_
                      refine z_istore_n X [1, 2, 0, 3, 4, 5] [(0, .ref (ad 0)), (1, .int (iZ b)), (2, .int (iZ a_4)), (3, .int (iZ i_4)), (4, .int (iZ 0)), (5, .int (iZ 0))] rfl (Nat.le_of_ble_eq_true rfl) dX2_sellerFor_126 ?_
                      refine z_iinc X 3 [1, 2, 3, 0, 4, 5] [(0, .ref (ad 0)), (1, .int (iZ b)), (2, .int (iZ a_4)), (3, .int (iZ (i_4 + 1))), (4, .int (iZ 0)), (5, .int (iZ 0))] rfl rfl (Nat.le_of_ble_eq_true rfl) dX2_sellerFor_127 ?_
                      refine z_goto (tgt := 4) X (by decide) dX2_sellerFor_130 ?_
                      refine z_sub (lv' := [(0, .ref (ad 0)), (1, .int (iZ b)), (2, .int (iZ a_4)), (3, .int (iZ (i_4 + 1)))]) [0, 1, 2, 3] rfl ?_
                      exact z_eq rfl (congrArg (fun z : Int => ([(0, .ref (ad 0)), (1, .int (iZ b)), (2, .int (iZ z)), (3, .int (iZ (i_4 + 1)))] : List (Nat × Value))) (show (m_sellerS w b) i_4 a_4 = a_4 from (by simp only [m_sellerS] <;> repeat' (first | with_reducible rfl | omega | split)))) hk_4
                    · exact absurd c_25 (by omega)
                · skip
                  refine z_aload_n X 0 rfl dX2_sellerFor_74 ?_
                  refine z_get (v := .ref (ad 3)) X 2 0 2 hiX2 rfl rfl (by decide) ⟨rfl, rfl, rfl⟩ (by decide +kernel) rfl dX2_sellerFor_75 ?_
                  refine z_iload_n X 3 rfl dX2_sellerFor_78 ?_
                  refine z_iald (g := w.1 2) X 3 0 rfl rfl (by omega) (by omega) ⟨by omega, by omega⟩ dX2_sellerFor_79 ?_
                  refine z_aload_n X 0 rfl dX2_sellerFor_80 ?_
                  refine z_get (v := .ref (ad 3)) X 2 0 2 hiX2 rfl rfl (by decide) ⟨rfl, rfl, rfl⟩ (by decide +kernel) rfl dX2_sellerFor_81 ?_
                  refine z_iload_n X 2 rfl dX2_sellerFor_84 ?_
                  refine z_iald (g := w.1 2) X 3 0 rfl rfl (by omega) (by omega) ⟨by omega, by omega⟩ dX2_sellerFor_85 ?_
                  refine z_icmp_ne (tgt := 108) X ⟨by omega, by omega⟩ ⟨by omega, by omega⟩ (by decide) dX2_sellerFor_86 (fun c_26 => ?_) (fun c_26 => ?_)
                  · skip
                    refine z_iconst X dX2_sellerFor_108 ?_
                    refine z_istore X [1, 2, 3, 4, 5, 0] [(0, .ref (ad 0)), (1, .int (iZ b)), (2, .int (iZ a_4)), (3, .int (iZ i_4)), (4, .int (iZ 0)), (5, .int (iZ 0))] rfl (Nat.le_of_ble_eq_true rfl) dX2_sellerFor_109 ?_
                    refine z_iload X 4 rfl dX2_sellerFor_111 ?_
                    refine z_if_ne (tgt := 121) X ⟨by omega, by omega⟩ (by decide) dX2_sellerFor_113 (fun c_27 => ?_) (fun c_27 => ?_)
                    · exact absurd c_27 (by omega)
                    · skip
                      refine z_iload X 5 rfl dX2_sellerFor_116 ?_
                      refine z_if_eq (tgt := 125) X ⟨by omega, by omega⟩ (by decide) dX2_sellerFor_118 (fun c_28 => ?_) (fun c_28 => ?_)
                      · skip
                        refine z_iload_n X 2 rfl dX2_sellerFor_125 ?_
                        refine z_istore_n X [1, 2, 0, 3, 4, 5] [(0, .ref (ad 0)), (1, .int (iZ b)), (2, .int (iZ a_4)), (3, .int (iZ i_4)), (4, .int (iZ 0)), (5, .int (iZ 0))] rfl (Nat.le_of_ble_eq_true rfl) dX2_sellerFor_126 ?_
                        refine z_iinc X 3 [1, 2, 3, 0, 4, 5] [(0, .ref (ad 0)), (1, .int (iZ b)), (2, .int (iZ a_4)), (3, .int (iZ (i_4 + 1))), (4, .int (iZ 0)), (5, .int (iZ 0))] rfl rfl (Nat.le_of_ble_eq_true rfl) dX2_sellerFor_127 ?_
                        refine z_goto (tgt := 4) X (by decide) dX2_sellerFor_130 ?_
                        refine z_sub (lv' := [(0, .ref (ad 0)), (1, .int (iZ b)), (2, .int (iZ a_4)), (3, .int (iZ (i_4 + 1)))]) [0, 1, 2, 3] rfl ?_
                        exact z_eq rfl (congrArg (fun z : Int => ([(0, .ref (ad 0)), (1, .int (iZ b)), (2, .int (iZ z)), (3, .int (iZ (i_4 + 1)))] : List (Nat × Value))) (show (m_sellerS w b) i_4 a_4 = a_4 from (by simp only [m_sellerS] <;> repeat' (first | with_reducible rfl | omega | split)))) hk_4
                      · exact absurd c_28 (by omega)
                  · skip
                    refine z_iload_n X 3 rfl dX2_sellerFor_89 ?_
                    refine z_iload_n X 1 rfl dX2_sellerFor_90 ?_
                    refine z_isub X dX2_sellerFor_91 ?_
                    refine z_callis X (c_X2_size l D ad cI cZ cL (i_4 - b) ⟨by omega, by omega⟩) (va_cwS 1 X.2.2.2.2.1 gX2_sellerFor_X2_size rfl rfl rfl (by decide +kernel) ⟨Nat.le_of_ble_eq_true rfl, Nat.le_of_ble_eq_true rfl⟩) rfl [] (Mw ad cI cZ w) rfl [] rfl (Nat.le_of_ble_eq_true rfl) dX2_sellerFor_92 ⟨Nat.le_of_ble_eq_true rfl, Nat.le_of_ble_eq_true rfl⟩ rfl ?_
                    have r_29 := m_size_sp (i_4 - b)
                    refine z_iload_n X 2 rfl dX2_sellerFor_95 ?_
                    refine z_iload_n X 1 rfl dX2_sellerFor_96 ?_
                    refine z_isub X dX2_sellerFor_97 ?_
                    refine z_callis X (c_X2_size l D ad cI cZ cL (a_4 - b) ⟨by omega, by omega⟩) (va_cwS 1 X.2.2.2.2.1 gX2_sellerFor_X2_size rfl rfl rfl (by decide +kernel) ⟨Nat.le_of_ble_eq_true rfl, Nat.le_of_ble_eq_true rfl⟩) rfl [] (Mw ad cI cZ w) rfl [.int (iZ (m_size (i_4 - b)))] rfl (Nat.le_of_ble_eq_true rfl) dX2_sellerFor_98 ⟨Nat.le_of_ble_eq_true rfl, Nat.le_of_ble_eq_true rfl⟩ rfl ?_
                    have r_30 := m_size_sp (a_4 - b)
                    refine z_icmp_ge (tgt := 108) X ⟨by omega, by omega⟩ ⟨by omega, by omega⟩ (by decide) dX2_sellerFor_101 (fun c_31 => ?_) (fun c_31 => ?_)
                    · skip
                      refine z_iconst X dX2_sellerFor_108 ?_
                      refine z_istore X [1, 2, 3, 4, 5, 0] [(0, .ref (ad 0)), (1, .int (iZ b)), (2, .int (iZ a_4)), (3, .int (iZ i_4)), (4, .int (iZ 0)), (5, .int (iZ 0))] rfl (Nat.le_of_ble_eq_true rfl) dX2_sellerFor_109 ?_
                      refine z_iload X 4 rfl dX2_sellerFor_111 ?_
                      refine z_if_ne (tgt := 121) X ⟨by omega, by omega⟩ (by decide) dX2_sellerFor_113 (fun c_32 => ?_) (fun c_32 => ?_)
                      · exact absurd c_32 (by omega)
                      · skip
                        refine z_iload X 5 rfl dX2_sellerFor_116 ?_
                        refine z_if_eq (tgt := 125) X ⟨by omega, by omega⟩ (by decide) dX2_sellerFor_118 (fun c_33 => ?_) (fun c_33 => ?_)
                        · skip
                          refine z_iload_n X 2 rfl dX2_sellerFor_125 ?_
                          refine z_istore_n X [1, 2, 0, 3, 4, 5] [(0, .ref (ad 0)), (1, .int (iZ b)), (2, .int (iZ a_4)), (3, .int (iZ i_4)), (4, .int (iZ 0)), (5, .int (iZ 0))] rfl (Nat.le_of_ble_eq_true rfl) dX2_sellerFor_126 ?_
                          refine z_iinc X 3 [1, 2, 3, 0, 4, 5] [(0, .ref (ad 0)), (1, .int (iZ b)), (2, .int (iZ a_4)), (3, .int (iZ (i_4 + 1))), (4, .int (iZ 0)), (5, .int (iZ 0))] rfl rfl (Nat.le_of_ble_eq_true rfl) dX2_sellerFor_127 ?_
                          refine z_goto (tgt := 4) X (by decide) dX2_sellerFor_130 ?_
                          refine z_sub (lv' := [(0, .ref (ad 0)), (1, .int (iZ b)), (2, .int (iZ a_4)), (3, .int (iZ (i_4 + 1)))]) [0, 1, 2, 3] rfl ?_
                          exact z_eq rfl (congrArg (fun z : Int => ([(0, .ref (ad 0)), (1, .int (iZ b)), (2, .int (iZ z)), (3, .int (iZ (i_4 + 1)))] : List (Nat × Value))) (show (m_sellerS w b) i_4 a_4 = a_4 from (by simp only [m_sellerS] <;> repeat' (first | with_reducible rfl | omega | split)))) hk_4
                        · exact absurd c_33 (by omega)
                    · skip
                      refine z_iconst X dX2_sellerFor_104 ?_
                      refine z_goto (tgt := 109) X (by decide) dX2_sellerFor_105 ?_
                      refine z_istore X [1, 2, 3, 4, 5, 0] [(0, .ref (ad 0)), (1, .int (iZ b)), (2, .int (iZ a_4)), (3, .int (iZ i_4)), (4, .int (iZ 0)), (5, .int (iZ 1))] rfl (Nat.le_of_ble_eq_true rfl) dX2_sellerFor_109 ?_
                      refine z_iload X 4 rfl dX2_sellerFor_111 ?_
                      refine z_if_ne (tgt := 121) X ⟨by omega, by omega⟩ (by decide) dX2_sellerFor_113 (fun c_34 => ?_) (fun c_34 => ?_)
                      · exact absurd c_34 (by omega)
                      · skip
                        refine z_iload X 5 rfl dX2_sellerFor_116 ?_
                        refine z_if_eq (tgt := 125) X ⟨by omega, by omega⟩ (by decide) dX2_sellerFor_118 (fun c_35 => ?_) (fun c_35 => ?_)
                        · exact absurd c_35 (by omega)
                        · skip
                          refine z_iload_n X 3 rfl dX2_sellerFor_121 ?_
                          refine z_goto (tgt := 126) X (by decide) dX2_sellerFor_122 ?_
                          refine z_istore_n X [1, 2, 0, 3, 4, 5] [(0, .ref (ad 0)), (1, .int (iZ b)), (2, .int (iZ i_4)), (3, .int (iZ i_4)), (4, .int (iZ 0)), (5, .int (iZ 1))] rfl (Nat.le_of_ble_eq_true rfl) dX2_sellerFor_126 ?_
                          refine z_iinc X 3 [1, 2, 3, 0, 4, 5] [(0, .ref (ad 0)), (1, .int (iZ b)), (2, .int (iZ i_4)), (3, .int (iZ (i_4 + 1))), (4, .int (iZ 0)), (5, .int (iZ 1))] rfl rfl (Nat.le_of_ble_eq_true rfl) dX2_sellerFor_127 ?_
                          refine z_goto (tgt := 4) X (by decide) dX2_sellerFor_130 ?_
                          refine z_sub (lv' := [(0, .ref (ad 0)), (1, .int (iZ b)), (2, .int (iZ i_4)), (3, .int (iZ (i_4 + 1)))]) [0, 1, 2, 3] rfl ?_
                          exact z_eq rfl (congrArg (fun z : Int => ([(0, .ref (ad 0)), (1, .int (iZ b)), (2, .int (iZ z)), (3, .int (iZ (i_4 + 1)))] : List (Nat × Value))) (show (m_sellerS w b) i_4 a_4 = i_4 from (by simp only [m_sellerS] <;> repeat' (first | with_reducible rfl | omega | split)))) hk_4
              · skip
                refine z_iconst X dX2_sellerFor_62 ?_
                refine z_goto (tgt := 67) X (by decide) dX2_sellerFor_63 ?_
                refine z_istore X [1, 2, 3, 4, 0] [(0, .ref (ad 0)), (1, .int (iZ b)), (2, .int (iZ a_4)), (3, .int (iZ i_4)), (4, .int (iZ 1))] rfl (Nat.le_of_ble_eq_true rfl) dX2_sellerFor_67 ?_
                refine z_iload_n X 2 rfl dX2_sellerFor_69 ?_
                refine z_iconst X dX2_sellerFor_70 ?_
                refine z_icmp_eq (tgt := 108) X ⟨by omega, by omega⟩ ⟨by omega, by omega⟩ (by decide) dX2_sellerFor_71 (fun c_36 => ?_) (fun c_36 => ?_)
                · skip
                  refine z_iconst X dX2_sellerFor_108 ?_
                  refine z_istore X [1, 2, 3, 4, 5, 0] [(0, .ref (ad 0)), (1, .int (iZ b)), (2, .int (iZ a_4)), (3, .int (iZ i_4)), (4, .int (iZ 1)), (5, .int (iZ 0))] rfl (Nat.le_of_ble_eq_true rfl) dX2_sellerFor_109 ?_
                  refine z_iload X 4 rfl dX2_sellerFor_111 ?_
                  refine z_if_ne (tgt := 121) X ⟨by omega, by omega⟩ (by decide) dX2_sellerFor_113 (fun c_37 => ?_) (fun c_37 => ?_)
                  · skip
                    refine z_iload_n X 3 rfl dX2_sellerFor_121 ?_
                    refine z_goto (tgt := 126) X (by decide) dX2_sellerFor_122 ?_
                    refine z_istore_n X [1, 2, 0, 3, 4, 5] [(0, .ref (ad 0)), (1, .int (iZ b)), (2, .int (iZ i_4)), (3, .int (iZ i_4)), (4, .int (iZ 1)), (5, .int (iZ 0))] rfl (Nat.le_of_ble_eq_true rfl) dX2_sellerFor_126 ?_
                    refine z_iinc X 3 [1, 2, 3, 0, 4, 5] [(0, .ref (ad 0)), (1, .int (iZ b)), (2, .int (iZ i_4)), (3, .int (iZ (i_4 + 1))), (4, .int (iZ 1)), (5, .int (iZ 0))] rfl rfl (Nat.le_of_ble_eq_true rfl) dX2_sellerFor_127 ?_
                    refine z_goto (tgt := 4) X (by decide) dX2_sellerFor_130 ?_
                    refine z_sub (lv' := [(0, .ref (ad 0)), (1, .int (iZ b)), (2, .int (iZ i_4)), (3, .int (iZ (i_4 + 1)))]) [0, 1, 2, 3] rfl ?_
                    exact z_eq rfl (congrArg (fun z : Int => ([(0, .ref (ad 0)), (1, .int (iZ b)), (2, .int (iZ z)), (3, .int (iZ (i_4 + 1)))] : List (Nat × Value))) (show (m_sellerS w b) i_4 a_4 = i_4 from (by simp only [m_sellerS] <;> repeat' (first | with_reducible rfl | omega | split)))) hk_4
                  · exact absurd c_37 (by omega)
                · skip
                  refine z_aload_n X 0 rfl dX2_sellerFor_74 ?_
                  refine z_get (v := .ref (ad 3)) X 2 0 2 hiX2 rfl rfl (by decide) ⟨rfl, rfl, rfl⟩ (by decide +kernel) rfl dX2_sellerFor_75 ?_
                  refine z_iload_n X 3 rfl dX2_sellerFor_78 ?_
                  refine z_iald (g := w.1 2) X 3 0 rfl rfl (by omega) (by omega) ⟨by omega, by omega⟩ dX2_sellerFor_79 ?_
                  refine z_aload_n X 0 rfl dX2_sellerFor_80 ?_
                  refine z_get (v := .ref (ad 3)) X 2 0 2 hiX2 rfl rfl (by decide) ⟨rfl, rfl, rfl⟩ (by decide +kernel) rfl dX2_sellerFor_81 ?_
                  refine z_iload_n X 2 rfl dX2_sellerFor_84 ?_
                  refine z_iald (g := w.1 2) X 3 0 rfl rfl (by omega) (by omega) ⟨by omega, by omega⟩ dX2_sellerFor_85 ?_
                  refine z_icmp_ne (tgt := 108) X ⟨by omega, by omega⟩ ⟨by omega, by omega⟩ (by decide) dX2_sellerFor_86 (fun c_38 => ?_) (fun c_38 => ?_)
                  · skip
                    refine z_iconst X dX2_sellerFor_108 ?_
                    refine z_istore X [1, 2, 3, 4, 5, 0] [(0, .ref (ad 0)), (1, .int (iZ b)), (2, .int (iZ a_4)), (3, .int (iZ i_4)), (4, .int (iZ 1)), (5, .int (iZ 0))] rfl (Nat.le_of_ble_eq_true rfl) dX2_sellerFor_109 ?_
                    refine z_iload X 4 rfl dX2_sellerFor_111 ?_
                    refine z_if_ne (tgt := 121) X ⟨by omega, by omega⟩ (by decide) dX2_sellerFor_113 (fun c_39 => ?_) (fun c_39 => ?_)
                    · skip
                      refine z_iload_n X 3 rfl dX2_sellerFor_121 ?_
                      refine z_goto (tgt := 126) X (by decide) dX2_sellerFor_122 ?_
                      refine z_istore_n X [1, 2, 0, 3, 4, 5] [(0, .ref (ad 0)), (1, .int (iZ b)), (2, .int (iZ i_4)), (3, .int (iZ i_4)), (4, .int (iZ 1)), (5, .int (iZ 0))] rfl (Nat.le_of_ble_eq_true rfl) dX2_sellerFor_126 ?_
                      refine z_iinc X 3 [1, 2, 3, 0, 4, 5] [(0, .ref (ad 0)), (1, .int (iZ b)), (2, .int (iZ i_4)), (3, .int (iZ (i_4 + 1))), (4, .int (iZ 1)), (5, .int (iZ 0))] rfl rfl (Nat.le_of_ble_eq_true rfl) dX2_sellerFor_127 ?_
                      refine z_goto (tgt := 4) X (by decide) dX2_sellerFor_130 ?_
                      refine z_sub (lv' := [(0, .ref (ad 0)), (1, .int (iZ b)), (2, .int (iZ i_4)), (3, .int (iZ (i_4 + 1)))]) [0, 1, 2, 3] rfl ?_
                      exact z_eq rfl (congrArg (fun z : Int => ([(0, .ref (ad 0)), (1, .int (iZ b)), (2, .int (iZ z)), (3, .int (iZ (i_4 + 1)))] : List (Nat × Value))) (show (m_sellerS w b) i_4 a_4 = i_4 from (by simp only [m_sellerS] <;> repeat' (first | with_reducible rfl | omega | split)))) hk_4
                    · exact absurd c_39 (by omega)
                  · skip
                    refine z_iload_n X 3 rfl dX2_sellerFor_89 ?_
                    refine z_iload_n X 1 rfl dX2_sellerFor_90 ?_
                    refine z_isub X dX2_sellerFor_91 ?_
                    refine z_callis X (c_X2_size l D ad cI cZ cL (i_4 - b) ⟨by omega, by omega⟩) (va_cwS 1 X.2.2.2.2.1 gX2_sellerFor_X2_size rfl rfl rfl (by decide +kernel) ⟨Nat.le_of_ble_eq_true rfl, Nat.le_of_ble_eq_true rfl⟩) rfl [] (Mw ad cI cZ w) rfl [] rfl (Nat.le_of_ble_eq_true rfl) dX2_sellerFor_92 ⟨Nat.le_of_ble_eq_true rfl, Nat.le_of_ble_eq_true rfl⟩ rfl ?_
                    have r_40 := m_size_sp (i_4 - b)
                    refine z_iload_n X 2 rfl dX2_sellerFor_95 ?_
                    refine z_iload_n X 1 rfl dX2_sellerFor_96 ?_
                    refine z_isub X dX2_sellerFor_97 ?_
                    refine z_callis X (c_X2_size l D ad cI cZ cL (a_4 - b) ⟨by omega, by omega⟩) (va_cwS 1 X.2.2.2.2.1 gX2_sellerFor_X2_size rfl rfl rfl (by decide +kernel) ⟨Nat.le_of_ble_eq_true rfl, Nat.le_of_ble_eq_true rfl⟩) rfl [] (Mw ad cI cZ w) rfl [.int (iZ (m_size (i_4 - b)))] rfl (Nat.le_of_ble_eq_true rfl) dX2_sellerFor_98 ⟨Nat.le_of_ble_eq_true rfl, Nat.le_of_ble_eq_true rfl⟩ rfl ?_
                    have r_41 := m_size_sp (a_4 - b)
                    refine z_icmp_ge (tgt := 108) X ⟨by omega, by omega⟩ ⟨by omega, by omega⟩ (by decide) dX2_sellerFor_101 (fun c_42 => ?_) (fun c_42 => ?_)
                    · skip
                      refine z_iconst X dX2_sellerFor_108 ?_
                      refine z_istore X [1, 2, 3, 4, 5, 0] [(0, .ref (ad 0)), (1, .int (iZ b)), (2, .int (iZ a_4)), (3, .int (iZ i_4)), (4, .int (iZ 1)), (5, .int (iZ 0))] rfl (Nat.le_of_ble_eq_true rfl) dX2_sellerFor_109 ?_
                      refine z_iload X 4 rfl dX2_sellerFor_111 ?_
                      refine z_if_ne (tgt := 121) X ⟨by omega, by omega⟩ (by decide) dX2_sellerFor_113 (fun c_43 => ?_) (fun c_43 => ?_)
                      · skip
                        refine z_iload_n X 3 rfl dX2_sellerFor_121 ?_
                        refine z_goto (tgt := 126) X (by decide) dX2_sellerFor_122 ?_
                        refine z_istore_n X [1, 2, 0, 3, 4, 5] [(0, .ref (ad 0)), (1, .int (iZ b)), (2, .int (iZ i_4)), (3, .int (iZ i_4)), (4, .int (iZ 1)), (5, .int (iZ 0))] rfl (Nat.le_of_ble_eq_true rfl) dX2_sellerFor_126 ?_
                        refine z_iinc X 3 [1, 2, 3, 0, 4, 5] [(0, .ref (ad 0)), (1, .int (iZ b)), (2, .int (iZ i_4)), (3, .int (iZ (i_4 + 1))), (4, .int (iZ 1)), (5, .int (iZ 0))] rfl rfl (Nat.le_of_ble_eq_true rfl) dX2_sellerFor_127 ?_
                        refine z_goto (tgt := 4) X (by decide) dX2_sellerFor_130 ?_
                        refine z_sub (lv' := [(0, .ref (ad 0)), (1, .int (iZ b)), (2, .int (iZ i_4)), (3, .int (iZ (i_4 + 1)))]) [0, 1, 2, 3] rfl ?_
                        exact z_eq rfl (congrArg (fun z : Int => ([(0, .ref (ad 0)), (1, .int (iZ b)), (2, .int (iZ z)), (3, .int (iZ (i_4 + 1)))] : List (Nat × Value))) (show (m_sellerS w b) i_4 a_4 = i_4 from (by simp only [m_sellerS] <;> repeat' (first | with_reducible rfl | omega | split)))) hk_4
                      · exact absurd c_43 (by omega)
                    · skip
                      refine z_iconst X dX2_sellerFor_104 ?_
                      refine z_goto (tgt := 109) X (by decide) dX2_sellerFor_105 ?_
                      refine z_istore X [1, 2, 3, 4, 5, 0] [(0, .ref (ad 0)), (1, .int (iZ b)), (2, .int (iZ a_4)), (3, .int (iZ i_4)), (4, .int (iZ 1)), (5, .int (iZ 1))] rfl (Nat.le_of_ble_eq_true rfl) dX2_sellerFor_109 ?_
                      refine z_iload X 4 rfl dX2_sellerFor_111 ?_
                      refine z_if_ne (tgt := 121) X ⟨by omega, by omega⟩ (by decide) dX2_sellerFor_113 (fun c_44 => ?_) (fun c_44 => ?_)
                      · skip
                        refine z_iload_n X 3 rfl dX2_sellerFor_121 ?_
                        refine z_goto (tgt := 126) X (by decide) dX2_sellerFor_122 ?_
                        refine z_istore_n X [1, 2, 0, 3, 4, 5] [(0, .ref (ad 0)), (1, .int (iZ b)), (2, .int (iZ i_4)), (3, .int (iZ i_4)), (4, .int (iZ 1)), (5, .int (iZ 1))] rfl (Nat.le_of_ble_eq_true rfl) dX2_sellerFor_126 ?_
                        refine z_iinc X 3 [1, 2, 3, 0, 4, 5] [(0, .ref (ad 0)), (1, .int (iZ b)), (2, .int (iZ i_4)), (3, .int (iZ (i_4 + 1))), (4, .int (iZ 1)), (5, .int (iZ 1))] rfl rfl (Nat.le_of_ble_eq_true rfl) dX2_sellerFor_127 ?_
                        refine z_goto (tgt := 4) X (by decide) dX2_sellerFor_130 ?_
                        refine z_sub (lv' := [(0, .ref (ad 0)), (1, .int (iZ b)), (2, .int (iZ i_4)), (3, .int (iZ (i_4 + 1)))]) [0, 1, 2, 3] rfl ?_
                        exact z_eq rfl (congrArg (fun z : Int => ([(0, .ref (ad 0)), (1, .int (iZ b)), (2, .int (iZ z)), (3, .int (iZ (i_4 + 1)))] : List (Nat × Value))) (show (m_sellerS w b) i_4 a_4 = i_4 from (by simp only [m_sellerS] <;> repeat' (first | with_reducible rfl | omega | split)))) hk_4
                      · exact absurd c_44 (by omega)
set_option maxHeartbeats 4000000 in
set_option maxRecDepth 100000 in
theorem c_X2_takes (l : Launch) (D : va_G) (ad : Nat → Nat) (cI cZ cL : ClassId) (w : GS) (b : Int) (h0 : 0 ≤ b ∧ b ≤ 5) (hI : MI1 w) (hbu : ¬ m_buyer w b = 0) : zMv l D (zT cI cZ cL) yX2_takes wsX2_takes ({ frames := 2, cells := 0, slots := 0, locals := 46 } : Room) (Mw ad cI cZ w) [.ref (ad 0), .int (iZ b)] (Mw ad cI cZ (m_takes w b)) 0 0 := by
  have hB := hI.bd
  refine z_mv (cc := cX2_takes) (maxL := 4) (ret := none) (by decide) rfl (Nat.le_of_ble_eq_true rfl) ?_
  intro p e s m below meth c A X hr hlk hin
  have hiX2 : ∀ w ∈ wsX20, w ∈ wsX2_takes := by decide +kernel
  refine z_sub (lv' := [(0, .ref (ad 0)), (1, .int (iZ b))]) [0, 1] rfl ?_
  refine z_aload_n X 0 rfl dX2_takes_0 ?_
  refine z_iload_n X 1 rfl dX2_takes_1 ?_
  refine z_calli X (c_X2_sellerFor l D ad cI cZ cL w b (by omega) hB) (cwV 1 X.2.2.2.2.1 gX2_takes_X2_sellerFor rfl rfl rfl (by decide +kernel) ⟨Nat.le_of_ble_eq_true rfl, Nat.le_of_ble_eq_true rfl⟩) rfl [] [] (List.append_nil _).symm 2 0 rfl rfl [] rfl (Nat.le_of_ble_eq_true rfl) dX2_takes_2 ⟨Nat.le_of_ble_eq_true rfl, Nat.le_of_ble_eq_true rfl⟩ (List.append_nil _) ?_
  have r_1 := m_seller_spec w b
  refine z_istore_n X [1, 2, 0] [(0, .ref (ad 0)), (1, .int (iZ b)), (2, .int (iZ (m_seller w b)))] rfl (Nat.le_of_ble_eq_true rfl) dX2_takes_5 ?_
  suffices H_6 : ∀ (n_6 : Nat) (v_6 : GS) (x_6 : Int), (MI1 v_6 ∧ x_6 = m_seller v_6 b ∧ NZ (v_6.1 14) ≤ ((n_6 : Nat) : Int) ∧ ¬ m_buyer v_6 b = 0) → (m_takesL b n_6 v_6 = m_takes w b) → zW p l e ({ frames := 2, cells := 0, slots := 0, locals := 46 } : Room) s m ([.ref (ad 0), .int (iZ b)] : List Value).toArray below meth c 4 D A 0 0 (MQ below (zPv D (zT cI cZ cL) (Mw ad cI cZ (m_takes w b)) A) ([.ref (ad 0), .int (iZ b)] : List Value).toArray s 0 0 A) (Mw ad cI cZ v_6) 6 [(0, .ref (ad 0)), (1, .int (iZ b)), (2, .int (iZ x_6))] [] from H_6 8 w (m_seller w b) ⟨hI, rfl, by have := NZ_rg (w.1 14); omega, hbu⟩ rfl
  intro n_6
  induction n_6 with
  | zero =>
    intro v_6 x_6 hI_6 hF_6
    have hB_6 := hI_6.1.bd
    have hP_6 := hI_6.1.1.2.2.2.1
    have hx_6 := hI_6.2.1
    have hn_6 := hI_6.2.2.1
    have hbu_6 := hI_6.2.2.2
    have hs_6 := m_seller_spec v_6 b
    have hb_6 := m_buyer_sp v_6 b
    have hc0_6 := hI_6.1.2.1.1
    have hc6_6 := hI_6.1.2.1.2.1
    have hN_6 := NZ_rg (v_6.1 14)
    have hL_6 := hI_6.1.2.2.1 b
    have hz_6 : v_6.1 14 b = 0 ∨ 1 ≤ NZ (v_6.1 14) := NZ_ge h0
    rw [← hx_6] at hs_6
    have hk_6 := hI_6.1.2.2.2
    refine z_aload_n X 0 rfl dX2_takes_6 ?_
    refine z_get (v := .ref (ad 15)) X 2 0 20 hiX2 rfl rfl (by decide) ⟨rfl, rfl, rfl⟩ (by decide +kernel) rfl dX2_takes_7 ?_
    refine z_iload_n X 1 rfl dX2_takes_10 ?_
    refine z_iald (g := v_6.1 14) X 15 0 rfl rfl (by omega) (by omega) ⟨by omega, by omega⟩ dX2_takes_11 ?_
    have b_2 := hB_6 14 rfl b
    refine z_if_le (tgt := 129) X ⟨by omega, by omega⟩ (by decide) dX2_takes_12 (fun c_3 => ?_) (fun c_3 => ?_)
    · skip
      exact z_vret X hr hlk (congrArg (Mw ad cI cZ) (show v_6 = m_takes w b from by subst hx_6; rw [← hF_6]; simp only [m_takesL] <;> repeat' (first | with_reducible rfl | omega | split))) dX2_takes_129
    · exact absurd c_3 (by omega)
  | succ n_6 ih_6 =>
    intro v_6 x_6 hI_6 hF_6
    have hB_6 := hI_6.1.bd
    have hP_6 := hI_6.1.1.2.2.2.1
    have hx_6 := hI_6.2.1
    have hn_6 := hI_6.2.2.1
    have hbu_6 := hI_6.2.2.2
    have hs_6 := m_seller_spec v_6 b
    have hb_6 := m_buyer_sp v_6 b
    have hc0_6 := hI_6.1.2.1.1
    have hc6_6 := hI_6.1.2.1.2.1
    have hN_6 := NZ_rg (v_6.1 14)
    have hL_6 := hI_6.1.2.2.1 b
    have hz_6 : v_6.1 14 b = 0 ∨ 1 ≤ NZ (v_6.1 14) := NZ_ge h0
    rw [← hx_6] at hs_6
    have hk_6 := hI_6.1.2.2.2
    refine z_aload_n X 0 rfl dX2_takes_6 ?_
    refine z_get (v := .ref (ad 15)) X 2 0 20 hiX2 rfl rfl (by decide) ⟨rfl, rfl, rfl⟩ (by decide +kernel) rfl dX2_takes_7 ?_
    refine z_iload_n X 1 rfl dX2_takes_10 ?_
    refine z_iald (g := v_6.1 14) X 15 0 rfl rfl (by omega) (by omega) ⟨by omega, by omega⟩ dX2_takes_11 ?_
    have b_4 := hB_6 14 rfl b
    refine z_if_le (tgt := 129) X ⟨by omega, by omega⟩ (by decide) dX2_takes_12 (fun c_5 => ?_) (fun c_5 => ?_)
    · skip
      exact z_vret X hr hlk (congrArg (Mw ad cI cZ) (show v_6 = m_takes w b from by subst hx_6; rw [← hF_6]; simp only [m_takesL] <;> repeat' (first | with_reducible rfl | omega | split))) dX2_takes_129
    · skip
      refine z_iload_n X 2 rfl dX2_takes_15 ?_
      refine z_iconst X dX2_takes_16 ?_
      refine z_icmp_eq (tgt := 129) X ⟨by omega, by omega⟩ ⟨by omega, by omega⟩ (by decide) dX2_takes_17 (fun c_6 => ?_) (fun c_6 => ?_)
      · skip
        exact z_vret X hr hlk (congrArg (Mw ad cI cZ) (show v_6 = m_takes w b from by subst hx_6; rw [← hF_6]; simp only [m_takesL] <;> repeat' (first | with_reducible rfl | omega | split))) dX2_takes_129
      · skip
        have ht9 : MI1 (m_trade v_6 x_6 b) ∧ NZ ((m_trade v_6 x_6 b).1 14) + 1 ≤ NZ (v_6.1 14) := MI1_trade hI_6.1 (by omega) h0 (fun q => by rw [q] at hs_6; omega) (by omega) (by omega)
        refine z_aload_n X 0 rfl dX2_takes_20 ?_
        refine z_get (v := .ref (ad 15)) X 2 0 20 hiX2 rfl rfl (by decide) ⟨rfl, rfl, rfl⟩ (by decide +kernel) rfl dX2_takes_21 ?_
        refine z_iload_n X 1 rfl dX2_takes_24 ?_
        refine z_iald (g := v_6.1 14) X 15 0 rfl rfl (by omega) (by omega) ⟨by omega, by omega⟩ dX2_takes_25 ?_
        refine z_aload_n X 0 rfl dX2_takes_26 ?_
        refine z_get (v := .ref (ad 15)) X 2 0 20 hiX2 rfl rfl (by decide) ⟨rfl, rfl, rfl⟩ (by decide +kernel) rfl dX2_takes_27 ?_
        refine z_iload_n X 2 rfl dX2_takes_30 ?_
        refine z_iald (g := v_6.1 14) X 15 0 rfl rfl (by omega) (by omega) ⟨by omega, by omega⟩ dX2_takes_31 ?_
        have b_7 := hB_6 14 rfl x_6
        refine z_callis X (c_X2_lesser l D ad cI cZ cL (v_6.1 14 b) (v_6.1 14 x_6) ⟨by omega, by omega⟩ ⟨by omega, by omega⟩) (va_cwS 2 X.2.2.2.2.1 gX2_takes_X2_lesser rfl rfl rfl (by decide +kernel) ⟨Nat.le_of_ble_eq_true rfl, Nat.le_of_ble_eq_true rfl⟩) rfl [] (Mw ad cI cZ v_6) rfl [] rfl (Nat.le_of_ble_eq_true rfl) dX2_takes_32 ⟨Nat.le_of_ble_eq_true rfl, Nat.le_of_ble_eq_true rfl⟩ rfl ?_
        have r_8 := m_lesser_sp (v_6.1 14 b) (v_6.1 14 x_6)
        refine z_istore_n X [1, 2, 3, 0] [(0, .ref (ad 0)), (1, .int (iZ b)), (2, .int (iZ x_6)), (3, .int (iZ (m_lesser (v_6.1 14 b) (v_6.1 14 x_6))))] rfl (Nat.le_of_ble_eq_true rfl) dX2_takes_35 ?_
        refine z_aload_n X 0 rfl dX2_takes_36 ?_
        refine z_get (v := .ref (ad 9)) X 2 0 13 hiX2 rfl rfl (by decide) ⟨rfl, rfl, rfl⟩ (by decide +kernel) rfl dX2_takes_37 ?_
        refine z_aload_n X 0 rfl dX2_takes_40 ?_
        refine z_get (v := .int (iZ (v_6.2 5))) X 2 0 17 hiX2 rfl rfl (by decide) ⟨rfl, rfl, rfl⟩ (by decide +kernel) rfl dX2_takes_41 ?_
        refine z_iload_n X 2 rfl dX2_takes_44 ?_
        refine z_iast (g := v_6.1 8) X 9 0 (Mw ad cI cZ (gA v_6 8 (v_6.2 5) x_6)) rfl rfl (by omega) (by omega) ⟨by omega, by omega⟩ rfl dX2_takes_45 ?_
        refine z_aload_n X 0 rfl dX2_takes_46 ?_
        refine z_get (v := .ref (ad 10)) X 2 0 14 hiX2 rfl rfl (by decide) ⟨rfl, rfl, rfl⟩ (by decide +kernel) rfl dX2_takes_47 ?_
        refine z_aload_n X 0 rfl dX2_takes_50 ?_
        refine z_get (v := .int (iZ (v_6.2 5))) X 2 0 17 hiX2 rfl rfl (by decide) ⟨rfl, rfl, rfl⟩ (by decide +kernel) rfl dX2_takes_51 ?_
        refine z_iload_n X 1 rfl dX2_takes_54 ?_
        refine z_iast (g := v_6.1 9) X 10 0 (Mw ad cI cZ (gA (gA v_6 8 (v_6.2 5) x_6) 9 (v_6.2 5) b)) rfl rfl (by omega) (by omega) ⟨by omega, by omega⟩ rfl dX2_takes_55 ?_
        refine z_aload_n X 0 rfl dX2_takes_56 ?_
        refine z_get (v := .ref (ad 11)) X 2 0 15 hiX2 rfl rfl (by decide) ⟨rfl, rfl, rfl⟩ (by decide +kernel) rfl dX2_takes_57 ?_
        refine z_aload_n X 0 rfl dX2_takes_60 ?_
        refine z_get (v := .int (iZ (v_6.2 5))) X 2 0 17 hiX2 rfl rfl (by decide) ⟨rfl, rfl, rfl⟩ (by decide +kernel) rfl dX2_takes_61 ?_
        refine z_iload_n X 3 rfl dX2_takes_64 ?_
        refine z_iast (g := v_6.1 10) X 11 0 (Mw ad cI cZ (gA (gA (gA v_6 8 (v_6.2 5) x_6) 9 (v_6.2 5) b) 10 (v_6.2 5) (m_lesser (v_6.1 14 b) (v_6.1 14 x_6)))) rfl rfl (by omega) (by omega) ⟨by omega, by omega⟩ rfl dX2_takes_65 ?_
        refine z_aload_n X 0 rfl dX2_takes_66 ?_
        refine z_get (v := .ref (ad 12)) X 2 0 16 hiX2 rfl rfl (by decide) ⟨rfl, rfl, rfl⟩ (by decide +kernel) rfl dX2_takes_67 ?_
        refine z_aload_n X 0 rfl dX2_takes_70 ?_
        refine z_get (v := .int (iZ (v_6.2 5))) X 2 0 17 hiX2 rfl rfl (by decide) ⟨rfl, rfl, rfl⟩ (by decide +kernel) rfl dX2_takes_71 ?_
        refine z_aload_n X 0 rfl dX2_takes_74 ?_
        refine z_get (v := .ref (ad 3)) X 2 0 2 hiX2 rfl rfl (by decide) ⟨rfl, rfl, rfl⟩ (by decide +kernel) rfl dX2_takes_75 ?_
        refine z_iload_n X 2 rfl dX2_takes_78 ?_
        refine z_iald (g := v_6.1 2) X 3 0 rfl rfl (by omega) (by omega) ⟨by omega, by omega⟩ dX2_takes_79 ?_
        have b_9 := hB_6 2 rfl x_6
        have b_10 := hP_6 x_6
        refine z_aload_n X 0 rfl dX2_takes_80 ?_
        refine z_get (v := .ref (ad 3)) X 2 0 2 hiX2 rfl rfl (by decide) ⟨rfl, rfl, rfl⟩ (by decide +kernel) rfl dX2_takes_81 ?_
        refine z_iload_n X 1 rfl dX2_takes_84 ?_
        refine z_iald (g := v_6.1 2) X 3 0 rfl rfl (by omega) (by omega) ⟨by omega, by omega⟩ dX2_takes_85 ?_
        have b_11 := hB_6 2 rfl b
        have b_12 := hP_6 b
        refine z_iadd X dX2_takes_86 ?_
        refine z_iconst X dX2_takes_87 ?_
        refine z_idiv X (by omega) ⟨by omega, by omega⟩ (by decide) ⟨by decide, by decide⟩ dX2_takes_88 ?_
        refine z_iast (g := v_6.1 11) X 12 0 (Mw ad cI cZ (gA (gA (gA (gA v_6 8 (v_6.2 5) x_6) 9 (v_6.2 5) b) 10 (v_6.2 5) (m_lesser (v_6.1 14 b) (v_6.1 14 x_6))) 11 (v_6.2 5) (((v_6.1 2 x_6) + (v_6.1 2 b)) / 2))) rfl rfl (by omega) (by omega) ⟨by omega, by omega⟩ rfl dX2_takes_89 ?_
        refine z_aload_n X 0 rfl dX2_takes_90 ?_
        refine z_dup X rfl dX2_takes_91 ?_
        refine z_get (v := .int (iZ (v_6.2 5))) X 2 0 17 hiX2 rfl rfl (by decide) ⟨rfl, rfl, rfl⟩ (by decide +kernel) rfl dX2_takes_92 ?_
        refine z_iconst X dX2_takes_95 ?_
        refine z_iadd X dX2_takes_96 ?_
        refine z_put (v := .int (iZ ((v_6.2 5) + 1))) (ty := .int) X tyX2 2 0 17 (Mw ad cI cZ (gV (gA (gA (gA (gA v_6 8 (v_6.2 5) x_6) 9 (v_6.2 5) b) 10 (v_6.2 5) (m_lesser (v_6.1 14 b) (v_6.1 14 x_6))) 11 (v_6.2 5) (((v_6.1 2 x_6) + (v_6.1 2 b)) / 2)) 5 ((v_6.2 5) + 1))) tyX2_ok nmX2 hiX2 rfl rfl (by decide) ⟨rfl, rfl, rfl, rfl⟩ (by decide +kernel) rfl rfl rfl (Nat.le_of_ble_eq_true rfl) rfl dX2_takes_97 ?_
        refine z_aload_n X 0 rfl dX2_takes_100 ?_
        refine z_get (v := .ref (ad 15)) X 2 0 20 hiX2 rfl rfl (by decide) ⟨rfl, rfl, rfl⟩ (by decide +kernel) rfl dX2_takes_101 ?_
        refine z_iload_n X 1 rfl dX2_takes_104 ?_
        refine z_dup2 X rfl rfl dX2_takes_105 ?_
        refine z_iald (g := v_6.1 14) X 15 0 rfl rfl (by omega) (by omega) ⟨by omega, by omega⟩ dX2_takes_106 ?_
        refine z_iload_n X 3 rfl dX2_takes_107 ?_
        refine z_isub X dX2_takes_108 ?_
        refine z_iast (g := v_6.1 14) X 15 0 (Mw ad cI cZ (gA (gV (gA (gA (gA (gA v_6 8 (v_6.2 5) x_6) 9 (v_6.2 5) b) 10 (v_6.2 5) (m_lesser (v_6.1 14 b) (v_6.1 14 x_6))) 11 (v_6.2 5) (((v_6.1 2 x_6) + (v_6.1 2 b)) / 2)) 5 ((v_6.2 5) + 1)) 14 b ((v_6.1 14 b) - (m_lesser (v_6.1 14 b) (v_6.1 14 x_6))))) rfl rfl (by omega) (by omega) ⟨by omega, by omega⟩ rfl dX2_takes_109 ?_
        refine z_aload_n X 0 rfl dX2_takes_110 ?_
        refine z_get (v := .ref (ad 15)) X 2 0 20 hiX2 rfl rfl (by decide) ⟨rfl, rfl, rfl⟩ (by decide +kernel) rfl dX2_takes_111 ?_
        refine z_iload_n X 2 rfl dX2_takes_114 ?_
        refine z_dup2 X rfl rfl dX2_takes_115 ?_
        refine z_iald (g := updZ (v_6.1 14) (b) ((v_6.1 14 b) - (m_lesser (v_6.1 14 b) (v_6.1 14 x_6)))) X 15 0 rfl rfl (by omega) (by omega) ⟨by omega, by omega⟩ dX2_takes_116 ?_
        refine z_iload_n X 3 rfl dX2_takes_117 ?_
        refine z_isub X dX2_takes_118 ?_
        refine z_iast (g := updZ (v_6.1 14) (b) ((v_6.1 14 b) - (m_lesser (v_6.1 14 b) (v_6.1 14 x_6)))) X 15 0 (Mw ad cI cZ (gA (gA (gV (gA (gA (gA (gA v_6 8 (v_6.2 5) x_6) 9 (v_6.2 5) b) 10 (v_6.2 5) (m_lesser (v_6.1 14 b) (v_6.1 14 x_6))) 11 (v_6.2 5) (((v_6.1 2 x_6) + (v_6.1 2 b)) / 2)) 5 ((v_6.2 5) + 1)) 14 b ((v_6.1 14 b) - (m_lesser (v_6.1 14 b) (v_6.1 14 x_6)))) 14 x_6 (((updZ (v_6.1 14) (b) ((v_6.1 14 b) - (m_lesser (v_6.1 14 b) (v_6.1 14 x_6)))) x_6) - (m_lesser (v_6.1 14 b) (v_6.1 14 x_6))))) rfl rfl (by omega) (by omega) ⟨by omega, by omega⟩ rfl dX2_takes_119 ?_
        refine z_aload_n X 0 rfl dX2_takes_120 ?_
        refine z_iload_n X 1 rfl dX2_takes_121 ?_
        refine z_calli X (c_X2_sellerFor l D ad cI cZ cL (gA (gA (gV (gA (gA (gA (gA v_6 8 (v_6.2 5) x_6) 9 (v_6.2 5) b) 10 (v_6.2 5) (m_lesser (v_6.1 14 b) (v_6.1 14 x_6))) 11 (v_6.2 5) (((v_6.1 2 x_6) + (v_6.1 2 b)) / 2)) 5 ((v_6.2 5) + 1)) 14 b ((v_6.1 14 b) - (m_lesser (v_6.1 14 b) (v_6.1 14 x_6)))) 14 x_6 (((updZ (v_6.1 14) (b) ((v_6.1 14 b) - (m_lesser (v_6.1 14 b) (v_6.1 14 x_6)))) x_6) - (m_lesser (v_6.1 14 b) (v_6.1 14 x_6)))) b (by omega) ht9.1.bd) (cwV 1 X.2.2.2.2.1 gX2_takes_X2_sellerFor rfl rfl rfl (by decide +kernel) ⟨Nat.le_of_ble_eq_true rfl, Nat.le_of_ble_eq_true rfl⟩) rfl [] [] (List.append_nil _).symm 2 0 rfl rfl [] rfl (Nat.le_of_ble_eq_true rfl) dX2_takes_122 ⟨Nat.le_of_ble_eq_true rfl, Nat.le_of_ble_eq_true rfl⟩ (List.append_nil _) ?_
        have r_13 := m_seller_spec (gA (gA (gV (gA (gA (gA (gA v_6 8 (v_6.2 5) x_6) 9 (v_6.2 5) b) 10 (v_6.2 5) (m_lesser (v_6.1 14 b) (v_6.1 14 x_6))) 11 (v_6.2 5) (((v_6.1 2 x_6) + (v_6.1 2 b)) / 2)) 5 ((v_6.2 5) + 1)) 14 b ((v_6.1 14 b) - (m_lesser (v_6.1 14 b) (v_6.1 14 x_6)))) 14 x_6 (((updZ (v_6.1 14) (b) ((v_6.1 14 b) - (m_lesser (v_6.1 14 b) (v_6.1 14 x_6)))) x_6) - (m_lesser (v_6.1 14 b) (v_6.1 14 x_6)))) b
        refine z_istore_n X [1, 2, 0, 3] [(0, .ref (ad 0)), (1, .int (iZ b)), (2, .int (iZ (m_seller (gA (gA (gV (gA (gA (gA (gA v_6 8 (v_6.2 5) x_6) 9 (v_6.2 5) b) 10 (v_6.2 5) (m_lesser (v_6.1 14 b) (v_6.1 14 x_6))) 11 (v_6.2 5) (((v_6.1 2 x_6) + (v_6.1 2 b)) / 2)) 5 ((v_6.2 5) + 1)) 14 b ((v_6.1 14 b) - (m_lesser (v_6.1 14 b) (v_6.1 14 x_6)))) 14 x_6 (((updZ (v_6.1 14) (b) ((v_6.1 14 b) - (m_lesser (v_6.1 14 b) (v_6.1 14 x_6)))) x_6) - (m_lesser (v_6.1 14 b) (v_6.1 14 x_6)))) b))), (3, .int (iZ (m_lesser (v_6.1 14 b) (v_6.1 14 x_6))))] rfl (Nat.le_of_ble_eq_true rfl) dX2_takes_125 ?_
        refine z_goto (tgt := 6) X (by decide) dX2_takes_126 ?_
        refine z_sub (lv' := [(0, .ref (ad 0)), (1, .int (iZ b)), (2, .int (iZ (m_seller (gA (gA (gV (gA (gA (gA (gA v_6 8 (v_6.2 5) x_6) 9 (v_6.2 5) b) 10 (v_6.2 5) (m_lesser (v_6.1 14 b) (v_6.1 14 x_6))) 11 (v_6.2 5) (((v_6.1 2 x_6) + (v_6.1 2 b)) / 2)) 5 ((v_6.2 5) + 1)) 14 b ((v_6.1 14 b) - (m_lesser (v_6.1 14 b) (v_6.1 14 x_6)))) 14 x_6 (((updZ (v_6.1 14) (b) ((v_6.1 14 b) - (m_lesser (v_6.1 14 b) (v_6.1 14 x_6)))) x_6) - (m_lesser (v_6.1 14 b) (v_6.1 14 x_6)))) b)))]) [0, 1, 2] rfl ?_
        exact ih_6 (m_trade v_6 x_6 b) (m_seller (gA (gA (gV (gA (gA (gA (gA v_6 8 (v_6.2 5) x_6) 9 (v_6.2 5) b) 10 (v_6.2 5) (m_lesser (v_6.1 14 b) (v_6.1 14 x_6))) 11 (v_6.2 5) (((v_6.1 2 x_6) + (v_6.1 2 b)) / 2)) 5 ((v_6.2 5) + 1)) 14 b ((v_6.1 14 b) - (m_lesser (v_6.1 14 b) (v_6.1 14 x_6)))) 14 x_6 (((updZ (v_6.1 14) (b) ((v_6.1 14 b) - (m_lesser (v_6.1 14 b) (v_6.1 14 x_6)))) x_6) - (m_lesser (v_6.1 14 b) (v_6.1 14 x_6)))) b) ⟨ht9.1, rfl, by omega, by unfold m_buyer; rw [m_trade_1 _ _ _ 7 (by decide), m_trade_1 _ _ _ 1 (by decide)]; exact hbu_6⟩ (by subst hx_6; rw [← hF_6]; simp only [m_takesL] <;> repeat' (first | with_reducible rfl | omega | split))
