theorem m_belongs_in {w : GS} {h : Int} (q : ¬ m_belongs w h = 0) : 0 ≤ h ∧ h ≤ 5 := by have := m_belongs_sp w h; omega
theorem m_in01 (v a b : Int) : m_in v a b = 0 ∨ m_in v a b = 1 := by have := m_in_sp v a b; omega
theorem m_belongs01 (w : GS) (h : Int) : m_belongs w h = 0 ∨ m_belongs w h = 1 := by have := m_belongs_sp w h; omega
set_option maxHeartbeats 4000000 in
set_option maxRecDepth 100000 in
theorem c_X2_rent (l : Launch) (D : va_G) (ad : Nat → Nat) (cI cZ cL : ClassId) (w : GS) (h o x : Int) (hz : zB h) (hzo : zB o) (hz2 : zB x) (hB : Bdm w) (hx : 1 ≤ x ∧ x ≤ 100) : zMi l D (zT cI cZ cL) yX2_rent wsX2_rent ({ frames := 3, cells := 0, slots := 0, locals := 63 } : Room) (Mw ad cI cZ w) [.ref (ad 0), .int (iZ h), .int (iZ o), .int (iZ x)] (if m_rentC w h o x = 0 then (m_rentW w h o x).1 4 o else 0) (Mw ad cI cZ (m_when w (m_rentC w h o x) (m_rentW (gV w 6 0) h o x))) 0 0 := by
  refine z_mi (cc := cX2_rent) (maxL := 6) (ret := (some .int)) (by decide) rfl (Nat.le_of_ble_eq_true rfl) ?_
  intro p e s m below meth c A X hr hlk hin
  have hiX2 : ∀ w ∈ wsX20, w ∈ wsX2_rent := by decide +kernel
  refine z_sub (lv' := [(0, .ref (ad 0)), (1, .int (iZ h)), (2, .int (iZ o)), (3, .int (iZ x))]) [0, 1, 2, 3] rfl ?_
  refine z_iload_n X 1 rfl dX2_rent_0 ?_
  refine z_callis X (c_X2_isHouse l D ad cI cZ cL h ⟨by omega, by omega⟩) (va_cwS 1 X.2.2.2.2.1 gX2_rent_X2_isHouse rfl rfl rfl (by decide +kernel) ⟨Nat.le_of_ble_eq_true rfl, Nat.le_of_ble_eq_true rfl⟩) rfl [] (Mw ad cI cZ w) rfl [] rfl (Nat.le_of_ble_eq_true rfl) dX2_rent_1 ⟨Nat.le_of_ble_eq_true rfl, Nat.le_of_ble_eq_true rfl⟩ rfl ?_
  have r_1 := m_in01 h 0 5
  refine z_if_eq (tgt := 18) X ⟨by omega, by omega⟩ (by decide) dX2_rent_4 (fun c_2 => ?_) (fun c_2 => ?_)
  · skip
    refine z_iconst X dX2_rent_18 ?_
    refine z_istore X [1, 2, 3, 4, 0] [(0, .ref (ad 0)), (1, .int (iZ h)), (2, .int (iZ o)), (3, .int (iZ x)), (4, .int (iZ 0))] rfl (Nat.le_of_ble_eq_true rfl) dX2_rent_19 ?_
    refine z_aload_n X 0 rfl dX2_rent_21 ?_
    refine z_iload_n X 1 rfl dX2_rent_22 ?_
    refine z_calli X (c_X2_belongs l D ad cI cZ cL w h ⟨by omega, by omega⟩ hB) (cwV 1 X.2.2.2.2.1 gX2_rent_X2_belongs rfl rfl rfl (by decide +kernel) ⟨Nat.le_of_ble_eq_true rfl, Nat.le_of_ble_eq_true rfl⟩) rfl [] [] (List.append_nil _).symm 2 0 rfl rfl [] rfl (Nat.le_of_ble_eq_true rfl) dX2_rent_23 ⟨Nat.le_of_ble_eq_true rfl, Nat.le_of_ble_eq_true rfl⟩ (List.append_nil _) ?_
    have r_3 := m_belongs01 w h
    refine z_if_eq (tgt := 58) X ⟨by omega, by omega⟩ (by decide) dX2_rent_26 (fun c_4 => ?_) (fun c_4 => ?_)
    · skip
      refine z_iconst X dX2_rent_58 ?_
      refine z_istore X [1, 2, 3, 4, 5, 0] [(0, .ref (ad 0)), (1, .int (iZ h)), (2, .int (iZ o)), (3, .int (iZ x)), (4, .int (iZ 0)), (5, .int (iZ 0))] rfl (Nat.le_of_ble_eq_true rfl) dX2_rent_59 ?_
      refine z_aload_n X 0 rfl dX2_rent_61 ?_
      refine z_iload X 4 rfl dX2_rent_62 ?_
      refine z_iload_n X 1 rfl dX2_rent_64 ?_
      refine z_iload_n X 2 rfl dX2_rent_65 ?_
      refine z_icmp_eq (tgt := 83) X ⟨by omega, by omega⟩ ⟨by omega, by omega⟩ (by decide) dX2_rent_66 (fun c_5 => ?_) (fun c_5 => ?_)
      · skip
        refine z_iconst X dX2_rent_83 ?_
        refine z_iload X 4 rfl dX2_rent_84 ?_
        refine z_if_eq (tgt := 98) X ⟨by omega, by omega⟩ (by decide) dX2_rent_86 (fun c_6 => ?_) (fun c_6 => ?_)
        · skip
          refine z_iconst X dX2_rent_98 ?_
          refine z_calli X (c_X2_goesK l D ad cI cZ cL w 0 0 0 1 0 (by omega) (by omega) (by omega) (by decide) (by decide)) (cwV 3 X.2.2.2.2.1 gX2_rent_X2_goes rfl rfl rfl (by decide +kernel) ⟨Nat.le_of_ble_eq_true rfl, Nat.le_of_ble_eq_true rfl⟩) rfl [] [] (List.append_nil _).symm 2 0 rfl rfl [] rfl (Nat.le_of_ble_eq_true rfl) dX2_rent_99 ⟨Nat.le_of_ble_eq_true rfl, Nat.le_of_ble_eq_true rfl⟩ (List.append_nil _) ?_
          refine z_if_ne (tgt := 107) X ⟨by omega, by omega⟩ (by decide) dX2_rent_102 (fun c_7 => ?_) (fun c_7 => ?_)
          · exact absurd c_7 (by omega)
          · skip
            refine z_iconst X dX2_rent_105 ?_
            exact z_iret X hr hlk (by have e9 : m_rentC w h o x = 1 := (if_pos (by omega)); rw [if_neg (by omega)]) (congrArg (Mw ad cI cZ) (by have e9 : m_rentC w h o x = 1 := (if_pos (by omega)); unfold m_when; rw [if_neg (by omega), e9])) dX2_rent_106
        · exact absurd c_6 (by omega)
      · skip
        refine z_iload_n X 3 rfl dX2_rent_69 ?_
        refine z_iconst X dX2_rent_70 ?_
        refine z_bipush X (by decide) dX2_rent_71 ?_
        refine z_callis X (c_X2_in l D ad cI cZ cL x 1 100 ⟨by omega, by omega⟩ ⟨by omega, by omega⟩ ⟨by omega, by omega⟩) (va_cwS 3 X.2.2.2.2.1 gX2_rent_X2_in rfl rfl rfl (by decide +kernel) ⟨Nat.le_of_ble_eq_true rfl, Nat.le_of_ble_eq_true rfl⟩) rfl [] (Mw ad cI cZ w) rfl [.int (iZ 0), .ref (ad 0)] rfl (Nat.le_of_ble_eq_true rfl) dX2_rent_73 ⟨Nat.le_of_ble_eq_true rfl, Nat.le_of_ble_eq_true rfl⟩ rfl ?_
        have r_8 := m_in01 x 1 100
        refine z_if_eq (tgt := 83) X ⟨by omega, by omega⟩ (by decide) dX2_rent_76 (fun c_9 => ?_) (fun c_9 => ?_)
        · skip
          refine z_iconst X dX2_rent_83 ?_
          refine z_iload X 4 rfl dX2_rent_84 ?_
          refine z_if_eq (tgt := 98) X ⟨by omega, by omega⟩ (by decide) dX2_rent_86 (fun c_10 => ?_) (fun c_10 => ?_)
          · skip
            refine z_iconst X dX2_rent_98 ?_
            refine z_calli X (c_X2_goesK l D ad cI cZ cL w 0 0 0 1 0 (by omega) (by omega) (by omega) (by decide) (by decide)) (cwV 3 X.2.2.2.2.1 gX2_rent_X2_goes rfl rfl rfl (by decide +kernel) ⟨Nat.le_of_ble_eq_true rfl, Nat.le_of_ble_eq_true rfl⟩) rfl [] [] (List.append_nil _).symm 2 0 rfl rfl [] rfl (Nat.le_of_ble_eq_true rfl) dX2_rent_99 ⟨Nat.le_of_ble_eq_true rfl, Nat.le_of_ble_eq_true rfl⟩ (List.append_nil _) ?_
            refine z_if_ne (tgt := 107) X ⟨by omega, by omega⟩ (by decide) dX2_rent_102 (fun c_11 => ?_) (fun c_11 => ?_)
            · exact absurd c_11 (by omega)
            · skip
              refine z_iconst X dX2_rent_105 ?_
              exact z_iret X hr hlk (by have e9 : m_rentC w h o x = 1 := (if_pos (by omega)); rw [if_neg (by omega)]) (congrArg (Mw ad cI cZ) (by have e9 : m_rentC w h o x = 1 := (if_pos (by omega)); unfold m_when; rw [if_neg (by omega), e9])) dX2_rent_106
          · exact absurd c_10 (by omega)
        · skip
          refine z_iconst X dX2_rent_79 ?_
          refine z_goto (tgt := 84) X (by decide) dX2_rent_80 ?_
          refine z_iload X 4 rfl dX2_rent_84 ?_
          refine z_if_eq (tgt := 98) X ⟨by omega, by omega⟩ (by decide) dX2_rent_86 (fun c_12 => ?_) (fun c_12 => ?_)
          · skip
            refine z_iconst X dX2_rent_98 ?_
            refine z_calli X (c_X2_goesK l D ad cI cZ cL w 0 1 0 1 0 (by omega) (by omega) (by omega) (by decide) (by decide)) (cwV 3 X.2.2.2.2.1 gX2_rent_X2_goes rfl rfl rfl (by decide +kernel) ⟨Nat.le_of_ble_eq_true rfl, Nat.le_of_ble_eq_true rfl⟩) rfl [] [] (List.append_nil _).symm 2 0 rfl rfl [] rfl (Nat.le_of_ble_eq_true rfl) dX2_rent_99 ⟨Nat.le_of_ble_eq_true rfl, Nat.le_of_ble_eq_true rfl⟩ (List.append_nil _) ?_
            refine z_if_ne (tgt := 107) X ⟨by omega, by omega⟩ (by decide) dX2_rent_102 (fun c_13 => ?_) (fun c_13 => ?_)
            · exact absurd c_13 (by omega)
            · skip
              refine z_iconst X dX2_rent_105 ?_
              exact z_iret X hr hlk (by have e9 : m_rentC w h o x = 1 := (if_pos (by omega)); rw [if_neg (by omega)]) (congrArg (Mw ad cI cZ) (by have e9 : m_rentC w h o x = 1 := (if_pos (by omega)); unfold m_when; rw [if_neg (by omega), e9])) dX2_rent_106
          · exact absurd c_12 (by omega)
    · skip
      refine z_aload_n X 0 rfl dX2_rent_29 ?_
      refine z_iload_n X 2 rfl dX2_rent_30 ?_
      refine z_calli X (c_X2_belongs l D ad cI cZ cL w o ⟨by omega, by omega⟩ hB) (cwV 1 X.2.2.2.2.1 gX2_rent_X2_belongs rfl rfl rfl (by decide +kernel) ⟨Nat.le_of_ble_eq_true rfl, Nat.le_of_ble_eq_true rfl⟩) rfl [] [] (List.append_nil _).symm 2 0 rfl rfl [] rfl (Nat.le_of_ble_eq_true rfl) dX2_rent_31 ⟨Nat.le_of_ble_eq_true rfl, Nat.le_of_ble_eq_true rfl⟩ (List.append_nil _) ?_
      have r_14 := m_belongs01 w o
      refine z_if_eq (tgt := 58) X ⟨by omega, by omega⟩ (by decide) dX2_rent_34 (fun c_15 => ?_) (fun c_15 => ?_)
      · skip
        refine z_iconst X dX2_rent_58 ?_
        refine z_istore X [1, 2, 3, 4, 5, 0] [(0, .ref (ad 0)), (1, .int (iZ h)), (2, .int (iZ o)), (3, .int (iZ x)), (4, .int (iZ 0)), (5, .int (iZ 0))] rfl (Nat.le_of_ble_eq_true rfl) dX2_rent_59 ?_
        refine z_aload_n X 0 rfl dX2_rent_61 ?_
        refine z_iload X 4 rfl dX2_rent_62 ?_
        refine z_iload_n X 1 rfl dX2_rent_64 ?_
        refine z_iload_n X 2 rfl dX2_rent_65 ?_
        refine z_icmp_eq (tgt := 83) X ⟨by omega, by omega⟩ ⟨by omega, by omega⟩ (by decide) dX2_rent_66 (fun c_16 => ?_) (fun c_16 => ?_)
        · skip
          refine z_iconst X dX2_rent_83 ?_
          refine z_iload X 4 rfl dX2_rent_84 ?_
          refine z_if_eq (tgt := 98) X ⟨by omega, by omega⟩ (by decide) dX2_rent_86 (fun c_17 => ?_) (fun c_17 => ?_)
          · skip
            refine z_iconst X dX2_rent_98 ?_
            refine z_calli X (c_X2_goesK l D ad cI cZ cL w 0 0 0 1 0 (by omega) (by omega) (by omega) (by decide) (by decide)) (cwV 3 X.2.2.2.2.1 gX2_rent_X2_goes rfl rfl rfl (by decide +kernel) ⟨Nat.le_of_ble_eq_true rfl, Nat.le_of_ble_eq_true rfl⟩) rfl [] [] (List.append_nil _).symm 2 0 rfl rfl [] rfl (Nat.le_of_ble_eq_true rfl) dX2_rent_99 ⟨Nat.le_of_ble_eq_true rfl, Nat.le_of_ble_eq_true rfl⟩ (List.append_nil _) ?_
            refine z_if_ne (tgt := 107) X ⟨by omega, by omega⟩ (by decide) dX2_rent_102 (fun c_18 => ?_) (fun c_18 => ?_)
            · exact absurd c_18 (by omega)
            · skip
              refine z_iconst X dX2_rent_105 ?_
              exact z_iret X hr hlk (by have e9 : m_rentC w h o x = 1 := (if_pos (by omega)); rw [if_neg (by omega)]) (congrArg (Mw ad cI cZ) (by have e9 : m_rentC w h o x = 1 := (if_pos (by omega)); unfold m_when; rw [if_neg (by omega), e9])) dX2_rent_106
          · exact absurd c_17 (by omega)
        · skip
          refine z_iload_n X 3 rfl dX2_rent_69 ?_
          refine z_iconst X dX2_rent_70 ?_
          refine z_bipush X (by decide) dX2_rent_71 ?_
          refine z_callis X (c_X2_in l D ad cI cZ cL x 1 100 ⟨by omega, by omega⟩ ⟨by omega, by omega⟩ ⟨by omega, by omega⟩) (va_cwS 3 X.2.2.2.2.1 gX2_rent_X2_in rfl rfl rfl (by decide +kernel) ⟨Nat.le_of_ble_eq_true rfl, Nat.le_of_ble_eq_true rfl⟩) rfl [] (Mw ad cI cZ w) rfl [.int (iZ 0), .ref (ad 0)] rfl (Nat.le_of_ble_eq_true rfl) dX2_rent_73 ⟨Nat.le_of_ble_eq_true rfl, Nat.le_of_ble_eq_true rfl⟩ rfl ?_
          have r_19 := m_in01 x 1 100
          refine z_if_eq (tgt := 83) X ⟨by omega, by omega⟩ (by decide) dX2_rent_76 (fun c_20 => ?_) (fun c_20 => ?_)
          · skip
            refine z_iconst X dX2_rent_83 ?_
            refine z_iload X 4 rfl dX2_rent_84 ?_
            refine z_if_eq (tgt := 98) X ⟨by omega, by omega⟩ (by decide) dX2_rent_86 (fun c_21 => ?_) (fun c_21 => ?_)
            · skip
              refine z_iconst X dX2_rent_98 ?_
              refine z_calli X (c_X2_goesK l D ad cI cZ cL w 0 0 0 1 0 (by omega) (by omega) (by omega) (by decide) (by decide)) (cwV 3 X.2.2.2.2.1 gX2_rent_X2_goes rfl rfl rfl (by decide +kernel) ⟨Nat.le_of_ble_eq_true rfl, Nat.le_of_ble_eq_true rfl⟩) rfl [] [] (List.append_nil _).symm 2 0 rfl rfl [] rfl (Nat.le_of_ble_eq_true rfl) dX2_rent_99 ⟨Nat.le_of_ble_eq_true rfl, Nat.le_of_ble_eq_true rfl⟩ (List.append_nil _) ?_
              refine z_if_ne (tgt := 107) X ⟨by omega, by omega⟩ (by decide) dX2_rent_102 (fun c_22 => ?_) (fun c_22 => ?_)
              · exact absurd c_22 (by omega)
              · skip
                refine z_iconst X dX2_rent_105 ?_
                exact z_iret X hr hlk (by have e9 : m_rentC w h o x = 1 := (if_pos (by omega)); rw [if_neg (by omega)]) (congrArg (Mw ad cI cZ) (by have e9 : m_rentC w h o x = 1 := (if_pos (by omega)); unfold m_when; rw [if_neg (by omega), e9])) dX2_rent_106
            · exact absurd c_21 (by omega)
          · skip
            refine z_iconst X dX2_rent_79 ?_
            refine z_goto (tgt := 84) X (by decide) dX2_rent_80 ?_
            refine z_iload X 4 rfl dX2_rent_84 ?_
            refine z_if_eq (tgt := 98) X ⟨by omega, by omega⟩ (by decide) dX2_rent_86 (fun c_23 => ?_) (fun c_23 => ?_)
            · skip
              refine z_iconst X dX2_rent_98 ?_
              refine z_calli X (c_X2_goesK l D ad cI cZ cL w 0 1 0 1 0 (by omega) (by omega) (by omega) (by decide) (by decide)) (cwV 3 X.2.2.2.2.1 gX2_rent_X2_goes rfl rfl rfl (by decide +kernel) ⟨Nat.le_of_ble_eq_true rfl, Nat.le_of_ble_eq_true rfl⟩) rfl [] [] (List.append_nil _).symm 2 0 rfl rfl [] rfl (Nat.le_of_ble_eq_true rfl) dX2_rent_99 ⟨Nat.le_of_ble_eq_true rfl, Nat.le_of_ble_eq_true rfl⟩ (List.append_nil _) ?_
              refine z_if_ne (tgt := 107) X ⟨by omega, by omega⟩ (by decide) dX2_rent_102 (fun c_24 => ?_) (fun c_24 => ?_)
              · exact absurd c_24 (by omega)
              · skip
                refine z_iconst X dX2_rent_105 ?_
                exact z_iret X hr hlk (by have e9 : m_rentC w h o x = 1 := (if_pos (by omega)); rw [if_neg (by omega)]) (congrArg (Mw ad cI cZ) (by have e9 : m_rentC w h o x = 1 := (if_pos (by omega)); unfold m_when; rw [if_neg (by omega), e9])) dX2_rent_106
            · exact absurd c_23 (by omega)
      · skip
        have hh9 := m_belongs_in (w := w) (h := h) (by assumption)
        have ho9 := m_belongs_in (w := w) (h := o) (by assumption)
        refine z_aload_n X 0 rfl dX2_rent_37 ?_
        refine z_get (v := .ref (ad 5)) X 2 0 4 hiX2 rfl rfl (by decide) ⟨rfl, rfl, rfl⟩ (by decide +kernel) rfl dX2_rent_38 ?_
        refine z_iload_n X 1 rfl dX2_rent_41 ?_
        refine z_iald (g := w.1 4) X 5 0 rfl rfl (by omega) (by omega) ⟨by omega, by omega⟩ dX2_rent_42 ?_
        have b_25 := hB 4 rfl h
        refine z_iload_n X 3 rfl dX2_rent_43 ?_
        refine z_isub X dX2_rent_44 ?_
        refine z_aload_n X 0 rfl dX2_rent_45 ?_
        refine z_get (v := .ref (ad 6)) X 2 0 5 hiX2 rfl rfl (by decide) ⟨rfl, rfl, rfl⟩ (by decide +kernel) rfl dX2_rent_46 ?_
        refine z_iload_n X 1 rfl dX2_rent_49 ?_
        refine z_iald (g := w.1 5) X 6 0 rfl rfl (by omega) (by omega) ⟨by omega, by omega⟩ dX2_rent_50 ?_
        have b_26 := hB 5 rfl h
        refine z_icmp_lt (tgt := 58) X ⟨by omega, by omega⟩ ⟨by omega, by omega⟩ (by decide) dX2_rent_51 (fun c_27 => ?_) (fun c_27 => ?_)
        · skip
          refine z_iconst X dX2_rent_58 ?_
          refine z_istore X [1, 2, 3, 4, 5, 0] [(0, .ref (ad 0)), (1, .int (iZ h)), (2, .int (iZ o)), (3, .int (iZ x)), (4, .int (iZ 0)), (5, .int (iZ 0))] rfl (Nat.le_of_ble_eq_true rfl) dX2_rent_59 ?_
          refine z_aload_n X 0 rfl dX2_rent_61 ?_
          refine z_iload X 4 rfl dX2_rent_62 ?_
          refine z_iload_n X 1 rfl dX2_rent_64 ?_
          refine z_iload_n X 2 rfl dX2_rent_65 ?_
          refine z_icmp_eq (tgt := 83) X ⟨by omega, by omega⟩ ⟨by omega, by omega⟩ (by decide) dX2_rent_66 (fun c_28 => ?_) (fun c_28 => ?_)
          · skip
            refine z_iconst X dX2_rent_83 ?_
            refine z_iload X 4 rfl dX2_rent_84 ?_
            refine z_if_eq (tgt := 98) X ⟨by omega, by omega⟩ (by decide) dX2_rent_86 (fun c_29 => ?_) (fun c_29 => ?_)
            · skip
              refine z_iconst X dX2_rent_98 ?_
              refine z_calli X (c_X2_goesK l D ad cI cZ cL w 0 0 0 1 0 (by omega) (by omega) (by omega) (by decide) (by decide)) (cwV 3 X.2.2.2.2.1 gX2_rent_X2_goes rfl rfl rfl (by decide +kernel) ⟨Nat.le_of_ble_eq_true rfl, Nat.le_of_ble_eq_true rfl⟩) rfl [] [] (List.append_nil _).symm 2 0 rfl rfl [] rfl (Nat.le_of_ble_eq_true rfl) dX2_rent_99 ⟨Nat.le_of_ble_eq_true rfl, Nat.le_of_ble_eq_true rfl⟩ (List.append_nil _) ?_
              refine z_if_ne (tgt := 107) X ⟨by omega, by omega⟩ (by decide) dX2_rent_102 (fun c_30 => ?_) (fun c_30 => ?_)
              · exact absurd c_30 (by omega)
              · skip
                refine z_iconst X dX2_rent_105 ?_
                exact z_iret X hr hlk (by have e9 : m_rentC w h o x = 1 := (if_pos (by omega)); rw [if_neg (by omega)]) (congrArg (Mw ad cI cZ) (by have e9 : m_rentC w h o x = 1 := (if_pos (by omega)); unfold m_when; rw [if_neg (by omega), e9])) dX2_rent_106
            · exact absurd c_29 (by omega)
          · skip
            refine z_iload_n X 3 rfl dX2_rent_69 ?_
            refine z_iconst X dX2_rent_70 ?_
            refine z_bipush X (by decide) dX2_rent_71 ?_
            refine z_callis X (c_X2_in l D ad cI cZ cL x 1 100 ⟨by omega, by omega⟩ ⟨by omega, by omega⟩ ⟨by omega, by omega⟩) (va_cwS 3 X.2.2.2.2.1 gX2_rent_X2_in rfl rfl rfl (by decide +kernel) ⟨Nat.le_of_ble_eq_true rfl, Nat.le_of_ble_eq_true rfl⟩) rfl [] (Mw ad cI cZ w) rfl [.int (iZ 0), .ref (ad 0)] rfl (Nat.le_of_ble_eq_true rfl) dX2_rent_73 ⟨Nat.le_of_ble_eq_true rfl, Nat.le_of_ble_eq_true rfl⟩ rfl ?_
            have r_31 := m_in01 x 1 100
            refine z_if_eq (tgt := 83) X ⟨by omega, by omega⟩ (by decide) dX2_rent_76 (fun c_32 => ?_) (fun c_32 => ?_)
            · skip
              refine z_iconst X dX2_rent_83 ?_
              refine z_iload X 4 rfl dX2_rent_84 ?_
              refine z_if_eq (tgt := 98) X ⟨by omega, by omega⟩ (by decide) dX2_rent_86 (fun c_33 => ?_) (fun c_33 => ?_)
              · skip
                refine z_iconst X dX2_rent_98 ?_
                refine z_calli X (c_X2_goesK l D ad cI cZ cL w 0 0 0 1 0 (by omega) (by omega) (by omega) (by decide) (by decide)) (cwV 3 X.2.2.2.2.1 gX2_rent_X2_goes rfl rfl rfl (by decide +kernel) ⟨Nat.le_of_ble_eq_true rfl, Nat.le_of_ble_eq_true rfl⟩) rfl [] [] (List.append_nil _).symm 2 0 rfl rfl [] rfl (Nat.le_of_ble_eq_true rfl) dX2_rent_99 ⟨Nat.le_of_ble_eq_true rfl, Nat.le_of_ble_eq_true rfl⟩ (List.append_nil _) ?_
                refine z_if_ne (tgt := 107) X ⟨by omega, by omega⟩ (by decide) dX2_rent_102 (fun c_34 => ?_) (fun c_34 => ?_)
                · exact absurd c_34 (by omega)
                · skip
                  refine z_iconst X dX2_rent_105 ?_
                  exact z_iret X hr hlk (by have e9 : m_rentC w h o x = 1 := (if_pos (by omega)); rw [if_neg (by omega)]) (congrArg (Mw ad cI cZ) (by have e9 : m_rentC w h o x = 1 := (if_pos (by omega)); unfold m_when; rw [if_neg (by omega), e9])) dX2_rent_106
              · exact absurd c_33 (by omega)
            · skip
              refine z_iconst X dX2_rent_79 ?_
              refine z_goto (tgt := 84) X (by decide) dX2_rent_80 ?_
              refine z_iload X 4 rfl dX2_rent_84 ?_
              refine z_if_eq (tgt := 98) X ⟨by omega, by omega⟩ (by decide) dX2_rent_86 (fun c_35 => ?_) (fun c_35 => ?_)
              · skip
                refine z_iconst X dX2_rent_98 ?_
                refine z_calli X (c_X2_goesK l D ad cI cZ cL w 0 1 0 1 0 (by omega) (by omega) (by omega) (by decide) (by decide)) (cwV 3 X.2.2.2.2.1 gX2_rent_X2_goes rfl rfl rfl (by decide +kernel) ⟨Nat.le_of_ble_eq_true rfl, Nat.le_of_ble_eq_true rfl⟩) rfl [] [] (List.append_nil _).symm 2 0 rfl rfl [] rfl (Nat.le_of_ble_eq_true rfl) dX2_rent_99 ⟨Nat.le_of_ble_eq_true rfl, Nat.le_of_ble_eq_true rfl⟩ (List.append_nil _) ?_
                refine z_if_ne (tgt := 107) X ⟨by omega, by omega⟩ (by decide) dX2_rent_102 (fun c_36 => ?_) (fun c_36 => ?_)
                · exact absurd c_36 (by omega)
                · skip
                  refine z_iconst X dX2_rent_105 ?_
                  exact z_iret X hr hlk (by have e9 : m_rentC w h o x = 1 := (if_pos (by omega)); rw [if_neg (by omega)]) (congrArg (Mw ad cI cZ) (by have e9 : m_rentC w h o x = 1 := (if_pos (by omega)); unfold m_when; rw [if_neg (by omega), e9])) dX2_rent_106
              · exact absurd c_35 (by omega)
        · skip
          refine z_iconst X dX2_rent_54 ?_
          refine z_goto (tgt := 59) X (by decide) dX2_rent_55 ?_
          refine z_istore X [1, 2, 3, 4, 5, 0] [(0, .ref (ad 0)), (1, .int (iZ h)), (2, .int (iZ o)), (3, .int (iZ x)), (4, .int (iZ 0)), (5, .int (iZ 1))] rfl (Nat.le_of_ble_eq_true rfl) dX2_rent_59 ?_
          refine z_aload_n X 0 rfl dX2_rent_61 ?_
          refine z_iload X 4 rfl dX2_rent_62 ?_
          refine z_iload_n X 1 rfl dX2_rent_64 ?_
          refine z_iload_n X 2 rfl dX2_rent_65 ?_
          refine z_icmp_eq (tgt := 83) X ⟨by omega, by omega⟩ ⟨by omega, by omega⟩ (by decide) dX2_rent_66 (fun c_37 => ?_) (fun c_37 => ?_)
          · skip
            refine z_iconst X dX2_rent_83 ?_
            refine z_iload X 4 rfl dX2_rent_84 ?_
            refine z_if_eq (tgt := 98) X ⟨by omega, by omega⟩ (by decide) dX2_rent_86 (fun c_38 => ?_) (fun c_38 => ?_)
            · skip
              refine z_iconst X dX2_rent_98 ?_
              refine z_calli X (c_X2_goesK l D ad cI cZ cL w 0 0 0 1 0 (by omega) (by omega) (by omega) (by decide) (by decide)) (cwV 3 X.2.2.2.2.1 gX2_rent_X2_goes rfl rfl rfl (by decide +kernel) ⟨Nat.le_of_ble_eq_true rfl, Nat.le_of_ble_eq_true rfl⟩) rfl [] [] (List.append_nil _).symm 2 0 rfl rfl [] rfl (Nat.le_of_ble_eq_true rfl) dX2_rent_99 ⟨Nat.le_of_ble_eq_true rfl, Nat.le_of_ble_eq_true rfl⟩ (List.append_nil _) ?_
              refine z_if_ne (tgt := 107) X ⟨by omega, by omega⟩ (by decide) dX2_rent_102 (fun c_39 => ?_) (fun c_39 => ?_)
              · exact absurd c_39 (by omega)
              · skip
                refine z_iconst X dX2_rent_105 ?_
                exact z_iret X hr hlk (by have e9 : m_rentC w h o x = 1 := (if_pos (by omega)); rw [if_neg (by omega)]) (congrArg (Mw ad cI cZ) (by have e9 : m_rentC w h o x = 1 := (if_pos (by omega)); unfold m_when; rw [if_neg (by omega), e9])) dX2_rent_106
            · exact absurd c_38 (by omega)
          · skip
            refine z_iload_n X 3 rfl dX2_rent_69 ?_
            refine z_iconst X dX2_rent_70 ?_
            refine z_bipush X (by decide) dX2_rent_71 ?_
            refine z_callis X (c_X2_in l D ad cI cZ cL x 1 100 ⟨by omega, by omega⟩ ⟨by omega, by omega⟩ ⟨by omega, by omega⟩) (va_cwS 3 X.2.2.2.2.1 gX2_rent_X2_in rfl rfl rfl (by decide +kernel) ⟨Nat.le_of_ble_eq_true rfl, Nat.le_of_ble_eq_true rfl⟩) rfl [] (Mw ad cI cZ w) rfl [.int (iZ 0), .ref (ad 0)] rfl (Nat.le_of_ble_eq_true rfl) dX2_rent_73 ⟨Nat.le_of_ble_eq_true rfl, Nat.le_of_ble_eq_true rfl⟩ rfl ?_
            have r_40 := m_in01 x 1 100
            refine z_if_eq (tgt := 83) X ⟨by omega, by omega⟩ (by decide) dX2_rent_76 (fun c_41 => ?_) (fun c_41 => ?_)
            · skip
              refine z_iconst X dX2_rent_83 ?_
              refine z_iload X 4 rfl dX2_rent_84 ?_
              refine z_if_eq (tgt := 98) X ⟨by omega, by omega⟩ (by decide) dX2_rent_86 (fun c_42 => ?_) (fun c_42 => ?_)
              · skip
                refine z_iconst X dX2_rent_98 ?_
                refine z_calli X (c_X2_goesK l D ad cI cZ cL w 0 0 0 1 0 (by omega) (by omega) (by omega) (by decide) (by decide)) (cwV 3 X.2.2.2.2.1 gX2_rent_X2_goes rfl rfl rfl (by decide +kernel) ⟨Nat.le_of_ble_eq_true rfl, Nat.le_of_ble_eq_true rfl⟩) rfl [] [] (List.append_nil _).symm 2 0 rfl rfl [] rfl (Nat.le_of_ble_eq_true rfl) dX2_rent_99 ⟨Nat.le_of_ble_eq_true rfl, Nat.le_of_ble_eq_true rfl⟩ (List.append_nil _) ?_
                refine z_if_ne (tgt := 107) X ⟨by omega, by omega⟩ (by decide) dX2_rent_102 (fun c_43 => ?_) (fun c_43 => ?_)
                · exact absurd c_43 (by omega)
                · skip
                  refine z_iconst X dX2_rent_105 ?_
                  exact z_iret X hr hlk (by have e9 : m_rentC w h o x = 1 := (if_pos (by omega)); rw [if_neg (by omega)]) (congrArg (Mw ad cI cZ) (by have e9 : m_rentC w h o x = 1 := (if_pos (by omega)); unfold m_when; rw [if_neg (by omega), e9])) dX2_rent_106
              · exact absurd c_42 (by omega)
            · skip
              refine z_iconst X dX2_rent_79 ?_
              refine z_goto (tgt := 84) X (by decide) dX2_rent_80 ?_
              refine z_iload X 4 rfl dX2_rent_84 ?_
              refine z_if_eq (tgt := 98) X ⟨by omega, by omega⟩ (by decide) dX2_rent_86 (fun c_44 => ?_) (fun c_44 => ?_)
              · skip
                refine z_iconst X dX2_rent_98 ?_
                refine z_calli X (c_X2_goesK l D ad cI cZ cL w 0 1 0 1 0 (by omega) (by omega) (by omega) (by decide) (by decide)) (cwV 3 X.2.2.2.2.1 gX2_rent_X2_goes rfl rfl rfl (by decide +kernel) ⟨Nat.le_of_ble_eq_true rfl, Nat.le_of_ble_eq_true rfl⟩) rfl [] [] (List.append_nil _).symm 2 0 rfl rfl [] rfl (Nat.le_of_ble_eq_true rfl) dX2_rent_99 ⟨Nat.le_of_ble_eq_true rfl, Nat.le_of_ble_eq_true rfl⟩ (List.append_nil _) ?_
                refine z_if_ne (tgt := 107) X ⟨by omega, by omega⟩ (by decide) dX2_rent_102 (fun c_45 => ?_) (fun c_45 => ?_)
                · exact absurd c_45 (by omega)
                · skip
                  refine z_iconst X dX2_rent_105 ?_
                  exact z_iret X hr hlk (by have e9 : m_rentC w h o x = 1 := (if_pos (by omega)); rw [if_neg (by omega)]) (congrArg (Mw ad cI cZ) (by have e9 : m_rentC w h o x = 1 := (if_pos (by omega)); unfold m_when; rw [if_neg (by omega), e9])) dX2_rent_106
              · exact absurd c_44 (by omega)
  · skip
    refine z_iload_n X 2 rfl dX2_rent_7 ?_
    refine z_callis X (c_X2_isHouse l D ad cI cZ cL o ⟨by omega, by omega⟩) (va_cwS 1 X.2.2.2.2.1 gX2_rent_X2_isHouse rfl rfl rfl (by decide +kernel) ⟨Nat.le_of_ble_eq_true rfl, Nat.le_of_ble_eq_true rfl⟩) rfl [] (Mw ad cI cZ w) rfl [] rfl (Nat.le_of_ble_eq_true rfl) dX2_rent_8 ⟨Nat.le_of_ble_eq_true rfl, Nat.le_of_ble_eq_true rfl⟩ rfl ?_
    have r_46 := m_in01 o 0 5
    refine z_if_eq (tgt := 18) X ⟨by omega, by omega⟩ (by decide) dX2_rent_11 (fun c_47 => ?_) (fun c_47 => ?_)
    · skip
      refine z_iconst X dX2_rent_18 ?_
      refine z_istore X [1, 2, 3, 4, 0] [(0, .ref (ad 0)), (1, .int (iZ h)), (2, .int (iZ o)), (3, .int (iZ x)), (4, .int (iZ 0))] rfl (Nat.le_of_ble_eq_true rfl) dX2_rent_19 ?_
      refine z_aload_n X 0 rfl dX2_rent_21 ?_
      refine z_iload_n X 1 rfl dX2_rent_22 ?_
      refine z_calli X (c_X2_belongs l D ad cI cZ cL w h ⟨by omega, by omega⟩ hB) (cwV 1 X.2.2.2.2.1 gX2_rent_X2_belongs rfl rfl rfl (by decide +kernel) ⟨Nat.le_of_ble_eq_true rfl, Nat.le_of_ble_eq_true rfl⟩) rfl [] [] (List.append_nil _).symm 2 0 rfl rfl [] rfl (Nat.le_of_ble_eq_true rfl) dX2_rent_23 ⟨Nat.le_of_ble_eq_true rfl, Nat.le_of_ble_eq_true rfl⟩ (List.append_nil _) ?_
      have r_48 := m_belongs01 w h
      refine z_if_eq (tgt := 58) X ⟨by omega, by omega⟩ (by decide) dX2_rent_26 (fun c_49 => ?_) (fun c_49 => ?_)
      · skip
        refine z_iconst X dX2_rent_58 ?_
        refine z_istore X [1, 2, 3, 4, 5, 0] [(0, .ref (ad 0)), (1, .int (iZ h)), (2, .int (iZ o)), (3, .int (iZ x)), (4, .int (iZ 0)), (5, .int (iZ 0))] rfl (Nat.le_of_ble_eq_true rfl) dX2_rent_59 ?_
        refine z_aload_n X 0 rfl dX2_rent_61 ?_
        refine z_iload X 4 rfl dX2_rent_62 ?_
        refine z_iload_n X 1 rfl dX2_rent_64 ?_
        refine z_iload_n X 2 rfl dX2_rent_65 ?_
        refine z_icmp_eq (tgt := 83) X ⟨by omega, by omega⟩ ⟨by omega, by omega⟩ (by decide) dX2_rent_66 (fun c_50 => ?_) (fun c_50 => ?_)
        · skip
          refine z_iconst X dX2_rent_83 ?_
          refine z_iload X 4 rfl dX2_rent_84 ?_
          refine z_if_eq (tgt := 98) X ⟨by omega, by omega⟩ (by decide) dX2_rent_86 (fun c_51 => ?_) (fun c_51 => ?_)
          · skip
            refine z_iconst X dX2_rent_98 ?_
            refine z_calli X (c_X2_goesK l D ad cI cZ cL w 0 0 0 1 0 (by omega) (by omega) (by omega) (by decide) (by decide)) (cwV 3 X.2.2.2.2.1 gX2_rent_X2_goes rfl rfl rfl (by decide +kernel) ⟨Nat.le_of_ble_eq_true rfl, Nat.le_of_ble_eq_true rfl⟩) rfl [] [] (List.append_nil _).symm 2 0 rfl rfl [] rfl (Nat.le_of_ble_eq_true rfl) dX2_rent_99 ⟨Nat.le_of_ble_eq_true rfl, Nat.le_of_ble_eq_true rfl⟩ (List.append_nil _) ?_
            refine z_if_ne (tgt := 107) X ⟨by omega, by omega⟩ (by decide) dX2_rent_102 (fun c_52 => ?_) (fun c_52 => ?_)
            · exact absurd c_52 (by omega)
            · skip
              refine z_iconst X dX2_rent_105 ?_
              exact z_iret X hr hlk (by have e9 : m_rentC w h o x = 1 := (if_pos (by omega)); rw [if_neg (by omega)]) (congrArg (Mw ad cI cZ) (by have e9 : m_rentC w h o x = 1 := (if_pos (by omega)); unfold m_when; rw [if_neg (by omega), e9])) dX2_rent_106
          · exact absurd c_51 (by omega)
        · skip
          refine z_iload_n X 3 rfl dX2_rent_69 ?_
          refine z_iconst X dX2_rent_70 ?_
          refine z_bipush X (by decide) dX2_rent_71 ?_
          refine z_callis X (c_X2_in l D ad cI cZ cL x 1 100 ⟨by omega, by omega⟩ ⟨by omega, by omega⟩ ⟨by omega, by omega⟩) (va_cwS 3 X.2.2.2.2.1 gX2_rent_X2_in rfl rfl rfl (by decide +kernel) ⟨Nat.le_of_ble_eq_true rfl, Nat.le_of_ble_eq_true rfl⟩) rfl [] (Mw ad cI cZ w) rfl [.int (iZ 0), .ref (ad 0)] rfl (Nat.le_of_ble_eq_true rfl) dX2_rent_73 ⟨Nat.le_of_ble_eq_true rfl, Nat.le_of_ble_eq_true rfl⟩ rfl ?_
          have r_53 := m_in01 x 1 100
          refine z_if_eq (tgt := 83) X ⟨by omega, by omega⟩ (by decide) dX2_rent_76 (fun c_54 => ?_) (fun c_54 => ?_)
          · skip
            refine z_iconst X dX2_rent_83 ?_
            refine z_iload X 4 rfl dX2_rent_84 ?_
            refine z_if_eq (tgt := 98) X ⟨by omega, by omega⟩ (by decide) dX2_rent_86 (fun c_55 => ?_) (fun c_55 => ?_)
            · skip
              refine z_iconst X dX2_rent_98 ?_
              refine z_calli X (c_X2_goesK l D ad cI cZ cL w 0 0 0 1 0 (by omega) (by omega) (by omega) (by decide) (by decide)) (cwV 3 X.2.2.2.2.1 gX2_rent_X2_goes rfl rfl rfl (by decide +kernel) ⟨Nat.le_of_ble_eq_true rfl, Nat.le_of_ble_eq_true rfl⟩) rfl [] [] (List.append_nil _).symm 2 0 rfl rfl [] rfl (Nat.le_of_ble_eq_true rfl) dX2_rent_99 ⟨Nat.le_of_ble_eq_true rfl, Nat.le_of_ble_eq_true rfl⟩ (List.append_nil _) ?_
              refine z_if_ne (tgt := 107) X ⟨by omega, by omega⟩ (by decide) dX2_rent_102 (fun c_56 => ?_) (fun c_56 => ?_)
              · exact absurd c_56 (by omega)
              · skip
                refine z_iconst X dX2_rent_105 ?_
                exact z_iret X hr hlk (by have e9 : m_rentC w h o x = 1 := (if_pos (by omega)); rw [if_neg (by omega)]) (congrArg (Mw ad cI cZ) (by have e9 : m_rentC w h o x = 1 := (if_pos (by omega)); unfold m_when; rw [if_neg (by omega), e9])) dX2_rent_106
            · exact absurd c_55 (by omega)
          · skip
            refine z_iconst X dX2_rent_79 ?_
            refine z_goto (tgt := 84) X (by decide) dX2_rent_80 ?_
            refine z_iload X 4 rfl dX2_rent_84 ?_
            refine z_if_eq (tgt := 98) X ⟨by omega, by omega⟩ (by decide) dX2_rent_86 (fun c_57 => ?_) (fun c_57 => ?_)
            · skip
              refine z_iconst X dX2_rent_98 ?_
              refine z_calli X (c_X2_goesK l D ad cI cZ cL w 0 1 0 1 0 (by omega) (by omega) (by omega) (by decide) (by decide)) (cwV 3 X.2.2.2.2.1 gX2_rent_X2_goes rfl rfl rfl (by decide +kernel) ⟨Nat.le_of_ble_eq_true rfl, Nat.le_of_ble_eq_true rfl⟩) rfl [] [] (List.append_nil _).symm 2 0 rfl rfl [] rfl (Nat.le_of_ble_eq_true rfl) dX2_rent_99 ⟨Nat.le_of_ble_eq_true rfl, Nat.le_of_ble_eq_true rfl⟩ (List.append_nil _) ?_
              refine z_if_ne (tgt := 107) X ⟨by omega, by omega⟩ (by decide) dX2_rent_102 (fun c_58 => ?_) (fun c_58 => ?_)
              · exact absurd c_58 (by omega)
              · skip
                refine z_iconst X dX2_rent_105 ?_
                exact z_iret X hr hlk (by have e9 : m_rentC w h o x = 1 := (if_pos (by omega)); rw [if_neg (by omega)]) (congrArg (Mw ad cI cZ) (by have e9 : m_rentC w h o x = 1 := (if_pos (by omega)); unfold m_when; rw [if_neg (by omega), e9])) dX2_rent_106
            · exact absurd c_57 (by omega)
      · skip
        refine z_aload_n X 0 rfl dX2_rent_29 ?_
        refine z_iload_n X 2 rfl dX2_rent_30 ?_
        refine z_calli X (c_X2_belongs l D ad cI cZ cL w o ⟨by omega, by omega⟩ hB) (cwV 1 X.2.2.2.2.1 gX2_rent_X2_belongs rfl rfl rfl (by decide +kernel) ⟨Nat.le_of_ble_eq_true rfl, Nat.le_of_ble_eq_true rfl⟩) rfl [] [] (List.append_nil _).symm 2 0 rfl rfl [] rfl (Nat.le_of_ble_eq_true rfl) dX2_rent_31 ⟨Nat.le_of_ble_eq_true rfl, Nat.le_of_ble_eq_true rfl⟩ (List.append_nil _) ?_
        have r_59 := m_belongs01 w o
        refine z_if_eq (tgt := 58) X ⟨by omega, by omega⟩ (by decide) dX2_rent_34 (fun c_60 => ?_) (fun c_60 => ?_)
        · skip
          refine z_iconst X dX2_rent_58 ?_
          refine z_istore X [1, 2, 3, 4, 5, 0] [(0, .ref (ad 0)), (1, .int (iZ h)), (2, .int (iZ o)), (3, .int (iZ x)), (4, .int (iZ 0)), (5, .int (iZ 0))] rfl (Nat.le_of_ble_eq_true rfl) dX2_rent_59 ?_
          refine z_aload_n X 0 rfl dX2_rent_61 ?_
          refine z_iload X 4 rfl dX2_rent_62 ?_
          refine z_iload_n X 1 rfl dX2_rent_64 ?_
          refine z_iload_n X 2 rfl dX2_rent_65 ?_
          refine z_icmp_eq (tgt := 83) X ⟨by omega, by omega⟩ ⟨by omega, by omega⟩ (by decide) dX2_rent_66 (fun c_61 => ?_) (fun c_61 => ?_)
          · skip
            refine z_iconst X dX2_rent_83 ?_
            refine z_iload X 4 rfl dX2_rent_84 ?_
            refine z_if_eq (tgt := 98) X ⟨by omega, by omega⟩ (by decide) dX2_rent_86 (fun c_62 => ?_) (fun c_62 => ?_)
            · skip
              refine z_iconst X dX2_rent_98 ?_
              refine z_calli X (c_X2_goesK l D ad cI cZ cL w 0 0 0 1 0 (by omega) (by omega) (by omega) (by decide) (by decide)) (cwV 3 X.2.2.2.2.1 gX2_rent_X2_goes rfl rfl rfl (by decide +kernel) ⟨Nat.le_of_ble_eq_true rfl, Nat.le_of_ble_eq_true rfl⟩) rfl [] [] (List.append_nil _).symm 2 0 rfl rfl [] rfl (Nat.le_of_ble_eq_true rfl) dX2_rent_99 ⟨Nat.le_of_ble_eq_true rfl, Nat.le_of_ble_eq_true rfl⟩ (List.append_nil _) ?_
              refine z_if_ne (tgt := 107) X ⟨by omega, by omega⟩ (by decide) dX2_rent_102 (fun c_63 => ?_) (fun c_63 => ?_)
              · exact absurd c_63 (by omega)
              · skip
                refine z_iconst X dX2_rent_105 ?_
                exact z_iret X hr hlk (by have e9 : m_rentC w h o x = 1 := (if_pos (by omega)); rw [if_neg (by omega)]) (congrArg (Mw ad cI cZ) (by have e9 : m_rentC w h o x = 1 := (if_pos (by omega)); unfold m_when; rw [if_neg (by omega), e9])) dX2_rent_106
            · exact absurd c_62 (by omega)
          · skip
            refine z_iload_n X 3 rfl dX2_rent_69 ?_
            refine z_iconst X dX2_rent_70 ?_
            refine z_bipush X (by decide) dX2_rent_71 ?_
            refine z_callis X (c_X2_in l D ad cI cZ cL x 1 100 ⟨by omega, by omega⟩ ⟨by omega, by omega⟩ ⟨by omega, by omega⟩) (va_cwS 3 X.2.2.2.2.1 gX2_rent_X2_in rfl rfl rfl (by decide +kernel) ⟨Nat.le_of_ble_eq_true rfl, Nat.le_of_ble_eq_true rfl⟩) rfl [] (Mw ad cI cZ w) rfl [.int (iZ 0), .ref (ad 0)] rfl (Nat.le_of_ble_eq_true rfl) dX2_rent_73 ⟨Nat.le_of_ble_eq_true rfl, Nat.le_of_ble_eq_true rfl⟩ rfl ?_
            have r_64 := m_in01 x 1 100
            refine z_if_eq (tgt := 83) X ⟨by omega, by omega⟩ (by decide) dX2_rent_76 (fun c_65 => ?_) (fun c_65 => ?_)
            · skip
              refine z_iconst X dX2_rent_83 ?_
              refine z_iload X 4 rfl dX2_rent_84 ?_
              refine z_if_eq (tgt := 98) X ⟨by omega, by omega⟩ (by decide) dX2_rent_86 (fun c_66 => ?_) (fun c_66 => ?_)
              · skip
                refine z_iconst X dX2_rent_98 ?_
                refine z_calli X (c_X2_goesK l D ad cI cZ cL w 0 0 0 1 0 (by omega) (by omega) (by omega) (by decide) (by decide)) (cwV 3 X.2.2.2.2.1 gX2_rent_X2_goes rfl rfl rfl (by decide +kernel) ⟨Nat.le_of_ble_eq_true rfl, Nat.le_of_ble_eq_true rfl⟩) rfl [] [] (List.append_nil _).symm 2 0 rfl rfl [] rfl (Nat.le_of_ble_eq_true rfl) dX2_rent_99 ⟨Nat.le_of_ble_eq_true rfl, Nat.le_of_ble_eq_true rfl⟩ (List.append_nil _) ?_
                refine z_if_ne (tgt := 107) X ⟨by omega, by omega⟩ (by decide) dX2_rent_102 (fun c_67 => ?_) (fun c_67 => ?_)
                · exact absurd c_67 (by omega)
                · skip
                  refine z_iconst X dX2_rent_105 ?_
                  exact z_iret X hr hlk (by have e9 : m_rentC w h o x = 1 := (if_pos (by omega)); rw [if_neg (by omega)]) (congrArg (Mw ad cI cZ) (by have e9 : m_rentC w h o x = 1 := (if_pos (by omega)); unfold m_when; rw [if_neg (by omega), e9])) dX2_rent_106
              · exact absurd c_66 (by omega)
            · skip
              refine z_iconst X dX2_rent_79 ?_
              refine z_goto (tgt := 84) X (by decide) dX2_rent_80 ?_
              refine z_iload X 4 rfl dX2_rent_84 ?_
              refine z_if_eq (tgt := 98) X ⟨by omega, by omega⟩ (by decide) dX2_rent_86 (fun c_68 => ?_) (fun c_68 => ?_)
              · skip
                refine z_iconst X dX2_rent_98 ?_
                refine z_calli X (c_X2_goesK l D ad cI cZ cL w 0 1 0 1 0 (by omega) (by omega) (by omega) (by decide) (by decide)) (cwV 3 X.2.2.2.2.1 gX2_rent_X2_goes rfl rfl rfl (by decide +kernel) ⟨Nat.le_of_ble_eq_true rfl, Nat.le_of_ble_eq_true rfl⟩) rfl [] [] (List.append_nil _).symm 2 0 rfl rfl [] rfl (Nat.le_of_ble_eq_true rfl) dX2_rent_99 ⟨Nat.le_of_ble_eq_true rfl, Nat.le_of_ble_eq_true rfl⟩ (List.append_nil _) ?_
                refine z_if_ne (tgt := 107) X ⟨by omega, by omega⟩ (by decide) dX2_rent_102 (fun c_69 => ?_) (fun c_69 => ?_)
                · exact absurd c_69 (by omega)
                · skip
                  refine z_iconst X dX2_rent_105 ?_
                  exact z_iret X hr hlk (by have e9 : m_rentC w h o x = 1 := (if_pos (by omega)); rw [if_neg (by omega)]) (congrArg (Mw ad cI cZ) (by have e9 : m_rentC w h o x = 1 := (if_pos (by omega)); unfold m_when; rw [if_neg (by omega), e9])) dX2_rent_106
              · exact absurd c_68 (by omega)
        · skip
          have hh9 := m_belongs_in (w := w) (h := h) (by assumption)
          have ho9 := m_belongs_in (w := w) (h := o) (by assumption)
          refine z_aload_n X 0 rfl dX2_rent_37 ?_
          refine z_get (v := .ref (ad 5)) X 2 0 4 hiX2 rfl rfl (by decide) ⟨rfl, rfl, rfl⟩ (by decide +kernel) rfl dX2_rent_38 ?_
          refine z_iload_n X 1 rfl dX2_rent_41 ?_
          refine z_iald (g := w.1 4) X 5 0 rfl rfl (by omega) (by omega) ⟨by omega, by omega⟩ dX2_rent_42 ?_
          have b_70 := hB 4 rfl h
          refine z_iload_n X 3 rfl dX2_rent_43 ?_
          refine z_isub X dX2_rent_44 ?_
          refine z_aload_n X 0 rfl dX2_rent_45 ?_
          refine z_get (v := .ref (ad 6)) X 2 0 5 hiX2 rfl rfl (by decide) ⟨rfl, rfl, rfl⟩ (by decide +kernel) rfl dX2_rent_46 ?_
          refine z_iload_n X 1 rfl dX2_rent_49 ?_
          refine z_iald (g := w.1 5) X 6 0 rfl rfl (by omega) (by omega) ⟨by omega, by omega⟩ dX2_rent_50 ?_
          have b_71 := hB 5 rfl h
          refine z_icmp_lt (tgt := 58) X ⟨by omega, by omega⟩ ⟨by omega, by omega⟩ (by decide) dX2_rent_51 (fun c_72 => ?_) (fun c_72 => ?_)
          · skip
            refine z_iconst X dX2_rent_58 ?_
            refine z_istore X [1, 2, 3, 4, 5, 0] [(0, .ref (ad 0)), (1, .int (iZ h)), (2, .int (iZ o)), (3, .int (iZ x)), (4, .int (iZ 0)), (5, .int (iZ 0))] rfl (Nat.le_of_ble_eq_true rfl) dX2_rent_59 ?_
            refine z_aload_n X 0 rfl dX2_rent_61 ?_
            refine z_iload X 4 rfl dX2_rent_62 ?_
            refine z_iload_n X 1 rfl dX2_rent_64 ?_
            refine z_iload_n X 2 rfl dX2_rent_65 ?_
            refine z_icmp_eq (tgt := 83) X ⟨by omega, by omega⟩ ⟨by omega, by omega⟩ (by decide) dX2_rent_66 (fun c_73 => ?_) (fun c_73 => ?_)
            · skip
              refine z_iconst X dX2_rent_83 ?_
              refine z_iload X 4 rfl dX2_rent_84 ?_
              refine z_if_eq (tgt := 98) X ⟨by omega, by omega⟩ (by decide) dX2_rent_86 (fun c_74 => ?_) (fun c_74 => ?_)
              · skip
                refine z_iconst X dX2_rent_98 ?_
                refine z_calli X (c_X2_goesK l D ad cI cZ cL w 0 0 0 1 0 (by omega) (by omega) (by omega) (by decide) (by decide)) (cwV 3 X.2.2.2.2.1 gX2_rent_X2_goes rfl rfl rfl (by decide +kernel) ⟨Nat.le_of_ble_eq_true rfl, Nat.le_of_ble_eq_true rfl⟩) rfl [] [] (List.append_nil _).symm 2 0 rfl rfl [] rfl (Nat.le_of_ble_eq_true rfl) dX2_rent_99 ⟨Nat.le_of_ble_eq_true rfl, Nat.le_of_ble_eq_true rfl⟩ (List.append_nil _) ?_
                refine z_if_ne (tgt := 107) X ⟨by omega, by omega⟩ (by decide) dX2_rent_102 (fun c_75 => ?_) (fun c_75 => ?_)
                · exact absurd c_75 (by omega)
                · skip
                  refine z_iconst X dX2_rent_105 ?_
                  exact z_iret X hr hlk (by have e9 : m_rentC w h o x = 1 := (if_pos (by omega)); rw [if_neg (by omega)]) (congrArg (Mw ad cI cZ) (by have e9 : m_rentC w h o x = 1 := (if_pos (by omega)); unfold m_when; rw [if_neg (by omega), e9])) dX2_rent_106
              · exact absurd c_74 (by omega)
            · skip
              refine z_iload_n X 3 rfl dX2_rent_69 ?_
              refine z_iconst X dX2_rent_70 ?_
              refine z_bipush X (by decide) dX2_rent_71 ?_
              refine z_callis X (c_X2_in l D ad cI cZ cL x 1 100 ⟨by omega, by omega⟩ ⟨by omega, by omega⟩ ⟨by omega, by omega⟩) (va_cwS 3 X.2.2.2.2.1 gX2_rent_X2_in rfl rfl rfl (by decide +kernel) ⟨Nat.le_of_ble_eq_true rfl, Nat.le_of_ble_eq_true rfl⟩) rfl [] (Mw ad cI cZ w) rfl [.int (iZ 0), .ref (ad 0)] rfl (Nat.le_of_ble_eq_true rfl) dX2_rent_73 ⟨Nat.le_of_ble_eq_true rfl, Nat.le_of_ble_eq_true rfl⟩ rfl ?_
              have r_76 := m_in01 x 1 100
              refine z_if_eq (tgt := 83) X ⟨by omega, by omega⟩ (by decide) dX2_rent_76 (fun c_77 => ?_) (fun c_77 => ?_)
              · skip
                refine z_iconst X dX2_rent_83 ?_
                refine z_iload X 4 rfl dX2_rent_84 ?_
                refine z_if_eq (tgt := 98) X ⟨by omega, by omega⟩ (by decide) dX2_rent_86 (fun c_78 => ?_) (fun c_78 => ?_)
                · skip
                  refine z_iconst X dX2_rent_98 ?_
                  refine z_calli X (c_X2_goesK l D ad cI cZ cL w 0 0 0 1 0 (by omega) (by omega) (by omega) (by decide) (by decide)) (cwV 3 X.2.2.2.2.1 gX2_rent_X2_goes rfl rfl rfl (by decide +kernel) ⟨Nat.le_of_ble_eq_true rfl, Nat.le_of_ble_eq_true rfl⟩) rfl [] [] (List.append_nil _).symm 2 0 rfl rfl [] rfl (Nat.le_of_ble_eq_true rfl) dX2_rent_99 ⟨Nat.le_of_ble_eq_true rfl, Nat.le_of_ble_eq_true rfl⟩ (List.append_nil _) ?_
                  refine z_if_ne (tgt := 107) X ⟨by omega, by omega⟩ (by decide) dX2_rent_102 (fun c_79 => ?_) (fun c_79 => ?_)
                  · exact absurd c_79 (by omega)
                  · skip
                    refine z_iconst X dX2_rent_105 ?_
                    exact z_iret X hr hlk (by have e9 : m_rentC w h o x = 1 := (if_pos (by omega)); rw [if_neg (by omega)]) (congrArg (Mw ad cI cZ) (by have e9 : m_rentC w h o x = 1 := (if_pos (by omega)); unfold m_when; rw [if_neg (by omega), e9])) dX2_rent_106
                · exact absurd c_78 (by omega)
              · skip
                refine z_iconst X dX2_rent_79 ?_
                refine z_goto (tgt := 84) X (by decide) dX2_rent_80 ?_
                refine z_iload X 4 rfl dX2_rent_84 ?_
                refine z_if_eq (tgt := 98) X ⟨by omega, by omega⟩ (by decide) dX2_rent_86 (fun c_80 => ?_) (fun c_80 => ?_)
                · skip
                  refine z_iconst X dX2_rent_98 ?_
                  refine z_calli X (c_X2_goesK l D ad cI cZ cL w 0 1 0 1 0 (by omega) (by omega) (by omega) (by decide) (by decide)) (cwV 3 X.2.2.2.2.1 gX2_rent_X2_goes rfl rfl rfl (by decide +kernel) ⟨Nat.le_of_ble_eq_true rfl, Nat.le_of_ble_eq_true rfl⟩) rfl [] [] (List.append_nil _).symm 2 0 rfl rfl [] rfl (Nat.le_of_ble_eq_true rfl) dX2_rent_99 ⟨Nat.le_of_ble_eq_true rfl, Nat.le_of_ble_eq_true rfl⟩ (List.append_nil _) ?_
                  refine z_if_ne (tgt := 107) X ⟨by omega, by omega⟩ (by decide) dX2_rent_102 (fun c_81 => ?_) (fun c_81 => ?_)
                  · exact absurd c_81 (by omega)
                  · skip
                    refine z_iconst X dX2_rent_105 ?_
                    exact z_iret X hr hlk (by have e9 : m_rentC w h o x = 1 := (if_pos (by omega)); rw [if_neg (by omega)]) (congrArg (Mw ad cI cZ) (by have e9 : m_rentC w h o x = 1 := (if_pos (by omega)); unfold m_when; rw [if_neg (by omega), e9])) dX2_rent_106
                · exact absurd c_80 (by omega)
          · skip
            refine z_iconst X dX2_rent_54 ?_
            refine z_goto (tgt := 59) X (by decide) dX2_rent_55 ?_
            refine z_istore X [1, 2, 3, 4, 5, 0] [(0, .ref (ad 0)), (1, .int (iZ h)), (2, .int (iZ o)), (3, .int (iZ x)), (4, .int (iZ 0)), (5, .int (iZ 1))] rfl (Nat.le_of_ble_eq_true rfl) dX2_rent_59 ?_
            refine z_aload_n X 0 rfl dX2_rent_61 ?_
            refine z_iload X 4 rfl dX2_rent_62 ?_
            refine z_iload_n X 1 rfl dX2_rent_64 ?_
            refine z_iload_n X 2 rfl dX2_rent_65 ?_
            refine z_icmp_eq (tgt := 83) X ⟨by omega, by omega⟩ ⟨by omega, by omega⟩ (by decide) dX2_rent_66 (fun c_82 => ?_) (fun c_82 => ?_)
            · skip
              refine z_iconst X dX2_rent_83 ?_
              refine z_iload X 4 rfl dX2_rent_84 ?_
              refine z_if_eq (tgt := 98) X ⟨by omega, by omega⟩ (by decide) dX2_rent_86 (fun c_83 => ?_) (fun c_83 => ?_)
              · skip
                refine z_iconst X dX2_rent_98 ?_
                refine z_calli X (c_X2_goesK l D ad cI cZ cL w 0 0 0 1 0 (by omega) (by omega) (by omega) (by decide) (by decide)) (cwV 3 X.2.2.2.2.1 gX2_rent_X2_goes rfl rfl rfl (by decide +kernel) ⟨Nat.le_of_ble_eq_true rfl, Nat.le_of_ble_eq_true rfl⟩) rfl [] [] (List.append_nil _).symm 2 0 rfl rfl [] rfl (Nat.le_of_ble_eq_true rfl) dX2_rent_99 ⟨Nat.le_of_ble_eq_true rfl, Nat.le_of_ble_eq_true rfl⟩ (List.append_nil _) ?_
                refine z_if_ne (tgt := 107) X ⟨by omega, by omega⟩ (by decide) dX2_rent_102 (fun c_84 => ?_) (fun c_84 => ?_)
                · exact absurd c_84 (by omega)
                · skip
                  refine z_iconst X dX2_rent_105 ?_
                  exact z_iret X hr hlk (by have e9 : m_rentC w h o x = 1 := (if_pos (by omega)); rw [if_neg (by omega)]) (congrArg (Mw ad cI cZ) (by have e9 : m_rentC w h o x = 1 := (if_pos (by omega)); unfold m_when; rw [if_neg (by omega), e9])) dX2_rent_106
              · exact absurd c_83 (by omega)
            · skip
              refine z_iload_n X 3 rfl dX2_rent_69 ?_
              refine z_iconst X dX2_rent_70 ?_
              refine z_bipush X (by decide) dX2_rent_71 ?_
              refine z_callis X (c_X2_in l D ad cI cZ cL x 1 100 ⟨by omega, by omega⟩ ⟨by omega, by omega⟩ ⟨by omega, by omega⟩) (va_cwS 3 X.2.2.2.2.1 gX2_rent_X2_in rfl rfl rfl (by decide +kernel) ⟨Nat.le_of_ble_eq_true rfl, Nat.le_of_ble_eq_true rfl⟩) rfl [] (Mw ad cI cZ w) rfl [.int (iZ 0), .ref (ad 0)] rfl (Nat.le_of_ble_eq_true rfl) dX2_rent_73 ⟨Nat.le_of_ble_eq_true rfl, Nat.le_of_ble_eq_true rfl⟩ rfl ?_
              have r_85 := m_in01 x 1 100
              refine z_if_eq (tgt := 83) X ⟨by omega, by omega⟩ (by decide) dX2_rent_76 (fun c_86 => ?_) (fun c_86 => ?_)
              · skip
                refine z_iconst X dX2_rent_83 ?_
                refine z_iload X 4 rfl dX2_rent_84 ?_
                refine z_if_eq (tgt := 98) X ⟨by omega, by omega⟩ (by decide) dX2_rent_86 (fun c_87 => ?_) (fun c_87 => ?_)
                · skip
                  refine z_iconst X dX2_rent_98 ?_
                  refine z_calli X (c_X2_goesK l D ad cI cZ cL w 0 0 0 1 0 (by omega) (by omega) (by omega) (by decide) (by decide)) (cwV 3 X.2.2.2.2.1 gX2_rent_X2_goes rfl rfl rfl (by decide +kernel) ⟨Nat.le_of_ble_eq_true rfl, Nat.le_of_ble_eq_true rfl⟩) rfl [] [] (List.append_nil _).symm 2 0 rfl rfl [] rfl (Nat.le_of_ble_eq_true rfl) dX2_rent_99 ⟨Nat.le_of_ble_eq_true rfl, Nat.le_of_ble_eq_true rfl⟩ (List.append_nil _) ?_
                  refine z_if_ne (tgt := 107) X ⟨by omega, by omega⟩ (by decide) dX2_rent_102 (fun c_88 => ?_) (fun c_88 => ?_)
                  · exact absurd c_88 (by omega)
                  · skip
                    refine z_iconst X dX2_rent_105 ?_
                    exact z_iret X hr hlk (by have e9 : m_rentC w h o x = 1 := (if_pos (by omega)); rw [if_neg (by omega)]) (congrArg (Mw ad cI cZ) (by have e9 : m_rentC w h o x = 1 := (if_pos (by omega)); unfold m_when; rw [if_neg (by omega), e9])) dX2_rent_106
                · exact absurd c_87 (by omega)
              · skip
                refine z_iconst X dX2_rent_79 ?_
                refine z_goto (tgt := 84) X (by decide) dX2_rent_80 ?_
                refine z_iload X 4 rfl dX2_rent_84 ?_
                refine z_if_eq (tgt := 98) X ⟨by omega, by omega⟩ (by decide) dX2_rent_86 (fun c_89 => ?_) (fun c_89 => ?_)
                · skip
                  refine z_iconst X dX2_rent_98 ?_
                  refine z_calli X (c_X2_goesK l D ad cI cZ cL w 0 1 0 1 0 (by omega) (by omega) (by omega) (by decide) (by decide)) (cwV 3 X.2.2.2.2.1 gX2_rent_X2_goes rfl rfl rfl (by decide +kernel) ⟨Nat.le_of_ble_eq_true rfl, Nat.le_of_ble_eq_true rfl⟩) rfl [] [] (List.append_nil _).symm 2 0 rfl rfl [] rfl (Nat.le_of_ble_eq_true rfl) dX2_rent_99 ⟨Nat.le_of_ble_eq_true rfl, Nat.le_of_ble_eq_true rfl⟩ (List.append_nil _) ?_
                  refine z_if_ne (tgt := 107) X ⟨by omega, by omega⟩ (by decide) dX2_rent_102 (fun c_90 => ?_) (fun c_90 => ?_)
                  · exact absurd c_90 (by omega)
                  · skip
                    refine z_iconst X dX2_rent_105 ?_
                    exact z_iret X hr hlk (by have e9 : m_rentC w h o x = 1 := (if_pos (by omega)); rw [if_neg (by omega)]) (congrArg (Mw ad cI cZ) (by have e9 : m_rentC w h o x = 1 := (if_pos (by omega)); unfold m_when; rw [if_neg (by omega), e9])) dX2_rent_106
                · exact absurd c_89 (by omega)
    · skip
      refine z_iconst X dX2_rent_14 ?_
      refine z_goto (tgt := 19) X (by decide) dX2_rent_15 ?_
      refine z_istore X [1, 2, 3, 4, 0] [(0, .ref (ad 0)), (1, .int (iZ h)), (2, .int (iZ o)), (3, .int (iZ x)), (4, .int (iZ 1))] rfl (Nat.le_of_ble_eq_true rfl) dX2_rent_19 ?_
      refine z_aload_n X 0 rfl dX2_rent_21 ?_
      refine z_iload_n X 1 rfl dX2_rent_22 ?_
      refine z_calli X (c_X2_belongs l D ad cI cZ cL w h ⟨by omega, by omega⟩ hB) (cwV 1 X.2.2.2.2.1 gX2_rent_X2_belongs rfl rfl rfl (by decide +kernel) ⟨Nat.le_of_ble_eq_true rfl, Nat.le_of_ble_eq_true rfl⟩) rfl [] [] (List.append_nil _).symm 2 0 rfl rfl [] rfl (Nat.le_of_ble_eq_true rfl) dX2_rent_23 ⟨Nat.le_of_ble_eq_true rfl, Nat.le_of_ble_eq_true rfl⟩ (List.append_nil _) ?_
      have r_91 := m_belongs01 w h
      refine z_if_eq (tgt := 58) X ⟨by omega, by omega⟩ (by decide) dX2_rent_26 (fun c_92 => ?_) (fun c_92 => ?_)
      · skip
        refine z_iconst X dX2_rent_58 ?_
        refine z_istore X [1, 2, 3, 4, 5, 0] [(0, .ref (ad 0)), (1, .int (iZ h)), (2, .int (iZ o)), (3, .int (iZ x)), (4, .int (iZ 1)), (5, .int (iZ 0))] rfl (Nat.le_of_ble_eq_true rfl) dX2_rent_59 ?_
        refine z_aload_n X 0 rfl dX2_rent_61 ?_
        refine z_iload X 4 rfl dX2_rent_62 ?_
        refine z_iload_n X 1 rfl dX2_rent_64 ?_
        refine z_iload_n X 2 rfl dX2_rent_65 ?_
        refine z_icmp_eq (tgt := 83) X ⟨by omega, by omega⟩ ⟨by omega, by omega⟩ (by decide) dX2_rent_66 (fun c_93 => ?_) (fun c_93 => ?_)
        · skip
          refine z_iconst X dX2_rent_83 ?_
          refine z_iload X 4 rfl dX2_rent_84 ?_
          refine z_if_eq (tgt := 98) X ⟨by omega, by omega⟩ (by decide) dX2_rent_86 (fun c_94 => ?_) (fun c_94 => ?_)
          · exact absurd c_94 (by omega)
          · skip
            refine z_iload X 5 rfl dX2_rent_89 ?_
            refine z_if_eq (tgt := 98) X ⟨by omega, by omega⟩ (by decide) dX2_rent_91 (fun c_95 => ?_) (fun c_95 => ?_)
            · skip
              refine z_iconst X dX2_rent_98 ?_
              refine z_calli X (c_X2_goesK l D ad cI cZ cL w 1 0 0 2 0 (by omega) (by omega) (by omega) (by decide) (by decide)) (cwV 3 X.2.2.2.2.1 gX2_rent_X2_goes rfl rfl rfl (by decide +kernel) ⟨Nat.le_of_ble_eq_true rfl, Nat.le_of_ble_eq_true rfl⟩) rfl [] [] (List.append_nil _).symm 2 0 rfl rfl [] rfl (Nat.le_of_ble_eq_true rfl) dX2_rent_99 ⟨Nat.le_of_ble_eq_true rfl, Nat.le_of_ble_eq_true rfl⟩ (List.append_nil _) ?_
              refine z_if_ne (tgt := 107) X ⟨by omega, by omega⟩ (by decide) dX2_rent_102 (fun c_96 => ?_) (fun c_96 => ?_)
              · exact absurd c_96 (by omega)
              · skip
                refine z_iconst X dX2_rent_105 ?_
                exact z_iret X hr hlk (by have e9 : m_rentC w h o x = 2 := ((if_neg (by omega)).trans (if_pos (by omega))); rw [if_neg (by omega)]) (congrArg (Mw ad cI cZ) (by have e9 : m_rentC w h o x = 2 := ((if_neg (by omega)).trans (if_pos (by omega))); unfold m_when; rw [if_neg (by omega), e9])) dX2_rent_106
            · exact absurd c_95 (by omega)
        · skip
          refine z_iload_n X 3 rfl dX2_rent_69 ?_
          refine z_iconst X dX2_rent_70 ?_
          refine z_bipush X (by decide) dX2_rent_71 ?_
          refine z_callis X (c_X2_in l D ad cI cZ cL x 1 100 ⟨by omega, by omega⟩ ⟨by omega, by omega⟩ ⟨by omega, by omega⟩) (va_cwS 3 X.2.2.2.2.1 gX2_rent_X2_in rfl rfl rfl (by decide +kernel) ⟨Nat.le_of_ble_eq_true rfl, Nat.le_of_ble_eq_true rfl⟩) rfl [] (Mw ad cI cZ w) rfl [.int (iZ 1), .ref (ad 0)] rfl (Nat.le_of_ble_eq_true rfl) dX2_rent_73 ⟨Nat.le_of_ble_eq_true rfl, Nat.le_of_ble_eq_true rfl⟩ rfl ?_
          have r_97 := m_in01 x 1 100
          refine z_if_eq (tgt := 83) X ⟨by omega, by omega⟩ (by decide) dX2_rent_76 (fun c_98 => ?_) (fun c_98 => ?_)
          · skip
            refine z_iconst X dX2_rent_83 ?_
            refine z_iload X 4 rfl dX2_rent_84 ?_
            refine z_if_eq (tgt := 98) X ⟨by omega, by omega⟩ (by decide) dX2_rent_86 (fun c_99 => ?_) (fun c_99 => ?_)
            · exact absurd c_99 (by omega)
            · skip
              refine z_iload X 5 rfl dX2_rent_89 ?_
              refine z_if_eq (tgt := 98) X ⟨by omega, by omega⟩ (by decide) dX2_rent_91 (fun c_100 => ?_) (fun c_100 => ?_)
              · skip
                refine z_iconst X dX2_rent_98 ?_
                refine z_calli X (c_X2_goesK l D ad cI cZ cL w 1 0 0 2 0 (by omega) (by omega) (by omega) (by decide) (by decide)) (cwV 3 X.2.2.2.2.1 gX2_rent_X2_goes rfl rfl rfl (by decide +kernel) ⟨Nat.le_of_ble_eq_true rfl, Nat.le_of_ble_eq_true rfl⟩) rfl [] [] (List.append_nil _).symm 2 0 rfl rfl [] rfl (Nat.le_of_ble_eq_true rfl) dX2_rent_99 ⟨Nat.le_of_ble_eq_true rfl, Nat.le_of_ble_eq_true rfl⟩ (List.append_nil _) ?_
                refine z_if_ne (tgt := 107) X ⟨by omega, by omega⟩ (by decide) dX2_rent_102 (fun c_101 => ?_) (fun c_101 => ?_)
                · exact absurd c_101 (by omega)
                · skip
                  refine z_iconst X dX2_rent_105 ?_
                  exact z_iret X hr hlk (by have e9 : m_rentC w h o x = 2 := ((if_neg (by omega)).trans (if_pos (by omega))); rw [if_neg (by omega)]) (congrArg (Mw ad cI cZ) (by have e9 : m_rentC w h o x = 2 := ((if_neg (by omega)).trans (if_pos (by omega))); unfold m_when; rw [if_neg (by omega), e9])) dX2_rent_106
              · exact absurd c_100 (by omega)
          · skip
            refine z_iconst X dX2_rent_79 ?_
            refine z_goto (tgt := 84) X (by decide) dX2_rent_80 ?_
            refine z_iload X 4 rfl dX2_rent_84 ?_
            refine z_if_eq (tgt := 98) X ⟨by omega, by omega⟩ (by decide) dX2_rent_86 (fun c_102 => ?_) (fun c_102 => ?_)
            · exact absurd c_102 (by omega)
            · skip
              refine z_iload X 5 rfl dX2_rent_89 ?_
              refine z_if_eq (tgt := 98) X ⟨by omega, by omega⟩ (by decide) dX2_rent_91 (fun c_103 => ?_) (fun c_103 => ?_)
              · skip
                refine z_iconst X dX2_rent_98 ?_
                refine z_calli X (c_X2_goesK l D ad cI cZ cL w 1 1 0 3 0 (by omega) (by omega) (by omega) (by decide) (by decide)) (cwV 3 X.2.2.2.2.1 gX2_rent_X2_goes rfl rfl rfl (by decide +kernel) ⟨Nat.le_of_ble_eq_true rfl, Nat.le_of_ble_eq_true rfl⟩) rfl [] [] (List.append_nil _).symm 2 0 rfl rfl [] rfl (Nat.le_of_ble_eq_true rfl) dX2_rent_99 ⟨Nat.le_of_ble_eq_true rfl, Nat.le_of_ble_eq_true rfl⟩ (List.append_nil _) ?_
                refine z_if_ne (tgt := 107) X ⟨by omega, by omega⟩ (by decide) dX2_rent_102 (fun c_104 => ?_) (fun c_104 => ?_)
                · exact absurd c_104 (by omega)
                · skip
                  refine z_iconst X dX2_rent_105 ?_
                  exact z_iret X hr hlk (by have e9 : m_rentC w h o x = 3 := ((if_neg (by omega)).trans ((if_neg (by omega)).trans (if_neg (fun q => by omega)))); rw [if_neg (by omega)]) (congrArg (Mw ad cI cZ) (by have e9 : m_rentC w h o x = 3 := ((if_neg (by omega)).trans ((if_neg (by omega)).trans (if_neg (fun q => by omega)))); unfold m_when; rw [if_neg (by omega), e9])) dX2_rent_106
              · exact absurd c_103 (by omega)
      · skip
        refine z_aload_n X 0 rfl dX2_rent_29 ?_
        refine z_iload_n X 2 rfl dX2_rent_30 ?_
        refine z_calli X (c_X2_belongs l D ad cI cZ cL w o ⟨by omega, by omega⟩ hB) (cwV 1 X.2.2.2.2.1 gX2_rent_X2_belongs rfl rfl rfl (by decide +kernel) ⟨Nat.le_of_ble_eq_true rfl, Nat.le_of_ble_eq_true rfl⟩) rfl [] [] (List.append_nil _).symm 2 0 rfl rfl [] rfl (Nat.le_of_ble_eq_true rfl) dX2_rent_31 ⟨Nat.le_of_ble_eq_true rfl, Nat.le_of_ble_eq_true rfl⟩ (List.append_nil _) ?_
        have r_105 := m_belongs01 w o
        refine z_if_eq (tgt := 58) X ⟨by omega, by omega⟩ (by decide) dX2_rent_34 (fun c_106 => ?_) (fun c_106 => ?_)
        · skip
          refine z_iconst X dX2_rent_58 ?_
          refine z_istore X [1, 2, 3, 4, 5, 0] [(0, .ref (ad 0)), (1, .int (iZ h)), (2, .int (iZ o)), (3, .int (iZ x)), (4, .int (iZ 1)), (5, .int (iZ 0))] rfl (Nat.le_of_ble_eq_true rfl) dX2_rent_59 ?_
          refine z_aload_n X 0 rfl dX2_rent_61 ?_
          refine z_iload X 4 rfl dX2_rent_62 ?_
          refine z_iload_n X 1 rfl dX2_rent_64 ?_
          refine z_iload_n X 2 rfl dX2_rent_65 ?_
          refine z_icmp_eq (tgt := 83) X ⟨by omega, by omega⟩ ⟨by omega, by omega⟩ (by decide) dX2_rent_66 (fun c_107 => ?_) (fun c_107 => ?_)
          · skip
            refine z_iconst X dX2_rent_83 ?_
            refine z_iload X 4 rfl dX2_rent_84 ?_
            refine z_if_eq (tgt := 98) X ⟨by omega, by omega⟩ (by decide) dX2_rent_86 (fun c_108 => ?_) (fun c_108 => ?_)
            · exact absurd c_108 (by omega)
            · skip
              refine z_iload X 5 rfl dX2_rent_89 ?_
              refine z_if_eq (tgt := 98) X ⟨by omega, by omega⟩ (by decide) dX2_rent_91 (fun c_109 => ?_) (fun c_109 => ?_)
              · skip
                refine z_iconst X dX2_rent_98 ?_
                refine z_calli X (c_X2_goesK l D ad cI cZ cL w 1 0 0 2 0 (by omega) (by omega) (by omega) (by decide) (by decide)) (cwV 3 X.2.2.2.2.1 gX2_rent_X2_goes rfl rfl rfl (by decide +kernel) ⟨Nat.le_of_ble_eq_true rfl, Nat.le_of_ble_eq_true rfl⟩) rfl [] [] (List.append_nil _).symm 2 0 rfl rfl [] rfl (Nat.le_of_ble_eq_true rfl) dX2_rent_99 ⟨Nat.le_of_ble_eq_true rfl, Nat.le_of_ble_eq_true rfl⟩ (List.append_nil _) ?_
                refine z_if_ne (tgt := 107) X ⟨by omega, by omega⟩ (by decide) dX2_rent_102 (fun c_110 => ?_) (fun c_110 => ?_)
                · exact absurd c_110 (by omega)
                · skip
                  refine z_iconst X dX2_rent_105 ?_
                  exact z_iret X hr hlk (by have e9 : m_rentC w h o x = 2 := ((if_neg (by omega)).trans (if_pos (by omega))); rw [if_neg (by omega)]) (congrArg (Mw ad cI cZ) (by have e9 : m_rentC w h o x = 2 := ((if_neg (by omega)).trans (if_pos (by omega))); unfold m_when; rw [if_neg (by omega), e9])) dX2_rent_106
              · exact absurd c_109 (by omega)
          · skip
            refine z_iload_n X 3 rfl dX2_rent_69 ?_
            refine z_iconst X dX2_rent_70 ?_
            refine z_bipush X (by decide) dX2_rent_71 ?_
            refine z_callis X (c_X2_in l D ad cI cZ cL x 1 100 ⟨by omega, by omega⟩ ⟨by omega, by omega⟩ ⟨by omega, by omega⟩) (va_cwS 3 X.2.2.2.2.1 gX2_rent_X2_in rfl rfl rfl (by decide +kernel) ⟨Nat.le_of_ble_eq_true rfl, Nat.le_of_ble_eq_true rfl⟩) rfl [] (Mw ad cI cZ w) rfl [.int (iZ 1), .ref (ad 0)] rfl (Nat.le_of_ble_eq_true rfl) dX2_rent_73 ⟨Nat.le_of_ble_eq_true rfl, Nat.le_of_ble_eq_true rfl⟩ rfl ?_
            have r_111 := m_in01 x 1 100
            refine z_if_eq (tgt := 83) X ⟨by omega, by omega⟩ (by decide) dX2_rent_76 (fun c_112 => ?_) (fun c_112 => ?_)
            · skip
              refine z_iconst X dX2_rent_83 ?_
              refine z_iload X 4 rfl dX2_rent_84 ?_
              refine z_if_eq (tgt := 98) X ⟨by omega, by omega⟩ (by decide) dX2_rent_86 (fun c_113 => ?_) (fun c_113 => ?_)
              · exact absurd c_113 (by omega)
              · skip
                refine z_iload X 5 rfl dX2_rent_89 ?_
                refine z_if_eq (tgt := 98) X ⟨by omega, by omega⟩ (by decide) dX2_rent_91 (fun c_114 => ?_) (fun c_114 => ?_)
                · skip
                  refine z_iconst X dX2_rent_98 ?_
                  refine z_calli X (c_X2_goesK l D ad cI cZ cL w 1 0 0 2 0 (by omega) (by omega) (by omega) (by decide) (by decide)) (cwV 3 X.2.2.2.2.1 gX2_rent_X2_goes rfl rfl rfl (by decide +kernel) ⟨Nat.le_of_ble_eq_true rfl, Nat.le_of_ble_eq_true rfl⟩) rfl [] [] (List.append_nil _).symm 2 0 rfl rfl [] rfl (Nat.le_of_ble_eq_true rfl) dX2_rent_99 ⟨Nat.le_of_ble_eq_true rfl, Nat.le_of_ble_eq_true rfl⟩ (List.append_nil _) ?_
                  refine z_if_ne (tgt := 107) X ⟨by omega, by omega⟩ (by decide) dX2_rent_102 (fun c_115 => ?_) (fun c_115 => ?_)
                  · exact absurd c_115 (by omega)
                  · skip
                    refine z_iconst X dX2_rent_105 ?_
                    exact z_iret X hr hlk (by have e9 : m_rentC w h o x = 2 := ((if_neg (by omega)).trans (if_pos (by omega))); rw [if_neg (by omega)]) (congrArg (Mw ad cI cZ) (by have e9 : m_rentC w h o x = 2 := ((if_neg (by omega)).trans (if_pos (by omega))); unfold m_when; rw [if_neg (by omega), e9])) dX2_rent_106
                · exact absurd c_114 (by omega)
            · skip
              refine z_iconst X dX2_rent_79 ?_
              refine z_goto (tgt := 84) X (by decide) dX2_rent_80 ?_
              refine z_iload X 4 rfl dX2_rent_84 ?_
              refine z_if_eq (tgt := 98) X ⟨by omega, by omega⟩ (by decide) dX2_rent_86 (fun c_116 => ?_) (fun c_116 => ?_)
              · exact absurd c_116 (by omega)
              · skip
                refine z_iload X 5 rfl dX2_rent_89 ?_
                refine z_if_eq (tgt := 98) X ⟨by omega, by omega⟩ (by decide) dX2_rent_91 (fun c_117 => ?_) (fun c_117 => ?_)
                · skip
                  refine z_iconst X dX2_rent_98 ?_
                  refine z_calli X (c_X2_goesK l D ad cI cZ cL w 1 1 0 3 0 (by omega) (by omega) (by omega) (by decide) (by decide)) (cwV 3 X.2.2.2.2.1 gX2_rent_X2_goes rfl rfl rfl (by decide +kernel) ⟨Nat.le_of_ble_eq_true rfl, Nat.le_of_ble_eq_true rfl⟩) rfl [] [] (List.append_nil _).symm 2 0 rfl rfl [] rfl (Nat.le_of_ble_eq_true rfl) dX2_rent_99 ⟨Nat.le_of_ble_eq_true rfl, Nat.le_of_ble_eq_true rfl⟩ (List.append_nil _) ?_
                  refine z_if_ne (tgt := 107) X ⟨by omega, by omega⟩ (by decide) dX2_rent_102 (fun c_118 => ?_) (fun c_118 => ?_)
                  · exact absurd c_118 (by omega)
                  · skip
                    refine z_iconst X dX2_rent_105 ?_
                    exact z_iret X hr hlk (by have e9 : m_rentC w h o x = 3 := ((if_neg (by omega)).trans ((if_neg (by omega)).trans (if_neg (fun q => by omega)))); rw [if_neg (by omega)]) (congrArg (Mw ad cI cZ) (by have e9 : m_rentC w h o x = 3 := ((if_neg (by omega)).trans ((if_neg (by omega)).trans (if_neg (fun q => by omega)))); unfold m_when; rw [if_neg (by omega), e9])) dX2_rent_106
                · exact absurd c_117 (by omega)
        · skip
          have hh9 := m_belongs_in (w := w) (h := h) (by assumption)
          have ho9 := m_belongs_in (w := w) (h := o) (by assumption)
          refine z_aload_n X 0 rfl dX2_rent_37 ?_
          refine z_get (v := .ref (ad 5)) X 2 0 4 hiX2 rfl rfl (by decide) ⟨rfl, rfl, rfl⟩ (by decide +kernel) rfl dX2_rent_38 ?_
          refine z_iload_n X 1 rfl dX2_rent_41 ?_
          refine z_iald (g := w.1 4) X 5 0 rfl rfl (by omega) (by omega) ⟨by omega, by omega⟩ dX2_rent_42 ?_
          have b_119 := hB 4 rfl h
          refine z_iload_n X 3 rfl dX2_rent_43 ?_
          refine z_isub X dX2_rent_44 ?_
          refine z_aload_n X 0 rfl dX2_rent_45 ?_
          refine z_get (v := .ref (ad 6)) X 2 0 5 hiX2 rfl rfl (by decide) ⟨rfl, rfl, rfl⟩ (by decide +kernel) rfl dX2_rent_46 ?_
          refine z_iload_n X 1 rfl dX2_rent_49 ?_
          refine z_iald (g := w.1 5) X 6 0 rfl rfl (by omega) (by omega) ⟨by omega, by omega⟩ dX2_rent_50 ?_
          have b_120 := hB 5 rfl h
          refine z_icmp_lt (tgt := 58) X ⟨by omega, by omega⟩ ⟨by omega, by omega⟩ (by decide) dX2_rent_51 (fun c_121 => ?_) (fun c_121 => ?_)
          · skip
            refine z_iconst X dX2_rent_58 ?_
            refine z_istore X [1, 2, 3, 4, 5, 0] [(0, .ref (ad 0)), (1, .int (iZ h)), (2, .int (iZ o)), (3, .int (iZ x)), (4, .int (iZ 1)), (5, .int (iZ 0))] rfl (Nat.le_of_ble_eq_true rfl) dX2_rent_59 ?_
            refine z_aload_n X 0 rfl dX2_rent_61 ?_
            refine z_iload X 4 rfl dX2_rent_62 ?_
            refine z_iload_n X 1 rfl dX2_rent_64 ?_
            refine z_iload_n X 2 rfl dX2_rent_65 ?_
            refine z_icmp_eq (tgt := 83) X ⟨by omega, by omega⟩ ⟨by omega, by omega⟩ (by decide) dX2_rent_66 (fun c_122 => ?_) (fun c_122 => ?_)
            · skip
              refine z_iconst X dX2_rent_83 ?_
              refine z_iload X 4 rfl dX2_rent_84 ?_
              refine z_if_eq (tgt := 98) X ⟨by omega, by omega⟩ (by decide) dX2_rent_86 (fun c_123 => ?_) (fun c_123 => ?_)
              · exact absurd c_123 (by omega)
              · skip
                refine z_iload X 5 rfl dX2_rent_89 ?_
                refine z_if_eq (tgt := 98) X ⟨by omega, by omega⟩ (by decide) dX2_rent_91 (fun c_124 => ?_) (fun c_124 => ?_)
                · skip
                  refine z_iconst X dX2_rent_98 ?_
                  refine z_calli X (c_X2_goesK l D ad cI cZ cL w 1 0 0 2 0 (by omega) (by omega) (by omega) (by decide) (by decide)) (cwV 3 X.2.2.2.2.1 gX2_rent_X2_goes rfl rfl rfl (by decide +kernel) ⟨Nat.le_of_ble_eq_true rfl, Nat.le_of_ble_eq_true rfl⟩) rfl [] [] (List.append_nil _).symm 2 0 rfl rfl [] rfl (Nat.le_of_ble_eq_true rfl) dX2_rent_99 ⟨Nat.le_of_ble_eq_true rfl, Nat.le_of_ble_eq_true rfl⟩ (List.append_nil _) ?_
                  refine z_if_ne (tgt := 107) X ⟨by omega, by omega⟩ (by decide) dX2_rent_102 (fun c_125 => ?_) (fun c_125 => ?_)
                  · exact absurd c_125 (by omega)
                  · skip
                    refine z_iconst X dX2_rent_105 ?_
                    exact z_iret X hr hlk (by have e9 : m_rentC w h o x = 2 := ((if_neg (by omega)).trans (if_pos (by omega))); rw [if_neg (by omega)]) (congrArg (Mw ad cI cZ) (by have e9 : m_rentC w h o x = 2 := ((if_neg (by omega)).trans (if_pos (by omega))); unfold m_when; rw [if_neg (by omega), e9])) dX2_rent_106
                · exact absurd c_124 (by omega)
            · skip
              refine z_iload_n X 3 rfl dX2_rent_69 ?_
              refine z_iconst X dX2_rent_70 ?_
              refine z_bipush X (by decide) dX2_rent_71 ?_
              refine z_callis X (c_X2_in l D ad cI cZ cL x 1 100 ⟨by omega, by omega⟩ ⟨by omega, by omega⟩ ⟨by omega, by omega⟩) (va_cwS 3 X.2.2.2.2.1 gX2_rent_X2_in rfl rfl rfl (by decide +kernel) ⟨Nat.le_of_ble_eq_true rfl, Nat.le_of_ble_eq_true rfl⟩) rfl [] (Mw ad cI cZ w) rfl [.int (iZ 1), .ref (ad 0)] rfl (Nat.le_of_ble_eq_true rfl) dX2_rent_73 ⟨Nat.le_of_ble_eq_true rfl, Nat.le_of_ble_eq_true rfl⟩ rfl ?_
              have r_126 := m_in01 x 1 100
              refine z_if_eq (tgt := 83) X ⟨by omega, by omega⟩ (by decide) dX2_rent_76 (fun c_127 => ?_) (fun c_127 => ?_)
              · skip
                refine z_iconst X dX2_rent_83 ?_
                refine z_iload X 4 rfl dX2_rent_84 ?_
                refine z_if_eq (tgt := 98) X ⟨by omega, by omega⟩ (by decide) dX2_rent_86 (fun c_128 => ?_) (fun c_128 => ?_)
                · exact absurd c_128 (by omega)
                · skip
                  refine z_iload X 5 rfl dX2_rent_89 ?_
                  refine z_if_eq (tgt := 98) X ⟨by omega, by omega⟩ (by decide) dX2_rent_91 (fun c_129 => ?_) (fun c_129 => ?_)
                  · skip
                    refine z_iconst X dX2_rent_98 ?_
                    refine z_calli X (c_X2_goesK l D ad cI cZ cL w 1 0 0 2 0 (by omega) (by omega) (by omega) (by decide) (by decide)) (cwV 3 X.2.2.2.2.1 gX2_rent_X2_goes rfl rfl rfl (by decide +kernel) ⟨Nat.le_of_ble_eq_true rfl, Nat.le_of_ble_eq_true rfl⟩) rfl [] [] (List.append_nil _).symm 2 0 rfl rfl [] rfl (Nat.le_of_ble_eq_true rfl) dX2_rent_99 ⟨Nat.le_of_ble_eq_true rfl, Nat.le_of_ble_eq_true rfl⟩ (List.append_nil _) ?_
                    refine z_if_ne (tgt := 107) X ⟨by omega, by omega⟩ (by decide) dX2_rent_102 (fun c_130 => ?_) (fun c_130 => ?_)
                    · exact absurd c_130 (by omega)
                    · skip
                      refine z_iconst X dX2_rent_105 ?_
                      exact z_iret X hr hlk (by have e9 : m_rentC w h o x = 2 := ((if_neg (by omega)).trans (if_pos (by omega))); rw [if_neg (by omega)]) (congrArg (Mw ad cI cZ) (by have e9 : m_rentC w h o x = 2 := ((if_neg (by omega)).trans (if_pos (by omega))); unfold m_when; rw [if_neg (by omega), e9])) dX2_rent_106
                  · exact absurd c_129 (by omega)
              · skip
                refine z_iconst X dX2_rent_79 ?_
                refine z_goto (tgt := 84) X (by decide) dX2_rent_80 ?_
                refine z_iload X 4 rfl dX2_rent_84 ?_
                refine z_if_eq (tgt := 98) X ⟨by omega, by omega⟩ (by decide) dX2_rent_86 (fun c_131 => ?_) (fun c_131 => ?_)
                · exact absurd c_131 (by omega)
                · skip
                  refine z_iload X 5 rfl dX2_rent_89 ?_
                  refine z_if_eq (tgt := 98) X ⟨by omega, by omega⟩ (by decide) dX2_rent_91 (fun c_132 => ?_) (fun c_132 => ?_)
                  · skip
                    refine z_iconst X dX2_rent_98 ?_
                    refine z_calli X (c_X2_goesK l D ad cI cZ cL w 1 1 0 3 0 (by omega) (by omega) (by omega) (by decide) (by decide)) (cwV 3 X.2.2.2.2.1 gX2_rent_X2_goes rfl rfl rfl (by decide +kernel) ⟨Nat.le_of_ble_eq_true rfl, Nat.le_of_ble_eq_true rfl⟩) rfl [] [] (List.append_nil _).symm 2 0 rfl rfl [] rfl (Nat.le_of_ble_eq_true rfl) dX2_rent_99 ⟨Nat.le_of_ble_eq_true rfl, Nat.le_of_ble_eq_true rfl⟩ (List.append_nil _) ?_
                    refine z_if_ne (tgt := 107) X ⟨by omega, by omega⟩ (by decide) dX2_rent_102 (fun c_133 => ?_) (fun c_133 => ?_)
                    · exact absurd c_133 (by omega)
                    · skip
                      refine z_iconst X dX2_rent_105 ?_
                      exact z_iret X hr hlk (by have e9 : m_rentC w h o x = 3 := ((if_neg (by omega)).trans ((if_neg (by omega)).trans (if_neg (fun q => by omega)))); rw [if_neg (by omega)]) (congrArg (Mw ad cI cZ) (by have e9 : m_rentC w h o x = 3 := ((if_neg (by omega)).trans ((if_neg (by omega)).trans (if_neg (fun q => by omega)))); unfold m_when; rw [if_neg (by omega), e9])) dX2_rent_106
                  · exact absurd c_132 (by omega)
          · skip
            refine z_iconst X dX2_rent_54 ?_
            refine z_goto (tgt := 59) X (by decide) dX2_rent_55 ?_
            refine z_istore X [1, 2, 3, 4, 5, 0] [(0, .ref (ad 0)), (1, .int (iZ h)), (2, .int (iZ o)), (3, .int (iZ x)), (4, .int (iZ 1)), (5, .int (iZ 1))] rfl (Nat.le_of_ble_eq_true rfl) dX2_rent_59 ?_
            refine z_aload_n X 0 rfl dX2_rent_61 ?_
            refine z_iload X 4 rfl dX2_rent_62 ?_
            refine z_iload_n X 1 rfl dX2_rent_64 ?_
            refine z_iload_n X 2 rfl dX2_rent_65 ?_
            refine z_icmp_eq (tgt := 83) X ⟨by omega, by omega⟩ ⟨by omega, by omega⟩ (by decide) dX2_rent_66 (fun c_134 => ?_) (fun c_134 => ?_)
            · skip
              refine z_iconst X dX2_rent_83 ?_
              refine z_iload X 4 rfl dX2_rent_84 ?_
              refine z_if_eq (tgt := 98) X ⟨by omega, by omega⟩ (by decide) dX2_rent_86 (fun c_135 => ?_) (fun c_135 => ?_)
              · exact absurd c_135 (by omega)
              · skip
                refine z_iload X 5 rfl dX2_rent_89 ?_
                refine z_if_eq (tgt := 98) X ⟨by omega, by omega⟩ (by decide) dX2_rent_91 (fun c_136 => ?_) (fun c_136 => ?_)
                · exact absurd c_136 (by omega)
                · skip
                  refine z_iconst X dX2_rent_94 ?_
                  refine z_goto (tgt := 99) X (by decide) dX2_rent_95 ?_
                  refine z_calli X (c_X2_goesK l D ad cI cZ cL w 1 0 1 2 0 (by omega) (by omega) (by omega) (by decide) (by decide)) (cwV 3 X.2.2.2.2.1 gX2_rent_X2_goes rfl rfl rfl (by decide +kernel) ⟨Nat.le_of_ble_eq_true rfl, Nat.le_of_ble_eq_true rfl⟩) rfl [] [] (List.append_nil _).symm 2 0 rfl rfl [] rfl (Nat.le_of_ble_eq_true rfl) dX2_rent_99 ⟨Nat.le_of_ble_eq_true rfl, Nat.le_of_ble_eq_true rfl⟩ (List.append_nil _) ?_
                  refine z_if_ne (tgt := 107) X ⟨by omega, by omega⟩ (by decide) dX2_rent_102 (fun c_137 => ?_) (fun c_137 => ?_)
                  · exact absurd c_137 (by omega)
                  · skip
                    refine z_iconst X dX2_rent_105 ?_
                    exact z_iret X hr hlk (by have e9 : m_rentC w h o x = 2 := ((if_neg (by omega)).trans (if_pos (by omega))); rw [if_neg (by omega)]) (congrArg (Mw ad cI cZ) (by have e9 : m_rentC w h o x = 2 := ((if_neg (by omega)).trans (if_pos (by omega))); unfold m_when; rw [if_neg (by omega), e9])) dX2_rent_106
            · skip
              refine z_iload_n X 3 rfl dX2_rent_69 ?_
              refine z_iconst X dX2_rent_70 ?_
              refine z_bipush X (by decide) dX2_rent_71 ?_
              refine z_callis X (c_X2_in l D ad cI cZ cL x 1 100 ⟨by omega, by omega⟩ ⟨by omega, by omega⟩ ⟨by omega, by omega⟩) (va_cwS 3 X.2.2.2.2.1 gX2_rent_X2_in rfl rfl rfl (by decide +kernel) ⟨Nat.le_of_ble_eq_true rfl, Nat.le_of_ble_eq_true rfl⟩) rfl [] (Mw ad cI cZ w) rfl [.int (iZ 1), .ref (ad 0)] rfl (Nat.le_of_ble_eq_true rfl) dX2_rent_73 ⟨Nat.le_of_ble_eq_true rfl, Nat.le_of_ble_eq_true rfl⟩ rfl ?_
              have r_138 := m_in01 x 1 100
              refine z_if_eq (tgt := 83) X ⟨by omega, by omega⟩ (by decide) dX2_rent_76 (fun c_139 => ?_) (fun c_139 => ?_)
              · skip
                refine z_iconst X dX2_rent_83 ?_
                refine z_iload X 4 rfl dX2_rent_84 ?_
                refine z_if_eq (tgt := 98) X ⟨by omega, by omega⟩ (by decide) dX2_rent_86 (fun c_140 => ?_) (fun c_140 => ?_)
                · exact absurd c_140 (by omega)
                · skip
                  refine z_iload X 5 rfl dX2_rent_89 ?_
                  refine z_if_eq (tgt := 98) X ⟨by omega, by omega⟩ (by decide) dX2_rent_91 (fun c_141 => ?_) (fun c_141 => ?_)
                  · exact absurd c_141 (by omega)
                  · skip
                    refine z_iconst X dX2_rent_94 ?_
                    refine z_goto (tgt := 99) X (by decide) dX2_rent_95 ?_
                    refine z_calli X (c_X2_goesK l D ad cI cZ cL w 1 0 1 2 0 (by omega) (by omega) (by omega) (by decide) (by decide)) (cwV 3 X.2.2.2.2.1 gX2_rent_X2_goes rfl rfl rfl (by decide +kernel) ⟨Nat.le_of_ble_eq_true rfl, Nat.le_of_ble_eq_true rfl⟩) rfl [] [] (List.append_nil _).symm 2 0 rfl rfl [] rfl (Nat.le_of_ble_eq_true rfl) dX2_rent_99 ⟨Nat.le_of_ble_eq_true rfl, Nat.le_of_ble_eq_true rfl⟩ (List.append_nil _) ?_
                    refine z_if_ne (tgt := 107) X ⟨by omega, by omega⟩ (by decide) dX2_rent_102 (fun c_142 => ?_) (fun c_142 => ?_)
                    · exact absurd c_142 (by omega)
                    · skip
                      refine z_iconst X dX2_rent_105 ?_
                      exact z_iret X hr hlk (by have e9 : m_rentC w h o x = 2 := ((if_neg (by omega)).trans (if_pos (by omega))); rw [if_neg (by omega)]) (congrArg (Mw ad cI cZ) (by have e9 : m_rentC w h o x = 2 := ((if_neg (by omega)).trans (if_pos (by omega))); unfold m_when; rw [if_neg (by omega), e9])) dX2_rent_106
              · skip
                refine z_iconst X dX2_rent_79 ?_
                refine z_goto (tgt := 84) X (by decide) dX2_rent_80 ?_
                refine z_iload X 4 rfl dX2_rent_84 ?_
                refine z_if_eq (tgt := 98) X ⟨by omega, by omega⟩ (by decide) dX2_rent_86 (fun c_143 => ?_) (fun c_143 => ?_)
                · exact absurd c_143 (by omega)
                · skip
                  refine z_iload X 5 rfl dX2_rent_89 ?_
                  refine z_if_eq (tgt := 98) X ⟨by omega, by omega⟩ (by decide) dX2_rent_91 (fun c_144 => ?_) (fun c_144 => ?_)
                  · exact absurd c_144 (by omega)
                  · skip
                    refine z_iconst X dX2_rent_94 ?_
                    refine z_goto (tgt := 99) X (by decide) dX2_rent_95 ?_
                    refine z_calli X (c_X2_goesK l D ad cI cZ cL w 1 1 1 0 1 (by omega) (by omega) (by omega) (by decide) (by decide)) (cwV 3 X.2.2.2.2.1 gX2_rent_X2_goes rfl rfl rfl (by decide +kernel) ⟨Nat.le_of_ble_eq_true rfl, Nat.le_of_ble_eq_true rfl⟩) rfl [] [] (List.append_nil _).symm 2 0 rfl rfl [] rfl (Nat.le_of_ble_eq_true rfl) dX2_rent_99 ⟨Nat.le_of_ble_eq_true rfl, Nat.le_of_ble_eq_true rfl⟩ (List.append_nil _) ?_
                    refine z_if_ne (tgt := 107) X ⟨by omega, by omega⟩ (by decide) dX2_rent_102 (fun c_145 => ?_) (fun c_145 => ?_)
                    · skip
                      refine z_aload_n X 0 rfl dX2_rent_107 ?_
                      refine z_get (v := .ref (ad 5)) X 2 0 4 hiX2 rfl rfl (by decide) ⟨rfl, rfl, rfl⟩ (by decide +kernel) rfl dX2_rent_108 ?_
                      refine z_iload_n X 1 rfl dX2_rent_111 ?_
                      refine z_dup2 X rfl rfl dX2_rent_112 ?_
                      refine z_iald (g := w.1 4) X 5 0 rfl rfl (by omega) (by omega) ⟨by omega, by omega⟩ dX2_rent_113 ?_
                      refine z_iload_n X 3 rfl dX2_rent_114 ?_
                      refine z_isub X dX2_rent_115 ?_
                      refine z_iast (g := w.1 4) X 5 0 (Mw ad cI cZ (gA (gV w 6 0) 4 h ((w.1 4 h) - x))) rfl rfl (by omega) (by omega) ⟨by omega, by omega⟩ rfl dX2_rent_116 ?_
                      refine z_aload_n X 0 rfl dX2_rent_117 ?_
                      refine z_get (v := .ref (ad 5)) X 2 0 4 hiX2 rfl rfl (by decide) ⟨rfl, rfl, rfl⟩ (by decide +kernel) rfl dX2_rent_118 ?_
                      refine z_iload_n X 2 rfl dX2_rent_121 ?_
                      refine z_dup2 X rfl rfl dX2_rent_122 ?_
                      refine z_iald (g := updZ (w.1 4) (h) ((w.1 4 h) - x)) X 5 0 rfl rfl (by omega) (by omega) ⟨by omega, by omega⟩ dX2_rent_123 ?_
                      refine z_iload_n X 3 rfl dX2_rent_124 ?_
                      refine z_iadd X dX2_rent_125 ?_
                      refine z_iast (g := updZ (w.1 4) (h) ((w.1 4 h) - x)) X 5 0 (Mw ad cI cZ (gA (gA (gV w 6 0) 4 h ((w.1 4 h) - x)) 4 o (((updZ (w.1 4) (h) ((w.1 4 h) - x)) o) + x))) rfl rfl (by omega) (by omega) ⟨by omega, by omega⟩ rfl dX2_rent_126 ?_
                      refine z_aload_n X 0 rfl dX2_rent_127 ?_
                      refine z_get (v := .ref (ad 5)) X 2 0 4 hiX2 rfl rfl (by decide) ⟨rfl, rfl, rfl⟩ (by decide +kernel) rfl dX2_rent_128 ?_
                      refine z_iload_n X 2 rfl dX2_rent_131 ?_
                      refine z_iald (g := updZ (updZ (w.1 4) (h) ((w.1 4 h) - x)) (o) (((updZ (w.1 4) (h) ((w.1 4 h) - x)) o) + x)) X 5 0 rfl rfl (by omega) (by omega) ⟨by omega, by omega⟩ dX2_rent_132 ?_
                      have w_146 := updZ_s (updZ (w.1 4) (h) ((w.1 4 h) - x)) o (((updZ (w.1 4) (h) ((w.1 4 h) - x)) o) + x)
                      exact z_iret X hr hlk (by have e9 : m_rentC w h o x = 0 := ((if_neg (by omega)).trans ((if_neg (by omega)).trans (if_pos ⟨by omega, by omega, by omega⟩))); rw [if_pos e9]; rfl) (congrArg (Mw ad cI cZ) (by have e9 : m_rentC w h o x = 0 := ((if_neg (by omega)).trans ((if_neg (by omega)).trans (if_pos ⟨by omega, by omega, by omega⟩))); unfold m_when; rw [if_pos e9]; rfl)) dX2_rent_133
                    · exact absurd c_145 (by omega)
set_option maxHeartbeats 4000000 in
set_option maxRecDepth 100000 in
theorem c_X2_rent_o (l : Launch) (D : va_G) (ad : Nat → Nat) (cI cZ cL : ClassId) (w : GS) (h o x : Int) (hz : zB h) (hzo : zB o) (hz2 : zB x) (hB : Bdm w) (hx : ¬ (1 ≤ x ∧ x ≤ 100)) : zMi l D (zT cI cZ cL) yX2_rent wsX2_rent ({ frames := 3, cells := 0, slots := 0, locals := 63 } : Room) (Mw ad cI cZ w) [.ref (ad 0), .int (iZ h), .int (iZ o), .int (iZ x)] (if m_rentC w h o x = 0 then (m_rentW w h o x).1 4 o else 0) (Mw ad cI cZ (m_when w (m_rentC w h o x) (m_rentW (gV w 6 0) h o x))) 0 0 := by
  refine z_mi (cc := cX2_rent) (maxL := 6) (ret := (some .int)) (by decide) rfl (Nat.le_of_ble_eq_true rfl) ?_
  intro p e s m below meth c A X hr hlk hin
  have hiX2 : ∀ w ∈ wsX20, w ∈ wsX2_rent := by decide +kernel
  refine z_sub (lv' := [(0, .ref (ad 0)), (1, .int (iZ h)), (2, .int (iZ o)), (3, .int (iZ x))]) [0, 1, 2, 3] rfl ?_
  refine z_iload_n X 1 rfl dX2_rent_0 ?_
  refine z_callis X (c_X2_isHouse l D ad cI cZ cL h ⟨by omega, by omega⟩) (va_cwS 1 X.2.2.2.2.1 gX2_rent_X2_isHouse rfl rfl rfl (by decide +kernel) ⟨Nat.le_of_ble_eq_true rfl, Nat.le_of_ble_eq_true rfl⟩) rfl [] (Mw ad cI cZ w) rfl [] rfl (Nat.le_of_ble_eq_true rfl) dX2_rent_1 ⟨Nat.le_of_ble_eq_true rfl, Nat.le_of_ble_eq_true rfl⟩ rfl ?_
  have r_1 := m_in01 h 0 5
  refine z_if_eq (tgt := 18) X ⟨by omega, by omega⟩ (by decide) dX2_rent_4 (fun c_2 => ?_) (fun c_2 => ?_)
  · skip
    refine z_iconst X dX2_rent_18 ?_
    refine z_istore X [1, 2, 3, 4, 0] [(0, .ref (ad 0)), (1, .int (iZ h)), (2, .int (iZ o)), (3, .int (iZ x)), (4, .int (iZ 0))] rfl (Nat.le_of_ble_eq_true rfl) dX2_rent_19 ?_
    refine z_aload_n X 0 rfl dX2_rent_21 ?_
    refine z_iload_n X 1 rfl dX2_rent_22 ?_
    refine z_calli X (c_X2_belongs l D ad cI cZ cL w h ⟨by omega, by omega⟩ hB) (cwV 1 X.2.2.2.2.1 gX2_rent_X2_belongs rfl rfl rfl (by decide +kernel) ⟨Nat.le_of_ble_eq_true rfl, Nat.le_of_ble_eq_true rfl⟩) rfl [] [] (List.append_nil _).symm 2 0 rfl rfl [] rfl (Nat.le_of_ble_eq_true rfl) dX2_rent_23 ⟨Nat.le_of_ble_eq_true rfl, Nat.le_of_ble_eq_true rfl⟩ (List.append_nil _) ?_
    have r_3 := m_belongs01 w h
    refine z_if_eq (tgt := 58) X ⟨by omega, by omega⟩ (by decide) dX2_rent_26 (fun c_4 => ?_) (fun c_4 => ?_)
    · skip
      refine z_iconst X dX2_rent_58 ?_
      refine z_istore X [1, 2, 3, 4, 5, 0] [(0, .ref (ad 0)), (1, .int (iZ h)), (2, .int (iZ o)), (3, .int (iZ x)), (4, .int (iZ 0)), (5, .int (iZ 0))] rfl (Nat.le_of_ble_eq_true rfl) dX2_rent_59 ?_
      refine z_aload_n X 0 rfl dX2_rent_61 ?_
      refine z_iload X 4 rfl dX2_rent_62 ?_
      refine z_iload_n X 1 rfl dX2_rent_64 ?_
      refine z_iload_n X 2 rfl dX2_rent_65 ?_
      refine z_icmp_eq (tgt := 83) X ⟨by omega, by omega⟩ ⟨by omega, by omega⟩ (by decide) dX2_rent_66 (fun c_5 => ?_) (fun c_5 => ?_)
      · skip
        refine z_iconst X dX2_rent_83 ?_
        refine z_iload X 4 rfl dX2_rent_84 ?_
        refine z_if_eq (tgt := 98) X ⟨by omega, by omega⟩ (by decide) dX2_rent_86 (fun c_6 => ?_) (fun c_6 => ?_)
        · skip
          refine z_iconst X dX2_rent_98 ?_
          refine z_calli X (c_X2_goesK l D ad cI cZ cL w 0 0 0 1 0 (by omega) (by omega) (by omega) (by decide) (by decide)) (cwV 3 X.2.2.2.2.1 gX2_rent_X2_goes rfl rfl rfl (by decide +kernel) ⟨Nat.le_of_ble_eq_true rfl, Nat.le_of_ble_eq_true rfl⟩) rfl [] [] (List.append_nil _).symm 2 0 rfl rfl [] rfl (Nat.le_of_ble_eq_true rfl) dX2_rent_99 ⟨Nat.le_of_ble_eq_true rfl, Nat.le_of_ble_eq_true rfl⟩ (List.append_nil _) ?_
          refine z_if_ne (tgt := 107) X ⟨by omega, by omega⟩ (by decide) dX2_rent_102 (fun c_7 => ?_) (fun c_7 => ?_)
          · exact absurd c_7 (by omega)
          · skip
            refine z_iconst X dX2_rent_105 ?_
            exact z_iret X hr hlk (by have e9 : m_rentC w h o x = 1 := (if_pos (by omega)); rw [if_neg (by omega)]) (congrArg (Mw ad cI cZ) (by have e9 : m_rentC w h o x = 1 := (if_pos (by omega)); unfold m_when; rw [if_neg (by omega), e9])) dX2_rent_106
        · exact absurd c_6 (by omega)
      · skip
        refine z_iload_n X 3 rfl dX2_rent_69 ?_
        refine z_iconst X dX2_rent_70 ?_
        refine z_bipush X (by decide) dX2_rent_71 ?_
        refine z_callis X (c_X2_in l D ad cI cZ cL x 1 100 ⟨by omega, by omega⟩ ⟨by omega, by omega⟩ ⟨by omega, by omega⟩) (va_cwS 3 X.2.2.2.2.1 gX2_rent_X2_in rfl rfl rfl (by decide +kernel) ⟨Nat.le_of_ble_eq_true rfl, Nat.le_of_ble_eq_true rfl⟩) rfl [] (Mw ad cI cZ w) rfl [.int (iZ 0), .ref (ad 0)] rfl (Nat.le_of_ble_eq_true rfl) dX2_rent_73 ⟨Nat.le_of_ble_eq_true rfl, Nat.le_of_ble_eq_true rfl⟩ rfl ?_
        have r_8 := m_in_sp x 1 100
        refine z_if_eq (tgt := 83) X ⟨by omega, by omega⟩ (by decide) dX2_rent_76 (fun c_9 => ?_) (fun c_9 => ?_)
        · skip
          refine z_iconst X dX2_rent_83 ?_
          refine z_iload X 4 rfl dX2_rent_84 ?_
          refine z_if_eq (tgt := 98) X ⟨by omega, by omega⟩ (by decide) dX2_rent_86 (fun c_10 => ?_) (fun c_10 => ?_)
          · skip
            refine z_iconst X dX2_rent_98 ?_
            refine z_calli X (c_X2_goesK l D ad cI cZ cL w 0 0 0 1 0 (by omega) (by omega) (by omega) (by decide) (by decide)) (cwV 3 X.2.2.2.2.1 gX2_rent_X2_goes rfl rfl rfl (by decide +kernel) ⟨Nat.le_of_ble_eq_true rfl, Nat.le_of_ble_eq_true rfl⟩) rfl [] [] (List.append_nil _).symm 2 0 rfl rfl [] rfl (Nat.le_of_ble_eq_true rfl) dX2_rent_99 ⟨Nat.le_of_ble_eq_true rfl, Nat.le_of_ble_eq_true rfl⟩ (List.append_nil _) ?_
            refine z_if_ne (tgt := 107) X ⟨by omega, by omega⟩ (by decide) dX2_rent_102 (fun c_11 => ?_) (fun c_11 => ?_)
            · exact absurd c_11 (by omega)
            · skip
              refine z_iconst X dX2_rent_105 ?_
              exact z_iret X hr hlk (by have e9 : m_rentC w h o x = 1 := (if_pos (by omega)); rw [if_neg (by omega)]) (congrArg (Mw ad cI cZ) (by have e9 : m_rentC w h o x = 1 := (if_pos (by omega)); unfold m_when; rw [if_neg (by omega), e9])) dX2_rent_106
          · exact absurd c_10 (by omega)
        · exact absurd c_9 (by omega)
    · skip
      refine z_aload_n X 0 rfl dX2_rent_29 ?_
      refine z_iload_n X 2 rfl dX2_rent_30 ?_
      refine z_calli X (c_X2_belongs l D ad cI cZ cL w o ⟨by omega, by omega⟩ hB) (cwV 1 X.2.2.2.2.1 gX2_rent_X2_belongs rfl rfl rfl (by decide +kernel) ⟨Nat.le_of_ble_eq_true rfl, Nat.le_of_ble_eq_true rfl⟩) rfl [] [] (List.append_nil _).symm 2 0 rfl rfl [] rfl (Nat.le_of_ble_eq_true rfl) dX2_rent_31 ⟨Nat.le_of_ble_eq_true rfl, Nat.le_of_ble_eq_true rfl⟩ (List.append_nil _) ?_
      have r_12 := m_belongs01 w o
      refine z_if_eq (tgt := 58) X ⟨by omega, by omega⟩ (by decide) dX2_rent_34 (fun c_13 => ?_) (fun c_13 => ?_)
      · skip
        refine z_iconst X dX2_rent_58 ?_
        refine z_istore X [1, 2, 3, 4, 5, 0] [(0, .ref (ad 0)), (1, .int (iZ h)), (2, .int (iZ o)), (3, .int (iZ x)), (4, .int (iZ 0)), (5, .int (iZ 0))] rfl (Nat.le_of_ble_eq_true rfl) dX2_rent_59 ?_
        refine z_aload_n X 0 rfl dX2_rent_61 ?_
        refine z_iload X 4 rfl dX2_rent_62 ?_
        refine z_iload_n X 1 rfl dX2_rent_64 ?_
        refine z_iload_n X 2 rfl dX2_rent_65 ?_
        refine z_icmp_eq (tgt := 83) X ⟨by omega, by omega⟩ ⟨by omega, by omega⟩ (by decide) dX2_rent_66 (fun c_14 => ?_) (fun c_14 => ?_)
        · skip
          refine z_iconst X dX2_rent_83 ?_
          refine z_iload X 4 rfl dX2_rent_84 ?_
          refine z_if_eq (tgt := 98) X ⟨by omega, by omega⟩ (by decide) dX2_rent_86 (fun c_15 => ?_) (fun c_15 => ?_)
          · skip
            refine z_iconst X dX2_rent_98 ?_
            refine z_calli X (c_X2_goesK l D ad cI cZ cL w 0 0 0 1 0 (by omega) (by omega) (by omega) (by decide) (by decide)) (cwV 3 X.2.2.2.2.1 gX2_rent_X2_goes rfl rfl rfl (by decide +kernel) ⟨Nat.le_of_ble_eq_true rfl, Nat.le_of_ble_eq_true rfl⟩) rfl [] [] (List.append_nil _).symm 2 0 rfl rfl [] rfl (Nat.le_of_ble_eq_true rfl) dX2_rent_99 ⟨Nat.le_of_ble_eq_true rfl, Nat.le_of_ble_eq_true rfl⟩ (List.append_nil _) ?_
            refine z_if_ne (tgt := 107) X ⟨by omega, by omega⟩ (by decide) dX2_rent_102 (fun c_16 => ?_) (fun c_16 => ?_)
            · exact absurd c_16 (by omega)
            · skip
              refine z_iconst X dX2_rent_105 ?_
              exact z_iret X hr hlk (by have e9 : m_rentC w h o x = 1 := (if_pos (by omega)); rw [if_neg (by omega)]) (congrArg (Mw ad cI cZ) (by have e9 : m_rentC w h o x = 1 := (if_pos (by omega)); unfold m_when; rw [if_neg (by omega), e9])) dX2_rent_106
          · exact absurd c_15 (by omega)
        · skip
          refine z_iload_n X 3 rfl dX2_rent_69 ?_
          refine z_iconst X dX2_rent_70 ?_
          refine z_bipush X (by decide) dX2_rent_71 ?_
          refine z_callis X (c_X2_in l D ad cI cZ cL x 1 100 ⟨by omega, by omega⟩ ⟨by omega, by omega⟩ ⟨by omega, by omega⟩) (va_cwS 3 X.2.2.2.2.1 gX2_rent_X2_in rfl rfl rfl (by decide +kernel) ⟨Nat.le_of_ble_eq_true rfl, Nat.le_of_ble_eq_true rfl⟩) rfl [] (Mw ad cI cZ w) rfl [.int (iZ 0), .ref (ad 0)] rfl (Nat.le_of_ble_eq_true rfl) dX2_rent_73 ⟨Nat.le_of_ble_eq_true rfl, Nat.le_of_ble_eq_true rfl⟩ rfl ?_
          have r_17 := m_in_sp x 1 100
          refine z_if_eq (tgt := 83) X ⟨by omega, by omega⟩ (by decide) dX2_rent_76 (fun c_18 => ?_) (fun c_18 => ?_)
          · skip
            refine z_iconst X dX2_rent_83 ?_
            refine z_iload X 4 rfl dX2_rent_84 ?_
            refine z_if_eq (tgt := 98) X ⟨by omega, by omega⟩ (by decide) dX2_rent_86 (fun c_19 => ?_) (fun c_19 => ?_)
            · skip
              refine z_iconst X dX2_rent_98 ?_
              refine z_calli X (c_X2_goesK l D ad cI cZ cL w 0 0 0 1 0 (by omega) (by omega) (by omega) (by decide) (by decide)) (cwV 3 X.2.2.2.2.1 gX2_rent_X2_goes rfl rfl rfl (by decide +kernel) ⟨Nat.le_of_ble_eq_true rfl, Nat.le_of_ble_eq_true rfl⟩) rfl [] [] (List.append_nil _).symm 2 0 rfl rfl [] rfl (Nat.le_of_ble_eq_true rfl) dX2_rent_99 ⟨Nat.le_of_ble_eq_true rfl, Nat.le_of_ble_eq_true rfl⟩ (List.append_nil _) ?_
              refine z_if_ne (tgt := 107) X ⟨by omega, by omega⟩ (by decide) dX2_rent_102 (fun c_20 => ?_) (fun c_20 => ?_)
              · exact absurd c_20 (by omega)
              · skip
                refine z_iconst X dX2_rent_105 ?_
                exact z_iret X hr hlk (by have e9 : m_rentC w h o x = 1 := (if_pos (by omega)); rw [if_neg (by omega)]) (congrArg (Mw ad cI cZ) (by have e9 : m_rentC w h o x = 1 := (if_pos (by omega)); unfold m_when; rw [if_neg (by omega), e9])) dX2_rent_106
            · exact absurd c_19 (by omega)
          · exact absurd c_18 (by omega)
      · skip
        have hh9 := m_belongs_in (w := w) (h := h) (by assumption)
        have ho9 := m_belongs_in (w := w) (h := o) (by assumption)
        refine z_aload_n X 0 rfl dX2_rent_37 ?_
        refine z_get (v := .ref (ad 5)) X 2 0 4 hiX2 rfl rfl (by decide) ⟨rfl, rfl, rfl⟩ (by decide +kernel) rfl dX2_rent_38 ?_
        refine z_iload_n X 1 rfl dX2_rent_41 ?_
        refine z_iald (g := w.1 4) X 5 0 rfl rfl (by omega) (by omega) ⟨by omega, by omega⟩ dX2_rent_42 ?_
        have b_21 := hB 4 rfl h
        refine z_iload_n X 3 rfl dX2_rent_43 ?_
        refine z_isub X dX2_rent_44 ?_
        refine z_aload_n X 0 rfl dX2_rent_45 ?_
        refine z_get (v := .ref (ad 6)) X 2 0 5 hiX2 rfl rfl (by decide) ⟨rfl, rfl, rfl⟩ (by decide +kernel) rfl dX2_rent_46 ?_
        refine z_iload_n X 1 rfl dX2_rent_49 ?_
        refine z_iald (g := w.1 5) X 6 0 rfl rfl (by omega) (by omega) ⟨by omega, by omega⟩ dX2_rent_50 ?_
        have b_22 := hB 5 rfl h
        refine z_icmpR_lt (tgt := 58) X (by decide) dX2_rent_51 ?_ ?_
        · skip
          refine z_iconst X dX2_rent_58 ?_
          refine z_istore X [1, 2, 3, 4, 5, 0] [(0, .ref (ad 0)), (1, .int (iZ h)), (2, .int (iZ o)), (3, .int (iZ x)), (4, .int (iZ 0)), (5, .int (iZ 0))] rfl (Nat.le_of_ble_eq_true rfl) dX2_rent_59 ?_
          refine z_aload_n X 0 rfl dX2_rent_61 ?_
          refine z_iload X 4 rfl dX2_rent_62 ?_
          refine z_iload_n X 1 rfl dX2_rent_64 ?_
          refine z_iload_n X 2 rfl dX2_rent_65 ?_
          refine z_icmp_eq (tgt := 83) X ⟨by omega, by omega⟩ ⟨by omega, by omega⟩ (by decide) dX2_rent_66 (fun c_24 => ?_) (fun c_24 => ?_)
          · skip
            refine z_iconst X dX2_rent_83 ?_
            refine z_iload X 4 rfl dX2_rent_84 ?_
            refine z_if_eq (tgt := 98) X ⟨by omega, by omega⟩ (by decide) dX2_rent_86 (fun c_25 => ?_) (fun c_25 => ?_)
            · skip
              refine z_iconst X dX2_rent_98 ?_
              refine z_calli X (c_X2_goesK l D ad cI cZ cL w 0 0 0 1 0 (by omega) (by omega) (by omega) (by decide) (by decide)) (cwV 3 X.2.2.2.2.1 gX2_rent_X2_goes rfl rfl rfl (by decide +kernel) ⟨Nat.le_of_ble_eq_true rfl, Nat.le_of_ble_eq_true rfl⟩) rfl [] [] (List.append_nil _).symm 2 0 rfl rfl [] rfl (Nat.le_of_ble_eq_true rfl) dX2_rent_99 ⟨Nat.le_of_ble_eq_true rfl, Nat.le_of_ble_eq_true rfl⟩ (List.append_nil _) ?_
              refine z_if_ne (tgt := 107) X ⟨by omega, by omega⟩ (by decide) dX2_rent_102 (fun c_26 => ?_) (fun c_26 => ?_)
              · exact absurd c_26 (by omega)
              · skip
                refine z_iconst X dX2_rent_105 ?_
                exact z_iret X hr hlk (by have e9 : m_rentC w h o x = 1 := (if_pos (by omega)); rw [if_neg (by omega)]) (congrArg (Mw ad cI cZ) (by have e9 : m_rentC w h o x = 1 := (if_pos (by omega)); unfold m_when; rw [if_neg (by omega), e9])) dX2_rent_106
            · exact absurd c_25 (by omega)
          · skip
            refine z_iload_n X 3 rfl dX2_rent_69 ?_
            refine z_iconst X dX2_rent_70 ?_
            refine z_bipush X (by decide) dX2_rent_71 ?_
            refine z_callis X (c_X2_in l D ad cI cZ cL x 1 100 ⟨by omega, by omega⟩ ⟨by omega, by omega⟩ ⟨by omega, by omega⟩) (va_cwS 3 X.2.2.2.2.1 gX2_rent_X2_in rfl rfl rfl (by decide +kernel) ⟨Nat.le_of_ble_eq_true rfl, Nat.le_of_ble_eq_true rfl⟩) rfl [] (Mw ad cI cZ w) rfl [.int (iZ 0), .ref (ad 0)] rfl (Nat.le_of_ble_eq_true rfl) dX2_rent_73 ⟨Nat.le_of_ble_eq_true rfl, Nat.le_of_ble_eq_true rfl⟩ rfl ?_
            have r_27 := m_in_sp x 1 100
            refine z_if_eq (tgt := 83) X ⟨by omega, by omega⟩ (by decide) dX2_rent_76 (fun c_28 => ?_) (fun c_28 => ?_)
            · skip
              refine z_iconst X dX2_rent_83 ?_
              refine z_iload X 4 rfl dX2_rent_84 ?_
              refine z_if_eq (tgt := 98) X ⟨by omega, by omega⟩ (by decide) dX2_rent_86 (fun c_29 => ?_) (fun c_29 => ?_)
              · skip
                refine z_iconst X dX2_rent_98 ?_
                refine z_calli X (c_X2_goesK l D ad cI cZ cL w 0 0 0 1 0 (by omega) (by omega) (by omega) (by decide) (by decide)) (cwV 3 X.2.2.2.2.1 gX2_rent_X2_goes rfl rfl rfl (by decide +kernel) ⟨Nat.le_of_ble_eq_true rfl, Nat.le_of_ble_eq_true rfl⟩) rfl [] [] (List.append_nil _).symm 2 0 rfl rfl [] rfl (Nat.le_of_ble_eq_true rfl) dX2_rent_99 ⟨Nat.le_of_ble_eq_true rfl, Nat.le_of_ble_eq_true rfl⟩ (List.append_nil _) ?_
                refine z_if_ne (tgt := 107) X ⟨by omega, by omega⟩ (by decide) dX2_rent_102 (fun c_30 => ?_) (fun c_30 => ?_)
                · exact absurd c_30 (by omega)
                · skip
                  refine z_iconst X dX2_rent_105 ?_
                  exact z_iret X hr hlk (by have e9 : m_rentC w h o x = 1 := (if_pos (by omega)); rw [if_neg (by omega)]) (congrArg (Mw ad cI cZ) (by have e9 : m_rentC w h o x = 1 := (if_pos (by omega)); unfold m_when; rw [if_neg (by omega), e9])) dX2_rent_106
              · exact absurd c_29 (by omega)
            · exact absurd c_28 (by omega)
        · skip
          refine z_iconst X dX2_rent_54 ?_
          refine z_goto (tgt := 59) X (by decide) dX2_rent_55 ?_
          refine z_istore X [1, 2, 3, 4, 5, 0] [(0, .ref (ad 0)), (1, .int (iZ h)), (2, .int (iZ o)), (3, .int (iZ x)), (4, .int (iZ 0)), (5, .int (iZ 1))] rfl (Nat.le_of_ble_eq_true rfl) dX2_rent_59 ?_
          refine z_aload_n X 0 rfl dX2_rent_61 ?_
          refine z_iload X 4 rfl dX2_rent_62 ?_
          refine z_iload_n X 1 rfl dX2_rent_64 ?_
          refine z_iload_n X 2 rfl dX2_rent_65 ?_
          refine z_icmp_eq (tgt := 83) X ⟨by omega, by omega⟩ ⟨by omega, by omega⟩ (by decide) dX2_rent_66 (fun c_31 => ?_) (fun c_31 => ?_)
          · skip
            refine z_iconst X dX2_rent_83 ?_
            refine z_iload X 4 rfl dX2_rent_84 ?_
            refine z_if_eq (tgt := 98) X ⟨by omega, by omega⟩ (by decide) dX2_rent_86 (fun c_32 => ?_) (fun c_32 => ?_)
            · skip
              refine z_iconst X dX2_rent_98 ?_
              refine z_calli X (c_X2_goesK l D ad cI cZ cL w 0 0 0 1 0 (by omega) (by omega) (by omega) (by decide) (by decide)) (cwV 3 X.2.2.2.2.1 gX2_rent_X2_goes rfl rfl rfl (by decide +kernel) ⟨Nat.le_of_ble_eq_true rfl, Nat.le_of_ble_eq_true rfl⟩) rfl [] [] (List.append_nil _).symm 2 0 rfl rfl [] rfl (Nat.le_of_ble_eq_true rfl) dX2_rent_99 ⟨Nat.le_of_ble_eq_true rfl, Nat.le_of_ble_eq_true rfl⟩ (List.append_nil _) ?_
              refine z_if_ne (tgt := 107) X ⟨by omega, by omega⟩ (by decide) dX2_rent_102 (fun c_33 => ?_) (fun c_33 => ?_)
              · exact absurd c_33 (by omega)
              · skip
                refine z_iconst X dX2_rent_105 ?_
                exact z_iret X hr hlk (by have e9 : m_rentC w h o x = 1 := (if_pos (by omega)); rw [if_neg (by omega)]) (congrArg (Mw ad cI cZ) (by have e9 : m_rentC w h o x = 1 := (if_pos (by omega)); unfold m_when; rw [if_neg (by omega), e9])) dX2_rent_106
            · exact absurd c_32 (by omega)
          · skip
            refine z_iload_n X 3 rfl dX2_rent_69 ?_
            refine z_iconst X dX2_rent_70 ?_
            refine z_bipush X (by decide) dX2_rent_71 ?_
            refine z_callis X (c_X2_in l D ad cI cZ cL x 1 100 ⟨by omega, by omega⟩ ⟨by omega, by omega⟩ ⟨by omega, by omega⟩) (va_cwS 3 X.2.2.2.2.1 gX2_rent_X2_in rfl rfl rfl (by decide +kernel) ⟨Nat.le_of_ble_eq_true rfl, Nat.le_of_ble_eq_true rfl⟩) rfl [] (Mw ad cI cZ w) rfl [.int (iZ 0), .ref (ad 0)] rfl (Nat.le_of_ble_eq_true rfl) dX2_rent_73 ⟨Nat.le_of_ble_eq_true rfl, Nat.le_of_ble_eq_true rfl⟩ rfl ?_
            have r_34 := m_in_sp x 1 100
            refine z_if_eq (tgt := 83) X ⟨by omega, by omega⟩ (by decide) dX2_rent_76 (fun c_35 => ?_) (fun c_35 => ?_)
            · skip
              refine z_iconst X dX2_rent_83 ?_
              refine z_iload X 4 rfl dX2_rent_84 ?_
              refine z_if_eq (tgt := 98) X ⟨by omega, by omega⟩ (by decide) dX2_rent_86 (fun c_36 => ?_) (fun c_36 => ?_)
              · skip
                refine z_iconst X dX2_rent_98 ?_
                refine z_calli X (c_X2_goesK l D ad cI cZ cL w 0 0 0 1 0 (by omega) (by omega) (by omega) (by decide) (by decide)) (cwV 3 X.2.2.2.2.1 gX2_rent_X2_goes rfl rfl rfl (by decide +kernel) ⟨Nat.le_of_ble_eq_true rfl, Nat.le_of_ble_eq_true rfl⟩) rfl [] [] (List.append_nil _).symm 2 0 rfl rfl [] rfl (Nat.le_of_ble_eq_true rfl) dX2_rent_99 ⟨Nat.le_of_ble_eq_true rfl, Nat.le_of_ble_eq_true rfl⟩ (List.append_nil _) ?_
                refine z_if_ne (tgt := 107) X ⟨by omega, by omega⟩ (by decide) dX2_rent_102 (fun c_37 => ?_) (fun c_37 => ?_)
                · exact absurd c_37 (by omega)
                · skip
                  refine z_iconst X dX2_rent_105 ?_
                  exact z_iret X hr hlk (by have e9 : m_rentC w h o x = 1 := (if_pos (by omega)); rw [if_neg (by omega)]) (congrArg (Mw ad cI cZ) (by have e9 : m_rentC w h o x = 1 := (if_pos (by omega)); unfold m_when; rw [if_neg (by omega), e9])) dX2_rent_106
              · exact absurd c_36 (by omega)
            · exact absurd c_35 (by omega)
  · skip
    refine z_iload_n X 2 rfl dX2_rent_7 ?_
    refine z_callis X (c_X2_isHouse l D ad cI cZ cL o ⟨by omega, by omega⟩) (va_cwS 1 X.2.2.2.2.1 gX2_rent_X2_isHouse rfl rfl rfl (by decide +kernel) ⟨Nat.le_of_ble_eq_true rfl, Nat.le_of_ble_eq_true rfl⟩) rfl [] (Mw ad cI cZ w) rfl [] rfl (Nat.le_of_ble_eq_true rfl) dX2_rent_8 ⟨Nat.le_of_ble_eq_true rfl, Nat.le_of_ble_eq_true rfl⟩ rfl ?_
    have r_38 := m_in01 o 0 5
    refine z_if_eq (tgt := 18) X ⟨by omega, by omega⟩ (by decide) dX2_rent_11 (fun c_39 => ?_) (fun c_39 => ?_)
    · skip
      refine z_iconst X dX2_rent_18 ?_
      refine z_istore X [1, 2, 3, 4, 0] [(0, .ref (ad 0)), (1, .int (iZ h)), (2, .int (iZ o)), (3, .int (iZ x)), (4, .int (iZ 0))] rfl (Nat.le_of_ble_eq_true rfl) dX2_rent_19 ?_
      refine z_aload_n X 0 rfl dX2_rent_21 ?_
      refine z_iload_n X 1 rfl dX2_rent_22 ?_
      refine z_calli X (c_X2_belongs l D ad cI cZ cL w h ⟨by omega, by omega⟩ hB) (cwV 1 X.2.2.2.2.1 gX2_rent_X2_belongs rfl rfl rfl (by decide +kernel) ⟨Nat.le_of_ble_eq_true rfl, Nat.le_of_ble_eq_true rfl⟩) rfl [] [] (List.append_nil _).symm 2 0 rfl rfl [] rfl (Nat.le_of_ble_eq_true rfl) dX2_rent_23 ⟨Nat.le_of_ble_eq_true rfl, Nat.le_of_ble_eq_true rfl⟩ (List.append_nil _) ?_
      have r_40 := m_belongs01 w h
      refine z_if_eq (tgt := 58) X ⟨by omega, by omega⟩ (by decide) dX2_rent_26 (fun c_41 => ?_) (fun c_41 => ?_)
      · skip
        refine z_iconst X dX2_rent_58 ?_
        refine z_istore X [1, 2, 3, 4, 5, 0] [(0, .ref (ad 0)), (1, .int (iZ h)), (2, .int (iZ o)), (3, .int (iZ x)), (4, .int (iZ 0)), (5, .int (iZ 0))] rfl (Nat.le_of_ble_eq_true rfl) dX2_rent_59 ?_
        refine z_aload_n X 0 rfl dX2_rent_61 ?_
        refine z_iload X 4 rfl dX2_rent_62 ?_
        refine z_iload_n X 1 rfl dX2_rent_64 ?_
        refine z_iload_n X 2 rfl dX2_rent_65 ?_
        refine z_icmp_eq (tgt := 83) X ⟨by omega, by omega⟩ ⟨by omega, by omega⟩ (by decide) dX2_rent_66 (fun c_42 => ?_) (fun c_42 => ?_)
        · skip
          refine z_iconst X dX2_rent_83 ?_
          refine z_iload X 4 rfl dX2_rent_84 ?_
          refine z_if_eq (tgt := 98) X ⟨by omega, by omega⟩ (by decide) dX2_rent_86 (fun c_43 => ?_) (fun c_43 => ?_)
          · skip
            refine z_iconst X dX2_rent_98 ?_
            refine z_calli X (c_X2_goesK l D ad cI cZ cL w 0 0 0 1 0 (by omega) (by omega) (by omega) (by decide) (by decide)) (cwV 3 X.2.2.2.2.1 gX2_rent_X2_goes rfl rfl rfl (by decide +kernel) ⟨Nat.le_of_ble_eq_true rfl, Nat.le_of_ble_eq_true rfl⟩) rfl [] [] (List.append_nil _).symm 2 0 rfl rfl [] rfl (Nat.le_of_ble_eq_true rfl) dX2_rent_99 ⟨Nat.le_of_ble_eq_true rfl, Nat.le_of_ble_eq_true rfl⟩ (List.append_nil _) ?_
            refine z_if_ne (tgt := 107) X ⟨by omega, by omega⟩ (by decide) dX2_rent_102 (fun c_44 => ?_) (fun c_44 => ?_)
            · exact absurd c_44 (by omega)
            · skip
              refine z_iconst X dX2_rent_105 ?_
              exact z_iret X hr hlk (by have e9 : m_rentC w h o x = 1 := (if_pos (by omega)); rw [if_neg (by omega)]) (congrArg (Mw ad cI cZ) (by have e9 : m_rentC w h o x = 1 := (if_pos (by omega)); unfold m_when; rw [if_neg (by omega), e9])) dX2_rent_106
          · exact absurd c_43 (by omega)
        · skip
          refine z_iload_n X 3 rfl dX2_rent_69 ?_
          refine z_iconst X dX2_rent_70 ?_
          refine z_bipush X (by decide) dX2_rent_71 ?_
          refine z_callis X (c_X2_in l D ad cI cZ cL x 1 100 ⟨by omega, by omega⟩ ⟨by omega, by omega⟩ ⟨by omega, by omega⟩) (va_cwS 3 X.2.2.2.2.1 gX2_rent_X2_in rfl rfl rfl (by decide +kernel) ⟨Nat.le_of_ble_eq_true rfl, Nat.le_of_ble_eq_true rfl⟩) rfl [] (Mw ad cI cZ w) rfl [.int (iZ 0), .ref (ad 0)] rfl (Nat.le_of_ble_eq_true rfl) dX2_rent_73 ⟨Nat.le_of_ble_eq_true rfl, Nat.le_of_ble_eq_true rfl⟩ rfl ?_
          have r_45 := m_in_sp x 1 100
          refine z_if_eq (tgt := 83) X ⟨by omega, by omega⟩ (by decide) dX2_rent_76 (fun c_46 => ?_) (fun c_46 => ?_)
          · skip
            refine z_iconst X dX2_rent_83 ?_
            refine z_iload X 4 rfl dX2_rent_84 ?_
            refine z_if_eq (tgt := 98) X ⟨by omega, by omega⟩ (by decide) dX2_rent_86 (fun c_47 => ?_) (fun c_47 => ?_)
            · skip
              refine z_iconst X dX2_rent_98 ?_
              refine z_calli X (c_X2_goesK l D ad cI cZ cL w 0 0 0 1 0 (by omega) (by omega) (by omega) (by decide) (by decide)) (cwV 3 X.2.2.2.2.1 gX2_rent_X2_goes rfl rfl rfl (by decide +kernel) ⟨Nat.le_of_ble_eq_true rfl, Nat.le_of_ble_eq_true rfl⟩) rfl [] [] (List.append_nil _).symm 2 0 rfl rfl [] rfl (Nat.le_of_ble_eq_true rfl) dX2_rent_99 ⟨Nat.le_of_ble_eq_true rfl, Nat.le_of_ble_eq_true rfl⟩ (List.append_nil _) ?_
              refine z_if_ne (tgt := 107) X ⟨by omega, by omega⟩ (by decide) dX2_rent_102 (fun c_48 => ?_) (fun c_48 => ?_)
              · exact absurd c_48 (by omega)
              · skip
                refine z_iconst X dX2_rent_105 ?_
                exact z_iret X hr hlk (by have e9 : m_rentC w h o x = 1 := (if_pos (by omega)); rw [if_neg (by omega)]) (congrArg (Mw ad cI cZ) (by have e9 : m_rentC w h o x = 1 := (if_pos (by omega)); unfold m_when; rw [if_neg (by omega), e9])) dX2_rent_106
            · exact absurd c_47 (by omega)
          · exact absurd c_46 (by omega)
      · skip
        refine z_aload_n X 0 rfl dX2_rent_29 ?_
        refine z_iload_n X 2 rfl dX2_rent_30 ?_
        refine z_calli X (c_X2_belongs l D ad cI cZ cL w o ⟨by omega, by omega⟩ hB) (cwV 1 X.2.2.2.2.1 gX2_rent_X2_belongs rfl rfl rfl (by decide +kernel) ⟨Nat.le_of_ble_eq_true rfl, Nat.le_of_ble_eq_true rfl⟩) rfl [] [] (List.append_nil _).symm 2 0 rfl rfl [] rfl (Nat.le_of_ble_eq_true rfl) dX2_rent_31 ⟨Nat.le_of_ble_eq_true rfl, Nat.le_of_ble_eq_true rfl⟩ (List.append_nil _) ?_
        have r_49 := m_belongs01 w o
        refine z_if_eq (tgt := 58) X ⟨by omega, by omega⟩ (by decide) dX2_rent_34 (fun c_50 => ?_) (fun c_50 => ?_)
        · skip
          refine z_iconst X dX2_rent_58 ?_
          refine z_istore X [1, 2, 3, 4, 5, 0] [(0, .ref (ad 0)), (1, .int (iZ h)), (2, .int (iZ o)), (3, .int (iZ x)), (4, .int (iZ 0)), (5, .int (iZ 0))] rfl (Nat.le_of_ble_eq_true rfl) dX2_rent_59 ?_
          refine z_aload_n X 0 rfl dX2_rent_61 ?_
          refine z_iload X 4 rfl dX2_rent_62 ?_
          refine z_iload_n X 1 rfl dX2_rent_64 ?_
          refine z_iload_n X 2 rfl dX2_rent_65 ?_
          refine z_icmp_eq (tgt := 83) X ⟨by omega, by omega⟩ ⟨by omega, by omega⟩ (by decide) dX2_rent_66 (fun c_51 => ?_) (fun c_51 => ?_)
          · skip
            refine z_iconst X dX2_rent_83 ?_
            refine z_iload X 4 rfl dX2_rent_84 ?_
            refine z_if_eq (tgt := 98) X ⟨by omega, by omega⟩ (by decide) dX2_rent_86 (fun c_52 => ?_) (fun c_52 => ?_)
            · skip
              refine z_iconst X dX2_rent_98 ?_
              refine z_calli X (c_X2_goesK l D ad cI cZ cL w 0 0 0 1 0 (by omega) (by omega) (by omega) (by decide) (by decide)) (cwV 3 X.2.2.2.2.1 gX2_rent_X2_goes rfl rfl rfl (by decide +kernel) ⟨Nat.le_of_ble_eq_true rfl, Nat.le_of_ble_eq_true rfl⟩) rfl [] [] (List.append_nil _).symm 2 0 rfl rfl [] rfl (Nat.le_of_ble_eq_true rfl) dX2_rent_99 ⟨Nat.le_of_ble_eq_true rfl, Nat.le_of_ble_eq_true rfl⟩ (List.append_nil _) ?_
              refine z_if_ne (tgt := 107) X ⟨by omega, by omega⟩ (by decide) dX2_rent_102 (fun c_53 => ?_) (fun c_53 => ?_)
              · exact absurd c_53 (by omega)
              · skip
                refine z_iconst X dX2_rent_105 ?_
                exact z_iret X hr hlk (by have e9 : m_rentC w h o x = 1 := (if_pos (by omega)); rw [if_neg (by omega)]) (congrArg (Mw ad cI cZ) (by have e9 : m_rentC w h o x = 1 := (if_pos (by omega)); unfold m_when; rw [if_neg (by omega), e9])) dX2_rent_106
            · exact absurd c_52 (by omega)
          · skip
            refine z_iload_n X 3 rfl dX2_rent_69 ?_
            refine z_iconst X dX2_rent_70 ?_
            refine z_bipush X (by decide) dX2_rent_71 ?_
            refine z_callis X (c_X2_in l D ad cI cZ cL x 1 100 ⟨by omega, by omega⟩ ⟨by omega, by omega⟩ ⟨by omega, by omega⟩) (va_cwS 3 X.2.2.2.2.1 gX2_rent_X2_in rfl rfl rfl (by decide +kernel) ⟨Nat.le_of_ble_eq_true rfl, Nat.le_of_ble_eq_true rfl⟩) rfl [] (Mw ad cI cZ w) rfl [.int (iZ 0), .ref (ad 0)] rfl (Nat.le_of_ble_eq_true rfl) dX2_rent_73 ⟨Nat.le_of_ble_eq_true rfl, Nat.le_of_ble_eq_true rfl⟩ rfl ?_
            have r_54 := m_in_sp x 1 100
            refine z_if_eq (tgt := 83) X ⟨by omega, by omega⟩ (by decide) dX2_rent_76 (fun c_55 => ?_) (fun c_55 => ?_)
            · skip
              refine z_iconst X dX2_rent_83 ?_
              refine z_iload X 4 rfl dX2_rent_84 ?_
              refine z_if_eq (tgt := 98) X ⟨by omega, by omega⟩ (by decide) dX2_rent_86 (fun c_56 => ?_) (fun c_56 => ?_)
              · skip
                refine z_iconst X dX2_rent_98 ?_
                refine z_calli X (c_X2_goesK l D ad cI cZ cL w 0 0 0 1 0 (by omega) (by omega) (by omega) (by decide) (by decide)) (cwV 3 X.2.2.2.2.1 gX2_rent_X2_goes rfl rfl rfl (by decide +kernel) ⟨Nat.le_of_ble_eq_true rfl, Nat.le_of_ble_eq_true rfl⟩) rfl [] [] (List.append_nil _).symm 2 0 rfl rfl [] rfl (Nat.le_of_ble_eq_true rfl) dX2_rent_99 ⟨Nat.le_of_ble_eq_true rfl, Nat.le_of_ble_eq_true rfl⟩ (List.append_nil _) ?_
                refine z_if_ne (tgt := 107) X ⟨by omega, by omega⟩ (by decide) dX2_rent_102 (fun c_57 => ?_) (fun c_57 => ?_)
                · exact absurd c_57 (by omega)
                · skip
                  refine z_iconst X dX2_rent_105 ?_
                  exact z_iret X hr hlk (by have e9 : m_rentC w h o x = 1 := (if_pos (by omega)); rw [if_neg (by omega)]) (congrArg (Mw ad cI cZ) (by have e9 : m_rentC w h o x = 1 := (if_pos (by omega)); unfold m_when; rw [if_neg (by omega), e9])) dX2_rent_106
              · exact absurd c_56 (by omega)
            · exact absurd c_55 (by omega)
        · skip
          have hh9 := m_belongs_in (w := w) (h := h) (by assumption)
          have ho9 := m_belongs_in (w := w) (h := o) (by assumption)
          refine z_aload_n X 0 rfl dX2_rent_37 ?_
          refine z_get (v := .ref (ad 5)) X 2 0 4 hiX2 rfl rfl (by decide) ⟨rfl, rfl, rfl⟩ (by decide +kernel) rfl dX2_rent_38 ?_
          refine z_iload_n X 1 rfl dX2_rent_41 ?_
          refine z_iald (g := w.1 4) X 5 0 rfl rfl (by omega) (by omega) ⟨by omega, by omega⟩ dX2_rent_42 ?_
          have b_58 := hB 4 rfl h
          refine z_iload_n X 3 rfl dX2_rent_43 ?_
          refine z_isub X dX2_rent_44 ?_
          refine z_aload_n X 0 rfl dX2_rent_45 ?_
          refine z_get (v := .ref (ad 6)) X 2 0 5 hiX2 rfl rfl (by decide) ⟨rfl, rfl, rfl⟩ (by decide +kernel) rfl dX2_rent_46 ?_
          refine z_iload_n X 1 rfl dX2_rent_49 ?_
          refine z_iald (g := w.1 5) X 6 0 rfl rfl (by omega) (by omega) ⟨by omega, by omega⟩ dX2_rent_50 ?_
          have b_59 := hB 5 rfl h
          refine z_icmpR_lt (tgt := 58) X (by decide) dX2_rent_51 ?_ ?_
          · skip
            refine z_iconst X dX2_rent_58 ?_
            refine z_istore X [1, 2, 3, 4, 5, 0] [(0, .ref (ad 0)), (1, .int (iZ h)), (2, .int (iZ o)), (3, .int (iZ x)), (4, .int (iZ 0)), (5, .int (iZ 0))] rfl (Nat.le_of_ble_eq_true rfl) dX2_rent_59 ?_
            refine z_aload_n X 0 rfl dX2_rent_61 ?_
            refine z_iload X 4 rfl dX2_rent_62 ?_
            refine z_iload_n X 1 rfl dX2_rent_64 ?_
            refine z_iload_n X 2 rfl dX2_rent_65 ?_
            refine z_icmp_eq (tgt := 83) X ⟨by omega, by omega⟩ ⟨by omega, by omega⟩ (by decide) dX2_rent_66 (fun c_61 => ?_) (fun c_61 => ?_)
            · skip
              refine z_iconst X dX2_rent_83 ?_
              refine z_iload X 4 rfl dX2_rent_84 ?_
              refine z_if_eq (tgt := 98) X ⟨by omega, by omega⟩ (by decide) dX2_rent_86 (fun c_62 => ?_) (fun c_62 => ?_)
              · skip
                refine z_iconst X dX2_rent_98 ?_
                refine z_calli X (c_X2_goesK l D ad cI cZ cL w 0 0 0 1 0 (by omega) (by omega) (by omega) (by decide) (by decide)) (cwV 3 X.2.2.2.2.1 gX2_rent_X2_goes rfl rfl rfl (by decide +kernel) ⟨Nat.le_of_ble_eq_true rfl, Nat.le_of_ble_eq_true rfl⟩) rfl [] [] (List.append_nil _).symm 2 0 rfl rfl [] rfl (Nat.le_of_ble_eq_true rfl) dX2_rent_99 ⟨Nat.le_of_ble_eq_true rfl, Nat.le_of_ble_eq_true rfl⟩ (List.append_nil _) ?_
                refine z_if_ne (tgt := 107) X ⟨by omega, by omega⟩ (by decide) dX2_rent_102 (fun c_63 => ?_) (fun c_63 => ?_)
                · exact absurd c_63 (by omega)
                · skip
                  refine z_iconst X dX2_rent_105 ?_
                  exact z_iret X hr hlk (by have e9 : m_rentC w h o x = 1 := (if_pos (by omega)); rw [if_neg (by omega)]) (congrArg (Mw ad cI cZ) (by have e9 : m_rentC w h o x = 1 := (if_pos (by omega)); unfold m_when; rw [if_neg (by omega), e9])) dX2_rent_106
              · exact absurd c_62 (by omega)
            · skip
              refine z_iload_n X 3 rfl dX2_rent_69 ?_
              refine z_iconst X dX2_rent_70 ?_
              refine z_bipush X (by decide) dX2_rent_71 ?_
              refine z_callis X (c_X2_in l D ad cI cZ cL x 1 100 ⟨by omega, by omega⟩ ⟨by omega, by omega⟩ ⟨by omega, by omega⟩) (va_cwS 3 X.2.2.2.2.1 gX2_rent_X2_in rfl rfl rfl (by decide +kernel) ⟨Nat.le_of_ble_eq_true rfl, Nat.le_of_ble_eq_true rfl⟩) rfl [] (Mw ad cI cZ w) rfl [.int (iZ 0), .ref (ad 0)] rfl (Nat.le_of_ble_eq_true rfl) dX2_rent_73 ⟨Nat.le_of_ble_eq_true rfl, Nat.le_of_ble_eq_true rfl⟩ rfl ?_
              have r_64 := m_in_sp x 1 100
              refine z_if_eq (tgt := 83) X ⟨by omega, by omega⟩ (by decide) dX2_rent_76 (fun c_65 => ?_) (fun c_65 => ?_)
              · skip
                refine z_iconst X dX2_rent_83 ?_
                refine z_iload X 4 rfl dX2_rent_84 ?_
                refine z_if_eq (tgt := 98) X ⟨by omega, by omega⟩ (by decide) dX2_rent_86 (fun c_66 => ?_) (fun c_66 => ?_)
                · skip
                  refine z_iconst X dX2_rent_98 ?_
                  refine z_calli X (c_X2_goesK l D ad cI cZ cL w 0 0 0 1 0 (by omega) (by omega) (by omega) (by decide) (by decide)) (cwV 3 X.2.2.2.2.1 gX2_rent_X2_goes rfl rfl rfl (by decide +kernel) ⟨Nat.le_of_ble_eq_true rfl, Nat.le_of_ble_eq_true rfl⟩) rfl [] [] (List.append_nil _).symm 2 0 rfl rfl [] rfl (Nat.le_of_ble_eq_true rfl) dX2_rent_99 ⟨Nat.le_of_ble_eq_true rfl, Nat.le_of_ble_eq_true rfl⟩ (List.append_nil _) ?_
                  refine z_if_ne (tgt := 107) X ⟨by omega, by omega⟩ (by decide) dX2_rent_102 (fun c_67 => ?_) (fun c_67 => ?_)
                  · exact absurd c_67 (by omega)
                  · skip
                    refine z_iconst X dX2_rent_105 ?_
                    exact z_iret X hr hlk (by have e9 : m_rentC w h o x = 1 := (if_pos (by omega)); rw [if_neg (by omega)]) (congrArg (Mw ad cI cZ) (by have e9 : m_rentC w h o x = 1 := (if_pos (by omega)); unfold m_when; rw [if_neg (by omega), e9])) dX2_rent_106
                · exact absurd c_66 (by omega)
              · exact absurd c_65 (by omega)
          · skip
            refine z_iconst X dX2_rent_54 ?_
            refine z_goto (tgt := 59) X (by decide) dX2_rent_55 ?_
            refine z_istore X [1, 2, 3, 4, 5, 0] [(0, .ref (ad 0)), (1, .int (iZ h)), (2, .int (iZ o)), (3, .int (iZ x)), (4, .int (iZ 0)), (5, .int (iZ 1))] rfl (Nat.le_of_ble_eq_true rfl) dX2_rent_59 ?_
            refine z_aload_n X 0 rfl dX2_rent_61 ?_
            refine z_iload X 4 rfl dX2_rent_62 ?_
            refine z_iload_n X 1 rfl dX2_rent_64 ?_
            refine z_iload_n X 2 rfl dX2_rent_65 ?_
            refine z_icmp_eq (tgt := 83) X ⟨by omega, by omega⟩ ⟨by omega, by omega⟩ (by decide) dX2_rent_66 (fun c_68 => ?_) (fun c_68 => ?_)
            · skip
              refine z_iconst X dX2_rent_83 ?_
              refine z_iload X 4 rfl dX2_rent_84 ?_
              refine z_if_eq (tgt := 98) X ⟨by omega, by omega⟩ (by decide) dX2_rent_86 (fun c_69 => ?_) (fun c_69 => ?_)
              · skip
                refine z_iconst X dX2_rent_98 ?_
                refine z_calli X (c_X2_goesK l D ad cI cZ cL w 0 0 0 1 0 (by omega) (by omega) (by omega) (by decide) (by decide)) (cwV 3 X.2.2.2.2.1 gX2_rent_X2_goes rfl rfl rfl (by decide +kernel) ⟨Nat.le_of_ble_eq_true rfl, Nat.le_of_ble_eq_true rfl⟩) rfl [] [] (List.append_nil _).symm 2 0 rfl rfl [] rfl (Nat.le_of_ble_eq_true rfl) dX2_rent_99 ⟨Nat.le_of_ble_eq_true rfl, Nat.le_of_ble_eq_true rfl⟩ (List.append_nil _) ?_
                refine z_if_ne (tgt := 107) X ⟨by omega, by omega⟩ (by decide) dX2_rent_102 (fun c_70 => ?_) (fun c_70 => ?_)
                · exact absurd c_70 (by omega)
                · skip
                  refine z_iconst X dX2_rent_105 ?_
                  exact z_iret X hr hlk (by have e9 : m_rentC w h o x = 1 := (if_pos (by omega)); rw [if_neg (by omega)]) (congrArg (Mw ad cI cZ) (by have e9 : m_rentC w h o x = 1 := (if_pos (by omega)); unfold m_when; rw [if_neg (by omega), e9])) dX2_rent_106
              · exact absurd c_69 (by omega)
            · skip
              refine z_iload_n X 3 rfl dX2_rent_69 ?_
              refine z_iconst X dX2_rent_70 ?_
              refine z_bipush X (by decide) dX2_rent_71 ?_
              refine z_callis X (c_X2_in l D ad cI cZ cL x 1 100 ⟨by omega, by omega⟩ ⟨by omega, by omega⟩ ⟨by omega, by omega⟩) (va_cwS 3 X.2.2.2.2.1 gX2_rent_X2_in rfl rfl rfl (by decide +kernel) ⟨Nat.le_of_ble_eq_true rfl, Nat.le_of_ble_eq_true rfl⟩) rfl [] (Mw ad cI cZ w) rfl [.int (iZ 0), .ref (ad 0)] rfl (Nat.le_of_ble_eq_true rfl) dX2_rent_73 ⟨Nat.le_of_ble_eq_true rfl, Nat.le_of_ble_eq_true rfl⟩ rfl ?_
              have r_71 := m_in_sp x 1 100
              refine z_if_eq (tgt := 83) X ⟨by omega, by omega⟩ (by decide) dX2_rent_76 (fun c_72 => ?_) (fun c_72 => ?_)
              · skip
                refine z_iconst X dX2_rent_83 ?_
                refine z_iload X 4 rfl dX2_rent_84 ?_
                refine z_if_eq (tgt := 98) X ⟨by omega, by omega⟩ (by decide) dX2_rent_86 (fun c_73 => ?_) (fun c_73 => ?_)
                · skip
                  refine z_iconst X dX2_rent_98 ?_
                  refine z_calli X (c_X2_goesK l D ad cI cZ cL w 0 0 0 1 0 (by omega) (by omega) (by omega) (by decide) (by decide)) (cwV 3 X.2.2.2.2.1 gX2_rent_X2_goes rfl rfl rfl (by decide +kernel) ⟨Nat.le_of_ble_eq_true rfl, Nat.le_of_ble_eq_true rfl⟩) rfl [] [] (List.append_nil _).symm 2 0 rfl rfl [] rfl (Nat.le_of_ble_eq_true rfl) dX2_rent_99 ⟨Nat.le_of_ble_eq_true rfl, Nat.le_of_ble_eq_true rfl⟩ (List.append_nil _) ?_
                  refine z_if_ne (tgt := 107) X ⟨by omega, by omega⟩ (by decide) dX2_rent_102 (fun c_74 => ?_) (fun c_74 => ?_)
                  · exact absurd c_74 (by omega)
                  · skip
                    refine z_iconst X dX2_rent_105 ?_
                    exact z_iret X hr hlk (by have e9 : m_rentC w h o x = 1 := (if_pos (by omega)); rw [if_neg (by omega)]) (congrArg (Mw ad cI cZ) (by have e9 : m_rentC w h o x = 1 := (if_pos (by omega)); unfold m_when; rw [if_neg (by omega), e9])) dX2_rent_106
                · exact absurd c_73 (by omega)
              · exact absurd c_72 (by omega)
    · skip
      refine z_iconst X dX2_rent_14 ?_
      refine z_goto (tgt := 19) X (by decide) dX2_rent_15 ?_
      refine z_istore X [1, 2, 3, 4, 0] [(0, .ref (ad 0)), (1, .int (iZ h)), (2, .int (iZ o)), (3, .int (iZ x)), (4, .int (iZ 1))] rfl (Nat.le_of_ble_eq_true rfl) dX2_rent_19 ?_
      refine z_aload_n X 0 rfl dX2_rent_21 ?_
      refine z_iload_n X 1 rfl dX2_rent_22 ?_
      refine z_calli X (c_X2_belongs l D ad cI cZ cL w h ⟨by omega, by omega⟩ hB) (cwV 1 X.2.2.2.2.1 gX2_rent_X2_belongs rfl rfl rfl (by decide +kernel) ⟨Nat.le_of_ble_eq_true rfl, Nat.le_of_ble_eq_true rfl⟩) rfl [] [] (List.append_nil _).symm 2 0 rfl rfl [] rfl (Nat.le_of_ble_eq_true rfl) dX2_rent_23 ⟨Nat.le_of_ble_eq_true rfl, Nat.le_of_ble_eq_true rfl⟩ (List.append_nil _) ?_
      have r_75 := m_belongs01 w h
      refine z_if_eq (tgt := 58) X ⟨by omega, by omega⟩ (by decide) dX2_rent_26 (fun c_76 => ?_) (fun c_76 => ?_)
      · skip
        refine z_iconst X dX2_rent_58 ?_
        refine z_istore X [1, 2, 3, 4, 5, 0] [(0, .ref (ad 0)), (1, .int (iZ h)), (2, .int (iZ o)), (3, .int (iZ x)), (4, .int (iZ 1)), (5, .int (iZ 0))] rfl (Nat.le_of_ble_eq_true rfl) dX2_rent_59 ?_
        refine z_aload_n X 0 rfl dX2_rent_61 ?_
        refine z_iload X 4 rfl dX2_rent_62 ?_
        refine z_iload_n X 1 rfl dX2_rent_64 ?_
        refine z_iload_n X 2 rfl dX2_rent_65 ?_
        refine z_icmp_eq (tgt := 83) X ⟨by omega, by omega⟩ ⟨by omega, by omega⟩ (by decide) dX2_rent_66 (fun c_77 => ?_) (fun c_77 => ?_)
        · skip
          refine z_iconst X dX2_rent_83 ?_
          refine z_iload X 4 rfl dX2_rent_84 ?_
          refine z_if_eq (tgt := 98) X ⟨by omega, by omega⟩ (by decide) dX2_rent_86 (fun c_78 => ?_) (fun c_78 => ?_)
          · exact absurd c_78 (by omega)
          · skip
            refine z_iload X 5 rfl dX2_rent_89 ?_
            refine z_if_eq (tgt := 98) X ⟨by omega, by omega⟩ (by decide) dX2_rent_91 (fun c_79 => ?_) (fun c_79 => ?_)
            · skip
              refine z_iconst X dX2_rent_98 ?_
              refine z_calli X (c_X2_goesK l D ad cI cZ cL w 1 0 0 2 0 (by omega) (by omega) (by omega) (by decide) (by decide)) (cwV 3 X.2.2.2.2.1 gX2_rent_X2_goes rfl rfl rfl (by decide +kernel) ⟨Nat.le_of_ble_eq_true rfl, Nat.le_of_ble_eq_true rfl⟩) rfl [] [] (List.append_nil _).symm 2 0 rfl rfl [] rfl (Nat.le_of_ble_eq_true rfl) dX2_rent_99 ⟨Nat.le_of_ble_eq_true rfl, Nat.le_of_ble_eq_true rfl⟩ (List.append_nil _) ?_
              refine z_if_ne (tgt := 107) X ⟨by omega, by omega⟩ (by decide) dX2_rent_102 (fun c_80 => ?_) (fun c_80 => ?_)
              · exact absurd c_80 (by omega)
              · skip
                refine z_iconst X dX2_rent_105 ?_
                exact z_iret X hr hlk (by have e9 : m_rentC w h o x = 2 := ((if_neg (by omega)).trans (if_pos (by omega))); rw [if_neg (by omega)]) (congrArg (Mw ad cI cZ) (by have e9 : m_rentC w h o x = 2 := ((if_neg (by omega)).trans (if_pos (by omega))); unfold m_when; rw [if_neg (by omega), e9])) dX2_rent_106
            · exact absurd c_79 (by omega)
        · skip
          refine z_iload_n X 3 rfl dX2_rent_69 ?_
          refine z_iconst X dX2_rent_70 ?_
          refine z_bipush X (by decide) dX2_rent_71 ?_
          refine z_callis X (c_X2_in l D ad cI cZ cL x 1 100 ⟨by omega, by omega⟩ ⟨by omega, by omega⟩ ⟨by omega, by omega⟩) (va_cwS 3 X.2.2.2.2.1 gX2_rent_X2_in rfl rfl rfl (by decide +kernel) ⟨Nat.le_of_ble_eq_true rfl, Nat.le_of_ble_eq_true rfl⟩) rfl [] (Mw ad cI cZ w) rfl [.int (iZ 1), .ref (ad 0)] rfl (Nat.le_of_ble_eq_true rfl) dX2_rent_73 ⟨Nat.le_of_ble_eq_true rfl, Nat.le_of_ble_eq_true rfl⟩ rfl ?_
          have r_81 := m_in_sp x 1 100
          refine z_if_eq (tgt := 83) X ⟨by omega, by omega⟩ (by decide) dX2_rent_76 (fun c_82 => ?_) (fun c_82 => ?_)
          · skip
            refine z_iconst X dX2_rent_83 ?_
            refine z_iload X 4 rfl dX2_rent_84 ?_
            refine z_if_eq (tgt := 98) X ⟨by omega, by omega⟩ (by decide) dX2_rent_86 (fun c_83 => ?_) (fun c_83 => ?_)
            · exact absurd c_83 (by omega)
            · skip
              refine z_iload X 5 rfl dX2_rent_89 ?_
              refine z_if_eq (tgt := 98) X ⟨by omega, by omega⟩ (by decide) dX2_rent_91 (fun c_84 => ?_) (fun c_84 => ?_)
              · skip
                refine z_iconst X dX2_rent_98 ?_
                refine z_calli X (c_X2_goesK l D ad cI cZ cL w 1 0 0 2 0 (by omega) (by omega) (by omega) (by decide) (by decide)) (cwV 3 X.2.2.2.2.1 gX2_rent_X2_goes rfl rfl rfl (by decide +kernel) ⟨Nat.le_of_ble_eq_true rfl, Nat.le_of_ble_eq_true rfl⟩) rfl [] [] (List.append_nil _).symm 2 0 rfl rfl [] rfl (Nat.le_of_ble_eq_true rfl) dX2_rent_99 ⟨Nat.le_of_ble_eq_true rfl, Nat.le_of_ble_eq_true rfl⟩ (List.append_nil _) ?_
                refine z_if_ne (tgt := 107) X ⟨by omega, by omega⟩ (by decide) dX2_rent_102 (fun c_85 => ?_) (fun c_85 => ?_)
                · exact absurd c_85 (by omega)
                · skip
                  refine z_iconst X dX2_rent_105 ?_
                  exact z_iret X hr hlk (by have e9 : m_rentC w h o x = 2 := ((if_neg (by omega)).trans (if_pos (by omega))); rw [if_neg (by omega)]) (congrArg (Mw ad cI cZ) (by have e9 : m_rentC w h o x = 2 := ((if_neg (by omega)).trans (if_pos (by omega))); unfold m_when; rw [if_neg (by omega), e9])) dX2_rent_106
              · exact absurd c_84 (by omega)
          · exact absurd c_82 (by omega)
      · skip
        refine z_aload_n X 0 rfl dX2_rent_29 ?_
        refine z_iload_n X 2 rfl dX2_rent_30 ?_
        refine z_calli X (c_X2_belongs l D ad cI cZ cL w o ⟨by omega, by omega⟩ hB) (cwV 1 X.2.2.2.2.1 gX2_rent_X2_belongs rfl rfl rfl (by decide +kernel) ⟨Nat.le_of_ble_eq_true rfl, Nat.le_of_ble_eq_true rfl⟩) rfl [] [] (List.append_nil _).symm 2 0 rfl rfl [] rfl (Nat.le_of_ble_eq_true rfl) dX2_rent_31 ⟨Nat.le_of_ble_eq_true rfl, Nat.le_of_ble_eq_true rfl⟩ (List.append_nil _) ?_
        have r_86 := m_belongs01 w o
        refine z_if_eq (tgt := 58) X ⟨by omega, by omega⟩ (by decide) dX2_rent_34 (fun c_87 => ?_) (fun c_87 => ?_)
        · skip
          refine z_iconst X dX2_rent_58 ?_
          refine z_istore X [1, 2, 3, 4, 5, 0] [(0, .ref (ad 0)), (1, .int (iZ h)), (2, .int (iZ o)), (3, .int (iZ x)), (4, .int (iZ 1)), (5, .int (iZ 0))] rfl (Nat.le_of_ble_eq_true rfl) dX2_rent_59 ?_
          refine z_aload_n X 0 rfl dX2_rent_61 ?_
          refine z_iload X 4 rfl dX2_rent_62 ?_
          refine z_iload_n X 1 rfl dX2_rent_64 ?_
          refine z_iload_n X 2 rfl dX2_rent_65 ?_
          refine z_icmp_eq (tgt := 83) X ⟨by omega, by omega⟩ ⟨by omega, by omega⟩ (by decide) dX2_rent_66 (fun c_88 => ?_) (fun c_88 => ?_)
          · skip
            refine z_iconst X dX2_rent_83 ?_
            refine z_iload X 4 rfl dX2_rent_84 ?_
            refine z_if_eq (tgt := 98) X ⟨by omega, by omega⟩ (by decide) dX2_rent_86 (fun c_89 => ?_) (fun c_89 => ?_)
            · exact absurd c_89 (by omega)
            · skip
              refine z_iload X 5 rfl dX2_rent_89 ?_
              refine z_if_eq (tgt := 98) X ⟨by omega, by omega⟩ (by decide) dX2_rent_91 (fun c_90 => ?_) (fun c_90 => ?_)
              · skip
                refine z_iconst X dX2_rent_98 ?_
                refine z_calli X (c_X2_goesK l D ad cI cZ cL w 1 0 0 2 0 (by omega) (by omega) (by omega) (by decide) (by decide)) (cwV 3 X.2.2.2.2.1 gX2_rent_X2_goes rfl rfl rfl (by decide +kernel) ⟨Nat.le_of_ble_eq_true rfl, Nat.le_of_ble_eq_true rfl⟩) rfl [] [] (List.append_nil _).symm 2 0 rfl rfl [] rfl (Nat.le_of_ble_eq_true rfl) dX2_rent_99 ⟨Nat.le_of_ble_eq_true rfl, Nat.le_of_ble_eq_true rfl⟩ (List.append_nil _) ?_
                refine z_if_ne (tgt := 107) X ⟨by omega, by omega⟩ (by decide) dX2_rent_102 (fun c_91 => ?_) (fun c_91 => ?_)
                · exact absurd c_91 (by omega)
                · skip
                  refine z_iconst X dX2_rent_105 ?_
                  exact z_iret X hr hlk (by have e9 : m_rentC w h o x = 2 := ((if_neg (by omega)).trans (if_pos (by omega))); rw [if_neg (by omega)]) (congrArg (Mw ad cI cZ) (by have e9 : m_rentC w h o x = 2 := ((if_neg (by omega)).trans (if_pos (by omega))); unfold m_when; rw [if_neg (by omega), e9])) dX2_rent_106
              · exact absurd c_90 (by omega)
          · skip
            refine z_iload_n X 3 rfl dX2_rent_69 ?_
            refine z_iconst X dX2_rent_70 ?_
            refine z_bipush X (by decide) dX2_rent_71 ?_
            refine z_callis X (c_X2_in l D ad cI cZ cL x 1 100 ⟨by omega, by omega⟩ ⟨by omega, by omega⟩ ⟨by omega, by omega⟩) (va_cwS 3 X.2.2.2.2.1 gX2_rent_X2_in rfl rfl rfl (by decide +kernel) ⟨Nat.le_of_ble_eq_true rfl, Nat.le_of_ble_eq_true rfl⟩) rfl [] (Mw ad cI cZ w) rfl [.int (iZ 1), .ref (ad 0)] rfl (Nat.le_of_ble_eq_true rfl) dX2_rent_73 ⟨Nat.le_of_ble_eq_true rfl, Nat.le_of_ble_eq_true rfl⟩ rfl ?_
            have r_92 := m_in_sp x 1 100
            refine z_if_eq (tgt := 83) X ⟨by omega, by omega⟩ (by decide) dX2_rent_76 (fun c_93 => ?_) (fun c_93 => ?_)
            · skip
              refine z_iconst X dX2_rent_83 ?_
              refine z_iload X 4 rfl dX2_rent_84 ?_
              refine z_if_eq (tgt := 98) X ⟨by omega, by omega⟩ (by decide) dX2_rent_86 (fun c_94 => ?_) (fun c_94 => ?_)
              · exact absurd c_94 (by omega)
              · skip
                refine z_iload X 5 rfl dX2_rent_89 ?_
                refine z_if_eq (tgt := 98) X ⟨by omega, by omega⟩ (by decide) dX2_rent_91 (fun c_95 => ?_) (fun c_95 => ?_)
                · skip
                  refine z_iconst X dX2_rent_98 ?_
                  refine z_calli X (c_X2_goesK l D ad cI cZ cL w 1 0 0 2 0 (by omega) (by omega) (by omega) (by decide) (by decide)) (cwV 3 X.2.2.2.2.1 gX2_rent_X2_goes rfl rfl rfl (by decide +kernel) ⟨Nat.le_of_ble_eq_true rfl, Nat.le_of_ble_eq_true rfl⟩) rfl [] [] (List.append_nil _).symm 2 0 rfl rfl [] rfl (Nat.le_of_ble_eq_true rfl) dX2_rent_99 ⟨Nat.le_of_ble_eq_true rfl, Nat.le_of_ble_eq_true rfl⟩ (List.append_nil _) ?_
                  refine z_if_ne (tgt := 107) X ⟨by omega, by omega⟩ (by decide) dX2_rent_102 (fun c_96 => ?_) (fun c_96 => ?_)
                  · exact absurd c_96 (by omega)
                  · skip
                    refine z_iconst X dX2_rent_105 ?_
                    exact z_iret X hr hlk (by have e9 : m_rentC w h o x = 2 := ((if_neg (by omega)).trans (if_pos (by omega))); rw [if_neg (by omega)]) (congrArg (Mw ad cI cZ) (by have e9 : m_rentC w h o x = 2 := ((if_neg (by omega)).trans (if_pos (by omega))); unfold m_when; rw [if_neg (by omega), e9])) dX2_rent_106
                · exact absurd c_95 (by omega)
            · exact absurd c_93 (by omega)
        · skip
          have hh9 := m_belongs_in (w := w) (h := h) (by assumption)
          have ho9 := m_belongs_in (w := w) (h := o) (by assumption)
          refine z_aload_n X 0 rfl dX2_rent_37 ?_
          refine z_get (v := .ref (ad 5)) X 2 0 4 hiX2 rfl rfl (by decide) ⟨rfl, rfl, rfl⟩ (by decide +kernel) rfl dX2_rent_38 ?_
          refine z_iload_n X 1 rfl dX2_rent_41 ?_
          refine z_iald (g := w.1 4) X 5 0 rfl rfl (by omega) (by omega) ⟨by omega, by omega⟩ dX2_rent_42 ?_
          have b_97 := hB 4 rfl h
          refine z_iload_n X 3 rfl dX2_rent_43 ?_
          refine z_isub X dX2_rent_44 ?_
          refine z_aload_n X 0 rfl dX2_rent_45 ?_
          refine z_get (v := .ref (ad 6)) X 2 0 5 hiX2 rfl rfl (by decide) ⟨rfl, rfl, rfl⟩ (by decide +kernel) rfl dX2_rent_46 ?_
          refine z_iload_n X 1 rfl dX2_rent_49 ?_
          refine z_iald (g := w.1 5) X 6 0 rfl rfl (by omega) (by omega) ⟨by omega, by omega⟩ dX2_rent_50 ?_
          have b_98 := hB 5 rfl h
          refine z_icmpR_lt (tgt := 58) X (by decide) dX2_rent_51 ?_ ?_
          · skip
            refine z_iconst X dX2_rent_58 ?_
            refine z_istore X [1, 2, 3, 4, 5, 0] [(0, .ref (ad 0)), (1, .int (iZ h)), (2, .int (iZ o)), (3, .int (iZ x)), (4, .int (iZ 1)), (5, .int (iZ 0))] rfl (Nat.le_of_ble_eq_true rfl) dX2_rent_59 ?_
            refine z_aload_n X 0 rfl dX2_rent_61 ?_
            refine z_iload X 4 rfl dX2_rent_62 ?_
            refine z_iload_n X 1 rfl dX2_rent_64 ?_
            refine z_iload_n X 2 rfl dX2_rent_65 ?_
            refine z_icmp_eq (tgt := 83) X ⟨by omega, by omega⟩ ⟨by omega, by omega⟩ (by decide) dX2_rent_66 (fun c_100 => ?_) (fun c_100 => ?_)
            · skip
              refine z_iconst X dX2_rent_83 ?_
              refine z_iload X 4 rfl dX2_rent_84 ?_
              refine z_if_eq (tgt := 98) X ⟨by omega, by omega⟩ (by decide) dX2_rent_86 (fun c_101 => ?_) (fun c_101 => ?_)
              · exact absurd c_101 (by omega)
              · skip
                refine z_iload X 5 rfl dX2_rent_89 ?_
                refine z_if_eq (tgt := 98) X ⟨by omega, by omega⟩ (by decide) dX2_rent_91 (fun c_102 => ?_) (fun c_102 => ?_)
                · skip
                  refine z_iconst X dX2_rent_98 ?_
                  refine z_calli X (c_X2_goesK l D ad cI cZ cL w 1 0 0 2 0 (by omega) (by omega) (by omega) (by decide) (by decide)) (cwV 3 X.2.2.2.2.1 gX2_rent_X2_goes rfl rfl rfl (by decide +kernel) ⟨Nat.le_of_ble_eq_true rfl, Nat.le_of_ble_eq_true rfl⟩) rfl [] [] (List.append_nil _).symm 2 0 rfl rfl [] rfl (Nat.le_of_ble_eq_true rfl) dX2_rent_99 ⟨Nat.le_of_ble_eq_true rfl, Nat.le_of_ble_eq_true rfl⟩ (List.append_nil _) ?_
                  refine z_if_ne (tgt := 107) X ⟨by omega, by omega⟩ (by decide) dX2_rent_102 (fun c_103 => ?_) (fun c_103 => ?_)
                  · exact absurd c_103 (by omega)
                  · skip
                    refine z_iconst X dX2_rent_105 ?_
                    exact z_iret X hr hlk (by have e9 : m_rentC w h o x = 2 := ((if_neg (by omega)).trans (if_pos (by omega))); rw [if_neg (by omega)]) (congrArg (Mw ad cI cZ) (by have e9 : m_rentC w h o x = 2 := ((if_neg (by omega)).trans (if_pos (by omega))); unfold m_when; rw [if_neg (by omega), e9])) dX2_rent_106
                · exact absurd c_102 (by omega)
            · skip
              refine z_iload_n X 3 rfl dX2_rent_69 ?_
              refine z_iconst X dX2_rent_70 ?_
              refine z_bipush X (by decide) dX2_rent_71 ?_
              refine z_callis X (c_X2_in l D ad cI cZ cL x 1 100 ⟨by omega, by omega⟩ ⟨by omega, by omega⟩ ⟨by omega, by omega⟩) (va_cwS 3 X.2.2.2.2.1 gX2_rent_X2_in rfl rfl rfl (by decide +kernel) ⟨Nat.le_of_ble_eq_true rfl, Nat.le_of_ble_eq_true rfl⟩) rfl [] (Mw ad cI cZ w) rfl [.int (iZ 1), .ref (ad 0)] rfl (Nat.le_of_ble_eq_true rfl) dX2_rent_73 ⟨Nat.le_of_ble_eq_true rfl, Nat.le_of_ble_eq_true rfl⟩ rfl ?_
              have r_104 := m_in_sp x 1 100
              refine z_if_eq (tgt := 83) X ⟨by omega, by omega⟩ (by decide) dX2_rent_76 (fun c_105 => ?_) (fun c_105 => ?_)
              · skip
                refine z_iconst X dX2_rent_83 ?_
                refine z_iload X 4 rfl dX2_rent_84 ?_
                refine z_if_eq (tgt := 98) X ⟨by omega, by omega⟩ (by decide) dX2_rent_86 (fun c_106 => ?_) (fun c_106 => ?_)
                · exact absurd c_106 (by omega)
                · skip
                  refine z_iload X 5 rfl dX2_rent_89 ?_
                  refine z_if_eq (tgt := 98) X ⟨by omega, by omega⟩ (by decide) dX2_rent_91 (fun c_107 => ?_) (fun c_107 => ?_)
                  · skip
                    refine z_iconst X dX2_rent_98 ?_
                    refine z_calli X (c_X2_goesK l D ad cI cZ cL w 1 0 0 2 0 (by omega) (by omega) (by omega) (by decide) (by decide)) (cwV 3 X.2.2.2.2.1 gX2_rent_X2_goes rfl rfl rfl (by decide +kernel) ⟨Nat.le_of_ble_eq_true rfl, Nat.le_of_ble_eq_true rfl⟩) rfl [] [] (List.append_nil _).symm 2 0 rfl rfl [] rfl (Nat.le_of_ble_eq_true rfl) dX2_rent_99 ⟨Nat.le_of_ble_eq_true rfl, Nat.le_of_ble_eq_true rfl⟩ (List.append_nil _) ?_
                    refine z_if_ne (tgt := 107) X ⟨by omega, by omega⟩ (by decide) dX2_rent_102 (fun c_108 => ?_) (fun c_108 => ?_)
                    · exact absurd c_108 (by omega)
                    · skip
                      refine z_iconst X dX2_rent_105 ?_
                      exact z_iret X hr hlk (by have e9 : m_rentC w h o x = 2 := ((if_neg (by omega)).trans (if_pos (by omega))); rw [if_neg (by omega)]) (congrArg (Mw ad cI cZ) (by have e9 : m_rentC w h o x = 2 := ((if_neg (by omega)).trans (if_pos (by omega))); unfold m_when; rw [if_neg (by omega), e9])) dX2_rent_106
                  · exact absurd c_107 (by omega)
              · exact absurd c_105 (by omega)
          · skip
            refine z_iconst X dX2_rent_54 ?_
            refine z_goto (tgt := 59) X (by decide) dX2_rent_55 ?_
            refine z_istore X [1, 2, 3, 4, 5, 0] [(0, .ref (ad 0)), (1, .int (iZ h)), (2, .int (iZ o)), (3, .int (iZ x)), (4, .int (iZ 1)), (5, .int (iZ 1))] rfl (Nat.le_of_ble_eq_true rfl) dX2_rent_59 ?_
            refine z_aload_n X 0 rfl dX2_rent_61 ?_
            refine z_iload X 4 rfl dX2_rent_62 ?_
            refine z_iload_n X 1 rfl dX2_rent_64 ?_
            refine z_iload_n X 2 rfl dX2_rent_65 ?_
            refine z_icmp_eq (tgt := 83) X ⟨by omega, by omega⟩ ⟨by omega, by omega⟩ (by decide) dX2_rent_66 (fun c_109 => ?_) (fun c_109 => ?_)
            · skip
              refine z_iconst X dX2_rent_83 ?_
              refine z_iload X 4 rfl dX2_rent_84 ?_
              refine z_if_eq (tgt := 98) X ⟨by omega, by omega⟩ (by decide) dX2_rent_86 (fun c_110 => ?_) (fun c_110 => ?_)
              · exact absurd c_110 (by omega)
              · skip
                refine z_iload X 5 rfl dX2_rent_89 ?_
                refine z_if_eq (tgt := 98) X ⟨by omega, by omega⟩ (by decide) dX2_rent_91 (fun c_111 => ?_) (fun c_111 => ?_)
                · exact absurd c_111 (by omega)
                · skip
                  refine z_iconst X dX2_rent_94 ?_
                  refine z_goto (tgt := 99) X (by decide) dX2_rent_95 ?_
                  refine z_calli X (c_X2_goesK l D ad cI cZ cL w 1 0 1 2 0 (by omega) (by omega) (by omega) (by decide) (by decide)) (cwV 3 X.2.2.2.2.1 gX2_rent_X2_goes rfl rfl rfl (by decide +kernel) ⟨Nat.le_of_ble_eq_true rfl, Nat.le_of_ble_eq_true rfl⟩) rfl [] [] (List.append_nil _).symm 2 0 rfl rfl [] rfl (Nat.le_of_ble_eq_true rfl) dX2_rent_99 ⟨Nat.le_of_ble_eq_true rfl, Nat.le_of_ble_eq_true rfl⟩ (List.append_nil _) ?_
                  refine z_if_ne (tgt := 107) X ⟨by omega, by omega⟩ (by decide) dX2_rent_102 (fun c_112 => ?_) (fun c_112 => ?_)
                  · exact absurd c_112 (by omega)
                  · skip
                    refine z_iconst X dX2_rent_105 ?_
                    exact z_iret X hr hlk (by have e9 : m_rentC w h o x = 2 := ((if_neg (by omega)).trans (if_pos (by omega))); rw [if_neg (by omega)]) (congrArg (Mw ad cI cZ) (by have e9 : m_rentC w h o x = 2 := ((if_neg (by omega)).trans (if_pos (by omega))); unfold m_when; rw [if_neg (by omega), e9])) dX2_rent_106
            · skip
              refine z_iload_n X 3 rfl dX2_rent_69 ?_
              refine z_iconst X dX2_rent_70 ?_
              refine z_bipush X (by decide) dX2_rent_71 ?_
              refine z_callis X (c_X2_in l D ad cI cZ cL x 1 100 ⟨by omega, by omega⟩ ⟨by omega, by omega⟩ ⟨by omega, by omega⟩) (va_cwS 3 X.2.2.2.2.1 gX2_rent_X2_in rfl rfl rfl (by decide +kernel) ⟨Nat.le_of_ble_eq_true rfl, Nat.le_of_ble_eq_true rfl⟩) rfl [] (Mw ad cI cZ w) rfl [.int (iZ 1), .ref (ad 0)] rfl (Nat.le_of_ble_eq_true rfl) dX2_rent_73 ⟨Nat.le_of_ble_eq_true rfl, Nat.le_of_ble_eq_true rfl⟩ rfl ?_
              have r_113 := m_in_sp x 1 100
              refine z_if_eq (tgt := 83) X ⟨by omega, by omega⟩ (by decide) dX2_rent_76 (fun c_114 => ?_) (fun c_114 => ?_)
              · skip
                refine z_iconst X dX2_rent_83 ?_
                refine z_iload X 4 rfl dX2_rent_84 ?_
                refine z_if_eq (tgt := 98) X ⟨by omega, by omega⟩ (by decide) dX2_rent_86 (fun c_115 => ?_) (fun c_115 => ?_)
                · exact absurd c_115 (by omega)
                · skip
                  refine z_iload X 5 rfl dX2_rent_89 ?_
                  refine z_if_eq (tgt := 98) X ⟨by omega, by omega⟩ (by decide) dX2_rent_91 (fun c_116 => ?_) (fun c_116 => ?_)
                  · exact absurd c_116 (by omega)
                  · skip
                    refine z_iconst X dX2_rent_94 ?_
                    refine z_goto (tgt := 99) X (by decide) dX2_rent_95 ?_
                    refine z_calli X (c_X2_goesK l D ad cI cZ cL w 1 0 1 2 0 (by omega) (by omega) (by omega) (by decide) (by decide)) (cwV 3 X.2.2.2.2.1 gX2_rent_X2_goes rfl rfl rfl (by decide +kernel) ⟨Nat.le_of_ble_eq_true rfl, Nat.le_of_ble_eq_true rfl⟩) rfl [] [] (List.append_nil _).symm 2 0 rfl rfl [] rfl (Nat.le_of_ble_eq_true rfl) dX2_rent_99 ⟨Nat.le_of_ble_eq_true rfl, Nat.le_of_ble_eq_true rfl⟩ (List.append_nil _) ?_
                    refine z_if_ne (tgt := 107) X ⟨by omega, by omega⟩ (by decide) dX2_rent_102 (fun c_117 => ?_) (fun c_117 => ?_)
                    · exact absurd c_117 (by omega)
                    · skip
                      refine z_iconst X dX2_rent_105 ?_
                      exact z_iret X hr hlk (by have e9 : m_rentC w h o x = 2 := ((if_neg (by omega)).trans (if_pos (by omega))); rw [if_neg (by omega)]) (congrArg (Mw ad cI cZ) (by have e9 : m_rentC w h o x = 2 := ((if_neg (by omega)).trans (if_pos (by omega))); unfold m_when; rw [if_neg (by omega), e9])) dX2_rent_106
              · exact absurd c_114 (by omega)
