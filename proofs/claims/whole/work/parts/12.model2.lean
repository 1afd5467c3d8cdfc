set_option maxHeartbeats 4000000 in
set_option maxRecDepth 100000 in
theorem c_X2_over (l : Launch) (D : va_G) (ad : Nat → Nat) (cI cZ cL : ClassId) (w : GS) (t k : Int) (h0 : 0 ≤ t ∧ t ≤ 5) (hk : zB k) (hB : Bdm w) : zMi l D (zT cI cZ cL) yX2_over wsX2_over ({ frames := 1, cells := 0, slots := 0, locals := 21 } : Room) (Mw ad cI cZ w) [.ref (ad 0), .int (iZ t), .int (iZ k)] (m_over w t k) (Mw ad cI cZ w) 0 0 := by
  refine z_mi (cc := cX2_over) (maxL := 5) (ret := (some .int)) (by decide) rfl (Nat.le_of_ble_eq_true rfl) ?_
  intro p e s m below meth c A X hr hlk hin
  have hiX2 : ∀ w ∈ wsX20, w ∈ wsX2_over := by decide +kernel
  refine z_sub (lv' := [(0, .ref (ad 0)), (1, .int (iZ t)), (2, .int (iZ k))]) [0, 1, 2] rfl ?_
  refine z_aload_n X 0 rfl dX2_over_0 ?_
  refine z_get (v := .ref (ad 9)) X 2 0 13 hiX2 rfl rfl (by decide) ⟨rfl, rfl, rfl⟩ (by decide +kernel) rfl dX2_over_1 ?_
  refine z_iload_n X 1 rfl dX2_over_4 ?_
  refine z_iald (g := w.1 8) X 9 0 rfl rfl (by omega) (by omega) ⟨by omega, by omega⟩ dX2_over_5 ?_
  have b_1 := hB 8 rfl t
  refine z_aload_n X 0 rfl dX2_over_6 ?_
  refine z_get (v := .ref (ad 10)) X 2 0 14 hiX2 rfl rfl (by decide) ⟨rfl, rfl, rfl⟩ (by decide +kernel) rfl dX2_over_7 ?_
  refine z_iload_n X 1 rfl dX2_over_10 ?_
  refine z_iald (g := w.1 9) X 10 0 rfl rfl (by omega) (by omega) ⟨by omega, by omega⟩ dX2_over_11 ?_
  have b_2 := hB 9 rfl t
  refine z_callis X (c_X2_lesser l D ad cI cZ cL (w.1 8 t) (w.1 9 t) ⟨by omega, by omega⟩ ⟨by omega, by omega⟩) (va_cwS 2 X.2.2.2.2.1 gX2_over_X2_lesser rfl rfl rfl (by decide +kernel) ⟨Nat.le_of_ble_eq_true rfl, Nat.le_of_ble_eq_true rfl⟩) rfl [] (Mw ad cI cZ w) rfl [] rfl (Nat.le_of_ble_eq_true rfl) dX2_over_12 ⟨Nat.le_of_ble_eq_true rfl, Nat.le_of_ble_eq_true rfl⟩ rfl ?_
  have r_3 := m_lesser_sp (w.1 8 t) (w.1 9 t)
  refine z_istore_n X [1, 2, 3, 0] [(0, .ref (ad 0)), (1, .int (iZ t)), (2, .int (iZ k)), (3, .int (iZ (m_lesser (w.1 8 t) (w.1 9 t))))] rfl (Nat.le_of_ble_eq_true rfl) dX2_over_15 ?_
  refine z_aload_n X 0 rfl dX2_over_16 ?_
  refine z_get (v := .ref (ad 9)) X 2 0 13 hiX2 rfl rfl (by decide) ⟨rfl, rfl, rfl⟩ (by decide +kernel) rfl dX2_over_17 ?_
  refine z_iload_n X 1 rfl dX2_over_20 ?_
  refine z_iald (g := w.1 8) X 9 0 rfl rfl (by omega) (by omega) ⟨by omega, by omega⟩ dX2_over_21 ?_
  refine z_aload_n X 0 rfl dX2_over_22 ?_
  refine z_get (v := .ref (ad 10)) X 2 0 14 hiX2 rfl rfl (by decide) ⟨rfl, rfl, rfl⟩ (by decide +kernel) rfl dX2_over_23 ?_
  refine z_iload_n X 1 rfl dX2_over_26 ?_
  refine z_iald (g := w.1 9) X 10 0 rfl rfl (by omega) (by omega) ⟨by omega, by omega⟩ dX2_over_27 ?_
  refine z_iadd X dX2_over_28 ?_
  refine z_iload_n X 3 rfl dX2_over_29 ?_
  refine z_isub X dX2_over_30 ?_
  refine z_istore X [1, 2, 3, 4, 0] [(0, .ref (ad 0)), (1, .int (iZ t)), (2, .int (iZ k)), (3, .int (iZ (m_lesser (w.1 8 t) (w.1 9 t)))), (4, .int (iZ (((w.1 8 t) + (w.1 9 t)) - (m_lesser (w.1 8 t) (w.1 9 t)))))] rfl (Nat.le_of_ble_eq_true rfl) dX2_over_31 ?_
  refine z_iload_n X 2 rfl dX2_over_33 ?_
  refine z_iload_n X 3 rfl dX2_over_34 ?_
  refine z_icmp_lt (tgt := 44) X ⟨by omega, by omega⟩ ⟨by omega, by omega⟩ (by decide) dX2_over_35 (fun c_4 => ?_) (fun c_4 => ?_)
  · skip
    refine z_iconst X dX2_over_44 ?_
    refine z_goto (tgt := 63) X (by decide) dX2_over_45 ?_
    exact z_iret X hr hlk (by simp only [m_over, m_high, m_low] <;> repeat' (first | with_reducible rfl | omega | split)) rfl dX2_over_63
  · skip
    refine z_iload_n X 2 rfl dX2_over_38 ?_
    refine z_iload X 4 rfl dX2_over_39 ?_
    refine z_icmp_lt (tgt := 48) X ⟨by omega, by omega⟩ ⟨by omega, by omega⟩ (by decide) dX2_over_41 (fun c_5 => ?_) (fun c_5 => ?_)
    · skip
      refine z_aload_n X 0 rfl dX2_over_48 ?_
      refine z_get (v := .ref (ad 9)) X 2 0 13 hiX2 rfl rfl (by decide) ⟨rfl, rfl, rfl⟩ (by decide +kernel) rfl dX2_over_49 ?_
      refine z_iload_n X 1 rfl dX2_over_52 ?_
      refine z_iald (g := w.1 8) X 9 0 rfl rfl (by omega) (by omega) ⟨by omega, by omega⟩ dX2_over_53 ?_
      refine z_iload_n X 3 rfl dX2_over_54 ?_
      refine z_icmp_ne (tgt := 62) X ⟨by omega, by omega⟩ ⟨by omega, by omega⟩ (by decide) dX2_over_55 (fun c_6 => ?_) (fun c_6 => ?_)
      · skip
        refine z_iconst X dX2_over_62 ?_
        exact z_iret X hr hlk (by simp only [m_over, m_high, m_low] <;> repeat' (first | with_reducible rfl | omega | split)) rfl dX2_over_63
      · skip
        refine z_iconst X dX2_over_58 ?_
        refine z_goto (tgt := 63) X (by decide) dX2_over_59 ?_
        exact z_iret X hr hlk (by simp only [m_over, m_high, m_low] <;> repeat' (first | with_reducible rfl | omega | split)) rfl dX2_over_63
    · skip
      refine z_iconst X dX2_over_44 ?_
      refine z_goto (tgt := 63) X (by decide) dX2_over_45 ?_
      exact z_iret X hr hlk (by simp only [m_over, m_high, m_low] <;> repeat' (first | with_reducible rfl | omega | split)) rfl dX2_over_63
set_option maxHeartbeats 4000000 in
set_option maxRecDepth 100000 in
theorem c_X2_flowOver (l : Launch) (D : va_G) (ad : Nat → Nat) (cI cZ cL : ClassId) (w : GS) (k : Int) (hk : zB k) (hc : 0 ≤ w.2 5 ∧ w.2 5 ≤ 6) (hB : Bdm w) : zMi l D (zT cI cZ cL) yX2_flowOver wsX2_flowOver ({ frames := 2, cells := 0, slots := 0, locals := 45 } : Room) (Mw ad cI cZ w) [.ref (ad 0), .int (iZ k)] (m_flow w k) (Mw ad cI cZ w) 0 0 := by
  refine z_mi (cc := cX2_flowOver) (maxL := 4) (ret := (some .int)) (by decide) rfl (Nat.le_of_ble_eq_true rfl) ?_
  intro p e s m below meth c A X hr hlk hin
  have hiX2 : ∀ w ∈ wsX20, w ∈ wsX2_flowOver := by decide +kernel
  refine z_sub (lv' := [(0, .ref (ad 0)), (1, .int (iZ k))]) [0, 1] rfl ?_
  refine z_iconst X dX2_flowOver_0 ?_
  refine z_istore_n X [1, 2, 0] [(0, .ref (ad 0)), (1, .int (iZ k)), (2, .int (iZ 0))] rfl (Nat.le_of_ble_eq_true rfl) dX2_flowOver_1 ?_
  refine z_iconst X dX2_flowOver_2 ?_
  refine z_istore_n X [1, 2, 3, 0] [(0, .ref (ad 0)), (1, .int (iZ k)), (2, .int (iZ 0)), (3, .int (iZ 0))] rfl (Nat.le_of_ble_eq_true rfl) dX2_flowOver_3 ?_
  refine zfor_ind (w.2 5).toNat (w.2 5) (by omega) (m_flowS w k) 0 (fun (i_4 : Int) (a_4 : Int) => zW p l e ({ frames := 2, cells := 0, slots := 0, locals := 45 } : Room) s m ([.ref (ad 0), .int (iZ k)] : List Value).toArray below meth c 4 D A 0 0 (MQ below (zPi D (zT cI cZ cL) (Mw ad cI cZ w) (m_flow w k) A) ([.ref (ad 0), .int (iZ k)] : List Value).toArray s 0 0 A) (Mw ad cI cZ w) 4 [(0, .ref (ad 0)), (1, .int (iZ k)), (2, .int (iZ a_4)), (3, .int (iZ i_4))] []) ?_ ?_
  · intro a_4 ha_4
    refine z_iload_n X 3 rfl dX2_flowOver_4 ?_
    refine z_aload_n X 0 rfl dX2_flowOver_5 ?_
    refine z_get (v := .int (iZ (w.2 5))) X 2 0 17 hiX2 rfl rfl (by decide) ⟨rfl, rfl, rfl⟩ (by decide +kernel) rfl dX2_flowOver_6 ?_
    refine z_icmp_ge (tgt := 34) X ⟨by omega, by omega⟩ ⟨by omega, by omega⟩ (by decide) dX2_flowOver_9 (fun c_1 => ?_) (fun c_1 => ?_)
    · skip
      refine z_iload_n X 2 rfl dX2_flowOver_34 ?_
      exact z_iret X hr hlk ha_4 rfl dX2_flowOver_35
    · exact absurd c_1 (by omega)
  · intro i_4 k_4 a_4 hi_4 h0i_4 h1i_4 ha_4 hk_4
    refine z_iload_n X 3 rfl dX2_flowOver_4 ?_
    refine z_aload_n X 0 rfl dX2_flowOver_5 ?_
    refine z_get (v := .int (iZ (w.2 5))) X 2 0 17 hiX2 rfl rfl (by decide) ⟨rfl, rfl, rfl⟩ (by decide +kernel) rfl dX2_flowOver_6 ?_
    refine z_icmp_ge (tgt := 34) X ⟨by omega, by omega⟩ ⟨by omega, by omega⟩ (by decide) dX2_flowOver_9 (fun c_2 => ?_) (fun c_2 => ?_)
    · exact absurd c_2 (by omega)
    · skip
      refine z_iload_n X 2 rfl dX2_flowOver_12 ?_
      refine z_aload_n X 0 rfl dX2_flowOver_13 ?_
      refine z_iload_n X 3 rfl dX2_flowOver_14 ?_
      refine z_iload_n X 1 rfl dX2_flowOver_15 ?_
      refine z_calli X (c_X2_over l D ad cI cZ cL w i_4 k (by omega) ⟨by omega, by omega⟩ hB) (cwV 2 X.2.2.2.2.1 gX2_flowOver_X2_over rfl rfl rfl (by decide +kernel) ⟨Nat.le_of_ble_eq_true rfl, Nat.le_of_ble_eq_true rfl⟩) rfl [] [] (List.append_nil _).symm 2 0 rfl rfl [.int (iZ a_4)] rfl (Nat.le_of_ble_eq_true rfl) dX2_flowOver_16 ⟨Nat.le_of_ble_eq_true rfl, Nat.le_of_ble_eq_true rfl⟩ (List.append_nil _) ?_
      have r_3 := m_over_rg w i_4 k
      refine z_aload_n X 0 rfl dX2_flowOver_19 ?_
      refine z_get (v := .ref (ad 11)) X 2 0 15 hiX2 rfl rfl (by decide) ⟨rfl, rfl, rfl⟩ (by decide +kernel) rfl dX2_flowOver_20 ?_
      refine z_iload_n X 3 rfl dX2_flowOver_23 ?_
      refine z_iald (g := w.1 10) X 11 0 rfl rfl (by omega) (by omega) ⟨by omega, by omega⟩ dX2_flowOver_24 ?_
      have b_4 := hB 10 rfl i_4
      refine z_imul X dX2_flowOver_25 ?_
      refine z_iadd X dX2_flowOver_26 ?_
      refine z_istore_n X [1, 2, 0, 3] [(0, .ref (ad 0)), (1, .int (iZ k)), (2, .int (iZ (a_4 + ((m_over w i_4 k) * (w.1 10 i_4))))), (3, .int (iZ i_4))] rfl (Nat.le_of_ble_eq_true rfl) dX2_flowOver_27 ?_
      refine z_iinc X 3 [1, 2, 3, 0] [(0, .ref (ad 0)), (1, .int (iZ k)), (2, .int (iZ (a_4 + ((m_over w i_4 k) * (w.1 10 i_4))))), (3, .int (iZ (i_4 + 1)))] rfl rfl (Nat.le_of_ble_eq_true rfl) dX2_flowOver_28 ?_
      refine z_goto (tgt := 4) X (by decide) dX2_flowOver_31 ?_
      exact z_eq rfl (congrArg (fun z : Int => ([(0, .ref (ad 0)), (1, .int (iZ k)), (2, .int (iZ z)), (3, .int (iZ (i_4 + 1)))] : List (Nat × Value))) (show (m_flowS w k) i_4 a_4 = a_4 + ((m_over w i_4 k) * (w.1 10 i_4)) from rfl)) hk_4
set_option maxHeartbeats 4000000 in
set_option maxRecDepth 100000 in
theorem c_X2_cuts (l : Launch) (D : va_G) (ad : Nat → Nat) (cI cZ cL : ClassId) (w : GS) (k : Int) (h0 : 0 ≤ k ∧ k ≤ 4) (hI : MI2 w) : zMi l D (zT cI cZ cL) yX2_cuts wsX2_cuts ({ frames := 3, cells := 0, slots := 0, locals := 68 } : Room) (Mw ad cI cZ w) [.ref (ad 0), .int (iZ k)] ((m_cuts w k).1) (Mw ad cI cZ ((m_cuts w k).2)) 0 0 := by
  have hS0 := SU_rg hI.2.1
  refine z_mi (cc := cX2_cuts) (maxL := 6) (ret := (some .int)) (by decide) rfl (Nat.le_of_ble_eq_true rfl) ?_
  intro p e s m below meth c A X hr hlk hin
  have hiX2 : ∀ w ∈ wsX20, w ∈ wsX2_cuts := by decide +kernel
  refine z_sub (lv' := [(0, .ref (ad 0)), (1, .int (iZ k))]) [0, 1] rfl ?_
  refine z_iconst X dX2_cuts_0 ?_
  refine z_istore_n X [1, 2, 0] [(0, .ref (ad 0)), (1, .int (iZ k)), (2, .int (iZ 0))] rfl (Nat.le_of_ble_eq_true rfl) dX2_cuts_1 ?_
  suffices H_2 : ∀ (n_2 : Nat) (x_2 : Int) (v_2 : GS), (MI2 v_2 ∧ SU v_2 ≤ ((n_2 : Nat) : Int) ∧ 0 ≤ x_2) → (m_cutsL k n_2 (x_2, v_2) = m_cuts w k) → zW p l e ({ frames := 3, cells := 0, slots := 0, locals := 68 } : Room) s m ([.ref (ad 0), .int (iZ k)] : List Value).toArray below meth c 6 D A 0 0 (MQ below (zPi D (zT cI cZ cL) (Mw ad cI cZ ((m_cuts w k).2)) ((m_cuts w k).1) A) ([.ref (ad 0), .int (iZ k)] : List Value).toArray s 0 0 A) (Mw ad cI cZ v_2) 2 [(0, .ref (ad 0)), (1, .int (iZ k)), (2, .int (iZ x_2))] [] from H_2 301 0 w ⟨hI, by omega, by omega⟩ rfl
  intro n_2
  induction n_2 with
  | zero =>
    intro x_2 v_2 hI_2 hF_2
    have hB_2 := hI_2.1.bd
    have hs_2 := hI_2.2.1
    have hx_2 := hI_2.2.2
    have hc0_2 := hI_2.1.2.1.1
    have hc6_2 := hI_2.1.2.1.2.1
    have hS_2 := SU_rg hI_2.1.2.1
    have hend_2 := m_cut_ends hI_2.1 (by omega) k
    refine z_aload_n X 0 rfl dX2_cuts_2 ?_
    refine z_iload_n X 1 rfl dX2_cuts_3 ?_
    refine z_calli X (c_X2_flowOver l D ad cI cZ cL v_2 k ⟨by omega, by omega⟩ ⟨by omega, by omega⟩ hB_2) (cwV 1 X.2.2.2.2.1 gX2_cuts_X2_flowOver rfl rfl rfl (by decide +kernel) ⟨Nat.le_of_ble_eq_true rfl, Nat.le_of_ble_eq_true rfl⟩) rfl [] [] (List.append_nil _).symm 2 0 rfl rfl [] rfl (Nat.le_of_ble_eq_true rfl) dX2_cuts_4 ⟨Nat.le_of_ble_eq_true rfl, Nat.le_of_ble_eq_true rfl⟩ (List.append_nil _) ?_
    have r_1 : -6000 ≤ m_flow v_2 k ∧ m_flow v_2 k ≤ 6000 := m_flowk v_2 k (fun i => hB_2 10 rfl i) _ (by omega)
    refine z_callis X (c_X2_size l D ad cI cZ cL (m_flow v_2 k) ⟨by omega, by omega⟩) (va_cwS 1 X.2.2.2.2.1 gX2_cuts_X2_size rfl rfl rfl (by decide +kernel) ⟨Nat.le_of_ble_eq_true rfl, Nat.le_of_ble_eq_true rfl⟩) rfl [] (Mw ad cI cZ v_2) rfl [] rfl (Nat.le_of_ble_eq_true rfl) dX2_cuts_7 ⟨Nat.le_of_ble_eq_true rfl, Nat.le_of_ble_eq_true rfl⟩ rfl ?_
    have r_2 := m_size_sp (m_flow v_2 k)
    refine z_aload_n X 0 rfl dX2_cuts_10 ?_
    refine z_get (v := .ref (ad 4)) X 2 0 3 hiX2 rfl rfl (by decide) ⟨rfl, rfl, rfl⟩ (by decide +kernel) rfl dX2_cuts_11 ?_
    refine z_iload_n X 1 rfl dX2_cuts_14 ?_
    refine z_iald (g := v_2.1 3) X 4 0 rfl rfl (by omega) (by omega) ⟨by omega, by omega⟩ dX2_cuts_15 ?_
    have b_3 := hB_2 3 rfl k
    refine z_icmp_le (tgt := 189) X ⟨by omega, by omega⟩ ⟨by omega, by omega⟩ (by decide) dX2_cuts_16 (fun c_4 => ?_) (fun c_4 => ?_)
    · skip
      refine z_iload_n X 2 rfl dX2_cuts_189 ?_
      exact z_iret X hr hlk (by rw [← hF_2]; simp only [m_cutsL] <;> repeat' (first | with_reducible rfl | omega | split)) (congrArg (Mw ad cI cZ) (show v_2 = (m_cuts w k).2 from (by rw [← hF_2]; simp only [m_cutsL] <;> repeat' (first | with_reducible rfl | omega | split)))) dX2_cuts_190
    · exact absurd c_4 (by omega)
  | succ n_2 ih_2 =>
    intro x_2 v_2 hI_2 hF_2
    have hB_2 := hI_2.1.bd
    have hs_2 := hI_2.2.1
    have hx_2 := hI_2.2.2
    have hc0_2 := hI_2.1.2.1.1
    have hc6_2 := hI_2.1.2.1.2.1
    have hS_2 := SU_rg hI_2.1.2.1
    refine z_aload_n X 0 rfl dX2_cuts_2 ?_
    refine z_iload_n X 1 rfl dX2_cuts_3 ?_
    refine z_calli X (c_X2_flowOver l D ad cI cZ cL v_2 k ⟨by omega, by omega⟩ ⟨by omega, by omega⟩ hB_2) (cwV 1 X.2.2.2.2.1 gX2_cuts_X2_flowOver rfl rfl rfl (by decide +kernel) ⟨Nat.le_of_ble_eq_true rfl, Nat.le_of_ble_eq_true rfl⟩) rfl [] [] (List.append_nil _).symm 2 0 rfl rfl [] rfl (Nat.le_of_ble_eq_true rfl) dX2_cuts_4 ⟨Nat.le_of_ble_eq_true rfl, Nat.le_of_ble_eq_true rfl⟩ (List.append_nil _) ?_
    have r_5 : -6000 ≤ m_flow v_2 k ∧ m_flow v_2 k ≤ 6000 := m_flowk v_2 k (fun i => hB_2 10 rfl i) _ (by omega)
    refine z_callis X (c_X2_size l D ad cI cZ cL (m_flow v_2 k) ⟨by omega, by omega⟩) (va_cwS 1 X.2.2.2.2.1 gX2_cuts_X2_size rfl rfl rfl (by decide +kernel) ⟨Nat.le_of_ble_eq_true rfl, Nat.le_of_ble_eq_true rfl⟩) rfl [] (Mw ad cI cZ v_2) rfl [] rfl (Nat.le_of_ble_eq_true rfl) dX2_cuts_7 ⟨Nat.le_of_ble_eq_true rfl, Nat.le_of_ble_eq_true rfl⟩ rfl ?_
    have r_6 := m_size_sp (m_flow v_2 k)
    refine z_aload_n X 0 rfl dX2_cuts_10 ?_
    refine z_get (v := .ref (ad 4)) X 2 0 3 hiX2 rfl rfl (by decide) ⟨rfl, rfl, rfl⟩ (by decide +kernel) rfl dX2_cuts_11 ?_
    refine z_iload_n X 1 rfl dX2_cuts_14 ?_
    refine z_iald (g := v_2.1 3) X 4 0 rfl rfl (by omega) (by omega) ⟨by omega, by omega⟩ dX2_cuts_15 ?_
    have b_7 := hB_2 3 rfl k
    refine z_icmp_le (tgt := 189) X ⟨by omega, by omega⟩ ⟨by omega, by omega⟩ (by decide) dX2_cuts_16 (fun c_8 => ?_) (fun c_8 => ?_)
    · skip
      refine z_iload_n X 2 rfl dX2_cuts_189 ?_
      exact z_iret X hr hlk (by rw [← hF_2]; simp only [m_cutsL] <;> repeat' (first | with_reducible rfl | omega | split)) (congrArg (Mw ad cI cZ) (show v_2 = (m_cuts w k).2 from (by rw [← hF_2]; simp only [m_cutsL] <;> repeat' (first | with_reducible rfl | omega | split)))) dX2_cuts_190
    · skip
      refine z_aload_n X 0 rfl dX2_cuts_19 ?_
      refine z_iload_n X 1 rfl dX2_cuts_20 ?_
      refine z_calli X (c_X2_flowOver l D ad cI cZ cL v_2 k ⟨by omega, by omega⟩ ⟨by omega, by omega⟩ hB_2) (cwV 1 X.2.2.2.2.1 gX2_cuts_X2_flowOver rfl rfl rfl (by decide +kernel) ⟨Nat.le_of_ble_eq_true rfl, Nat.le_of_ble_eq_true rfl⟩) rfl [] [] (List.append_nil _).symm 2 0 rfl rfl [] rfl (Nat.le_of_ble_eq_true rfl) dX2_cuts_21 ⟨Nat.le_of_ble_eq_true rfl, Nat.le_of_ble_eq_true rfl⟩ (List.append_nil _) ?_
      have r_9 : -6000 ≤ m_flow v_2 k ∧ m_flow v_2 k ≤ 6000 := m_flowk v_2 k (fun i => hB_2 10 rfl i) _ (by omega)
      refine z_istore_n X [1, 2, 3, 0] [(0, .ref (ad 0)), (1, .int (iZ k)), (2, .int (iZ x_2)), (3, .int (iZ (m_flow v_2 k)))] rfl (Nat.le_of_ble_eq_true rfl) dX2_cuts_24 ?_
      refine z_iconst X dX2_cuts_25 ?_
      refine z_istore X [1, 2, 3, 4, 0] [(0, .ref (ad 0)), (1, .int (iZ k)), (2, .int (iZ x_2)), (3, .int (iZ (m_flow v_2 k))), (4, .int (iZ (-1)))] rfl (Nat.le_of_ble_eq_true rfl) dX2_cuts_26 ?_
      refine z_iconst X dX2_cuts_28 ?_
      refine z_istore X [1, 2, 3, 4, 5, 0] [(0, .ref (ad 0)), (1, .int (iZ k)), (2, .int (iZ x_2)), (3, .int (iZ (m_flow v_2 k))), (4, .int (iZ (-1))), (5, .int (iZ 0))] rfl (Nat.le_of_ble_eq_true rfl) dX2_cuts_29 ?_
      refine zfor_ind (v_2.2 5).toNat (v_2.2 5) (by omega) (m_latS v_2 k (m_flow v_2 k)) (-1) (fun (i_31 : Int) (a_31 : Int) => zW p l e ({ frames := 3, cells := 0, slots := 0, locals := 68 } : Room) s m ([.ref (ad 0), .int (iZ k)] : List Value).toArray below meth c 6 D A 0 0 (MQ below (zPi D (zT cI cZ cL) (Mw ad cI cZ ((m_cuts w k).2)) ((m_cuts w k).1) A) ([.ref (ad 0), .int (iZ k)] : List Value).toArray s 0 0 A) (Mw ad cI cZ v_2) 31 [(0, .ref (ad 0)), (1, .int (iZ k)), (2, .int (iZ x_2)), (3, .int (iZ (m_flow v_2 k))), (4, .int (iZ a_31)), (5, .int (iZ i_31))] []) ?_ ?_
      · intro a_31 ha_31
        refine z_iload X 5 rfl dX2_cuts_31 ?_
        refine z_aload_n X 0 rfl dX2_cuts_33 ?_
        refine z_get (v := .int (iZ (v_2.2 5))) X 2 0 17 hiX2 rfl rfl (by decide) ⟨rfl, rfl, rfl⟩ (by decide +kernel) rfl dX2_cuts_34 ?_
        refine z_icmp_ge (tgt := 84) X ⟨by omega, by omega⟩ ⟨by omega, by omega⟩ (by decide) dX2_cuts_37 (fun c_10 => ?_) (fun c_10 => ?_)
        · skip
          have hlt : a_31 = m_lat v_2 k := ha_31
          have hq_2 := m_its_rg hI_2.1 (k := k) (by omega)
          rw [← hlt] at hq_2
          have hits : m_lesser (v_2.1 10 a_31) (m_size (m_flow v_2 k) - v_2.1 3 k) = m_its v_2 k := by rw [hlt]; rfl
          have hbk_2 := hI_2.1.2.1.2.2 a_31
          refine z_aload_n X 0 rfl dX2_cuts_84 ?_
          refine z_get (v := .ref (ad 11)) X 2 0 15 hiX2 rfl rfl (by decide) ⟨rfl, rfl, rfl⟩ (by decide +kernel) rfl dX2_cuts_85 ?_
          refine z_iload X 4 rfl dX2_cuts_88 ?_
          refine z_iald (g := v_2.1 10) X 11 0 rfl rfl (by omega) (by omega) ⟨by omega, by omega⟩ dX2_cuts_90 ?_
          have b_11 := hB_2 10 rfl a_31
          refine z_iload_n X 3 rfl dX2_cuts_91 ?_
          refine z_callis X (c_X2_size l D ad cI cZ cL (m_flow v_2 k) ⟨by omega, by omega⟩) (va_cwS 1 X.2.2.2.2.1 gX2_cuts_X2_size rfl rfl rfl (by decide +kernel) ⟨Nat.le_of_ble_eq_true rfl, Nat.le_of_ble_eq_true rfl⟩) rfl [] (Mw ad cI cZ v_2) rfl [.int (iZ (v_2.1 10 a_31))] rfl (Nat.le_of_ble_eq_true rfl) dX2_cuts_92 ⟨Nat.le_of_ble_eq_true rfl, Nat.le_of_ble_eq_true rfl⟩ rfl ?_
          have r_12 := m_size_sp (m_flow v_2 k)
          refine z_aload_n X 0 rfl dX2_cuts_95 ?_
          refine z_get (v := .ref (ad 4)) X 2 0 3 hiX2 rfl rfl (by decide) ⟨rfl, rfl, rfl⟩ (by decide +kernel) rfl dX2_cuts_96 ?_
          refine z_iload_n X 1 rfl dX2_cuts_99 ?_
          refine z_iald (g := v_2.1 3) X 4 0 rfl rfl (by omega) (by omega) ⟨by omega, by omega⟩ dX2_cuts_100 ?_
          refine z_isub X dX2_cuts_101 ?_
          refine z_callis X (c_X2_lesser l D ad cI cZ cL (v_2.1 10 a_31) ((m_size (m_flow v_2 k)) - (v_2.1 3 k)) ⟨by omega, by omega⟩ ⟨by omega, by omega⟩) (va_cwS 2 X.2.2.2.2.1 gX2_cuts_X2_lesser rfl rfl rfl (by decide +kernel) ⟨Nat.le_of_ble_eq_true rfl, Nat.le_of_ble_eq_true rfl⟩) rfl [] (Mw ad cI cZ v_2) rfl [] rfl (Nat.le_of_ble_eq_true rfl) dX2_cuts_102 ⟨Nat.le_of_ble_eq_true rfl, Nat.le_of_ble_eq_true rfl⟩ rfl ?_
          have r_13 := m_lesser_sp (v_2.1 10 a_31) ((m_size (m_flow v_2 k)) - (v_2.1 3 k))
          refine z_istore X [1, 2, 3, 4, 5, 0] [(0, .ref (ad 0)), (1, .int (iZ k)), (2, .int (iZ x_2)), (3, .int (iZ (m_flow v_2 k))), (4, .int (iZ a_31)), (5, .int (iZ (m_lesser (v_2.1 10 a_31) ((m_size (m_flow v_2 k)) - (v_2.1 3 k)))))] rfl (Nat.le_of_ble_eq_true rfl) dX2_cuts_105 ?_
          refine z_aload_n X 0 rfl dX2_cuts_107 ?_
          refine z_get (v := .ref (ad 11)) X 2 0 15 hiX2 rfl rfl (by decide) ⟨rfl, rfl, rfl⟩ (by decide +kernel) rfl dX2_cuts_108 ?_
          refine z_iload X 4 rfl dX2_cuts_111 ?_
          refine z_dup2 X rfl rfl dX2_cuts_113 ?_
          refine z_iald (g := v_2.1 10) X 11 0 rfl rfl (by omega) (by omega) ⟨by omega, by omega⟩ dX2_cuts_114 ?_
          refine z_iload X 5 rfl dX2_cuts_115 ?_
          refine z_isub X dX2_cuts_117 ?_
          refine z_iast (g := v_2.1 10) X 11 0 (Mw ad cI cZ (gA v_2 10 a_31 ((v_2.1 10 a_31) - (m_lesser (v_2.1 10 a_31) ((m_size (m_flow v_2 k)) - (v_2.1 3 k)))))) rfl rfl (by omega) (by omega) ⟨by omega, by omega⟩ rfl dX2_cuts_118 ?_
          refine z_aload_n X 0 rfl dX2_cuts_119 ?_
          refine z_get (v := .ref (ad 15)) X 2 0 20 hiX2 rfl rfl (by decide) ⟨rfl, rfl, rfl⟩ (by decide +kernel) rfl dX2_cuts_120 ?_
          refine z_aload_n X 0 rfl dX2_cuts_123 ?_
          refine z_get (v := .ref (ad 9)) X 2 0 13 hiX2 rfl rfl (by decide) ⟨rfl, rfl, rfl⟩ (by decide +kernel) rfl dX2_cuts_124 ?_
          refine z_iload X 4 rfl dX2_cuts_127 ?_
          refine z_iald (g := v_2.1 8) X 9 0 rfl rfl (by omega) (by omega) ⟨by omega, by omega⟩ dX2_cuts_129 ?_
          have b_14 := hB_2 8 rfl a_31
          refine z_dup2 X rfl rfl dX2_cuts_130 ?_
          refine z_iald (g := v_2.1 14) X 15 0 rfl rfl (by omega) (by omega) ⟨by omega, by omega⟩ dX2_cuts_131 ?_
          have b_15 := hB_2 14 rfl (v_2.1 8 a_31)
          refine z_iload X 5 rfl dX2_cuts_132 ?_
          refine z_iadd X dX2_cuts_134 ?_
          refine z_iast (g := v_2.1 14) X 15 0 (Mw ad cI cZ (gA (gA v_2 10 a_31 ((v_2.1 10 a_31) - (m_lesser (v_2.1 10 a_31) ((m_size (m_flow v_2 k)) - (v_2.1 3 k))))) 14 (v_2.1 8 a_31) ((v_2.1 14 (v_2.1 8 a_31)) + (m_lesser (v_2.1 10 a_31) ((m_size (m_flow v_2 k)) - (v_2.1 3 k)))))) rfl rfl (by omega) (by omega) ⟨by omega, by omega⟩ rfl dX2_cuts_135 ?_
          refine z_aload_n X 0 rfl dX2_cuts_136 ?_
          refine z_get (v := .ref (ad 15)) X 2 0 20 hiX2 rfl rfl (by decide) ⟨rfl, rfl, rfl⟩ (by decide +kernel) rfl dX2_cuts_137 ?_
          refine z_aload_n X 0 rfl dX2_cuts_140 ?_
          refine z_get (v := .ref (ad 10)) X 2 0 14 hiX2 rfl rfl (by decide) ⟨rfl, rfl, rfl⟩ (by decide +kernel) rfl dX2_cuts_141 ?_
          refine z_iload X 4 rfl dX2_cuts_144 ?_
          refine z_iald (g := v_2.1 9) X 10 0 rfl rfl (by omega) (by omega) ⟨by omega, by omega⟩ dX2_cuts_146 ?_
          have b_16 := hB_2 9 rfl a_31
          refine z_dup2 X rfl rfl dX2_cuts_147 ?_
          refine z_iald (g := updZ (v_2.1 14) (v_2.1 8 a_31) ((v_2.1 14 (v_2.1 8 a_31)) + (m_lesser (v_2.1 10 a_31) ((m_size (m_flow v_2 k)) - (v_2.1 3 k))))) X 15 0 rfl rfl (by omega) (by omega) ⟨by omega, by omega⟩ dX2_cuts_148 ?_
          refine z_iload X 5 rfl dX2_cuts_149 ?_
          refine z_iadd X dX2_cuts_151 ?_
          refine z_iast (g := updZ (v_2.1 14) (v_2.1 8 a_31) ((v_2.1 14 (v_2.1 8 a_31)) + (m_lesser (v_2.1 10 a_31) ((m_size (m_flow v_2 k)) - (v_2.1 3 k))))) X 15 0 (Mw ad cI cZ (gA (gA (gA v_2 10 a_31 ((v_2.1 10 a_31) - (m_lesser (v_2.1 10 a_31) ((m_size (m_flow v_2 k)) - (v_2.1 3 k))))) 14 (v_2.1 8 a_31) ((v_2.1 14 (v_2.1 8 a_31)) + (m_lesser (v_2.1 10 a_31) ((m_size (m_flow v_2 k)) - (v_2.1 3 k))))) 14 (v_2.1 9 a_31) (((updZ (v_2.1 14) (v_2.1 8 a_31) ((v_2.1 14 (v_2.1 8 a_31)) + (m_lesser (v_2.1 10 a_31) ((m_size (m_flow v_2 k)) - (v_2.1 3 k))))) (v_2.1 9 a_31)) + (m_lesser (v_2.1 10 a_31) ((m_size (m_flow v_2 k)) - (v_2.1 3 k)))))) rfl rfl (by omega) (by omega) ⟨by omega, by omega⟩ rfl dX2_cuts_152 ?_
          refine z_aload_n X 0 rfl dX2_cuts_153 ?_
          refine z_get (v := .ref (ad 7)) X 2 0 6 hiX2 rfl rfl (by decide) ⟨rfl, rfl, rfl⟩ (by decide +kernel) rfl dX2_cuts_154 ?_
          refine z_aload_n X 0 rfl dX2_cuts_157 ?_
          refine z_get (v := .ref (ad 9)) X 2 0 13 hiX2 rfl rfl (by decide) ⟨rfl, rfl, rfl⟩ (by decide +kernel) rfl dX2_cuts_158 ?_
          refine z_iload X 4 rfl dX2_cuts_161 ?_
          refine z_iald (g := v_2.1 8) X 9 0 rfl rfl (by omega) (by omega) ⟨by omega, by omega⟩ dX2_cuts_163 ?_
          refine z_dup2 X rfl rfl dX2_cuts_164 ?_
          refine z_iald (g := v_2.1 6) X 7 0 rfl rfl (by omega) (by omega) ⟨by omega, by omega⟩ dX2_cuts_165 ?_
          refine z_iload X 5 rfl dX2_cuts_166 ?_
          refine z_isub X dX2_cuts_168 ?_
          refine z_iast (g := v_2.1 6) X 7 0 (Mw ad cI cZ (gA (gA (gA (gA v_2 10 a_31 ((v_2.1 10 a_31) - (m_lesser (v_2.1 10 a_31) ((m_size (m_flow v_2 k)) - (v_2.1 3 k))))) 14 (v_2.1 8 a_31) ((v_2.1 14 (v_2.1 8 a_31)) + (m_lesser (v_2.1 10 a_31) ((m_size (m_flow v_2 k)) - (v_2.1 3 k))))) 14 (v_2.1 9 a_31) (((updZ (v_2.1 14) (v_2.1 8 a_31) ((v_2.1 14 (v_2.1 8 a_31)) + (m_lesser (v_2.1 10 a_31) ((m_size (m_flow v_2 k)) - (v_2.1 3 k))))) (v_2.1 9 a_31)) + (m_lesser (v_2.1 10 a_31) ((m_size (m_flow v_2 k)) - (v_2.1 3 k))))) 6 (v_2.1 8 a_31) ((v_2.1 6 (v_2.1 8 a_31)) - (m_lesser (v_2.1 10 a_31) ((m_size (m_flow v_2 k)) - (v_2.1 3 k)))))) rfl rfl (by omega) (by omega) ⟨by omega, by omega⟩ rfl dX2_cuts_169 ?_
          refine z_aload_n X 0 rfl dX2_cuts_170 ?_
          refine z_dup X rfl dX2_cuts_171 ?_
          refine z_get (v := .int (iZ (v_2.2 2))) X 2 0 10 hiX2 rfl rfl (by decide) ⟨rfl, rfl, rfl⟩ (by decide +kernel) rfl dX2_cuts_172 ?_
          refine z_iload X 5 rfl dX2_cuts_175 ?_
          refine z_isub X dX2_cuts_177 ?_
          refine z_put (v := .int (iZ ((v_2.2 2) - (m_lesser (v_2.1 10 a_31) ((m_size (m_flow v_2 k)) - (v_2.1 3 k)))))) (ty := .int) X tyX2 2 0 10 (Mw ad cI cZ (gV (gA (gA (gA (gA v_2 10 a_31 ((v_2.1 10 a_31) - (m_lesser (v_2.1 10 a_31) ((m_size (m_flow v_2 k)) - (v_2.1 3 k))))) 14 (v_2.1 8 a_31) ((v_2.1 14 (v_2.1 8 a_31)) + (m_lesser (v_2.1 10 a_31) ((m_size (m_flow v_2 k)) - (v_2.1 3 k))))) 14 (v_2.1 9 a_31) (((updZ (v_2.1 14) (v_2.1 8 a_31) ((v_2.1 14 (v_2.1 8 a_31)) + (m_lesser (v_2.1 10 a_31) ((m_size (m_flow v_2 k)) - (v_2.1 3 k))))) (v_2.1 9 a_31)) + (m_lesser (v_2.1 10 a_31) ((m_size (m_flow v_2 k)) - (v_2.1 3 k))))) 6 (v_2.1 8 a_31) ((v_2.1 6 (v_2.1 8 a_31)) - (m_lesser (v_2.1 10 a_31) ((m_size (m_flow v_2 k)) - (v_2.1 3 k))))) 2 ((v_2.2 2) - (m_lesser (v_2.1 10 a_31) ((m_size (m_flow v_2 k)) - (v_2.1 3 k)))))) tyX2_ok nmX2 hiX2 rfl rfl (by decide) ⟨rfl, rfl, rfl, rfl⟩ (by decide +kernel) rfl rfl rfl (Nat.le_of_ble_eq_true rfl) rfl dX2_cuts_178 ?_
          refine z_iload_n X 2 rfl dX2_cuts_181 ?_
          refine z_iload X 5 rfl dX2_cuts_182 ?_
          refine z_iadd X dX2_cuts_184 ?_
          refine z_istore_n X [1, 2, 0, 3, 4, 5] [(0, .ref (ad 0)), (1, .int (iZ k)), (2, .int (iZ (x_2 + (m_lesser (v_2.1 10 a_31) ((m_size (m_flow v_2 k)) - (v_2.1 3 k)))))), (3, .int (iZ (m_flow v_2 k))), (4, .int (iZ a_31)), (5, .int (iZ (m_lesser (v_2.1 10 a_31) ((m_size (m_flow v_2 k)) - (v_2.1 3 k)))))] rfl (Nat.le_of_ble_eq_true rfl) dX2_cuts_185 ?_
          refine z_goto (tgt := 2) X (by decide) dX2_cuts_186 ?_
          refine z_sub (lv' := [(0, .ref (ad 0)), (1, .int (iZ k)), (2, .int (iZ (x_2 + (m_lesser (v_2.1 10 a_31) ((m_size (m_flow v_2 k)) - (v_2.1 3 k))))))]) [0, 1, 2] rfl ?_
          exact ih_2 (x_2 + (m_lesser (v_2.1 10 a_31) ((m_size (m_flow v_2 k)) - (v_2.1 3 k)))) (m_cut1 v_2 a_31 (m_lesser (v_2.1 10 a_31) (m_size (m_flow v_2 k) - v_2.1 3 k))) ⟨MI2_cut1 hI_2.1 ⟨by omega, by omega⟩ (by omega) (by omega), by rw [SU_cut ⟨by omega, by omega⟩]; omega, by omega⟩ (by rw [← hF_2]; simp only [m_cutsL]; rw [if_pos (by omega), hits, hlt])
        · exact absurd c_10 (by omega)
      · intro i_31 k_31 a_31 hi_31 h0i_31 h1i_31 ha_31 hk_31
        refine z_iload X 5 rfl dX2_cuts_31 ?_
        refine z_aload_n X 0 rfl dX2_cuts_33 ?_
        refine z_get (v := .int (iZ (v_2.2 5))) X 2 0 17 hiX2 rfl rfl (by decide) ⟨rfl, rfl, rfl⟩ (by decide +kernel) rfl dX2_cuts_34 ?_
        refine z_icmp_ge (tgt := 84) X ⟨by omega, by omega⟩ ⟨by omega, by omega⟩ (by decide) dX2_cuts_37 (fun c_17 => ?_) (fun c_17 => ?_)
        · exact absurd c_17 (by omega)
        · skip
          refine z_aload_n X 0 rfl dX2_cuts_40 ?_
          refine z_get (v := .ref (ad 11)) X 2 0 15 hiX2 rfl rfl (by decide) ⟨rfl, rfl, rfl⟩ (by decide +kernel) rfl dX2_cuts_41 ?_
          refine z_iload X 5 rfl dX2_cuts_44 ?_
          refine z_iald (g := v_2.1 10) X 11 0 rfl rfl (by omega) (by omega) ⟨by omega, by omega⟩ dX2_cuts_46 ?_
          have b_18 := hB_2 10 rfl i_31
          refine z_if_le (tgt := 74) X ⟨by omega, by omega⟩ (by decide) dX2_cuts_47 (fun c_19 => ?_) (fun c_19 => ?_)
          · skip
            refine z_iload X 4 rfl dX2_cuts_74 ?_
            refine z_istore X [1, 2, 3, 4, 0, 5] [(0, .ref (ad 0)), (1, .int (iZ k)), (2, .int (iZ x_2)), (3, .int (iZ (m_flow v_2 k))), (4, .int (iZ a_31)), (5, .int (iZ i_31))] rfl (Nat.le_of_ble_eq_true rfl) dX2_cuts_76 ?_
            refine z_iinc X 5 [1, 2, 3, 4, 5, 0] [(0, .ref (ad 0)), (1, .int (iZ k)), (2, .int (iZ x_2)), (3, .int (iZ (m_flow v_2 k))), (4, .int (iZ a_31)), (5, .int (iZ (i_31 + 1)))] rfl rfl (Nat.le_of_ble_eq_true rfl) dX2_cuts_78 ?_
            refine z_goto (tgt := 31) X (by decide) dX2_cuts_81 ?_
            exact z_eq rfl (congrArg (fun z : Int => ([(0, .ref (ad 0)), (1, .int (iZ k)), (2, .int (iZ x_2)), (3, .int (iZ (m_flow v_2 k))), (4, .int (iZ z)), (5, .int (iZ (i_31 + 1)))] : List (Nat × Value))) (show (m_latS v_2 k (m_flow v_2 k)) i_31 a_31 = a_31 from (by simp only [m_latS]; rw [if_neg (fun q => absurd q.1 (by omega))]))) hk_31
          · skip
            refine z_aload_n X 0 rfl dX2_cuts_50 ?_
            refine z_iload X 5 rfl dX2_cuts_51 ?_
            refine z_iload_n X 1 rfl dX2_cuts_53 ?_
            refine z_calli X (c_X2_over l D ad cI cZ cL v_2 i_31 k (by omega) ⟨by omega, by omega⟩ hB_2) (cwV 2 X.2.2.2.2.1 gX2_cuts_X2_over rfl rfl rfl (by decide +kernel) ⟨Nat.le_of_ble_eq_true rfl, Nat.le_of_ble_eq_true rfl⟩) rfl [] [] (List.append_nil _).symm 2 0 rfl rfl [] rfl (Nat.le_of_ble_eq_true rfl) dX2_cuts_54 ⟨Nat.le_of_ble_eq_true rfl, Nat.le_of_ble_eq_true rfl⟩ (List.append_nil _) ?_
            have r_20 := m_over_rg v_2 i_31 k
            refine z_iload_n X 3 rfl dX2_cuts_57 ?_
            refine z_if_le (tgt := 65) X ⟨by omega, by omega⟩ (by decide) dX2_cuts_58 (fun c_21 => ?_) (fun c_21 => ?_)
            · skip
              refine z_iconst X dX2_cuts_65 ?_
              refine z_icmp_ne (tgt := 74) X ⟨by omega, by omega⟩ ⟨by omega, by omega⟩ (by decide) dX2_cuts_66 (fun c_22 => ?_) (fun c_22 => ?_)
              · skip
                refine z_iload X 4 rfl dX2_cuts_74 ?_
                refine z_istore X [1, 2, 3, 4, 0, 5] [(0, .ref (ad 0)), (1, .int (iZ k)), (2, .int (iZ x_2)), (3, .int (iZ (m_flow v_2 k))), (4, .int (iZ a_31)), (5, .int (iZ i_31))] rfl (Nat.le_of_ble_eq_true rfl) dX2_cuts_76 ?_
                refine z_iinc X 5 [1, 2, 3, 4, 5, 0] [(0, .ref (ad 0)), (1, .int (iZ k)), (2, .int (iZ x_2)), (3, .int (iZ (m_flow v_2 k))), (4, .int (iZ a_31)), (5, .int (iZ (i_31 + 1)))] rfl rfl (Nat.le_of_ble_eq_true rfl) dX2_cuts_78 ?_
                refine z_goto (tgt := 31) X (by decide) dX2_cuts_81 ?_
                exact z_eq rfl (congrArg (fun z : Int => ([(0, .ref (ad 0)), (1, .int (iZ k)), (2, .int (iZ x_2)), (3, .int (iZ (m_flow v_2 k))), (4, .int (iZ z)), (5, .int (iZ (i_31 + 1)))] : List (Nat × Value))) (show (m_latS v_2 k (m_flow v_2 k)) i_31 a_31 = a_31 from (by simp only [m_latS]; rw [show (if 0 < m_flow v_2 k then (1 : Int) else -1) = -1 from if_neg (by omega)]; repeat' (first | with_reducible rfl | omega | split)))) hk_31
              · skip
                refine z_iload X 5 rfl dX2_cuts_69 ?_
                refine z_goto (tgt := 76) X (by decide) dX2_cuts_71 ?_
                refine z_istore X [1, 2, 3, 4, 0, 5] [(0, .ref (ad 0)), (1, .int (iZ k)), (2, .int (iZ x_2)), (3, .int (iZ (m_flow v_2 k))), (4, .int (iZ i_31)), (5, .int (iZ i_31))] rfl (Nat.le_of_ble_eq_true rfl) dX2_cuts_76 ?_
                refine z_iinc X 5 [1, 2, 3, 4, 5, 0] [(0, .ref (ad 0)), (1, .int (iZ k)), (2, .int (iZ x_2)), (3, .int (iZ (m_flow v_2 k))), (4, .int (iZ i_31)), (5, .int (iZ (i_31 + 1)))] rfl rfl (Nat.le_of_ble_eq_true rfl) dX2_cuts_78 ?_
                refine z_goto (tgt := 31) X (by decide) dX2_cuts_81 ?_
                exact z_eq rfl (congrArg (fun z : Int => ([(0, .ref (ad 0)), (1, .int (iZ k)), (2, .int (iZ x_2)), (3, .int (iZ (m_flow v_2 k))), (4, .int (iZ z)), (5, .int (iZ (i_31 + 1)))] : List (Nat × Value))) (show (m_latS v_2 k (m_flow v_2 k)) i_31 a_31 = i_31 from (by simp only [m_latS]; rw [show (if 0 < m_flow v_2 k then (1 : Int) else -1) = -1 from if_neg (by omega)]; repeat' (first | with_reducible rfl | omega | split)))) hk_31
            · skip
              refine z_iconst X dX2_cuts_61 ?_
              refine z_goto (tgt := 66) X (by decide) dX2_cuts_62 ?_
              refine z_icmp_ne (tgt := 74) X ⟨by omega, by omega⟩ ⟨by omega, by omega⟩ (by decide) dX2_cuts_66 (fun c_23 => ?_) (fun c_23 => ?_)
              · skip
                refine z_iload X 4 rfl dX2_cuts_74 ?_
                refine z_istore X [1, 2, 3, 4, 0, 5] [(0, .ref (ad 0)), (1, .int (iZ k)), (2, .int (iZ x_2)), (3, .int (iZ (m_flow v_2 k))), (4, .int (iZ a_31)), (5, .int (iZ i_31))] rfl (Nat.le_of_ble_eq_true rfl) dX2_cuts_76 ?_
                refine z_iinc X 5 [1, 2, 3, 4, 5, 0] [(0, .ref (ad 0)), (1, .int (iZ k)), (2, .int (iZ x_2)), (3, .int (iZ (m_flow v_2 k))), (4, .int (iZ a_31)), (5, .int (iZ (i_31 + 1)))] rfl rfl (Nat.le_of_ble_eq_true rfl) dX2_cuts_78 ?_
                refine z_goto (tgt := 31) X (by decide) dX2_cuts_81 ?_
                exact z_eq rfl (congrArg (fun z : Int => ([(0, .ref (ad 0)), (1, .int (iZ k)), (2, .int (iZ x_2)), (3, .int (iZ (m_flow v_2 k))), (4, .int (iZ z)), (5, .int (iZ (i_31 + 1)))] : List (Nat × Value))) (show (m_latS v_2 k (m_flow v_2 k)) i_31 a_31 = a_31 from (by simp only [m_latS]; rw [show (if 0 < m_flow v_2 k then (1 : Int) else -1) = 1 from if_pos (by omega)]; repeat' (first | with_reducible rfl | omega | split)))) hk_31
              · skip
                refine z_iload X 5 rfl dX2_cuts_69 ?_
                refine z_goto (tgt := 76) X (by decide) dX2_cuts_71 ?_
                refine z_istore X [1, 2, 3, 4, 0, 5] [(0, .ref (ad 0)), (1, .int (iZ k)), (2, .int (iZ x_2)), (3, .int (iZ (m_flow v_2 k))), (4, .int (iZ i_31)), (5, .int (iZ i_31))] rfl (Nat.le_of_ble_eq_true rfl) dX2_cuts_76 ?_
                refine z_iinc X 5 [1, 2, 3, 4, 5, 0] [(0, .ref (ad 0)), (1, .int (iZ k)), (2, .int (iZ x_2)), (3, .int (iZ (m_flow v_2 k))), (4, .int (iZ i_31)), (5, .int (iZ (i_31 + 1)))] rfl rfl (Nat.le_of_ble_eq_true rfl) dX2_cuts_78 ?_
                refine z_goto (tgt := 31) X (by decide) dX2_cuts_81 ?_
                exact z_eq rfl (congrArg (fun z : Int => ([(0, .ref (ad 0)), (1, .int (iZ k)), (2, .int (iZ x_2)), (3, .int (iZ (m_flow v_2 k))), (4, .int (iZ z)), (5, .int (iZ (i_31 + 1)))] : List (Nat × Value))) (show (m_latS v_2 k (m_flow v_2 k)) i_31 a_31 = i_31 from (by simp only [m_latS]; rw [show (if 0 < m_flow v_2 k then (1 : Int) else -1) = 1 from if_pos (by omega)]; repeat' (first | with_reducible rfl | omega | split)))) hk_31
set_option maxHeartbeats 4000000 in
set_option maxRecDepth 100000 in
theorem c_X2_keeps (l : Launch) (D : va_G) (ad : Nat → Nat) (cI cZ cL : ClassId) (w : GS) (h : Int) (h0 : 0 ≤ h ∧ h ≤ 5) (hB : Bdm w) : zMv l D (zT cI cZ cL) yX2_keeps wsX2_keeps ({ frames := 1, cells := 0, slots := 0, locals := 21 } : Room) (Mw ad cI cZ w) [.ref (ad 0), .int (iZ h)] (Mw ad cI cZ (m_keeps w h)) 0 0 := by
  refine z_mv (cc := cX2_keeps) (maxL := 3) (ret := none) (by decide) rfl (Nat.le_of_ble_eq_true rfl) ?_
  intro p e s m below meth c A X hr hlk hin
  have hiX2 : ∀ w ∈ wsX20, w ∈ wsX2_keeps := by decide +kernel
  refine z_sub (lv' := [(0, .ref (ad 0)), (1, .int (iZ h))]) [0, 1] rfl ?_
  refine z_aload_n X 0 rfl dX2_keeps_0 ?_
  refine z_get (v := .ref (ad 15)) X 2 0 20 hiX2 rfl rfl (by decide) ⟨rfl, rfl, rfl⟩ (by decide +kernel) rfl dX2_keeps_1 ?_
  refine z_iload_n X 1 rfl dX2_keeps_4 ?_
  refine z_iald (g := w.1 14) X 15 0 rfl rfl (by omega) (by omega) ⟨by omega, by omega⟩ dX2_keeps_5 ?_
  have b_1 := hB 14 rfl h
  refine z_aload_n X 0 rfl dX2_keeps_6 ?_
  refine z_get (v := .ref (ad 5)) X 2 0 4 hiX2 rfl rfl (by decide) ⟨rfl, rfl, rfl⟩ (by decide +kernel) rfl dX2_keeps_7 ?_
  refine z_iload_n X 1 rfl dX2_keeps_10 ?_
  refine z_iald (g := w.1 4) X 5 0 rfl rfl (by omega) (by omega) ⟨by omega, by omega⟩ dX2_keeps_11 ?_
  have b_2 := hB 4 rfl h
  refine z_aload_n X 0 rfl dX2_keeps_12 ?_
  refine z_get (v := .ref (ad 6)) X 2 0 5 hiX2 rfl rfl (by decide) ⟨rfl, rfl, rfl⟩ (by decide +kernel) rfl dX2_keeps_13 ?_
  refine z_iload_n X 1 rfl dX2_keeps_16 ?_
  refine z_iald (g := w.1 5) X 6 0 rfl rfl (by omega) (by omega) ⟨by omega, by omega⟩ dX2_keeps_17 ?_
  have b_3 := hB 5 rfl h
  refine z_isub X dX2_keeps_18 ?_
  refine z_callis X (c_X2_lesser l D ad cI cZ cL (w.1 14 h) ((w.1 4 h) - (w.1 5 h)) ⟨by omega, by omega⟩ ⟨by omega, by omega⟩) (va_cwS 2 X.2.2.2.2.1 gX2_keeps_X2_lesser rfl rfl rfl (by decide +kernel) ⟨Nat.le_of_ble_eq_true rfl, Nat.le_of_ble_eq_true rfl⟩) rfl [] (Mw ad cI cZ w) rfl [] rfl (Nat.le_of_ble_eq_true rfl) dX2_keeps_19 ⟨Nat.le_of_ble_eq_true rfl, Nat.le_of_ble_eq_true rfl⟩ rfl ?_
  have r_4 := m_lesser_sp (w.1 14 h) ((w.1 4 h) - (w.1 5 h))
  refine z_istore_n X [1, 2, 0] [(0, .ref (ad 0)), (1, .int (iZ h)), (2, .int (iZ (m_lesser (w.1 14 h) ((w.1 4 h) - (w.1 5 h)))))] rfl (Nat.le_of_ble_eq_true rfl) dX2_keeps_22 ?_
  refine z_aload_n X 0 rfl dX2_keeps_23 ?_
  refine z_get (v := .ref (ad 6)) X 2 0 5 hiX2 rfl rfl (by decide) ⟨rfl, rfl, rfl⟩ (by decide +kernel) rfl dX2_keeps_24 ?_
  refine z_iload_n X 1 rfl dX2_keeps_27 ?_
  refine z_dup2 X rfl rfl dX2_keeps_28 ?_
  refine z_iald (g := w.1 5) X 6 0 rfl rfl (by omega) (by omega) ⟨by omega, by omega⟩ dX2_keeps_29 ?_
  refine z_iload_n X 2 rfl dX2_keeps_30 ?_
  refine z_iadd X dX2_keeps_31 ?_
  refine z_iast (g := w.1 5) X 6 0 (Mw ad cI cZ (gA w 5 h ((w.1 5 h) + (m_lesser (w.1 14 h) ((w.1 4 h) - (w.1 5 h)))))) rfl rfl (by omega) (by omega) ⟨by omega, by omega⟩ rfl dX2_keeps_32 ?_
  refine z_aload_n X 0 rfl dX2_keeps_33 ?_
  refine z_get (v := .ref (ad 15)) X 2 0 20 hiX2 rfl rfl (by decide) ⟨rfl, rfl, rfl⟩ (by decide +kernel) rfl dX2_keeps_34 ?_
  refine z_iload_n X 1 rfl dX2_keeps_37 ?_
  refine z_dup2 X rfl rfl dX2_keeps_38 ?_
  refine z_iald (g := w.1 14) X 15 0 rfl rfl (by omega) (by omega) ⟨by omega, by omega⟩ dX2_keeps_39 ?_
  refine z_iload_n X 2 rfl dX2_keeps_40 ?_
  refine z_isub X dX2_keeps_41 ?_
  refine z_iast (g := w.1 14) X 15 0 (Mw ad cI cZ (gA (gA w 5 h ((w.1 5 h) + (m_lesser (w.1 14 h) ((w.1 4 h) - (w.1 5 h))))) 14 h ((w.1 14 h) - (m_lesser (w.1 14 h) ((w.1 4 h) - (w.1 5 h)))))) rfl rfl (by omega) (by omega) ⟨by omega, by omega⟩ rfl dX2_keeps_42 ?_
  refine z_aload_n X 0 rfl dX2_keeps_43 ?_
  refine z_get (v := .ref (ad 13)) X 2 0 18 hiX2 rfl rfl (by decide) ⟨rfl, rfl, rfl⟩ (by decide +kernel) rfl dX2_keeps_44 ?_
  refine z_iconst X dX2_keeps_47 ?_
  refine z_dup2 X rfl rfl dX2_keeps_48 ?_
  refine z_iald (g := w.1 12) X 13 0 rfl rfl (by omega) (by omega) ⟨by omega, by omega⟩ dX2_keeps_49 ?_
  refine z_iload_n X 2 rfl dX2_keeps_50 ?_
  refine z_iadd X dX2_keeps_51 ?_
  refine z_iast (g := w.1 12) X 13 0 (Mw ad cI cZ (gA (gA (gA w 5 h ((w.1 5 h) + (m_lesser (w.1 14 h) ((w.1 4 h) - (w.1 5 h))))) 14 h ((w.1 14 h) - (m_lesser (w.1 14 h) ((w.1 4 h) - (w.1 5 h))))) 12 2 ((w.1 12 2) + (m_lesser (w.1 14 h) ((w.1 4 h) - (w.1 5 h)))))) rfl rfl (by omega) (by omega) ⟨by omega, by omega⟩ rfl dX2_keeps_52 ?_
  refine z_aload_n X 0 rfl dX2_keeps_53 ?_
  refine z_get (v := .ref (ad 13)) X 2 0 18 hiX2 rfl rfl (by decide) ⟨rfl, rfl, rfl⟩ (by decide +kernel) rfl dX2_keeps_54 ?_
  refine z_iconst X dX2_keeps_57 ?_
  refine z_dup2 X rfl rfl dX2_keeps_58 ?_
  refine z_iald (g := updZ (w.1 12) (2) ((w.1 12 2) + (m_lesser (w.1 14 h) ((w.1 4 h) - (w.1 5 h))))) X 13 0 rfl rfl (by omega) (by omega) ⟨by omega, by omega⟩ dX2_keeps_59 ?_
  refine z_aload_n X 0 rfl dX2_keeps_60 ?_
  refine z_get (v := .ref (ad 15)) X 2 0 20 hiX2 rfl rfl (by decide) ⟨rfl, rfl, rfl⟩ (by decide +kernel) rfl dX2_keeps_61 ?_
  refine z_iload_n X 1 rfl dX2_keeps_64 ?_
  refine z_iald (g := updZ (w.1 14) (h) ((w.1 14 h) - (m_lesser (w.1 14 h) ((w.1 4 h) - (w.1 5 h))))) X 15 0 rfl rfl (by omega) (by omega) ⟨by omega, by omega⟩ dX2_keeps_65 ?_
  have w_5 := updZ_s (w.1 14) h ((w.1 14 h) - (m_lesser (w.1 14 h) ((w.1 4 h) - (w.1 5 h))))
  refine z_iadd X dX2_keeps_66 ?_
  refine z_iast (g := updZ (w.1 12) (2) ((w.1 12 2) + (m_lesser (w.1 14 h) ((w.1 4 h) - (w.1 5 h))))) X 13 0 (Mw ad cI cZ (gA (gA (gA (gA w 5 h ((w.1 5 h) + (m_lesser (w.1 14 h) ((w.1 4 h) - (w.1 5 h))))) 14 h ((w.1 14 h) - (m_lesser (w.1 14 h) ((w.1 4 h) - (w.1 5 h))))) 12 2 ((w.1 12 2) + (m_lesser (w.1 14 h) ((w.1 4 h) - (w.1 5 h))))) 12 5 (((updZ (w.1 12) (2) ((w.1 12 2) + (m_lesser (w.1 14 h) ((w.1 4 h) - (w.1 5 h))))) 5) + ((updZ (w.1 14) (h) ((w.1 14 h) - (m_lesser (w.1 14 h) ((w.1 4 h) - (w.1 5 h))))) h)))) rfl rfl (by omega) (by omega) ⟨by omega, by omega⟩ rfl dX2_keeps_67 ?_
  refine z_aload_n X 0 rfl dX2_keeps_68 ?_
  refine z_get (v := .ref (ad 7)) X 2 0 6 hiX2 rfl rfl (by decide) ⟨rfl, rfl, rfl⟩ (by decide +kernel) rfl dX2_keeps_69 ?_
  refine z_iload_n X 1 rfl dX2_keeps_72 ?_
  refine z_dup2 X rfl rfl dX2_keeps_73 ?_
  refine z_iald (g := w.1 6) X 7 0 rfl rfl (by omega) (by omega) ⟨by omega, by omega⟩ dX2_keeps_74 ?_
  refine z_aload_n X 0 rfl dX2_keeps_75 ?_
  refine z_get (v := .ref (ad 15)) X 2 0 20 hiX2 rfl rfl (by decide) ⟨rfl, rfl, rfl⟩ (by decide +kernel) rfl dX2_keeps_76 ?_
  refine z_iload_n X 1 rfl dX2_keeps_79 ?_
  refine z_iald (g := updZ (w.1 14) (h) ((w.1 14 h) - (m_lesser (w.1 14 h) ((w.1 4 h) - (w.1 5 h))))) X 15 0 rfl rfl (by omega) (by omega) ⟨by omega, by omega⟩ dX2_keeps_80 ?_
  have w_6 := updZ_s (w.1 14) h ((w.1 14 h) - (m_lesser (w.1 14 h) ((w.1 4 h) - (w.1 5 h))))
  refine z_aload_n X 0 rfl dX2_keeps_81 ?_
  refine z_get (v := .int (iZ (w.2 1))) X 2 0 9 hiX2 rfl rfl (by decide) ⟨rfl, rfl, rfl⟩ (by decide +kernel) rfl dX2_keeps_82 ?_
  refine z_imul X dX2_keeps_85 ?_
  refine z_isub X dX2_keeps_86 ?_
  refine z_iast (g := w.1 6) X 7 0 (Mw ad cI cZ (gA (gA (gA (gA (gA w 5 h ((w.1 5 h) + (m_lesser (w.1 14 h) ((w.1 4 h) - (w.1 5 h))))) 14 h ((w.1 14 h) - (m_lesser (w.1 14 h) ((w.1 4 h) - (w.1 5 h))))) 12 2 ((w.1 12 2) + (m_lesser (w.1 14 h) ((w.1 4 h) - (w.1 5 h))))) 12 5 (((updZ (w.1 12) (2) ((w.1 12 2) + (m_lesser (w.1 14 h) ((w.1 4 h) - (w.1 5 h))))) 5) + ((updZ (w.1 14) (h) ((w.1 14 h) - (m_lesser (w.1 14 h) ((w.1 4 h) - (w.1 5 h))))) h))) 6 h ((w.1 6 h) - (((updZ (w.1 14) (h) ((w.1 14 h) - (m_lesser (w.1 14 h) ((w.1 4 h) - (w.1 5 h))))) h) * (w.2 1))))) rfl rfl (by omega) (by omega) ⟨by omega, by omega⟩ rfl dX2_keeps_87 ?_
  refine z_aload_n X 0 rfl dX2_keeps_88 ?_
  refine z_dup X rfl dX2_keeps_89 ?_
  refine z_get (v := .int (iZ (w.2 3))) X 2 0 11 hiX2 rfl rfl (by decide) ⟨rfl, rfl, rfl⟩ (by decide +kernel) rfl dX2_keeps_90 ?_
  refine z_aload_n X 0 rfl dX2_keeps_93 ?_
  refine z_get (v := .ref (ad 15)) X 2 0 20 hiX2 rfl rfl (by decide) ⟨rfl, rfl, rfl⟩ (by decide +kernel) rfl dX2_keeps_94 ?_
  refine z_iload_n X 1 rfl dX2_keeps_97 ?_
  refine z_iald (g := updZ (w.1 14) (h) ((w.1 14 h) - (m_lesser (w.1 14 h) ((w.1 4 h) - (w.1 5 h))))) X 15 0 rfl rfl (by omega) (by omega) ⟨by omega, by omega⟩ dX2_keeps_98 ?_
  have w_7 := updZ_s (w.1 14) h ((w.1 14 h) - (m_lesser (w.1 14 h) ((w.1 4 h) - (w.1 5 h))))
  refine z_aload_n X 0 rfl dX2_keeps_99 ?_
  refine z_get (v := .int (iZ (w.2 1))) X 2 0 9 hiX2 rfl rfl (by decide) ⟨rfl, rfl, rfl⟩ (by decide +kernel) rfl dX2_keeps_100 ?_
  refine z_imul X dX2_keeps_103 ?_
  refine z_isub X dX2_keeps_104 ?_
  refine z_put (v := .int (iZ ((w.2 3) - (((updZ (w.1 14) (h) ((w.1 14 h) - (m_lesser (w.1 14 h) ((w.1 4 h) - (w.1 5 h))))) h) * (w.2 1))))) (ty := .int) X tyX2 2 0 11 (Mw ad cI cZ (gV (gA (gA (gA (gA (gA w 5 h ((w.1 5 h) + (m_lesser (w.1 14 h) ((w.1 4 h) - (w.1 5 h))))) 14 h ((w.1 14 h) - (m_lesser (w.1 14 h) ((w.1 4 h) - (w.1 5 h))))) 12 2 ((w.1 12 2) + (m_lesser (w.1 14 h) ((w.1 4 h) - (w.1 5 h))))) 12 5 (((updZ (w.1 12) (2) ((w.1 12 2) + (m_lesser (w.1 14 h) ((w.1 4 h) - (w.1 5 h))))) 5) + ((updZ (w.1 14) (h) ((w.1 14 h) - (m_lesser (w.1 14 h) ((w.1 4 h) - (w.1 5 h))))) h))) 6 h ((w.1 6 h) - (((updZ (w.1 14) (h) ((w.1 14 h) - (m_lesser (w.1 14 h) ((w.1 4 h) - (w.1 5 h))))) h) * (w.2 1)))) 3 ((w.2 3) - (((updZ (w.1 14) (h) ((w.1 14 h) - (m_lesser (w.1 14 h) ((w.1 4 h) - (w.1 5 h))))) h) * (w.2 1))))) tyX2_ok nmX2 hiX2 rfl rfl (by decide) ⟨rfl, rfl, rfl, rfl⟩ (by decide +kernel) rfl rfl rfl (Nat.le_of_ble_eq_true rfl) rfl dX2_keeps_105 ?_
  exact z_vret X hr hlk rfl dX2_keeps_108
set_option maxHeartbeats 4000000 in
set_option maxRecDepth 100000 in
theorem c_X2_draws (l : Launch) (D : va_G) (ad : Nat → Nat) (cI cZ cL : ClassId) (w : GS) (h : Int) (h0 : 0 ≤ h ∧ h ≤ 5) (hB : Bdm w) (hp : ∀ i, 0 ≤ w.1 4 i) : zMv l D (zT cI cZ cL) yX2_draws wsX2_draws ({ frames := 1, cells := 0, slots := 0, locals := 21 } : Room) (Mw ad cI cZ w) [.ref (ad 0), .int (iZ h)] (Mw ad cI cZ (m_draws w h)) 0 0 := by
  refine z_mv (cc := cX2_draws) (maxL := 5) (ret := none) (by decide) rfl (Nat.le_of_ble_eq_true rfl) ?_
  intro p e s m below meth c A X hr hlk hin
  have hiX2 : ∀ w ∈ wsX20, w ∈ wsX2_draws := by decide +kernel
  refine z_sub (lv' := [(0, .ref (ad 0)), (1, .int (iZ h))]) [0, 1] rfl ?_
  refine z_aload_n X 0 rfl dX2_draws_0 ?_
  refine z_get (v := .ref (ad 15)) X 2 0 20 hiX2 rfl rfl (by decide) ⟨rfl, rfl, rfl⟩ (by decide +kernel) rfl dX2_draws_1 ?_
  refine z_iload_n X 1 rfl dX2_draws_4 ?_
  refine z_iald (g := w.1 14) X 15 0 rfl rfl (by omega) (by omega) ⟨by omega, by omega⟩ dX2_draws_5 ?_
  have b_1 := hB 14 rfl h
  refine z_aload_n X 0 rfl dX2_draws_6 ?_
  refine z_get (v := .ref (ad 6)) X 2 0 5 hiX2 rfl rfl (by decide) ⟨rfl, rfl, rfl⟩ (by decide +kernel) rfl dX2_draws_7 ?_
  refine z_iload_n X 1 rfl dX2_draws_10 ?_
  refine z_iald (g := w.1 5) X 6 0 rfl rfl (by omega) (by omega) ⟨by omega, by omega⟩ dX2_draws_11 ?_
  have b_2 := hB 5 rfl h
  refine z_callis X (c_X2_lesser l D ad cI cZ cL (w.1 14 h) (w.1 5 h) ⟨by omega, by omega⟩ ⟨by omega, by omega⟩) (va_cwS 2 X.2.2.2.2.1 gX2_draws_X2_lesser rfl rfl rfl (by decide +kernel) ⟨Nat.le_of_ble_eq_true rfl, Nat.le_of_ble_eq_true rfl⟩) rfl [] (Mw ad cI cZ w) rfl [] rfl (Nat.le_of_ble_eq_true rfl) dX2_draws_12 ⟨Nat.le_of_ble_eq_true rfl, Nat.le_of_ble_eq_true rfl⟩ rfl ?_
  have r_3 := m_lesser_sp (w.1 14 h) (w.1 5 h)
  refine z_istore_n X [1, 2, 0] [(0, .ref (ad 0)), (1, .int (iZ h)), (2, .int (iZ (m_lesser (w.1 14 h) (w.1 5 h))))] rfl (Nat.le_of_ble_eq_true rfl) dX2_draws_15 ?_
  refine z_aload_n X 0 rfl dX2_draws_16 ?_
  refine z_get (v := .ref (ad 6)) X 2 0 5 hiX2 rfl rfl (by decide) ⟨rfl, rfl, rfl⟩ (by decide +kernel) rfl dX2_draws_17 ?_
  refine z_iload_n X 1 rfl dX2_draws_20 ?_
  refine z_dup2 X rfl rfl dX2_draws_21 ?_
  refine z_iald (g := w.1 5) X 6 0 rfl rfl (by omega) (by omega) ⟨by omega, by omega⟩ dX2_draws_22 ?_
  refine z_iload_n X 2 rfl dX2_draws_23 ?_
  refine z_isub X dX2_draws_24 ?_
  refine z_iast (g := w.1 5) X 6 0 (Mw ad cI cZ (gA w 5 h ((w.1 5 h) - (m_lesser (w.1 14 h) (w.1 5 h))))) rfl rfl (by omega) (by omega) ⟨by omega, by omega⟩ rfl dX2_draws_25 ?_
  refine z_aload_n X 0 rfl dX2_draws_26 ?_
  refine z_get (v := .ref (ad 15)) X 2 0 20 hiX2 rfl rfl (by decide) ⟨rfl, rfl, rfl⟩ (by decide +kernel) rfl dX2_draws_27 ?_
  refine z_iload_n X 1 rfl dX2_draws_30 ?_
  refine z_dup2 X rfl rfl dX2_draws_31 ?_
  refine z_iald (g := w.1 14) X 15 0 rfl rfl (by omega) (by omega) ⟨by omega, by omega⟩ dX2_draws_32 ?_
  refine z_iload_n X 2 rfl dX2_draws_33 ?_
  refine z_isub X dX2_draws_34 ?_
  refine z_iast (g := w.1 14) X 15 0 (Mw ad cI cZ (gA (gA w 5 h ((w.1 5 h) - (m_lesser (w.1 14 h) (w.1 5 h)))) 14 h ((w.1 14 h) - (m_lesser (w.1 14 h) (w.1 5 h))))) rfl rfl (by omega) (by omega) ⟨by omega, by omega⟩ rfl dX2_draws_35 ?_
  refine z_aload_n X 0 rfl dX2_draws_36 ?_
  refine z_get (v := .ref (ad 5)) X 2 0 4 hiX2 rfl rfl (by decide) ⟨rfl, rfl, rfl⟩ (by decide +kernel) rfl dX2_draws_37 ?_
  refine z_iload_n X 1 rfl dX2_draws_40 ?_
  refine z_iald (g := w.1 4) X 5 0 rfl rfl (by omega) (by omega) ⟨by omega, by omega⟩ dX2_draws_41 ?_
  have b_4 := hB 4 rfl h
  have b_5 := hp h
  refine z_iconst X dX2_draws_42 ?_
  refine z_idiv X (by omega) ⟨by omega, by omega⟩ (by decide) ⟨by decide, by decide⟩ dX2_draws_43 ?_
  refine z_aload_n X 0 rfl dX2_draws_44 ?_
  refine z_get (v := .ref (ad 6)) X 2 0 5 hiX2 rfl rfl (by decide) ⟨rfl, rfl, rfl⟩ (by decide +kernel) rfl dX2_draws_45 ?_
  refine z_iload_n X 1 rfl dX2_draws_48 ?_
  refine z_iald (g := updZ (w.1 5) (h) ((w.1 5 h) - (m_lesser (w.1 14 h) (w.1 5 h)))) X 6 0 rfl rfl (by omega) (by omega) ⟨by omega, by omega⟩ dX2_draws_49 ?_
  have w_6 := updZ_s (w.1 5) h ((w.1 5 h) - (m_lesser (w.1 14 h) (w.1 5 h)))
  refine z_isub X dX2_draws_50 ?_
  refine z_istore_n X [1, 2, 3, 0] [(0, .ref (ad 0)), (1, .int (iZ h)), (2, .int (iZ (m_lesser (w.1 14 h) (w.1 5 h)))), (3, .int (iZ (((w.1 4 h) / 4) - ((updZ (w.1 5) (h) ((w.1 5 h) - (m_lesser (w.1 14 h) (w.1 5 h)))) h))))] rfl (Nat.le_of_ble_eq_true rfl) dX2_draws_51 ?_
  refine z_iload_n X 2 rfl dX2_draws_52 ?_
  refine z_if_ne (tgt := 60) X ⟨by omega, by omega⟩ (by decide) dX2_draws_53 (fun c_7 => ?_) (fun c_7 => ?_)
  · skip
    refine z_iconst X dX2_draws_60 ?_
    refine z_iload_n X 2 rfl dX2_draws_61 ?_
    refine z_imul X dX2_draws_62 ?_
    refine z_iload_n X 3 rfl dX2_draws_63 ?_
    refine z_if_le (tgt := 71) X ⟨by omega, by omega⟩ (by decide) dX2_draws_64 (fun c_8 => ?_) (fun c_8 => ?_)
    · skip
      refine z_iconst X dX2_draws_71 ?_
      refine z_iadd X dX2_draws_72 ?_
      refine z_istore X [1, 2, 3, 4, 0] [(0, .ref (ad 0)), (1, .int (iZ h)), (2, .int (iZ (m_lesser (w.1 14 h) (w.1 5 h)))), (3, .int (iZ (((w.1 4 h) / 4) - ((updZ (w.1 5) (h) ((w.1 5 h) - (m_lesser (w.1 14 h) (w.1 5 h)))) h)))), (4, .int (iZ ((2 * (m_lesser (w.1 14 h) (w.1 5 h))) + 0)))] rfl (Nat.le_of_ble_eq_true rfl) dX2_draws_73 ?_
      refine z_aload_n X 0 rfl dX2_draws_75 ?_
      refine z_get (v := .ref (ad 7)) X 2 0 6 hiX2 rfl rfl (by decide) ⟨rfl, rfl, rfl⟩ (by decide +kernel) rfl dX2_draws_76 ?_
      refine z_iload_n X 1 rfl dX2_draws_79 ?_
      refine z_dup2 X rfl rfl dX2_draws_80 ?_
      refine z_iald (g := w.1 6) X 7 0 rfl rfl (by omega) (by omega) ⟨by omega, by omega⟩ dX2_draws_81 ?_
      refine z_iload X 4 rfl dX2_draws_82 ?_
      refine z_iadd X dX2_draws_84 ?_
      refine z_iast (g := w.1 6) X 7 0 (Mw ad cI cZ (gA (gA (gA w 5 h ((w.1 5 h) - (m_lesser (w.1 14 h) (w.1 5 h)))) 14 h ((w.1 14 h) - (m_lesser (w.1 14 h) (w.1 5 h)))) 6 h ((w.1 6 h) + ((2 * (m_lesser (w.1 14 h) (w.1 5 h))) + 0)))) rfl rfl (by omega) (by omega) ⟨by omega, by omega⟩ rfl dX2_draws_85 ?_
      refine z_aload_n X 0 rfl dX2_draws_86 ?_
      refine z_dup X rfl dX2_draws_87 ?_
      refine z_get (v := .int (iZ (w.2 2))) X 2 0 10 hiX2 rfl rfl (by decide) ⟨rfl, rfl, rfl⟩ (by decide +kernel) rfl dX2_draws_88 ?_
      refine z_iload X 4 rfl dX2_draws_91 ?_
      refine z_iadd X dX2_draws_93 ?_
      refine z_put (v := .int (iZ ((w.2 2) + ((2 * (m_lesser (w.1 14 h) (w.1 5 h))) + 0)))) (ty := .int) X tyX2 2 0 10 (Mw ad cI cZ (gV (gA (gA (gA w 5 h ((w.1 5 h) - (m_lesser (w.1 14 h) (w.1 5 h)))) 14 h ((w.1 14 h) - (m_lesser (w.1 14 h) (w.1 5 h)))) 6 h ((w.1 6 h) + ((2 * (m_lesser (w.1 14 h) (w.1 5 h))) + 0))) 2 ((w.2 2) + ((2 * (m_lesser (w.1 14 h) (w.1 5 h))) + 0)))) tyX2_ok nmX2 hiX2 rfl rfl (by decide) ⟨rfl, rfl, rfl, rfl⟩ (by decide +kernel) rfl rfl rfl (Nat.le_of_ble_eq_true rfl) rfl dX2_draws_94 ?_
      refine z_aload_n X 0 rfl dX2_draws_97 ?_
      refine z_get (v := .ref (ad 13)) X 2 0 18 hiX2 rfl rfl (by decide) ⟨rfl, rfl, rfl⟩ (by decide +kernel) rfl dX2_draws_98 ?_
      refine z_iconst X dX2_draws_101 ?_
      refine z_dup2 X rfl rfl dX2_draws_102 ?_
      refine z_iald (g := w.1 12) X 13 0 rfl rfl (by omega) (by omega) ⟨by omega, by omega⟩ dX2_draws_103 ?_
      refine z_iload_n X 2 rfl dX2_draws_104 ?_
      refine z_iadd X dX2_draws_105 ?_
      refine z_iast (g := w.1 12) X 13 0 (Mw ad cI cZ (gA (gV (gA (gA (gA w 5 h ((w.1 5 h) - (m_lesser (w.1 14 h) (w.1 5 h)))) 14 h ((w.1 14 h) - (m_lesser (w.1 14 h) (w.1 5 h)))) 6 h ((w.1 6 h) + ((2 * (m_lesser (w.1 14 h) (w.1 5 h))) + 0))) 2 ((w.2 2) + ((2 * (m_lesser (w.1 14 h) (w.1 5 h))) + 0))) 12 3 ((w.1 12 3) + (m_lesser (w.1 14 h) (w.1 5 h))))) rfl rfl (by omega) (by omega) ⟨by omega, by omega⟩ rfl dX2_draws_106 ?_
      refine z_aload_n X 0 rfl dX2_draws_107 ?_
      refine z_get (v := .ref (ad 13)) X 2 0 18 hiX2 rfl rfl (by decide) ⟨rfl, rfl, rfl⟩ (by decide +kernel) rfl dX2_draws_108 ?_
      refine z_iconst X dX2_draws_111 ?_
      refine z_dup2 X rfl rfl dX2_draws_112 ?_
      refine z_iald (g := updZ (w.1 12) (3) ((w.1 12 3) + (m_lesser (w.1 14 h) (w.1 5 h)))) X 13 0 rfl rfl (by omega) (by omega) ⟨by omega, by omega⟩ dX2_draws_113 ?_
      refine z_aload_n X 0 rfl dX2_draws_114 ?_
      refine z_get (v := .ref (ad 15)) X 2 0 20 hiX2 rfl rfl (by decide) ⟨rfl, rfl, rfl⟩ (by decide +kernel) rfl dX2_draws_115 ?_
      refine z_iload_n X 1 rfl dX2_draws_118 ?_
      refine z_iald (g := updZ (w.1 14) (h) ((w.1 14 h) - (m_lesser (w.1 14 h) (w.1 5 h)))) X 15 0 rfl rfl (by omega) (by omega) ⟨by omega, by omega⟩ dX2_draws_119 ?_
      have w_9 := updZ_s (w.1 14) h ((w.1 14 h) - (m_lesser (w.1 14 h) (w.1 5 h)))
      refine z_iadd X dX2_draws_120 ?_
      refine z_iast (g := updZ (w.1 12) (3) ((w.1 12 3) + (m_lesser (w.1 14 h) (w.1 5 h)))) X 13 0 (Mw ad cI cZ (gA (gA (gV (gA (gA (gA w 5 h ((w.1 5 h) - (m_lesser (w.1 14 h) (w.1 5 h)))) 14 h ((w.1 14 h) - (m_lesser (w.1 14 h) (w.1 5 h)))) 6 h ((w.1 6 h) + ((2 * (m_lesser (w.1 14 h) (w.1 5 h))) + 0))) 2 ((w.2 2) + ((2 * (m_lesser (w.1 14 h) (w.1 5 h))) + 0))) 12 3 ((w.1 12 3) + (m_lesser (w.1 14 h) (w.1 5 h)))) 12 4 (((updZ (w.1 12) (3) ((w.1 12 3) + (m_lesser (w.1 14 h) (w.1 5 h)))) 4) + ((updZ (w.1 14) (h) ((w.1 14 h) - (m_lesser (w.1 14 h) (w.1 5 h)))) h)))) rfl rfl (by omega) (by omega) ⟨by omega, by omega⟩ rfl dX2_draws_121 ?_
      refine z_aload_n X 0 rfl dX2_draws_122 ?_
      refine z_get (v := .ref (ad 7)) X 2 0 6 hiX2 rfl rfl (by decide) ⟨rfl, rfl, rfl⟩ (by decide +kernel) rfl dX2_draws_123 ?_
      refine z_iload_n X 1 rfl dX2_draws_126 ?_
      refine z_dup2 X rfl rfl dX2_draws_127 ?_
      refine z_iald (g := updZ (w.1 6) (h) ((w.1 6 h) + ((2 * (m_lesser (w.1 14 h) (w.1 5 h))) + 0))) X 7 0 rfl rfl (by omega) (by omega) ⟨by omega, by omega⟩ dX2_draws_128 ?_
      have w_10 := updZ_s (w.1 6) h ((w.1 6 h) + ((2 * (m_lesser (w.1 14 h) (w.1 5 h))) + 0))
      refine z_aload_n X 0 rfl dX2_draws_129 ?_
      refine z_get (v := .ref (ad 15)) X 2 0 20 hiX2 rfl rfl (by decide) ⟨rfl, rfl, rfl⟩ (by decide +kernel) rfl dX2_draws_130 ?_
      refine z_iload_n X 1 rfl dX2_draws_133 ?_
      refine z_iald (g := updZ (w.1 14) (h) ((w.1 14 h) - (m_lesser (w.1 14 h) (w.1 5 h)))) X 15 0 rfl rfl (by omega) (by omega) ⟨by omega, by omega⟩ dX2_draws_134 ?_
      have w_11 := updZ_s (w.1 14) h ((w.1 14 h) - (m_lesser (w.1 14 h) (w.1 5 h)))
      refine z_aload_n X 0 rfl dX2_draws_135 ?_
      refine z_get (v := .int (iZ (w.2 0))) X 2 0 8 hiX2 rfl rfl (by decide) ⟨rfl, rfl, rfl⟩ (by decide +kernel) rfl dX2_draws_136 ?_
      refine z_imul X dX2_draws_139 ?_
      refine z_iadd X dX2_draws_140 ?_
      refine z_iast (g := updZ (w.1 6) (h) ((w.1 6 h) + ((2 * (m_lesser (w.1 14 h) (w.1 5 h))) + 0))) X 7 0 (Mw ad cI cZ (gA (gA (gA (gV (gA (gA (gA w 5 h ((w.1 5 h) - (m_lesser (w.1 14 h) (w.1 5 h)))) 14 h ((w.1 14 h) - (m_lesser (w.1 14 h) (w.1 5 h)))) 6 h ((w.1 6 h) + ((2 * (m_lesser (w.1 14 h) (w.1 5 h))) + 0))) 2 ((w.2 2) + ((2 * (m_lesser (w.1 14 h) (w.1 5 h))) + 0))) 12 3 ((w.1 12 3) + (m_lesser (w.1 14 h) (w.1 5 h)))) 12 4 (((updZ (w.1 12) (3) ((w.1 12 3) + (m_lesser (w.1 14 h) (w.1 5 h)))) 4) + ((updZ (w.1 14) (h) ((w.1 14 h) - (m_lesser (w.1 14 h) (w.1 5 h)))) h))) 6 h (((updZ (w.1 6) (h) ((w.1 6 h) + ((2 * (m_lesser (w.1 14 h) (w.1 5 h))) + 0))) h) + (((updZ (w.1 14) (h) ((w.1 14 h) - (m_lesser (w.1 14 h) (w.1 5 h)))) h) * (w.2 0))))) rfl rfl (by omega) (by omega) ⟨by omega, by omega⟩ rfl dX2_draws_141 ?_
      refine z_aload_n X 0 rfl dX2_draws_142 ?_
      refine z_dup X rfl dX2_draws_143 ?_
      refine z_get (v := .int (iZ (w.2 3))) X 2 0 11 hiX2 rfl rfl (by decide) ⟨rfl, rfl, rfl⟩ (by decide +kernel) rfl dX2_draws_144 ?_
      refine z_aload_n X 0 rfl dX2_draws_147 ?_
      refine z_get (v := .ref (ad 15)) X 2 0 20 hiX2 rfl rfl (by decide) ⟨rfl, rfl, rfl⟩ (by decide +kernel) rfl dX2_draws_148 ?_
      refine z_iload_n X 1 rfl dX2_draws_151 ?_
      refine z_iald (g := updZ (w.1 14) (h) ((w.1 14 h) - (m_lesser (w.1 14 h) (w.1 5 h)))) X 15 0 rfl rfl (by omega) (by omega) ⟨by omega, by omega⟩ dX2_draws_152 ?_
      have w_12 := updZ_s (w.1 14) h ((w.1 14 h) - (m_lesser (w.1 14 h) (w.1 5 h)))
      refine z_aload_n X 0 rfl dX2_draws_153 ?_
      refine z_get (v := .int (iZ (w.2 0))) X 2 0 8 hiX2 rfl rfl (by decide) ⟨rfl, rfl, rfl⟩ (by decide +kernel) rfl dX2_draws_154 ?_
      refine z_imul X dX2_draws_157 ?_
      refine z_iadd X dX2_draws_158 ?_
      refine z_put (v := .int (iZ ((w.2 3) + (((updZ (w.1 14) (h) ((w.1 14 h) - (m_lesser (w.1 14 h) (w.1 5 h)))) h) * (w.2 0))))) (ty := .int) X tyX2 2 0 11 (Mw ad cI cZ (gV (gA (gA (gA (gV (gA (gA (gA w 5 h ((w.1 5 h) - (m_lesser (w.1 14 h) (w.1 5 h)))) 14 h ((w.1 14 h) - (m_lesser (w.1 14 h) (w.1 5 h)))) 6 h ((w.1 6 h) + ((2 * (m_lesser (w.1 14 h) (w.1 5 h))) + 0))) 2 ((w.2 2) + ((2 * (m_lesser (w.1 14 h) (w.1 5 h))) + 0))) 12 3 ((w.1 12 3) + (m_lesser (w.1 14 h) (w.1 5 h)))) 12 4 (((updZ (w.1 12) (3) ((w.1 12 3) + (m_lesser (w.1 14 h) (w.1 5 h)))) 4) + ((updZ (w.1 14) (h) ((w.1 14 h) - (m_lesser (w.1 14 h) (w.1 5 h)))) h))) 6 h (((updZ (w.1 6) (h) ((w.1 6 h) + ((2 * (m_lesser (w.1 14 h) (w.1 5 h))) + 0))) h) + (((updZ (w.1 14) (h) ((w.1 14 h) - (m_lesser (w.1 14 h) (w.1 5 h)))) h) * (w.2 0)))) 3 ((w.2 3) + (((updZ (w.1 14) (h) ((w.1 14 h) - (m_lesser (w.1 14 h) (w.1 5 h)))) h) * (w.2 0))))) tyX2_ok nmX2 hiX2 rfl rfl (by decide) ⟨rfl, rfl, rfl, rfl⟩ (by decide +kernel) rfl rfl rfl (Nat.le_of_ble_eq_true rfl) rfl dX2_draws_159 ?_
      exact z_vret X hr hlk (congrArg (Mw ad cI cZ) (show gV (gA (gA (gA (gV (gA (gA (gA w 5 h ((w.1 5 h) - (m_lesser (w.1 14 h) (w.1 5 h)))) 14 h ((w.1 14 h) - (m_lesser (w.1 14 h) (w.1 5 h)))) 6 h ((w.1 6 h) + ((2 * (m_lesser (w.1 14 h) (w.1 5 h))) + 0))) 2 ((w.2 2) + ((2 * (m_lesser (w.1 14 h) (w.1 5 h))) + 0))) 12 3 ((w.1 12 3) + (m_lesser (w.1 14 h) (w.1 5 h)))) 12 4 (((updZ (w.1 12) (3) ((w.1 12 3) + (m_lesser (w.1 14 h) (w.1 5 h)))) 4) + ((updZ (w.1 14) (h) ((w.1 14 h) - (m_lesser (w.1 14 h) (w.1 5 h)))) h))) 6 h (((updZ (w.1 6) (h) ((w.1 6 h) + ((2 * (m_lesser (w.1 14 h) (w.1 5 h))) + 0))) h) + (((updZ (w.1 14) (h) ((w.1 14 h) - (m_lesser (w.1 14 h) (w.1 5 h)))) h) * (w.2 0)))) 3 ((w.2 3) + (((updZ (w.1 14) (h) ((w.1 14 h) - (m_lesser (w.1 14 h) (w.1 5 h)))) h) * (w.2 0))) = m_draws w h from by unfold m_draws; rw [show m_wear w h (m_drawX w h) = (2 * (m_lesser (w.1 14 h) (w.1 5 h))) + 0 from by unfold m_wear m_drawX; repeat' (first | with_reducible rfl | omega | split)]; rfl)) dX2_draws_162
    · skip
      refine z_iload_n X 3 rfl dX2_draws_67 ?_
      refine z_goto (tgt := 72) X (by decide) dX2_draws_68 ?_
      refine z_iadd X dX2_draws_72 ?_
      refine z_istore X [1, 2, 3, 4, 0] [(0, .ref (ad 0)), (1, .int (iZ h)), (2, .int (iZ (m_lesser (w.1 14 h) (w.1 5 h)))), (3, .int (iZ (((w.1 4 h) / 4) - ((updZ (w.1 5) (h) ((w.1 5 h) - (m_lesser (w.1 14 h) (w.1 5 h)))) h)))), (4, .int (iZ ((2 * (m_lesser (w.1 14 h) (w.1 5 h))) + (((w.1 4 h) / 4) - ((updZ (w.1 5) (h) ((w.1 5 h) - (m_lesser (w.1 14 h) (w.1 5 h)))) h)))))] rfl (Nat.le_of_ble_eq_true rfl) dX2_draws_73 ?_
      refine z_aload_n X 0 rfl dX2_draws_75 ?_
      refine z_get (v := .ref (ad 7)) X 2 0 6 hiX2 rfl rfl (by decide) ⟨rfl, rfl, rfl⟩ (by decide +kernel) rfl dX2_draws_76 ?_
      refine z_iload_n X 1 rfl dX2_draws_79 ?_
      refine z_dup2 X rfl rfl dX2_draws_80 ?_
      refine z_iald (g := w.1 6) X 7 0 rfl rfl (by omega) (by omega) ⟨by omega, by omega⟩ dX2_draws_81 ?_
      refine z_iload X 4 rfl dX2_draws_82 ?_
      refine z_iadd X dX2_draws_84 ?_
      refine z_iast (g := w.1 6) X 7 0 (Mw ad cI cZ (gA (gA (gA w 5 h ((w.1 5 h) - (m_lesser (w.1 14 h) (w.1 5 h)))) 14 h ((w.1 14 h) - (m_lesser (w.1 14 h) (w.1 5 h)))) 6 h ((w.1 6 h) + ((2 * (m_lesser (w.1 14 h) (w.1 5 h))) + (((w.1 4 h) / 4) - ((updZ (w.1 5) (h) ((w.1 5 h) - (m_lesser (w.1 14 h) (w.1 5 h)))) h)))))) rfl rfl (by omega) (by omega) ⟨by omega, by omega⟩ rfl dX2_draws_85 ?_
      refine z_aload_n X 0 rfl dX2_draws_86 ?_
      refine z_dup X rfl dX2_draws_87 ?_
      refine z_get (v := .int (iZ (w.2 2))) X 2 0 10 hiX2 rfl rfl (by decide) ⟨rfl, rfl, rfl⟩ (by decide +kernel) rfl dX2_draws_88 ?_
      refine z_iload X 4 rfl dX2_draws_91 ?_
      refine z_iadd X dX2_draws_93 ?_
      refine z_put (v := .int (iZ ((w.2 2) + ((2 * (m_lesser (w.1 14 h) (w.1 5 h))) + (((w.1 4 h) / 4) - ((updZ (w.1 5) (h) ((w.1 5 h) - (m_lesser (w.1 14 h) (w.1 5 h)))) h)))))) (ty := .int) X tyX2 2 0 10 (Mw ad cI cZ (gV (gA (gA (gA w 5 h ((w.1 5 h) - (m_lesser (w.1 14 h) (w.1 5 h)))) 14 h ((w.1 14 h) - (m_lesser (w.1 14 h) (w.1 5 h)))) 6 h ((w.1 6 h) + ((2 * (m_lesser (w.1 14 h) (w.1 5 h))) + (((w.1 4 h) / 4) - ((updZ (w.1 5) (h) ((w.1 5 h) - (m_lesser (w.1 14 h) (w.1 5 h)))) h))))) 2 ((w.2 2) + ((2 * (m_lesser (w.1 14 h) (w.1 5 h))) + (((w.1 4 h) / 4) - ((updZ (w.1 5) (h) ((w.1 5 h) - (m_lesser (w.1 14 h) (w.1 5 h)))) h)))))) tyX2_ok nmX2 hiX2 rfl rfl (by decide) ⟨rfl, rfl, rfl, rfl⟩ (by decide +kernel) rfl rfl rfl (Nat.le_of_ble_eq_true rfl) rfl dX2_draws_94 ?_
      refine z_aload_n X 0 rfl dX2_draws_97 ?_
      refine z_get (v := .ref (ad 13)) X 2 0 18 hiX2 rfl rfl (by decide) ⟨rfl, rfl, rfl⟩ (by decide +kernel) rfl dX2_draws_98 ?_
      refine z_iconst X dX2_draws_101 ?_
      refine z_dup2 X rfl rfl dX2_draws_102 ?_
      refine z_iald (g := w.1 12) X 13 0 rfl rfl (by omega) (by omega) ⟨by omega, by omega⟩ dX2_draws_103 ?_
      refine z_iload_n X 2 rfl dX2_draws_104 ?_
      refine z_iadd X dX2_draws_105 ?_
      refine z_iast (g := w.1 12) X 13 0 (Mw ad cI cZ (gA (gV (gA (gA (gA w 5 h ((w.1 5 h) - (m_lesser (w.1 14 h) (w.1 5 h)))) 14 h ((w.1 14 h) - (m_lesser (w.1 14 h) (w.1 5 h)))) 6 h ((w.1 6 h) + ((2 * (m_lesser (w.1 14 h) (w.1 5 h))) + (((w.1 4 h) / 4) - ((updZ (w.1 5) (h) ((w.1 5 h) - (m_lesser (w.1 14 h) (w.1 5 h)))) h))))) 2 ((w.2 2) + ((2 * (m_lesser (w.1 14 h) (w.1 5 h))) + (((w.1 4 h) / 4) - ((updZ (w.1 5) (h) ((w.1 5 h) - (m_lesser (w.1 14 h) (w.1 5 h)))) h))))) 12 3 ((w.1 12 3) + (m_lesser (w.1 14 h) (w.1 5 h))))) rfl rfl (by omega) (by omega) ⟨by omega, by omega⟩ rfl dX2_draws_106 ?_
      refine z_aload_n X 0 rfl dX2_draws_107 ?_
      refine z_get (v := .ref (ad 13)) X 2 0 18 hiX2 rfl rfl (by decide) ⟨rfl, rfl, rfl⟩ (by decide +kernel) rfl dX2_draws_108 ?_
      refine z_iconst X dX2_draws_111 ?_
      refine z_dup2 X rfl rfl dX2_draws_112 ?_
      refine z_iald (g := updZ (w.1 12) (3) ((w.1 12 3) + (m_lesser (w.1 14 h) (w.1 5 h)))) X 13 0 rfl rfl (by omega) (by omega) ⟨by omega, by omega⟩ dX2_draws_113 ?_
      refine z_aload_n X 0 rfl dX2_draws_114 ?_
      refine z_get (v := .ref (ad 15)) X 2 0 20 hiX2 rfl rfl (by decide) ⟨rfl, rfl, rfl⟩ (by decide +kernel) rfl dX2_draws_115 ?_
      refine z_iload_n X 1 rfl dX2_draws_118 ?_
      refine z_iald (g := updZ (w.1 14) (h) ((w.1 14 h) - (m_lesser (w.1 14 h) (w.1 5 h)))) X 15 0 rfl rfl (by omega) (by omega) ⟨by omega, by omega⟩ dX2_draws_119 ?_
      have w_13 := updZ_s (w.1 14) h ((w.1 14 h) - (m_lesser (w.1 14 h) (w.1 5 h)))
      refine z_iadd X dX2_draws_120 ?_
      refine z_iast (g := updZ (w.1 12) (3) ((w.1 12 3) + (m_lesser (w.1 14 h) (w.1 5 h)))) X 13 0 (Mw ad cI cZ (gA (gA (gV (gA (gA (gA w 5 h ((w.1 5 h) - (m_lesser (w.1 14 h) (w.1 5 h)))) 14 h ((w.1 14 h) - (m_lesser (w.1 14 h) (w.1 5 h)))) 6 h ((w.1 6 h) + ((2 * (m_lesser (w.1 14 h) (w.1 5 h))) + (((w.1 4 h) / 4) - ((updZ (w.1 5) (h) ((w.1 5 h) - (m_lesser (w.1 14 h) (w.1 5 h)))) h))))) 2 ((w.2 2) + ((2 * (m_lesser (w.1 14 h) (w.1 5 h))) + (((w.1 4 h) / 4) - ((updZ (w.1 5) (h) ((w.1 5 h) - (m_lesser (w.1 14 h) (w.1 5 h)))) h))))) 12 3 ((w.1 12 3) + (m_lesser (w.1 14 h) (w.1 5 h)))) 12 4 (((updZ (w.1 12) (3) ((w.1 12 3) + (m_lesser (w.1 14 h) (w.1 5 h)))) 4) + ((updZ (w.1 14) (h) ((w.1 14 h) - (m_lesser (w.1 14 h) (w.1 5 h)))) h)))) rfl rfl (by omega) (by omega) ⟨by omega, by omega⟩ rfl dX2_draws_121 ?_
      refine z_aload_n X 0 rfl dX2_draws_122 ?_
      refine z_get (v := .ref (ad 7)) X 2 0 6 hiX2 rfl rfl (by decide) ⟨rfl, rfl, rfl⟩ (by decide +kernel) rfl dX2_draws_123 ?_
      refine z_iload_n X 1 rfl dX2_draws_126 ?_
      refine z_dup2 X rfl rfl dX2_draws_127 ?_
      refine z_iald (g := updZ (w.1 6) (h) ((w.1 6 h) + ((2 * (m_lesser (w.1 14 h) (w.1 5 h))) + (((w.1 4 h) / 4) - ((updZ (w.1 5) (h) ((w.1 5 h) - (m_lesser (w.1 14 h) (w.1 5 h)))) h))))) X 7 0 rfl rfl (by omega) (by omega) ⟨by omega, by omega⟩ dX2_draws_128 ?_
      have w_14 := updZ_s (w.1 6) h ((w.1 6 h) + ((2 * (m_lesser (w.1 14 h) (w.1 5 h))) + (((w.1 4 h) / 4) - ((updZ (w.1 5) (h) ((w.1 5 h) - (m_lesser (w.1 14 h) (w.1 5 h)))) h))))
      refine z_aload_n X 0 rfl dX2_draws_129 ?_
      refine z_get (v := .ref (ad 15)) X 2 0 20 hiX2 rfl rfl (by decide) ⟨rfl, rfl, rfl⟩ (by decide +kernel) rfl dX2_draws_130 ?_
      refine z_iload_n X 1 rfl dX2_draws_133 ?_
      refine z_iald (g := updZ (w.1 14) (h) ((w.1 14 h) - (m_lesser (w.1 14 h) (w.1 5 h)))) X 15 0 rfl rfl (by omega) (by omega) ⟨by omega, by omega⟩ dX2_draws_134 ?_
      have w_15 := updZ_s (w.1 14) h ((w.1 14 h) - (m_lesser (w.1 14 h) (w.1 5 h)))
      refine z_aload_n X 0 rfl dX2_draws_135 ?_
      refine z_get (v := .int (iZ (w.2 0))) X 2 0 8 hiX2 rfl rfl (by decide) ⟨rfl, rfl, rfl⟩ (by decide +kernel) rfl dX2_draws_136 ?_
      refine z_imul X dX2_draws_139 ?_
      refine z_iadd X dX2_draws_140 ?_
      refine z_iast (g := updZ (w.1 6) (h) ((w.1 6 h) + ((2 * (m_lesser (w.1 14 h) (w.1 5 h))) + (((w.1 4 h) / 4) - ((updZ (w.1 5) (h) ((w.1 5 h) - (m_lesser (w.1 14 h) (w.1 5 h)))) h))))) X 7 0 (Mw ad cI cZ (gA (gA (gA (gV (gA (gA (gA w 5 h ((w.1 5 h) - (m_lesser (w.1 14 h) (w.1 5 h)))) 14 h ((w.1 14 h) - (m_lesser (w.1 14 h) (w.1 5 h)))) 6 h ((w.1 6 h) + ((2 * (m_lesser (w.1 14 h) (w.1 5 h))) + (((w.1 4 h) / 4) - ((updZ (w.1 5) (h) ((w.1 5 h) - (m_lesser (w.1 14 h) (w.1 5 h)))) h))))) 2 ((w.2 2) + ((2 * (m_lesser (w.1 14 h) (w.1 5 h))) + (((w.1 4 h) / 4) - ((updZ (w.1 5) (h) ((w.1 5 h) - (m_lesser (w.1 14 h) (w.1 5 h)))) h))))) 12 3 ((w.1 12 3) + (m_lesser (w.1 14 h) (w.1 5 h)))) 12 4 (((updZ (w.1 12) (3) ((w.1 12 3) + (m_lesser (w.1 14 h) (w.1 5 h)))) 4) + ((updZ (w.1 14) (h) ((w.1 14 h) - (m_lesser (w.1 14 h) (w.1 5 h)))) h))) 6 h (((updZ (w.1 6) (h) ((w.1 6 h) + ((2 * (m_lesser (w.1 14 h) (w.1 5 h))) + (((w.1 4 h) / 4) - ((updZ (w.1 5) (h) ((w.1 5 h) - (m_lesser (w.1 14 h) (w.1 5 h)))) h))))) h) + (((updZ (w.1 14) (h) ((w.1 14 h) - (m_lesser (w.1 14 h) (w.1 5 h)))) h) * (w.2 0))))) rfl rfl (by omega) (by omega) ⟨by omega, by omega⟩ rfl dX2_draws_141 ?_
      refine z_aload_n X 0 rfl dX2_draws_142 ?_
      refine z_dup X rfl dX2_draws_143 ?_
      refine z_get (v := .int (iZ (w.2 3))) X 2 0 11 hiX2 rfl rfl (by decide) ⟨rfl, rfl, rfl⟩ (by decide +kernel) rfl dX2_draws_144 ?_
      refine z_aload_n X 0 rfl dX2_draws_147 ?_
      refine z_get (v := .ref (ad 15)) X 2 0 20 hiX2 rfl rfl (by decide) ⟨rfl, rfl, rfl⟩ (by decide +kernel) rfl dX2_draws_148 ?_
      refine z_iload_n X 1 rfl dX2_draws_151 ?_
      refine z_iald (g := updZ (w.1 14) (h) ((w.1 14 h) - (m_lesser (w.1 14 h) (w.1 5 h)))) X 15 0 rfl rfl (by omega) (by omega) ⟨by omega, by omega⟩ dX2_draws_152 ?_
      have w_16 := updZ_s (w.1 14) h ((w.1 14 h) - (m_lesser (w.1 14 h) (w.1 5 h)))
      refine z_aload_n X 0 rfl dX2_draws_153 ?_
      refine z_get (v := .int (iZ (w.2 0))) X 2 0 8 hiX2 rfl rfl (by decide) ⟨rfl, rfl, rfl⟩ (by decide +kernel) rfl dX2_draws_154 ?_
      refine z_imul X dX2_draws_157 ?_
      refine z_iadd X dX2_draws_158 ?_
      refine z_put (v := .int (iZ ((w.2 3) + (((updZ (w.1 14) (h) ((w.1 14 h) - (m_lesser (w.1 14 h) (w.1 5 h)))) h) * (w.2 0))))) (ty := .int) X tyX2 2 0 11 (Mw ad cI cZ (gV (gA (gA (gA (gV (gA (gA (gA w 5 h ((w.1 5 h) - (m_lesser (w.1 14 h) (w.1 5 h)))) 14 h ((w.1 14 h) - (m_lesser (w.1 14 h) (w.1 5 h)))) 6 h ((w.1 6 h) + ((2 * (m_lesser (w.1 14 h) (w.1 5 h))) + (((w.1 4 h) / 4) - ((updZ (w.1 5) (h) ((w.1 5 h) - (m_lesser (w.1 14 h) (w.1 5 h)))) h))))) 2 ((w.2 2) + ((2 * (m_lesser (w.1 14 h) (w.1 5 h))) + (((w.1 4 h) / 4) - ((updZ (w.1 5) (h) ((w.1 5 h) - (m_lesser (w.1 14 h) (w.1 5 h)))) h))))) 12 3 ((w.1 12 3) + (m_lesser (w.1 14 h) (w.1 5 h)))) 12 4 (((updZ (w.1 12) (3) ((w.1 12 3) + (m_lesser (w.1 14 h) (w.1 5 h)))) 4) + ((updZ (w.1 14) (h) ((w.1 14 h) - (m_lesser (w.1 14 h) (w.1 5 h)))) h))) 6 h (((updZ (w.1 6) (h) ((w.1 6 h) + ((2 * (m_lesser (w.1 14 h) (w.1 5 h))) + (((w.1 4 h) / 4) - ((updZ (w.1 5) (h) ((w.1 5 h) - (m_lesser (w.1 14 h) (w.1 5 h)))) h))))) h) + (((updZ (w.1 14) (h) ((w.1 14 h) - (m_lesser (w.1 14 h) (w.1 5 h)))) h) * (w.2 0)))) 3 ((w.2 3) + (((updZ (w.1 14) (h) ((w.1 14 h) - (m_lesser (w.1 14 h) (w.1 5 h)))) h) * (w.2 0))))) tyX2_ok nmX2 hiX2 rfl rfl (by decide) ⟨rfl, rfl, rfl, rfl⟩ (by decide +kernel) rfl rfl rfl (Nat.le_of_ble_eq_true rfl) rfl dX2_draws_159 ?_
      exact z_vret X hr hlk (congrArg (Mw ad cI cZ) (show gV (gA (gA (gA (gV (gA (gA (gA w 5 h ((w.1 5 h) - (m_lesser (w.1 14 h) (w.1 5 h)))) 14 h ((w.1 14 h) - (m_lesser (w.1 14 h) (w.1 5 h)))) 6 h ((w.1 6 h) + ((2 * (m_lesser (w.1 14 h) (w.1 5 h))) + (((w.1 4 h) / 4) - ((updZ (w.1 5) (h) ((w.1 5 h) - (m_lesser (w.1 14 h) (w.1 5 h)))) h))))) 2 ((w.2 2) + ((2 * (m_lesser (w.1 14 h) (w.1 5 h))) + (((w.1 4 h) / 4) - ((updZ (w.1 5) (h) ((w.1 5 h) - (m_lesser (w.1 14 h) (w.1 5 h)))) h))))) 12 3 ((w.1 12 3) + (m_lesser (w.1 14 h) (w.1 5 h)))) 12 4 (((updZ (w.1 12) (3) ((w.1 12 3) + (m_lesser (w.1 14 h) (w.1 5 h)))) 4) + ((updZ (w.1 14) (h) ((w.1 14 h) - (m_lesser (w.1 14 h) (w.1 5 h)))) h))) 6 h (((updZ (w.1 6) (h) ((w.1 6 h) + ((2 * (m_lesser (w.1 14 h) (w.1 5 h))) + (((w.1 4 h) / 4) - ((updZ (w.1 5) (h) ((w.1 5 h) - (m_lesser (w.1 14 h) (w.1 5 h)))) h))))) h) + (((updZ (w.1 14) (h) ((w.1 14 h) - (m_lesser (w.1 14 h) (w.1 5 h)))) h) * (w.2 0)))) 3 ((w.2 3) + (((updZ (w.1 14) (h) ((w.1 14 h) - (m_lesser (w.1 14 h) (w.1 5 h)))) h) * (w.2 0))) = m_draws w h from by unfold m_draws; rw [show m_wear w h (m_drawX w h) = (2 * (m_lesser (w.1 14 h) (w.1 5 h))) + (((w.1 4 h) / 4) - ((updZ (w.1 5) (h) ((w.1 5 h) - (m_lesser (w.1 14 h) (w.1 5 h)))) h)) from by unfold m_wear m_drawX; repeat' (first | with_reducible rfl | omega | split)]; rfl)) dX2_draws_162
  · skip
    refine z_iconst X dX2_draws_56 ?_
    refine z_goto (tgt := 73) X (by decide) dX2_draws_57 ?_
    refine z_istore X [1, 2, 3, 4, 0] [(0, .ref (ad 0)), (1, .int (iZ h)), (2, .int (iZ (m_lesser (w.1 14 h) (w.1 5 h)))), (3, .int (iZ (((w.1 4 h) / 4) - ((updZ (w.1 5) (h) ((w.1 5 h) - (m_lesser (w.1 14 h) (w.1 5 h)))) h)))), (4, .int (iZ 0))] rfl (Nat.le_of_ble_eq_true rfl) dX2_draws_73 ?_
    refine z_aload_n X 0 rfl dX2_draws_75 ?_
    refine z_get (v := .ref (ad 7)) X 2 0 6 hiX2 rfl rfl (by decide) ⟨rfl, rfl, rfl⟩ (by decide +kernel) rfl dX2_draws_76 ?_
    refine z_iload_n X 1 rfl dX2_draws_79 ?_
    refine z_dup2 X rfl rfl dX2_draws_80 ?_
    refine z_iald (g := w.1 6) X 7 0 rfl rfl (by omega) (by omega) ⟨by omega, by omega⟩ dX2_draws_81 ?_
    refine z_iload X 4 rfl dX2_draws_82 ?_
    refine z_iadd X dX2_draws_84 ?_
    refine z_iast (g := w.1 6) X 7 0 (Mw ad cI cZ (gA (gA (gA w 5 h ((w.1 5 h) - (m_lesser (w.1 14 h) (w.1 5 h)))) 14 h ((w.1 14 h) - (m_lesser (w.1 14 h) (w.1 5 h)))) 6 h ((w.1 6 h) + 0))) rfl rfl (by omega) (by omega) ⟨by omega, by omega⟩ rfl dX2_draws_85 ?_
    refine z_aload_n X 0 rfl dX2_draws_86 ?_
    refine z_dup X rfl dX2_draws_87 ?_
    refine z_get (v := .int (iZ (w.2 2))) X 2 0 10 hiX2 rfl rfl (by decide) ⟨rfl, rfl, rfl⟩ (by decide +kernel) rfl dX2_draws_88 ?_
    refine z_iload X 4 rfl dX2_draws_91 ?_
    refine z_iadd X dX2_draws_93 ?_
    refine z_put (v := .int (iZ ((w.2 2) + 0))) (ty := .int) X tyX2 2 0 10 (Mw ad cI cZ (gV (gA (gA (gA w 5 h ((w.1 5 h) - (m_lesser (w.1 14 h) (w.1 5 h)))) 14 h ((w.1 14 h) - (m_lesser (w.1 14 h) (w.1 5 h)))) 6 h ((w.1 6 h) + 0)) 2 ((w.2 2) + 0))) tyX2_ok nmX2 hiX2 rfl rfl (by decide) ⟨rfl, rfl, rfl, rfl⟩ (by decide +kernel) rfl rfl rfl (Nat.le_of_ble_eq_true rfl) rfl dX2_draws_94 ?_
    refine z_aload_n X 0 rfl dX2_draws_97 ?_
    refine z_get (v := .ref (ad 13)) X 2 0 18 hiX2 rfl rfl (by decide) ⟨rfl, rfl, rfl⟩ (by decide +kernel) rfl dX2_draws_98 ?_
    refine z_iconst X dX2_draws_101 ?_
    refine z_dup2 X rfl rfl dX2_draws_102 ?_
    refine z_iald (g := w.1 12) X 13 0 rfl rfl (by omega) (by omega) ⟨by omega, by omega⟩ dX2_draws_103 ?_
    refine z_iload_n X 2 rfl dX2_draws_104 ?_
    refine z_iadd X dX2_draws_105 ?_
    refine z_iast (g := w.1 12) X 13 0 (Mw ad cI cZ (gA (gV (gA (gA (gA w 5 h ((w.1 5 h) - (m_lesser (w.1 14 h) (w.1 5 h)))) 14 h ((w.1 14 h) - (m_lesser (w.1 14 h) (w.1 5 h)))) 6 h ((w.1 6 h) + 0)) 2 ((w.2 2) + 0)) 12 3 ((w.1 12 3) + (m_lesser (w.1 14 h) (w.1 5 h))))) rfl rfl (by omega) (by omega) ⟨by omega, by omega⟩ rfl dX2_draws_106 ?_
    refine z_aload_n X 0 rfl dX2_draws_107 ?_
    refine z_get (v := .ref (ad 13)) X 2 0 18 hiX2 rfl rfl (by decide) ⟨rfl, rfl, rfl⟩ (by decide +kernel) rfl dX2_draws_108 ?_
    refine z_iconst X dX2_draws_111 ?_
    refine z_dup2 X rfl rfl dX2_draws_112 ?_
    refine z_iald (g := updZ (w.1 12) (3) ((w.1 12 3) + (m_lesser (w.1 14 h) (w.1 5 h)))) X 13 0 rfl rfl (by omega) (by omega) ⟨by omega, by omega⟩ dX2_draws_113 ?_
    refine z_aload_n X 0 rfl dX2_draws_114 ?_
    refine z_get (v := .ref (ad 15)) X 2 0 20 hiX2 rfl rfl (by decide) ⟨rfl, rfl, rfl⟩ (by decide +kernel) rfl dX2_draws_115 ?_
    refine z_iload_n X 1 rfl dX2_draws_118 ?_
    refine z_iald (g := updZ (w.1 14) (h) ((w.1 14 h) - (m_lesser (w.1 14 h) (w.1 5 h)))) X 15 0 rfl rfl (by omega) (by omega) ⟨by omega, by omega⟩ dX2_draws_119 ?_
    have w_17 := updZ_s (w.1 14) h ((w.1 14 h) - (m_lesser (w.1 14 h) (w.1 5 h)))
    refine z_iadd X dX2_draws_120 ?_
    refine z_iast (g := updZ (w.1 12) (3) ((w.1 12 3) + (m_lesser (w.1 14 h) (w.1 5 h)))) X 13 0 (Mw ad cI cZ (gA (gA (gV (gA (gA (gA w 5 h ((w.1 5 h) - (m_lesser (w.1 14 h) (w.1 5 h)))) 14 h ((w.1 14 h) - (m_lesser (w.1 14 h) (w.1 5 h)))) 6 h ((w.1 6 h) + 0)) 2 ((w.2 2) + 0)) 12 3 ((w.1 12 3) + (m_lesser (w.1 14 h) (w.1 5 h)))) 12 4 (((updZ (w.1 12) (3) ((w.1 12 3) + (m_lesser (w.1 14 h) (w.1 5 h)))) 4) + ((updZ (w.1 14) (h) ((w.1 14 h) - (m_lesser (w.1 14 h) (w.1 5 h)))) h)))) rfl rfl (by omega) (by omega) ⟨by omega, by omega⟩ rfl dX2_draws_121 ?_
    refine z_aload_n X 0 rfl dX2_draws_122 ?_
    refine z_get (v := .ref (ad 7)) X 2 0 6 hiX2 rfl rfl (by decide) ⟨rfl, rfl, rfl⟩ (by decide +kernel) rfl dX2_draws_123 ?_
    refine z_iload_n X 1 rfl dX2_draws_126 ?_
    refine z_dup2 X rfl rfl dX2_draws_127 ?_
    refine z_iald (g := updZ (w.1 6) (h) ((w.1 6 h) + 0)) X 7 0 rfl rfl (by omega) (by omega) ⟨by omega, by omega⟩ dX2_draws_128 ?_
    have w_18 := updZ_s (w.1 6) h ((w.1 6 h) + 0)
    refine z_aload_n X 0 rfl dX2_draws_129 ?_
    refine z_get (v := .ref (ad 15)) X 2 0 20 hiX2 rfl rfl (by decide) ⟨rfl, rfl, rfl⟩ (by decide +kernel) rfl dX2_draws_130 ?_
    refine z_iload_n X 1 rfl dX2_draws_133 ?_
    refine z_iald (g := updZ (w.1 14) (h) ((w.1 14 h) - (m_lesser (w.1 14 h) (w.1 5 h)))) X 15 0 rfl rfl (by omega) (by omega) ⟨by omega, by omega⟩ dX2_draws_134 ?_
    have w_19 := updZ_s (w.1 14) h ((w.1 14 h) - (m_lesser (w.1 14 h) (w.1 5 h)))
    refine z_aload_n X 0 rfl dX2_draws_135 ?_
    refine z_get (v := .int (iZ (w.2 0))) X 2 0 8 hiX2 rfl rfl (by decide) ⟨rfl, rfl, rfl⟩ (by decide +kernel) rfl dX2_draws_136 ?_
    refine z_imul X dX2_draws_139 ?_
    refine z_iadd X dX2_draws_140 ?_
    refine z_iast (g := updZ (w.1 6) (h) ((w.1 6 h) + 0)) X 7 0 (Mw ad cI cZ (gA (gA (gA (gV (gA (gA (gA w 5 h ((w.1 5 h) - (m_lesser (w.1 14 h) (w.1 5 h)))) 14 h ((w.1 14 h) - (m_lesser (w.1 14 h) (w.1 5 h)))) 6 h ((w.1 6 h) + 0)) 2 ((w.2 2) + 0)) 12 3 ((w.1 12 3) + (m_lesser (w.1 14 h) (w.1 5 h)))) 12 4 (((updZ (w.1 12) (3) ((w.1 12 3) + (m_lesser (w.1 14 h) (w.1 5 h)))) 4) + ((updZ (w.1 14) (h) ((w.1 14 h) - (m_lesser (w.1 14 h) (w.1 5 h)))) h))) 6 h (((updZ (w.1 6) (h) ((w.1 6 h) + 0)) h) + (((updZ (w.1 14) (h) ((w.1 14 h) - (m_lesser (w.1 14 h) (w.1 5 h)))) h) * (w.2 0))))) rfl rfl (by omega) (by omega) ⟨by omega, by omega⟩ rfl dX2_draws_141 ?_
    refine z_aload_n X 0 rfl dX2_draws_142 ?_
    refine z_dup X rfl dX2_draws_143 ?_
    refine z_get (v := .int (iZ (w.2 3))) X 2 0 11 hiX2 rfl rfl (by decide) ⟨rfl, rfl, rfl⟩ (by decide +kernel) rfl dX2_draws_144 ?_
    refine z_aload_n X 0 rfl dX2_draws_147 ?_
    refine z_get (v := .ref (ad 15)) X 2 0 20 hiX2 rfl rfl (by decide) ⟨rfl, rfl, rfl⟩ (by decide +kernel) rfl dX2_draws_148 ?_
    refine z_iload_n X 1 rfl dX2_draws_151 ?_
    refine z_iald (g := updZ (w.1 14) (h) ((w.1 14 h) - (m_lesser (w.1 14 h) (w.1 5 h)))) X 15 0 rfl rfl (by omega) (by omega) ⟨by omega, by omega⟩ dX2_draws_152 ?_
    have w_20 := updZ_s (w.1 14) h ((w.1 14 h) - (m_lesser (w.1 14 h) (w.1 5 h)))
    refine z_aload_n X 0 rfl dX2_draws_153 ?_
    refine z_get (v := .int (iZ (w.2 0))) X 2 0 8 hiX2 rfl rfl (by decide) ⟨rfl, rfl, rfl⟩ (by decide +kernel) rfl dX2_draws_154 ?_
    refine z_imul X dX2_draws_157 ?_
    refine z_iadd X dX2_draws_158 ?_
    refine z_put (v := .int (iZ ((w.2 3) + (((updZ (w.1 14) (h) ((w.1 14 h) - (m_lesser (w.1 14 h) (w.1 5 h)))) h) * (w.2 0))))) (ty := .int) X tyX2 2 0 11 (Mw ad cI cZ (gV (gA (gA (gA (gV (gA (gA (gA w 5 h ((w.1 5 h) - (m_lesser (w.1 14 h) (w.1 5 h)))) 14 h ((w.1 14 h) - (m_lesser (w.1 14 h) (w.1 5 h)))) 6 h ((w.1 6 h) + 0)) 2 ((w.2 2) + 0)) 12 3 ((w.1 12 3) + (m_lesser (w.1 14 h) (w.1 5 h)))) 12 4 (((updZ (w.1 12) (3) ((w.1 12 3) + (m_lesser (w.1 14 h) (w.1 5 h)))) 4) + ((updZ (w.1 14) (h) ((w.1 14 h) - (m_lesser (w.1 14 h) (w.1 5 h)))) h))) 6 h (((updZ (w.1 6) (h) ((w.1 6 h) + 0)) h) + (((updZ (w.1 14) (h) ((w.1 14 h) - (m_lesser (w.1 14 h) (w.1 5 h)))) h) * (w.2 0)))) 3 ((w.2 3) + (((updZ (w.1 14) (h) ((w.1 14 h) - (m_lesser (w.1 14 h) (w.1 5 h)))) h) * (w.2 0))))) tyX2_ok nmX2 hiX2 rfl rfl (by decide) ⟨rfl, rfl, rfl, rfl⟩ (by decide +kernel) rfl rfl rfl (Nat.le_of_ble_eq_true rfl) rfl dX2_draws_159 ?_
    exact z_vret X hr hlk (congrArg (Mw ad cI cZ) (show gV (gA (gA (gA (gV (gA (gA (gA w 5 h ((w.1 5 h) - (m_lesser (w.1 14 h) (w.1 5 h)))) 14 h ((w.1 14 h) - (m_lesser (w.1 14 h) (w.1 5 h)))) 6 h ((w.1 6 h) + 0)) 2 ((w.2 2) + 0)) 12 3 ((w.1 12 3) + (m_lesser (w.1 14 h) (w.1 5 h)))) 12 4 (((updZ (w.1 12) (3) ((w.1 12 3) + (m_lesser (w.1 14 h) (w.1 5 h)))) 4) + ((updZ (w.1 14) (h) ((w.1 14 h) - (m_lesser (w.1 14 h) (w.1 5 h)))) h))) 6 h (((updZ (w.1 6) (h) ((w.1 6 h) + 0)) h) + (((updZ (w.1 14) (h) ((w.1 14 h) - (m_lesser (w.1 14 h) (w.1 5 h)))) h) * (w.2 0)))) 3 ((w.2 3) + (((updZ (w.1 14) (h) ((w.1 14 h) - (m_lesser (w.1 14 h) (w.1 5 h)))) h) * (w.2 0))) = m_draws w h from by unfold m_draws; rw [show m_wear w h (m_drawX w h) = 0 from by unfold m_wear m_drawX; repeat' (first | with_reducible rfl | omega | split)]; rfl)) dX2_draws_162
set_option maxHeartbeats 4000000 in
set_option maxRecDepth 100000 in
theorem c_X2_clear (l : Launch) (D : va_G) (ad : Nat → Nat) (cI cZ cL : ClassId) (w : GS) (hq : w.2 4 < 500) (hq0 : 0 ≤ w.2 4) (hI : MI w) : zMi l D (zT cI cZ cL) yX2_clear wsX2_clear ({ frames := 4, cells := 0, slots := 0, locals := 93 } : Room) (Mw ad cI cZ w) [.ref (ad 0)] ((m_clearU (gV w 6 0)).1 12 0) (Mw ad cI cZ (m_clearU (gV w 6 0))) 0 0 := by
  have h1 : MI1 (m_begin (gV w 6 0)) := MI1_begin hI
  have h2 : MI2 (m_match (m_begin (gV w 6 0))) := (MI1_matchOk h1 6 (by omega)).to2
  have hS0 := SU_rg h2.2.1
  refine z_mi (cc := cX2_clear) (maxL := 4) (ret := (some .int)) (by decide) rfl (Nat.le_of_ble_eq_true rfl) ?_
  intro p e s m below meth c A X hr hlk hin
  have hiX2 : ∀ w ∈ wsX20, w ∈ wsX2_clear := by decide +kernel
  refine z_sub (lv' := [(0, .ref (ad 0))]) [0] rfl ?_
  refine z_aload_n X 0 rfl dX2_clear_0 ?_
  refine z_aload_n X 0 rfl dX2_clear_1 ?_
  refine z_get (v := .int (iZ (w.2 4))) X 2 0 12 hiX2 rfl rfl (by decide) ⟨rfl, rfl, rfl⟩ (by decide +kernel) rfl dX2_clear_2 ?_
  refine z_sipush X (by decide) dX2_clear_5 ?_
  refine z_icmp_ge (tgt := 15) X ⟨by omega, by omega⟩ ⟨by omega, by omega⟩ (by decide) dX2_clear_8 (fun c_1 => ?_) (fun c_1 => ?_)
  · exact absurd c_1 (by omega)
  · skip
    refine z_iconst X dX2_clear_11 ?_
    refine z_goto (tgt := 16) X (by decide) dX2_clear_12 ?_
    refine z_iconst X dX2_clear_16 ?_
    refine z_iconst X dX2_clear_17 ?_
    refine z_calli X (c_X2_goesK l D ad cI cZ cL w 1 1 1 0 1 (by omega) (by omega) (by omega) (by decide) (by decide)) (cwV 3 X.2.2.2.2.1 gX2_clear_X2_goes rfl rfl rfl (by decide +kernel) ⟨Nat.le_of_ble_eq_true rfl, Nat.le_of_ble_eq_true rfl⟩) rfl [] [] (List.append_nil _).symm 2 0 rfl rfl [] rfl (Nat.le_of_ble_eq_true rfl) dX2_clear_18 ⟨Nat.le_of_ble_eq_true rfl, Nat.le_of_ble_eq_true rfl⟩ (List.append_nil _) ?_
    refine z_if_ne (tgt := 26) X ⟨by omega, by omega⟩ (by decide) dX2_clear_21 (fun c_2 => ?_) (fun c_2 => ?_)
    · skip
      refine z_aload_n X 0 rfl dX2_clear_26 ?_
      refine z_iconst X dX2_clear_27 ?_
      refine z_put (v := .int (iZ 0)) (ty := .int) X tyX2 2 0 17 (Mw ad cI cZ (gV (gV w 6 0) 5 0)) tyX2_ok nmX2 hiX2 rfl rfl (by decide) ⟨rfl, rfl, rfl, rfl⟩ (by decide +kernel) rfl rfl rfl (Nat.le_of_ble_eq_true rfl) rfl dX2_clear_28 ?_
      refine z_iconst X dX2_clear_31 ?_
      refine z_istore_n X [1, 0] [(0, .ref (ad 0)), (1, .int (iZ 0))] rfl (Nat.le_of_ble_eq_true rfl) dX2_clear_32 ?_
      refine zfor_ind 6 6 (rfl) (m_beginW) (gV (gV w 6 0) 5 0) (fun (i_33 : Int) (a_33 : GS) => zW p l e ({ frames := 4, cells := 0, slots := 0, locals := 93 } : Room) s m ([.ref (ad 0)] : List Value).toArray below meth c 4 D A 0 0 (MQ below (zPi D (zT cI cZ cL) (Mw ad cI cZ (m_clearU (gV w 6 0))) ((m_clearU (gV w 6 0)).1 12 0) A) ([.ref (ad 0)] : List Value).toArray s 0 0 A) (Mw ad cI cZ a_33) 33 [(0, .ref (ad 0)), (1, .int (iZ i_33))] []) ?_ ?_
      · intro a_33 ha_33
        refine z_iload_n X 1 rfl dX2_clear_33 ?_
        refine z_bipush X (by decide) dX2_clear_34 ?_
        refine z_icmp_ge (tgt := 52) X ⟨by omega, by omega⟩ ⟨by omega, by omega⟩ (by decide) dX2_clear_36 (fun c_3 => ?_) (fun c_3 => ?_)
        · skip
          refine z_iconst X dX2_clear_52 ?_
          refine z_istore_n X [1, 0] [(0, .ref (ad 0)), (1, .int (iZ 0))] rfl (Nat.le_of_ble_eq_true rfl) dX2_clear_53 ?_
          refine zfor_ind 6 6 (rfl) (m_beginL) a_33 (fun (i_54 : Int) (a_54 : GS) => zW p l e ({ frames := 4, cells := 0, slots := 0, locals := 93 } : Room) s m ([.ref (ad 0)] : List Value).toArray below meth c 4 D A 0 0 (MQ below (zPi D (zT cI cZ cL) (Mw ad cI cZ (m_clearU (gV w 6 0))) ((m_clearU (gV w 6 0)).1 12 0) A) ([.ref (ad 0)] : List Value).toArray s 0 0 A) (Mw ad cI cZ a_54) 54 [(0, .ref (ad 0)), (1, .int (iZ i_54))] []) ?_ ?_
          · intro a_54 ha_54
            have hb1 : ∀ q, -50 ≤ a_54.1 1 q ∧ a_54.1 1 q ≤ 50 := by rw [ha_54, m_beginLk_1 _ _ 1 (by decide), ha_33, m_beginWk_1 _ _ 1 (by decide)]; exact hI.1.2.2.1
            have hb7 : ∀ q, 0 ≤ a_54.1 7 q ∧ a_54.1 7 q ≤ 1 := by rw [ha_54, m_beginLk_1 _ _ 7 (by decide), ha_33, m_beginWk_1 _ _ 7 (by decide)]; exact hI.1.1
            refine z_iload_n X 1 rfl dX2_clear_54 ?_
            refine z_bipush X (by decide) dX2_clear_55 ?_
            refine z_icmp_ge (tgt := 94) X ⟨by omega, by omega⟩ ⟨by omega, by omega⟩ (by decide) dX2_clear_57 (fun c_4 => ?_) (fun c_4 => ?_)
            · skip
              have h54 : a_54 = m_begin (gV w 6 0) := by rw [ha_54, ha_33]; rfl
              refine z_iconst X dX2_clear_94 ?_
              refine z_istore_n X [1, 0] [(0, .ref (ad 0)), (1, .int (iZ 0))] rfl (Nat.le_of_ble_eq_true rfl) dX2_clear_95 ?_
              refine zfor_ind 6 6 (rfl) (m_matchO) a_54 (fun (i_96 : Int) (a_96 : GS) => zW p l e ({ frames := 4, cells := 0, slots := 0, locals := 93 } : Room) s m ([.ref (ad 0)] : List Value).toArray below meth c 4 D A 0 0 (MQ below (zPi D (zT cI cZ cL) (Mw ad cI cZ (m_clearU (gV w 6 0))) ((m_clearU (gV w 6 0)).1 12 0) A) ([.ref (ad 0)] : List Value).toArray s 0 0 A) (Mw ad cI cZ a_96) 96 [(0, .ref (ad 0)), (1, .int (iZ i_96))] []) ?_ ?_
              · intro a_96 ha_96
                have hIo : MI1 a_96 := by rw [ha_96, h54]; exact MI1_matchOk h1 6 (by omega)
                refine z_iload_n X 1 rfl dX2_clear_96 ?_
                refine z_bipush X (by decide) dX2_clear_97 ?_
                refine z_icmp_ge (tgt := 144) X ⟨by omega, by omega⟩ ⟨by omega, by omega⟩ (by decide) dX2_clear_99 (fun c_5 => ?_) (fun c_5 => ?_)
                · skip
                  have h96 : a_96 = m_match (m_begin (gV w 6 0)) := by rw [ha_96, h54]; rfl
                  refine z_iconst X dX2_clear_144 ?_
                  refine z_istore_n X [1, 0] [(0, .ref (ad 0)), (1, .int (iZ 1))] rfl (Nat.le_of_ble_eq_true rfl) dX2_clear_145 ?_
                  suffices H_146 : ∀ (n_146 : Nat) (x_146 : Int) (v_146 : GS), (MI2 v_146 ∧ (0 < x_146 → SU v_146 + 1 ≤ ((n_146 : Nat) : Int)) ∧ 0 ≤ x_146 ∧ x_146 ≤ 600) → (m_cutAll n_146 (x_146, v_146) = m_cutAll 302 (1, m_match (m_begin (gV w 6 0)))) → zW p l e ({ frames := 4, cells := 0, slots := 0, locals := 93 } : Room) s m ([.ref (ad 0)] : List Value).toArray below meth c 4 D A 0 0 (MQ below (zPi D (zT cI cZ cL) (Mw ad cI cZ (m_clearU (gV w 6 0))) ((m_clearU (gV w 6 0)).1 12 0) A) ([.ref (ad 0)] : List Value).toArray s 0 0 A) (Mw ad cI cZ v_146) 146 [(0, .ref (ad 0)), (1, .int (iZ x_146))] [] from H_146 302 1 a_96 ⟨by rw [h96]; exact h2, (fun _ => by rw [h96]; omega), by omega, by omega⟩ (by rw [h96])
                  intro n_146
                  induction n_146 with
                  | zero =>
                    intro x_146 v_146 hI_146 hF_146
                    have hx_146 := hI_146.2
                    have hS_146 := SU_rg hI_146.1.2.1
                    have hc0_146 := hI_146.1.2.1.1
                    have hc6_146 := hI_146.1.2.1.2.1
                    refine z_iload_n X 1 rfl dX2_clear_146 ?_
                    refine z_if_le (tgt := 185) X ⟨by omega, by omega⟩ (by decide) dX2_clear_147 (fun c_6 => ?_) (fun c_6 => ?_)
                    · skip
                      have hv_146 : v_146 = m_cutAll 302 (1, m_match (m_begin (gV w 6 0))) := by rw [← hF_146]; simp only [m_cutAll] <;> repeat' (first | with_reducible rfl | omega | split)
                      refine z_iconst X dX2_clear_185 ?_
                      refine z_istore_n X [1, 2, 0] [(0, .ref (ad 0)), (1, .int (iZ x_146)), (2, .int (iZ 0))] rfl (Nat.le_of_ble_eq_true rfl) dX2_clear_186 ?_
                      refine z_sub (lv' := [(0, .ref (ad 0)), (2, .int (iZ 0))]) [0, 2] rfl ?_
                      refine zfor_ind (v_146.2 5).toNat (v_146.2 5) (by have := hI_146.1.2.1.1; omega) (m_setS) v_146 (fun (i_187 : Int) (a_187 : GS) => zW p l e ({ frames := 4, cells := 0, slots := 0, locals := 93 } : Room) s m ([.ref (ad 0)] : List Value).toArray below meth c 4 D A 0 0 (MQ below (zPi D (zT cI cZ cL) (Mw ad cI cZ (m_clearU (gV w 6 0))) ((m_clearU (gV w 6 0)).1 12 0) A) ([.ref (ad 0)] : List Value).toArray s 0 0 A) (Mw ad cI cZ a_187) 187 [(0, .ref (ad 0)), (2, .int (iZ i_187))] []) ?_ ?_
                      · intro a_187 ha_187
                        have hg_187 : MI2 a_187 := by rw [ha_187]; exact MI2_setk hI_146.1 ((v_146.2 5).toNat)
                        have hc_187 : a_187.2 5 = v_146.2 5 := by rw [ha_187, m_setk_2]
                        refine z_iload_n X 1 rfl dX2_clear_187 ?_
                        refine z_aload_n X 0 rfl dX2_clear_188 ?_
                        refine z_get (v := .int (iZ (a_187.2 5))) X 2 0 17 hiX2 rfl rfl (by decide) ⟨rfl, rfl, rfl⟩ (by decide +kernel) rfl dX2_clear_189 ?_
                        refine z_icmp_ge (tgt := 270) X ⟨by omega, by omega⟩ ⟨by omega, by omega⟩ (by decide) dX2_clear_192 (fun c_7 => ?_) (fun c_7 => ?_)
                        · skip
                          refine z_iconst X dX2_clear_270 ?_
                          refine z_istore_n X [1, 0] [(0, .ref (ad 0)), (2, .int (iZ 0))] rfl (Nat.le_of_ble_eq_true rfl) dX2_clear_271 ?_
                          refine zfor_ind 6 6 (rfl) (m_house) a_187 (fun (i_272 : Int) (a_272 : GS) => zW p l e ({ frames := 4, cells := 0, slots := 0, locals := 93 } : Room) s m ([.ref (ad 0)] : List Value).toArray below meth c 4 D A 0 0 (MQ below (zPi D (zT cI cZ cL) (Mw ad cI cZ (m_clearU (gV w 6 0))) ((m_clearU (gV w 6 0)).1 12 0) A) ([.ref (ad 0)] : List Value).toArray s 0 0 A) (Mw ad cI cZ a_272) 272 [(0, .ref (ad 0)), (2, .int (iZ i_272))] []) ?_ ?_
                          · intro a_272 ha_272
                            have hg_272 : MI3 a_272 := by rw [ha_272]; exact MI3_housek hg_187.to3 (6)
                            have hB_272 := hg_272.bd
                            refine z_iload_n X 1 rfl dX2_clear_272 ?_
                            refine z_bipush X (by decide) dX2_clear_273 ?_
                            refine z_icmp_ge (tgt := 363) X ⟨by omega, by omega⟩ ⟨by omega, by omega⟩ (by decide) dX2_clear_275 (fun c_8 => ?_) (fun c_8 => ?_)
                            · skip
                              refine z_iconst X dX2_clear_363 ?_
                              refine z_istore_n X [1, 0] [(0, .ref (ad 0)), (2, .int (iZ 0))] rfl (Nat.le_of_ble_eq_true rfl) dX2_clear_364 ?_
                              refine zfor_ind 5 5 (rfl) (m_flowF) a_272 (fun (i_365 : Int) (a_365 : GS) => zW p l e ({ frames := 4, cells := 0, slots := 0, locals := 93 } : Room) s m ([.ref (ad 0)] : List Value).toArray below meth c 4 D A 0 0 (MQ below (zPi D (zT cI cZ cL) (Mw ad cI cZ (m_clearU (gV w 6 0))) ((m_clearU (gV w 6 0)).1 12 0) A) ([.ref (ad 0)] : List Value).toArray s 0 0 A) (Mw ad cI cZ a_365) 365 [(0, .ref (ad 0)), (2, .int (iZ i_365))] []) ?_ ?_
                              · intro a_365 ha_365
                                have hg_365 : MI3 a_365 := by rw [ha_365]; exact MI3_flowk hg_272 (5)
                                have hB_365 := hg_365.bd
                                have hc0_365 := hg_365.2.1.1
                                have hc6_365 := hg_365.2.1.2.1
                                refine z_iload_n X 1 rfl dX2_clear_365 ?_
                                refine z_iconst X dX2_clear_366 ?_
                                refine z_icmp_ge (tgt := 387) X ⟨by omega, by omega⟩ ⟨by omega, by omega⟩ (by decide) dX2_clear_367 (fun c_9 => ?_) (fun c_9 => ?_)
                                · skip
                                  refine z_iconst X dX2_clear_387 ?_
                                  refine z_istore_n X [1, 0] [(0, .ref (ad 0)), (2, .int (iZ 0))] rfl (Nat.le_of_ble_eq_true rfl) dX2_clear_388 ?_
                                  refine zfor_ind 6 6 (rfl) (m_nextS) a_365 (fun (i_389 : Int) (a_389 : GS) => zW p l e ({ frames := 4, cells := 0, slots := 0, locals := 93 } : Room) s m ([.ref (ad 0)] : List Value).toArray below meth c 4 D A 0 0 (MQ below (zPi D (zT cI cZ cL) (Mw ad cI cZ (m_clearU (gV w 6 0))) ((m_clearU (gV w 6 0)).1 12 0) A) ([.ref (ad 0)] : List Value).toArray s 0 0 A) (Mw ad cI cZ a_389) 389 [(0, .ref (ad 0)), (2, .int (iZ i_389))] []) ?_ ?_
                                  · intro a_389 ha_389
                                    refine z_iload_n X 1 rfl dX2_clear_389 ?_
                                    refine z_bipush X (by decide) dX2_clear_390 ?_
                                    refine z_icmp_ge (tgt := 415) X ⟨by omega, by omega⟩ ⟨by omega, by omega⟩ (by decide) dX2_clear_392 (fun c_10 => ?_) (fun c_10 => ?_)
                                    · skip
                                      refine z_aload_n X 0 rfl dX2_clear_415 ?_
                                      refine z_dup X rfl dX2_clear_416 ?_
                                      refine z_get (v := .int (iZ (a_389.2 4))) X 2 0 12 hiX2 rfl rfl (by decide) ⟨rfl, rfl, rfl⟩ (by decide +kernel) rfl dX2_clear_417 ?_
                                      refine z_iconst X dX2_clear_420 ?_
                                      refine z_iadd X dX2_clear_421 ?_
                                      refine z_put (v := .int (iZ ((a_389.2 4) + 1))) (ty := .int) X tyX2 2 0 12 (Mw ad cI cZ (gV a_389 4 ((a_389.2 4) + 1))) tyX2_ok nmX2 hiX2 rfl rfl (by decide) ⟨rfl, rfl, rfl, rfl⟩ (by decide +kernel) rfl rfl rfl (Nat.le_of_ble_eq_true rfl) rfl dX2_clear_422 ?_
                                      refine z_aload_n X 0 rfl dX2_clear_425 ?_
                                      refine z_get (v := .ref (ad 13)) X 2 0 18 hiX2 rfl rfl (by decide) ⟨rfl, rfl, rfl⟩ (by decide +kernel) rfl dX2_clear_426 ?_
                                      refine z_iconst X dX2_clear_429 ?_
                                      refine z_iald (g := a_389.1 12) X 13 0 rfl rfl (by omega) (by omega) ⟨by omega, by omega⟩ dX2_clear_430 ?_
                                      exact z_iret X hr hlk (by rw [ha_389, ha_365, ha_272, ha_187, hv_146]; rfl) (congrArg (Mw ad cI cZ) (by rw [ha_389, ha_365, ha_272, ha_187, hv_146]; rfl)) dX2_clear_431
                                    · exact absurd c_10 (by omega)
                                  · intro i_389 k_389 a_389 hi_389 h0i_389 h1i_389 ha_389 hk_389
                                    refine z_iload_n X 1 rfl dX2_clear_389 ?_
                                    refine z_bipush X (by decide) dX2_clear_390 ?_
                                    refine z_icmp_ge (tgt := 415) X ⟨by omega, by omega⟩ ⟨by omega, by omega⟩ (by decide) dX2_clear_392 (fun c_11 => ?_) (fun c_11 => ?_)
                                    · exact absurd c_11 (by omega)
                                    · skip
                                      refine z_aload_n X 0 rfl dX2_clear_395 ?_
                                      refine z_get (v := .ref (ad 1)) X 2 0 0 hiX2 rfl rfl (by decide) ⟨rfl, rfl, rfl⟩ (by decide +kernel) rfl dX2_clear_396 ?_
                                      refine z_iload_n X 1 rfl dX2_clear_399 ?_
                                      refine z_iconst X dX2_clear_400 ?_
                                      refine z_iast (g := a_389.1 0) X 1 0 (Mw ad cI cZ (gA a_389 0 i_389 0)) rfl rfl (by omega) (by omega) ⟨by omega, by omega⟩ rfl dX2_clear_401 ?_
                                      refine z_aload_n X 0 rfl dX2_clear_402 ?_
                                      refine z_get (v := .ref (ad 2)) X 2 0 1 hiX2 rfl rfl (by decide) ⟨rfl, rfl, rfl⟩ (by decide +kernel) rfl dX2_clear_403 ?_
                                      refine z_iload_n X 1 rfl dX2_clear_406 ?_
                                      refine z_iconst X dX2_clear_407 ?_
                                      refine z_iast (g := a_389.1 1) X 2 0 (Mw ad cI cZ (gA (gA a_389 0 i_389 0) 1 i_389 0)) rfl rfl (by omega) (by omega) ⟨by omega, by omega⟩ rfl dX2_clear_408 ?_
                                      refine z_iinc X 1 [1, 0] [(0, .ref (ad 0)), (2, .int (iZ (i_389 + 1)))] rfl rfl (Nat.le_of_ble_eq_true rfl) dX2_clear_409 ?_
                                      refine z_goto (tgt := 389) X (by decide) dX2_clear_412 ?_
                                      exact z_eq (congrArg (Mw ad cI cZ) (show m_nextS i_389 a_389 = gA (gA a_389 0 i_389 0) 1 i_389 0 from rfl)) rfl hk_389
                                · exact absurd c_9 (by omega)
                              · intro i_365 k_365 a_365 hi_365 h0i_365 h1i_365 ha_365 hk_365
                                have hg_365 : MI3 a_365 := by rw [ha_365]; exact MI3_flowk hg_272 (k_365)
                                have hB_365 := hg_365.bd
                                have hc0_365 := hg_365.2.1.1
                                have hc6_365 := hg_365.2.1.2.1
                                refine z_iload_n X 1 rfl dX2_clear_365 ?_
                                refine z_iconst X dX2_clear_366 ?_
                                refine z_icmp_ge (tgt := 387) X ⟨by omega, by omega⟩ ⟨by omega, by omega⟩ (by decide) dX2_clear_367 (fun c_12 => ?_) (fun c_12 => ?_)
                                · exact absurd c_12 (by omega)
                                · skip
                                  refine z_aload_n X 0 rfl dX2_clear_370 ?_
                                  refine z_get (v := .ref (ad 14)) X 2 0 19 hiX2 rfl rfl (by decide) ⟨rfl, rfl, rfl⟩ (by decide +kernel) rfl dX2_clear_371 ?_
                                  refine z_iload_n X 1 rfl dX2_clear_374 ?_
                                  refine z_aload_n X 0 rfl dX2_clear_375 ?_
                                  refine z_iload_n X 1 rfl dX2_clear_376 ?_
                                  refine z_calli X (c_X2_flowOver l D ad cI cZ cL a_365 i_365 ⟨by omega, by omega⟩ ⟨by omega, by omega⟩ hB_365) (cwV 1 X.2.2.2.2.1 gX2_clear_X2_flowOver rfl rfl rfl (by decide +kernel) ⟨Nat.le_of_ble_eq_true rfl, Nat.le_of_ble_eq_true rfl⟩) rfl [] [] (List.append_nil _).symm 2 0 rfl rfl [.int (iZ i_365), .ref (ad 14)] rfl (Nat.le_of_ble_eq_true rfl) dX2_clear_377 ⟨Nat.le_of_ble_eq_true rfl, Nat.le_of_ble_eq_true rfl⟩ (List.append_nil _) ?_
                                  have r_13 : -6000 ≤ m_flow a_365 i_365 ∧ m_flow a_365 i_365 ≤ 6000 := m_flowk a_365 i_365 (fun i => hB_365 10 rfl i) _ (by omega)
                                  refine z_iast (g := a_365.1 13) X 14 0 (Mw ad cI cZ (gA a_365 13 i_365 (m_flow a_365 i_365))) rfl rfl (by omega) (by omega) ⟨by omega, by omega⟩ rfl dX2_clear_380 ?_
                                  refine z_iinc X 1 [1, 0] [(0, .ref (ad 0)), (2, .int (iZ (i_365 + 1)))] rfl rfl (Nat.le_of_ble_eq_true rfl) dX2_clear_381 ?_
                                  refine z_goto (tgt := 365) X (by decide) dX2_clear_384 ?_
                                  exact z_eq (congrArg (Mw ad cI cZ) (show m_flowF i_365 a_365 = gA a_365 13 i_365 (m_flow a_365 i_365) from rfl)) rfl hk_365
                            · exact absurd c_8 (by omega)
                          · intro i_272 k_272 a_272 hi_272 h0i_272 h1i_272 ha_272 hk_272
                            have hg_272 : MI3 a_272 := by rw [ha_272]; exact MI3_housek hg_187.to3 (k_272)
                            have hB_272 := hg_272.bd
                            refine z_iload_n X 1 rfl dX2_clear_272 ?_
                            refine z_bipush X (by decide) dX2_clear_273 ?_
                            refine z_icmp_ge (tgt := 363) X ⟨by omega, by omega⟩ ⟨by omega, by omega⟩ (by decide) dX2_clear_275 (fun c_14 => ?_) (fun c_14 => ?_)
                            · exact absurd c_14 (by omega)
                            · skip
                              refine z_aload_n X 0 rfl dX2_clear_278 ?_
                              refine z_iload_n X 1 rfl dX2_clear_279 ?_
                              refine z_calli X (c_X2_isSeller l D ad cI cZ cL a_272 i_272 (by omega) hB_272) (cwV 1 X.2.2.2.2.1 gX2_clear_X2_isSeller rfl rfl rfl (by decide +kernel) ⟨Nat.le_of_ble_eq_true rfl, Nat.le_of_ble_eq_true rfl⟩) rfl [] [] (List.append_nil _).symm 2 0 rfl rfl [] rfl (Nat.le_of_ble_eq_true rfl) dX2_clear_280 ⟨Nat.le_of_ble_eq_true rfl, Nat.le_of_ble_eq_true rfl⟩ (List.append_nil _) ?_
                              have r_15 := m_isel_sp a_272 i_272
                              refine z_if_eq (tgt := 294) X ⟨by omega, by omega⟩ (by decide) dX2_clear_283 (fun c_16 => ?_) (fun c_16 => ?_)
                              · skip
                                refine z_aload_n X 0 rfl dX2_clear_294 ?_
                                refine z_iload_n X 1 rfl dX2_clear_295 ?_
                                refine z_calli X (c_X2_isBuyer l D ad cI cZ cL a_272 i_272 (by omega) hB_272) (cwV 1 X.2.2.2.2.1 gX2_clear_X2_isBuyer rfl rfl rfl (by decide +kernel) ⟨Nat.le_of_ble_eq_true rfl, Nat.le_of_ble_eq_true rfl⟩) rfl [] [] (List.append_nil _).symm 2 0 rfl rfl [] rfl (Nat.le_of_ble_eq_true rfl) dX2_clear_296 ⟨Nat.le_of_ble_eq_true rfl, Nat.le_of_ble_eq_true rfl⟩ (List.append_nil _) ?_
                                have r_17 := m_buyer_sp a_272 i_272
                                refine z_if_eq (tgt := 307) X ⟨by omega, by omega⟩ (by decide) dX2_clear_299 (fun c_18 => ?_) (fun c_18 => ?_)
                                · skip
                                  refine z_aload_n X 0 rfl dX2_clear_307 ?_
                                  refine z_get (v := .ref (ad 8)) X 2 0 7 hiX2 rfl rfl (by decide) ⟨rfl, rfl, rfl⟩ (by decide +kernel) rfl dX2_clear_308 ?_
                                  refine z_iload_n X 1 rfl dX2_clear_311 ?_
                                  refine z_zald (g := a_272.1 7) X 8 1 rfl rfl (by omega) (by omega) ⟨by omega, by omega⟩ dX2_clear_312 ?_
                                  have b_19 := hB_272 7 rfl i_272
                                  refine z_if_eq (tgt := 320) X ⟨by omega, by omega⟩ (by decide) dX2_clear_313 (fun c_20 => ?_) (fun c_20 => ?_)
                                  · skip
                                    refine z_aload_n X 0 rfl dX2_clear_320 ?_
                                    refine z_get (v := .ref (ad 2)) X 2 0 1 hiX2 rfl rfl (by decide) ⟨rfl, rfl, rfl⟩ (by decide +kernel) rfl dX2_clear_321 ?_
                                    refine z_iload_n X 1 rfl dX2_clear_324 ?_
                                    refine z_iald (g := a_272.1 1) X 2 0 rfl rfl (by omega) (by omega) ⟨by omega, by omega⟩ dX2_clear_325 ?_
                                    have b_21 := hB_272 1 rfl i_272
                                    refine z_aload_n X 0 rfl dX2_clear_326 ?_
                                    refine z_get (v := .ref (ad 1)) X 2 0 0 hiX2 rfl rfl (by decide) ⟨rfl, rfl, rfl⟩ (by decide +kernel) rfl dX2_clear_327 ?_
                                    refine z_iload_n X 1 rfl dX2_clear_330 ?_
                                    refine z_iald (g := a_272.1 0) X 1 0 rfl rfl (by omega) (by omega) ⟨by omega, by omega⟩ dX2_clear_331 ?_
                                    have b_22 := hB_272 0 rfl i_272
                                    refine z_isub X dX2_clear_332 ?_
                                    refine z_callis X (c_X2_size l D ad cI cZ cL ((a_272.1 1 i_272) - (a_272.1 0 i_272)) ⟨by omega, by omega⟩) (va_cwS 1 X.2.2.2.2.1 gX2_clear_X2_size rfl rfl rfl (by decide +kernel) ⟨Nat.le_of_ble_eq_true rfl, Nat.le_of_ble_eq_true rfl⟩) rfl [] (Mw ad cI cZ a_272) rfl [] rfl (Nat.le_of_ble_eq_true rfl) dX2_clear_333 ⟨Nat.le_of_ble_eq_true rfl, Nat.le_of_ble_eq_true rfl⟩ rfl ?_
                                    have r_23 := m_size_sp ((a_272.1 1 i_272) - (a_272.1 0 i_272))
                                    refine z_istore_n X [1, 2, 0] [(0, .ref (ad 0)), (2, .int (iZ i_272)), (3, .int (iZ (m_size ((a_272.1 1 i_272) - (a_272.1 0 i_272)))))] rfl (Nat.le_of_ble_eq_true rfl) dX2_clear_336 ?_
                                    refine z_aload_n X 0 rfl dX2_clear_337 ?_
                                    refine z_get (v := .ref (ad 7)) X 2 0 6 hiX2 rfl rfl (by decide) ⟨rfl, rfl, rfl⟩ (by decide +kernel) rfl dX2_clear_338 ?_
                                    refine z_iload_n X 1 rfl dX2_clear_341 ?_
                                    refine z_dup2 X rfl rfl dX2_clear_342 ?_
                                    refine z_iald (g := a_272.1 6) X 7 0 rfl rfl (by omega) (by omega) ⟨by omega, by omega⟩ dX2_clear_343 ?_
                                    refine z_iload_n X 2 rfl dX2_clear_344 ?_
                                    refine z_iadd X dX2_clear_345 ?_
                                    refine z_iast (g := a_272.1 6) X 7 0 (Mw ad cI cZ (gA a_272 6 i_272 ((a_272.1 6 i_272) + (m_size ((a_272.1 1 i_272) - (a_272.1 0 i_272)))))) rfl rfl (by omega) (by omega) ⟨by omega, by omega⟩ rfl dX2_clear_346 ?_
                                    refine z_aload_n X 0 rfl dX2_clear_347 ?_
                                    refine z_dup X rfl dX2_clear_348 ?_
                                    refine z_get (v := .int (iZ (a_272.2 2))) X 2 0 10 hiX2 rfl rfl (by decide) ⟨rfl, rfl, rfl⟩ (by decide +kernel) rfl dX2_clear_349 ?_
                                    refine z_iload_n X 2 rfl dX2_clear_352 ?_
                                    refine z_iadd X dX2_clear_353 ?_
                                    refine z_put (v := .int (iZ ((a_272.2 2) + (m_size ((a_272.1 1 i_272) - (a_272.1 0 i_272)))))) (ty := .int) X tyX2 2 0 10 (Mw ad cI cZ (gV (gA a_272 6 i_272 ((a_272.1 6 i_272) + (m_size ((a_272.1 1 i_272) - (a_272.1 0 i_272))))) 2 ((a_272.2 2) + (m_size ((a_272.1 1 i_272) - (a_272.1 0 i_272)))))) tyX2_ok nmX2 hiX2 rfl rfl (by decide) ⟨rfl, rfl, rfl, rfl⟩ (by decide +kernel) rfl rfl rfl (Nat.le_of_ble_eq_true rfl) rfl dX2_clear_354 ?_
                                    refine z_iinc X 1 [1, 0, 2] [(0, .ref (ad 0)), (2, .int (iZ (i_272 + 1))), (3, .int (iZ (m_size ((a_272.1 1 i_272) - (a_272.1 0 i_272)))))] rfl rfl (Nat.le_of_ble_eq_true rfl) dX2_clear_357 ?_
                                    refine z_goto (tgt := 272) X (by decide) dX2_clear_360 ?_
                                    refine z_sub (lv' := [(0, .ref (ad 0)), (2, .int (iZ (i_272 + 1)))]) [0, 1] rfl ?_
                                    exact z_eq (congrArg (Mw ad cI cZ) (show m_house i_272 a_272 = gV (gA a_272 6 i_272 ((a_272.1 6 i_272) + (m_size ((a_272.1 1 i_272) - (a_272.1 0 i_272))))) 2 ((a_272.2 2) + (m_size ((a_272.1 1 i_272) - (a_272.1 0 i_272)))) from (by show m_fine (m_store a_272 i_272) i_272 = _; rw [show m_store a_272 i_272 = a_272 from by unfold m_store; rw [if_neg (by omega), if_neg (by omega)]]; unfold m_fine; rw [show m_wrong a_272 i_272 = m_size (a_272.1 1 i_272 - a_272.1 0 i_272) from if_pos (by omega)]))) rfl hk_272
                                  · skip
                                    refine z_iconst X dX2_clear_316 ?_
                                    refine z_goto (tgt := 336) X (by decide) dX2_clear_317 ?_
                                    refine z_istore_n X [1, 2, 0] [(0, .ref (ad 0)), (2, .int (iZ i_272)), (3, .int (iZ 0))] rfl (Nat.le_of_ble_eq_true rfl) dX2_clear_336 ?_
                                    refine z_aload_n X 0 rfl dX2_clear_337 ?_
                                    refine z_get (v := .ref (ad 7)) X 2 0 6 hiX2 rfl rfl (by decide) ⟨rfl, rfl, rfl⟩ (by decide +kernel) rfl dX2_clear_338 ?_
                                    refine z_iload_n X 1 rfl dX2_clear_341 ?_
                                    refine z_dup2 X rfl rfl dX2_clear_342 ?_
                                    refine z_iald (g := a_272.1 6) X 7 0 rfl rfl (by omega) (by omega) ⟨by omega, by omega⟩ dX2_clear_343 ?_
                                    refine z_iload_n X 2 rfl dX2_clear_344 ?_
                                    refine z_iadd X dX2_clear_345 ?_
                                    refine z_iast (g := a_272.1 6) X 7 0 (Mw ad cI cZ (gA a_272 6 i_272 ((a_272.1 6 i_272) + 0))) rfl rfl (by omega) (by omega) ⟨by omega, by omega⟩ rfl dX2_clear_346 ?_
                                    refine z_aload_n X 0 rfl dX2_clear_347 ?_
                                    refine z_dup X rfl dX2_clear_348 ?_
                                    refine z_get (v := .int (iZ (a_272.2 2))) X 2 0 10 hiX2 rfl rfl (by decide) ⟨rfl, rfl, rfl⟩ (by decide +kernel) rfl dX2_clear_349 ?_
                                    refine z_iload_n X 2 rfl dX2_clear_352 ?_
                                    refine z_iadd X dX2_clear_353 ?_
                                    refine z_put (v := .int (iZ ((a_272.2 2) + 0))) (ty := .int) X tyX2 2 0 10 (Mw ad cI cZ (gV (gA a_272 6 i_272 ((a_272.1 6 i_272) + 0)) 2 ((a_272.2 2) + 0))) tyX2_ok nmX2 hiX2 rfl rfl (by decide) ⟨rfl, rfl, rfl, rfl⟩ (by decide +kernel) rfl rfl rfl (Nat.le_of_ble_eq_true rfl) rfl dX2_clear_354 ?_
                                    refine z_iinc X 1 [1, 0, 2] [(0, .ref (ad 0)), (2, .int (iZ (i_272 + 1))), (3, .int (iZ 0))] rfl rfl (Nat.le_of_ble_eq_true rfl) dX2_clear_357 ?_
                                    refine z_goto (tgt := 272) X (by decide) dX2_clear_360 ?_
                                    refine z_sub (lv' := [(0, .ref (ad 0)), (2, .int (iZ (i_272 + 1)))]) [0, 1] rfl ?_
                                    exact z_eq (congrArg (Mw ad cI cZ) (show m_house i_272 a_272 = gV (gA a_272 6 i_272 ((a_272.1 6 i_272) + 0)) 2 ((a_272.2 2) + 0) from (by show m_fine (m_store a_272 i_272) i_272 = _; rw [show m_store a_272 i_272 = a_272 from by unfold m_store; rw [if_neg (by omega), if_neg (by omega)]]; unfold m_fine; rw [show m_wrong a_272 i_272 = 0 from if_neg (by omega)]))) rfl hk_272
                                · skip
                                  refine z_aload_n X 0 rfl dX2_clear_302 ?_
                                  refine z_iload_n X 1 rfl dX2_clear_303 ?_
                                  refine z_callv X (c_X2_draws l D ad cI cZ cL a_272 i_272 (by omega) hB_272 (fun q => by have := hg_272.1.2.2.2.2.2.1 q; omega)) (cwV 1 X.2.2.2.2.1 gX2_clear_X2_draws rfl rfl rfl (by decide +kernel) ⟨Nat.le_of_ble_eq_true rfl, Nat.le_of_ble_eq_true rfl⟩) rfl [] [] (List.append_nil _).symm 2 0 rfl rfl [] rfl (Nat.le_of_ble_eq_true rfl) dX2_clear_304 ⟨Nat.le_of_ble_eq_true rfl, Nat.le_of_ble_eq_true rfl⟩ (List.append_nil _) ?_
                                  have hm9 := MI3_draws hg_272 i_272
                                  generalize hv9 : m_draws a_272 i_272 = v9 at hm9 ⊢
                                  have hB9 := hm9.bd
                                  refine z_aload_n X 0 rfl dX2_clear_307 ?_
                                  refine z_get (v := .ref (ad 8)) X 2 0 7 hiX2 rfl rfl (by decide) ⟨rfl, rfl, rfl⟩ (by decide +kernel) rfl dX2_clear_308 ?_
                                  refine z_iload_n X 1 rfl dX2_clear_311 ?_
                                  refine z_zald (g := v9.1 7) X 8 1 rfl rfl (by omega) (by omega) ⟨by omega, by omega⟩ dX2_clear_312 ?_
                                  have b_24 := hB9 7 rfl i_272
                                  refine z_if_eq (tgt := 320) X ⟨by omega, by omega⟩ (by decide) dX2_clear_313 (fun c_25 => ?_) (fun c_25 => ?_)
                                  · skip
                                    refine z_aload_n X 0 rfl dX2_clear_320 ?_
                                    refine z_get (v := .ref (ad 2)) X 2 0 1 hiX2 rfl rfl (by decide) ⟨rfl, rfl, rfl⟩ (by decide +kernel) rfl dX2_clear_321 ?_
                                    refine z_iload_n X 1 rfl dX2_clear_324 ?_
                                    refine z_iald (g := v9.1 1) X 2 0 rfl rfl (by omega) (by omega) ⟨by omega, by omega⟩ dX2_clear_325 ?_
                                    have b_26 := hB9 1 rfl i_272
                                    refine z_aload_n X 0 rfl dX2_clear_326 ?_
                                    refine z_get (v := .ref (ad 1)) X 2 0 0 hiX2 rfl rfl (by decide) ⟨rfl, rfl, rfl⟩ (by decide +kernel) rfl dX2_clear_327 ?_
                                    refine z_iload_n X 1 rfl dX2_clear_330 ?_
                                    refine z_iald (g := v9.1 0) X 1 0 rfl rfl (by omega) (by omega) ⟨by omega, by omega⟩ dX2_clear_331 ?_
                                    have b_27 := hB9 0 rfl i_272
                                    refine z_isub X dX2_clear_332 ?_
                                    refine z_callis X (c_X2_size l D ad cI cZ cL ((v9.1 1 i_272) - (v9.1 0 i_272)) ⟨by omega, by omega⟩) (va_cwS 1 X.2.2.2.2.1 gX2_clear_X2_size rfl rfl rfl (by decide +kernel) ⟨Nat.le_of_ble_eq_true rfl, Nat.le_of_ble_eq_true rfl⟩) rfl [] (Mw ad cI cZ v9) rfl [] rfl (Nat.le_of_ble_eq_true rfl) dX2_clear_333 ⟨Nat.le_of_ble_eq_true rfl, Nat.le_of_ble_eq_true rfl⟩ rfl ?_
                                    have r_28 := m_size_sp ((v9.1 1 i_272) - (v9.1 0 i_272))
                                    refine z_istore_n X [1, 2, 0] [(0, .ref (ad 0)), (2, .int (iZ i_272)), (3, .int (iZ (m_size ((v9.1 1 i_272) - (v9.1 0 i_272)))))] rfl (Nat.le_of_ble_eq_true rfl) dX2_clear_336 ?_
                                    refine z_aload_n X 0 rfl dX2_clear_337 ?_
                                    refine z_get (v := .ref (ad 7)) X 2 0 6 hiX2 rfl rfl (by decide) ⟨rfl, rfl, rfl⟩ (by decide +kernel) rfl dX2_clear_338 ?_
                                    refine z_iload_n X 1 rfl dX2_clear_341 ?_
                                    refine z_dup2 X rfl rfl dX2_clear_342 ?_
                                    refine z_iald (g := v9.1 6) X 7 0 rfl rfl (by omega) (by omega) ⟨by omega, by omega⟩ dX2_clear_343 ?_
                                    refine z_iload_n X 2 rfl dX2_clear_344 ?_
                                    refine z_iadd X dX2_clear_345 ?_
                                    refine z_iast (g := v9.1 6) X 7 0 (Mw ad cI cZ (gA v9 6 i_272 ((v9.1 6 i_272) + (m_size ((v9.1 1 i_272) - (v9.1 0 i_272)))))) rfl rfl (by omega) (by omega) ⟨by omega, by omega⟩ rfl dX2_clear_346 ?_
                                    refine z_aload_n X 0 rfl dX2_clear_347 ?_
                                    refine z_dup X rfl dX2_clear_348 ?_
                                    refine z_get (v := .int (iZ (v9.2 2))) X 2 0 10 hiX2 rfl rfl (by decide) ⟨rfl, rfl, rfl⟩ (by decide +kernel) rfl dX2_clear_349 ?_
                                    refine z_iload_n X 2 rfl dX2_clear_352 ?_
                                    refine z_iadd X dX2_clear_353 ?_
                                    refine z_put (v := .int (iZ ((v9.2 2) + (m_size ((v9.1 1 i_272) - (v9.1 0 i_272)))))) (ty := .int) X tyX2 2 0 10 (Mw ad cI cZ (gV (gA v9 6 i_272 ((v9.1 6 i_272) + (m_size ((v9.1 1 i_272) - (v9.1 0 i_272))))) 2 ((v9.2 2) + (m_size ((v9.1 1 i_272) - (v9.1 0 i_272)))))) tyX2_ok nmX2 hiX2 rfl rfl (by decide) ⟨rfl, rfl, rfl, rfl⟩ (by decide +kernel) rfl rfl rfl (Nat.le_of_ble_eq_true rfl) rfl dX2_clear_354 ?_
                                    refine z_iinc X 1 [1, 0, 2] [(0, .ref (ad 0)), (2, .int (iZ (i_272 + 1))), (3, .int (iZ (m_size ((v9.1 1 i_272) - (v9.1 0 i_272)))))] rfl rfl (Nat.le_of_ble_eq_true rfl) dX2_clear_357 ?_
                                    refine z_goto (tgt := 272) X (by decide) dX2_clear_360 ?_
                                    refine z_sub (lv' := [(0, .ref (ad 0)), (2, .int (iZ (i_272 + 1)))]) [0, 1] rfl ?_
                                    exact z_eq (congrArg (Mw ad cI cZ) (show m_house i_272 a_272 = gV (gA v9 6 i_272 ((v9.1 6 i_272) + (m_size ((v9.1 1 i_272) - (v9.1 0 i_272))))) 2 ((v9.2 2) + (m_size ((v9.1 1 i_272) - (v9.1 0 i_272)))) from (by show m_fine (m_store a_272 i_272) i_272 = _; rw [show m_store a_272 i_272 = v9 from by rw [← hv9]; unfold m_store; rw [if_neg (by omega), if_pos (by omega)]]; unfold m_fine; rw [show m_wrong v9 i_272 = m_size (v9.1 1 i_272 - v9.1 0 i_272) from if_pos (by omega)]))) rfl hk_272
                                  · skip
                                    refine z_iconst X dX2_clear_316 ?_
                                    refine z_goto (tgt := 336) X (by decide) dX2_clear_317 ?_
                                    refine z_istore_n X [1, 2, 0] [(0, .ref (ad 0)), (2, .int (iZ i_272)), (3, .int (iZ 0))] rfl (Nat.le_of_ble_eq_true rfl) dX2_clear_336 ?_
                                    refine z_aload_n X 0 rfl dX2_clear_337 ?_
                                    refine z_get (v := .ref (ad 7)) X 2 0 6 hiX2 rfl rfl (by decide) ⟨rfl, rfl, rfl⟩ (by decide +kernel) rfl dX2_clear_338 ?_
                                    refine z_iload_n X 1 rfl dX2_clear_341 ?_
                                    refine z_dup2 X rfl rfl dX2_clear_342 ?_
                                    refine z_iald (g := v9.1 6) X 7 0 rfl rfl (by omega) (by omega) ⟨by omega, by omega⟩ dX2_clear_343 ?_
                                    refine z_iload_n X 2 rfl dX2_clear_344 ?_
                                    refine z_iadd X dX2_clear_345 ?_
                                    refine z_iast (g := v9.1 6) X 7 0 (Mw ad cI cZ (gA v9 6 i_272 ((v9.1 6 i_272) + 0))) rfl rfl (by omega) (by omega) ⟨by omega, by omega⟩ rfl dX2_clear_346 ?_
                                    refine z_aload_n X 0 rfl dX2_clear_347 ?_
                                    refine z_dup X rfl dX2_clear_348 ?_
                                    refine z_get (v := .int (iZ (v9.2 2))) X 2 0 10 hiX2 rfl rfl (by decide) ⟨rfl, rfl, rfl⟩ (by decide +kernel) rfl dX2_clear_349 ?_
                                    refine z_iload_n X 2 rfl dX2_clear_352 ?_
                                    refine z_iadd X dX2_clear_353 ?_
                                    refine z_put (v := .int (iZ ((v9.2 2) + 0))) (ty := .int) X tyX2 2 0 10 (Mw ad cI cZ (gV (gA v9 6 i_272 ((v9.1 6 i_272) + 0)) 2 ((v9.2 2) + 0))) tyX2_ok nmX2 hiX2 rfl rfl (by decide) ⟨rfl, rfl, rfl, rfl⟩ (by decide +kernel) rfl rfl rfl (Nat.le_of_ble_eq_true rfl) rfl dX2_clear_354 ?_
                                    refine z_iinc X 1 [1, 0, 2] [(0, .ref (ad 0)), (2, .int (iZ (i_272 + 1))), (3, .int (iZ 0))] rfl rfl (Nat.le_of_ble_eq_true rfl) dX2_clear_357 ?_
                                    refine z_goto (tgt := 272) X (by decide) dX2_clear_360 ?_
                                    refine z_sub (lv' := [(0, .ref (ad 0)), (2, .int (iZ (i_272 + 1)))]) [0, 1] rfl ?_
                                    exact z_eq (congrArg (Mw ad cI cZ) (show m_house i_272 a_272 = gV (gA v9 6 i_272 ((v9.1 6 i_272) + 0)) 2 ((v9.2 2) + 0) from (by show m_fine (m_store a_272 i_272) i_272 = _; rw [show m_store a_272 i_272 = v9 from by rw [← hv9]; unfold m_store; rw [if_neg (by omega), if_pos (by omega)]]; unfold m_fine; rw [show m_wrong v9 i_272 = 0 from if_neg (by omega)]))) rfl hk_272
                              · skip
                                refine z_aload_n X 0 rfl dX2_clear_286 ?_
                                refine z_iload_n X 1 rfl dX2_clear_287 ?_
                                refine z_callv X (c_X2_keeps l D ad cI cZ cL a_272 i_272 (by omega) hB_272) (cwV 1 X.2.2.2.2.1 gX2_clear_X2_keeps rfl rfl rfl (by decide +kernel) ⟨Nat.le_of_ble_eq_true rfl, Nat.le_of_ble_eq_true rfl⟩) rfl [] [] (List.append_nil _).symm 2 0 rfl rfl [] rfl (Nat.le_of_ble_eq_true rfl) dX2_clear_288 ⟨Nat.le_of_ble_eq_true rfl, Nat.le_of_ble_eq_true rfl⟩ (List.append_nil _) ?_
                                have hm9 := MI3_keeps hg_272 i_272
                                generalize hv9 : m_keeps a_272 i_272 = v9 at hm9 ⊢
                                have hB9 := hm9.bd
                                refine z_goto (tgt := 307) X (by decide) dX2_clear_291 ?_
                                refine z_aload_n X 0 rfl dX2_clear_307 ?_
                                refine z_get (v := .ref (ad 8)) X 2 0 7 hiX2 rfl rfl (by decide) ⟨rfl, rfl, rfl⟩ (by decide +kernel) rfl dX2_clear_308 ?_
                                refine z_iload_n X 1 rfl dX2_clear_311 ?_
                                refine z_zald (g := v9.1 7) X 8 1 rfl rfl (by omega) (by omega) ⟨by omega, by omega⟩ dX2_clear_312 ?_
                                have b_29 := hB9 7 rfl i_272
                                refine z_if_eq (tgt := 320) X ⟨by omega, by omega⟩ (by decide) dX2_clear_313 (fun c_30 => ?_) (fun c_30 => ?_)
                                · skip
                                  refine z_aload_n X 0 rfl dX2_clear_320 ?_
                                  refine z_get (v := .ref (ad 2)) X 2 0 1 hiX2 rfl rfl (by decide) ⟨rfl, rfl, rfl⟩ (by decide +kernel) rfl dX2_clear_321 ?_
                                  refine z_iload_n X 1 rfl dX2_clear_324 ?_
                                  refine z_iald (g := v9.1 1) X 2 0 rfl rfl (by omega) (by omega) ⟨by omega, by omega⟩ dX2_clear_325 ?_
                                  have b_31 := hB9 1 rfl i_272
                                  refine z_aload_n X 0 rfl dX2_clear_326 ?_
                                  refine z_get (v := .ref (ad 1)) X 2 0 0 hiX2 rfl rfl (by decide) ⟨rfl, rfl, rfl⟩ (by decide +kernel) rfl dX2_clear_327 ?_
                                  refine z_iload_n X 1 rfl dX2_clear_330 ?_
                                  refine z_iald (g := v9.1 0) X 1 0 rfl rfl (by omega) (by omega) ⟨by omega, by omega⟩ dX2_clear_331 ?_
                                  have b_32 := hB9 0 rfl i_272
                                  refine z_isub X dX2_clear_332 ?_
                                  refine z_callis X (c_X2_size l D ad cI cZ cL ((v9.1 1 i_272) - (v9.1 0 i_272)) ⟨by omega, by omega⟩) (va_cwS 1 X.2.2.2.2.1 gX2_clear_X2_size rfl rfl rfl (by decide +kernel) ⟨Nat.le_of_ble_eq_true rfl, Nat.le_of_ble_eq_true rfl⟩) rfl [] (Mw ad cI cZ v9) rfl [] rfl (Nat.le_of_ble_eq_true rfl) dX2_clear_333 ⟨Nat.le_of_ble_eq_true rfl, Nat.le_of_ble_eq_true rfl⟩ rfl ?_
                                  have r_33 := m_size_sp ((v9.1 1 i_272) - (v9.1 0 i_272))
                                  refine z_istore_n X [1, 2, 0] [(0, .ref (ad 0)), (2, .int (iZ i_272)), (3, .int (iZ (m_size ((v9.1 1 i_272) - (v9.1 0 i_272)))))] rfl (Nat.le_of_ble_eq_true rfl) dX2_clear_336 ?_
                                  refine z_aload_n X 0 rfl dX2_clear_337 ?_
                                  refine z_get (v := .ref (ad 7)) X 2 0 6 hiX2 rfl rfl (by decide) ⟨rfl, rfl, rfl⟩ (by decide +kernel) rfl dX2_clear_338 ?_
                                  refine z_iload_n X 1 rfl dX2_clear_341 ?_
                                  refine z_dup2 X rfl rfl dX2_clear_342 ?_
                                  refine z_iald (g := v9.1 6) X 7 0 rfl rfl (by omega) (by omega) ⟨by omega, by omega⟩ dX2_clear_343 ?_
                                  refine z_iload_n X 2 rfl dX2_clear_344 ?_
                                  refine z_iadd X dX2_clear_345 ?_
                                  refine z_iast (g := v9.1 6) X 7 0 (Mw ad cI cZ (gA v9 6 i_272 ((v9.1 6 i_272) + (m_size ((v9.1 1 i_272) - (v9.1 0 i_272)))))) rfl rfl (by omega) (by omega) ⟨by omega, by omega⟩ rfl dX2_clear_346 ?_
                                  refine z_aload_n X 0 rfl dX2_clear_347 ?_
                                  refine z_dup X rfl dX2_clear_348 ?_
                                  refine z_get (v := .int (iZ (v9.2 2))) X 2 0 10 hiX2 rfl rfl (by decide) ⟨rfl, rfl, rfl⟩ (by decide +kernel) rfl dX2_clear_349 ?_
                                  refine z_iload_n X 2 rfl dX2_clear_352 ?_
                                  refine z_iadd X dX2_clear_353 ?_
                                  refine z_put (v := .int (iZ ((v9.2 2) + (m_size ((v9.1 1 i_272) - (v9.1 0 i_272)))))) (ty := .int) X tyX2 2 0 10 (Mw ad cI cZ (gV (gA v9 6 i_272 ((v9.1 6 i_272) + (m_size ((v9.1 1 i_272) - (v9.1 0 i_272))))) 2 ((v9.2 2) + (m_size ((v9.1 1 i_272) - (v9.1 0 i_272)))))) tyX2_ok nmX2 hiX2 rfl rfl (by decide) ⟨rfl, rfl, rfl, rfl⟩ (by decide +kernel) rfl rfl rfl (Nat.le_of_ble_eq_true rfl) rfl dX2_clear_354 ?_
                                  refine z_iinc X 1 [1, 0, 2] [(0, .ref (ad 0)), (2, .int (iZ (i_272 + 1))), (3, .int (iZ (m_size ((v9.1 1 i_272) - (v9.1 0 i_272)))))] rfl rfl (Nat.le_of_ble_eq_true rfl) dX2_clear_357 ?_
                                  refine z_goto (tgt := 272) X (by decide) dX2_clear_360 ?_
                                  refine z_sub (lv' := [(0, .ref (ad 0)), (2, .int (iZ (i_272 + 1)))]) [0, 1] rfl ?_
                                  exact z_eq (congrArg (Mw ad cI cZ) (show m_house i_272 a_272 = gV (gA v9 6 i_272 ((v9.1 6 i_272) + (m_size ((v9.1 1 i_272) - (v9.1 0 i_272))))) 2 ((v9.2 2) + (m_size ((v9.1 1 i_272) - (v9.1 0 i_272)))) from (by show m_fine (m_store a_272 i_272) i_272 = _; rw [show m_store a_272 i_272 = v9 from by rw [← hv9]; unfold m_store; rw [if_pos (by omega)]]; unfold m_fine; rw [show m_wrong v9 i_272 = m_size (v9.1 1 i_272 - v9.1 0 i_272) from if_pos (by omega)]))) rfl hk_272
                                · skip
                                  refine z_iconst X dX2_clear_316 ?_
                                  refine z_goto (tgt := 336) X (by decide) dX2_clear_317 ?_
                                  refine z_istore_n X [1, 2, 0] [(0, .ref (ad 0)), (2, .int (iZ i_272)), (3, .int (iZ 0))] rfl (Nat.le_of_ble_eq_true rfl) dX2_clear_336 ?_
                                  refine z_aload_n X 0 rfl dX2_clear_337 ?_
                                  refine z_get (v := .ref (ad 7)) X 2 0 6 hiX2 rfl rfl (by decide) ⟨rfl, rfl, rfl⟩ (by decide +kernel) rfl dX2_clear_338 ?_
                                  refine z_iload_n X 1 rfl dX2_clear_341 ?_
                                  refine z_dup2 X rfl rfl dX2_clear_342 ?_
                                  refine z_iald (g := v9.1 6) X 7 0 rfl rfl (by omega) (by omega) ⟨by omega, by omega⟩ dX2_clear_343 ?_
                                  refine z_iload_n X 2 rfl dX2_clear_344 ?_
                                  refine z_iadd X dX2_clear_345 ?_
                                  refine z_iast (g := v9.1 6) X 7 0 (Mw ad cI cZ (gA v9 6 i_272 ((v9.1 6 i_272) + 0))) rfl rfl (by omega) (by omega) ⟨by omega, by omega⟩ rfl dX2_clear_346 ?_
                                  refine z_aload_n X 0 rfl dX2_clear_347 ?_
                                  refine z_dup X rfl dX2_clear_348 ?_
                                  refine z_get (v := .int (iZ (v9.2 2))) X 2 0 10 hiX2 rfl rfl (by decide) ⟨rfl, rfl, rfl⟩ (by decide +kernel) rfl dX2_clear_349 ?_
                                  refine z_iload_n X 2 rfl dX2_clear_352 ?_
                                  refine z_iadd X dX2_clear_353 ?_
                                  refine z_put (v := .int (iZ ((v9.2 2) + 0))) (ty := .int) X tyX2 2 0 10 (Mw ad cI cZ (gV (gA v9 6 i_272 ((v9.1 6 i_272) + 0)) 2 ((v9.2 2) + 0))) tyX2_ok nmX2 hiX2 rfl rfl (by decide) ⟨rfl, rfl, rfl, rfl⟩ (by decide +kernel) rfl rfl rfl (Nat.le_of_ble_eq_true rfl) rfl dX2_clear_354 ?_
                                  refine z_iinc X 1 [1, 0, 2] [(0, .ref (ad 0)), (2, .int (iZ (i_272 + 1))), (3, .int (iZ 0))] rfl rfl (Nat.le_of_ble_eq_true rfl) dX2_clear_357 ?_
                                  refine z_goto (tgt := 272) X (by decide) dX2_clear_360 ?_
                                  refine z_sub (lv' := [(0, .ref (ad 0)), (2, .int (iZ (i_272 + 1)))]) [0, 1] rfl ?_
                                  exact z_eq (congrArg (Mw ad cI cZ) (show m_house i_272 a_272 = gV (gA v9 6 i_272 ((v9.1 6 i_272) + 0)) 2 ((v9.2 2) + 0) from (by show m_fine (m_store a_272 i_272) i_272 = _; rw [show m_store a_272 i_272 = v9 from by rw [← hv9]; unfold m_store; rw [if_pos (by omega)]]; unfold m_fine; rw [show m_wrong v9 i_272 = 0 from if_neg (by omega)]))) rfl hk_272
                        · exact absurd c_7 (by omega)
                      · intro i_187 k_187 a_187 hi_187 h0i_187 h1i_187 ha_187 hk_187
                        have hg_187 : MI2 a_187 := by rw [ha_187]; exact MI2_setk hI_146.1 (k_187)
                        have hc_187 : a_187.2 5 = v_146.2 5 := by rw [ha_187, m_setk_2]
                        have hbk_187 := hg_187.2.1.2.2 i_187
                        refine z_iload_n X 1 rfl dX2_clear_187 ?_
                        refine z_aload_n X 0 rfl dX2_clear_188 ?_
                        refine z_get (v := .int (iZ (a_187.2 5))) X 2 0 17 hiX2 rfl rfl (by decide) ⟨rfl, rfl, rfl⟩ (by decide +kernel) rfl dX2_clear_189 ?_
                        refine z_icmp_ge (tgt := 270) X ⟨by omega, by omega⟩ ⟨by omega, by omega⟩ (by decide) dX2_clear_192 (fun c_34 => ?_) (fun c_34 => ?_)
                        · exact absurd c_34 (by omega)
                        · skip
                          refine z_aload_n X 0 rfl dX2_clear_195 ?_
                          refine z_get (v := .ref (ad 7)) X 2 0 6 hiX2 rfl rfl (by decide) ⟨rfl, rfl, rfl⟩ (by decide +kernel) rfl dX2_clear_196 ?_
                          refine z_aload_n X 0 rfl dX2_clear_199 ?_
                          refine z_get (v := .ref (ad 10)) X 2 0 14 hiX2 rfl rfl (by decide) ⟨rfl, rfl, rfl⟩ (by decide +kernel) rfl dX2_clear_200 ?_
                          refine z_iload_n X 1 rfl dX2_clear_203 ?_
                          refine z_iald (g := a_187.1 9) X 10 0 rfl rfl (by omega) (by omega) ⟨by omega, by omega⟩ dX2_clear_204 ?_
                          refine z_dup2 X rfl rfl dX2_clear_205 ?_
                          refine z_iald (g := a_187.1 6) X 7 0 rfl rfl (by omega) (by omega) ⟨by omega, by omega⟩ dX2_clear_206 ?_
                          refine z_aload_n X 0 rfl dX2_clear_207 ?_
                          refine z_get (v := .ref (ad 11)) X 2 0 15 hiX2 rfl rfl (by decide) ⟨rfl, rfl, rfl⟩ (by decide +kernel) rfl dX2_clear_208 ?_
                          refine z_iload_n X 1 rfl dX2_clear_211 ?_
                          refine z_iald (g := a_187.1 10) X 11 0 rfl rfl (by omega) (by omega) ⟨by omega, by omega⟩ dX2_clear_212 ?_
                          refine z_aload_n X 0 rfl dX2_clear_213 ?_
                          refine z_get (v := .ref (ad 12)) X 2 0 16 hiX2 rfl rfl (by decide) ⟨rfl, rfl, rfl⟩ (by decide +kernel) rfl dX2_clear_214 ?_
                          refine z_iload_n X 1 rfl dX2_clear_217 ?_
                          refine z_iald (g := a_187.1 11) X 12 0 rfl rfl (by omega) (by omega) ⟨by omega, by omega⟩ dX2_clear_218 ?_
                          refine z_imul X dX2_clear_219 ?_
                          refine z_iadd X dX2_clear_220 ?_
                          refine z_iast (g := a_187.1 6) X 7 0 (Mw ad cI cZ (gA a_187 6 (a_187.1 9 i_187) ((a_187.1 6 (a_187.1 9 i_187)) + ((a_187.1 10 i_187) * (a_187.1 11 i_187))))) rfl rfl (by omega) (by omega) ⟨by omega, by omega⟩ rfl dX2_clear_221 ?_
                          refine z_aload_n X 0 rfl dX2_clear_222 ?_
                          refine z_get (v := .ref (ad 7)) X 2 0 6 hiX2 rfl rfl (by decide) ⟨rfl, rfl, rfl⟩ (by decide +kernel) rfl dX2_clear_223 ?_
                          refine z_aload_n X 0 rfl dX2_clear_226 ?_
                          refine z_get (v := .ref (ad 9)) X 2 0 13 hiX2 rfl rfl (by decide) ⟨rfl, rfl, rfl⟩ (by decide +kernel) rfl dX2_clear_227 ?_
                          refine z_iload_n X 1 rfl dX2_clear_230 ?_
                          refine z_iald (g := a_187.1 8) X 9 0 rfl rfl (by omega) (by omega) ⟨by omega, by omega⟩ dX2_clear_231 ?_
                          refine z_dup2 X rfl rfl dX2_clear_232 ?_
                          refine z_iald (g := updZ (a_187.1 6) (a_187.1 9 i_187) ((a_187.1 6 (a_187.1 9 i_187)) + ((a_187.1 10 i_187) * (a_187.1 11 i_187)))) X 7 0 rfl rfl (by omega) (by omega) ⟨by omega, by omega⟩ dX2_clear_233 ?_
                          refine z_aload_n X 0 rfl dX2_clear_234 ?_
                          refine z_get (v := .ref (ad 11)) X 2 0 15 hiX2 rfl rfl (by decide) ⟨rfl, rfl, rfl⟩ (by decide +kernel) rfl dX2_clear_235 ?_
                          refine z_iload_n X 1 rfl dX2_clear_238 ?_
                          refine z_iald (g := a_187.1 10) X 11 0 rfl rfl (by omega) (by omega) ⟨by omega, by omega⟩ dX2_clear_239 ?_
                          refine z_aload_n X 0 rfl dX2_clear_240 ?_
                          refine z_get (v := .ref (ad 12)) X 2 0 16 hiX2 rfl rfl (by decide) ⟨rfl, rfl, rfl⟩ (by decide +kernel) rfl dX2_clear_241 ?_
                          refine z_iload_n X 1 rfl dX2_clear_244 ?_
                          refine z_iald (g := a_187.1 11) X 12 0 rfl rfl (by omega) (by omega) ⟨by omega, by omega⟩ dX2_clear_245 ?_
                          refine z_imul X dX2_clear_246 ?_
                          refine z_isub X dX2_clear_247 ?_
                          refine z_iast (g := updZ (a_187.1 6) (a_187.1 9 i_187) ((a_187.1 6 (a_187.1 9 i_187)) + ((a_187.1 10 i_187) * (a_187.1 11 i_187)))) X 7 0 (Mw ad cI cZ (gA (gA a_187 6 (a_187.1 9 i_187) ((a_187.1 6 (a_187.1 9 i_187)) + ((a_187.1 10 i_187) * (a_187.1 11 i_187)))) 6 (a_187.1 8 i_187) (((updZ (a_187.1 6) (a_187.1 9 i_187) ((a_187.1 6 (a_187.1 9 i_187)) + ((a_187.1 10 i_187) * (a_187.1 11 i_187)))) (a_187.1 8 i_187)) - ((a_187.1 10 i_187) * (a_187.1 11 i_187))))) rfl rfl (by omega) (by omega) ⟨by omega, by omega⟩ rfl dX2_clear_248 ?_
                          refine z_aload_n X 0 rfl dX2_clear_249 ?_
                          refine z_get (v := .ref (ad 13)) X 2 0 18 hiX2 rfl rfl (by decide) ⟨rfl, rfl, rfl⟩ (by decide +kernel) rfl dX2_clear_250 ?_
                          refine z_iconst X dX2_clear_253 ?_
                          refine z_dup2 X rfl rfl dX2_clear_254 ?_
                          refine z_iald (g := a_187.1 12) X 13 0 rfl rfl (by omega) (by omega) ⟨by omega, by omega⟩ dX2_clear_255 ?_
                          refine z_aload_n X 0 rfl dX2_clear_256 ?_
                          refine z_get (v := .ref (ad 11)) X 2 0 15 hiX2 rfl rfl (by decide) ⟨rfl, rfl, rfl⟩ (by decide +kernel) rfl dX2_clear_257 ?_
                          refine z_iload_n X 1 rfl dX2_clear_260 ?_
                          refine z_iald (g := a_187.1 10) X 11 0 rfl rfl (by omega) (by omega) ⟨by omega, by omega⟩ dX2_clear_261 ?_
                          refine z_iadd X dX2_clear_262 ?_
                          refine z_iast (g := a_187.1 12) X 13 0 (Mw ad cI cZ (gA (gA (gA a_187 6 (a_187.1 9 i_187) ((a_187.1 6 (a_187.1 9 i_187)) + ((a_187.1 10 i_187) * (a_187.1 11 i_187)))) 6 (a_187.1 8 i_187) (((updZ (a_187.1 6) (a_187.1 9 i_187) ((a_187.1 6 (a_187.1 9 i_187)) + ((a_187.1 10 i_187) * (a_187.1 11 i_187)))) (a_187.1 8 i_187)) - ((a_187.1 10 i_187) * (a_187.1 11 i_187)))) 12 0 ((a_187.1 12 0) + (a_187.1 10 i_187)))) rfl rfl (by omega) (by omega) ⟨by omega, by omega⟩ rfl dX2_clear_263 ?_
                          refine z_iinc X 1 [1, 0] [(0, .ref (ad 0)), (2, .int (iZ (i_187 + 1)))] rfl rfl (Nat.le_of_ble_eq_true rfl) dX2_clear_264 ?_
                          refine z_goto (tgt := 187) X (by decide) dX2_clear_267 ?_
                          exact z_eq (congrArg (Mw ad cI cZ) (show m_setS i_187 a_187 = gA (gA (gA a_187 6 (a_187.1 9 i_187) ((a_187.1 6 (a_187.1 9 i_187)) + ((a_187.1 10 i_187) * (a_187.1 11 i_187)))) 6 (a_187.1 8 i_187) (((updZ (a_187.1 6) (a_187.1 9 i_187) ((a_187.1 6 (a_187.1 9 i_187)) + ((a_187.1 10 i_187) * (a_187.1 11 i_187)))) (a_187.1 8 i_187)) - ((a_187.1 10 i_187) * (a_187.1 11 i_187)))) 12 0 ((a_187.1 12 0) + (a_187.1 10 i_187)) from rfl)) rfl hk_187
                    · exact absurd c_6 (by omega)
                  | succ n_146 ih_146 =>
                    intro x_146 v_146 hI_146 hF_146
                    have hx_146 := hI_146.2
                    have hS_146 := SU_rg hI_146.1.2.1
                    have hc0_146 := hI_146.1.2.1.1
                    have hc6_146 := hI_146.1.2.1.2.1
                    refine z_iload_n X 1 rfl dX2_clear_146 ?_
                    refine z_if_le (tgt := 185) X ⟨by omega, by omega⟩ (by decide) dX2_clear_147 (fun c_35 => ?_) (fun c_35 => ?_)
                    · skip
                      have hv_146 : v_146 = m_cutAll 302 (1, m_match (m_begin (gV w 6 0))) := by rw [← hF_146]; simp only [m_cutAll] <;> repeat' (first | with_reducible rfl | omega | split)
                      refine z_iconst X dX2_clear_185 ?_
                      refine z_istore_n X [1, 2, 0] [(0, .ref (ad 0)), (1, .int (iZ x_146)), (2, .int (iZ 0))] rfl (Nat.le_of_ble_eq_true rfl) dX2_clear_186 ?_
                      refine z_sub (lv' := [(0, .ref (ad 0)), (2, .int (iZ 0))]) [0, 2] rfl ?_
                      refine zfor_ind (v_146.2 5).toNat (v_146.2 5) (by have := hI_146.1.2.1.1; omega) (m_setS) v_146 (fun (i_187 : Int) (a_187 : GS) => zW p l e ({ frames := 4, cells := 0, slots := 0, locals := 93 } : Room) s m ([.ref (ad 0)] : List Value).toArray below meth c 4 D A 0 0 (MQ below (zPi D (zT cI cZ cL) (Mw ad cI cZ (m_clearU (gV w 6 0))) ((m_clearU (gV w 6 0)).1 12 0) A) ([.ref (ad 0)] : List Value).toArray s 0 0 A) (Mw ad cI cZ a_187) 187 [(0, .ref (ad 0)), (2, .int (iZ i_187))] []) ?_ ?_
                      · intro a_187 ha_187
                        have hg_187 : MI2 a_187 := by rw [ha_187]; exact MI2_setk hI_146.1 ((v_146.2 5).toNat)
                        have hc_187 : a_187.2 5 = v_146.2 5 := by rw [ha_187, m_setk_2]
                        refine z_iload_n X 1 rfl dX2_clear_187 ?_
                        refine z_aload_n X 0 rfl dX2_clear_188 ?_
                        refine z_get (v := .int (iZ (a_187.2 5))) X 2 0 17 hiX2 rfl rfl (by decide) ⟨rfl, rfl, rfl⟩ (by decide +kernel) rfl dX2_clear_189 ?_
                        refine z_icmp_ge (tgt := 270) X ⟨by omega, by omega⟩ ⟨by omega, by omega⟩ (by decide) dX2_clear_192 (fun c_36 => ?_) (fun c_36 => ?_)
                        · skip
                          refine z_iconst X dX2_clear_270 ?_
                          refine z_istore_n X [1, 0] [(0, .ref (ad 0)), (2, .int (iZ 0))] rfl (Nat.le_of_ble_eq_true rfl) dX2_clear_271 ?_
                          refine zfor_ind 6 6 (rfl) (m_house) a_187 (fun (i_272 : Int) (a_272 : GS) => zW p l e ({ frames := 4, cells := 0, slots := 0, locals := 93 } : Room) s m ([.ref (ad 0)] : List Value).toArray below meth c 4 D A 0 0 (MQ below (zPi D (zT cI cZ cL) (Mw ad cI cZ (m_clearU (gV w 6 0))) ((m_clearU (gV w 6 0)).1 12 0) A) ([.ref (ad 0)] : List Value).toArray s 0 0 A) (Mw ad cI cZ a_272) 272 [(0, .ref (ad 0)), (2, .int (iZ i_272))] []) ?_ ?_
                          · intro a_272 ha_272
                            have hg_272 : MI3 a_272 := by rw [ha_272]; exact MI3_housek hg_187.to3 (6)
                            have hB_272 := hg_272.bd
                            refine z_iload_n X 1 rfl dX2_clear_272 ?_
                            refine z_bipush X (by decide) dX2_clear_273 ?_
                            refine z_icmp_ge (tgt := 363) X ⟨by omega, by omega⟩ ⟨by omega, by omega⟩ (by decide) dX2_clear_275 (fun c_37 => ?_) (fun c_37 => ?_)
                            · skip
                              refine z_iconst X dX2_clear_363 ?_
                              refine z_istore_n X [1, 0] [(0, .ref (ad 0)), (2, .int (iZ 0))] rfl (Nat.le_of_ble_eq_true rfl) dX2_clear_364 ?_
                              refine zfor_ind 5 5 (rfl) (m_flowF) a_272 (fun (i_365 : Int) (a_365 : GS) => zW p l e ({ frames := 4, cells := 0, slots := 0, locals := 93 } : Room) s m ([.ref (ad 0)] : List Value).toArray below meth c 4 D A 0 0 (MQ below (zPi D (zT cI cZ cL) (Mw ad cI cZ (m_clearU (gV w 6 0))) ((m_clearU (gV w 6 0)).1 12 0) A) ([.ref (ad 0)] : List Value).toArray s 0 0 A) (Mw ad cI cZ a_365) 365 [(0, .ref (ad 0)), (2, .int (iZ i_365))] []) ?_ ?_
                              · intro a_365 ha_365
                                have hg_365 : MI3 a_365 := by rw [ha_365]; exact MI3_flowk hg_272 (5)
                                have hB_365 := hg_365.bd
                                have hc0_365 := hg_365.2.1.1
                                have hc6_365 := hg_365.2.1.2.1
                                refine z_iload_n X 1 rfl dX2_clear_365 ?_
                                refine z_iconst X dX2_clear_366 ?_
                                refine z_icmp_ge (tgt := 387) X ⟨by omega, by omega⟩ ⟨by omega, by omega⟩ (by decide) dX2_clear_367 (fun c_38 => ?_) (fun c_38 => ?_)
                                · skip
                                  refine z_iconst X dX2_clear_387 ?_
                                  refine z_istore_n X [1, 0] [(0, .ref (ad 0)), (2, .int (iZ 0))] rfl (Nat.le_of_ble_eq_true rfl) dX2_clear_388 ?_
                                  refine zfor_ind 6 6 (rfl) (m_nextS) a_365 (fun (i_389 : Int) (a_389 : GS) => zW p l e ({ frames := 4, cells := 0, slots := 0, locals := 93 } : Room) s m ([.ref (ad 0)] : List Value).toArray below meth c 4 D A 0 0 (MQ below (zPi D (zT cI cZ cL) (Mw ad cI cZ (m_clearU (gV w 6 0))) ((m_clearU (gV w 6 0)).1 12 0) A) ([.ref (ad 0)] : List Value).toArray s 0 0 A) (Mw ad cI cZ a_389) 389 [(0, .ref (ad 0)), (2, .int (iZ i_389))] []) ?_ ?_
                                  · intro a_389 ha_389
                                    refine z_iload_n X 1 rfl dX2_clear_389 ?_
                                    refine z_bipush X (by decide) dX2_clear_390 ?_
                                    refine z_icmp_ge (tgt := 415) X ⟨by omega, by omega⟩ ⟨by omega, by omega⟩ (by decide) dX2_clear_392 (fun c_39 => ?_) (fun c_39 => ?_)
                                    · skip
                                      refine z_aload_n X 0 rfl dX2_clear_415 ?_
                                      refine z_dup X rfl dX2_clear_416 ?_
                                      refine z_get (v := .int (iZ (a_389.2 4))) X 2 0 12 hiX2 rfl rfl (by decide) ⟨rfl, rfl, rfl⟩ (by decide +kernel) rfl dX2_clear_417 ?_
                                      refine z_iconst X dX2_clear_420 ?_
                                      refine z_iadd X dX2_clear_421 ?_
                                      refine z_put (v := .int (iZ ((a_389.2 4) + 1))) (ty := .int) X tyX2 2 0 12 (Mw ad cI cZ (gV a_389 4 ((a_389.2 4) + 1))) tyX2_ok nmX2 hiX2 rfl rfl (by decide) ⟨rfl, rfl, rfl, rfl⟩ (by decide +kernel) rfl rfl rfl (Nat.le_of_ble_eq_true rfl) rfl dX2_clear_422 ?_
                                      refine z_aload_n X 0 rfl dX2_clear_425 ?_
                                      refine z_get (v := .ref (ad 13)) X 2 0 18 hiX2 rfl rfl (by decide) ⟨rfl, rfl, rfl⟩ (by decide +kernel) rfl dX2_clear_426 ?_
                                      refine z_iconst X dX2_clear_429 ?_
                                      refine z_iald (g := a_389.1 12) X 13 0 rfl rfl (by omega) (by omega) ⟨by omega, by omega⟩ dX2_clear_430 ?_
                                      exact z_iret X hr hlk (by rw [ha_389, ha_365, ha_272, ha_187, hv_146]; rfl) (congrArg (Mw ad cI cZ) (by rw [ha_389, ha_365, ha_272, ha_187, hv_146]; rfl)) dX2_clear_431
                                    · exact absurd c_39 (by omega)
                                  · intro i_389 k_389 a_389 hi_389 h0i_389 h1i_389 ha_389 hk_389
                                    refine z_iload_n X 1 rfl dX2_clear_389 ?_
                                    refine z_bipush X (by decide) dX2_clear_390 ?_
                                    refine z_icmp_ge (tgt := 415) X ⟨by omega, by omega⟩ ⟨by omega, by omega⟩ (by decide) dX2_clear_392 (fun c_40 => ?_) (fun c_40 => ?_)
                                    · exact absurd c_40 (by omega)
                                    · skip
                                      refine z_aload_n X 0 rfl dX2_clear_395 ?_
                                      refine z_get (v := .ref (ad 1)) X 2 0 0 hiX2 rfl rfl (by decide) ⟨rfl, rfl, rfl⟩ (by decide +kernel) rfl dX2_clear_396 ?_
                                      refine z_iload_n X 1 rfl dX2_clear_399 ?_
                                      refine z_iconst X dX2_clear_400 ?_
                                      refine z_iast (g := a_389.1 0) X 1 0 (Mw ad cI cZ (gA a_389 0 i_389 0)) rfl rfl (by omega) (by omega) ⟨by omega, by omega⟩ rfl dX2_clear_401 ?_
                                      refine z_aload_n X 0 rfl dX2_clear_402 ?_
                                      refine z_get (v := .ref (ad 2)) X 2 0 1 hiX2 rfl rfl (by decide) ⟨rfl, rfl, rfl⟩ (by decide +kernel) rfl dX2_clear_403 ?_
                                      refine z_iload_n X 1 rfl dX2_clear_406 ?_
                                      refine z_iconst X dX2_clear_407 ?_
                                      refine z_iast (g := a_389.1 1) X 2 0 (Mw ad cI cZ (gA (gA a_389 0 i_389 0) 1 i_389 0)) rfl rfl (by omega) (by omega) ⟨by omega, by omega⟩ rfl dX2_clear_408 ?_
                                      refine z_iinc X 1 [1, 0] [(0, .ref (ad 0)), (2, .int (iZ (i_389 + 1)))] rfl rfl (Nat.le_of_ble_eq_true rfl) dX2_clear_409 ?_
                                      refine z_goto (tgt := 389) X (by decide) dX2_clear_412 ?_
                                      exact z_eq (congrArg (Mw ad cI cZ) (show m_nextS i_389 a_389 = gA (gA a_389 0 i_389 0) 1 i_389 0 from rfl)) rfl hk_389
                                · exact absurd c_38 (by omega)
                              · intro i_365 k_365 a_365 hi_365 h0i_365 h1i_365 ha_365 hk_365
                                have hg_365 : MI3 a_365 := by rw [ha_365]; exact MI3_flowk hg_272 (k_365)
                                have hB_365 := hg_365.bd
                                have hc0_365 := hg_365.2.1.1
                                have hc6_365 := hg_365.2.1.2.1
                                refine z_iload_n X 1 rfl dX2_clear_365 ?_
                                refine z_iconst X dX2_clear_366 ?_
                                refine z_icmp_ge (tgt := 387) X ⟨by omega, by omega⟩ ⟨by omega, by omega⟩ (by decide) dX2_clear_367 (fun c_41 => ?_) (fun c_41 => ?_)
                                · exact absurd c_41 (by omega)
                                · skip
                                  refine z_aload_n X 0 rfl dX2_clear_370 ?_
                                  refine z_get (v := .ref (ad 14)) X 2 0 19 hiX2 rfl rfl (by decide) ⟨rfl, rfl, rfl⟩ (by decide +kernel) rfl dX2_clear_371 ?_
                                  refine z_iload_n X 1 rfl dX2_clear_374 ?_
                                  refine z_aload_n X 0 rfl dX2_clear_375 ?_
                                  refine z_iload_n X 1 rfl dX2_clear_376 ?_
                                  refine z_calli X (c_X2_flowOver l D ad cI cZ cL a_365 i_365 ⟨by omega, by omega⟩ ⟨by omega, by omega⟩ hB_365) (cwV 1 X.2.2.2.2.1 gX2_clear_X2_flowOver rfl rfl rfl (by decide +kernel) ⟨Nat.le_of_ble_eq_true rfl, Nat.le_of_ble_eq_true rfl⟩) rfl [] [] (List.append_nil _).symm 2 0 rfl rfl [.int (iZ i_365), .ref (ad 14)] rfl (Nat.le_of_ble_eq_true rfl) dX2_clear_377 ⟨Nat.le_of_ble_eq_true rfl, Nat.le_of_ble_eq_true rfl⟩ (List.append_nil _) ?_
                                  have r_42 : -6000 ≤ m_flow a_365 i_365 ∧ m_flow a_365 i_365 ≤ 6000 := m_flowk a_365 i_365 (fun i => hB_365 10 rfl i) _ (by omega)
                                  refine z_iast (g := a_365.1 13) X 14 0 (Mw ad cI cZ (gA a_365 13 i_365 (m_flow a_365 i_365))) rfl rfl (by omega) (by omega) ⟨by omega, by omega⟩ rfl dX2_clear_380 ?_
                                  refine z_iinc X 1 [1, 0] [(0, .ref (ad 0)), (2, .int (iZ (i_365 + 1)))] rfl rfl (Nat.le_of_ble_eq_true rfl) dX2_clear_381 ?_
                                  refine z_goto (tgt := 365) X (by decide) dX2_clear_384 ?_
                                  exact z_eq (congrArg (Mw ad cI cZ) (show m_flowF i_365 a_365 = gA a_365 13 i_365 (m_flow a_365 i_365) from rfl)) rfl hk_365
                            · exact absurd c_37 (by omega)
                          · intro i_272 k_272 a_272 hi_272 h0i_272 h1i_272 ha_272 hk_272
                            have hg_272 : MI3 a_272 := by rw [ha_272]; exact MI3_housek hg_187.to3 (k_272)
                            have hB_272 := hg_272.bd
                            refine z_iload_n X 1 rfl dX2_clear_272 ?_
                            refine z_bipush X (by decide) dX2_clear_273 ?_
                            refine z_icmp_ge (tgt := 363) X ⟨by omega, by omega⟩ ⟨by omega, by omega⟩ (by decide) dX2_clear_275 (fun c_43 => ?_) (fun c_43 => ?_)
                            · exact absurd c_43 (by omega)
                            · skip
                              refine z_aload_n X 0 rfl dX2_clear_278 ?_
                              refine z_iload_n X 1 rfl dX2_clear_279 ?_
                              refine z_calli X (c_X2_isSeller l D ad cI cZ cL a_272 i_272 (by omega) hB_272) (cwV 1 X.2.2.2.2.1 gX2_clear_X2_isSeller rfl rfl rfl (by decide +kernel) ⟨Nat.le_of_ble_eq_true rfl, Nat.le_of_ble_eq_true rfl⟩) rfl [] [] (List.append_nil _).symm 2 0 rfl rfl [] rfl (Nat.le_of_ble_eq_true rfl) dX2_clear_280 ⟨Nat.le_of_ble_eq_true rfl, Nat.le_of_ble_eq_true rfl⟩ (List.append_nil _) ?_
                              have r_44 := m_isel_sp a_272 i_272
                              refine z_if_eq (tgt := 294) X ⟨by omega, by omega⟩ (by decide) dX2_clear_283 (fun c_45 => ?_) (fun c_45 => ?_)
                              · skip
                                refine z_aload_n X 0 rfl dX2_clear_294 ?_
                                refine z_iload_n X 1 rfl dX2_clear_295 ?_
                                refine z_calli X (c_X2_isBuyer l D ad cI cZ cL a_272 i_272 (by omega) hB_272) (cwV 1 X.2.2.2.2.1 gX2_clear_X2_isBuyer rfl rfl rfl (by decide +kernel) ⟨Nat.le_of_ble_eq_true rfl, Nat.le_of_ble_eq_true rfl⟩) rfl [] [] (List.append_nil _).symm 2 0 rfl rfl [] rfl (Nat.le_of_ble_eq_true rfl) dX2_clear_296 ⟨Nat.le_of_ble_eq_true rfl, Nat.le_of_ble_eq_true rfl⟩ (List.append_nil _) ?_
                                have r_46 := m_buyer_sp a_272 i_272
                                refine z_if_eq (tgt := 307) X ⟨by omega, by omega⟩ (by decide) dX2_clear_299 (fun c_47 => ?_) (fun c_47 => ?_)
                                · skip
                                  refine z_aload_n X 0 rfl dX2_clear_307 ?_
                                  refine z_get (v := .ref (ad 8)) X 2 0 7 hiX2 rfl rfl (by decide) ⟨rfl, rfl, rfl⟩ (by decide +kernel) rfl dX2_clear_308 ?_
                                  refine z_iload_n X 1 rfl dX2_clear_311 ?_
                                  refine z_zald (g := a_272.1 7) X 8 1 rfl rfl (by omega) (by omega) ⟨by omega, by omega⟩ dX2_clear_312 ?_
                                  have b_48 := hB_272 7 rfl i_272
                                  refine z_if_eq (tgt := 320) X ⟨by omega, by omega⟩ (by decide) dX2_clear_313 (fun c_49 => ?_) (fun c_49 => ?_)
                                  · skip
                                    refine z_aload_n X 0 rfl dX2_clear_320 ?_
                                    refine z_get (v := .ref (ad 2)) X 2 0 1 hiX2 rfl rfl (by decide) ⟨rfl, rfl, rfl⟩ (by decide +kernel) rfl dX2_clear_321 ?_
                                    refine z_iload_n X 1 rfl dX2_clear_324 ?_
                                    refine z_iald (g := a_272.1 1) X 2 0 rfl rfl (by omega) (by omega) ⟨by omega, by omega⟩ dX2_clear_325 ?_
                                    have b_50 := hB_272 1 rfl i_272
                                    refine z_aload_n X 0 rfl dX2_clear_326 ?_
                                    refine z_get (v := .ref (ad 1)) X 2 0 0 hiX2 rfl rfl (by decide) ⟨rfl, rfl, rfl⟩ (by decide +kernel) rfl dX2_clear_327 ?_
                                    refine z_iload_n X 1 rfl dX2_clear_330 ?_
                                    refine z_iald (g := a_272.1 0) X 1 0 rfl rfl (by omega) (by omega) ⟨by omega, by omega⟩ dX2_clear_331 ?_
                                    have b_51 := hB_272 0 rfl i_272
                                    refine z_isub X dX2_clear_332 ?_
                                    refine z_callis X (c_X2_size l D ad cI cZ cL ((a_272.1 1 i_272) - (a_272.1 0 i_272)) ⟨by omega, by omega⟩) (va_cwS 1 X.2.2.2.2.1 gX2_clear_X2_size rfl rfl rfl (by decide +kernel) ⟨Nat.le_of_ble_eq_true rfl, Nat.le_of_ble_eq_true rfl⟩) rfl [] (Mw ad cI cZ a_272) rfl [] rfl (Nat.le_of_ble_eq_true rfl) dX2_clear_333 ⟨Nat.le_of_ble_eq_true rfl, Nat.le_of_ble_eq_true rfl⟩ rfl ?_
                                    have r_52 := m_size_sp ((a_272.1 1 i_272) - (a_272.1 0 i_272))
                                    refine z_istore_n X [1, 2, 0] [(0, .ref (ad 0)), (2, .int (iZ i_272)), (3, .int (iZ (m_size ((a_272.1 1 i_272) - (a_272.1 0 i_272)))))] rfl (Nat.le_of_ble_eq_true rfl) dX2_clear_336 ?_
                                    refine z_aload_n X 0 rfl dX2_clear_337 ?_
                                    refine z_get (v := .ref (ad 7)) X 2 0 6 hiX2 rfl rfl (by decide) ⟨rfl, rfl, rfl⟩ (by decide +kernel) rfl dX2_clear_338 ?_
                                    refine z_iload_n X 1 rfl dX2_clear_341 ?_
                                    refine z_dup2 X rfl rfl dX2_clear_342 ?_
                                    refine z_iald (g := a_272.1 6) X 7 0 rfl rfl (by omega) (by omega) ⟨by omega, by omega⟩ dX2_clear_343 ?_
                                    refine z_iload_n X 2 rfl dX2_clear_344 ?_
                                    refine z_iadd X dX2_clear_345 ?_
                                    refine z_iast (g := a_272.1 6) X 7 0 (Mw ad cI cZ (gA a_272 6 i_272 ((a_272.1 6 i_272) + (m_size ((a_272.1 1 i_272) - (a_272.1 0 i_272)))))) rfl rfl (by omega) (by omega) ⟨by omega, by omega⟩ rfl dX2_clear_346 ?_
                                    refine z_aload_n X 0 rfl dX2_clear_347 ?_
                                    refine z_dup X rfl dX2_clear_348 ?_
                                    refine z_get (v := .int (iZ (a_272.2 2))) X 2 0 10 hiX2 rfl rfl (by decide) ⟨rfl, rfl, rfl⟩ (by decide +kernel) rfl dX2_clear_349 ?_
                                    refine z_iload_n X 2 rfl dX2_clear_352 ?_
                                    refine z_iadd X dX2_clear_353 ?_
                                    refine z_put (v := .int (iZ ((a_272.2 2) + (m_size ((a_272.1 1 i_272) - (a_272.1 0 i_272)))))) (ty := .int) X tyX2 2 0 10 (Mw ad cI cZ (gV (gA a_272 6 i_272 ((a_272.1 6 i_272) + (m_size ((a_272.1 1 i_272) - (a_272.1 0 i_272))))) 2 ((a_272.2 2) + (m_size ((a_272.1 1 i_272) - (a_272.1 0 i_272)))))) tyX2_ok nmX2 hiX2 rfl rfl (by decide) ⟨rfl, rfl, rfl, rfl⟩ (by decide +kernel) rfl rfl rfl (Nat.le_of_ble_eq_true rfl) rfl dX2_clear_354 ?_
                                    refine z_iinc X 1 [1, 0, 2] [(0, .ref (ad 0)), (2, .int (iZ (i_272 + 1))), (3, .int (iZ (m_size ((a_272.1 1 i_272) - (a_272.1 0 i_272)))))] rfl rfl (Nat.le_of_ble_eq_true rfl) dX2_clear_357 ?_
                                    refine z_goto (tgt := 272) X (by decide) dX2_clear_360 ?_
                                    refine z_sub (lv' := [(0, .ref (ad 0)), (2, .int (iZ (i_272 + 1)))]) [0, 1] rfl ?_
                                    exact z_eq (congrArg (Mw ad cI cZ) (show m_house i_272 a_272 = gV (gA a_272 6 i_272 ((a_272.1 6 i_272) + (m_size ((a_272.1 1 i_272) - (a_272.1 0 i_272))))) 2 ((a_272.2 2) + (m_size ((a_272.1 1 i_272) - (a_272.1 0 i_272)))) from (by show m_fine (m_store a_272 i_272) i_272 = _; rw [show m_store a_272 i_272 = a_272 from by unfold m_store; rw [if_neg (by omega), if_neg (by omega)]]; unfold m_fine; rw [show m_wrong a_272 i_272 = m_size (a_272.1 1 i_272 - a_272.1 0 i_272) from if_pos (by omega)]))) rfl hk_272
                                  · skip
                                    refine z_iconst X dX2_clear_316 ?_
                                    refine z_goto (tgt := 336) X (by decide) dX2_clear_317 ?_
                                    refine z_istore_n X [1, 2, 0] [(0, .ref (ad 0)), (2, .int (iZ i_272)), (3, .int (iZ 0))] rfl (Nat.le_of_ble_eq_true rfl) dX2_clear_336 ?_
                                    refine z_aload_n X 0 rfl dX2_clear_337 ?_
                                    refine z_get (v := .ref (ad 7)) X 2 0 6 hiX2 rfl rfl (by decide) ⟨rfl, rfl, rfl⟩ (by decide +kernel) rfl dX2_clear_338 ?_
                                    refine z_iload_n X 1 rfl dX2_clear_341 ?_
                                    refine z_dup2 X rfl rfl dX2_clear_342 ?_
                                    refine z_iald (g := a_272.1 6) X 7 0 rfl rfl (by omega) (by omega) ⟨by omega, by omega⟩ dX2_clear_343 ?_
                                    refine z_iload_n X 2 rfl dX2_clear_344 ?_
                                    refine z_iadd X dX2_clear_345 ?_
                                    refine z_iast (g := a_272.1 6) X 7 0 (Mw ad cI cZ (gA a_272 6 i_272 ((a_272.1 6 i_272) + 0))) rfl rfl (by omega) (by omega) ⟨by omega, by omega⟩ rfl dX2_clear_346 ?_
                                    refine z_aload_n X 0 rfl dX2_clear_347 ?_
                                    refine z_dup X rfl dX2_clear_348 ?_
                                    refine z_get (v := .int (iZ (a_272.2 2))) X 2 0 10 hiX2 rfl rfl (by decide) ⟨rfl, rfl, rfl⟩ (by decide +kernel) rfl dX2_clear_349 ?_
                                    refine z_iload_n X 2 rfl dX2_clear_352 ?_
                                    refine z_iadd X dX2_clear_353 ?_
                                    refine z_put (v := .int (iZ ((a_272.2 2) + 0))) (ty := .int) X tyX2 2 0 10 (Mw ad cI cZ (gV (gA a_272 6 i_272 ((a_272.1 6 i_272) + 0)) 2 ((a_272.2 2) + 0))) tyX2_ok nmX2 hiX2 rfl rfl (by decide) ⟨rfl, rfl, rfl, rfl⟩ (by decide +kernel) rfl rfl rfl (Nat.le_of_ble_eq_true rfl) rfl dX2_clear_354 ?_
                                    refine z_iinc X 1 [1, 0, 2] [(0, .ref (ad 0)), (2, .int (iZ (i_272 + 1))), (3, .int (iZ 0))] rfl rfl (Nat.le_of_ble_eq_true rfl) dX2_clear_357 ?_
                                    refine z_goto (tgt := 272) X (by decide) dX2_clear_360 ?_
                                    refine z_sub (lv' := [(0, .ref (ad 0)), (2, .int (iZ (i_272 + 1)))]) [0, 1] rfl ?_
                                    exact z_eq (congrArg (Mw ad cI cZ) (show m_house i_272 a_272 = gV (gA a_272 6 i_272 ((a_272.1 6 i_272) + 0)) 2 ((a_272.2 2) + 0) from (by show m_fine (m_store a_272 i_272) i_272 = _; rw [show m_store a_272 i_272 = a_272 from by unfold m_store; rw [if_neg (by omega), if_neg (by omega)]]; unfold m_fine; rw [show m_wrong a_272 i_272 = 0 from if_neg (by omega)]))) rfl hk_272
                                · skip
                                  refine z_aload_n X 0 rfl dX2_clear_302 ?_
                                  refine z_iload_n X 1 rfl dX2_clear_303 ?_
                                  refine z_callv X (c_X2_draws l D ad cI cZ cL a_272 i_272 (by omega) hB_272 (fun q => by have := hg_272.1.2.2.2.2.2.1 q; omega)) (cwV 1 X.2.2.2.2.1 gX2_clear_X2_draws rfl rfl rfl (by decide +kernel) ⟨Nat.le_of_ble_eq_true rfl, Nat.le_of_ble_eq_true rfl⟩) rfl [] [] (List.append_nil _).symm 2 0 rfl rfl [] rfl (Nat.le_of_ble_eq_true rfl) dX2_clear_304 ⟨Nat.le_of_ble_eq_true rfl, Nat.le_of_ble_eq_true rfl⟩ (List.append_nil _) ?_
                                  have hm9 := MI3_draws hg_272 i_272
                                  generalize hv9 : m_draws a_272 i_272 = v9 at hm9 ⊢
                                  have hB9 := hm9.bd
                                  refine z_aload_n X 0 rfl dX2_clear_307 ?_
                                  refine z_get (v := .ref (ad 8)) X 2 0 7 hiX2 rfl rfl (by decide) ⟨rfl, rfl, rfl⟩ (by decide +kernel) rfl dX2_clear_308 ?_
                                  refine z_iload_n X 1 rfl dX2_clear_311 ?_
                                  refine z_zald (g := v9.1 7) X 8 1 rfl rfl (by omega) (by omega) ⟨by omega, by omega⟩ dX2_clear_312 ?_
                                  have b_53 := hB9 7 rfl i_272
                                  refine z_if_eq (tgt := 320) X ⟨by omega, by omega⟩ (by decide) dX2_clear_313 (fun c_54 => ?_) (fun c_54 => ?_)
                                  · skip
                                    refine z_aload_n X 0 rfl dX2_clear_320 ?_
                                    refine z_get (v := .ref (ad 2)) X 2 0 1 hiX2 rfl rfl (by decide) ⟨rfl, rfl, rfl⟩ (by decide +kernel) rfl dX2_clear_321 ?_
                                    refine z_iload_n X 1 rfl dX2_clear_324 ?_
                                    refine z_iald (g := v9.1 1) X 2 0 rfl rfl (by omega) (by omega) ⟨by omega, by omega⟩ dX2_clear_325 ?_
                                    have b_55 := hB9 1 rfl i_272
                                    refine z_aload_n X 0 rfl dX2_clear_326 ?_
                                    refine z_get (v := .ref (ad 1)) X 2 0 0 hiX2 rfl rfl (by decide) ⟨rfl, rfl, rfl⟩ (by decide +kernel) rfl dX2_clear_327 ?_
                                    refine z_iload_n X 1 rfl dX2_clear_330 ?_
                                    refine z_iald (g := v9.1 0) X 1 0 rfl rfl (by omega) (by omega) ⟨by omega, by omega⟩ dX2_clear_331 ?_
                                    have b_56 := hB9 0 rfl i_272
                                    refine z_isub X dX2_clear_332 ?_
                                    refine z_callis X (c_X2_size l D ad cI cZ cL ((v9.1 1 i_272) - (v9.1 0 i_272)) ⟨by omega, by omega⟩) (va_cwS 1 X.2.2.2.2.1 gX2_clear_X2_size rfl rfl rfl (by decide +kernel) ⟨Nat.le_of_ble_eq_true rfl, Nat.le_of_ble_eq_true rfl⟩) rfl [] (Mw ad cI cZ v9) rfl [] rfl (Nat.le_of_ble_eq_true rfl) dX2_clear_333 ⟨Nat.le_of_ble_eq_true rfl, Nat.le_of_ble_eq_true rfl⟩ rfl ?_
                                    have r_57 := m_size_sp ((v9.1 1 i_272) - (v9.1 0 i_272))
                                    refine z_istore_n X [1, 2, 0] [(0, .ref (ad 0)), (2, .int (iZ i_272)), (3, .int (iZ (m_size ((v9.1 1 i_272) - (v9.1 0 i_272)))))] rfl (Nat.le_of_ble_eq_true rfl) dX2_clear_336 ?_
                                    refine z_aload_n X 0 rfl dX2_clear_337 ?_
                                    refine z_get (v := .ref (ad 7)) X 2 0 6 hiX2 rfl rfl (by decide) ⟨rfl, rfl, rfl⟩ (by decide +kernel) rfl dX2_clear_338 ?_
                                    refine z_iload_n X 1 rfl dX2_clear_341 ?_
                                    refine z_dup2 X rfl rfl dX2_clear_342 ?_
                                    refine z_iald (g := v9.1 6) X 7 0 rfl rfl (by omega) (by omega) ⟨by omega, by omega⟩ dX2_clear_343 ?_
                                    refine z_iload_n X 2 rfl dX2_clear_344 ?_
                                    refine z_iadd X dX2_clear_345 ?_
                                    refine z_iast (g := v9.1 6) X 7 0 (Mw ad cI cZ (gA v9 6 i_272 ((v9.1 6 i_272) + (m_size ((v9.1 1 i_272) - (v9.1 0 i_272)))))) rfl rfl (by omega) (by omega) ⟨by omega, by omega⟩ rfl dX2_clear_346 ?_
                                    refine z_aload_n X 0 rfl dX2_clear_347 ?_
                                    refine z_dup X rfl dX2_clear_348 ?_
                                    refine z_get (v := .int (iZ (v9.2 2))) X 2 0 10 hiX2 rfl rfl (by decide) ⟨rfl, rfl, rfl⟩ (by decide +kernel) rfl dX2_clear_349 ?_
                                    refine z_iload_n X 2 rfl dX2_clear_352 ?_
                                    refine z_iadd X dX2_clear_353 ?_
                                    refine z_put (v := .int (iZ ((v9.2 2) + (m_size ((v9.1 1 i_272) - (v9.1 0 i_272)))))) (ty := .int) X tyX2 2 0 10 (Mw ad cI cZ (gV (gA v9 6 i_272 ((v9.1 6 i_272) + (m_size ((v9.1 1 i_272) - (v9.1 0 i_272))))) 2 ((v9.2 2) + (m_size ((v9.1 1 i_272) - (v9.1 0 i_272)))))) tyX2_ok nmX2 hiX2 rfl rfl (by decide) ⟨rfl, rfl, rfl, rfl⟩ (by decide +kernel) rfl rfl rfl (Nat.le_of_ble_eq_true rfl) rfl dX2_clear_354 ?_
                                    refine z_iinc X 1 [1, 0, 2] [(0, .ref (ad 0)), (2, .int (iZ (i_272 + 1))), (3, .int (iZ (m_size ((v9.1 1 i_272) - (v9.1 0 i_272)))))] rfl rfl (Nat.le_of_ble_eq_true rfl) dX2_clear_357 ?_
                                    refine z_goto (tgt := 272) X (by decide) dX2_clear_360 ?_
                                    refine z_sub (lv' := [(0, .ref (ad 0)), (2, .int (iZ (i_272 + 1)))]) [0, 1] rfl ?_
                                    exact z_eq (congrArg (Mw ad cI cZ) (show m_house i_272 a_272 = gV (gA v9 6 i_272 ((v9.1 6 i_272) + (m_size ((v9.1 1 i_272) - (v9.1 0 i_272))))) 2 ((v9.2 2) + (m_size ((v9.1 1 i_272) - (v9.1 0 i_272)))) from (by show m_fine (m_store a_272 i_272) i_272 = _; rw [show m_store a_272 i_272 = v9 from by rw [← hv9]; unfold m_store; rw [if_neg (by omega), if_pos (by omega)]]; unfold m_fine; rw [show m_wrong v9 i_272 = m_size (v9.1 1 i_272 - v9.1 0 i_272) from if_pos (by omega)]))) rfl hk_272
                                  · skip
                                    refine z_iconst X dX2_clear_316 ?_
                                    refine z_goto (tgt := 336) X (by decide) dX2_clear_317 ?_
                                    refine z_istore_n X [1, 2, 0] [(0, .ref (ad 0)), (2, .int (iZ i_272)), (3, .int (iZ 0))] rfl (Nat.le_of_ble_eq_true rfl) dX2_clear_336 ?_
                                    refine z_aload_n X 0 rfl dX2_clear_337 ?_
                                    refine z_get (v := .ref (ad 7)) X 2 0 6 hiX2 rfl rfl (by decide) ⟨rfl, rfl, rfl⟩ (by decide +kernel) rfl dX2_clear_338 ?_
                                    refine z_iload_n X 1 rfl dX2_clear_341 ?_
                                    refine z_dup2 X rfl rfl dX2_clear_342 ?_
                                    refine z_iald (g := v9.1 6) X 7 0 rfl rfl (by omega) (by omega) ⟨by omega, by omega⟩ dX2_clear_343 ?_
                                    refine z_iload_n X 2 rfl dX2_clear_344 ?_
                                    refine z_iadd X dX2_clear_345 ?_
                                    refine z_iast (g := v9.1 6) X 7 0 (Mw ad cI cZ (gA v9 6 i_272 ((v9.1 6 i_272) + 0))) rfl rfl (by omega) (by omega) ⟨by omega, by omega⟩ rfl dX2_clear_346 ?_
                                    refine z_aload_n X 0 rfl dX2_clear_347 ?_
                                    refine z_dup X rfl dX2_clear_348 ?_
                                    refine z_get (v := .int (iZ (v9.2 2))) X 2 0 10 hiX2 rfl rfl (by decide) ⟨rfl, rfl, rfl⟩ (by decide +kernel) rfl dX2_clear_349 ?_
                                    refine z_iload_n X 2 rfl dX2_clear_352 ?_
                                    refine z_iadd X dX2_clear_353 ?_
                                    refine z_put (v := .int (iZ ((v9.2 2) + 0))) (ty := .int) X tyX2 2 0 10 (Mw ad cI cZ (gV (gA v9 6 i_272 ((v9.1 6 i_272) + 0)) 2 ((v9.2 2) + 0))) tyX2_ok nmX2 hiX2 rfl rfl (by decide) ⟨rfl, rfl, rfl, rfl⟩ (by decide +kernel) rfl rfl rfl (Nat.le_of_ble_eq_true rfl) rfl dX2_clear_354 ?_
                                    refine z_iinc X 1 [1, 0, 2] [(0, .ref (ad 0)), (2, .int (iZ (i_272 + 1))), (3, .int (iZ 0))] rfl rfl (Nat.le_of_ble_eq_true rfl) dX2_clear_357 ?_
                                    refine z_goto (tgt := 272) X (by decide) dX2_clear_360 ?_
                                    refine z_sub (lv' := [(0, .ref (ad 0)), (2, .int (iZ (i_272 + 1)))]) [0, 1] rfl ?_
                                    exact z_eq (congrArg (Mw ad cI cZ) (show m_house i_272 a_272 = gV (gA v9 6 i_272 ((v9.1 6 i_272) + 0)) 2 ((v9.2 2) + 0) from (by show m_fine (m_store a_272 i_272) i_272 = _; rw [show m_store a_272 i_272 = v9 from by rw [← hv9]; unfold m_store; rw [if_neg (by omega), if_pos (by omega)]]; unfold m_fine; rw [show m_wrong v9 i_272 = 0 from if_neg (by omega)]))) rfl hk_272
                              · skip
                                refine z_aload_n X 0 rfl dX2_clear_286 ?_
                                refine z_iload_n X 1 rfl dX2_clear_287 ?_
                                refine z_callv X (c_X2_keeps l D ad cI cZ cL a_272 i_272 (by omega) hB_272) (cwV 1 X.2.2.2.2.1 gX2_clear_X2_keeps rfl rfl rfl (by decide +kernel) ⟨Nat.le_of_ble_eq_true rfl, Nat.le_of_ble_eq_true rfl⟩) rfl [] [] (List.append_nil _).symm 2 0 rfl rfl [] rfl (Nat.le_of_ble_eq_true rfl) dX2_clear_288 ⟨Nat.le_of_ble_eq_true rfl, Nat.le_of_ble_eq_true rfl⟩ (List.append_nil _) ?_
                                have hm9 := MI3_keeps hg_272 i_272
                                generalize hv9 : m_keeps a_272 i_272 = v9 at hm9 ⊢
                                have hB9 := hm9.bd
                                refine z_goto (tgt := 307) X (by decide) dX2_clear_291 ?_
                                refine z_aload_n X 0 rfl dX2_clear_307 ?_
                                refine z_get (v := .ref (ad 8)) X 2 0 7 hiX2 rfl rfl (by decide) ⟨rfl, rfl, rfl⟩ (by decide +kernel) rfl dX2_clear_308 ?_
                                refine z_iload_n X 1 rfl dX2_clear_311 ?_
                                refine z_zald (g := v9.1 7) X 8 1 rfl rfl (by omega) (by omega) ⟨by omega, by omega⟩ dX2_clear_312 ?_
                                have b_58 := hB9 7 rfl i_272
                                refine z_if_eq (tgt := 320) X ⟨by omega, by omega⟩ (by decide) dX2_clear_313 (fun c_59 => ?_) (fun c_59 => ?_)
                                · skip
                                  refine z_aload_n X 0 rfl dX2_clear_320 ?_
                                  refine z_get (v := .ref (ad 2)) X 2 0 1 hiX2 rfl rfl (by decide) ⟨rfl, rfl, rfl⟩ (by decide +kernel) rfl dX2_clear_321 ?_
                                  refine z_iload_n X 1 rfl dX2_clear_324 ?_
                                  refine z_iald (g := v9.1 1) X 2 0 rfl rfl (by omega) (by omega) ⟨by omega, by omega⟩ dX2_clear_325 ?_
                                  have b_60 := hB9 1 rfl i_272
                                  refine z_aload_n X 0 rfl dX2_clear_326 ?_
                                  refine z_get (v := .ref (ad 1)) X 2 0 0 hiX2 rfl rfl (by decide) ⟨rfl, rfl, rfl⟩ (by decide +kernel) rfl dX2_clear_327 ?_
                                  refine z_iload_n X 1 rfl dX2_clear_330 ?_
                                  refine z_iald (g := v9.1 0) X 1 0 rfl rfl (by omega) (by omega) ⟨by omega, by omega⟩ dX2_clear_331 ?_
                                  have b_61 := hB9 0 rfl i_272
                                  refine z_isub X dX2_clear_332 ?_
                                  refine z_callis X (c_X2_size l D ad cI cZ cL ((v9.1 1 i_272) - (v9.1 0 i_272)) ⟨by omega, by omega⟩) (va_cwS 1 X.2.2.2.2.1 gX2_clear_X2_size rfl rfl rfl (by decide +kernel) ⟨Nat.le_of_ble_eq_true rfl, Nat.le_of_ble_eq_true rfl⟩) rfl [] (Mw ad cI cZ v9) rfl [] rfl (Nat.le_of_ble_eq_true rfl) dX2_clear_333 ⟨Nat.le_of_ble_eq_true rfl, Nat.le_of_ble_eq_true rfl⟩ rfl ?_
                                  have r_62 := m_size_sp ((v9.1 1 i_272) - (v9.1 0 i_272))
                                  refine z_istore_n X [1, 2, 0] [(0, .ref (ad 0)), (2, .int (iZ i_272)), (3, .int (iZ (m_size ((v9.1 1 i_272) - (v9.1 0 i_272)))))] rfl (Nat.le_of_ble_eq_true rfl) dX2_clear_336 ?_
                                  refine z_aload_n X 0 rfl dX2_clear_337 ?_
                                  refine z_get (v := .ref (ad 7)) X 2 0 6 hiX2 rfl rfl (by decide) ⟨rfl, rfl, rfl⟩ (by decide +kernel) rfl dX2_clear_338 ?_
                                  refine z_iload_n X 1 rfl dX2_clear_341 ?_
                                  refine z_dup2 X rfl rfl dX2_clear_342 ?_
                                  refine z_iald (g := v9.1 6) X 7 0 rfl rfl (by omega) (by omega) ⟨by omega, by omega⟩ dX2_clear_343 ?_
                                  refine z_iload_n X 2 rfl dX2_clear_344 ?_
                                  refine z_iadd X dX2_clear_345 ?_
                                  refine z_iast (g := v9.1 6) X 7 0 (Mw ad cI cZ (gA v9 6 i_272 ((v9.1 6 i_272) + (m_size ((v9.1 1 i_272) - (v9.1 0 i_272)))))) rfl rfl (by omega) (by omega) ⟨by omega, by omega⟩ rfl dX2_clear_346 ?_
                                  refine z_aload_n X 0 rfl dX2_clear_347 ?_
                                  refine z_dup X rfl dX2_clear_348 ?_
                                  refine z_get (v := .int (iZ (v9.2 2))) X 2 0 10 hiX2 rfl rfl (by decide) ⟨rfl, rfl, rfl⟩ (by decide +kernel) rfl dX2_clear_349 ?_
                                  refine z_iload_n X 2 rfl dX2_clear_352 ?_
                                  refine z_iadd X dX2_clear_353 ?_
                                  refine z_put (v := .int (iZ ((v9.2 2) + (m_size ((v9.1 1 i_272) - (v9.1 0 i_272)))))) (ty := .int) X tyX2 2 0 10 (Mw ad cI cZ (gV (gA v9 6 i_272 ((v9.1 6 i_272) + (m_size ((v9.1 1 i_272) - (v9.1 0 i_272))))) 2 ((v9.2 2) + (m_size ((v9.1 1 i_272) - (v9.1 0 i_272)))))) tyX2_ok nmX2 hiX2 rfl rfl (by decide) ⟨rfl, rfl, rfl, rfl⟩ (by decide +kernel) rfl rfl rfl (Nat.le_of_ble_eq_true rfl) rfl dX2_clear_354 ?_
                                  refine z_iinc X 1 [1, 0, 2] [(0, .ref (ad 0)), (2, .int (iZ (i_272 + 1))), (3, .int (iZ (m_size ((v9.1 1 i_272) - (v9.1 0 i_272)))))] rfl rfl (Nat.le_of_ble_eq_true rfl) dX2_clear_357 ?_
                                  refine z_goto (tgt := 272) X (by decide) dX2_clear_360 ?_
                                  refine z_sub (lv' := [(0, .ref (ad 0)), (2, .int (iZ (i_272 + 1)))]) [0, 1] rfl ?_
                                  exact z_eq (congrArg (Mw ad cI cZ) (show m_house i_272 a_272 = gV (gA v9 6 i_272 ((v9.1 6 i_272) + (m_size ((v9.1 1 i_272) - (v9.1 0 i_272))))) 2 ((v9.2 2) + (m_size ((v9.1 1 i_272) - (v9.1 0 i_272)))) from (by show m_fine (m_store a_272 i_272) i_272 = _; rw [show m_store a_272 i_272 = v9 from by rw [← hv9]; unfold m_store; rw [if_pos (by omega)]]; unfold m_fine; rw [show m_wrong v9 i_272 = m_size (v9.1 1 i_272 - v9.1 0 i_272) from if_pos (by omega)]))) rfl hk_272
                                · skip
                                  refine z_iconst X dX2_clear_316 ?_
                                  refine z_goto (tgt := 336) X (by decide) dX2_clear_317 ?_
                                  refine z_istore_n X [1, 2, 0] [(0, .ref (ad 0)), (2, .int (iZ i_272)), (3, .int (iZ 0))] rfl (Nat.le_of_ble_eq_true rfl) dX2_clear_336 ?_
                                  refine z_aload_n X 0 rfl dX2_clear_337 ?_
                                  refine z_get (v := .ref (ad 7)) X 2 0 6 hiX2 rfl rfl (by decide) ⟨rfl, rfl, rfl⟩ (by decide +kernel) rfl dX2_clear_338 ?_
                                  refine z_iload_n X 1 rfl dX2_clear_341 ?_
                                  refine z_dup2 X rfl rfl dX2_clear_342 ?_
                                  refine z_iald (g := v9.1 6) X 7 0 rfl rfl (by omega) (by omega) ⟨by omega, by omega⟩ dX2_clear_343 ?_
                                  refine z_iload_n X 2 rfl dX2_clear_344 ?_
                                  refine z_iadd X dX2_clear_345 ?_
                                  refine z_iast (g := v9.1 6) X 7 0 (Mw ad cI cZ (gA v9 6 i_272 ((v9.1 6 i_272) + 0))) rfl rfl (by omega) (by omega) ⟨by omega, by omega⟩ rfl dX2_clear_346 ?_
                                  refine z_aload_n X 0 rfl dX2_clear_347 ?_
                                  refine z_dup X rfl dX2_clear_348 ?_
                                  refine z_get (v := .int (iZ (v9.2 2))) X 2 0 10 hiX2 rfl rfl (by decide) ⟨rfl, rfl, rfl⟩ (by decide +kernel) rfl dX2_clear_349 ?_
                                  refine z_iload_n X 2 rfl dX2_clear_352 ?_
                                  refine z_iadd X dX2_clear_353 ?_
                                  refine z_put (v := .int (iZ ((v9.2 2) + 0))) (ty := .int) X tyX2 2 0 10 (Mw ad cI cZ (gV (gA v9 6 i_272 ((v9.1 6 i_272) + 0)) 2 ((v9.2 2) + 0))) tyX2_ok nmX2 hiX2 rfl rfl (by decide) ⟨rfl, rfl, rfl, rfl⟩ (by decide +kernel) rfl rfl rfl (Nat.le_of_ble_eq_true rfl) rfl dX2_clear_354 ?_
                                  refine z_iinc X 1 [1, 0, 2] [(0, .ref (ad 0)), (2, .int (iZ (i_272 + 1))), (3, .int (iZ 0))] rfl rfl (Nat.le_of_ble_eq_true rfl) dX2_clear_357 ?_
                                  refine z_goto (tgt := 272) X (by decide) dX2_clear_360 ?_
                                  refine z_sub (lv' := [(0, .ref (ad 0)), (2, .int (iZ (i_272 + 1)))]) [0, 1] rfl ?_
                                  exact z_eq (congrArg (Mw ad cI cZ) (show m_house i_272 a_272 = gV (gA v9 6 i_272 ((v9.1 6 i_272) + 0)) 2 ((v9.2 2) + 0) from (by show m_fine (m_store a_272 i_272) i_272 = _; rw [show m_store a_272 i_272 = v9 from by rw [← hv9]; unfold m_store; rw [if_pos (by omega)]]; unfold m_fine; rw [show m_wrong v9 i_272 = 0 from if_neg (by omega)]))) rfl hk_272
                        · exact absurd c_36 (by omega)
                      · intro i_187 k_187 a_187 hi_187 h0i_187 h1i_187 ha_187 hk_187
                        have hg_187 : MI2 a_187 := by rw [ha_187]; exact MI2_setk hI_146.1 (k_187)
                        have hc_187 : a_187.2 5 = v_146.2 5 := by rw [ha_187, m_setk_2]
                        have hbk_187 := hg_187.2.1.2.2 i_187
                        refine z_iload_n X 1 rfl dX2_clear_187 ?_
                        refine z_aload_n X 0 rfl dX2_clear_188 ?_
                        refine z_get (v := .int (iZ (a_187.2 5))) X 2 0 17 hiX2 rfl rfl (by decide) ⟨rfl, rfl, rfl⟩ (by decide +kernel) rfl dX2_clear_189 ?_
                        refine z_icmp_ge (tgt := 270) X ⟨by omega, by omega⟩ ⟨by omega, by omega⟩ (by decide) dX2_clear_192 (fun c_63 => ?_) (fun c_63 => ?_)
                        · exact absurd c_63 (by omega)
                        · skip
                          refine z_aload_n X 0 rfl dX2_clear_195 ?_
                          refine z_get (v := .ref (ad 7)) X 2 0 6 hiX2 rfl rfl (by decide) ⟨rfl, rfl, rfl⟩ (by decide +kernel) rfl dX2_clear_196 ?_
                          refine z_aload_n X 0 rfl dX2_clear_199 ?_
                          refine z_get (v := .ref (ad 10)) X 2 0 14 hiX2 rfl rfl (by decide) ⟨rfl, rfl, rfl⟩ (by decide +kernel) rfl dX2_clear_200 ?_
                          refine z_iload_n X 1 rfl dX2_clear_203 ?_
                          refine z_iald (g := a_187.1 9) X 10 0 rfl rfl (by omega) (by omega) ⟨by omega, by omega⟩ dX2_clear_204 ?_
                          refine z_dup2 X rfl rfl dX2_clear_205 ?_
                          refine z_iald (g := a_187.1 6) X 7 0 rfl rfl (by omega) (by omega) ⟨by omega, by omega⟩ dX2_clear_206 ?_
                          refine z_aload_n X 0 rfl dX2_clear_207 ?_
                          refine z_get (v := .ref (ad 11)) X 2 0 15 hiX2 rfl rfl (by decide) ⟨rfl, rfl, rfl⟩ (by decide +kernel) rfl dX2_clear_208 ?_
                          refine z_iload_n X 1 rfl dX2_clear_211 ?_
                          refine z_iald (g := a_187.1 10) X 11 0 rfl rfl (by omega) (by omega) ⟨by omega, by omega⟩ dX2_clear_212 ?_
                          refine z_aload_n X 0 rfl dX2_clear_213 ?_
                          refine z_get (v := .ref (ad 12)) X 2 0 16 hiX2 rfl rfl (by decide) ⟨rfl, rfl, rfl⟩ (by decide +kernel) rfl dX2_clear_214 ?_
                          refine z_iload_n X 1 rfl dX2_clear_217 ?_
                          refine z_iald (g := a_187.1 11) X 12 0 rfl rfl (by omega) (by omega) ⟨by omega, by omega⟩ dX2_clear_218 ?_
                          refine z_imul X dX2_clear_219 ?_
                          refine z_iadd X dX2_clear_220 ?_
                          refine z_iast (g := a_187.1 6) X 7 0 (Mw ad cI cZ (gA a_187 6 (a_187.1 9 i_187) ((a_187.1 6 (a_187.1 9 i_187)) + ((a_187.1 10 i_187) * (a_187.1 11 i_187))))) rfl rfl (by omega) (by omega) ⟨by omega, by omega⟩ rfl dX2_clear_221 ?_
                          refine z_aload_n X 0 rfl dX2_clear_222 ?_
                          refine z_get (v := .ref (ad 7)) X 2 0 6 hiX2 rfl rfl (by decide) ⟨rfl, rfl, rfl⟩ (by decide +kernel) rfl dX2_clear_223 ?_
                          refine z_aload_n X 0 rfl dX2_clear_226 ?_
                          refine z_get (v := .ref (ad 9)) X 2 0 13 hiX2 rfl rfl (by decide) ⟨rfl, rfl, rfl⟩ (by decide +kernel) rfl dX2_clear_227 ?_
                          refine z_iload_n X 1 rfl dX2_clear_230 ?_
                          refine z_iald (g := a_187.1 8) X 9 0 rfl rfl (by omega) (by omega) ⟨by omega, by omega⟩ dX2_clear_231 ?_
                          refine z_dup2 X rfl rfl dX2_clear_232 ?_
                          refine z_iald (g := updZ (a_187.1 6) (a_187.1 9 i_187) ((a_187.1 6 (a_187.1 9 i_187)) + ((a_187.1 10 i_187) * (a_187.1 11 i_187)))) X 7 0 rfl rfl (by omega) (by omega) ⟨by omega, by omega⟩ dX2_clear_233 ?_
                          refine z_aload_n X 0 rfl dX2_clear_234 ?_
                          refine z_get (v := .ref (ad 11)) X 2 0 15 hiX2 rfl rfl (by decide) ⟨rfl, rfl, rfl⟩ (by decide +kernel) rfl dX2_clear_235 ?_
                          refine z_iload_n X 1 rfl dX2_clear_238 ?_
                          refine z_iald (g := a_187.1 10) X 11 0 rfl rfl (by omega) (by omega) ⟨by omega, by omega⟩ dX2_clear_239 ?_
                          refine z_aload_n X 0 rfl dX2_clear_240 ?_
                          refine z_get (v := .ref (ad 12)) X 2 0 16 hiX2 rfl rfl (by decide) ⟨rfl, rfl, rfl⟩ (by decide +kernel) rfl dX2_clear_241 ?_
                          refine z_iload_n X 1 rfl dX2_clear_244 ?_
                          refine z_iald (g := a_187.1 11) X 12 0 rfl rfl (by omega) (by omega) ⟨by omega, by omega⟩ dX2_clear_245 ?_
                          refine z_imul X dX2_clear_246 ?_
                          refine z_isub X dX2_clear_247 ?_
                          refine z_iast (g := updZ (a_187.1 6) (a_187.1 9 i_187) ((a_187.1 6 (a_187.1 9 i_187)) + ((a_187.1 10 i_187) * (a_187.1 11 i_187)))) X 7 0 (Mw ad cI cZ (gA (gA a_187 6 (a_187.1 9 i_187) ((a_187.1 6 (a_187.1 9 i_187)) + ((a_187.1 10 i_187) * (a_187.1 11 i_187)))) 6 (a_187.1 8 i_187) (((updZ (a_187.1 6) (a_187.1 9 i_187) ((a_187.1 6 (a_187.1 9 i_187)) + ((a_187.1 10 i_187) * (a_187.1 11 i_187)))) (a_187.1 8 i_187)) - ((a_187.1 10 i_187) * (a_187.1 11 i_187))))) rfl rfl (by omega) (by omega) ⟨by omega, by omega⟩ rfl dX2_clear_248 ?_
                          refine z_aload_n X 0 rfl dX2_clear_249 ?_
                          refine z_get (v := .ref (ad 13)) X 2 0 18 hiX2 rfl rfl (by decide) ⟨rfl, rfl, rfl⟩ (by decide +kernel) rfl dX2_clear_250 ?_
                          refine z_iconst X dX2_clear_253 ?_
                          refine z_dup2 X rfl rfl dX2_clear_254 ?_
                          refine z_iald (g := a_187.1 12) X 13 0 rfl rfl (by omega) (by omega) ⟨by omega, by omega⟩ dX2_clear_255 ?_
                          refine z_aload_n X 0 rfl dX2_clear_256 ?_
                          refine z_get (v := .ref (ad 11)) X 2 0 15 hiX2 rfl rfl (by decide) ⟨rfl, rfl, rfl⟩ (by decide +kernel) rfl dX2_clear_257 ?_
                          refine z_iload_n X 1 rfl dX2_clear_260 ?_
                          refine z_iald (g := a_187.1 10) X 11 0 rfl rfl (by omega) (by omega) ⟨by omega, by omega⟩ dX2_clear_261 ?_
                          refine z_iadd X dX2_clear_262 ?_
                          refine z_iast (g := a_187.1 12) X 13 0 (Mw ad cI cZ (gA (gA (gA a_187 6 (a_187.1 9 i_187) ((a_187.1 6 (a_187.1 9 i_187)) + ((a_187.1 10 i_187) * (a_187.1 11 i_187)))) 6 (a_187.1 8 i_187) (((updZ (a_187.1 6) (a_187.1 9 i_187) ((a_187.1 6 (a_187.1 9 i_187)) + ((a_187.1 10 i_187) * (a_187.1 11 i_187)))) (a_187.1 8 i_187)) - ((a_187.1 10 i_187) * (a_187.1 11 i_187)))) 12 0 ((a_187.1 12 0) + (a_187.1 10 i_187)))) rfl rfl (by omega) (by omega) ⟨by omega, by omega⟩ rfl dX2_clear_263 ?_
                          refine z_iinc X 1 [1, 0] [(0, .ref (ad 0)), (2, .int (iZ (i_187 + 1)))] rfl rfl (Nat.le_of_ble_eq_true rfl) dX2_clear_264 ?_
                          refine z_goto (tgt := 187) X (by decide) dX2_clear_267 ?_
                          exact z_eq (congrArg (Mw ad cI cZ) (show m_setS i_187 a_187 = gA (gA (gA a_187 6 (a_187.1 9 i_187) ((a_187.1 6 (a_187.1 9 i_187)) + ((a_187.1 10 i_187) * (a_187.1 11 i_187)))) 6 (a_187.1 8 i_187) (((updZ (a_187.1 6) (a_187.1 9 i_187) ((a_187.1 6 (a_187.1 9 i_187)) + ((a_187.1 10 i_187) * (a_187.1 11 i_187)))) (a_187.1 8 i_187)) - ((a_187.1 10 i_187) * (a_187.1 11 i_187)))) 12 0 ((a_187.1 12 0) + (a_187.1 10 i_187)) from rfl)) rfl hk_187
                    · skip
                      refine z_iconst X dX2_clear_150 ?_
                      refine z_istore_n X [1, 0] [(0, .ref (ad 0)), (1, .int (iZ 0))] rfl (Nat.le_of_ble_eq_true rfl) dX2_clear_151 ?_
                      refine z_iconst X dX2_clear_152 ?_
                      refine z_istore_n X [1, 2, 0] [(0, .ref (ad 0)), (1, .int (iZ 0)), (2, .int (iZ 4))] rfl (Nat.le_of_ble_eq_true rfl) dX2_clear_153 ?_
                      suffices H_154 : ∀ (n_154 : Nat) (x_154 : Int) (v_154 : GS) (i_154 : Int), (i_154 = ((n_154 : Nat) : Int) - 1 ∧ ((n_154 : Nat) : Int) ≤ 5 ∧ MI2 v_154 ∧ x_154 + SU v_154 = SU v_146 ∧ 0 ≤ x_154) → (m_pass n_154 (x_154, v_154) = m_pass 5 (0, v_146)) → zW p l e ({ frames := 4, cells := 0, slots := 0, locals := 93 } : Room) s m ([.ref (ad 0)] : List Value).toArray below meth c 4 D A 0 0 (MQ below (zPi D (zT cI cZ cL) (Mw ad cI cZ (m_clearU (gV w 6 0))) ((m_clearU (gV w 6 0)).1 12 0) A) ([.ref (ad 0)] : List Value).toArray s 0 0 A) (Mw ad cI cZ v_154) 154 [(0, .ref (ad 0)), (1, .int (iZ x_154)), (2, .int (iZ i_154))] [] from H_154 5 0 v_146 4 ⟨by omega, by omega, hI_146.1, by omega, by omega⟩ rfl
                      intro n_154
                      induction n_154 with
                      | zero =>
                        intro x_154 v_154 i_154 hI_154 hF_154
                        have hg_154 := hI_154.2.2.1
                        have hi_154 := hI_154.1
                        have hj_154 := hI_154.2.1
                        have hx_154 := hI_154.2.2.2
                        have hS_154 := SU_rg hg_154.2.1
                        refine z_iload_n X 2 rfl dX2_clear_154 ?_
                        refine z_if_lt (tgt := 172) X ⟨by omega, by omega⟩ (by decide) dX2_clear_155 (fun c_64 => ?_) (fun c_64 => ?_)
                        · skip
                          refine z_aload_n X 0 rfl dX2_clear_172 ?_
                          refine z_get (v := .ref (ad 13)) X 2 0 18 hiX2 rfl rfl (by decide) ⟨rfl, rfl, rfl⟩ (by decide +kernel) rfl dX2_clear_173 ?_
                          refine z_iconst X dX2_clear_176 ?_
                          refine z_dup2 X rfl rfl dX2_clear_177 ?_
                          refine z_iald (g := v_154.1 12) X 13 0 rfl rfl (by omega) (by omega) ⟨by omega, by omega⟩ dX2_clear_178 ?_
                          refine z_iload_n X 1 rfl dX2_clear_179 ?_
                          refine z_iadd X dX2_clear_180 ?_
                          refine z_iast (g := v_154.1 12) X 13 0 (Mw ad cI cZ (gA v_154 12 1 ((v_154.1 12 1) + x_154))) rfl rfl (by omega) (by omega) ⟨by omega, by omega⟩ rfl dX2_clear_181 ?_
                          refine z_goto (tgt := 146) X (by decide) dX2_clear_182 ?_
                          refine z_sub (lv' := [(0, .ref (ad 0)), (1, .int (iZ x_154))]) [0, 1] rfl ?_
                          exact ih_146 x_154 (gA v_154 12 1 ((v_154.1 12 1) + x_154)) ⟨MI2_went hg_154 _ _, (fun q => by show SU v_154 + 1 ≤ _; have := hx_146.1 (by omega); omega), by omega, by omega⟩ (by rw [← hF_146]; simp only [m_cutAll]; rw [if_pos (by omega), ← hF_154]; rfl)
                        · exact absurd c_64 (by omega)
                      | succ n_154 ih_154 =>
                        intro x_154 v_154 i_154 hI_154 hF_154
                        have hg_154 := hI_154.2.2.1
                        have hi_154 := hI_154.1
                        have hj_154 := hI_154.2.1
                        have hx_154 := hI_154.2.2.2
                        have hS_154 := SU_rg hg_154.2.1
                        refine z_iload_n X 2 rfl dX2_clear_154 ?_
                        refine z_if_lt (tgt := 172) X ⟨by omega, by omega⟩ (by decide) dX2_clear_155 (fun c_65 => ?_) (fun c_65 => ?_)
                        · exact absurd c_65 (by omega)
                        · skip
                          refine z_iload_n X 1 rfl dX2_clear_158 ?_
                          refine z_aload_n X 0 rfl dX2_clear_159 ?_
                          refine z_iload_n X 2 rfl dX2_clear_160 ?_
                          refine z_calli X (c_X2_cuts l D ad cI cZ cL v_154 i_154 (by omega) hg_154) (cwV 1 X.2.2.2.2.1 gX2_clear_X2_cuts rfl rfl rfl (by decide +kernel) ⟨Nat.le_of_ble_eq_true rfl, Nat.le_of_ble_eq_true rfl⟩) rfl [] [] (List.append_nil _).symm 2 0 rfl rfl [.int (iZ x_154)] rfl (Nat.le_of_ble_eq_true rfl) dX2_clear_161 ⟨Nat.le_of_ble_eq_true rfl, Nat.le_of_ble_eq_true rfl⟩ (List.append_nil _) ?_
                          have hco_154 := m_cuts_ok hg_154 i_154
                          refine z_iadd X dX2_clear_164 ?_
                          refine z_istore_n X [1, 0, 2] [(0, .ref (ad 0)), (1, .int (iZ (x_154 + ((m_cuts v_154 i_154).1)))), (2, .int (iZ i_154))] rfl (Nat.le_of_ble_eq_true rfl) dX2_clear_165 ?_
                          refine z_iinc X 2 [1, 2, 0] [(0, .ref (ad 0)), (1, .int (iZ (x_154 + ((m_cuts v_154 i_154).1)))), (2, .int (iZ (i_154 + (-1))))] rfl rfl (Nat.le_of_ble_eq_true rfl) dX2_clear_166 ?_
                          refine z_goto (tgt := 154) X (by decide) dX2_clear_169 ?_
                          exact ih_154 (x_154 + ((m_cuts v_154 i_154).1)) ((m_cuts v_154 i_154).2) (i_154 + (-1)) ⟨by omega, by omega, hco_154.1, by omega, by omega⟩ (by have hi9 : i_154 = ((n_154 : Nat) : Int) := (by omega); subst hi9; rw [← hF_154]; rfl)
                · exact absurd c_5 (by omega)
              · intro i_96 k_96 a_96 hi_96 h0i_96 h1i_96 ha_96 hk_96
                have hIo : MI1 a_96 := by rw [ha_96, h54]; exact MI1_matchOk h1 k_96 (by omega)
                refine z_iload_n X 1 rfl dX2_clear_96 ?_
                refine z_bipush X (by decide) dX2_clear_97 ?_
                refine z_icmp_ge (tgt := 144) X ⟨by omega, by omega⟩ ⟨by omega, by omega⟩ (by decide) dX2_clear_99 (fun c_66 => ?_) (fun c_66 => ?_)
                · exact absurd c_66 (by omega)
                · skip
                  refine z_iconst X dX2_clear_102 ?_
                  refine z_istore_n X [1, 2, 0] [(0, .ref (ad 0)), (1, .int (iZ i_96)), (2, .int (iZ 0))] rfl (Nat.le_of_ble_eq_true rfl) dX2_clear_103 ?_
                  refine zfor_ind 6 6 (rfl) (m_matchI i_96) a_96 (fun (i_104 : Int) (a_104 : GS) => zW p l e ({ frames := 4, cells := 0, slots := 0, locals := 93 } : Room) s m ([.ref (ad 0)] : List Value).toArray below meth c 4 D A 0 0 (MQ below (zPi D (zT cI cZ cL) (Mw ad cI cZ (m_clearU (gV w 6 0))) ((m_clearU (gV w 6 0)).1 12 0) A) ([.ref (ad 0)] : List Value).toArray s 0 0 A) (Mw ad cI cZ a_104) 104 [(0, .ref (ad 0)), (1, .int (iZ i_96)), (2, .int (iZ i_104))] []) ?_ ?_
                  · intro a_104 ha_104
                    have hIi : MI1 a_104 := by rw [ha_104]; exact MI1_matchIk hIo 6 (by omega)
                    have hBi := hIi.bd
                    refine z_iload_n X 2 rfl dX2_clear_104 ?_
                    refine z_bipush X (by decide) dX2_clear_105 ?_
                    refine z_icmp_ge (tgt := 138) X ⟨by omega, by omega⟩ ⟨by omega, by omega⟩ (by decide) dX2_clear_107 (fun c_67 => ?_) (fun c_67 => ?_)
                    · skip
                      refine z_iinc X 1 [1, 0, 2] [(0, .ref (ad 0)), (1, .int (iZ (i_96 + 1))), (2, .int (iZ 6))] rfl rfl (Nat.le_of_ble_eq_true rfl) dX2_clear_138 ?_
                      refine z_goto (tgt := 96) X (by decide) dX2_clear_141 ?_
                      refine z_sub (lv' := [(0, .ref (ad 0)), (1, .int (iZ (i_96 + 1)))]) [0, 1] rfl ?_
                      exact z_eq (congrArg (Mw ad cI cZ) (show m_matchO i_96 a_96 = a_104 from (by rw [ha_104]; rfl))) rfl hk_96
                    · exact absurd c_67 (by omega)
                  · intro i_104 k_104 a_104 hi_104 h0i_104 h1i_104 ha_104 hk_104
                    have hIi : MI1 a_104 := by rw [ha_104]; exact MI1_matchIk hIo k_104 (by omega)
                    have hBi := hIi.bd
                    refine z_iload_n X 2 rfl dX2_clear_104 ?_
                    refine z_bipush X (by decide) dX2_clear_105 ?_
                    refine z_icmp_ge (tgt := 138) X ⟨by omega, by omega⟩ ⟨by omega, by omega⟩ (by decide) dX2_clear_107 (fun c_68 => ?_) (fun c_68 => ?_)
                    · exact absurd c_68 (by omega)
                    · skip
                      refine z_aload_n X 0 rfl dX2_clear_110 ?_
                      refine z_iload_n X 2 rfl dX2_clear_111 ?_
                      refine z_calli X (c_X2_isBuyer l D ad cI cZ cL a_104 i_104 (by omega) hBi) (cwV 1 X.2.2.2.2.1 gX2_clear_X2_isBuyer rfl rfl rfl (by decide +kernel) ⟨Nat.le_of_ble_eq_true rfl, Nat.le_of_ble_eq_true rfl⟩) rfl [] [] (List.append_nil _).symm 2 0 rfl rfl [] rfl (Nat.le_of_ble_eq_true rfl) dX2_clear_112 ⟨Nat.le_of_ble_eq_true rfl, Nat.le_of_ble_eq_true rfl⟩ (List.append_nil _) ?_
                      have r_69 := m_buyer_sp a_104 i_104
                      refine z_if_eq (tgt := 132) X ⟨by omega, by omega⟩ (by decide) dX2_clear_115 (fun c_70 => ?_) (fun c_70 => ?_)
                      · skip
                        refine z_iinc X 2 [1, 2, 0] [(0, .ref (ad 0)), (1, .int (iZ i_96)), (2, .int (iZ (i_104 + 1)))] rfl rfl (Nat.le_of_ble_eq_true rfl) dX2_clear_132 ?_
                        refine z_goto (tgt := 104) X (by decide) dX2_clear_135 ?_
                        exact z_eq (congrArg (Mw ad cI cZ) (show (m_matchI i_96) i_104 a_104 = a_104 from (by simp only [m_matchI] <;> repeat' (first | with_reducible rfl | omega | split)))) rfl hk_104
                      · skip
                        refine z_aload_n X 0 rfl dX2_clear_118 ?_
                        refine z_iload_n X 2 rfl dX2_clear_119 ?_
                        refine z_calli X (c_X2_turnOf l D ad cI cZ cL a_104 i_104 (by omega) hBi) (cwV 1 X.2.2.2.2.1 gX2_clear_X2_turnOf rfl rfl rfl (by decide +kernel) ⟨Nat.le_of_ble_eq_true rfl, Nat.le_of_ble_eq_true rfl⟩) rfl [] [] (List.append_nil _).symm 2 0 rfl rfl [] rfl (Nat.le_of_ble_eq_true rfl) dX2_clear_120 ⟨Nat.le_of_ble_eq_true rfl, Nat.le_of_ble_eq_true rfl⟩ (List.append_nil _) ?_
                        have r_71 : 0 ≤ m_turn a_104 i_104 ∧ m_turn a_104 i_104 ≤ 6 := m_turnk a_104 i_104 6 (by omega)
                        refine z_iload_n X 1 rfl dX2_clear_123 ?_
                        refine z_icmp_ne (tgt := 132) X ⟨by omega, by omega⟩ ⟨by omega, by omega⟩ (by decide) dX2_clear_124 (fun c_72 => ?_) (fun c_72 => ?_)
                        · skip
                          refine z_iinc X 2 [1, 2, 0] [(0, .ref (ad 0)), (1, .int (iZ i_96)), (2, .int (iZ (i_104 + 1)))] rfl rfl (Nat.le_of_ble_eq_true rfl) dX2_clear_132 ?_
                          refine z_goto (tgt := 104) X (by decide) dX2_clear_135 ?_
                          exact z_eq (congrArg (Mw ad cI cZ) (show (m_matchI i_96) i_104 a_104 = a_104 from (by simp only [m_matchI] <;> repeat' (first | with_reducible rfl | omega | split)))) rfl hk_104
                        · skip
                          refine z_aload_n X 0 rfl dX2_clear_127 ?_
                          refine z_iload_n X 2 rfl dX2_clear_128 ?_
                          refine z_callv X (c_X2_takes l D ad cI cZ cL a_104 i_104 (by omega) hIi (by omega)) (cwV 1 X.2.2.2.2.1 gX2_clear_X2_takes rfl rfl rfl (by decide +kernel) ⟨Nat.le_of_ble_eq_true rfl, Nat.le_of_ble_eq_true rfl⟩) rfl [] [] (List.append_nil _).symm 2 0 rfl rfl [] rfl (Nat.le_of_ble_eq_true rfl) dX2_clear_129 ⟨Nat.le_of_ble_eq_true rfl, Nat.le_of_ble_eq_true rfl⟩ (List.append_nil _) ?_
                          refine z_iinc X 2 [1, 2, 0] [(0, .ref (ad 0)), (1, .int (iZ i_96)), (2, .int (iZ (i_104 + 1)))] rfl rfl (Nat.le_of_ble_eq_true rfl) dX2_clear_132 ?_
                          refine z_goto (tgt := 104) X (by decide) dX2_clear_135 ?_
                          exact z_eq (congrArg (Mw ad cI cZ) (show (m_matchI i_96) i_104 a_104 = m_takes a_104 i_104 from (by simp only [m_matchI] <;> repeat' (first | with_reducible rfl | omega | split)))) rfl hk_104
            · exact absurd c_4 (by omega)
          · intro i_54 k_54 a_54 hi_54 h0i_54 h1i_54 ha_54 hk_54
            have hb1 : ∀ q, -50 ≤ a_54.1 1 q ∧ a_54.1 1 q ≤ 50 := by rw [ha_54, m_beginLk_1 _ _ 1 (by decide), ha_33, m_beginWk_1 _ _ 1 (by decide)]; exact hI.1.2.2.1
            have hb7 : ∀ q, 0 ≤ a_54.1 7 q ∧ a_54.1 7 q ≤ 1 := by rw [ha_54, m_beginLk_1 _ _ 7 (by decide), ha_33, m_beginWk_1 _ _ 7 (by decide)]; exact hI.1.1
            refine z_iload_n X 1 rfl dX2_clear_54 ?_
            refine z_bipush X (by decide) dX2_clear_55 ?_
            refine z_icmp_ge (tgt := 94) X ⟨by omega, by omega⟩ ⟨by omega, by omega⟩ (by decide) dX2_clear_57 (fun c_73 => ?_) (fun c_73 => ?_)
            · exact absurd c_73 (by omega)
            · skip
              refine z_aload_n X 0 rfl dX2_clear_60 ?_
              refine z_get (v := .ref (ad 15)) X 2 0 20 hiX2 rfl rfl (by decide) ⟨rfl, rfl, rfl⟩ (by decide +kernel) rfl dX2_clear_61 ?_
              refine z_iload_n X 1 rfl dX2_clear_64 ?_
              refine z_aload_n X 0 rfl dX2_clear_65 ?_
              refine z_get (v := .ref (ad 8)) X 2 0 7 hiX2 rfl rfl (by decide) ⟨rfl, rfl, rfl⟩ (by decide +kernel) rfl dX2_clear_66 ?_
              refine z_iload_n X 1 rfl dX2_clear_69 ?_
              refine z_zald (g := a_54.1 7) X 8 1 rfl rfl (by omega) (by omega) ⟨by omega, by omega⟩ dX2_clear_70 ?_
              have b_74 := hb7 i_54
              refine z_if_eq (tgt := 78) X ⟨by omega, by omega⟩ (by decide) dX2_clear_71 (fun c_75 => ?_) (fun c_75 => ?_)
              · skip
                refine z_aload_n X 0 rfl dX2_clear_78 ?_
                refine z_get (v := .ref (ad 2)) X 2 0 1 hiX2 rfl rfl (by decide) ⟨rfl, rfl, rfl⟩ (by decide +kernel) rfl dX2_clear_79 ?_
                refine z_iload_n X 1 rfl dX2_clear_82 ?_
                refine z_iald (g := a_54.1 1) X 2 0 rfl rfl (by omega) (by omega) ⟨by omega, by omega⟩ dX2_clear_83 ?_
                have b_76 := hb1 i_54
                refine z_callis X (c_X2_size l D ad cI cZ cL (a_54.1 1 i_54) ⟨by omega, by omega⟩) (va_cwS 1 X.2.2.2.2.1 gX2_clear_X2_size rfl rfl rfl (by decide +kernel) ⟨Nat.le_of_ble_eq_true rfl, Nat.le_of_ble_eq_true rfl⟩) rfl [] (Mw ad cI cZ a_54) rfl [.int (iZ i_54), .ref (ad 15)] rfl (Nat.le_of_ble_eq_true rfl) dX2_clear_84 ⟨Nat.le_of_ble_eq_true rfl, Nat.le_of_ble_eq_true rfl⟩ rfl ?_
                have r_77 := m_size_sp (a_54.1 1 i_54)
                refine z_iast (g := a_54.1 14) X 15 0 (Mw ad cI cZ (gA a_54 14 i_54 (m_size (a_54.1 1 i_54)))) rfl rfl (by omega) (by omega) ⟨by omega, by omega⟩ rfl dX2_clear_87 ?_
                refine z_iinc X 1 [1, 0] [(0, .ref (ad 0)), (1, .int (iZ (i_54 + 1)))] rfl rfl (Nat.le_of_ble_eq_true rfl) dX2_clear_88 ?_
                refine z_goto (tgt := 54) X (by decide) dX2_clear_91 ?_
                exact z_eq (congrArg (Mw ad cI cZ) (show m_beginL i_54 a_54 = gA a_54 14 i_54 (m_size (a_54.1 1 i_54)) from (by simp only [m_beginL]; rw [if_pos (by omega)]))) rfl hk_54
              · skip
                refine z_iconst X dX2_clear_74 ?_
                refine z_goto (tgt := 87) X (by decide) dX2_clear_75 ?_
                refine z_iast (g := a_54.1 14) X 15 0 (Mw ad cI cZ (gA a_54 14 i_54 0)) rfl rfl (by omega) (by omega) ⟨by omega, by omega⟩ rfl dX2_clear_87 ?_
                refine z_iinc X 1 [1, 0] [(0, .ref (ad 0)), (1, .int (iZ (i_54 + 1)))] rfl rfl (Nat.le_of_ble_eq_true rfl) dX2_clear_88 ?_
                refine z_goto (tgt := 54) X (by decide) dX2_clear_91 ?_
                exact z_eq (congrArg (Mw ad cI cZ) (show m_beginL i_54 a_54 = gA a_54 14 i_54 0 from (by simp only [m_beginL]; rw [if_neg (by omega)]))) rfl hk_54
        · exact absurd c_3 (by omega)
      · intro i_33 k_33 a_33 hi_33 h0i_33 h1i_33 ha_33 hk_33
        refine z_iload_n X 1 rfl dX2_clear_33 ?_
        refine z_bipush X (by decide) dX2_clear_34 ?_
        refine z_icmp_ge (tgt := 52) X ⟨by omega, by omega⟩ ⟨by omega, by omega⟩ (by decide) dX2_clear_36 (fun c_78 => ?_) (fun c_78 => ?_)
        · exact absurd c_78 (by omega)
        · skip
          refine z_aload_n X 0 rfl dX2_clear_39 ?_
          refine z_get (v := .ref (ad 13)) X 2 0 18 hiX2 rfl rfl (by decide) ⟨rfl, rfl, rfl⟩ (by decide +kernel) rfl dX2_clear_40 ?_
          refine z_iload_n X 1 rfl dX2_clear_43 ?_
          refine z_iconst X dX2_clear_44 ?_
          refine z_iast (g := a_33.1 12) X 13 0 (Mw ad cI cZ (gA a_33 12 i_33 0)) rfl rfl (by omega) (by omega) ⟨by omega, by omega⟩ rfl dX2_clear_45 ?_
          refine z_iinc X 1 [1, 0] [(0, .ref (ad 0)), (1, .int (iZ (i_33 + 1)))] rfl rfl (Nat.le_of_ble_eq_true rfl) dX2_clear_46 ?_
          refine z_goto (tgt := 33) X (by decide) dX2_clear_49 ?_
          exact z_eq (congrArg (Mw ad cI cZ) (show m_beginW i_33 a_33 = gA a_33 12 i_33 0 from rfl)) rfl hk_33
    · exact absurd c_2 (by omega)
set_option maxHeartbeats 4000000 in
set_option maxRecDepth 100000 in
theorem c_X2_clear_1 (l : Launch) (D : va_G) (ad : Nat → Nat) (cI cZ cL : ClassId) (w : GS) (hq : w.2 4 = 500) : zMi l D (zT cI cZ cL) yX2_clear wsX2_clear ({ frames := 4, cells := 0, slots := 0, locals := 93 } : Room) (Mw ad cI cZ w) [.ref (ad 0)] 0 (Mw ad cI cZ (gV w 6 1)) 0 0 := by
  refine z_mi (cc := cX2_clear) (maxL := 4) (ret := (some .int)) (by decide) rfl (Nat.le_of_ble_eq_true rfl) ?_
  intro p e s m below meth c A X hr hlk hin
  have hiX2 : ∀ w ∈ wsX20, w ∈ wsX2_clear := by decide +kernel
  refine z_sub (lv' := [(0, .ref (ad 0))]) [0] rfl ?_
  refine z_aload_n X 0 rfl dX2_clear_0 ?_
  refine z_aload_n X 0 rfl dX2_clear_1 ?_
  refine z_get (v := .int (iZ (w.2 4))) X 2 0 12 hiX2 rfl rfl (by decide) ⟨rfl, rfl, rfl⟩ (by decide +kernel) rfl dX2_clear_2 ?_
  refine z_sipush X (by decide) dX2_clear_5 ?_
  refine z_icmp_ge (tgt := 15) X ⟨by omega, by omega⟩ ⟨by omega, by omega⟩ (by decide) dX2_clear_8 (fun c_1 => ?_) (fun c_1 => ?_)
  · skip
    refine z_iconst X dX2_clear_15 ?_
    refine z_iconst X dX2_clear_16 ?_
    refine z_iconst X dX2_clear_17 ?_
    refine z_calli X (c_X2_goesK l D ad cI cZ cL w 0 1 1 1 0 (by omega) (by omega) (by omega) (by decide) (by decide)) (cwV 3 X.2.2.2.2.1 gX2_clear_X2_goes rfl rfl rfl (by decide +kernel) ⟨Nat.le_of_ble_eq_true rfl, Nat.le_of_ble_eq_true rfl⟩) rfl [] [] (List.append_nil _).symm 2 0 rfl rfl [] rfl (Nat.le_of_ble_eq_true rfl) dX2_clear_18 ⟨Nat.le_of_ble_eq_true rfl, Nat.le_of_ble_eq_true rfl⟩ (List.append_nil _) ?_
    refine z_if_ne (tgt := 26) X ⟨by omega, by omega⟩ (by decide) dX2_clear_21 (fun c_2 => ?_) (fun c_2 => ?_)
    · exact absurd c_2 (by omega)
    · skip
      refine z_iconst X dX2_clear_24 ?_
      exact z_iret X hr hlk rfl rfl dX2_clear_25
  · exact absurd c_1 (by omega)
set_option maxHeartbeats 4000000 in
set_option maxRecDepth 100000 in
theorem c_X2_tradable (l : Launch) (D : va_G) (ad : Nat → Nat) (cI cZ cL : ClassId) (w : GS) (x : Int) (hx : zB x) (hB : Bdm w) : zMi l D (zT cI cZ cL) yX2_tradable wsX2_tradable ({ frames := 1, cells := 0, slots := 0, locals := 21 } : Room) (Mw ad cI cZ w) [.ref (ad 0), .int (iZ x)] (m_trad w x) (Mw ad cI cZ w) 0 0 := by
  refine z_mi (cc := cX2_tradable) (maxL := 4) (ret := (some .int)) (by decide) rfl (Nat.le_of_ble_eq_true rfl) ?_
  intro p e s m below meth c A X hr hlk hin
  have hiX2 : ∀ w ∈ wsX20, w ∈ wsX2_tradable := by decide +kernel
  refine z_sub (lv' := [(0, .ref (ad 0)), (1, .int (iZ x))]) [0, 1] rfl ?_
  refine z_iconst X dX2_tradable_0 ?_
  refine z_istore_n X [1, 2, 0] [(0, .ref (ad 0)), (1, .int (iZ x)), (2, .int (iZ 0))] rfl (Nat.le_of_ble_eq_true rfl) dX2_tradable_1 ?_
  refine z_iconst X dX2_tradable_2 ?_
  refine z_istore_n X [1, 2, 3, 0] [(0, .ref (ad 0)), (1, .int (iZ x)), (2, .int (iZ 0)), (3, .int (iZ 0))] rfl (Nat.le_of_ble_eq_true rfl) dX2_tradable_3 ?_
  refine zfor_ind 6 6 (rfl) (m_tradS w x) 0 (fun (i_4 : Int) (a_4 : Int) => zW p l e ({ frames := 1, cells := 0, slots := 0, locals := 21 } : Room) s m ([.ref (ad 0), .int (iZ x)] : List Value).toArray below meth c 4 D A 0 0 (MQ below (zPi D (zT cI cZ cL) (Mw ad cI cZ w) (m_trad w x) A) ([.ref (ad 0), .int (iZ x)] : List Value).toArray s 0 0 A) (Mw ad cI cZ w) 4 [(0, .ref (ad 0)), (1, .int (iZ x)), (2, .int (iZ a_4)), (3, .int (iZ i_4))] []) ?_ ?_
  · intro a_4 ha_4
    refine z_iload_n X 3 rfl dX2_tradable_4 ?_
    refine z_bipush X (by decide) dX2_tradable_5 ?_
    refine z_icmp_ge (tgt := 79) X ⟨by omega, by omega⟩ ⟨by omega, by omega⟩ (by decide) dX2_tradable_7 (fun c_1 => ?_) (fun c_1 => ?_)
    · skip
      refine z_iload_n X 2 rfl dX2_tradable_79 ?_
      exact z_iret X hr hlk ha_4 rfl dX2_tradable_80
    · exact absurd c_1 (by omega)
  · intro i_4 k_4 a_4 hi_4 h0i_4 h1i_4 ha_4 hk_4
    refine z_iload_n X 3 rfl dX2_tradable_4 ?_
    refine z_bipush X (by decide) dX2_tradable_5 ?_
    refine z_icmp_ge (tgt := 79) X ⟨by omega, by omega⟩ ⟨by omega, by omega⟩ (by decide) dX2_tradable_7 (fun c_2 => ?_) (fun c_2 => ?_)
    · exact absurd c_2 (by omega)
    · skip
      refine z_iload_n X 2 rfl dX2_tradable_10 ?_
      refine z_aload_n X 0 rfl dX2_tradable_11 ?_
      refine z_iload_n X 3 rfl dX2_tradable_12 ?_
      refine z_calli X (c_X2_isBuyer l D ad cI cZ cL w i_4 (by omega) hB) (cwV 1 X.2.2.2.2.1 gX2_tradable_X2_isBuyer rfl rfl rfl (by decide +kernel) ⟨Nat.le_of_ble_eq_true rfl, Nat.le_of_ble_eq_true rfl⟩) rfl [] [] (List.append_nil _).symm 2 0 rfl rfl [.int (iZ a_4)] rfl (Nat.le_of_ble_eq_true rfl) dX2_tradable_13 ⟨Nat.le_of_ble_eq_true rfl, Nat.le_of_ble_eq_true rfl⟩ (List.append_nil _) ?_
      have r_3 := m_buyer_sp w i_4
      refine z_if_eq (tgt := 39) X ⟨by omega, by omega⟩ (by decide) dX2_tradable_16 (fun c_4 => ?_) (fun c_4 => ?_)
      · skip
        refine z_iconst X dX2_tradable_39 ?_
        refine z_iadd X dX2_tradable_40 ?_
        refine z_istore_n X [1, 2, 0, 3] [(0, .ref (ad 0)), (1, .int (iZ x)), (2, .int (iZ (a_4 + 0))), (3, .int (iZ i_4))] rfl (Nat.le_of_ble_eq_true rfl) dX2_tradable_41 ?_
        refine z_iload_n X 2 rfl dX2_tradable_42 ?_
        refine z_aload_n X 0 rfl dX2_tradable_43 ?_
        refine z_iload_n X 3 rfl dX2_tradable_44 ?_
        refine z_calli X (c_X2_isSeller l D ad cI cZ cL w i_4 (by omega) hB) (cwV 1 X.2.2.2.2.1 gX2_tradable_X2_isSeller rfl rfl rfl (by decide +kernel) ⟨Nat.le_of_ble_eq_true rfl, Nat.le_of_ble_eq_true rfl⟩) rfl [] [] (List.append_nil _).symm 2 0 rfl rfl [.int (iZ (a_4 + 0))] rfl (Nat.le_of_ble_eq_true rfl) dX2_tradable_45 ⟨Nat.le_of_ble_eq_true rfl, Nat.le_of_ble_eq_true rfl⟩ (List.append_nil _) ?_
        have r_5 := m_isel_sp w i_4
        refine z_if_eq (tgt := 70) X ⟨by omega, by omega⟩ (by decide) dX2_tradable_48 (fun c_6 => ?_) (fun c_6 => ?_)
        · skip
          refine z_iconst X dX2_tradable_70 ?_
          refine z_iadd X dX2_tradable_71 ?_
          refine z_istore_n X [1, 2, 0, 3] [(0, .ref (ad 0)), (1, .int (iZ x)), (2, .int (iZ ((a_4 + 0) + 0))), (3, .int (iZ i_4))] rfl (Nat.le_of_ble_eq_true rfl) dX2_tradable_72 ?_
          refine z_iinc X 3 [1, 2, 3, 0] [(0, .ref (ad 0)), (1, .int (iZ x)), (2, .int (iZ ((a_4 + 0) + 0))), (3, .int (iZ (i_4 + 1)))] rfl rfl (Nat.le_of_ble_eq_true rfl) dX2_tradable_73 ?_
          refine z_goto (tgt := 4) X (by decide) dX2_tradable_76 ?_
          exact z_eq rfl (congrArg (fun z : Int => ([(0, .ref (ad 0)), (1, .int (iZ x)), (2, .int (iZ z)), (3, .int (iZ (i_4 + 1)))] : List (Nat × Value))) (show (m_tradS w x) i_4 a_4 = (a_4 + 0) + 0 from (by simp only [m_tradS] <;> repeat' (first | with_reducible rfl | omega | split)))) hk_4
        · skip
          refine z_aload_n X 0 rfl dX2_tradable_51 ?_
          refine z_get (v := .ref (ad 3)) X 2 0 2 hiX2 rfl rfl (by decide) ⟨rfl, rfl, rfl⟩ (by decide +kernel) rfl dX2_tradable_52 ?_
          refine z_iload_n X 3 rfl dX2_tradable_55 ?_
          refine z_iald (g := w.1 2) X 3 0 rfl rfl (by omega) (by omega) ⟨by omega, by omega⟩ dX2_tradable_56 ?_
          have b_7 := hB 2 rfl i_4
          refine z_iload_n X 1 rfl dX2_tradable_57 ?_
          refine z_icmp_gt (tgt := 70) X ⟨by omega, by omega⟩ ⟨by omega, by omega⟩ (by decide) dX2_tradable_58 (fun c_8 => ?_) (fun c_8 => ?_)
          · skip
            refine z_iconst X dX2_tradable_70 ?_
            refine z_iadd X dX2_tradable_71 ?_
            refine z_istore_n X [1, 2, 0, 3] [(0, .ref (ad 0)), (1, .int (iZ x)), (2, .int (iZ ((a_4 + 0) + 0))), (3, .int (iZ i_4))] rfl (Nat.le_of_ble_eq_true rfl) dX2_tradable_72 ?_
            refine z_iinc X 3 [1, 2, 3, 0] [(0, .ref (ad 0)), (1, .int (iZ x)), (2, .int (iZ ((a_4 + 0) + 0))), (3, .int (iZ (i_4 + 1)))] rfl rfl (Nat.le_of_ble_eq_true rfl) dX2_tradable_73 ?_
            refine z_goto (tgt := 4) X (by decide) dX2_tradable_76 ?_
            exact z_eq rfl (congrArg (fun z : Int => ([(0, .ref (ad 0)), (1, .int (iZ x)), (2, .int (iZ z)), (3, .int (iZ (i_4 + 1)))] : List (Nat × Value))) (show (m_tradS w x) i_4 a_4 = (a_4 + 0) + 0 from (by simp only [m_tradS] <;> repeat' (first | with_reducible rfl | omega | split)))) hk_4
          · skip
            refine z_aload_n X 0 rfl dX2_tradable_61 ?_
            refine z_get (v := .ref (ad 2)) X 2 0 1 hiX2 rfl rfl (by decide) ⟨rfl, rfl, rfl⟩ (by decide +kernel) rfl dX2_tradable_62 ?_
            refine z_iload_n X 3 rfl dX2_tradable_65 ?_
            refine z_iald (g := w.1 1) X 2 0 rfl rfl (by omega) (by omega) ⟨by omega, by omega⟩ dX2_tradable_66 ?_
            have b_9 := hB 1 rfl i_4
            refine z_goto (tgt := 71) X (by decide) dX2_tradable_67 ?_
            refine z_iadd X dX2_tradable_71 ?_
            refine z_istore_n X [1, 2, 0, 3] [(0, .ref (ad 0)), (1, .int (iZ x)), (2, .int (iZ ((a_4 + 0) + (w.1 1 i_4)))), (3, .int (iZ i_4))] rfl (Nat.le_of_ble_eq_true rfl) dX2_tradable_72 ?_
            refine z_iinc X 3 [1, 2, 3, 0] [(0, .ref (ad 0)), (1, .int (iZ x)), (2, .int (iZ ((a_4 + 0) + (w.1 1 i_4)))), (3, .int (iZ (i_4 + 1)))] rfl rfl (Nat.le_of_ble_eq_true rfl) dX2_tradable_73 ?_
            refine z_goto (tgt := 4) X (by decide) dX2_tradable_76 ?_
            exact z_eq rfl (congrArg (fun z : Int => ([(0, .ref (ad 0)), (1, .int (iZ x)), (2, .int (iZ z)), (3, .int (iZ (i_4 + 1)))] : List (Nat × Value))) (show (m_tradS w x) i_4 a_4 = (a_4 + 0) + (w.1 1 i_4) from (by simp only [m_tradS] <;> repeat' (first | with_reducible rfl | omega | split)))) hk_4
      · skip
        refine z_aload_n X 0 rfl dX2_tradable_19 ?_
        refine z_get (v := .ref (ad 3)) X 2 0 2 hiX2 rfl rfl (by decide) ⟨rfl, rfl, rfl⟩ (by decide +kernel) rfl dX2_tradable_20 ?_
        refine z_iload_n X 3 rfl dX2_tradable_23 ?_
        refine z_iald (g := w.1 2) X 3 0 rfl rfl (by omega) (by omega) ⟨by omega, by omega⟩ dX2_tradable_24 ?_
        have b_10 := hB 2 rfl i_4
        refine z_iload_n X 1 rfl dX2_tradable_25 ?_
        refine z_icmp_le (tgt := 39) X ⟨by omega, by omega⟩ ⟨by omega, by omega⟩ (by decide) dX2_tradable_26 (fun c_11 => ?_) (fun c_11 => ?_)
        · skip
          refine z_iconst X dX2_tradable_39 ?_
          refine z_iadd X dX2_tradable_40 ?_
          refine z_istore_n X [1, 2, 0, 3] [(0, .ref (ad 0)), (1, .int (iZ x)), (2, .int (iZ (a_4 + 0))), (3, .int (iZ i_4))] rfl (Nat.le_of_ble_eq_true rfl) dX2_tradable_41 ?_
          refine z_iload_n X 2 rfl dX2_tradable_42 ?_
          refine z_aload_n X 0 rfl dX2_tradable_43 ?_
          refine z_iload_n X 3 rfl dX2_tradable_44 ?_
          refine z_calli X (c_X2_isSeller l D ad cI cZ cL w i_4 (by omega) hB) (cwV 1 X.2.2.2.2.1 gX2_tradable_X2_isSeller rfl rfl rfl (by decide +kernel) ⟨Nat.le_of_ble_eq_true rfl, Nat.le_of_ble_eq_true rfl⟩) rfl [] [] (List.append_nil _).symm 2 0 rfl rfl [.int (iZ (a_4 + 0))] rfl (Nat.le_of_ble_eq_true rfl) dX2_tradable_45 ⟨Nat.le_of_ble_eq_true rfl, Nat.le_of_ble_eq_true rfl⟩ (List.append_nil _) ?_
          have r_12 := m_isel_sp w i_4
          refine z_if_eq (tgt := 70) X ⟨by omega, by omega⟩ (by decide) dX2_tradable_48 (fun c_13 => ?_) (fun c_13 => ?_)
          · skip
            refine z_iconst X dX2_tradable_70 ?_
            refine z_iadd X dX2_tradable_71 ?_
            refine z_istore_n X [1, 2, 0, 3] [(0, .ref (ad 0)), (1, .int (iZ x)), (2, .int (iZ ((a_4 + 0) + 0))), (3, .int (iZ i_4))] rfl (Nat.le_of_ble_eq_true rfl) dX2_tradable_72 ?_
            refine z_iinc X 3 [1, 2, 3, 0] [(0, .ref (ad 0)), (1, .int (iZ x)), (2, .int (iZ ((a_4 + 0) + 0))), (3, .int (iZ (i_4 + 1)))] rfl rfl (Nat.le_of_ble_eq_true rfl) dX2_tradable_73 ?_
            refine z_goto (tgt := 4) X (by decide) dX2_tradable_76 ?_
            exact z_eq rfl (congrArg (fun z : Int => ([(0, .ref (ad 0)), (1, .int (iZ x)), (2, .int (iZ z)), (3, .int (iZ (i_4 + 1)))] : List (Nat × Value))) (show (m_tradS w x) i_4 a_4 = (a_4 + 0) + 0 from (by simp only [m_tradS] <;> repeat' (first | with_reducible rfl | omega | split)))) hk_4
          · skip
            refine z_aload_n X 0 rfl dX2_tradable_51 ?_
            refine z_get (v := .ref (ad 3)) X 2 0 2 hiX2 rfl rfl (by decide) ⟨rfl, rfl, rfl⟩ (by decide +kernel) rfl dX2_tradable_52 ?_
            refine z_iload_n X 3 rfl dX2_tradable_55 ?_
            refine z_iald (g := w.1 2) X 3 0 rfl rfl (by omega) (by omega) ⟨by omega, by omega⟩ dX2_tradable_56 ?_
            refine z_iload_n X 1 rfl dX2_tradable_57 ?_
            refine z_icmp_gt (tgt := 70) X ⟨by omega, by omega⟩ ⟨by omega, by omega⟩ (by decide) dX2_tradable_58 (fun c_14 => ?_) (fun c_14 => ?_)
            · skip
              refine z_iconst X dX2_tradable_70 ?_
              refine z_iadd X dX2_tradable_71 ?_
              refine z_istore_n X [1, 2, 0, 3] [(0, .ref (ad 0)), (1, .int (iZ x)), (2, .int (iZ ((a_4 + 0) + 0))), (3, .int (iZ i_4))] rfl (Nat.le_of_ble_eq_true rfl) dX2_tradable_72 ?_
              refine z_iinc X 3 [1, 2, 3, 0] [(0, .ref (ad 0)), (1, .int (iZ x)), (2, .int (iZ ((a_4 + 0) + 0))), (3, .int (iZ (i_4 + 1)))] rfl rfl (Nat.le_of_ble_eq_true rfl) dX2_tradable_73 ?_
              refine z_goto (tgt := 4) X (by decide) dX2_tradable_76 ?_
              exact z_eq rfl (congrArg (fun z : Int => ([(0, .ref (ad 0)), (1, .int (iZ x)), (2, .int (iZ z)), (3, .int (iZ (i_4 + 1)))] : List (Nat × Value))) (show (m_tradS w x) i_4 a_4 = (a_4 + 0) + 0 from (by simp only [m_tradS] <;> repeat' (first | with_reducible rfl | omega | split)))) hk_4
            · skip
              refine z_aload_n X 0 rfl dX2_tradable_61 ?_
              refine z_get (v := .ref (ad 2)) X 2 0 1 hiX2 rfl rfl (by decide) ⟨rfl, rfl, rfl⟩ (by decide +kernel) rfl dX2_tradable_62 ?_
              refine z_iload_n X 3 rfl dX2_tradable_65 ?_
              refine z_iald (g := w.1 1) X 2 0 rfl rfl (by omega) (by omega) ⟨by omega, by omega⟩ dX2_tradable_66 ?_
              have b_15 := hB 1 rfl i_4
              refine z_goto (tgt := 71) X (by decide) dX2_tradable_67 ?_
              refine z_iadd X dX2_tradable_71 ?_
              refine z_istore_n X [1, 2, 0, 3] [(0, .ref (ad 0)), (1, .int (iZ x)), (2, .int (iZ ((a_4 + 0) + (w.1 1 i_4)))), (3, .int (iZ i_4))] rfl (Nat.le_of_ble_eq_true rfl) dX2_tradable_72 ?_
              refine z_iinc X 3 [1, 2, 3, 0] [(0, .ref (ad 0)), (1, .int (iZ x)), (2, .int (iZ ((a_4 + 0) + (w.1 1 i_4)))), (3, .int (iZ (i_4 + 1)))] rfl rfl (Nat.le_of_ble_eq_true rfl) dX2_tradable_73 ?_
              refine z_goto (tgt := 4) X (by decide) dX2_tradable_76 ?_
              exact z_eq rfl (congrArg (fun z : Int => ([(0, .ref (ad 0)), (1, .int (iZ x)), (2, .int (iZ z)), (3, .int (iZ (i_4 + 1)))] : List (Nat × Value))) (show (m_tradS w x) i_4 a_4 = (a_4 + 0) + (w.1 1 i_4) from (by simp only [m_tradS] <;> repeat' (first | with_reducible rfl | omega | split)))) hk_4
        · skip
          refine z_aload_n X 0 rfl dX2_tradable_29 ?_
          refine z_get (v := .ref (ad 2)) X 2 0 1 hiX2 rfl rfl (by decide) ⟨rfl, rfl, rfl⟩ (by decide +kernel) rfl dX2_tradable_30 ?_
          refine z_iload_n X 3 rfl dX2_tradable_33 ?_
          refine z_iald (g := w.1 1) X 2 0 rfl rfl (by omega) (by omega) ⟨by omega, by omega⟩ dX2_tradable_34 ?_
          have b_16 := hB 1 rfl i_4
          refine z_ineg X dX2_tradable_35 ?_
          refine z_goto (tgt := 40) X (by decide) dX2_tradable_36 ?_
          refine z_iadd X dX2_tradable_40 ?_
          refine z_istore_n X [1, 2, 0, 3] [(0, .ref (ad 0)), (1, .int (iZ x)), (2, .int (iZ (a_4 + (-(w.1 1 i_4))))), (3, .int (iZ i_4))] rfl (Nat.le_of_ble_eq_true rfl) dX2_tradable_41 ?_
          refine z_iload_n X 2 rfl dX2_tradable_42 ?_
          refine z_aload_n X 0 rfl dX2_tradable_43 ?_
          refine z_iload_n X 3 rfl dX2_tradable_44 ?_
          refine z_calli X (c_X2_isSeller l D ad cI cZ cL w i_4 (by omega) hB) (cwV 1 X.2.2.2.2.1 gX2_tradable_X2_isSeller rfl rfl rfl (by decide +kernel) ⟨Nat.le_of_ble_eq_true rfl, Nat.le_of_ble_eq_true rfl⟩) rfl [] [] (List.append_nil _).symm 2 0 rfl rfl [.int (iZ (a_4 + (-(w.1 1 i_4))))] rfl (Nat.le_of_ble_eq_true rfl) dX2_tradable_45 ⟨Nat.le_of_ble_eq_true rfl, Nat.le_of_ble_eq_true rfl⟩ (List.append_nil _) ?_
          have r_17 := m_isel_sp w i_4
          refine z_if_eq (tgt := 70) X ⟨by omega, by omega⟩ (by decide) dX2_tradable_48 (fun c_18 => ?_) (fun c_18 => ?_)
          · skip
            refine z_iconst X dX2_tradable_70 ?_
            refine z_iadd X dX2_tradable_71 ?_
            refine z_istore_n X [1, 2, 0, 3] [(0, .ref (ad 0)), (1, .int (iZ x)), (2, .int (iZ ((a_4 + (-(w.1 1 i_4))) + 0))), (3, .int (iZ i_4))] rfl (Nat.le_of_ble_eq_true rfl) dX2_tradable_72 ?_
            refine z_iinc X 3 [1, 2, 3, 0] [(0, .ref (ad 0)), (1, .int (iZ x)), (2, .int (iZ ((a_4 + (-(w.1 1 i_4))) + 0))), (3, .int (iZ (i_4 + 1)))] rfl rfl (Nat.le_of_ble_eq_true rfl) dX2_tradable_73 ?_
            refine z_goto (tgt := 4) X (by decide) dX2_tradable_76 ?_
            exact z_eq rfl (congrArg (fun z : Int => ([(0, .ref (ad 0)), (1, .int (iZ x)), (2, .int (iZ z)), (3, .int (iZ (i_4 + 1)))] : List (Nat × Value))) (show (m_tradS w x) i_4 a_4 = (a_4 + (-(w.1 1 i_4))) + 0 from (by simp only [m_tradS] <;> repeat' (first | with_reducible rfl | omega | split)))) hk_4
          · skip
            refine z_aload_n X 0 rfl dX2_tradable_51 ?_
            refine z_get (v := .ref (ad 3)) X 2 0 2 hiX2 rfl rfl (by decide) ⟨rfl, rfl, rfl⟩ (by decide +kernel) rfl dX2_tradable_52 ?_
            refine z_iload_n X 3 rfl dX2_tradable_55 ?_
            refine z_iald (g := w.1 2) X 3 0 rfl rfl (by omega) (by omega) ⟨by omega, by omega⟩ dX2_tradable_56 ?_
            refine z_iload_n X 1 rfl dX2_tradable_57 ?_
            refine z_icmp_gt (tgt := 70) X ⟨by omega, by omega⟩ ⟨by omega, by omega⟩ (by decide) dX2_tradable_58 (fun c_19 => ?_) (fun c_19 => ?_)
            · skip
              refine z_iconst X dX2_tradable_70 ?_
              refine z_iadd X dX2_tradable_71 ?_
              refine z_istore_n X [1, 2, 0, 3] [(0, .ref (ad 0)), (1, .int (iZ x)), (2, .int (iZ ((a_4 + (-(w.1 1 i_4))) + 0))), (3, .int (iZ i_4))] rfl (Nat.le_of_ble_eq_true rfl) dX2_tradable_72 ?_
              refine z_iinc X 3 [1, 2, 3, 0] [(0, .ref (ad 0)), (1, .int (iZ x)), (2, .int (iZ ((a_4 + (-(w.1 1 i_4))) + 0))), (3, .int (iZ (i_4 + 1)))] rfl rfl (Nat.le_of_ble_eq_true rfl) dX2_tradable_73 ?_
              refine z_goto (tgt := 4) X (by decide) dX2_tradable_76 ?_
              exact z_eq rfl (congrArg (fun z : Int => ([(0, .ref (ad 0)), (1, .int (iZ x)), (2, .int (iZ z)), (3, .int (iZ (i_4 + 1)))] : List (Nat × Value))) (show (m_tradS w x) i_4 a_4 = (a_4 + (-(w.1 1 i_4))) + 0 from (by simp only [m_tradS] <;> repeat' (first | with_reducible rfl | omega | split)))) hk_4
            · skip
              refine z_aload_n X 0 rfl dX2_tradable_61 ?_
              refine z_get (v := .ref (ad 2)) X 2 0 1 hiX2 rfl rfl (by decide) ⟨rfl, rfl, rfl⟩ (by decide +kernel) rfl dX2_tradable_62 ?_
              refine z_iload_n X 3 rfl dX2_tradable_65 ?_
              refine z_iald (g := w.1 1) X 2 0 rfl rfl (by omega) (by omega) ⟨by omega, by omega⟩ dX2_tradable_66 ?_
              refine z_goto (tgt := 71) X (by decide) dX2_tradable_67 ?_
              refine z_iadd X dX2_tradable_71 ?_
              refine z_istore_n X [1, 2, 0, 3] [(0, .ref (ad 0)), (1, .int (iZ x)), (2, .int (iZ ((a_4 + (-(w.1 1 i_4))) + (w.1 1 i_4)))), (3, .int (iZ i_4))] rfl (Nat.le_of_ble_eq_true rfl) dX2_tradable_72 ?_
              refine z_iinc X 3 [1, 2, 3, 0] [(0, .ref (ad 0)), (1, .int (iZ x)), (2, .int (iZ ((a_4 + (-(w.1 1 i_4))) + (w.1 1 i_4)))), (3, .int (iZ (i_4 + 1)))] rfl rfl (Nat.le_of_ble_eq_true rfl) dX2_tradable_73 ?_
              refine z_goto (tgt := 4) X (by decide) dX2_tradable_76 ?_
              exact z_eq rfl (congrArg (fun z : Int => ([(0, .ref (ad 0)), (1, .int (iZ x)), (2, .int (iZ z)), (3, .int (iZ (i_4 + 1)))] : List (Nat × Value))) (show (m_tradS w x) i_4 a_4 = (a_4 + (-(w.1 1 i_4))) + (w.1 1 i_4) from (by simp only [m_tradS] <;> repeat' (first | with_reducible rfl | omega | split)))) hk_4
set_option maxHeartbeats 4000000 in
set_option maxRecDepth 100000 in
theorem c_X2_mostTradable (l : Launch) (D : va_G) (ad : Nat → Nat) (cI cZ cL : ClassId) (w : GS) (hB : Bdm w) (hM : ∀ i, -50 ≤ w.1 1 i ∧ w.1 1 i ≤ 50) : zMi l D (zT cI cZ cL) yX2_mostTradable wsX2_mostTradable ({ frames := 2, cells := 0, slots := 0, locals := 44 } : Room) (Mw ad cI cZ w) [.ref (ad 0)] (m_most (gV w 6 0)) (Mw ad cI cZ (gV w 6 0)) 0 0 := by
  refine z_mi (cc := cX2_mostTradable) (maxL := 3) (ret := (some .int)) (by decide) rfl (Nat.le_of_ble_eq_true rfl) ?_
  intro p e s m below meth c A X hr hlk hin
  have hiX2 : ∀ w ∈ wsX20, w ∈ wsX2_mostTradable := by decide +kernel
  refine z_sub (lv' := [(0, .ref (ad 0))]) [0] rfl ?_
  refine z_aload_n X 0 rfl dX2_mostTradable_0 ?_
  refine z_iconst X dX2_mostTradable_1 ?_
  refine z_put (v := .int (iZ 0)) (ty := .int) X tyX2 2 0 21 (Mw ad cI cZ (gV w 6 0)) tyX2_ok nmX2 hiX2 rfl rfl (by decide) ⟨rfl, rfl, rfl, rfl⟩ (by decide +kernel) rfl rfl rfl (Nat.le_of_ble_eq_true rfl) rfl dX2_mostTradable_2 ?_
  refine z_aload_n X 0 rfl dX2_mostTradable_5 ?_
  refine z_iconst X dX2_mostTradable_6 ?_
  refine z_calli X (c_X2_tradable l D ad cI cZ cL (gV w 6 0) (-1) ⟨by omega, by omega⟩ hB) (cwV 1 X.2.2.2.2.1 gX2_mostTradable_X2_tradable rfl rfl rfl (by decide +kernel) ⟨Nat.le_of_ble_eq_true rfl, Nat.le_of_ble_eq_true rfl⟩) rfl [] [] (List.append_nil _).symm 2 0 rfl rfl [] rfl (Nat.le_of_ble_eq_true rfl) dX2_mostTradable_7 ⟨Nat.le_of_ble_eq_true rfl, Nat.le_of_ble_eq_true rfl⟩ (List.append_nil _) ?_
  have r_1 : 0 ≤ m_trad (gV w 6 0) (-1) ∧ m_trad (gV w 6 0) (-1) ≤ 600 := m_tradk (gV w 6 0) (-1) hM 6 (by omega)
  refine z_istore_n X [1, 0] [(0, .ref (ad 0)), (1, .int (iZ (m_trad (gV w 6 0) (-1))))] rfl (Nat.le_of_ble_eq_true rfl) dX2_mostTradable_10 ?_
  refine z_iconst X dX2_mostTradable_11 ?_
  refine z_istore_n X [1, 2, 0] [(0, .ref (ad 0)), (1, .int (iZ (m_trad (gV w 6 0) (-1)))), (2, .int (iZ 0))] rfl (Nat.le_of_ble_eq_true rfl) dX2_mostTradable_12 ?_
  refine zfor_ind 6 6 (rfl) (m_mostS (gV w 6 0)) (m_trad (gV w 6 0) (-1)) (fun (i_13 : Int) (a_13 : Int) => zW p l e ({ frames := 2, cells := 0, slots := 0, locals := 44 } : Room) s m ([.ref (ad 0)] : List Value).toArray below meth c 3 D A 0 0 (MQ below (zPi D (zT cI cZ cL) (Mw ad cI cZ (gV w 6 0)) (m_most (gV w 6 0)) A) ([.ref (ad 0)] : List Value).toArray s 0 0 A) (Mw ad cI cZ (gV w 6 0)) 13 [(0, .ref (ad 0)), (1, .int (iZ a_13)), (2, .int (iZ i_13))] []) ?_ ?_
  · intro a_13 ha_13
    have hv_13 := m_mostk (gV w 6 0) hM 6 (by omega)
    rw [← ha_13] at hv_13
    refine z_iload_n X 2 rfl dX2_mostTradable_13 ?_
    refine z_bipush X (by decide) dX2_mostTradable_14 ?_
    refine z_icmp_ge (tgt := 52) X ⟨by omega, by omega⟩ ⟨by omega, by omega⟩ (by decide) dX2_mostTradable_16 (fun c_2 => ?_) (fun c_2 => ?_)
    · skip
      refine z_iload_n X 1 rfl dX2_mostTradable_52 ?_
      exact z_iret X hr hlk ha_13 rfl dX2_mostTradable_53
    · exact absurd c_2 (by omega)
  · intro i_13 k_13 a_13 hi_13 h0i_13 h1i_13 ha_13 hk_13
    have hv_13 := m_mostk (gV w 6 0) hM k_13 (by omega)
    rw [← ha_13] at hv_13
    refine z_iload_n X 2 rfl dX2_mostTradable_13 ?_
    refine z_bipush X (by decide) dX2_mostTradable_14 ?_
    refine z_icmp_ge (tgt := 52) X ⟨by omega, by omega⟩ ⟨by omega, by omega⟩ (by decide) dX2_mostTradable_16 (fun c_3 => ?_) (fun c_3 => ?_)
    · exact absurd c_3 (by omega)
    · skip
      refine z_aload_n X 0 rfl dX2_mostTradable_19 ?_
      refine z_iload_n X 2 rfl dX2_mostTradable_20 ?_
      refine z_calli X (c_X2_isBuyer l D ad cI cZ cL (gV w 6 0) i_13 (by omega) hB) (cwV 1 X.2.2.2.2.1 gX2_mostTradable_X2_isBuyer rfl rfl rfl (by decide +kernel) ⟨Nat.le_of_ble_eq_true rfl, Nat.le_of_ble_eq_true rfl⟩) rfl [] [] (List.append_nil _).symm 2 0 rfl rfl [] rfl (Nat.le_of_ble_eq_true rfl) dX2_mostTradable_21 ⟨Nat.le_of_ble_eq_true rfl, Nat.le_of_ble_eq_true rfl⟩ (List.append_nil _) ?_
      have r_4 := m_buyer_sp (gV w 6 0) i_13
      refine z_if_eq (tgt := 44) X ⟨by omega, by omega⟩ (by decide) dX2_mostTradable_24 (fun c_5 => ?_) (fun c_5 => ?_)
      · skip
        refine z_iload_n X 1 rfl dX2_mostTradable_44 ?_
        refine z_istore_n X [1, 0, 2] [(0, .ref (ad 0)), (1, .int (iZ a_13)), (2, .int (iZ i_13))] rfl (Nat.le_of_ble_eq_true rfl) dX2_mostTradable_45 ?_
        refine z_iinc X 2 [1, 2, 0] [(0, .ref (ad 0)), (1, .int (iZ a_13)), (2, .int (iZ (i_13 + 1)))] rfl rfl (Nat.le_of_ble_eq_true rfl) dX2_mostTradable_46 ?_
        refine z_goto (tgt := 13) X (by decide) dX2_mostTradable_49 ?_
        exact z_eq rfl (congrArg (fun z : Int => ([(0, .ref (ad 0)), (1, .int (iZ z)), (2, .int (iZ (i_13 + 1)))] : List (Nat × Value))) (show (m_mostS (gV w 6 0)) i_13 a_13 = a_13 from (by simp only [m_mostS, gV_1] <;> repeat' (first | with_reducible rfl | omega | split)))) hk_13
      · skip
        refine z_iload_n X 1 rfl dX2_mostTradable_27 ?_
        refine z_aload_n X 0 rfl dX2_mostTradable_28 ?_
        refine z_aload_n X 0 rfl dX2_mostTradable_29 ?_
        refine z_get (v := .ref (ad 3)) X 2 0 2 hiX2 rfl rfl (by decide) ⟨rfl, rfl, rfl⟩ (by decide +kernel) rfl dX2_mostTradable_30 ?_
        refine z_iload_n X 2 rfl dX2_mostTradable_33 ?_
        refine z_iald (g := w.1 2) X 3 0 rfl rfl (by omega) (by omega) ⟨by omega, by omega⟩ dX2_mostTradable_34 ?_
        have b_6 := hB 2 rfl i_13
        refine z_calli X (c_X2_tradable l D ad cI cZ cL (gV w 6 0) (w.1 2 i_13) ⟨by omega, by omega⟩ hB) (cwV 1 X.2.2.2.2.1 gX2_mostTradable_X2_tradable rfl rfl rfl (by decide +kernel) ⟨Nat.le_of_ble_eq_true rfl, Nat.le_of_ble_eq_true rfl⟩) rfl [] [] (List.append_nil _).symm 2 0 rfl rfl [.int (iZ a_13)] rfl (Nat.le_of_ble_eq_true rfl) dX2_mostTradable_35 ⟨Nat.le_of_ble_eq_true rfl, Nat.le_of_ble_eq_true rfl⟩ (List.append_nil _) ?_
        have r_7 : 0 ≤ m_trad (gV w 6 0) (w.1 2 i_13) ∧ m_trad (gV w 6 0) (w.1 2 i_13) ≤ 600 := m_tradk (gV w 6 0) (w.1 2 i_13) hM 6 (by omega)
        refine z_callis X (c_X2_lesser l D ad cI cZ cL a_13 (m_trad (gV w 6 0) (w.1 2 i_13)) ⟨by omega, by omega⟩ ⟨by omega, by omega⟩) (va_cwS 2 X.2.2.2.2.1 gX2_mostTradable_X2_lesser rfl rfl rfl (by decide +kernel) ⟨Nat.le_of_ble_eq_true rfl, Nat.le_of_ble_eq_true rfl⟩) rfl [] (Mw ad cI cZ (gV w 6 0)) rfl [] rfl (Nat.le_of_ble_eq_true rfl) dX2_mostTradable_38 ⟨Nat.le_of_ble_eq_true rfl, Nat.le_of_ble_eq_true rfl⟩ rfl ?_
        have r_8 := m_lesser_sp a_13 (m_trad (gV w 6 0) (w.1 2 i_13))
        refine z_goto (tgt := 45) X (by decide) dX2_mostTradable_41 ?_
        refine z_istore_n X [1, 0, 2] [(0, .ref (ad 0)), (1, .int (iZ (m_lesser a_13 (m_trad (gV w 6 0) (w.1 2 i_13))))), (2, .int (iZ i_13))] rfl (Nat.le_of_ble_eq_true rfl) dX2_mostTradable_45 ?_
        refine z_iinc X 2 [1, 2, 0] [(0, .ref (ad 0)), (1, .int (iZ (m_lesser a_13 (m_trad (gV w 6 0) (w.1 2 i_13))))), (2, .int (iZ (i_13 + 1)))] rfl rfl (Nat.le_of_ble_eq_true rfl) dX2_mostTradable_46 ?_
        refine z_goto (tgt := 13) X (by decide) dX2_mostTradable_49 ?_
        exact z_eq rfl (congrArg (fun z : Int => ([(0, .ref (ad 0)), (1, .int (iZ z)), (2, .int (iZ (i_13 + 1)))] : List (Nat × Value))) (show (m_mostS (gV w 6 0)) i_13 a_13 = m_lesser a_13 (m_trad (gV w 6 0) (w.1 2 i_13)) from (by simp only [m_mostS, gV_1] <;> repeat' (first | with_reducible rfl | omega | split)))) hk_13
