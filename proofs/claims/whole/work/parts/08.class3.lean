set_option maxHeartbeats 4000000 in
set_option maxRecDepth 100000 in
theorem c_X0_cutOver (l : Launch) (D : va_G) (ad : Nat → Nat) (cI cZ cL : ClassId) (u : GS) (k lim : Int) (hk : 0 ≤ k ∧ k ≤ 4) (hl : 0 ≤ lim ∧ lim ≤ 300) (hI : BI u) : zMi l D (zT cI cZ cL) yX0_cutOver wsX0_cutOver ({ frames := 2, cells := 0, slots := 0, locals := 45 } : Room) (Bw ad cI u) [.ref (ad 12), .int (iZ k), .int (iZ lim)] (f_cutR u k lim) (Bw ad cI (f_cutU u k lim)) 0 0 := by
  have hB := hI.bd
  have hc0 := hI.1
  have hc6 := hI.2.1
  refine z_mi (cc := cX0_cutOver) (maxL := 8) (ret := (some .boolean)) (by decide) rfl (Nat.le_of_ble_eq_true rfl) ?_
  intro p e s m below meth c A X hr hlk hin
  have hiX0 : ∀ w ∈ wsX00, w ∈ wsX0_cutOver := by decide +kernel
  refine z_sub (lv' := [(0, .ref (ad 12)), (1, .int (iZ k)), (2, .int (iZ lim))]) [0, 1, 2] rfl ?_
  refine z_aload_n X 0 rfl dX0_cutOver_0 ?_
  refine z_iload_n X 1 rfl dX0_cutOver_1 ?_
  refine z_calli X (c_X0_flowOver l D ad cI cZ cL u k ⟨by omega, by omega⟩ hI) (cwV 1 X.2.2.2.2.1 gX0_cutOver_X0_flowOver rfl rfl rfl (by decide +kernel) ⟨Nat.le_of_ble_eq_true rfl, Nat.le_of_ble_eq_true rfl⟩) rfl [] [] (List.append_nil _).symm 0 0 rfl rfl [] rfl (Nat.le_of_ble_eq_true rfl) dX0_cutOver_2 ⟨Nat.le_of_ble_eq_true rfl, Nat.le_of_ble_eq_true rfl⟩ (List.append_nil _) ?_
  have r_1 := f_flow_bi u k hI
  refine z_istore_n X [1, 2, 3, 0] [(0, .ref (ad 12)), (1, .int (iZ k)), (2, .int (iZ lim)), (3, .int (iZ (f_flow u k)))] rfl (Nat.le_of_ble_eq_true rfl) dX0_cutOver_5 ?_
  refine z_iload_n X 3 rfl dX0_cutOver_6 ?_
  refine z_abs X ⟨by omega, by omega⟩ (by decide +kernel) (by decide +kernel) (by decide +kernel) (by decide +kernel) ⟨Nat.le_of_ble_eq_true rfl, Nat.le_of_ble_eq_true rfl, Nat.le_of_ble_eq_true rfl, Nat.le_of_ble_eq_true rfl⟩ dX0_cutOver_7 ?_
  have m_2 := zabs_sp (f_flow u k)
  refine z_iload_n X 2 rfl dX0_cutOver_10 ?_
  refine z_isub X dX0_cutOver_11 ?_
  refine z_istore X [1, 2, 3, 4, 0] [(0, .ref (ad 12)), (1, .int (iZ k)), (2, .int (iZ lim)), (3, .int (iZ (f_flow u k))), (4, .int (iZ ((zabs (f_flow u k)) - lim)))] rfl (Nat.le_of_ble_eq_true rfl) dX0_cutOver_12 ?_
  refine z_iload X 4 rfl dX0_cutOver_14 ?_
  refine z_if_gt (tgt := 21) X ⟨by omega, by omega⟩ (by decide) dX0_cutOver_16 (fun c_3 => ?_) (fun c_3 => ?_)
  · skip
    refine z_iload_n X 3 rfl dX0_cutOver_21 ?_
    refine z_if_le (tgt := 29) X ⟨by omega, by omega⟩ (by decide) dX0_cutOver_22 (fun c_4 => ?_) (fun c_4 => ?_)
    · skip
      refine z_iconst X dX0_cutOver_29 ?_
      refine z_istore X [1, 2, 3, 4, 5, 0] [(0, .ref (ad 12)), (1, .int (iZ k)), (2, .int (iZ lim)), (3, .int (iZ (f_flow u k))), (4, .int (iZ ((zabs (f_flow u k)) - lim))), (5, .int (iZ (-1)))] rfl (Nat.le_of_ble_eq_true rfl) dX0_cutOver_30 ?_
      refine z_aload_n X 0 rfl dX0_cutOver_32 ?_
      refine z_get (v := .int (iZ (u.2 5))) X 0 0 5 hiX0 rfl rfl (by decide) ⟨rfl, rfl, rfl⟩ (by decide +kernel) rfl dX0_cutOver_33 ?_
      refine z_iconst X dX0_cutOver_36 ?_
      refine z_isub X dX0_cutOver_37 ?_
      refine z_istore X [1, 2, 3, 4, 5, 6, 0] [(0, .ref (ad 12)), (1, .int (iZ k)), (2, .int (iZ lim)), (3, .int (iZ (f_flow u k))), (4, .int (iZ ((zabs (f_flow u k)) - lim))), (5, .int (iZ (-1))), (6, .int (iZ ((u.2 5) - 1)))] rfl (Nat.le_of_ble_eq_true rfl) dX0_cutOver_38 ?_
      refine z_sub (lv' := [(0, .ref (ad 12)), (1, .int (iZ k)), (4, .int (iZ ((zabs (f_flow u k)) - lim))), (5, .int (iZ (-1))), (6, .int (iZ ((u.2 5) - 1)))]) [0, 1, 4, 5, 6] rfl ?_
      suffices H_40 : ∀ (n_40 : Nat) (v_40 : GS) (ab_40 : Int) (i_40 : Int), (((n_40 : Nat) : Int) ≤ 6 ∧ i_40 = ((n_40 : Nat) : Int) - 1 ∧ BI v_40 ∧ -10000 ≤ ab_40 ∧ ab_40 ≤ 10000) → (f_cutL k (-1) n_40 ab_40 v_40 = f_cutU u k lim) → zW p l e ({ frames := 2, cells := 0, slots := 0, locals := 45 } : Room) s m ([.ref (ad 12), .int (iZ k), .int (iZ lim)] : List Value).toArray below meth c 8 D A 0 0 (MQ below (zPi D (zT cI cZ cL) (Bw ad cI (f_cutU u k lim)) (f_cutR u k lim) A) ([.ref (ad 12), .int (iZ k), .int (iZ lim)] : List Value).toArray s 0 0 A) (Bw ad cI v_40) 40 [(0, .ref (ad 12)), (1, .int (iZ k)), (4, .int (iZ ab_40)), (5, .int (iZ (-1))), (6, .int (iZ i_40))] [] from H_40 ((u.2 5).toNat) u ((zabs (f_flow u k)) - lim) ((u.2 5) - 1) ⟨by omega, by omega, hI, by omega, by omega⟩ (by simp only [f_cutU] <;> repeat' (first | with_reducible rfl | omega | split))
      intro n_40
      induction n_40 with
      | zero =>
        intro v_40 ab_40 i_40 hI_40 hF_40
        have hbi_40 := hI_40.2.2.1
        have hB_40 := hbi_40.bd
        have hi_40 := hI_40.2.1
        have hj_40 := hI_40.1
        have hab_40 := hI_40.2.2.2
        have hu_40 := hbi_40.2.2 i_40
        refine z_iload X 4 rfl dX0_cutOver_40 ?_
        refine z_if_lt (tgt := 124) X ⟨by omega, by omega⟩ (by decide) dX0_cutOver_42 (fun c_5 => ?_) (fun c_5 => ?_)
        · skip
          refine z_iconst X dX0_cutOver_124 ?_
          exact z_zret X hr hlk (by omega) (by simp only [f_cutR] <;> repeat' (first | with_reducible rfl | omega | split)) (congrArg (Bw ad cI) (show v_40 = f_cutU u k lim from hF_40)) dX0_cutOver_125
        · exact absurd c_5 (by omega)
      | succ n_40 ih_40 =>
        intro v_40 ab_40 i_40 hI_40 hF_40
        have hbi_40 := hI_40.2.2.1
        have hB_40 := hbi_40.bd
        have hi_40 := hI_40.2.1
        have hj_40 := hI_40.1
        have hab_40 := hI_40.2.2.2
        have hu_40 := hbi_40.2.2 i_40
        refine z_iload X 4 rfl dX0_cutOver_40 ?_
        refine z_if_lt (tgt := 124) X ⟨by omega, by omega⟩ (by decide) dX0_cutOver_42 (fun c_6 => ?_) (fun c_6 => ?_)
        · exact absurd c_6 (by omega)
        · skip
          refine z_iload X 2 rfl dX0_cutOver_45 ?_
          refine z_if_le (tgt := 124) X ⟨by omega, by omega⟩ (by decide) dX0_cutOver_47 (fun c_7 => ?_) (fun c_7 => ?_)
          · skip
            refine z_iconst X dX0_cutOver_124 ?_
            exact z_zret X hr hlk (by omega) (by simp only [f_cutR] <;> repeat' (first | with_reducible rfl | omega | split)) (congrArg (Bw ad cI) (show v_40 = f_cutU u k lim from by have hi9 : i_40 = ((n_40 : Nat) : Int) := (by omega); subst hi9; rw [← hF_40]; simp only [f_cutL] <;> repeat' (first | with_reducible rfl | omega | split))) dX0_cutOver_125
          · skip
            refine z_aload_n X 0 rfl dX0_cutOver_50 ?_
            refine z_get (v := .ref (ad 13)) X 0 0 0 hiX0 rfl rfl (by decide) ⟨rfl, rfl, rfl⟩ (by decide +kernel) rfl dX0_cutOver_51 ?_
            refine z_iload X 4 rfl dX0_cutOver_54 ?_
            refine z_iald (g := v_40.1 11) X 1 0 rfl rfl (by omega) (by omega) ⟨by omega, by omega⟩ dX0_cutOver_56 ?_
            have b_8 := hB_40 11 rfl i_40
            refine z_aload_n X 0 rfl dX0_cutOver_57 ?_
            refine z_get (v := .ref (ad 14)) X 0 0 1 hiX0 rfl rfl (by decide) ⟨rfl, rfl, rfl⟩ (by decide +kernel) rfl dX0_cutOver_58 ?_
            refine z_iload X 4 rfl dX0_cutOver_61 ?_
            refine z_iald (g := v_40.1 12) X 2 0 rfl rfl (by omega) (by omega) ⟨by omega, by omega⟩ dX0_cutOver_63 ?_
            have b_9 := hB_40 12 rfl i_40
            refine z_iload_n X 1 rfl dX0_cutOver_64 ?_
            refine z_callis X (c_X0_direction l D ad cI cZ cL (v_40.1 11 i_40) (v_40.1 12 i_40) k ⟨by omega, by omega⟩ ⟨by omega, by omega⟩ ⟨by omega, by omega⟩) (va_cwS 3 X.2.2.2.2.1 gX0_cutOver_X0_direction rfl rfl rfl (by decide +kernel) ⟨Nat.le_of_ble_eq_true rfl, Nat.le_of_ble_eq_true rfl⟩) rfl [] (Bw ad cI v_40) rfl [] rfl (Nat.le_of_ble_eq_true rfl) dX0_cutOver_65 ⟨Nat.le_of_ble_eq_true rfl, Nat.le_of_ble_eq_true rfl⟩ rfl ?_
            have r_10 := f_dir_rg (v_40.1 11 i_40) (v_40.1 12 i_40) k
            refine z_iload X 3 rfl dX0_cutOver_68 ?_
            refine z_icmp_ne (tgt := 118) X ⟨by omega, by omega⟩ ⟨by omega, by omega⟩ (by decide) dX0_cutOver_70 (fun c_11 => ?_) (fun c_11 => ?_)
            · skip
              refine z_iinc X 4 [1, 2, 3, 4, 0] [(0, .ref (ad 12)), (1, .int (iZ k)), (4, .int (iZ ab_40)), (5, .int (iZ (-1))), (6, .int (iZ (i_40 + (-1))))] rfl rfl (Nat.le_of_ble_eq_true rfl) dX0_cutOver_118 ?_
              refine z_goto (tgt := 40) X (by decide) dX0_cutOver_121 ?_
              exact ih_40 v_40 ab_40 (i_40 + (-1)) ⟨by omega, by omega, hbi_40, by omega, by omega⟩ (by have hi9 : i_40 = ((n_40 : Nat) : Int) := (by omega); subst hi9; rw [← hF_40]; simp only [f_cutL] <;> repeat' (first | with_reducible rfl | omega | split))
            · skip
              refine z_aload_n X 0 rfl dX0_cutOver_73 ?_
              refine z_get (v := .ref (ad 15)) X 0 0 2 hiX0 rfl rfl (by decide) ⟨rfl, rfl, rfl⟩ (by decide +kernel) rfl dX0_cutOver_74 ?_
              refine z_iload X 4 rfl dX0_cutOver_77 ?_
              refine z_iald (g := v_40.1 13) X 3 0 rfl rfl (by omega) (by omega) ⟨by omega, by omega⟩ dX0_cutOver_79 ?_
              have b_12 := hB_40 13 rfl i_40
              refine z_iload X 2 rfl dX0_cutOver_80 ?_
              refine z_min X ⟨by omega, by omega⟩ ⟨by omega, by omega⟩ (by decide +kernel) (by decide +kernel) (by decide +kernel) (by decide +kernel) ⟨Nat.le_of_ble_eq_true rfl, Nat.le_of_ble_eq_true rfl, Nat.le_of_ble_eq_true rfl, Nat.le_of_ble_eq_true rfl⟩ dX0_cutOver_82 ?_
              have m_13 := zmin_sp (v_40.1 13 i_40) ab_40
              refine z_istore X [1, 2, 3, 4, 5, 0] [(0, .ref (ad 12)), (1, .int (iZ k)), (4, .int (iZ ab_40)), (5, .int (iZ (-1))), (6, .int (iZ i_40)), (7, .int (iZ (zmin (v_40.1 13 i_40) ab_40)))] rfl (Nat.le_of_ble_eq_true rfl) dX0_cutOver_85 ?_
              refine z_aload_n X 0 rfl dX0_cutOver_87 ?_
              refine z_get (v := .ref (ad 15)) X 0 0 2 hiX0 rfl rfl (by decide) ⟨rfl, rfl, rfl⟩ (by decide +kernel) rfl dX0_cutOver_88 ?_
              refine z_iload X 4 rfl dX0_cutOver_91 ?_
              refine z_dup2 X rfl rfl dX0_cutOver_93 ?_
              refine z_iald (g := v_40.1 13) X 3 0 rfl rfl (by omega) (by omega) ⟨by omega, by omega⟩ dX0_cutOver_94 ?_
              refine z_iload X 5 rfl dX0_cutOver_95 ?_
              refine z_isub X dX0_cutOver_97 ?_
              refine z_iast (g := v_40.1 13) X 3 0 (Bw ad cI (gA v_40 13 i_40 ((v_40.1 13 i_40) - (zmin (v_40.1 13 i_40) ab_40)))) rfl rfl (by omega) (by omega) ⟨by omega, by omega⟩ rfl dX0_cutOver_98 ?_
              refine z_aload_n X 0 rfl dX0_cutOver_99 ?_
              refine z_get (v := .ref (ad 16)) X 0 0 3 hiX0 rfl rfl (by decide) ⟨rfl, rfl, rfl⟩ (by decide +kernel) rfl dX0_cutOver_100 ?_
              refine z_iload X 4 rfl dX0_cutOver_103 ?_
              refine z_dup2 X rfl rfl dX0_cutOver_105 ?_
              refine z_iald (g := v_40.1 14) X 4 0 rfl rfl (by omega) (by omega) ⟨by omega, by omega⟩ dX0_cutOver_106 ?_
              have b_14 := hB_40 14 rfl i_40
              refine z_iload X 5 rfl dX0_cutOver_107 ?_
              refine z_iadd X dX0_cutOver_109 ?_
              refine z_iast (g := v_40.1 14) X 4 0 (Bw ad cI (gA (gA v_40 13 i_40 ((v_40.1 13 i_40) - (zmin (v_40.1 13 i_40) ab_40))) 14 i_40 ((v_40.1 14 i_40) + (zmin (v_40.1 13 i_40) ab_40)))) rfl rfl (by omega) (by omega) ⟨by omega, by omega⟩ rfl dX0_cutOver_110 ?_
              refine z_iload X 2 rfl dX0_cutOver_111 ?_
              refine z_iload X 5 rfl dX0_cutOver_113 ?_
              refine z_isub X dX0_cutOver_115 ?_
              refine z_istore X [1, 2, 0, 3, 4, 5] [(0, .ref (ad 12)), (1, .int (iZ k)), (4, .int (iZ (ab_40 - (zmin (v_40.1 13 i_40) ab_40)))), (5, .int (iZ (-1))), (6, .int (iZ i_40)), (7, .int (iZ (zmin (v_40.1 13 i_40) ab_40)))] rfl (Nat.le_of_ble_eq_true rfl) dX0_cutOver_116 ?_
              refine z_iinc X 4 [1, 2, 3, 4, 0, 5] [(0, .ref (ad 12)), (1, .int (iZ k)), (4, .int (iZ (ab_40 - (zmin (v_40.1 13 i_40) ab_40)))), (5, .int (iZ (-1))), (6, .int (iZ (i_40 + (-1)))), (7, .int (iZ (zmin (v_40.1 13 i_40) ab_40)))] rfl rfl (Nat.le_of_ble_eq_true rfl) dX0_cutOver_118 ?_
              refine z_goto (tgt := 40) X (by decide) dX0_cutOver_121 ?_
              refine z_sub (lv' := [(0, .ref (ad 12)), (1, .int (iZ k)), (4, .int (iZ (ab_40 - (zmin (v_40.1 13 i_40) ab_40)))), (5, .int (iZ (-1))), (6, .int (iZ (i_40 + (-1))))]) [0, 1, 2, 3, 4] rfl ?_
              exact ih_40 (gA (gA v_40 13 i_40 ((v_40.1 13 i_40) - (zmin (v_40.1 13 i_40) ab_40))) 14 i_40 ((v_40.1 14 i_40) + (zmin (v_40.1 13 i_40) ab_40))) (ab_40 - (zmin (v_40.1 13 i_40) ab_40)) (i_40 + (-1)) ⟨by omega, by omega, (BI_cut hbi_40 (by omega) (by omega)), by omega, by omega⟩ (by have hi9 : i_40 = ((n_40 : Nat) : Int) := (by omega); subst hi9; rw [← hF_40]; simp only [f_cutL] <;> repeat' (first | with_reducible rfl | omega | split))
    · skip
      refine z_iconst X dX0_cutOver_25 ?_
      refine z_goto (tgt := 30) X (by decide) dX0_cutOver_26 ?_
      refine z_istore X [1, 2, 3, 4, 5, 0] [(0, .ref (ad 12)), (1, .int (iZ k)), (2, .int (iZ lim)), (3, .int (iZ (f_flow u k))), (4, .int (iZ ((zabs (f_flow u k)) - lim))), (5, .int (iZ 1))] rfl (Nat.le_of_ble_eq_true rfl) dX0_cutOver_30 ?_
      refine z_aload_n X 0 rfl dX0_cutOver_32 ?_
      refine z_get (v := .int (iZ (u.2 5))) X 0 0 5 hiX0 rfl rfl (by decide) ⟨rfl, rfl, rfl⟩ (by decide +kernel) rfl dX0_cutOver_33 ?_
      refine z_iconst X dX0_cutOver_36 ?_
      refine z_isub X dX0_cutOver_37 ?_
      refine z_istore X [1, 2, 3, 4, 5, 6, 0] [(0, .ref (ad 12)), (1, .int (iZ k)), (2, .int (iZ lim)), (3, .int (iZ (f_flow u k))), (4, .int (iZ ((zabs (f_flow u k)) - lim))), (5, .int (iZ 1)), (6, .int (iZ ((u.2 5) - 1)))] rfl (Nat.le_of_ble_eq_true rfl) dX0_cutOver_38 ?_
      refine z_sub (lv' := [(0, .ref (ad 12)), (1, .int (iZ k)), (4, .int (iZ ((zabs (f_flow u k)) - lim))), (5, .int (iZ 1)), (6, .int (iZ ((u.2 5) - 1)))]) [0, 1, 4, 5, 6] rfl ?_
      suffices H_40 : ∀ (n_40 : Nat) (v_40 : GS) (ab_40 : Int) (i_40 : Int), (((n_40 : Nat) : Int) ≤ 6 ∧ i_40 = ((n_40 : Nat) : Int) - 1 ∧ BI v_40 ∧ -10000 ≤ ab_40 ∧ ab_40 ≤ 10000) → (f_cutL k 1 n_40 ab_40 v_40 = f_cutU u k lim) → zW p l e ({ frames := 2, cells := 0, slots := 0, locals := 45 } : Room) s m ([.ref (ad 12), .int (iZ k), .int (iZ lim)] : List Value).toArray below meth c 8 D A 0 0 (MQ below (zPi D (zT cI cZ cL) (Bw ad cI (f_cutU u k lim)) (f_cutR u k lim) A) ([.ref (ad 12), .int (iZ k), .int (iZ lim)] : List Value).toArray s 0 0 A) (Bw ad cI v_40) 40 [(0, .ref (ad 12)), (1, .int (iZ k)), (4, .int (iZ ab_40)), (5, .int (iZ 1)), (6, .int (iZ i_40))] [] from H_40 ((u.2 5).toNat) u ((zabs (f_flow u k)) - lim) ((u.2 5) - 1) ⟨by omega, by omega, hI, by omega, by omega⟩ (by simp only [f_cutU] <;> repeat' (first | with_reducible rfl | omega | split))
      intro n_40
      induction n_40 with
      | zero =>
        intro v_40 ab_40 i_40 hI_40 hF_40
        have hbi_40 := hI_40.2.2.1
        have hB_40 := hbi_40.bd
        have hi_40 := hI_40.2.1
        have hj_40 := hI_40.1
        have hab_40 := hI_40.2.2.2
        have hu_40 := hbi_40.2.2 i_40
        refine z_iload X 4 rfl dX0_cutOver_40 ?_
        refine z_if_lt (tgt := 124) X ⟨by omega, by omega⟩ (by decide) dX0_cutOver_42 (fun c_15 => ?_) (fun c_15 => ?_)
        · skip
          refine z_iconst X dX0_cutOver_124 ?_
          exact z_zret X hr hlk (by omega) (by simp only [f_cutR] <;> repeat' (first | with_reducible rfl | omega | split)) (congrArg (Bw ad cI) (show v_40 = f_cutU u k lim from hF_40)) dX0_cutOver_125
        · exact absurd c_15 (by omega)
      | succ n_40 ih_40 =>
        intro v_40 ab_40 i_40 hI_40 hF_40
        have hbi_40 := hI_40.2.2.1
        have hB_40 := hbi_40.bd
        have hi_40 := hI_40.2.1
        have hj_40 := hI_40.1
        have hab_40 := hI_40.2.2.2
        have hu_40 := hbi_40.2.2 i_40
        refine z_iload X 4 rfl dX0_cutOver_40 ?_
        refine z_if_lt (tgt := 124) X ⟨by omega, by omega⟩ (by decide) dX0_cutOver_42 (fun c_16 => ?_) (fun c_16 => ?_)
        · exact absurd c_16 (by omega)
        · skip
          refine z_iload X 2 rfl dX0_cutOver_45 ?_
          refine z_if_le (tgt := 124) X ⟨by omega, by omega⟩ (by decide) dX0_cutOver_47 (fun c_17 => ?_) (fun c_17 => ?_)
          · skip
            refine z_iconst X dX0_cutOver_124 ?_
            exact z_zret X hr hlk (by omega) (by simp only [f_cutR] <;> repeat' (first | with_reducible rfl | omega | split)) (congrArg (Bw ad cI) (show v_40 = f_cutU u k lim from by have hi9 : i_40 = ((n_40 : Nat) : Int) := (by omega); subst hi9; rw [← hF_40]; simp only [f_cutL] <;> repeat' (first | with_reducible rfl | omega | split))) dX0_cutOver_125
          · skip
            refine z_aload_n X 0 rfl dX0_cutOver_50 ?_
            refine z_get (v := .ref (ad 13)) X 0 0 0 hiX0 rfl rfl (by decide) ⟨rfl, rfl, rfl⟩ (by decide +kernel) rfl dX0_cutOver_51 ?_
            refine z_iload X 4 rfl dX0_cutOver_54 ?_
            refine z_iald (g := v_40.1 11) X 1 0 rfl rfl (by omega) (by omega) ⟨by omega, by omega⟩ dX0_cutOver_56 ?_
            have b_18 := hB_40 11 rfl i_40
            refine z_aload_n X 0 rfl dX0_cutOver_57 ?_
            refine z_get (v := .ref (ad 14)) X 0 0 1 hiX0 rfl rfl (by decide) ⟨rfl, rfl, rfl⟩ (by decide +kernel) rfl dX0_cutOver_58 ?_
            refine z_iload X 4 rfl dX0_cutOver_61 ?_
            refine z_iald (g := v_40.1 12) X 2 0 rfl rfl (by omega) (by omega) ⟨by omega, by omega⟩ dX0_cutOver_63 ?_
            have b_19 := hB_40 12 rfl i_40
            refine z_iload_n X 1 rfl dX0_cutOver_64 ?_
            refine z_callis X (c_X0_direction l D ad cI cZ cL (v_40.1 11 i_40) (v_40.1 12 i_40) k ⟨by omega, by omega⟩ ⟨by omega, by omega⟩ ⟨by omega, by omega⟩) (va_cwS 3 X.2.2.2.2.1 gX0_cutOver_X0_direction rfl rfl rfl (by decide +kernel) ⟨Nat.le_of_ble_eq_true rfl, Nat.le_of_ble_eq_true rfl⟩) rfl [] (Bw ad cI v_40) rfl [] rfl (Nat.le_of_ble_eq_true rfl) dX0_cutOver_65 ⟨Nat.le_of_ble_eq_true rfl, Nat.le_of_ble_eq_true rfl⟩ rfl ?_
            have r_20 := f_dir_rg (v_40.1 11 i_40) (v_40.1 12 i_40) k
            refine z_iload X 3 rfl dX0_cutOver_68 ?_
            refine z_icmp_ne (tgt := 118) X ⟨by omega, by omega⟩ ⟨by omega, by omega⟩ (by decide) dX0_cutOver_70 (fun c_21 => ?_) (fun c_21 => ?_)
            · skip
              refine z_iinc X 4 [1, 2, 3, 4, 0] [(0, .ref (ad 12)), (1, .int (iZ k)), (4, .int (iZ ab_40)), (5, .int (iZ 1)), (6, .int (iZ (i_40 + (-1))))] rfl rfl (Nat.le_of_ble_eq_true rfl) dX0_cutOver_118 ?_
              refine z_goto (tgt := 40) X (by decide) dX0_cutOver_121 ?_
              exact ih_40 v_40 ab_40 (i_40 + (-1)) ⟨by omega, by omega, hbi_40, by omega, by omega⟩ (by have hi9 : i_40 = ((n_40 : Nat) : Int) := (by omega); subst hi9; rw [← hF_40]; simp only [f_cutL] <;> repeat' (first | with_reducible rfl | omega | split))
            · skip
              refine z_aload_n X 0 rfl dX0_cutOver_73 ?_
              refine z_get (v := .ref (ad 15)) X 0 0 2 hiX0 rfl rfl (by decide) ⟨rfl, rfl, rfl⟩ (by decide +kernel) rfl dX0_cutOver_74 ?_
              refine z_iload X 4 rfl dX0_cutOver_77 ?_
              refine z_iald (g := v_40.1 13) X 3 0 rfl rfl (by omega) (by omega) ⟨by omega, by omega⟩ dX0_cutOver_79 ?_
              have b_22 := hB_40 13 rfl i_40
              refine z_iload X 2 rfl dX0_cutOver_80 ?_
              refine z_min X ⟨by omega, by omega⟩ ⟨by omega, by omega⟩ (by decide +kernel) (by decide +kernel) (by decide +kernel) (by decide +kernel) ⟨Nat.le_of_ble_eq_true rfl, Nat.le_of_ble_eq_true rfl, Nat.le_of_ble_eq_true rfl, Nat.le_of_ble_eq_true rfl⟩ dX0_cutOver_82 ?_
              have m_23 := zmin_sp (v_40.1 13 i_40) ab_40
              refine z_istore X [1, 2, 3, 4, 5, 0] [(0, .ref (ad 12)), (1, .int (iZ k)), (4, .int (iZ ab_40)), (5, .int (iZ 1)), (6, .int (iZ i_40)), (7, .int (iZ (zmin (v_40.1 13 i_40) ab_40)))] rfl (Nat.le_of_ble_eq_true rfl) dX0_cutOver_85 ?_
              refine z_aload_n X 0 rfl dX0_cutOver_87 ?_
              refine z_get (v := .ref (ad 15)) X 0 0 2 hiX0 rfl rfl (by decide) ⟨rfl, rfl, rfl⟩ (by decide +kernel) rfl dX0_cutOver_88 ?_
              refine z_iload X 4 rfl dX0_cutOver_91 ?_
              refine z_dup2 X rfl rfl dX0_cutOver_93 ?_
              refine z_iald (g := v_40.1 13) X 3 0 rfl rfl (by omega) (by omega) ⟨by omega, by omega⟩ dX0_cutOver_94 ?_
              refine z_iload X 5 rfl dX0_cutOver_95 ?_
              refine z_isub X dX0_cutOver_97 ?_
              refine z_iast (g := v_40.1 13) X 3 0 (Bw ad cI (gA v_40 13 i_40 ((v_40.1 13 i_40) - (zmin (v_40.1 13 i_40) ab_40)))) rfl rfl (by omega) (by omega) ⟨by omega, by omega⟩ rfl dX0_cutOver_98 ?_
              refine z_aload_n X 0 rfl dX0_cutOver_99 ?_
              refine z_get (v := .ref (ad 16)) X 0 0 3 hiX0 rfl rfl (by decide) ⟨rfl, rfl, rfl⟩ (by decide +kernel) rfl dX0_cutOver_100 ?_
              refine z_iload X 4 rfl dX0_cutOver_103 ?_
              refine z_dup2 X rfl rfl dX0_cutOver_105 ?_
              refine z_iald (g := v_40.1 14) X 4 0 rfl rfl (by omega) (by omega) ⟨by omega, by omega⟩ dX0_cutOver_106 ?_
              have b_24 := hB_40 14 rfl i_40
              refine z_iload X 5 rfl dX0_cutOver_107 ?_
              refine z_iadd X dX0_cutOver_109 ?_
              refine z_iast (g := v_40.1 14) X 4 0 (Bw ad cI (gA (gA v_40 13 i_40 ((v_40.1 13 i_40) - (zmin (v_40.1 13 i_40) ab_40))) 14 i_40 ((v_40.1 14 i_40) + (zmin (v_40.1 13 i_40) ab_40)))) rfl rfl (by omega) (by omega) ⟨by omega, by omega⟩ rfl dX0_cutOver_110 ?_
              refine z_iload X 2 rfl dX0_cutOver_111 ?_
              refine z_iload X 5 rfl dX0_cutOver_113 ?_
              refine z_isub X dX0_cutOver_115 ?_
              refine z_istore X [1, 2, 0, 3, 4, 5] [(0, .ref (ad 12)), (1, .int (iZ k)), (4, .int (iZ (ab_40 - (zmin (v_40.1 13 i_40) ab_40)))), (5, .int (iZ 1)), (6, .int (iZ i_40)), (7, .int (iZ (zmin (v_40.1 13 i_40) ab_40)))] rfl (Nat.le_of_ble_eq_true rfl) dX0_cutOver_116 ?_
              refine z_iinc X 4 [1, 2, 3, 4, 0, 5] [(0, .ref (ad 12)), (1, .int (iZ k)), (4, .int (iZ (ab_40 - (zmin (v_40.1 13 i_40) ab_40)))), (5, .int (iZ 1)), (6, .int (iZ (i_40 + (-1)))), (7, .int (iZ (zmin (v_40.1 13 i_40) ab_40)))] rfl rfl (Nat.le_of_ble_eq_true rfl) dX0_cutOver_118 ?_
              refine z_goto (tgt := 40) X (by decide) dX0_cutOver_121 ?_
              refine z_sub (lv' := [(0, .ref (ad 12)), (1, .int (iZ k)), (4, .int (iZ (ab_40 - (zmin (v_40.1 13 i_40) ab_40)))), (5, .int (iZ 1)), (6, .int (iZ (i_40 + (-1))))]) [0, 1, 2, 3, 4] rfl ?_
              exact ih_40 (gA (gA v_40 13 i_40 ((v_40.1 13 i_40) - (zmin (v_40.1 13 i_40) ab_40))) 14 i_40 ((v_40.1 14 i_40) + (zmin (v_40.1 13 i_40) ab_40))) (ab_40 - (zmin (v_40.1 13 i_40) ab_40)) (i_40 + (-1)) ⟨by omega, by omega, (BI_cut hbi_40 (by omega) (by omega)), by omega, by omega⟩ (by have hi9 : i_40 = ((n_40 : Nat) : Int) := (by omega); subst hi9; rw [← hF_40]; simp only [f_cutL] <;> repeat' (first | with_reducible rfl | omega | split))
  · skip
    refine z_iconst X dX0_cutOver_19 ?_
    exact z_zret X hr hlk (by omega) (by simp only [f_cutR] <;> repeat' (first | with_reducible rfl | omega | split)) (congrArg (Bw ad cI) (show u = f_cutU u k lim from by simp only [f_cutU] <;> repeat' (first | with_reducible rfl | omega | split))) dX0_cutOver_20
set_option maxHeartbeats 4000000 in
set_option maxRecDepth 100000 in
theorem c_X1_beginClearing (l : Launch) (D : va_G) (ad : Nat → Nat) (cI cZ cL : ClassId) (u : GS) : zMv l D (zT cI cZ cL) yX1_beginClearing wsX1_beginClearing ({ frames := 1, cells := 0, slots := 0, locals := 20 } : Room) (Gw ad cI cZ u) [.ref (ad 0)] (Gw ad cI cZ (f_begin u)) 0 0 := by
  refine z_mv (cc := cX1_beginClearing) (maxL := 2) (ret := none) (by decide) rfl (Nat.le_of_ble_eq_true rfl) ?_
  intro p e s m below meth c A X hr hlk hin
  have hiX1 : ∀ w ∈ wsX10, w ∈ wsX1_beginClearing := by decide +kernel
  refine z_sub (lv' := [(0, .ref (ad 0))]) [0] rfl ?_
  refine z_aload_n X 0 rfl dX1_beginClearing_0 ?_
  refine z_get (v := .ref (ad 12)) X 1 0 11 hiX1 rfl rfl (by decide) ⟨rfl, rfl, rfl⟩ (by decide +kernel) rfl dX1_beginClearing_1 ?_
  refine z_callNv (C := RX0) X (c_X0_empty l D ad cI cZ cL u) ⟨va_cnB 0 X.2.2.2.2.1 gX1_beginClearing_X0_empty_n166 rfl rfl rfl (X.2.2.2.2.2.2.2.1.m166) (X.2.2.2.2.1 _ (by decide +kernel)) (by decide +kernel) ⟨Nat.le_of_ble_eq_true rfl, Nat.le_of_ble_eq_true rfl⟩, X.2.2.2.2.1 _ (by decide +kernel), X.2.2.2.2.1 _ (by decide +kernel)⟩ rfl (Gp ad cI cZ u) [] rfl 0 12 rfl rfl [] rfl (Nat.le_of_ble_eq_true rfl) dX1_beginClearing_4 ⟨Nat.le_of_ble_eq_true rfl, Nat.le_of_ble_eq_true rfl⟩ rfl ?_
  refine z_iconst X dX1_beginClearing_7 ?_
  refine z_istore_n X [1, 0] [(0, .ref (ad 0)), (1, .int (iZ 0))] rfl (Nat.le_of_ble_eq_true rfl) dX1_beginClearing_8 ?_
  refine zfor_ind 6 6 (rfl) (f_beginW) (gV u 5 0) (fun (i_9 : Int) (a_9 : GS) => zW p l e ({ frames := 1, cells := 0, slots := 0, locals := 20 } : Room) s m ([.ref (ad 0)] : List Value).toArray below meth c 2 D A 0 0 (MQ below (zPv D (zT cI cZ cL) (Gw ad cI cZ (f_begin u)) A) ([.ref (ad 0)] : List Value).toArray s 0 0 A) (Gw ad cI cZ a_9) 9 [(0, .ref (ad 0)), (1, .int (iZ i_9))] []) ?_ ?_
  · intro a_9 ha_9
    refine z_iload_n X 1 rfl dX1_beginClearing_9 ?_
    refine z_bipush X (by decide) dX1_beginClearing_10 ?_
    refine z_icmp_ge (tgt := 28) X ⟨by omega, by omega⟩ ⟨by omega, by omega⟩ (by decide) dX1_beginClearing_12 (fun c_1 => ?_) (fun c_1 => ?_)
    · skip
      refine z_iconst X dX1_beginClearing_28 ?_
      refine z_istore_n X [1, 0] [(0, .ref (ad 0)), (1, .int (iZ 0))] rfl (Nat.le_of_ble_eq_true rfl) dX1_beginClearing_29 ?_
      refine zfor_ind 6 6 (rfl) (f_beginL) a_9 (fun (i_30 : Int) (a_30 : GS) => zW p l e ({ frames := 1, cells := 0, slots := 0, locals := 20 } : Room) s m ([.ref (ad 0)] : List Value).toArray below meth c 2 D A 0 0 (MQ below (zPv D (zT cI cZ cL) (Gw ad cI cZ (f_begin u)) A) ([.ref (ad 0)] : List Value).toArray s 0 0 A) (Gw ad cI cZ a_30) 30 [(0, .ref (ad 0)), (1, .int (iZ i_30))] []) ?_ ?_
      · intro a_30 ha_30
        refine z_iload_n X 1 rfl dX1_beginClearing_30 ?_
        refine z_bipush X (by decide) dX1_beginClearing_31 ?_
        refine z_icmp_ge (tgt := 54) X ⟨by omega, by omega⟩ ⟨by omega, by omega⟩ (by decide) dX1_beginClearing_33 (fun c_2 => ?_) (fun c_2 => ?_)
        · skip
          exact z_vret X hr hlk (congrArg (Gw ad cI cZ) (by rw [ha_30, ha_9]; rfl)) dX1_beginClearing_54
        · exact absurd c_2 (by omega)
      · intro i_30 k_30 a_30 hi_30 h0i_30 h1i_30 ha_30 hk_30
        refine z_iload_n X 1 rfl dX1_beginClearing_30 ?_
        refine z_bipush X (by decide) dX1_beginClearing_31 ?_
        refine z_icmp_ge (tgt := 54) X ⟨by omega, by omega⟩ ⟨by omega, by omega⟩ (by decide) dX1_beginClearing_33 (fun c_3 => ?_) (fun c_3 => ?_)
        · exact absurd c_3 (by omega)
        · skip
          refine z_aload_n X 0 rfl dX1_beginClearing_36 ?_
          refine z_get (v := .ref (ad 8)) X 1 0 7 hiX1 rfl rfl (by decide) ⟨rfl, rfl, rfl⟩ (by decide +kernel) rfl dX1_beginClearing_37 ?_
          refine z_iload_n X 1 rfl dX1_beginClearing_40 ?_
          refine z_aload_n X 0 rfl dX1_beginClearing_41 ?_
          refine z_get (v := .ref (ad 3)) X 1 0 2 hiX1 rfl rfl (by decide) ⟨rfl, rfl, rfl⟩ (by decide +kernel) rfl dX1_beginClearing_42 ?_
          refine z_iload_n X 1 rfl dX1_beginClearing_45 ?_
          refine z_iald (g := a_30.1 2) X 3 0 rfl rfl (by omega) (by omega) ⟨by omega, by omega⟩ dX1_beginClearing_46 ?_
          refine z_iast (g := a_30.1 7) X 8 0 (Gw ad cI cZ (gA a_30 7 i_30 (a_30.1 2 i_30))) rfl rfl (by omega) (by omega) ⟨by omega, by omega⟩ rfl dX1_beginClearing_47 ?_
          refine z_iinc X 1 [1, 0] [(0, .ref (ad 0)), (1, .int (iZ (i_30 + 1)))] rfl rfl (Nat.le_of_ble_eq_true rfl) dX1_beginClearing_48 ?_
          refine z_goto (tgt := 30) X (by decide) dX1_beginClearing_51 ?_
          exact z_eq (congrArg (Gw ad cI cZ) (show f_beginL i_30 a_30 = gA a_30 7 i_30 (a_30.1 2 i_30) from rfl)) rfl hk_30
    · exact absurd c_1 (by omega)
  · intro i_9 k_9 a_9 hi_9 h0i_9 h1i_9 ha_9 hk_9
    refine z_iload_n X 1 rfl dX1_beginClearing_9 ?_
    refine z_bipush X (by decide) dX1_beginClearing_10 ?_
    refine z_icmp_ge (tgt := 28) X ⟨by omega, by omega⟩ ⟨by omega, by omega⟩ (by decide) dX1_beginClearing_12 (fun c_4 => ?_) (fun c_4 => ?_)
    · exact absurd c_4 (by omega)
    · skip
      refine z_aload_n X 0 rfl dX1_beginClearing_15 ?_
      refine z_get (v := .ref (ad 11)) X 1 0 10 hiX1 rfl rfl (by decide) ⟨rfl, rfl, rfl⟩ (by decide +kernel) rfl dX1_beginClearing_16 ?_
      refine z_iload_n X 1 rfl dX1_beginClearing_19 ?_
      refine z_iconst X dX1_beginClearing_20 ?_
      refine z_iast (g := a_9.1 10) X 11 0 (Gw ad cI cZ (gA a_9 10 i_9 0)) rfl rfl (by omega) (by omega) ⟨by omega, by omega⟩ rfl dX1_beginClearing_21 ?_
      refine z_iinc X 1 [1, 0] [(0, .ref (ad 0)), (1, .int (iZ (i_9 + 1)))] rfl rfl (Nat.le_of_ble_eq_true rfl) dX1_beginClearing_22 ?_
      refine z_goto (tgt := 9) X (by decide) dX1_beginClearing_25 ?_
      exact z_eq (congrArg (Gw ad cI cZ) (show f_beginW i_9 a_9 = gA a_9 10 i_9 0 from rfl)) rfl hk_9
set_option maxHeartbeats 4000000 in
set_option maxRecDepth 100000 in
theorem c_X1_beginNextQuarter (l : Launch) (D : va_G) (ad : Nat → Nat) (cI cZ cL : ClassId) (u : GS) : zMv l D (zT cI cZ cL) yX1_beginNextQuarter wsX1_beginNextQuarter ({ frames := 0, cells := 0, slots := 0, locals := 0 } : Room) (Gw ad cI cZ u) [.ref (ad 0)] (Gw ad cI cZ (f_next u)) 0 0 := by
  refine z_mv (cc := cX1_beginNextQuarter) (maxL := 2) (ret := none) (by decide) rfl (Nat.le_of_ble_eq_true rfl) ?_
  intro p e s m below meth c A X hr hlk hin
  have hiX1 : ∀ w ∈ wsX10, w ∈ wsX1_beginNextQuarter := by decide +kernel
  refine z_sub (lv' := [(0, .ref (ad 0))]) [0] rfl ?_
  refine z_iconst X dX1_beginNextQuarter_0 ?_
  refine z_istore_n X [1, 0] [(0, .ref (ad 0)), (1, .int (iZ 0))] rfl (Nat.le_of_ble_eq_true rfl) dX1_beginNextQuarter_1 ?_
  refine zfor_ind 6 6 (rfl) (f_nextS) u (fun (i_2 : Int) (a_2 : GS) => zW p l e ({ frames := 0, cells := 0, slots := 0, locals := 0 } : Room) s m ([.ref (ad 0)] : List Value).toArray below meth c 2 D A 0 0 (MQ below (zPv D (zT cI cZ cL) (Gw ad cI cZ (f_next u)) A) ([.ref (ad 0)] : List Value).toArray s 0 0 A) (Gw ad cI cZ a_2) 2 [(0, .ref (ad 0)), (1, .int (iZ i_2))] []) ?_ ?_
  · intro a_2 ha_2
    refine z_iload_n X 1 rfl dX1_beginNextQuarter_2 ?_
    refine z_bipush X (by decide) dX1_beginNextQuarter_3 ?_
    refine z_icmp_ge (tgt := 28) X ⟨by omega, by omega⟩ ⟨by omega, by omega⟩ (by decide) dX1_beginNextQuarter_5 (fun c_1 => ?_) (fun c_1 => ?_)
    · skip
      refine z_aload_n X 0 rfl dX1_beginNextQuarter_28 ?_
      refine z_dup X rfl dX1_beginNextQuarter_29 ?_
      refine z_get (v := .int (iZ (a_2.2 4))) X 1 0 16 hiX1 rfl rfl (by decide) ⟨rfl, rfl, rfl⟩ (by decide +kernel) rfl dX1_beginNextQuarter_30 ?_
      refine z_iconst X dX1_beginNextQuarter_33 ?_
      refine z_iadd X dX1_beginNextQuarter_34 ?_
      refine z_put (v := .int (iZ ((a_2.2 4) + 1))) (ty := .int) X tyX1 1 0 16 (Gw ad cI cZ (gV a_2 4 ((a_2.2 4) + 1))) tyX1_ok nmX1 hiX1 rfl rfl (by decide) ⟨rfl, rfl, rfl, rfl⟩ (by decide +kernel) rfl rfl rfl (Nat.le_of_ble_eq_true rfl) rfl dX1_beginNextQuarter_35 ?_
      exact z_vret X hr hlk (congrArg (Gw ad cI cZ) (by rw [ha_2]; rfl)) dX1_beginNextQuarter_38
    · exact absurd c_1 (by omega)
  · intro i_2 k_2 a_2 hi_2 h0i_2 h1i_2 ha_2 hk_2
    refine z_iload_n X 1 rfl dX1_beginNextQuarter_2 ?_
    refine z_bipush X (by decide) dX1_beginNextQuarter_3 ?_
    refine z_icmp_ge (tgt := 28) X ⟨by omega, by omega⟩ ⟨by omega, by omega⟩ (by decide) dX1_beginNextQuarter_5 (fun c_2 => ?_) (fun c_2 => ?_)
    · exact absurd c_2 (by omega)
    · skip
      refine z_aload_n X 0 rfl dX1_beginNextQuarter_8 ?_
      refine z_get (v := .ref (ad 2)) X 1 0 1 hiX1 rfl rfl (by decide) ⟨rfl, rfl, rfl⟩ (by decide +kernel) rfl dX1_beginNextQuarter_9 ?_
      refine z_iload_n X 1 rfl dX1_beginNextQuarter_12 ?_
      refine z_iconst X dX1_beginNextQuarter_13 ?_
      refine z_iast (g := a_2.1 1) X 2 0 (Gw ad cI cZ (gA a_2 1 i_2 0)) rfl rfl (by omega) (by omega) ⟨by omega, by omega⟩ rfl dX1_beginNextQuarter_14 ?_
      refine z_aload_n X 0 rfl dX1_beginNextQuarter_15 ?_
      refine z_get (v := .ref (ad 3)) X 1 0 2 hiX1 rfl rfl (by decide) ⟨rfl, rfl, rfl⟩ (by decide +kernel) rfl dX1_beginNextQuarter_16 ?_
      refine z_iload_n X 1 rfl dX1_beginNextQuarter_19 ?_
      refine z_iconst X dX1_beginNextQuarter_20 ?_
      refine z_iast (g := a_2.1 2) X 3 0 (Gw ad cI cZ (gA (gA a_2 1 i_2 0) 2 i_2 0)) rfl rfl (by omega) (by omega) ⟨by omega, by omega⟩ rfl dX1_beginNextQuarter_21 ?_
      refine z_iinc X 1 [1, 0] [(0, .ref (ad 0)), (1, .int (iZ (i_2 + 1)))] rfl rfl (Nat.le_of_ble_eq_true rfl) dX1_beginNextQuarter_22 ?_
      refine z_goto (tgt := 2) X (by decide) dX1_beginNextQuarter_25 ?_
      exact z_eq (congrArg (Gw ad cI cZ) (show f_nextS i_2 a_2 = gA (gA a_2 1 i_2 0) 2 i_2 0 from rfl)) rfl hk_2
set_option maxHeartbeats 4000000 in
set_option maxRecDepth 100000 in
theorem c_X1_cutOverLimits (l : Launch) (D : va_G) (ad : Nat → Nat) (cI cZ cL : ClassId) (u : GS) (hI : GI2 u) : zMv l D (zT cI cZ cL) yX1_cutOverLimits wsX1_cutOverLimits ({ frames := 3, cells := 0, slots := 0, locals := 72 } : Room) (Gw ad cI cZ u) [.ref (ad 0)] (Gw ad cI cZ (f_cuts u)) 0 0 := by
  refine z_mv (cc := cX1_cutOverLimits) (maxL := 4) (ret := none) (by decide) rfl (Nat.le_of_ble_eq_true rfl) ?_
  intro p e s m below meth c A X hr hlk hin
  have hiX1 : ∀ w ∈ wsX10, w ∈ wsX1_cutOverLimits := by decide +kernel
  refine z_sub (lv' := [(0, .ref (ad 0))]) [0] rfl ?_
  refine z_iconst X dX1_cutOverLimits_0 ?_
  refine z_istore_n X [1, 0] [(0, .ref (ad 0)), (1, .int (iZ 1))] rfl (Nat.le_of_ble_eq_true rfl) dX1_cutOverLimits_1 ?_
  refine z_iconst X dX1_cutOverLimits_2 ?_
  refine z_istore_n X [1, 2, 0] [(0, .ref (ad 0)), (1, .int (iZ 1)), (2, .int (iZ 0))] rfl (Nat.le_of_ble_eq_true rfl) dX1_cutOverLimits_3 ?_
  suffices H_4 : ∀ (n_4 : Nat) (x_4 : Int) (v_4 : GS) (i_4 : Int), (i_4 = 1000 - ((n_4 : Nat) : Int) ∧ ((n_4 : Nat) : Int) ≤ 1000 ∧ GI2 v_4 ∧ (x_4 = 0 ∨ x_4 = 1)) → (f_cutsL n_4 (x_4, v_4) = f_cuts u) → zW p l e ({ frames := 3, cells := 0, slots := 0, locals := 72 } : Room) s m ([.ref (ad 0)] : List Value).toArray below meth c 4 D A 0 0 (MQ below (zPv D (zT cI cZ cL) (Gw ad cI cZ (f_cuts u)) A) ([.ref (ad 0)] : List Value).toArray s 0 0 A) (Gw ad cI cZ v_4) 4 [(0, .ref (ad 0)), (1, .int (iZ x_4)), (2, .int (iZ i_4))] [] from H_4 1000 1 u 0 ⟨by omega, by omega, hI, by omega⟩ rfl
  intro n_4
  induction n_4 with
  | zero =>
    intro x_4 v_4 i_4 hI_4 hF_4
    have hi_4 := hI_4.1
    have hj_4 := hI_4.2.1
    have hx_4 := hI_4.2.2.2
    refine z_iload_n X 2 rfl dX1_cutOverLimits_4 ?_
    refine z_sipush X (by decide) dX1_cutOverLimits_5 ?_
    refine z_icmp_ge (tgt := 54) X ⟨by omega, by omega⟩ ⟨by omega, by omega⟩ (by decide) dX1_cutOverLimits_8 (fun c_1 => ?_) (fun c_1 => ?_)
    · skip
      exact z_vret X hr hlk (congrArg (Gw ad cI cZ) (show v_4 = f_cuts u from hF_4)) dX1_cutOverLimits_54
    · exact absurd c_1 (by omega)
  | succ n_4 ih_4 =>
    intro x_4 v_4 i_4 hI_4 hF_4
    have hi_4 := hI_4.1
    have hj_4 := hI_4.2.1
    have hx_4 := hI_4.2.2.2
    refine z_iload_n X 2 rfl dX1_cutOverLimits_4 ?_
    refine z_sipush X (by decide) dX1_cutOverLimits_5 ?_
    refine z_icmp_ge (tgt := 54) X ⟨by omega, by omega⟩ ⟨by omega, by omega⟩ (by decide) dX1_cutOverLimits_8 (fun c_2 => ?_) (fun c_2 => ?_)
    · exact absurd c_2 (by omega)
    · skip
      refine z_iload_n X 1 rfl dX1_cutOverLimits_11 ?_
      refine z_if_eq (tgt := 54) X ⟨by omega, by omega⟩ (by decide) dX1_cutOverLimits_12 (fun c_3 => ?_) (fun c_3 => ?_)
      · skip
        exact z_vret X hr hlk (congrArg (Gw ad cI cZ) (show v_4 = f_cuts u from by rw [← hF_4]; simp only [f_cutsL]; rw [if_neg (by omega)])) dX1_cutOverLimits_54
      · skip
        refine z_iconst X dX1_cutOverLimits_15 ?_
        refine z_istore_n X [1, 0, 2] [(0, .ref (ad 0)), (1, .int (iZ 0)), (2, .int (iZ i_4))] rfl (Nat.le_of_ble_eq_true rfl) dX1_cutOverLimits_16 ?_
        refine z_iconst X dX1_cutOverLimits_17 ?_
        refine z_istore_n X [1, 2, 3, 0] [(0, .ref (ad 0)), (1, .int (iZ 0)), (2, .int (iZ i_4)), (3, .int (iZ 4))] rfl (Nat.le_of_ble_eq_true rfl) dX1_cutOverLimits_18 ?_
        suffices H_19 : ∀ (n_19 : Nat) (x_19 : Int) (v_19 : GS) (i_19 : Int), (i_19 = ((n_19 : Nat) : Int) - 1 ∧ ((n_19 : Nat) : Int) ≤ 5 ∧ GI2 v_19 ∧ (x_19 = 0 ∨ x_19 = 1)) → (f_pass n_19 (x_19, v_19) = f_pass 5 (0, v_4)) → zW p l e ({ frames := 3, cells := 0, slots := 0, locals := 72 } : Room) s m ([.ref (ad 0)] : List Value).toArray below meth c 4 D A 0 0 (MQ below (zPv D (zT cI cZ cL) (Gw ad cI cZ (f_cuts u)) A) ([.ref (ad 0)] : List Value).toArray s 0 0 A) (Gw ad cI cZ v_19) 19 [(0, .ref (ad 0)), (1, .int (iZ x_19)), (2, .int (iZ i_4)), (3, .int (iZ i_19))] [] from H_19 5 0 v_4 4 ⟨by omega, by omega, hI_4.2.2.1, by omega⟩ rfl
        intro n_19
        induction n_19 with
        | zero =>
          intro x_19 v_19 i_19 hI_19 hF_19
          have hi_19 := hI_19.1
          have hj_19 := hI_19.2.1
          have hg_19 := hI_19.2.2.1
          have hx_19 := hI_19.2.2.2
          have hB_19 := hg_19.bd
          have hL_19 := hg_19.1.2.2.2.2.1
          refine z_iload_n X 3 rfl dX1_cutOverLimits_19 ?_
          refine z_if_lt (tgt := 48) X ⟨by omega, by omega⟩ (by decide) dX1_cutOverLimits_20 (fun c_4 => ?_) (fun c_4 => ?_)
          · skip
            refine z_iinc X 2 [1, 2, 0, 3] [(0, .ref (ad 0)), (1, .int (iZ x_19)), (2, .int (iZ (i_4 + 1))), (3, .int (iZ i_19))] rfl rfl (Nat.le_of_ble_eq_true rfl) dX1_cutOverLimits_48 ?_
            refine z_goto (tgt := 4) X (by decide) dX1_cutOverLimits_51 ?_
            refine z_sub (lv' := [(0, .ref (ad 0)), (1, .int (iZ x_19)), (2, .int (iZ (i_4 + 1)))]) [0, 1, 2] rfl ?_
            exact ih_4 x_19 v_19 (i_4 + 1) ⟨by omega, by omega, hI_19.2.2.1, by omega⟩ (by rw [← hF_4]; simp only [f_cutsL]; rw [if_pos (by omega), ← hF_19]; rfl)
          · exact absurd c_4 (by omega)
        | succ n_19 ih_19 =>
          intro x_19 v_19 i_19 hI_19 hF_19
          have hi_19 := hI_19.1
          have hj_19 := hI_19.2.1
          have hg_19 := hI_19.2.2.1
          have hx_19 := hI_19.2.2.2
          have hB_19 := hg_19.bd
          have hL_19 := hg_19.1.2.2.2.2.1
          refine z_iload_n X 3 rfl dX1_cutOverLimits_19 ?_
          refine z_if_lt (tgt := 48) X ⟨by omega, by omega⟩ (by decide) dX1_cutOverLimits_20 (fun c_5 => ?_) (fun c_5 => ?_)
          · exact absurd c_5 (by omega)
          · skip
            refine z_aload_n X 0 rfl dX1_cutOverLimits_23 ?_
            refine z_get (v := .ref (ad 12)) X 1 0 11 hiX1 rfl rfl (by decide) ⟨rfl, rfl, rfl⟩ (by decide +kernel) rfl dX1_cutOverLimits_24 ?_
            refine z_iload_n X 3 rfl dX1_cutOverLimits_27 ?_
            refine z_aload_n X 0 rfl dX1_cutOverLimits_28 ?_
            refine z_get (v := .ref (ad 9)) X 1 0 8 hiX1 rfl rfl (by decide) ⟨rfl, rfl, rfl⟩ (by decide +kernel) rfl dX1_cutOverLimits_29 ?_
            refine z_iload_n X 3 rfl dX1_cutOverLimits_32 ?_
            refine z_iald (g := v_19.1 8) X 9 0 rfl rfl (by omega) (by omega) ⟨by omega, by omega⟩ dX1_cutOverLimits_33 ?_
            have b_6 := hB_19 8 rfl i_19
            have b_7 := hL_19 i_19
            refine z_callNi (C := RX0) X (c_X0_cutOver l D ad cI cZ cL v_19 i_19 (v_19.1 8 i_19) ⟨by omega, by omega⟩ ⟨by omega, by omega⟩ hg_19.2.1) ⟨va_cnB 2 X.2.2.2.2.1 gX1_cutOverLimits_X0_cutOver_n186 rfl rfl rfl (X.2.2.2.2.2.2.2.1.m186) (X.2.2.2.2.1 _ (by decide +kernel)) (by decide +kernel) ⟨Nat.le_of_ble_eq_true rfl, Nat.le_of_ble_eq_true rfl⟩, X.2.2.2.2.1 _ (by decide +kernel), X.2.2.2.2.1 _ (by decide +kernel)⟩ rfl (Gp ad cI cZ v_19) [] rfl 0 12 rfl rfl [] rfl (Nat.le_of_ble_eq_true rfl) dX1_cutOverLimits_34 ⟨Nat.le_of_ble_eq_true rfl, Nat.le_of_ble_eq_true rfl⟩ (by rw [Gp_congr (u := v_19) (v := f_cutU v_19 i_19 (v_19.1 8 i_19)) (fun j h => (f_cutU_1 _ _ _ j (by omega) (by omega)).symm) (fun j h => (congrFun (f_cutU_2 _ _ _) j).symm)] <;> rfl) ?_
            have r_8 := f_cutR_rg v_19 i_19 (v_19.1 8 i_19)
            refine z_if_eq (tgt := 42) X ⟨by omega, by omega⟩ (by decide) dX1_cutOverLimits_37 (fun c_9 => ?_) (fun c_9 => ?_)
            · skip
              refine z_iinc X 3 [1, 2, 3, 0] [(0, .ref (ad 0)), (1, .int (iZ x_19)), (2, .int (iZ i_4)), (3, .int (iZ (i_19 + (-1))))] rfl rfl (Nat.le_of_ble_eq_true rfl) dX1_cutOverLimits_42 ?_
              refine z_goto (tgt := 19) X (by decide) dX1_cutOverLimits_45 ?_
              exact ih_19 x_19 (f_cutU v_19 i_19 (v_19.1 8 i_19)) (i_19 + (-1)) ⟨by omega, by omega, GI2_cutU hg_19 _ _, by omega⟩ (by have hi9 : i_19 = ((n_19 : Nat) : Int) := (by omega); subst hi9; rw [← hF_19]; simp only [f_pass] <;> repeat' (first | with_reducible rfl | omega | split))
            · skip
              refine z_iconst X dX1_cutOverLimits_40 ?_
              refine z_istore_n X [1, 0, 2, 3] [(0, .ref (ad 0)), (1, .int (iZ 1)), (2, .int (iZ i_4)), (3, .int (iZ i_19))] rfl (Nat.le_of_ble_eq_true rfl) dX1_cutOverLimits_41 ?_
              refine z_iinc X 3 [1, 2, 3, 0] [(0, .ref (ad 0)), (1, .int (iZ 1)), (2, .int (iZ i_4)), (3, .int (iZ (i_19 + (-1))))] rfl rfl (Nat.le_of_ble_eq_true rfl) dX1_cutOverLimits_42 ?_
              refine z_goto (tgt := 19) X (by decide) dX1_cutOverLimits_45 ?_
              exact ih_19 1 (f_cutU v_19 i_19 (v_19.1 8 i_19)) (i_19 + (-1)) ⟨by omega, by omega, GI2_cutU hg_19 _ _, by omega⟩ (by have hi9 : i_19 = ((n_19 : Nat) : Int) := (by omega); subst hi9; rw [← hF_19]; simp only [f_pass] <;> repeat' (first | with_reducible rfl | omega | split))
set_option maxHeartbeats 4000000 in
set_option maxRecDepth 100000 in
theorem c_X1_countTrades (l : Launch) (D : va_G) (ad : Nat → Nat) (cI cZ cL : ClassId) (u : GS) (hI : GI2 u) : zMv l D (zT cI cZ cL) yX1_countTrades wsX1_countTrades ({ frames := 2, cells := 0, slots := 0, locals := 45 } : Room) (Gw ad cI cZ u) [.ref (ad 0)] (Gw ad cI cZ (f_count u)) 0 0 := by
  have hc0 := hI.2.1.1
  have hc6 := hI.2.1.2.1
  refine z_mv (cc := cX1_countTrades) (maxL := 2) (ret := none) (by decide) rfl (Nat.le_of_ble_eq_true rfl) ?_
  intro p e s m below meth c A X hr hlk hin
  have hiX0 : ∀ w ∈ wsX00, w ∈ wsX1_countTrades := by decide +kernel
  have hiX1 : ∀ w ∈ wsX10, w ∈ wsX1_countTrades := by decide +kernel
  refine z_sub (lv' := [(0, .ref (ad 0))]) [0] rfl ?_
  refine z_iconst X dX1_countTrades_0 ?_
  refine z_istore_n X [1, 0] [(0, .ref (ad 0)), (1, .int (iZ 0))] rfl (Nat.le_of_ble_eq_true rfl) dX1_countTrades_1 ?_
  refine zfor_ind (u.2 5).toNat (u.2 5) (by omega) (f_countS) u (fun (i_2 : Int) (a_2 : GS) => zW p l e ({ frames := 2, cells := 0, slots := 0, locals := 45 } : Room) s m ([.ref (ad 0)] : List Value).toArray below meth c 2 D A 0 0 (MQ below (zPv D (zT cI cZ cL) (Gw ad cI cZ (f_count u)) A) ([.ref (ad 0)] : List Value).toArray s 0 0 A) (Gw ad cI cZ a_2) 2 [(0, .ref (ad 0)), (1, .int (iZ i_2))] []) ?_ ?_
  · intro a_2 ha_2
    have hc_2 : a_2.2 5 = u.2 5 := by rw [ha_2, f_countk_2]
    have hg_2 : GI2 a_2 := GI2_congr (u := u) (fun j q1 q2 q3 q4 => by rw [ha_2]; exact f_countk_1 u _ j q4) hc_2 hI
    have hB_2 := hg_2.bd
    refine z_iload_n X 1 rfl dX1_countTrades_2 ?_
    refine z_aload_n X 0 rfl dX1_countTrades_3 ?_
    refine z_get (v := .ref (ad 12)) X 1 0 11 hiX1 rfl rfl (by decide) ⟨rfl, rfl, rfl⟩ (by decide +kernel) rfl dX1_countTrades_4 ?_
    refine z_getN (v := .int (iZ (a_2.2 5))) X 0 12 5 hiX0 rfl rfl (by decide) ⟨rfl, rfl, rfl⟩ (X.2.2.2.2.2.2.2.1.f136) rfl dX1_countTrades_7 ?_
    refine z_icmp_ge (tgt := 55) X ⟨by omega, by omega⟩ ⟨by omega, by omega⟩ (by decide) dX1_countTrades_10 (fun c_1 => ?_) (fun c_1 => ?_)
    · skip
      refine z_aload_n X 0 rfl dX1_countTrades_55 ?_
      refine z_dup X rfl dX1_countTrades_56 ?_
      refine z_get (v := .int (iZ (a_2.2 2))) X 1 0 14 hiX1 rfl rfl (by decide) ⟨rfl, rfl, rfl⟩ (by decide +kernel) rfl dX1_countTrades_57 ?_
      refine z_aload_n X 0 rfl dX1_countTrades_60 ?_
      refine z_get (v := .ref (ad 11)) X 1 0 10 hiX1 rfl rfl (by decide) ⟨rfl, rfl, rfl⟩ (by decide +kernel) rfl dX1_countTrades_61 ?_
      refine z_iconst X dX1_countTrades_64 ?_
      refine z_iald (g := a_2.1 10) X 11 0 rfl rfl (by omega) (by omega) ⟨by omega, by omega⟩ dX1_countTrades_65 ?_
      refine z_isub X dX1_countTrades_66 ?_
      refine z_put (v := .int (iZ ((a_2.2 2) - (a_2.1 10 1)))) (ty := .int) X tyX1 1 0 14 (Gw ad cI cZ (gV a_2 2 ((a_2.2 2) - (a_2.1 10 1)))) tyX1_ok nmX1 hiX1 rfl rfl (by decide) ⟨rfl, rfl, rfl, rfl⟩ (by decide +kernel) rfl rfl rfl (Nat.le_of_ble_eq_true rfl) rfl dX1_countTrades_67 ?_
      refine z_iconst X dX1_countTrades_70 ?_
      refine z_istore_n X [1, 0] [(0, .ref (ad 0)), (1, .int (iZ 0))] rfl (Nat.le_of_ble_eq_true rfl) dX1_countTrades_71 ?_
      refine zfor_ind 5 5 (rfl) (f_countF) (f_countP a_2) (fun (i_72 : Int) (a_72 : GS) => zW p l e ({ frames := 2, cells := 0, slots := 0, locals := 45 } : Room) s m ([.ref (ad 0)] : List Value).toArray below meth c 2 D A 0 0 (MQ below (zPv D (zT cI cZ cL) (Gw ad cI cZ (f_count u)) A) ([.ref (ad 0)] : List Value).toArray s 0 0 A) (Gw ad cI cZ a_72) 72 [(0, .ref (ad 0)), (1, .int (iZ i_72))] []) ?_ ?_
      · intro a_72 ha_72
        have hb_72 : BI a_72 := BI_congr (u := u) (fun j q1 q2 => by rw [ha_72, f_countFk_1 _ _ j (by omega)]; show a_2.1 j = u.1 j; rw [ha_2]; exact f_countk_1 u _ j (by omega)) (by rw [ha_72, f_countFk_2]; exact hc_2) hI.2.1
        refine z_iload_n X 1 rfl dX1_countTrades_72 ?_
        refine z_iconst X dX1_countTrades_73 ?_
        refine z_icmp_ge (tgt := 97) X ⟨by omega, by omega⟩ ⟨by omega, by omega⟩ (by decide) dX1_countTrades_74 (fun c_2 => ?_) (fun c_2 => ?_)
        · skip
          exact z_vret X hr hlk (congrArg (Gw ad cI cZ) (by rw [ha_72, ha_2]; rfl)) dX1_countTrades_97
        · exact absurd c_2 (by omega)
      · intro i_72 k_72 a_72 hi_72 h0i_72 h1i_72 ha_72 hk_72
        have hb_72 : BI a_72 := BI_congr (u := u) (fun j q1 q2 => by rw [ha_72, f_countFk_1 _ _ j (by omega)]; show a_2.1 j = u.1 j; rw [ha_2]; exact f_countk_1 u _ j (by omega)) (by rw [ha_72, f_countFk_2]; exact hc_2) hI.2.1
        refine z_iload_n X 1 rfl dX1_countTrades_72 ?_
        refine z_iconst X dX1_countTrades_73 ?_
        refine z_icmp_ge (tgt := 97) X ⟨by omega, by omega⟩ ⟨by omega, by omega⟩ (by decide) dX1_countTrades_74 (fun c_3 => ?_) (fun c_3 => ?_)
        · exact absurd c_3 (by omega)
        · skip
          refine z_aload_n X 0 rfl dX1_countTrades_77 ?_
          refine z_get (v := .ref (ad 10)) X 1 0 9 hiX1 rfl rfl (by decide) ⟨rfl, rfl, rfl⟩ (by decide +kernel) rfl dX1_countTrades_78 ?_
          refine z_iload_n X 1 rfl dX1_countTrades_81 ?_
          refine z_aload_n X 0 rfl dX1_countTrades_82 ?_
          refine z_get (v := .ref (ad 12)) X 1 0 11 hiX1 rfl rfl (by decide) ⟨rfl, rfl, rfl⟩ (by decide +kernel) rfl dX1_countTrades_83 ?_
          refine z_iload_n X 1 rfl dX1_countTrades_86 ?_
          refine z_callNi (C := RX0) X (c_X0_flowOver l D ad cI cZ cL a_72 i_72 ⟨by omega, by omega⟩ hb_72) ⟨va_cnB 1 X.2.2.2.2.1 gX1_countTrades_X0_flowOver_n193 rfl rfl rfl (X.2.2.2.2.2.2.2.1.m193) (X.2.2.2.2.1 _ (by decide +kernel)) (by decide +kernel) ⟨Nat.le_of_ble_eq_true rfl, Nat.le_of_ble_eq_true rfl⟩, X.2.2.2.2.1 _ (by decide +kernel), X.2.2.2.2.1 _ (by decide +kernel)⟩ rfl (Gp ad cI cZ a_72) [] rfl 0 12 rfl rfl [.int (iZ i_72), .ref (ad 10)] rfl (Nat.le_of_ble_eq_true rfl) dX1_countTrades_87 ⟨Nat.le_of_ble_eq_true rfl, Nat.le_of_ble_eq_true rfl⟩ rfl ?_
          refine z_iast (g := a_72.1 9) X 10 0 (Gw ad cI cZ (gA a_72 9 i_72 (f_flow a_72 i_72))) rfl rfl (by omega) (by omega) ⟨by omega, by omega⟩ rfl dX1_countTrades_90 ?_
          refine z_iinc X 1 [1, 0] [(0, .ref (ad 0)), (1, .int (iZ (i_72 + 1)))] rfl rfl (Nat.le_of_ble_eq_true rfl) dX1_countTrades_91 ?_
          refine z_goto (tgt := 72) X (by decide) dX1_countTrades_94 ?_
          exact z_eq (congrArg (Gw ad cI cZ) (show f_countF i_72 a_72 = gA a_72 9 i_72 (f_flow a_72 i_72) from rfl)) rfl hk_72
    · exact absurd c_1 (by omega)
  · intro i_2 k_2 a_2 hi_2 h0i_2 h1i_2 ha_2 hk_2
    have hc_2 : a_2.2 5 = u.2 5 := by rw [ha_2, f_countk_2]
    have hg_2 : GI2 a_2 := GI2_congr (u := u) (fun j q1 q2 q3 q4 => by rw [ha_2]; exact f_countk_1 u _ j q4) hc_2 hI
    have hB_2 := hg_2.bd
    refine z_iload_n X 1 rfl dX1_countTrades_2 ?_
    refine z_aload_n X 0 rfl dX1_countTrades_3 ?_
    refine z_get (v := .ref (ad 12)) X 1 0 11 hiX1 rfl rfl (by decide) ⟨rfl, rfl, rfl⟩ (by decide +kernel) rfl dX1_countTrades_4 ?_
    refine z_getN (v := .int (iZ (a_2.2 5))) X 0 12 5 hiX0 rfl rfl (by decide) ⟨rfl, rfl, rfl⟩ (X.2.2.2.2.2.2.2.1.f136) rfl dX1_countTrades_7 ?_
    refine z_icmp_ge (tgt := 55) X ⟨by omega, by omega⟩ ⟨by omega, by omega⟩ (by decide) dX1_countTrades_10 (fun c_4 => ?_) (fun c_4 => ?_)
    · exact absurd c_4 (by omega)
    · skip
      refine z_aload_n X 0 rfl dX1_countTrades_13 ?_
      refine z_get (v := .ref (ad 11)) X 1 0 10 hiX1 rfl rfl (by decide) ⟨rfl, rfl, rfl⟩ (by decide +kernel) rfl dX1_countTrades_14 ?_
      refine z_iconst X dX1_countTrades_17 ?_
      refine z_dup2 X rfl rfl dX1_countTrades_18 ?_
      refine z_iald (g := a_2.1 10) X 11 0 rfl rfl (by omega) (by omega) ⟨by omega, by omega⟩ dX1_countTrades_19 ?_
      refine z_aload_n X 0 rfl dX1_countTrades_20 ?_
      refine z_get (v := .ref (ad 12)) X 1 0 11 hiX1 rfl rfl (by decide) ⟨rfl, rfl, rfl⟩ (by decide +kernel) rfl dX1_countTrades_21 ?_
      refine z_getN (v := .ref (ad 15)) X 0 12 2 hiX0 rfl rfl (by decide) ⟨rfl, rfl, rfl⟩ (X.2.2.2.2.2.2.2.1.f150) rfl dX1_countTrades_24 ?_
      refine z_iload_n X 1 rfl dX1_countTrades_27 ?_
      refine z_iald (g := a_2.1 13) X 15 0 rfl rfl (by omega) (by omega) ⟨by omega, by omega⟩ dX1_countTrades_28 ?_
      have b_5 := hB_2 13 rfl i_2
      refine z_iadd X dX1_countTrades_29 ?_
      refine z_iast (g := a_2.1 10) X 11 0 (Gw ad cI cZ (gA a_2 10 0 ((a_2.1 10 0) + (a_2.1 13 i_2)))) rfl rfl (by omega) (by omega) ⟨by omega, by omega⟩ rfl dX1_countTrades_30 ?_
      refine z_aload_n X 0 rfl dX1_countTrades_31 ?_
      refine z_get (v := .ref (ad 11)) X 1 0 10 hiX1 rfl rfl (by decide) ⟨rfl, rfl, rfl⟩ (by decide +kernel) rfl dX1_countTrades_32 ?_
      refine z_iconst X dX1_countTrades_35 ?_
      refine z_dup2 X rfl rfl dX1_countTrades_36 ?_
      refine z_iald (g := updZ (a_2.1 10) (0) ((a_2.1 10 0) + (a_2.1 13 i_2))) X 11 0 rfl rfl (by omega) (by omega) ⟨by omega, by omega⟩ dX1_countTrades_37 ?_
      refine z_aload_n X 0 rfl dX1_countTrades_38 ?_
      refine z_get (v := .ref (ad 12)) X 1 0 11 hiX1 rfl rfl (by decide) ⟨rfl, rfl, rfl⟩ (by decide +kernel) rfl dX1_countTrades_39 ?_
      refine z_getN (v := .ref (ad 16)) X 0 12 3 hiX0 rfl rfl (by decide) ⟨rfl, rfl, rfl⟩ (X.2.2.2.2.2.2.2.1.f190) rfl dX1_countTrades_42 ?_
      refine z_iload_n X 1 rfl dX1_countTrades_45 ?_
      refine z_iald (g := a_2.1 14) X 16 0 rfl rfl (by omega) (by omega) ⟨by omega, by omega⟩ dX1_countTrades_46 ?_
      have b_6 := hB_2 14 rfl i_2
      refine z_iadd X dX1_countTrades_47 ?_
      refine z_iast (g := updZ (a_2.1 10) (0) ((a_2.1 10 0) + (a_2.1 13 i_2))) X 11 0 (Gw ad cI cZ (gA (gA a_2 10 0 ((a_2.1 10 0) + (a_2.1 13 i_2))) 10 1 (((updZ (a_2.1 10) (0) ((a_2.1 10 0) + (a_2.1 13 i_2))) 1) + (a_2.1 14 i_2)))) rfl rfl (by omega) (by omega) ⟨by omega, by omega⟩ rfl dX1_countTrades_48 ?_
      refine z_iinc X 1 [1, 0] [(0, .ref (ad 0)), (1, .int (iZ (i_2 + 1)))] rfl rfl (Nat.le_of_ble_eq_true rfl) dX1_countTrades_49 ?_
      refine z_goto (tgt := 2) X (by decide) dX1_countTrades_52 ?_
      exact z_eq (congrArg (Gw ad cI cZ) (show f_countS i_2 a_2 = gA (gA a_2 10 0 ((a_2.1 10 0) + (a_2.1 13 i_2))) 10 1 (((updZ (a_2.1 10) (0) ((a_2.1 10 0) + (a_2.1 13 i_2))) 1) + (a_2.1 14 i_2)) from rfl)) rfl hk_2
set_option maxHeartbeats 4000000 in
set_option maxRecDepth 100000 in
theorem c_X1_settleTrades (l : Launch) (D : va_G) (ad : Nat → Nat) (cI cZ cL : ClassId) (u : GS) (h : Int) (h0 : 0 ≤ h ∧ h ≤ 5) (hI : GI3 h u) : zMv l D (zT cI cZ cL) yX1_settleTrades wsX1_settleTrades ({ frames := 0, cells := 0, slots := 0, locals := 0 } : Room) (Gw ad cI cZ u) [.ref (ad 0), .int (iZ h)] (Gw ad cI cZ (f_settle u h)) 0 0 := by
  have hc0 := hI.2.1.1
  have hc6 := hI.2.1.2.1
  refine z_mv (cc := cX1_settleTrades) (maxL := 4) (ret := none) (by decide) rfl (Nat.le_of_ble_eq_true rfl) ?_
  intro p e s m below meth c A X hr hlk hin
  have hiX0 : ∀ w ∈ wsX00, w ∈ wsX1_settleTrades := by decide +kernel
  have hiX1 : ∀ w ∈ wsX10, w ∈ wsX1_settleTrades := by decide +kernel
  refine z_sub (lv' := [(0, .ref (ad 0)), (1, .int (iZ h))]) [0, 1] rfl ?_
  refine z_iconst X dX1_settleTrades_0 ?_
  refine z_istore_n X [1, 2, 0] [(0, .ref (ad 0)), (1, .int (iZ h)), (2, .int (iZ 0))] rfl (Nat.le_of_ble_eq_true rfl) dX1_settleTrades_1 ?_
  refine zfor_ind (u.2 5).toNat (u.2 5) (by omega) (f_settleS h) u (fun (i_2 : Int) (a_2 : GS) => zW p l e ({ frames := 0, cells := 0, slots := 0, locals := 0 } : Room) s m ([.ref (ad 0), .int (iZ h)] : List Value).toArray below meth c 4 D A 0 0 (MQ below (zPv D (zT cI cZ cL) (Gw ad cI cZ (f_settle u h)) A) ([.ref (ad 0), .int (iZ h)] : List Value).toArray s 0 0 A) (Gw ad cI cZ a_2) 2 [(0, .ref (ad 0)), (1, .int (iZ h)), (2, .int (iZ i_2))] []) ?_ ?_
  · intro a_2 ha_2
    have hg_2 := GI3_settlek h0.1 hI ((u.2 5).toNat) (by omega)
    rw [← ha_2] at hg_2
    have hB_2 := hg_2.2
    have hc_2 : a_2.2 5 = u.2 5 := by rw [ha_2, f_settlek_2]
    refine z_iload_n X 2 rfl dX1_settleTrades_2 ?_
    refine z_aload_n X 0 rfl dX1_settleTrades_3 ?_
    refine z_get (v := .ref (ad 12)) X 1 0 11 hiX1 rfl rfl (by decide) ⟨rfl, rfl, rfl⟩ (by decide +kernel) rfl dX1_settleTrades_4 ?_
    refine z_getN (v := .int (iZ (a_2.2 5))) X 0 12 5 hiX0 rfl rfl (by decide) ⟨rfl, rfl, rfl⟩ (X.2.2.2.2.2.2.2.1.f136) rfl dX1_settleTrades_7 ?_
    refine z_icmp_ge (tgt := 131) X ⟨by omega, by omega⟩ ⟨by omega, by omega⟩ (by decide) dX1_settleTrades_10 (fun c_1 => ?_) (fun c_1 => ?_)
    · skip
      exact z_vret X hr hlk (congrArg (Gw ad cI cZ) ha_2) dX1_settleTrades_131
    · exact absurd c_1 (by omega)
  · intro i_2 k_2 a_2 hi_2 h0i_2 h1i_2 ha_2 hk_2
    have hg_2 := GI3_settlek h0.1 hI (k_2) (by omega)
    rw [← ha_2] at hg_2
    have hB_2 := hg_2.2
    have hc_2 : a_2.2 5 = u.2 5 := by rw [ha_2, f_settlek_2]
    refine z_iload_n X 2 rfl dX1_settleTrades_2 ?_
    refine z_aload_n X 0 rfl dX1_settleTrades_3 ?_
    refine z_get (v := .ref (ad 12)) X 1 0 11 hiX1 rfl rfl (by decide) ⟨rfl, rfl, rfl⟩ (by decide +kernel) rfl dX1_settleTrades_4 ?_
    refine z_getN (v := .int (iZ (a_2.2 5))) X 0 12 5 hiX0 rfl rfl (by decide) ⟨rfl, rfl, rfl⟩ (X.2.2.2.2.2.2.2.1.f136) rfl dX1_settleTrades_7 ?_
    refine z_icmp_ge (tgt := 131) X ⟨by omega, by omega⟩ ⟨by omega, by omega⟩ (by decide) dX1_settleTrades_10 (fun c_2 => ?_) (fun c_2 => ?_)
    · exact absurd c_2 (by omega)
    · skip
      refine z_aload_n X 0 rfl dX1_settleTrades_13 ?_
      refine z_get (v := .ref (ad 12)) X 1 0 11 hiX1 rfl rfl (by decide) ⟨rfl, rfl, rfl⟩ (by decide +kernel) rfl dX1_settleTrades_14 ?_
      refine z_getN (v := .ref (ad 15)) X 0 12 2 hiX0 rfl rfl (by decide) ⟨rfl, rfl, rfl⟩ (X.2.2.2.2.2.2.2.1.f150) rfl dX1_settleTrades_17 ?_
      refine z_iload_n X 2 rfl dX1_settleTrades_20 ?_
      refine z_iald (g := a_2.1 13) X 15 0 rfl rfl (by omega) (by omega) ⟨by omega, by omega⟩ dX1_settleTrades_21 ?_
      have b_3 := hB_2 13 rfl i_2
      refine z_aload_n X 0 rfl dX1_settleTrades_22 ?_
      refine z_get (v := .ref (ad 12)) X 1 0 11 hiX1 rfl rfl (by decide) ⟨rfl, rfl, rfl⟩ (by decide +kernel) rfl dX1_settleTrades_23 ?_
      refine z_getN (v := .ref (ad 17)) X 0 12 4 hiX0 rfl rfl (by decide) ⟨rfl, rfl, rfl⟩ (X.2.2.2.2.2.2.2.1.f153) rfl dX1_settleTrades_26 ?_
      refine z_iload_n X 2 rfl dX1_settleTrades_29 ?_
      refine z_iald (g := a_2.1 15) X 17 0 rfl rfl (by omega) (by omega) ⟨by omega, by omega⟩ dX1_settleTrades_30 ?_
      refine z_imul X dX1_settleTrades_31 ?_
      refine z_istore_n X [1, 2, 3, 0] [(0, .ref (ad 0)), (1, .int (iZ h)), (2, .int (iZ i_2)), (3, .int (iZ ((a_2.1 13 i_2) * (a_2.1 15 i_2))))] rfl (Nat.le_of_ble_eq_true rfl) dX1_settleTrades_32 ?_
      refine z_aload_n X 0 rfl dX1_settleTrades_33 ?_
      refine z_get (v := .ref (ad 12)) X 1 0 11 hiX1 rfl rfl (by decide) ⟨rfl, rfl, rfl⟩ (by decide +kernel) rfl dX1_settleTrades_34 ?_
      refine z_getN (v := .ref (ad 13)) X 0 12 0 hiX0 rfl rfl (by decide) ⟨rfl, rfl, rfl⟩ (X.2.2.2.2.2.2.2.1.f144) rfl dX1_settleTrades_37 ?_
      refine z_iload_n X 2 rfl dX1_settleTrades_40 ?_
      refine z_iald (g := a_2.1 11) X 13 0 rfl rfl (by omega) (by omega) ⟨by omega, by omega⟩ dX1_settleTrades_41 ?_
      have b_4 := hB_2 11 rfl i_2
      refine z_iload_n X 1 rfl dX1_settleTrades_42 ?_
      refine z_icmp_ne (tgt := 84) X ⟨by omega, by omega⟩ ⟨by omega, by omega⟩ (by decide) dX1_settleTrades_43 (fun c_5 => ?_) (fun c_5 => ?_)
      · skip
        refine z_aload_n X 0 rfl dX1_settleTrades_84 ?_
        refine z_get (v := .ref (ad 12)) X 1 0 11 hiX1 rfl rfl (by decide) ⟨rfl, rfl, rfl⟩ (by decide +kernel) rfl dX1_settleTrades_85 ?_
        refine z_getN (v := .ref (ad 14)) X 0 12 1 hiX0 rfl rfl (by decide) ⟨rfl, rfl, rfl⟩ (X.2.2.2.2.2.2.2.1.f147) rfl dX1_settleTrades_88 ?_
        refine z_iload_n X 2 rfl dX1_settleTrades_91 ?_
        refine z_iald (g := a_2.1 12) X 14 0 rfl rfl (by omega) (by omega) ⟨by omega, by omega⟩ dX1_settleTrades_92 ?_
        have b_6 := hB_2 12 rfl i_2
        refine z_iload_n X 1 rfl dX1_settleTrades_93 ?_
        refine z_icmp_ne (tgt := 125) X ⟨by omega, by omega⟩ ⟨by omega, by omega⟩ (by decide) dX1_settleTrades_94 (fun c_7 => ?_) (fun c_7 => ?_)
        · skip
          refine z_iinc X 2 [1, 2, 0, 3] [(0, .ref (ad 0)), (1, .int (iZ h)), (2, .int (iZ (i_2 + 1))), (3, .int (iZ ((a_2.1 13 i_2) * (a_2.1 15 i_2))))] rfl rfl (Nat.le_of_ble_eq_true rfl) dX1_settleTrades_125 ?_
          refine z_goto (tgt := 2) X (by decide) dX1_settleTrades_128 ?_
          refine z_sub (lv' := [(0, .ref (ad 0)), (1, .int (iZ h)), (2, .int (iZ (i_2 + 1)))]) [0, 1, 2] rfl ?_
          exact z_eq (congrArg (Gw ad cI cZ) (show (f_settleS h) i_2 a_2 = a_2 from (by show f_settleB h i_2 (f_settleA h i_2 a_2) = _; rw [show f_settleA h i_2 a_2 = a_2 from if_neg (show ¬ a_2.1 11 i_2 = h by omega)]; exact if_neg (show ¬ a_2.1 12 i_2 = h by omega)))) rfl hk_2
        · skip
          refine z_aload_n X 0 rfl dX1_settleTrades_97 ?_
          refine z_get (v := .ref (ad 7)) X 1 0 6 hiX1 rfl rfl (by decide) ⟨rfl, rfl, rfl⟩ (by decide +kernel) rfl dX1_settleTrades_98 ?_
          refine z_iload_n X 1 rfl dX1_settleTrades_101 ?_
          refine z_dup2 X rfl rfl dX1_settleTrades_102 ?_
          refine z_iald (g := a_2.1 6) X 7 0 rfl rfl (by omega) (by omega) ⟨by omega, by omega⟩ dX1_settleTrades_103 ?_
          refine z_iload_n X 3 rfl dX1_settleTrades_104 ?_
          refine z_iadd X dX1_settleTrades_105 ?_
          refine z_iast (g := a_2.1 6) X 7 0 (Gw ad cI cZ (gA a_2 6 h ((a_2.1 6 h) + ((a_2.1 13 i_2) * (a_2.1 15 i_2))))) rfl rfl (by omega) (by omega) ⟨by omega, by omega⟩ rfl dX1_settleTrades_106 ?_
          refine z_aload_n X 0 rfl dX1_settleTrades_107 ?_
          refine z_get (v := .ref (ad 8)) X 1 0 7 hiX1 rfl rfl (by decide) ⟨rfl, rfl, rfl⟩ (by decide +kernel) rfl dX1_settleTrades_108 ?_
          refine z_iload_n X 1 rfl dX1_settleTrades_111 ?_
          refine z_dup2 X rfl rfl dX1_settleTrades_112 ?_
          refine z_iald (g := a_2.1 7) X 8 0 rfl rfl (by omega) (by omega) ⟨by omega, by omega⟩ dX1_settleTrades_113 ?_
          have b_8 := hB_2 7 rfl h
          refine z_aload_n X 0 rfl dX1_settleTrades_114 ?_
          refine z_get (v := .ref (ad 12)) X 1 0 11 hiX1 rfl rfl (by decide) ⟨rfl, rfl, rfl⟩ (by decide +kernel) rfl dX1_settleTrades_115 ?_
          refine z_getN (v := .ref (ad 16)) X 0 12 3 hiX0 rfl rfl (by decide) ⟨rfl, rfl, rfl⟩ (X.2.2.2.2.2.2.2.1.f190) rfl dX1_settleTrades_118 ?_
          refine z_iload_n X 2 rfl dX1_settleTrades_121 ?_
          refine z_iald (g := a_2.1 14) X 16 0 rfl rfl (by omega) (by omega) ⟨by omega, by omega⟩ dX1_settleTrades_122 ?_
          have b_9 := hB_2 14 rfl i_2
          refine z_isub X dX1_settleTrades_123 ?_
          refine z_iast (g := a_2.1 7) X 8 0 (Gw ad cI cZ (gA (gA a_2 6 h ((a_2.1 6 h) + ((a_2.1 13 i_2) * (a_2.1 15 i_2)))) 7 h ((a_2.1 7 h) - (a_2.1 14 i_2)))) rfl rfl (by omega) (by omega) ⟨by omega, by omega⟩ rfl dX1_settleTrades_124 ?_
          refine z_iinc X 2 [1, 2, 0, 3] [(0, .ref (ad 0)), (1, .int (iZ h)), (2, .int (iZ (i_2 + 1))), (3, .int (iZ ((a_2.1 13 i_2) * (a_2.1 15 i_2))))] rfl rfl (Nat.le_of_ble_eq_true rfl) dX1_settleTrades_125 ?_
          refine z_goto (tgt := 2) X (by decide) dX1_settleTrades_128 ?_
          refine z_sub (lv' := [(0, .ref (ad 0)), (1, .int (iZ h)), (2, .int (iZ (i_2 + 1)))]) [0, 1, 2] rfl ?_
          exact z_eq (congrArg (Gw ad cI cZ) (show (f_settleS h) i_2 a_2 = gA (gA a_2 6 h ((a_2.1 6 h) + ((a_2.1 13 i_2) * (a_2.1 15 i_2)))) 7 h ((a_2.1 7 h) - (a_2.1 14 i_2)) from (by show f_settleB h i_2 (f_settleA h i_2 a_2) = _; rw [show f_settleA h i_2 a_2 = a_2 from if_neg (show ¬ a_2.1 11 i_2 = h by omega)]; exact if_pos (show a_2.1 12 i_2 = h by omega)))) rfl hk_2
      · skip
        refine z_aload_n X 0 rfl dX1_settleTrades_46 ?_
        refine z_get (v := .ref (ad 7)) X 1 0 6 hiX1 rfl rfl (by decide) ⟨rfl, rfl, rfl⟩ (by decide +kernel) rfl dX1_settleTrades_47 ?_
        refine z_iload_n X 1 rfl dX1_settleTrades_50 ?_
        refine z_dup2 X rfl rfl dX1_settleTrades_51 ?_
        refine z_iald (g := a_2.1 6) X 7 0 rfl rfl (by omega) (by omega) ⟨by omega, by omega⟩ dX1_settleTrades_52 ?_
        refine z_iload_n X 3 rfl dX1_settleTrades_53 ?_
        refine z_aload_n X 0 rfl dX1_settleTrades_54 ?_
        refine z_get (v := .ref (ad 12)) X 1 0 11 hiX1 rfl rfl (by decide) ⟨rfl, rfl, rfl⟩ (by decide +kernel) rfl dX1_settleTrades_55 ?_
        refine z_getN (v := .ref (ad 16)) X 0 12 3 hiX0 rfl rfl (by decide) ⟨rfl, rfl, rfl⟩ (X.2.2.2.2.2.2.2.1.f190) rfl dX1_settleTrades_58 ?_
        refine z_iload_n X 2 rfl dX1_settleTrades_61 ?_
        refine z_iald (g := a_2.1 14) X 16 0 rfl rfl (by omega) (by omega) ⟨by omega, by omega⟩ dX1_settleTrades_62 ?_
        have b_10 := hB_2 14 rfl i_2
        refine z_iadd X dX1_settleTrades_63 ?_
        refine z_isub X dX1_settleTrades_64 ?_
        refine z_iast (g := a_2.1 6) X 7 0 (Gw ad cI cZ (gA a_2 6 h ((a_2.1 6 h) - (((a_2.1 13 i_2) * (a_2.1 15 i_2)) + (a_2.1 14 i_2))))) rfl rfl (by omega) (by omega) ⟨by omega, by omega⟩ rfl dX1_settleTrades_65 ?_
        refine z_aload_n X 0 rfl dX1_settleTrades_66 ?_
        refine z_get (v := .ref (ad 8)) X 1 0 7 hiX1 rfl rfl (by decide) ⟨rfl, rfl, rfl⟩ (by decide +kernel) rfl dX1_settleTrades_67 ?_
        refine z_iload_n X 1 rfl dX1_settleTrades_70 ?_
        refine z_dup2 X rfl rfl dX1_settleTrades_71 ?_
        refine z_iald (g := a_2.1 7) X 8 0 rfl rfl (by omega) (by omega) ⟨by omega, by omega⟩ dX1_settleTrades_72 ?_
        have b_11 := hB_2 7 rfl h
        refine z_aload_n X 0 rfl dX1_settleTrades_73 ?_
        refine z_get (v := .ref (ad 12)) X 1 0 11 hiX1 rfl rfl (by decide) ⟨rfl, rfl, rfl⟩ (by decide +kernel) rfl dX1_settleTrades_74 ?_
        refine z_getN (v := .ref (ad 16)) X 0 12 3 hiX0 rfl rfl (by decide) ⟨rfl, rfl, rfl⟩ (X.2.2.2.2.2.2.2.1.f190) rfl dX1_settleTrades_77 ?_
        refine z_iload_n X 2 rfl dX1_settleTrades_80 ?_
        refine z_iald (g := a_2.1 14) X 16 0 rfl rfl (by omega) (by omega) ⟨by omega, by omega⟩ dX1_settleTrades_81 ?_
        refine z_iadd X dX1_settleTrades_82 ?_
        refine z_iast (g := a_2.1 7) X 8 0 (Gw ad cI cZ (gA (gA a_2 6 h ((a_2.1 6 h) - (((a_2.1 13 i_2) * (a_2.1 15 i_2)) + (a_2.1 14 i_2)))) 7 h ((a_2.1 7 h) + (a_2.1 14 i_2)))) rfl rfl (by omega) (by omega) ⟨by omega, by omega⟩ rfl dX1_settleTrades_83 ?_
        refine z_aload_n X 0 rfl dX1_settleTrades_84 ?_
        refine z_get (v := .ref (ad 12)) X 1 0 11 hiX1 rfl rfl (by decide) ⟨rfl, rfl, rfl⟩ (by decide +kernel) rfl dX1_settleTrades_85 ?_
        refine z_getN (v := .ref (ad 14)) X 0 12 1 hiX0 rfl rfl (by decide) ⟨rfl, rfl, rfl⟩ (X.2.2.2.2.2.2.2.1.f147) rfl dX1_settleTrades_88 ?_
        refine z_iload_n X 2 rfl dX1_settleTrades_91 ?_
        refine z_iald (g := a_2.1 12) X 14 0 rfl rfl (by omega) (by omega) ⟨by omega, by omega⟩ dX1_settleTrades_92 ?_
        have b_12 := hB_2 12 rfl i_2
        refine z_iload_n X 1 rfl dX1_settleTrades_93 ?_
        refine z_icmp_ne (tgt := 125) X ⟨by omega, by omega⟩ ⟨by omega, by omega⟩ (by decide) dX1_settleTrades_94 (fun c_13 => ?_) (fun c_13 => ?_)
        · skip
          refine z_iinc X 2 [1, 2, 0, 3] [(0, .ref (ad 0)), (1, .int (iZ h)), (2, .int (iZ (i_2 + 1))), (3, .int (iZ ((a_2.1 13 i_2) * (a_2.1 15 i_2))))] rfl rfl (Nat.le_of_ble_eq_true rfl) dX1_settleTrades_125 ?_
          refine z_goto (tgt := 2) X (by decide) dX1_settleTrades_128 ?_
          refine z_sub (lv' := [(0, .ref (ad 0)), (1, .int (iZ h)), (2, .int (iZ (i_2 + 1)))]) [0, 1, 2] rfl ?_
          exact z_eq (congrArg (Gw ad cI cZ) (show (f_settleS h) i_2 a_2 = gA (gA a_2 6 h ((a_2.1 6 h) - (((a_2.1 13 i_2) * (a_2.1 15 i_2)) + (a_2.1 14 i_2)))) 7 h ((a_2.1 7 h) + (a_2.1 14 i_2)) from (by show f_settleB h i_2 (f_settleA h i_2 a_2) = _; rw [show f_settleA h i_2 a_2 = gA (gA a_2 6 h ((a_2.1 6 h) - (((a_2.1 13 i_2) * (a_2.1 15 i_2)) + (a_2.1 14 i_2)))) 7 h ((a_2.1 7 h) + (a_2.1 14 i_2)) from if_pos (show a_2.1 11 i_2 = h by omega)]; exact if_neg (show ¬ a_2.1 12 i_2 = h by omega)))) rfl hk_2
        · skip
          refine z_aload_n X 0 rfl dX1_settleTrades_97 ?_
          refine z_get (v := .ref (ad 7)) X 1 0 6 hiX1 rfl rfl (by decide) ⟨rfl, rfl, rfl⟩ (by decide +kernel) rfl dX1_settleTrades_98 ?_
          refine z_iload_n X 1 rfl dX1_settleTrades_101 ?_
          refine z_dup2 X rfl rfl dX1_settleTrades_102 ?_
          refine z_iald (g := updZ (a_2.1 6) (h) ((a_2.1 6 h) - (((a_2.1 13 i_2) * (a_2.1 15 i_2)) + (a_2.1 14 i_2)))) X 7 0 rfl rfl (by omega) (by omega) ⟨by omega, by omega⟩ dX1_settleTrades_103 ?_
          have w_14 := updZ_s (a_2.1 6) h ((a_2.1 6 h) - (((a_2.1 13 i_2) * (a_2.1 15 i_2)) + (a_2.1 14 i_2)))
          refine z_iload_n X 3 rfl dX1_settleTrades_104 ?_
          refine z_iadd X dX1_settleTrades_105 ?_
          refine z_iast (g := updZ (a_2.1 6) (h) ((a_2.1 6 h) - (((a_2.1 13 i_2) * (a_2.1 15 i_2)) + (a_2.1 14 i_2)))) X 7 0 (Gw ad cI cZ (gA (gA (gA a_2 6 h ((a_2.1 6 h) - (((a_2.1 13 i_2) * (a_2.1 15 i_2)) + (a_2.1 14 i_2)))) 7 h ((a_2.1 7 h) + (a_2.1 14 i_2))) 6 h (((updZ (a_2.1 6) (h) ((a_2.1 6 h) - (((a_2.1 13 i_2) * (a_2.1 15 i_2)) + (a_2.1 14 i_2)))) h) + ((a_2.1 13 i_2) * (a_2.1 15 i_2))))) rfl rfl (by omega) (by omega) ⟨by omega, by omega⟩ rfl dX1_settleTrades_106 ?_
          refine z_aload_n X 0 rfl dX1_settleTrades_107 ?_
          refine z_get (v := .ref (ad 8)) X 1 0 7 hiX1 rfl rfl (by decide) ⟨rfl, rfl, rfl⟩ (by decide +kernel) rfl dX1_settleTrades_108 ?_
          refine z_iload_n X 1 rfl dX1_settleTrades_111 ?_
          refine z_dup2 X rfl rfl dX1_settleTrades_112 ?_
          refine z_iald (g := updZ (a_2.1 7) (h) ((a_2.1 7 h) + (a_2.1 14 i_2))) X 8 0 rfl rfl (by omega) (by omega) ⟨by omega, by omega⟩ dX1_settleTrades_113 ?_
          have w_15 := updZ_s (a_2.1 7) h ((a_2.1 7 h) + (a_2.1 14 i_2))
          refine z_aload_n X 0 rfl dX1_settleTrades_114 ?_
          refine z_get (v := .ref (ad 12)) X 1 0 11 hiX1 rfl rfl (by decide) ⟨rfl, rfl, rfl⟩ (by decide +kernel) rfl dX1_settleTrades_115 ?_
          refine z_getN (v := .ref (ad 16)) X 0 12 3 hiX0 rfl rfl (by decide) ⟨rfl, rfl, rfl⟩ (X.2.2.2.2.2.2.2.1.f190) rfl dX1_settleTrades_118 ?_
          refine z_iload_n X 2 rfl dX1_settleTrades_121 ?_
          refine z_iald (g := a_2.1 14) X 16 0 rfl rfl (by omega) (by omega) ⟨by omega, by omega⟩ dX1_settleTrades_122 ?_
          refine z_isub X dX1_settleTrades_123 ?_
          refine z_iast (g := updZ (a_2.1 7) (h) ((a_2.1 7 h) + (a_2.1 14 i_2))) X 8 0 (Gw ad cI cZ (gA (gA (gA (gA a_2 6 h ((a_2.1 6 h) - (((a_2.1 13 i_2) * (a_2.1 15 i_2)) + (a_2.1 14 i_2)))) 7 h ((a_2.1 7 h) + (a_2.1 14 i_2))) 6 h (((updZ (a_2.1 6) (h) ((a_2.1 6 h) - (((a_2.1 13 i_2) * (a_2.1 15 i_2)) + (a_2.1 14 i_2)))) h) + ((a_2.1 13 i_2) * (a_2.1 15 i_2)))) 7 h (((updZ (a_2.1 7) (h) ((a_2.1 7 h) + (a_2.1 14 i_2))) h) - (a_2.1 14 i_2)))) rfl rfl (by omega) (by omega) ⟨by omega, by omega⟩ rfl dX1_settleTrades_124 ?_
          refine z_iinc X 2 [1, 2, 0, 3] [(0, .ref (ad 0)), (1, .int (iZ h)), (2, .int (iZ (i_2 + 1))), (3, .int (iZ ((a_2.1 13 i_2) * (a_2.1 15 i_2))))] rfl rfl (Nat.le_of_ble_eq_true rfl) dX1_settleTrades_125 ?_
          refine z_goto (tgt := 2) X (by decide) dX1_settleTrades_128 ?_
          refine z_sub (lv' := [(0, .ref (ad 0)), (1, .int (iZ h)), (2, .int (iZ (i_2 + 1)))]) [0, 1, 2] rfl ?_
          exact z_eq (congrArg (Gw ad cI cZ) (show (f_settleS h) i_2 a_2 = gA (gA (gA (gA a_2 6 h ((a_2.1 6 h) - (((a_2.1 13 i_2) * (a_2.1 15 i_2)) + (a_2.1 14 i_2)))) 7 h ((a_2.1 7 h) + (a_2.1 14 i_2))) 6 h (((updZ (a_2.1 6) (h) ((a_2.1 6 h) - (((a_2.1 13 i_2) * (a_2.1 15 i_2)) + (a_2.1 14 i_2)))) h) + ((a_2.1 13 i_2) * (a_2.1 15 i_2)))) 7 h (((updZ (a_2.1 7) (h) ((a_2.1 7 h) + (a_2.1 14 i_2))) h) - (a_2.1 14 i_2)) from (by show f_settleB h i_2 (f_settleA h i_2 a_2) = _; rw [show f_settleA h i_2 a_2 = gA (gA a_2 6 h ((a_2.1 6 h) - (((a_2.1 13 i_2) * (a_2.1 15 i_2)) + (a_2.1 14 i_2)))) 7 h ((a_2.1 7 h) + (a_2.1 14 i_2)) from if_pos (show a_2.1 11 i_2 = h by omega)]; exact if_pos (show a_2.1 12 i_2 = h by omega)))) rfl hk_2
set_option maxHeartbeats 4000000 in
set_option maxRecDepth 100000 in
theorem c_X1_putIn (l : Launch) (D : va_G) (ad : Nat → Nat) (cI cZ cL : ClassId) (u : GS) (h x : Int) (h0 : 0 ≤ h ∧ h ≤ 5) : zMv l D (zT cI cZ cL) yX1_putIn wsX1_putIn ({ frames := 0, cells := 0, slots := 0, locals := 0 } : Room) (Gw ad cI cZ u) [.ref (ad 0), .int (iZ h), .int (iZ x)] (Gw ad cI cZ (f_putIn u h x)) 0 0 := by
  refine z_mv (cc := cX1_putIn) (maxL := 3) (ret := none) (by decide) rfl (Nat.le_of_ble_eq_true rfl) ?_
  intro p e s m below meth c A X hr hlk hin
  have hiX1 : ∀ w ∈ wsX10, w ∈ wsX1_putIn := by decide +kernel
  refine z_sub (lv' := [(0, .ref (ad 0)), (1, .int (iZ h)), (2, .int (iZ x))]) [0, 1, 2] rfl ?_
  refine z_aload_n X 0 rfl dX1_putIn_0 ?_
  refine z_get (v := .ref (ad 8)) X 1 0 7 hiX1 rfl rfl (by decide) ⟨rfl, rfl, rfl⟩ (by decide +kernel) rfl dX1_putIn_1 ?_
  refine z_iload_n X 1 rfl dX1_putIn_4 ?_
  refine z_dup2 X rfl rfl dX1_putIn_5 ?_
  refine z_iald (g := u.1 7) X 8 0 rfl rfl (by omega) (by omega) ⟨by omega, by omega⟩ dX1_putIn_6 ?_
  refine z_iload_n X 2 rfl dX1_putIn_7 ?_
  refine z_isub X dX1_putIn_8 ?_
  refine z_iast (g := u.1 7) X 8 0 (Gw ad cI cZ (gA u 7 h ((u.1 7 h) - x))) rfl rfl (by omega) (by omega) ⟨by omega, by omega⟩ rfl dX1_putIn_9 ?_
  refine z_aload_n X 0 rfl dX1_putIn_10 ?_
  refine z_get (v := .ref (ad 6)) X 1 0 5 hiX1 rfl rfl (by decide) ⟨rfl, rfl, rfl⟩ (by decide +kernel) rfl dX1_putIn_11 ?_
  refine z_iload_n X 1 rfl dX1_putIn_14 ?_
  refine z_dup2 X rfl rfl dX1_putIn_15 ?_
  refine z_iald (g := u.1 5) X 6 0 rfl rfl (by omega) (by omega) ⟨by omega, by omega⟩ dX1_putIn_16 ?_
  refine z_iload_n X 2 rfl dX1_putIn_17 ?_
  refine z_iadd X dX1_putIn_18 ?_
  refine z_iast (g := u.1 5) X 6 0 (Gw ad cI cZ (gA (gA u 7 h ((u.1 7 h) - x)) 5 h ((u.1 5 h) + x))) rfl rfl (by omega) (by omega) ⟨by omega, by omega⟩ rfl dX1_putIn_19 ?_
  refine z_aload_n X 0 rfl dX1_putIn_20 ?_
  refine z_get (v := .ref (ad 11)) X 1 0 10 hiX1 rfl rfl (by decide) ⟨rfl, rfl, rfl⟩ (by decide +kernel) rfl dX1_putIn_21 ?_
  refine z_iconst X dX1_putIn_24 ?_
  refine z_dup2 X rfl rfl dX1_putIn_25 ?_
  refine z_iald (g := u.1 10) X 11 0 rfl rfl (by omega) (by omega) ⟨by omega, by omega⟩ dX1_putIn_26 ?_
  refine z_iload_n X 2 rfl dX1_putIn_27 ?_
  refine z_iadd X dX1_putIn_28 ?_
  refine z_iast (g := u.1 10) X 11 0 (Gw ad cI cZ (gA (gA (gA u 7 h ((u.1 7 h) - x)) 5 h ((u.1 5 h) + x)) 10 2 ((u.1 10 2) + x))) rfl rfl (by omega) (by omega) ⟨by omega, by omega⟩ rfl dX1_putIn_29 ?_
  exact z_vret X hr hlk (congrArg (Gw ad cI cZ) (by simp only [f_putIn] <;> repeat' (first | with_reducible rfl | omega | split))) dX1_putIn_30
set_option maxHeartbeats 4000000 in
set_option maxRecDepth 100000 in
theorem c_X1_payPool (l : Launch) (D : va_G) (ad : Nat → Nat) (cI cZ cL : ClassId) (u : GS) (h x : Int) (h0 : 0 ≤ h ∧ h ≤ 5) : zMv l D (zT cI cZ cL) yX1_payPool wsX1_payPool ({ frames := 0, cells := 0, slots := 0, locals := 0 } : Room) (Gw ad cI cZ u) [.ref (ad 0), .int (iZ h), .int (iZ x)] (Gw ad cI cZ (f_pay u h x)) 0 0 := by
  refine z_mv (cc := cX1_payPool) (maxL := 3) (ret := none) (by decide) rfl (Nat.le_of_ble_eq_true rfl) ?_
  intro p e s m below meth c A X hr hlk hin
  have hiX1 : ∀ w ∈ wsX10, w ∈ wsX1_payPool := by decide +kernel
  refine z_sub (lv' := [(0, .ref (ad 0)), (1, .int (iZ h)), (2, .int (iZ x))]) [0, 1, 2] rfl ?_
  refine z_aload_n X 0 rfl dX1_payPool_0 ?_
  refine z_get (v := .ref (ad 7)) X 1 0 6 hiX1 rfl rfl (by decide) ⟨rfl, rfl, rfl⟩ (by decide +kernel) rfl dX1_payPool_1 ?_
  refine z_iload_n X 1 rfl dX1_payPool_4 ?_
  refine z_dup2 X rfl rfl dX1_payPool_5 ?_
  refine z_iald (g := u.1 6) X 7 0 rfl rfl (by omega) (by omega) ⟨by omega, by omega⟩ dX1_payPool_6 ?_
  refine z_iload_n X 2 rfl dX1_payPool_7 ?_
  refine z_iadd X dX1_payPool_8 ?_
  refine z_iast (g := u.1 6) X 7 0 (Gw ad cI cZ (gA u 6 h ((u.1 6 h) + x))) rfl rfl (by omega) (by omega) ⟨by omega, by omega⟩ rfl dX1_payPool_9 ?_
  refine z_aload_n X 0 rfl dX1_payPool_10 ?_
  refine z_dup X rfl dX1_payPool_11 ?_
  refine z_get (v := .int (iZ (u.2 2))) X 1 0 14 hiX1 rfl rfl (by decide) ⟨rfl, rfl, rfl⟩ (by decide +kernel) rfl dX1_payPool_12 ?_
  refine z_iload_n X 2 rfl dX1_payPool_15 ?_
  refine z_iadd X dX1_payPool_16 ?_
  refine z_put (v := .int (iZ ((u.2 2) + x))) (ty := .int) X tyX1 1 0 14 (Gw ad cI cZ (gV (gA u 6 h ((u.1 6 h) + x)) 2 ((u.2 2) + x))) tyX1_ok nmX1 hiX1 rfl rfl (by decide) ⟨rfl, rfl, rfl, rfl⟩ (by decide +kernel) rfl rfl rfl (Nat.le_of_ble_eq_true rfl) rfl dX1_payPool_17 ?_
  exact z_vret X hr hlk (congrArg (Gw ad cI cZ) (by simp only [f_pay] <;> repeat' (first | with_reducible rfl | omega | split))) dX1_payPool_20
set_option maxHeartbeats 4000000 in
set_option maxRecDepth 100000 in
theorem c_X1_takeOut (l : Launch) (D : va_G) (ad : Nat → Nat) (cI cZ cL : ClassId) (u : GS) (h x : Int) (h0 : 0 ≤ h ∧ h ≤ 5) (hx : -1000 ≤ x ∧ x ≤ 1000) (hB : Bd u) (hp : ∀ i, 0 ≤ u.1 4 i) : zMv l D (zT cI cZ cL) yX1_takeOut wsX1_takeOut ({ frames := 1, cells := 0, slots := 0, locals := 22 } : Room) (Gw ad cI cZ u) [.ref (ad 0), .int (iZ h), .int (iZ x)] (Gw ad cI cZ (f_takeOut u h x)) 0 0 := by
  refine z_mv (cc := cX1_takeOut) (maxL := 4) (ret := none) (by decide) rfl (Nat.le_of_ble_eq_true rfl) ?_
  intro p e s m below meth c A X hr hlk hin
  have hiX1 : ∀ w ∈ wsX10, w ∈ wsX1_takeOut := by decide +kernel
  refine z_sub (lv' := [(0, .ref (ad 0)), (1, .int (iZ h)), (2, .int (iZ x))]) [0, 1, 2] rfl ?_
  have hq := hB 5 rfl h
  refine z_iload_n X 2 rfl dX1_takeOut_0 ?_
  refine z_if_gt (tgt := 5) X ⟨by omega, by omega⟩ (by decide) dX1_takeOut_1 (fun c_1 => ?_) (fun c_1 => ?_)
  · skip
    refine z_aload_n X 0 rfl dX1_takeOut_5 ?_
    refine z_get (v := .ref (ad 8)) X 1 0 7 hiX1 rfl rfl (by decide) ⟨rfl, rfl, rfl⟩ (by decide +kernel) rfl dX1_takeOut_6 ?_
    refine z_iload_n X 1 rfl dX1_takeOut_9 ?_
    refine z_dup2 X rfl rfl dX1_takeOut_10 ?_
    refine z_iald (g := u.1 7) X 8 0 rfl rfl (by omega) (by omega) ⟨by omega, by omega⟩ dX1_takeOut_11 ?_
    have b_2 := hB 7 rfl h
    refine z_iload_n X 2 rfl dX1_takeOut_12 ?_
    refine z_iadd X dX1_takeOut_13 ?_
    refine z_iast (g := u.1 7) X 8 0 (Gw ad cI cZ (gA u 7 h ((u.1 7 h) + x))) rfl rfl (by omega) (by omega) ⟨by omega, by omega⟩ rfl dX1_takeOut_14 ?_
    refine z_aload_n X 0 rfl dX1_takeOut_15 ?_
    refine z_get (v := .ref (ad 6)) X 1 0 5 hiX1 rfl rfl (by decide) ⟨rfl, rfl, rfl⟩ (by decide +kernel) rfl dX1_takeOut_16 ?_
    refine z_iload_n X 1 rfl dX1_takeOut_19 ?_
    refine z_dup2 X rfl rfl dX1_takeOut_20 ?_
    refine z_iald (g := u.1 5) X 6 0 rfl rfl (by omega) (by omega) ⟨by omega, by omega⟩ dX1_takeOut_21 ?_
    have b_3 := hB 5 rfl h
    refine z_iload_n X 2 rfl dX1_takeOut_22 ?_
    refine z_isub X dX1_takeOut_23 ?_
    refine z_iast (g := u.1 5) X 6 0 (Gw ad cI cZ (gA (gA u 7 h ((u.1 7 h) + x)) 5 h ((u.1 5 h) - x))) rfl rfl (by omega) (by omega) ⟨by omega, by omega⟩ rfl dX1_takeOut_24 ?_
    refine z_aload_n X 0 rfl dX1_takeOut_25 ?_
    refine z_get (v := .ref (ad 11)) X 1 0 10 hiX1 rfl rfl (by decide) ⟨rfl, rfl, rfl⟩ (by decide +kernel) rfl dX1_takeOut_26 ?_
    refine z_iconst X dX1_takeOut_29 ?_
    refine z_dup2 X rfl rfl dX1_takeOut_30 ?_
    refine z_iald (g := u.1 10) X 11 0 rfl rfl (by omega) (by omega) ⟨by omega, by omega⟩ dX1_takeOut_31 ?_
    refine z_iload_n X 2 rfl dX1_takeOut_32 ?_
    refine z_iadd X dX1_takeOut_33 ?_
    refine z_iast (g := u.1 10) X 11 0 (Gw ad cI cZ (gA (gA (gA u 7 h ((u.1 7 h) + x)) 5 h ((u.1 5 h) - x)) 10 3 ((u.1 10 3) + x))) rfl rfl (by omega) (by omega) ⟨by omega, by omega⟩ rfl dX1_takeOut_34 ?_
    refine z_iconst X dX1_takeOut_35 ?_
    refine z_aload_n X 0 rfl dX1_takeOut_36 ?_
    refine z_get (v := .ref (ad 5)) X 1 0 4 hiX1 rfl rfl (by decide) ⟨rfl, rfl, rfl⟩ (by decide +kernel) rfl dX1_takeOut_37 ?_
    refine z_iload_n X 1 rfl dX1_takeOut_40 ?_
    refine z_iald (g := u.1 4) X 5 0 rfl rfl (by omega) (by omega) ⟨by omega, by omega⟩ dX1_takeOut_41 ?_
    have b_4 := hB 4 rfl h
    have b_5 := hp h
    refine z_iconst X dX1_takeOut_42 ?_
    refine z_idiv X (by omega) ⟨by omega, by omega⟩ (by decide) ⟨by decide, by decide⟩ dX1_takeOut_43 ?_
    refine z_aload_n X 0 rfl dX1_takeOut_44 ?_
    refine z_get (v := .ref (ad 6)) X 1 0 5 hiX1 rfl rfl (by decide) ⟨rfl, rfl, rfl⟩ (by decide +kernel) rfl dX1_takeOut_45 ?_
    refine z_iload_n X 1 rfl dX1_takeOut_48 ?_
    refine z_iald (g := updZ (u.1 5) (h) ((u.1 5 h) - x)) X 6 0 rfl rfl (by omega) (by omega) ⟨by omega, by omega⟩ dX1_takeOut_49 ?_
    have w_6 := updZ_s (u.1 5) h ((u.1 5 h) - x)
    refine z_isub X dX1_takeOut_50 ?_
    refine z_max X ⟨by omega, by omega⟩ ⟨by omega, by omega⟩ (by decide +kernel) (by decide +kernel) (by decide +kernel) (by decide +kernel) ⟨Nat.le_of_ble_eq_true rfl, Nat.le_of_ble_eq_true rfl, Nat.le_of_ble_eq_true rfl, Nat.le_of_ble_eq_true rfl⟩ dX1_takeOut_51 ?_
    have m_7 := zmax_sp 0 (((u.1 4 h) / 4) - ((updZ (u.1 5) (h) ((u.1 5 h) - x)) h))
    refine z_istore_n X [1, 2, 3, 0] [(0, .ref (ad 0)), (1, .int (iZ h)), (2, .int (iZ x)), (3, .int (iZ (zmax 0 (((u.1 4 h) / 4) - ((updZ (u.1 5) (h) ((u.1 5 h) - x)) h)))))] rfl (Nat.le_of_ble_eq_true rfl) dX1_takeOut_54 ?_
    refine z_aload_n X 0 rfl dX1_takeOut_55 ?_
    refine z_iload_n X 1 rfl dX1_takeOut_56 ?_
    refine z_iconst X dX1_takeOut_57 ?_
    refine z_iload_n X 2 rfl dX1_takeOut_58 ?_
    refine z_imul X dX1_takeOut_59 ?_
    refine z_iload_n X 3 rfl dX1_takeOut_60 ?_
    refine z_iadd X dX1_takeOut_61 ?_
    refine z_callv X (c_X1_payPool l D ad cI cZ cL (gA (gA (gA u 7 h ((u.1 7 h) + x)) 5 h ((u.1 5 h) - x)) 10 3 ((u.1 10 3) + x)) h ((2 * x) + (zmax 0 (((u.1 4 h) / 4) - ((updZ (u.1 5) (h) ((u.1 5 h) - x)) h)))) (by omega)) (cwV 2 X.2.2.2.2.1 gX1_takeOut_X1_payPool rfl rfl rfl (by decide +kernel) ⟨Nat.le_of_ble_eq_true rfl, Nat.le_of_ble_eq_true rfl⟩) rfl [] [] (List.append_nil _).symm 1 0 rfl rfl [] rfl (Nat.le_of_ble_eq_true rfl) dX1_takeOut_62 ⟨Nat.le_of_ble_eq_true rfl, Nat.le_of_ble_eq_true rfl⟩ (List.append_nil _) ?_
    exact z_vret X hr hlk (congrArg (Gw ad cI cZ) (show _ = f_takeOut u h x from by unfold f_takeOut; rw [if_neg (by omega)]; rfl)) dX1_takeOut_65
  · skip
    exact z_vret X hr hlk (congrArg (Gw ad cI cZ) (by simp only [f_takeOut]; rw [if_pos (by omega)])) dX1_takeOut_4
set_option maxHeartbeats 4000000 in
set_option maxRecDepth 100000 in
theorem c_X1_useBattery (l : Launch) (D : va_G) (ad : Nat → Nat) (cI cZ cL : ClassId) (u : GS) (h : Int) (h0 : 0 ≤ h ∧ h ≤ 5) (hB : Bd u) (hp : ∀ i, 0 ≤ u.1 4 i) : zMv l D (zT cI cZ cL) yX1_useBattery wsX1_useBattery ({ frames := 2, cells := 0, slots := 0, locals := 45 } : Room) (Gw ad cI cZ u) [.ref (ad 0), .int (iZ h)] (Gw ad cI cZ (f_battery u h)) 0 0 := by
  refine z_mv (cc := cX1_useBattery) (maxL := 2) (ret := none) (by decide) rfl (Nat.le_of_ble_eq_true rfl) ?_
  intro p e s m below meth c A X hr hlk hin
  have hiX1 : ∀ w ∈ wsX10, w ∈ wsX1_useBattery := by decide +kernel
  refine z_sub (lv' := [(0, .ref (ad 0)), (1, .int (iZ h))]) [0, 1] rfl ?_
  refine z_aload_n X 0 rfl dX1_useBattery_0 ?_
  refine z_get (v := .ref (ad 8)) X 1 0 7 hiX1 rfl rfl (by decide) ⟨rfl, rfl, rfl⟩ (by decide +kernel) rfl dX1_useBattery_1 ?_
  refine z_iload_n X 1 rfl dX1_useBattery_4 ?_
  refine z_iald (g := u.1 7) X 8 0 rfl rfl (by omega) (by omega) ⟨by omega, by omega⟩ dX1_useBattery_5 ?_
  have b_1 := hB 7 rfl h
  refine z_if_le (tgt := 39) X ⟨by omega, by omega⟩ (by decide) dX1_useBattery_6 (fun c_2 => ?_) (fun c_2 => ?_)
  · skip
    refine z_aload_n X 0 rfl dX1_useBattery_39 ?_
    refine z_iload_n X 1 rfl dX1_useBattery_40 ?_
    refine z_aload_n X 0 rfl dX1_useBattery_41 ?_
    refine z_get (v := .ref (ad 8)) X 1 0 7 hiX1 rfl rfl (by decide) ⟨rfl, rfl, rfl⟩ (by decide +kernel) rfl dX1_useBattery_42 ?_
    refine z_iload_n X 1 rfl dX1_useBattery_45 ?_
    refine z_iald (g := u.1 7) X 8 0 rfl rfl (by omega) (by omega) ⟨by omega, by omega⟩ dX1_useBattery_46 ?_
    refine z_ineg X dX1_useBattery_47 ?_
    refine z_aload_n X 0 rfl dX1_useBattery_48 ?_
    refine z_get (v := .ref (ad 6)) X 1 0 5 hiX1 rfl rfl (by decide) ⟨rfl, rfl, rfl⟩ (by decide +kernel) rfl dX1_useBattery_49 ?_
    refine z_iload_n X 1 rfl dX1_useBattery_52 ?_
    refine z_iald (g := u.1 5) X 6 0 rfl rfl (by omega) (by omega) ⟨by omega, by omega⟩ dX1_useBattery_53 ?_
    have b_3 := hB 5 rfl h
    refine z_min X ⟨by omega, by omega⟩ ⟨by omega, by omega⟩ (by decide +kernel) (by decide +kernel) (by decide +kernel) (by decide +kernel) ⟨Nat.le_of_ble_eq_true rfl, Nat.le_of_ble_eq_true rfl, Nat.le_of_ble_eq_true rfl, Nat.le_of_ble_eq_true rfl⟩ dX1_useBattery_54 ?_
    have m_4 := zmin_sp (-(u.1 7 h)) (u.1 5 h)
    refine z_callv X (c_X1_takeOut l D ad cI cZ cL u h (zmin (-(u.1 7 h)) (u.1 5 h)) (by omega) (by omega) hB hp) (cwV 2 X.2.2.2.2.1 gX1_useBattery_X1_takeOut rfl rfl rfl (by decide +kernel) ⟨Nat.le_of_ble_eq_true rfl, Nat.le_of_ble_eq_true rfl⟩) rfl [] [] (List.append_nil _).symm 1 0 rfl rfl [] rfl (Nat.le_of_ble_eq_true rfl) dX1_useBattery_57 ⟨Nat.le_of_ble_eq_true rfl, Nat.le_of_ble_eq_true rfl⟩ (List.append_nil _) ?_
    exact z_vret X hr hlk (congrArg (Gw ad cI cZ) (by simp only [f_battery] <;> repeat' (first | with_reducible rfl | omega | split))) dX1_useBattery_60
  · skip
    refine z_aload_n X 0 rfl dX1_useBattery_9 ?_
    refine z_iload_n X 1 rfl dX1_useBattery_10 ?_
    refine z_aload_n X 0 rfl dX1_useBattery_11 ?_
    refine z_get (v := .ref (ad 8)) X 1 0 7 hiX1 rfl rfl (by decide) ⟨rfl, rfl, rfl⟩ (by decide +kernel) rfl dX1_useBattery_12 ?_
    refine z_iload_n X 1 rfl dX1_useBattery_15 ?_
    refine z_iald (g := u.1 7) X 8 0 rfl rfl (by omega) (by omega) ⟨by omega, by omega⟩ dX1_useBattery_16 ?_
    refine z_aload_n X 0 rfl dX1_useBattery_17 ?_
    refine z_get (v := .ref (ad 5)) X 1 0 4 hiX1 rfl rfl (by decide) ⟨rfl, rfl, rfl⟩ (by decide +kernel) rfl dX1_useBattery_18 ?_
    refine z_iload_n X 1 rfl dX1_useBattery_21 ?_
    refine z_iald (g := u.1 4) X 5 0 rfl rfl (by omega) (by omega) ⟨by omega, by omega⟩ dX1_useBattery_22 ?_
    have b_5 := hB 4 rfl h
    refine z_aload_n X 0 rfl dX1_useBattery_23 ?_
    refine z_get (v := .ref (ad 6)) X 1 0 5 hiX1 rfl rfl (by decide) ⟨rfl, rfl, rfl⟩ (by decide +kernel) rfl dX1_useBattery_24 ?_
    refine z_iload_n X 1 rfl dX1_useBattery_27 ?_
    refine z_iald (g := u.1 5) X 6 0 rfl rfl (by omega) (by omega) ⟨by omega, by omega⟩ dX1_useBattery_28 ?_
    have b_6 := hB 5 rfl h
    refine z_isub X dX1_useBattery_29 ?_
    refine z_min X ⟨by omega, by omega⟩ ⟨by omega, by omega⟩ (by decide +kernel) (by decide +kernel) (by decide +kernel) (by decide +kernel) ⟨Nat.le_of_ble_eq_true rfl, Nat.le_of_ble_eq_true rfl, Nat.le_of_ble_eq_true rfl, Nat.le_of_ble_eq_true rfl⟩ dX1_useBattery_30 ?_
    have m_7 := zmin_sp (u.1 7 h) ((u.1 4 h) - (u.1 5 h))
    refine z_callv X (c_X1_putIn l D ad cI cZ cL u h (zmin (u.1 7 h) ((u.1 4 h) - (u.1 5 h))) (by omega)) (cwV 2 X.2.2.2.2.1 gX1_useBattery_X1_putIn rfl rfl rfl (by decide +kernel) ⟨Nat.le_of_ble_eq_true rfl, Nat.le_of_ble_eq_true rfl⟩) rfl [] [] (List.append_nil _).symm 1 0 rfl rfl [] rfl (Nat.le_of_ble_eq_true rfl) dX1_useBattery_33 ⟨Nat.le_of_ble_eq_true rfl, Nat.le_of_ble_eq_true rfl⟩ (List.append_nil _) ?_
    refine z_goto (tgt := 60) X (by decide) dX1_useBattery_36 ?_
    exact z_vret X hr hlk (congrArg (Gw ad cI cZ) (by simp only [f_battery] <;> repeat' (first | with_reducible rfl | omega | split))) dX1_useBattery_60
set_option maxHeartbeats 4000000 in
set_option maxRecDepth 100000 in
theorem c_X1_settleWithSupplier (l : Launch) (D : va_G) (ad : Nat → Nat) (cI cZ cL : ClassId) (u : GS) (h : Int) (h0 : 0 ≤ h ∧ h ≤ 5) (hB : Bd u) : zMv l D (zT cI cZ cL) yX1_settleWithSupplier wsX1_settleWithSupplier ({ frames := 0, cells := 0, slots := 0, locals := 0 } : Room) (Gw ad cI cZ u) [.ref (ad 0), .int (iZ h)] (Gw ad cI cZ (f_supplier u h)) 0 0 := by
  refine z_mv (cc := cX1_settleWithSupplier) (maxL := 4) (ret := none) (by decide) rfl (Nat.le_of_ble_eq_true rfl) ?_
  intro p e s m below meth c A X hr hlk hin
  have hiX1 : ∀ w ∈ wsX10, w ∈ wsX1_settleWithSupplier := by decide +kernel
  refine z_sub (lv' := [(0, .ref (ad 0)), (1, .int (iZ h))]) [0, 1] rfl ?_
  refine z_aload_n X 0 rfl dX1_settleWithSupplier_0 ?_
  refine z_get (v := .ref (ad 8)) X 1 0 7 hiX1 rfl rfl (by decide) ⟨rfl, rfl, rfl⟩ (by decide +kernel) rfl dX1_settleWithSupplier_1 ?_
  refine z_iload_n X 1 rfl dX1_settleWithSupplier_4 ?_
  refine z_iald (g := u.1 7) X 8 0 rfl rfl (by omega) (by omega) ⟨by omega, by omega⟩ dX1_settleWithSupplier_5 ?_
  have b_1 := hB 7 rfl h
  refine z_istore_n X [1, 2, 0] [(0, .ref (ad 0)), (1, .int (iZ h)), (2, .int (iZ (u.1 7 h)))] rfl (Nat.le_of_ble_eq_true rfl) dX1_settleWithSupplier_6 ?_
  refine z_iload_n X 2 rfl dX1_settleWithSupplier_7 ?_
  refine z_if_ge (tgt := 21) X ⟨by omega, by omega⟩ (by decide) dX1_settleWithSupplier_8 (fun c_2 => ?_) (fun c_2 => ?_)
  · skip
    refine z_iload_n X 2 rfl dX1_settleWithSupplier_21 ?_
    refine z_ineg X dX1_settleWithSupplier_22 ?_
    refine z_aload_n X 0 rfl dX1_settleWithSupplier_23 ?_
    refine z_get (v := .int (iZ (u.2 1))) X 1 0 13 hiX1 rfl rfl (by decide) ⟨rfl, rfl, rfl⟩ (by decide +kernel) rfl dX1_settleWithSupplier_24 ?_
    refine z_imul X dX1_settleWithSupplier_27 ?_
    refine z_istore_n X [1, 2, 3, 0] [(0, .ref (ad 0)), (1, .int (iZ h)), (2, .int (iZ (u.1 7 h))), (3, .int (iZ ((-(u.1 7 h)) * (u.2 1))))] rfl (Nat.le_of_ble_eq_true rfl) dX1_settleWithSupplier_28 ?_
    refine z_aload_n X 0 rfl dX1_settleWithSupplier_29 ?_
    refine z_get (v := .ref (ad 7)) X 1 0 6 hiX1 rfl rfl (by decide) ⟨rfl, rfl, rfl⟩ (by decide +kernel) rfl dX1_settleWithSupplier_30 ?_
    refine z_iload_n X 1 rfl dX1_settleWithSupplier_33 ?_
    refine z_dup2 X rfl rfl dX1_settleWithSupplier_34 ?_
    refine z_iald (g := u.1 6) X 7 0 rfl rfl (by omega) (by omega) ⟨by omega, by omega⟩ dX1_settleWithSupplier_35 ?_
    refine z_iload_n X 3 rfl dX1_settleWithSupplier_36 ?_
    refine z_iadd X dX1_settleWithSupplier_37 ?_
    refine z_iast (g := u.1 6) X 7 0 (Gw ad cI cZ (gA u 6 h ((u.1 6 h) + ((-(u.1 7 h)) * (u.2 1))))) rfl rfl (by omega) (by omega) ⟨by omega, by omega⟩ rfl dX1_settleWithSupplier_38 ?_
    refine z_aload_n X 0 rfl dX1_settleWithSupplier_39 ?_
    refine z_dup X rfl dX1_settleWithSupplier_40 ?_
    refine z_get (v := .int (iZ (u.2 3))) X 1 0 15 hiX1 rfl rfl (by decide) ⟨rfl, rfl, rfl⟩ (by decide +kernel) rfl dX1_settleWithSupplier_41 ?_
    refine z_iload_n X 3 rfl dX1_settleWithSupplier_44 ?_
    refine z_iadd X dX1_settleWithSupplier_45 ?_
    refine z_put (v := .int (iZ ((u.2 3) + ((-(u.1 7 h)) * (u.2 1))))) (ty := .int) X tyX1 1 0 15 (Gw ad cI cZ (gV (gA u 6 h ((u.1 6 h) + ((-(u.1 7 h)) * (u.2 1)))) 3 ((u.2 3) + ((-(u.1 7 h)) * (u.2 1))))) tyX1_ok nmX1 hiX1 rfl rfl (by decide) ⟨rfl, rfl, rfl, rfl⟩ (by decide +kernel) rfl rfl rfl (Nat.le_of_ble_eq_true rfl) rfl dX1_settleWithSupplier_46 ?_
    refine z_iload_n X 2 rfl dX1_settleWithSupplier_49 ?_
    refine z_if_ge (tgt := 66) X ⟨by omega, by omega⟩ (by decide) dX1_settleWithSupplier_50 (fun c_3 => ?_) (fun c_3 => ?_)
    · skip
      refine z_aload_n X 0 rfl dX1_settleWithSupplier_66 ?_
      refine z_get (v := .ref (ad 11)) X 1 0 10 hiX1 rfl rfl (by decide) ⟨rfl, rfl, rfl⟩ (by decide +kernel) rfl dX1_settleWithSupplier_67 ?_
      refine z_iconst X dX1_settleWithSupplier_70 ?_
      refine z_dup2 X rfl rfl dX1_settleWithSupplier_71 ?_
      refine z_iald (g := u.1 10) X 11 0 rfl rfl (by omega) (by omega) ⟨by omega, by omega⟩ dX1_settleWithSupplier_72 ?_
      refine z_iload_n X 2 rfl dX1_settleWithSupplier_73 ?_
      refine z_iadd X dX1_settleWithSupplier_74 ?_
      refine z_iast (g := u.1 10) X 11 0 (Gw ad cI cZ (gA (gV (gA u 6 h ((u.1 6 h) + ((-(u.1 7 h)) * (u.2 1)))) 3 ((u.2 3) + ((-(u.1 7 h)) * (u.2 1)))) 10 5 ((u.1 10 5) + (u.1 7 h)))) rfl rfl (by omega) (by omega) ⟨by omega, by omega⟩ rfl dX1_settleWithSupplier_75 ?_
      exact z_vret X hr hlk (congrArg (Gw ad cI cZ) (by simp only [f_supplier, f_supPay, f_supSum] <;> repeat' (first | with_reducible rfl | omega | split))) dX1_settleWithSupplier_76
    · skip
      refine z_aload_n X 0 rfl dX1_settleWithSupplier_53 ?_
      refine z_get (v := .ref (ad 11)) X 1 0 10 hiX1 rfl rfl (by decide) ⟨rfl, rfl, rfl⟩ (by decide +kernel) rfl dX1_settleWithSupplier_54 ?_
      refine z_iconst X dX1_settleWithSupplier_57 ?_
      refine z_dup2 X rfl rfl dX1_settleWithSupplier_58 ?_
      refine z_iald (g := u.1 10) X 11 0 rfl rfl (by omega) (by omega) ⟨by omega, by omega⟩ dX1_settleWithSupplier_59 ?_
      refine z_iload_n X 2 rfl dX1_settleWithSupplier_60 ?_
      refine z_isub X dX1_settleWithSupplier_61 ?_
      refine z_iast (g := u.1 10) X 11 0 (Gw ad cI cZ (gA (gV (gA u 6 h ((u.1 6 h) + ((-(u.1 7 h)) * (u.2 1)))) 3 ((u.2 3) + ((-(u.1 7 h)) * (u.2 1)))) 10 4 ((u.1 10 4) - (u.1 7 h)))) rfl rfl (by omega) (by omega) ⟨by omega, by omega⟩ rfl dX1_settleWithSupplier_62 ?_
      refine z_goto (tgt := 76) X (by decide) dX1_settleWithSupplier_63 ?_
      exact z_vret X hr hlk (congrArg (Gw ad cI cZ) (by simp only [f_supplier, f_supPay, f_supSum] <;> repeat' (first | with_reducible rfl | omega | split))) dX1_settleWithSupplier_76
  · skip
    refine z_iload_n X 2 rfl dX1_settleWithSupplier_11 ?_
    refine z_ineg X dX1_settleWithSupplier_12 ?_
    refine z_aload_n X 0 rfl dX1_settleWithSupplier_13 ?_
    refine z_get (v := .int (iZ (u.2 0))) X 1 0 12 hiX1 rfl rfl (by decide) ⟨rfl, rfl, rfl⟩ (by decide +kernel) rfl dX1_settleWithSupplier_14 ?_
    refine z_imul X dX1_settleWithSupplier_17 ?_
    refine z_goto (tgt := 28) X (by decide) dX1_settleWithSupplier_18 ?_
    refine z_istore_n X [1, 2, 3, 0] [(0, .ref (ad 0)), (1, .int (iZ h)), (2, .int (iZ (u.1 7 h))), (3, .int (iZ ((-(u.1 7 h)) * (u.2 0))))] rfl (Nat.le_of_ble_eq_true rfl) dX1_settleWithSupplier_28 ?_
    refine z_aload_n X 0 rfl dX1_settleWithSupplier_29 ?_
    refine z_get (v := .ref (ad 7)) X 1 0 6 hiX1 rfl rfl (by decide) ⟨rfl, rfl, rfl⟩ (by decide +kernel) rfl dX1_settleWithSupplier_30 ?_
    refine z_iload_n X 1 rfl dX1_settleWithSupplier_33 ?_
    refine z_dup2 X rfl rfl dX1_settleWithSupplier_34 ?_
    refine z_iald (g := u.1 6) X 7 0 rfl rfl (by omega) (by omega) ⟨by omega, by omega⟩ dX1_settleWithSupplier_35 ?_
    refine z_iload_n X 3 rfl dX1_settleWithSupplier_36 ?_
    refine z_iadd X dX1_settleWithSupplier_37 ?_
    refine z_iast (g := u.1 6) X 7 0 (Gw ad cI cZ (gA u 6 h ((u.1 6 h) + ((-(u.1 7 h)) * (u.2 0))))) rfl rfl (by omega) (by omega) ⟨by omega, by omega⟩ rfl dX1_settleWithSupplier_38 ?_
    refine z_aload_n X 0 rfl dX1_settleWithSupplier_39 ?_
    refine z_dup X rfl dX1_settleWithSupplier_40 ?_
    refine z_get (v := .int (iZ (u.2 3))) X 1 0 15 hiX1 rfl rfl (by decide) ⟨rfl, rfl, rfl⟩ (by decide +kernel) rfl dX1_settleWithSupplier_41 ?_
    refine z_iload_n X 3 rfl dX1_settleWithSupplier_44 ?_
    refine z_iadd X dX1_settleWithSupplier_45 ?_
    refine z_put (v := .int (iZ ((u.2 3) + ((-(u.1 7 h)) * (u.2 0))))) (ty := .int) X tyX1 1 0 15 (Gw ad cI cZ (gV (gA u 6 h ((u.1 6 h) + ((-(u.1 7 h)) * (u.2 0)))) 3 ((u.2 3) + ((-(u.1 7 h)) * (u.2 0))))) tyX1_ok nmX1 hiX1 rfl rfl (by decide) ⟨rfl, rfl, rfl, rfl⟩ (by decide +kernel) rfl rfl rfl (Nat.le_of_ble_eq_true rfl) rfl dX1_settleWithSupplier_46 ?_
    refine z_iload_n X 2 rfl dX1_settleWithSupplier_49 ?_
    refine z_if_ge (tgt := 66) X ⟨by omega, by omega⟩ (by decide) dX1_settleWithSupplier_50 (fun c_4 => ?_) (fun c_4 => ?_)
    · skip
      refine z_aload_n X 0 rfl dX1_settleWithSupplier_66 ?_
      refine z_get (v := .ref (ad 11)) X 1 0 10 hiX1 rfl rfl (by decide) ⟨rfl, rfl, rfl⟩ (by decide +kernel) rfl dX1_settleWithSupplier_67 ?_
      refine z_iconst X dX1_settleWithSupplier_70 ?_
      refine z_dup2 X rfl rfl dX1_settleWithSupplier_71 ?_
      refine z_iald (g := u.1 10) X 11 0 rfl rfl (by omega) (by omega) ⟨by omega, by omega⟩ dX1_settleWithSupplier_72 ?_
      refine z_iload_n X 2 rfl dX1_settleWithSupplier_73 ?_
      refine z_iadd X dX1_settleWithSupplier_74 ?_
      refine z_iast (g := u.1 10) X 11 0 (Gw ad cI cZ (gA (gV (gA u 6 h ((u.1 6 h) + ((-(u.1 7 h)) * (u.2 0)))) 3 ((u.2 3) + ((-(u.1 7 h)) * (u.2 0)))) 10 5 ((u.1 10 5) + (u.1 7 h)))) rfl rfl (by omega) (by omega) ⟨by omega, by omega⟩ rfl dX1_settleWithSupplier_75 ?_
      exact z_vret X hr hlk (congrArg (Gw ad cI cZ) (by simp only [f_supplier, f_supPay, f_supSum] <;> repeat' (first | with_reducible rfl | omega | split))) dX1_settleWithSupplier_76
    · skip
      refine z_aload_n X 0 rfl dX1_settleWithSupplier_53 ?_
      refine z_get (v := .ref (ad 11)) X 1 0 10 hiX1 rfl rfl (by decide) ⟨rfl, rfl, rfl⟩ (by decide +kernel) rfl dX1_settleWithSupplier_54 ?_
      refine z_iconst X dX1_settleWithSupplier_57 ?_
      refine z_dup2 X rfl rfl dX1_settleWithSupplier_58 ?_
      refine z_iald (g := u.1 10) X 11 0 rfl rfl (by omega) (by omega) ⟨by omega, by omega⟩ dX1_settleWithSupplier_59 ?_
      refine z_iload_n X 2 rfl dX1_settleWithSupplier_60 ?_
      refine z_isub X dX1_settleWithSupplier_61 ?_
      refine z_iast (g := u.1 10) X 11 0 (Gw ad cI cZ (gA (gV (gA u 6 h ((u.1 6 h) + ((-(u.1 7 h)) * (u.2 0)))) 3 ((u.2 3) + ((-(u.1 7 h)) * (u.2 0)))) 10 4 ((u.1 10 4) - (u.1 7 h)))) rfl rfl (by omega) (by omega) ⟨by omega, by omega⟩ rfl dX1_settleWithSupplier_62 ?_
      refine z_goto (tgt := 76) X (by decide) dX1_settleWithSupplier_63 ?_
      exact z_vret X hr hlk (congrArg (Gw ad cI cZ) (by simp only [f_supplier, f_supPay, f_supSum] <;> repeat' (first | with_reducible rfl | omega | split))) dX1_settleWithSupplier_76
set_option maxHeartbeats 4000000 in
set_option maxRecDepth 100000 in
theorem c_X1_clear (l : Launch) (D : va_G) (ad : Nat → Nat) (cI cZ cL : ClassId) (u : GS) (hq : u.2 4 < 500) (hq0 : 0 ≤ u.2 4) (hI : GI u) : zMi l D (zT cI cZ cL) yX1_clear wsX1_clear ({ frames := 6, cells := 0, slots := 0, locals := 113 } : Room) (Gw ad cI cZ u) [.ref (ad 0)] ((f_clearU u).1 10 0) (Gw ad cI cZ (f_clearU u)) 0 0 := by
  have h1 : GI1 (f_begin u) := GI1_begin hI
  have h2 : GI2 (f_match (f_begin u)) := (GI1_match h1).to2
  have h3 : GI2 (f_cuts (f_match (f_begin u))) := GI2_cutsL 1000 (1, _) h2
  have h4 : GI2 (f_count (f_cuts (f_match (f_begin u)))) := GI2_congr (fun j q1 q2 q3 q4 => f_count_1 _ j q3 q4) (f_count_2 _ 5 (by decide)) h3
  refine z_mi (cc := cX1_clear) (maxL := 2) (ret := (some .int)) (by decide) rfl (Nat.le_of_ble_eq_true rfl) ?_
  intro p e s m below meth c A X hr hlk hin
  have hiX1 : ∀ w ∈ wsX10, w ∈ wsX1_clear := by decide +kernel
  refine z_sub (lv' := [(0, .ref (ad 0))]) [0] rfl ?_
  refine z_aload_n X 0 rfl dX1_clear_0 ?_
  refine z_get (v := .int (iZ (u.2 4))) X 1 0 16 hiX1 rfl rfl (by decide) ⟨rfl, rfl, rfl⟩ (by decide +kernel) rfl dX1_clear_1 ?_
  refine z_sipush X (by decide) dX1_clear_4 ?_
  refine z_icmp_lt (tgt := 20) X ⟨by omega, by omega⟩ ⟨by omega, by omega⟩ (by decide) dX1_clear_7 (fun c_1 => ?_) (fun c_1 => ?_)
  · skip
    refine z_aload_n X 0 rfl dX1_clear_20 ?_
    refine z_callv X (c_X1_beginClearing l D ad cI cZ cL u ) (cwV 0 X.2.2.2.2.1 gX1_clear_X1_beginClearing rfl rfl rfl (by decide +kernel) ⟨Nat.le_of_ble_eq_true rfl, Nat.le_of_ble_eq_true rfl⟩) rfl [] [] (List.append_nil _).symm 1 0 rfl rfl [] rfl (Nat.le_of_ble_eq_true rfl) dX1_clear_21 ⟨Nat.le_of_ble_eq_true rfl, Nat.le_of_ble_eq_true rfl⟩ (List.append_nil _) ?_
    refine z_aload_n X 0 rfl dX1_clear_24 ?_
    refine z_callv X (c_X1_matchBuyers l D ad cI cZ cL (f_begin u) h1) (cwV 0 X.2.2.2.2.1 gX1_clear_X1_matchBuyers rfl rfl rfl (by decide +kernel) ⟨Nat.le_of_ble_eq_true rfl, Nat.le_of_ble_eq_true rfl⟩) rfl [] [] (List.append_nil _).symm 1 0 rfl rfl [] rfl (Nat.le_of_ble_eq_true rfl) dX1_clear_25 ⟨Nat.le_of_ble_eq_true rfl, Nat.le_of_ble_eq_true rfl⟩ (List.append_nil _) ?_
    refine z_aload_n X 0 rfl dX1_clear_28 ?_
    refine z_callv X (c_X1_cutOverLimits l D ad cI cZ cL (f_match (f_begin u)) h2) (cwV 0 X.2.2.2.2.1 gX1_clear_X1_cutOverLimits rfl rfl rfl (by decide +kernel) ⟨Nat.le_of_ble_eq_true rfl, Nat.le_of_ble_eq_true rfl⟩) rfl [] [] (List.append_nil _).symm 1 0 rfl rfl [] rfl (Nat.le_of_ble_eq_true rfl) dX1_clear_29 ⟨Nat.le_of_ble_eq_true rfl, Nat.le_of_ble_eq_true rfl⟩ (List.append_nil _) ?_
    refine z_aload_n X 0 rfl dX1_clear_32 ?_
    refine z_callv X (c_X1_countTrades l D ad cI cZ cL (f_cuts (f_match (f_begin u))) h3) (cwV 0 X.2.2.2.2.1 gX1_clear_X1_countTrades rfl rfl rfl (by decide +kernel) ⟨Nat.le_of_ble_eq_true rfl, Nat.le_of_ble_eq_true rfl⟩) rfl [] [] (List.append_nil _).symm 1 0 rfl rfl [] rfl (Nat.le_of_ble_eq_true rfl) dX1_clear_33 ⟨Nat.le_of_ble_eq_true rfl, Nat.le_of_ble_eq_true rfl⟩ (List.append_nil _) ?_
    refine z_iconst X dX1_clear_36 ?_
    refine z_istore_n X [1, 0] [(0, .ref (ad 0)), (1, .int (iZ 0))] rfl (Nat.le_of_ble_eq_true rfl) dX1_clear_37 ?_
    refine zfor_ind 6 6 (rfl) (f_house) (f_count (f_cuts (f_match (f_begin u)))) (fun (i_38 : Int) (a_38 : GS) => zW p l e ({ frames := 6, cells := 0, slots := 0, locals := 113 } : Room) s m ([.ref (ad 0)] : List Value).toArray below meth c 2 D A 0 0 (MQ below (zPi D (zT cI cZ cL) (Gw ad cI cZ (f_clearU u)) ((f_clearU u).1 10 0) A) ([.ref (ad 0)] : List Value).toArray s 0 0 A) (Gw ad cI cZ a_38) 38 [(0, .ref (ad 0)), (1, .int (iZ i_38))] []) ?_ ?_
    · intro a_38 ha_38
      have hg_38 := GI3_housek h4.to3 6 (by omega)
      rw [← ha_38] at hg_38
      refine z_iload_n X 1 rfl dX1_clear_38 ?_
      refine z_bipush X (by decide) dX1_clear_39 ?_
      refine z_icmp_ge (tgt := 86) X ⟨by omega, by omega⟩ ⟨by omega, by omega⟩ (by decide) dX1_clear_41 (fun c_2 => ?_) (fun c_2 => ?_)
      · skip
        refine z_aload_n X 0 rfl dX1_clear_86 ?_
        refine z_callv X (c_X1_beginNextQuarter l D ad cI cZ cL a_38 ) (cwV 0 X.2.2.2.2.1 gX1_clear_X1_beginNextQuarter rfl rfl rfl (by decide +kernel) ⟨Nat.le_of_ble_eq_true rfl, Nat.le_of_ble_eq_true rfl⟩) rfl [] [] (List.append_nil _).symm 1 0 rfl rfl [] rfl (Nat.le_of_ble_eq_true rfl) dX1_clear_87 ⟨Nat.le_of_ble_eq_true rfl, Nat.le_of_ble_eq_true rfl⟩ (List.append_nil _) ?_
        refine z_aload_n X 0 rfl dX1_clear_90 ?_
        refine z_get (v := .ref (ad 11)) X 1 0 10 hiX1 rfl rfl (by decide) ⟨rfl, rfl, rfl⟩ (by decide +kernel) rfl dX1_clear_91 ?_
        refine z_iconst X dX1_clear_94 ?_
        refine z_iald (g := (f_next a_38).1 10) X 11 0 rfl rfl (by omega) (by omega) ⟨by omega, by omega⟩ dX1_clear_95 ?_
        exact z_iret X hr hlk (by rw [ha_38]; rfl) (congrArg (Gw ad cI cZ) (by rw [ha_38]; rfl)) dX1_clear_96
      · exact absurd c_2 (by omega)
    · intro i_38 k_38 a_38 hi_38 h0i_38 h1i_38 ha_38 hk_38
      have hg_38 := GI3_housek h4.to3 k_38 (by omega)
      rw [← ha_38] at hg_38
      rw [← hi_38] at hg_38
      have hh_38 := GI3_house h0i_38 hg_38
      have hp_38 : ∀ q, 0 ≤ (f_settle a_38 i_38).1 4 q := fun q => by have := hh_38.1.1.2.2.2.2.2.1 q; omega
      refine z_iload_n X 1 rfl dX1_clear_38 ?_
      refine z_bipush X (by decide) dX1_clear_39 ?_
      refine z_icmp_ge (tgt := 86) X ⟨by omega, by omega⟩ ⟨by omega, by omega⟩ (by decide) dX1_clear_41 (fun c_3 => ?_) (fun c_3 => ?_)
      · exact absurd c_3 (by omega)
      · skip
        refine z_aload_n X 0 rfl dX1_clear_44 ?_
        refine z_iload_n X 1 rfl dX1_clear_45 ?_
        refine z_callv X (c_X1_settleTrades l D ad cI cZ cL a_38 i_38 (by omega) hg_38) (cwV 1 X.2.2.2.2.1 gX1_clear_X1_settleTrades rfl rfl rfl (by decide +kernel) ⟨Nat.le_of_ble_eq_true rfl, Nat.le_of_ble_eq_true rfl⟩) rfl [] [] (List.append_nil _).symm 1 0 rfl rfl [] rfl (Nat.le_of_ble_eq_true rfl) dX1_clear_46 ⟨Nat.le_of_ble_eq_true rfl, Nat.le_of_ble_eq_true rfl⟩ (List.append_nil _) ?_
        refine z_aload_n X 0 rfl dX1_clear_49 ?_
        refine z_iload_n X 1 rfl dX1_clear_50 ?_
        refine z_callv X (c_X1_useBattery l D ad cI cZ cL (f_settle a_38 i_38) i_38 (by omega) hh_38.1.bd hp_38) (cwV 1 X.2.2.2.2.1 gX1_clear_X1_useBattery rfl rfl rfl (by decide +kernel) ⟨Nat.le_of_ble_eq_true rfl, Nat.le_of_ble_eq_true rfl⟩) rfl [] [] (List.append_nil _).symm 1 0 rfl rfl [] rfl (Nat.le_of_ble_eq_true rfl) dX1_clear_51 ⟨Nat.le_of_ble_eq_true rfl, Nat.le_of_ble_eq_true rfl⟩ (List.append_nil _) ?_
        refine z_aload_n X 0 rfl dX1_clear_54 ?_
        refine z_iload_n X 1 rfl dX1_clear_55 ?_
        refine z_callv X (c_X1_settleWithSupplier l D ad cI cZ cL (f_battery (f_settle a_38 i_38) i_38) i_38 (by omega) hh_38.2.1.bd) (cwV 1 X.2.2.2.2.1 gX1_clear_X1_settleWithSupplier rfl rfl rfl (by decide +kernel) ⟨Nat.le_of_ble_eq_true rfl, Nat.le_of_ble_eq_true rfl⟩) rfl [] [] (List.append_nil _).symm 1 0 rfl rfl [] rfl (Nat.le_of_ble_eq_true rfl) dX1_clear_56 ⟨Nat.le_of_ble_eq_true rfl, Nat.le_of_ble_eq_true rfl⟩ (List.append_nil _) ?_
        have hB9 := hh_38.2.2.1.bd
        generalize hv9 : f_supplier (f_battery (f_settle a_38 i_38) i_38) i_38 = v9 at hB9 ⊢
        refine z_aload_n X 0 rfl dX1_clear_59 ?_
        refine z_iload_n X 1 rfl dX1_clear_60 ?_
        refine z_aload_n X 0 rfl dX1_clear_61 ?_
        refine z_get (v := .ref (ad 3)) X 1 0 2 hiX1 rfl rfl (by decide) ⟨rfl, rfl, rfl⟩ (by decide +kernel) rfl dX1_clear_62 ?_
        refine z_iload_n X 1 rfl dX1_clear_65 ?_
        refine z_iald (g := v9.1 2) X 3 0 rfl rfl (by omega) (by omega) ⟨by omega, by omega⟩ dX1_clear_66 ?_
        have b_4 := hB9 2 rfl i_38
        refine z_aload_n X 0 rfl dX1_clear_67 ?_
        refine z_get (v := .ref (ad 2)) X 1 0 1 hiX1 rfl rfl (by decide) ⟨rfl, rfl, rfl⟩ (by decide +kernel) rfl dX1_clear_68 ?_
        refine z_iload_n X 1 rfl dX1_clear_71 ?_
        refine z_iald (g := v9.1 1) X 2 0 rfl rfl (by omega) (by omega) ⟨by omega, by omega⟩ dX1_clear_72 ?_
        have b_5 := hB9 1 rfl i_38
        refine z_isub X dX1_clear_73 ?_
        refine z_abs X ⟨by omega, by omega⟩ (by decide +kernel) (by decide +kernel) (by decide +kernel) (by decide +kernel) ⟨Nat.le_of_ble_eq_true rfl, Nat.le_of_ble_eq_true rfl, Nat.le_of_ble_eq_true rfl, Nat.le_of_ble_eq_true rfl⟩ dX1_clear_74 ?_
        have m_6 := zabs_sp ((v9.1 2 i_38) - (v9.1 1 i_38))
        refine z_callv X (c_X1_payPool l D ad cI cZ cL v9 i_38 (zabs ((v9.1 2 i_38) - (v9.1 1 i_38))) (by omega)) (cwV 2 X.2.2.2.2.1 gX1_clear_X1_payPool rfl rfl rfl (by decide +kernel) ⟨Nat.le_of_ble_eq_true rfl, Nat.le_of_ble_eq_true rfl⟩) rfl [] [] (List.append_nil _).symm 1 0 rfl rfl [] rfl (Nat.le_of_ble_eq_true rfl) dX1_clear_77 ⟨Nat.le_of_ble_eq_true rfl, Nat.le_of_ble_eq_true rfl⟩ (List.append_nil _) ?_
        refine z_iinc X 1 [1, 0] [(0, .ref (ad 0)), (1, .int (iZ (i_38 + 1)))] rfl rfl (Nat.le_of_ble_eq_true rfl) dX1_clear_80 ?_
        refine z_goto (tgt := 38) X (by decide) dX1_clear_83 ?_
        exact z_eq (congrArg (Gw ad cI cZ) (show f_house i_38 a_38 = f_pay v9 i_38 (zabs ((v9.1 2 i_38) - (v9.1 1 i_38))) from (by rw [← hv9]; rfl))) rfl hk_38
  · exact absurd c_1 (by omega)
