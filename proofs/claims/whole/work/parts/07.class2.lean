set_option maxHeartbeats 4000000 in
set_option maxRecDepth 100000 in
theorem c_X1_serveBuyer (l : Launch) (D : va_G) (ad : Nat → Nat) (cI cZ cL : ClassId) (u : GS) (b : Int) (h0 : 0 ≤ b ∧ b ≤ 5) (hI : GI1 u) : zMv l D (zT cI cZ cL) yX1_serveBuyer wsX1_serveBuyer ({ frames := 3, cells := 0, slots := 0, locals := 67 } : Room) (Gw ad cI cZ u) [.ref (ad 0), .int (iZ b)] (Gw ad cI cZ (f_serve b 6 u)) 0 0 := by
  refine z_mv (cc := cX1_serveBuyer) (maxL := 5) (ret := none) (by decide) rfl (Nat.le_of_ble_eq_true rfl) ?_
  intro p e s m below meth c A X hr hlk hin
  have hiX1 : ∀ w ∈ wsX10, w ∈ wsX1_serveBuyer := by decide +kernel
  refine z_sub (lv' := [(0, .ref (ad 0)), (1, .int (iZ b))]) [0, 1] rfl ?_
  refine z_iconst X dX1_serveBuyer_0 ?_
  refine z_istore_n X [1, 2, 0] [(0, .ref (ad 0)), (1, .int (iZ b)), (2, .int (iZ 0))] rfl (Nat.le_of_ble_eq_true rfl) dX1_serveBuyer_1 ?_
  suffices H_2 : ∀ (n_2 : Nat) (v_2 : GS) (i_2 : Int), (i_2 = 6 - ((n_2 : Nat) : Int) ∧ ((n_2 : Nat) : Int) ≤ 6 ∧ GI1 v_2) → (f_serve b n_2 v_2 = f_serve b 6 u) → zW p l e ({ frames := 3, cells := 0, slots := 0, locals := 67 } : Room) s m ([.ref (ad 0), .int (iZ b)] : List Value).toArray below meth c 5 D A 0 0 (MQ below (zPv D (zT cI cZ cL) (Gw ad cI cZ (f_serve b 6 u)) A) ([.ref (ad 0), .int (iZ b)] : List Value).toArray s 0 0 A) (Gw ad cI cZ v_2) 2 [(0, .ref (ad 0)), (1, .int (iZ b)), (2, .int (iZ i_2))] [] from H_2 6 u 0 ⟨by omega, by omega, hI⟩ rfl
  intro n_2
  induction n_2 with
  | zero =>
    intro v_2 i_2 hI_2 hF_2
    have hB_2 := hI_2.2.2.bd
    have hP_2 := hI_2.2.2.1.2.2.2.1
    have hi_2 := hI_2.1
    refine z_iload_n X 2 rfl dX1_serveBuyer_2 ?_
    refine z_bipush X (by decide) dX1_serveBuyer_3 ?_
    refine z_icmp_ge (tgt := 100) X ⟨by omega, by omega⟩ ⟨by omega, by omega⟩ (by decide) dX1_serveBuyer_5 (fun c_1 => ?_) (fun c_1 => ?_)
    · skip
      exact z_vret X hr hlk (congrArg (Gw ad cI cZ) (show v_2 = f_serve b 6 u from (by rw [← hF_2]; simp only [f_serve] <;> repeat' (first | with_reducible rfl | omega | split)))) dX1_serveBuyer_100
    · exact absurd c_1 (by omega)
  | succ n_2 ih_2 =>
    intro v_2 i_2 hI_2 hF_2
    have hB_2 := hI_2.2.2.bd
    have hP_2 := hI_2.2.2.1.2.2.2.1
    have hi_2 := hI_2.1
    have hj_2 := hI_2.2.1
    refine z_iload_n X 2 rfl dX1_serveBuyer_2 ?_
    refine z_bipush X (by decide) dX1_serveBuyer_3 ?_
    refine z_icmp_ge (tgt := 100) X ⟨by omega, by omega⟩ ⟨by omega, by omega⟩ (by decide) dX1_serveBuyer_5 (fun c_2 => ?_) (fun c_2 => ?_)
    · skip
      exact z_vret X hr hlk (congrArg (Gw ad cI cZ) (show v_2 = f_serve b 6 u from (by rw [← hF_2]; simp only [f_serve] <;> repeat' (first | with_reducible rfl | omega | split)))) dX1_serveBuyer_100
    · skip
      refine z_aload_n X 0 rfl dX1_serveBuyer_8 ?_
      refine z_get (v := .ref (ad 8)) X 1 0 7 hiX1 rfl rfl (by decide) ⟨rfl, rfl, rfl⟩ (by decide +kernel) rfl dX1_serveBuyer_9 ?_
      refine z_iload_n X 1 rfl dX1_serveBuyer_12 ?_
      refine z_iald (g := v_2.1 7) X 8 0 rfl rfl (by omega) (by omega) ⟨by omega, by omega⟩ dX1_serveBuyer_13 ?_
      have b_3 := hB_2 7 rfl b
      refine z_if_ge (tgt := 100) X ⟨by omega, by omega⟩ (by decide) dX1_serveBuyer_14 (fun c_4 => ?_) (fun c_4 => ?_)
      · skip
        exact z_vret X hr hlk (congrArg (Gw ad cI cZ) (show v_2 = f_serve b 6 u from (by rw [← hF_2]; simp only [f_serve] <;> repeat' (first | with_reducible rfl | omega | split)))) dX1_serveBuyer_100
      · skip
        refine z_aload_n X 0 rfl dX1_serveBuyer_17 ?_
        refine z_iload_n X 1 rfl dX1_serveBuyer_18 ?_
        refine z_calli X (c_X1_bestSeller l D ad cI cZ cL v_2 b (by omega) hB_2) (cwV 1 X.2.2.2.2.1 gX1_serveBuyer_X1_bestSeller rfl rfl rfl (by decide +kernel) ⟨Nat.le_of_ble_eq_true rfl, Nat.le_of_ble_eq_true rfl⟩) rfl [] [] (List.append_nil _).symm 1 0 rfl rfl [] rfl (Nat.le_of_ble_eq_true rfl) dX1_serveBuyer_19 ⟨Nat.le_of_ble_eq_true rfl, Nat.le_of_ble_eq_true rfl⟩ (List.append_nil _) ?_
        have hsp := f_best_spec (v_2.1 7) (v_2.1 3) b
        refine z_istore_n X [1, 2, 3, 0] [(0, .ref (ad 0)), (1, .int (iZ b)), (2, .int (iZ i_2)), (3, .int (iZ (f_best (v_2.1 7) (v_2.1 3) b)))] rfl (Nat.le_of_ble_eq_true rfl) dX1_serveBuyer_22 ?_
        refine z_iload_n X 3 rfl dX1_serveBuyer_23 ?_
        refine z_if_ge (tgt := 28) X ⟨by omega, by omega⟩ (by decide) dX1_serveBuyer_24 (fun c_5 => ?_) (fun c_5 => ?_)
        · skip
          refine z_aload_n X 0 rfl dX1_serveBuyer_28 ?_
          refine z_get (v := .ref (ad 8)) X 1 0 7 hiX1 rfl rfl (by decide) ⟨rfl, rfl, rfl⟩ (by decide +kernel) rfl dX1_serveBuyer_29 ?_
          refine z_iload_n X 3 rfl dX1_serveBuyer_32 ?_
          refine z_iald (g := v_2.1 7) X 8 0 rfl rfl (by omega) (by omega) ⟨by omega, by omega⟩ dX1_serveBuyer_33 ?_
          have b_6 := hB_2 7 rfl (f_best (v_2.1 7) (v_2.1 3) b)
          refine z_aload_n X 0 rfl dX1_serveBuyer_34 ?_
          refine z_get (v := .ref (ad 8)) X 1 0 7 hiX1 rfl rfl (by decide) ⟨rfl, rfl, rfl⟩ (by decide +kernel) rfl dX1_serveBuyer_35 ?_
          refine z_iload_n X 1 rfl dX1_serveBuyer_38 ?_
          refine z_iald (g := v_2.1 7) X 8 0 rfl rfl (by omega) (by omega) ⟨by omega, by omega⟩ dX1_serveBuyer_39 ?_
          refine z_ineg X dX1_serveBuyer_40 ?_
          refine z_min X ⟨by omega, by omega⟩ ⟨by omega, by omega⟩ (by decide +kernel) (by decide +kernel) (by decide +kernel) (by decide +kernel) ⟨Nat.le_of_ble_eq_true rfl, Nat.le_of_ble_eq_true rfl, Nat.le_of_ble_eq_true rfl, Nat.le_of_ble_eq_true rfl⟩ dX1_serveBuyer_41 ?_
          have m_7 := zmin_sp (v_2.1 7 (f_best (v_2.1 7) (v_2.1 3) b)) (-(v_2.1 7 b))
          refine z_istore X [1, 2, 3, 4, 0] [(0, .ref (ad 0)), (1, .int (iZ b)), (2, .int (iZ i_2)), (3, .int (iZ (f_best (v_2.1 7) (v_2.1 3) b))), (4, .int (iZ (zmin (v_2.1 7 (f_best (v_2.1 7) (v_2.1 3) b)) (-(v_2.1 7 b)))))] rfl (Nat.le_of_ble_eq_true rfl) dX1_serveBuyer_44 ?_
          refine z_aload_n X 0 rfl dX1_serveBuyer_46 ?_
          refine z_get (v := .ref (ad 8)) X 1 0 7 hiX1 rfl rfl (by decide) ⟨rfl, rfl, rfl⟩ (by decide +kernel) rfl dX1_serveBuyer_47 ?_
          refine z_iload_n X 3 rfl dX1_serveBuyer_50 ?_
          refine z_dup2 X rfl rfl dX1_serveBuyer_51 ?_
          refine z_iald (g := v_2.1 7) X 8 0 rfl rfl (by omega) (by omega) ⟨by omega, by omega⟩ dX1_serveBuyer_52 ?_
          refine z_iload X 4 rfl dX1_serveBuyer_53 ?_
          refine z_isub X dX1_serveBuyer_55 ?_
          refine z_iast (g := v_2.1 7) X 8 0 (Gw ad cI cZ (gA v_2 7 (f_best (v_2.1 7) (v_2.1 3) b) ((v_2.1 7 (f_best (v_2.1 7) (v_2.1 3) b)) - (zmin (v_2.1 7 (f_best (v_2.1 7) (v_2.1 3) b)) (-(v_2.1 7 b)))))) rfl rfl (by omega) (by omega) ⟨by omega, by omega⟩ rfl dX1_serveBuyer_56 ?_
          refine z_aload_n X 0 rfl dX1_serveBuyer_57 ?_
          refine z_get (v := .ref (ad 8)) X 1 0 7 hiX1 rfl rfl (by decide) ⟨rfl, rfl, rfl⟩ (by decide +kernel) rfl dX1_serveBuyer_58 ?_
          refine z_iload_n X 1 rfl dX1_serveBuyer_61 ?_
          refine z_dup2 X rfl rfl dX1_serveBuyer_62 ?_
          refine z_iald (g := updZ (v_2.1 7) (f_best (v_2.1 7) (v_2.1 3) b) ((v_2.1 7 (f_best (v_2.1 7) (v_2.1 3) b)) - (zmin (v_2.1 7 (f_best (v_2.1 7) (v_2.1 3) b)) (-(v_2.1 7 b))))) X 8 0 rfl rfl (by omega) (by omega) ⟨by omega, by omega⟩ dX1_serveBuyer_63 ?_
          refine z_iload X 4 rfl dX1_serveBuyer_64 ?_
          refine z_iadd X dX1_serveBuyer_66 ?_
          refine z_iast (g := updZ (v_2.1 7) (f_best (v_2.1 7) (v_2.1 3) b) ((v_2.1 7 (f_best (v_2.1 7) (v_2.1 3) b)) - (zmin (v_2.1 7 (f_best (v_2.1 7) (v_2.1 3) b)) (-(v_2.1 7 b))))) X 8 0 (Gw ad cI cZ (gA (gA v_2 7 (f_best (v_2.1 7) (v_2.1 3) b) ((v_2.1 7 (f_best (v_2.1 7) (v_2.1 3) b)) - (zmin (v_2.1 7 (f_best (v_2.1 7) (v_2.1 3) b)) (-(v_2.1 7 b))))) 7 b (((updZ (v_2.1 7) (f_best (v_2.1 7) (v_2.1 3) b) ((v_2.1 7 (f_best (v_2.1 7) (v_2.1 3) b)) - (zmin (v_2.1 7 (f_best (v_2.1 7) (v_2.1 3) b)) (-(v_2.1 7 b))))) b) + (zmin (v_2.1 7 (f_best (v_2.1 7) (v_2.1 3) b)) (-(v_2.1 7 b)))))) rfl rfl (by omega) (by omega) ⟨by omega, by omega⟩ rfl dX1_serveBuyer_67 ?_
          refine z_aload_n X 0 rfl dX1_serveBuyer_68 ?_
          refine z_get (v := .ref (ad 12)) X 1 0 11 hiX1 rfl rfl (by decide) ⟨rfl, rfl, rfl⟩ (by decide +kernel) rfl dX1_serveBuyer_69 ?_
          refine z_iload_n X 3 rfl dX1_serveBuyer_72 ?_
          refine z_iload_n X 1 rfl dX1_serveBuyer_73 ?_
          refine z_iload X 4 rfl dX1_serveBuyer_74 ?_
          refine z_aload_n X 0 rfl dX1_serveBuyer_76 ?_
          refine z_get (v := .ref (ad 4)) X 1 0 3 hiX1 rfl rfl (by decide) ⟨rfl, rfl, rfl⟩ (by decide +kernel) rfl dX1_serveBuyer_77 ?_
          refine z_iload_n X 3 rfl dX1_serveBuyer_80 ?_
          refine z_iald (g := v_2.1 3) X 4 0 rfl rfl (by omega) (by omega) ⟨by omega, by omega⟩ dX1_serveBuyer_81 ?_
          have b_8 := hB_2 3 rfl (f_best (v_2.1 7) (v_2.1 3) b)
          have b_9 := hP_2 (f_best (v_2.1 7) (v_2.1 3) b)
          refine z_aload_n X 0 rfl dX1_serveBuyer_82 ?_
          refine z_get (v := .ref (ad 4)) X 1 0 3 hiX1 rfl rfl (by decide) ⟨rfl, rfl, rfl⟩ (by decide +kernel) rfl dX1_serveBuyer_83 ?_
          refine z_iload_n X 1 rfl dX1_serveBuyer_86 ?_
          refine z_iald (g := v_2.1 3) X 4 0 rfl rfl (by omega) (by omega) ⟨by omega, by omega⟩ dX1_serveBuyer_87 ?_
          have b_10 := hB_2 3 rfl b
          have b_11 := hP_2 b
          refine z_iadd X dX1_serveBuyer_88 ?_
          refine z_iconst X dX1_serveBuyer_89 ?_
          refine z_idiv X (by omega) ⟨by omega, by omega⟩ (by decide) ⟨by decide, by decide⟩ dX1_serveBuyer_90 ?_
          refine z_callNv (C := RX0) X (c_X0_add l D ad cI cZ cL (gA (gA v_2 7 (f_best (v_2.1 7) (v_2.1 3) b) ((v_2.1 7 (f_best (v_2.1 7) (v_2.1 3) b)) - (zmin (v_2.1 7 (f_best (v_2.1 7) (v_2.1 3) b)) (-(v_2.1 7 b))))) 7 b (((updZ (v_2.1 7) (f_best (v_2.1 7) (v_2.1 3) b) ((v_2.1 7 (f_best (v_2.1 7) (v_2.1 3) b)) - (zmin (v_2.1 7 (f_best (v_2.1 7) (v_2.1 3) b)) (-(v_2.1 7 b))))) b) + (zmin (v_2.1 7 (f_best (v_2.1 7) (v_2.1 3) b)) (-(v_2.1 7 b))))) (f_best (v_2.1 7) (v_2.1 3) b) b (zmin (v_2.1 7 (f_best (v_2.1 7) (v_2.1 3) b)) (-(v_2.1 7 b))) (((v_2.1 3 (f_best (v_2.1 7) (v_2.1 3) b)) + (v_2.1 3 b)) / 2) ⟨hI_2.2.2.2.1.1, hI_2.2.2.2.1.2.1⟩) ⟨va_cnB 4 X.2.2.2.2.1 gX1_serveBuyer_X0_add_n178 rfl rfl rfl (X.2.2.2.2.2.2.2.1.m178) (X.2.2.2.2.1 _ (by decide +kernel)) (by decide +kernel) ⟨Nat.le_of_ble_eq_true rfl, Nat.le_of_ble_eq_true rfl⟩, X.2.2.2.2.1 _ (by decide +kernel), X.2.2.2.2.1 _ (by decide +kernel)⟩ rfl (Gp ad cI cZ (gA (gA v_2 7 (f_best (v_2.1 7) (v_2.1 3) b) ((v_2.1 7 (f_best (v_2.1 7) (v_2.1 3) b)) - (zmin (v_2.1 7 (f_best (v_2.1 7) (v_2.1 3) b)) (-(v_2.1 7 b))))) 7 b (((updZ (v_2.1 7) (f_best (v_2.1 7) (v_2.1 3) b) ((v_2.1 7 (f_best (v_2.1 7) (v_2.1 3) b)) - (zmin (v_2.1 7 (f_best (v_2.1 7) (v_2.1 3) b)) (-(v_2.1 7 b))))) b) + (zmin (v_2.1 7 (f_best (v_2.1 7) (v_2.1 3) b)) (-(v_2.1 7 b)))))) [] rfl 0 12 rfl rfl [] rfl (Nat.le_of_ble_eq_true rfl) dX1_serveBuyer_91 ⟨Nat.le_of_ble_eq_true rfl, Nat.le_of_ble_eq_true rfl⟩ (by rw [Gp_congr (u := (gA (gA v_2 7 (f_best (v_2.1 7) (v_2.1 3) b) ((v_2.1 7 (f_best (v_2.1 7) (v_2.1 3) b)) - (zmin (v_2.1 7 (f_best (v_2.1 7) (v_2.1 3) b)) (-(v_2.1 7 b))))) 7 b (((updZ (v_2.1 7) (f_best (v_2.1 7) (v_2.1 3) b) ((v_2.1 7 (f_best (v_2.1 7) (v_2.1 3) b)) - (zmin (v_2.1 7 (f_best (v_2.1 7) (v_2.1 3) b)) (-(v_2.1 7 b))))) b) + (zmin (v_2.1 7 (f_best (v_2.1 7) (v_2.1 3) b)) (-(v_2.1 7 b)))))) (v := f_add (gA (gA v_2 7 (f_best (v_2.1 7) (v_2.1 3) b) ((v_2.1 7 (f_best (v_2.1 7) (v_2.1 3) b)) - (zmin (v_2.1 7 (f_best (v_2.1 7) (v_2.1 3) b)) (-(v_2.1 7 b))))) 7 b (((updZ (v_2.1 7) (f_best (v_2.1 7) (v_2.1 3) b) ((v_2.1 7 (f_best (v_2.1 7) (v_2.1 3) b)) - (zmin (v_2.1 7 (f_best (v_2.1 7) (v_2.1 3) b)) (-(v_2.1 7 b))))) b) + (zmin (v_2.1 7 (f_best (v_2.1 7) (v_2.1 3) b)) (-(v_2.1 7 b))))) (f_best (v_2.1 7) (v_2.1 3) b) b (zmin (v_2.1 7 (f_best (v_2.1 7) (v_2.1 3) b)) (-(v_2.1 7 b))) (((v_2.1 3 (f_best (v_2.1 7) (v_2.1 3) b)) + (v_2.1 3 b)) / 2)) (fun j h => (f_add_1 _ _ _ _ _ j (by omega)).symm) (fun j h => (f_add_2 _ _ _ _ _ j (by omega)).symm)] <;> rfl) ?_
          refine z_iinc X 2 [1, 2, 0, 3, 4] [(0, .ref (ad 0)), (1, .int (iZ b)), (2, .int (iZ (i_2 + 1))), (3, .int (iZ (f_best (v_2.1 7) (v_2.1 3) b))), (4, .int (iZ (zmin (v_2.1 7 (f_best (v_2.1 7) (v_2.1 3) b)) (-(v_2.1 7 b)))))] rfl rfl (Nat.le_of_ble_eq_true rfl) dX1_serveBuyer_94 ?_
          refine z_goto (tgt := 2) X (by decide) dX1_serveBuyer_97 ?_
          refine z_sub (lv' := [(0, .ref (ad 0)), (1, .int (iZ b)), (2, .int (iZ (i_2 + 1)))]) [0, 1, 2] rfl ?_
          exact ih_2 (f_trade v_2 (f_best (v_2.1 7) (v_2.1 3) b) b) (i_2 + 1) ⟨by omega, by omega, GI1_trade hI_2.2.2 (by omega) h0 (by omega) (by omega)⟩ (by rw [← hF_2]; simp only [f_serve] <;> repeat' (first | with_reducible rfl | omega | split))
        · skip
          exact z_vret X hr hlk (congrArg (Gw ad cI cZ) (show v_2 = f_serve b 6 u from (by rw [← hF_2]; simp only [f_serve] <;> repeat' (first | with_reducible rfl | omega | split)))) dX1_serveBuyer_27
set_option maxHeartbeats 4000000 in
set_option maxRecDepth 100000 in
theorem c_X1_matchBuyers (l : Launch) (D : va_G) (ad : Nat → Nat) (cI cZ cL : ClassId) (u : GS) (hI : GI1 u) : zMv l D (zT cI cZ cL) yX1_matchBuyers wsX1_matchBuyers ({ frames := 4, cells := 0, slots := 0, locals := 91 } : Room) (Gw ad cI cZ u) [.ref (ad 0)] (Gw ad cI cZ (f_match u)) 0 0 := by
  refine z_mv (cc := cX1_matchBuyers) (maxL := 3) (ret := none) (by decide) rfl (Nat.le_of_ble_eq_true rfl) ?_
  intro p e s m below meth c A X hr hlk hin
  have hiX1 : ∀ w ∈ wsX10, w ∈ wsX1_matchBuyers := by decide +kernel
  refine z_sub (lv' := [(0, .ref (ad 0))]) [0] rfl ?_
  refine z_iconst X dX1_matchBuyers_0 ?_
  refine z_istore_n X [1, 0] [(0, .ref (ad 0)), (1, .int (iZ 0))] rfl (Nat.le_of_ble_eq_true rfl) dX1_matchBuyers_1 ?_
  refine zfor_ind 6 6 (rfl) (f_matchO) u (fun (i_2 : Int) (a_2 : GS) => zW p l e ({ frames := 4, cells := 0, slots := 0, locals := 91 } : Room) s m ([.ref (ad 0)] : List Value).toArray below meth c 3 D A 0 0 (MQ below (zPv D (zT cI cZ cL) (Gw ad cI cZ (f_match u)) A) ([.ref (ad 0)] : List Value).toArray s 0 0 A) (Gw ad cI cZ a_2) 2 [(0, .ref (ad 0)), (1, .int (iZ i_2))] []) ?_ ?_
  · intro a_2 ha_2
    have hIo : GI1 a_2 := by rw [ha_2]; exact GI1_matchOk hI 6 (by omega)
    refine z_iload_n X 1 rfl dX1_matchBuyers_2 ?_
    refine z_bipush X (by decide) dX1_matchBuyers_3 ?_
    refine z_icmp_ge (tgt := 51) X ⟨by omega, by omega⟩ ⟨by omega, by omega⟩ (by decide) dX1_matchBuyers_5 (fun c_1 => ?_) (fun c_1 => ?_)
    · skip
      exact z_vret X hr hlk (congrArg (Gw ad cI cZ) ha_2) dX1_matchBuyers_51
    · exact absurd c_1 (by omega)
  · intro i_2 k_2 a_2 hi_2 h0i_2 h1i_2 ha_2 hk_2
    have hIo : GI1 a_2 := by rw [ha_2]; exact GI1_matchOk hI k_2 (by omega)
    refine z_iload_n X 1 rfl dX1_matchBuyers_2 ?_
    refine z_bipush X (by decide) dX1_matchBuyers_3 ?_
    refine z_icmp_ge (tgt := 51) X ⟨by omega, by omega⟩ ⟨by omega, by omega⟩ (by decide) dX1_matchBuyers_5 (fun c_2 => ?_) (fun c_2 => ?_)
    · exact absurd c_2 (by omega)
    · skip
      refine z_iconst X dX1_matchBuyers_8 ?_
      refine z_istore_n X [1, 2, 0] [(0, .ref (ad 0)), (1, .int (iZ i_2)), (2, .int (iZ 0))] rfl (Nat.le_of_ble_eq_true rfl) dX1_matchBuyers_9 ?_
      refine zfor_ind 6 6 (rfl) (f_matchI i_2) a_2 (fun (i_10 : Int) (a_10 : GS) => zW p l e ({ frames := 4, cells := 0, slots := 0, locals := 91 } : Room) s m ([.ref (ad 0)] : List Value).toArray below meth c 3 D A 0 0 (MQ below (zPv D (zT cI cZ cL) (Gw ad cI cZ (f_match u)) A) ([.ref (ad 0)] : List Value).toArray s 0 0 A) (Gw ad cI cZ a_10) 10 [(0, .ref (ad 0)), (1, .int (iZ i_2)), (2, .int (iZ i_10))] []) ?_ ?_
      · intro a_10 ha_10
        have hIi : GI1 a_10 := by rw [ha_10]; exact GI1_matchIk hIo 6 (by omega)
        have hBi := hIi.bd
        refine z_iload_n X 2 rfl dX1_matchBuyers_10 ?_
        refine z_bipush X (by decide) dX1_matchBuyers_11 ?_
        refine z_icmp_ge (tgt := 45) X ⟨by omega, by omega⟩ ⟨by omega, by omega⟩ (by decide) dX1_matchBuyers_13 (fun c_3 => ?_) (fun c_3 => ?_)
        · skip
          refine z_iinc X 1 [1, 0, 2] [(0, .ref (ad 0)), (1, .int (iZ (i_2 + 1))), (2, .int (iZ 6))] rfl rfl (Nat.le_of_ble_eq_true rfl) dX1_matchBuyers_45 ?_
          refine z_goto (tgt := 2) X (by decide) dX1_matchBuyers_48 ?_
          refine z_sub (lv' := [(0, .ref (ad 0)), (1, .int (iZ (i_2 + 1)))]) [0, 1] rfl ?_
          exact z_eq (congrArg (Gw ad cI cZ) (show f_matchO i_2 a_2 = a_10 from (by rw [ha_10]; rfl))) rfl hk_2
        · exact absurd c_3 (by omega)
      · intro i_10 k_10 a_10 hi_10 h0i_10 h1i_10 ha_10 hk_10
        have hIi : GI1 a_10 := by rw [ha_10]; exact GI1_matchIk hIo k_10 (by omega)
        have hBi := hIi.bd
        refine z_iload_n X 2 rfl dX1_matchBuyers_10 ?_
        refine z_bipush X (by decide) dX1_matchBuyers_11 ?_
        refine z_icmp_ge (tgt := 45) X ⟨by omega, by omega⟩ ⟨by omega, by omega⟩ (by decide) dX1_matchBuyers_13 (fun c_4 => ?_) (fun c_4 => ?_)
        · exact absurd c_4 (by omega)
        · skip
          refine z_aload_n X 0 rfl dX1_matchBuyers_16 ?_
          refine z_get (v := .ref (ad 8)) X 1 0 7 hiX1 rfl rfl (by decide) ⟨rfl, rfl, rfl⟩ (by decide +kernel) rfl dX1_matchBuyers_17 ?_
          refine z_iload_n X 2 rfl dX1_matchBuyers_20 ?_
          refine z_iald (g := a_10.1 7) X 8 0 rfl rfl (by omega) (by omega) ⟨by omega, by omega⟩ dX1_matchBuyers_21 ?_
          have b_5 := hBi 7 rfl i_10
          refine z_if_ge (tgt := 39) X ⟨by omega, by omega⟩ (by decide) dX1_matchBuyers_22 (fun c_6 => ?_) (fun c_6 => ?_)
          · skip
            refine z_iinc X 2 [1, 2, 0] [(0, .ref (ad 0)), (1, .int (iZ i_2)), (2, .int (iZ (i_10 + 1)))] rfl rfl (Nat.le_of_ble_eq_true rfl) dX1_matchBuyers_39 ?_
            refine z_goto (tgt := 10) X (by decide) dX1_matchBuyers_42 ?_
            exact z_eq (congrArg (Gw ad cI cZ) (show (f_matchI i_2) i_10 a_10 = a_10 from (by simp only [f_matchI] <;> repeat' (first | with_reducible rfl | omega | split)))) rfl hk_10
          · skip
            refine z_aload_n X 0 rfl dX1_matchBuyers_25 ?_
            refine z_iload_n X 2 rfl dX1_matchBuyers_26 ?_
            refine z_calli X (c_X1_rankOf l D ad cI cZ cL a_10 i_10 (by omega) hBi) (cwV 1 X.2.2.2.2.1 gX1_matchBuyers_X1_rankOf rfl rfl rfl (by decide +kernel) ⟨Nat.le_of_ble_eq_true rfl, Nat.le_of_ble_eq_true rfl⟩) rfl [] [] (List.append_nil _).symm 1 0 rfl rfl [] rfl (Nat.le_of_ble_eq_true rfl) dX1_matchBuyers_27 ⟨Nat.le_of_ble_eq_true rfl, Nat.le_of_ble_eq_true rfl⟩ (List.append_nil _) ?_
            have r_7 := f_rankk (a_10.1 3) i_10 6 (by omega)
            have r_8 : f_rank (a_10.1 3) i_10 = zfor 6 (f_rankS (a_10.1 3) i_10) 0 := rfl
            refine z_iload_n X 1 rfl dX1_matchBuyers_30 ?_
            refine z_icmp_ne (tgt := 39) X ⟨by omega, by omega⟩ ⟨by omega, by omega⟩ (by decide) dX1_matchBuyers_31 (fun c_9 => ?_) (fun c_9 => ?_)
            · skip
              refine z_iinc X 2 [1, 2, 0] [(0, .ref (ad 0)), (1, .int (iZ i_2)), (2, .int (iZ (i_10 + 1)))] rfl rfl (Nat.le_of_ble_eq_true rfl) dX1_matchBuyers_39 ?_
              refine z_goto (tgt := 10) X (by decide) dX1_matchBuyers_42 ?_
              exact z_eq (congrArg (Gw ad cI cZ) (show (f_matchI i_2) i_10 a_10 = a_10 from (by simp only [f_matchI] <;> repeat' (first | with_reducible rfl | omega | split)))) rfl hk_10
            · skip
              refine z_aload_n X 0 rfl dX1_matchBuyers_34 ?_
              refine z_iload_n X 2 rfl dX1_matchBuyers_35 ?_
              refine z_callv X (c_X1_serveBuyer l D ad cI cZ cL a_10 i_10 (by omega) hIi) (cwV 1 X.2.2.2.2.1 gX1_matchBuyers_X1_serveBuyer rfl rfl rfl (by decide +kernel) ⟨Nat.le_of_ble_eq_true rfl, Nat.le_of_ble_eq_true rfl⟩) rfl [] [] (List.append_nil _).symm 1 0 rfl rfl [] rfl (Nat.le_of_ble_eq_true rfl) dX1_matchBuyers_36 ⟨Nat.le_of_ble_eq_true rfl, Nat.le_of_ble_eq_true rfl⟩ (List.append_nil _) ?_
              refine z_iinc X 2 [1, 2, 0] [(0, .ref (ad 0)), (1, .int (iZ i_2)), (2, .int (iZ (i_10 + 1)))] rfl rfl (Nat.le_of_ble_eq_true rfl) dX1_matchBuyers_39 ?_
              refine z_goto (tgt := 10) X (by decide) dX1_matchBuyers_42 ?_
              exact z_eq (congrArg (Gw ad cI cZ) (show (f_matchI i_2) i_10 a_10 = f_serve i_10 6 a_10 from (by simp only [f_matchI] <;> repeat' (first | with_reducible rfl | omega | split)))) rfl hk_10
