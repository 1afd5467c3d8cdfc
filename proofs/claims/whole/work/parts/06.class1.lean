set_option maxHeartbeats 4000000 in
set_option maxRecDepth 100000 in
theorem c_X0_direction (l : Launch) (D : va_G) (ad : Nat → Nat) (cI cZ cL : ClassId) (sv bv kv : Int) (hs : zB sv) (hb : zB bv) (hk : zB kv) : zMi l D (zT cI cZ cL) yX0_direction wsX0_direction ({ frames := 0, cells := 0, slots := 0, locals := 0 } : Room) ([]) [.int (iZ sv), .int (iZ bv), .int (iZ kv)] (f_dir sv bv kv) ([]) 0 0 := by
  refine z_mi (cc := cX0_direction) (maxL := 3) (ret := (some .int)) (by decide) rfl (Nat.le_of_ble_eq_true rfl) ?_
  intro p e s m below meth c A X hr hlk hin
  refine z_sub (lv' := [(0, .int (iZ sv)), (1, .int (iZ bv)), (2, .int (iZ kv))]) [0, 1, 2] rfl ?_
  refine z_iload_n X 0 rfl dX0_direction_0 ?_
  refine z_iload_n X 2 rfl dX0_direction_1 ?_
  refine z_icmp_gt (tgt := 12) X ⟨by omega, by omega⟩ ⟨by omega, by omega⟩ (by decide) dX0_direction_2 (fun c_1 => ?_) (fun c_1 => ?_)
  · skip
    refine z_iload_n X 1 rfl dX0_direction_12 ?_
    refine z_iload_n X 2 rfl dX0_direction_13 ?_
    refine z_icmp_gt (tgt := 24) X ⟨by omega, by omega⟩ ⟨by omega, by omega⟩ (by decide) dX0_direction_14 (fun c_2 => ?_) (fun c_2 => ?_)
    · skip
      refine z_iconst X dX0_direction_24 ?_
      exact z_iret X hr hlk (by simp only [f_dir] <;> repeat' (first | with_reducible rfl | omega | split)) rfl dX0_direction_25
    · skip
      refine z_iload_n X 2 rfl dX0_direction_17 ?_
      refine z_iload_n X 0 rfl dX0_direction_18 ?_
      refine z_icmp_ge (tgt := 24) X ⟨by omega, by omega⟩ ⟨by omega, by omega⟩ (by decide) dX0_direction_19 (fun c_3 => ?_) (fun c_3 => ?_)
      · skip
        refine z_iconst X dX0_direction_24 ?_
        exact z_iret X hr hlk (by simp only [f_dir] <;> repeat' (first | with_reducible rfl | omega | split)) rfl dX0_direction_25
      · skip
        refine z_iconst X dX0_direction_22 ?_
        exact z_iret X hr hlk (by simp only [f_dir] <;> repeat' (first | with_reducible rfl | omega | split)) rfl dX0_direction_23
  · skip
    refine z_iload_n X 2 rfl dX0_direction_5 ?_
    refine z_iload_n X 1 rfl dX0_direction_6 ?_
    refine z_icmp_ge (tgt := 12) X ⟨by omega, by omega⟩ ⟨by omega, by omega⟩ (by decide) dX0_direction_7 (fun c_4 => ?_) (fun c_4 => ?_)
    · skip
      refine z_iload_n X 1 rfl dX0_direction_12 ?_
      refine z_iload_n X 2 rfl dX0_direction_13 ?_
      refine z_icmp_gt (tgt := 24) X ⟨by omega, by omega⟩ ⟨by omega, by omega⟩ (by decide) dX0_direction_14 (fun c_5 => ?_) (fun c_5 => ?_)
      · skip
        refine z_iconst X dX0_direction_24 ?_
        exact z_iret X hr hlk (by simp only [f_dir] <;> repeat' (first | with_reducible rfl | omega | split)) rfl dX0_direction_25
      · skip
        refine z_iload_n X 2 rfl dX0_direction_17 ?_
        refine z_iload_n X 0 rfl dX0_direction_18 ?_
        refine z_icmp_ge (tgt := 24) X ⟨by omega, by omega⟩ ⟨by omega, by omega⟩ (by decide) dX0_direction_19 (fun c_6 => ?_) (fun c_6 => ?_)
        · skip
          refine z_iconst X dX0_direction_24 ?_
          exact z_iret X hr hlk (by simp only [f_dir] <;> repeat' (first | with_reducible rfl | omega | split)) rfl dX0_direction_25
        · skip
          refine z_iconst X dX0_direction_22 ?_
          exact z_iret X hr hlk (by simp only [f_dir] <;> repeat' (first | with_reducible rfl | omega | split)) rfl dX0_direction_23
    · skip
      refine z_iconst X dX0_direction_10 ?_
      exact z_iret X hr hlk (by simp only [f_dir] <;> repeat' (first | with_reducible rfl | omega | split)) rfl dX0_direction_11
set_option maxHeartbeats 4000000 in
set_option maxRecDepth 100000 in
theorem c_X0_empty (l : Launch) (D : va_G) (ad : Nat → Nat) (cI cZ cL : ClassId) (u : GS) : zMv l D (zT cI cZ cL) yX0_empty wsX0_empty ({ frames := 0, cells := 0, slots := 0, locals := 0 } : Room) (Bw ad cI u) [.ref (ad 12)] (Bw ad cI (gV u 5 0)) 0 0 := by
  refine z_mv (cc := cX0_empty) (maxL := 1) (ret := none) (by decide) rfl (Nat.le_of_ble_eq_true rfl) ?_
  intro p e s m below meth c A X hr hlk hin
  have hiX0 : ∀ w ∈ wsX00, w ∈ wsX0_empty := by decide +kernel
  refine z_sub (lv' := [(0, .ref (ad 12))]) [0] rfl ?_
  refine z_aload_n X 0 rfl dX0_empty_0 ?_
  refine z_iconst X dX0_empty_1 ?_
  refine z_put (v := .int (iZ 0)) (ty := .int) X tyX0 0 0 5 (Bw ad cI (gV u 5 0)) tyX0_ok nmX0 hiX0 rfl rfl (by decide) ⟨rfl, rfl, rfl, rfl⟩ (by decide +kernel) rfl rfl rfl (Nat.le_of_ble_eq_true rfl) rfl dX0_empty_2 ?_
  exact z_vret X hr hlk rfl dX0_empty_5
set_option maxHeartbeats 4000000 in
set_option maxRecDepth 100000 in
theorem c_X0_add (l : Launch) (D : va_G) (ad : Nat → Nat) (cI cZ cL : ClassId) (u : GS) (sv bv xv pv : Int) (hc : 0 ≤ u.2 5 ∧ u.2 5 ≤ 6) : zMv l D (zT cI cZ cL) yX0_add wsX0_add ({ frames := 0, cells := 0, slots := 0, locals := 0 } : Room) (Bw ad cI u) [.ref (ad 12), .int (iZ sv), .int (iZ bv), .int (iZ xv), .int (iZ pv)] (Bw ad cI (f_add u sv bv xv pv)) 0 0 := by
  refine z_mv (cc := cX0_add) (maxL := 5) (ret := none) (by decide) rfl (Nat.le_of_ble_eq_true rfl) ?_
  intro p e s m below meth c A X hr hlk hin
  have hiX0 : ∀ w ∈ wsX00, w ∈ wsX0_add := by decide +kernel
  refine z_sub (lv' := [(0, .ref (ad 12)), (1, .int (iZ sv)), (2, .int (iZ bv)), (3, .int (iZ xv)), (4, .int (iZ pv))]) [0, 1, 2, 3, 4] rfl ?_
  refine z_aload_n X 0 rfl dX0_add_0 ?_
  refine z_get (v := .int (iZ (u.2 5))) X 0 0 5 hiX0 rfl rfl (by decide) ⟨rfl, rfl, rfl⟩ (by decide +kernel) rfl dX0_add_1 ?_
  refine z_bipush X (by decide) dX0_add_4 ?_
  refine z_icmp_lt (tgt := 10) X ⟨by omega, by omega⟩ ⟨by omega, by omega⟩ (by decide) dX0_add_6 (fun c_1 => ?_) (fun c_1 => ?_)
  · skip
    refine z_aload_n X 0 rfl dX0_add_10 ?_
    refine z_get (v := .ref (ad 13)) X 0 0 0 hiX0 rfl rfl (by decide) ⟨rfl, rfl, rfl⟩ (by decide +kernel) rfl dX0_add_11 ?_
    refine z_aload_n X 0 rfl dX0_add_14 ?_
    refine z_get (v := .int (iZ (u.2 5))) X 0 0 5 hiX0 rfl rfl (by decide) ⟨rfl, rfl, rfl⟩ (by decide +kernel) rfl dX0_add_15 ?_
    refine z_iload_n X 1 rfl dX0_add_18 ?_
    refine z_iast (g := u.1 11) X 1 0 (Bw ad cI (gA u 11 (u.2 5) sv)) rfl rfl (by omega) (by omega) ⟨by omega, by omega⟩ rfl dX0_add_19 ?_
    refine z_aload_n X 0 rfl dX0_add_20 ?_
    refine z_get (v := .ref (ad 14)) X 0 0 1 hiX0 rfl rfl (by decide) ⟨rfl, rfl, rfl⟩ (by decide +kernel) rfl dX0_add_21 ?_
    refine z_aload_n X 0 rfl dX0_add_24 ?_
    refine z_get (v := .int (iZ (u.2 5))) X 0 0 5 hiX0 rfl rfl (by decide) ⟨rfl, rfl, rfl⟩ (by decide +kernel) rfl dX0_add_25 ?_
    refine z_iload_n X 2 rfl dX0_add_28 ?_
    refine z_iast (g := u.1 12) X 2 0 (Bw ad cI (gA (gA u 11 (u.2 5) sv) 12 (u.2 5) bv)) rfl rfl (by omega) (by omega) ⟨by omega, by omega⟩ rfl dX0_add_29 ?_
    refine z_aload_n X 0 rfl dX0_add_30 ?_
    refine z_get (v := .ref (ad 15)) X 0 0 2 hiX0 rfl rfl (by decide) ⟨rfl, rfl, rfl⟩ (by decide +kernel) rfl dX0_add_31 ?_
    refine z_aload_n X 0 rfl dX0_add_34 ?_
    refine z_get (v := .int (iZ (u.2 5))) X 0 0 5 hiX0 rfl rfl (by decide) ⟨rfl, rfl, rfl⟩ (by decide +kernel) rfl dX0_add_35 ?_
    refine z_iload_n X 3 rfl dX0_add_38 ?_
    refine z_iast (g := u.1 13) X 3 0 (Bw ad cI (gA (gA (gA u 11 (u.2 5) sv) 12 (u.2 5) bv) 13 (u.2 5) xv)) rfl rfl (by omega) (by omega) ⟨by omega, by omega⟩ rfl dX0_add_39 ?_
    refine z_aload_n X 0 rfl dX0_add_40 ?_
    refine z_get (v := .ref (ad 16)) X 0 0 3 hiX0 rfl rfl (by decide) ⟨rfl, rfl, rfl⟩ (by decide +kernel) rfl dX0_add_41 ?_
    refine z_aload_n X 0 rfl dX0_add_44 ?_
    refine z_get (v := .int (iZ (u.2 5))) X 0 0 5 hiX0 rfl rfl (by decide) ⟨rfl, rfl, rfl⟩ (by decide +kernel) rfl dX0_add_45 ?_
    refine z_iconst X dX0_add_48 ?_
    refine z_iast (g := u.1 14) X 4 0 (Bw ad cI (gA (gA (gA (gA u 11 (u.2 5) sv) 12 (u.2 5) bv) 13 (u.2 5) xv) 14 (u.2 5) 0)) rfl rfl (by omega) (by omega) ⟨by omega, by omega⟩ rfl dX0_add_49 ?_
    refine z_aload_n X 0 rfl dX0_add_50 ?_
    refine z_get (v := .ref (ad 17)) X 0 0 4 hiX0 rfl rfl (by decide) ⟨rfl, rfl, rfl⟩ (by decide +kernel) rfl dX0_add_51 ?_
    refine z_aload_n X 0 rfl dX0_add_54 ?_
    refine z_get (v := .int (iZ (u.2 5))) X 0 0 5 hiX0 rfl rfl (by decide) ⟨rfl, rfl, rfl⟩ (by decide +kernel) rfl dX0_add_55 ?_
    refine z_iload X 4 rfl dX0_add_58 ?_
    refine z_iast (g := u.1 15) X 5 0 (Bw ad cI (gA (gA (gA (gA (gA u 11 (u.2 5) sv) 12 (u.2 5) bv) 13 (u.2 5) xv) 14 (u.2 5) 0) 15 (u.2 5) pv)) rfl rfl (by omega) (by omega) ⟨by omega, by omega⟩ rfl dX0_add_60 ?_
    refine z_aload_n X 0 rfl dX0_add_61 ?_
    refine z_dup X rfl dX0_add_62 ?_
    refine z_get (v := .int (iZ (u.2 5))) X 0 0 5 hiX0 rfl rfl (by decide) ⟨rfl, rfl, rfl⟩ (by decide +kernel) rfl dX0_add_63 ?_
    refine z_iconst X dX0_add_66 ?_
    refine z_iadd X dX0_add_67 ?_
    refine z_put (v := .int (iZ ((u.2 5) + 1))) (ty := .int) X tyX0 0 0 5 (Bw ad cI (gV (gA (gA (gA (gA (gA u 11 (u.2 5) sv) 12 (u.2 5) bv) 13 (u.2 5) xv) 14 (u.2 5) 0) 15 (u.2 5) pv) 5 ((u.2 5) + 1))) tyX0_ok nmX0 hiX0 rfl rfl (by decide) ⟨rfl, rfl, rfl, rfl⟩ (by decide +kernel) rfl rfl rfl (Nat.le_of_ble_eq_true rfl) rfl dX0_add_68 ?_
    exact z_vret X hr hlk (congrArg (Bw ad cI) (by simp only [f_add] <;> repeat' (first | with_reducible rfl | omega | split))) dX0_add_71
  · skip
    exact z_vret X hr hlk (congrArg (Bw ad cI) (by simp only [f_add] <;> repeat' (first | with_reducible rfl | omega | split))) dX0_add_9
set_option maxHeartbeats 4000000 in
set_option maxRecDepth 100000 in
theorem c_X0_flowOver (l : Launch) (D : va_G) (ad : Nat → Nat) (cI cZ cL : ClassId) (u : GS) (k : Int) (hk : zB k) (hI : BI u) : zMi l D (zT cI cZ cL) yX0_flowOver wsX0_flowOver ({ frames := 1, cells := 0, slots := 0, locals := 22 } : Room) (Bw ad cI u) [.ref (ad 12), .int (iZ k)] (f_flow u k) (Bw ad cI u) 0 0 := by
  have hB := hI.bd
  have hc0 := hI.1
  have hc6 := hI.2.1
  refine z_mi (cc := cX0_flowOver) (maxL := 4) (ret := (some .int)) (by decide) rfl (Nat.le_of_ble_eq_true rfl) ?_
  intro p e s m below meth c A X hr hlk hin
  have hiX0 : ∀ w ∈ wsX00, w ∈ wsX0_flowOver := by decide +kernel
  refine z_sub (lv' := [(0, .ref (ad 12)), (1, .int (iZ k))]) [0, 1] rfl ?_
  refine z_iconst X dX0_flowOver_0 ?_
  refine z_istore_n X [1, 2, 0] [(0, .ref (ad 12)), (1, .int (iZ k)), (2, .int (iZ 0))] rfl (Nat.le_of_ble_eq_true rfl) dX0_flowOver_1 ?_
  refine z_iconst X dX0_flowOver_2 ?_
  refine z_istore_n X [1, 2, 3, 0] [(0, .ref (ad 12)), (1, .int (iZ k)), (2, .int (iZ 0)), (3, .int (iZ 0))] rfl (Nat.le_of_ble_eq_true rfl) dX0_flowOver_3 ?_
  refine zfor_ind (u.2 5).toNat (u.2 5) (by omega) (f_flowS (u.1 11) (u.1 12) (u.1 13) k) 0 (fun (i_4 : Int) (a_4 : Int) => zW p l e ({ frames := 1, cells := 0, slots := 0, locals := 22 } : Room) s m ([.ref (ad 12), .int (iZ k)] : List Value).toArray below meth c 4 D A 0 0 (MQ below (zPi D (zT cI cZ cL) (Bw ad cI u) (f_flow u k) A) ([.ref (ad 12), .int (iZ k)] : List Value).toArray s 0 0 A) (Bw ad cI u) 4 [(0, .ref (ad 12)), (1, .int (iZ k)), (2, .int (iZ a_4)), (3, .int (iZ i_4))] []) ?_ ?_
  · intro a_4 ha_4
    refine z_iload_n X 3 rfl dX0_flowOver_4 ?_
    refine z_aload_n X 0 rfl dX0_flowOver_5 ?_
    refine z_get (v := .int (iZ (u.2 5))) X 0 0 5 hiX0 rfl rfl (by decide) ⟨rfl, rfl, rfl⟩ (by decide +kernel) rfl dX0_flowOver_6 ?_
    refine z_icmp_ge (tgt := 44) X ⟨by omega, by omega⟩ ⟨by omega, by omega⟩ (by decide) dX0_flowOver_9 (fun c_1 => ?_) (fun c_1 => ?_)
    · skip
      refine z_iload_n X 2 rfl dX0_flowOver_44 ?_
      exact z_iret X hr hlk ha_4 rfl dX0_flowOver_45
    · exact absurd c_1 (by omega)
  · intro i_4 k_4 a_4 hi_4 h0i_4 h1i_4 ha_4 hk_4
    refine z_iload_n X 3 rfl dX0_flowOver_4 ?_
    refine z_aload_n X 0 rfl dX0_flowOver_5 ?_
    refine z_get (v := .int (iZ (u.2 5))) X 0 0 5 hiX0 rfl rfl (by decide) ⟨rfl, rfl, rfl⟩ (by decide +kernel) rfl dX0_flowOver_6 ?_
    refine z_icmp_ge (tgt := 44) X ⟨by omega, by omega⟩ ⟨by omega, by omega⟩ (by decide) dX0_flowOver_9 (fun c_2 => ?_) (fun c_2 => ?_)
    · exact absurd c_2 (by omega)
    · skip
      refine z_iload_n X 2 rfl dX0_flowOver_12 ?_
      refine z_aload_n X 0 rfl dX0_flowOver_13 ?_
      refine z_get (v := .ref (ad 13)) X 0 0 0 hiX0 rfl rfl (by decide) ⟨rfl, rfl, rfl⟩ (by decide +kernel) rfl dX0_flowOver_14 ?_
      refine z_iload_n X 3 rfl dX0_flowOver_17 ?_
      refine z_iald (g := u.1 11) X 1 0 rfl rfl (by omega) (by omega) ⟨by omega, by omega⟩ dX0_flowOver_18 ?_
      have b_3 := hB 11 rfl i_4
      refine z_aload_n X 0 rfl dX0_flowOver_19 ?_
      refine z_get (v := .ref (ad 14)) X 0 0 1 hiX0 rfl rfl (by decide) ⟨rfl, rfl, rfl⟩ (by decide +kernel) rfl dX0_flowOver_20 ?_
      refine z_iload_n X 3 rfl dX0_flowOver_23 ?_
      refine z_iald (g := u.1 12) X 2 0 rfl rfl (by omega) (by omega) ⟨by omega, by omega⟩ dX0_flowOver_24 ?_
      have b_4 := hB 12 rfl i_4
      refine z_iload_n X 1 rfl dX0_flowOver_25 ?_
      refine z_callis X (c_X0_direction l D ad cI cZ cL (u.1 11 i_4) (u.1 12 i_4) k ⟨by omega, by omega⟩ ⟨by omega, by omega⟩ ⟨by omega, by omega⟩) (va_cwS 3 X.2.2.2.2.1 gX0_flowOver_X0_direction rfl rfl rfl (by decide +kernel) ⟨Nat.le_of_ble_eq_true rfl, Nat.le_of_ble_eq_true rfl⟩) rfl [] (Bw ad cI u) rfl [.int (iZ a_4)] rfl (Nat.le_of_ble_eq_true rfl) dX0_flowOver_26 ⟨Nat.le_of_ble_eq_true rfl, Nat.le_of_ble_eq_true rfl⟩ rfl ?_
      have r_5 := f_dir_rg (u.1 11 i_4) (u.1 12 i_4) k
      refine z_aload_n X 0 rfl dX0_flowOver_29 ?_
      refine z_get (v := .ref (ad 15)) X 0 0 2 hiX0 rfl rfl (by decide) ⟨rfl, rfl, rfl⟩ (by decide +kernel) rfl dX0_flowOver_30 ?_
      refine z_iload_n X 3 rfl dX0_flowOver_33 ?_
      refine z_iald (g := u.1 13) X 3 0 rfl rfl (by omega) (by omega) ⟨by omega, by omega⟩ dX0_flowOver_34 ?_
      have b_6 := hB 13 rfl i_4
      refine z_imul X dX0_flowOver_35 ?_
      refine z_iadd X dX0_flowOver_36 ?_
      refine z_istore_n X [1, 2, 0, 3] [(0, .ref (ad 12)), (1, .int (iZ k)), (2, .int (iZ (a_4 + ((f_dir (u.1 11 i_4) (u.1 12 i_4) k) * (u.1 13 i_4))))), (3, .int (iZ i_4))] rfl (Nat.le_of_ble_eq_true rfl) dX0_flowOver_37 ?_
      refine z_iinc X 3 [1, 2, 3, 0] [(0, .ref (ad 12)), (1, .int (iZ k)), (2, .int (iZ (a_4 + ((f_dir (u.1 11 i_4) (u.1 12 i_4) k) * (u.1 13 i_4))))), (3, .int (iZ (i_4 + 1)))] rfl rfl (Nat.le_of_ble_eq_true rfl) dX0_flowOver_38 ?_
      refine z_goto (tgt := 4) X (by decide) dX0_flowOver_41 ?_
      exact z_eq rfl (congrArg (fun z : Int => ([(0, .ref (ad 12)), (1, .int (iZ k)), (2, .int (iZ z)), (3, .int (iZ (i_4 + 1)))] : List (Nat × Value))) (show (f_flowS (u.1 11) (u.1 12) (u.1 13) k) i_4 a_4 = a_4 + ((f_dir (u.1 11 i_4) (u.1 12 i_4) k) * (u.1 13 i_4)) from rfl)) hk_4
set_option maxHeartbeats 4000000 in
set_option maxRecDepth 100000 in
theorem c_X1_isBetterSeller (l : Launch) (D : va_G) (ad : Nat → Nat) (cI cZ cL : ClassId) (u : GS) (h best b : Int) (h0 : 0 ≤ h ∧ h ≤ 5) (h1 : 0 ≤ best ∧ best ≤ 5) (h2 : 0 ≤ b ∧ b ≤ 5) (hB : Bd u) : zMi l D (zT cI cZ cL) yX1_isBetterSeller wsX1_isBetterSeller ({ frames := 1, cells := 0, slots := 0, locals := 21 } : Room) (Gw ad cI cZ u) [.ref (ad 0), .int (iZ h), .int (iZ best), .int (iZ b)] (f_better (u.1 3) h best b) (Gw ad cI cZ u) 0 0 := by
  refine z_mi (cc := cX1_isBetterSeller) (maxL := 4) (ret := (some .boolean)) (by decide) rfl (Nat.le_of_ble_eq_true rfl) ?_
  intro p e s m below meth c A X hr hlk hin
  have hiX1 : ∀ w ∈ wsX10, w ∈ wsX1_isBetterSeller := by decide +kernel
  refine z_sub (lv' := [(0, .ref (ad 0)), (1, .int (iZ h)), (2, .int (iZ best)), (3, .int (iZ b))]) [0, 1, 2, 3] rfl ?_
  refine z_aload_n X 0 rfl dX1_isBetterSeller_0 ?_
  refine z_get (v := .ref (ad 4)) X 1 0 3 hiX1 rfl rfl (by decide) ⟨rfl, rfl, rfl⟩ (by decide +kernel) rfl dX1_isBetterSeller_1 ?_
  refine z_iload_n X 1 rfl dX1_isBetterSeller_4 ?_
  refine z_iald (g := u.1 3) X 4 0 rfl rfl (by omega) (by omega) ⟨by omega, by omega⟩ dX1_isBetterSeller_5 ?_
  have b_1 := hB 3 rfl h
  refine z_aload_n X 0 rfl dX1_isBetterSeller_6 ?_
  refine z_get (v := .ref (ad 4)) X 1 0 3 hiX1 rfl rfl (by decide) ⟨rfl, rfl, rfl⟩ (by decide +kernel) rfl dX1_isBetterSeller_7 ?_
  refine z_iload_n X 2 rfl dX1_isBetterSeller_10 ?_
  refine z_iald (g := u.1 3) X 4 0 rfl rfl (by omega) (by omega) ⟨by omega, by omega⟩ dX1_isBetterSeller_11 ?_
  have b_2 := hB 3 rfl best
  refine z_icmp_eq (tgt := 36) X ⟨by omega, by omega⟩ ⟨by omega, by omega⟩ (by decide) dX1_isBetterSeller_12 (fun c_3 => ?_) (fun c_3 => ?_)
  · skip
    refine z_iload_n X 1 rfl dX1_isBetterSeller_36 ?_
    refine z_iload_n X 3 rfl dX1_isBetterSeller_37 ?_
    refine z_isub X dX1_isBetterSeller_38 ?_
    refine z_abs X ⟨by omega, by omega⟩ (by decide +kernel) (by decide +kernel) (by decide +kernel) (by decide +kernel) ⟨Nat.le_of_ble_eq_true rfl, Nat.le_of_ble_eq_true rfl, Nat.le_of_ble_eq_true rfl, Nat.le_of_ble_eq_true rfl⟩ dX1_isBetterSeller_39 ?_
    have m_4 := zabs_sp (h - b)
    refine z_iload_n X 2 rfl dX1_isBetterSeller_42 ?_
    refine z_iload_n X 3 rfl dX1_isBetterSeller_43 ?_
    refine z_isub X dX1_isBetterSeller_44 ?_
    refine z_abs X ⟨by omega, by omega⟩ (by decide +kernel) (by decide +kernel) (by decide +kernel) (by decide +kernel) ⟨Nat.le_of_ble_eq_true rfl, Nat.le_of_ble_eq_true rfl, Nat.le_of_ble_eq_true rfl, Nat.le_of_ble_eq_true rfl⟩ dX1_isBetterSeller_45 ?_
    have m_5 := zabs_sp (best - b)
    refine z_icmp_ge (tgt := 55) X ⟨by omega, by omega⟩ ⟨by omega, by omega⟩ (by decide) dX1_isBetterSeller_48 (fun c_6 => ?_) (fun c_6 => ?_)
    · skip
      refine z_iconst X dX1_isBetterSeller_55 ?_
      exact z_zret X hr hlk (by omega) (by simp only [f_better] <;> repeat' (first | with_reducible rfl | omega | split)) rfl dX1_isBetterSeller_56
    · skip
      refine z_iconst X dX1_isBetterSeller_51 ?_
      refine z_goto (tgt := 56) X (by decide) dX1_isBetterSeller_52 ?_
      exact z_zret X hr hlk (by omega) (by simp only [f_better] <;> repeat' (first | with_reducible rfl | omega | split)) rfl dX1_isBetterSeller_56
  · skip
    refine z_aload_n X 0 rfl dX1_isBetterSeller_15 ?_
    refine z_get (v := .ref (ad 4)) X 1 0 3 hiX1 rfl rfl (by decide) ⟨rfl, rfl, rfl⟩ (by decide +kernel) rfl dX1_isBetterSeller_16 ?_
    refine z_iload_n X 1 rfl dX1_isBetterSeller_19 ?_
    refine z_iald (g := u.1 3) X 4 0 rfl rfl (by omega) (by omega) ⟨by omega, by omega⟩ dX1_isBetterSeller_20 ?_
    refine z_aload_n X 0 rfl dX1_isBetterSeller_21 ?_
    refine z_get (v := .ref (ad 4)) X 1 0 3 hiX1 rfl rfl (by decide) ⟨rfl, rfl, rfl⟩ (by decide +kernel) rfl dX1_isBetterSeller_22 ?_
    refine z_iload_n X 2 rfl dX1_isBetterSeller_25 ?_
    refine z_iald (g := u.1 3) X 4 0 rfl rfl (by omega) (by omega) ⟨by omega, by omega⟩ dX1_isBetterSeller_26 ?_
    refine z_icmp_ge (tgt := 34) X ⟨by omega, by omega⟩ ⟨by omega, by omega⟩ (by decide) dX1_isBetterSeller_27 (fun c_7 => ?_) (fun c_7 => ?_)
    · skip
      refine z_iconst X dX1_isBetterSeller_34 ?_
      exact z_zret X hr hlk (by omega) (by simp only [f_better] <;> repeat' (first | with_reducible rfl | omega | split)) rfl dX1_isBetterSeller_35
    · skip
      refine z_iconst X dX1_isBetterSeller_30 ?_
      refine z_goto (tgt := 35) X (by decide) dX1_isBetterSeller_31 ?_
      exact z_zret X hr hlk (by omega) (by simp only [f_better] <;> repeat' (first | with_reducible rfl | omega | split)) rfl dX1_isBetterSeller_35
set_option maxHeartbeats 4000000 in
set_option maxRecDepth 100000 in
theorem c_X1_bestSeller (l : Launch) (D : va_G) (ad : Nat → Nat) (cI cZ cL : ClassId) (u : GS) (b : Int) (h0 : 0 ≤ b ∧ b ≤ 5) (hB : Bd u) : zMi l D (zT cI cZ cL) yX1_bestSeller wsX1_bestSeller ({ frames := 2, cells := 0, slots := 0, locals := 44 } : Room) (Gw ad cI cZ u) [.ref (ad 0), .int (iZ b)] (f_best (u.1 7) (u.1 3) b) (Gw ad cI cZ u) 0 0 := by
  refine z_mi (cc := cX1_bestSeller) (maxL := 4) (ret := (some .int)) (by decide) rfl (Nat.le_of_ble_eq_true rfl) ?_
  intro p e s m below meth c A X hr hlk hin
  have hiX1 : ∀ w ∈ wsX10, w ∈ wsX1_bestSeller := by decide +kernel
  refine z_sub (lv' := [(0, .ref (ad 0)), (1, .int (iZ b))]) [0, 1] rfl ?_
  refine z_iconst X dX1_bestSeller_0 ?_
  refine z_istore_n X [1, 2, 0] [(0, .ref (ad 0)), (1, .int (iZ b)), (2, .int (iZ (-1)))] rfl (Nat.le_of_ble_eq_true rfl) dX1_bestSeller_1 ?_
  refine z_iconst X dX1_bestSeller_2 ?_
  refine z_istore_n X [1, 2, 3, 0] [(0, .ref (ad 0)), (1, .int (iZ b)), (2, .int (iZ (-1))), (3, .int (iZ 0))] rfl (Nat.le_of_ble_eq_true rfl) dX1_bestSeller_3 ?_
  refine zfor_ind 6 6 (rfl) (f_bestS (u.1 7) (u.1 3) b) (-1) (fun (i_4 : Int) (a_4 : Int) => zW p l e ({ frames := 2, cells := 0, slots := 0, locals := 44 } : Room) s m ([.ref (ad 0), .int (iZ b)] : List Value).toArray below meth c 4 D A 0 0 (MQ below (zPi D (zT cI cZ cL) (Gw ad cI cZ u) (f_best (u.1 7) (u.1 3) b) A) ([.ref (ad 0), .int (iZ b)] : List Value).toArray s 0 0 A) (Gw ad cI cZ u) 4 [(0, .ref (ad 0)), (1, .int (iZ b)), (2, .int (iZ a_4)), (3, .int (iZ i_4))] []) ?_ ?_
  · intro a_4 ha_4
    have hv_6 := f_bestk (u.1 7) (u.1 3) b 6 (by omega)
    rw [← ha_4] at hv_6
    refine z_iload_n X 3 rfl dX1_bestSeller_4 ?_
    refine z_bipush X (by decide) dX1_bestSeller_5 ?_
    refine z_icmp_ge (tgt := 56) X ⟨by omega, by omega⟩ ⟨by omega, by omega⟩ (by decide) dX1_bestSeller_7 (fun c_1 => ?_) (fun c_1 => ?_)
    · skip
      refine z_iload_n X 2 rfl dX1_bestSeller_56 ?_
      exact z_iret X hr hlk ha_4 rfl dX1_bestSeller_57
    · exact absurd c_1 (by omega)
  · intro i_4 k_4 a_4 hi_4 h0i_4 h1i_4 ha_4 hk_4
    have hv_i_4 := f_bestk (u.1 7) (u.1 3) b k_4 (by omega)
    rw [← ha_4] at hv_i_4
    refine z_iload_n X 3 rfl dX1_bestSeller_4 ?_
    refine z_bipush X (by decide) dX1_bestSeller_5 ?_
    refine z_icmp_ge (tgt := 56) X ⟨by omega, by omega⟩ ⟨by omega, by omega⟩ (by decide) dX1_bestSeller_7 (fun c_2 => ?_) (fun c_2 => ?_)
    · exact absurd c_2 (by omega)
    · skip
      refine z_aload_n X 0 rfl dX1_bestSeller_10 ?_
      refine z_get (v := .ref (ad 8)) X 1 0 7 hiX1 rfl rfl (by decide) ⟨rfl, rfl, rfl⟩ (by decide +kernel) rfl dX1_bestSeller_11 ?_
      refine z_iload_n X 3 rfl dX1_bestSeller_14 ?_
      refine z_iald (g := u.1 7) X 8 0 rfl rfl (by omega) (by omega) ⟨by omega, by omega⟩ dX1_bestSeller_15 ?_
      have b_3 := hB 7 rfl i_4
      refine z_if_le (tgt := 50) X ⟨by omega, by omega⟩ (by decide) dX1_bestSeller_16 (fun c_4 => ?_) (fun c_4 => ?_)
      · skip
        refine z_iinc X 3 [1, 2, 3, 0] [(0, .ref (ad 0)), (1, .int (iZ b)), (2, .int (iZ a_4)), (3, .int (iZ (i_4 + 1)))] rfl rfl (Nat.le_of_ble_eq_true rfl) dX1_bestSeller_50 ?_
        refine z_goto (tgt := 4) X (by decide) dX1_bestSeller_53 ?_
        exact z_eq rfl (congrArg (fun z : Int => ([(0, .ref (ad 0)), (1, .int (iZ b)), (2, .int (iZ z)), (3, .int (iZ (i_4 + 1)))] : List (Nat × Value))) (show (f_bestS (u.1 7) (u.1 3) b) i_4 a_4 = a_4 from (by simp only [f_bestS] <;> repeat' (first | with_reducible rfl | omega | split)))) hk_4
      · skip
        refine z_aload_n X 0 rfl dX1_bestSeller_19 ?_
        refine z_get (v := .ref (ad 4)) X 1 0 3 hiX1 rfl rfl (by decide) ⟨rfl, rfl, rfl⟩ (by decide +kernel) rfl dX1_bestSeller_20 ?_
        refine z_iload_n X 3 rfl dX1_bestSeller_23 ?_
        refine z_iald (g := u.1 3) X 4 0 rfl rfl (by omega) (by omega) ⟨by omega, by omega⟩ dX1_bestSeller_24 ?_
        have b_5 := hB 3 rfl i_4
        refine z_aload_n X 0 rfl dX1_bestSeller_25 ?_
        refine z_get (v := .ref (ad 4)) X 1 0 3 hiX1 rfl rfl (by decide) ⟨rfl, rfl, rfl⟩ (by decide +kernel) rfl dX1_bestSeller_26 ?_
        refine z_iload_n X 1 rfl dX1_bestSeller_29 ?_
        refine z_iald (g := u.1 3) X 4 0 rfl rfl (by omega) (by omega) ⟨by omega, by omega⟩ dX1_bestSeller_30 ?_
        have b_6 := hB 3 rfl b
        refine z_icmp_gt (tgt := 50) X ⟨by omega, by omega⟩ ⟨by omega, by omega⟩ (by decide) dX1_bestSeller_31 (fun c_7 => ?_) (fun c_7 => ?_)
        · skip
          refine z_iinc X 3 [1, 2, 3, 0] [(0, .ref (ad 0)), (1, .int (iZ b)), (2, .int (iZ a_4)), (3, .int (iZ (i_4 + 1)))] rfl rfl (Nat.le_of_ble_eq_true rfl) dX1_bestSeller_50 ?_
          refine z_goto (tgt := 4) X (by decide) dX1_bestSeller_53 ?_
          exact z_eq rfl (congrArg (fun z : Int => ([(0, .ref (ad 0)), (1, .int (iZ b)), (2, .int (iZ z)), (3, .int (iZ (i_4 + 1)))] : List (Nat × Value))) (show (f_bestS (u.1 7) (u.1 3) b) i_4 a_4 = a_4 from (by simp only [f_bestS] <;> repeat' (first | with_reducible rfl | omega | split)))) hk_4
        · skip
          refine z_iload_n X 2 rfl dX1_bestSeller_34 ?_
          refine z_if_lt (tgt := 48) X ⟨by omega, by omega⟩ (by decide) dX1_bestSeller_35 (fun c_8 => ?_) (fun c_8 => ?_)
          · skip
            refine z_iload_n X 3 rfl dX1_bestSeller_48 ?_
            refine z_istore_n X [1, 2, 0, 3] [(0, .ref (ad 0)), (1, .int (iZ b)), (2, .int (iZ i_4)), (3, .int (iZ i_4))] rfl (Nat.le_of_ble_eq_true rfl) dX1_bestSeller_49 ?_
            refine z_iinc X 3 [1, 2, 3, 0] [(0, .ref (ad 0)), (1, .int (iZ b)), (2, .int (iZ i_4)), (3, .int (iZ (i_4 + 1)))] rfl rfl (Nat.le_of_ble_eq_true rfl) dX1_bestSeller_50 ?_
            refine z_goto (tgt := 4) X (by decide) dX1_bestSeller_53 ?_
            exact z_eq rfl (congrArg (fun z : Int => ([(0, .ref (ad 0)), (1, .int (iZ b)), (2, .int (iZ z)), (3, .int (iZ (i_4 + 1)))] : List (Nat × Value))) (show (f_bestS (u.1 7) (u.1 3) b) i_4 a_4 = i_4 from (by simp only [f_bestS] <;> repeat' (first | with_reducible rfl | omega | split)))) hk_4
          · skip
            refine z_aload_n X 0 rfl dX1_bestSeller_38 ?_
            refine z_iload_n X 3 rfl dX1_bestSeller_39 ?_
            refine z_iload_n X 2 rfl dX1_bestSeller_40 ?_
            refine z_iload_n X 1 rfl dX1_bestSeller_41 ?_
            refine z_calli X (c_X1_isBetterSeller l D ad cI cZ cL u i_4 a_4 b (by omega) (by omega) (by omega) hB) (cwV 3 X.2.2.2.2.1 gX1_bestSeller_X1_isBetterSeller rfl rfl rfl (by decide +kernel) ⟨Nat.le_of_ble_eq_true rfl, Nat.le_of_ble_eq_true rfl⟩) rfl [] [] (List.append_nil _).symm 1 0 rfl rfl [] rfl (Nat.le_of_ble_eq_true rfl) dX1_bestSeller_42 ⟨Nat.le_of_ble_eq_true rfl, Nat.le_of_ble_eq_true rfl⟩ (List.append_nil _) ?_
            have r_9 := f_better_rg (u.1 3) i_4 a_4 b
            refine z_if_eq (tgt := 50) X ⟨by omega, by omega⟩ (by decide) dX1_bestSeller_45 (fun c_10 => ?_) (fun c_10 => ?_)
            · skip
              refine z_iinc X 3 [1, 2, 3, 0] [(0, .ref (ad 0)), (1, .int (iZ b)), (2, .int (iZ a_4)), (3, .int (iZ (i_4 + 1)))] rfl rfl (Nat.le_of_ble_eq_true rfl) dX1_bestSeller_50 ?_
              refine z_goto (tgt := 4) X (by decide) dX1_bestSeller_53 ?_
              exact z_eq rfl (congrArg (fun z : Int => ([(0, .ref (ad 0)), (1, .int (iZ b)), (2, .int (iZ z)), (3, .int (iZ (i_4 + 1)))] : List (Nat × Value))) (show (f_bestS (u.1 7) (u.1 3) b) i_4 a_4 = a_4 from (by simp only [f_bestS] <;> repeat' (first | with_reducible rfl | omega | split)))) hk_4
            · skip
              refine z_iload_n X 3 rfl dX1_bestSeller_48 ?_
              refine z_istore_n X [1, 2, 0, 3] [(0, .ref (ad 0)), (1, .int (iZ b)), (2, .int (iZ i_4)), (3, .int (iZ i_4))] rfl (Nat.le_of_ble_eq_true rfl) dX1_bestSeller_49 ?_
              refine z_iinc X 3 [1, 2, 3, 0] [(0, .ref (ad 0)), (1, .int (iZ b)), (2, .int (iZ i_4)), (3, .int (iZ (i_4 + 1)))] rfl rfl (Nat.le_of_ble_eq_true rfl) dX1_bestSeller_50 ?_
              refine z_goto (tgt := 4) X (by decide) dX1_bestSeller_53 ?_
              exact z_eq rfl (congrArg (fun z : Int => ([(0, .ref (ad 0)), (1, .int (iZ b)), (2, .int (iZ z)), (3, .int (iZ (i_4 + 1)))] : List (Nat × Value))) (show (f_bestS (u.1 7) (u.1 3) b) i_4 a_4 = i_4 from (by simp only [f_bestS] <;> repeat' (first | with_reducible rfl | omega | split)))) hk_4
set_option maxHeartbeats 4000000 in
set_option maxRecDepth 100000 in
theorem c_X1_rankOf (l : Launch) (D : va_G) (ad : Nat → Nat) (cI cZ cL : ClassId) (u : GS) (h : Int) (h0 : 0 ≤ h ∧ h ≤ 5) (hB : Bd u) : zMi l D (zT cI cZ cL) yX1_rankOf wsX1_rankOf ({ frames := 0, cells := 0, slots := 0, locals := 0 } : Room) (Gw ad cI cZ u) [.ref (ad 0), .int (iZ h)] (f_rank (u.1 3) h) (Gw ad cI cZ u) 0 0 := by
  refine z_mi (cc := cX1_rankOf) (maxL := 4) (ret := (some .int)) (by decide) rfl (Nat.le_of_ble_eq_true rfl) ?_
  intro p e s m below meth c A X hr hlk hin
  have hiX1 : ∀ w ∈ wsX10, w ∈ wsX1_rankOf := by decide +kernel
  refine z_sub (lv' := [(0, .ref (ad 0)), (1, .int (iZ h))]) [0, 1] rfl ?_
  refine z_iconst X dX1_rankOf_0 ?_
  refine z_istore_n X [1, 2, 0] [(0, .ref (ad 0)), (1, .int (iZ h)), (2, .int (iZ 0))] rfl (Nat.le_of_ble_eq_true rfl) dX1_rankOf_1 ?_
  refine z_iconst X dX1_rankOf_2 ?_
  refine z_istore_n X [1, 2, 3, 0] [(0, .ref (ad 0)), (1, .int (iZ h)), (2, .int (iZ 0)), (3, .int (iZ 0))] rfl (Nat.le_of_ble_eq_true rfl) dX1_rankOf_3 ?_
  refine zfor_ind 6 6 (rfl) (f_rankS (u.1 3) h) 0 (fun (i_4 : Int) (a_4 : Int) => zW p l e ({ frames := 0, cells := 0, slots := 0, locals := 0 } : Room) s m ([.ref (ad 0), .int (iZ h)] : List Value).toArray below meth c 4 D A 0 0 (MQ below (zPi D (zT cI cZ cL) (Gw ad cI cZ u) (f_rank (u.1 3) h) A) ([.ref (ad 0), .int (iZ h)] : List Value).toArray s 0 0 A) (Gw ad cI cZ u) 4 [(0, .ref (ad 0)), (1, .int (iZ h)), (2, .int (iZ a_4)), (3, .int (iZ i_4))] []) ?_ ?_
  · intro a_4 ha_4
    refine z_iload_n X 3 rfl dX1_rankOf_4 ?_
    refine z_bipush X (by decide) dX1_rankOf_5 ?_
    refine z_icmp_ge (tgt := 54) X ⟨by omega, by omega⟩ ⟨by omega, by omega⟩ (by decide) dX1_rankOf_7 (fun c_1 => ?_) (fun c_1 => ?_)
    · skip
      refine z_iload_n X 2 rfl dX1_rankOf_54 ?_
      exact z_iret X hr hlk ha_4 rfl dX1_rankOf_55
    · exact absurd c_1 (by omega)
  · intro i_4 k_4 a_4 hi_4 h0i_4 h1i_4 ha_4 hk_4
    refine z_iload_n X 3 rfl dX1_rankOf_4 ?_
    refine z_bipush X (by decide) dX1_rankOf_5 ?_
    refine z_icmp_ge (tgt := 54) X ⟨by omega, by omega⟩ ⟨by omega, by omega⟩ (by decide) dX1_rankOf_7 (fun c_2 => ?_) (fun c_2 => ?_)
    · exact absurd c_2 (by omega)
    · skip
      refine z_aload_n X 0 rfl dX1_rankOf_10 ?_
      refine z_get (v := .ref (ad 4)) X 1 0 3 hiX1 rfl rfl (by decide) ⟨rfl, rfl, rfl⟩ (by decide +kernel) rfl dX1_rankOf_11 ?_
      refine z_iload_n X 3 rfl dX1_rankOf_14 ?_
      refine z_iald (g := u.1 3) X 4 0 rfl rfl (by omega) (by omega) ⟨by omega, by omega⟩ dX1_rankOf_15 ?_
      have b_3 := hB 3 rfl i_4
      refine z_aload_n X 0 rfl dX1_rankOf_16 ?_
      refine z_get (v := .ref (ad 4)) X 1 0 3 hiX1 rfl rfl (by decide) ⟨rfl, rfl, rfl⟩ (by decide +kernel) rfl dX1_rankOf_17 ?_
      refine z_iload_n X 1 rfl dX1_rankOf_20 ?_
      refine z_iald (g := u.1 3) X 4 0 rfl rfl (by omega) (by omega) ⟨by omega, by omega⟩ dX1_rankOf_21 ?_
      have b_4 := hB 3 rfl h
      refine z_icmp_gt (tgt := 45) X ⟨by omega, by omega⟩ ⟨by omega, by omega⟩ (by decide) dX1_rankOf_22 (fun c_5 => ?_) (fun c_5 => ?_)
      · skip
        refine z_iinc X 2 [1, 2, 0, 3] [(0, .ref (ad 0)), (1, .int (iZ h)), (2, .int (iZ (a_4 + 1))), (3, .int (iZ i_4))] rfl rfl (Nat.le_of_ble_eq_true rfl) dX1_rankOf_45 ?_
        refine z_iinc X 3 [1, 2, 3, 0] [(0, .ref (ad 0)), (1, .int (iZ h)), (2, .int (iZ (a_4 + 1))), (3, .int (iZ (i_4 + 1)))] rfl rfl (Nat.le_of_ble_eq_true rfl) dX1_rankOf_48 ?_
        refine z_goto (tgt := 4) X (by decide) dX1_rankOf_51 ?_
        exact z_eq rfl (congrArg (fun z : Int => ([(0, .ref (ad 0)), (1, .int (iZ h)), (2, .int (iZ z)), (3, .int (iZ (i_4 + 1)))] : List (Nat × Value))) (show (f_rankS (u.1 3) h) i_4 a_4 = a_4 + 1 from (by simp only [f_rankS] <;> repeat' (first | with_reducible rfl | omega | split)))) hk_4
      · skip
        refine z_aload_n X 0 rfl dX1_rankOf_25 ?_
        refine z_get (v := .ref (ad 4)) X 1 0 3 hiX1 rfl rfl (by decide) ⟨rfl, rfl, rfl⟩ (by decide +kernel) rfl dX1_rankOf_26 ?_
        refine z_iload_n X 3 rfl dX1_rankOf_29 ?_
        refine z_iald (g := u.1 3) X 4 0 rfl rfl (by omega) (by omega) ⟨by omega, by omega⟩ dX1_rankOf_30 ?_
        refine z_aload_n X 0 rfl dX1_rankOf_31 ?_
        refine z_get (v := .ref (ad 4)) X 1 0 3 hiX1 rfl rfl (by decide) ⟨rfl, rfl, rfl⟩ (by decide +kernel) rfl dX1_rankOf_32 ?_
        refine z_iload_n X 1 rfl dX1_rankOf_35 ?_
        refine z_iald (g := u.1 3) X 4 0 rfl rfl (by omega) (by omega) ⟨by omega, by omega⟩ dX1_rankOf_36 ?_
        refine z_icmp_ne (tgt := 48) X ⟨by omega, by omega⟩ ⟨by omega, by omega⟩ (by decide) dX1_rankOf_37 (fun c_6 => ?_) (fun c_6 => ?_)
        · skip
          refine z_iinc X 3 [1, 2, 3, 0] [(0, .ref (ad 0)), (1, .int (iZ h)), (2, .int (iZ a_4)), (3, .int (iZ (i_4 + 1)))] rfl rfl (Nat.le_of_ble_eq_true rfl) dX1_rankOf_48 ?_
          refine z_goto (tgt := 4) X (by decide) dX1_rankOf_51 ?_
          exact z_eq rfl (congrArg (fun z : Int => ([(0, .ref (ad 0)), (1, .int (iZ h)), (2, .int (iZ z)), (3, .int (iZ (i_4 + 1)))] : List (Nat × Value))) (show (f_rankS (u.1 3) h) i_4 a_4 = a_4 from (by simp only [f_rankS] <;> repeat' (first | with_reducible rfl | omega | split)))) hk_4
        · skip
          refine z_iload_n X 3 rfl dX1_rankOf_40 ?_
          refine z_iload_n X 1 rfl dX1_rankOf_41 ?_
          refine z_icmp_ge (tgt := 48) X ⟨by omega, by omega⟩ ⟨by omega, by omega⟩ (by decide) dX1_rankOf_42 (fun c_7 => ?_) (fun c_7 => ?_)
          · skip
            refine z_iinc X 3 [1, 2, 3, 0] [(0, .ref (ad 0)), (1, .int (iZ h)), (2, .int (iZ a_4)), (3, .int (iZ (i_4 + 1)))] rfl rfl (Nat.le_of_ble_eq_true rfl) dX1_rankOf_48 ?_
            refine z_goto (tgt := 4) X (by decide) dX1_rankOf_51 ?_
            exact z_eq rfl (congrArg (fun z : Int => ([(0, .ref (ad 0)), (1, .int (iZ h)), (2, .int (iZ z)), (3, .int (iZ (i_4 + 1)))] : List (Nat × Value))) (show (f_rankS (u.1 3) h) i_4 a_4 = a_4 from (by simp only [f_rankS] <;> repeat' (first | with_reducible rfl | omega | split)))) hk_4
          · skip
            refine z_iinc X 2 [1, 2, 0, 3] [(0, .ref (ad 0)), (1, .int (iZ h)), (2, .int (iZ (a_4 + 1))), (3, .int (iZ i_4))] rfl rfl (Nat.le_of_ble_eq_true rfl) dX1_rankOf_45 ?_
            refine z_iinc X 3 [1, 2, 3, 0] [(0, .ref (ad 0)), (1, .int (iZ h)), (2, .int (iZ (a_4 + 1))), (3, .int (iZ (i_4 + 1)))] rfl rfl (Nat.le_of_ble_eq_true rfl) dX1_rankOf_48 ?_
            refine z_goto (tgt := 4) X (by decide) dX1_rankOf_51 ?_
            exact z_eq rfl (congrArg (fun z : Int => ([(0, .ref (ad 0)), (1, .int (iZ h)), (2, .int (iZ z)), (3, .int (iZ (i_4 + 1)))] : List (Nat × Value))) (show (f_rankS (u.1 3) h) i_4 a_4 = a_4 + 1 from (by simp only [f_rankS] <;> repeat' (first | with_reducible rfl | omega | split)))) hk_4
