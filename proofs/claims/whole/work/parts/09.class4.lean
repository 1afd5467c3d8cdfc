set_option maxHeartbeats 4000000 in
set_option maxRecDepth 100000 in
theorem c_X1_checkHouse (l : Launch) (D : va_G) (ad : Nat → Nat) (cI cZ cL : ClassId) (h : Int) (h0 : 0 ≤ h ∧ h ≤ 5) : zMv l D (zT cI cZ cL) yX1_checkHouse wsX1_checkHouse ({ frames := 6, cells := 0, slots := 0, locals := 82 } : Room) ([]) [.int (iZ h)] ([]) 0 0 := by
  refine z_mv (cc := cX1_checkHouse) (maxL := 1) (ret := none) (by decide) rfl (Nat.le_of_ble_eq_true rfl) ?_
  intro p e s m below meth c A X hr hlk hin
  refine z_sub (lv' := [(0, .int (iZ h))]) [0] rfl ?_
  refine z_iload_n X 0 rfl dX1_checkHouse_0 ?_
  refine z_if_lt (tgt := 10) X ⟨by omega, by omega⟩ (by decide) dX1_checkHouse_1 (fun c_1 => ?_) (fun c_1 => ?_)
  · exact absurd c_1 (by omega)
  · skip
    refine z_iload_n X 0 rfl dX1_checkHouse_4 ?_
    refine z_bipush X (by decide) dX1_checkHouse_5 ?_
    refine z_icmp_lt (tgt := 20) X ⟨by omega, by omega⟩ ⟨by omega, by omega⟩ (by decide) dX1_checkHouse_7 (fun c_2 => ?_) (fun c_2 => ?_)
    · skip
      exact z_vret X hr hlk rfl dX1_checkHouse_20
    · exact absurd c_2 (by omega)
set_option maxHeartbeats 4000000 in
set_option maxRecDepth 100000 in
theorem x_X1_checkHouse (l : Launch) (hl : l.stackTraces = false) (D : va_G) (ad : Nat → Nat) (cI cZ cL : ClassId) (h : Int) (hz : zB h) (h0 : ¬ (0 ≤ h ∧ h ≤ 5)) : zMxv l D (zT cI cZ cL) yX1_checkHouse wsX1_checkHouse ({ frames := 6, cells := 1, slots := 6, locals := 82 } : Room) ([]) [.int (iZ h)] "java/lang/IndexOutOfBoundsException" := by
  refine z_mxv (cc := cX1_checkHouse) (maxL := 1) (ret := none) (by decide) rfl (Nat.le_of_ble_eq_true rfl) ?_
  intro p e s m below meth c A X hlk hnt
  refine z_sub (lv' := [(0, .int (iZ h))]) [0] rfl ?_
  refine z_iload_n X 0 rfl dX1_checkHouse_0 ?_
  refine z_if_lt (tgt := 10) X ⟨by omega, by omega⟩ (by decide) dX1_checkHouse_1 (fun c_1 => ?_) (fun c_1 => ?_)
  · skip
    exact z_throw hl hlk hnt X zft_0 (by decide +kernel) (by decide +kernel) X.2.2.2.2.2.2.2.1.s158 X.2.2.2.2.2.2.2.1.c0 (by decide +kernel) zng_0 zgo_0 dX1_checkHouse_10 dX1_checkHouse_13 dX1_checkHouse_14 dX1_checkHouse_16 dX1_checkHouse_19 ⟨Nat.le_of_ble_eq_true rfl, Nat.le_of_ble_eq_true rfl, Nat.le_of_ble_eq_true rfl, Nat.le_of_ble_eq_true rfl⟩ ⟨Nat.le_of_ble_eq_true rfl, Nat.le_of_ble_eq_true rfl⟩
  · skip
    refine z_iload_n X 0 rfl dX1_checkHouse_4 ?_
    refine z_bipush X (by decide) dX1_checkHouse_5 ?_
    refine z_icmp_lt (tgt := 20) X ⟨by omega, by omega⟩ ⟨by omega, by omega⟩ (by decide) dX1_checkHouse_7 (fun c_2 => ?_) (fun c_2 => ?_)
    · skip
      exfalso; omega
    · skip
      exact z_throw hl hlk hnt X zft_0 (by decide +kernel) (by decide +kernel) X.2.2.2.2.2.2.2.1.s158 X.2.2.2.2.2.2.2.1.c0 (by decide +kernel) zng_0 zgo_0 dX1_checkHouse_10 dX1_checkHouse_13 dX1_checkHouse_14 dX1_checkHouse_16 dX1_checkHouse_19 ⟨Nat.le_of_ble_eq_true rfl, Nat.le_of_ble_eq_true rfl, Nat.le_of_ble_eq_true rfl, Nat.le_of_ble_eq_true rfl⟩ ⟨Nat.le_of_ble_eq_true rfl, Nat.le_of_ble_eq_true rfl⟩
set_option maxHeartbeats 4000000 in
set_option maxRecDepth 100000 in
theorem c_X1_checkStretch (l : Launch) (D : va_G) (ad : Nat → Nat) (cI cZ cL : ClassId) (h : Int) (h0 : 0 ≤ h ∧ h ≤ 4) : zMv l D (zT cI cZ cL) yX1_checkStretch wsX1_checkStretch ({ frames := 6, cells := 0, slots := 0, locals := 82 } : Room) ([]) [.int (iZ h)] ([]) 0 0 := by
  refine z_mv (cc := cX1_checkStretch) (maxL := 1) (ret := none) (by decide) rfl (Nat.le_of_ble_eq_true rfl) ?_
  intro p e s m below meth c A X hr hlk hin
  refine z_sub (lv' := [(0, .int (iZ h))]) [0] rfl ?_
  refine z_iload_n X 0 rfl dX1_checkStretch_0 ?_
  refine z_if_lt (tgt := 9) X ⟨by omega, by omega⟩ (by decide) dX1_checkStretch_1 (fun c_1 => ?_) (fun c_1 => ?_)
  · exact absurd c_1 (by omega)
  · skip
    refine z_iload_n X 0 rfl dX1_checkStretch_4 ?_
    refine z_iconst X dX1_checkStretch_5 ?_
    refine z_icmp_lt (tgt := 19) X ⟨by omega, by omega⟩ ⟨by omega, by omega⟩ (by decide) dX1_checkStretch_6 (fun c_2 => ?_) (fun c_2 => ?_)
    · skip
      exact z_vret X hr hlk rfl dX1_checkStretch_19
    · exact absurd c_2 (by omega)
set_option maxHeartbeats 4000000 in
set_option maxRecDepth 100000 in
theorem x_X1_checkStretch (l : Launch) (hl : l.stackTraces = false) (D : va_G) (ad : Nat → Nat) (cI cZ cL : ClassId) (h : Int) (hz : zB h) (h0 : ¬ (0 ≤ h ∧ h ≤ 4)) : zMxv l D (zT cI cZ cL) yX1_checkStretch wsX1_checkStretch ({ frames := 6, cells := 1, slots := 6, locals := 82 } : Room) ([]) [.int (iZ h)] "java/lang/IndexOutOfBoundsException" := by
  refine z_mxv (cc := cX1_checkStretch) (maxL := 1) (ret := none) (by decide) rfl (Nat.le_of_ble_eq_true rfl) ?_
  intro p e s m below meth c A X hlk hnt
  refine z_sub (lv' := [(0, .int (iZ h))]) [0] rfl ?_
  refine z_iload_n X 0 rfl dX1_checkStretch_0 ?_
  refine z_if_lt (tgt := 9) X ⟨by omega, by omega⟩ (by decide) dX1_checkStretch_1 (fun c_1 => ?_) (fun c_1 => ?_)
  · skip
    exact z_throw hl hlk hnt X zft_0 (by decide +kernel) (by decide +kernel) X.2.2.2.2.2.2.2.1.s160 X.2.2.2.2.2.2.2.1.c0 (by decide +kernel) zng_0 zgo_0 dX1_checkStretch_9 dX1_checkStretch_12 dX1_checkStretch_13 dX1_checkStretch_15 dX1_checkStretch_18 ⟨Nat.le_of_ble_eq_true rfl, Nat.le_of_ble_eq_true rfl, Nat.le_of_ble_eq_true rfl, Nat.le_of_ble_eq_true rfl⟩ ⟨Nat.le_of_ble_eq_true rfl, Nat.le_of_ble_eq_true rfl⟩
  · skip
    refine z_iload_n X 0 rfl dX1_checkStretch_4 ?_
    refine z_iconst X dX1_checkStretch_5 ?_
    refine z_icmp_lt (tgt := 19) X ⟨by omega, by omega⟩ ⟨by omega, by omega⟩ (by decide) dX1_checkStretch_6 (fun c_2 => ?_) (fun c_2 => ?_)
    · skip
      exfalso; omega
    · skip
      exact z_throw hl hlk hnt X zft_0 (by decide +kernel) (by decide +kernel) X.2.2.2.2.2.2.2.1.s160 X.2.2.2.2.2.2.2.1.c0 (by decide +kernel) zng_0 zgo_0 dX1_checkStretch_9 dX1_checkStretch_12 dX1_checkStretch_13 dX1_checkStretch_15 dX1_checkStretch_18 ⟨Nat.le_of_ble_eq_true rfl, Nat.le_of_ble_eq_true rfl, Nat.le_of_ble_eq_true rfl, Nat.le_of_ble_eq_true rfl⟩ ⟨Nat.le_of_ble_eq_true rfl, Nat.le_of_ble_eq_true rfl⟩
set_option maxHeartbeats 4000000 in
set_option maxRecDepth 100000 in
theorem c_X1_checkRange (l : Launch) (D : va_G) (ad : Nat → Nat) (cI cZ cL : ClassId) (v lo hi : Int) (hv : zB v) (hlo : zB lo) (hhi : zB hi) (h0 : lo ≤ v ∧ v ≤ hi) : zMv l D (zT cI cZ cL) yX1_checkRange wsX1_checkRange ({ frames := 6, cells := 0, slots := 0, locals := 82 } : Room) ([]) [.int (iZ v), .int (iZ lo), .int (iZ hi)] ([]) 0 0 := by
  refine z_mv (cc := cX1_checkRange) (maxL := 3) (ret := none) (by decide) rfl (Nat.le_of_ble_eq_true rfl) ?_
  intro p e s m below meth c A X hr hlk hin
  refine z_sub (lv' := [(0, .int (iZ v)), (1, .int (iZ lo)), (2, .int (iZ hi))]) [0, 1, 2] rfl ?_
  refine z_iload_n X 0 rfl dX1_checkRange_0 ?_
  refine z_iload_n X 1 rfl dX1_checkRange_1 ?_
  refine z_icmp_lt (tgt := 10) X ⟨by omega, by omega⟩ ⟨by omega, by omega⟩ (by decide) dX1_checkRange_2 (fun c_1 => ?_) (fun c_1 => ?_)
  · exact absurd c_1 (by omega)
  · skip
    refine z_iload_n X 0 rfl dX1_checkRange_5 ?_
    refine z_iload_n X 2 rfl dX1_checkRange_6 ?_
    refine z_icmp_le (tgt := 20) X ⟨by omega, by omega⟩ ⟨by omega, by omega⟩ (by decide) dX1_checkRange_7 (fun c_2 => ?_) (fun c_2 => ?_)
    · skip
      exact z_vret X hr hlk rfl dX1_checkRange_20
    · exact absurd c_2 (by omega)
set_option maxHeartbeats 4000000 in
set_option maxRecDepth 100000 in
theorem x_X1_checkRange (l : Launch) (hl : l.stackTraces = false) (D : va_G) (ad : Nat → Nat) (cI cZ cL : ClassId) (v lo hi : Int) (hv : zB v) (hlo : zB lo) (hhi : zB hi) (h0 : ¬ (lo ≤ v ∧ v ≤ hi)) : zMxv l D (zT cI cZ cL) yX1_checkRange wsX1_checkRange ({ frames := 6, cells := 1, slots := 6, locals := 82 } : Room) ([]) [.int (iZ v), .int (iZ lo), .int (iZ hi)] "java/lang/IllegalArgumentException" := by
  refine z_mxv (cc := cX1_checkRange) (maxL := 3) (ret := none) (by decide) rfl (Nat.le_of_ble_eq_true rfl) ?_
  intro p e s m below meth c A X hlk hnt
  refine z_sub (lv' := [(0, .int (iZ v)), (1, .int (iZ lo)), (2, .int (iZ hi))]) [0, 1, 2] rfl ?_
  refine z_iload_n X 0 rfl dX1_checkRange_0 ?_
  refine z_iload_n X 1 rfl dX1_checkRange_1 ?_
  refine z_icmp_lt (tgt := 10) X ⟨by omega, by omega⟩ ⟨by omega, by omega⟩ (by decide) dX1_checkRange_2 (fun c_1 => ?_) (fun c_1 => ?_)
  · skip
    exact z_throw hl hlk hnt X zft_1 (by decide +kernel) (by decide +kernel) X.2.2.2.2.2.2.2.1.s162 X.2.2.2.2.2.2.2.1.c1 (by decide +kernel) zng_1 zgo_1 dX1_checkRange_10 dX1_checkRange_13 dX1_checkRange_14 dX1_checkRange_16 dX1_checkRange_19 ⟨Nat.le_of_ble_eq_true rfl, Nat.le_of_ble_eq_true rfl, Nat.le_of_ble_eq_true rfl, Nat.le_of_ble_eq_true rfl⟩ ⟨Nat.le_of_ble_eq_true rfl, Nat.le_of_ble_eq_true rfl⟩
  · skip
    refine z_iload_n X 0 rfl dX1_checkRange_5 ?_
    refine z_iload_n X 2 rfl dX1_checkRange_6 ?_
    refine z_icmp_le (tgt := 20) X ⟨by omega, by omega⟩ ⟨by omega, by omega⟩ (by decide) dX1_checkRange_7 (fun c_2 => ?_) (fun c_2 => ?_)
    · skip
      exfalso; omega
    · skip
      exact z_throw hl hlk hnt X zft_1 (by decide +kernel) (by decide +kernel) X.2.2.2.2.2.2.2.1.s162 X.2.2.2.2.2.2.2.1.c1 (by decide +kernel) zng_1 zgo_1 dX1_checkRange_10 dX1_checkRange_13 dX1_checkRange_14 dX1_checkRange_16 dX1_checkRange_19 ⟨Nat.le_of_ble_eq_true rfl, Nat.le_of_ble_eq_true rfl, Nat.le_of_ble_eq_true rfl, Nat.le_of_ble_eq_true rfl⟩ ⟨Nat.le_of_ble_eq_true rfl, Nat.le_of_ble_eq_true rfl⟩
set_option maxHeartbeats 4000000 in
set_option maxRecDepth 100000 in
theorem c_X1_checkMember (l : Launch) (D : va_G) (ad : Nat → Nat) (cI cZ cL : ClassId) (u : GS) (h : Int) (h0 : 0 ≤ h ∧ h ≤ 5) (hB : Bd u) (hm : ¬ u.1 0 h = 0) : zMv l D (zT cI cZ cL) yX1_checkMember wsX1_checkMember ({ frames := 6, cells := 0, slots := 0, locals := 82 } : Room) (Gw ad cI cZ u) [.ref (ad 0), .int (iZ h)] (Gw ad cI cZ u) 0 0 := by
  refine z_mv (cc := cX1_checkMember) (maxL := 2) (ret := none) (by decide) rfl (Nat.le_of_ble_eq_true rfl) ?_
  intro p e s m below meth c A X hr hlk hin
  have hiX1 : ∀ w ∈ wsX10, w ∈ wsX1_checkMember := by decide +kernel
  refine z_sub (lv' := [(0, .ref (ad 0)), (1, .int (iZ h))]) [0, 1] rfl ?_
  refine z_aload_n X 0 rfl dX1_checkMember_0 ?_
  refine z_get (v := .ref (ad 1)) X 1 0 0 hiX1 rfl rfl (by decide) ⟨rfl, rfl, rfl⟩ (by decide +kernel) rfl dX1_checkMember_1 ?_
  refine z_iload_n X 1 rfl dX1_checkMember_4 ?_
  refine z_zald (g := u.1 0) X 1 1 rfl rfl (by omega) (by omega) ⟨by omega, by omega⟩ dX1_checkMember_5 ?_
  have b_1 := hB 0 rfl h
  refine z_if_ne (tgt := 19) X ⟨by omega, by omega⟩ (by decide) dX1_checkMember_6 (fun c_2 => ?_) (fun c_2 => ?_)
  · skip
    exact z_vret X hr hlk rfl dX1_checkMember_19
  · exact absurd c_2 (by omega)
set_option maxHeartbeats 4000000 in
set_option maxRecDepth 100000 in
theorem x_X1_checkMember (l : Launch) (hl : l.stackTraces = false) (D : va_G) (ad : Nat → Nat) (cI cZ cL : ClassId) (u : GS) (h : Int) (h0 : 0 ≤ h ∧ h ≤ 5) (hB : Bd u) (hm : u.1 0 h = 0) : zMxv l D (zT cI cZ cL) yX1_checkMember wsX1_checkMember ({ frames := 6, cells := 1, slots := 6, locals := 82 } : Room) (Gw ad cI cZ u) [.ref (ad 0), .int (iZ h)] "java/lang/IllegalStateException" := by
  refine z_mxv (cc := cX1_checkMember) (maxL := 2) (ret := none) (by decide) rfl (Nat.le_of_ble_eq_true rfl) ?_
  intro p e s m below meth c A X hlk hnt
  have hiX1 : ∀ w ∈ wsX10, w ∈ wsX1_checkMember := by decide +kernel
  refine z_sub (lv' := [(0, .ref (ad 0)), (1, .int (iZ h))]) [0, 1] rfl ?_
  refine z_aload_n X 0 rfl dX1_checkMember_0 ?_
  refine z_get (v := .ref (ad 1)) X 1 0 0 hiX1 rfl rfl (by decide) ⟨rfl, rfl, rfl⟩ (by decide +kernel) rfl dX1_checkMember_1 ?_
  refine z_iload_n X 1 rfl dX1_checkMember_4 ?_
  refine z_zald (g := u.1 0) X 1 1 rfl rfl (by omega) (by omega) ⟨by omega, by omega⟩ dX1_checkMember_5 ?_
  have b_1 := hB 0 rfl h
  refine z_if_ne (tgt := 19) X ⟨by omega, by omega⟩ (by decide) dX1_checkMember_6 (fun c_2 => ?_) (fun c_2 => ?_)
  · skip
    exfalso; omega
  · skip
    exact z_throw hl hlk hnt X zft_2 (by decide +kernel) (by decide +kernel) X.2.2.2.2.2.2.2.1.s164 X.2.2.2.2.2.2.2.1.c2 (by decide +kernel) zng_2 zgo_2 dX1_checkMember_9 dX1_checkMember_12 dX1_checkMember_13 dX1_checkMember_15 dX1_checkMember_18 ⟨Nat.le_of_ble_eq_true rfl, Nat.le_of_ble_eq_true rfl, Nat.le_of_ble_eq_true rfl, Nat.le_of_ble_eq_true rfl⟩ ⟨Nat.le_of_ble_eq_true rfl, Nat.le_of_ble_eq_true rfl⟩
set_option maxHeartbeats 4000000 in
set_option maxRecDepth 100000 in
theorem c_X1_quarter (l : Launch) (D : va_G) (ad : Nat → Nat) (cI cZ cL : ClassId) (u : GS) : zMi l D (zT cI cZ cL) yX1_quarter wsX1_quarter ({ frames := 0, cells := 0, slots := 0, locals := 0 } : Room) (Gw ad cI cZ u) [.ref (ad 0)] (u.2 4) (Gw ad cI cZ u) 0 0 := by
  refine z_mi (cc := cX1_quarter) (maxL := 1) (ret := (some .int)) (by decide) rfl (Nat.le_of_ble_eq_true rfl) ?_
  intro p e s m below meth c A X hr hlk hin
  have hiX1 : ∀ w ∈ wsX10, w ∈ wsX1_quarter := by decide +kernel
  refine z_sub (lv' := [(0, .ref (ad 0))]) [0] rfl ?_
  refine z_aload_n X 0 rfl dX1_quarter_0 ?_
  refine z_get (v := .int (iZ (u.2 4))) X 1 0 16 hiX1 rfl rfl (by decide) ⟨rfl, rfl, rfl⟩ (by decide +kernel) rfl dX1_quarter_1 ?_
  exact z_iret X hr hlk rfl rfl dX1_quarter_4
set_option maxHeartbeats 4000000 in
set_option maxRecDepth 100000 in
theorem c_X1_pool (l : Launch) (D : va_G) (ad : Nat → Nat) (cI cZ cL : ClassId) (u : GS) : zMi l D (zT cI cZ cL) yX1_pool wsX1_pool ({ frames := 0, cells := 0, slots := 0, locals := 0 } : Room) (Gw ad cI cZ u) [.ref (ad 0)] (u.2 2) (Gw ad cI cZ u) 0 0 := by
  refine z_mi (cc := cX1_pool) (maxL := 1) (ret := (some .int)) (by decide) rfl (Nat.le_of_ble_eq_true rfl) ?_
  intro p e s m below meth c A X hr hlk hin
  have hiX1 : ∀ w ∈ wsX10, w ∈ wsX1_pool := by decide +kernel
  refine z_sub (lv' := [(0, .ref (ad 0))]) [0] rfl ?_
  refine z_aload_n X 0 rfl dX1_pool_0 ?_
  refine z_get (v := .int (iZ (u.2 2))) X 1 0 14 hiX1 rfl rfl (by decide) ⟨rfl, rfl, rfl⟩ (by decide +kernel) rfl dX1_pool_1 ?_
  exact z_iret X hr hlk rfl rfl dX1_pool_4
set_option maxHeartbeats 4000000 in
set_option maxRecDepth 100000 in
theorem c_X1_supplied (l : Launch) (D : va_G) (ad : Nat → Nat) (cI cZ cL : ClassId) (u : GS) : zMi l D (zT cI cZ cL) yX1_supplied wsX1_supplied ({ frames := 0, cells := 0, slots := 0, locals := 0 } : Room) (Gw ad cI cZ u) [.ref (ad 0)] (u.2 3) (Gw ad cI cZ u) 0 0 := by
  refine z_mi (cc := cX1_supplied) (maxL := 1) (ret := (some .int)) (by decide) rfl (Nat.le_of_ble_eq_true rfl) ?_
  intro p e s m below meth c A X hr hlk hin
  have hiX1 : ∀ w ∈ wsX10, w ∈ wsX1_supplied := by decide +kernel
  refine z_sub (lv' := [(0, .ref (ad 0))]) [0] rfl ?_
  refine z_aload_n X 0 rfl dX1_supplied_0 ?_
  refine z_get (v := .int (iZ (u.2 3))) X 1 0 15 hiX1 rfl rfl (by decide) ⟨rfl, rfl, rfl⟩ (by decide +kernel) rfl dX1_supplied_1 ?_
  exact z_iret X hr hlk rfl rfl dX1_supplied_4
set_option maxHeartbeats 4000000 in
set_option maxRecDepth 100000 in
theorem c_X1_trades (l : Launch) (D : va_G) (ad : Nat → Nat) (cI cZ cL : ClassId) (u : GS) : zMi l D (zT cI cZ cL) yX1_trades wsX1_trades ({ frames := 0, cells := 0, slots := 0, locals := 0 } : Room) (Gw ad cI cZ u) [.ref (ad 0)] (u.2 5) (Gw ad cI cZ u) 0 0 := by
  refine z_mi (cc := cX1_trades) (maxL := 1) (ret := (some .int)) (by decide) rfl (Nat.le_of_ble_eq_true rfl) ?_
  intro p e s m below meth c A X hr hlk hin
  have hiX0 : ∀ w ∈ wsX00, w ∈ wsX1_trades := by decide +kernel
  have hiX1 : ∀ w ∈ wsX10, w ∈ wsX1_trades := by decide +kernel
  refine z_sub (lv' := [(0, .ref (ad 0))]) [0] rfl ?_
  refine z_aload_n X 0 rfl dX1_trades_0 ?_
  refine z_get (v := .ref (ad 12)) X 1 0 11 hiX1 rfl rfl (by decide) ⟨rfl, rfl, rfl⟩ (by decide +kernel) rfl dX1_trades_1 ?_
  refine z_getN (v := .int (iZ (u.2 5))) X 0 12 5 hiX0 rfl rfl (by decide) ⟨rfl, rfl, rfl⟩ (X.2.2.2.2.2.2.2.1.f136) rfl dX1_trades_4 ?_
  exact z_iret X hr hlk rfl rfl dX1_trades_7
set_option maxHeartbeats 4000000 in
set_option maxRecDepth 100000 in
theorem c_X1_stored (l : Launch) (D : va_G) (ad : Nat → Nat) (cI cZ cL : ClassId) (u : GS) (h : Int) (h0 : 0 ≤ h ∧ h ≤ 5) : zMi l D (zT cI cZ cL) yX1_stored wsX1_stored ({ frames := 7, cells := 0, slots := 0, locals := 102 } : Room) (Gw ad cI cZ u) [.ref (ad 0), .int (iZ h)] (u.1 5 h) (Gw ad cI cZ u) 0 0 := by
  refine z_mi (cc := cX1_stored) (maxL := 2) (ret := (some .int)) (by decide) rfl (Nat.le_of_ble_eq_true rfl) ?_
  intro p e s m below meth c A X hr hlk hin
  have hiX1 : ∀ w ∈ wsX10, w ∈ wsX1_stored := by decide +kernel
  refine z_sub (lv' := [(0, .ref (ad 0)), (1, .int (iZ h))]) [0, 1] rfl ?_
  refine z_iload_n X 1 rfl dX1_stored_0 ?_
  refine z_callvs X (c_X1_checkHouse l D ad cI cZ cL h (by omega)) (va_cwS 1 X.2.2.2.2.1 gX1_stored_X1_checkHouse rfl rfl rfl (by decide +kernel) ⟨Nat.le_of_ble_eq_true rfl, Nat.le_of_ble_eq_true rfl⟩) rfl [] (Gw ad cI cZ u) rfl [] rfl (Nat.le_of_ble_eq_true rfl) dX1_stored_1 ⟨Nat.le_of_ble_eq_true rfl, Nat.le_of_ble_eq_true rfl⟩ rfl ?_
  refine z_aload_n X 0 rfl dX1_stored_4 ?_
  refine z_get (v := .ref (ad 6)) X 1 0 5 hiX1 rfl rfl (by decide) ⟨rfl, rfl, rfl⟩ (by decide +kernel) rfl dX1_stored_5 ?_
  refine z_iload_n X 1 rfl dX1_stored_8 ?_
  refine z_iald (g := u.1 5) X 6 0 rfl rfl (by omega) (by omega) ⟨by omega, by omega⟩ dX1_stored_9 ?_
  exact z_iret X hr hlk rfl rfl dX1_stored_10
set_option maxHeartbeats 4000000 in
set_option maxRecDepth 100000 in
theorem x_X1_stored (l : Launch) (hl : l.stackTraces = false) (D : va_G) (ad : Nat → Nat) (cI cZ cL : ClassId) (u : GS) (h : Int) (hz : zB h) (h0 : ¬ (0 ≤ h ∧ h ≤ 5)) : zMxi l D (zT cI cZ cL) yX1_stored wsX1_stored ({ frames := 7, cells := 1, slots := 6, locals := 102 } : Room) (Gw ad cI cZ u) [.ref (ad 0), .int (iZ h)] "java/lang/IndexOutOfBoundsException" := by
  refine z_mxi (cc := cX1_stored) (maxL := 2) (ret := (some .int)) (by decide) rfl (Nat.le_of_ble_eq_true rfl) ?_
  intro p e s m below meth c A X hlk hnt
  have hiX1 : ∀ w ∈ wsX10, w ∈ wsX1_stored := by decide +kernel
  refine z_sub (lv' := [(0, .ref (ad 0)), (1, .int (iZ h))]) [0, 1] rfl ?_
  refine z_iload_n X 1 rfl dX1_stored_0 ?_
  refine z_callxvs X (x_X1_checkHouse l hl D ad cI cZ cL h ⟨by omega, by omega⟩ (by omega)) (va_cwS 1 X.2.2.2.2.1 gX1_stored_X1_checkHouse rfl rfl rfl (by decide +kernel) ⟨Nat.le_of_ble_eq_true rfl, Nat.le_of_ble_eq_true rfl⟩) rfl [] (Gw ad cI cZ u) rfl [] rfl (Nat.le_of_ble_eq_true rfl) dX1_stored_1 ⟨Nat.le_of_ble_eq_true rfl, Nat.le_of_ble_eq_true rfl⟩ ?_
  exact z_xout hlk hnt X ⟨Nat.le_of_ble_eq_true rfl, Nat.le_of_ble_eq_true rfl⟩
set_option maxHeartbeats 4000000 in
set_option maxRecDepth 100000 in
theorem c_X1_part (l : Launch) (D : va_G) (ad : Nat → Nat) (cI cZ cL : ClassId) (u : GS) (h : Int) (h0 : 0 ≤ h ∧ h ≤ 5) : zMi l D (zT cI cZ cL) yX1_part wsX1_part ({ frames := 7, cells := 0, slots := 0, locals := 102 } : Room) (Gw ad cI cZ u) [.ref (ad 0), .int (iZ h)] (u.1 4 h) (Gw ad cI cZ u) 0 0 := by
  refine z_mi (cc := cX1_part) (maxL := 2) (ret := (some .int)) (by decide) rfl (Nat.le_of_ble_eq_true rfl) ?_
  intro p e s m below meth c A X hr hlk hin
  have hiX1 : ∀ w ∈ wsX10, w ∈ wsX1_part := by decide +kernel
  refine z_sub (lv' := [(0, .ref (ad 0)), (1, .int (iZ h))]) [0, 1] rfl ?_
  refine z_iload_n X 1 rfl dX1_part_0 ?_
  refine z_callvs X (c_X1_checkHouse l D ad cI cZ cL h (by omega)) (va_cwS 1 X.2.2.2.2.1 gX1_part_X1_checkHouse rfl rfl rfl (by decide +kernel) ⟨Nat.le_of_ble_eq_true rfl, Nat.le_of_ble_eq_true rfl⟩) rfl [] (Gw ad cI cZ u) rfl [] rfl (Nat.le_of_ble_eq_true rfl) dX1_part_1 ⟨Nat.le_of_ble_eq_true rfl, Nat.le_of_ble_eq_true rfl⟩ rfl ?_
  refine z_aload_n X 0 rfl dX1_part_4 ?_
  refine z_get (v := .ref (ad 5)) X 1 0 4 hiX1 rfl rfl (by decide) ⟨rfl, rfl, rfl⟩ (by decide +kernel) rfl dX1_part_5 ?_
  refine z_iload_n X 1 rfl dX1_part_8 ?_
  refine z_iald (g := u.1 4) X 5 0 rfl rfl (by omega) (by omega) ⟨by omega, by omega⟩ dX1_part_9 ?_
  exact z_iret X hr hlk rfl rfl dX1_part_10
set_option maxHeartbeats 4000000 in
set_option maxRecDepth 100000 in
theorem x_X1_part (l : Launch) (hl : l.stackTraces = false) (D : va_G) (ad : Nat → Nat) (cI cZ cL : ClassId) (u : GS) (h : Int) (hz : zB h) (h0 : ¬ (0 ≤ h ∧ h ≤ 5)) : zMxi l D (zT cI cZ cL) yX1_part wsX1_part ({ frames := 7, cells := 1, slots := 6, locals := 102 } : Room) (Gw ad cI cZ u) [.ref (ad 0), .int (iZ h)] "java/lang/IndexOutOfBoundsException" := by
  refine z_mxi (cc := cX1_part) (maxL := 2) (ret := (some .int)) (by decide) rfl (Nat.le_of_ble_eq_true rfl) ?_
  intro p e s m below meth c A X hlk hnt
  have hiX1 : ∀ w ∈ wsX10, w ∈ wsX1_part := by decide +kernel
  refine z_sub (lv' := [(0, .ref (ad 0)), (1, .int (iZ h))]) [0, 1] rfl ?_
  refine z_iload_n X 1 rfl dX1_part_0 ?_
  refine z_callxvs X (x_X1_checkHouse l hl D ad cI cZ cL h ⟨by omega, by omega⟩ (by omega)) (va_cwS 1 X.2.2.2.2.1 gX1_part_X1_checkHouse rfl rfl rfl (by decide +kernel) ⟨Nat.le_of_ble_eq_true rfl, Nat.le_of_ble_eq_true rfl⟩) rfl [] (Gw ad cI cZ u) rfl [] rfl (Nat.le_of_ble_eq_true rfl) dX1_part_1 ⟨Nat.le_of_ble_eq_true rfl, Nat.le_of_ble_eq_true rfl⟩ ?_
  exact z_xout hlk hnt X ⟨Nat.le_of_ble_eq_true rfl, Nat.le_of_ble_eq_true rfl⟩
set_option maxHeartbeats 4000000 in
set_option maxRecDepth 100000 in
theorem c_X1_bill (l : Launch) (D : va_G) (ad : Nat → Nat) (cI cZ cL : ClassId) (u : GS) (h : Int) (h0 : 0 ≤ h ∧ h ≤ 5) : zMi l D (zT cI cZ cL) yX1_bill wsX1_bill ({ frames := 7, cells := 0, slots := 0, locals := 102 } : Room) (Gw ad cI cZ u) [.ref (ad 0), .int (iZ h)] (u.1 6 h) (Gw ad cI cZ u) 0 0 := by
  refine z_mi (cc := cX1_bill) (maxL := 2) (ret := (some .int)) (by decide) rfl (Nat.le_of_ble_eq_true rfl) ?_
  intro p e s m below meth c A X hr hlk hin
  have hiX1 : ∀ w ∈ wsX10, w ∈ wsX1_bill := by decide +kernel
  refine z_sub (lv' := [(0, .ref (ad 0)), (1, .int (iZ h))]) [0, 1] rfl ?_
  refine z_iload_n X 1 rfl dX1_bill_0 ?_
  refine z_callvs X (c_X1_checkHouse l D ad cI cZ cL h (by omega)) (va_cwS 1 X.2.2.2.2.1 gX1_bill_X1_checkHouse rfl rfl rfl (by decide +kernel) ⟨Nat.le_of_ble_eq_true rfl, Nat.le_of_ble_eq_true rfl⟩) rfl [] (Gw ad cI cZ u) rfl [] rfl (Nat.le_of_ble_eq_true rfl) dX1_bill_1 ⟨Nat.le_of_ble_eq_true rfl, Nat.le_of_ble_eq_true rfl⟩ rfl ?_
  refine z_aload_n X 0 rfl dX1_bill_4 ?_
  refine z_get (v := .ref (ad 7)) X 1 0 6 hiX1 rfl rfl (by decide) ⟨rfl, rfl, rfl⟩ (by decide +kernel) rfl dX1_bill_5 ?_
  refine z_iload_n X 1 rfl dX1_bill_8 ?_
  refine z_iald (g := u.1 6) X 7 0 rfl rfl (by omega) (by omega) ⟨by omega, by omega⟩ dX1_bill_9 ?_
  exact z_iret X hr hlk rfl rfl dX1_bill_10
set_option maxHeartbeats 4000000 in
set_option maxRecDepth 100000 in
theorem x_X1_bill (l : Launch) (hl : l.stackTraces = false) (D : va_G) (ad : Nat → Nat) (cI cZ cL : ClassId) (u : GS) (h : Int) (hz : zB h) (h0 : ¬ (0 ≤ h ∧ h ≤ 5)) : zMxi l D (zT cI cZ cL) yX1_bill wsX1_bill ({ frames := 7, cells := 1, slots := 6, locals := 102 } : Room) (Gw ad cI cZ u) [.ref (ad 0), .int (iZ h)] "java/lang/IndexOutOfBoundsException" := by
  refine z_mxi (cc := cX1_bill) (maxL := 2) (ret := (some .int)) (by decide) rfl (Nat.le_of_ble_eq_true rfl) ?_
  intro p e s m below meth c A X hlk hnt
  have hiX1 : ∀ w ∈ wsX10, w ∈ wsX1_bill := by decide +kernel
  refine z_sub (lv' := [(0, .ref (ad 0)), (1, .int (iZ h))]) [0, 1] rfl ?_
  refine z_iload_n X 1 rfl dX1_bill_0 ?_
  refine z_callxvs X (x_X1_checkHouse l hl D ad cI cZ cL h ⟨by omega, by omega⟩ (by omega)) (va_cwS 1 X.2.2.2.2.1 gX1_bill_X1_checkHouse rfl rfl rfl (by decide +kernel) ⟨Nat.le_of_ble_eq_true rfl, Nat.le_of_ble_eq_true rfl⟩) rfl [] (Gw ad cI cZ u) rfl [] rfl (Nat.le_of_ble_eq_true rfl) dX1_bill_1 ⟨Nat.le_of_ble_eq_true rfl, Nat.le_of_ble_eq_true rfl⟩ ?_
  exact z_xout hlk hnt X ⟨Nat.le_of_ble_eq_true rfl, Nat.le_of_ble_eq_true rfl⟩
set_option maxHeartbeats 4000000 in
set_option maxRecDepth 100000 in
theorem c_X1_flow (l : Launch) (D : va_G) (ad : Nat → Nat) (cI cZ cL : ClassId) (u : GS) (h : Int) (h0 : 0 ≤ h ∧ h ≤ 4) : zMi l D (zT cI cZ cL) yX1_flow wsX1_flow ({ frames := 7, cells := 0, slots := 0, locals := 102 } : Room) (Gw ad cI cZ u) [.ref (ad 0), .int (iZ h)] (u.1 9 h) (Gw ad cI cZ u) 0 0 := by
  refine z_mi (cc := cX1_flow) (maxL := 2) (ret := (some .int)) (by decide) rfl (Nat.le_of_ble_eq_true rfl) ?_
  intro p e s m below meth c A X hr hlk hin
  have hiX1 : ∀ w ∈ wsX10, w ∈ wsX1_flow := by decide +kernel
  refine z_sub (lv' := [(0, .ref (ad 0)), (1, .int (iZ h))]) [0, 1] rfl ?_
  refine z_iload_n X 1 rfl dX1_flow_0 ?_
  refine z_callvs X (c_X1_checkStretch l D ad cI cZ cL h (by omega)) (va_cwS 1 X.2.2.2.2.1 gX1_flow_X1_checkStretch rfl rfl rfl (by decide +kernel) ⟨Nat.le_of_ble_eq_true rfl, Nat.le_of_ble_eq_true rfl⟩) rfl [] (Gw ad cI cZ u) rfl [] rfl (Nat.le_of_ble_eq_true rfl) dX1_flow_1 ⟨Nat.le_of_ble_eq_true rfl, Nat.le_of_ble_eq_true rfl⟩ rfl ?_
  refine z_aload_n X 0 rfl dX1_flow_4 ?_
  refine z_get (v := .ref (ad 10)) X 1 0 9 hiX1 rfl rfl (by decide) ⟨rfl, rfl, rfl⟩ (by decide +kernel) rfl dX1_flow_5 ?_
  refine z_iload_n X 1 rfl dX1_flow_8 ?_
  refine z_iald (g := u.1 9) X 10 0 rfl rfl (by omega) (by omega) ⟨by omega, by omega⟩ dX1_flow_9 ?_
  exact z_iret X hr hlk rfl rfl dX1_flow_10
set_option maxHeartbeats 4000000 in
set_option maxRecDepth 100000 in
theorem x_X1_flow (l : Launch) (hl : l.stackTraces = false) (D : va_G) (ad : Nat → Nat) (cI cZ cL : ClassId) (u : GS) (h : Int) (hz : zB h) (h0 : ¬ (0 ≤ h ∧ h ≤ 4)) : zMxi l D (zT cI cZ cL) yX1_flow wsX1_flow ({ frames := 7, cells := 1, slots := 6, locals := 102 } : Room) (Gw ad cI cZ u) [.ref (ad 0), .int (iZ h)] "java/lang/IndexOutOfBoundsException" := by
  refine z_mxi (cc := cX1_flow) (maxL := 2) (ret := (some .int)) (by decide) rfl (Nat.le_of_ble_eq_true rfl) ?_
  intro p e s m below meth c A X hlk hnt
  have hiX1 : ∀ w ∈ wsX10, w ∈ wsX1_flow := by decide +kernel
  refine z_sub (lv' := [(0, .ref (ad 0)), (1, .int (iZ h))]) [0, 1] rfl ?_
  refine z_iload_n X 1 rfl dX1_flow_0 ?_
  refine z_callxvs X (x_X1_checkStretch l hl D ad cI cZ cL h ⟨by omega, by omega⟩ (by omega)) (va_cwS 1 X.2.2.2.2.1 gX1_flow_X1_checkStretch rfl rfl rfl (by decide +kernel) ⟨Nat.le_of_ble_eq_true rfl, Nat.le_of_ble_eq_true rfl⟩) rfl [] (Gw ad cI cZ u) rfl [] rfl (Nat.le_of_ble_eq_true rfl) dX1_flow_1 ⟨Nat.le_of_ble_eq_true rfl, Nat.le_of_ble_eq_true rfl⟩ ?_
  exact z_xout hlk hnt X ⟨Nat.le_of_ble_eq_true rfl, Nat.le_of_ble_eq_true rfl⟩
set_option maxHeartbeats 4000000 in
set_option maxRecDepth 100000 in
theorem c_X1_isMember (l : Launch) (D : va_G) (ad : Nat → Nat) (cI cZ cL : ClassId) (u : GS) (h : Int) (h0 : 0 ≤ h ∧ h ≤ 5) (hm : ∀ i, 0 ≤ u.1 0 i ∧ u.1 0 i ≤ 1) : zMi l D (zT cI cZ cL) yX1_isMember wsX1_isMember ({ frames := 7, cells := 0, slots := 0, locals := 102 } : Room) (Gw ad cI cZ u) [.ref (ad 0), .int (iZ h)] (u.1 0 h) (Gw ad cI cZ u) 0 0 := by
  refine z_mi (cc := cX1_isMember) (maxL := 2) (ret := (some .boolean)) (by decide) rfl (Nat.le_of_ble_eq_true rfl) ?_
  intro p e s m below meth c A X hr hlk hin
  have hiX1 : ∀ w ∈ wsX10, w ∈ wsX1_isMember := by decide +kernel
  refine z_sub (lv' := [(0, .ref (ad 0)), (1, .int (iZ h))]) [0, 1] rfl ?_
  refine z_iload_n X 1 rfl dX1_isMember_0 ?_
  refine z_callvs X (c_X1_checkHouse l D ad cI cZ cL h (by omega)) (va_cwS 1 X.2.2.2.2.1 gX1_isMember_X1_checkHouse rfl rfl rfl (by decide +kernel) ⟨Nat.le_of_ble_eq_true rfl, Nat.le_of_ble_eq_true rfl⟩) rfl [] (Gw ad cI cZ u) rfl [] rfl (Nat.le_of_ble_eq_true rfl) dX1_isMember_1 ⟨Nat.le_of_ble_eq_true rfl, Nat.le_of_ble_eq_true rfl⟩ rfl ?_
  refine z_aload_n X 0 rfl dX1_isMember_4 ?_
  refine z_get (v := .ref (ad 1)) X 1 0 0 hiX1 rfl rfl (by decide) ⟨rfl, rfl, rfl⟩ (by decide +kernel) rfl dX1_isMember_5 ?_
  refine z_iload_n X 1 rfl dX1_isMember_8 ?_
  refine z_zald (g := u.1 0) X 1 1 rfl rfl (by omega) (by omega) ⟨by omega, by omega⟩ dX1_isMember_9 ?_
  have b_1 := hm h
  exact z_zret X hr hlk (by omega) rfl rfl dX1_isMember_10
set_option maxHeartbeats 4000000 in
set_option maxRecDepth 100000 in
theorem x_X1_isMember (l : Launch) (hl : l.stackTraces = false) (D : va_G) (ad : Nat → Nat) (cI cZ cL : ClassId) (u : GS) (h : Int) (hz : zB h) (h0 : ¬ (0 ≤ h ∧ h ≤ 5)) : zMxi l D (zT cI cZ cL) yX1_isMember wsX1_isMember ({ frames := 7, cells := 1, slots := 6, locals := 102 } : Room) (Gw ad cI cZ u) [.ref (ad 0), .int (iZ h)] "java/lang/IndexOutOfBoundsException" := by
  refine z_mxi (cc := cX1_isMember) (maxL := 2) (ret := (some .boolean)) (by decide) rfl (Nat.le_of_ble_eq_true rfl) ?_
  intro p e s m below meth c A X hlk hnt
  have hiX1 : ∀ w ∈ wsX10, w ∈ wsX1_isMember := by decide +kernel
  refine z_sub (lv' := [(0, .ref (ad 0)), (1, .int (iZ h))]) [0, 1] rfl ?_
  refine z_iload_n X 1 rfl dX1_isMember_0 ?_
  refine z_callxvs X (x_X1_checkHouse l hl D ad cI cZ cL h ⟨by omega, by omega⟩ (by omega)) (va_cwS 1 X.2.2.2.2.1 gX1_isMember_X1_checkHouse rfl rfl rfl (by decide +kernel) ⟨Nat.le_of_ble_eq_true rfl, Nat.le_of_ble_eq_true rfl⟩) rfl [] (Gw ad cI cZ u) rfl [] rfl (Nat.le_of_ble_eq_true rfl) dX1_isMember_1 ⟨Nat.le_of_ble_eq_true rfl, Nat.le_of_ble_eq_true rfl⟩ ?_
  exact z_xout hlk hnt X ⟨Nat.le_of_ble_eq_true rfl, Nat.le_of_ble_eq_true rfl⟩
set_option maxHeartbeats 4000000 in
set_option maxRecDepth 100000 in
theorem c_X1_went (l : Launch) (D : va_G) (ad : Nat → Nat) (cI cZ cL : ClassId) (u : GS) (h : Int) (h0 : 0 ≤ h ∧ h ≤ 5) : zMi l D (zT cI cZ cL) yX1_went wsX1_went ({ frames := 6, cells := 0, slots := 0, locals := 82 } : Room) (Gw ad cI cZ u) [.ref (ad 0), .int (iZ h)] (u.1 10 h) (Gw ad cI cZ u) 0 0 := by
  refine z_mi (cc := cX1_went) (maxL := 2) (ret := (some .int)) (by decide) rfl (Nat.le_of_ble_eq_true rfl) ?_
  intro p e s m below meth c A X hr hlk hin
  have hiX1 : ∀ w ∈ wsX10, w ∈ wsX1_went := by decide +kernel
  refine z_sub (lv' := [(0, .ref (ad 0)), (1, .int (iZ h))]) [0, 1] rfl ?_
  refine z_iload_n X 1 rfl dX1_went_0 ?_
  refine z_if_lt (tgt := 10) X ⟨by omega, by omega⟩ (by decide) dX1_went_1 (fun c_1 => ?_) (fun c_1 => ?_)
  · exact absurd c_1 (by omega)
  · skip
    refine z_iload_n X 1 rfl dX1_went_4 ?_
    refine z_bipush X (by decide) dX1_went_5 ?_
    refine z_icmp_lt (tgt := 20) X ⟨by omega, by omega⟩ ⟨by omega, by omega⟩ (by decide) dX1_went_7 (fun c_2 => ?_) (fun c_2 => ?_)
    · skip
      refine z_aload_n X 0 rfl dX1_went_20 ?_
      refine z_get (v := .ref (ad 11)) X 1 0 10 hiX1 rfl rfl (by decide) ⟨rfl, rfl, rfl⟩ (by decide +kernel) rfl dX1_went_21 ?_
      refine z_iload_n X 1 rfl dX1_went_24 ?_
      refine z_iald (g := u.1 10) X 11 0 rfl rfl (by omega) (by omega) ⟨by omega, by omega⟩ dX1_went_25 ?_
      exact z_iret X hr hlk rfl rfl dX1_went_26
    · exact absurd c_2 (by omega)
set_option maxHeartbeats 4000000 in
set_option maxRecDepth 100000 in
theorem x_X1_went (l : Launch) (hl : l.stackTraces = false) (D : va_G) (ad : Nat → Nat) (cI cZ cL : ClassId) (u : GS) (h : Int) (hz : zB h) (h0 : ¬ (0 ≤ h ∧ h ≤ 5)) : zMxi l D (zT cI cZ cL) yX1_went wsX1_went ({ frames := 6, cells := 1, slots := 6, locals := 82 } : Room) (Gw ad cI cZ u) [.ref (ad 0), .int (iZ h)] "java/lang/IndexOutOfBoundsException" := by
  refine z_mxi (cc := cX1_went) (maxL := 2) (ret := (some .int)) (by decide) rfl (Nat.le_of_ble_eq_true rfl) ?_
  intro p e s m below meth c A X hlk hnt
  have hiX1 : ∀ w ∈ wsX10, w ∈ wsX1_went := by decide +kernel
  refine z_sub (lv' := [(0, .ref (ad 0)), (1, .int (iZ h))]) [0, 1] rfl ?_
  refine z_iload_n X 1 rfl dX1_went_0 ?_
  refine z_if_lt (tgt := 10) X ⟨by omega, by omega⟩ (by decide) dX1_went_1 (fun c_1 => ?_) (fun c_1 => ?_)
  · skip
    exact z_throw hl hlk hnt X zft_0 (by decide +kernel) (by decide +kernel) X.2.2.2.2.2.2.2.1.s156 X.2.2.2.2.2.2.2.1.c0 (by decide +kernel) zng_0 zgo_0 dX1_went_10 dX1_went_13 dX1_went_14 dX1_went_16 dX1_went_19 ⟨Nat.le_of_ble_eq_true rfl, Nat.le_of_ble_eq_true rfl, Nat.le_of_ble_eq_true rfl, Nat.le_of_ble_eq_true rfl⟩ ⟨Nat.le_of_ble_eq_true rfl, Nat.le_of_ble_eq_true rfl⟩
  · skip
    refine z_iload_n X 1 rfl dX1_went_4 ?_
    refine z_bipush X (by decide) dX1_went_5 ?_
    refine z_icmp_lt (tgt := 20) X ⟨by omega, by omega⟩ ⟨by omega, by omega⟩ (by decide) dX1_went_7 (fun c_2 => ?_) (fun c_2 => ?_)
    · exact absurd c_2 (by omega)
    · skip
      exact z_throw hl hlk hnt X zft_0 (by decide +kernel) (by decide +kernel) X.2.2.2.2.2.2.2.1.s156 X.2.2.2.2.2.2.2.1.c0 (by decide +kernel) zng_0 zgo_0 dX1_went_10 dX1_went_13 dX1_went_14 dX1_went_16 dX1_went_19 ⟨Nat.le_of_ble_eq_true rfl, Nat.le_of_ble_eq_true rfl, Nat.le_of_ble_eq_true rfl, Nat.le_of_ble_eq_true rfl⟩ ⟨Nat.le_of_ble_eq_true rfl, Nat.le_of_ble_eq_true rfl⟩
set_option maxHeartbeats 4000000 in
set_option maxRecDepth 100000 in
theorem c_X1_ofTrade (l : Launch) (D : va_G) (ad : Nat → Nat) (cI cZ cL : ClassId) (u : GS) (t w : Int) (hc : 0 ≤ u.2 5 ∧ u.2 5 ≤ 6) (h0 : 0 ≤ t ∧ t < u.2 5) (h1 : 0 ≤ w ∧ w ≤ 3) : zMi l D (zT cI cZ cL) yX1_ofTrade wsX1_ofTrade ({ frames := 6, cells := 0, slots := 0, locals := 82 } : Room) (Gw ad cI cZ u) [.ref (ad 0), .int (iZ t), .int (iZ w)] (f_ofTrade u t w) (Gw ad cI cZ u) 0 0 := by
  refine z_mi (cc := cX1_ofTrade) (maxL := 3) (ret := (some .int)) (by decide) rfl (Nat.le_of_ble_eq_true rfl) ?_
  intro p e s m below meth c A X hr hlk hin
  have hiX0 : ∀ w ∈ wsX00, w ∈ wsX1_ofTrade := by decide +kernel
  have hiX1 : ∀ w ∈ wsX10, w ∈ wsX1_ofTrade := by decide +kernel
  refine z_sub (lv' := [(0, .ref (ad 0)), (1, .int (iZ t)), (2, .int (iZ w))]) [0, 1, 2] rfl ?_
  refine z_iload_n X 1 rfl dX1_ofTrade_0 ?_
  refine z_if_lt (tgt := 15) X ⟨by omega, by omega⟩ (by decide) dX1_ofTrade_1 (fun c_1 => ?_) (fun c_1 => ?_)
  · exact absurd c_1 (by omega)
  · skip
    refine z_iload_n X 1 rfl dX1_ofTrade_4 ?_
    refine z_aload_n X 0 rfl dX1_ofTrade_5 ?_
    refine z_get (v := .ref (ad 12)) X 1 0 11 hiX1 rfl rfl (by decide) ⟨rfl, rfl, rfl⟩ (by decide +kernel) rfl dX1_ofTrade_6 ?_
    refine z_getN (v := .int (iZ (u.2 5))) X 0 12 5 hiX0 rfl rfl (by decide) ⟨rfl, rfl, rfl⟩ (X.2.2.2.2.2.2.2.1.f136) rfl dX1_ofTrade_9 ?_
    refine z_icmp_lt (tgt := 25) X ⟨by omega, by omega⟩ ⟨by omega, by omega⟩ (by decide) dX1_ofTrade_12 (fun c_2 => ?_) (fun c_2 => ?_)
    · skip
      refine z_iload_n X 2 rfl dX1_ofTrade_25 ?_
      rcases (show w = 0 ∨ w = 1 ∨ w = 2 ∨ w = 3 by omega) with rfl | rfl | rfl | rfl
      · refine z_tsw X (30) 56 ⟨by decide, by decide⟩ (by decide) (by decide) rfl (by decide) dX1_ofTrade_26 ?_
        refine z_aload_n X 0 rfl dX1_ofTrade_56 ?_
        refine z_get (v := .ref (ad 12)) X 1 0 11 hiX1 rfl rfl (by decide) ⟨rfl, rfl, rfl⟩ (by decide +kernel) rfl dX1_ofTrade_57 ?_
        refine z_getN (v := .ref (ad 13)) X 0 12 0 hiX0 rfl rfl (by decide) ⟨rfl, rfl, rfl⟩ (X.2.2.2.2.2.2.2.1.f144) rfl dX1_ofTrade_60 ?_
        refine z_iload_n X 1 rfl dX1_ofTrade_63 ?_
        refine z_iald (g := u.1 11) X 13 0 rfl rfl (by omega) (by omega) ⟨by omega, by omega⟩ dX1_ofTrade_64 ?_
        exact z_iret X hr hlk (by simp [f_ofTrade]) rfl dX1_ofTrade_65
      · refine z_tsw X (40) 66 ⟨by decide, by decide⟩ (by decide) (by decide) rfl (by decide) dX1_ofTrade_26 ?_
        refine z_aload_n X 0 rfl dX1_ofTrade_66 ?_
        refine z_get (v := .ref (ad 12)) X 1 0 11 hiX1 rfl rfl (by decide) ⟨rfl, rfl, rfl⟩ (by decide +kernel) rfl dX1_ofTrade_67 ?_
        refine z_getN (v := .ref (ad 14)) X 0 12 1 hiX0 rfl rfl (by decide) ⟨rfl, rfl, rfl⟩ (X.2.2.2.2.2.2.2.1.f147) rfl dX1_ofTrade_70 ?_
        refine z_iload_n X 1 rfl dX1_ofTrade_73 ?_
        refine z_iald (g := u.1 12) X 14 0 rfl rfl (by omega) (by omega) ⟨by omega, by omega⟩ dX1_ofTrade_74 ?_
        exact z_iret X hr hlk (by simp [f_ofTrade]) rfl dX1_ofTrade_75
      · refine z_tsw X (50) 76 ⟨by decide, by decide⟩ (by decide) (by decide) rfl (by decide) dX1_ofTrade_26 ?_
        refine z_aload_n X 0 rfl dX1_ofTrade_76 ?_
        refine z_get (v := .ref (ad 12)) X 1 0 11 hiX1 rfl rfl (by decide) ⟨rfl, rfl, rfl⟩ (by decide +kernel) rfl dX1_ofTrade_77 ?_
        refine z_getN (v := .ref (ad 15)) X 0 12 2 hiX0 rfl rfl (by decide) ⟨rfl, rfl, rfl⟩ (X.2.2.2.2.2.2.2.1.f150) rfl dX1_ofTrade_80 ?_
        refine z_iload_n X 1 rfl dX1_ofTrade_83 ?_
        refine z_iald (g := u.1 13) X 15 0 rfl rfl (by omega) (by omega) ⟨by omega, by omega⟩ dX1_ofTrade_84 ?_
        exact z_iret X hr hlk (by simp [f_ofTrade]) rfl dX1_ofTrade_85
      · refine z_tsw X (60) 86 ⟨by decide, by decide⟩ (by decide) (by decide) rfl (by decide) dX1_ofTrade_26 ?_
        refine z_aload_n X 0 rfl dX1_ofTrade_86 ?_
        refine z_get (v := .ref (ad 12)) X 1 0 11 hiX1 rfl rfl (by decide) ⟨rfl, rfl, rfl⟩ (by decide +kernel) rfl dX1_ofTrade_87 ?_
        refine z_getN (v := .ref (ad 17)) X 0 12 4 hiX0 rfl rfl (by decide) ⟨rfl, rfl, rfl⟩ (X.2.2.2.2.2.2.2.1.f153) rfl dX1_ofTrade_90 ?_
        refine z_iload_n X 1 rfl dX1_ofTrade_93 ?_
        refine z_iald (g := u.1 15) X 17 0 rfl rfl (by omega) (by omega) ⟨by omega, by omega⟩ dX1_ofTrade_94 ?_
        exact z_iret X hr hlk (by simp [f_ofTrade]) rfl dX1_ofTrade_95
    · exact absurd c_2 (by omega)
set_option maxHeartbeats 4000000 in
set_option maxRecDepth 100000 in
theorem x_X1_ofTrade_1 (l : Launch) (hl : l.stackTraces = false) (D : va_G) (ad : Nat → Nat) (cI cZ cL : ClassId) (u : GS) (t w : Int) (hz : zB t) (hz2 : zB w) (hc : 0 ≤ u.2 5 ∧ u.2 5 ≤ 6) (h0 : ¬ (0 ≤ t ∧ t < u.2 5)) : zMxi l D (zT cI cZ cL) yX1_ofTrade wsX1_ofTrade ({ frames := 6, cells := 1, slots := 6, locals := 82 } : Room) (Gw ad cI cZ u) [.ref (ad 0), .int (iZ t), .int (iZ w)] "java/lang/IndexOutOfBoundsException" := by
  refine z_mxi (cc := cX1_ofTrade) (maxL := 3) (ret := (some .int)) (by decide) rfl (Nat.le_of_ble_eq_true rfl) ?_
  intro p e s m below meth c A X hlk hnt
  have hiX0 : ∀ w ∈ wsX00, w ∈ wsX1_ofTrade := by decide +kernel
  have hiX1 : ∀ w ∈ wsX10, w ∈ wsX1_ofTrade := by decide +kernel
  refine z_sub (lv' := [(0, .ref (ad 0)), (1, .int (iZ t)), (2, .int (iZ w))]) [0, 1, 2] rfl ?_
  refine z_iload_n X 1 rfl dX1_ofTrade_0 ?_
  refine z_if_lt (tgt := 15) X ⟨by omega, by omega⟩ (by decide) dX1_ofTrade_1 (fun c_1 => ?_) (fun c_1 => ?_)
  · skip
    exact z_throw hl hlk hnt X zft_0 (by decide +kernel) (by decide +kernel) X.2.2.2.2.2.2.2.1.s141 X.2.2.2.2.2.2.2.1.c0 (by decide +kernel) zng_0 zgo_0 dX1_ofTrade_15 dX1_ofTrade_18 dX1_ofTrade_19 dX1_ofTrade_21 dX1_ofTrade_24 ⟨Nat.le_of_ble_eq_true rfl, Nat.le_of_ble_eq_true rfl, Nat.le_of_ble_eq_true rfl, Nat.le_of_ble_eq_true rfl⟩ ⟨Nat.le_of_ble_eq_true rfl, Nat.le_of_ble_eq_true rfl⟩
  · skip
    refine z_iload_n X 1 rfl dX1_ofTrade_4 ?_
    refine z_aload_n X 0 rfl dX1_ofTrade_5 ?_
    refine z_get (v := .ref (ad 12)) X 1 0 11 hiX1 rfl rfl (by decide) ⟨rfl, rfl, rfl⟩ (by decide +kernel) rfl dX1_ofTrade_6 ?_
    refine z_getN (v := .int (iZ (u.2 5))) X 0 12 5 hiX0 rfl rfl (by decide) ⟨rfl, rfl, rfl⟩ (X.2.2.2.2.2.2.2.1.f136) rfl dX1_ofTrade_9 ?_
    refine z_icmp_lt (tgt := 25) X ⟨by omega, by omega⟩ ⟨by omega, by omega⟩ (by decide) dX1_ofTrade_12 (fun c_2 => ?_) (fun c_2 => ?_)
    · exact absurd c_2 (by omega)
    · skip
      exact z_throw hl hlk hnt X zft_0 (by decide +kernel) (by decide +kernel) X.2.2.2.2.2.2.2.1.s141 X.2.2.2.2.2.2.2.1.c0 (by decide +kernel) zng_0 zgo_0 dX1_ofTrade_15 dX1_ofTrade_18 dX1_ofTrade_19 dX1_ofTrade_21 dX1_ofTrade_24 ⟨Nat.le_of_ble_eq_true rfl, Nat.le_of_ble_eq_true rfl, Nat.le_of_ble_eq_true rfl, Nat.le_of_ble_eq_true rfl⟩ ⟨Nat.le_of_ble_eq_true rfl, Nat.le_of_ble_eq_true rfl⟩
set_option maxHeartbeats 4000000 in
set_option maxRecDepth 100000 in
theorem x_X1_ofTrade_2 (l : Launch) (hl : l.stackTraces = false) (D : va_G) (ad : Nat → Nat) (cI cZ cL : ClassId) (u : GS) (t w : Int) (hz : zB t) (hz2 : zB w) (hc : 0 ≤ u.2 5 ∧ u.2 5 ≤ 6) (h0 : 0 ≤ t ∧ t < u.2 5) (h1 : ¬ (0 ≤ w ∧ w ≤ 3)) : zMxi l D (zT cI cZ cL) yX1_ofTrade wsX1_ofTrade ({ frames := 6, cells := 1, slots := 6, locals := 82 } : Room) (Gw ad cI cZ u) [.ref (ad 0), .int (iZ t), .int (iZ w)] "java/lang/IndexOutOfBoundsException" := by
  refine z_mxi (cc := cX1_ofTrade) (maxL := 3) (ret := (some .int)) (by decide) rfl (Nat.le_of_ble_eq_true rfl) ?_
  intro p e s m below meth c A X hlk hnt
  have hiX0 : ∀ w ∈ wsX00, w ∈ wsX1_ofTrade := by decide +kernel
  have hiX1 : ∀ w ∈ wsX10, w ∈ wsX1_ofTrade := by decide +kernel
  refine z_sub (lv' := [(0, .ref (ad 0)), (1, .int (iZ t)), (2, .int (iZ w))]) [0, 1, 2] rfl ?_
  refine z_iload_n X 1 rfl dX1_ofTrade_0 ?_
  refine z_if_lt (tgt := 15) X ⟨by omega, by omega⟩ (by decide) dX1_ofTrade_1 (fun c_1 => ?_) (fun c_1 => ?_)
  · exact absurd c_1 (by omega)
  · skip
    refine z_iload_n X 1 rfl dX1_ofTrade_4 ?_
    refine z_aload_n X 0 rfl dX1_ofTrade_5 ?_
    refine z_get (v := .ref (ad 12)) X 1 0 11 hiX1 rfl rfl (by decide) ⟨rfl, rfl, rfl⟩ (by decide +kernel) rfl dX1_ofTrade_6 ?_
    refine z_getN (v := .int (iZ (u.2 5))) X 0 12 5 hiX0 rfl rfl (by decide) ⟨rfl, rfl, rfl⟩ (X.2.2.2.2.2.2.2.1.f136) rfl dX1_ofTrade_9 ?_
    refine z_icmp_lt (tgt := 25) X ⟨by omega, by omega⟩ ⟨by omega, by omega⟩ (by decide) dX1_ofTrade_12 (fun c_2 => ?_) (fun c_2 => ?_)
    · skip
      refine z_iload_n X 2 rfl dX1_ofTrade_25 ?_
      refine z_tswO X 96 ⟨by omega, by omega⟩ (by omega) (by decide) dX1_ofTrade_26 ?_
      exact z_throw hl hlk hnt X zft_0 (by decide +kernel) (by decide +kernel) X.2.2.2.2.2.2.2.1.s154 X.2.2.2.2.2.2.2.1.c0 (by decide +kernel) zng_0 zgo_0 dX1_ofTrade_96 dX1_ofTrade_99 dX1_ofTrade_100 dX1_ofTrade_102 dX1_ofTrade_105 ⟨Nat.le_of_ble_eq_true rfl, Nat.le_of_ble_eq_true rfl, Nat.le_of_ble_eq_true rfl, Nat.le_of_ble_eq_true rfl⟩ ⟨Nat.le_of_ble_eq_true rfl, Nat.le_of_ble_eq_true rfl⟩
    · exact absurd c_2 (by omega)
set_option maxHeartbeats 4000000 in
set_option maxRecDepth 100000 in
theorem c_X1_forecast (l : Launch) (D : va_G) (ad : Nat → Nat) (cI cZ cL : ClassId) (u : GS) (h x : Int) (h0 : 0 ≤ h ∧ h ≤ 5) (h1 : -50 ≤ x ∧ x ≤ 50) (hB : Bd u) (hm : ¬ u.1 0 h = 0) : zMi l D (zT cI cZ cL) yX1_forecast wsX1_forecast ({ frames := 7, cells := 0, slots := 0, locals := 104 } : Room) (Gw ad cI cZ u) [.ref (ad 0), .int (iZ h), .int (iZ x)] (u.1 1 h) (Gw ad cI cZ (gA u 1 h x)) 0 0 := by
  refine z_mi (cc := cX1_forecast) (maxL := 4) (ret := (some .int)) (by decide) rfl (Nat.le_of_ble_eq_true rfl) ?_
  intro p e s m below meth c A X hr hlk hin
  have hiX1 : ∀ w ∈ wsX10, w ∈ wsX1_forecast := by decide +kernel
  refine z_sub (lv' := [(0, .ref (ad 0)), (1, .int (iZ h)), (2, .int (iZ x))]) [0, 1, 2] rfl ?_
  refine z_iload_n X 1 rfl dX1_forecast_0 ?_
  refine z_callvs X (c_X1_checkHouse l D ad cI cZ cL h (by omega)) (va_cwS 1 X.2.2.2.2.1 gX1_forecast_X1_checkHouse rfl rfl rfl (by decide +kernel) ⟨Nat.le_of_ble_eq_true rfl, Nat.le_of_ble_eq_true rfl⟩) rfl [] (Gw ad cI cZ u) rfl [] rfl (Nat.le_of_ble_eq_true rfl) dX1_forecast_1 ⟨Nat.le_of_ble_eq_true rfl, Nat.le_of_ble_eq_true rfl⟩ rfl ?_
  refine z_iload_n X 2 rfl dX1_forecast_4 ?_
  refine z_bipush X (by decide) dX1_forecast_5 ?_
  refine z_bipush X (by decide) dX1_forecast_7 ?_
  refine z_callvs X (c_X1_checkRange l D ad cI cZ cL x (-50) 50 ⟨by omega, by omega⟩ ⟨by omega, by omega⟩ ⟨by omega, by omega⟩ (by omega)) (va_cwS 3 X.2.2.2.2.1 gX1_forecast_X1_checkRange rfl rfl rfl (by decide +kernel) ⟨Nat.le_of_ble_eq_true rfl, Nat.le_of_ble_eq_true rfl⟩) rfl [] (Gw ad cI cZ u) rfl [] rfl (Nat.le_of_ble_eq_true rfl) dX1_forecast_9 ⟨Nat.le_of_ble_eq_true rfl, Nat.le_of_ble_eq_true rfl⟩ rfl ?_
  refine z_aload_n X 0 rfl dX1_forecast_12 ?_
  refine z_iload_n X 1 rfl dX1_forecast_13 ?_
  refine z_callv X (c_X1_checkMember l D ad cI cZ cL u h (by omega) hB (by assumption)) (cwV 1 X.2.2.2.2.1 gX1_forecast_X1_checkMember rfl rfl rfl (by decide +kernel) ⟨Nat.le_of_ble_eq_true rfl, Nat.le_of_ble_eq_true rfl⟩) rfl [] [] (List.append_nil _).symm 1 0 rfl rfl [] rfl (Nat.le_of_ble_eq_true rfl) dX1_forecast_14 ⟨Nat.le_of_ble_eq_true rfl, Nat.le_of_ble_eq_true rfl⟩ (List.append_nil _) ?_
  refine z_aload_n X 0 rfl dX1_forecast_17 ?_
  refine z_get (v := .ref (ad 2)) X 1 0 1 hiX1 rfl rfl (by decide) ⟨rfl, rfl, rfl⟩ (by decide +kernel) rfl dX1_forecast_18 ?_
  refine z_iload_n X 1 rfl dX1_forecast_21 ?_
  refine z_iald (g := u.1 1) X 2 0 rfl rfl (by omega) (by omega) ⟨by omega, by omega⟩ dX1_forecast_22 ?_
  refine z_istore_n X [1, 2, 3, 0] [(0, .ref (ad 0)), (1, .int (iZ h)), (2, .int (iZ x)), (3, .int (iZ (u.1 1 h)))] rfl (Nat.le_of_ble_eq_true rfl) dX1_forecast_23 ?_
  refine z_aload_n X 0 rfl dX1_forecast_24 ?_
  refine z_get (v := .ref (ad 2)) X 1 0 1 hiX1 rfl rfl (by decide) ⟨rfl, rfl, rfl⟩ (by decide +kernel) rfl dX1_forecast_25 ?_
  refine z_iload_n X 1 rfl dX1_forecast_28 ?_
  refine z_iload_n X 2 rfl dX1_forecast_29 ?_
  refine z_iast (g := u.1 1) X 2 0 (Gw ad cI cZ (gA u 1 h x)) rfl rfl (by omega) (by omega) ⟨by omega, by omega⟩ rfl dX1_forecast_30 ?_
  refine z_iload_n X 3 rfl dX1_forecast_31 ?_
  exact z_iret X hr hlk rfl rfl dX1_forecast_32
set_option maxHeartbeats 4000000 in
set_option maxRecDepth 100000 in
theorem x_X1_forecast_1 (l : Launch) (hl : l.stackTraces = false) (D : va_G) (ad : Nat → Nat) (cI cZ cL : ClassId) (u : GS) (h x : Int) (hz : zB h) (hz2 : zB x) (h0 : ¬ (0 ≤ h ∧ h ≤ 5)) : zMxi l D (zT cI cZ cL) yX1_forecast wsX1_forecast ({ frames := 7, cells := 1, slots := 6, locals := 104 } : Room) (Gw ad cI cZ u) [.ref (ad 0), .int (iZ h), .int (iZ x)] "java/lang/IndexOutOfBoundsException" := by
  refine z_mxi (cc := cX1_forecast) (maxL := 4) (ret := (some .int)) (by decide) rfl (Nat.le_of_ble_eq_true rfl) ?_
  intro p e s m below meth c A X hlk hnt
  have hiX1 : ∀ w ∈ wsX10, w ∈ wsX1_forecast := by decide +kernel
  refine z_sub (lv' := [(0, .ref (ad 0)), (1, .int (iZ h)), (2, .int (iZ x))]) [0, 1, 2] rfl ?_
  refine z_iload_n X 1 rfl dX1_forecast_0 ?_
  refine z_callxvs X (x_X1_checkHouse l hl D ad cI cZ cL h ⟨by omega, by omega⟩ (by omega)) (va_cwS 1 X.2.2.2.2.1 gX1_forecast_X1_checkHouse rfl rfl rfl (by decide +kernel) ⟨Nat.le_of_ble_eq_true rfl, Nat.le_of_ble_eq_true rfl⟩) rfl [] (Gw ad cI cZ u) rfl [] rfl (Nat.le_of_ble_eq_true rfl) dX1_forecast_1 ⟨Nat.le_of_ble_eq_true rfl, Nat.le_of_ble_eq_true rfl⟩ ?_
  exact z_xout hlk hnt X ⟨Nat.le_of_ble_eq_true rfl, Nat.le_of_ble_eq_true rfl⟩
set_option maxHeartbeats 4000000 in
set_option maxRecDepth 100000 in
theorem x_X1_forecast_2 (l : Launch) (hl : l.stackTraces = false) (D : va_G) (ad : Nat → Nat) (cI cZ cL : ClassId) (u : GS) (h x : Int) (hz : zB h) (hz2 : zB x) (h0 : 0 ≤ h ∧ h ≤ 5) (h1 : ¬ (-50 ≤ x ∧ x ≤ 50)) : zMxi l D (zT cI cZ cL) yX1_forecast wsX1_forecast ({ frames := 7, cells := 1, slots := 6, locals := 104 } : Room) (Gw ad cI cZ u) [.ref (ad 0), .int (iZ h), .int (iZ x)] "java/lang/IllegalArgumentException" := by
  refine z_mxi (cc := cX1_forecast) (maxL := 4) (ret := (some .int)) (by decide) rfl (Nat.le_of_ble_eq_true rfl) ?_
  intro p e s m below meth c A X hlk hnt
  have hiX1 : ∀ w ∈ wsX10, w ∈ wsX1_forecast := by decide +kernel
  refine z_sub (lv' := [(0, .ref (ad 0)), (1, .int (iZ h)), (2, .int (iZ x))]) [0, 1, 2] rfl ?_
  refine z_iload_n X 1 rfl dX1_forecast_0 ?_
  refine z_callvs X (c_X1_checkHouse l D ad cI cZ cL h (by omega)) (va_cwS 1 X.2.2.2.2.1 gX1_forecast_X1_checkHouse rfl rfl rfl (by decide +kernel) ⟨Nat.le_of_ble_eq_true rfl, Nat.le_of_ble_eq_true rfl⟩) rfl [] (Gw ad cI cZ u) rfl [] rfl (Nat.le_of_ble_eq_true rfl) dX1_forecast_1 ⟨Nat.le_of_ble_eq_true rfl, Nat.le_of_ble_eq_true rfl⟩ rfl ?_
  refine z_iload_n X 2 rfl dX1_forecast_4 ?_
  refine z_bipush X (by decide) dX1_forecast_5 ?_
  refine z_bipush X (by decide) dX1_forecast_7 ?_
  refine z_callxvs X (x_X1_checkRange l hl D ad cI cZ cL x (-50) 50 ⟨by omega, by omega⟩ ⟨by omega, by omega⟩ ⟨by omega, by omega⟩ (by omega)) (va_cwS 3 X.2.2.2.2.1 gX1_forecast_X1_checkRange rfl rfl rfl (by decide +kernel) ⟨Nat.le_of_ble_eq_true rfl, Nat.le_of_ble_eq_true rfl⟩) rfl [] (Gw ad cI cZ u) rfl [] rfl (Nat.le_of_ble_eq_true rfl) dX1_forecast_9 ⟨Nat.le_of_ble_eq_true rfl, Nat.le_of_ble_eq_true rfl⟩ ?_
  exact z_xout hlk hnt X ⟨Nat.le_of_ble_eq_true rfl, Nat.le_of_ble_eq_true rfl⟩
set_option maxHeartbeats 4000000 in
set_option maxRecDepth 100000 in
theorem x_X1_forecast_3 (l : Launch) (hl : l.stackTraces = false) (D : va_G) (ad : Nat → Nat) (cI cZ cL : ClassId) (u : GS) (h x : Int) (hz : zB h) (hz2 : zB x) (h0 : 0 ≤ h ∧ h ≤ 5) (h1 : -50 ≤ x ∧ x ≤ 50) (hB : Bd u) (hm : u.1 0 h = 0) : zMxi l D (zT cI cZ cL) yX1_forecast wsX1_forecast ({ frames := 7, cells := 1, slots := 6, locals := 104 } : Room) (Gw ad cI cZ u) [.ref (ad 0), .int (iZ h), .int (iZ x)] "java/lang/IllegalStateException" := by
  refine z_mxi (cc := cX1_forecast) (maxL := 4) (ret := (some .int)) (by decide) rfl (Nat.le_of_ble_eq_true rfl) ?_
  intro p e s m below meth c A X hlk hnt
  have hiX1 : ∀ w ∈ wsX10, w ∈ wsX1_forecast := by decide +kernel
  refine z_sub (lv' := [(0, .ref (ad 0)), (1, .int (iZ h)), (2, .int (iZ x))]) [0, 1, 2] rfl ?_
  refine z_iload_n X 1 rfl dX1_forecast_0 ?_
  refine z_callvs X (c_X1_checkHouse l D ad cI cZ cL h (by omega)) (va_cwS 1 X.2.2.2.2.1 gX1_forecast_X1_checkHouse rfl rfl rfl (by decide +kernel) ⟨Nat.le_of_ble_eq_true rfl, Nat.le_of_ble_eq_true rfl⟩) rfl [] (Gw ad cI cZ u) rfl [] rfl (Nat.le_of_ble_eq_true rfl) dX1_forecast_1 ⟨Nat.le_of_ble_eq_true rfl, Nat.le_of_ble_eq_true rfl⟩ rfl ?_
  refine z_iload_n X 2 rfl dX1_forecast_4 ?_
  refine z_bipush X (by decide) dX1_forecast_5 ?_
  refine z_bipush X (by decide) dX1_forecast_7 ?_
  refine z_callvs X (c_X1_checkRange l D ad cI cZ cL x (-50) 50 ⟨by omega, by omega⟩ ⟨by omega, by omega⟩ ⟨by omega, by omega⟩ (by omega)) (va_cwS 3 X.2.2.2.2.1 gX1_forecast_X1_checkRange rfl rfl rfl (by decide +kernel) ⟨Nat.le_of_ble_eq_true rfl, Nat.le_of_ble_eq_true rfl⟩) rfl [] (Gw ad cI cZ u) rfl [] rfl (Nat.le_of_ble_eq_true rfl) dX1_forecast_9 ⟨Nat.le_of_ble_eq_true rfl, Nat.le_of_ble_eq_true rfl⟩ rfl ?_
  refine z_aload_n X 0 rfl dX1_forecast_12 ?_
  refine z_iload_n X 1 rfl dX1_forecast_13 ?_
  refine z_callxv X (x_X1_checkMember l hl D ad cI cZ cL u h (by omega) hB (by assumption)) (cwV 1 X.2.2.2.2.1 gX1_forecast_X1_checkMember rfl rfl rfl (by decide +kernel) ⟨Nat.le_of_ble_eq_true rfl, Nat.le_of_ble_eq_true rfl⟩) rfl [] [] (List.append_nil _).symm 1 0 rfl rfl [] rfl (Nat.le_of_ble_eq_true rfl) dX1_forecast_14 ⟨Nat.le_of_ble_eq_true rfl, Nat.le_of_ble_eq_true rfl⟩ ?_
  exact z_xout hlk hnt X ⟨Nat.le_of_ble_eq_true rfl, Nat.le_of_ble_eq_true rfl⟩
set_option maxHeartbeats 4000000 in
set_option maxRecDepth 100000 in
theorem c_X1_meter (l : Launch) (D : va_G) (ad : Nat → Nat) (cI cZ cL : ClassId) (u : GS) (h x : Int) (h0 : 0 ≤ h ∧ h ≤ 5) (h1 : -50 ≤ x ∧ x ≤ 50) (hB : Bd u) (hm : ¬ u.1 0 h = 0) : zMi l D (zT cI cZ cL) yX1_meter wsX1_meter ({ frames := 7, cells := 0, slots := 0, locals := 104 } : Room) (Gw ad cI cZ u) [.ref (ad 0), .int (iZ h), .int (iZ x)] (u.1 2 h) (Gw ad cI cZ (gA u 2 h x)) 0 0 := by
  refine z_mi (cc := cX1_meter) (maxL := 4) (ret := (some .int)) (by decide) rfl (Nat.le_of_ble_eq_true rfl) ?_
  intro p e s m below meth c A X hr hlk hin
  have hiX1 : ∀ w ∈ wsX10, w ∈ wsX1_meter := by decide +kernel
  refine z_sub (lv' := [(0, .ref (ad 0)), (1, .int (iZ h)), (2, .int (iZ x))]) [0, 1, 2] rfl ?_
  refine z_iload_n X 1 rfl dX1_meter_0 ?_
  refine z_callvs X (c_X1_checkHouse l D ad cI cZ cL h (by omega)) (va_cwS 1 X.2.2.2.2.1 gX1_meter_X1_checkHouse rfl rfl rfl (by decide +kernel) ⟨Nat.le_of_ble_eq_true rfl, Nat.le_of_ble_eq_true rfl⟩) rfl [] (Gw ad cI cZ u) rfl [] rfl (Nat.le_of_ble_eq_true rfl) dX1_meter_1 ⟨Nat.le_of_ble_eq_true rfl, Nat.le_of_ble_eq_true rfl⟩ rfl ?_
  refine z_iload_n X 2 rfl dX1_meter_4 ?_
  refine z_bipush X (by decide) dX1_meter_5 ?_
  refine z_bipush X (by decide) dX1_meter_7 ?_
  refine z_callvs X (c_X1_checkRange l D ad cI cZ cL x (-50) 50 ⟨by omega, by omega⟩ ⟨by omega, by omega⟩ ⟨by omega, by omega⟩ (by omega)) (va_cwS 3 X.2.2.2.2.1 gX1_meter_X1_checkRange rfl rfl rfl (by decide +kernel) ⟨Nat.le_of_ble_eq_true rfl, Nat.le_of_ble_eq_true rfl⟩) rfl [] (Gw ad cI cZ u) rfl [] rfl (Nat.le_of_ble_eq_true rfl) dX1_meter_9 ⟨Nat.le_of_ble_eq_true rfl, Nat.le_of_ble_eq_true rfl⟩ rfl ?_
  refine z_aload_n X 0 rfl dX1_meter_12 ?_
  refine z_iload_n X 1 rfl dX1_meter_13 ?_
  refine z_callv X (c_X1_checkMember l D ad cI cZ cL u h (by omega) hB (by assumption)) (cwV 1 X.2.2.2.2.1 gX1_meter_X1_checkMember rfl rfl rfl (by decide +kernel) ⟨Nat.le_of_ble_eq_true rfl, Nat.le_of_ble_eq_true rfl⟩) rfl [] [] (List.append_nil _).symm 1 0 rfl rfl [] rfl (Nat.le_of_ble_eq_true rfl) dX1_meter_14 ⟨Nat.le_of_ble_eq_true rfl, Nat.le_of_ble_eq_true rfl⟩ (List.append_nil _) ?_
  refine z_aload_n X 0 rfl dX1_meter_17 ?_
  refine z_get (v := .ref (ad 3)) X 1 0 2 hiX1 rfl rfl (by decide) ⟨rfl, rfl, rfl⟩ (by decide +kernel) rfl dX1_meter_18 ?_
  refine z_iload_n X 1 rfl dX1_meter_21 ?_
  refine z_iald (g := u.1 2) X 3 0 rfl rfl (by omega) (by omega) ⟨by omega, by omega⟩ dX1_meter_22 ?_
  refine z_istore_n X [1, 2, 3, 0] [(0, .ref (ad 0)), (1, .int (iZ h)), (2, .int (iZ x)), (3, .int (iZ (u.1 2 h)))] rfl (Nat.le_of_ble_eq_true rfl) dX1_meter_23 ?_
  refine z_aload_n X 0 rfl dX1_meter_24 ?_
  refine z_get (v := .ref (ad 3)) X 1 0 2 hiX1 rfl rfl (by decide) ⟨rfl, rfl, rfl⟩ (by decide +kernel) rfl dX1_meter_25 ?_
  refine z_iload_n X 1 rfl dX1_meter_28 ?_
  refine z_iload_n X 2 rfl dX1_meter_29 ?_
  refine z_iast (g := u.1 2) X 3 0 (Gw ad cI cZ (gA u 2 h x)) rfl rfl (by omega) (by omega) ⟨by omega, by omega⟩ rfl dX1_meter_30 ?_
  refine z_iload_n X 3 rfl dX1_meter_31 ?_
  exact z_iret X hr hlk rfl rfl dX1_meter_32
set_option maxHeartbeats 4000000 in
set_option maxRecDepth 100000 in
theorem x_X1_meter_1 (l : Launch) (hl : l.stackTraces = false) (D : va_G) (ad : Nat → Nat) (cI cZ cL : ClassId) (u : GS) (h x : Int) (hz : zB h) (hz2 : zB x) (h0 : ¬ (0 ≤ h ∧ h ≤ 5)) : zMxi l D (zT cI cZ cL) yX1_meter wsX1_meter ({ frames := 7, cells := 1, slots := 6, locals := 104 } : Room) (Gw ad cI cZ u) [.ref (ad 0), .int (iZ h), .int (iZ x)] "java/lang/IndexOutOfBoundsException" := by
  refine z_mxi (cc := cX1_meter) (maxL := 4) (ret := (some .int)) (by decide) rfl (Nat.le_of_ble_eq_true rfl) ?_
  intro p e s m below meth c A X hlk hnt
  have hiX1 : ∀ w ∈ wsX10, w ∈ wsX1_meter := by decide +kernel
  refine z_sub (lv' := [(0, .ref (ad 0)), (1, .int (iZ h)), (2, .int (iZ x))]) [0, 1, 2] rfl ?_
  refine z_iload_n X 1 rfl dX1_meter_0 ?_
  refine z_callxvs X (x_X1_checkHouse l hl D ad cI cZ cL h ⟨by omega, by omega⟩ (by omega)) (va_cwS 1 X.2.2.2.2.1 gX1_meter_X1_checkHouse rfl rfl rfl (by decide +kernel) ⟨Nat.le_of_ble_eq_true rfl, Nat.le_of_ble_eq_true rfl⟩) rfl [] (Gw ad cI cZ u) rfl [] rfl (Nat.le_of_ble_eq_true rfl) dX1_meter_1 ⟨Nat.le_of_ble_eq_true rfl, Nat.le_of_ble_eq_true rfl⟩ ?_
  exact z_xout hlk hnt X ⟨Nat.le_of_ble_eq_true rfl, Nat.le_of_ble_eq_true rfl⟩
set_option maxHeartbeats 4000000 in
set_option maxRecDepth 100000 in
theorem x_X1_meter_2 (l : Launch) (hl : l.stackTraces = false) (D : va_G) (ad : Nat → Nat) (cI cZ cL : ClassId) (u : GS) (h x : Int) (hz : zB h) (hz2 : zB x) (h0 : 0 ≤ h ∧ h ≤ 5) (h1 : ¬ (-50 ≤ x ∧ x ≤ 50)) : zMxi l D (zT cI cZ cL) yX1_meter wsX1_meter ({ frames := 7, cells := 1, slots := 6, locals := 104 } : Room) (Gw ad cI cZ u) [.ref (ad 0), .int (iZ h), .int (iZ x)] "java/lang/IllegalArgumentException" := by
  refine z_mxi (cc := cX1_meter) (maxL := 4) (ret := (some .int)) (by decide) rfl (Nat.le_of_ble_eq_true rfl) ?_
  intro p e s m below meth c A X hlk hnt
  have hiX1 : ∀ w ∈ wsX10, w ∈ wsX1_meter := by decide +kernel
  refine z_sub (lv' := [(0, .ref (ad 0)), (1, .int (iZ h)), (2, .int (iZ x))]) [0, 1, 2] rfl ?_
  refine z_iload_n X 1 rfl dX1_meter_0 ?_
  refine z_callvs X (c_X1_checkHouse l D ad cI cZ cL h (by omega)) (va_cwS 1 X.2.2.2.2.1 gX1_meter_X1_checkHouse rfl rfl rfl (by decide +kernel) ⟨Nat.le_of_ble_eq_true rfl, Nat.le_of_ble_eq_true rfl⟩) rfl [] (Gw ad cI cZ u) rfl [] rfl (Nat.le_of_ble_eq_true rfl) dX1_meter_1 ⟨Nat.le_of_ble_eq_true rfl, Nat.le_of_ble_eq_true rfl⟩ rfl ?_
  refine z_iload_n X 2 rfl dX1_meter_4 ?_
  refine z_bipush X (by decide) dX1_meter_5 ?_
  refine z_bipush X (by decide) dX1_meter_7 ?_
  refine z_callxvs X (x_X1_checkRange l hl D ad cI cZ cL x (-50) 50 ⟨by omega, by omega⟩ ⟨by omega, by omega⟩ ⟨by omega, by omega⟩ (by omega)) (va_cwS 3 X.2.2.2.2.1 gX1_meter_X1_checkRange rfl rfl rfl (by decide +kernel) ⟨Nat.le_of_ble_eq_true rfl, Nat.le_of_ble_eq_true rfl⟩) rfl [] (Gw ad cI cZ u) rfl [] rfl (Nat.le_of_ble_eq_true rfl) dX1_meter_9 ⟨Nat.le_of_ble_eq_true rfl, Nat.le_of_ble_eq_true rfl⟩ ?_
  exact z_xout hlk hnt X ⟨Nat.le_of_ble_eq_true rfl, Nat.le_of_ble_eq_true rfl⟩
set_option maxHeartbeats 4000000 in
set_option maxRecDepth 100000 in
theorem x_X1_meter_3 (l : Launch) (hl : l.stackTraces = false) (D : va_G) (ad : Nat → Nat) (cI cZ cL : ClassId) (u : GS) (h x : Int) (hz : zB h) (hz2 : zB x) (h0 : 0 ≤ h ∧ h ≤ 5) (h1 : -50 ≤ x ∧ x ≤ 50) (hB : Bd u) (hm : u.1 0 h = 0) : zMxi l D (zT cI cZ cL) yX1_meter wsX1_meter ({ frames := 7, cells := 1, slots := 6, locals := 104 } : Room) (Gw ad cI cZ u) [.ref (ad 0), .int (iZ h), .int (iZ x)] "java/lang/IllegalStateException" := by
  refine z_mxi (cc := cX1_meter) (maxL := 4) (ret := (some .int)) (by decide) rfl (Nat.le_of_ble_eq_true rfl) ?_
  intro p e s m below meth c A X hlk hnt
  have hiX1 : ∀ w ∈ wsX10, w ∈ wsX1_meter := by decide +kernel
  refine z_sub (lv' := [(0, .ref (ad 0)), (1, .int (iZ h)), (2, .int (iZ x))]) [0, 1, 2] rfl ?_
  refine z_iload_n X 1 rfl dX1_meter_0 ?_
  refine z_callvs X (c_X1_checkHouse l D ad cI cZ cL h (by omega)) (va_cwS 1 X.2.2.2.2.1 gX1_meter_X1_checkHouse rfl rfl rfl (by decide +kernel) ⟨Nat.le_of_ble_eq_true rfl, Nat.le_of_ble_eq_true rfl⟩) rfl [] (Gw ad cI cZ u) rfl [] rfl (Nat.le_of_ble_eq_true rfl) dX1_meter_1 ⟨Nat.le_of_ble_eq_true rfl, Nat.le_of_ble_eq_true rfl⟩ rfl ?_
  refine z_iload_n X 2 rfl dX1_meter_4 ?_
  refine z_bipush X (by decide) dX1_meter_5 ?_
  refine z_bipush X (by decide) dX1_meter_7 ?_
  refine z_callvs X (c_X1_checkRange l D ad cI cZ cL x (-50) 50 ⟨by omega, by omega⟩ ⟨by omega, by omega⟩ ⟨by omega, by omega⟩ (by omega)) (va_cwS 3 X.2.2.2.2.1 gX1_meter_X1_checkRange rfl rfl rfl (by decide +kernel) ⟨Nat.le_of_ble_eq_true rfl, Nat.le_of_ble_eq_true rfl⟩) rfl [] (Gw ad cI cZ u) rfl [] rfl (Nat.le_of_ble_eq_true rfl) dX1_meter_9 ⟨Nat.le_of_ble_eq_true rfl, Nat.le_of_ble_eq_true rfl⟩ rfl ?_
  refine z_aload_n X 0 rfl dX1_meter_12 ?_
  refine z_iload_n X 1 rfl dX1_meter_13 ?_
  refine z_callxv X (x_X1_checkMember l hl D ad cI cZ cL u h (by omega) hB (by assumption)) (cwV 1 X.2.2.2.2.1 gX1_meter_X1_checkMember rfl rfl rfl (by decide +kernel) ⟨Nat.le_of_ble_eq_true rfl, Nat.le_of_ble_eq_true rfl⟩) rfl [] [] (List.append_nil _).symm 1 0 rfl rfl [] rfl (Nat.le_of_ble_eq_true rfl) dX1_meter_14 ⟨Nat.le_of_ble_eq_true rfl, Nat.le_of_ble_eq_true rfl⟩ ?_
  exact z_xout hlk hnt X ⟨Nat.le_of_ble_eq_true rfl, Nat.le_of_ble_eq_true rfl⟩
set_option maxHeartbeats 4000000 in
set_option maxRecDepth 100000 in
theorem c_X1_setPrice (l : Launch) (D : va_G) (ad : Nat → Nat) (cI cZ cL : ClassId) (u : GS) (h x : Int) (h0 : 0 ≤ h ∧ h ≤ 5) (h1 : 0 ≤ x ∧ x ≤ 100) : zMi l D (zT cI cZ cL) yX1_setPrice wsX1_setPrice ({ frames := 7, cells := 0, slots := 0, locals := 104 } : Room) (Gw ad cI cZ u) [.ref (ad 0), .int (iZ h), .int (iZ x)] (u.1 3 h) (Gw ad cI cZ (gA u 3 h x)) 0 0 := by
  refine z_mi (cc := cX1_setPrice) (maxL := 4) (ret := (some .int)) (by decide) rfl (Nat.le_of_ble_eq_true rfl) ?_
  intro p e s m below meth c A X hr hlk hin
  have hiX1 : ∀ w ∈ wsX10, w ∈ wsX1_setPrice := by decide +kernel
  refine z_sub (lv' := [(0, .ref (ad 0)), (1, .int (iZ h)), (2, .int (iZ x))]) [0, 1, 2] rfl ?_
  refine z_iload_n X 1 rfl dX1_setPrice_0 ?_
  refine z_callvs X (c_X1_checkHouse l D ad cI cZ cL h (by omega)) (va_cwS 1 X.2.2.2.2.1 gX1_setPrice_X1_checkHouse rfl rfl rfl (by decide +kernel) ⟨Nat.le_of_ble_eq_true rfl, Nat.le_of_ble_eq_true rfl⟩) rfl [] (Gw ad cI cZ u) rfl [] rfl (Nat.le_of_ble_eq_true rfl) dX1_setPrice_1 ⟨Nat.le_of_ble_eq_true rfl, Nat.le_of_ble_eq_true rfl⟩ rfl ?_
  refine z_iload_n X 2 rfl dX1_setPrice_4 ?_
  refine z_iconst X dX1_setPrice_5 ?_
  refine z_bipush X (by decide) dX1_setPrice_6 ?_
  refine z_callvs X (c_X1_checkRange l D ad cI cZ cL x 0 100 ⟨by omega, by omega⟩ ⟨by omega, by omega⟩ ⟨by omega, by omega⟩ (by omega)) (va_cwS 3 X.2.2.2.2.1 gX1_setPrice_X1_checkRange rfl rfl rfl (by decide +kernel) ⟨Nat.le_of_ble_eq_true rfl, Nat.le_of_ble_eq_true rfl⟩) rfl [] (Gw ad cI cZ u) rfl [] rfl (Nat.le_of_ble_eq_true rfl) dX1_setPrice_8 ⟨Nat.le_of_ble_eq_true rfl, Nat.le_of_ble_eq_true rfl⟩ rfl ?_
  refine z_aload_n X 0 rfl dX1_setPrice_11 ?_
  refine z_get (v := .ref (ad 4)) X 1 0 3 hiX1 rfl rfl (by decide) ⟨rfl, rfl, rfl⟩ (by decide +kernel) rfl dX1_setPrice_12 ?_
  refine z_iload_n X 1 rfl dX1_setPrice_15 ?_
  refine z_iald (g := u.1 3) X 4 0 rfl rfl (by omega) (by omega) ⟨by omega, by omega⟩ dX1_setPrice_16 ?_
  refine z_istore_n X [1, 2, 3, 0] [(0, .ref (ad 0)), (1, .int (iZ h)), (2, .int (iZ x)), (3, .int (iZ (u.1 3 h)))] rfl (Nat.le_of_ble_eq_true rfl) dX1_setPrice_17 ?_
  refine z_aload_n X 0 rfl dX1_setPrice_18 ?_
  refine z_get (v := .ref (ad 4)) X 1 0 3 hiX1 rfl rfl (by decide) ⟨rfl, rfl, rfl⟩ (by decide +kernel) rfl dX1_setPrice_19 ?_
  refine z_iload_n X 1 rfl dX1_setPrice_22 ?_
  refine z_iload_n X 2 rfl dX1_setPrice_23 ?_
  refine z_iast (g := u.1 3) X 4 0 (Gw ad cI cZ (gA u 3 h x)) rfl rfl (by omega) (by omega) ⟨by omega, by omega⟩ rfl dX1_setPrice_24 ?_
  refine z_iload_n X 3 rfl dX1_setPrice_25 ?_
  exact z_iret X hr hlk rfl rfl dX1_setPrice_26
set_option maxHeartbeats 4000000 in
set_option maxRecDepth 100000 in
theorem x_X1_setPrice_1 (l : Launch) (hl : l.stackTraces = false) (D : va_G) (ad : Nat → Nat) (cI cZ cL : ClassId) (u : GS) (h x : Int) (hz : zB h) (hz2 : zB x) (h0 : ¬ (0 ≤ h ∧ h ≤ 5)) : zMxi l D (zT cI cZ cL) yX1_setPrice wsX1_setPrice ({ frames := 7, cells := 1, slots := 6, locals := 104 } : Room) (Gw ad cI cZ u) [.ref (ad 0), .int (iZ h), .int (iZ x)] "java/lang/IndexOutOfBoundsException" := by
  refine z_mxi (cc := cX1_setPrice) (maxL := 4) (ret := (some .int)) (by decide) rfl (Nat.le_of_ble_eq_true rfl) ?_
  intro p e s m below meth c A X hlk hnt
  have hiX1 : ∀ w ∈ wsX10, w ∈ wsX1_setPrice := by decide +kernel
  refine z_sub (lv' := [(0, .ref (ad 0)), (1, .int (iZ h)), (2, .int (iZ x))]) [0, 1, 2] rfl ?_
  refine z_iload_n X 1 rfl dX1_setPrice_0 ?_
  refine z_callxvs X (x_X1_checkHouse l hl D ad cI cZ cL h ⟨by omega, by omega⟩ (by omega)) (va_cwS 1 X.2.2.2.2.1 gX1_setPrice_X1_checkHouse rfl rfl rfl (by decide +kernel) ⟨Nat.le_of_ble_eq_true rfl, Nat.le_of_ble_eq_true rfl⟩) rfl [] (Gw ad cI cZ u) rfl [] rfl (Nat.le_of_ble_eq_true rfl) dX1_setPrice_1 ⟨Nat.le_of_ble_eq_true rfl, Nat.le_of_ble_eq_true rfl⟩ ?_
  exact z_xout hlk hnt X ⟨Nat.le_of_ble_eq_true rfl, Nat.le_of_ble_eq_true rfl⟩
set_option maxHeartbeats 4000000 in
set_option maxRecDepth 100000 in
theorem x_X1_setPrice_2 (l : Launch) (hl : l.stackTraces = false) (D : va_G) (ad : Nat → Nat) (cI cZ cL : ClassId) (u : GS) (h x : Int) (hz : zB h) (hz2 : zB x) (h0 : 0 ≤ h ∧ h ≤ 5) (h1 : ¬ (0 ≤ x ∧ x ≤ 100)) : zMxi l D (zT cI cZ cL) yX1_setPrice wsX1_setPrice ({ frames := 7, cells := 1, slots := 6, locals := 104 } : Room) (Gw ad cI cZ u) [.ref (ad 0), .int (iZ h), .int (iZ x)] "java/lang/IllegalArgumentException" := by
  refine z_mxi (cc := cX1_setPrice) (maxL := 4) (ret := (some .int)) (by decide) rfl (Nat.le_of_ble_eq_true rfl) ?_
  intro p e s m below meth c A X hlk hnt
  have hiX1 : ∀ w ∈ wsX10, w ∈ wsX1_setPrice := by decide +kernel
  refine z_sub (lv' := [(0, .ref (ad 0)), (1, .int (iZ h)), (2, .int (iZ x))]) [0, 1, 2] rfl ?_
  refine z_iload_n X 1 rfl dX1_setPrice_0 ?_
  refine z_callvs X (c_X1_checkHouse l D ad cI cZ cL h (by omega)) (va_cwS 1 X.2.2.2.2.1 gX1_setPrice_X1_checkHouse rfl rfl rfl (by decide +kernel) ⟨Nat.le_of_ble_eq_true rfl, Nat.le_of_ble_eq_true rfl⟩) rfl [] (Gw ad cI cZ u) rfl [] rfl (Nat.le_of_ble_eq_true rfl) dX1_setPrice_1 ⟨Nat.le_of_ble_eq_true rfl, Nat.le_of_ble_eq_true rfl⟩ rfl ?_
  refine z_iload_n X 2 rfl dX1_setPrice_4 ?_
  refine z_iconst X dX1_setPrice_5 ?_
  refine z_bipush X (by decide) dX1_setPrice_6 ?_
  refine z_callxvs X (x_X1_checkRange l hl D ad cI cZ cL x 0 100 ⟨by omega, by omega⟩ ⟨by omega, by omega⟩ ⟨by omega, by omega⟩ (by omega)) (va_cwS 3 X.2.2.2.2.1 gX1_setPrice_X1_checkRange rfl rfl rfl (by decide +kernel) ⟨Nat.le_of_ble_eq_true rfl, Nat.le_of_ble_eq_true rfl⟩) rfl [] (Gw ad cI cZ u) rfl [] rfl (Nat.le_of_ble_eq_true rfl) dX1_setPrice_8 ⟨Nat.le_of_ble_eq_true rfl, Nat.le_of_ble_eq_true rfl⟩ ?_
  exact z_xout hlk hnt X ⟨Nat.le_of_ble_eq_true rfl, Nat.le_of_ble_eq_true rfl⟩
set_option maxHeartbeats 4000000 in
set_option maxRecDepth 100000 in
theorem c_X1_setLimit (l : Launch) (D : va_G) (ad : Nat → Nat) (cI cZ cL : ClassId) (u : GS) (h x : Int) (h0 : 0 ≤ h ∧ h ≤ 4) (h1 : 0 ≤ x ∧ x ≤ 300) : zMi l D (zT cI cZ cL) yX1_setLimit wsX1_setLimit ({ frames := 7, cells := 0, slots := 0, locals := 104 } : Room) (Gw ad cI cZ u) [.ref (ad 0), .int (iZ h), .int (iZ x)] (u.1 8 h) (Gw ad cI cZ (gA u 8 h x)) 0 0 := by
  refine z_mi (cc := cX1_setLimit) (maxL := 4) (ret := (some .int)) (by decide) rfl (Nat.le_of_ble_eq_true rfl) ?_
  intro p e s m below meth c A X hr hlk hin
  have hiX1 : ∀ w ∈ wsX10, w ∈ wsX1_setLimit := by decide +kernel
  refine z_sub (lv' := [(0, .ref (ad 0)), (1, .int (iZ h)), (2, .int (iZ x))]) [0, 1, 2] rfl ?_
  refine z_iload_n X 1 rfl dX1_setLimit_0 ?_
  refine z_callvs X (c_X1_checkStretch l D ad cI cZ cL h (by omega)) (va_cwS 1 X.2.2.2.2.1 gX1_setLimit_X1_checkStretch rfl rfl rfl (by decide +kernel) ⟨Nat.le_of_ble_eq_true rfl, Nat.le_of_ble_eq_true rfl⟩) rfl [] (Gw ad cI cZ u) rfl [] rfl (Nat.le_of_ble_eq_true rfl) dX1_setLimit_1 ⟨Nat.le_of_ble_eq_true rfl, Nat.le_of_ble_eq_true rfl⟩ rfl ?_
  refine z_iload_n X 2 rfl dX1_setLimit_4 ?_
  refine z_iconst X dX1_setLimit_5 ?_
  refine z_sipush X (by decide) dX1_setLimit_6 ?_
  refine z_callvs X (c_X1_checkRange l D ad cI cZ cL x 0 300 ⟨by omega, by omega⟩ ⟨by omega, by omega⟩ ⟨by omega, by omega⟩ (by omega)) (va_cwS 3 X.2.2.2.2.1 gX1_setLimit_X1_checkRange rfl rfl rfl (by decide +kernel) ⟨Nat.le_of_ble_eq_true rfl, Nat.le_of_ble_eq_true rfl⟩) rfl [] (Gw ad cI cZ u) rfl [] rfl (Nat.le_of_ble_eq_true rfl) dX1_setLimit_9 ⟨Nat.le_of_ble_eq_true rfl, Nat.le_of_ble_eq_true rfl⟩ rfl ?_
  refine z_aload_n X 0 rfl dX1_setLimit_12 ?_
  refine z_get (v := .ref (ad 9)) X 1 0 8 hiX1 rfl rfl (by decide) ⟨rfl, rfl, rfl⟩ (by decide +kernel) rfl dX1_setLimit_13 ?_
  refine z_iload_n X 1 rfl dX1_setLimit_16 ?_
  refine z_iald (g := u.1 8) X 9 0 rfl rfl (by omega) (by omega) ⟨by omega, by omega⟩ dX1_setLimit_17 ?_
  refine z_istore_n X [1, 2, 3, 0] [(0, .ref (ad 0)), (1, .int (iZ h)), (2, .int (iZ x)), (3, .int (iZ (u.1 8 h)))] rfl (Nat.le_of_ble_eq_true rfl) dX1_setLimit_18 ?_
  refine z_aload_n X 0 rfl dX1_setLimit_19 ?_
  refine z_get (v := .ref (ad 9)) X 1 0 8 hiX1 rfl rfl (by decide) ⟨rfl, rfl, rfl⟩ (by decide +kernel) rfl dX1_setLimit_20 ?_
  refine z_iload_n X 1 rfl dX1_setLimit_23 ?_
  refine z_iload_n X 2 rfl dX1_setLimit_24 ?_
  refine z_iast (g := u.1 8) X 9 0 (Gw ad cI cZ (gA u 8 h x)) rfl rfl (by omega) (by omega) ⟨by omega, by omega⟩ rfl dX1_setLimit_25 ?_
  refine z_iload_n X 3 rfl dX1_setLimit_26 ?_
  exact z_iret X hr hlk rfl rfl dX1_setLimit_27
set_option maxHeartbeats 4000000 in
set_option maxRecDepth 100000 in
theorem x_X1_setLimit_1 (l : Launch) (hl : l.stackTraces = false) (D : va_G) (ad : Nat → Nat) (cI cZ cL : ClassId) (u : GS) (h x : Int) (hz : zB h) (hz2 : zB x) (h0 : ¬ (0 ≤ h ∧ h ≤ 4)) : zMxi l D (zT cI cZ cL) yX1_setLimit wsX1_setLimit ({ frames := 7, cells := 1, slots := 6, locals := 104 } : Room) (Gw ad cI cZ u) [.ref (ad 0), .int (iZ h), .int (iZ x)] "java/lang/IndexOutOfBoundsException" := by
  refine z_mxi (cc := cX1_setLimit) (maxL := 4) (ret := (some .int)) (by decide) rfl (Nat.le_of_ble_eq_true rfl) ?_
  intro p e s m below meth c A X hlk hnt
  have hiX1 : ∀ w ∈ wsX10, w ∈ wsX1_setLimit := by decide +kernel
  refine z_sub (lv' := [(0, .ref (ad 0)), (1, .int (iZ h)), (2, .int (iZ x))]) [0, 1, 2] rfl ?_
  refine z_iload_n X 1 rfl dX1_setLimit_0 ?_
  refine z_callxvs X (x_X1_checkStretch l hl D ad cI cZ cL h ⟨by omega, by omega⟩ (by omega)) (va_cwS 1 X.2.2.2.2.1 gX1_setLimit_X1_checkStretch rfl rfl rfl (by decide +kernel) ⟨Nat.le_of_ble_eq_true rfl, Nat.le_of_ble_eq_true rfl⟩) rfl [] (Gw ad cI cZ u) rfl [] rfl (Nat.le_of_ble_eq_true rfl) dX1_setLimit_1 ⟨Nat.le_of_ble_eq_true rfl, Nat.le_of_ble_eq_true rfl⟩ ?_
  exact z_xout hlk hnt X ⟨Nat.le_of_ble_eq_true rfl, Nat.le_of_ble_eq_true rfl⟩
set_option maxHeartbeats 4000000 in
set_option maxRecDepth 100000 in
theorem x_X1_setLimit_2 (l : Launch) (hl : l.stackTraces = false) (D : va_G) (ad : Nat → Nat) (cI cZ cL : ClassId) (u : GS) (h x : Int) (hz : zB h) (hz2 : zB x) (h0 : 0 ≤ h ∧ h ≤ 4) (h1 : ¬ (0 ≤ x ∧ x ≤ 300)) : zMxi l D (zT cI cZ cL) yX1_setLimit wsX1_setLimit ({ frames := 7, cells := 1, slots := 6, locals := 104 } : Room) (Gw ad cI cZ u) [.ref (ad 0), .int (iZ h), .int (iZ x)] "java/lang/IllegalArgumentException" := by
  refine z_mxi (cc := cX1_setLimit) (maxL := 4) (ret := (some .int)) (by decide) rfl (Nat.le_of_ble_eq_true rfl) ?_
  intro p e s m below meth c A X hlk hnt
  have hiX1 : ∀ w ∈ wsX10, w ∈ wsX1_setLimit := by decide +kernel
  refine z_sub (lv' := [(0, .ref (ad 0)), (1, .int (iZ h)), (2, .int (iZ x))]) [0, 1, 2] rfl ?_
  refine z_iload_n X 1 rfl dX1_setLimit_0 ?_
  refine z_callvs X (c_X1_checkStretch l D ad cI cZ cL h (by omega)) (va_cwS 1 X.2.2.2.2.1 gX1_setLimit_X1_checkStretch rfl rfl rfl (by decide +kernel) ⟨Nat.le_of_ble_eq_true rfl, Nat.le_of_ble_eq_true rfl⟩) rfl [] (Gw ad cI cZ u) rfl [] rfl (Nat.le_of_ble_eq_true rfl) dX1_setLimit_1 ⟨Nat.le_of_ble_eq_true rfl, Nat.le_of_ble_eq_true rfl⟩ rfl ?_
  refine z_iload_n X 2 rfl dX1_setLimit_4 ?_
  refine z_iconst X dX1_setLimit_5 ?_
  refine z_sipush X (by decide) dX1_setLimit_6 ?_
  refine z_callxvs X (x_X1_checkRange l hl D ad cI cZ cL x 0 300 ⟨by omega, by omega⟩ ⟨by omega, by omega⟩ ⟨by omega, by omega⟩ (by omega)) (va_cwS 3 X.2.2.2.2.1 gX1_setLimit_X1_checkRange rfl rfl rfl (by decide +kernel) ⟨Nat.le_of_ble_eq_true rfl, Nat.le_of_ble_eq_true rfl⟩) rfl [] (Gw ad cI cZ u) rfl [] rfl (Nat.le_of_ble_eq_true rfl) dX1_setLimit_9 ⟨Nat.le_of_ble_eq_true rfl, Nat.le_of_ble_eq_true rfl⟩ ?_
  exact z_xout hlk hnt X ⟨Nat.le_of_ble_eq_true rfl, Nat.le_of_ble_eq_true rfl⟩
set_option maxHeartbeats 4000000 in
set_option maxRecDepth 100000 in
theorem c_X1_setSupplier (l : Launch) (D : va_G) (ad : Nat → Nat) (cI cZ cL : ClassId) (u : GS) (a b : Int) (hz : zB a) (hz2 : zB b) (h0 : 1 ≤ a ∧ a ≤ 100) (h1 : 0 ≤ b ∧ b ≤ a) : zMv l D (zT cI cZ cL) yX1_setSupplier wsX1_setSupplier ({ frames := 7, cells := 0, slots := 0, locals := 104 } : Room) (Gw ad cI cZ u) [.ref (ad 0), .int (iZ a), .int (iZ b)] (Gw ad cI cZ (gV (gV u 0 a) 1 b)) 0 0 := by
  refine z_mv (cc := cX1_setSupplier) (maxL := 3) (ret := none) (by decide) rfl (Nat.le_of_ble_eq_true rfl) ?_
  intro p e s m below meth c A X hr hlk hin
  have hiX1 : ∀ w ∈ wsX10, w ∈ wsX1_setSupplier := by decide +kernel
  refine z_sub (lv' := [(0, .ref (ad 0)), (1, .int (iZ a)), (2, .int (iZ b))]) [0, 1, 2] rfl ?_
  refine z_iload_n X 1 rfl dX1_setSupplier_0 ?_
  refine z_iconst X dX1_setSupplier_1 ?_
  refine z_bipush X (by decide) dX1_setSupplier_2 ?_
  refine z_callvs X (c_X1_checkRange l D ad cI cZ cL a 1 100 ⟨by omega, by omega⟩ ⟨by omega, by omega⟩ ⟨by omega, by omega⟩ (by omega)) (va_cwS 3 X.2.2.2.2.1 gX1_setSupplier_X1_checkRange rfl rfl rfl (by decide +kernel) ⟨Nat.le_of_ble_eq_true rfl, Nat.le_of_ble_eq_true rfl⟩) rfl [] (Gw ad cI cZ u) rfl [] rfl (Nat.le_of_ble_eq_true rfl) dX1_setSupplier_4 ⟨Nat.le_of_ble_eq_true rfl, Nat.le_of_ble_eq_true rfl⟩ rfl ?_
  refine z_iload_n X 2 rfl dX1_setSupplier_7 ?_
  refine z_iconst X dX1_setSupplier_8 ?_
  refine z_iload_n X 1 rfl dX1_setSupplier_9 ?_
  refine z_callvs X (c_X1_checkRange l D ad cI cZ cL b 0 a ⟨by omega, by omega⟩ ⟨by omega, by omega⟩ ⟨by omega, by omega⟩ (by omega)) (va_cwS 3 X.2.2.2.2.1 gX1_setSupplier_X1_checkRange rfl rfl rfl (by decide +kernel) ⟨Nat.le_of_ble_eq_true rfl, Nat.le_of_ble_eq_true rfl⟩) rfl [] (Gw ad cI cZ u) rfl [] rfl (Nat.le_of_ble_eq_true rfl) dX1_setSupplier_10 ⟨Nat.le_of_ble_eq_true rfl, Nat.le_of_ble_eq_true rfl⟩ rfl ?_
  refine z_aload_n X 0 rfl dX1_setSupplier_13 ?_
  refine z_iload_n X 1 rfl dX1_setSupplier_14 ?_
  refine z_put (v := .int (iZ a)) (ty := .int) X tyX1 1 0 12 (Gw ad cI cZ (gV u 0 a)) tyX1_ok nmX1 hiX1 rfl rfl (by decide) ⟨rfl, rfl, rfl, rfl⟩ (by decide +kernel) rfl rfl rfl (Nat.le_of_ble_eq_true rfl) rfl dX1_setSupplier_15 ?_
  refine z_aload_n X 0 rfl dX1_setSupplier_18 ?_
  refine z_iload_n X 2 rfl dX1_setSupplier_19 ?_
  refine z_put (v := .int (iZ b)) (ty := .int) X tyX1 1 0 13 (Gw ad cI cZ (gV (gV u 0 a) 1 b)) tyX1_ok nmX1 hiX1 rfl rfl (by decide) ⟨rfl, rfl, rfl, rfl⟩ (by decide +kernel) rfl rfl rfl (Nat.le_of_ble_eq_true rfl) rfl dX1_setSupplier_20 ?_
  exact z_vret X hr hlk rfl dX1_setSupplier_23
set_option maxHeartbeats 4000000 in
set_option maxRecDepth 100000 in
theorem x_X1_setSupplier_1 (l : Launch) (hl : l.stackTraces = false) (D : va_G) (ad : Nat → Nat) (cI cZ cL : ClassId) (u : GS) (a b : Int) (hz : zB a) (hz2 : zB b) (h0 : ¬ (1 ≤ a ∧ a ≤ 100)) : zMxv l D (zT cI cZ cL) yX1_setSupplier wsX1_setSupplier ({ frames := 7, cells := 1, slots := 6, locals := 104 } : Room) (Gw ad cI cZ u) [.ref (ad 0), .int (iZ a), .int (iZ b)] "java/lang/IllegalArgumentException" := by
  refine z_mxv (cc := cX1_setSupplier) (maxL := 3) (ret := none) (by decide) rfl (Nat.le_of_ble_eq_true rfl) ?_
  intro p e s m below meth c A X hlk hnt
  have hiX1 : ∀ w ∈ wsX10, w ∈ wsX1_setSupplier := by decide +kernel
  refine z_sub (lv' := [(0, .ref (ad 0)), (1, .int (iZ a)), (2, .int (iZ b))]) [0, 1, 2] rfl ?_
  refine z_iload_n X 1 rfl dX1_setSupplier_0 ?_
  refine z_iconst X dX1_setSupplier_1 ?_
  refine z_bipush X (by decide) dX1_setSupplier_2 ?_
  refine z_callxvs X (x_X1_checkRange l hl D ad cI cZ cL a 1 100 ⟨by omega, by omega⟩ ⟨by omega, by omega⟩ ⟨by omega, by omega⟩ (by omega)) (va_cwS 3 X.2.2.2.2.1 gX1_setSupplier_X1_checkRange rfl rfl rfl (by decide +kernel) ⟨Nat.le_of_ble_eq_true rfl, Nat.le_of_ble_eq_true rfl⟩) rfl [] (Gw ad cI cZ u) rfl [] rfl (Nat.le_of_ble_eq_true rfl) dX1_setSupplier_4 ⟨Nat.le_of_ble_eq_true rfl, Nat.le_of_ble_eq_true rfl⟩ ?_
  exact z_xout hlk hnt X ⟨Nat.le_of_ble_eq_true rfl, Nat.le_of_ble_eq_true rfl⟩
set_option maxHeartbeats 4000000 in
set_option maxRecDepth 100000 in
theorem x_X1_setSupplier_2 (l : Launch) (hl : l.stackTraces = false) (D : va_G) (ad : Nat → Nat) (cI cZ cL : ClassId) (u : GS) (a b : Int) (hz : zB a) (hz2 : zB b) (h0 : 1 ≤ a ∧ a ≤ 100) (h1 : ¬ (0 ≤ b ∧ b ≤ a)) : zMxv l D (zT cI cZ cL) yX1_setSupplier wsX1_setSupplier ({ frames := 7, cells := 1, slots := 6, locals := 104 } : Room) (Gw ad cI cZ u) [.ref (ad 0), .int (iZ a), .int (iZ b)] "java/lang/IllegalArgumentException" := by
  refine z_mxv (cc := cX1_setSupplier) (maxL := 3) (ret := none) (by decide) rfl (Nat.le_of_ble_eq_true rfl) ?_
  intro p e s m below meth c A X hlk hnt
  have hiX1 : ∀ w ∈ wsX10, w ∈ wsX1_setSupplier := by decide +kernel
  refine z_sub (lv' := [(0, .ref (ad 0)), (1, .int (iZ a)), (2, .int (iZ b))]) [0, 1, 2] rfl ?_
  refine z_iload_n X 1 rfl dX1_setSupplier_0 ?_
  refine z_iconst X dX1_setSupplier_1 ?_
  refine z_bipush X (by decide) dX1_setSupplier_2 ?_
  refine z_callvs X (c_X1_checkRange l D ad cI cZ cL a 1 100 ⟨by omega, by omega⟩ ⟨by omega, by omega⟩ ⟨by omega, by omega⟩ (by omega)) (va_cwS 3 X.2.2.2.2.1 gX1_setSupplier_X1_checkRange rfl rfl rfl (by decide +kernel) ⟨Nat.le_of_ble_eq_true rfl, Nat.le_of_ble_eq_true rfl⟩) rfl [] (Gw ad cI cZ u) rfl [] rfl (Nat.le_of_ble_eq_true rfl) dX1_setSupplier_4 ⟨Nat.le_of_ble_eq_true rfl, Nat.le_of_ble_eq_true rfl⟩ rfl ?_
  refine z_iload_n X 2 rfl dX1_setSupplier_7 ?_
  refine z_iconst X dX1_setSupplier_8 ?_
  refine z_iload_n X 1 rfl dX1_setSupplier_9 ?_
  refine z_callxvs X (x_X1_checkRange l hl D ad cI cZ cL b 0 a ⟨by omega, by omega⟩ ⟨by omega, by omega⟩ ⟨by omega, by omega⟩ (by omega)) (va_cwS 3 X.2.2.2.2.1 gX1_setSupplier_X1_checkRange rfl rfl rfl (by decide +kernel) ⟨Nat.le_of_ble_eq_true rfl, Nat.le_of_ble_eq_true rfl⟩) rfl [] (Gw ad cI cZ u) rfl [] rfl (Nat.le_of_ble_eq_true rfl) dX1_setSupplier_10 ⟨Nat.le_of_ble_eq_true rfl, Nat.le_of_ble_eq_true rfl⟩ ?_
  exact z_xout hlk hnt X ⟨Nat.le_of_ble_eq_true rfl, Nat.le_of_ble_eq_true rfl⟩
set_option maxHeartbeats 4000000 in
set_option maxRecDepth 100000 in
theorem c_X1_rent (l : Launch) (D : va_G) (ad : Nat → Nat) (cI cZ cL : ClassId) (u : GS) (h o x : Int) (hz : zB h) (hzo : zB o) (hz2 : zB x) (h0 : 0 ≤ h ∧ h ≤ 5) (h1 : 0 ≤ o ∧ o ≤ 5) (hho : ¬ h = o) (hx : 1 ≤ x ∧ x ≤ 100) (hB : Bd u) (hm : ¬ u.1 0 h = 0) (hmo : ¬ u.1 0 o = 0) (hr : u.1 5 h ≤ u.1 4 h - x) : zMi l D (zT cI cZ cL) yX1_rent wsX1_rent ({ frames := 7, cells := 0, slots := 0, locals := 104 } : Room) (Gw ad cI cZ u) [.ref (ad 0), .int (iZ h), .int (iZ o), .int (iZ x)] ((f_rent u h o x).1 4 o) (Gw ad cI cZ (f_rent u h o x)) 0 0 := by
  refine z_mi (cc := cX1_rent) (maxL := 4) (ret := (some .int)) (by decide) rfl (Nat.le_of_ble_eq_true rfl) ?_
  intro p e s m below meth c A X hr hlk hin
  have hiX1 : ∀ w ∈ wsX10, w ∈ wsX1_rent := by decide +kernel
  refine z_sub (lv' := [(0, .ref (ad 0)), (1, .int (iZ h)), (2, .int (iZ o)), (3, .int (iZ x))]) [0, 1, 2, 3] rfl ?_
  refine z_iload_n X 1 rfl dX1_rent_0 ?_
  refine z_callvs X (c_X1_checkHouse l D ad cI cZ cL h (by omega)) (va_cwS 1 X.2.2.2.2.1 gX1_rent_X1_checkHouse rfl rfl rfl (by decide +kernel) ⟨Nat.le_of_ble_eq_true rfl, Nat.le_of_ble_eq_true rfl⟩) rfl [] (Gw ad cI cZ u) rfl [] rfl (Nat.le_of_ble_eq_true rfl) dX1_rent_1 ⟨Nat.le_of_ble_eq_true rfl, Nat.le_of_ble_eq_true rfl⟩ rfl ?_
  refine z_iload_n X 2 rfl dX1_rent_4 ?_
  refine z_callvs X (c_X1_checkHouse l D ad cI cZ cL o (by omega)) (va_cwS 1 X.2.2.2.2.1 gX1_rent_X1_checkHouse rfl rfl rfl (by decide +kernel) ⟨Nat.le_of_ble_eq_true rfl, Nat.le_of_ble_eq_true rfl⟩) rfl [] (Gw ad cI cZ u) rfl [] rfl (Nat.le_of_ble_eq_true rfl) dX1_rent_5 ⟨Nat.le_of_ble_eq_true rfl, Nat.le_of_ble_eq_true rfl⟩ rfl ?_
  refine z_iload_n X 1 rfl dX1_rent_8 ?_
  refine z_iload_n X 2 rfl dX1_rent_9 ?_
  refine z_icmp_ne (tgt := 23) X ⟨by omega, by omega⟩ ⟨by omega, by omega⟩ (by decide) dX1_rent_10 (fun c_1 => ?_) (fun c_1 => ?_)
  · skip
    refine z_iload_n X 3 rfl dX1_rent_23 ?_
    refine z_iconst X dX1_rent_24 ?_
    refine z_bipush X (by decide) dX1_rent_25 ?_
    refine z_callvs X (c_X1_checkRange l D ad cI cZ cL x 1 100 ⟨by omega, by omega⟩ ⟨by omega, by omega⟩ ⟨by omega, by omega⟩ (by omega)) (va_cwS 3 X.2.2.2.2.1 gX1_rent_X1_checkRange rfl rfl rfl (by decide +kernel) ⟨Nat.le_of_ble_eq_true rfl, Nat.le_of_ble_eq_true rfl⟩) rfl [] (Gw ad cI cZ u) rfl [] rfl (Nat.le_of_ble_eq_true rfl) dX1_rent_27 ⟨Nat.le_of_ble_eq_true rfl, Nat.le_of_ble_eq_true rfl⟩ rfl ?_
    refine z_aload_n X 0 rfl dX1_rent_30 ?_
    refine z_iload_n X 1 rfl dX1_rent_31 ?_
    refine z_callv X (c_X1_checkMember l D ad cI cZ cL u h (by omega) hB (by assumption)) (cwV 1 X.2.2.2.2.1 gX1_rent_X1_checkMember rfl rfl rfl (by decide +kernel) ⟨Nat.le_of_ble_eq_true rfl, Nat.le_of_ble_eq_true rfl⟩) rfl [] [] (List.append_nil _).symm 1 0 rfl rfl [] rfl (Nat.le_of_ble_eq_true rfl) dX1_rent_32 ⟨Nat.le_of_ble_eq_true rfl, Nat.le_of_ble_eq_true rfl⟩ (List.append_nil _) ?_
    refine z_aload_n X 0 rfl dX1_rent_35 ?_
    refine z_iload_n X 2 rfl dX1_rent_36 ?_
    refine z_callv X (c_X1_checkMember l D ad cI cZ cL u o (by omega) hB (by assumption)) (cwV 1 X.2.2.2.2.1 gX1_rent_X1_checkMember rfl rfl rfl (by decide +kernel) ⟨Nat.le_of_ble_eq_true rfl, Nat.le_of_ble_eq_true rfl⟩) rfl [] [] (List.append_nil _).symm 1 0 rfl rfl [] rfl (Nat.le_of_ble_eq_true rfl) dX1_rent_37 ⟨Nat.le_of_ble_eq_true rfl, Nat.le_of_ble_eq_true rfl⟩ (List.append_nil _) ?_
    refine z_aload_n X 0 rfl dX1_rent_40 ?_
    refine z_get (v := .ref (ad 5)) X 1 0 4 hiX1 rfl rfl (by decide) ⟨rfl, rfl, rfl⟩ (by decide +kernel) rfl dX1_rent_41 ?_
    refine z_iload_n X 1 rfl dX1_rent_44 ?_
    refine z_iald (g := u.1 4) X 5 0 rfl rfl (by omega) (by omega) ⟨by omega, by omega⟩ dX1_rent_45 ?_
    have b_2 := hB 4 rfl h
    refine z_iload_n X 3 rfl dX1_rent_46 ?_
    refine z_isub X dX1_rent_47 ?_
    refine z_aload_n X 0 rfl dX1_rent_48 ?_
    refine z_get (v := .ref (ad 6)) X 1 0 5 hiX1 rfl rfl (by decide) ⟨rfl, rfl, rfl⟩ (by decide +kernel) rfl dX1_rent_49 ?_
    refine z_iload_n X 1 rfl dX1_rent_52 ?_
    refine z_iald (g := u.1 5) X 6 0 rfl rfl (by omega) (by omega) ⟨by omega, by omega⟩ dX1_rent_53 ?_
    have b_3 := hB 5 rfl h
    refine z_icmp_ge (tgt := 67) X ⟨by omega, by omega⟩ ⟨by omega, by omega⟩ (by decide) dX1_rent_54 (fun c_4 => ?_) (fun c_4 => ?_)
    · skip
      refine z_aload_n X 0 rfl dX1_rent_67 ?_
      refine z_get (v := .ref (ad 5)) X 1 0 4 hiX1 rfl rfl (by decide) ⟨rfl, rfl, rfl⟩ (by decide +kernel) rfl dX1_rent_68 ?_
      refine z_iload_n X 1 rfl dX1_rent_71 ?_
      refine z_dup2 X rfl rfl dX1_rent_72 ?_
      refine z_iald (g := u.1 4) X 5 0 rfl rfl (by omega) (by omega) ⟨by omega, by omega⟩ dX1_rent_73 ?_
      refine z_iload_n X 3 rfl dX1_rent_74 ?_
      refine z_isub X dX1_rent_75 ?_
      refine z_iast (g := u.1 4) X 5 0 (Gw ad cI cZ (gA u 4 h ((u.1 4 h) - x))) rfl rfl (by omega) (by omega) ⟨by omega, by omega⟩ rfl dX1_rent_76 ?_
      refine z_aload_n X 0 rfl dX1_rent_77 ?_
      refine z_get (v := .ref (ad 5)) X 1 0 4 hiX1 rfl rfl (by decide) ⟨rfl, rfl, rfl⟩ (by decide +kernel) rfl dX1_rent_78 ?_
      refine z_iload_n X 2 rfl dX1_rent_81 ?_
      refine z_dup2 X rfl rfl dX1_rent_82 ?_
      refine z_iald (g := updZ (u.1 4) (h) ((u.1 4 h) - x)) X 5 0 rfl rfl (by omega) (by omega) ⟨by omega, by omega⟩ dX1_rent_83 ?_
      refine z_iload_n X 3 rfl dX1_rent_84 ?_
      refine z_iadd X dX1_rent_85 ?_
      refine z_iast (g := updZ (u.1 4) (h) ((u.1 4 h) - x)) X 5 0 (Gw ad cI cZ (gA (gA u 4 h ((u.1 4 h) - x)) 4 o (((updZ (u.1 4) (h) ((u.1 4 h) - x)) o) + x))) rfl rfl (by omega) (by omega) ⟨by omega, by omega⟩ rfl dX1_rent_86 ?_
      refine z_aload_n X 0 rfl dX1_rent_87 ?_
      refine z_get (v := .ref (ad 5)) X 1 0 4 hiX1 rfl rfl (by decide) ⟨rfl, rfl, rfl⟩ (by decide +kernel) rfl dX1_rent_88 ?_
      refine z_iload_n X 2 rfl dX1_rent_91 ?_
      refine z_iald (g := updZ (updZ (u.1 4) (h) ((u.1 4 h) - x)) (o) (((updZ (u.1 4) (h) ((u.1 4 h) - x)) o) + x)) X 5 0 rfl rfl (by omega) (by omega) ⟨by omega, by omega⟩ dX1_rent_92 ?_
      have w_5 := updZ_s (updZ (u.1 4) (h) ((u.1 4 h) - x)) o (((updZ (u.1 4) (h) ((u.1 4 h) - x)) o) + x)
      exact z_iret X hr hlk rfl rfl dX1_rent_93
    · exact absurd c_4 (by omega)
  · exact absurd c_1 (by omega)
set_option maxHeartbeats 4000000 in
set_option maxRecDepth 100000 in
theorem x_X1_rent_1 (l : Launch) (hl : l.stackTraces = false) (D : va_G) (ad : Nat → Nat) (cI cZ cL : ClassId) (u : GS) (h o x : Int) (hz : zB h) (hzo : zB o) (hz2 : zB x) (h0 : ¬ (0 ≤ h ∧ h ≤ 5)) : zMxi l D (zT cI cZ cL) yX1_rent wsX1_rent ({ frames := 7, cells := 1, slots := 6, locals := 104 } : Room) (Gw ad cI cZ u) [.ref (ad 0), .int (iZ h), .int (iZ o), .int (iZ x)] "java/lang/IndexOutOfBoundsException" := by
  refine z_mxi (cc := cX1_rent) (maxL := 4) (ret := (some .int)) (by decide) rfl (Nat.le_of_ble_eq_true rfl) ?_
  intro p e s m below meth c A X hlk hnt
  have hiX1 : ∀ w ∈ wsX10, w ∈ wsX1_rent := by decide +kernel
  refine z_sub (lv' := [(0, .ref (ad 0)), (1, .int (iZ h)), (2, .int (iZ o)), (3, .int (iZ x))]) [0, 1, 2, 3] rfl ?_
  refine z_iload_n X 1 rfl dX1_rent_0 ?_
  refine z_callxvs X (x_X1_checkHouse l hl D ad cI cZ cL h ⟨by omega, by omega⟩ (by omega)) (va_cwS 1 X.2.2.2.2.1 gX1_rent_X1_checkHouse rfl rfl rfl (by decide +kernel) ⟨Nat.le_of_ble_eq_true rfl, Nat.le_of_ble_eq_true rfl⟩) rfl [] (Gw ad cI cZ u) rfl [] rfl (Nat.le_of_ble_eq_true rfl) dX1_rent_1 ⟨Nat.le_of_ble_eq_true rfl, Nat.le_of_ble_eq_true rfl⟩ ?_
  exact z_xout hlk hnt X ⟨Nat.le_of_ble_eq_true rfl, Nat.le_of_ble_eq_true rfl⟩
set_option maxHeartbeats 4000000 in
set_option maxRecDepth 100000 in
theorem x_X1_rent_2 (l : Launch) (hl : l.stackTraces = false) (D : va_G) (ad : Nat → Nat) (cI cZ cL : ClassId) (u : GS) (h o x : Int) (hz : zB h) (hzo : zB o) (hz2 : zB x) (h0 : 0 ≤ h ∧ h ≤ 5) (h1 : ¬ (0 ≤ o ∧ o ≤ 5)) : zMxi l D (zT cI cZ cL) yX1_rent wsX1_rent ({ frames := 7, cells := 1, slots := 6, locals := 104 } : Room) (Gw ad cI cZ u) [.ref (ad 0), .int (iZ h), .int (iZ o), .int (iZ x)] "java/lang/IndexOutOfBoundsException" := by
  refine z_mxi (cc := cX1_rent) (maxL := 4) (ret := (some .int)) (by decide) rfl (Nat.le_of_ble_eq_true rfl) ?_
  intro p e s m below meth c A X hlk hnt
  have hiX1 : ∀ w ∈ wsX10, w ∈ wsX1_rent := by decide +kernel
  refine z_sub (lv' := [(0, .ref (ad 0)), (1, .int (iZ h)), (2, .int (iZ o)), (3, .int (iZ x))]) [0, 1, 2, 3] rfl ?_
  refine z_iload_n X 1 rfl dX1_rent_0 ?_
  refine z_callvs X (c_X1_checkHouse l D ad cI cZ cL h (by omega)) (va_cwS 1 X.2.2.2.2.1 gX1_rent_X1_checkHouse rfl rfl rfl (by decide +kernel) ⟨Nat.le_of_ble_eq_true rfl, Nat.le_of_ble_eq_true rfl⟩) rfl [] (Gw ad cI cZ u) rfl [] rfl (Nat.le_of_ble_eq_true rfl) dX1_rent_1 ⟨Nat.le_of_ble_eq_true rfl, Nat.le_of_ble_eq_true rfl⟩ rfl ?_
  refine z_iload_n X 2 rfl dX1_rent_4 ?_
  refine z_callxvs X (x_X1_checkHouse l hl D ad cI cZ cL o ⟨by omega, by omega⟩ (by omega)) (va_cwS 1 X.2.2.2.2.1 gX1_rent_X1_checkHouse rfl rfl rfl (by decide +kernel) ⟨Nat.le_of_ble_eq_true rfl, Nat.le_of_ble_eq_true rfl⟩) rfl [] (Gw ad cI cZ u) rfl [] rfl (Nat.le_of_ble_eq_true rfl) dX1_rent_5 ⟨Nat.le_of_ble_eq_true rfl, Nat.le_of_ble_eq_true rfl⟩ ?_
  exact z_xout hlk hnt X ⟨Nat.le_of_ble_eq_true rfl, Nat.le_of_ble_eq_true rfl⟩
set_option maxHeartbeats 4000000 in
set_option maxRecDepth 100000 in
theorem x_X1_rent_3 (l : Launch) (hl : l.stackTraces = false) (D : va_G) (ad : Nat → Nat) (cI cZ cL : ClassId) (u : GS) (h o x : Int) (hz : zB h) (hzo : zB o) (hz2 : zB x) (h0 : 0 ≤ h ∧ h ≤ 5) (h1 : 0 ≤ o ∧ o ≤ 5) (hho : h = o) : zMxi l D (zT cI cZ cL) yX1_rent wsX1_rent ({ frames := 7, cells := 1, slots := 6, locals := 104 } : Room) (Gw ad cI cZ u) [.ref (ad 0), .int (iZ h), .int (iZ o), .int (iZ x)] "java/lang/IllegalArgumentException" := by
  refine z_mxi (cc := cX1_rent) (maxL := 4) (ret := (some .int)) (by decide) rfl (Nat.le_of_ble_eq_true rfl) ?_
  intro p e s m below meth c A X hlk hnt
  have hiX1 : ∀ w ∈ wsX10, w ∈ wsX1_rent := by decide +kernel
  refine z_sub (lv' := [(0, .ref (ad 0)), (1, .int (iZ h)), (2, .int (iZ o)), (3, .int (iZ x))]) [0, 1, 2, 3] rfl ?_
  refine z_iload_n X 1 rfl dX1_rent_0 ?_
  refine z_callvs X (c_X1_checkHouse l D ad cI cZ cL h (by omega)) (va_cwS 1 X.2.2.2.2.1 gX1_rent_X1_checkHouse rfl rfl rfl (by decide +kernel) ⟨Nat.le_of_ble_eq_true rfl, Nat.le_of_ble_eq_true rfl⟩) rfl [] (Gw ad cI cZ u) rfl [] rfl (Nat.le_of_ble_eq_true rfl) dX1_rent_1 ⟨Nat.le_of_ble_eq_true rfl, Nat.le_of_ble_eq_true rfl⟩ rfl ?_
  refine z_iload_n X 2 rfl dX1_rent_4 ?_
  refine z_callvs X (c_X1_checkHouse l D ad cI cZ cL o (by omega)) (va_cwS 1 X.2.2.2.2.1 gX1_rent_X1_checkHouse rfl rfl rfl (by decide +kernel) ⟨Nat.le_of_ble_eq_true rfl, Nat.le_of_ble_eq_true rfl⟩) rfl [] (Gw ad cI cZ u) rfl [] rfl (Nat.le_of_ble_eq_true rfl) dX1_rent_5 ⟨Nat.le_of_ble_eq_true rfl, Nat.le_of_ble_eq_true rfl⟩ rfl ?_
  refine z_iload_n X 1 rfl dX1_rent_8 ?_
  refine z_iload_n X 2 rfl dX1_rent_9 ?_
  refine z_icmp_ne (tgt := 23) X ⟨by omega, by omega⟩ ⟨by omega, by omega⟩ (by decide) dX1_rent_10 (fun c_1 => ?_) (fun c_1 => ?_)
  · exact absurd c_1 (by omega)
  · skip
    exact z_throw hl hlk hnt X zft_1 (by decide +kernel) (by decide +kernel) X.2.2.2.2.2.2.2.1.s83 X.2.2.2.2.2.2.2.1.c1 (by decide +kernel) zng_1 zgo_1 dX1_rent_13 dX1_rent_16 dX1_rent_17 dX1_rent_19 dX1_rent_22 ⟨Nat.le_of_ble_eq_true rfl, Nat.le_of_ble_eq_true rfl, Nat.le_of_ble_eq_true rfl, Nat.le_of_ble_eq_true rfl⟩ ⟨Nat.le_of_ble_eq_true rfl, Nat.le_of_ble_eq_true rfl⟩
set_option maxHeartbeats 4000000 in
set_option maxRecDepth 100000 in
theorem x_X1_rent_4 (l : Launch) (hl : l.stackTraces = false) (D : va_G) (ad : Nat → Nat) (cI cZ cL : ClassId) (u : GS) (h o x : Int) (hz : zB h) (hzo : zB o) (hz2 : zB x) (h0 : 0 ≤ h ∧ h ≤ 5) (h1 : 0 ≤ o ∧ o ≤ 5) (hho : ¬ h = o) (hx : ¬ (1 ≤ x ∧ x ≤ 100)) : zMxi l D (zT cI cZ cL) yX1_rent wsX1_rent ({ frames := 7, cells := 1, slots := 6, locals := 104 } : Room) (Gw ad cI cZ u) [.ref (ad 0), .int (iZ h), .int (iZ o), .int (iZ x)] "java/lang/IllegalArgumentException" := by
  refine z_mxi (cc := cX1_rent) (maxL := 4) (ret := (some .int)) (by decide) rfl (Nat.le_of_ble_eq_true rfl) ?_
  intro p e s m below meth c A X hlk hnt
  have hiX1 : ∀ w ∈ wsX10, w ∈ wsX1_rent := by decide +kernel
  refine z_sub (lv' := [(0, .ref (ad 0)), (1, .int (iZ h)), (2, .int (iZ o)), (3, .int (iZ x))]) [0, 1, 2, 3] rfl ?_
  refine z_iload_n X 1 rfl dX1_rent_0 ?_
  refine z_callvs X (c_X1_checkHouse l D ad cI cZ cL h (by omega)) (va_cwS 1 X.2.2.2.2.1 gX1_rent_X1_checkHouse rfl rfl rfl (by decide +kernel) ⟨Nat.le_of_ble_eq_true rfl, Nat.le_of_ble_eq_true rfl⟩) rfl [] (Gw ad cI cZ u) rfl [] rfl (Nat.le_of_ble_eq_true rfl) dX1_rent_1 ⟨Nat.le_of_ble_eq_true rfl, Nat.le_of_ble_eq_true rfl⟩ rfl ?_
  refine z_iload_n X 2 rfl dX1_rent_4 ?_
  refine z_callvs X (c_X1_checkHouse l D ad cI cZ cL o (by omega)) (va_cwS 1 X.2.2.2.2.1 gX1_rent_X1_checkHouse rfl rfl rfl (by decide +kernel) ⟨Nat.le_of_ble_eq_true rfl, Nat.le_of_ble_eq_true rfl⟩) rfl [] (Gw ad cI cZ u) rfl [] rfl (Nat.le_of_ble_eq_true rfl) dX1_rent_5 ⟨Nat.le_of_ble_eq_true rfl, Nat.le_of_ble_eq_true rfl⟩ rfl ?_
  refine z_iload_n X 1 rfl dX1_rent_8 ?_
  refine z_iload_n X 2 rfl dX1_rent_9 ?_
  refine z_icmp_ne (tgt := 23) X ⟨by omega, by omega⟩ ⟨by omega, by omega⟩ (by decide) dX1_rent_10 (fun c_1 => ?_) (fun c_1 => ?_)
  · skip
    refine z_iload_n X 3 rfl dX1_rent_23 ?_
    refine z_iconst X dX1_rent_24 ?_
    refine z_bipush X (by decide) dX1_rent_25 ?_
    refine z_callxvs X (x_X1_checkRange l hl D ad cI cZ cL x 1 100 ⟨by omega, by omega⟩ ⟨by omega, by omega⟩ ⟨by omega, by omega⟩ (by omega)) (va_cwS 3 X.2.2.2.2.1 gX1_rent_X1_checkRange rfl rfl rfl (by decide +kernel) ⟨Nat.le_of_ble_eq_true rfl, Nat.le_of_ble_eq_true rfl⟩) rfl [] (Gw ad cI cZ u) rfl [] rfl (Nat.le_of_ble_eq_true rfl) dX1_rent_27 ⟨Nat.le_of_ble_eq_true rfl, Nat.le_of_ble_eq_true rfl⟩ ?_
    exact z_xout hlk hnt X ⟨Nat.le_of_ble_eq_true rfl, Nat.le_of_ble_eq_true rfl⟩
  · exact absurd c_1 (by omega)
set_option maxHeartbeats 4000000 in
set_option maxRecDepth 100000 in
theorem x_X1_rent_5 (l : Launch) (hl : l.stackTraces = false) (D : va_G) (ad : Nat → Nat) (cI cZ cL : ClassId) (u : GS) (h o x : Int) (hz : zB h) (hzo : zB o) (hz2 : zB x) (h0 : 0 ≤ h ∧ h ≤ 5) (h1 : 0 ≤ o ∧ o ≤ 5) (hho : ¬ h = o) (hx : 1 ≤ x ∧ x ≤ 100) (hB : Bd u) (hm : u.1 0 h = 0) : zMxi l D (zT cI cZ cL) yX1_rent wsX1_rent ({ frames := 7, cells := 1, slots := 6, locals := 104 } : Room) (Gw ad cI cZ u) [.ref (ad 0), .int (iZ h), .int (iZ o), .int (iZ x)] "java/lang/IllegalStateException" := by
  refine z_mxi (cc := cX1_rent) (maxL := 4) (ret := (some .int)) (by decide) rfl (Nat.le_of_ble_eq_true rfl) ?_
  intro p e s m below meth c A X hlk hnt
  have hiX1 : ∀ w ∈ wsX10, w ∈ wsX1_rent := by decide +kernel
  refine z_sub (lv' := [(0, .ref (ad 0)), (1, .int (iZ h)), (2, .int (iZ o)), (3, .int (iZ x))]) [0, 1, 2, 3] rfl ?_
  refine z_iload_n X 1 rfl dX1_rent_0 ?_
  refine z_callvs X (c_X1_checkHouse l D ad cI cZ cL h (by omega)) (va_cwS 1 X.2.2.2.2.1 gX1_rent_X1_checkHouse rfl rfl rfl (by decide +kernel) ⟨Nat.le_of_ble_eq_true rfl, Nat.le_of_ble_eq_true rfl⟩) rfl [] (Gw ad cI cZ u) rfl [] rfl (Nat.le_of_ble_eq_true rfl) dX1_rent_1 ⟨Nat.le_of_ble_eq_true rfl, Nat.le_of_ble_eq_true rfl⟩ rfl ?_
  refine z_iload_n X 2 rfl dX1_rent_4 ?_
  refine z_callvs X (c_X1_checkHouse l D ad cI cZ cL o (by omega)) (va_cwS 1 X.2.2.2.2.1 gX1_rent_X1_checkHouse rfl rfl rfl (by decide +kernel) ⟨Nat.le_of_ble_eq_true rfl, Nat.le_of_ble_eq_true rfl⟩) rfl [] (Gw ad cI cZ u) rfl [] rfl (Nat.le_of_ble_eq_true rfl) dX1_rent_5 ⟨Nat.le_of_ble_eq_true rfl, Nat.le_of_ble_eq_true rfl⟩ rfl ?_
  refine z_iload_n X 1 rfl dX1_rent_8 ?_
  refine z_iload_n X 2 rfl dX1_rent_9 ?_
  refine z_icmp_ne (tgt := 23) X ⟨by omega, by omega⟩ ⟨by omega, by omega⟩ (by decide) dX1_rent_10 (fun c_1 => ?_) (fun c_1 => ?_)
  · skip
    refine z_iload_n X 3 rfl dX1_rent_23 ?_
    refine z_iconst X dX1_rent_24 ?_
    refine z_bipush X (by decide) dX1_rent_25 ?_
    refine z_callvs X (c_X1_checkRange l D ad cI cZ cL x 1 100 ⟨by omega, by omega⟩ ⟨by omega, by omega⟩ ⟨by omega, by omega⟩ (by omega)) (va_cwS 3 X.2.2.2.2.1 gX1_rent_X1_checkRange rfl rfl rfl (by decide +kernel) ⟨Nat.le_of_ble_eq_true rfl, Nat.le_of_ble_eq_true rfl⟩) rfl [] (Gw ad cI cZ u) rfl [] rfl (Nat.le_of_ble_eq_true rfl) dX1_rent_27 ⟨Nat.le_of_ble_eq_true rfl, Nat.le_of_ble_eq_true rfl⟩ rfl ?_
    refine z_aload_n X 0 rfl dX1_rent_30 ?_
    refine z_iload_n X 1 rfl dX1_rent_31 ?_
    refine z_callxv X (x_X1_checkMember l hl D ad cI cZ cL u h (by omega) hB (by assumption)) (cwV 1 X.2.2.2.2.1 gX1_rent_X1_checkMember rfl rfl rfl (by decide +kernel) ⟨Nat.le_of_ble_eq_true rfl, Nat.le_of_ble_eq_true rfl⟩) rfl [] [] (List.append_nil _).symm 1 0 rfl rfl [] rfl (Nat.le_of_ble_eq_true rfl) dX1_rent_32 ⟨Nat.le_of_ble_eq_true rfl, Nat.le_of_ble_eq_true rfl⟩ ?_
    exact z_xout hlk hnt X ⟨Nat.le_of_ble_eq_true rfl, Nat.le_of_ble_eq_true rfl⟩
  · exact absurd c_1 (by omega)
set_option maxHeartbeats 4000000 in
set_option maxRecDepth 100000 in
theorem x_X1_rent_6 (l : Launch) (hl : l.stackTraces = false) (D : va_G) (ad : Nat → Nat) (cI cZ cL : ClassId) (u : GS) (h o x : Int) (hz : zB h) (hzo : zB o) (hz2 : zB x) (h0 : 0 ≤ h ∧ h ≤ 5) (h1 : 0 ≤ o ∧ o ≤ 5) (hho : ¬ h = o) (hx : 1 ≤ x ∧ x ≤ 100) (hB : Bd u) (hm : ¬ u.1 0 h = 0) (hmo : u.1 0 o = 0) : zMxi l D (zT cI cZ cL) yX1_rent wsX1_rent ({ frames := 7, cells := 1, slots := 6, locals := 104 } : Room) (Gw ad cI cZ u) [.ref (ad 0), .int (iZ h), .int (iZ o), .int (iZ x)] "java/lang/IllegalStateException" := by
  refine z_mxi (cc := cX1_rent) (maxL := 4) (ret := (some .int)) (by decide) rfl (Nat.le_of_ble_eq_true rfl) ?_
  intro p e s m below meth c A X hlk hnt
  have hiX1 : ∀ w ∈ wsX10, w ∈ wsX1_rent := by decide +kernel
  refine z_sub (lv' := [(0, .ref (ad 0)), (1, .int (iZ h)), (2, .int (iZ o)), (3, .int (iZ x))]) [0, 1, 2, 3] rfl ?_
  refine z_iload_n X 1 rfl dX1_rent_0 ?_
  refine z_callvs X (c_X1_checkHouse l D ad cI cZ cL h (by omega)) (va_cwS 1 X.2.2.2.2.1 gX1_rent_X1_checkHouse rfl rfl rfl (by decide +kernel) ⟨Nat.le_of_ble_eq_true rfl, Nat.le_of_ble_eq_true rfl⟩) rfl [] (Gw ad cI cZ u) rfl [] rfl (Nat.le_of_ble_eq_true rfl) dX1_rent_1 ⟨Nat.le_of_ble_eq_true rfl, Nat.le_of_ble_eq_true rfl⟩ rfl ?_
  refine z_iload_n X 2 rfl dX1_rent_4 ?_
  refine z_callvs X (c_X1_checkHouse l D ad cI cZ cL o (by omega)) (va_cwS 1 X.2.2.2.2.1 gX1_rent_X1_checkHouse rfl rfl rfl (by decide +kernel) ⟨Nat.le_of_ble_eq_true rfl, Nat.le_of_ble_eq_true rfl⟩) rfl [] (Gw ad cI cZ u) rfl [] rfl (Nat.le_of_ble_eq_true rfl) dX1_rent_5 ⟨Nat.le_of_ble_eq_true rfl, Nat.le_of_ble_eq_true rfl⟩ rfl ?_
  refine z_iload_n X 1 rfl dX1_rent_8 ?_
  refine z_iload_n X 2 rfl dX1_rent_9 ?_
  refine z_icmp_ne (tgt := 23) X ⟨by omega, by omega⟩ ⟨by omega, by omega⟩ (by decide) dX1_rent_10 (fun c_1 => ?_) (fun c_1 => ?_)
  · skip
    refine z_iload_n X 3 rfl dX1_rent_23 ?_
    refine z_iconst X dX1_rent_24 ?_
    refine z_bipush X (by decide) dX1_rent_25 ?_
    refine z_callvs X (c_X1_checkRange l D ad cI cZ cL x 1 100 ⟨by omega, by omega⟩ ⟨by omega, by omega⟩ ⟨by omega, by omega⟩ (by omega)) (va_cwS 3 X.2.2.2.2.1 gX1_rent_X1_checkRange rfl rfl rfl (by decide +kernel) ⟨Nat.le_of_ble_eq_true rfl, Nat.le_of_ble_eq_true rfl⟩) rfl [] (Gw ad cI cZ u) rfl [] rfl (Nat.le_of_ble_eq_true rfl) dX1_rent_27 ⟨Nat.le_of_ble_eq_true rfl, Nat.le_of_ble_eq_true rfl⟩ rfl ?_
    refine z_aload_n X 0 rfl dX1_rent_30 ?_
    refine z_iload_n X 1 rfl dX1_rent_31 ?_
    refine z_callv X (c_X1_checkMember l D ad cI cZ cL u h (by omega) hB (by assumption)) (cwV 1 X.2.2.2.2.1 gX1_rent_X1_checkMember rfl rfl rfl (by decide +kernel) ⟨Nat.le_of_ble_eq_true rfl, Nat.le_of_ble_eq_true rfl⟩) rfl [] [] (List.append_nil _).symm 1 0 rfl rfl [] rfl (Nat.le_of_ble_eq_true rfl) dX1_rent_32 ⟨Nat.le_of_ble_eq_true rfl, Nat.le_of_ble_eq_true rfl⟩ (List.append_nil _) ?_
    refine z_aload_n X 0 rfl dX1_rent_35 ?_
    refine z_iload_n X 2 rfl dX1_rent_36 ?_
    refine z_callxv X (x_X1_checkMember l hl D ad cI cZ cL u o (by omega) hB (by assumption)) (cwV 1 X.2.2.2.2.1 gX1_rent_X1_checkMember rfl rfl rfl (by decide +kernel) ⟨Nat.le_of_ble_eq_true rfl, Nat.le_of_ble_eq_true rfl⟩) rfl [] [] (List.append_nil _).symm 1 0 rfl rfl [] rfl (Nat.le_of_ble_eq_true rfl) dX1_rent_37 ⟨Nat.le_of_ble_eq_true rfl, Nat.le_of_ble_eq_true rfl⟩ ?_
    exact z_xout hlk hnt X ⟨Nat.le_of_ble_eq_true rfl, Nat.le_of_ble_eq_true rfl⟩
  · exact absurd c_1 (by omega)
set_option maxHeartbeats 4000000 in
set_option maxRecDepth 100000 in
theorem x_X1_rent_7 (l : Launch) (hl : l.stackTraces = false) (D : va_G) (ad : Nat → Nat) (cI cZ cL : ClassId) (u : GS) (h o x : Int) (hz : zB h) (hzo : zB o) (hz2 : zB x) (h0 : 0 ≤ h ∧ h ≤ 5) (h1 : 0 ≤ o ∧ o ≤ 5) (hho : ¬ h = o) (hx : 1 ≤ x ∧ x ≤ 100) (hB : Bd u) (hm : ¬ u.1 0 h = 0) (hmo : ¬ u.1 0 o = 0) (hr : ¬ u.1 5 h ≤ u.1 4 h - x) : zMxi l D (zT cI cZ cL) yX1_rent wsX1_rent ({ frames := 7, cells := 1, slots := 6, locals := 104 } : Room) (Gw ad cI cZ u) [.ref (ad 0), .int (iZ h), .int (iZ o), .int (iZ x)] "java/lang/IllegalStateException" := by
  refine z_mxi (cc := cX1_rent) (maxL := 4) (ret := (some .int)) (by decide) rfl (Nat.le_of_ble_eq_true rfl) ?_
  intro p e s m below meth c A X hlk hnt
  have hiX1 : ∀ w ∈ wsX10, w ∈ wsX1_rent := by decide +kernel
  refine z_sub (lv' := [(0, .ref (ad 0)), (1, .int (iZ h)), (2, .int (iZ o)), (3, .int (iZ x))]) [0, 1, 2, 3] rfl ?_
  refine z_iload_n X 1 rfl dX1_rent_0 ?_
  refine z_callvs X (c_X1_checkHouse l D ad cI cZ cL h (by omega)) (va_cwS 1 X.2.2.2.2.1 gX1_rent_X1_checkHouse rfl rfl rfl (by decide +kernel) ⟨Nat.le_of_ble_eq_true rfl, Nat.le_of_ble_eq_true rfl⟩) rfl [] (Gw ad cI cZ u) rfl [] rfl (Nat.le_of_ble_eq_true rfl) dX1_rent_1 ⟨Nat.le_of_ble_eq_true rfl, Nat.le_of_ble_eq_true rfl⟩ rfl ?_
  refine z_iload_n X 2 rfl dX1_rent_4 ?_
  refine z_callvs X (c_X1_checkHouse l D ad cI cZ cL o (by omega)) (va_cwS 1 X.2.2.2.2.1 gX1_rent_X1_checkHouse rfl rfl rfl (by decide +kernel) ⟨Nat.le_of_ble_eq_true rfl, Nat.le_of_ble_eq_true rfl⟩) rfl [] (Gw ad cI cZ u) rfl [] rfl (Nat.le_of_ble_eq_true rfl) dX1_rent_5 ⟨Nat.le_of_ble_eq_true rfl, Nat.le_of_ble_eq_true rfl⟩ rfl ?_
  refine z_iload_n X 1 rfl dX1_rent_8 ?_
  refine z_iload_n X 2 rfl dX1_rent_9 ?_
  refine z_icmp_ne (tgt := 23) X ⟨by omega, by omega⟩ ⟨by omega, by omega⟩ (by decide) dX1_rent_10 (fun c_1 => ?_) (fun c_1 => ?_)
  · skip
    refine z_iload_n X 3 rfl dX1_rent_23 ?_
    refine z_iconst X dX1_rent_24 ?_
    refine z_bipush X (by decide) dX1_rent_25 ?_
    refine z_callvs X (c_X1_checkRange l D ad cI cZ cL x 1 100 ⟨by omega, by omega⟩ ⟨by omega, by omega⟩ ⟨by omega, by omega⟩ (by omega)) (va_cwS 3 X.2.2.2.2.1 gX1_rent_X1_checkRange rfl rfl rfl (by decide +kernel) ⟨Nat.le_of_ble_eq_true rfl, Nat.le_of_ble_eq_true rfl⟩) rfl [] (Gw ad cI cZ u) rfl [] rfl (Nat.le_of_ble_eq_true rfl) dX1_rent_27 ⟨Nat.le_of_ble_eq_true rfl, Nat.le_of_ble_eq_true rfl⟩ rfl ?_
    refine z_aload_n X 0 rfl dX1_rent_30 ?_
    refine z_iload_n X 1 rfl dX1_rent_31 ?_
    refine z_callv X (c_X1_checkMember l D ad cI cZ cL u h (by omega) hB (by assumption)) (cwV 1 X.2.2.2.2.1 gX1_rent_X1_checkMember rfl rfl rfl (by decide +kernel) ⟨Nat.le_of_ble_eq_true rfl, Nat.le_of_ble_eq_true rfl⟩) rfl [] [] (List.append_nil _).symm 1 0 rfl rfl [] rfl (Nat.le_of_ble_eq_true rfl) dX1_rent_32 ⟨Nat.le_of_ble_eq_true rfl, Nat.le_of_ble_eq_true rfl⟩ (List.append_nil _) ?_
    refine z_aload_n X 0 rfl dX1_rent_35 ?_
    refine z_iload_n X 2 rfl dX1_rent_36 ?_
    refine z_callv X (c_X1_checkMember l D ad cI cZ cL u o (by omega) hB (by assumption)) (cwV 1 X.2.2.2.2.1 gX1_rent_X1_checkMember rfl rfl rfl (by decide +kernel) ⟨Nat.le_of_ble_eq_true rfl, Nat.le_of_ble_eq_true rfl⟩) rfl [] [] (List.append_nil _).symm 1 0 rfl rfl [] rfl (Nat.le_of_ble_eq_true rfl) dX1_rent_37 ⟨Nat.le_of_ble_eq_true rfl, Nat.le_of_ble_eq_true rfl⟩ (List.append_nil _) ?_
    refine z_aload_n X 0 rfl dX1_rent_40 ?_
    refine z_get (v := .ref (ad 5)) X 1 0 4 hiX1 rfl rfl (by decide) ⟨rfl, rfl, rfl⟩ (by decide +kernel) rfl dX1_rent_41 ?_
    refine z_iload_n X 1 rfl dX1_rent_44 ?_
    refine z_iald (g := u.1 4) X 5 0 rfl rfl (by omega) (by omega) ⟨by omega, by omega⟩ dX1_rent_45 ?_
    have b_2 := hB 4 rfl h
    refine z_iload_n X 3 rfl dX1_rent_46 ?_
    refine z_isub X dX1_rent_47 ?_
    refine z_aload_n X 0 rfl dX1_rent_48 ?_
    refine z_get (v := .ref (ad 6)) X 1 0 5 hiX1 rfl rfl (by decide) ⟨rfl, rfl, rfl⟩ (by decide +kernel) rfl dX1_rent_49 ?_
    refine z_iload_n X 1 rfl dX1_rent_52 ?_
    refine z_iald (g := u.1 5) X 6 0 rfl rfl (by omega) (by omega) ⟨by omega, by omega⟩ dX1_rent_53 ?_
    have b_3 := hB 5 rfl h
    refine z_icmp_ge (tgt := 67) X ⟨by omega, by omega⟩ ⟨by omega, by omega⟩ (by decide) dX1_rent_54 (fun c_4 => ?_) (fun c_4 => ?_)
    · exact absurd c_4 (by omega)
    · skip
      exact z_throw hl hlk hnt X zft_2 (by decide +kernel) (by decide +kernel) X.2.2.2.2.2.2.2.1.s90 X.2.2.2.2.2.2.2.1.c2 (by decide +kernel) zng_2 zgo_2 dX1_rent_57 dX1_rent_60 dX1_rent_61 dX1_rent_63 dX1_rent_66 ⟨Nat.le_of_ble_eq_true rfl, Nat.le_of_ble_eq_true rfl, Nat.le_of_ble_eq_true rfl, Nat.le_of_ble_eq_true rfl⟩ ⟨Nat.le_of_ble_eq_true rfl, Nat.le_of_ble_eq_true rfl⟩
  · exact absurd c_1 (by omega)
set_option maxHeartbeats 4000000 in
set_option maxRecDepth 100000 in
theorem c_X1_leave (l : Launch) (D : va_G) (ad : Nat → Nat) (cI cZ cL : ClassId) (u : GS) (h : Int) (h0 : 0 ≤ h ∧ h ≤ 5) (hB : Bd u) (hm : ¬ u.1 0 h = 0) : zMi l D (zT cI cZ cL) yX1_leave wsX1_leave ({ frames := 7, cells := 0, slots := 0, locals := 103 } : Room) (Gw ad cI cZ u) [.ref (ad 0), .int (iZ h)] (u.1 5 h * u.2 1) (Gw ad cI cZ (f_leave u h)) 0 0 := by
  refine z_mi (cc := cX1_leave) (maxL := 3) (ret := (some .int)) (by decide) rfl (Nat.le_of_ble_eq_true rfl) ?_
  intro p e s m below meth c A X hr hlk hin
  have hiX1 : ∀ w ∈ wsX10, w ∈ wsX1_leave := by decide +kernel
  refine z_sub (lv' := [(0, .ref (ad 0)), (1, .int (iZ h))]) [0, 1] rfl ?_
  refine z_iload_n X 1 rfl dX1_leave_0 ?_
  refine z_callvs X (c_X1_checkHouse l D ad cI cZ cL h (by omega)) (va_cwS 1 X.2.2.2.2.1 gX1_leave_X1_checkHouse rfl rfl rfl (by decide +kernel) ⟨Nat.le_of_ble_eq_true rfl, Nat.le_of_ble_eq_true rfl⟩) rfl [] (Gw ad cI cZ u) rfl [] rfl (Nat.le_of_ble_eq_true rfl) dX1_leave_1 ⟨Nat.le_of_ble_eq_true rfl, Nat.le_of_ble_eq_true rfl⟩ rfl ?_
  refine z_aload_n X 0 rfl dX1_leave_4 ?_
  refine z_iload_n X 1 rfl dX1_leave_5 ?_
  refine z_callv X (c_X1_checkMember l D ad cI cZ cL u h (by omega) hB (by assumption)) (cwV 1 X.2.2.2.2.1 gX1_leave_X1_checkMember rfl rfl rfl (by decide +kernel) ⟨Nat.le_of_ble_eq_true rfl, Nat.le_of_ble_eq_true rfl⟩) rfl [] [] (List.append_nil _).symm 1 0 rfl rfl [] rfl (Nat.le_of_ble_eq_true rfl) dX1_leave_6 ⟨Nat.le_of_ble_eq_true rfl, Nat.le_of_ble_eq_true rfl⟩ (List.append_nil _) ?_
  refine z_aload_n X 0 rfl dX1_leave_9 ?_
  refine z_get (v := .ref (ad 6)) X 1 0 5 hiX1 rfl rfl (by decide) ⟨rfl, rfl, rfl⟩ (by decide +kernel) rfl dX1_leave_10 ?_
  refine z_iload_n X 1 rfl dX1_leave_13 ?_
  refine z_iald (g := u.1 5) X 6 0 rfl rfl (by omega) (by omega) ⟨by omega, by omega⟩ dX1_leave_14 ?_
  refine z_aload_n X 0 rfl dX1_leave_15 ?_
  refine z_get (v := .int (iZ (u.2 1))) X 1 0 13 hiX1 rfl rfl (by decide) ⟨rfl, rfl, rfl⟩ (by decide +kernel) rfl dX1_leave_16 ?_
  refine z_imul X dX1_leave_19 ?_
  refine z_istore_n X [1, 2, 0] [(0, .ref (ad 0)), (1, .int (iZ h)), (2, .int (iZ ((u.1 5 h) * (u.2 1))))] rfl (Nat.le_of_ble_eq_true rfl) dX1_leave_20 ?_
  refine z_aload_n X 0 rfl dX1_leave_21 ?_
  refine z_iload_n X 1 rfl dX1_leave_22 ?_
  refine z_iload_n X 2 rfl dX1_leave_23 ?_
  refine z_ineg X dX1_leave_24 ?_
  refine z_callv X (c_X1_payPool l D ad cI cZ cL u h (-((u.1 5 h) * (u.2 1))) (by omega)) (cwV 2 X.2.2.2.2.1 gX1_leave_X1_payPool rfl rfl rfl (by decide +kernel) ⟨Nat.le_of_ble_eq_true rfl, Nat.le_of_ble_eq_true rfl⟩) rfl [] [] (List.append_nil _).symm 1 0 rfl rfl [] rfl (Nat.le_of_ble_eq_true rfl) dX1_leave_25 ⟨Nat.le_of_ble_eq_true rfl, Nat.le_of_ble_eq_true rfl⟩ (List.append_nil _) ?_
  refine z_aload_n X 0 rfl dX1_leave_28 ?_
  refine z_get (v := .ref (ad 1)) X 1 0 0 hiX1 rfl rfl (by decide) ⟨rfl, rfl, rfl⟩ (by decide +kernel) rfl dX1_leave_29 ?_
  refine z_iload_n X 1 rfl dX1_leave_32 ?_
  refine z_iconst X dX1_leave_33 ?_
  refine z_zast (g := (f_pay u h (-((u.1 5 h) * (u.2 1)))).1 0) X 1 1 (Gw ad cI cZ (gA (f_pay u h (-((u.1 5 h) * (u.2 1)))) 0 h 0)) rfl rfl (by omega) (by omega) ⟨by omega, by omega⟩ (by omega) rfl dX1_leave_34 ?_
  refine z_aload_n X 0 rfl dX1_leave_35 ?_
  refine z_get (v := .ref (ad 2)) X 1 0 1 hiX1 rfl rfl (by decide) ⟨rfl, rfl, rfl⟩ (by decide +kernel) rfl dX1_leave_36 ?_
  refine z_iload_n X 1 rfl dX1_leave_39 ?_
  refine z_iconst X dX1_leave_40 ?_
  refine z_iast (g := (f_pay u h (-((u.1 5 h) * (u.2 1)))).1 1) X 2 0 (Gw ad cI cZ (gA (gA (f_pay u h (-((u.1 5 h) * (u.2 1)))) 0 h 0) 1 h 0)) rfl rfl (by omega) (by omega) ⟨by omega, by omega⟩ rfl dX1_leave_41 ?_
  refine z_aload_n X 0 rfl dX1_leave_42 ?_
  refine z_get (v := .ref (ad 3)) X 1 0 2 hiX1 rfl rfl (by decide) ⟨rfl, rfl, rfl⟩ (by decide +kernel) rfl dX1_leave_43 ?_
  refine z_iload_n X 1 rfl dX1_leave_46 ?_
  refine z_iconst X dX1_leave_47 ?_
  refine z_iast (g := (f_pay u h (-((u.1 5 h) * (u.2 1)))).1 2) X 3 0 (Gw ad cI cZ (gA (gA (gA (f_pay u h (-((u.1 5 h) * (u.2 1)))) 0 h 0) 1 h 0) 2 h 0)) rfl rfl (by omega) (by omega) ⟨by omega, by omega⟩ rfl dX1_leave_48 ?_
  refine z_aload_n X 0 rfl dX1_leave_49 ?_
  refine z_get (v := .ref (ad 5)) X 1 0 4 hiX1 rfl rfl (by decide) ⟨rfl, rfl, rfl⟩ (by decide +kernel) rfl dX1_leave_50 ?_
  refine z_iload_n X 1 rfl dX1_leave_53 ?_
  refine z_iconst X dX1_leave_54 ?_
  refine z_iast (g := (f_pay u h (-((u.1 5 h) * (u.2 1)))).1 4) X 5 0 (Gw ad cI cZ (gA (gA (gA (gA (f_pay u h (-((u.1 5 h) * (u.2 1)))) 0 h 0) 1 h 0) 2 h 0) 4 h 0)) rfl rfl (by omega) (by omega) ⟨by omega, by omega⟩ rfl dX1_leave_55 ?_
  refine z_aload_n X 0 rfl dX1_leave_56 ?_
  refine z_get (v := .ref (ad 6)) X 1 0 5 hiX1 rfl rfl (by decide) ⟨rfl, rfl, rfl⟩ (by decide +kernel) rfl dX1_leave_57 ?_
  refine z_iload_n X 1 rfl dX1_leave_60 ?_
  refine z_iconst X dX1_leave_61 ?_
  refine z_iast (g := (f_pay u h (-((u.1 5 h) * (u.2 1)))).1 5) X 6 0 (Gw ad cI cZ (gA (gA (gA (gA (gA (f_pay u h (-((u.1 5 h) * (u.2 1)))) 0 h 0) 1 h 0) 2 h 0) 4 h 0) 5 h 0)) rfl rfl (by omega) (by omega) ⟨by omega, by omega⟩ rfl dX1_leave_62 ?_
  refine z_iload_n X 2 rfl dX1_leave_63 ?_
  exact z_iret X hr hlk rfl rfl dX1_leave_64
set_option maxHeartbeats 4000000 in
set_option maxRecDepth 100000 in
theorem x_X1_leave_1 (l : Launch) (hl : l.stackTraces = false) (D : va_G) (ad : Nat → Nat) (cI cZ cL : ClassId) (u : GS) (h : Int) (hz : zB h) (h0 : ¬ (0 ≤ h ∧ h ≤ 5)) : zMxi l D (zT cI cZ cL) yX1_leave wsX1_leave ({ frames := 7, cells := 1, slots := 6, locals := 103 } : Room) (Gw ad cI cZ u) [.ref (ad 0), .int (iZ h)] "java/lang/IndexOutOfBoundsException" := by
  refine z_mxi (cc := cX1_leave) (maxL := 3) (ret := (some .int)) (by decide) rfl (Nat.le_of_ble_eq_true rfl) ?_
  intro p e s m below meth c A X hlk hnt
  have hiX1 : ∀ w ∈ wsX10, w ∈ wsX1_leave := by decide +kernel
  refine z_sub (lv' := [(0, .ref (ad 0)), (1, .int (iZ h))]) [0, 1] rfl ?_
  refine z_iload_n X 1 rfl dX1_leave_0 ?_
  refine z_callxvs X (x_X1_checkHouse l hl D ad cI cZ cL h ⟨by omega, by omega⟩ (by omega)) (va_cwS 1 X.2.2.2.2.1 gX1_leave_X1_checkHouse rfl rfl rfl (by decide +kernel) ⟨Nat.le_of_ble_eq_true rfl, Nat.le_of_ble_eq_true rfl⟩) rfl [] (Gw ad cI cZ u) rfl [] rfl (Nat.le_of_ble_eq_true rfl) dX1_leave_1 ⟨Nat.le_of_ble_eq_true rfl, Nat.le_of_ble_eq_true rfl⟩ ?_
  exact z_xout hlk hnt X ⟨Nat.le_of_ble_eq_true rfl, Nat.le_of_ble_eq_true rfl⟩
set_option maxHeartbeats 4000000 in
set_option maxRecDepth 100000 in
theorem x_X1_leave_2 (l : Launch) (hl : l.stackTraces = false) (D : va_G) (ad : Nat → Nat) (cI cZ cL : ClassId) (u : GS) (h : Int) (hz : zB h) (h0 : 0 ≤ h ∧ h ≤ 5) (hB : Bd u) (hm : u.1 0 h = 0) : zMxi l D (zT cI cZ cL) yX1_leave wsX1_leave ({ frames := 7, cells := 1, slots := 6, locals := 103 } : Room) (Gw ad cI cZ u) [.ref (ad 0), .int (iZ h)] "java/lang/IllegalStateException" := by
  refine z_mxi (cc := cX1_leave) (maxL := 3) (ret := (some .int)) (by decide) rfl (Nat.le_of_ble_eq_true rfl) ?_
  intro p e s m below meth c A X hlk hnt
  have hiX1 : ∀ w ∈ wsX10, w ∈ wsX1_leave := by decide +kernel
  refine z_sub (lv' := [(0, .ref (ad 0)), (1, .int (iZ h))]) [0, 1] rfl ?_
  refine z_iload_n X 1 rfl dX1_leave_0 ?_
  refine z_callvs X (c_X1_checkHouse l D ad cI cZ cL h (by omega)) (va_cwS 1 X.2.2.2.2.1 gX1_leave_X1_checkHouse rfl rfl rfl (by decide +kernel) ⟨Nat.le_of_ble_eq_true rfl, Nat.le_of_ble_eq_true rfl⟩) rfl [] (Gw ad cI cZ u) rfl [] rfl (Nat.le_of_ble_eq_true rfl) dX1_leave_1 ⟨Nat.le_of_ble_eq_true rfl, Nat.le_of_ble_eq_true rfl⟩ rfl ?_
  refine z_aload_n X 0 rfl dX1_leave_4 ?_
  refine z_iload_n X 1 rfl dX1_leave_5 ?_
  refine z_callxv X (x_X1_checkMember l hl D ad cI cZ cL u h (by omega) hB (by assumption)) (cwV 1 X.2.2.2.2.1 gX1_leave_X1_checkMember rfl rfl rfl (by decide +kernel) ⟨Nat.le_of_ble_eq_true rfl, Nat.le_of_ble_eq_true rfl⟩) rfl [] [] (List.append_nil _).symm 1 0 rfl rfl [] rfl (Nat.le_of_ble_eq_true rfl) dX1_leave_6 ⟨Nat.le_of_ble_eq_true rfl, Nat.le_of_ble_eq_true rfl⟩ ?_
  exact z_xout hlk hnt X ⟨Nat.le_of_ble_eq_true rfl, Nat.le_of_ble_eq_true rfl⟩
set_option maxHeartbeats 4000000 in
set_option maxRecDepth 100000 in
theorem x_X1_clear (l : Launch) (hl : l.stackTraces = false) (D : va_G) (ad : Nat → Nat) (cI cZ cL : ClassId) (u : GS) (hq : u.2 4 = 500) : zMxi l D (zT cI cZ cL) yX1_clear wsX1_clear ({ frames := 6, cells := 1, slots := 6, locals := 113 } : Room) (Gw ad cI cZ u) [.ref (ad 0)] "java/lang/IllegalStateException" := by
  refine z_mxi (cc := cX1_clear) (maxL := 2) (ret := (some .int)) (by decide) rfl (Nat.le_of_ble_eq_true rfl) ?_
  intro p e s m below meth c A X hlk hnt
  have hiX1 : ∀ w ∈ wsX10, w ∈ wsX1_clear := by decide +kernel
  refine z_sub (lv' := [(0, .ref (ad 0))]) [0] rfl ?_
  refine z_aload_n X 0 rfl dX1_clear_0 ?_
  refine z_get (v := .int (iZ (u.2 4))) X 1 0 16 hiX1 rfl rfl (by decide) ⟨rfl, rfl, rfl⟩ (by decide +kernel) rfl dX1_clear_1 ?_
  refine z_sipush X (by decide) dX1_clear_4 ?_
  refine z_icmp_lt (tgt := 20) X ⟨by omega, by omega⟩ ⟨by omega, by omega⟩ (by decide) dX1_clear_7 (fun c_1 => ?_) (fun c_1 => ?_)
  · exact absurd c_1 (by omega)
  · skip
    exact z_throw hl hlk hnt X zft_2 (by decide +kernel) (by decide +kernel) X.2.2.2.2.2.2.2.1.s97 X.2.2.2.2.2.2.2.1.c2 (by decide +kernel) zng_2 zgo_2 dX1_clear_10 dX1_clear_13 dX1_clear_14 dX1_clear_16 dX1_clear_19 ⟨Nat.le_of_ble_eq_true rfl, Nat.le_of_ble_eq_true rfl, Nat.le_of_ble_eq_true rfl, Nat.le_of_ble_eq_true rfl⟩ ⟨Nat.le_of_ble_eq_true rfl, Nat.le_of_ble_eq_true rfl⟩
set_option maxHeartbeats 4000000 in
set_option maxRecDepth 100000 in
theorem c_X1_isInSet (l : Launch) (D : va_G) (ad : Nat → Nat) (cI cZ cL : ClassId) (h set : Int) (h0 : 0 ≤ h ∧ h ≤ 5) (h1 : 0 ≤ set ∧ set < 64) : zMi l D (zT cI cZ cL) yX1_isInSet wsX1_isInSet ({ frames := 0, cells := 0, slots := 0, locals := 0 } : Room) ([]) [.int (iZ h), .int (iZ set)] (f_bit set h) ([]) 0 0 := by
  refine z_mi (cc := cX1_isInSet) (maxL := 2) (ret := (some .boolean)) (by decide) rfl (Nat.le_of_ble_eq_true rfl) ?_
  intro p e s m below meth c A X hr hlk hin
  refine z_sub (lv' := [(0, .int (iZ h)), (1, .int (iZ set))]) [0, 1] rfl ?_
  refine z_iload_n X 1 rfl dX1_isInSet_0 ?_
  refine z_iload_n X 0 rfl dX1_isInSet_1 ?_
  refine z_ishr X dX1_isInSet_2 ?_
  refine z_iconst X dX1_isInSet_3 ?_
  refine z_iand X dX1_isInSet_4 ?_
  refine z_top (f_bit_eq (set := set) (h := h) (by omega) (by omega)) ?_
  have r_1 := f_bit_rg set h
  refine z_if_eq (tgt := 12) X ⟨by omega, by omega⟩ (by decide) dX1_isInSet_5 (fun c_2 => ?_) (fun c_2 => ?_)
  · skip
    refine z_iconst X dX1_isInSet_12 ?_
    exact z_zret X hr hlk (by omega) (by omega) rfl dX1_isInSet_13
  · skip
    refine z_iconst X dX1_isInSet_8 ?_
    refine z_goto (tgt := 13) X (by decide) dX1_isInSet_9 ?_
    exact z_zret X hr hlk (by omega) (by omega) rfl dX1_isInSet_13
set_option maxHeartbeats 4000000 in
set_option maxRecDepth 100000 in
theorem c_X1_sellsToSet (l : Launch) (D : va_G) (ad : Nat → Nat) (cI cZ cL : ClassId) (u : GS) (sl set : Int) (h0 : 0 ≤ sl ∧ sl ≤ 5) (h1 : 0 ≤ set ∧ set < 64) (hB : Bd u) : zMi l D (zT cI cZ cL) yX1_sellsToSet wsX1_sellsToSet ({ frames := 1, cells := 0, slots := 0, locals := 21 } : Room) (Gw ad cI cZ u) [.ref (ad 0), .int (iZ sl), .int (iZ set)] (f_sells (u.1 2) (u.1 3) sl set) (Gw ad cI cZ u) 0 0 := by
  refine z_mi (cc := cX1_sellsToSet) (maxL := 4) (ret := (some .boolean)) (by decide) rfl (Nat.le_of_ble_eq_true rfl) ?_
  intro p e s m below meth c A X hr hlk hin
  have hiX1 : ∀ w ∈ wsX10, w ∈ wsX1_sellsToSet := by decide +kernel
  refine z_sub (lv' := [(0, .ref (ad 0)), (1, .int (iZ sl)), (2, .int (iZ set))]) [0, 1, 2] rfl ?_
  refine z_iconst X dX1_sellsToSet_0 ?_
  refine z_istore_n X [1, 2, 3, 0] [(0, .ref (ad 0)), (1, .int (iZ sl)), (2, .int (iZ set)), (3, .int (iZ 0))] rfl (Nat.le_of_ble_eq_true rfl) dX1_sellsToSet_1 ?_
  suffices H_2 : ∀ (n_2 : Nat) (i_2 : Int), (i_2 = 6 - ((n_2 : Nat) : Int) ∧ 0 ≤ i_2) → (f_sellsL (u.1 2) (u.1 3) sl set n_2 i_2 = f_sells (u.1 2) (u.1 3) sl set) → zW p l e ({ frames := 1, cells := 0, slots := 0, locals := 21 } : Room) s m ([.ref (ad 0), .int (iZ sl), .int (iZ set)] : List Value).toArray below meth c 4 D A 0 0 (MQ below (zPi D (zT cI cZ cL) (Gw ad cI cZ u) (f_sells (u.1 2) (u.1 3) sl set) A) ([.ref (ad 0), .int (iZ sl), .int (iZ set)] : List Value).toArray s 0 0 A) (Gw ad cI cZ u) 2 [(0, .ref (ad 0)), (1, .int (iZ sl)), (2, .int (iZ set)), (3, .int (iZ i_2))] [] from H_2 6 0 ⟨by omega, by omega⟩ rfl
  intro n_2
  induction n_2 with
  | zero =>
    intro i_2 hI_2 hF_2
    have hi_2 := hI_2.1
    have hj_2 := hI_2.2
    refine z_iload_n X 3 rfl dX1_sellsToSet_2 ?_
    refine z_bipush X (by decide) dX1_sellsToSet_3 ?_
    refine z_icmp_ge (tgt := 48) X ⟨by omega, by omega⟩ ⟨by omega, by omega⟩ (by decide) dX1_sellsToSet_5 (fun c_1 => ?_) (fun c_1 => ?_)
    · skip
      refine z_iconst X dX1_sellsToSet_48 ?_
      exact z_zret X hr hlk (by omega) hF_2 rfl dX1_sellsToSet_49
    · exact absurd c_1 (by omega)
  | succ n_2 ih_2 =>
    intro i_2 hI_2 hF_2
    have hi_2 := hI_2.1
    have hj_2 := hI_2.2
    refine z_iload_n X 3 rfl dX1_sellsToSet_2 ?_
    refine z_bipush X (by decide) dX1_sellsToSet_3 ?_
    refine z_icmp_ge (tgt := 48) X ⟨by omega, by omega⟩ ⟨by omega, by omega⟩ (by decide) dX1_sellsToSet_5 (fun c_2 => ?_) (fun c_2 => ?_)
    · exact absurd c_2 (by omega)
    · skip
      refine z_aload_n X 0 rfl dX1_sellsToSet_8 ?_
      refine z_get (v := .ref (ad 3)) X 1 0 2 hiX1 rfl rfl (by decide) ⟨rfl, rfl, rfl⟩ (by decide +kernel) rfl dX1_sellsToSet_9 ?_
      refine z_iload_n X 3 rfl dX1_sellsToSet_12 ?_
      refine z_iald (g := u.1 2) X 3 0 rfl rfl (by omega) (by omega) ⟨by omega, by omega⟩ dX1_sellsToSet_13 ?_
      have b_3 := hB 2 rfl i_2
      refine z_if_ge (tgt := 42) X ⟨by omega, by omega⟩ (by decide) dX1_sellsToSet_14 (fun c_4 => ?_) (fun c_4 => ?_)
      · skip
        refine z_iinc X 3 [1, 2, 3, 0] [(0, .ref (ad 0)), (1, .int (iZ sl)), (2, .int (iZ set)), (3, .int (iZ (i_2 + 1)))] rfl rfl (Nat.le_of_ble_eq_true rfl) dX1_sellsToSet_42 ?_
        refine z_goto (tgt := 2) X (by decide) dX1_sellsToSet_45 ?_
        exact ih_2 (i_2 + 1) ⟨by omega, by omega⟩ (by rw [← hF_2]; simp only [f_sellsL] <;> repeat' (first | with_reducible rfl | omega | split))
      · skip
        refine z_iload_n X 3 rfl dX1_sellsToSet_17 ?_
        refine z_iload_n X 2 rfl dX1_sellsToSet_18 ?_
        refine z_callis X (c_X1_isInSet l D ad cI cZ cL i_2 set (by omega) (by omega)) (va_cwS 2 X.2.2.2.2.1 gX1_sellsToSet_X1_isInSet rfl rfl rfl (by decide +kernel) ⟨Nat.le_of_ble_eq_true rfl, Nat.le_of_ble_eq_true rfl⟩) rfl [] (Gw ad cI cZ u) rfl [] rfl (Nat.le_of_ble_eq_true rfl) dX1_sellsToSet_19 ⟨Nat.le_of_ble_eq_true rfl, Nat.le_of_ble_eq_true rfl⟩ rfl ?_
        have r_5 := f_bit_rg set i_2
        refine z_if_eq (tgt := 42) X ⟨by omega, by omega⟩ (by decide) dX1_sellsToSet_22 (fun c_6 => ?_) (fun c_6 => ?_)
        · skip
          refine z_iinc X 3 [1, 2, 3, 0] [(0, .ref (ad 0)), (1, .int (iZ sl)), (2, .int (iZ set)), (3, .int (iZ (i_2 + 1)))] rfl rfl (Nat.le_of_ble_eq_true rfl) dX1_sellsToSet_42 ?_
          refine z_goto (tgt := 2) X (by decide) dX1_sellsToSet_45 ?_
          exact ih_2 (i_2 + 1) ⟨by omega, by omega⟩ (by rw [← hF_2]; simp only [f_sellsL] <;> repeat' (first | with_reducible rfl | omega | split))
        · skip
          refine z_aload_n X 0 rfl dX1_sellsToSet_25 ?_
          refine z_get (v := .ref (ad 4)) X 1 0 3 hiX1 rfl rfl (by decide) ⟨rfl, rfl, rfl⟩ (by decide +kernel) rfl dX1_sellsToSet_26 ?_
          refine z_iload_n X 1 rfl dX1_sellsToSet_29 ?_
          refine z_iald (g := u.1 3) X 4 0 rfl rfl (by omega) (by omega) ⟨by omega, by omega⟩ dX1_sellsToSet_30 ?_
          have b_7 := hB 3 rfl sl
          refine z_aload_n X 0 rfl dX1_sellsToSet_31 ?_
          refine z_get (v := .ref (ad 4)) X 1 0 3 hiX1 rfl rfl (by decide) ⟨rfl, rfl, rfl⟩ (by decide +kernel) rfl dX1_sellsToSet_32 ?_
          refine z_iload_n X 3 rfl dX1_sellsToSet_35 ?_
          refine z_iald (g := u.1 3) X 4 0 rfl rfl (by omega) (by omega) ⟨by omega, by omega⟩ dX1_sellsToSet_36 ?_
          have b_8 := hB 3 rfl i_2
          refine z_icmp_gt (tgt := 42) X ⟨by omega, by omega⟩ ⟨by omega, by omega⟩ (by decide) dX1_sellsToSet_37 (fun c_9 => ?_) (fun c_9 => ?_)
          · skip
            refine z_iinc X 3 [1, 2, 3, 0] [(0, .ref (ad 0)), (1, .int (iZ sl)), (2, .int (iZ set)), (3, .int (iZ (i_2 + 1)))] rfl rfl (Nat.le_of_ble_eq_true rfl) dX1_sellsToSet_42 ?_
            refine z_goto (tgt := 2) X (by decide) dX1_sellsToSet_45 ?_
            exact ih_2 (i_2 + 1) ⟨by omega, by omega⟩ (by rw [← hF_2]; simp only [f_sellsL] <;> repeat' (first | with_reducible rfl | omega | split))
          · skip
            refine z_iconst X dX1_sellsToSet_40 ?_
            exact z_zret X hr hlk (by omega) (by rw [← hF_2]; simp only [f_sellsL] <;> repeat' (first | with_reducible rfl | omega | split)) rfl dX1_sellsToSet_41
set_option maxHeartbeats 4000000 in
set_option maxRecDepth 100000 in
theorem c_X1_boundBySet (l : Launch) (D : va_G) (ad : Nat → Nat) (cI cZ cL : ClassId) (u : GS) (set : Int) (h1 : 0 ≤ set ∧ set < 64) (hB : Bd u) : zMi l D (zT cI cZ cL) yX1_boundBySet wsX1_boundBySet ({ frames := 2, cells := 0, slots := 0, locals := 44 } : Room) (Gw ad cI cZ u) [.ref (ad 0), .int (iZ set)] (f_bound (u.1 2) (u.1 3) set) (Gw ad cI cZ u) 0 0 := by
  refine z_mi (cc := cX1_boundBySet) (maxL := 4) (ret := (some .int)) (by decide) rfl (Nat.le_of_ble_eq_true rfl) ?_
  intro p e s m below meth c A X hr hlk hin
  have hiX1 : ∀ w ∈ wsX10, w ∈ wsX1_boundBySet := by decide +kernel
  refine z_sub (lv' := [(0, .ref (ad 0)), (1, .int (iZ set))]) [0, 1] rfl ?_
  refine z_iconst X dX1_boundBySet_0 ?_
  refine z_istore_n X [1, 2, 0] [(0, .ref (ad 0)), (1, .int (iZ set)), (2, .int (iZ 0))] rfl (Nat.le_of_ble_eq_true rfl) dX1_boundBySet_1 ?_
  refine z_iconst X dX1_boundBySet_2 ?_
  refine z_istore_n X [1, 2, 3, 0] [(0, .ref (ad 0)), (1, .int (iZ set)), (2, .int (iZ 0)), (3, .int (iZ 0))] rfl (Nat.le_of_ble_eq_true rfl) dX1_boundBySet_3 ?_
  refine zfor_ind 6 6 (rfl) (f_boundS (u.1 2) (u.1 3) set) 0 (fun (i_4 : Int) (a_4 : Int) => zW p l e ({ frames := 2, cells := 0, slots := 0, locals := 44 } : Room) s m ([.ref (ad 0), .int (iZ set)] : List Value).toArray below meth c 4 D A 0 0 (MQ below (zPi D (zT cI cZ cL) (Gw ad cI cZ u) (f_bound (u.1 2) (u.1 3) set) A) ([.ref (ad 0), .int (iZ set)] : List Value).toArray s 0 0 A) (Gw ad cI cZ u) 4 [(0, .ref (ad 0)), (1, .int (iZ set)), (2, .int (iZ a_4)), (3, .int (iZ i_4))] []) ?_ ?_
  · intro a_4 ha_4
    refine z_iload_n X 3 rfl dX1_boundBySet_4 ?_
    refine z_bipush X (by decide) dX1_boundBySet_5 ?_
    refine z_icmp_ge (tgt := 69) X ⟨by omega, by omega⟩ ⟨by omega, by omega⟩ (by decide) dX1_boundBySet_7 (fun c_1 => ?_) (fun c_1 => ?_)
    · skip
      refine z_iload_n X 2 rfl dX1_boundBySet_69 ?_
      exact z_iret X hr hlk ha_4 rfl dX1_boundBySet_70
    · exact absurd c_1 (by omega)
  · intro i_4 k_4 a_4 hi_4 h0i_4 h1i_4 ha_4 hk_4
    refine z_iload_n X 3 rfl dX1_boundBySet_4 ?_
    refine z_bipush X (by decide) dX1_boundBySet_5 ?_
    refine z_icmp_ge (tgt := 69) X ⟨by omega, by omega⟩ ⟨by omega, by omega⟩ (by decide) dX1_boundBySet_7 (fun c_2 => ?_) (fun c_2 => ?_)
    · exact absurd c_2 (by omega)
    · skip
      refine z_aload_n X 0 rfl dX1_boundBySet_10 ?_
      refine z_get (v := .ref (ad 3)) X 1 0 2 hiX1 rfl rfl (by decide) ⟨rfl, rfl, rfl⟩ (by decide +kernel) rfl dX1_boundBySet_11 ?_
      refine z_iload_n X 3 rfl dX1_boundBySet_14 ?_
      refine z_iald (g := u.1 2) X 3 0 rfl rfl (by omega) (by omega) ⟨by omega, by omega⟩ dX1_boundBySet_15 ?_
      have b_3 := hB 2 rfl i_4
      refine z_if_ge (tgt := 36) X ⟨by omega, by omega⟩ (by decide) dX1_boundBySet_16 (fun c_4 => ?_) (fun c_4 => ?_)
      · skip
        refine z_aload_n X 0 rfl dX1_boundBySet_36 ?_
        refine z_get (v := .ref (ad 3)) X 1 0 2 hiX1 rfl rfl (by decide) ⟨rfl, rfl, rfl⟩ (by decide +kernel) rfl dX1_boundBySet_37 ?_
        refine z_iload_n X 3 rfl dX1_boundBySet_40 ?_
        refine z_iald (g := u.1 2) X 3 0 rfl rfl (by omega) (by omega) ⟨by omega, by omega⟩ dX1_boundBySet_41 ?_
        refine z_if_le (tgt := 63) X ⟨by omega, by omega⟩ (by decide) dX1_boundBySet_42 (fun c_5 => ?_) (fun c_5 => ?_)
        · skip
          refine z_iinc X 3 [1, 2, 3, 0] [(0, .ref (ad 0)), (1, .int (iZ set)), (2, .int (iZ a_4)), (3, .int (iZ (i_4 + 1)))] rfl rfl (Nat.le_of_ble_eq_true rfl) dX1_boundBySet_63 ?_
          refine z_goto (tgt := 4) X (by decide) dX1_boundBySet_66 ?_
          exact z_eq rfl (congrArg (fun z : Int => ([(0, .ref (ad 0)), (1, .int (iZ set)), (2, .int (iZ z)), (3, .int (iZ (i_4 + 1)))] : List (Nat × Value))) (show (f_boundS (u.1 2) (u.1 3) set) i_4 a_4 = a_4 from (by simp only [f_boundS, f_boundA] <;> repeat' (first | with_reducible rfl | omega | split)))) hk_4
        · skip
          refine z_aload_n X 0 rfl dX1_boundBySet_45 ?_
          refine z_iload_n X 3 rfl dX1_boundBySet_46 ?_
          refine z_iload_n X 1 rfl dX1_boundBySet_47 ?_
          refine z_calli X (c_X1_sellsToSet l D ad cI cZ cL u i_4 set (by omega) (by omega) hB) (cwV 2 X.2.2.2.2.1 gX1_boundBySet_X1_sellsToSet rfl rfl rfl (by decide +kernel) ⟨Nat.le_of_ble_eq_true rfl, Nat.le_of_ble_eq_true rfl⟩) rfl [] [] (List.append_nil _).symm 1 0 rfl rfl [] rfl (Nat.le_of_ble_eq_true rfl) dX1_boundBySet_48 ⟨Nat.le_of_ble_eq_true rfl, Nat.le_of_ble_eq_true rfl⟩ (List.append_nil _) ?_
          have r_6 : f_sells (u.1 2) (u.1 3) i_4 set = 0 ∨ f_sells (u.1 2) (u.1 3) i_4 set = 1 := f_sellsL_rg _ _ _ _ 6 0
          refine z_if_eq (tgt := 63) X ⟨by omega, by omega⟩ (by decide) dX1_boundBySet_51 (fun c_7 => ?_) (fun c_7 => ?_)
          · skip
            refine z_iinc X 3 [1, 2, 3, 0] [(0, .ref (ad 0)), (1, .int (iZ set)), (2, .int (iZ a_4)), (3, .int (iZ (i_4 + 1)))] rfl rfl (Nat.le_of_ble_eq_true rfl) dX1_boundBySet_63 ?_
            refine z_goto (tgt := 4) X (by decide) dX1_boundBySet_66 ?_
            exact z_eq rfl (congrArg (fun z : Int => ([(0, .ref (ad 0)), (1, .int (iZ set)), (2, .int (iZ z)), (3, .int (iZ (i_4 + 1)))] : List (Nat × Value))) (show (f_boundS (u.1 2) (u.1 3) set) i_4 a_4 = a_4 from (by simp only [f_boundS, f_boundA] <;> repeat' (first | with_reducible rfl | omega | split)))) hk_4
          · skip
            refine z_iload_n X 2 rfl dX1_boundBySet_54 ?_
            refine z_aload_n X 0 rfl dX1_boundBySet_55 ?_
            refine z_get (v := .ref (ad 3)) X 1 0 2 hiX1 rfl rfl (by decide) ⟨rfl, rfl, rfl⟩ (by decide +kernel) rfl dX1_boundBySet_56 ?_
            refine z_iload_n X 3 rfl dX1_boundBySet_59 ?_
            refine z_iald (g := u.1 2) X 3 0 rfl rfl (by omega) (by omega) ⟨by omega, by omega⟩ dX1_boundBySet_60 ?_
            refine z_iadd X dX1_boundBySet_61 ?_
            refine z_istore_n X [1, 2, 0, 3] [(0, .ref (ad 0)), (1, .int (iZ set)), (2, .int (iZ (a_4 + (u.1 2 i_4)))), (3, .int (iZ i_4))] rfl (Nat.le_of_ble_eq_true rfl) dX1_boundBySet_62 ?_
            refine z_iinc X 3 [1, 2, 3, 0] [(0, .ref (ad 0)), (1, .int (iZ set)), (2, .int (iZ (a_4 + (u.1 2 i_4)))), (3, .int (iZ (i_4 + 1)))] rfl rfl (Nat.le_of_ble_eq_true rfl) dX1_boundBySet_63 ?_
            refine z_goto (tgt := 4) X (by decide) dX1_boundBySet_66 ?_
            exact z_eq rfl (congrArg (fun z : Int => ([(0, .ref (ad 0)), (1, .int (iZ set)), (2, .int (iZ z)), (3, .int (iZ (i_4 + 1)))] : List (Nat × Value))) (show (f_boundS (u.1 2) (u.1 3) set) i_4 a_4 = a_4 + (u.1 2 i_4) from (by simp only [f_boundS, f_boundA] <;> repeat' (first | with_reducible rfl | omega | split)))) hk_4
      · skip
        refine z_iload_n X 3 rfl dX1_boundBySet_19 ?_
        refine z_iload_n X 1 rfl dX1_boundBySet_20 ?_
        refine z_callis X (c_X1_isInSet l D ad cI cZ cL i_4 set (by omega) (by omega)) (va_cwS 2 X.2.2.2.2.1 gX1_boundBySet_X1_isInSet rfl rfl rfl (by decide +kernel) ⟨Nat.le_of_ble_eq_true rfl, Nat.le_of_ble_eq_true rfl⟩) rfl [] (Gw ad cI cZ u) rfl [] rfl (Nat.le_of_ble_eq_true rfl) dX1_boundBySet_21 ⟨Nat.le_of_ble_eq_true rfl, Nat.le_of_ble_eq_true rfl⟩ rfl ?_
        have r_8 := f_bit_rg set i_4
        refine z_if_ne (tgt := 36) X ⟨by omega, by omega⟩ (by decide) dX1_boundBySet_24 (fun c_9 => ?_) (fun c_9 => ?_)
        · skip
          refine z_aload_n X 0 rfl dX1_boundBySet_36 ?_
          refine z_get (v := .ref (ad 3)) X 1 0 2 hiX1 rfl rfl (by decide) ⟨rfl, rfl, rfl⟩ (by decide +kernel) rfl dX1_boundBySet_37 ?_
          refine z_iload_n X 3 rfl dX1_boundBySet_40 ?_
          refine z_iald (g := u.1 2) X 3 0 rfl rfl (by omega) (by omega) ⟨by omega, by omega⟩ dX1_boundBySet_41 ?_
          refine z_if_le (tgt := 63) X ⟨by omega, by omega⟩ (by decide) dX1_boundBySet_42 (fun c_10 => ?_) (fun c_10 => ?_)
          · skip
            refine z_iinc X 3 [1, 2, 3, 0] [(0, .ref (ad 0)), (1, .int (iZ set)), (2, .int (iZ a_4)), (3, .int (iZ (i_4 + 1)))] rfl rfl (Nat.le_of_ble_eq_true rfl) dX1_boundBySet_63 ?_
            refine z_goto (tgt := 4) X (by decide) dX1_boundBySet_66 ?_
            exact z_eq rfl (congrArg (fun z : Int => ([(0, .ref (ad 0)), (1, .int (iZ set)), (2, .int (iZ z)), (3, .int (iZ (i_4 + 1)))] : List (Nat × Value))) (show (f_boundS (u.1 2) (u.1 3) set) i_4 a_4 = a_4 from (by simp only [f_boundS, f_boundA] <;> repeat' (first | with_reducible rfl | omega | split)))) hk_4
          · skip
            refine z_aload_n X 0 rfl dX1_boundBySet_45 ?_
            refine z_iload_n X 3 rfl dX1_boundBySet_46 ?_
            refine z_iload_n X 1 rfl dX1_boundBySet_47 ?_
            refine z_calli X (c_X1_sellsToSet l D ad cI cZ cL u i_4 set (by omega) (by omega) hB) (cwV 2 X.2.2.2.2.1 gX1_boundBySet_X1_sellsToSet rfl rfl rfl (by decide +kernel) ⟨Nat.le_of_ble_eq_true rfl, Nat.le_of_ble_eq_true rfl⟩) rfl [] [] (List.append_nil _).symm 1 0 rfl rfl [] rfl (Nat.le_of_ble_eq_true rfl) dX1_boundBySet_48 ⟨Nat.le_of_ble_eq_true rfl, Nat.le_of_ble_eq_true rfl⟩ (List.append_nil _) ?_
            have r_11 : f_sells (u.1 2) (u.1 3) i_4 set = 0 ∨ f_sells (u.1 2) (u.1 3) i_4 set = 1 := f_sellsL_rg _ _ _ _ 6 0
            refine z_if_eq (tgt := 63) X ⟨by omega, by omega⟩ (by decide) dX1_boundBySet_51 (fun c_12 => ?_) (fun c_12 => ?_)
            · skip
              refine z_iinc X 3 [1, 2, 3, 0] [(0, .ref (ad 0)), (1, .int (iZ set)), (2, .int (iZ a_4)), (3, .int (iZ (i_4 + 1)))] rfl rfl (Nat.le_of_ble_eq_true rfl) dX1_boundBySet_63 ?_
              refine z_goto (tgt := 4) X (by decide) dX1_boundBySet_66 ?_
              exact z_eq rfl (congrArg (fun z : Int => ([(0, .ref (ad 0)), (1, .int (iZ set)), (2, .int (iZ z)), (3, .int (iZ (i_4 + 1)))] : List (Nat × Value))) (show (f_boundS (u.1 2) (u.1 3) set) i_4 a_4 = a_4 from (by simp only [f_boundS, f_boundA] <;> repeat' (first | with_reducible rfl | omega | split)))) hk_4
            · skip
              refine z_iload_n X 2 rfl dX1_boundBySet_54 ?_
              refine z_aload_n X 0 rfl dX1_boundBySet_55 ?_
              refine z_get (v := .ref (ad 3)) X 1 0 2 hiX1 rfl rfl (by decide) ⟨rfl, rfl, rfl⟩ (by decide +kernel) rfl dX1_boundBySet_56 ?_
              refine z_iload_n X 3 rfl dX1_boundBySet_59 ?_
              refine z_iald (g := u.1 2) X 3 0 rfl rfl (by omega) (by omega) ⟨by omega, by omega⟩ dX1_boundBySet_60 ?_
              refine z_iadd X dX1_boundBySet_61 ?_
              refine z_istore_n X [1, 2, 0, 3] [(0, .ref (ad 0)), (1, .int (iZ set)), (2, .int (iZ (a_4 + (u.1 2 i_4)))), (3, .int (iZ i_4))] rfl (Nat.le_of_ble_eq_true rfl) dX1_boundBySet_62 ?_
              refine z_iinc X 3 [1, 2, 3, 0] [(0, .ref (ad 0)), (1, .int (iZ set)), (2, .int (iZ (a_4 + (u.1 2 i_4)))), (3, .int (iZ (i_4 + 1)))] rfl rfl (Nat.le_of_ble_eq_true rfl) dX1_boundBySet_63 ?_
              refine z_goto (tgt := 4) X (by decide) dX1_boundBySet_66 ?_
              exact z_eq rfl (congrArg (fun z : Int => ([(0, .ref (ad 0)), (1, .int (iZ set)), (2, .int (iZ z)), (3, .int (iZ (i_4 + 1)))] : List (Nat × Value))) (show (f_boundS (u.1 2) (u.1 3) set) i_4 a_4 = a_4 + (u.1 2 i_4) from (by simp only [f_boundS, f_boundA] <;> repeat' (first | with_reducible rfl | omega | split)))) hk_4
        · skip
          refine z_iload_n X 2 rfl dX1_boundBySet_27 ?_
          refine z_aload_n X 0 rfl dX1_boundBySet_28 ?_
          refine z_get (v := .ref (ad 3)) X 1 0 2 hiX1 rfl rfl (by decide) ⟨rfl, rfl, rfl⟩ (by decide +kernel) rfl dX1_boundBySet_29 ?_
          refine z_iload_n X 3 rfl dX1_boundBySet_32 ?_
          refine z_iald (g := u.1 2) X 3 0 rfl rfl (by omega) (by omega) ⟨by omega, by omega⟩ dX1_boundBySet_33 ?_
          refine z_isub X dX1_boundBySet_34 ?_
          refine z_istore_n X [1, 2, 0, 3] [(0, .ref (ad 0)), (1, .int (iZ set)), (2, .int (iZ (a_4 - (u.1 2 i_4)))), (3, .int (iZ i_4))] rfl (Nat.le_of_ble_eq_true rfl) dX1_boundBySet_35 ?_
          refine z_aload_n X 0 rfl dX1_boundBySet_36 ?_
          refine z_get (v := .ref (ad 3)) X 1 0 2 hiX1 rfl rfl (by decide) ⟨rfl, rfl, rfl⟩ (by decide +kernel) rfl dX1_boundBySet_37 ?_
          refine z_iload_n X 3 rfl dX1_boundBySet_40 ?_
          refine z_iald (g := u.1 2) X 3 0 rfl rfl (by omega) (by omega) ⟨by omega, by omega⟩ dX1_boundBySet_41 ?_
          refine z_if_le (tgt := 63) X ⟨by omega, by omega⟩ (by decide) dX1_boundBySet_42 (fun c_13 => ?_) (fun c_13 => ?_)
          · skip
            refine z_iinc X 3 [1, 2, 3, 0] [(0, .ref (ad 0)), (1, .int (iZ set)), (2, .int (iZ (a_4 - (u.1 2 i_4)))), (3, .int (iZ (i_4 + 1)))] rfl rfl (Nat.le_of_ble_eq_true rfl) dX1_boundBySet_63 ?_
            refine z_goto (tgt := 4) X (by decide) dX1_boundBySet_66 ?_
            exact z_eq rfl (congrArg (fun z : Int => ([(0, .ref (ad 0)), (1, .int (iZ set)), (2, .int (iZ z)), (3, .int (iZ (i_4 + 1)))] : List (Nat × Value))) (show (f_boundS (u.1 2) (u.1 3) set) i_4 a_4 = a_4 - (u.1 2 i_4) from (by simp only [f_boundS, f_boundA] <;> repeat' (first | with_reducible rfl | omega | split)))) hk_4
          · skip
            refine z_aload_n X 0 rfl dX1_boundBySet_45 ?_
            refine z_iload_n X 3 rfl dX1_boundBySet_46 ?_
            refine z_iload_n X 1 rfl dX1_boundBySet_47 ?_
            refine z_calli X (c_X1_sellsToSet l D ad cI cZ cL u i_4 set (by omega) (by omega) hB) (cwV 2 X.2.2.2.2.1 gX1_boundBySet_X1_sellsToSet rfl rfl rfl (by decide +kernel) ⟨Nat.le_of_ble_eq_true rfl, Nat.le_of_ble_eq_true rfl⟩) rfl [] [] (List.append_nil _).symm 1 0 rfl rfl [] rfl (Nat.le_of_ble_eq_true rfl) dX1_boundBySet_48 ⟨Nat.le_of_ble_eq_true rfl, Nat.le_of_ble_eq_true rfl⟩ (List.append_nil _) ?_
            have r_14 : f_sells (u.1 2) (u.1 3) i_4 set = 0 ∨ f_sells (u.1 2) (u.1 3) i_4 set = 1 := f_sellsL_rg _ _ _ _ 6 0
            refine z_if_eq (tgt := 63) X ⟨by omega, by omega⟩ (by decide) dX1_boundBySet_51 (fun c_15 => ?_) (fun c_15 => ?_)
            · skip
              refine z_iinc X 3 [1, 2, 3, 0] [(0, .ref (ad 0)), (1, .int (iZ set)), (2, .int (iZ (a_4 - (u.1 2 i_4)))), (3, .int (iZ (i_4 + 1)))] rfl rfl (Nat.le_of_ble_eq_true rfl) dX1_boundBySet_63 ?_
              refine z_goto (tgt := 4) X (by decide) dX1_boundBySet_66 ?_
              exact z_eq rfl (congrArg (fun z : Int => ([(0, .ref (ad 0)), (1, .int (iZ set)), (2, .int (iZ z)), (3, .int (iZ (i_4 + 1)))] : List (Nat × Value))) (show (f_boundS (u.1 2) (u.1 3) set) i_4 a_4 = a_4 - (u.1 2 i_4) from (by simp only [f_boundS, f_boundA] <;> repeat' (first | with_reducible rfl | omega | split)))) hk_4
            · skip
              refine z_iload_n X 2 rfl dX1_boundBySet_54 ?_
              refine z_aload_n X 0 rfl dX1_boundBySet_55 ?_
              refine z_get (v := .ref (ad 3)) X 1 0 2 hiX1 rfl rfl (by decide) ⟨rfl, rfl, rfl⟩ (by decide +kernel) rfl dX1_boundBySet_56 ?_
              refine z_iload_n X 3 rfl dX1_boundBySet_59 ?_
              refine z_iald (g := u.1 2) X 3 0 rfl rfl (by omega) (by omega) ⟨by omega, by omega⟩ dX1_boundBySet_60 ?_
              refine z_iadd X dX1_boundBySet_61 ?_
              refine z_istore_n X [1, 2, 0, 3] [(0, .ref (ad 0)), (1, .int (iZ set)), (2, .int (iZ ((a_4 - (u.1 2 i_4)) + (u.1 2 i_4)))), (3, .int (iZ i_4))] rfl (Nat.le_of_ble_eq_true rfl) dX1_boundBySet_62 ?_
              refine z_iinc X 3 [1, 2, 3, 0] [(0, .ref (ad 0)), (1, .int (iZ set)), (2, .int (iZ ((a_4 - (u.1 2 i_4)) + (u.1 2 i_4)))), (3, .int (iZ (i_4 + 1)))] rfl rfl (Nat.le_of_ble_eq_true rfl) dX1_boundBySet_63 ?_
              refine z_goto (tgt := 4) X (by decide) dX1_boundBySet_66 ?_
              exact z_eq rfl (congrArg (fun z : Int => ([(0, .ref (ad 0)), (1, .int (iZ set)), (2, .int (iZ z)), (3, .int (iZ (i_4 + 1)))] : List (Nat × Value))) (show (f_boundS (u.1 2) (u.1 3) set) i_4 a_4 = (a_4 - (u.1 2 i_4)) + (u.1 2 i_4) from (by simp only [f_boundS, f_boundA] <;> repeat' (first | with_reducible rfl | omega | split)))) hk_4
set_option maxHeartbeats 4000000 in
set_option maxRecDepth 100000 in
theorem c_X1_mostTradable (l : Launch) (D : va_G) (ad : Nat → Nat) (cI cZ cL : ClassId) (u : GS) (hB : Bd u) : zMi l D (zT cI cZ cL) yX1_mostTradable wsX1_mostTradable ({ frames := 3, cells := 0, slots := 0, locals := 67 } : Room) (Gw ad cI cZ u) [.ref (ad 0)] (f_most (u.1 2) (u.1 3)) (Gw ad cI cZ u) 0 0 := by
  refine z_mi (cc := cX1_mostTradable) (maxL := 3) (ret := (some .int)) (by decide) rfl (Nat.le_of_ble_eq_true rfl) ?_
  intro p e s m below meth c A X hr hlk hin
  refine z_sub (lv' := [(0, .ref (ad 0))]) [0] rfl ?_
  refine z_aload_n X 0 rfl dX1_mostTradable_0 ?_
  refine z_iconst X dX1_mostTradable_1 ?_
  refine z_calli X (c_X1_boundBySet l D ad cI cZ cL u 0 (by omega) hB) (cwV 1 X.2.2.2.2.1 gX1_mostTradable_X1_boundBySet rfl rfl rfl (by decide +kernel) ⟨Nat.le_of_ble_eq_true rfl, Nat.le_of_ble_eq_true rfl⟩) rfl [] [] (List.append_nil _).symm 1 0 rfl rfl [] rfl (Nat.le_of_ble_eq_true rfl) dX1_mostTradable_2 ⟨Nat.le_of_ble_eq_true rfl, Nat.le_of_ble_eq_true rfl⟩ (List.append_nil _) ?_
  have r_1 : 0 ≤ f_bound (u.1 2) (u.1 3) 0 ∧ f_bound (u.1 2) (u.1 3) 0 ≤ 6000 := f_boundk _ _ _ (fun i => hB 2 rfl i) 6 (by omega)
  refine z_istore_n X [1, 0] [(0, .ref (ad 0)), (1, .int (iZ (f_bound (u.1 2) (u.1 3) 0)))] rfl (Nat.le_of_ble_eq_true rfl) dX1_mostTradable_5 ?_
  refine z_iconst X dX1_mostTradable_6 ?_
  refine z_istore_n X [1, 2, 0] [(0, .ref (ad 0)), (1, .int (iZ (f_bound (u.1 2) (u.1 3) 0))), (2, .int (iZ 1))] rfl (Nat.le_of_ble_eq_true rfl) dX1_mostTradable_7 ?_
  refine zfor_ind 63 63 (rfl) (f_mostS (u.1 2) (u.1 3)) (f_bound (u.1 2) (u.1 3) 0) (fun (i_8 : Int) (a_8 : Int) => zW p l e ({ frames := 3, cells := 0, slots := 0, locals := 67 } : Room) s m ([.ref (ad 0)] : List Value).toArray below meth c 3 D A 0 0 (MQ below (zPi D (zT cI cZ cL) (Gw ad cI cZ u) (f_most (u.1 2) (u.1 3)) A) ([.ref (ad 0)] : List Value).toArray s 0 0 A) (Gw ad cI cZ u) 8 [(0, .ref (ad 0)), (1, .int (iZ a_8)), (2, .int (iZ (i_8 + 1)))] []) ?_ ?_
  · intro a_8 ha_8
    have hv_8 := f_mostk (u.1 2) (u.1 3) (fun i => hB 2 rfl i) 63
    rw [← ha_8] at hv_8
    refine z_iload_n X 2 rfl dX1_mostTradable_8 ?_
    refine z_bipush X (by decide) dX1_mostTradable_9 ?_
    refine z_icmp_ge (tgt := 30) X ⟨by omega, by omega⟩ ⟨by omega, by omega⟩ (by decide) dX1_mostTradable_11 (fun c_2 => ?_) (fun c_2 => ?_)
    · skip
      refine z_iload_n X 1 rfl dX1_mostTradable_30 ?_
      exact z_iret X hr hlk ha_8 rfl dX1_mostTradable_31
    · exact absurd c_2 (by omega)
  · intro i_8 k_8 a_8 hi_8 h0i_8 h1i_8 ha_8 hk_8
    have hv_8 := f_mostk (u.1 2) (u.1 3) (fun i => hB 2 rfl i) k_8
    rw [← ha_8] at hv_8
    refine z_iload_n X 2 rfl dX1_mostTradable_8 ?_
    refine z_bipush X (by decide) dX1_mostTradable_9 ?_
    refine z_icmp_ge (tgt := 30) X ⟨by omega, by omega⟩ ⟨by omega, by omega⟩ (by decide) dX1_mostTradable_11 (fun c_3 => ?_) (fun c_3 => ?_)
    · exact absurd c_3 (by omega)
    · skip
      refine z_iload_n X 1 rfl dX1_mostTradable_14 ?_
      refine z_aload_n X 0 rfl dX1_mostTradable_15 ?_
      refine z_iload_n X 2 rfl dX1_mostTradable_16 ?_
      refine z_calli X (c_X1_boundBySet l D ad cI cZ cL u (i_8 + 1) (by omega) hB) (cwV 1 X.2.2.2.2.1 gX1_mostTradable_X1_boundBySet rfl rfl rfl (by decide +kernel) ⟨Nat.le_of_ble_eq_true rfl, Nat.le_of_ble_eq_true rfl⟩) rfl [] [] (List.append_nil _).symm 1 0 rfl rfl [.int (iZ a_8)] rfl (Nat.le_of_ble_eq_true rfl) dX1_mostTradable_17 ⟨Nat.le_of_ble_eq_true rfl, Nat.le_of_ble_eq_true rfl⟩ (List.append_nil _) ?_
      have r_4 : 0 ≤ f_bound (u.1 2) (u.1 3) (i_8 + 1) ∧ f_bound (u.1 2) (u.1 3) (i_8 + 1) ≤ 6000 := f_boundk _ _ _ (fun i => hB 2 rfl i) 6 (by omega)
      refine z_min X ⟨by omega, by omega⟩ ⟨by omega, by omega⟩ (by decide +kernel) (by decide +kernel) (by decide +kernel) (by decide +kernel) ⟨Nat.le_of_ble_eq_true rfl, Nat.le_of_ble_eq_true rfl, Nat.le_of_ble_eq_true rfl, Nat.le_of_ble_eq_true rfl⟩ dX1_mostTradable_20 ?_
      have m_5 := zmin_sp a_8 (f_bound (u.1 2) (u.1 3) (i_8 + 1))
      refine z_istore_n X [1, 0, 2] [(0, .ref (ad 0)), (1, .int (iZ (zmin a_8 (f_bound (u.1 2) (u.1 3) (i_8 + 1))))), (2, .int (iZ (i_8 + 1)))] rfl (Nat.le_of_ble_eq_true rfl) dX1_mostTradable_23 ?_
      refine z_iinc X 2 [1, 2, 0] [(0, .ref (ad 0)), (1, .int (iZ (zmin a_8 (f_bound (u.1 2) (u.1 3) (i_8 + 1))))), (2, .int (iZ (i_8 + 1 + 1)))] rfl rfl (Nat.le_of_ble_eq_true rfl) dX1_mostTradable_24 ?_
      refine z_goto (tgt := 8) X (by decide) dX1_mostTradable_27 ?_
      exact z_eq rfl (congrArg (fun z : Int => ([(0, .ref (ad 0)), (1, .int (iZ z)), (2, .int (iZ (i_8 + 1 + 1)))] : List (Nat × Value))) (show (f_mostS (u.1 2) (u.1 3)) i_8 a_8 = zmin a_8 (f_bound (u.1 2) (u.1 3) (i_8 + 1)) from rfl)) hk_8
