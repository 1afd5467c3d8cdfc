set_option maxHeartbeats 4000000 in
set_option maxRecDepth 100000 in
theorem L_forecast_0 (l : Launch) (hl : l.stackTraces = false) (D : va_G) (ad : Nat → Nat) (cI cZ cL : ClassId) (ao : Nat) (lf : Nat → Int64) (u : GS) (h x : Int) (h0 : 0 ≤ h ∧ h ≤ 5) (h1 : -50 ≤ x ∧ x ≤ 50) (hB : Bd u) (hm : ¬ u.1 0 h = 0) : zMi l D (zT cI cZ cL) yL_forecast wsL_forecast ({ frames := 8, cells := 1, slots := 6, locals := 127 } : Room) (Gw ad cI cZ u ++ Ow ao cL lf) [.ref (ad 0), .int (iZ h), .int (iZ x), .ref (ao)] 0 (Gw ad cI cZ (gA u 1 h x) ++ Ow ao cL (vp_updL lf (iZ 0).toNatClampNeg ((iZ (u.1 1 h)).toInt64))) 1 6 := by
  refine z_miW (cc := cL_forecast) (maxL := 5) (ret := some .int) (hh := [(0, 10, 13, 13), (0, 10, 17, 15), (0, 10, 21, 17)]) (by decide) rfl (Nat.le_of_ble_eq_true rfl) ?_
  intro p e s m below meth c A X hr9 hlk htb
  refine z_sub (lv' := [(0, .ref (ad 0)), (1, .int (iZ h)), (2, .int (iZ x)), (3, .ref (ao))]) [0, 1, 2, 3] rfl ?_
  refine z_aload_n X 3 rfl dL_forecast_0 ?_
  refine z_iconst X dL_forecast_1 ?_
  refine z_aload_n X 0 rfl dL_forecast_2 ?_
  refine z_iload_n X 1 rfl dL_forecast_3 ?_
  refine z_iload_n X 2 rfl dL_forecast_4 ?_
  refine z_calli X (c_X1_forecast l D ad cI cZ cL u h x h0 h1 hB hm) (cwV 2 X.2.2.2.2.1 gL_forecast_X1_forecast rfl rfl rfl (by decide +kernel) ⟨Nat.le_of_ble_eq_true rfl, Nat.le_of_ble_eq_true rfl⟩) rfl [] (Ow ao cL lf) rfl 1 0 rfl rfl [.int (iZ 0), .ref (ao)] rfl (Nat.le_of_ble_eq_true rfl) dL_forecast_5 ⟨Nat.le_of_ble_eq_true rfl, Nat.le_of_ble_eq_true rfl⟩ rfl ?_
  refine z_i2l X dL_forecast_8 ?_
  refine z_last X 18 2 (Gw ad cI cZ (gA u 1 h x) ++ Ow ao cL (vp_updL lf (iZ 0).toNatClampNeg ((iZ (u.1 1 h)).toInt64))) rfl rfl (by omega) (by omega) ⟨by omega, by omega⟩ rfl dL_forecast_9 ?_
  refine z_goto (tgt := 25) X (by decide) dL_forecast_10 ?_
  refine z_iconst X dL_forecast_25 ?_
  refine z_widen (k := 1) (n := 6) (Nat.le_of_ble_eq_true rfl) (Nat.le_of_ble_eq_true rfl) ?_
  exact z_iret X hr9 hlk rfl rfl dL_forecast_26
set_option maxHeartbeats 4000000 in
set_option maxRecDepth 100000 in
theorem L_forecast_1 (l : Launch) (hl : l.stackTraces = false) (D : va_G) (ad : Nat → Nat) (cI cZ cL : ClassId) (ao : Nat) (lf : Nat → Int64) (u : GS) (h x : Int) (hz : zB h) (hz2 : zB x) (h0 : ¬ (0 ≤ h ∧ h ≤ 5)) : zMi l D (zT cI cZ cL) yL_forecast wsL_forecast ({ frames := 8, cells := 1, slots := 6, locals := 127 } : Room) (Gw ad cI cZ u ++ Ow ao cL lf) [.ref (ad 0), .int (iZ h), .int (iZ x), .ref (ao)] 1 (Gw ad cI cZ u ++ Ow ao cL lf) 1 6 := by
  refine z_miW (cc := cL_forecast) (maxL := 5) (ret := some .int) (hh := [(0, 10, 13, 13), (0, 10, 17, 15), (0, 10, 21, 17)]) (by decide) rfl (Nat.le_of_ble_eq_true rfl) ?_
  intro p e s m below meth c A X hr9 hlk htb
  refine z_sub (lv' := [(0, .ref (ad 0)), (1, .int (iZ h)), (2, .int (iZ x)), (3, .ref (ao))]) [0, 1, 2, 3] rfl ?_
  refine z_aload_n X 3 rfl dL_forecast_0 ?_
  refine z_iconst X dL_forecast_1 ?_
  refine z_aload_n X 0 rfl dL_forecast_2 ?_
  refine z_iload_n X 1 rfl dL_forecast_3 ?_
  refine z_iload_n X 2 rfl dL_forecast_4 ?_
  refine z_callxi X (x_X1_forecast_1 l hl D ad cI cZ cL u h x hz hz2 h0) (cwV 2 X.2.2.2.2.1 gL_forecast_X1_forecast rfl rfl rfl (by decide +kernel) ⟨Nat.le_of_ble_eq_true rfl, Nat.le_of_ble_eq_true rfl⟩) rfl [] (Ow ao cL lf) rfl 1 0 rfl rfl [.int (iZ 0), .ref (ao)] rfl (Nat.le_of_ble_eq_true rfl) dL_forecast_5 ⟨Nat.le_of_ble_eq_true rfl, Nat.le_of_ble_eq_true rfl⟩ ?_
  refine z_xcatch X (name := "java/lang/IndexOutOfBoundsException") [] { startPc := 0, endPc := 10, handlerPc := 13, catchType := 13 } [{ startPc := 0, endPc := 10, handlerPc := 17, catchType := 15 }, { startPc := 0, endPc := 10, handlerPc := 21, catchType := 17 }] (htb.trans rfl) (fun _ h => absurd h List.not_mem_nil) (by decide) (by decide) (by decide +kernel) X.2.2.2.2.2.2.2.1.c0 (fun q => ?_)
  refine z_astore X [1, 2, 3, 4, 0] [(0, .ref (ad 0)), (1, .int (iZ h)), (2, .int (iZ x)), (3, .ref (ao)), (4, .ref (q))] rfl (Nat.le_of_ble_eq_true rfl) dL_forecast_13 ?_
  refine z_iconst X dL_forecast_15 ?_
  refine z_widen (k := 1) (n := 6) (Nat.le_of_ble_eq_true rfl) (Nat.le_of_ble_eq_true rfl) ?_
  exact z_iret X hr9 hlk rfl rfl dL_forecast_16
set_option maxHeartbeats 4000000 in
set_option maxRecDepth 100000 in
theorem L_forecast_2 (l : Launch) (hl : l.stackTraces = false) (D : va_G) (ad : Nat → Nat) (cI cZ cL : ClassId) (ao : Nat) (lf : Nat → Int64) (u : GS) (h x : Int) (hz : zB h) (hz2 : zB x) (h0 : 0 ≤ h ∧ h ≤ 5) (h1 : ¬ (-50 ≤ x ∧ x ≤ 50)) : zMi l D (zT cI cZ cL) yL_forecast wsL_forecast ({ frames := 8, cells := 1, slots := 6, locals := 127 } : Room) (Gw ad cI cZ u ++ Ow ao cL lf) [.ref (ad 0), .int (iZ h), .int (iZ x), .ref (ao)] 2 (Gw ad cI cZ u ++ Ow ao cL lf) 1 6 := by
  refine z_miW (cc := cL_forecast) (maxL := 5) (ret := some .int) (hh := [(0, 10, 13, 13), (0, 10, 17, 15), (0, 10, 21, 17)]) (by decide) rfl (Nat.le_of_ble_eq_true rfl) ?_
  intro p e s m below meth c A X hr9 hlk htb
  refine z_sub (lv' := [(0, .ref (ad 0)), (1, .int (iZ h)), (2, .int (iZ x)), (3, .ref (ao))]) [0, 1, 2, 3] rfl ?_
  refine z_aload_n X 3 rfl dL_forecast_0 ?_
  refine z_iconst X dL_forecast_1 ?_
  refine z_aload_n X 0 rfl dL_forecast_2 ?_
  refine z_iload_n X 1 rfl dL_forecast_3 ?_
  refine z_iload_n X 2 rfl dL_forecast_4 ?_
  refine z_callxi X (x_X1_forecast_2 l hl D ad cI cZ cL u h x hz hz2 h0 h1) (cwV 2 X.2.2.2.2.1 gL_forecast_X1_forecast rfl rfl rfl (by decide +kernel) ⟨Nat.le_of_ble_eq_true rfl, Nat.le_of_ble_eq_true rfl⟩) rfl [] (Ow ao cL lf) rfl 1 0 rfl rfl [.int (iZ 0), .ref (ao)] rfl (Nat.le_of_ble_eq_true rfl) dL_forecast_5 ⟨Nat.le_of_ble_eq_true rfl, Nat.le_of_ble_eq_true rfl⟩ ?_
  refine z_xcatch X (name := "java/lang/IllegalArgumentException") [{ startPc := 0, endPc := 10, handlerPc := 13, catchType := 13 }] { startPc := 0, endPc := 10, handlerPc := 17, catchType := 15 } [{ startPc := 0, endPc := 10, handlerPc := 21, catchType := 17 }] (htb.trans rfl) (List.forall_mem_cons.mpr ⟨⟨by decide, "java/lang/IndexOutOfBoundsException", by decide +kernel, X.2.2.2.2.2.2.2.1.n10⟩, (fun _ h => absurd h List.not_mem_nil)⟩) (by decide) (by decide) (by decide +kernel) X.2.2.2.2.2.2.2.1.c1 (fun q => ?_)
  refine z_astore X [1, 2, 3, 4, 0] [(0, .ref (ad 0)), (1, .int (iZ h)), (2, .int (iZ x)), (3, .ref (ao)), (4, .ref (q))] rfl (Nat.le_of_ble_eq_true rfl) dL_forecast_17 ?_
  refine z_iconst X dL_forecast_19 ?_
  refine z_widen (k := 1) (n := 6) (Nat.le_of_ble_eq_true rfl) (Nat.le_of_ble_eq_true rfl) ?_
  exact z_iret X hr9 hlk rfl rfl dL_forecast_20
set_option maxHeartbeats 4000000 in
set_option maxRecDepth 100000 in
theorem L_forecast_3 (l : Launch) (hl : l.stackTraces = false) (D : va_G) (ad : Nat → Nat) (cI cZ cL : ClassId) (ao : Nat) (lf : Nat → Int64) (u : GS) (h x : Int) (hz : zB h) (hz2 : zB x) (h0 : 0 ≤ h ∧ h ≤ 5) (h1 : -50 ≤ x ∧ x ≤ 50) (hB : Bd u) (hm : u.1 0 h = 0) : zMi l D (zT cI cZ cL) yL_forecast wsL_forecast ({ frames := 8, cells := 1, slots := 6, locals := 127 } : Room) (Gw ad cI cZ u ++ Ow ao cL lf) [.ref (ad 0), .int (iZ h), .int (iZ x), .ref (ao)] 3 (Gw ad cI cZ u ++ Ow ao cL lf) 1 6 := by
  refine z_miW (cc := cL_forecast) (maxL := 5) (ret := some .int) (hh := [(0, 10, 13, 13), (0, 10, 17, 15), (0, 10, 21, 17)]) (by decide) rfl (Nat.le_of_ble_eq_true rfl) ?_
  intro p e s m below meth c A X hr9 hlk htb
  refine z_sub (lv' := [(0, .ref (ad 0)), (1, .int (iZ h)), (2, .int (iZ x)), (3, .ref (ao))]) [0, 1, 2, 3] rfl ?_
  refine z_aload_n X 3 rfl dL_forecast_0 ?_
  refine z_iconst X dL_forecast_1 ?_
  refine z_aload_n X 0 rfl dL_forecast_2 ?_
  refine z_iload_n X 1 rfl dL_forecast_3 ?_
  refine z_iload_n X 2 rfl dL_forecast_4 ?_
  refine z_callxi X (x_X1_forecast_3 l hl D ad cI cZ cL u h x hz hz2 h0 h1 hB hm) (cwV 2 X.2.2.2.2.1 gL_forecast_X1_forecast rfl rfl rfl (by decide +kernel) ⟨Nat.le_of_ble_eq_true rfl, Nat.le_of_ble_eq_true rfl⟩) rfl [] (Ow ao cL lf) rfl 1 0 rfl rfl [.int (iZ 0), .ref (ao)] rfl (Nat.le_of_ble_eq_true rfl) dL_forecast_5 ⟨Nat.le_of_ble_eq_true rfl, Nat.le_of_ble_eq_true rfl⟩ ?_
  refine z_xcatch X (name := "java/lang/IllegalStateException") [{ startPc := 0, endPc := 10, handlerPc := 13, catchType := 13 }, { startPc := 0, endPc := 10, handlerPc := 17, catchType := 15 }] { startPc := 0, endPc := 10, handlerPc := 21, catchType := 17 } [] (htb.trans rfl) (List.forall_mem_cons.mpr ⟨⟨by decide, "java/lang/IndexOutOfBoundsException", by decide +kernel, X.2.2.2.2.2.2.2.1.n20⟩, (List.forall_mem_cons.mpr ⟨⟨by decide, "java/lang/IllegalArgumentException", by decide +kernel, X.2.2.2.2.2.2.2.1.n21⟩, (fun _ h => absurd h List.not_mem_nil)⟩)⟩) (by decide) (by decide) (by decide +kernel) X.2.2.2.2.2.2.2.1.c2 (fun q => ?_)
  refine z_astore X [1, 2, 3, 4, 0] [(0, .ref (ad 0)), (1, .int (iZ h)), (2, .int (iZ x)), (3, .ref (ao)), (4, .ref (q))] rfl (Nat.le_of_ble_eq_true rfl) dL_forecast_21 ?_
  refine z_iconst X dL_forecast_23 ?_
  refine z_widen (k := 1) (n := 6) (Nat.le_of_ble_eq_true rfl) (Nat.le_of_ble_eq_true rfl) ?_
  exact z_iret X hr9 hlk rfl rfl dL_forecast_24
set_option maxHeartbeats 4000000 in
set_option maxRecDepth 100000 in
theorem L_meter_0 (l : Launch) (hl : l.stackTraces = false) (D : va_G) (ad : Nat → Nat) (cI cZ cL : ClassId) (ao : Nat) (lf : Nat → Int64) (u : GS) (h x : Int) (h0 : 0 ≤ h ∧ h ≤ 5) (h1 : -50 ≤ x ∧ x ≤ 50) (hB : Bd u) (hm : ¬ u.1 0 h = 0) : zMi l D (zT cI cZ cL) yL_meter wsL_meter ({ frames := 8, cells := 1, slots := 6, locals := 127 } : Room) (Gw ad cI cZ u ++ Ow ao cL lf) [.ref (ad 0), .int (iZ h), .int (iZ x), .ref (ao)] 0 (Gw ad cI cZ (gA u 2 h x) ++ Ow ao cL (vp_updL lf (iZ 0).toNatClampNeg ((iZ (u.1 2 h)).toInt64))) 1 6 := by
  refine z_miW (cc := cL_meter) (maxL := 5) (ret := some .int) (hh := [(0, 10, 13, 13), (0, 10, 17, 15), (0, 10, 21, 17)]) (by decide) rfl (Nat.le_of_ble_eq_true rfl) ?_
  intro p e s m below meth c A X hr9 hlk htb
  refine z_sub (lv' := [(0, .ref (ad 0)), (1, .int (iZ h)), (2, .int (iZ x)), (3, .ref (ao))]) [0, 1, 2, 3] rfl ?_
  refine z_aload_n X 3 rfl dL_meter_0 ?_
  refine z_iconst X dL_meter_1 ?_
  refine z_aload_n X 0 rfl dL_meter_2 ?_
  refine z_iload_n X 1 rfl dL_meter_3 ?_
  refine z_iload_n X 2 rfl dL_meter_4 ?_
  refine z_calli X (c_X1_meter l D ad cI cZ cL u h x h0 h1 hB hm) (cwV 2 X.2.2.2.2.1 gL_meter_X1_meter rfl rfl rfl (by decide +kernel) ⟨Nat.le_of_ble_eq_true rfl, Nat.le_of_ble_eq_true rfl⟩) rfl [] (Ow ao cL lf) rfl 1 0 rfl rfl [.int (iZ 0), .ref (ao)] rfl (Nat.le_of_ble_eq_true rfl) dL_meter_5 ⟨Nat.le_of_ble_eq_true rfl, Nat.le_of_ble_eq_true rfl⟩ rfl ?_
  refine z_i2l X dL_meter_8 ?_
  refine z_last X 18 2 (Gw ad cI cZ (gA u 2 h x) ++ Ow ao cL (vp_updL lf (iZ 0).toNatClampNeg ((iZ (u.1 2 h)).toInt64))) rfl rfl (by omega) (by omega) ⟨by omega, by omega⟩ rfl dL_meter_9 ?_
  refine z_goto (tgt := 25) X (by decide) dL_meter_10 ?_
  refine z_iconst X dL_meter_25 ?_
  refine z_widen (k := 1) (n := 6) (Nat.le_of_ble_eq_true rfl) (Nat.le_of_ble_eq_true rfl) ?_
  exact z_iret X hr9 hlk rfl rfl dL_meter_26
set_option maxHeartbeats 4000000 in
set_option maxRecDepth 100000 in
theorem L_meter_1 (l : Launch) (hl : l.stackTraces = false) (D : va_G) (ad : Nat → Nat) (cI cZ cL : ClassId) (ao : Nat) (lf : Nat → Int64) (u : GS) (h x : Int) (hz : zB h) (hz2 : zB x) (h0 : ¬ (0 ≤ h ∧ h ≤ 5)) : zMi l D (zT cI cZ cL) yL_meter wsL_meter ({ frames := 8, cells := 1, slots := 6, locals := 127 } : Room) (Gw ad cI cZ u ++ Ow ao cL lf) [.ref (ad 0), .int (iZ h), .int (iZ x), .ref (ao)] 1 (Gw ad cI cZ u ++ Ow ao cL lf) 1 6 := by
  refine z_miW (cc := cL_meter) (maxL := 5) (ret := some .int) (hh := [(0, 10, 13, 13), (0, 10, 17, 15), (0, 10, 21, 17)]) (by decide) rfl (Nat.le_of_ble_eq_true rfl) ?_
  intro p e s m below meth c A X hr9 hlk htb
  refine z_sub (lv' := [(0, .ref (ad 0)), (1, .int (iZ h)), (2, .int (iZ x)), (3, .ref (ao))]) [0, 1, 2, 3] rfl ?_
  refine z_aload_n X 3 rfl dL_meter_0 ?_
  refine z_iconst X dL_meter_1 ?_
  refine z_aload_n X 0 rfl dL_meter_2 ?_
  refine z_iload_n X 1 rfl dL_meter_3 ?_
  refine z_iload_n X 2 rfl dL_meter_4 ?_
  refine z_callxi X (x_X1_meter_1 l hl D ad cI cZ cL u h x hz hz2 h0) (cwV 2 X.2.2.2.2.1 gL_meter_X1_meter rfl rfl rfl (by decide +kernel) ⟨Nat.le_of_ble_eq_true rfl, Nat.le_of_ble_eq_true rfl⟩) rfl [] (Ow ao cL lf) rfl 1 0 rfl rfl [.int (iZ 0), .ref (ao)] rfl (Nat.le_of_ble_eq_true rfl) dL_meter_5 ⟨Nat.le_of_ble_eq_true rfl, Nat.le_of_ble_eq_true rfl⟩ ?_
  refine z_xcatch X (name := "java/lang/IndexOutOfBoundsException") [] { startPc := 0, endPc := 10, handlerPc := 13, catchType := 13 } [{ startPc := 0, endPc := 10, handlerPc := 17, catchType := 15 }, { startPc := 0, endPc := 10, handlerPc := 21, catchType := 17 }] (htb.trans rfl) (fun _ h => absurd h List.not_mem_nil) (by decide) (by decide) (by decide +kernel) X.2.2.2.2.2.2.2.1.c0 (fun q => ?_)
  refine z_astore X [1, 2, 3, 4, 0] [(0, .ref (ad 0)), (1, .int (iZ h)), (2, .int (iZ x)), (3, .ref (ao)), (4, .ref (q))] rfl (Nat.le_of_ble_eq_true rfl) dL_meter_13 ?_
  refine z_iconst X dL_meter_15 ?_
  refine z_widen (k := 1) (n := 6) (Nat.le_of_ble_eq_true rfl) (Nat.le_of_ble_eq_true rfl) ?_
  exact z_iret X hr9 hlk rfl rfl dL_meter_16
set_option maxHeartbeats 4000000 in
set_option maxRecDepth 100000 in
theorem L_meter_2 (l : Launch) (hl : l.stackTraces = false) (D : va_G) (ad : Nat → Nat) (cI cZ cL : ClassId) (ao : Nat) (lf : Nat → Int64) (u : GS) (h x : Int) (hz : zB h) (hz2 : zB x) (h0 : 0 ≤ h ∧ h ≤ 5) (h1 : ¬ (-50 ≤ x ∧ x ≤ 50)) : zMi l D (zT cI cZ cL) yL_meter wsL_meter ({ frames := 8, cells := 1, slots := 6, locals := 127 } : Room) (Gw ad cI cZ u ++ Ow ao cL lf) [.ref (ad 0), .int (iZ h), .int (iZ x), .ref (ao)] 2 (Gw ad cI cZ u ++ Ow ao cL lf) 1 6 := by
  refine z_miW (cc := cL_meter) (maxL := 5) (ret := some .int) (hh := [(0, 10, 13, 13), (0, 10, 17, 15), (0, 10, 21, 17)]) (by decide) rfl (Nat.le_of_ble_eq_true rfl) ?_
  intro p e s m below meth c A X hr9 hlk htb
  refine z_sub (lv' := [(0, .ref (ad 0)), (1, .int (iZ h)), (2, .int (iZ x)), (3, .ref (ao))]) [0, 1, 2, 3] rfl ?_
  refine z_aload_n X 3 rfl dL_meter_0 ?_
  refine z_iconst X dL_meter_1 ?_
  refine z_aload_n X 0 rfl dL_meter_2 ?_
  refine z_iload_n X 1 rfl dL_meter_3 ?_
  refine z_iload_n X 2 rfl dL_meter_4 ?_
  refine z_callxi X (x_X1_meter_2 l hl D ad cI cZ cL u h x hz hz2 h0 h1) (cwV 2 X.2.2.2.2.1 gL_meter_X1_meter rfl rfl rfl (by decide +kernel) ⟨Nat.le_of_ble_eq_true rfl, Nat.le_of_ble_eq_true rfl⟩) rfl [] (Ow ao cL lf) rfl 1 0 rfl rfl [.int (iZ 0), .ref (ao)] rfl (Nat.le_of_ble_eq_true rfl) dL_meter_5 ⟨Nat.le_of_ble_eq_true rfl, Nat.le_of_ble_eq_true rfl⟩ ?_
  refine z_xcatch X (name := "java/lang/IllegalArgumentException") [{ startPc := 0, endPc := 10, handlerPc := 13, catchType := 13 }] { startPc := 0, endPc := 10, handlerPc := 17, catchType := 15 } [{ startPc := 0, endPc := 10, handlerPc := 21, catchType := 17 }] (htb.trans rfl) (List.forall_mem_cons.mpr ⟨⟨by decide, "java/lang/IndexOutOfBoundsException", by decide +kernel, X.2.2.2.2.2.2.2.1.n10⟩, (fun _ h => absurd h List.not_mem_nil)⟩) (by decide) (by decide) (by decide +kernel) X.2.2.2.2.2.2.2.1.c1 (fun q => ?_)
  refine z_astore X [1, 2, 3, 4, 0] [(0, .ref (ad 0)), (1, .int (iZ h)), (2, .int (iZ x)), (3, .ref (ao)), (4, .ref (q))] rfl (Nat.le_of_ble_eq_true rfl) dL_meter_17 ?_
  refine z_iconst X dL_meter_19 ?_
  refine z_widen (k := 1) (n := 6) (Nat.le_of_ble_eq_true rfl) (Nat.le_of_ble_eq_true rfl) ?_
  exact z_iret X hr9 hlk rfl rfl dL_meter_20
set_option maxHeartbeats 4000000 in
set_option maxRecDepth 100000 in
theorem L_meter_3 (l : Launch) (hl : l.stackTraces = false) (D : va_G) (ad : Nat → Nat) (cI cZ cL : ClassId) (ao : Nat) (lf : Nat → Int64) (u : GS) (h x : Int) (hz : zB h) (hz2 : zB x) (h0 : 0 ≤ h ∧ h ≤ 5) (h1 : -50 ≤ x ∧ x ≤ 50) (hB : Bd u) (hm : u.1 0 h = 0) : zMi l D (zT cI cZ cL) yL_meter wsL_meter ({ frames := 8, cells := 1, slots := 6, locals := 127 } : Room) (Gw ad cI cZ u ++ Ow ao cL lf) [.ref (ad 0), .int (iZ h), .int (iZ x), .ref (ao)] 3 (Gw ad cI cZ u ++ Ow ao cL lf) 1 6 := by
  refine z_miW (cc := cL_meter) (maxL := 5) (ret := some .int) (hh := [(0, 10, 13, 13), (0, 10, 17, 15), (0, 10, 21, 17)]) (by decide) rfl (Nat.le_of_ble_eq_true rfl) ?_
  intro p e s m below meth c A X hr9 hlk htb
  refine z_sub (lv' := [(0, .ref (ad 0)), (1, .int (iZ h)), (2, .int (iZ x)), (3, .ref (ao))]) [0, 1, 2, 3] rfl ?_
  refine z_aload_n X 3 rfl dL_meter_0 ?_
  refine z_iconst X dL_meter_1 ?_
  refine z_aload_n X 0 rfl dL_meter_2 ?_
  refine z_iload_n X 1 rfl dL_meter_3 ?_
  refine z_iload_n X 2 rfl dL_meter_4 ?_
  refine z_callxi X (x_X1_meter_3 l hl D ad cI cZ cL u h x hz hz2 h0 h1 hB hm) (cwV 2 X.2.2.2.2.1 gL_meter_X1_meter rfl rfl rfl (by decide +kernel) ⟨Nat.le_of_ble_eq_true rfl, Nat.le_of_ble_eq_true rfl⟩) rfl [] (Ow ao cL lf) rfl 1 0 rfl rfl [.int (iZ 0), .ref (ao)] rfl (Nat.le_of_ble_eq_true rfl) dL_meter_5 ⟨Nat.le_of_ble_eq_true rfl, Nat.le_of_ble_eq_true rfl⟩ ?_
  refine z_xcatch X (name := "java/lang/IllegalStateException") [{ startPc := 0, endPc := 10, handlerPc := 13, catchType := 13 }, { startPc := 0, endPc := 10, handlerPc := 17, catchType := 15 }] { startPc := 0, endPc := 10, handlerPc := 21, catchType := 17 } [] (htb.trans rfl) (List.forall_mem_cons.mpr ⟨⟨by decide, "java/lang/IndexOutOfBoundsException", by decide +kernel, X.2.2.2.2.2.2.2.1.n20⟩, (List.forall_mem_cons.mpr ⟨⟨by decide, "java/lang/IllegalArgumentException", by decide +kernel, X.2.2.2.2.2.2.2.1.n21⟩, (fun _ h => absurd h List.not_mem_nil)⟩)⟩) (by decide) (by decide) (by decide +kernel) X.2.2.2.2.2.2.2.1.c2 (fun q => ?_)
  refine z_astore X [1, 2, 3, 4, 0] [(0, .ref (ad 0)), (1, .int (iZ h)), (2, .int (iZ x)), (3, .ref (ao)), (4, .ref (q))] rfl (Nat.le_of_ble_eq_true rfl) dL_meter_21 ?_
  refine z_iconst X dL_meter_23 ?_
  refine z_widen (k := 1) (n := 6) (Nat.le_of_ble_eq_true rfl) (Nat.le_of_ble_eq_true rfl) ?_
  exact z_iret X hr9 hlk rfl rfl dL_meter_24
set_option maxHeartbeats 4000000 in
set_option maxRecDepth 100000 in
theorem L_setPrice_0 (l : Launch) (hl : l.stackTraces = false) (D : va_G) (ad : Nat → Nat) (cI cZ cL : ClassId) (ao : Nat) (lf : Nat → Int64) (u : GS) (h x : Int) (h0 : 0 ≤ h ∧ h ≤ 5) (h1 : 0 ≤ x ∧ x ≤ 100) : zMi l D (zT cI cZ cL) yL_setPrice wsL_setPrice ({ frames := 8, cells := 1, slots := 6, locals := 127 } : Room) (Gw ad cI cZ u ++ Ow ao cL lf) [.ref (ad 0), .int (iZ h), .int (iZ x), .ref (ao)] 0 (Gw ad cI cZ (gA u 3 h x) ++ Ow ao cL (vp_updL lf (iZ 0).toNatClampNeg ((iZ (u.1 3 h)).toInt64))) 1 6 := by
  refine z_miW (cc := cL_setPrice) (maxL := 5) (ret := some .int) (hh := [(0, 10, 13, 13), (0, 10, 17, 15)]) (by decide) rfl (Nat.le_of_ble_eq_true rfl) ?_
  intro p e s m below meth c A X hr9 hlk htb
  refine z_sub (lv' := [(0, .ref (ad 0)), (1, .int (iZ h)), (2, .int (iZ x)), (3, .ref (ao))]) [0, 1, 2, 3] rfl ?_
  refine z_aload_n X 3 rfl dL_setPrice_0 ?_
  refine z_iconst X dL_setPrice_1 ?_
  refine z_aload_n X 0 rfl dL_setPrice_2 ?_
  refine z_iload_n X 1 rfl dL_setPrice_3 ?_
  refine z_iload_n X 2 rfl dL_setPrice_4 ?_
  refine z_calli X (c_X1_setPrice l D ad cI cZ cL u h x h0 h1) (cwV 2 X.2.2.2.2.1 gL_setPrice_X1_setPrice rfl rfl rfl (by decide +kernel) ⟨Nat.le_of_ble_eq_true rfl, Nat.le_of_ble_eq_true rfl⟩) rfl [] (Ow ao cL lf) rfl 1 0 rfl rfl [.int (iZ 0), .ref (ao)] rfl (Nat.le_of_ble_eq_true rfl) dL_setPrice_5 ⟨Nat.le_of_ble_eq_true rfl, Nat.le_of_ble_eq_true rfl⟩ rfl ?_
  refine z_i2l X dL_setPrice_8 ?_
  refine z_last X 18 2 (Gw ad cI cZ (gA u 3 h x) ++ Ow ao cL (vp_updL lf (iZ 0).toNatClampNeg ((iZ (u.1 3 h)).toInt64))) rfl rfl (by omega) (by omega) ⟨by omega, by omega⟩ rfl dL_setPrice_9 ?_
  refine z_goto (tgt := 21) X (by decide) dL_setPrice_10 ?_
  refine z_iconst X dL_setPrice_21 ?_
  refine z_widen (k := 1) (n := 6) (Nat.le_of_ble_eq_true rfl) (Nat.le_of_ble_eq_true rfl) ?_
  exact z_iret X hr9 hlk rfl rfl dL_setPrice_22
set_option maxHeartbeats 4000000 in
set_option maxRecDepth 100000 in
theorem L_setPrice_1 (l : Launch) (hl : l.stackTraces = false) (D : va_G) (ad : Nat → Nat) (cI cZ cL : ClassId) (ao : Nat) (lf : Nat → Int64) (u : GS) (h x : Int) (hz : zB h) (hz2 : zB x) (h0 : ¬ (0 ≤ h ∧ h ≤ 5)) : zMi l D (zT cI cZ cL) yL_setPrice wsL_setPrice ({ frames := 8, cells := 1, slots := 6, locals := 127 } : Room) (Gw ad cI cZ u ++ Ow ao cL lf) [.ref (ad 0), .int (iZ h), .int (iZ x), .ref (ao)] 1 (Gw ad cI cZ u ++ Ow ao cL lf) 1 6 := by
  refine z_miW (cc := cL_setPrice) (maxL := 5) (ret := some .int) (hh := [(0, 10, 13, 13), (0, 10, 17, 15)]) (by decide) rfl (Nat.le_of_ble_eq_true rfl) ?_
  intro p e s m below meth c A X hr9 hlk htb
  refine z_sub (lv' := [(0, .ref (ad 0)), (1, .int (iZ h)), (2, .int (iZ x)), (3, .ref (ao))]) [0, 1, 2, 3] rfl ?_
  refine z_aload_n X 3 rfl dL_setPrice_0 ?_
  refine z_iconst X dL_setPrice_1 ?_
  refine z_aload_n X 0 rfl dL_setPrice_2 ?_
  refine z_iload_n X 1 rfl dL_setPrice_3 ?_
  refine z_iload_n X 2 rfl dL_setPrice_4 ?_
  refine z_callxi X (x_X1_setPrice_1 l hl D ad cI cZ cL u h x hz hz2 h0) (cwV 2 X.2.2.2.2.1 gL_setPrice_X1_setPrice rfl rfl rfl (by decide +kernel) ⟨Nat.le_of_ble_eq_true rfl, Nat.le_of_ble_eq_true rfl⟩) rfl [] (Ow ao cL lf) rfl 1 0 rfl rfl [.int (iZ 0), .ref (ao)] rfl (Nat.le_of_ble_eq_true rfl) dL_setPrice_5 ⟨Nat.le_of_ble_eq_true rfl, Nat.le_of_ble_eq_true rfl⟩ ?_
  refine z_xcatch X (name := "java/lang/IndexOutOfBoundsException") [] { startPc := 0, endPc := 10, handlerPc := 13, catchType := 13 } [{ startPc := 0, endPc := 10, handlerPc := 17, catchType := 15 }] (htb.trans rfl) (fun _ h => absurd h List.not_mem_nil) (by decide) (by decide) (by decide +kernel) X.2.2.2.2.2.2.2.1.c0 (fun q => ?_)
  refine z_astore X [1, 2, 3, 4, 0] [(0, .ref (ad 0)), (1, .int (iZ h)), (2, .int (iZ x)), (3, .ref (ao)), (4, .ref (q))] rfl (Nat.le_of_ble_eq_true rfl) dL_setPrice_13 ?_
  refine z_iconst X dL_setPrice_15 ?_
  refine z_widen (k := 1) (n := 6) (Nat.le_of_ble_eq_true rfl) (Nat.le_of_ble_eq_true rfl) ?_
  exact z_iret X hr9 hlk rfl rfl dL_setPrice_16
set_option maxHeartbeats 4000000 in
set_option maxRecDepth 100000 in
theorem L_setPrice_2 (l : Launch) (hl : l.stackTraces = false) (D : va_G) (ad : Nat → Nat) (cI cZ cL : ClassId) (ao : Nat) (lf : Nat → Int64) (u : GS) (h x : Int) (hz : zB h) (hz2 : zB x) (h0 : 0 ≤ h ∧ h ≤ 5) (h1 : ¬ (0 ≤ x ∧ x ≤ 100)) : zMi l D (zT cI cZ cL) yL_setPrice wsL_setPrice ({ frames := 8, cells := 1, slots := 6, locals := 127 } : Room) (Gw ad cI cZ u ++ Ow ao cL lf) [.ref (ad 0), .int (iZ h), .int (iZ x), .ref (ao)] 2 (Gw ad cI cZ u ++ Ow ao cL lf) 1 6 := by
  refine z_miW (cc := cL_setPrice) (maxL := 5) (ret := some .int) (hh := [(0, 10, 13, 13), (0, 10, 17, 15)]) (by decide) rfl (Nat.le_of_ble_eq_true rfl) ?_
  intro p e s m below meth c A X hr9 hlk htb
  refine z_sub (lv' := [(0, .ref (ad 0)), (1, .int (iZ h)), (2, .int (iZ x)), (3, .ref (ao))]) [0, 1, 2, 3] rfl ?_
  refine z_aload_n X 3 rfl dL_setPrice_0 ?_
  refine z_iconst X dL_setPrice_1 ?_
  refine z_aload_n X 0 rfl dL_setPrice_2 ?_
  refine z_iload_n X 1 rfl dL_setPrice_3 ?_
  refine z_iload_n X 2 rfl dL_setPrice_4 ?_
  refine z_callxi X (x_X1_setPrice_2 l hl D ad cI cZ cL u h x hz hz2 h0 h1) (cwV 2 X.2.2.2.2.1 gL_setPrice_X1_setPrice rfl rfl rfl (by decide +kernel) ⟨Nat.le_of_ble_eq_true rfl, Nat.le_of_ble_eq_true rfl⟩) rfl [] (Ow ao cL lf) rfl 1 0 rfl rfl [.int (iZ 0), .ref (ao)] rfl (Nat.le_of_ble_eq_true rfl) dL_setPrice_5 ⟨Nat.le_of_ble_eq_true rfl, Nat.le_of_ble_eq_true rfl⟩ ?_
  refine z_xcatch X (name := "java/lang/IllegalArgumentException") [{ startPc := 0, endPc := 10, handlerPc := 13, catchType := 13 }] { startPc := 0, endPc := 10, handlerPc := 17, catchType := 15 } [] (htb.trans rfl) (List.forall_mem_cons.mpr ⟨⟨by decide, "java/lang/IndexOutOfBoundsException", by decide +kernel, X.2.2.2.2.2.2.2.1.n10⟩, (fun _ h => absurd h List.not_mem_nil)⟩) (by decide) (by decide) (by decide +kernel) X.2.2.2.2.2.2.2.1.c1 (fun q => ?_)
  refine z_astore X [1, 2, 3, 4, 0] [(0, .ref (ad 0)), (1, .int (iZ h)), (2, .int (iZ x)), (3, .ref (ao)), (4, .ref (q))] rfl (Nat.le_of_ble_eq_true rfl) dL_setPrice_17 ?_
  refine z_iconst X dL_setPrice_19 ?_
  refine z_widen (k := 1) (n := 6) (Nat.le_of_ble_eq_true rfl) (Nat.le_of_ble_eq_true rfl) ?_
  exact z_iret X hr9 hlk rfl rfl dL_setPrice_20
set_option maxHeartbeats 4000000 in
set_option maxRecDepth 100000 in
theorem L_setLimit_0 (l : Launch) (hl : l.stackTraces = false) (D : va_G) (ad : Nat → Nat) (cI cZ cL : ClassId) (ao : Nat) (lf : Nat → Int64) (u : GS) (h x : Int) (h0 : 0 ≤ h ∧ h ≤ 4) (h1 : 0 ≤ x ∧ x ≤ 300) : zMi l D (zT cI cZ cL) yL_setLimit wsL_setLimit ({ frames := 8, cells := 1, slots := 6, locals := 127 } : Room) (Gw ad cI cZ u ++ Ow ao cL lf) [.ref (ad 0), .int (iZ h), .int (iZ x), .ref (ao)] 0 (Gw ad cI cZ (gA u 8 h x) ++ Ow ao cL (vp_updL lf (iZ 0).toNatClampNeg ((iZ (u.1 8 h)).toInt64))) 1 6 := by
  refine z_miW (cc := cL_setLimit) (maxL := 5) (ret := some .int) (hh := [(0, 10, 13, 13), (0, 10, 17, 15)]) (by decide) rfl (Nat.le_of_ble_eq_true rfl) ?_
  intro p e s m below meth c A X hr9 hlk htb
  refine z_sub (lv' := [(0, .ref (ad 0)), (1, .int (iZ h)), (2, .int (iZ x)), (3, .ref (ao))]) [0, 1, 2, 3] rfl ?_
  refine z_aload_n X 3 rfl dL_setLimit_0 ?_
  refine z_iconst X dL_setLimit_1 ?_
  refine z_aload_n X 0 rfl dL_setLimit_2 ?_
  refine z_iload_n X 1 rfl dL_setLimit_3 ?_
  refine z_iload_n X 2 rfl dL_setLimit_4 ?_
  refine z_calli X (c_X1_setLimit l D ad cI cZ cL u h x h0 h1) (cwV 2 X.2.2.2.2.1 gL_setLimit_X1_setLimit rfl rfl rfl (by decide +kernel) ⟨Nat.le_of_ble_eq_true rfl, Nat.le_of_ble_eq_true rfl⟩) rfl [] (Ow ao cL lf) rfl 1 0 rfl rfl [.int (iZ 0), .ref (ao)] rfl (Nat.le_of_ble_eq_true rfl) dL_setLimit_5 ⟨Nat.le_of_ble_eq_true rfl, Nat.le_of_ble_eq_true rfl⟩ rfl ?_
  refine z_i2l X dL_setLimit_8 ?_
  refine z_last X 18 2 (Gw ad cI cZ (gA u 8 h x) ++ Ow ao cL (vp_updL lf (iZ 0).toNatClampNeg ((iZ (u.1 8 h)).toInt64))) rfl rfl (by omega) (by omega) ⟨by omega, by omega⟩ rfl dL_setLimit_9 ?_
  refine z_goto (tgt := 21) X (by decide) dL_setLimit_10 ?_
  refine z_iconst X dL_setLimit_21 ?_
  refine z_widen (k := 1) (n := 6) (Nat.le_of_ble_eq_true rfl) (Nat.le_of_ble_eq_true rfl) ?_
  exact z_iret X hr9 hlk rfl rfl dL_setLimit_22
set_option maxHeartbeats 4000000 in
set_option maxRecDepth 100000 in
theorem L_setLimit_1 (l : Launch) (hl : l.stackTraces = false) (D : va_G) (ad : Nat → Nat) (cI cZ cL : ClassId) (ao : Nat) (lf : Nat → Int64) (u : GS) (h x : Int) (hz : zB h) (hz2 : zB x) (h0 : ¬ (0 ≤ h ∧ h ≤ 4)) : zMi l D (zT cI cZ cL) yL_setLimit wsL_setLimit ({ frames := 8, cells := 1, slots := 6, locals := 127 } : Room) (Gw ad cI cZ u ++ Ow ao cL lf) [.ref (ad 0), .int (iZ h), .int (iZ x), .ref (ao)] 1 (Gw ad cI cZ u ++ Ow ao cL lf) 1 6 := by
  refine z_miW (cc := cL_setLimit) (maxL := 5) (ret := some .int) (hh := [(0, 10, 13, 13), (0, 10, 17, 15)]) (by decide) rfl (Nat.le_of_ble_eq_true rfl) ?_
  intro p e s m below meth c A X hr9 hlk htb
  refine z_sub (lv' := [(0, .ref (ad 0)), (1, .int (iZ h)), (2, .int (iZ x)), (3, .ref (ao))]) [0, 1, 2, 3] rfl ?_
  refine z_aload_n X 3 rfl dL_setLimit_0 ?_
  refine z_iconst X dL_setLimit_1 ?_
  refine z_aload_n X 0 rfl dL_setLimit_2 ?_
  refine z_iload_n X 1 rfl dL_setLimit_3 ?_
  refine z_iload_n X 2 rfl dL_setLimit_4 ?_
  refine z_callxi X (x_X1_setLimit_1 l hl D ad cI cZ cL u h x hz hz2 h0) (cwV 2 X.2.2.2.2.1 gL_setLimit_X1_setLimit rfl rfl rfl (by decide +kernel) ⟨Nat.le_of_ble_eq_true rfl, Nat.le_of_ble_eq_true rfl⟩) rfl [] (Ow ao cL lf) rfl 1 0 rfl rfl [.int (iZ 0), .ref (ao)] rfl (Nat.le_of_ble_eq_true rfl) dL_setLimit_5 ⟨Nat.le_of_ble_eq_true rfl, Nat.le_of_ble_eq_true rfl⟩ ?_
  refine z_xcatch X (name := "java/lang/IndexOutOfBoundsException") [] { startPc := 0, endPc := 10, handlerPc := 13, catchType := 13 } [{ startPc := 0, endPc := 10, handlerPc := 17, catchType := 15 }] (htb.trans rfl) (fun _ h => absurd h List.not_mem_nil) (by decide) (by decide) (by decide +kernel) X.2.2.2.2.2.2.2.1.c0 (fun q => ?_)
  refine z_astore X [1, 2, 3, 4, 0] [(0, .ref (ad 0)), (1, .int (iZ h)), (2, .int (iZ x)), (3, .ref (ao)), (4, .ref (q))] rfl (Nat.le_of_ble_eq_true rfl) dL_setLimit_13 ?_
  refine z_iconst X dL_setLimit_15 ?_
  refine z_widen (k := 1) (n := 6) (Nat.le_of_ble_eq_true rfl) (Nat.le_of_ble_eq_true rfl) ?_
  exact z_iret X hr9 hlk rfl rfl dL_setLimit_16
set_option maxHeartbeats 4000000 in
set_option maxRecDepth 100000 in
theorem L_setLimit_2 (l : Launch) (hl : l.stackTraces = false) (D : va_G) (ad : Nat → Nat) (cI cZ cL : ClassId) (ao : Nat) (lf : Nat → Int64) (u : GS) (h x : Int) (hz : zB h) (hz2 : zB x) (h0 : 0 ≤ h ∧ h ≤ 4) (h1 : ¬ (0 ≤ x ∧ x ≤ 300)) : zMi l D (zT cI cZ cL) yL_setLimit wsL_setLimit ({ frames := 8, cells := 1, slots := 6, locals := 127 } : Room) (Gw ad cI cZ u ++ Ow ao cL lf) [.ref (ad 0), .int (iZ h), .int (iZ x), .ref (ao)] 2 (Gw ad cI cZ u ++ Ow ao cL lf) 1 6 := by
  refine z_miW (cc := cL_setLimit) (maxL := 5) (ret := some .int) (hh := [(0, 10, 13, 13), (0, 10, 17, 15)]) (by decide) rfl (Nat.le_of_ble_eq_true rfl) ?_
  intro p e s m below meth c A X hr9 hlk htb
  refine z_sub (lv' := [(0, .ref (ad 0)), (1, .int (iZ h)), (2, .int (iZ x)), (3, .ref (ao))]) [0, 1, 2, 3] rfl ?_
  refine z_aload_n X 3 rfl dL_setLimit_0 ?_
  refine z_iconst X dL_setLimit_1 ?_
  refine z_aload_n X 0 rfl dL_setLimit_2 ?_
  refine z_iload_n X 1 rfl dL_setLimit_3 ?_
  refine z_iload_n X 2 rfl dL_setLimit_4 ?_
  refine z_callxi X (x_X1_setLimit_2 l hl D ad cI cZ cL u h x hz hz2 h0 h1) (cwV 2 X.2.2.2.2.1 gL_setLimit_X1_setLimit rfl rfl rfl (by decide +kernel) ⟨Nat.le_of_ble_eq_true rfl, Nat.le_of_ble_eq_true rfl⟩) rfl [] (Ow ao cL lf) rfl 1 0 rfl rfl [.int (iZ 0), .ref (ao)] rfl (Nat.le_of_ble_eq_true rfl) dL_setLimit_5 ⟨Nat.le_of_ble_eq_true rfl, Nat.le_of_ble_eq_true rfl⟩ ?_
  refine z_xcatch X (name := "java/lang/IllegalArgumentException") [{ startPc := 0, endPc := 10, handlerPc := 13, catchType := 13 }] { startPc := 0, endPc := 10, handlerPc := 17, catchType := 15 } [] (htb.trans rfl) (List.forall_mem_cons.mpr ⟨⟨by decide, "java/lang/IndexOutOfBoundsException", by decide +kernel, X.2.2.2.2.2.2.2.1.n10⟩, (fun _ h => absurd h List.not_mem_nil)⟩) (by decide) (by decide) (by decide +kernel) X.2.2.2.2.2.2.2.1.c1 (fun q => ?_)
  refine z_astore X [1, 2, 3, 4, 0] [(0, .ref (ad 0)), (1, .int (iZ h)), (2, .int (iZ x)), (3, .ref (ao)), (4, .ref (q))] rfl (Nat.le_of_ble_eq_true rfl) dL_setLimit_17 ?_
  refine z_iconst X dL_setLimit_19 ?_
  refine z_widen (k := 1) (n := 6) (Nat.le_of_ble_eq_true rfl) (Nat.le_of_ble_eq_true rfl) ?_
  exact z_iret X hr9 hlk rfl rfl dL_setLimit_20
set_option maxHeartbeats 4000000 in
set_option maxRecDepth 100000 in
theorem L_setSupplier_0 (l : Launch) (hl : l.stackTraces = false) (D : va_G) (ad : Nat → Nat) (cI cZ cL : ClassId) (ao : Nat) (lf : Nat → Int64) (u : GS) (a b : Int) (hz : zB a) (hz2 : zB b) (h0 : 1 ≤ a ∧ a ≤ 100) (h1 : 0 ≤ b ∧ b ≤ a) : zMi l D (zT cI cZ cL) yL_setSupplier wsL_setSupplier ({ frames := 8, cells := 1, slots := 6, locals := 126 } : Room) (Gw ad cI cZ u ++ Ow ao cL lf) [.ref (ad 0), .int (iZ a), .int (iZ b)] 0 (Gw ad cI cZ (gV (gV u 0 a) 1 b) ++ Ow ao cL lf) 1 6 := by
  refine z_miW (cc := cL_setSupplier) (maxL := 4) (ret := some .int) (hh := [(0, 6, 9, 15)]) (by decide) rfl (Nat.le_of_ble_eq_true rfl) ?_
  intro p e s m below meth c A X hr9 hlk htb
  refine z_sub (lv' := [(0, .ref (ad 0)), (1, .int (iZ a)), (2, .int (iZ b))]) [0, 1, 2] rfl ?_
  refine z_aload_n X 0 rfl dL_setSupplier_0 ?_
  refine z_iload_n X 1 rfl dL_setSupplier_1 ?_
  refine z_iload_n X 2 rfl dL_setSupplier_2 ?_
  refine z_callv X (c_X1_setSupplier l D ad cI cZ cL u a b hz hz2 h0 h1) (cwV 2 X.2.2.2.2.1 gL_setSupplier_X1_setSupplier rfl rfl rfl (by decide +kernel) ⟨Nat.le_of_ble_eq_true rfl, Nat.le_of_ble_eq_true rfl⟩) rfl [] (Ow ao cL lf) rfl 1 0 rfl rfl [] rfl (Nat.le_of_ble_eq_true rfl) dL_setSupplier_3 ⟨Nat.le_of_ble_eq_true rfl, Nat.le_of_ble_eq_true rfl⟩ rfl ?_
  refine z_goto (tgt := 12) X (by decide) dL_setSupplier_6 ?_
  refine z_iconst X dL_setSupplier_12 ?_
  refine z_widen (k := 1) (n := 6) (Nat.le_of_ble_eq_true rfl) (Nat.le_of_ble_eq_true rfl) ?_
  exact z_iret X hr9 hlk rfl rfl dL_setSupplier_13
set_option maxHeartbeats 4000000 in
set_option maxRecDepth 100000 in
theorem L_setSupplier_1 (l : Launch) (hl : l.stackTraces = false) (D : va_G) (ad : Nat → Nat) (cI cZ cL : ClassId) (ao : Nat) (lf : Nat → Int64) (u : GS) (a b : Int) (hz : zB a) (hz2 : zB b) (h0 : ¬ (1 ≤ a ∧ a ≤ 100)) : zMi l D (zT cI cZ cL) yL_setSupplier wsL_setSupplier ({ frames := 8, cells := 1, slots := 6, locals := 126 } : Room) (Gw ad cI cZ u ++ Ow ao cL lf) [.ref (ad 0), .int (iZ a), .int (iZ b)] 1 (Gw ad cI cZ u ++ Ow ao cL lf) 1 6 := by
  refine z_miW (cc := cL_setSupplier) (maxL := 4) (ret := some .int) (hh := [(0, 6, 9, 15)]) (by decide) rfl (Nat.le_of_ble_eq_true rfl) ?_
  intro p e s m below meth c A X hr9 hlk htb
  refine z_sub (lv' := [(0, .ref (ad 0)), (1, .int (iZ a)), (2, .int (iZ b))]) [0, 1, 2] rfl ?_
  refine z_aload_n X 0 rfl dL_setSupplier_0 ?_
  refine z_iload_n X 1 rfl dL_setSupplier_1 ?_
  refine z_iload_n X 2 rfl dL_setSupplier_2 ?_
  refine z_callxv X (x_X1_setSupplier_1 l hl D ad cI cZ cL u a b hz hz2 h0) (cwV 2 X.2.2.2.2.1 gL_setSupplier_X1_setSupplier rfl rfl rfl (by decide +kernel) ⟨Nat.le_of_ble_eq_true rfl, Nat.le_of_ble_eq_true rfl⟩) rfl [] (Ow ao cL lf) rfl 1 0 rfl rfl [] rfl (Nat.le_of_ble_eq_true rfl) dL_setSupplier_3 ⟨Nat.le_of_ble_eq_true rfl, Nat.le_of_ble_eq_true rfl⟩ ?_
  refine z_xcatch X (name := "java/lang/IllegalArgumentException") [] { startPc := 0, endPc := 6, handlerPc := 9, catchType := 15 } [] (htb.trans rfl) (fun _ h => absurd h List.not_mem_nil) (by decide) (by decide) (by decide +kernel) X.2.2.2.2.2.2.2.1.c1 (fun q => ?_)
  refine z_astore_n X [1, 2, 3, 0] [(0, .ref (ad 0)), (1, .int (iZ a)), (2, .int (iZ b)), (3, .ref (q))] rfl (Nat.le_of_ble_eq_true rfl) dL_setSupplier_9 ?_
  refine z_iconst X dL_setSupplier_10 ?_
  refine z_widen (k := 1) (n := 6) (Nat.le_of_ble_eq_true rfl) (Nat.le_of_ble_eq_true rfl) ?_
  exact z_iret X hr9 hlk rfl rfl dL_setSupplier_11
set_option maxHeartbeats 4000000 in
set_option maxRecDepth 100000 in
theorem L_setSupplier_2 (l : Launch) (hl : l.stackTraces = false) (D : va_G) (ad : Nat → Nat) (cI cZ cL : ClassId) (ao : Nat) (lf : Nat → Int64) (u : GS) (a b : Int) (hz : zB a) (hz2 : zB b) (h0 : 1 ≤ a ∧ a ≤ 100) (h1 : ¬ (0 ≤ b ∧ b ≤ a)) : zMi l D (zT cI cZ cL) yL_setSupplier wsL_setSupplier ({ frames := 8, cells := 1, slots := 6, locals := 126 } : Room) (Gw ad cI cZ u ++ Ow ao cL lf) [.ref (ad 0), .int (iZ a), .int (iZ b)] 1 (Gw ad cI cZ u ++ Ow ao cL lf) 1 6 := by
  refine z_miW (cc := cL_setSupplier) (maxL := 4) (ret := some .int) (hh := [(0, 6, 9, 15)]) (by decide) rfl (Nat.le_of_ble_eq_true rfl) ?_
  intro p e s m below meth c A X hr9 hlk htb
  refine z_sub (lv' := [(0, .ref (ad 0)), (1, .int (iZ a)), (2, .int (iZ b))]) [0, 1, 2] rfl ?_
  refine z_aload_n X 0 rfl dL_setSupplier_0 ?_
  refine z_iload_n X 1 rfl dL_setSupplier_1 ?_
  refine z_iload_n X 2 rfl dL_setSupplier_2 ?_
  refine z_callxv X (x_X1_setSupplier_2 l hl D ad cI cZ cL u a b hz hz2 h0 h1) (cwV 2 X.2.2.2.2.1 gL_setSupplier_X1_setSupplier rfl rfl rfl (by decide +kernel) ⟨Nat.le_of_ble_eq_true rfl, Nat.le_of_ble_eq_true rfl⟩) rfl [] (Ow ao cL lf) rfl 1 0 rfl rfl [] rfl (Nat.le_of_ble_eq_true rfl) dL_setSupplier_3 ⟨Nat.le_of_ble_eq_true rfl, Nat.le_of_ble_eq_true rfl⟩ ?_
  refine z_xcatch X (name := "java/lang/IllegalArgumentException") [] { startPc := 0, endPc := 6, handlerPc := 9, catchType := 15 } [] (htb.trans rfl) (fun _ h => absurd h List.not_mem_nil) (by decide) (by decide) (by decide +kernel) X.2.2.2.2.2.2.2.1.c1 (fun q => ?_)
  refine z_astore_n X [1, 2, 3, 0] [(0, .ref (ad 0)), (1, .int (iZ a)), (2, .int (iZ b)), (3, .ref (q))] rfl (Nat.le_of_ble_eq_true rfl) dL_setSupplier_9 ?_
  refine z_iconst X dL_setSupplier_10 ?_
  refine z_widen (k := 1) (n := 6) (Nat.le_of_ble_eq_true rfl) (Nat.le_of_ble_eq_true rfl) ?_
  exact z_iret X hr9 hlk rfl rfl dL_setSupplier_11
set_option maxHeartbeats 4000000 in
set_option maxRecDepth 100000 in
theorem L_rent_0 (l : Launch) (hl : l.stackTraces = false) (D : va_G) (ad : Nat → Nat) (cI cZ cL : ClassId) (ao : Nat) (lf : Nat → Int64) (u : GS) (h o x : Int) (hz : zB h) (hzo : zB o) (hz2 : zB x) (h0 : 0 ≤ h ∧ h ≤ 5) (h1 : 0 ≤ o ∧ o ≤ 5) (hho : ¬ h = o) (hx : 1 ≤ x ∧ x ≤ 100) (hB : Bd u) (hm : ¬ u.1 0 h = 0) (hmo : ¬ u.1 0 o = 0) (hr : u.1 5 h ≤ u.1 4 h - x) : zMi l D (zT cI cZ cL) yL_rent wsL_rent ({ frames := 8, cells := 1, slots := 6, locals := 127 } : Room) (Gw ad cI cZ u ++ Ow ao cL lf) [.ref (ad 0), .int (iZ h), .int (iZ o), .int (iZ x), .ref (ao)] 0 (Gw ad cI cZ (f_rent u h o x) ++ Ow ao cL (vp_updL lf (iZ 0).toNatClampNeg ((iZ ((f_rent u h o x).1 4 o)).toInt64))) 1 6 := by
  refine z_miW (cc := cL_rent) (maxL := 6) (ret := some .int) (hh := [(0, 12, 15, 13), (0, 12, 19, 15), (0, 12, 23, 17)]) (by decide) rfl (Nat.le_of_ble_eq_true rfl) ?_
  intro p e s m below meth c A X hr9 hlk htb
  refine z_sub (lv' := [(0, .ref (ad 0)), (1, .int (iZ h)), (2, .int (iZ o)), (3, .int (iZ x)), (4, .ref (ao))]) [0, 1, 2, 3, 4] rfl ?_
  refine z_aload X 4 rfl dL_rent_0 ?_
  refine z_iconst X dL_rent_2 ?_
  refine z_aload_n X 0 rfl dL_rent_3 ?_
  refine z_iload_n X 1 rfl dL_rent_4 ?_
  refine z_iload_n X 2 rfl dL_rent_5 ?_
  refine z_iload_n X 3 rfl dL_rent_6 ?_
  refine z_calli X (c_X1_rent l D ad cI cZ cL u h o x hz hzo hz2 h0 h1 hho hx hB hm hmo hr) (cwV 3 X.2.2.2.2.1 gL_rent_X1_rent rfl rfl rfl (by decide +kernel) ⟨Nat.le_of_ble_eq_true rfl, Nat.le_of_ble_eq_true rfl⟩) rfl [] (Ow ao cL lf) rfl 1 0 rfl rfl [.int (iZ 0), .ref (ao)] rfl (Nat.le_of_ble_eq_true rfl) dL_rent_7 ⟨Nat.le_of_ble_eq_true rfl, Nat.le_of_ble_eq_true rfl⟩ rfl ?_
  refine z_i2l X dL_rent_10 ?_
  refine z_last X 18 2 (Gw ad cI cZ (f_rent u h o x) ++ Ow ao cL (vp_updL lf (iZ 0).toNatClampNeg ((iZ ((f_rent u h o x).1 4 o)).toInt64))) rfl rfl (by omega) (by omega) ⟨by omega, by omega⟩ rfl dL_rent_11 ?_
  refine z_goto (tgt := 27) X (by decide) dL_rent_12 ?_
  refine z_iconst X dL_rent_27 ?_
  refine z_widen (k := 1) (n := 6) (Nat.le_of_ble_eq_true rfl) (Nat.le_of_ble_eq_true rfl) ?_
  exact z_iret X hr9 hlk rfl rfl dL_rent_28
set_option maxHeartbeats 4000000 in
set_option maxRecDepth 100000 in
theorem L_rent_1 (l : Launch) (hl : l.stackTraces = false) (D : va_G) (ad : Nat → Nat) (cI cZ cL : ClassId) (ao : Nat) (lf : Nat → Int64) (u : GS) (h o x : Int) (hz : zB h) (hzo : zB o) (hz2 : zB x) (h0 : ¬ (0 ≤ h ∧ h ≤ 5)) : zMi l D (zT cI cZ cL) yL_rent wsL_rent ({ frames := 8, cells := 1, slots := 6, locals := 127 } : Room) (Gw ad cI cZ u ++ Ow ao cL lf) [.ref (ad 0), .int (iZ h), .int (iZ o), .int (iZ x), .ref (ao)] 1 (Gw ad cI cZ u ++ Ow ao cL lf) 1 6 := by
  refine z_miW (cc := cL_rent) (maxL := 6) (ret := some .int) (hh := [(0, 12, 15, 13), (0, 12, 19, 15), (0, 12, 23, 17)]) (by decide) rfl (Nat.le_of_ble_eq_true rfl) ?_
  intro p e s m below meth c A X hr9 hlk htb
  refine z_sub (lv' := [(0, .ref (ad 0)), (1, .int (iZ h)), (2, .int (iZ o)), (3, .int (iZ x)), (4, .ref (ao))]) [0, 1, 2, 3, 4] rfl ?_
  refine z_aload X 4 rfl dL_rent_0 ?_
  refine z_iconst X dL_rent_2 ?_
  refine z_aload_n X 0 rfl dL_rent_3 ?_
  refine z_iload_n X 1 rfl dL_rent_4 ?_
  refine z_iload_n X 2 rfl dL_rent_5 ?_
  refine z_iload_n X 3 rfl dL_rent_6 ?_
  refine z_callxi X (x_X1_rent_1 l hl D ad cI cZ cL u h o x hz hzo hz2 h0) (cwV 3 X.2.2.2.2.1 gL_rent_X1_rent rfl rfl rfl (by decide +kernel) ⟨Nat.le_of_ble_eq_true rfl, Nat.le_of_ble_eq_true rfl⟩) rfl [] (Ow ao cL lf) rfl 1 0 rfl rfl [.int (iZ 0), .ref (ao)] rfl (Nat.le_of_ble_eq_true rfl) dL_rent_7 ⟨Nat.le_of_ble_eq_true rfl, Nat.le_of_ble_eq_true rfl⟩ ?_
  refine z_xcatch X (name := "java/lang/IndexOutOfBoundsException") [] { startPc := 0, endPc := 12, handlerPc := 15, catchType := 13 } [{ startPc := 0, endPc := 12, handlerPc := 19, catchType := 15 }, { startPc := 0, endPc := 12, handlerPc := 23, catchType := 17 }] (htb.trans rfl) (fun _ h => absurd h List.not_mem_nil) (by decide) (by decide) (by decide +kernel) X.2.2.2.2.2.2.2.1.c0 (fun q => ?_)
  refine z_astore X [1, 2, 3, 4, 5, 0] [(0, .ref (ad 0)), (1, .int (iZ h)), (2, .int (iZ o)), (3, .int (iZ x)), (4, .ref (ao)), (5, .ref (q))] rfl (Nat.le_of_ble_eq_true rfl) dL_rent_15 ?_
  refine z_iconst X dL_rent_17 ?_
  refine z_widen (k := 1) (n := 6) (Nat.le_of_ble_eq_true rfl) (Nat.le_of_ble_eq_true rfl) ?_
  exact z_iret X hr9 hlk rfl rfl dL_rent_18
set_option maxHeartbeats 4000000 in
set_option maxRecDepth 100000 in
theorem L_rent_2 (l : Launch) (hl : l.stackTraces = false) (D : va_G) (ad : Nat → Nat) (cI cZ cL : ClassId) (ao : Nat) (lf : Nat → Int64) (u : GS) (h o x : Int) (hz : zB h) (hzo : zB o) (hz2 : zB x) (h0 : 0 ≤ h ∧ h ≤ 5) (h1 : ¬ (0 ≤ o ∧ o ≤ 5)) : zMi l D (zT cI cZ cL) yL_rent wsL_rent ({ frames := 8, cells := 1, slots := 6, locals := 127 } : Room) (Gw ad cI cZ u ++ Ow ao cL lf) [.ref (ad 0), .int (iZ h), .int (iZ o), .int (iZ x), .ref (ao)] 1 (Gw ad cI cZ u ++ Ow ao cL lf) 1 6 := by
  refine z_miW (cc := cL_rent) (maxL := 6) (ret := some .int) (hh := [(0, 12, 15, 13), (0, 12, 19, 15), (0, 12, 23, 17)]) (by decide) rfl (Nat.le_of_ble_eq_true rfl) ?_
  intro p e s m below meth c A X hr9 hlk htb
  refine z_sub (lv' := [(0, .ref (ad 0)), (1, .int (iZ h)), (2, .int (iZ o)), (3, .int (iZ x)), (4, .ref (ao))]) [0, 1, 2, 3, 4] rfl ?_
  refine z_aload X 4 rfl dL_rent_0 ?_
  refine z_iconst X dL_rent_2 ?_
  refine z_aload_n X 0 rfl dL_rent_3 ?_
  refine z_iload_n X 1 rfl dL_rent_4 ?_
  refine z_iload_n X 2 rfl dL_rent_5 ?_
  refine z_iload_n X 3 rfl dL_rent_6 ?_
  refine z_callxi X (x_X1_rent_2 l hl D ad cI cZ cL u h o x hz hzo hz2 h0 h1) (cwV 3 X.2.2.2.2.1 gL_rent_X1_rent rfl rfl rfl (by decide +kernel) ⟨Nat.le_of_ble_eq_true rfl, Nat.le_of_ble_eq_true rfl⟩) rfl [] (Ow ao cL lf) rfl 1 0 rfl rfl [.int (iZ 0), .ref (ao)] rfl (Nat.le_of_ble_eq_true rfl) dL_rent_7 ⟨Nat.le_of_ble_eq_true rfl, Nat.le_of_ble_eq_true rfl⟩ ?_
  refine z_xcatch X (name := "java/lang/IndexOutOfBoundsException") [] { startPc := 0, endPc := 12, handlerPc := 15, catchType := 13 } [{ startPc := 0, endPc := 12, handlerPc := 19, catchType := 15 }, { startPc := 0, endPc := 12, handlerPc := 23, catchType := 17 }] (htb.trans rfl) (fun _ h => absurd h List.not_mem_nil) (by decide) (by decide) (by decide +kernel) X.2.2.2.2.2.2.2.1.c0 (fun q => ?_)
  refine z_astore X [1, 2, 3, 4, 5, 0] [(0, .ref (ad 0)), (1, .int (iZ h)), (2, .int (iZ o)), (3, .int (iZ x)), (4, .ref (ao)), (5, .ref (q))] rfl (Nat.le_of_ble_eq_true rfl) dL_rent_15 ?_
  refine z_iconst X dL_rent_17 ?_
  refine z_widen (k := 1) (n := 6) (Nat.le_of_ble_eq_true rfl) (Nat.le_of_ble_eq_true rfl) ?_
  exact z_iret X hr9 hlk rfl rfl dL_rent_18
set_option maxHeartbeats 4000000 in
set_option maxRecDepth 100000 in
theorem L_rent_3 (l : Launch) (hl : l.stackTraces = false) (D : va_G) (ad : Nat → Nat) (cI cZ cL : ClassId) (ao : Nat) (lf : Nat → Int64) (u : GS) (h o x : Int) (hz : zB h) (hzo : zB o) (hz2 : zB x) (h0 : 0 ≤ h ∧ h ≤ 5) (h1 : 0 ≤ o ∧ o ≤ 5) (hho : h = o) : zMi l D (zT cI cZ cL) yL_rent wsL_rent ({ frames := 8, cells := 1, slots := 6, locals := 127 } : Room) (Gw ad cI cZ u ++ Ow ao cL lf) [.ref (ad 0), .int (iZ h), .int (iZ o), .int (iZ x), .ref (ao)] 2 (Gw ad cI cZ u ++ Ow ao cL lf) 1 6 := by
  refine z_miW (cc := cL_rent) (maxL := 6) (ret := some .int) (hh := [(0, 12, 15, 13), (0, 12, 19, 15), (0, 12, 23, 17)]) (by decide) rfl (Nat.le_of_ble_eq_true rfl) ?_
  intro p e s m below meth c A X hr9 hlk htb
  refine z_sub (lv' := [(0, .ref (ad 0)), (1, .int (iZ h)), (2, .int (iZ o)), (3, .int (iZ x)), (4, .ref (ao))]) [0, 1, 2, 3, 4] rfl ?_
  refine z_aload X 4 rfl dL_rent_0 ?_
  refine z_iconst X dL_rent_2 ?_
  refine z_aload_n X 0 rfl dL_rent_3 ?_
  refine z_iload_n X 1 rfl dL_rent_4 ?_
  refine z_iload_n X 2 rfl dL_rent_5 ?_
  refine z_iload_n X 3 rfl dL_rent_6 ?_
  refine z_callxi X (x_X1_rent_3 l hl D ad cI cZ cL u h o x hz hzo hz2 h0 h1 hho) (cwV 3 X.2.2.2.2.1 gL_rent_X1_rent rfl rfl rfl (by decide +kernel) ⟨Nat.le_of_ble_eq_true rfl, Nat.le_of_ble_eq_true rfl⟩) rfl [] (Ow ao cL lf) rfl 1 0 rfl rfl [.int (iZ 0), .ref (ao)] rfl (Nat.le_of_ble_eq_true rfl) dL_rent_7 ⟨Nat.le_of_ble_eq_true rfl, Nat.le_of_ble_eq_true rfl⟩ ?_
  refine z_xcatch X (name := "java/lang/IllegalArgumentException") [{ startPc := 0, endPc := 12, handlerPc := 15, catchType := 13 }] { startPc := 0, endPc := 12, handlerPc := 19, catchType := 15 } [{ startPc := 0, endPc := 12, handlerPc := 23, catchType := 17 }] (htb.trans rfl) (List.forall_mem_cons.mpr ⟨⟨by decide, "java/lang/IndexOutOfBoundsException", by decide +kernel, X.2.2.2.2.2.2.2.1.n10⟩, (fun _ h => absurd h List.not_mem_nil)⟩) (by decide) (by decide) (by decide +kernel) X.2.2.2.2.2.2.2.1.c1 (fun q => ?_)
  refine z_astore X [1, 2, 3, 4, 5, 0] [(0, .ref (ad 0)), (1, .int (iZ h)), (2, .int (iZ o)), (3, .int (iZ x)), (4, .ref (ao)), (5, .ref (q))] rfl (Nat.le_of_ble_eq_true rfl) dL_rent_19 ?_
  refine z_iconst X dL_rent_21 ?_
  refine z_widen (k := 1) (n := 6) (Nat.le_of_ble_eq_true rfl) (Nat.le_of_ble_eq_true rfl) ?_
  exact z_iret X hr9 hlk rfl rfl dL_rent_22
set_option maxHeartbeats 4000000 in
set_option maxRecDepth 100000 in
theorem L_rent_4 (l : Launch) (hl : l.stackTraces = false) (D : va_G) (ad : Nat → Nat) (cI cZ cL : ClassId) (ao : Nat) (lf : Nat → Int64) (u : GS) (h o x : Int) (hz : zB h) (hzo : zB o) (hz2 : zB x) (h0 : 0 ≤ h ∧ h ≤ 5) (h1 : 0 ≤ o ∧ o ≤ 5) (hho : ¬ h = o) (hx : ¬ (1 ≤ x ∧ x ≤ 100)) : zMi l D (zT cI cZ cL) yL_rent wsL_rent ({ frames := 8, cells := 1, slots := 6, locals := 127 } : Room) (Gw ad cI cZ u ++ Ow ao cL lf) [.ref (ad 0), .int (iZ h), .int (iZ o), .int (iZ x), .ref (ao)] 2 (Gw ad cI cZ u ++ Ow ao cL lf) 1 6 := by
  refine z_miW (cc := cL_rent) (maxL := 6) (ret := some .int) (hh := [(0, 12, 15, 13), (0, 12, 19, 15), (0, 12, 23, 17)]) (by decide) rfl (Nat.le_of_ble_eq_true rfl) ?_
  intro p e s m below meth c A X hr9 hlk htb
  refine z_sub (lv' := [(0, .ref (ad 0)), (1, .int (iZ h)), (2, .int (iZ o)), (3, .int (iZ x)), (4, .ref (ao))]) [0, 1, 2, 3, 4] rfl ?_
  refine z_aload X 4 rfl dL_rent_0 ?_
  refine z_iconst X dL_rent_2 ?_
  refine z_aload_n X 0 rfl dL_rent_3 ?_
  refine z_iload_n X 1 rfl dL_rent_4 ?_
  refine z_iload_n X 2 rfl dL_rent_5 ?_
  refine z_iload_n X 3 rfl dL_rent_6 ?_
  refine z_callxi X (x_X1_rent_4 l hl D ad cI cZ cL u h o x hz hzo hz2 h0 h1 hho hx) (cwV 3 X.2.2.2.2.1 gL_rent_X1_rent rfl rfl rfl (by decide +kernel) ⟨Nat.le_of_ble_eq_true rfl, Nat.le_of_ble_eq_true rfl⟩) rfl [] (Ow ao cL lf) rfl 1 0 rfl rfl [.int (iZ 0), .ref (ao)] rfl (Nat.le_of_ble_eq_true rfl) dL_rent_7 ⟨Nat.le_of_ble_eq_true rfl, Nat.le_of_ble_eq_true rfl⟩ ?_
  refine z_xcatch X (name := "java/lang/IllegalArgumentException") [{ startPc := 0, endPc := 12, handlerPc := 15, catchType := 13 }] { startPc := 0, endPc := 12, handlerPc := 19, catchType := 15 } [{ startPc := 0, endPc := 12, handlerPc := 23, catchType := 17 }] (htb.trans rfl) (List.forall_mem_cons.mpr ⟨⟨by decide, "java/lang/IndexOutOfBoundsException", by decide +kernel, X.2.2.2.2.2.2.2.1.n10⟩, (fun _ h => absurd h List.not_mem_nil)⟩) (by decide) (by decide) (by decide +kernel) X.2.2.2.2.2.2.2.1.c1 (fun q => ?_)
  refine z_astore X [1, 2, 3, 4, 5, 0] [(0, .ref (ad 0)), (1, .int (iZ h)), (2, .int (iZ o)), (3, .int (iZ x)), (4, .ref (ao)), (5, .ref (q))] rfl (Nat.le_of_ble_eq_true rfl) dL_rent_19 ?_
  refine z_iconst X dL_rent_21 ?_
  refine z_widen (k := 1) (n := 6) (Nat.le_of_ble_eq_true rfl) (Nat.le_of_ble_eq_true rfl) ?_
  exact z_iret X hr9 hlk rfl rfl dL_rent_22
set_option maxHeartbeats 4000000 in
set_option maxRecDepth 100000 in
theorem L_rent_5 (l : Launch) (hl : l.stackTraces = false) (D : va_G) (ad : Nat → Nat) (cI cZ cL : ClassId) (ao : Nat) (lf : Nat → Int64) (u : GS) (h o x : Int) (hz : zB h) (hzo : zB o) (hz2 : zB x) (h0 : 0 ≤ h ∧ h ≤ 5) (h1 : 0 ≤ o ∧ o ≤ 5) (hho : ¬ h = o) (hx : 1 ≤ x ∧ x ≤ 100) (hB : Bd u) (hm : u.1 0 h = 0) : zMi l D (zT cI cZ cL) yL_rent wsL_rent ({ frames := 8, cells := 1, slots := 6, locals := 127 } : Room) (Gw ad cI cZ u ++ Ow ao cL lf) [.ref (ad 0), .int (iZ h), .int (iZ o), .int (iZ x), .ref (ao)] 3 (Gw ad cI cZ u ++ Ow ao cL lf) 1 6 := by
  refine z_miW (cc := cL_rent) (maxL := 6) (ret := some .int) (hh := [(0, 12, 15, 13), (0, 12, 19, 15), (0, 12, 23, 17)]) (by decide) rfl (Nat.le_of_ble_eq_true rfl) ?_
  intro p e s m below meth c A X hr9 hlk htb
  refine z_sub (lv' := [(0, .ref (ad 0)), (1, .int (iZ h)), (2, .int (iZ o)), (3, .int (iZ x)), (4, .ref (ao))]) [0, 1, 2, 3, 4] rfl ?_
  refine z_aload X 4 rfl dL_rent_0 ?_
  refine z_iconst X dL_rent_2 ?_
  refine z_aload_n X 0 rfl dL_rent_3 ?_
  refine z_iload_n X 1 rfl dL_rent_4 ?_
  refine z_iload_n X 2 rfl dL_rent_5 ?_
  refine z_iload_n X 3 rfl dL_rent_6 ?_
  refine z_callxi X (x_X1_rent_5 l hl D ad cI cZ cL u h o x hz hzo hz2 h0 h1 hho hx hB hm) (cwV 3 X.2.2.2.2.1 gL_rent_X1_rent rfl rfl rfl (by decide +kernel) ⟨Nat.le_of_ble_eq_true rfl, Nat.le_of_ble_eq_true rfl⟩) rfl [] (Ow ao cL lf) rfl 1 0 rfl rfl [.int (iZ 0), .ref (ao)] rfl (Nat.le_of_ble_eq_true rfl) dL_rent_7 ⟨Nat.le_of_ble_eq_true rfl, Nat.le_of_ble_eq_true rfl⟩ ?_
  refine z_xcatch X (name := "java/lang/IllegalStateException") [{ startPc := 0, endPc := 12, handlerPc := 15, catchType := 13 }, { startPc := 0, endPc := 12, handlerPc := 19, catchType := 15 }] { startPc := 0, endPc := 12, handlerPc := 23, catchType := 17 } [] (htb.trans rfl) (List.forall_mem_cons.mpr ⟨⟨by decide, "java/lang/IndexOutOfBoundsException", by decide +kernel, X.2.2.2.2.2.2.2.1.n20⟩, (List.forall_mem_cons.mpr ⟨⟨by decide, "java/lang/IllegalArgumentException", by decide +kernel, X.2.2.2.2.2.2.2.1.n21⟩, (fun _ h => absurd h List.not_mem_nil)⟩)⟩) (by decide) (by decide) (by decide +kernel) X.2.2.2.2.2.2.2.1.c2 (fun q => ?_)
  refine z_astore X [1, 2, 3, 4, 5, 0] [(0, .ref (ad 0)), (1, .int (iZ h)), (2, .int (iZ o)), (3, .int (iZ x)), (4, .ref (ao)), (5, .ref (q))] rfl (Nat.le_of_ble_eq_true rfl) dL_rent_23 ?_
  refine z_iconst X dL_rent_25 ?_
  refine z_widen (k := 1) (n := 6) (Nat.le_of_ble_eq_true rfl) (Nat.le_of_ble_eq_true rfl) ?_
  exact z_iret X hr9 hlk rfl rfl dL_rent_26
set_option maxHeartbeats 4000000 in
set_option maxRecDepth 100000 in
theorem L_rent_6 (l : Launch) (hl : l.stackTraces = false) (D : va_G) (ad : Nat → Nat) (cI cZ cL : ClassId) (ao : Nat) (lf : Nat → Int64) (u : GS) (h o x : Int) (hz : zB h) (hzo : zB o) (hz2 : zB x) (h0 : 0 ≤ h ∧ h ≤ 5) (h1 : 0 ≤ o ∧ o ≤ 5) (hho : ¬ h = o) (hx : 1 ≤ x ∧ x ≤ 100) (hB : Bd u) (hm : ¬ u.1 0 h = 0) (hmo : u.1 0 o = 0) : zMi l D (zT cI cZ cL) yL_rent wsL_rent ({ frames := 8, cells := 1, slots := 6, locals := 127 } : Room) (Gw ad cI cZ u ++ Ow ao cL lf) [.ref (ad 0), .int (iZ h), .int (iZ o), .int (iZ x), .ref (ao)] 3 (Gw ad cI cZ u ++ Ow ao cL lf) 1 6 := by
  refine z_miW (cc := cL_rent) (maxL := 6) (ret := some .int) (hh := [(0, 12, 15, 13), (0, 12, 19, 15), (0, 12, 23, 17)]) (by decide) rfl (Nat.le_of_ble_eq_true rfl) ?_
  intro p e s m below meth c A X hr9 hlk htb
  refine z_sub (lv' := [(0, .ref (ad 0)), (1, .int (iZ h)), (2, .int (iZ o)), (3, .int (iZ x)), (4, .ref (ao))]) [0, 1, 2, 3, 4] rfl ?_
  refine z_aload X 4 rfl dL_rent_0 ?_
  refine z_iconst X dL_rent_2 ?_
  refine z_aload_n X 0 rfl dL_rent_3 ?_
  refine z_iload_n X 1 rfl dL_rent_4 ?_
  refine z_iload_n X 2 rfl dL_rent_5 ?_
  refine z_iload_n X 3 rfl dL_rent_6 ?_
  refine z_callxi X (x_X1_rent_6 l hl D ad cI cZ cL u h o x hz hzo hz2 h0 h1 hho hx hB hm hmo) (cwV 3 X.2.2.2.2.1 gL_rent_X1_rent rfl rfl rfl (by decide +kernel) ⟨Nat.le_of_ble_eq_true rfl, Nat.le_of_ble_eq_true rfl⟩) rfl [] (Ow ao cL lf) rfl 1 0 rfl rfl [.int (iZ 0), .ref (ao)] rfl (Nat.le_of_ble_eq_true rfl) dL_rent_7 ⟨Nat.le_of_ble_eq_true rfl, Nat.le_of_ble_eq_true rfl⟩ ?_
  refine z_xcatch X (name := "java/lang/IllegalStateException") [{ startPc := 0, endPc := 12, handlerPc := 15, catchType := 13 }, { startPc := 0, endPc := 12, handlerPc := 19, catchType := 15 }] { startPc := 0, endPc := 12, handlerPc := 23, catchType := 17 } [] (htb.trans rfl) (List.forall_mem_cons.mpr ⟨⟨by decide, "java/lang/IndexOutOfBoundsException", by decide +kernel, X.2.2.2.2.2.2.2.1.n20⟩, (List.forall_mem_cons.mpr ⟨⟨by decide, "java/lang/IllegalArgumentException", by decide +kernel, X.2.2.2.2.2.2.2.1.n21⟩, (fun _ h => absurd h List.not_mem_nil)⟩)⟩) (by decide) (by decide) (by decide +kernel) X.2.2.2.2.2.2.2.1.c2 (fun q => ?_)
  refine z_astore X [1, 2, 3, 4, 5, 0] [(0, .ref (ad 0)), (1, .int (iZ h)), (2, .int (iZ o)), (3, .int (iZ x)), (4, .ref (ao)), (5, .ref (q))] rfl (Nat.le_of_ble_eq_true rfl) dL_rent_23 ?_
  refine z_iconst X dL_rent_25 ?_
  refine z_widen (k := 1) (n := 6) (Nat.le_of_ble_eq_true rfl) (Nat.le_of_ble_eq_true rfl) ?_
  exact z_iret X hr9 hlk rfl rfl dL_rent_26
set_option maxHeartbeats 4000000 in
set_option maxRecDepth 100000 in
theorem L_rent_7 (l : Launch) (hl : l.stackTraces = false) (D : va_G) (ad : Nat → Nat) (cI cZ cL : ClassId) (ao : Nat) (lf : Nat → Int64) (u : GS) (h o x : Int) (hz : zB h) (hzo : zB o) (hz2 : zB x) (h0 : 0 ≤ h ∧ h ≤ 5) (h1 : 0 ≤ o ∧ o ≤ 5) (hho : ¬ h = o) (hx : 1 ≤ x ∧ x ≤ 100) (hB : Bd u) (hm : ¬ u.1 0 h = 0) (hmo : ¬ u.1 0 o = 0) (hr : ¬ u.1 5 h ≤ u.1 4 h - x) : zMi l D (zT cI cZ cL) yL_rent wsL_rent ({ frames := 8, cells := 1, slots := 6, locals := 127 } : Room) (Gw ad cI cZ u ++ Ow ao cL lf) [.ref (ad 0), .int (iZ h), .int (iZ o), .int (iZ x), .ref (ao)] 3 (Gw ad cI cZ u ++ Ow ao cL lf) 1 6 := by
  refine z_miW (cc := cL_rent) (maxL := 6) (ret := some .int) (hh := [(0, 12, 15, 13), (0, 12, 19, 15), (0, 12, 23, 17)]) (by decide) rfl (Nat.le_of_ble_eq_true rfl) ?_
  intro p e s m below meth c A X hr9 hlk htb
  refine z_sub (lv' := [(0, .ref (ad 0)), (1, .int (iZ h)), (2, .int (iZ o)), (3, .int (iZ x)), (4, .ref (ao))]) [0, 1, 2, 3, 4] rfl ?_
  refine z_aload X 4 rfl dL_rent_0 ?_
  refine z_iconst X dL_rent_2 ?_
  refine z_aload_n X 0 rfl dL_rent_3 ?_
  refine z_iload_n X 1 rfl dL_rent_4 ?_
  refine z_iload_n X 2 rfl dL_rent_5 ?_
  refine z_iload_n X 3 rfl dL_rent_6 ?_
  refine z_callxi X (x_X1_rent_7 l hl D ad cI cZ cL u h o x hz hzo hz2 h0 h1 hho hx hB hm hmo hr) (cwV 3 X.2.2.2.2.1 gL_rent_X1_rent rfl rfl rfl (by decide +kernel) ⟨Nat.le_of_ble_eq_true rfl, Nat.le_of_ble_eq_true rfl⟩) rfl [] (Ow ao cL lf) rfl 1 0 rfl rfl [.int (iZ 0), .ref (ao)] rfl (Nat.le_of_ble_eq_true rfl) dL_rent_7 ⟨Nat.le_of_ble_eq_true rfl, Nat.le_of_ble_eq_true rfl⟩ ?_
  refine z_xcatch X (name := "java/lang/IllegalStateException") [{ startPc := 0, endPc := 12, handlerPc := 15, catchType := 13 }, { startPc := 0, endPc := 12, handlerPc := 19, catchType := 15 }] { startPc := 0, endPc := 12, handlerPc := 23, catchType := 17 } [] (htb.trans rfl) (List.forall_mem_cons.mpr ⟨⟨by decide, "java/lang/IndexOutOfBoundsException", by decide +kernel, X.2.2.2.2.2.2.2.1.n20⟩, (List.forall_mem_cons.mpr ⟨⟨by decide, "java/lang/IllegalArgumentException", by decide +kernel, X.2.2.2.2.2.2.2.1.n21⟩, (fun _ h => absurd h List.not_mem_nil)⟩)⟩) (by decide) (by decide) (by decide +kernel) X.2.2.2.2.2.2.2.1.c2 (fun q => ?_)
  refine z_astore X [1, 2, 3, 4, 5, 0] [(0, .ref (ad 0)), (1, .int (iZ h)), (2, .int (iZ o)), (3, .int (iZ x)), (4, .ref (ao)), (5, .ref (q))] rfl (Nat.le_of_ble_eq_true rfl) dL_rent_23 ?_
  refine z_iconst X dL_rent_25 ?_
  refine z_widen (k := 1) (n := 6) (Nat.le_of_ble_eq_true rfl) (Nat.le_of_ble_eq_true rfl) ?_
  exact z_iret X hr9 hlk rfl rfl dL_rent_26
set_option maxHeartbeats 4000000 in
set_option maxRecDepth 100000 in
theorem L_leave_0 (l : Launch) (hl : l.stackTraces = false) (D : va_G) (ad : Nat → Nat) (cI cZ cL : ClassId) (ao : Nat) (lf : Nat → Int64) (u : GS) (h : Int) (h0 : 0 ≤ h ∧ h ≤ 5) (hB : Bd u) (hm : ¬ u.1 0 h = 0) : zMi l D (zT cI cZ cL) yL_leave wsL_leave ({ frames := 8, cells := 1, slots := 6, locals := 125 } : Room) (Gw ad cI cZ u ++ Ow ao cL lf) [.ref (ad 0), .int (iZ h), .ref (ao)] 0 (Gw ad cI cZ (f_leave u h) ++ Ow ao cL (vp_updL lf (iZ 0).toNatClampNeg ((iZ (u.1 5 h * u.2 1)).toInt64))) 1 6 := by
  refine z_miW (cc := cL_leave) (maxL := 4) (ret := some .int) (hh := [(0, 9, 12, 13), (0, 9, 15, 17)]) (by decide) rfl (Nat.le_of_ble_eq_true rfl) ?_
  intro p e s m below meth c A X hr9 hlk htb
  refine z_sub (lv' := [(0, .ref (ad 0)), (1, .int (iZ h)), (2, .ref (ao))]) [0, 1, 2] rfl ?_
  refine z_aload_n X 2 rfl dL_leave_0 ?_
  refine z_iconst X dL_leave_1 ?_
  refine z_aload_n X 0 rfl dL_leave_2 ?_
  refine z_iload_n X 1 rfl dL_leave_3 ?_
  refine z_calli X (c_X1_leave l D ad cI cZ cL u h h0 hB hm) (cwV 1 X.2.2.2.2.1 gL_leave_X1_leave rfl rfl rfl (by decide +kernel) ⟨Nat.le_of_ble_eq_true rfl, Nat.le_of_ble_eq_true rfl⟩) rfl [] (Ow ao cL lf) rfl 1 0 rfl rfl [.int (iZ 0), .ref (ao)] rfl (Nat.le_of_ble_eq_true rfl) dL_leave_4 ⟨Nat.le_of_ble_eq_true rfl, Nat.le_of_ble_eq_true rfl⟩ rfl ?_
  refine z_i2l X dL_leave_7 ?_
  refine z_last X 18 2 (Gw ad cI cZ (f_leave u h) ++ Ow ao cL (vp_updL lf (iZ 0).toNatClampNeg ((iZ (u.1 5 h * u.2 1)).toInt64))) rfl rfl (by omega) (by omega) ⟨by omega, by omega⟩ rfl dL_leave_8 ?_
  refine z_goto (tgt := 18) X (by decide) dL_leave_9 ?_
  refine z_iconst X dL_leave_18 ?_
  refine z_widen (k := 1) (n := 6) (Nat.le_of_ble_eq_true rfl) (Nat.le_of_ble_eq_true rfl) ?_
  exact z_iret X hr9 hlk rfl rfl dL_leave_19
set_option maxHeartbeats 4000000 in
set_option maxRecDepth 100000 in
theorem L_leave_1 (l : Launch) (hl : l.stackTraces = false) (D : va_G) (ad : Nat → Nat) (cI cZ cL : ClassId) (ao : Nat) (lf : Nat → Int64) (u : GS) (h : Int) (hz : zB h) (h0 : ¬ (0 ≤ h ∧ h ≤ 5)) : zMi l D (zT cI cZ cL) yL_leave wsL_leave ({ frames := 8, cells := 1, slots := 6, locals := 125 } : Room) (Gw ad cI cZ u ++ Ow ao cL lf) [.ref (ad 0), .int (iZ h), .ref (ao)] 1 (Gw ad cI cZ u ++ Ow ao cL lf) 1 6 := by
  refine z_miW (cc := cL_leave) (maxL := 4) (ret := some .int) (hh := [(0, 9, 12, 13), (0, 9, 15, 17)]) (by decide) rfl (Nat.le_of_ble_eq_true rfl) ?_
  intro p e s m below meth c A X hr9 hlk htb
  refine z_sub (lv' := [(0, .ref (ad 0)), (1, .int (iZ h)), (2, .ref (ao))]) [0, 1, 2] rfl ?_
  refine z_aload_n X 2 rfl dL_leave_0 ?_
  refine z_iconst X dL_leave_1 ?_
  refine z_aload_n X 0 rfl dL_leave_2 ?_
  refine z_iload_n X 1 rfl dL_leave_3 ?_
  refine z_callxi X (x_X1_leave_1 l hl D ad cI cZ cL u h hz h0) (cwV 1 X.2.2.2.2.1 gL_leave_X1_leave rfl rfl rfl (by decide +kernel) ⟨Nat.le_of_ble_eq_true rfl, Nat.le_of_ble_eq_true rfl⟩) rfl [] (Ow ao cL lf) rfl 1 0 rfl rfl [.int (iZ 0), .ref (ao)] rfl (Nat.le_of_ble_eq_true rfl) dL_leave_4 ⟨Nat.le_of_ble_eq_true rfl, Nat.le_of_ble_eq_true rfl⟩ ?_
  refine z_xcatch X (name := "java/lang/IndexOutOfBoundsException") [] { startPc := 0, endPc := 9, handlerPc := 12, catchType := 13 } [{ startPc := 0, endPc := 9, handlerPc := 15, catchType := 17 }] (htb.trans rfl) (fun _ h => absurd h List.not_mem_nil) (by decide) (by decide) (by decide +kernel) X.2.2.2.2.2.2.2.1.c0 (fun q => ?_)
  refine z_astore_n X [1, 2, 3, 0] [(0, .ref (ad 0)), (1, .int (iZ h)), (2, .ref (ao)), (3, .ref (q))] rfl (Nat.le_of_ble_eq_true rfl) dL_leave_12 ?_
  refine z_iconst X dL_leave_13 ?_
  refine z_widen (k := 1) (n := 6) (Nat.le_of_ble_eq_true rfl) (Nat.le_of_ble_eq_true rfl) ?_
  exact z_iret X hr9 hlk rfl rfl dL_leave_14
set_option maxHeartbeats 4000000 in
set_option maxRecDepth 100000 in
theorem L_leave_2 (l : Launch) (hl : l.stackTraces = false) (D : va_G) (ad : Nat → Nat) (cI cZ cL : ClassId) (ao : Nat) (lf : Nat → Int64) (u : GS) (h : Int) (hz : zB h) (h0 : 0 ≤ h ∧ h ≤ 5) (hB : Bd u) (hm : u.1 0 h = 0) : zMi l D (zT cI cZ cL) yL_leave wsL_leave ({ frames := 8, cells := 1, slots := 6, locals := 125 } : Room) (Gw ad cI cZ u ++ Ow ao cL lf) [.ref (ad 0), .int (iZ h), .ref (ao)] 2 (Gw ad cI cZ u ++ Ow ao cL lf) 1 6 := by
  refine z_miW (cc := cL_leave) (maxL := 4) (ret := some .int) (hh := [(0, 9, 12, 13), (0, 9, 15, 17)]) (by decide) rfl (Nat.le_of_ble_eq_true rfl) ?_
  intro p e s m below meth c A X hr9 hlk htb
  refine z_sub (lv' := [(0, .ref (ad 0)), (1, .int (iZ h)), (2, .ref (ao))]) [0, 1, 2] rfl ?_
  refine z_aload_n X 2 rfl dL_leave_0 ?_
  refine z_iconst X dL_leave_1 ?_
  refine z_aload_n X 0 rfl dL_leave_2 ?_
  refine z_iload_n X 1 rfl dL_leave_3 ?_
  refine z_callxi X (x_X1_leave_2 l hl D ad cI cZ cL u h hz h0 hB hm) (cwV 1 X.2.2.2.2.1 gL_leave_X1_leave rfl rfl rfl (by decide +kernel) ⟨Nat.le_of_ble_eq_true rfl, Nat.le_of_ble_eq_true rfl⟩) rfl [] (Ow ao cL lf) rfl 1 0 rfl rfl [.int (iZ 0), .ref (ao)] rfl (Nat.le_of_ble_eq_true rfl) dL_leave_4 ⟨Nat.le_of_ble_eq_true rfl, Nat.le_of_ble_eq_true rfl⟩ ?_
  refine z_xcatch X (name := "java/lang/IllegalStateException") [{ startPc := 0, endPc := 9, handlerPc := 12, catchType := 13 }] { startPc := 0, endPc := 9, handlerPc := 15, catchType := 17 } [] (htb.trans rfl) (List.forall_mem_cons.mpr ⟨⟨by decide, "java/lang/IndexOutOfBoundsException", by decide +kernel, X.2.2.2.2.2.2.2.1.n20⟩, (fun _ h => absurd h List.not_mem_nil)⟩) (by decide) (by decide) (by decide +kernel) X.2.2.2.2.2.2.2.1.c2 (fun q => ?_)
  refine z_astore_n X [1, 2, 3, 0] [(0, .ref (ad 0)), (1, .int (iZ h)), (2, .ref (ao)), (3, .ref (q))] rfl (Nat.le_of_ble_eq_true rfl) dL_leave_15 ?_
  refine z_iconst X dL_leave_16 ?_
  refine z_widen (k := 1) (n := 6) (Nat.le_of_ble_eq_true rfl) (Nat.le_of_ble_eq_true rfl) ?_
  exact z_iret X hr9 hlk rfl rfl dL_leave_17
set_option maxHeartbeats 4000000 in
set_option maxRecDepth 100000 in
theorem L_clear_0 (l : Launch) (hl : l.stackTraces = false) (D : va_G) (ad : Nat → Nat) (cI cZ cL : ClassId) (ao : Nat) (lf : Nat → Int64) (u : GS) (hq : u.2 4 < 500) (hq0 : 0 ≤ u.2 4) (hI : GI u) : zMi l D (zT cI cZ cL) yL_clear wsL_clear ({ frames := 7, cells := 1, slots := 6, locals := 134 } : Room) (Gw ad cI cZ u ++ Ow ao cL lf) [.ref (ad 0), .ref (ao)] 0 (Gw ad cI cZ (f_clearU u) ++ Ow ao cL (vp_updL lf (iZ 0).toNatClampNeg ((iZ ((f_clearU u).1 10 0)).toInt64))) 1 6 := by
  refine z_miW (cc := cL_clear) (maxL := 3) (ret := some .int) (hh := [(0, 8, 11, 17)]) (by decide) rfl (Nat.le_of_ble_eq_true rfl) ?_
  intro p e s m below meth c A X hr9 hlk htb
  refine z_sub (lv' := [(0, .ref (ad 0)), (1, .ref (ao))]) [0, 1] rfl ?_
  refine z_aload_n X 1 rfl dL_clear_0 ?_
  refine z_iconst X dL_clear_1 ?_
  refine z_aload_n X 0 rfl dL_clear_2 ?_
  refine z_calli X (c_X1_clear l D ad cI cZ cL u hq hq0 hI) (cwV 0 X.2.2.2.2.1 gL_clear_X1_clear rfl rfl rfl (by decide +kernel) ⟨Nat.le_of_ble_eq_true rfl, Nat.le_of_ble_eq_true rfl⟩) rfl [] (Ow ao cL lf) rfl 1 0 rfl rfl [.int (iZ 0), .ref (ao)] rfl (Nat.le_of_ble_eq_true rfl) dL_clear_3 ⟨Nat.le_of_ble_eq_true rfl, Nat.le_of_ble_eq_true rfl⟩ rfl ?_
  refine z_i2l X dL_clear_6 ?_
  refine z_last X 18 2 (Gw ad cI cZ (f_clearU u) ++ Ow ao cL (vp_updL lf (iZ 0).toNatClampNeg ((iZ ((f_clearU u).1 10 0)).toInt64))) rfl rfl (by omega) (by omega) ⟨by omega, by omega⟩ rfl dL_clear_7 ?_
  refine z_goto (tgt := 14) X (by decide) dL_clear_8 ?_
  refine z_iconst X dL_clear_14 ?_
  refine z_widen (k := 1) (n := 6) (Nat.le_of_ble_eq_true rfl) (Nat.le_of_ble_eq_true rfl) ?_
  exact z_iret X hr9 hlk rfl rfl dL_clear_15
set_option maxHeartbeats 4000000 in
set_option maxRecDepth 100000 in
theorem L_clear_1 (l : Launch) (hl : l.stackTraces = false) (D : va_G) (ad : Nat → Nat) (cI cZ cL : ClassId) (ao : Nat) (lf : Nat → Int64) (u : GS) (hq : u.2 4 = 500) : zMi l D (zT cI cZ cL) yL_clear wsL_clear ({ frames := 7, cells := 1, slots := 6, locals := 134 } : Room) (Gw ad cI cZ u ++ Ow ao cL lf) [.ref (ad 0), .ref (ao)] 1 (Gw ad cI cZ u ++ Ow ao cL lf) 1 6 := by
  refine z_miW (cc := cL_clear) (maxL := 3) (ret := some .int) (hh := [(0, 8, 11, 17)]) (by decide) rfl (Nat.le_of_ble_eq_true rfl) ?_
  intro p e s m below meth c A X hr9 hlk htb
  refine z_sub (lv' := [(0, .ref (ad 0)), (1, .ref (ao))]) [0, 1] rfl ?_
  refine z_aload_n X 1 rfl dL_clear_0 ?_
  refine z_iconst X dL_clear_1 ?_
  refine z_aload_n X 0 rfl dL_clear_2 ?_
  refine z_callxi X (x_X1_clear l hl D ad cI cZ cL u hq) (cwV 0 X.2.2.2.2.1 gL_clear_X1_clear rfl rfl rfl (by decide +kernel) ⟨Nat.le_of_ble_eq_true rfl, Nat.le_of_ble_eq_true rfl⟩) rfl [] (Ow ao cL lf) rfl 1 0 rfl rfl [.int (iZ 0), .ref (ao)] rfl (Nat.le_of_ble_eq_true rfl) dL_clear_3 ⟨Nat.le_of_ble_eq_true rfl, Nat.le_of_ble_eq_true rfl⟩ ?_
  refine z_xcatch X (name := "java/lang/IllegalStateException") [] { startPc := 0, endPc := 8, handlerPc := 11, catchType := 17 } [] (htb.trans rfl) (fun _ h => absurd h List.not_mem_nil) (by decide) (by decide) (by decide +kernel) X.2.2.2.2.2.2.2.1.c2 (fun q => ?_)
  refine z_astore_n X [1, 2, 0] [(0, .ref (ad 0)), (1, .ref (ao)), (2, .ref (q))] rfl (Nat.le_of_ble_eq_true rfl) dL_clear_11 ?_
  refine z_iconst X dL_clear_12 ?_
  refine z_widen (k := 1) (n := 6) (Nat.le_of_ble_eq_true rfl) (Nat.le_of_ble_eq_true rfl) ?_
  exact z_iret X hr9 hlk rfl rfl dL_clear_13
set_option maxHeartbeats 4000000 in
set_option maxRecDepth 100000 in
theorem L_ofTrade_0 (l : Launch) (hl : l.stackTraces = false) (D : va_G) (ad : Nat → Nat) (cI cZ cL : ClassId) (ao : Nat) (lf : Nat → Int64) (u : GS) (t w : Int) (hc : 0 ≤ u.2 5 ∧ u.2 5 ≤ 6) (h0 : 0 ≤ t ∧ t < u.2 5) (h1 : 0 ≤ w ∧ w ≤ 3) : zMi l D (zT cI cZ cL) yL_ofTrade wsL_ofTrade ({ frames := 7, cells := 1, slots := 6, locals := 104 } : Room) (Gw ad cI cZ u ++ Ow ao cL lf) [.ref (ad 0), .int (iZ t), .int (iZ w), .ref (ao)] 0 (Gw ad cI cZ u ++ Ow ao cL (vp_updL lf (iZ 0).toNatClampNeg ((iZ (f_ofTrade u t w)).toInt64))) 1 6 := by
  refine z_miW (cc := cL_ofTrade) (maxL := 5) (ret := some .int) (hh := [(0, 10, 13, 13)]) (by decide) rfl (Nat.le_of_ble_eq_true rfl) ?_
  intro p e s m below meth c A X hr9 hlk htb
  refine z_sub (lv' := [(0, .ref (ad 0)), (1, .int (iZ t)), (2, .int (iZ w)), (3, .ref (ao))]) [0, 1, 2, 3] rfl ?_
  refine z_aload_n X 3 rfl dL_ofTrade_0 ?_
  refine z_iconst X dL_ofTrade_1 ?_
  refine z_aload_n X 0 rfl dL_ofTrade_2 ?_
  refine z_iload_n X 1 rfl dL_ofTrade_3 ?_
  refine z_iload_n X 2 rfl dL_ofTrade_4 ?_
  refine z_calli X (c_X1_ofTrade l D ad cI cZ cL u t w hc h0 h1) (cwV 2 X.2.2.2.2.1 gL_ofTrade_X1_ofTrade rfl rfl rfl (by decide +kernel) ⟨Nat.le_of_ble_eq_true rfl, Nat.le_of_ble_eq_true rfl⟩) rfl [] (Ow ao cL lf) rfl 1 0 rfl rfl [.int (iZ 0), .ref (ao)] rfl (Nat.le_of_ble_eq_true rfl) dL_ofTrade_5 ⟨Nat.le_of_ble_eq_true rfl, Nat.le_of_ble_eq_true rfl⟩ rfl ?_
  refine z_i2l X dL_ofTrade_8 ?_
  refine z_last X 18 2 (Gw ad cI cZ u ++ Ow ao cL (vp_updL lf (iZ 0).toNatClampNeg ((iZ (f_ofTrade u t w)).toInt64))) rfl rfl (by omega) (by omega) ⟨by omega, by omega⟩ rfl dL_ofTrade_9 ?_
  refine z_goto (tgt := 17) X (by decide) dL_ofTrade_10 ?_
  refine z_iconst X dL_ofTrade_17 ?_
  refine z_widen (k := 1) (n := 6) (Nat.le_of_ble_eq_true rfl) (Nat.le_of_ble_eq_true rfl) ?_
  exact z_iret X hr9 hlk rfl rfl dL_ofTrade_18
set_option maxHeartbeats 4000000 in
set_option maxRecDepth 100000 in
theorem L_ofTrade_1 (l : Launch) (hl : l.stackTraces = false) (D : va_G) (ad : Nat → Nat) (cI cZ cL : ClassId) (ao : Nat) (lf : Nat → Int64) (u : GS) (t w : Int) (hz : zB t) (hz2 : zB w) (hc : 0 ≤ u.2 5 ∧ u.2 5 ≤ 6) (h0 : ¬ (0 ≤ t ∧ t < u.2 5)) : zMi l D (zT cI cZ cL) yL_ofTrade wsL_ofTrade ({ frames := 7, cells := 1, slots := 6, locals := 104 } : Room) (Gw ad cI cZ u ++ Ow ao cL lf) [.ref (ad 0), .int (iZ t), .int (iZ w), .ref (ao)] 1 (Gw ad cI cZ u ++ Ow ao cL lf) 1 6 := by
  refine z_miW (cc := cL_ofTrade) (maxL := 5) (ret := some .int) (hh := [(0, 10, 13, 13)]) (by decide) rfl (Nat.le_of_ble_eq_true rfl) ?_
  intro p e s m below meth c A X hr9 hlk htb
  refine z_sub (lv' := [(0, .ref (ad 0)), (1, .int (iZ t)), (2, .int (iZ w)), (3, .ref (ao))]) [0, 1, 2, 3] rfl ?_
  refine z_aload_n X 3 rfl dL_ofTrade_0 ?_
  refine z_iconst X dL_ofTrade_1 ?_
  refine z_aload_n X 0 rfl dL_ofTrade_2 ?_
  refine z_iload_n X 1 rfl dL_ofTrade_3 ?_
  refine z_iload_n X 2 rfl dL_ofTrade_4 ?_
  refine z_callxi X (x_X1_ofTrade_1 l hl D ad cI cZ cL u t w hz hz2 hc h0) (cwV 2 X.2.2.2.2.1 gL_ofTrade_X1_ofTrade rfl rfl rfl (by decide +kernel) ⟨Nat.le_of_ble_eq_true rfl, Nat.le_of_ble_eq_true rfl⟩) rfl [] (Ow ao cL lf) rfl 1 0 rfl rfl [.int (iZ 0), .ref (ao)] rfl (Nat.le_of_ble_eq_true rfl) dL_ofTrade_5 ⟨Nat.le_of_ble_eq_true rfl, Nat.le_of_ble_eq_true rfl⟩ ?_
  refine z_xcatch X (name := "java/lang/IndexOutOfBoundsException") [] { startPc := 0, endPc := 10, handlerPc := 13, catchType := 13 } [] (htb.trans rfl) (fun _ h => absurd h List.not_mem_nil) (by decide) (by decide) (by decide +kernel) X.2.2.2.2.2.2.2.1.c0 (fun q => ?_)
  refine z_astore X [1, 2, 3, 4, 0] [(0, .ref (ad 0)), (1, .int (iZ t)), (2, .int (iZ w)), (3, .ref (ao)), (4, .ref (q))] rfl (Nat.le_of_ble_eq_true rfl) dL_ofTrade_13 ?_
  refine z_iconst X dL_ofTrade_15 ?_
  refine z_widen (k := 1) (n := 6) (Nat.le_of_ble_eq_true rfl) (Nat.le_of_ble_eq_true rfl) ?_
  exact z_iret X hr9 hlk rfl rfl dL_ofTrade_16
set_option maxHeartbeats 4000000 in
set_option maxRecDepth 100000 in
theorem L_ofTrade_2 (l : Launch) (hl : l.stackTraces = false) (D : va_G) (ad : Nat → Nat) (cI cZ cL : ClassId) (ao : Nat) (lf : Nat → Int64) (u : GS) (t w : Int) (hz : zB t) (hz2 : zB w) (hc : 0 ≤ u.2 5 ∧ u.2 5 ≤ 6) (h0 : 0 ≤ t ∧ t < u.2 5) (h1 : ¬ (0 ≤ w ∧ w ≤ 3)) : zMi l D (zT cI cZ cL) yL_ofTrade wsL_ofTrade ({ frames := 7, cells := 1, slots := 6, locals := 104 } : Room) (Gw ad cI cZ u ++ Ow ao cL lf) [.ref (ad 0), .int (iZ t), .int (iZ w), .ref (ao)] 1 (Gw ad cI cZ u ++ Ow ao cL lf) 1 6 := by
  refine z_miW (cc := cL_ofTrade) (maxL := 5) (ret := some .int) (hh := [(0, 10, 13, 13)]) (by decide) rfl (Nat.le_of_ble_eq_true rfl) ?_
  intro p e s m below meth c A X hr9 hlk htb
  refine z_sub (lv' := [(0, .ref (ad 0)), (1, .int (iZ t)), (2, .int (iZ w)), (3, .ref (ao))]) [0, 1, 2, 3] rfl ?_
  refine z_aload_n X 3 rfl dL_ofTrade_0 ?_
  refine z_iconst X dL_ofTrade_1 ?_
  refine z_aload_n X 0 rfl dL_ofTrade_2 ?_
  refine z_iload_n X 1 rfl dL_ofTrade_3 ?_
  refine z_iload_n X 2 rfl dL_ofTrade_4 ?_
  refine z_callxi X (x_X1_ofTrade_2 l hl D ad cI cZ cL u t w hz hz2 hc h0 h1) (cwV 2 X.2.2.2.2.1 gL_ofTrade_X1_ofTrade rfl rfl rfl (by decide +kernel) ⟨Nat.le_of_ble_eq_true rfl, Nat.le_of_ble_eq_true rfl⟩) rfl [] (Ow ao cL lf) rfl 1 0 rfl rfl [.int (iZ 0), .ref (ao)] rfl (Nat.le_of_ble_eq_true rfl) dL_ofTrade_5 ⟨Nat.le_of_ble_eq_true rfl, Nat.le_of_ble_eq_true rfl⟩ ?_
  refine z_xcatch X (name := "java/lang/IndexOutOfBoundsException") [] { startPc := 0, endPc := 10, handlerPc := 13, catchType := 13 } [] (htb.trans rfl) (fun _ h => absurd h List.not_mem_nil) (by decide) (by decide) (by decide +kernel) X.2.2.2.2.2.2.2.1.c0 (fun q => ?_)
  refine z_astore X [1, 2, 3, 4, 0] [(0, .ref (ad 0)), (1, .int (iZ t)), (2, .int (iZ w)), (3, .ref (ao)), (4, .ref (q))] rfl (Nat.le_of_ble_eq_true rfl) dL_ofTrade_13 ?_
  refine z_iconst X dL_ofTrade_15 ?_
  refine z_widen (k := 1) (n := 6) (Nat.le_of_ble_eq_true rfl) (Nat.le_of_ble_eq_true rfl) ?_
  exact z_iret X hr9 hlk rfl rfl dL_ofTrade_16
set_option maxHeartbeats 4000000 in
set_option maxRecDepth 100000 in
theorem L_went_0 (l : Launch) (hl : l.stackTraces = false) (D : va_G) (ad : Nat → Nat) (cI cZ cL : ClassId) (ao : Nat) (lf : Nat → Int64) (u : GS) (h : Int) (h0 : 0 ≤ h ∧ h ≤ 5) : zMi l D (zT cI cZ cL) yL_went wsL_went ({ frames := 7, cells := 1, slots := 6, locals := 103 } : Room) (Gw ad cI cZ u ++ Ow ao cL lf) [.ref (ad 0), .int (iZ h), .ref (ao)] 0 (Gw ad cI cZ u ++ Ow ao cL (vp_updL lf (iZ 0).toNatClampNeg ((iZ (u.1 10 h)).toInt64))) 1 6 := by
  refine z_miW (cc := cL_went) (maxL := 4) (ret := some .int) (hh := [(0, 9, 12, 13)]) (by decide) rfl (Nat.le_of_ble_eq_true rfl) ?_
  intro p e s m below meth c A X hr9 hlk htb
  refine z_sub (lv' := [(0, .ref (ad 0)), (1, .int (iZ h)), (2, .ref (ao))]) [0, 1, 2] rfl ?_
  refine z_aload_n X 2 rfl dL_went_0 ?_
  refine z_iconst X dL_went_1 ?_
  refine z_aload_n X 0 rfl dL_went_2 ?_
  refine z_iload_n X 1 rfl dL_went_3 ?_
  refine z_calli X (c_X1_went l D ad cI cZ cL u h h0) (cwV 1 X.2.2.2.2.1 gL_went_X1_went rfl rfl rfl (by decide +kernel) ⟨Nat.le_of_ble_eq_true rfl, Nat.le_of_ble_eq_true rfl⟩) rfl [] (Ow ao cL lf) rfl 1 0 rfl rfl [.int (iZ 0), .ref (ao)] rfl (Nat.le_of_ble_eq_true rfl) dL_went_4 ⟨Nat.le_of_ble_eq_true rfl, Nat.le_of_ble_eq_true rfl⟩ rfl ?_
  refine z_i2l X dL_went_7 ?_
  refine z_last X 18 2 (Gw ad cI cZ u ++ Ow ao cL (vp_updL lf (iZ 0).toNatClampNeg ((iZ (u.1 10 h)).toInt64))) rfl rfl (by omega) (by omega) ⟨by omega, by omega⟩ rfl dL_went_8 ?_
  refine z_goto (tgt := 15) X (by decide) dL_went_9 ?_
  refine z_iconst X dL_went_15 ?_
  refine z_widen (k := 1) (n := 6) (Nat.le_of_ble_eq_true rfl) (Nat.le_of_ble_eq_true rfl) ?_
  exact z_iret X hr9 hlk rfl rfl dL_went_16
set_option maxHeartbeats 4000000 in
set_option maxRecDepth 100000 in
theorem L_went_1 (l : Launch) (hl : l.stackTraces = false) (D : va_G) (ad : Nat → Nat) (cI cZ cL : ClassId) (ao : Nat) (lf : Nat → Int64) (u : GS) (h : Int) (hz : zB h) (h0 : ¬ (0 ≤ h ∧ h ≤ 5)) : zMi l D (zT cI cZ cL) yL_went wsL_went ({ frames := 7, cells := 1, slots := 6, locals := 103 } : Room) (Gw ad cI cZ u ++ Ow ao cL lf) [.ref (ad 0), .int (iZ h), .ref (ao)] 1 (Gw ad cI cZ u ++ Ow ao cL lf) 1 6 := by
  refine z_miW (cc := cL_went) (maxL := 4) (ret := some .int) (hh := [(0, 9, 12, 13)]) (by decide) rfl (Nat.le_of_ble_eq_true rfl) ?_
  intro p e s m below meth c A X hr9 hlk htb
  refine z_sub (lv' := [(0, .ref (ad 0)), (1, .int (iZ h)), (2, .ref (ao))]) [0, 1, 2] rfl ?_
  refine z_aload_n X 2 rfl dL_went_0 ?_
  refine z_iconst X dL_went_1 ?_
  refine z_aload_n X 0 rfl dL_went_2 ?_
  refine z_iload_n X 1 rfl dL_went_3 ?_
  refine z_callxi X (x_X1_went l hl D ad cI cZ cL u h hz h0) (cwV 1 X.2.2.2.2.1 gL_went_X1_went rfl rfl rfl (by decide +kernel) ⟨Nat.le_of_ble_eq_true rfl, Nat.le_of_ble_eq_true rfl⟩) rfl [] (Ow ao cL lf) rfl 1 0 rfl rfl [.int (iZ 0), .ref (ao)] rfl (Nat.le_of_ble_eq_true rfl) dL_went_4 ⟨Nat.le_of_ble_eq_true rfl, Nat.le_of_ble_eq_true rfl⟩ ?_
  refine z_xcatch X (name := "java/lang/IndexOutOfBoundsException") [] { startPc := 0, endPc := 9, handlerPc := 12, catchType := 13 } [] (htb.trans rfl) (fun _ h => absurd h List.not_mem_nil) (by decide) (by decide) (by decide +kernel) X.2.2.2.2.2.2.2.1.c0 (fun q => ?_)
  refine z_astore_n X [1, 2, 3, 0] [(0, .ref (ad 0)), (1, .int (iZ h)), (2, .ref (ao)), (3, .ref (q))] rfl (Nat.le_of_ble_eq_true rfl) dL_went_12 ?_
  refine z_iconst X dL_went_13 ?_
  refine z_widen (k := 1) (n := 6) (Nat.le_of_ble_eq_true rfl) (Nat.le_of_ble_eq_true rfl) ?_
  exact z_iret X hr9 hlk rfl rfl dL_went_14
set_option maxHeartbeats 4000000 in
set_option maxRecDepth 100000 in
theorem L_flow_0 (l : Launch) (hl : l.stackTraces = false) (D : va_G) (ad : Nat → Nat) (cI cZ cL : ClassId) (ao : Nat) (lf : Nat → Int64) (u : GS) (h : Int) (h0 : 0 ≤ h ∧ h ≤ 4) : zMi l D (zT cI cZ cL) yL_flow wsL_flow ({ frames := 8, cells := 1, slots := 6, locals := 123 } : Room) (Gw ad cI cZ u ++ Ow ao cL lf) [.ref (ad 0), .int (iZ h), .ref (ao)] 0 (Gw ad cI cZ u ++ Ow ao cL (vp_updL lf (iZ 0).toNatClampNeg ((iZ (u.1 9 h)).toInt64))) 1 6 := by
  refine z_miW (cc := cL_flow) (maxL := 4) (ret := some .int) (hh := [(0, 9, 12, 13)]) (by decide) rfl (Nat.le_of_ble_eq_true rfl) ?_
  intro p e s m below meth c A X hr9 hlk htb
  refine z_sub (lv' := [(0, .ref (ad 0)), (1, .int (iZ h)), (2, .ref (ao))]) [0, 1, 2] rfl ?_
  refine z_aload_n X 2 rfl dL_flow_0 ?_
  refine z_iconst X dL_flow_1 ?_
  refine z_aload_n X 0 rfl dL_flow_2 ?_
  refine z_iload_n X 1 rfl dL_flow_3 ?_
  refine z_calli X (c_X1_flow l D ad cI cZ cL u h h0) (cwV 1 X.2.2.2.2.1 gL_flow_X1_flow rfl rfl rfl (by decide +kernel) ⟨Nat.le_of_ble_eq_true rfl, Nat.le_of_ble_eq_true rfl⟩) rfl [] (Ow ao cL lf) rfl 1 0 rfl rfl [.int (iZ 0), .ref (ao)] rfl (Nat.le_of_ble_eq_true rfl) dL_flow_4 ⟨Nat.le_of_ble_eq_true rfl, Nat.le_of_ble_eq_true rfl⟩ rfl ?_
  refine z_i2l X dL_flow_7 ?_
  refine z_last X 18 2 (Gw ad cI cZ u ++ Ow ao cL (vp_updL lf (iZ 0).toNatClampNeg ((iZ (u.1 9 h)).toInt64))) rfl rfl (by omega) (by omega) ⟨by omega, by omega⟩ rfl dL_flow_8 ?_
  refine z_goto (tgt := 15) X (by decide) dL_flow_9 ?_
  refine z_iconst X dL_flow_15 ?_
  refine z_widen (k := 1) (n := 6) (Nat.le_of_ble_eq_true rfl) (Nat.le_of_ble_eq_true rfl) ?_
  exact z_iret X hr9 hlk rfl rfl dL_flow_16
set_option maxHeartbeats 4000000 in
set_option maxRecDepth 100000 in
theorem L_flow_1 (l : Launch) (hl : l.stackTraces = false) (D : va_G) (ad : Nat → Nat) (cI cZ cL : ClassId) (ao : Nat) (lf : Nat → Int64) (u : GS) (h : Int) (hz : zB h) (h0 : ¬ (0 ≤ h ∧ h ≤ 4)) : zMi l D (zT cI cZ cL) yL_flow wsL_flow ({ frames := 8, cells := 1, slots := 6, locals := 123 } : Room) (Gw ad cI cZ u ++ Ow ao cL lf) [.ref (ad 0), .int (iZ h), .ref (ao)] 1 (Gw ad cI cZ u ++ Ow ao cL lf) 1 6 := by
  refine z_miW (cc := cL_flow) (maxL := 4) (ret := some .int) (hh := [(0, 9, 12, 13)]) (by decide) rfl (Nat.le_of_ble_eq_true rfl) ?_
  intro p e s m below meth c A X hr9 hlk htb
  refine z_sub (lv' := [(0, .ref (ad 0)), (1, .int (iZ h)), (2, .ref (ao))]) [0, 1, 2] rfl ?_
  refine z_aload_n X 2 rfl dL_flow_0 ?_
  refine z_iconst X dL_flow_1 ?_
  refine z_aload_n X 0 rfl dL_flow_2 ?_
  refine z_iload_n X 1 rfl dL_flow_3 ?_
  refine z_callxi X (x_X1_flow l hl D ad cI cZ cL u h hz h0) (cwV 1 X.2.2.2.2.1 gL_flow_X1_flow rfl rfl rfl (by decide +kernel) ⟨Nat.le_of_ble_eq_true rfl, Nat.le_of_ble_eq_true rfl⟩) rfl [] (Ow ao cL lf) rfl 1 0 rfl rfl [.int (iZ 0), .ref (ao)] rfl (Nat.le_of_ble_eq_true rfl) dL_flow_4 ⟨Nat.le_of_ble_eq_true rfl, Nat.le_of_ble_eq_true rfl⟩ ?_
  refine z_xcatch X (name := "java/lang/IndexOutOfBoundsException") [] { startPc := 0, endPc := 9, handlerPc := 12, catchType := 13 } [] (htb.trans rfl) (fun _ h => absurd h List.not_mem_nil) (by decide) (by decide) (by decide +kernel) X.2.2.2.2.2.2.2.1.c0 (fun q => ?_)
  refine z_astore_n X [1, 2, 3, 0] [(0, .ref (ad 0)), (1, .int (iZ h)), (2, .ref (ao)), (3, .ref (q))] rfl (Nat.le_of_ble_eq_true rfl) dL_flow_12 ?_
  refine z_iconst X dL_flow_13 ?_
  refine z_widen (k := 1) (n := 6) (Nat.le_of_ble_eq_true rfl) (Nat.le_of_ble_eq_true rfl) ?_
  exact z_iret X hr9 hlk rfl rfl dL_flow_14
set_option maxHeartbeats 4000000 in
set_option maxRecDepth 100000 in
theorem L_stored_0 (l : Launch) (hl : l.stackTraces = false) (D : va_G) (ad : Nat → Nat) (cI cZ cL : ClassId) (ao : Nat) (lf : Nat → Int64) (u : GS) (h : Int) (h0 : 0 ≤ h ∧ h ≤ 5) : zMi l D (zT cI cZ cL) yL_stored wsL_stored ({ frames := 8, cells := 1, slots := 6, locals := 123 } : Room) (Gw ad cI cZ u ++ Ow ao cL lf) [.ref (ad 0), .int (iZ h), .ref (ao)] 0 (Gw ad cI cZ u ++ Ow ao cL (vp_updL lf (iZ 0).toNatClampNeg ((iZ (u.1 5 h)).toInt64))) 1 6 := by
  refine z_miW (cc := cL_stored) (maxL := 4) (ret := some .int) (hh := [(0, 9, 12, 13)]) (by decide) rfl (Nat.le_of_ble_eq_true rfl) ?_
  intro p e s m below meth c A X hr9 hlk htb
  refine z_sub (lv' := [(0, .ref (ad 0)), (1, .int (iZ h)), (2, .ref (ao))]) [0, 1, 2] rfl ?_
  refine z_aload_n X 2 rfl dL_stored_0 ?_
  refine z_iconst X dL_stored_1 ?_
  refine z_aload_n X 0 rfl dL_stored_2 ?_
  refine z_iload_n X 1 rfl dL_stored_3 ?_
  refine z_calli X (c_X1_stored l D ad cI cZ cL u h h0) (cwV 1 X.2.2.2.2.1 gL_stored_X1_stored rfl rfl rfl (by decide +kernel) ⟨Nat.le_of_ble_eq_true rfl, Nat.le_of_ble_eq_true rfl⟩) rfl [] (Ow ao cL lf) rfl 1 0 rfl rfl [.int (iZ 0), .ref (ao)] rfl (Nat.le_of_ble_eq_true rfl) dL_stored_4 ⟨Nat.le_of_ble_eq_true rfl, Nat.le_of_ble_eq_true rfl⟩ rfl ?_
  refine z_i2l X dL_stored_7 ?_
  refine z_last X 18 2 (Gw ad cI cZ u ++ Ow ao cL (vp_updL lf (iZ 0).toNatClampNeg ((iZ (u.1 5 h)).toInt64))) rfl rfl (by omega) (by omega) ⟨by omega, by omega⟩ rfl dL_stored_8 ?_
  refine z_goto (tgt := 15) X (by decide) dL_stored_9 ?_
  refine z_iconst X dL_stored_15 ?_
  refine z_widen (k := 1) (n := 6) (Nat.le_of_ble_eq_true rfl) (Nat.le_of_ble_eq_true rfl) ?_
  exact z_iret X hr9 hlk rfl rfl dL_stored_16
set_option maxHeartbeats 4000000 in
set_option maxRecDepth 100000 in
theorem L_stored_1 (l : Launch) (hl : l.stackTraces = false) (D : va_G) (ad : Nat → Nat) (cI cZ cL : ClassId) (ao : Nat) (lf : Nat → Int64) (u : GS) (h : Int) (hz : zB h) (h0 : ¬ (0 ≤ h ∧ h ≤ 5)) : zMi l D (zT cI cZ cL) yL_stored wsL_stored ({ frames := 8, cells := 1, slots := 6, locals := 123 } : Room) (Gw ad cI cZ u ++ Ow ao cL lf) [.ref (ad 0), .int (iZ h), .ref (ao)] 1 (Gw ad cI cZ u ++ Ow ao cL lf) 1 6 := by
  refine z_miW (cc := cL_stored) (maxL := 4) (ret := some .int) (hh := [(0, 9, 12, 13)]) (by decide) rfl (Nat.le_of_ble_eq_true rfl) ?_
  intro p e s m below meth c A X hr9 hlk htb
  refine z_sub (lv' := [(0, .ref (ad 0)), (1, .int (iZ h)), (2, .ref (ao))]) [0, 1, 2] rfl ?_
  refine z_aload_n X 2 rfl dL_stored_0 ?_
  refine z_iconst X dL_stored_1 ?_
  refine z_aload_n X 0 rfl dL_stored_2 ?_
  refine z_iload_n X 1 rfl dL_stored_3 ?_
  refine z_callxi X (x_X1_stored l hl D ad cI cZ cL u h hz h0) (cwV 1 X.2.2.2.2.1 gL_stored_X1_stored rfl rfl rfl (by decide +kernel) ⟨Nat.le_of_ble_eq_true rfl, Nat.le_of_ble_eq_true rfl⟩) rfl [] (Ow ao cL lf) rfl 1 0 rfl rfl [.int (iZ 0), .ref (ao)] rfl (Nat.le_of_ble_eq_true rfl) dL_stored_4 ⟨Nat.le_of_ble_eq_true rfl, Nat.le_of_ble_eq_true rfl⟩ ?_
  refine z_xcatch X (name := "java/lang/IndexOutOfBoundsException") [] { startPc := 0, endPc := 9, handlerPc := 12, catchType := 13 } [] (htb.trans rfl) (fun _ h => absurd h List.not_mem_nil) (by decide) (by decide) (by decide +kernel) X.2.2.2.2.2.2.2.1.c0 (fun q => ?_)
  refine z_astore_n X [1, 2, 3, 0] [(0, .ref (ad 0)), (1, .int (iZ h)), (2, .ref (ao)), (3, .ref (q))] rfl (Nat.le_of_ble_eq_true rfl) dL_stored_12 ?_
  refine z_iconst X dL_stored_13 ?_
  refine z_widen (k := 1) (n := 6) (Nat.le_of_ble_eq_true rfl) (Nat.le_of_ble_eq_true rfl) ?_
  exact z_iret X hr9 hlk rfl rfl dL_stored_14
set_option maxHeartbeats 4000000 in
set_option maxRecDepth 100000 in
theorem L_part_0 (l : Launch) (hl : l.stackTraces = false) (D : va_G) (ad : Nat → Nat) (cI cZ cL : ClassId) (ao : Nat) (lf : Nat → Int64) (u : GS) (h : Int) (h0 : 0 ≤ h ∧ h ≤ 5) : zMi l D (zT cI cZ cL) yL_part wsL_part ({ frames := 8, cells := 1, slots := 6, locals := 123 } : Room) (Gw ad cI cZ u ++ Ow ao cL lf) [.ref (ad 0), .int (iZ h), .ref (ao)] 0 (Gw ad cI cZ u ++ Ow ao cL (vp_updL lf (iZ 0).toNatClampNeg ((iZ (u.1 4 h)).toInt64))) 1 6 := by
  refine z_miW (cc := cL_part) (maxL := 4) (ret := some .int) (hh := [(0, 9, 12, 13)]) (by decide) rfl (Nat.le_of_ble_eq_true rfl) ?_
  intro p e s m below meth c A X hr9 hlk htb
  refine z_sub (lv' := [(0, .ref (ad 0)), (1, .int (iZ h)), (2, .ref (ao))]) [0, 1, 2] rfl ?_
  refine z_aload_n X 2 rfl dL_part_0 ?_
  refine z_iconst X dL_part_1 ?_
  refine z_aload_n X 0 rfl dL_part_2 ?_
  refine z_iload_n X 1 rfl dL_part_3 ?_
  refine z_calli X (c_X1_part l D ad cI cZ cL u h h0) (cwV 1 X.2.2.2.2.1 gL_part_X1_part rfl rfl rfl (by decide +kernel) ⟨Nat.le_of_ble_eq_true rfl, Nat.le_of_ble_eq_true rfl⟩) rfl [] (Ow ao cL lf) rfl 1 0 rfl rfl [.int (iZ 0), .ref (ao)] rfl (Nat.le_of_ble_eq_true rfl) dL_part_4 ⟨Nat.le_of_ble_eq_true rfl, Nat.le_of_ble_eq_true rfl⟩ rfl ?_
  refine z_i2l X dL_part_7 ?_
  refine z_last X 18 2 (Gw ad cI cZ u ++ Ow ao cL (vp_updL lf (iZ 0).toNatClampNeg ((iZ (u.1 4 h)).toInt64))) rfl rfl (by omega) (by omega) ⟨by omega, by omega⟩ rfl dL_part_8 ?_
  refine z_goto (tgt := 15) X (by decide) dL_part_9 ?_
  refine z_iconst X dL_part_15 ?_
  refine z_widen (k := 1) (n := 6) (Nat.le_of_ble_eq_true rfl) (Nat.le_of_ble_eq_true rfl) ?_
  exact z_iret X hr9 hlk rfl rfl dL_part_16
set_option maxHeartbeats 4000000 in
set_option maxRecDepth 100000 in
theorem L_part_1 (l : Launch) (hl : l.stackTraces = false) (D : va_G) (ad : Nat → Nat) (cI cZ cL : ClassId) (ao : Nat) (lf : Nat → Int64) (u : GS) (h : Int) (hz : zB h) (h0 : ¬ (0 ≤ h ∧ h ≤ 5)) : zMi l D (zT cI cZ cL) yL_part wsL_part ({ frames := 8, cells := 1, slots := 6, locals := 123 } : Room) (Gw ad cI cZ u ++ Ow ao cL lf) [.ref (ad 0), .int (iZ h), .ref (ao)] 1 (Gw ad cI cZ u ++ Ow ao cL lf) 1 6 := by
  refine z_miW (cc := cL_part) (maxL := 4) (ret := some .int) (hh := [(0, 9, 12, 13)]) (by decide) rfl (Nat.le_of_ble_eq_true rfl) ?_
  intro p e s m below meth c A X hr9 hlk htb
  refine z_sub (lv' := [(0, .ref (ad 0)), (1, .int (iZ h)), (2, .ref (ao))]) [0, 1, 2] rfl ?_
  refine z_aload_n X 2 rfl dL_part_0 ?_
  refine z_iconst X dL_part_1 ?_
  refine z_aload_n X 0 rfl dL_part_2 ?_
  refine z_iload_n X 1 rfl dL_part_3 ?_
  refine z_callxi X (x_X1_part l hl D ad cI cZ cL u h hz h0) (cwV 1 X.2.2.2.2.1 gL_part_X1_part rfl rfl rfl (by decide +kernel) ⟨Nat.le_of_ble_eq_true rfl, Nat.le_of_ble_eq_true rfl⟩) rfl [] (Ow ao cL lf) rfl 1 0 rfl rfl [.int (iZ 0), .ref (ao)] rfl (Nat.le_of_ble_eq_true rfl) dL_part_4 ⟨Nat.le_of_ble_eq_true rfl, Nat.le_of_ble_eq_true rfl⟩ ?_
  refine z_xcatch X (name := "java/lang/IndexOutOfBoundsException") [] { startPc := 0, endPc := 9, handlerPc := 12, catchType := 13 } [] (htb.trans rfl) (fun _ h => absurd h List.not_mem_nil) (by decide) (by decide) (by decide +kernel) X.2.2.2.2.2.2.2.1.c0 (fun q => ?_)
  refine z_astore_n X [1, 2, 3, 0] [(0, .ref (ad 0)), (1, .int (iZ h)), (2, .ref (ao)), (3, .ref (q))] rfl (Nat.le_of_ble_eq_true rfl) dL_part_12 ?_
  refine z_iconst X dL_part_13 ?_
  refine z_widen (k := 1) (n := 6) (Nat.le_of_ble_eq_true rfl) (Nat.le_of_ble_eq_true rfl) ?_
  exact z_iret X hr9 hlk rfl rfl dL_part_14
set_option maxHeartbeats 4000000 in
set_option maxRecDepth 100000 in
theorem L_bill_0 (l : Launch) (hl : l.stackTraces = false) (D : va_G) (ad : Nat → Nat) (cI cZ cL : ClassId) (ao : Nat) (lf : Nat → Int64) (u : GS) (h : Int) (h0 : 0 ≤ h ∧ h ≤ 5) : zMi l D (zT cI cZ cL) yL_bill wsL_bill ({ frames := 8, cells := 1, slots := 6, locals := 123 } : Room) (Gw ad cI cZ u ++ Ow ao cL lf) [.ref (ad 0), .int (iZ h), .ref (ao)] 0 (Gw ad cI cZ u ++ Ow ao cL (vp_updL lf (iZ 0).toNatClampNeg ((iZ (u.1 6 h)).toInt64))) 1 6 := by
  refine z_miW (cc := cL_bill) (maxL := 4) (ret := some .int) (hh := [(0, 9, 12, 13)]) (by decide) rfl (Nat.le_of_ble_eq_true rfl) ?_
  intro p e s m below meth c A X hr9 hlk htb
  refine z_sub (lv' := [(0, .ref (ad 0)), (1, .int (iZ h)), (2, .ref (ao))]) [0, 1, 2] rfl ?_
  refine z_aload_n X 2 rfl dL_bill_0 ?_
  refine z_iconst X dL_bill_1 ?_
  refine z_aload_n X 0 rfl dL_bill_2 ?_
  refine z_iload_n X 1 rfl dL_bill_3 ?_
  refine z_calli X (c_X1_bill l D ad cI cZ cL u h h0) (cwV 1 X.2.2.2.2.1 gL_bill_X1_bill rfl rfl rfl (by decide +kernel) ⟨Nat.le_of_ble_eq_true rfl, Nat.le_of_ble_eq_true rfl⟩) rfl [] (Ow ao cL lf) rfl 1 0 rfl rfl [.int (iZ 0), .ref (ao)] rfl (Nat.le_of_ble_eq_true rfl) dL_bill_4 ⟨Nat.le_of_ble_eq_true rfl, Nat.le_of_ble_eq_true rfl⟩ rfl ?_
  refine z_i2l X dL_bill_7 ?_
  refine z_last X 18 2 (Gw ad cI cZ u ++ Ow ao cL (vp_updL lf (iZ 0).toNatClampNeg ((iZ (u.1 6 h)).toInt64))) rfl rfl (by omega) (by omega) ⟨by omega, by omega⟩ rfl dL_bill_8 ?_
  refine z_goto (tgt := 15) X (by decide) dL_bill_9 ?_
  refine z_iconst X dL_bill_15 ?_
  refine z_widen (k := 1) (n := 6) (Nat.le_of_ble_eq_true rfl) (Nat.le_of_ble_eq_true rfl) ?_
  exact z_iret X hr9 hlk rfl rfl dL_bill_16
set_option maxHeartbeats 4000000 in
set_option maxRecDepth 100000 in
theorem L_bill_1 (l : Launch) (hl : l.stackTraces = false) (D : va_G) (ad : Nat → Nat) (cI cZ cL : ClassId) (ao : Nat) (lf : Nat → Int64) (u : GS) (h : Int) (hz : zB h) (h0 : ¬ (0 ≤ h ∧ h ≤ 5)) : zMi l D (zT cI cZ cL) yL_bill wsL_bill ({ frames := 8, cells := 1, slots := 6, locals := 123 } : Room) (Gw ad cI cZ u ++ Ow ao cL lf) [.ref (ad 0), .int (iZ h), .ref (ao)] 1 (Gw ad cI cZ u ++ Ow ao cL lf) 1 6 := by
  refine z_miW (cc := cL_bill) (maxL := 4) (ret := some .int) (hh := [(0, 9, 12, 13)]) (by decide) rfl (Nat.le_of_ble_eq_true rfl) ?_
  intro p e s m below meth c A X hr9 hlk htb
  refine z_sub (lv' := [(0, .ref (ad 0)), (1, .int (iZ h)), (2, .ref (ao))]) [0, 1, 2] rfl ?_
  refine z_aload_n X 2 rfl dL_bill_0 ?_
  refine z_iconst X dL_bill_1 ?_
  refine z_aload_n X 0 rfl dL_bill_2 ?_
  refine z_iload_n X 1 rfl dL_bill_3 ?_
  refine z_callxi X (x_X1_bill l hl D ad cI cZ cL u h hz h0) (cwV 1 X.2.2.2.2.1 gL_bill_X1_bill rfl rfl rfl (by decide +kernel) ⟨Nat.le_of_ble_eq_true rfl, Nat.le_of_ble_eq_true rfl⟩) rfl [] (Ow ao cL lf) rfl 1 0 rfl rfl [.int (iZ 0), .ref (ao)] rfl (Nat.le_of_ble_eq_true rfl) dL_bill_4 ⟨Nat.le_of_ble_eq_true rfl, Nat.le_of_ble_eq_true rfl⟩ ?_
  refine z_xcatch X (name := "java/lang/IndexOutOfBoundsException") [] { startPc := 0, endPc := 9, handlerPc := 12, catchType := 13 } [] (htb.trans rfl) (fun _ h => absurd h List.not_mem_nil) (by decide) (by decide) (by decide +kernel) X.2.2.2.2.2.2.2.1.c0 (fun q => ?_)
  refine z_astore_n X [1, 2, 3, 0] [(0, .ref (ad 0)), (1, .int (iZ h)), (2, .ref (ao)), (3, .ref (q))] rfl (Nat.le_of_ble_eq_true rfl) dL_bill_12 ?_
  refine z_iconst X dL_bill_13 ?_
  refine z_widen (k := 1) (n := 6) (Nat.le_of_ble_eq_true rfl) (Nat.le_of_ble_eq_true rfl) ?_
  exact z_iret X hr9 hlk rfl rfl dL_bill_14
set_option maxHeartbeats 4000000 in
set_option maxRecDepth 100000 in
theorem L_isMember_0a (l : Launch) (hl : l.stackTraces = false) (D : va_G) (ad : Nat → Nat) (cI cZ cL : ClassId) (ao : Nat) (lf : Nat → Int64) (u : GS) (h : Int) (h0 : 0 ≤ h ∧ h ≤ 5) (hm : ∀ i, 0 ≤ u.1 0 i ∧ u.1 0 i ≤ 1) (hv : u.1 0 h = 1) : zMi l D (zT cI cZ cL) yL_isMember wsL_isMember ({ frames := 8, cells := 1, slots := 6, locals := 123 } : Room) (Gw ad cI cZ u ++ Ow ao cL lf) [.ref (ad 0), .int (iZ h), .ref (ao)] 0 (Gw ad cI cZ u ++ Ow ao cL (vp_updL lf (iZ 0).toNatClampNeg 1)) 1 6 := by
  refine z_miW (cc := cL_isMember) (maxL := 4) (ret := some .int) (hh := [(0, 16, 19, 13)]) (by decide) rfl (Nat.le_of_ble_eq_true rfl) ?_
  intro p e s m below meth c A X hr9 hlk htb
  refine z_sub (lv' := [(0, .ref (ad 0)), (1, .int (iZ h)), (2, .ref (ao))]) [0, 1, 2] rfl ?_
  refine z_aload_n X 2 rfl dL_isMember_0 ?_
  refine z_iconst X dL_isMember_1 ?_
  refine z_aload_n X 0 rfl dL_isMember_2 ?_
  refine z_iload_n X 1 rfl dL_isMember_3 ?_
  refine z_calli X (c_X1_isMember l D ad cI cZ cL u h h0 hm) (cwV 1 X.2.2.2.2.1 gL_isMember_X1_isMember rfl rfl rfl (by decide +kernel) ⟨Nat.le_of_ble_eq_true rfl, Nat.le_of_ble_eq_true rfl⟩) rfl [] (Ow ao cL lf) rfl 1 0 rfl rfl [.int (iZ 0), .ref (ao)] rfl (Nat.le_of_ble_eq_true rfl) dL_isMember_4 ⟨Nat.le_of_ble_eq_true rfl, Nat.le_of_ble_eq_true rfl⟩ rfl ?_
  refine z_if_eq (tgt := 14) X ⟨by omega, by omega⟩ (by decide) dL_isMember_7 (fun q1 => ?_) (fun q1 => ?_)
  · exact absurd q1 (by omega)
  refine z_lconst X (v := 1) rfl dL_isMember_10 ?_
  refine z_goto (tgt := 15) X (by decide) dL_isMember_11 ?_
  refine z_last X 18 2 (Gw ad cI cZ u ++ Ow ao cL (vp_updL lf (iZ 0).toNatClampNeg 1)) rfl rfl (by omega) (by omega) ⟨by omega, by omega⟩ rfl dL_isMember_15 ?_
  refine z_goto (tgt := 22) X (by decide) dL_isMember_16 ?_
  refine z_iconst X dL_isMember_22 ?_
  refine z_widen (k := 1) (n := 6) (Nat.le_of_ble_eq_true rfl) (Nat.le_of_ble_eq_true rfl) ?_
  exact z_iret X hr9 hlk rfl rfl dL_isMember_23
set_option maxHeartbeats 4000000 in
set_option maxRecDepth 100000 in
theorem L_isMember_0b (l : Launch) (hl : l.stackTraces = false) (D : va_G) (ad : Nat → Nat) (cI cZ cL : ClassId) (ao : Nat) (lf : Nat → Int64) (u : GS) (h : Int) (h0 : 0 ≤ h ∧ h ≤ 5) (hm : ∀ i, 0 ≤ u.1 0 i ∧ u.1 0 i ≤ 1) (hv : u.1 0 h = 0) : zMi l D (zT cI cZ cL) yL_isMember wsL_isMember ({ frames := 8, cells := 1, slots := 6, locals := 123 } : Room) (Gw ad cI cZ u ++ Ow ao cL lf) [.ref (ad 0), .int (iZ h), .ref (ao)] 0 (Gw ad cI cZ u ++ Ow ao cL (vp_updL lf (iZ 0).toNatClampNeg 0)) 1 6 := by
  refine z_miW (cc := cL_isMember) (maxL := 4) (ret := some .int) (hh := [(0, 16, 19, 13)]) (by decide) rfl (Nat.le_of_ble_eq_true rfl) ?_
  intro p e s m below meth c A X hr9 hlk htb
  refine z_sub (lv' := [(0, .ref (ad 0)), (1, .int (iZ h)), (2, .ref (ao))]) [0, 1, 2] rfl ?_
  refine z_aload_n X 2 rfl dL_isMember_0 ?_
  refine z_iconst X dL_isMember_1 ?_
  refine z_aload_n X 0 rfl dL_isMember_2 ?_
  refine z_iload_n X 1 rfl dL_isMember_3 ?_
  refine z_calli X (c_X1_isMember l D ad cI cZ cL u h h0 hm) (cwV 1 X.2.2.2.2.1 gL_isMember_X1_isMember rfl rfl rfl (by decide +kernel) ⟨Nat.le_of_ble_eq_true rfl, Nat.le_of_ble_eq_true rfl⟩) rfl [] (Ow ao cL lf) rfl 1 0 rfl rfl [.int (iZ 0), .ref (ao)] rfl (Nat.le_of_ble_eq_true rfl) dL_isMember_4 ⟨Nat.le_of_ble_eq_true rfl, Nat.le_of_ble_eq_true rfl⟩ rfl ?_
  refine z_if_eq (tgt := 14) X ⟨by omega, by omega⟩ (by decide) dL_isMember_7 (fun q1 => ?_) (fun q1 => ?_)
  rotate_left
  · exact absurd (by omega) q1
  refine z_lconst X (v := 0) rfl dL_isMember_14 ?_
  refine z_last X 18 2 (Gw ad cI cZ u ++ Ow ao cL (vp_updL lf (iZ 0).toNatClampNeg 0)) rfl rfl (by omega) (by omega) ⟨by omega, by omega⟩ rfl dL_isMember_15 ?_
  refine z_goto (tgt := 22) X (by decide) dL_isMember_16 ?_
  refine z_iconst X dL_isMember_22 ?_
  refine z_widen (k := 1) (n := 6) (Nat.le_of_ble_eq_true rfl) (Nat.le_of_ble_eq_true rfl) ?_
  exact z_iret X hr9 hlk rfl rfl dL_isMember_23
set_option maxHeartbeats 4000000 in
set_option maxRecDepth 100000 in
theorem L_isMember_1 (l : Launch) (hl : l.stackTraces = false) (D : va_G) (ad : Nat → Nat) (cI cZ cL : ClassId) (ao : Nat) (lf : Nat → Int64) (u : GS) (h : Int) (hz : zB h) (h0 : ¬ (0 ≤ h ∧ h ≤ 5)) : zMi l D (zT cI cZ cL) yL_isMember wsL_isMember ({ frames := 8, cells := 1, slots := 6, locals := 123 } : Room) (Gw ad cI cZ u ++ Ow ao cL lf) [.ref (ad 0), .int (iZ h), .ref (ao)] 1 (Gw ad cI cZ u ++ Ow ao cL lf) 1 6 := by
  refine z_miW (cc := cL_isMember) (maxL := 4) (ret := some .int) (hh := [(0, 16, 19, 13)]) (by decide) rfl (Nat.le_of_ble_eq_true rfl) ?_
  intro p e s m below meth c A X hr9 hlk htb
  refine z_sub (lv' := [(0, .ref (ad 0)), (1, .int (iZ h)), (2, .ref (ao))]) [0, 1, 2] rfl ?_
  refine z_aload_n X 2 rfl dL_isMember_0 ?_
  refine z_iconst X dL_isMember_1 ?_
  refine z_aload_n X 0 rfl dL_isMember_2 ?_
  refine z_iload_n X 1 rfl dL_isMember_3 ?_
  refine z_callxi X (x_X1_isMember l hl D ad cI cZ cL u h hz h0) (cwV 1 X.2.2.2.2.1 gL_isMember_X1_isMember rfl rfl rfl (by decide +kernel) ⟨Nat.le_of_ble_eq_true rfl, Nat.le_of_ble_eq_true rfl⟩) rfl [] (Ow ao cL lf) rfl 1 0 rfl rfl [.int (iZ 0), .ref (ao)] rfl (Nat.le_of_ble_eq_true rfl) dL_isMember_4 ⟨Nat.le_of_ble_eq_true rfl, Nat.le_of_ble_eq_true rfl⟩ ?_
  refine z_xcatch X (name := "java/lang/IndexOutOfBoundsException") [] { startPc := 0, endPc := 16, handlerPc := 19, catchType := 13 } [] (htb.trans rfl) (fun _ h => absurd h List.not_mem_nil) (by decide) (by decide) (by decide +kernel) X.2.2.2.2.2.2.2.1.c0 (fun q => ?_)
  refine z_astore_n X [1, 2, 3, 0] [(0, .ref (ad 0)), (1, .int (iZ h)), (2, .ref (ao)), (3, .ref (q))] rfl (Nat.le_of_ble_eq_true rfl) dL_isMember_19 ?_
  refine z_iconst X dL_isMember_20 ?_
  refine z_widen (k := 1) (n := 6) (Nat.le_of_ble_eq_true rfl) (Nat.le_of_ble_eq_true rfl) ?_
  exact z_iret X hr9 hlk rfl rfl dL_isMember_21
