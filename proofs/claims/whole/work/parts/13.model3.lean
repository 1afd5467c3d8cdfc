section ZR
variable {p : Program} {l : Launch} {e : Env} {R : Room} {s : State} {m : MethodId} {args : Array Value} {below : List Frame} {meth : Method} {c : Code} {cells slots : Nat} {Q : State → Prop}
variable {cc : ByteArray} {pc nL : Nat} {own : String} {Ts : List Cond} {D : va_G} {tys : List (ClassId × FieldType)} {A : Nat → Prop} {ws : va_W} {lv : List (Nat × Value)} {st : List Value}
theorem z_icmpR_lt (X : zC p s m args c cc nL own Ts D tys A) {x y : Int32} {off : Int} {tgt : Nat} (ht : (pc : Int) + off = (tgt : Int)) (d : decode cc pc = .ok (.if_icmp .lt off, 3))
    (kt : zW p l e R s m args below meth c nL D A cells slots Q ws tgt lv st) (kf : zW p l e R s m args below meth c nL D A cells slots Q ws (pc + 3) lv st) : zW p l e R s m args below meth c nL D A cells slots Q ws pc lv (.int y :: .int x :: st) :=
  fun H locs ls hP hD hS hv => lv_icmp_lt X.1 X.2.1 d ht (fun _ => kt H locs ls hP hD hS hv) (fun _ => kf H locs ls hP hD hS hv)
end ZR
set_option maxHeartbeats 4000000 in
set_option maxRecDepth 100000 in
theorem c_X2_forecast (l : Launch) (D : va_G) (ad : Nat → Nat) (cI cZ cL : ClassId) (w : GS) (h x : Int) (hz : zB h) (hz2 : zB x) (hB : Bdm w) : zMi l D (zT cI cZ cL) yX2_forecast wsX2_forecast ({ frames := 3, cells := 0, slots := 0, locals := 63 } : Room) (Mw ad cI cZ w) [.ref (ad 0), .int (iZ h), .int (iZ x)] (if m_goesC (m_in h 0 5) (m_in x (-50) 50) (m_belongs w h) = 0 then w.1 0 h else 0) (Mw ad cI cZ (m_when w (m_goesC (m_in h 0 5) (m_in x (-50) 50) (m_belongs w h)) (gA (gV w 6 0) 0 h x))) 0 0 := by
  refine z_mi (cc := cX2_forecast) (maxL := 4) (ret := (some .int)) (by decide) rfl (Nat.le_of_ble_eq_true rfl) ?_
  intro p e s m below meth c A X hr hlk hin
  have hiX2 : ∀ w ∈ wsX20, w ∈ wsX2_forecast := by decide +kernel
  refine z_sub (lv' := [(0, .ref (ad 0)), (1, .int (iZ h)), (2, .int (iZ x))]) [0, 1, 2] rfl ?_
  refine z_aload_n X 0 rfl dX2_forecast_0 ?_
  refine z_iload_n X 1 rfl dX2_forecast_1 ?_
  refine z_callis X (c_X2_isHouse l D ad cI cZ cL h ⟨by omega, by omega⟩) (va_cwS 1 X.2.2.2.2.1 gX2_forecast_X2_isHouse rfl rfl rfl (by decide +kernel) ⟨Nat.le_of_ble_eq_true rfl, Nat.le_of_ble_eq_true rfl⟩) rfl [] (Mw ad cI cZ w) rfl [.ref (ad 0)] rfl (Nat.le_of_ble_eq_true rfl) dX2_forecast_2 ⟨Nat.le_of_ble_eq_true rfl, Nat.le_of_ble_eq_true rfl⟩ rfl ?_
  have r_1 := m_in_sp h 0 5
  refine z_iload_n X 2 rfl dX2_forecast_5 ?_
  refine z_bipush X (by decide) dX2_forecast_6 ?_
  refine z_bipush X (by decide) dX2_forecast_8 ?_
  refine z_callis X (c_X2_in l D ad cI cZ cL x (-50) 50 ⟨by omega, by omega⟩ ⟨by omega, by omega⟩ ⟨by omega, by omega⟩) (va_cwS 3 X.2.2.2.2.1 gX2_forecast_X2_in rfl rfl rfl (by decide +kernel) ⟨Nat.le_of_ble_eq_true rfl, Nat.le_of_ble_eq_true rfl⟩) rfl [] (Mw ad cI cZ w) rfl [.int (iZ (m_in h 0 5)), .ref (ad 0)] rfl (Nat.le_of_ble_eq_true rfl) dX2_forecast_10 ⟨Nat.le_of_ble_eq_true rfl, Nat.le_of_ble_eq_true rfl⟩ rfl ?_
  have r_2 := m_in_sp x (-50) 50
  refine z_aload_n X 0 rfl dX2_forecast_13 ?_
  refine z_iload_n X 1 rfl dX2_forecast_14 ?_
  refine z_calli X (c_X2_belongs l D ad cI cZ cL w h ⟨by omega, by omega⟩ hB) (cwV 1 X.2.2.2.2.1 gX2_forecast_X2_belongs rfl rfl rfl (by decide +kernel) ⟨Nat.le_of_ble_eq_true rfl, Nat.le_of_ble_eq_true rfl⟩) rfl [] [] (List.append_nil _).symm 2 0 rfl rfl [.int (iZ (m_in x (-50) 50)), .int (iZ (m_in h 0 5)), .ref (ad 0)] rfl (Nat.le_of_ble_eq_true rfl) dX2_forecast_15 ⟨Nat.le_of_ble_eq_true rfl, Nat.le_of_ble_eq_true rfl⟩ (List.append_nil _) ?_
  have r_3 := m_belongs_sp w h
  refine z_calli X (c_X2_goes l D ad cI cZ cL w (m_in h 0 5) (m_in x (-50) 50) (m_belongs w h) (by omega) (by omega) (by omega)) (cwV 3 X.2.2.2.2.1 gX2_forecast_X2_goes rfl rfl rfl (by decide +kernel) ⟨Nat.le_of_ble_eq_true rfl, Nat.le_of_ble_eq_true rfl⟩) rfl [] [] (List.append_nil _).symm 2 0 rfl rfl [] rfl (Nat.le_of_ble_eq_true rfl) dX2_forecast_18 ⟨Nat.le_of_ble_eq_true rfl, Nat.le_of_ble_eq_true rfl⟩ (List.append_nil _) ?_
  have r_4 := m_goes_sp (m_in h 0 5) (m_in x (-50) 50) (m_belongs w h)
  refine z_if_ne (tgt := 26) X ⟨by omega, by omega⟩ (by decide) dX2_forecast_21 (fun c_5 => ?_) (fun c_5 => ?_)
  · skip
    refine z_aload_n X 0 rfl dX2_forecast_26 ?_
    refine z_get (v := .ref (ad 1)) X 2 0 0 hiX2 rfl rfl (by decide) ⟨rfl, rfl, rfl⟩ (by decide +kernel) rfl dX2_forecast_27 ?_
    refine z_iload_n X 1 rfl dX2_forecast_30 ?_
    refine z_iald (g := w.1 0) X 1 0 rfl rfl (by omega) (by omega) ⟨by omega, by omega⟩ dX2_forecast_31 ?_
    have b_6 := hB 0 rfl h
    refine z_istore_n X [1, 2, 3, 0] [(0, .ref (ad 0)), (1, .int (iZ h)), (2, .int (iZ x)), (3, .int (iZ (w.1 0 h)))] rfl (Nat.le_of_ble_eq_true rfl) dX2_forecast_32 ?_
    refine z_aload_n X 0 rfl dX2_forecast_33 ?_
    refine z_get (v := .ref (ad 1)) X 2 0 0 hiX2 rfl rfl (by decide) ⟨rfl, rfl, rfl⟩ (by decide +kernel) rfl dX2_forecast_34 ?_
    refine z_iload_n X 1 rfl dX2_forecast_37 ?_
    refine z_iload_n X 2 rfl dX2_forecast_38 ?_
    refine z_iast (g := w.1 0) X 1 0 (Mw ad cI cZ (gA (gV w 6 (m_goesC (m_in h 0 5) (m_in x (-50) 50) (m_belongs w h))) 0 h x)) rfl rfl (by omega) (by omega) ⟨by omega, by omega⟩ rfl dX2_forecast_39 ?_
    refine z_iload_n X 3 rfl dX2_forecast_40 ?_
    exact z_iret X hr hlk (if_pos (by omega)).symm (congrArg (Mw ad cI cZ) (by have e9 : m_goesC (m_in h 0 5) (m_in x (-50) 50) (m_belongs w h) = 0 := (by omega); unfold m_when; rw [if_pos e9]; try rw [e9]; try rfl)) dX2_forecast_41
  · skip
    refine z_iconst X dX2_forecast_24 ?_
    exact z_iret X hr hlk (if_neg (by omega)).symm (congrArg (Mw ad cI cZ) (by have e9 : ¬ m_goesC (m_in h 0 5) (m_in x (-50) 50) (m_belongs w h) = 0 := (by omega); exact (if_neg e9).symm)) dX2_forecast_25
set_option maxHeartbeats 4000000 in
set_option maxRecDepth 100000 in
theorem c_X2_meter (l : Launch) (D : va_G) (ad : Nat → Nat) (cI cZ cL : ClassId) (w : GS) (h x : Int) (hz : zB h) (hz2 : zB x) (hB : Bdm w) : zMi l D (zT cI cZ cL) yX2_meter wsX2_meter ({ frames := 3, cells := 0, slots := 0, locals := 63 } : Room) (Mw ad cI cZ w) [.ref (ad 0), .int (iZ h), .int (iZ x)] (if m_goesC (m_in h 0 5) (m_in x (-50) 50) (m_belongs w h) = 0 then w.1 1 h else 0) (Mw ad cI cZ (m_when w (m_goesC (m_in h 0 5) (m_in x (-50) 50) (m_belongs w h)) (gA (gV w 6 0) 1 h x))) 0 0 := by
  refine z_mi (cc := cX2_meter) (maxL := 4) (ret := (some .int)) (by decide) rfl (Nat.le_of_ble_eq_true rfl) ?_
  intro p e s m below meth c A X hr hlk hin
  have hiX2 : ∀ w ∈ wsX20, w ∈ wsX2_meter := by decide +kernel
  refine z_sub (lv' := [(0, .ref (ad 0)), (1, .int (iZ h)), (2, .int (iZ x))]) [0, 1, 2] rfl ?_
  refine z_aload_n X 0 rfl dX2_meter_0 ?_
  refine z_iload_n X 1 rfl dX2_meter_1 ?_
  refine z_callis X (c_X2_isHouse l D ad cI cZ cL h ⟨by omega, by omega⟩) (va_cwS 1 X.2.2.2.2.1 gX2_meter_X2_isHouse rfl rfl rfl (by decide +kernel) ⟨Nat.le_of_ble_eq_true rfl, Nat.le_of_ble_eq_true rfl⟩) rfl [] (Mw ad cI cZ w) rfl [.ref (ad 0)] rfl (Nat.le_of_ble_eq_true rfl) dX2_meter_2 ⟨Nat.le_of_ble_eq_true rfl, Nat.le_of_ble_eq_true rfl⟩ rfl ?_
  have r_1 := m_in_sp h 0 5
  refine z_iload_n X 2 rfl dX2_meter_5 ?_
  refine z_bipush X (by decide) dX2_meter_6 ?_
  refine z_bipush X (by decide) dX2_meter_8 ?_
  refine z_callis X (c_X2_in l D ad cI cZ cL x (-50) 50 ⟨by omega, by omega⟩ ⟨by omega, by omega⟩ ⟨by omega, by omega⟩) (va_cwS 3 X.2.2.2.2.1 gX2_meter_X2_in rfl rfl rfl (by decide +kernel) ⟨Nat.le_of_ble_eq_true rfl, Nat.le_of_ble_eq_true rfl⟩) rfl [] (Mw ad cI cZ w) rfl [.int (iZ (m_in h 0 5)), .ref (ad 0)] rfl (Nat.le_of_ble_eq_true rfl) dX2_meter_10 ⟨Nat.le_of_ble_eq_true rfl, Nat.le_of_ble_eq_true rfl⟩ rfl ?_
  have r_2 := m_in_sp x (-50) 50
  refine z_aload_n X 0 rfl dX2_meter_13 ?_
  refine z_iload_n X 1 rfl dX2_meter_14 ?_
  refine z_calli X (c_X2_belongs l D ad cI cZ cL w h ⟨by omega, by omega⟩ hB) (cwV 1 X.2.2.2.2.1 gX2_meter_X2_belongs rfl rfl rfl (by decide +kernel) ⟨Nat.le_of_ble_eq_true rfl, Nat.le_of_ble_eq_true rfl⟩) rfl [] [] (List.append_nil _).symm 2 0 rfl rfl [.int (iZ (m_in x (-50) 50)), .int (iZ (m_in h 0 5)), .ref (ad 0)] rfl (Nat.le_of_ble_eq_true rfl) dX2_meter_15 ⟨Nat.le_of_ble_eq_true rfl, Nat.le_of_ble_eq_true rfl⟩ (List.append_nil _) ?_
  have r_3 := m_belongs_sp w h
  refine z_calli X (c_X2_goes l D ad cI cZ cL w (m_in h 0 5) (m_in x (-50) 50) (m_belongs w h) (by omega) (by omega) (by omega)) (cwV 3 X.2.2.2.2.1 gX2_meter_X2_goes rfl rfl rfl (by decide +kernel) ⟨Nat.le_of_ble_eq_true rfl, Nat.le_of_ble_eq_true rfl⟩) rfl [] [] (List.append_nil _).symm 2 0 rfl rfl [] rfl (Nat.le_of_ble_eq_true rfl) dX2_meter_18 ⟨Nat.le_of_ble_eq_true rfl, Nat.le_of_ble_eq_true rfl⟩ (List.append_nil _) ?_
  have r_4 := m_goes_sp (m_in h 0 5) (m_in x (-50) 50) (m_belongs w h)
  refine z_if_ne (tgt := 26) X ⟨by omega, by omega⟩ (by decide) dX2_meter_21 (fun c_5 => ?_) (fun c_5 => ?_)
  · skip
    refine z_aload_n X 0 rfl dX2_meter_26 ?_
    refine z_get (v := .ref (ad 2)) X 2 0 1 hiX2 rfl rfl (by decide) ⟨rfl, rfl, rfl⟩ (by decide +kernel) rfl dX2_meter_27 ?_
    refine z_iload_n X 1 rfl dX2_meter_30 ?_
    refine z_iald (g := w.1 1) X 2 0 rfl rfl (by omega) (by omega) ⟨by omega, by omega⟩ dX2_meter_31 ?_
    have b_6 := hB 1 rfl h
    refine z_istore_n X [1, 2, 3, 0] [(0, .ref (ad 0)), (1, .int (iZ h)), (2, .int (iZ x)), (3, .int (iZ (w.1 1 h)))] rfl (Nat.le_of_ble_eq_true rfl) dX2_meter_32 ?_
    refine z_aload_n X 0 rfl dX2_meter_33 ?_
    refine z_get (v := .ref (ad 2)) X 2 0 1 hiX2 rfl rfl (by decide) ⟨rfl, rfl, rfl⟩ (by decide +kernel) rfl dX2_meter_34 ?_
    refine z_iload_n X 1 rfl dX2_meter_37 ?_
    refine z_iload_n X 2 rfl dX2_meter_38 ?_
    refine z_iast (g := w.1 1) X 2 0 (Mw ad cI cZ (gA (gV w 6 (m_goesC (m_in h 0 5) (m_in x (-50) 50) (m_belongs w h))) 1 h x)) rfl rfl (by omega) (by omega) ⟨by omega, by omega⟩ rfl dX2_meter_39 ?_
    refine z_iload_n X 3 rfl dX2_meter_40 ?_
    exact z_iret X hr hlk (if_pos (by omega)).symm (congrArg (Mw ad cI cZ) (by have e9 : m_goesC (m_in h 0 5) (m_in x (-50) 50) (m_belongs w h) = 0 := (by omega); unfold m_when; rw [if_pos e9]; try rw [e9]; try rfl)) dX2_meter_41
  · skip
    refine z_iconst X dX2_meter_24 ?_
    exact z_iret X hr hlk (if_neg (by omega)).symm (congrArg (Mw ad cI cZ) (by have e9 : ¬ m_goesC (m_in h 0 5) (m_in x (-50) 50) (m_belongs w h) = 0 := (by omega); exact (if_neg e9).symm)) dX2_meter_25
set_option maxHeartbeats 4000000 in
set_option maxRecDepth 100000 in
theorem c_X2_setPrice (l : Launch) (D : va_G) (ad : Nat → Nat) (cI cZ cL : ClassId) (w : GS) (h x : Int) (hz : zB h) (hz2 : zB x) (hB : Bdm w) : zMi l D (zT cI cZ cL) yX2_setPrice wsX2_setPrice ({ frames := 2, cells := 0, slots := 0, locals := 42 } : Room) (Mw ad cI cZ w) [.ref (ad 0), .int (iZ h), .int (iZ x)] (if m_goesC (m_in h 0 5) (m_in x 0 100) 1 = 0 then w.1 2 h else 0) (Mw ad cI cZ (m_when w (m_goesC (m_in h 0 5) (m_in x 0 100) 1) (gA (gV w 6 0) 2 h x))) 0 0 := by
  refine z_mi (cc := cX2_setPrice) (maxL := 4) (ret := (some .int)) (by decide) rfl (Nat.le_of_ble_eq_true rfl) ?_
  intro p e s m below meth c A X hr hlk hin
  have hiX2 : ∀ w ∈ wsX20, w ∈ wsX2_setPrice := by decide +kernel
  refine z_sub (lv' := [(0, .ref (ad 0)), (1, .int (iZ h)), (2, .int (iZ x))]) [0, 1, 2] rfl ?_
  refine z_aload_n X 0 rfl dX2_setPrice_0 ?_
  refine z_iload_n X 1 rfl dX2_setPrice_1 ?_
  refine z_callis X (c_X2_isHouse l D ad cI cZ cL h ⟨by omega, by omega⟩) (va_cwS 1 X.2.2.2.2.1 gX2_setPrice_X2_isHouse rfl rfl rfl (by decide +kernel) ⟨Nat.le_of_ble_eq_true rfl, Nat.le_of_ble_eq_true rfl⟩) rfl [] (Mw ad cI cZ w) rfl [.ref (ad 0)] rfl (Nat.le_of_ble_eq_true rfl) dX2_setPrice_2 ⟨Nat.le_of_ble_eq_true rfl, Nat.le_of_ble_eq_true rfl⟩ rfl ?_
  have r_1 := m_in_sp h 0 5
  refine z_iload_n X 2 rfl dX2_setPrice_5 ?_
  refine z_iconst X dX2_setPrice_6 ?_
  refine z_bipush X (by decide) dX2_setPrice_7 ?_
  refine z_callis X (c_X2_in l D ad cI cZ cL x 0 100 ⟨by omega, by omega⟩ ⟨by omega, by omega⟩ ⟨by omega, by omega⟩) (va_cwS 3 X.2.2.2.2.1 gX2_setPrice_X2_in rfl rfl rfl (by decide +kernel) ⟨Nat.le_of_ble_eq_true rfl, Nat.le_of_ble_eq_true rfl⟩) rfl [] (Mw ad cI cZ w) rfl [.int (iZ (m_in h 0 5)), .ref (ad 0)] rfl (Nat.le_of_ble_eq_true rfl) dX2_setPrice_9 ⟨Nat.le_of_ble_eq_true rfl, Nat.le_of_ble_eq_true rfl⟩ rfl ?_
  have r_2 := m_in_sp x 0 100
  refine z_iconst X dX2_setPrice_12 ?_
  refine z_calli X (c_X2_goes l D ad cI cZ cL w (m_in h 0 5) (m_in x 0 100) 1 (by omega) (by omega) (by omega)) (cwV 3 X.2.2.2.2.1 gX2_setPrice_X2_goes rfl rfl rfl (by decide +kernel) ⟨Nat.le_of_ble_eq_true rfl, Nat.le_of_ble_eq_true rfl⟩) rfl [] [] (List.append_nil _).symm 2 0 rfl rfl [] rfl (Nat.le_of_ble_eq_true rfl) dX2_setPrice_13 ⟨Nat.le_of_ble_eq_true rfl, Nat.le_of_ble_eq_true rfl⟩ (List.append_nil _) ?_
  have r_3 := m_goes_sp (m_in h 0 5) (m_in x 0 100) 1
  refine z_if_ne (tgt := 21) X ⟨by omega, by omega⟩ (by decide) dX2_setPrice_16 (fun c_4 => ?_) (fun c_4 => ?_)
  · skip
    refine z_aload_n X 0 rfl dX2_setPrice_21 ?_
    refine z_get (v := .ref (ad 3)) X 2 0 2 hiX2 rfl rfl (by decide) ⟨rfl, rfl, rfl⟩ (by decide +kernel) rfl dX2_setPrice_22 ?_
    refine z_iload_n X 1 rfl dX2_setPrice_25 ?_
    refine z_iald (g := w.1 2) X 3 0 rfl rfl (by omega) (by omega) ⟨by omega, by omega⟩ dX2_setPrice_26 ?_
    have b_5 := hB 2 rfl h
    refine z_istore_n X [1, 2, 3, 0] [(0, .ref (ad 0)), (1, .int (iZ h)), (2, .int (iZ x)), (3, .int (iZ (w.1 2 h)))] rfl (Nat.le_of_ble_eq_true rfl) dX2_setPrice_27 ?_
    refine z_aload_n X 0 rfl dX2_setPrice_28 ?_
    refine z_get (v := .ref (ad 3)) X 2 0 2 hiX2 rfl rfl (by decide) ⟨rfl, rfl, rfl⟩ (by decide +kernel) rfl dX2_setPrice_29 ?_
    refine z_iload_n X 1 rfl dX2_setPrice_32 ?_
    refine z_iload_n X 2 rfl dX2_setPrice_33 ?_
    refine z_iast (g := w.1 2) X 3 0 (Mw ad cI cZ (gA (gV w 6 (m_goesC (m_in h 0 5) (m_in x 0 100) 1)) 2 h x)) rfl rfl (by omega) (by omega) ⟨by omega, by omega⟩ rfl dX2_setPrice_34 ?_
    refine z_iload_n X 3 rfl dX2_setPrice_35 ?_
    exact z_iret X hr hlk (if_pos (by omega)).symm (congrArg (Mw ad cI cZ) (by have e9 : m_goesC (m_in h 0 5) (m_in x 0 100) 1 = 0 := (by omega); unfold m_when; rw [if_pos e9]; try rw [e9]; try rfl)) dX2_setPrice_36
  · skip
    refine z_iconst X dX2_setPrice_19 ?_
    exact z_iret X hr hlk (if_neg (by omega)).symm (congrArg (Mw ad cI cZ) (by have e9 : ¬ m_goesC (m_in h 0 5) (m_in x 0 100) 1 = 0 := (by omega); exact (if_neg e9).symm)) dX2_setPrice_20
set_option maxHeartbeats 4000000 in
set_option maxRecDepth 100000 in
theorem c_X2_setLimit (l : Launch) (D : va_G) (ad : Nat → Nat) (cI cZ cL : ClassId) (w : GS) (h x : Int) (hz : zB h) (hz2 : zB x) (hB : Bdm w) : zMi l D (zT cI cZ cL) yX2_setLimit wsX2_setLimit ({ frames := 1, cells := 0, slots := 0, locals := 23 } : Room) (Mw ad cI cZ w) [.ref (ad 0), .int (iZ h), .int (iZ x)] (if m_goesC (m_in h 0 4) (m_in x 0 300) 1 = 0 then w.1 3 h else 0) (Mw ad cI cZ (m_when w (m_goesC (m_in h 0 4) (m_in x 0 300) 1) (gA (gV w 6 0) 3 h x))) 0 0 := by
  refine z_mi (cc := cX2_setLimit) (maxL := 4) (ret := (some .int)) (by decide) rfl (Nat.le_of_ble_eq_true rfl) ?_
  intro p e s m below meth c A X hr hlk hin
  have hiX2 : ∀ w ∈ wsX20, w ∈ wsX2_setLimit := by decide +kernel
  refine z_sub (lv' := [(0, .ref (ad 0)), (1, .int (iZ h)), (2, .int (iZ x))]) [0, 1, 2] rfl ?_
  refine z_aload_n X 0 rfl dX2_setLimit_0 ?_
  refine z_iload_n X 1 rfl dX2_setLimit_1 ?_
  refine z_iconst X dX2_setLimit_2 ?_
  refine z_iconst X dX2_setLimit_3 ?_
  refine z_callis X (c_X2_in l D ad cI cZ cL h 0 4 ⟨by omega, by omega⟩ ⟨by omega, by omega⟩ ⟨by omega, by omega⟩) (va_cwS 3 X.2.2.2.2.1 gX2_setLimit_X2_in rfl rfl rfl (by decide +kernel) ⟨Nat.le_of_ble_eq_true rfl, Nat.le_of_ble_eq_true rfl⟩) rfl [] (Mw ad cI cZ w) rfl [.ref (ad 0)] rfl (Nat.le_of_ble_eq_true rfl) dX2_setLimit_4 ⟨Nat.le_of_ble_eq_true rfl, Nat.le_of_ble_eq_true rfl⟩ rfl ?_
  have r_1 := m_in_sp h 0 4
  refine z_iload_n X 2 rfl dX2_setLimit_7 ?_
  refine z_iconst X dX2_setLimit_8 ?_
  refine z_sipush X (by decide) dX2_setLimit_9 ?_
  refine z_callis X (c_X2_in l D ad cI cZ cL x 0 300 ⟨by omega, by omega⟩ ⟨by omega, by omega⟩ ⟨by omega, by omega⟩) (va_cwS 3 X.2.2.2.2.1 gX2_setLimit_X2_in rfl rfl rfl (by decide +kernel) ⟨Nat.le_of_ble_eq_true rfl, Nat.le_of_ble_eq_true rfl⟩) rfl [] (Mw ad cI cZ w) rfl [.int (iZ (m_in h 0 4)), .ref (ad 0)] rfl (Nat.le_of_ble_eq_true rfl) dX2_setLimit_12 ⟨Nat.le_of_ble_eq_true rfl, Nat.le_of_ble_eq_true rfl⟩ rfl ?_
  have r_2 := m_in_sp x 0 300
  refine z_iconst X dX2_setLimit_15 ?_
  refine z_calli X (c_X2_goes l D ad cI cZ cL w (m_in h 0 4) (m_in x 0 300) 1 (by omega) (by omega) (by omega)) (cwV 3 X.2.2.2.2.1 gX2_setLimit_X2_goes rfl rfl rfl (by decide +kernel) ⟨Nat.le_of_ble_eq_true rfl, Nat.le_of_ble_eq_true rfl⟩) rfl [] [] (List.append_nil _).symm 2 0 rfl rfl [] rfl (Nat.le_of_ble_eq_true rfl) dX2_setLimit_16 ⟨Nat.le_of_ble_eq_true rfl, Nat.le_of_ble_eq_true rfl⟩ (List.append_nil _) ?_
  have r_3 := m_goes_sp (m_in h 0 4) (m_in x 0 300) 1
  refine z_if_ne (tgt := 24) X ⟨by omega, by omega⟩ (by decide) dX2_setLimit_19 (fun c_4 => ?_) (fun c_4 => ?_)
  · skip
    refine z_aload_n X 0 rfl dX2_setLimit_24 ?_
    refine z_get (v := .ref (ad 4)) X 2 0 3 hiX2 rfl rfl (by decide) ⟨rfl, rfl, rfl⟩ (by decide +kernel) rfl dX2_setLimit_25 ?_
    refine z_iload_n X 1 rfl dX2_setLimit_28 ?_
    refine z_iald (g := w.1 3) X 4 0 rfl rfl (by omega) (by omega) ⟨by omega, by omega⟩ dX2_setLimit_29 ?_
    have b_5 := hB 3 rfl h
    refine z_istore_n X [1, 2, 3, 0] [(0, .ref (ad 0)), (1, .int (iZ h)), (2, .int (iZ x)), (3, .int (iZ (w.1 3 h)))] rfl (Nat.le_of_ble_eq_true rfl) dX2_setLimit_30 ?_
    refine z_aload_n X 0 rfl dX2_setLimit_31 ?_
    refine z_get (v := .ref (ad 4)) X 2 0 3 hiX2 rfl rfl (by decide) ⟨rfl, rfl, rfl⟩ (by decide +kernel) rfl dX2_setLimit_32 ?_
    refine z_iload_n X 1 rfl dX2_setLimit_35 ?_
    refine z_iload_n X 2 rfl dX2_setLimit_36 ?_
    refine z_iast (g := w.1 3) X 4 0 (Mw ad cI cZ (gA (gV w 6 (m_goesC (m_in h 0 4) (m_in x 0 300) 1)) 3 h x)) rfl rfl (by omega) (by omega) ⟨by omega, by omega⟩ rfl dX2_setLimit_37 ?_
    refine z_iload_n X 3 rfl dX2_setLimit_38 ?_
    exact z_iret X hr hlk (if_pos (by omega)).symm (congrArg (Mw ad cI cZ) (by have e9 : m_goesC (m_in h 0 4) (m_in x 0 300) 1 = 0 := (by omega); unfold m_when; rw [if_pos e9]; try rw [e9]; try rfl)) dX2_setLimit_39
  · skip
    refine z_iconst X dX2_setLimit_22 ?_
    exact z_iret X hr hlk (if_neg (by omega)).symm (congrArg (Mw ad cI cZ) (by have e9 : ¬ m_goesC (m_in h 0 4) (m_in x 0 300) 1 = 0 := (by omega); exact (if_neg e9).symm)) dX2_setLimit_23
set_option maxHeartbeats 4000000 in
set_option maxRecDepth 100000 in
theorem c_X2_leave (l : Launch) (D : va_G) (ad : Nat → Nat) (cI cZ cL : ClassId) (w : GS) (h : Int) (hz : zB h) (hB : Bdm w) : zMi l D (zT cI cZ cL) yX2_leave wsX2_leave ({ frames := 3, cells := 0, slots := 0, locals := 63 } : Room) (Mw ad cI cZ w) [.ref (ad 0), .int (iZ h)] (if m_goesC (m_in h 0 5) (m_belongs w h) 1 = 0 then w.1 5 h * w.2 1 else 0) (Mw ad cI cZ (m_when w (m_goesC (m_in h 0 5) (m_belongs w h) 1) (m_leaveW (gV w 6 0) h))) 0 0 := by
  refine z_mi (cc := cX2_leave) (maxL := 3) (ret := (some .int)) (by decide) rfl (Nat.le_of_ble_eq_true rfl) ?_
  intro p e s m below meth c A X hr hlk hin
  have hiX2 : ∀ w ∈ wsX20, w ∈ wsX2_leave := by decide +kernel
  refine z_sub (lv' := [(0, .ref (ad 0)), (1, .int (iZ h))]) [0, 1] rfl ?_
  refine z_aload_n X 0 rfl dX2_leave_0 ?_
  refine z_iload_n X 1 rfl dX2_leave_1 ?_
  refine z_callis X (c_X2_isHouse l D ad cI cZ cL h ⟨by omega, by omega⟩) (va_cwS 1 X.2.2.2.2.1 gX2_leave_X2_isHouse rfl rfl rfl (by decide +kernel) ⟨Nat.le_of_ble_eq_true rfl, Nat.le_of_ble_eq_true rfl⟩) rfl [] (Mw ad cI cZ w) rfl [.ref (ad 0)] rfl (Nat.le_of_ble_eq_true rfl) dX2_leave_2 ⟨Nat.le_of_ble_eq_true rfl, Nat.le_of_ble_eq_true rfl⟩ rfl ?_
  have r_1 := m_in_sp h 0 5
  refine z_aload_n X 0 rfl dX2_leave_5 ?_
  refine z_iload_n X 1 rfl dX2_leave_6 ?_
  refine z_calli X (c_X2_belongs l D ad cI cZ cL w h ⟨by omega, by omega⟩ hB) (cwV 1 X.2.2.2.2.1 gX2_leave_X2_belongs rfl rfl rfl (by decide +kernel) ⟨Nat.le_of_ble_eq_true rfl, Nat.le_of_ble_eq_true rfl⟩) rfl [] [] (List.append_nil _).symm 2 0 rfl rfl [.int (iZ (m_in h 0 5)), .ref (ad 0)] rfl (Nat.le_of_ble_eq_true rfl) dX2_leave_7 ⟨Nat.le_of_ble_eq_true rfl, Nat.le_of_ble_eq_true rfl⟩ (List.append_nil _) ?_
  have r_2 := m_belongs_sp w h
  refine z_iconst X dX2_leave_10 ?_
  refine z_calli X (c_X2_goes l D ad cI cZ cL w (m_in h 0 5) (m_belongs w h) 1 (by omega) (by omega) (by omega)) (cwV 3 X.2.2.2.2.1 gX2_leave_X2_goes rfl rfl rfl (by decide +kernel) ⟨Nat.le_of_ble_eq_true rfl, Nat.le_of_ble_eq_true rfl⟩) rfl [] [] (List.append_nil _).symm 2 0 rfl rfl [] rfl (Nat.le_of_ble_eq_true rfl) dX2_leave_11 ⟨Nat.le_of_ble_eq_true rfl, Nat.le_of_ble_eq_true rfl⟩ (List.append_nil _) ?_
  have r_3 := m_goes_sp (m_in h 0 5) (m_belongs w h) 1
  refine z_if_ne (tgt := 19) X ⟨by omega, by omega⟩ (by decide) dX2_leave_14 (fun c_4 => ?_) (fun c_4 => ?_)
  · skip
    refine z_aload_n X 0 rfl dX2_leave_19 ?_
    refine z_get (v := .ref (ad 6)) X 2 0 5 hiX2 rfl rfl (by decide) ⟨rfl, rfl, rfl⟩ (by decide +kernel) rfl dX2_leave_20 ?_
    refine z_iload_n X 1 rfl dX2_leave_23 ?_
    refine z_iald (g := w.1 5) X 6 0 rfl rfl (by omega) (by omega) ⟨by omega, by omega⟩ dX2_leave_24 ?_
    have b_5 := hB 5 rfl h
    refine z_aload_n X 0 rfl dX2_leave_25 ?_
    refine z_get (v := .int (iZ (w.2 1))) X 2 0 9 hiX2 rfl rfl (by decide) ⟨rfl, rfl, rfl⟩ (by decide +kernel) rfl dX2_leave_26 ?_
    refine z_imul X dX2_leave_29 ?_
    refine z_istore_n X [1, 2, 0] [(0, .ref (ad 0)), (1, .int (iZ h)), (2, .int (iZ ((w.1 5 h) * (w.2 1))))] rfl (Nat.le_of_ble_eq_true rfl) dX2_leave_30 ?_
    refine z_aload_n X 0 rfl dX2_leave_31 ?_
    refine z_get (v := .ref (ad 7)) X 2 0 6 hiX2 rfl rfl (by decide) ⟨rfl, rfl, rfl⟩ (by decide +kernel) rfl dX2_leave_32 ?_
    refine z_iload_n X 1 rfl dX2_leave_35 ?_
    refine z_dup2 X rfl rfl dX2_leave_36 ?_
    refine z_iald (g := w.1 6) X 7 0 rfl rfl (by omega) (by omega) ⟨by omega, by omega⟩ dX2_leave_37 ?_
    refine z_iload_n X 2 rfl dX2_leave_38 ?_
    refine z_isub X dX2_leave_39 ?_
    refine z_iast (g := w.1 6) X 7 0 (Mw ad cI cZ (gA (gV w 6 (m_goesC (m_in h 0 5) (m_belongs w h) 1)) 6 h ((w.1 6 h) - ((w.1 5 h) * (w.2 1))))) rfl rfl (by omega) (by omega) ⟨by omega, by omega⟩ rfl dX2_leave_40 ?_
    refine z_aload_n X 0 rfl dX2_leave_41 ?_
    refine z_dup X rfl dX2_leave_42 ?_
    refine z_get (v := .int (iZ (w.2 2))) X 2 0 10 hiX2 rfl rfl (by decide) ⟨rfl, rfl, rfl⟩ (by decide +kernel) rfl dX2_leave_43 ?_
    refine z_iload_n X 2 rfl dX2_leave_46 ?_
    refine z_isub X dX2_leave_47 ?_
    refine z_put (v := .int (iZ ((w.2 2) - ((w.1 5 h) * (w.2 1))))) (ty := .int) X tyX2 2 0 10 (Mw ad cI cZ (gV (gA (gV w 6 (m_goesC (m_in h 0 5) (m_belongs w h) 1)) 6 h ((w.1 6 h) - ((w.1 5 h) * (w.2 1)))) 2 ((w.2 2) - ((w.1 5 h) * (w.2 1))))) tyX2_ok nmX2 hiX2 rfl rfl (by decide) ⟨rfl, rfl, rfl, rfl⟩ (by decide +kernel) rfl rfl rfl (Nat.le_of_ble_eq_true rfl) rfl dX2_leave_48 ?_
    refine z_aload_n X 0 rfl dX2_leave_51 ?_
    refine z_get (v := .ref (ad 5)) X 2 0 4 hiX2 rfl rfl (by decide) ⟨rfl, rfl, rfl⟩ (by decide +kernel) rfl dX2_leave_52 ?_
    refine z_iload_n X 1 rfl dX2_leave_55 ?_
    refine z_iconst X dX2_leave_56 ?_
    refine z_iast (g := w.1 4) X 5 0 (Mw ad cI cZ (gA (gV (gA (gV w 6 (m_goesC (m_in h 0 5) (m_belongs w h) 1)) 6 h ((w.1 6 h) - ((w.1 5 h) * (w.2 1)))) 2 ((w.2 2) - ((w.1 5 h) * (w.2 1)))) 4 h 0)) rfl rfl (by omega) (by omega) ⟨by omega, by omega⟩ rfl dX2_leave_57 ?_
    refine z_aload_n X 0 rfl dX2_leave_58 ?_
    refine z_get (v := .ref (ad 6)) X 2 0 5 hiX2 rfl rfl (by decide) ⟨rfl, rfl, rfl⟩ (by decide +kernel) rfl dX2_leave_59 ?_
    refine z_iload_n X 1 rfl dX2_leave_62 ?_
    refine z_iconst X dX2_leave_63 ?_
    refine z_iast (g := w.1 5) X 6 0 (Mw ad cI cZ (gA (gA (gV (gA (gV w 6 (m_goesC (m_in h 0 5) (m_belongs w h) 1)) 6 h ((w.1 6 h) - ((w.1 5 h) * (w.2 1)))) 2 ((w.2 2) - ((w.1 5 h) * (w.2 1)))) 4 h 0) 5 h 0)) rfl rfl (by omega) (by omega) ⟨by omega, by omega⟩ rfl dX2_leave_64 ?_
    refine z_aload_n X 0 rfl dX2_leave_65 ?_
    refine z_get (v := .ref (ad 8)) X 2 0 7 hiX2 rfl rfl (by decide) ⟨rfl, rfl, rfl⟩ (by decide +kernel) rfl dX2_leave_66 ?_
    refine z_iload_n X 1 rfl dX2_leave_69 ?_
    refine z_iconst X dX2_leave_70 ?_
    refine z_zast (g := w.1 7) X 8 1 (Mw ad cI cZ (gA (gA (gA (gV (gA (gV w 6 (m_goesC (m_in h 0 5) (m_belongs w h) 1)) 6 h ((w.1 6 h) - ((w.1 5 h) * (w.2 1)))) 2 ((w.2 2) - ((w.1 5 h) * (w.2 1)))) 4 h 0) 5 h 0) 7 h 1)) rfl rfl (by omega) (by omega) ⟨by omega, by omega⟩ (by omega) rfl dX2_leave_71 ?_
    refine z_iload_n X 2 rfl dX2_leave_72 ?_
    exact z_iret X hr hlk (if_pos (by omega)).symm (congrArg (Mw ad cI cZ) (by have e9 : m_goesC (m_in h 0 5) (m_belongs w h) 1 = 0 := (by omega); unfold m_when; rw [if_pos e9]; try rw [e9]; try rfl)) dX2_leave_73
  · skip
    refine z_iconst X dX2_leave_17 ?_
    exact z_iret X hr hlk (if_neg (by omega)).symm (congrArg (Mw ad cI cZ) (by have e9 : ¬ m_goesC (m_in h 0 5) (m_belongs w h) 1 = 0 := (by omega); exact (if_neg e9).symm)) dX2_leave_18
set_option maxHeartbeats 4000000 in
set_option maxRecDepth 100000 in
theorem c_X2_setSupplier (l : Launch) (D : va_G) (ad : Nat → Nat) (cI cZ cL : ClassId) (w : GS) (a b : Int) (hz : zB a) (hz2 : zB b) : zMv l D (zT cI cZ cL) yX2_setSupplier wsX2_setSupplier ({ frames := 1, cells := 0, slots := 0, locals := 23 } : Room) (Mw ad cI cZ w) [.ref (ad 0), .int (iZ a), .int (iZ b)] (Mw ad cI cZ (m_when w (m_supC a b) (gV (gV (gV w 6 0) 0 a) 1 b))) 0 0 := by
  refine z_mv (cc := cX2_setSupplier) (maxL := 3) (ret := none) (by decide) rfl (Nat.le_of_ble_eq_true rfl) ?_
  intro p e s m below meth c A X hr hlk hin
  have hiX2 : ∀ w ∈ wsX20, w ∈ wsX2_setSupplier := by decide +kernel
  refine z_sub (lv' := [(0, .ref (ad 0)), (1, .int (iZ a)), (2, .int (iZ b))]) [0, 1, 2] rfl ?_
  refine z_aload_n X 0 rfl dX2_setSupplier_0 ?_
  refine z_iload_n X 1 rfl dX2_setSupplier_1 ?_
  refine z_iconst X dX2_setSupplier_2 ?_
  refine z_bipush X (by decide) dX2_setSupplier_3 ?_
  refine z_callis X (c_X2_in l D ad cI cZ cL a 1 100 ⟨by omega, by omega⟩ ⟨by omega, by omega⟩ ⟨by omega, by omega⟩) (va_cwS 3 X.2.2.2.2.1 gX2_setSupplier_X2_in rfl rfl rfl (by decide +kernel) ⟨Nat.le_of_ble_eq_true rfl, Nat.le_of_ble_eq_true rfl⟩) rfl [] (Mw ad cI cZ w) rfl [.ref (ad 0)] rfl (Nat.le_of_ble_eq_true rfl) dX2_setSupplier_5 ⟨Nat.le_of_ble_eq_true rfl, Nat.le_of_ble_eq_true rfl⟩ rfl ?_
  have r_1 := m_in_sp a 1 100
  refine z_if_eq (tgt := 24) X ⟨by omega, by omega⟩ (by decide) dX2_setSupplier_8 (fun c_2 => ?_) (fun c_2 => ?_)
  · skip
    refine z_iconst X dX2_setSupplier_24 ?_
    refine z_iconst X dX2_setSupplier_25 ?_
    refine z_iconst X dX2_setSupplier_26 ?_
    refine z_calli X (c_X2_goesK l D ad cI cZ cL w 0 1 1 1 0 (by omega) (by omega) (by omega) (by decide) (by decide)) (cwV 3 X.2.2.2.2.1 gX2_setSupplier_X2_goes rfl rfl rfl (by decide +kernel) ⟨Nat.le_of_ble_eq_true rfl, Nat.le_of_ble_eq_true rfl⟩) rfl [] [] (List.append_nil _).symm 2 0 rfl rfl [] rfl (Nat.le_of_ble_eq_true rfl) dX2_setSupplier_27 ⟨Nat.le_of_ble_eq_true rfl, Nat.le_of_ble_eq_true rfl⟩ (List.append_nil _) ?_
    refine z_if_eq (tgt := 43) X ⟨by omega, by omega⟩ (by decide) dX2_setSupplier_30 (fun c_3 => ?_) (fun c_3 => ?_)
    · skip
      exact z_vret X hr hlk (congrArg (Mw ad cI cZ) (by have e9 : m_supC a b = 1 := if_neg (fun q => by omega); unfold m_when; rw [if_neg (by omega), e9])) dX2_setSupplier_43
    · exact absurd c_3 (by omega)
  · skip
    refine z_iload_n X 2 rfl dX2_setSupplier_11 ?_
    refine z_iconst X dX2_setSupplier_12 ?_
    refine z_iload_n X 1 rfl dX2_setSupplier_13 ?_
    refine z_callis X (c_X2_in l D ad cI cZ cL b 0 a ⟨by omega, by omega⟩ ⟨by omega, by omega⟩ ⟨by omega, by omega⟩) (va_cwS 3 X.2.2.2.2.1 gX2_setSupplier_X2_in rfl rfl rfl (by decide +kernel) ⟨Nat.le_of_ble_eq_true rfl, Nat.le_of_ble_eq_true rfl⟩) rfl [] (Mw ad cI cZ w) rfl [.ref (ad 0)] rfl (Nat.le_of_ble_eq_true rfl) dX2_setSupplier_14 ⟨Nat.le_of_ble_eq_true rfl, Nat.le_of_ble_eq_true rfl⟩ rfl ?_
    have r_4 := m_in_sp b 0 a
    refine z_if_eq (tgt := 24) X ⟨by omega, by omega⟩ (by decide) dX2_setSupplier_17 (fun c_5 => ?_) (fun c_5 => ?_)
    · skip
      refine z_iconst X dX2_setSupplier_24 ?_
      refine z_iconst X dX2_setSupplier_25 ?_
      refine z_iconst X dX2_setSupplier_26 ?_
      refine z_calli X (c_X2_goesK l D ad cI cZ cL w 0 1 1 1 0 (by omega) (by omega) (by omega) (by decide) (by decide)) (cwV 3 X.2.2.2.2.1 gX2_setSupplier_X2_goes rfl rfl rfl (by decide +kernel) ⟨Nat.le_of_ble_eq_true rfl, Nat.le_of_ble_eq_true rfl⟩) rfl [] [] (List.append_nil _).symm 2 0 rfl rfl [] rfl (Nat.le_of_ble_eq_true rfl) dX2_setSupplier_27 ⟨Nat.le_of_ble_eq_true rfl, Nat.le_of_ble_eq_true rfl⟩ (List.append_nil _) ?_
      refine z_if_eq (tgt := 43) X ⟨by omega, by omega⟩ (by decide) dX2_setSupplier_30 (fun c_6 => ?_) (fun c_6 => ?_)
      · skip
        exact z_vret X hr hlk (congrArg (Mw ad cI cZ) (by have e9 : m_supC a b = 1 := if_neg (fun q => by omega); unfold m_when; rw [if_neg (by omega), e9])) dX2_setSupplier_43
      · exact absurd c_6 (by omega)
    · skip
      refine z_iconst X dX2_setSupplier_20 ?_
      refine z_goto (tgt := 25) X (by decide) dX2_setSupplier_21 ?_
      refine z_iconst X dX2_setSupplier_25 ?_
      refine z_iconst X dX2_setSupplier_26 ?_
      refine z_calli X (c_X2_goesK l D ad cI cZ cL w 1 1 1 0 1 (by omega) (by omega) (by omega) (by decide) (by decide)) (cwV 3 X.2.2.2.2.1 gX2_setSupplier_X2_goes rfl rfl rfl (by decide +kernel) ⟨Nat.le_of_ble_eq_true rfl, Nat.le_of_ble_eq_true rfl⟩) rfl [] [] (List.append_nil _).symm 2 0 rfl rfl [] rfl (Nat.le_of_ble_eq_true rfl) dX2_setSupplier_27 ⟨Nat.le_of_ble_eq_true rfl, Nat.le_of_ble_eq_true rfl⟩ (List.append_nil _) ?_
      refine z_if_eq (tgt := 43) X ⟨by omega, by omega⟩ (by decide) dX2_setSupplier_30 (fun c_7 => ?_) (fun c_7 => ?_)
      · exact absurd c_7 (by omega)
      · skip
        refine z_aload_n X 0 rfl dX2_setSupplier_33 ?_
        refine z_iload_n X 1 rfl dX2_setSupplier_34 ?_
        refine z_put (v := .int (iZ a)) (ty := .int) X tyX2 2 0 8 (Mw ad cI cZ (gV (gV w 6 0) 0 a)) tyX2_ok nmX2 hiX2 rfl rfl (by decide) ⟨rfl, rfl, rfl, rfl⟩ (by decide +kernel) rfl rfl rfl (Nat.le_of_ble_eq_true rfl) rfl dX2_setSupplier_35 ?_
        refine z_aload_n X 0 rfl dX2_setSupplier_38 ?_
        refine z_iload_n X 2 rfl dX2_setSupplier_39 ?_
        refine z_put (v := .int (iZ b)) (ty := .int) X tyX2 2 0 9 (Mw ad cI cZ (gV (gV (gV w 6 0) 0 a) 1 b)) tyX2_ok nmX2 hiX2 rfl rfl (by decide) ⟨rfl, rfl, rfl, rfl⟩ (by decide +kernel) rfl rfl rfl (Nat.le_of_ble_eq_true rfl) rfl dX2_setSupplier_40 ?_
        exact z_vret X hr hlk (congrArg (Mw ad cI cZ) (by have e9 : m_supC a b = 0 := if_pos ⟨by omega, by omega⟩; unfold m_when; rw [if_pos e9])) dX2_setSupplier_43
set_option maxHeartbeats 4000000 in
set_option maxRecDepth 100000 in
theorem c_X2_quarter (l : Launch) (D : va_G) (ad : Nat → Nat) (cI cZ cL : ClassId) (w : GS) : zMi l D (zT cI cZ cL) yX2_quarter wsX2_quarter ({ frames := 0, cells := 0, slots := 0, locals := 0 } : Room) (Mw ad cI cZ w) [.ref (ad 0)] (w.2 4) (Mw ad cI cZ (gV w 6 0)) 0 0 := by
  refine z_mi (cc := cX2_quarter) (maxL := 1) (ret := (some .int)) (by decide) rfl (Nat.le_of_ble_eq_true rfl) ?_
  intro p e s m below meth c A X hr hlk hin
  have hiX2 : ∀ w ∈ wsX20, w ∈ wsX2_quarter := by decide +kernel
  refine z_sub (lv' := [(0, .ref (ad 0))]) [0] rfl ?_
  refine z_aload_n X 0 rfl dX2_quarter_0 ?_
  refine z_iconst X dX2_quarter_1 ?_
  refine z_put (v := .int (iZ 0)) (ty := .int) X tyX2 2 0 21 (Mw ad cI cZ (gV w 6 0)) tyX2_ok nmX2 hiX2 rfl rfl (by decide) ⟨rfl, rfl, rfl, rfl⟩ (by decide +kernel) rfl rfl rfl (Nat.le_of_ble_eq_true rfl) rfl dX2_quarter_2 ?_
  refine z_aload_n X 0 rfl dX2_quarter_5 ?_
  refine z_get (v := .int (iZ (w.2 4))) X 2 0 12 hiX2 rfl rfl (by decide) ⟨rfl, rfl, rfl⟩ (by decide +kernel) rfl dX2_quarter_6 ?_
  exact z_iret X hr hlk rfl rfl dX2_quarter_9
set_option maxHeartbeats 4000000 in
set_option maxRecDepth 100000 in
theorem c_X2_trades (l : Launch) (D : va_G) (ad : Nat → Nat) (cI cZ cL : ClassId) (w : GS) : zMi l D (zT cI cZ cL) yX2_trades wsX2_trades ({ frames := 0, cells := 0, slots := 0, locals := 0 } : Room) (Mw ad cI cZ w) [.ref (ad 0)] (w.2 5) (Mw ad cI cZ (gV w 6 0)) 0 0 := by
  refine z_mi (cc := cX2_trades) (maxL := 1) (ret := (some .int)) (by decide) rfl (Nat.le_of_ble_eq_true rfl) ?_
  intro p e s m below meth c A X hr hlk hin
  have hiX2 : ∀ w ∈ wsX20, w ∈ wsX2_trades := by decide +kernel
  refine z_sub (lv' := [(0, .ref (ad 0))]) [0] rfl ?_
  refine z_aload_n X 0 rfl dX2_trades_0 ?_
  refine z_iconst X dX2_trades_1 ?_
  refine z_put (v := .int (iZ 0)) (ty := .int) X tyX2 2 0 21 (Mw ad cI cZ (gV w 6 0)) tyX2_ok nmX2 hiX2 rfl rfl (by decide) ⟨rfl, rfl, rfl, rfl⟩ (by decide +kernel) rfl rfl rfl (Nat.le_of_ble_eq_true rfl) rfl dX2_trades_2 ?_
  refine z_aload_n X 0 rfl dX2_trades_5 ?_
  refine z_get (v := .int (iZ (w.2 5))) X 2 0 17 hiX2 rfl rfl (by decide) ⟨rfl, rfl, rfl⟩ (by decide +kernel) rfl dX2_trades_6 ?_
  exact z_iret X hr hlk rfl rfl dX2_trades_9
set_option maxHeartbeats 4000000 in
set_option maxRecDepth 100000 in
theorem c_X2_pool (l : Launch) (D : va_G) (ad : Nat → Nat) (cI cZ cL : ClassId) (w : GS) : zMi l D (zT cI cZ cL) yX2_pool wsX2_pool ({ frames := 0, cells := 0, slots := 0, locals := 0 } : Room) (Mw ad cI cZ w) [.ref (ad 0)] (w.2 2) (Mw ad cI cZ (gV w 6 0)) 0 0 := by
  refine z_mi (cc := cX2_pool) (maxL := 1) (ret := (some .int)) (by decide) rfl (Nat.le_of_ble_eq_true rfl) ?_
  intro p e s m below meth c A X hr hlk hin
  have hiX2 : ∀ w ∈ wsX20, w ∈ wsX2_pool := by decide +kernel
  refine z_sub (lv' := [(0, .ref (ad 0))]) [0] rfl ?_
  refine z_aload_n X 0 rfl dX2_pool_0 ?_
  refine z_iconst X dX2_pool_1 ?_
  refine z_put (v := .int (iZ 0)) (ty := .int) X tyX2 2 0 21 (Mw ad cI cZ (gV w 6 0)) tyX2_ok nmX2 hiX2 rfl rfl (by decide) ⟨rfl, rfl, rfl, rfl⟩ (by decide +kernel) rfl rfl rfl (Nat.le_of_ble_eq_true rfl) rfl dX2_pool_2 ?_
  refine z_aload_n X 0 rfl dX2_pool_5 ?_
  refine z_get (v := .int (iZ (w.2 2))) X 2 0 10 hiX2 rfl rfl (by decide) ⟨rfl, rfl, rfl⟩ (by decide +kernel) rfl dX2_pool_6 ?_
  exact z_iret X hr hlk rfl rfl dX2_pool_9
set_option maxHeartbeats 4000000 in
set_option maxRecDepth 100000 in
theorem c_X2_supplied (l : Launch) (D : va_G) (ad : Nat → Nat) (cI cZ cL : ClassId) (w : GS) : zMi l D (zT cI cZ cL) yX2_supplied wsX2_supplied ({ frames := 0, cells := 0, slots := 0, locals := 0 } : Room) (Mw ad cI cZ w) [.ref (ad 0)] (w.2 3) (Mw ad cI cZ (gV w 6 0)) 0 0 := by
  refine z_mi (cc := cX2_supplied) (maxL := 1) (ret := (some .int)) (by decide) rfl (Nat.le_of_ble_eq_true rfl) ?_
  intro p e s m below meth c A X hr hlk hin
  have hiX2 : ∀ w ∈ wsX20, w ∈ wsX2_supplied := by decide +kernel
  refine z_sub (lv' := [(0, .ref (ad 0))]) [0] rfl ?_
  refine z_aload_n X 0 rfl dX2_supplied_0 ?_
  refine z_iconst X dX2_supplied_1 ?_
  refine z_put (v := .int (iZ 0)) (ty := .int) X tyX2 2 0 21 (Mw ad cI cZ (gV w 6 0)) tyX2_ok nmX2 hiX2 rfl rfl (by decide) ⟨rfl, rfl, rfl, rfl⟩ (by decide +kernel) rfl rfl rfl (Nat.le_of_ble_eq_true rfl) rfl dX2_supplied_2 ?_
  refine z_aload_n X 0 rfl dX2_supplied_5 ?_
  refine z_get (v := .int (iZ (w.2 3))) X 2 0 11 hiX2 rfl rfl (by decide) ⟨rfl, rfl, rfl⟩ (by decide +kernel) rfl dX2_supplied_6 ?_
  exact z_iret X hr hlk rfl rfl dX2_supplied_9
set_option maxHeartbeats 4000000 in
set_option maxRecDepth 100000 in
theorem c_X2_went (l : Launch) (D : va_G) (ad : Nat → Nat) (cI cZ cL : ClassId) (w : GS) (h : Int) (hz : zB h) (hB : Bdm w) : zMi l D (zT cI cZ cL) yX2_went wsX2_went ({ frames := 1, cells := 0, slots := 0, locals := 23 } : Room) (Mw ad cI cZ w) [.ref (ad 0), .int (iZ h)] (if m_goesC (m_in h 0 5) 1 1 = 0 then w.1 12 h else 0) (Mw ad cI cZ (gV w 6 (m_goesC (m_in h 0 5) 1 1))) 0 0 := by
  refine z_mi (cc := cX2_went) (maxL := 2) (ret := (some .int)) (by decide) rfl (Nat.le_of_ble_eq_true rfl) ?_
  intro p e s m below meth c A X hr hlk hin
  have hiX2 : ∀ w ∈ wsX20, w ∈ wsX2_went := by decide +kernel
  refine z_sub (lv' := [(0, .ref (ad 0)), (1, .int (iZ h))]) [0, 1] rfl ?_
  refine z_aload_n X 0 rfl dX2_went_0 ?_
  refine z_iload_n X 1 rfl dX2_went_1 ?_
  refine z_iconst X dX2_went_2 ?_
  refine z_iconst X dX2_went_3 ?_
  refine z_callis X (c_X2_in l D ad cI cZ cL h 0 5 ⟨by omega, by omega⟩ ⟨by omega, by omega⟩ ⟨by omega, by omega⟩) (va_cwS 3 X.2.2.2.2.1 gX2_went_X2_in rfl rfl rfl (by decide +kernel) ⟨Nat.le_of_ble_eq_true rfl, Nat.le_of_ble_eq_true rfl⟩) rfl [] (Mw ad cI cZ w) rfl [.ref (ad 0)] rfl (Nat.le_of_ble_eq_true rfl) dX2_went_4 ⟨Nat.le_of_ble_eq_true rfl, Nat.le_of_ble_eq_true rfl⟩ rfl ?_
  have r_1 := m_in_sp h 0 5
  refine z_iconst X dX2_went_7 ?_
  refine z_iconst X dX2_went_8 ?_
  refine z_calli X (c_X2_goes l D ad cI cZ cL w (m_in h 0 5) 1 1 (by omega) (by omega) (by omega)) (cwV 3 X.2.2.2.2.1 gX2_went_X2_goes rfl rfl rfl (by decide +kernel) ⟨Nat.le_of_ble_eq_true rfl, Nat.le_of_ble_eq_true rfl⟩) rfl [] [] (List.append_nil _).symm 2 0 rfl rfl [] rfl (Nat.le_of_ble_eq_true rfl) dX2_went_9 ⟨Nat.le_of_ble_eq_true rfl, Nat.le_of_ble_eq_true rfl⟩ (List.append_nil _) ?_
  have r_2 := m_goes_sp (m_in h 0 5) 1 1
  refine z_if_eq (tgt := 24) X ⟨by omega, by omega⟩ (by decide) dX2_went_12 (fun c_3 => ?_) (fun c_3 => ?_)
  · skip
    refine z_iconst X dX2_went_24 ?_
    exact z_iret X hr hlk (if_neg (by omega)).symm rfl dX2_went_25
  · skip
    refine z_aload_n X 0 rfl dX2_went_15 ?_
    refine z_get (v := .ref (ad 13)) X 2 0 18 hiX2 rfl rfl (by decide) ⟨rfl, rfl, rfl⟩ (by decide +kernel) rfl dX2_went_16 ?_
    refine z_iload_n X 1 rfl dX2_went_19 ?_
    refine z_iald (g := w.1 12) X 13 0 rfl rfl (by omega) (by omega) ⟨by omega, by omega⟩ dX2_went_20 ?_
    refine z_goto (tgt := 25) X (by decide) dX2_went_21 ?_
    exact z_iret X hr hlk (if_pos (by omega)).symm rfl dX2_went_25
set_option maxHeartbeats 4000000 in
set_option maxRecDepth 100000 in
theorem c_X2_flow (l : Launch) (D : va_G) (ad : Nat → Nat) (cI cZ cL : ClassId) (w : GS) (h : Int) (hz : zB h) (hB : Bdm w) : zMi l D (zT cI cZ cL) yX2_flow wsX2_flow ({ frames := 1, cells := 0, slots := 0, locals := 23 } : Room) (Mw ad cI cZ w) [.ref (ad 0), .int (iZ h)] (if m_goesC (m_in h 0 4) 1 1 = 0 then w.1 13 h else 0) (Mw ad cI cZ (gV w 6 (m_goesC (m_in h 0 4) 1 1))) 0 0 := by
  refine z_mi (cc := cX2_flow) (maxL := 2) (ret := (some .int)) (by decide) rfl (Nat.le_of_ble_eq_true rfl) ?_
  intro p e s m below meth c A X hr hlk hin
  have hiX2 : ∀ w ∈ wsX20, w ∈ wsX2_flow := by decide +kernel
  refine z_sub (lv' := [(0, .ref (ad 0)), (1, .int (iZ h))]) [0, 1] rfl ?_
  refine z_aload_n X 0 rfl dX2_flow_0 ?_
  refine z_iload_n X 1 rfl dX2_flow_1 ?_
  refine z_iconst X dX2_flow_2 ?_
  refine z_iconst X dX2_flow_3 ?_
  refine z_callis X (c_X2_in l D ad cI cZ cL h 0 4 ⟨by omega, by omega⟩ ⟨by omega, by omega⟩ ⟨by omega, by omega⟩) (va_cwS 3 X.2.2.2.2.1 gX2_flow_X2_in rfl rfl rfl (by decide +kernel) ⟨Nat.le_of_ble_eq_true rfl, Nat.le_of_ble_eq_true rfl⟩) rfl [] (Mw ad cI cZ w) rfl [.ref (ad 0)] rfl (Nat.le_of_ble_eq_true rfl) dX2_flow_4 ⟨Nat.le_of_ble_eq_true rfl, Nat.le_of_ble_eq_true rfl⟩ rfl ?_
  have r_1 := m_in_sp h 0 4
  refine z_iconst X dX2_flow_7 ?_
  refine z_iconst X dX2_flow_8 ?_
  refine z_calli X (c_X2_goes l D ad cI cZ cL w (m_in h 0 4) 1 1 (by omega) (by omega) (by omega)) (cwV 3 X.2.2.2.2.1 gX2_flow_X2_goes rfl rfl rfl (by decide +kernel) ⟨Nat.le_of_ble_eq_true rfl, Nat.le_of_ble_eq_true rfl⟩) rfl [] [] (List.append_nil _).symm 2 0 rfl rfl [] rfl (Nat.le_of_ble_eq_true rfl) dX2_flow_9 ⟨Nat.le_of_ble_eq_true rfl, Nat.le_of_ble_eq_true rfl⟩ (List.append_nil _) ?_
  have r_2 := m_goes_sp (m_in h 0 4) 1 1
  refine z_if_eq (tgt := 24) X ⟨by omega, by omega⟩ (by decide) dX2_flow_12 (fun c_3 => ?_) (fun c_3 => ?_)
  · skip
    refine z_iconst X dX2_flow_24 ?_
    exact z_iret X hr hlk (if_neg (by omega)).symm rfl dX2_flow_25
  · skip
    refine z_aload_n X 0 rfl dX2_flow_15 ?_
    refine z_get (v := .ref (ad 14)) X 2 0 19 hiX2 rfl rfl (by decide) ⟨rfl, rfl, rfl⟩ (by decide +kernel) rfl dX2_flow_16 ?_
    refine z_iload_n X 1 rfl dX2_flow_19 ?_
    refine z_iald (g := w.1 13) X 14 0 rfl rfl (by omega) (by omega) ⟨by omega, by omega⟩ dX2_flow_20 ?_
    refine z_goto (tgt := 25) X (by decide) dX2_flow_21 ?_
    exact z_iret X hr hlk (if_pos (by omega)).symm rfl dX2_flow_25
set_option maxHeartbeats 4000000 in
set_option maxRecDepth 100000 in
theorem c_X2_stored (l : Launch) (D : va_G) (ad : Nat → Nat) (cI cZ cL : ClassId) (w : GS) (h : Int) (hz : zB h) (hB : Bdm w) : zMi l D (zT cI cZ cL) yX2_stored wsX2_stored ({ frames := 2, cells := 0, slots := 0, locals := 42 } : Room) (Mw ad cI cZ w) [.ref (ad 0), .int (iZ h)] (if m_goesC (m_in h 0 5) 1 1 = 0 then w.1 5 h else 0) (Mw ad cI cZ (gV w 6 (m_goesC (m_in h 0 5) 1 1))) 0 0 := by
  refine z_mi (cc := cX2_stored) (maxL := 2) (ret := (some .int)) (by decide) rfl (Nat.le_of_ble_eq_true rfl) ?_
  intro p e s m below meth c A X hr hlk hin
  have hiX2 : ∀ w ∈ wsX20, w ∈ wsX2_stored := by decide +kernel
  refine z_sub (lv' := [(0, .ref (ad 0)), (1, .int (iZ h))]) [0, 1] rfl ?_
  refine z_aload_n X 0 rfl dX2_stored_0 ?_
  refine z_iload_n X 1 rfl dX2_stored_1 ?_
  refine z_callis X (c_X2_isHouse l D ad cI cZ cL h ⟨by omega, by omega⟩) (va_cwS 1 X.2.2.2.2.1 gX2_stored_X2_isHouse rfl rfl rfl (by decide +kernel) ⟨Nat.le_of_ble_eq_true rfl, Nat.le_of_ble_eq_true rfl⟩) rfl [] (Mw ad cI cZ w) rfl [.ref (ad 0)] rfl (Nat.le_of_ble_eq_true rfl) dX2_stored_2 ⟨Nat.le_of_ble_eq_true rfl, Nat.le_of_ble_eq_true rfl⟩ rfl ?_
  have r_1 := m_in_sp h 0 5
  refine z_iconst X dX2_stored_5 ?_
  refine z_iconst X dX2_stored_6 ?_
  refine z_calli X (c_X2_goes l D ad cI cZ cL w (m_in h 0 5) 1 1 (by omega) (by omega) (by omega)) (cwV 3 X.2.2.2.2.1 gX2_stored_X2_goes rfl rfl rfl (by decide +kernel) ⟨Nat.le_of_ble_eq_true rfl, Nat.le_of_ble_eq_true rfl⟩) rfl [] [] (List.append_nil _).symm 2 0 rfl rfl [] rfl (Nat.le_of_ble_eq_true rfl) dX2_stored_7 ⟨Nat.le_of_ble_eq_true rfl, Nat.le_of_ble_eq_true rfl⟩ (List.append_nil _) ?_
  have r_2 := m_goes_sp (m_in h 0 5) 1 1
  refine z_if_eq (tgt := 22) X ⟨by omega, by omega⟩ (by decide) dX2_stored_10 (fun c_3 => ?_) (fun c_3 => ?_)
  · skip
    refine z_iconst X dX2_stored_22 ?_
    exact z_iret X hr hlk (if_neg (by omega)).symm rfl dX2_stored_23
  · skip
    refine z_aload_n X 0 rfl dX2_stored_13 ?_
    refine z_get (v := .ref (ad 6)) X 2 0 5 hiX2 rfl rfl (by decide) ⟨rfl, rfl, rfl⟩ (by decide +kernel) rfl dX2_stored_14 ?_
    refine z_iload_n X 1 rfl dX2_stored_17 ?_
    refine z_iald (g := w.1 5) X 6 0 rfl rfl (by omega) (by omega) ⟨by omega, by omega⟩ dX2_stored_18 ?_
    have b_4 := hB 5 rfl h
    refine z_goto (tgt := 23) X (by decide) dX2_stored_19 ?_
    exact z_iret X hr hlk (if_pos (by omega)).symm rfl dX2_stored_23
set_option maxHeartbeats 4000000 in
set_option maxRecDepth 100000 in
theorem c_X2_part (l : Launch) (D : va_G) (ad : Nat → Nat) (cI cZ cL : ClassId) (w : GS) (h : Int) (hz : zB h) (hB : Bdm w) : zMi l D (zT cI cZ cL) yX2_part wsX2_part ({ frames := 2, cells := 0, slots := 0, locals := 42 } : Room) (Mw ad cI cZ w) [.ref (ad 0), .int (iZ h)] (if m_goesC (m_in h 0 5) 1 1 = 0 then w.1 4 h else 0) (Mw ad cI cZ (gV w 6 (m_goesC (m_in h 0 5) 1 1))) 0 0 := by
  refine z_mi (cc := cX2_part) (maxL := 2) (ret := (some .int)) (by decide) rfl (Nat.le_of_ble_eq_true rfl) ?_
  intro p e s m below meth c A X hr hlk hin
  have hiX2 : ∀ w ∈ wsX20, w ∈ wsX2_part := by decide +kernel
  refine z_sub (lv' := [(0, .ref (ad 0)), (1, .int (iZ h))]) [0, 1] rfl ?_
  refine z_aload_n X 0 rfl dX2_part_0 ?_
  refine z_iload_n X 1 rfl dX2_part_1 ?_
  refine z_callis X (c_X2_isHouse l D ad cI cZ cL h ⟨by omega, by omega⟩) (va_cwS 1 X.2.2.2.2.1 gX2_part_X2_isHouse rfl rfl rfl (by decide +kernel) ⟨Nat.le_of_ble_eq_true rfl, Nat.le_of_ble_eq_true rfl⟩) rfl [] (Mw ad cI cZ w) rfl [.ref (ad 0)] rfl (Nat.le_of_ble_eq_true rfl) dX2_part_2 ⟨Nat.le_of_ble_eq_true rfl, Nat.le_of_ble_eq_true rfl⟩ rfl ?_
  have r_1 := m_in_sp h 0 5
  refine z_iconst X dX2_part_5 ?_
  refine z_iconst X dX2_part_6 ?_
  refine z_calli X (c_X2_goes l D ad cI cZ cL w (m_in h 0 5) 1 1 (by omega) (by omega) (by omega)) (cwV 3 X.2.2.2.2.1 gX2_part_X2_goes rfl rfl rfl (by decide +kernel) ⟨Nat.le_of_ble_eq_true rfl, Nat.le_of_ble_eq_true rfl⟩) rfl [] [] (List.append_nil _).symm 2 0 rfl rfl [] rfl (Nat.le_of_ble_eq_true rfl) dX2_part_7 ⟨Nat.le_of_ble_eq_true rfl, Nat.le_of_ble_eq_true rfl⟩ (List.append_nil _) ?_
  have r_2 := m_goes_sp (m_in h 0 5) 1 1
  refine z_if_eq (tgt := 22) X ⟨by omega, by omega⟩ (by decide) dX2_part_10 (fun c_3 => ?_) (fun c_3 => ?_)
  · skip
    refine z_iconst X dX2_part_22 ?_
    exact z_iret X hr hlk (if_neg (by omega)).symm rfl dX2_part_23
  · skip
    refine z_aload_n X 0 rfl dX2_part_13 ?_
    refine z_get (v := .ref (ad 5)) X 2 0 4 hiX2 rfl rfl (by decide) ⟨rfl, rfl, rfl⟩ (by decide +kernel) rfl dX2_part_14 ?_
    refine z_iload_n X 1 rfl dX2_part_17 ?_
    refine z_iald (g := w.1 4) X 5 0 rfl rfl (by omega) (by omega) ⟨by omega, by omega⟩ dX2_part_18 ?_
    have b_4 := hB 4 rfl h
    refine z_goto (tgt := 23) X (by decide) dX2_part_19 ?_
    exact z_iret X hr hlk (if_pos (by omega)).symm rfl dX2_part_23
set_option maxHeartbeats 4000000 in
set_option maxRecDepth 100000 in
theorem c_X2_bill (l : Launch) (D : va_G) (ad : Nat → Nat) (cI cZ cL : ClassId) (w : GS) (h : Int) (hz : zB h) (hB : Bdm w) : zMi l D (zT cI cZ cL) yX2_bill wsX2_bill ({ frames := 2, cells := 0, slots := 0, locals := 42 } : Room) (Mw ad cI cZ w) [.ref (ad 0), .int (iZ h)] (if m_goesC (m_in h 0 5) 1 1 = 0 then w.1 6 h else 0) (Mw ad cI cZ (gV w 6 (m_goesC (m_in h 0 5) 1 1))) 0 0 := by
  refine z_mi (cc := cX2_bill) (maxL := 2) (ret := (some .int)) (by decide) rfl (Nat.le_of_ble_eq_true rfl) ?_
  intro p e s m below meth c A X hr hlk hin
  have hiX2 : ∀ w ∈ wsX20, w ∈ wsX2_bill := by decide +kernel
  refine z_sub (lv' := [(0, .ref (ad 0)), (1, .int (iZ h))]) [0, 1] rfl ?_
  refine z_aload_n X 0 rfl dX2_bill_0 ?_
  refine z_iload_n X 1 rfl dX2_bill_1 ?_
  refine z_callis X (c_X2_isHouse l D ad cI cZ cL h ⟨by omega, by omega⟩) (va_cwS 1 X.2.2.2.2.1 gX2_bill_X2_isHouse rfl rfl rfl (by decide +kernel) ⟨Nat.le_of_ble_eq_true rfl, Nat.le_of_ble_eq_true rfl⟩) rfl [] (Mw ad cI cZ w) rfl [.ref (ad 0)] rfl (Nat.le_of_ble_eq_true rfl) dX2_bill_2 ⟨Nat.le_of_ble_eq_true rfl, Nat.le_of_ble_eq_true rfl⟩ rfl ?_
  have r_1 := m_in_sp h 0 5
  refine z_iconst X dX2_bill_5 ?_
  refine z_iconst X dX2_bill_6 ?_
  refine z_calli X (c_X2_goes l D ad cI cZ cL w (m_in h 0 5) 1 1 (by omega) (by omega) (by omega)) (cwV 3 X.2.2.2.2.1 gX2_bill_X2_goes rfl rfl rfl (by decide +kernel) ⟨Nat.le_of_ble_eq_true rfl, Nat.le_of_ble_eq_true rfl⟩) rfl [] [] (List.append_nil _).symm 2 0 rfl rfl [] rfl (Nat.le_of_ble_eq_true rfl) dX2_bill_7 ⟨Nat.le_of_ble_eq_true rfl, Nat.le_of_ble_eq_true rfl⟩ (List.append_nil _) ?_
  have r_2 := m_goes_sp (m_in h 0 5) 1 1
  refine z_if_eq (tgt := 22) X ⟨by omega, by omega⟩ (by decide) dX2_bill_10 (fun c_3 => ?_) (fun c_3 => ?_)
  · skip
    refine z_iconst X dX2_bill_22 ?_
    exact z_iret X hr hlk (if_neg (by omega)).symm rfl dX2_bill_23
  · skip
    refine z_aload_n X 0 rfl dX2_bill_13 ?_
    refine z_get (v := .ref (ad 7)) X 2 0 6 hiX2 rfl rfl (by decide) ⟨rfl, rfl, rfl⟩ (by decide +kernel) rfl dX2_bill_14 ?_
    refine z_iload_n X 1 rfl dX2_bill_17 ?_
    refine z_iald (g := w.1 6) X 7 0 rfl rfl (by omega) (by omega) ⟨by omega, by omega⟩ dX2_bill_18 ?_
    refine z_goto (tgt := 23) X (by decide) dX2_bill_19 ?_
    exact z_iret X hr hlk (if_pos (by omega)).symm rfl dX2_bill_23
set_option maxHeartbeats 4000000 in
set_option maxRecDepth 100000 in
theorem c_X2_isMember (l : Launch) (D : va_G) (ad : Nat → Nat) (cI cZ cL : ClassId) (w : GS) (h : Int) (hz : zB h) (hB : Bdm w) : zMi l D (zT cI cZ cL) yX2_isMember wsX2_isMember ({ frames := 2, cells := 0, slots := 0, locals := 42 } : Room) (Mw ad cI cZ w) [.ref (ad 0), .int (iZ h)] (if m_goesC (m_in h 0 5) 1 1 = 0 ∧ w.1 7 h = 0 then 1 else 0) (Mw ad cI cZ (gV w 6 (m_goesC (m_in h 0 5) 1 1))) 0 0 := by
  refine z_mi (cc := cX2_isMember) (maxL := 2) (ret := (some .boolean)) (by decide) rfl (Nat.le_of_ble_eq_true rfl) ?_
  intro p e s m below meth c A X hr hlk hin
  have hiX2 : ∀ w ∈ wsX20, w ∈ wsX2_isMember := by decide +kernel
  refine z_sub (lv' := [(0, .ref (ad 0)), (1, .int (iZ h))]) [0, 1] rfl ?_
  refine z_aload_n X 0 rfl dX2_isMember_0 ?_
  refine z_iload_n X 1 rfl dX2_isMember_1 ?_
  refine z_callis X (c_X2_isHouse l D ad cI cZ cL h ⟨by omega, by omega⟩) (va_cwS 1 X.2.2.2.2.1 gX2_isMember_X2_isHouse rfl rfl rfl (by decide +kernel) ⟨Nat.le_of_ble_eq_true rfl, Nat.le_of_ble_eq_true rfl⟩) rfl [] (Mw ad cI cZ w) rfl [.ref (ad 0)] rfl (Nat.le_of_ble_eq_true rfl) dX2_isMember_2 ⟨Nat.le_of_ble_eq_true rfl, Nat.le_of_ble_eq_true rfl⟩ rfl ?_
  have r_1 := m_in_sp h 0 5
  refine z_iconst X dX2_isMember_5 ?_
  refine z_iconst X dX2_isMember_6 ?_
  refine z_calli X (c_X2_goes l D ad cI cZ cL w (m_in h 0 5) 1 1 (by omega) (by omega) (by omega)) (cwV 3 X.2.2.2.2.1 gX2_isMember_X2_goes rfl rfl rfl (by decide +kernel) ⟨Nat.le_of_ble_eq_true rfl, Nat.le_of_ble_eq_true rfl⟩) rfl [] [] (List.append_nil _).symm 2 0 rfl rfl [] rfl (Nat.le_of_ble_eq_true rfl) dX2_isMember_7 ⟨Nat.le_of_ble_eq_true rfl, Nat.le_of_ble_eq_true rfl⟩ (List.append_nil _) ?_
  have r_2 := m_goes_sp (m_in h 0 5) 1 1
  refine z_if_eq (tgt := 26) X ⟨by omega, by omega⟩ (by decide) dX2_isMember_10 (fun c_3 => ?_) (fun c_3 => ?_)
  · skip
    refine z_iconst X dX2_isMember_26 ?_
    exact z_zret X hr hlk (by omega) (if_neg (by omega)).symm rfl dX2_isMember_27
  · skip
    refine z_aload_n X 0 rfl dX2_isMember_13 ?_
    refine z_get (v := .ref (ad 8)) X 2 0 7 hiX2 rfl rfl (by decide) ⟨rfl, rfl, rfl⟩ (by decide +kernel) rfl dX2_isMember_14 ?_
    refine z_iload_n X 1 rfl dX2_isMember_17 ?_
    refine z_zald (g := w.1 7) X 8 1 rfl rfl (by omega) (by omega) ⟨by omega, by omega⟩ dX2_isMember_18 ?_
    have b_4 := hB 7 rfl h
    refine z_if_ne (tgt := 26) X ⟨by omega, by omega⟩ (by decide) dX2_isMember_19 (fun c_5 => ?_) (fun c_5 => ?_)
    · skip
      refine z_iconst X dX2_isMember_26 ?_
      exact z_zret X hr hlk (by omega) (if_neg (by omega)).symm rfl dX2_isMember_27
    · skip
      refine z_iconst X dX2_isMember_22 ?_
      refine z_goto (tgt := 27) X (by decide) dX2_isMember_23 ?_
      exact z_zret X hr hlk (by omega) (if_pos (by omega)).symm rfl dX2_isMember_27
set_option maxHeartbeats 4000000 in
set_option maxRecDepth 100000 in
theorem c_X2_ofTrade (l : Launch) (D : va_G) (ad : Nat → Nat) (cI cZ cL : ClassId) (w : GS) (t x : Int) (hz : zB t) (hz2 : zB x) (hB : Bdm w) (hc : 0 ≤ w.2 5 ∧ w.2 5 ≤ 6) : zMi l D (zT cI cZ cL) yX2_ofTrade wsX2_ofTrade ({ frames := 1, cells := 0, slots := 0, locals := 23 } : Room) (Mw ad cI cZ w) [.ref (ad 0), .int (iZ t), .int (iZ x)] (if m_ofC w t x = 0 then m_ofV w t x else 0) (Mw ad cI cZ (gV w 6 (m_ofC w t x))) 0 0 := by
  refine z_mi (cc := cX2_ofTrade) (maxL := 3) (ret := (some .int)) (by decide) rfl (Nat.le_of_ble_eq_true rfl) ?_
  intro p e s m below meth c A X hr hlk hin
  have hiX2 : ∀ w ∈ wsX20, w ∈ wsX2_ofTrade := by decide +kernel
  refine z_sub (lv' := [(0, .ref (ad 0)), (1, .int (iZ t)), (2, .int (iZ x))]) [0, 1, 2] rfl ?_
  refine z_aload_n X 0 rfl dX2_ofTrade_0 ?_
  refine z_iload_n X 1 rfl dX2_ofTrade_1 ?_
  refine z_iconst X dX2_ofTrade_2 ?_
  refine z_aload_n X 0 rfl dX2_ofTrade_3 ?_
  refine z_get (v := .int (iZ (w.2 5))) X 2 0 17 hiX2 rfl rfl (by decide) ⟨rfl, rfl, rfl⟩ (by decide +kernel) rfl dX2_ofTrade_4 ?_
  refine z_iconst X dX2_ofTrade_7 ?_
  refine z_isub X dX2_ofTrade_8 ?_
  refine z_callis X (c_X2_in l D ad cI cZ cL t 0 ((w.2 5) - 1) ⟨by omega, by omega⟩ ⟨by omega, by omega⟩ ⟨by omega, by omega⟩) (va_cwS 3 X.2.2.2.2.1 gX2_ofTrade_X2_in rfl rfl rfl (by decide +kernel) ⟨Nat.le_of_ble_eq_true rfl, Nat.le_of_ble_eq_true rfl⟩) rfl [] (Mw ad cI cZ w) rfl [.ref (ad 0)] rfl (Nat.le_of_ble_eq_true rfl) dX2_ofTrade_9 ⟨Nat.le_of_ble_eq_true rfl, Nat.le_of_ble_eq_true rfl⟩ rfl ?_
  have r_1 := m_in_sp t 0 ((w.2 5) - 1)
  refine z_if_eq (tgt := 28) X ⟨by omega, by omega⟩ (by decide) dX2_ofTrade_12 (fun c_2 => ?_) (fun c_2 => ?_)
  · skip
    refine z_iconst X dX2_ofTrade_28 ?_
    refine z_iconst X dX2_ofTrade_29 ?_
    refine z_iconst X dX2_ofTrade_30 ?_
    refine z_calli X (c_X2_goesK l D ad cI cZ cL w 0 1 1 1 0 (by omega) (by omega) (by omega) (by decide) (by decide)) (cwV 3 X.2.2.2.2.1 gX2_ofTrade_X2_goes rfl rfl rfl (by decide +kernel) ⟨Nat.le_of_ble_eq_true rfl, Nat.le_of_ble_eq_true rfl⟩) rfl [] [] (List.append_nil _).symm 2 0 rfl rfl [] rfl (Nat.le_of_ble_eq_true rfl) dX2_ofTrade_31 ⟨Nat.le_of_ble_eq_true rfl, Nat.le_of_ble_eq_true rfl⟩ (List.append_nil _) ?_
    refine z_if_ne (tgt := 39) X ⟨by omega, by omega⟩ (by decide) dX2_ofTrade_34 (fun c_3 => ?_) (fun c_3 => ?_)
    · exact absurd c_3 (by omega)
    · skip
      refine z_iconst X dX2_ofTrade_37 ?_
      exact z_iret X hr hlk (by have e9 : m_ofC w t x = 1 := if_neg (fun q => by omega); rw [if_neg (by omega)]) (congrArg (Mw ad cI cZ) (by have e9 : m_ofC w t x = 1 := if_neg (fun q => by omega); rw [e9])) dX2_ofTrade_38
  · skip
    refine z_iload_n X 2 rfl dX2_ofTrade_15 ?_
    refine z_iconst X dX2_ofTrade_16 ?_
    refine z_iconst X dX2_ofTrade_17 ?_
    refine z_callis X (c_X2_in l D ad cI cZ cL x 0 3 ⟨by omega, by omega⟩ ⟨by omega, by omega⟩ ⟨by omega, by omega⟩) (va_cwS 3 X.2.2.2.2.1 gX2_ofTrade_X2_in rfl rfl rfl (by decide +kernel) ⟨Nat.le_of_ble_eq_true rfl, Nat.le_of_ble_eq_true rfl⟩) rfl [] (Mw ad cI cZ w) rfl [.ref (ad 0)] rfl (Nat.le_of_ble_eq_true rfl) dX2_ofTrade_18 ⟨Nat.le_of_ble_eq_true rfl, Nat.le_of_ble_eq_true rfl⟩ rfl ?_
    have r_4 := m_in_sp x 0 3
    refine z_if_eq (tgt := 28) X ⟨by omega, by omega⟩ (by decide) dX2_ofTrade_21 (fun c_5 => ?_) (fun c_5 => ?_)
    · skip
      refine z_iconst X dX2_ofTrade_28 ?_
      refine z_iconst X dX2_ofTrade_29 ?_
      refine z_iconst X dX2_ofTrade_30 ?_
      refine z_calli X (c_X2_goesK l D ad cI cZ cL w 0 1 1 1 0 (by omega) (by omega) (by omega) (by decide) (by decide)) (cwV 3 X.2.2.2.2.1 gX2_ofTrade_X2_goes rfl rfl rfl (by decide +kernel) ⟨Nat.le_of_ble_eq_true rfl, Nat.le_of_ble_eq_true rfl⟩) rfl [] [] (List.append_nil _).symm 2 0 rfl rfl [] rfl (Nat.le_of_ble_eq_true rfl) dX2_ofTrade_31 ⟨Nat.le_of_ble_eq_true rfl, Nat.le_of_ble_eq_true rfl⟩ (List.append_nil _) ?_
      refine z_if_ne (tgt := 39) X ⟨by omega, by omega⟩ (by decide) dX2_ofTrade_34 (fun c_6 => ?_) (fun c_6 => ?_)
      · exact absurd c_6 (by omega)
      · skip
        refine z_iconst X dX2_ofTrade_37 ?_
        exact z_iret X hr hlk (by have e9 : m_ofC w t x = 1 := if_neg (fun q => by omega); rw [if_neg (by omega)]) (congrArg (Mw ad cI cZ) (by have e9 : m_ofC w t x = 1 := if_neg (fun q => by omega); rw [e9])) dX2_ofTrade_38
    · skip
      refine z_iconst X dX2_ofTrade_24 ?_
      refine z_goto (tgt := 29) X (by decide) dX2_ofTrade_25 ?_
      refine z_iconst X dX2_ofTrade_29 ?_
      refine z_iconst X dX2_ofTrade_30 ?_
      refine z_calli X (c_X2_goesK l D ad cI cZ cL w 1 1 1 0 1 (by omega) (by omega) (by omega) (by decide) (by decide)) (cwV 3 X.2.2.2.2.1 gX2_ofTrade_X2_goes rfl rfl rfl (by decide +kernel) ⟨Nat.le_of_ble_eq_true rfl, Nat.le_of_ble_eq_true rfl⟩) rfl [] [] (List.append_nil _).symm 2 0 rfl rfl [] rfl (Nat.le_of_ble_eq_true rfl) dX2_ofTrade_31 ⟨Nat.le_of_ble_eq_true rfl, Nat.le_of_ble_eq_true rfl⟩ (List.append_nil _) ?_
      refine z_if_ne (tgt := 39) X ⟨by omega, by omega⟩ (by decide) dX2_ofTrade_34 (fun c_7 => ?_) (fun c_7 => ?_)
      · skip
        refine z_iload_n X 2 rfl dX2_ofTrade_39 ?_
        refine z_if_ne (tgt := 52) X ⟨by omega, by omega⟩ (by decide) dX2_ofTrade_40 (fun c_8 => ?_) (fun c_8 => ?_)
        · skip
          refine z_iload_n X 2 rfl dX2_ofTrade_52 ?_
          refine z_iconst X dX2_ofTrade_53 ?_
          refine z_icmp_ne (tgt := 66) X ⟨by omega, by omega⟩ ⟨by omega, by omega⟩ (by decide) dX2_ofTrade_54 (fun c_9 => ?_) (fun c_9 => ?_)
          · skip
            refine z_iload_n X 2 rfl dX2_ofTrade_66 ?_
            refine z_iconst X dX2_ofTrade_67 ?_
            refine z_icmp_ne (tgt := 80) X ⟨by omega, by omega⟩ ⟨by omega, by omega⟩ (by decide) dX2_ofTrade_68 (fun c_10 => ?_) (fun c_10 => ?_)
            · skip
              refine z_aload_n X 0 rfl dX2_ofTrade_80 ?_
              refine z_get (v := .ref (ad 12)) X 2 0 16 hiX2 rfl rfl (by decide) ⟨rfl, rfl, rfl⟩ (by decide +kernel) rfl dX2_ofTrade_81 ?_
              refine z_iload_n X 1 rfl dX2_ofTrade_84 ?_
              refine z_iald (g := w.1 11) X 12 0 rfl rfl (by omega) (by omega) ⟨by omega, by omega⟩ dX2_ofTrade_85 ?_
              exact z_iret X hr hlk (by have e9 : m_ofC w t x = 0 := if_pos ⟨by omega, by omega⟩; rw [if_pos e9]; unfold m_ofV; repeat' (first | with_reducible rfl | omega | split)) (congrArg (Mw ad cI cZ) (by have e9 : m_ofC w t x = 0 := if_pos ⟨by omega, by omega⟩; rw [e9])) dX2_ofTrade_86
            · skip
              refine z_aload_n X 0 rfl dX2_ofTrade_71 ?_
              refine z_get (v := .ref (ad 11)) X 2 0 15 hiX2 rfl rfl (by decide) ⟨rfl, rfl, rfl⟩ (by decide +kernel) rfl dX2_ofTrade_72 ?_
              refine z_iload_n X 1 rfl dX2_ofTrade_75 ?_
              refine z_iald (g := w.1 10) X 11 0 rfl rfl (by omega) (by omega) ⟨by omega, by omega⟩ dX2_ofTrade_76 ?_
              have b_11 := hB 10 rfl t
              refine z_goto (tgt := 86) X (by decide) dX2_ofTrade_77 ?_
              exact z_iret X hr hlk (by have e9 : m_ofC w t x = 0 := if_pos ⟨by omega, by omega⟩; rw [if_pos e9]; unfold m_ofV; repeat' (first | with_reducible rfl | omega | split)) (congrArg (Mw ad cI cZ) (by have e9 : m_ofC w t x = 0 := if_pos ⟨by omega, by omega⟩; rw [e9])) dX2_ofTrade_86
          · skip
            refine z_aload_n X 0 rfl dX2_ofTrade_57 ?_
            refine z_get (v := .ref (ad 10)) X 2 0 14 hiX2 rfl rfl (by decide) ⟨rfl, rfl, rfl⟩ (by decide +kernel) rfl dX2_ofTrade_58 ?_
            refine z_iload_n X 1 rfl dX2_ofTrade_61 ?_
            refine z_iald (g := w.1 9) X 10 0 rfl rfl (by omega) (by omega) ⟨by omega, by omega⟩ dX2_ofTrade_62 ?_
            have b_12 := hB 9 rfl t
            refine z_goto (tgt := 86) X (by decide) dX2_ofTrade_63 ?_
            exact z_iret X hr hlk (by have e9 : m_ofC w t x = 0 := if_pos ⟨by omega, by omega⟩; rw [if_pos e9]; unfold m_ofV; repeat' (first | with_reducible rfl | omega | split)) (congrArg (Mw ad cI cZ) (by have e9 : m_ofC w t x = 0 := if_pos ⟨by omega, by omega⟩; rw [e9])) dX2_ofTrade_86
        · skip
          refine z_aload_n X 0 rfl dX2_ofTrade_43 ?_
          refine z_get (v := .ref (ad 9)) X 2 0 13 hiX2 rfl rfl (by decide) ⟨rfl, rfl, rfl⟩ (by decide +kernel) rfl dX2_ofTrade_44 ?_
          refine z_iload_n X 1 rfl dX2_ofTrade_47 ?_
          refine z_iald (g := w.1 8) X 9 0 rfl rfl (by omega) (by omega) ⟨by omega, by omega⟩ dX2_ofTrade_48 ?_
          have b_13 := hB 8 rfl t
          refine z_goto (tgt := 86) X (by decide) dX2_ofTrade_49 ?_
          exact z_iret X hr hlk (by have e9 : m_ofC w t x = 0 := if_pos ⟨by omega, by omega⟩; rw [if_pos e9]; unfold m_ofV; repeat' (first | with_reducible rfl | omega | split)) (congrArg (Mw ad cI cZ) (by have e9 : m_ofC w t x = 0 := if_pos ⟨by omega, by omega⟩; rw [e9])) dX2_ofTrade_86
      · exact absurd c_7 (by omega)
