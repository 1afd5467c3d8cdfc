theorem c_X2_rentA (l : Launch) (D : va_G) (ad : Nat → Nat) (cI cZ cL : ClassId) (w : GS) (h o x : Int) (hz : zB h) (hzo : zB o) (hz2 : zB x) (hB : Bdm w) : zMi l D (zT cI cZ cL) yX2_rent wsX2_rent ({ frames := 3, cells := 0, slots := 0, locals := 63 } : Room) (Mw ad cI cZ w) [.ref (ad 0), .int (iZ h), .int (iZ o), .int (iZ x)] (if m_rentC w h o x = 0 then (m_rentW w h o x).1 4 o else 0) (Mw ad cI cZ (m_when w (m_rentC w h o x) (m_rentW (gV w 6 0) h o x))) 0 0 := by
  by_cases q : 1 ≤ x ∧ x ≤ 100
  · exact c_X2_rent l D ad cI cZ cL w h o x hz hzo hz2 hB q
  · exact c_X2_rent_o l D ad cI cZ cL w h o x hz hzo hz2 hB q
set_option maxHeartbeats 4000000 in
set_option maxRecDepth 100000 in
theorem law_0_forecast {p : Program} (l : Launch) (hl : l.stackTraces = false) {e : Env} {s : State} {m : MethodId} {below : List Frame} {meth : Method} {c : Code} {A : Nat → Prop} {D : va_G} {cI cZ cL : ClassId} {b L : Nat} {xs : Nat → Int32} (ad ad2 : Nat → Nat) (ao : Nat) (X : zC p s m #[.ref b] c cL_law 7 RL wsL_law D (zT cI cZ cL) A) (hX : va_X b L xs s s.heap) (hbl : b < s.heap.size) (hbA : ¬ A b) (hL : L ≤ 2048) (n : Nat) (ih : ∀ (i : Int) (u w : GS) (lf : Nat → Int64) (cells slots : Nat), RR u w → 0 ≤ i → i ≤ L → (L : Int) - i ≤ 4 * n → cells + n ≤ 1069 → slots + 6 * n ≤ 8600 → zW p l e room_1 s m #[.ref b] below meth c 7 D A cells slots (lw_Z below #[.ref b] s) (Mw ad2 cI cZ w ++ (Gw ad cI cZ u ++ Ow ao cL lf)) 23 [(0, .ref (b)), (1, .ref (ad 0)), (2, .ref (ad2 0)), (3, .ref (ao)), (4, .int (iZ i))] []) (i : Int) (u w : GS) (lf : Nat → Int64) (cells slots : Nat) (hR : RR u w) (h0 : 0 ≤ i) (hi : i + 4 ≤ L) (hn : (L : Int) - i ≤ 4 * (n + 1 : Nat)) (hc : cells + (n + 1) ≤ 1069) (hs : slots + 6 * (n + 1) ≤ 8600) (g1 g2 g3 : Int) (e1 : xs (i + 1).toNat = iZ g1) (e2 : xs (i + 2).toNat = iZ g2) (e3 : xs (i + 3).toNat = iZ g3) (hz1 : zB g1) (hz2 : zB g2) (hz3 : zB g3) : zW p l e room_1 s m #[.ref b] below meth c 7 D A cells slots (lw_Z below #[.ref b] s) (Mw ad2 cI cZ w ++ (Gw ad cI cZ u ++ Ow ao cL lf)) 132 [(0, .ref (b)), (1, .ref (ad 0)), (2, .ref (ad2 0)), (3, .ref (ao)), (4, .int (iZ i))] [] := by
  refine z_aload_n X 1 rfl dL_law_132 ?_
  refine z_aload_n X 0 rfl dL_law_133 ?_
  refine z_iload X 4 rfl dL_law_134 ?_
  refine z_iconst X dL_law_136 ?_
  refine z_iadd X dL_law_137 ?_
  refine z_sld X hX hbl hbA (by omega) (by omega) ⟨by omega, by omega⟩ dL_law_138 ?_
  refine z_top e1 ?_
  refine z_aload_n X 0 rfl dL_law_139 ?_
  refine z_iload X 4 rfl dL_law_140 ?_
  refine z_iconst X dL_law_142 ?_
  refine z_iadd X dL_law_143 ?_
  refine z_sld X hX hbl hbA (by omega) (by omega) ⟨by omega, by omega⟩ dL_law_144 ?_
  refine z_top e2 ?_
  refine z_aload_n X 3 rfl dL_law_145 ?_
  obtain ⟨u1, lf1, hM, hR1, hv⟩ := H_forecast l hl D ad cI cZ cL ao lf hR g1 g2 hz1 hz2
  refine z_calliW (ws' := Mw ad2 cI cZ w ++ (Gw ad cI cZ u1 ++ Ow ao cL lf1)) X hM (vx_cwSW 4 X.2.2.2.2.1 gL_law_L_forecast rfl rfl rfl (by decide +kernel) ⟨Nat.le_of_ble_eq_true rfl, Nat.le_of_ble_eq_true rfl⟩) rfl (Mw ad2 cI cZ w) [] (by rw [List.append_nil]) [] rfl (Nat.le_of_ble_eq_true rfl) dL_law_146 ⟨(by show cells + 1 ≤ 1069; omega), (by show slots + 6 ≤ 8600; omega)⟩ (by rw [List.append_nil]) ?_
  refine z_istore X [1, 2, 3, 4, 5, 0] [(0, .ref (b)), (1, .ref (ad 0)), (2, .ref (ad2 0)), (3, .ref (ao)), (4, .int (iZ i)), (5, .int (iZ (m_goesC (m_in g1 0 5) (m_in g2 (-50) 50) (m_belongs w g1))))] rfl (Nat.le_of_ble_eq_true rfl) dL_law_149 ?_
  refine z_aload_n X 2 rfl dL_law_151 ?_
  refine z_aload_n X 0 rfl dL_law_152 ?_
  refine z_iload X 4 rfl dL_law_153 ?_
  refine z_iconst X dL_law_155 ?_
  refine z_iadd X dL_law_156 ?_
  refine z_sld X hX hbl hbA (by omega) (by omega) ⟨by omega, by omega⟩ dL_law_157 ?_
  refine z_top e1 ?_
  refine z_aload_n X 0 rfl dL_law_158 ?_
  refine z_iload X 4 rfl dL_law_159 ?_
  refine z_iconst X dL_law_161 ?_
  refine z_iadd X dL_law_162 ?_
  refine z_sld X hX hbl hbA (by omega) (by omega) ⟨by omega, by omega⟩ dL_law_163 ?_
  refine z_top e2 ?_
  refine z_calli (ws' := Mw ad2 cI cZ (m_when w (m_goesC (m_in g1 0 5) (m_in g2 (-50) 50) (m_belongs w g1)) (gA (gV w 6 0) 0 g1 g2)) ++ (Gw ad cI cZ u1 ++ Ow ao cL lf1)) X (c_X2_forecast l D ad2 cI cZ cL w g1 g2 hz1 hz2 hR.bdm) (cwV 2 X.2.2.2.2.1 gL_law_X2_forecast rfl rfl rfl (by decide +kernel) ⟨Nat.le_of_ble_eq_true rfl, Nat.le_of_ble_eq_true rfl⟩) rfl [] (Gw ad cI cZ u1 ++ Ow ao cL lf1) rfl 2 0 rfl rfl [] rfl (Nat.le_of_ble_eq_true rfl) dL_law_164 ⟨(by show cells + 1 + 0 ≤ 1069; omega), (by show slots + 6 + 0 ≤ 8600; omega)⟩ rfl ?_
  refine z_istore X [1, 2, 3, 4, 5, 6, 0] [(0, .ref (b)), (1, .ref (ad 0)), (2, .ref (ad2 0)), (3, .ref (ao)), (4, .int (iZ i)), (5, .int (iZ (m_goesC (m_in g1 0 5) (m_in g2 (-50) 50) (m_belongs w g1)))), (6, .int (iZ (if m_goesC (m_in g1 0 5) (m_in g2 (-50) 50) (m_belongs w g1) = 0 then w.1 0 g1 else 0)))] rfl (Nat.le_of_ble_eq_true rfl) dL_law_167 ?_
  refine z_aload_n X 2 rfl dL_law_169 ?_
  refine z_calli (ws' := Mw ad2 cI cZ (m_when w (m_goesC (m_in g1 0 5) (m_in g2 (-50) 50) (m_belongs w g1)) (gA (gV w 6 0) 0 g1 g2)) ++ (Gw ad cI cZ u1 ++ Ow ao cL lf1)) X (c_X2_thrown l D ad2 cI cZ cL (m_when w (m_goesC (m_in g1 0 5) (m_in g2 (-50) 50) (m_belongs w g1)) (gA (gV w 6 0) 0 g1 g2))) (cwV 0 X.2.2.2.2.1 gL_law_X2_thrown rfl rfl rfl (by decide +kernel) ⟨Nat.le_of_ble_eq_true rfl, Nat.le_of_ble_eq_true rfl⟩) rfl [] (Gw ad cI cZ u1 ++ Ow ao cL lf1) rfl 2 0 rfl rfl [] rfl (Nat.le_of_ble_eq_true rfl) dL_law_170 ⟨(by show cells + 1 + 0 + 0 ≤ 1069; omega), (by show slots + 6 + 0 + 0 ≤ 8600; omega)⟩ rfl ?_
  refine z_iload X 5 rfl dL_law_173 ?_
  refine z_icmpR_eq (tgt := 180) X (by decide) (congrArg iZ (m_when_6 rfl)) dL_law_175 ?_
  refine z_iload X 5 rfl dL_law_180 ?_
  have hcb := (show 0 ≤ m_goesC (m_in g1 0 5) (m_in g2 (-50) 50) (m_belongs w g1) ∧ m_goesC (m_in g1 0 5) (m_in g2 (-50) 50) (m_belongs w g1) ≤ 3 by have := m_goes_sp (m_in g1 0 5) (m_in g2 (-50) 50) (m_belongs w g1); omega)
  refine z_if_ne (tgt := 197) X ⟨by omega, by omega⟩ (by decide) dL_law_182 (fun q1 => ?_) (fun q1 => ?_)
  · skip
    refine z_goto (tgt := 1108) X (by decide) dL_law_197 ?_
    refine z_sub (lv' := [(0, .ref (b)), (1, .ref (ad 0)), (2, .ref (ad2 0)), (3, .ref (ao)), (4, .int (iZ i))]) [0, 1, 2, 3, 4] rfl ?_
    refine z_iinc X 4 [1, 2, 3, 4, 0] [(0, .ref (b)), (1, .ref (ad 0)), (2, .ref (ad2 0)), (3, .ref (ao)), (4, .int (iZ (i + 4)))] rfl rfl (Nat.le_of_ble_eq_true rfl) dL_law_1108 ?_
    refine z_goto (tgt := 23) X (by decide) dL_law_1111 ?_
    refine z_widen (k := cells + 1) (n := slots + 6) (by omega) (by omega) ?_
    exact ih (i + 4) u1 (m_when w (m_goesC (m_in g1 0 5) (m_in g2 (-50) 50) (m_belongs w g1)) (gA (gV w 6 0) 0 g1 g2)) lf1 (cells + 1) (slots + 6) hR1 (by omega) (by omega) (by omega) (by omega) (by omega)
  have q2 : m_goesC (m_in g1 0 5) (m_in g2 (-50) 50) (m_belongs w g1) = 0 := (by omega)
  have hv1 := hv q2
  refine z_aload_n X 3 rfl dL_law_185 ?_
  refine z_iconst X dL_law_186 ?_
  refine z_lald X 34 2 rfl rfl (by omega) (by omega) ⟨by omega, by omega⟩ dL_law_187 ?_
  refine z_iload X 6 rfl dL_law_188 ?_
  refine z_i2l X dL_law_190 ?_
  refine z_lcmp X dL_law_191 ?_
  refine z_top (y := iZ 0) (by show lg_cmp (lf1 0) _ = iZ 0; rw [hv1]; exact lg_same _) ?_
  refine z_if_eq (tgt := 197) X ⟨by omega, by omega⟩ (by decide) dL_law_192 (fun q3 => ?_) (fun q3 => absurd rfl q3)
  refine z_goto (tgt := 1108) X (by decide) dL_law_197 ?_
  refine z_sub (lv' := [(0, .ref (b)), (1, .ref (ad 0)), (2, .ref (ad2 0)), (3, .ref (ao)), (4, .int (iZ i))]) [0, 1, 2, 3, 4] rfl ?_
  refine z_iinc X 4 [1, 2, 3, 4, 0] [(0, .ref (b)), (1, .ref (ad 0)), (2, .ref (ad2 0)), (3, .ref (ao)), (4, .int (iZ (i + 4)))] rfl rfl (Nat.le_of_ble_eq_true rfl) dL_law_1108 ?_
  refine z_goto (tgt := 23) X (by decide) dL_law_1111 ?_
  refine z_widen (k := cells + 1) (n := slots + 6) (by omega) (by omega) ?_
  exact ih (i + 4) u1 (m_when w (m_goesC (m_in g1 0 5) (m_in g2 (-50) 50) (m_belongs w g1)) (gA (gV w 6 0) 0 g1 g2)) lf1 (cells + 1) (slots + 6) hR1 (by omega) (by omega) (by omega) (by omega) (by omega)
set_option maxHeartbeats 4000000 in
set_option maxRecDepth 100000 in
theorem law_1_meter {p : Program} (l : Launch) (hl : l.stackTraces = false) {e : Env} {s : State} {m : MethodId} {below : List Frame} {meth : Method} {c : Code} {A : Nat → Prop} {D : va_G} {cI cZ cL : ClassId} {b L : Nat} {xs : Nat → Int32} (ad ad2 : Nat → Nat) (ao : Nat) (X : zC p s m #[.ref b] c cL_law 7 RL wsL_law D (zT cI cZ cL) A) (hX : va_X b L xs s s.heap) (hbl : b < s.heap.size) (hbA : ¬ A b) (hL : L ≤ 2048) (n : Nat) (ih : ∀ (i : Int) (u w : GS) (lf : Nat → Int64) (cells slots : Nat), RR u w → 0 ≤ i → i ≤ L → (L : Int) - i ≤ 4 * n → cells + n ≤ 1069 → slots + 6 * n ≤ 8600 → zW p l e room_1 s m #[.ref b] below meth c 7 D A cells slots (lw_Z below #[.ref b] s) (Mw ad2 cI cZ w ++ (Gw ad cI cZ u ++ Ow ao cL lf)) 23 [(0, .ref (b)), (1, .ref (ad 0)), (2, .ref (ad2 0)), (3, .ref (ao)), (4, .int (iZ i))] []) (i : Int) (u w : GS) (lf : Nat → Int64) (cells slots : Nat) (hR : RR u w) (h0 : 0 ≤ i) (hi : i + 4 ≤ L) (hn : (L : Int) - i ≤ 4 * (n + 1 : Nat)) (hc : cells + (n + 1) ≤ 1069) (hs : slots + 6 * (n + 1) ≤ 8600) (g1 g2 g3 : Int) (e1 : xs (i + 1).toNat = iZ g1) (e2 : xs (i + 2).toNat = iZ g2) (e3 : xs (i + 3).toNat = iZ g3) (hz1 : zB g1) (hz2 : zB g2) (hz3 : zB g3) : zW p l e room_1 s m #[.ref b] below meth c 7 D A cells slots (lw_Z below #[.ref b] s) (Mw ad2 cI cZ w ++ (Gw ad cI cZ u ++ Ow ao cL lf)) 200 [(0, .ref (b)), (1, .ref (ad 0)), (2, .ref (ad2 0)), (3, .ref (ao)), (4, .int (iZ i))] [] := by
  refine z_aload_n X 1 rfl dL_law_200 ?_
  refine z_aload_n X 0 rfl dL_law_201 ?_
  refine z_iload X 4 rfl dL_law_202 ?_
  refine z_iconst X dL_law_204 ?_
  refine z_iadd X dL_law_205 ?_
  refine z_sld X hX hbl hbA (by omega) (by omega) ⟨by omega, by omega⟩ dL_law_206 ?_
  refine z_top e1 ?_
  refine z_aload_n X 0 rfl dL_law_207 ?_
  refine z_iload X 4 rfl dL_law_208 ?_
  refine z_iconst X dL_law_210 ?_
  refine z_iadd X dL_law_211 ?_
  refine z_sld X hX hbl hbA (by omega) (by omega) ⟨by omega, by omega⟩ dL_law_212 ?_
  refine z_top e2 ?_
  refine z_aload_n X 3 rfl dL_law_213 ?_
  obtain ⟨u1, lf1, hM, hR1, hv⟩ := H_meter l hl D ad cI cZ cL ao lf hR g1 g2 hz1 hz2
  refine z_calliW (ws' := Mw ad2 cI cZ w ++ (Gw ad cI cZ u1 ++ Ow ao cL lf1)) X hM (vx_cwSW 4 X.2.2.2.2.1 gL_law_L_meter rfl rfl rfl (by decide +kernel) ⟨Nat.le_of_ble_eq_true rfl, Nat.le_of_ble_eq_true rfl⟩) rfl (Mw ad2 cI cZ w) [] (by rw [List.append_nil]) [] rfl (Nat.le_of_ble_eq_true rfl) dL_law_214 ⟨(by show cells + 1 ≤ 1069; omega), (by show slots + 6 ≤ 8600; omega)⟩ (by rw [List.append_nil]) ?_
  refine z_istore X [1, 2, 3, 4, 5, 0] [(0, .ref (b)), (1, .ref (ad 0)), (2, .ref (ad2 0)), (3, .ref (ao)), (4, .int (iZ i)), (5, .int (iZ (m_goesC (m_in g1 0 5) (m_in g2 (-50) 50) (m_belongs w g1))))] rfl (Nat.le_of_ble_eq_true rfl) dL_law_217 ?_
  refine z_aload_n X 2 rfl dL_law_219 ?_
  refine z_aload_n X 0 rfl dL_law_220 ?_
  refine z_iload X 4 rfl dL_law_221 ?_
  refine z_iconst X dL_law_223 ?_
  refine z_iadd X dL_law_224 ?_
  refine z_sld X hX hbl hbA (by omega) (by omega) ⟨by omega, by omega⟩ dL_law_225 ?_
  refine z_top e1 ?_
  refine z_aload_n X 0 rfl dL_law_226 ?_
  refine z_iload X 4 rfl dL_law_227 ?_
  refine z_iconst X dL_law_229 ?_
  refine z_iadd X dL_law_230 ?_
  refine z_sld X hX hbl hbA (by omega) (by omega) ⟨by omega, by omega⟩ dL_law_231 ?_
  refine z_top e2 ?_
  refine z_calli (ws' := Mw ad2 cI cZ (m_when w (m_goesC (m_in g1 0 5) (m_in g2 (-50) 50) (m_belongs w g1)) (gA (gV w 6 0) 1 g1 g2)) ++ (Gw ad cI cZ u1 ++ Ow ao cL lf1)) X (c_X2_meter l D ad2 cI cZ cL w g1 g2 hz1 hz2 hR.bdm) (cwV 2 X.2.2.2.2.1 gL_law_X2_meter rfl rfl rfl (by decide +kernel) ⟨Nat.le_of_ble_eq_true rfl, Nat.le_of_ble_eq_true rfl⟩) rfl [] (Gw ad cI cZ u1 ++ Ow ao cL lf1) rfl 2 0 rfl rfl [] rfl (Nat.le_of_ble_eq_true rfl) dL_law_232 ⟨(by show cells + 1 + 0 ≤ 1069; omega), (by show slots + 6 + 0 ≤ 8600; omega)⟩ rfl ?_
  refine z_istore X [1, 2, 3, 4, 5, 6, 0] [(0, .ref (b)), (1, .ref (ad 0)), (2, .ref (ad2 0)), (3, .ref (ao)), (4, .int (iZ i)), (5, .int (iZ (m_goesC (m_in g1 0 5) (m_in g2 (-50) 50) (m_belongs w g1)))), (6, .int (iZ (if m_goesC (m_in g1 0 5) (m_in g2 (-50) 50) (m_belongs w g1) = 0 then w.1 1 g1 else 0)))] rfl (Nat.le_of_ble_eq_true rfl) dL_law_235 ?_
  refine z_aload_n X 2 rfl dL_law_237 ?_
  refine z_calli (ws' := Mw ad2 cI cZ (m_when w (m_goesC (m_in g1 0 5) (m_in g2 (-50) 50) (m_belongs w g1)) (gA (gV w 6 0) 1 g1 g2)) ++ (Gw ad cI cZ u1 ++ Ow ao cL lf1)) X (c_X2_thrown l D ad2 cI cZ cL (m_when w (m_goesC (m_in g1 0 5) (m_in g2 (-50) 50) (m_belongs w g1)) (gA (gV w 6 0) 1 g1 g2))) (cwV 0 X.2.2.2.2.1 gL_law_X2_thrown rfl rfl rfl (by decide +kernel) ⟨Nat.le_of_ble_eq_true rfl, Nat.le_of_ble_eq_true rfl⟩) rfl [] (Gw ad cI cZ u1 ++ Ow ao cL lf1) rfl 2 0 rfl rfl [] rfl (Nat.le_of_ble_eq_true rfl) dL_law_238 ⟨(by show cells + 1 + 0 + 0 ≤ 1069; omega), (by show slots + 6 + 0 + 0 ≤ 8600; omega)⟩ rfl ?_
  refine z_iload X 5 rfl dL_law_241 ?_
  refine z_icmpR_eq (tgt := 248) X (by decide) (congrArg iZ (m_when_6 rfl)) dL_law_243 ?_
  refine z_iload X 5 rfl dL_law_248 ?_
  have hcb := (show 0 ≤ m_goesC (m_in g1 0 5) (m_in g2 (-50) 50) (m_belongs w g1) ∧ m_goesC (m_in g1 0 5) (m_in g2 (-50) 50) (m_belongs w g1) ≤ 3 by have := m_goes_sp (m_in g1 0 5) (m_in g2 (-50) 50) (m_belongs w g1); omega)
  refine z_if_ne (tgt := 265) X ⟨by omega, by omega⟩ (by decide) dL_law_250 (fun q1 => ?_) (fun q1 => ?_)
  · skip
    refine z_goto (tgt := 1108) X (by decide) dL_law_265 ?_
    refine z_sub (lv' := [(0, .ref (b)), (1, .ref (ad 0)), (2, .ref (ad2 0)), (3, .ref (ao)), (4, .int (iZ i))]) [0, 1, 2, 3, 4] rfl ?_
    refine z_iinc X 4 [1, 2, 3, 4, 0] [(0, .ref (b)), (1, .ref (ad 0)), (2, .ref (ad2 0)), (3, .ref (ao)), (4, .int (iZ (i + 4)))] rfl rfl (Nat.le_of_ble_eq_true rfl) dL_law_1108 ?_
    refine z_goto (tgt := 23) X (by decide) dL_law_1111 ?_
    refine z_widen (k := cells + 1) (n := slots + 6) (by omega) (by omega) ?_
    exact ih (i + 4) u1 (m_when w (m_goesC (m_in g1 0 5) (m_in g2 (-50) 50) (m_belongs w g1)) (gA (gV w 6 0) 1 g1 g2)) lf1 (cells + 1) (slots + 6) hR1 (by omega) (by omega) (by omega) (by omega) (by omega)
  have q2 : m_goesC (m_in g1 0 5) (m_in g2 (-50) 50) (m_belongs w g1) = 0 := (by omega)
  have hv1 := hv q2
  refine z_aload_n X 3 rfl dL_law_253 ?_
  refine z_iconst X dL_law_254 ?_
  refine z_lald X 34 2 rfl rfl (by omega) (by omega) ⟨by omega, by omega⟩ dL_law_255 ?_
  refine z_iload X 6 rfl dL_law_256 ?_
  refine z_i2l X dL_law_258 ?_
  refine z_lcmp X dL_law_259 ?_
  refine z_top (y := iZ 0) (by show lg_cmp (lf1 0) _ = iZ 0; rw [hv1]; exact lg_same _) ?_
  refine z_if_eq (tgt := 265) X ⟨by omega, by omega⟩ (by decide) dL_law_260 (fun q3 => ?_) (fun q3 => absurd rfl q3)
  refine z_goto (tgt := 1108) X (by decide) dL_law_265 ?_
  refine z_sub (lv' := [(0, .ref (b)), (1, .ref (ad 0)), (2, .ref (ad2 0)), (3, .ref (ao)), (4, .int (iZ i))]) [0, 1, 2, 3, 4] rfl ?_
  refine z_iinc X 4 [1, 2, 3, 4, 0] [(0, .ref (b)), (1, .ref (ad 0)), (2, .ref (ad2 0)), (3, .ref (ao)), (4, .int (iZ (i + 4)))] rfl rfl (Nat.le_of_ble_eq_true rfl) dL_law_1108 ?_
  refine z_goto (tgt := 23) X (by decide) dL_law_1111 ?_
  refine z_widen (k := cells + 1) (n := slots + 6) (by omega) (by omega) ?_
  exact ih (i + 4) u1 (m_when w (m_goesC (m_in g1 0 5) (m_in g2 (-50) 50) (m_belongs w g1)) (gA (gV w 6 0) 1 g1 g2)) lf1 (cells + 1) (slots + 6) hR1 (by omega) (by omega) (by omega) (by omega) (by omega)
set_option maxHeartbeats 4000000 in
set_option maxRecDepth 100000 in
theorem law_2_setPrice {p : Program} (l : Launch) (hl : l.stackTraces = false) {e : Env} {s : State} {m : MethodId} {below : List Frame} {meth : Method} {c : Code} {A : Nat → Prop} {D : va_G} {cI cZ cL : ClassId} {b L : Nat} {xs : Nat → Int32} (ad ad2 : Nat → Nat) (ao : Nat) (X : zC p s m #[.ref b] c cL_law 7 RL wsL_law D (zT cI cZ cL) A) (hX : va_X b L xs s s.heap) (hbl : b < s.heap.size) (hbA : ¬ A b) (hL : L ≤ 2048) (n : Nat) (ih : ∀ (i : Int) (u w : GS) (lf : Nat → Int64) (cells slots : Nat), RR u w → 0 ≤ i → i ≤ L → (L : Int) - i ≤ 4 * n → cells + n ≤ 1069 → slots + 6 * n ≤ 8600 → zW p l e room_1 s m #[.ref b] below meth c 7 D A cells slots (lw_Z below #[.ref b] s) (Mw ad2 cI cZ w ++ (Gw ad cI cZ u ++ Ow ao cL lf)) 23 [(0, .ref (b)), (1, .ref (ad 0)), (2, .ref (ad2 0)), (3, .ref (ao)), (4, .int (iZ i))] []) (i : Int) (u w : GS) (lf : Nat → Int64) (cells slots : Nat) (hR : RR u w) (h0 : 0 ≤ i) (hi : i + 4 ≤ L) (hn : (L : Int) - i ≤ 4 * (n + 1 : Nat)) (hc : cells + (n + 1) ≤ 1069) (hs : slots + 6 * (n + 1) ≤ 8600) (g1 g2 g3 : Int) (e1 : xs (i + 1).toNat = iZ g1) (e2 : xs (i + 2).toNat = iZ g2) (e3 : xs (i + 3).toNat = iZ g3) (hz1 : zB g1) (hz2 : zB g2) (hz3 : zB g3) : zW p l e room_1 s m #[.ref b] below meth c 7 D A cells slots (lw_Z below #[.ref b] s) (Mw ad2 cI cZ w ++ (Gw ad cI cZ u ++ Ow ao cL lf)) 268 [(0, .ref (b)), (1, .ref (ad 0)), (2, .ref (ad2 0)), (3, .ref (ao)), (4, .int (iZ i))] [] := by
  refine z_aload_n X 1 rfl dL_law_268 ?_
  refine z_aload_n X 0 rfl dL_law_269 ?_
  refine z_iload X 4 rfl dL_law_270 ?_
  refine z_iconst X dL_law_272 ?_
  refine z_iadd X dL_law_273 ?_
  refine z_sld X hX hbl hbA (by omega) (by omega) ⟨by omega, by omega⟩ dL_law_274 ?_
  refine z_top e1 ?_
  refine z_aload_n X 0 rfl dL_law_275 ?_
  refine z_iload X 4 rfl dL_law_276 ?_
  refine z_iconst X dL_law_278 ?_
  refine z_iadd X dL_law_279 ?_
  refine z_sld X hX hbl hbA (by omega) (by omega) ⟨by omega, by omega⟩ dL_law_280 ?_
  refine z_top e2 ?_
  refine z_aload_n X 3 rfl dL_law_281 ?_
  obtain ⟨u1, lf1, hM, hR1, hv⟩ := H_setPrice l hl D ad cI cZ cL ao lf hR g1 g2 hz1 hz2
  refine z_calliW (ws' := Mw ad2 cI cZ w ++ (Gw ad cI cZ u1 ++ Ow ao cL lf1)) X hM (vx_cwSW 4 X.2.2.2.2.1 gL_law_L_setPrice rfl rfl rfl (by decide +kernel) ⟨Nat.le_of_ble_eq_true rfl, Nat.le_of_ble_eq_true rfl⟩) rfl (Mw ad2 cI cZ w) [] (by rw [List.append_nil]) [] rfl (Nat.le_of_ble_eq_true rfl) dL_law_282 ⟨(by show cells + 1 ≤ 1069; omega), (by show slots + 6 ≤ 8600; omega)⟩ (by rw [List.append_nil]) ?_
  refine z_istore X [1, 2, 3, 4, 5, 0] [(0, .ref (b)), (1, .ref (ad 0)), (2, .ref (ad2 0)), (3, .ref (ao)), (4, .int (iZ i)), (5, .int (iZ (m_goesC (m_in g1 0 5) (m_in g2 0 100) 1)))] rfl (Nat.le_of_ble_eq_true rfl) dL_law_285 ?_
  refine z_aload_n X 2 rfl dL_law_287 ?_
  refine z_aload_n X 0 rfl dL_law_288 ?_
  refine z_iload X 4 rfl dL_law_289 ?_
  refine z_iconst X dL_law_291 ?_
  refine z_iadd X dL_law_292 ?_
  refine z_sld X hX hbl hbA (by omega) (by omega) ⟨by omega, by omega⟩ dL_law_293 ?_
  refine z_top e1 ?_
  refine z_aload_n X 0 rfl dL_law_294 ?_
  refine z_iload X 4 rfl dL_law_295 ?_
  refine z_iconst X dL_law_297 ?_
  refine z_iadd X dL_law_298 ?_
  refine z_sld X hX hbl hbA (by omega) (by omega) ⟨by omega, by omega⟩ dL_law_299 ?_
  refine z_top e2 ?_
  refine z_calli (ws' := Mw ad2 cI cZ (m_when w (m_goesC (m_in g1 0 5) (m_in g2 0 100) 1) (gA (gV w 6 0) 2 g1 g2)) ++ (Gw ad cI cZ u1 ++ Ow ao cL lf1)) X (c_X2_setPrice l D ad2 cI cZ cL w g1 g2 hz1 hz2 hR.bdm) (cwV 2 X.2.2.2.2.1 gL_law_X2_setPrice rfl rfl rfl (by decide +kernel) ⟨Nat.le_of_ble_eq_true rfl, Nat.le_of_ble_eq_true rfl⟩) rfl [] (Gw ad cI cZ u1 ++ Ow ao cL lf1) rfl 2 0 rfl rfl [] rfl (Nat.le_of_ble_eq_true rfl) dL_law_300 ⟨(by show cells + 1 + 0 ≤ 1069; omega), (by show slots + 6 + 0 ≤ 8600; omega)⟩ rfl ?_
  refine z_istore X [1, 2, 3, 4, 5, 6, 0] [(0, .ref (b)), (1, .ref (ad 0)), (2, .ref (ad2 0)), (3, .ref (ao)), (4, .int (iZ i)), (5, .int (iZ (m_goesC (m_in g1 0 5) (m_in g2 0 100) 1))), (6, .int (iZ (if m_goesC (m_in g1 0 5) (m_in g2 0 100) 1 = 0 then w.1 2 g1 else 0)))] rfl (Nat.le_of_ble_eq_true rfl) dL_law_303 ?_
  refine z_aload_n X 2 rfl dL_law_305 ?_
  refine z_calli (ws' := Mw ad2 cI cZ (m_when w (m_goesC (m_in g1 0 5) (m_in g2 0 100) 1) (gA (gV w 6 0) 2 g1 g2)) ++ (Gw ad cI cZ u1 ++ Ow ao cL lf1)) X (c_X2_thrown l D ad2 cI cZ cL (m_when w (m_goesC (m_in g1 0 5) (m_in g2 0 100) 1) (gA (gV w 6 0) 2 g1 g2))) (cwV 0 X.2.2.2.2.1 gL_law_X2_thrown rfl rfl rfl (by decide +kernel) ⟨Nat.le_of_ble_eq_true rfl, Nat.le_of_ble_eq_true rfl⟩) rfl [] (Gw ad cI cZ u1 ++ Ow ao cL lf1) rfl 2 0 rfl rfl [] rfl (Nat.le_of_ble_eq_true rfl) dL_law_306 ⟨(by show cells + 1 + 0 + 0 ≤ 1069; omega), (by show slots + 6 + 0 + 0 ≤ 8600; omega)⟩ rfl ?_
  refine z_iload X 5 rfl dL_law_309 ?_
  refine z_icmpR_eq (tgt := 316) X (by decide) (congrArg iZ (m_when_6 rfl)) dL_law_311 ?_
  refine z_iload X 5 rfl dL_law_316 ?_
  have hcb := (show 0 ≤ m_goesC (m_in g1 0 5) (m_in g2 0 100) (1) ∧ m_goesC (m_in g1 0 5) (m_in g2 0 100) (1) ≤ 3 by have := m_goes_sp (m_in g1 0 5) (m_in g2 0 100) (1); omega)
  refine z_if_ne (tgt := 333) X ⟨by omega, by omega⟩ (by decide) dL_law_318 (fun q1 => ?_) (fun q1 => ?_)
  · skip
    refine z_goto (tgt := 1108) X (by decide) dL_law_333 ?_
    refine z_sub (lv' := [(0, .ref (b)), (1, .ref (ad 0)), (2, .ref (ad2 0)), (3, .ref (ao)), (4, .int (iZ i))]) [0, 1, 2, 3, 4] rfl ?_
    refine z_iinc X 4 [1, 2, 3, 4, 0] [(0, .ref (b)), (1, .ref (ad 0)), (2, .ref (ad2 0)), (3, .ref (ao)), (4, .int (iZ (i + 4)))] rfl rfl (Nat.le_of_ble_eq_true rfl) dL_law_1108 ?_
    refine z_goto (tgt := 23) X (by decide) dL_law_1111 ?_
    refine z_widen (k := cells + 1) (n := slots + 6) (by omega) (by omega) ?_
    exact ih (i + 4) u1 (m_when w (m_goesC (m_in g1 0 5) (m_in g2 0 100) 1) (gA (gV w 6 0) 2 g1 g2)) lf1 (cells + 1) (slots + 6) hR1 (by omega) (by omega) (by omega) (by omega) (by omega)
  have q2 : m_goesC (m_in g1 0 5) (m_in g2 0 100) 1 = 0 := (by omega)
  have hv1 := hv q2
  refine z_aload_n X 3 rfl dL_law_321 ?_
  refine z_iconst X dL_law_322 ?_
  refine z_lald X 34 2 rfl rfl (by omega) (by omega) ⟨by omega, by omega⟩ dL_law_323 ?_
  refine z_iload X 6 rfl dL_law_324 ?_
  refine z_i2l X dL_law_326 ?_
  refine z_lcmp X dL_law_327 ?_
  refine z_top (y := iZ 0) (by show lg_cmp (lf1 0) _ = iZ 0; rw [hv1]; exact lg_same _) ?_
  refine z_if_eq (tgt := 333) X ⟨by omega, by omega⟩ (by decide) dL_law_328 (fun q3 => ?_) (fun q3 => absurd rfl q3)
  refine z_goto (tgt := 1108) X (by decide) dL_law_333 ?_
  refine z_sub (lv' := [(0, .ref (b)), (1, .ref (ad 0)), (2, .ref (ad2 0)), (3, .ref (ao)), (4, .int (iZ i))]) [0, 1, 2, 3, 4] rfl ?_
  refine z_iinc X 4 [1, 2, 3, 4, 0] [(0, .ref (b)), (1, .ref (ad 0)), (2, .ref (ad2 0)), (3, .ref (ao)), (4, .int (iZ (i + 4)))] rfl rfl (Nat.le_of_ble_eq_true rfl) dL_law_1108 ?_
  refine z_goto (tgt := 23) X (by decide) dL_law_1111 ?_
  refine z_widen (k := cells + 1) (n := slots + 6) (by omega) (by omega) ?_
  exact ih (i + 4) u1 (m_when w (m_goesC (m_in g1 0 5) (m_in g2 0 100) 1) (gA (gV w 6 0) 2 g1 g2)) lf1 (cells + 1) (slots + 6) hR1 (by omega) (by omega) (by omega) (by omega) (by omega)
set_option maxHeartbeats 4000000 in
set_option maxRecDepth 100000 in
theorem law_3_setLimit {p : Program} (l : Launch) (hl : l.stackTraces = false) {e : Env} {s : State} {m : MethodId} {below : List Frame} {meth : Method} {c : Code} {A : Nat → Prop} {D : va_G} {cI cZ cL : ClassId} {b L : Nat} {xs : Nat → Int32} (ad ad2 : Nat → Nat) (ao : Nat) (X : zC p s m #[.ref b] c cL_law 7 RL wsL_law D (zT cI cZ cL) A) (hX : va_X b L xs s s.heap) (hbl : b < s.heap.size) (hbA : ¬ A b) (hL : L ≤ 2048) (n : Nat) (ih : ∀ (i : Int) (u w : GS) (lf : Nat → Int64) (cells slots : Nat), RR u w → 0 ≤ i → i ≤ L → (L : Int) - i ≤ 4 * n → cells + n ≤ 1069 → slots + 6 * n ≤ 8600 → zW p l e room_1 s m #[.ref b] below meth c 7 D A cells slots (lw_Z below #[.ref b] s) (Mw ad2 cI cZ w ++ (Gw ad cI cZ u ++ Ow ao cL lf)) 23 [(0, .ref (b)), (1, .ref (ad 0)), (2, .ref (ad2 0)), (3, .ref (ao)), (4, .int (iZ i))] []) (i : Int) (u w : GS) (lf : Nat → Int64) (cells slots : Nat) (hR : RR u w) (h0 : 0 ≤ i) (hi : i + 4 ≤ L) (hn : (L : Int) - i ≤ 4 * (n + 1 : Nat)) (hc : cells + (n + 1) ≤ 1069) (hs : slots + 6 * (n + 1) ≤ 8600) (g1 g2 g3 : Int) (e1 : xs (i + 1).toNat = iZ g1) (e2 : xs (i + 2).toNat = iZ g2) (e3 : xs (i + 3).toNat = iZ g3) (hz1 : zB g1) (hz2 : zB g2) (hz3 : zB g3) : zW p l e room_1 s m #[.ref b] below meth c 7 D A cells slots (lw_Z below #[.ref b] s) (Mw ad2 cI cZ w ++ (Gw ad cI cZ u ++ Ow ao cL lf)) 336 [(0, .ref (b)), (1, .ref (ad 0)), (2, .ref (ad2 0)), (3, .ref (ao)), (4, .int (iZ i))] [] := by
  refine z_aload_n X 1 rfl dL_law_336 ?_
  refine z_aload_n X 0 rfl dL_law_337 ?_
  refine z_iload X 4 rfl dL_law_338 ?_
  refine z_iconst X dL_law_340 ?_
  refine z_iadd X dL_law_341 ?_
  refine z_sld X hX hbl hbA (by omega) (by omega) ⟨by omega, by omega⟩ dL_law_342 ?_
  refine z_top e1 ?_
  refine z_aload_n X 0 rfl dL_law_343 ?_
  refine z_iload X 4 rfl dL_law_344 ?_
  refine z_iconst X dL_law_346 ?_
  refine z_iadd X dL_law_347 ?_
  refine z_sld X hX hbl hbA (by omega) (by omega) ⟨by omega, by omega⟩ dL_law_348 ?_
  refine z_top e2 ?_
  refine z_aload_n X 3 rfl dL_law_349 ?_
  obtain ⟨u1, lf1, hM, hR1, hv⟩ := H_setLimit l hl D ad cI cZ cL ao lf hR g1 g2 hz1 hz2
  refine z_calliW (ws' := Mw ad2 cI cZ w ++ (Gw ad cI cZ u1 ++ Ow ao cL lf1)) X hM (vx_cwSW 4 X.2.2.2.2.1 gL_law_L_setLimit rfl rfl rfl (by decide +kernel) ⟨Nat.le_of_ble_eq_true rfl, Nat.le_of_ble_eq_true rfl⟩) rfl (Mw ad2 cI cZ w) [] (by rw [List.append_nil]) [] rfl (Nat.le_of_ble_eq_true rfl) dL_law_350 ⟨(by show cells + 1 ≤ 1069; omega), (by show slots + 6 ≤ 8600; omega)⟩ (by rw [List.append_nil]) ?_
  refine z_istore X [1, 2, 3, 4, 5, 0] [(0, .ref (b)), (1, .ref (ad 0)), (2, .ref (ad2 0)), (3, .ref (ao)), (4, .int (iZ i)), (5, .int (iZ (m_goesC (m_in g1 0 4) (m_in g2 0 300) 1)))] rfl (Nat.le_of_ble_eq_true rfl) dL_law_353 ?_
  refine z_aload_n X 2 rfl dL_law_355 ?_
  refine z_aload_n X 0 rfl dL_law_356 ?_
  refine z_iload X 4 rfl dL_law_357 ?_
  refine z_iconst X dL_law_359 ?_
  refine z_iadd X dL_law_360 ?_
  refine z_sld X hX hbl hbA (by omega) (by omega) ⟨by omega, by omega⟩ dL_law_361 ?_
  refine z_top e1 ?_
  refine z_aload_n X 0 rfl dL_law_362 ?_
  refine z_iload X 4 rfl dL_law_363 ?_
  refine z_iconst X dL_law_365 ?_
  refine z_iadd X dL_law_366 ?_
  refine z_sld X hX hbl hbA (by omega) (by omega) ⟨by omega, by omega⟩ dL_law_367 ?_
  refine z_top e2 ?_
  refine z_calli (ws' := Mw ad2 cI cZ (m_when w (m_goesC (m_in g1 0 4) (m_in g2 0 300) 1) (gA (gV w 6 0) 3 g1 g2)) ++ (Gw ad cI cZ u1 ++ Ow ao cL lf1)) X (c_X2_setLimit l D ad2 cI cZ cL w g1 g2 hz1 hz2 hR.bdm) (cwV 2 X.2.2.2.2.1 gL_law_X2_setLimit rfl rfl rfl (by decide +kernel) ⟨Nat.le_of_ble_eq_true rfl, Nat.le_of_ble_eq_true rfl⟩) rfl [] (Gw ad cI cZ u1 ++ Ow ao cL lf1) rfl 2 0 rfl rfl [] rfl (Nat.le_of_ble_eq_true rfl) dL_law_368 ⟨(by show cells + 1 + 0 ≤ 1069; omega), (by show slots + 6 + 0 ≤ 8600; omega)⟩ rfl ?_
  refine z_istore X [1, 2, 3, 4, 5, 6, 0] [(0, .ref (b)), (1, .ref (ad 0)), (2, .ref (ad2 0)), (3, .ref (ao)), (4, .int (iZ i)), (5, .int (iZ (m_goesC (m_in g1 0 4) (m_in g2 0 300) 1))), (6, .int (iZ (if m_goesC (m_in g1 0 4) (m_in g2 0 300) 1 = 0 then w.1 3 g1 else 0)))] rfl (Nat.le_of_ble_eq_true rfl) dL_law_371 ?_
  refine z_aload_n X 2 rfl dL_law_373 ?_
  refine z_calli (ws' := Mw ad2 cI cZ (m_when w (m_goesC (m_in g1 0 4) (m_in g2 0 300) 1) (gA (gV w 6 0) 3 g1 g2)) ++ (Gw ad cI cZ u1 ++ Ow ao cL lf1)) X (c_X2_thrown l D ad2 cI cZ cL (m_when w (m_goesC (m_in g1 0 4) (m_in g2 0 300) 1) (gA (gV w 6 0) 3 g1 g2))) (cwV 0 X.2.2.2.2.1 gL_law_X2_thrown rfl rfl rfl (by decide +kernel) ⟨Nat.le_of_ble_eq_true rfl, Nat.le_of_ble_eq_true rfl⟩) rfl [] (Gw ad cI cZ u1 ++ Ow ao cL lf1) rfl 2 0 rfl rfl [] rfl (Nat.le_of_ble_eq_true rfl) dL_law_374 ⟨(by show cells + 1 + 0 + 0 ≤ 1069; omega), (by show slots + 6 + 0 + 0 ≤ 8600; omega)⟩ rfl ?_
  refine z_iload X 5 rfl dL_law_377 ?_
  refine z_icmpR_eq (tgt := 384) X (by decide) (congrArg iZ (m_when_6 rfl)) dL_law_379 ?_
  refine z_iload X 5 rfl dL_law_384 ?_
  have hcb := (show 0 ≤ m_goesC (m_in g1 0 4) (m_in g2 0 300) (1) ∧ m_goesC (m_in g1 0 4) (m_in g2 0 300) (1) ≤ 3 by have := m_goes_sp (m_in g1 0 4) (m_in g2 0 300) (1); omega)
  refine z_if_ne (tgt := 401) X ⟨by omega, by omega⟩ (by decide) dL_law_386 (fun q1 => ?_) (fun q1 => ?_)
  · skip
    refine z_goto (tgt := 1108) X (by decide) dL_law_401 ?_
    refine z_sub (lv' := [(0, .ref (b)), (1, .ref (ad 0)), (2, .ref (ad2 0)), (3, .ref (ao)), (4, .int (iZ i))]) [0, 1, 2, 3, 4] rfl ?_
    refine z_iinc X 4 [1, 2, 3, 4, 0] [(0, .ref (b)), (1, .ref (ad 0)), (2, .ref (ad2 0)), (3, .ref (ao)), (4, .int (iZ (i + 4)))] rfl rfl (Nat.le_of_ble_eq_true rfl) dL_law_1108 ?_
    refine z_goto (tgt := 23) X (by decide) dL_law_1111 ?_
    refine z_widen (k := cells + 1) (n := slots + 6) (by omega) (by omega) ?_
    exact ih (i + 4) u1 (m_when w (m_goesC (m_in g1 0 4) (m_in g2 0 300) 1) (gA (gV w 6 0) 3 g1 g2)) lf1 (cells + 1) (slots + 6) hR1 (by omega) (by omega) (by omega) (by omega) (by omega)
  have q2 : m_goesC (m_in g1 0 4) (m_in g2 0 300) 1 = 0 := (by omega)
  have hv1 := hv q2
  refine z_aload_n X 3 rfl dL_law_389 ?_
  refine z_iconst X dL_law_390 ?_
  refine z_lald X 34 2 rfl rfl (by omega) (by omega) ⟨by omega, by omega⟩ dL_law_391 ?_
  refine z_iload X 6 rfl dL_law_392 ?_
  refine z_i2l X dL_law_394 ?_
  refine z_lcmp X dL_law_395 ?_
  refine z_top (y := iZ 0) (by show lg_cmp (lf1 0) _ = iZ 0; rw [hv1]; exact lg_same _) ?_
  refine z_if_eq (tgt := 401) X ⟨by omega, by omega⟩ (by decide) dL_law_396 (fun q3 => ?_) (fun q3 => absurd rfl q3)
  refine z_goto (tgt := 1108) X (by decide) dL_law_401 ?_
  refine z_sub (lv' := [(0, .ref (b)), (1, .ref (ad 0)), (2, .ref (ad2 0)), (3, .ref (ao)), (4, .int (iZ i))]) [0, 1, 2, 3, 4] rfl ?_
  refine z_iinc X 4 [1, 2, 3, 4, 0] [(0, .ref (b)), (1, .ref (ad 0)), (2, .ref (ad2 0)), (3, .ref (ao)), (4, .int (iZ (i + 4)))] rfl rfl (Nat.le_of_ble_eq_true rfl) dL_law_1108 ?_
  refine z_goto (tgt := 23) X (by decide) dL_law_1111 ?_
  refine z_widen (k := cells + 1) (n := slots + 6) (by omega) (by omega) ?_
  exact ih (i + 4) u1 (m_when w (m_goesC (m_in g1 0 4) (m_in g2 0 300) 1) (gA (gV w 6 0) 3 g1 g2)) lf1 (cells + 1) (slots + 6) hR1 (by omega) (by omega) (by omega) (by omega) (by omega)
set_option maxHeartbeats 4000000 in
set_option maxRecDepth 100000 in
theorem law_4_setSupplier {p : Program} (l : Launch) (hl : l.stackTraces = false) {e : Env} {s : State} {m : MethodId} {below : List Frame} {meth : Method} {c : Code} {A : Nat → Prop} {D : va_G} {cI cZ cL : ClassId} {b L : Nat} {xs : Nat → Int32} (ad ad2 : Nat → Nat) (ao : Nat) (X : zC p s m #[.ref b] c cL_law 7 RL wsL_law D (zT cI cZ cL) A) (hX : va_X b L xs s s.heap) (hbl : b < s.heap.size) (hbA : ¬ A b) (hL : L ≤ 2048) (n : Nat) (ih : ∀ (i : Int) (u w : GS) (lf : Nat → Int64) (cells slots : Nat), RR u w → 0 ≤ i → i ≤ L → (L : Int) - i ≤ 4 * n → cells + n ≤ 1069 → slots + 6 * n ≤ 8600 → zW p l e room_1 s m #[.ref b] below meth c 7 D A cells slots (lw_Z below #[.ref b] s) (Mw ad2 cI cZ w ++ (Gw ad cI cZ u ++ Ow ao cL lf)) 23 [(0, .ref (b)), (1, .ref (ad 0)), (2, .ref (ad2 0)), (3, .ref (ao)), (4, .int (iZ i))] []) (i : Int) (u w : GS) (lf : Nat → Int64) (cells slots : Nat) (hR : RR u w) (h0 : 0 ≤ i) (hi : i + 4 ≤ L) (hn : (L : Int) - i ≤ 4 * (n + 1 : Nat)) (hc : cells + (n + 1) ≤ 1069) (hs : slots + 6 * (n + 1) ≤ 8600) (g1 g2 g3 : Int) (e1 : xs (i + 1).toNat = iZ g1) (e2 : xs (i + 2).toNat = iZ g2) (e3 : xs (i + 3).toNat = iZ g3) (hz1 : zB g1) (hz2 : zB g2) (hz3 : zB g3) : zW p l e room_1 s m #[.ref b] below meth c 7 D A cells slots (lw_Z below #[.ref b] s) (Mw ad2 cI cZ w ++ (Gw ad cI cZ u ++ Ow ao cL lf)) 404 [(0, .ref (b)), (1, .ref (ad 0)), (2, .ref (ad2 0)), (3, .ref (ao)), (4, .int (iZ i))] [] := by
  refine z_aload_n X 1 rfl dL_law_404 ?_
  refine z_aload_n X 0 rfl dL_law_405 ?_
  refine z_iload X 4 rfl dL_law_406 ?_
  refine z_iconst X dL_law_408 ?_
  refine z_iadd X dL_law_409 ?_
  refine z_sld X hX hbl hbA (by omega) (by omega) ⟨by omega, by omega⟩ dL_law_410 ?_
  refine z_top e1 ?_
  refine z_aload_n X 0 rfl dL_law_411 ?_
  refine z_iload X 4 rfl dL_law_412 ?_
  refine z_iconst X dL_law_414 ?_
  refine z_iadd X dL_law_415 ?_
  refine z_sld X hX hbl hbA (by omega) (by omega) ⟨by omega, by omega⟩ dL_law_416 ?_
  refine z_top e2 ?_
  obtain ⟨u1, lf1, hM, hR1⟩ := H_setSupplier l hl D ad cI cZ cL ao lf hR g1 g2 hz1 hz2
  refine z_calliW (ws' := Mw ad2 cI cZ w ++ (Gw ad cI cZ u1 ++ Ow ao cL lf1)) X hM (vx_cwSW 3 X.2.2.2.2.1 gL_law_L_setSupplier rfl rfl rfl (by decide +kernel) ⟨Nat.le_of_ble_eq_true rfl, Nat.le_of_ble_eq_true rfl⟩) rfl (Mw ad2 cI cZ w) [] (by rw [List.append_nil]) [] rfl (Nat.le_of_ble_eq_true rfl) dL_law_417 ⟨(by show cells + 1 ≤ 1069; omega), (by show slots + 6 ≤ 8600; omega)⟩ (by rw [List.append_nil]) ?_
  refine z_istore X [1, 2, 3, 4, 5, 0] [(0, .ref (b)), (1, .ref (ad 0)), (2, .ref (ad2 0)), (3, .ref (ao)), (4, .int (iZ i)), (5, .int (iZ (m_supC g1 g2)))] rfl (Nat.le_of_ble_eq_true rfl) dL_law_420 ?_
  refine z_aload_n X 2 rfl dL_law_422 ?_
  refine z_aload_n X 0 rfl dL_law_423 ?_
  refine z_iload X 4 rfl dL_law_424 ?_
  refine z_iconst X dL_law_426 ?_
  refine z_iadd X dL_law_427 ?_
  refine z_sld X hX hbl hbA (by omega) (by omega) ⟨by omega, by omega⟩ dL_law_428 ?_
  refine z_top e1 ?_
  refine z_aload_n X 0 rfl dL_law_429 ?_
  refine z_iload X 4 rfl dL_law_430 ?_
  refine z_iconst X dL_law_432 ?_
  refine z_iadd X dL_law_433 ?_
  refine z_sld X hX hbl hbA (by omega) (by omega) ⟨by omega, by omega⟩ dL_law_434 ?_
  refine z_top e2 ?_
  refine z_callv (ws' := Mw ad2 cI cZ (m_when w (m_supC g1 g2) (gV (gV (gV w 6 0) 0 g1) 1 g2)) ++ (Gw ad cI cZ u1 ++ Ow ao cL lf1)) X (c_X2_setSupplier l D ad2 cI cZ cL w g1 g2 hz1 hz2) (cwV 2 X.2.2.2.2.1 gL_law_X2_setSupplier rfl rfl rfl (by decide +kernel) ⟨Nat.le_of_ble_eq_true rfl, Nat.le_of_ble_eq_true rfl⟩) rfl [] (Gw ad cI cZ u1 ++ Ow ao cL lf1) rfl 2 0 rfl rfl [] rfl (Nat.le_of_ble_eq_true rfl) dL_law_435 ⟨(by show cells + 1 + 0 ≤ 1069; omega), (by show slots + 6 + 0 ≤ 8600; omega)⟩ rfl ?_
  refine z_aload_n X 2 rfl dL_law_438 ?_
  refine z_calli (ws' := Mw ad2 cI cZ (m_when w (m_supC g1 g2) (gV (gV (gV w 6 0) 0 g1) 1 g2)) ++ (Gw ad cI cZ u1 ++ Ow ao cL lf1)) X (c_X2_thrown l D ad2 cI cZ cL (m_when w (m_supC g1 g2) (gV (gV (gV w 6 0) 0 g1) 1 g2))) (cwV 0 X.2.2.2.2.1 gL_law_X2_thrown rfl rfl rfl (by decide +kernel) ⟨Nat.le_of_ble_eq_true rfl, Nat.le_of_ble_eq_true rfl⟩) rfl [] (Gw ad cI cZ u1 ++ Ow ao cL lf1) rfl 2 0 rfl rfl [] rfl (Nat.le_of_ble_eq_true rfl) dL_law_439 ⟨(by show cells + 1 + 0 + 0 ≤ 1069; omega), (by show slots + 6 + 0 + 0 ≤ 8600; omega)⟩ rfl ?_
  refine z_iload X 5 rfl dL_law_442 ?_
  refine z_icmpR_eq (tgt := 449) X (by decide) (congrArg iZ (m_when_6 rfl)) dL_law_444 ?_
  refine z_goto (tgt := 1108) X (by decide) dL_law_449 ?_
  refine z_sub (lv' := [(0, .ref (b)), (1, .ref (ad 0)), (2, .ref (ad2 0)), (3, .ref (ao)), (4, .int (iZ i))]) [0, 1, 2, 3, 4] rfl ?_
  refine z_iinc X 4 [1, 2, 3, 4, 0] [(0, .ref (b)), (1, .ref (ad 0)), (2, .ref (ad2 0)), (3, .ref (ao)), (4, .int (iZ (i + 4)))] rfl rfl (Nat.le_of_ble_eq_true rfl) dL_law_1108 ?_
  refine z_goto (tgt := 23) X (by decide) dL_law_1111 ?_
  refine z_widen (k := cells + 1) (n := slots + 6) (by omega) (by omega) ?_
  exact ih (i + 4) u1 (m_when w (m_supC g1 g2) (gV (gV (gV w 6 0) 0 g1) 1 g2)) lf1 (cells + 1) (slots + 6) hR1 (by omega) (by omega) (by omega) (by omega) (by omega)
set_option maxHeartbeats 4000000 in
set_option maxRecDepth 100000 in
theorem law_5_rent {p : Program} (l : Launch) (hl : l.stackTraces = false) {e : Env} {s : State} {m : MethodId} {below : List Frame} {meth : Method} {c : Code} {A : Nat → Prop} {D : va_G} {cI cZ cL : ClassId} {b L : Nat} {xs : Nat → Int32} (ad ad2 : Nat → Nat) (ao : Nat) (X : zC p s m #[.ref b] c cL_law 7 RL wsL_law D (zT cI cZ cL) A) (hX : va_X b L xs s s.heap) (hbl : b < s.heap.size) (hbA : ¬ A b) (hL : L ≤ 2048) (n : Nat) (ih : ∀ (i : Int) (u w : GS) (lf : Nat → Int64) (cells slots : Nat), RR u w → 0 ≤ i → i ≤ L → (L : Int) - i ≤ 4 * n → cells + n ≤ 1069 → slots + 6 * n ≤ 8600 → zW p l e room_1 s m #[.ref b] below meth c 7 D A cells slots (lw_Z below #[.ref b] s) (Mw ad2 cI cZ w ++ (Gw ad cI cZ u ++ Ow ao cL lf)) 23 [(0, .ref (b)), (1, .ref (ad 0)), (2, .ref (ad2 0)), (3, .ref (ao)), (4, .int (iZ i))] []) (i : Int) (u w : GS) (lf : Nat → Int64) (cells slots : Nat) (hR : RR u w) (h0 : 0 ≤ i) (hi : i + 4 ≤ L) (hn : (L : Int) - i ≤ 4 * (n + 1 : Nat)) (hc : cells + (n + 1) ≤ 1069) (hs : slots + 6 * (n + 1) ≤ 8600) (g1 g2 g3 : Int) (e1 : xs (i + 1).toNat = iZ g1) (e2 : xs (i + 2).toNat = iZ g2) (e3 : xs (i + 3).toNat = iZ g3) (hz1 : zB g1) (hz2 : zB g2) (hz3 : zB g3) : zW p l e room_1 s m #[.ref b] below meth c 7 D A cells slots (lw_Z below #[.ref b] s) (Mw ad2 cI cZ w ++ (Gw ad cI cZ u ++ Ow ao cL lf)) 452 [(0, .ref (b)), (1, .ref (ad 0)), (2, .ref (ad2 0)), (3, .ref (ao)), (4, .int (iZ i))] [] := by
  refine z_aload_n X 1 rfl dL_law_452 ?_
  refine z_aload_n X 0 rfl dL_law_453 ?_
  refine z_iload X 4 rfl dL_law_454 ?_
  refine z_iconst X dL_law_456 ?_
  refine z_iadd X dL_law_457 ?_
  refine z_sld X hX hbl hbA (by omega) (by omega) ⟨by omega, by omega⟩ dL_law_458 ?_
  refine z_top e1 ?_
  refine z_aload_n X 0 rfl dL_law_459 ?_
  refine z_iload X 4 rfl dL_law_460 ?_
  refine z_iconst X dL_law_462 ?_
  refine z_iadd X dL_law_463 ?_
  refine z_sld X hX hbl hbA (by omega) (by omega) ⟨by omega, by omega⟩ dL_law_464 ?_
  refine z_top e2 ?_
  refine z_aload_n X 0 rfl dL_law_465 ?_
  refine z_iload X 4 rfl dL_law_466 ?_
  refine z_iconst X dL_law_468 ?_
  refine z_iadd X dL_law_469 ?_
  refine z_sld X hX hbl hbA (by omega) (by omega) ⟨by omega, by omega⟩ dL_law_470 ?_
  refine z_top e3 ?_
  refine z_aload_n X 3 rfl dL_law_471 ?_
  obtain ⟨u1, lf1, hM, hR1, hv⟩ := H_rent l hl D ad cI cZ cL ao lf hR g1 g2 g3 hz1 hz2 hz3
  refine z_calliW (ws' := Mw ad2 cI cZ w ++ (Gw ad cI cZ u1 ++ Ow ao cL lf1)) X hM (vx_cwSW 5 X.2.2.2.2.1 gL_law_L_rent rfl rfl rfl (by decide +kernel) ⟨Nat.le_of_ble_eq_true rfl, Nat.le_of_ble_eq_true rfl⟩) rfl (Mw ad2 cI cZ w) [] (by rw [List.append_nil]) [] rfl (Nat.le_of_ble_eq_true rfl) dL_law_472 ⟨(by show cells + 1 ≤ 1069; omega), (by show slots + 6 ≤ 8600; omega)⟩ (by rw [List.append_nil]) ?_
  refine z_istore X [1, 2, 3, 4, 5, 0] [(0, .ref (b)), (1, .ref (ad 0)), (2, .ref (ad2 0)), (3, .ref (ao)), (4, .int (iZ i)), (5, .int (iZ (m_rentC w g1 g2 g3)))] rfl (Nat.le_of_ble_eq_true rfl) dL_law_475 ?_
  refine z_aload_n X 2 rfl dL_law_477 ?_
  refine z_aload_n X 0 rfl dL_law_478 ?_
  refine z_iload X 4 rfl dL_law_479 ?_
  refine z_iconst X dL_law_481 ?_
  refine z_iadd X dL_law_482 ?_
  refine z_sld X hX hbl hbA (by omega) (by omega) ⟨by omega, by omega⟩ dL_law_483 ?_
  refine z_top e1 ?_
  refine z_aload_n X 0 rfl dL_law_484 ?_
  refine z_iload X 4 rfl dL_law_485 ?_
  refine z_iconst X dL_law_487 ?_
  refine z_iadd X dL_law_488 ?_
  refine z_sld X hX hbl hbA (by omega) (by omega) ⟨by omega, by omega⟩ dL_law_489 ?_
  refine z_top e2 ?_
  refine z_aload_n X 0 rfl dL_law_490 ?_
  refine z_iload X 4 rfl dL_law_491 ?_
  refine z_iconst X dL_law_493 ?_
  refine z_iadd X dL_law_494 ?_
  refine z_sld X hX hbl hbA (by omega) (by omega) ⟨by omega, by omega⟩ dL_law_495 ?_
  refine z_top e3 ?_
  refine z_calli (ws' := Mw ad2 cI cZ (m_when w (m_rentC w g1 g2 g3) (m_rentW (gV w 6 0) g1 g2 g3)) ++ (Gw ad cI cZ u1 ++ Ow ao cL lf1)) X (c_X2_rentA l D ad2 cI cZ cL w g1 g2 g3 hz1 hz2 hz3 hR.bdm) (cwV 3 X.2.2.2.2.1 gL_law_X2_rent rfl rfl rfl (by decide +kernel) ⟨Nat.le_of_ble_eq_true rfl, Nat.le_of_ble_eq_true rfl⟩) rfl [] (Gw ad cI cZ u1 ++ Ow ao cL lf1) rfl 2 0 rfl rfl [] rfl (Nat.le_of_ble_eq_true rfl) dL_law_496 ⟨(by show cells + 1 + 0 ≤ 1069; omega), (by show slots + 6 + 0 ≤ 8600; omega)⟩ rfl ?_
  refine z_istore X [1, 2, 3, 4, 5, 6, 0] [(0, .ref (b)), (1, .ref (ad 0)), (2, .ref (ad2 0)), (3, .ref (ao)), (4, .int (iZ i)), (5, .int (iZ (m_rentC w g1 g2 g3))), (6, .int (iZ (if m_rentC w g1 g2 g3 = 0 then (m_rentW w g1 g2 g3).1 4 g2 else 0)))] rfl (Nat.le_of_ble_eq_true rfl) dL_law_499 ?_
  refine z_aload_n X 2 rfl dL_law_501 ?_
  refine z_calli (ws' := Mw ad2 cI cZ (m_when w (m_rentC w g1 g2 g3) (m_rentW (gV w 6 0) g1 g2 g3)) ++ (Gw ad cI cZ u1 ++ Ow ao cL lf1)) X (c_X2_thrown l D ad2 cI cZ cL (m_when w (m_rentC w g1 g2 g3) (m_rentW (gV w 6 0) g1 g2 g3))) (cwV 0 X.2.2.2.2.1 gL_law_X2_thrown rfl rfl rfl (by decide +kernel) ⟨Nat.le_of_ble_eq_true rfl, Nat.le_of_ble_eq_true rfl⟩) rfl [] (Gw ad cI cZ u1 ++ Ow ao cL lf1) rfl 2 0 rfl rfl [] rfl (Nat.le_of_ble_eq_true rfl) dL_law_502 ⟨(by show cells + 1 + 0 + 0 ≤ 1069; omega), (by show slots + 6 + 0 + 0 ≤ 8600; omega)⟩ rfl ?_
  refine z_iload X 5 rfl dL_law_505 ?_
  refine z_icmpR_eq (tgt := 512) X (by decide) (congrArg iZ (m_when_6 rfl)) dL_law_507 ?_
  refine z_iload X 5 rfl dL_law_512 ?_
  have hcb := (show 0 ≤ m_rentC w g1 g2 g3 ∧ m_rentC w g1 g2 g3 ≤ 3 by unfold m_rentC; repeat' split; all_goals omega)
  refine z_if_ne (tgt := 529) X ⟨by omega, by omega⟩ (by decide) dL_law_514 (fun q1 => ?_) (fun q1 => ?_)
  · skip
    refine z_goto (tgt := 1108) X (by decide) dL_law_529 ?_
    refine z_sub (lv' := [(0, .ref (b)), (1, .ref (ad 0)), (2, .ref (ad2 0)), (3, .ref (ao)), (4, .int (iZ i))]) [0, 1, 2, 3, 4] rfl ?_
    refine z_iinc X 4 [1, 2, 3, 4, 0] [(0, .ref (b)), (1, .ref (ad 0)), (2, .ref (ad2 0)), (3, .ref (ao)), (4, .int (iZ (i + 4)))] rfl rfl (Nat.le_of_ble_eq_true rfl) dL_law_1108 ?_
    refine z_goto (tgt := 23) X (by decide) dL_law_1111 ?_
    refine z_widen (k := cells + 1) (n := slots + 6) (by omega) (by omega) ?_
    exact ih (i + 4) u1 (m_when w (m_rentC w g1 g2 g3) (m_rentW (gV w 6 0) g1 g2 g3)) lf1 (cells + 1) (slots + 6) hR1 (by omega) (by omega) (by omega) (by omega) (by omega)
  have q2 : m_rentC w g1 g2 g3 = 0 := (by omega)
  have hv1 := hv q2
  refine z_aload_n X 3 rfl dL_law_517 ?_
  refine z_iconst X dL_law_518 ?_
  refine z_lald X 34 2 rfl rfl (by omega) (by omega) ⟨by omega, by omega⟩ dL_law_519 ?_
  refine z_iload X 6 rfl dL_law_520 ?_
  refine z_i2l X dL_law_522 ?_
  refine z_lcmp X dL_law_523 ?_
  refine z_top (y := iZ 0) (by show lg_cmp (lf1 0) _ = iZ 0; rw [hv1]; exact lg_same _) ?_
  refine z_if_eq (tgt := 529) X ⟨by omega, by omega⟩ (by decide) dL_law_524 (fun q3 => ?_) (fun q3 => absurd rfl q3)
  refine z_goto (tgt := 1108) X (by decide) dL_law_529 ?_
  refine z_sub (lv' := [(0, .ref (b)), (1, .ref (ad 0)), (2, .ref (ad2 0)), (3, .ref (ao)), (4, .int (iZ i))]) [0, 1, 2, 3, 4] rfl ?_
  refine z_iinc X 4 [1, 2, 3, 4, 0] [(0, .ref (b)), (1, .ref (ad 0)), (2, .ref (ad2 0)), (3, .ref (ao)), (4, .int (iZ (i + 4)))] rfl rfl (Nat.le_of_ble_eq_true rfl) dL_law_1108 ?_
  refine z_goto (tgt := 23) X (by decide) dL_law_1111 ?_
  refine z_widen (k := cells + 1) (n := slots + 6) (by omega) (by omega) ?_
  exact ih (i + 4) u1 (m_when w (m_rentC w g1 g2 g3) (m_rentW (gV w 6 0) g1 g2 g3)) lf1 (cells + 1) (slots + 6) hR1 (by omega) (by omega) (by omega) (by omega) (by omega)
set_option maxHeartbeats 4000000 in
set_option maxRecDepth 100000 in
theorem law_6_leave {p : Program} (l : Launch) (hl : l.stackTraces = false) {e : Env} {s : State} {m : MethodId} {below : List Frame} {meth : Method} {c : Code} {A : Nat → Prop} {D : va_G} {cI cZ cL : ClassId} {b L : Nat} {xs : Nat → Int32} (ad ad2 : Nat → Nat) (ao : Nat) (X : zC p s m #[.ref b] c cL_law 7 RL wsL_law D (zT cI cZ cL) A) (hX : va_X b L xs s s.heap) (hbl : b < s.heap.size) (hbA : ¬ A b) (hL : L ≤ 2048) (n : Nat) (ih : ∀ (i : Int) (u w : GS) (lf : Nat → Int64) (cells slots : Nat), RR u w → 0 ≤ i → i ≤ L → (L : Int) - i ≤ 4 * n → cells + n ≤ 1069 → slots + 6 * n ≤ 8600 → zW p l e room_1 s m #[.ref b] below meth c 7 D A cells slots (lw_Z below #[.ref b] s) (Mw ad2 cI cZ w ++ (Gw ad cI cZ u ++ Ow ao cL lf)) 23 [(0, .ref (b)), (1, .ref (ad 0)), (2, .ref (ad2 0)), (3, .ref (ao)), (4, .int (iZ i))] []) (i : Int) (u w : GS) (lf : Nat → Int64) (cells slots : Nat) (hR : RR u w) (h0 : 0 ≤ i) (hi : i + 4 ≤ L) (hn : (L : Int) - i ≤ 4 * (n + 1 : Nat)) (hc : cells + (n + 1) ≤ 1069) (hs : slots + 6 * (n + 1) ≤ 8600) (g1 g2 g3 : Int) (e1 : xs (i + 1).toNat = iZ g1) (e2 : xs (i + 2).toNat = iZ g2) (e3 : xs (i + 3).toNat = iZ g3) (hz1 : zB g1) (hz2 : zB g2) (hz3 : zB g3) : zW p l e room_1 s m #[.ref b] below meth c 7 D A cells slots (lw_Z below #[.ref b] s) (Mw ad2 cI cZ w ++ (Gw ad cI cZ u ++ Ow ao cL lf)) 532 [(0, .ref (b)), (1, .ref (ad 0)), (2, .ref (ad2 0)), (3, .ref (ao)), (4, .int (iZ i))] [] := by
  refine z_aload_n X 1 rfl dL_law_532 ?_
  refine z_aload_n X 0 rfl dL_law_533 ?_
  refine z_iload X 4 rfl dL_law_534 ?_
  refine z_iconst X dL_law_536 ?_
  refine z_iadd X dL_law_537 ?_
  refine z_sld X hX hbl hbA (by omega) (by omega) ⟨by omega, by omega⟩ dL_law_538 ?_
  refine z_top e1 ?_
  refine z_aload_n X 3 rfl dL_law_539 ?_
  obtain ⟨u1, lf1, hM, hR1, hv⟩ := H_leave l hl D ad cI cZ cL ao lf hR g1 hz1
  refine z_calliW (ws' := Mw ad2 cI cZ w ++ (Gw ad cI cZ u1 ++ Ow ao cL lf1)) X hM (vx_cwSW 3 X.2.2.2.2.1 gL_law_L_leave rfl rfl rfl (by decide +kernel) ⟨Nat.le_of_ble_eq_true rfl, Nat.le_of_ble_eq_true rfl⟩) rfl (Mw ad2 cI cZ w) [] (by rw [List.append_nil]) [] rfl (Nat.le_of_ble_eq_true rfl) dL_law_540 ⟨(by show cells + 1 ≤ 1069; omega), (by show slots + 6 ≤ 8600; omega)⟩ (by rw [List.append_nil]) ?_
  refine z_istore X [1, 2, 3, 4, 5, 0] [(0, .ref (b)), (1, .ref (ad 0)), (2, .ref (ad2 0)), (3, .ref (ao)), (4, .int (iZ i)), (5, .int (iZ (m_goesC (m_in g1 0 5) (m_belongs w g1) 1)))] rfl (Nat.le_of_ble_eq_true rfl) dL_law_543 ?_
  refine z_aload_n X 2 rfl dL_law_545 ?_
  refine z_aload_n X 0 rfl dL_law_546 ?_
  refine z_iload X 4 rfl dL_law_547 ?_
  refine z_iconst X dL_law_549 ?_
  refine z_iadd X dL_law_550 ?_
  refine z_sld X hX hbl hbA (by omega) (by omega) ⟨by omega, by omega⟩ dL_law_551 ?_
  refine z_top e1 ?_
  refine z_calli (ws' := Mw ad2 cI cZ (m_when w (m_goesC (m_in g1 0 5) (m_belongs w g1) 1) (m_leaveW (gV w 6 0) g1)) ++ (Gw ad cI cZ u1 ++ Ow ao cL lf1)) X (c_X2_leave l D ad2 cI cZ cL w g1 hz1 hR.bdm) (cwV 1 X.2.2.2.2.1 gL_law_X2_leave rfl rfl rfl (by decide +kernel) ⟨Nat.le_of_ble_eq_true rfl, Nat.le_of_ble_eq_true rfl⟩) rfl [] (Gw ad cI cZ u1 ++ Ow ao cL lf1) rfl 2 0 rfl rfl [] rfl (Nat.le_of_ble_eq_true rfl) dL_law_552 ⟨(by show cells + 1 + 0 ≤ 1069; omega), (by show slots + 6 + 0 ≤ 8600; omega)⟩ rfl ?_
  refine z_istore X [1, 2, 3, 4, 5, 6, 0] [(0, .ref (b)), (1, .ref (ad 0)), (2, .ref (ad2 0)), (3, .ref (ao)), (4, .int (iZ i)), (5, .int (iZ (m_goesC (m_in g1 0 5) (m_belongs w g1) 1))), (6, .int (iZ (if m_goesC (m_in g1 0 5) (m_belongs w g1) 1 = 0 then w.1 5 g1 * w.2 1 else 0)))] rfl (Nat.le_of_ble_eq_true rfl) dL_law_555 ?_
  refine z_aload_n X 2 rfl dL_law_557 ?_
  refine z_calli (ws' := Mw ad2 cI cZ (m_when w (m_goesC (m_in g1 0 5) (m_belongs w g1) 1) (m_leaveW (gV w 6 0) g1)) ++ (Gw ad cI cZ u1 ++ Ow ao cL lf1)) X (c_X2_thrown l D ad2 cI cZ cL (m_when w (m_goesC (m_in g1 0 5) (m_belongs w g1) 1) (m_leaveW (gV w 6 0) g1))) (cwV 0 X.2.2.2.2.1 gL_law_X2_thrown rfl rfl rfl (by decide +kernel) ⟨Nat.le_of_ble_eq_true rfl, Nat.le_of_ble_eq_true rfl⟩) rfl [] (Gw ad cI cZ u1 ++ Ow ao cL lf1) rfl 2 0 rfl rfl [] rfl (Nat.le_of_ble_eq_true rfl) dL_law_558 ⟨(by show cells + 1 + 0 + 0 ≤ 1069; omega), (by show slots + 6 + 0 + 0 ≤ 8600; omega)⟩ rfl ?_
  refine z_iload X 5 rfl dL_law_561 ?_
  refine z_icmpR_eq (tgt := 568) X (by decide) (congrArg iZ (m_when_6 rfl)) dL_law_563 ?_
  refine z_iload X 5 rfl dL_law_568 ?_
  have hcb := (show 0 ≤ m_goesC (m_in g1 0 5) (m_belongs w g1) (1) ∧ m_goesC (m_in g1 0 5) (m_belongs w g1) (1) ≤ 3 by have := m_goes_sp (m_in g1 0 5) (m_belongs w g1) (1); omega)
  refine z_if_ne (tgt := 585) X ⟨by omega, by omega⟩ (by decide) dL_law_570 (fun q1 => ?_) (fun q1 => ?_)
  · skip
    refine z_goto (tgt := 1108) X (by decide) dL_law_585 ?_
    refine z_sub (lv' := [(0, .ref (b)), (1, .ref (ad 0)), (2, .ref (ad2 0)), (3, .ref (ao)), (4, .int (iZ i))]) [0, 1, 2, 3, 4] rfl ?_
    refine z_iinc X 4 [1, 2, 3, 4, 0] [(0, .ref (b)), (1, .ref (ad 0)), (2, .ref (ad2 0)), (3, .ref (ao)), (4, .int (iZ (i + 4)))] rfl rfl (Nat.le_of_ble_eq_true rfl) dL_law_1108 ?_
    refine z_goto (tgt := 23) X (by decide) dL_law_1111 ?_
    refine z_widen (k := cells + 1) (n := slots + 6) (by omega) (by omega) ?_
    exact ih (i + 4) u1 (m_when w (m_goesC (m_in g1 0 5) (m_belongs w g1) 1) (m_leaveW (gV w 6 0) g1)) lf1 (cells + 1) (slots + 6) hR1 (by omega) (by omega) (by omega) (by omega) (by omega)
  have q2 : m_goesC (m_in g1 0 5) (m_belongs w g1) 1 = 0 := (by omega)
  have hv1 := hv q2
  refine z_aload_n X 3 rfl dL_law_573 ?_
  refine z_iconst X dL_law_574 ?_
  refine z_lald X 34 2 rfl rfl (by omega) (by omega) ⟨by omega, by omega⟩ dL_law_575 ?_
  refine z_iload X 6 rfl dL_law_576 ?_
  refine z_i2l X dL_law_578 ?_
  refine z_lcmp X dL_law_579 ?_
  refine z_top (y := iZ 0) (by show lg_cmp (lf1 0) _ = iZ 0; rw [hv1]; exact lg_same _) ?_
  refine z_if_eq (tgt := 585) X ⟨by omega, by omega⟩ (by decide) dL_law_580 (fun q3 => ?_) (fun q3 => absurd rfl q3)
  refine z_goto (tgt := 1108) X (by decide) dL_law_585 ?_
  refine z_sub (lv' := [(0, .ref (b)), (1, .ref (ad 0)), (2, .ref (ad2 0)), (3, .ref (ao)), (4, .int (iZ i))]) [0, 1, 2, 3, 4] rfl ?_
  refine z_iinc X 4 [1, 2, 3, 4, 0] [(0, .ref (b)), (1, .ref (ad 0)), (2, .ref (ad2 0)), (3, .ref (ao)), (4, .int (iZ (i + 4)))] rfl rfl (Nat.le_of_ble_eq_true rfl) dL_law_1108 ?_
  refine z_goto (tgt := 23) X (by decide) dL_law_1111 ?_
  refine z_widen (k := cells + 1) (n := slots + 6) (by omega) (by omega) ?_
  exact ih (i + 4) u1 (m_when w (m_goesC (m_in g1 0 5) (m_belongs w g1) 1) (m_leaveW (gV w 6 0) g1)) lf1 (cells + 1) (slots + 6) hR1 (by omega) (by omega) (by omega) (by omega) (by omega)
set_option maxHeartbeats 4000000 in
set_option maxRecDepth 100000 in
theorem law_7_clear {p : Program} (l : Launch) (hl : l.stackTraces = false) {e : Env} {s : State} {m : MethodId} {below : List Frame} {meth : Method} {c : Code} {A : Nat → Prop} {D : va_G} {cI cZ cL : ClassId} {b L : Nat} {xs : Nat → Int32} (ad ad2 : Nat → Nat) (ao : Nat) (X : zC p s m #[.ref b] c cL_law 7 RL wsL_law D (zT cI cZ cL) A) (hX : va_X b L xs s s.heap) (hbl : b < s.heap.size) (hbA : ¬ A b) (hL : L ≤ 2048) (n : Nat) (ih : ∀ (i : Int) (u w : GS) (lf : Nat → Int64) (cells slots : Nat), RR u w → 0 ≤ i → i ≤ L → (L : Int) - i ≤ 4 * n → cells + n ≤ 1069 → slots + 6 * n ≤ 8600 → zW p l e room_1 s m #[.ref b] below meth c 7 D A cells slots (lw_Z below #[.ref b] s) (Mw ad2 cI cZ w ++ (Gw ad cI cZ u ++ Ow ao cL lf)) 23 [(0, .ref (b)), (1, .ref (ad 0)), (2, .ref (ad2 0)), (3, .ref (ao)), (4, .int (iZ i))] []) (i : Int) (u w : GS) (lf : Nat → Int64) (cells slots : Nat) (hR : RR u w) (h0 : 0 ≤ i) (hi : i + 4 ≤ L) (hn : (L : Int) - i ≤ 4 * (n + 1 : Nat)) (hc : cells + (n + 1) ≤ 1069) (hs : slots + 6 * (n + 1) ≤ 8600) (g1 g2 g3 : Int) (e1 : xs (i + 1).toNat = iZ g1) (e2 : xs (i + 2).toNat = iZ g2) (e3 : xs (i + 3).toNat = iZ g3) (hz1 : zB g1) (hz2 : zB g2) (hz3 : zB g3) : zW p l e room_1 s m #[.ref b] below meth c 7 D A cells slots (lw_Z below #[.ref b] s) (Mw ad2 cI cZ w ++ (Gw ad cI cZ u ++ Ow ao cL lf)) 588 [(0, .ref (b)), (1, .ref (ad 0)), (2, .ref (ad2 0)), (3, .ref (ao)), (4, .int (iZ i))] [] := by
  have hq5 := hR.2.2.2.2.2.2.2.2
  by_cases hq : w.2 4 < 500
  · skip
    refine z_aload_n X 1 rfl dL_law_588 ?_
    refine z_aload_n X 3 rfl dL_law_589 ?_
    obtain ⟨u1, lf1, hM, hR1, hv⟩ := H_clear l hl D ad cI cZ cL ao lf hR hq
    refine z_calliW (ws' := Mw ad2 cI cZ w ++ (Gw ad cI cZ u1 ++ Ow ao cL lf1)) X hM (vx_cwSW 2 X.2.2.2.2.1 gL_law_L_clear rfl rfl rfl (by decide +kernel) ⟨Nat.le_of_ble_eq_true rfl, Nat.le_of_ble_eq_true rfl⟩) rfl (Mw ad2 cI cZ w) [] (by rw [List.append_nil]) [] rfl (Nat.le_of_ble_eq_true rfl) dL_law_590 ⟨(by show cells + 1 ≤ 1069; omega), (by show slots + 6 ≤ 8600; omega)⟩ (by rw [List.append_nil]) ?_
    refine z_istore X [1, 2, 3, 4, 5, 0] [(0, .ref (b)), (1, .ref (ad 0)), (2, .ref (ad2 0)), (3, .ref (ao)), (4, .int (iZ i)), (5, .int (iZ 0))] rfl (Nat.le_of_ble_eq_true rfl) dL_law_593 ?_
    refine z_aload_n X 2 rfl dL_law_595 ?_
    refine z_calli (ws' := Mw ad2 cI cZ (m_clearU (gV w 6 0)) ++ (Gw ad cI cZ u1 ++ Ow ao cL lf1)) X (c_X2_clear l D ad2 cI cZ cL w hq hR.2.2.2.2.2.2.2.1 hR.2.1) (cwV 0 X.2.2.2.2.1 gL_law_X2_clear rfl rfl rfl (by decide +kernel) ⟨Nat.le_of_ble_eq_true rfl, Nat.le_of_ble_eq_true rfl⟩) rfl [] (Gw ad cI cZ u1 ++ Ow ao cL lf1) rfl 2 0 rfl rfl [] rfl (Nat.le_of_ble_eq_true rfl) dL_law_596 ⟨(by show cells + 1 + 0 ≤ 1069; omega), (by show slots + 6 + 0 ≤ 8600; omega)⟩ rfl ?_
    refine z_istore X [1, 2, 3, 4, 5, 6, 0] [(0, .ref (b)), (1, .ref (ad 0)), (2, .ref (ad2 0)), (3, .ref (ao)), (4, .int (iZ i)), (5, .int (iZ 0)), (6, .int (iZ ((m_clearU (gV w 6 0)).1 12 0)))] rfl (Nat.le_of_ble_eq_true rfl) dL_law_599 ?_
    refine z_aload_n X 2 rfl dL_law_601 ?_
    refine z_calli (ws' := Mw ad2 cI cZ (m_clearU (gV w 6 0)) ++ (Gw ad cI cZ u1 ++ Ow ao cL lf1)) X (c_X2_thrown l D ad2 cI cZ cL (m_clearU (gV w 6 0))) (cwV 0 X.2.2.2.2.1 gL_law_X2_thrown rfl rfl rfl (by decide +kernel) ⟨Nat.le_of_ble_eq_true rfl, Nat.le_of_ble_eq_true rfl⟩) rfl [] (Gw ad cI cZ u1 ++ Ow ao cL lf1) rfl 2 0 rfl rfl [] rfl (Nat.le_of_ble_eq_true rfl) dL_law_602 ⟨(by show cells + 1 + 0 + 0 ≤ 1069; omega), (by show slots + 6 + 0 + 0 ≤ 8600; omega)⟩ rfl ?_
    refine z_iload X 5 rfl dL_law_605 ?_
    refine z_icmpR_eq (tgt := 612) X (by decide) (congrArg iZ (clear_6 hR.2.1)) dL_law_607 ?_
    refine z_iload X 5 rfl dL_law_612 ?_
    refine z_if_ne (tgt := 629) X ⟨by omega, by omega⟩ (by decide) dL_law_614 (fun q1 => ?_) (fun q1 => ?_)
    · exact absurd rfl q1
    refine z_aload_n X 3 rfl dL_law_617 ?_
    refine z_iconst X dL_law_618 ?_
    refine z_lald X 34 2 rfl rfl (by omega) (by omega) ⟨by omega, by omega⟩ dL_law_619 ?_
    refine z_iload X 6 rfl dL_law_620 ?_
    refine z_i2l X dL_law_622 ?_
    refine z_lcmp X dL_law_623 ?_
    refine z_top (y := iZ 0) (by show lg_cmp (lf1 0) _ = iZ 0; rw [hv rfl]; exact lg_same _) ?_
    refine z_if_eq (tgt := 629) X ⟨by omega, by omega⟩ (by decide) dL_law_624 (fun q3 => ?_) (fun q3 => absurd rfl q3)
    refine z_goto (tgt := 1108) X (by decide) dL_law_629 ?_
    refine z_sub (lv' := [(0, .ref (b)), (1, .ref (ad 0)), (2, .ref (ad2 0)), (3, .ref (ao)), (4, .int (iZ i))]) [0, 1, 2, 3, 4] rfl ?_
    refine z_iinc X 4 [1, 2, 3, 4, 0] [(0, .ref (b)), (1, .ref (ad 0)), (2, .ref (ad2 0)), (3, .ref (ao)), (4, .int (iZ (i + 4)))] rfl rfl (Nat.le_of_ble_eq_true rfl) dL_law_1108 ?_
    refine z_goto (tgt := 23) X (by decide) dL_law_1111 ?_
    refine z_widen (k := cells + 1) (n := slots + 6) (by omega) (by omega) ?_
    exact ih (i + 4) u1 (m_clearU (gV w 6 0)) lf1 (cells + 1) (slots + 6) hR1 (by omega) (by omega) (by omega) (by omega) (by omega)
  · have hq : w.2 4 = 500 := (by omega)
    refine z_aload_n X 1 rfl dL_law_588 ?_
    refine z_aload_n X 3 rfl dL_law_589 ?_
    obtain ⟨u1, lf1, hM, hR1⟩ := H_clear_1 l hl D ad cI cZ cL ao lf hR hq
    refine z_calliW (ws' := Mw ad2 cI cZ w ++ (Gw ad cI cZ u1 ++ Ow ao cL lf1)) X hM (vx_cwSW 2 X.2.2.2.2.1 gL_law_L_clear rfl rfl rfl (by decide +kernel) ⟨Nat.le_of_ble_eq_true rfl, Nat.le_of_ble_eq_true rfl⟩) rfl (Mw ad2 cI cZ w) [] (by rw [List.append_nil]) [] rfl (Nat.le_of_ble_eq_true rfl) dL_law_590 ⟨(by show cells + 1 ≤ 1069; omega), (by show slots + 6 ≤ 8600; omega)⟩ (by rw [List.append_nil]) ?_
    refine z_istore X [1, 2, 3, 4, 5, 0] [(0, .ref (b)), (1, .ref (ad 0)), (2, .ref (ad2 0)), (3, .ref (ao)), (4, .int (iZ i)), (5, .int (iZ 1))] rfl (Nat.le_of_ble_eq_true rfl) dL_law_593 ?_
    refine z_aload_n X 2 rfl dL_law_595 ?_
    refine z_calli (ws' := Mw ad2 cI cZ (gV w 6 1) ++ (Gw ad cI cZ u1 ++ Ow ao cL lf1)) X (c_X2_clear_1 l D ad2 cI cZ cL w hq) (cwV 0 X.2.2.2.2.1 gL_law_X2_clear rfl rfl rfl (by decide +kernel) ⟨Nat.le_of_ble_eq_true rfl, Nat.le_of_ble_eq_true rfl⟩) rfl [] (Gw ad cI cZ u1 ++ Ow ao cL lf1) rfl 2 0 rfl rfl [] rfl (Nat.le_of_ble_eq_true rfl) dL_law_596 ⟨(by show cells + 1 + 0 ≤ 1069; omega), (by show slots + 6 + 0 ≤ 8600; omega)⟩ rfl ?_
    refine z_istore X [1, 2, 3, 4, 5, 6, 0] [(0, .ref (b)), (1, .ref (ad 0)), (2, .ref (ad2 0)), (3, .ref (ao)), (4, .int (iZ i)), (5, .int (iZ 1)), (6, .int (iZ 0))] rfl (Nat.le_of_ble_eq_true rfl) dL_law_599 ?_
    refine z_aload_n X 2 rfl dL_law_601 ?_
    refine z_calli (ws' := Mw ad2 cI cZ (gV w 6 1) ++ (Gw ad cI cZ u1 ++ Ow ao cL lf1)) X (c_X2_thrown l D ad2 cI cZ cL (gV w 6 1)) (cwV 0 X.2.2.2.2.1 gL_law_X2_thrown rfl rfl rfl (by decide +kernel) ⟨Nat.le_of_ble_eq_true rfl, Nat.le_of_ble_eq_true rfl⟩) rfl [] (Gw ad cI cZ u1 ++ Ow ao cL lf1) rfl 2 0 rfl rfl [] rfl (Nat.le_of_ble_eq_true rfl) dL_law_602 ⟨(by show cells + 1 + 0 + 0 ≤ 1069; omega), (by show slots + 6 + 0 + 0 ≤ 8600; omega)⟩ rfl ?_
    refine z_iload X 5 rfl dL_law_605 ?_
    refine z_icmpR_eq (tgt := 612) X (by decide) (congrArg iZ (gV_2s _ _ _)) dL_law_607 ?_
    refine z_iload X 5 rfl dL_law_612 ?_
    refine z_if_ne (tgt := 629) X ⟨by omega, by omega⟩ (by decide) dL_law_614 (fun q1 => ?_) (fun q1 => ?_)
    rotate_left
    · exact absurd q1 (by decide)
    refine z_goto (tgt := 1108) X (by decide) dL_law_629 ?_
    refine z_sub (lv' := [(0, .ref (b)), (1, .ref (ad 0)), (2, .ref (ad2 0)), (3, .ref (ao)), (4, .int (iZ i))]) [0, 1, 2, 3, 4] rfl ?_
    refine z_iinc X 4 [1, 2, 3, 4, 0] [(0, .ref (b)), (1, .ref (ad 0)), (2, .ref (ad2 0)), (3, .ref (ao)), (4, .int (iZ (i + 4)))] rfl rfl (Nat.le_of_ble_eq_true rfl) dL_law_1108 ?_
    refine z_goto (tgt := 23) X (by decide) dL_law_1111 ?_
    refine z_widen (k := cells + 1) (n := slots + 6) (by omega) (by omega) ?_
    exact ih (i + 4) u1 (gV w 6 1) lf1 (cells + 1) (slots + 6) hR1 (by omega) (by omega) (by omega) (by omega) (by omega)
set_option maxHeartbeats 4000000 in
set_option maxRecDepth 100000 in
theorem law_8_quarter {p : Program} (l : Launch) (hl : l.stackTraces = false) {e : Env} {s : State} {m : MethodId} {below : List Frame} {meth : Method} {c : Code} {A : Nat → Prop} {D : va_G} {cI cZ cL : ClassId} {b L : Nat} {xs : Nat → Int32} (ad ad2 : Nat → Nat) (ao : Nat) (X : zC p s m #[.ref b] c cL_law 7 RL wsL_law D (zT cI cZ cL) A) (hX : va_X b L xs s s.heap) (hbl : b < s.heap.size) (hbA : ¬ A b) (hL : L ≤ 2048) (n : Nat) (ih : ∀ (i : Int) (u w : GS) (lf : Nat → Int64) (cells slots : Nat), RR u w → 0 ≤ i → i ≤ L → (L : Int) - i ≤ 4 * n → cells + n ≤ 1069 → slots + 6 * n ≤ 8600 → zW p l e room_1 s m #[.ref b] below meth c 7 D A cells slots (lw_Z below #[.ref b] s) (Mw ad2 cI cZ w ++ (Gw ad cI cZ u ++ Ow ao cL lf)) 23 [(0, .ref (b)), (1, .ref (ad 0)), (2, .ref (ad2 0)), (3, .ref (ao)), (4, .int (iZ i))] []) (i : Int) (u w : GS) (lf : Nat → Int64) (cells slots : Nat) (hR : RR u w) (h0 : 0 ≤ i) (hi : i + 4 ≤ L) (hn : (L : Int) - i ≤ 4 * (n + 1 : Nat)) (hc : cells + (n + 1) ≤ 1069) (hs : slots + 6 * (n + 1) ≤ 8600) (g1 g2 g3 : Int) (e1 : xs (i + 1).toNat = iZ g1) (e2 : xs (i + 2).toNat = iZ g2) (e3 : xs (i + 3).toNat = iZ g3) (hz1 : zB g1) (hz2 : zB g2) (hz3 : zB g3) : zW p l e room_1 s m #[.ref b] below meth c 7 D A cells slots (lw_Z below #[.ref b] s) (Mw ad2 cI cZ w ++ (Gw ad cI cZ u ++ Ow ao cL lf)) 632 [(0, .ref (b)), (1, .ref (ad 0)), (2, .ref (ad2 0)), (3, .ref (ao)), (4, .int (iZ i))] [] := by
  refine z_aload_n X 1 rfl dL_law_632 ?_
  refine z_calli (ws' := Mw ad2 cI cZ w ++ (Gw ad cI cZ u ++ Ow ao cL lf)) X (c_X1_quarter l D ad cI cZ cL u) (cwV 0 X.2.2.2.2.1 gL_law_X1_quarter rfl rfl rfl (by decide +kernel) ⟨Nat.le_of_ble_eq_true rfl, Nat.le_of_ble_eq_true rfl⟩) rfl (Mw ad2 cI cZ w) (Ow ao cL lf) rfl 1 16 rfl rfl [] rfl (Nat.le_of_ble_eq_true rfl) dL_law_633 ⟨(by show cells + 0 ≤ 1069; omega), (by show slots + 0 ≤ 8600; omega)⟩ rfl ?_
  refine z_aload_n X 2 rfl dL_law_636 ?_
  refine z_calli (ws' := Mw ad2 cI cZ (gV w 6 0) ++ (Gw ad cI cZ u ++ Ow ao cL lf)) X (c_X2_quarter l D ad2 cI cZ cL w) (cwV 0 X.2.2.2.2.1 gL_law_X2_quarter rfl rfl rfl (by decide +kernel) ⟨Nat.le_of_ble_eq_true rfl, Nat.le_of_ble_eq_true rfl⟩) rfl [] (Gw ad cI cZ u ++ Ow ao cL lf) rfl 2 0 rfl rfl [.int (iZ (u.2 4))] rfl (Nat.le_of_ble_eq_true rfl) dL_law_637 ⟨(by show cells + 0 + 0 ≤ 1069; omega), (by show slots + 0 + 0 ≤ 8600; omega)⟩ rfl ?_
  refine z_icmpR_eq (tgt := 1108) X (by decide) (congrArg iZ (hR.2.2.1.2.2.2.2.2.2.2)) dL_law_640 ?_
  refine z_sub (lv' := [(0, .ref (b)), (1, .ref (ad 0)), (2, .ref (ad2 0)), (3, .ref (ao)), (4, .int (iZ i))]) [0, 1, 2, 3, 4] rfl ?_
  refine z_iinc X 4 [1, 2, 3, 4, 0] [(0, .ref (b)), (1, .ref (ad 0)), (2, .ref (ad2 0)), (3, .ref (ao)), (4, .int (iZ (i + 4)))] rfl rfl (Nat.le_of_ble_eq_true rfl) dL_law_1108 ?_
  refine z_goto (tgt := 23) X (by decide) dL_law_1111 ?_
  refine z_widen (k := cells + 1) (n := slots + 6) (by omega) (by omega) ?_
  exact ih (i + 4) u (gV w 6 0) lf (cells + 1) (slots + 6) (RR_6 hR 0) (by omega) (by omega) (by omega) (by omega) (by omega)
set_option maxHeartbeats 4000000 in
set_option maxRecDepth 100000 in
theorem law_9_mostTradable {p : Program} (l : Launch) (hl : l.stackTraces = false) {e : Env} {s : State} {m : MethodId} {below : List Frame} {meth : Method} {c : Code} {A : Nat → Prop} {D : va_G} {cI cZ cL : ClassId} {b L : Nat} {xs : Nat → Int32} (ad ad2 : Nat → Nat) (ao : Nat) (X : zC p s m #[.ref b] c cL_law 7 RL wsL_law D (zT cI cZ cL) A) (hX : va_X b L xs s s.heap) (hbl : b < s.heap.size) (hbA : ¬ A b) (hL : L ≤ 2048) (n : Nat) (ih : ∀ (i : Int) (u w : GS) (lf : Nat → Int64) (cells slots : Nat), RR u w → 0 ≤ i → i ≤ L → (L : Int) - i ≤ 4 * n → cells + n ≤ 1069 → slots + 6 * n ≤ 8600 → zW p l e room_1 s m #[.ref b] below meth c 7 D A cells slots (lw_Z below #[.ref b] s) (Mw ad2 cI cZ w ++ (Gw ad cI cZ u ++ Ow ao cL lf)) 23 [(0, .ref (b)), (1, .ref (ad 0)), (2, .ref (ad2 0)), (3, .ref (ao)), (4, .int (iZ i))] []) (i : Int) (u w : GS) (lf : Nat → Int64) (cells slots : Nat) (hR : RR u w) (h0 : 0 ≤ i) (hi : i + 4 ≤ L) (hn : (L : Int) - i ≤ 4 * (n + 1 : Nat)) (hc : cells + (n + 1) ≤ 1069) (hs : slots + 6 * (n + 1) ≤ 8600) (g1 g2 g3 : Int) (e1 : xs (i + 1).toNat = iZ g1) (e2 : xs (i + 2).toNat = iZ g2) (e3 : xs (i + 3).toNat = iZ g3) (hz1 : zB g1) (hz2 : zB g2) (hz3 : zB g3) : zW p l e room_1 s m #[.ref b] below meth c 7 D A cells slots (lw_Z below #[.ref b] s) (Mw ad2 cI cZ w ++ (Gw ad cI cZ u ++ Ow ao cL lf)) 645 [(0, .ref (b)), (1, .ref (ad 0)), (2, .ref (ad2 0)), (3, .ref (ao)), (4, .int (iZ i))] [] := by
  refine z_aload_n X 1 rfl dL_law_645 ?_
  refine z_calli (ws' := Mw ad2 cI cZ w ++ (Gw ad cI cZ u ++ Ow ao cL lf)) X (c_X1_mostTradable l D ad cI cZ cL u hR.bd) (cwV 0 X.2.2.2.2.1 gL_law_X1_mostTradable rfl rfl rfl (by decide +kernel) ⟨Nat.le_of_ble_eq_true rfl, Nat.le_of_ble_eq_true rfl⟩) rfl (Mw ad2 cI cZ w) (Ow ao cL lf) rfl 1 16 rfl rfl [] rfl (Nat.le_of_ble_eq_true rfl) dL_law_646 ⟨(by show cells + 0 ≤ 1069; omega), (by show slots + 0 ≤ 8600; omega)⟩ rfl ?_
  refine z_aload_n X 2 rfl dL_law_649 ?_
  refine z_calli (ws' := Mw ad2 cI cZ (gV w 6 0) ++ (Gw ad cI cZ u ++ Ow ao cL lf)) X (c_X2_mostTradable l D ad2 cI cZ cL w hR.bdm hR.2.1.1.2.2.1) (cwV 0 X.2.2.2.2.1 gL_law_X2_mostTradable rfl rfl rfl (by decide +kernel) ⟨Nat.le_of_ble_eq_true rfl, Nat.le_of_ble_eq_true rfl⟩) rfl [] (Gw ad cI cZ u ++ Ow ao cL lf) rfl 2 0 rfl rfl [.int (iZ (f_most (u.1 2) (u.1 3)))] rfl (Nat.le_of_ble_eq_true rfl) dL_law_650 ⟨(by show cells + 0 + 0 ≤ 1069; omega), (by show slots + 0 + 0 ≤ 8600; omega)⟩ rfl ?_
  refine z_icmpR_eq (tgt := 1108) X (by decide) (congrArg iZ (most_ok hR)) dL_law_653 ?_
  refine z_sub (lv' := [(0, .ref (b)), (1, .ref (ad 0)), (2, .ref (ad2 0)), (3, .ref (ao)), (4, .int (iZ i))]) [0, 1, 2, 3, 4] rfl ?_
  refine z_iinc X 4 [1, 2, 3, 4, 0] [(0, .ref (b)), (1, .ref (ad 0)), (2, .ref (ad2 0)), (3, .ref (ao)), (4, .int (iZ (i + 4)))] rfl rfl (Nat.le_of_ble_eq_true rfl) dL_law_1108 ?_
  refine z_goto (tgt := 23) X (by decide) dL_law_1111 ?_
  refine z_widen (k := cells + 1) (n := slots + 6) (by omega) (by omega) ?_
  exact ih (i + 4) u (gV w 6 0) lf (cells + 1) (slots + 6) (RR_6 hR 0) (by omega) (by omega) (by omega) (by omega) (by omega)
set_option maxHeartbeats 4000000 in
set_option maxRecDepth 100000 in
theorem law_10_trades {p : Program} (l : Launch) (hl : l.stackTraces = false) {e : Env} {s : State} {m : MethodId} {below : List Frame} {meth : Method} {c : Code} {A : Nat → Prop} {D : va_G} {cI cZ cL : ClassId} {b L : Nat} {xs : Nat → Int32} (ad ad2 : Nat → Nat) (ao : Nat) (X : zC p s m #[.ref b] c cL_law 7 RL wsL_law D (zT cI cZ cL) A) (hX : va_X b L xs s s.heap) (hbl : b < s.heap.size) (hbA : ¬ A b) (hL : L ≤ 2048) (n : Nat) (ih : ∀ (i : Int) (u w : GS) (lf : Nat → Int64) (cells slots : Nat), RR u w → 0 ≤ i → i ≤ L → (L : Int) - i ≤ 4 * n → cells + n ≤ 1069 → slots + 6 * n ≤ 8600 → zW p l e room_1 s m #[.ref b] below meth c 7 D A cells slots (lw_Z below #[.ref b] s) (Mw ad2 cI cZ w ++ (Gw ad cI cZ u ++ Ow ao cL lf)) 23 [(0, .ref (b)), (1, .ref (ad 0)), (2, .ref (ad2 0)), (3, .ref (ao)), (4, .int (iZ i))] []) (i : Int) (u w : GS) (lf : Nat → Int64) (cells slots : Nat) (hR : RR u w) (h0 : 0 ≤ i) (hi : i + 4 ≤ L) (hn : (L : Int) - i ≤ 4 * (n + 1 : Nat)) (hc : cells + (n + 1) ≤ 1069) (hs : slots + 6 * (n + 1) ≤ 8600) (g1 g2 g3 : Int) (e1 : xs (i + 1).toNat = iZ g1) (e2 : xs (i + 2).toNat = iZ g2) (e3 : xs (i + 3).toNat = iZ g3) (hz1 : zB g1) (hz2 : zB g2) (hz3 : zB g3) : zW p l e room_1 s m #[.ref b] below meth c 7 D A cells slots (lw_Z below #[.ref b] s) (Mw ad2 cI cZ w ++ (Gw ad cI cZ u ++ Ow ao cL lf)) 658 [(0, .ref (b)), (1, .ref (ad 0)), (2, .ref (ad2 0)), (3, .ref (ao)), (4, .int (iZ i))] [] := by
  refine z_aload_n X 1 rfl dL_law_658 ?_
  refine z_calli (ws' := Mw ad2 cI cZ w ++ (Gw ad cI cZ u ++ Ow ao cL lf)) X (c_X1_trades l D ad cI cZ cL u) (cwV 0 X.2.2.2.2.1 gL_law_X1_trades rfl rfl rfl (by decide +kernel) ⟨Nat.le_of_ble_eq_true rfl, Nat.le_of_ble_eq_true rfl⟩) rfl (Mw ad2 cI cZ w) (Ow ao cL lf) rfl 1 16 rfl rfl [] rfl (Nat.le_of_ble_eq_true rfl) dL_law_659 ⟨(by show cells + 0 ≤ 1069; omega), (by show slots + 0 ≤ 8600; omega)⟩ rfl ?_
  refine z_aload_n X 2 rfl dL_law_662 ?_
  refine z_calli (ws' := Mw ad2 cI cZ (gV w 6 0) ++ (Gw ad cI cZ u ++ Ow ao cL lf)) X (c_X2_trades l D ad2 cI cZ cL w) (cwV 0 X.2.2.2.2.1 gL_law_X2_trades rfl rfl rfl (by decide +kernel) ⟨Nat.le_of_ble_eq_true rfl, Nat.le_of_ble_eq_true rfl⟩) rfl [] (Gw ad cI cZ u ++ Ow ao cL lf) rfl 2 0 rfl rfl [.int (iZ (u.2 5))] rfl (Nat.le_of_ble_eq_true rfl) dL_law_663 ⟨(by show cells + 0 + 0 ≤ 1069; omega), (by show slots + 0 + 0 ≤ 8600; omega)⟩ rfl ?_
  refine z_icmpR_eq (tgt := 1108) X (by decide) (congrArg iZ (hR.2.2.2.1.1)) dL_law_666 ?_
  refine z_sub (lv' := [(0, .ref (b)), (1, .ref (ad 0)), (2, .ref (ad2 0)), (3, .ref (ao)), (4, .int (iZ i))]) [0, 1, 2, 3, 4] rfl ?_
  refine z_iinc X 4 [1, 2, 3, 4, 0] [(0, .ref (b)), (1, .ref (ad 0)), (2, .ref (ad2 0)), (3, .ref (ao)), (4, .int (iZ (i + 4)))] rfl rfl (Nat.le_of_ble_eq_true rfl) dL_law_1108 ?_
  refine z_goto (tgt := 23) X (by decide) dL_law_1111 ?_
  refine z_widen (k := cells + 1) (n := slots + 6) (by omega) (by omega) ?_
  exact ih (i + 4) u (gV w 6 0) lf (cells + 1) (slots + 6) (RR_6 hR 0) (by omega) (by omega) (by omega) (by omega) (by omega)
set_option maxHeartbeats 4000000 in
set_option maxRecDepth 100000 in
theorem law_11_ofTrade {p : Program} (l : Launch) (hl : l.stackTraces = false) {e : Env} {s : State} {m : MethodId} {below : List Frame} {meth : Method} {c : Code} {A : Nat → Prop} {D : va_G} {cI cZ cL : ClassId} {b L : Nat} {xs : Nat → Int32} (ad ad2 : Nat → Nat) (ao : Nat) (X : zC p s m #[.ref b] c cL_law 7 RL wsL_law D (zT cI cZ cL) A) (hX : va_X b L xs s s.heap) (hbl : b < s.heap.size) (hbA : ¬ A b) (hL : L ≤ 2048) (n : Nat) (ih : ∀ (i : Int) (u w : GS) (lf : Nat → Int64) (cells slots : Nat), RR u w → 0 ≤ i → i ≤ L → (L : Int) - i ≤ 4 * n → cells + n ≤ 1069 → slots + 6 * n ≤ 8600 → zW p l e room_1 s m #[.ref b] below meth c 7 D A cells slots (lw_Z below #[.ref b] s) (Mw ad2 cI cZ w ++ (Gw ad cI cZ u ++ Ow ao cL lf)) 23 [(0, .ref (b)), (1, .ref (ad 0)), (2, .ref (ad2 0)), (3, .ref (ao)), (4, .int (iZ i))] []) (i : Int) (u w : GS) (lf : Nat → Int64) (cells slots : Nat) (hR : RR u w) (h0 : 0 ≤ i) (hi : i + 4 ≤ L) (hn : (L : Int) - i ≤ 4 * (n + 1 : Nat)) (hc : cells + (n + 1) ≤ 1069) (hs : slots + 6 * (n + 1) ≤ 8600) (g1 g2 g3 : Int) (e1 : xs (i + 1).toNat = iZ g1) (e2 : xs (i + 2).toNat = iZ g2) (e3 : xs (i + 3).toNat = iZ g3) (hz1 : zB g1) (hz2 : zB g2) (hz3 : zB g3) : zW p l e room_1 s m #[.ref b] below meth c 7 D A cells slots (lw_Z below #[.ref b] s) (Mw ad2 cI cZ w ++ (Gw ad cI cZ u ++ Ow ao cL lf)) 671 [(0, .ref (b)), (1, .ref (ad 0)), (2, .ref (ad2 0)), (3, .ref (ao)), (4, .int (iZ i))] [] := by
  refine z_aload_n X 1 rfl dL_law_671 ?_
  refine z_aload_n X 0 rfl dL_law_672 ?_
  refine z_iload X 4 rfl dL_law_673 ?_
  refine z_iconst X dL_law_675 ?_
  refine z_iadd X dL_law_676 ?_
  refine z_sld X hX hbl hbA (by omega) (by omega) ⟨by omega, by omega⟩ dL_law_677 ?_
  refine z_top e1 ?_
  refine z_aload_n X 0 rfl dL_law_678 ?_
  refine z_iload X 4 rfl dL_law_679 ?_
  refine z_iconst X dL_law_681 ?_
  refine z_iadd X dL_law_682 ?_
  refine z_sld X hX hbl hbA (by omega) (by omega) ⟨by omega, by omega⟩ dL_law_683 ?_
  refine z_top e2 ?_
  refine z_aload_n X 3 rfl dL_law_684 ?_
  obtain ⟨u1, lf1, hM, hR1, hv⟩ := H_ofTrade l hl D ad cI cZ cL ao lf hR g1 g2 hz1 hz2
  refine z_calliW (ws' := Mw ad2 cI cZ w ++ (Gw ad cI cZ u1 ++ Ow ao cL lf1)) X hM (vx_cwSW 4 X.2.2.2.2.1 gL_law_L_ofTrade rfl rfl rfl (by decide +kernel) ⟨Nat.le_of_ble_eq_true rfl, Nat.le_of_ble_eq_true rfl⟩) rfl (Mw ad2 cI cZ w) [] (by rw [List.append_nil]) [] rfl (Nat.le_of_ble_eq_true rfl) dL_law_685 ⟨(by show cells + 1 ≤ 1069; omega), (by show slots + 6 ≤ 8600; omega)⟩ (by rw [List.append_nil]) ?_
  refine z_istore X [1, 2, 3, 4, 5, 0] [(0, .ref (b)), (1, .ref (ad 0)), (2, .ref (ad2 0)), (3, .ref (ao)), (4, .int (iZ i)), (5, .int (iZ (m_ofC w g1 g2)))] rfl (Nat.le_of_ble_eq_true rfl) dL_law_688 ?_
  refine z_aload_n X 2 rfl dL_law_690 ?_
  refine z_aload_n X 0 rfl dL_law_691 ?_
  refine z_iload X 4 rfl dL_law_692 ?_
  refine z_iconst X dL_law_694 ?_
  refine z_iadd X dL_law_695 ?_
  refine z_sld X hX hbl hbA (by omega) (by omega) ⟨by omega, by omega⟩ dL_law_696 ?_
  refine z_top e1 ?_
  refine z_aload_n X 0 rfl dL_law_697 ?_
  refine z_iload X 4 rfl dL_law_698 ?_
  refine z_iconst X dL_law_700 ?_
  refine z_iadd X dL_law_701 ?_
  refine z_sld X hX hbl hbA (by omega) (by omega) ⟨by omega, by omega⟩ dL_law_702 ?_
  refine z_top e2 ?_
  refine z_calli (ws' := Mw ad2 cI cZ (gV w 6 (m_ofC w g1 g2)) ++ (Gw ad cI cZ u1 ++ Ow ao cL lf1)) X (c_X2_ofTrade l D ad2 cI cZ cL w g1 g2 hz1 hz2 hR.bdm ⟨hR.2.1.2.1.1, hR.2.1.2.1.2.1⟩) (cwV 2 X.2.2.2.2.1 gL_law_X2_ofTrade rfl rfl rfl (by decide +kernel) ⟨Nat.le_of_ble_eq_true rfl, Nat.le_of_ble_eq_true rfl⟩) rfl [] (Gw ad cI cZ u1 ++ Ow ao cL lf1) rfl 2 0 rfl rfl [] rfl (Nat.le_of_ble_eq_true rfl) dL_law_703 ⟨(by show cells + 1 + 0 ≤ 1069; omega), (by show slots + 6 + 0 ≤ 8600; omega)⟩ rfl ?_
  refine z_istore X [1, 2, 3, 4, 5, 6, 0] [(0, .ref (b)), (1, .ref (ad 0)), (2, .ref (ad2 0)), (3, .ref (ao)), (4, .int (iZ i)), (5, .int (iZ (m_ofC w g1 g2))), (6, .int (iZ (if m_ofC w g1 g2 = 0 then m_ofV w g1 g2 else 0)))] rfl (Nat.le_of_ble_eq_true rfl) dL_law_706 ?_
  refine z_aload_n X 2 rfl dL_law_708 ?_
  refine z_calli (ws' := Mw ad2 cI cZ (gV w 6 (m_ofC w g1 g2)) ++ (Gw ad cI cZ u1 ++ Ow ao cL lf1)) X (c_X2_thrown l D ad2 cI cZ cL (gV w 6 (m_ofC w g1 g2))) (cwV 0 X.2.2.2.2.1 gL_law_X2_thrown rfl rfl rfl (by decide +kernel) ⟨Nat.le_of_ble_eq_true rfl, Nat.le_of_ble_eq_true rfl⟩) rfl [] (Gw ad cI cZ u1 ++ Ow ao cL lf1) rfl 2 0 rfl rfl [] rfl (Nat.le_of_ble_eq_true rfl) dL_law_709 ⟨(by show cells + 1 + 0 + 0 ≤ 1069; omega), (by show slots + 6 + 0 + 0 ≤ 8600; omega)⟩ rfl ?_
  refine z_iload X 5 rfl dL_law_712 ?_
  refine z_icmpR_eq (tgt := 719) X (by decide) (congrArg iZ (gV_2s _ _ _)) dL_law_714 ?_
  refine z_iload X 5 rfl dL_law_719 ?_
  have hcb := (show 0 ≤ m_ofC w g1 g2 ∧ m_ofC w g1 g2 ≤ 3 by unfold m_ofC; split <;> omega)
  refine z_if_ne (tgt := 736) X ⟨by omega, by omega⟩ (by decide) dL_law_721 (fun q1 => ?_) (fun q1 => ?_)
  · skip
    refine z_goto (tgt := 1108) X (by decide) dL_law_736 ?_
    refine z_sub (lv' := [(0, .ref (b)), (1, .ref (ad 0)), (2, .ref (ad2 0)), (3, .ref (ao)), (4, .int (iZ i))]) [0, 1, 2, 3, 4] rfl ?_
    refine z_iinc X 4 [1, 2, 3, 4, 0] [(0, .ref (b)), (1, .ref (ad 0)), (2, .ref (ad2 0)), (3, .ref (ao)), (4, .int (iZ (i + 4)))] rfl rfl (Nat.le_of_ble_eq_true rfl) dL_law_1108 ?_
    refine z_goto (tgt := 23) X (by decide) dL_law_1111 ?_
    refine z_widen (k := cells + 1) (n := slots + 6) (by omega) (by omega) ?_
    exact ih (i + 4) u1 (gV w 6 (m_ofC w g1 g2)) lf1 (cells + 1) (slots + 6) hR1 (by omega) (by omega) (by omega) (by omega) (by omega)
  have q2 : m_ofC w g1 g2 = 0 := (by omega)
  have hv1 := hv q2
  refine z_aload_n X 3 rfl dL_law_724 ?_
  refine z_iconst X dL_law_725 ?_
  refine z_lald X 34 2 rfl rfl (by omega) (by omega) ⟨by omega, by omega⟩ dL_law_726 ?_
  refine z_iload X 6 rfl dL_law_727 ?_
  refine z_i2l X dL_law_729 ?_
  refine z_lcmp X dL_law_730 ?_
  refine z_top (y := iZ 0) (by show lg_cmp (lf1 0) _ = iZ 0; rw [hv1]; exact lg_same _) ?_
  refine z_if_eq (tgt := 736) X ⟨by omega, by omega⟩ (by decide) dL_law_731 (fun q3 => ?_) (fun q3 => absurd rfl q3)
  refine z_goto (tgt := 1108) X (by decide) dL_law_736 ?_
  refine z_sub (lv' := [(0, .ref (b)), (1, .ref (ad 0)), (2, .ref (ad2 0)), (3, .ref (ao)), (4, .int (iZ i))]) [0, 1, 2, 3, 4] rfl ?_
  refine z_iinc X 4 [1, 2, 3, 4, 0] [(0, .ref (b)), (1, .ref (ad 0)), (2, .ref (ad2 0)), (3, .ref (ao)), (4, .int (iZ (i + 4)))] rfl rfl (Nat.le_of_ble_eq_true rfl) dL_law_1108 ?_
  refine z_goto (tgt := 23) X (by decide) dL_law_1111 ?_
  refine z_widen (k := cells + 1) (n := slots + 6) (by omega) (by omega) ?_
  exact ih (i + 4) u1 (gV w 6 (m_ofC w g1 g2)) lf1 (cells + 1) (slots + 6) hR1 (by omega) (by omega) (by omega) (by omega) (by omega)
set_option maxHeartbeats 4000000 in
set_option maxRecDepth 100000 in
theorem law_12_went {p : Program} (l : Launch) (hl : l.stackTraces = false) {e : Env} {s : State} {m : MethodId} {below : List Frame} {meth : Method} {c : Code} {A : Nat → Prop} {D : va_G} {cI cZ cL : ClassId} {b L : Nat} {xs : Nat → Int32} (ad ad2 : Nat → Nat) (ao : Nat) (X : zC p s m #[.ref b] c cL_law 7 RL wsL_law D (zT cI cZ cL) A) (hX : va_X b L xs s s.heap) (hbl : b < s.heap.size) (hbA : ¬ A b) (hL : L ≤ 2048) (n : Nat) (ih : ∀ (i : Int) (u w : GS) (lf : Nat → Int64) (cells slots : Nat), RR u w → 0 ≤ i → i ≤ L → (L : Int) - i ≤ 4 * n → cells + n ≤ 1069 → slots + 6 * n ≤ 8600 → zW p l e room_1 s m #[.ref b] below meth c 7 D A cells slots (lw_Z below #[.ref b] s) (Mw ad2 cI cZ w ++ (Gw ad cI cZ u ++ Ow ao cL lf)) 23 [(0, .ref (b)), (1, .ref (ad 0)), (2, .ref (ad2 0)), (3, .ref (ao)), (4, .int (iZ i))] []) (i : Int) (u w : GS) (lf : Nat → Int64) (cells slots : Nat) (hR : RR u w) (h0 : 0 ≤ i) (hi : i + 4 ≤ L) (hn : (L : Int) - i ≤ 4 * (n + 1 : Nat)) (hc : cells + (n + 1) ≤ 1069) (hs : slots + 6 * (n + 1) ≤ 8600) (g1 g2 g3 : Int) (e1 : xs (i + 1).toNat = iZ g1) (e2 : xs (i + 2).toNat = iZ g2) (e3 : xs (i + 3).toNat = iZ g3) (hz1 : zB g1) (hz2 : zB g2) (hz3 : zB g3) : zW p l e room_1 s m #[.ref b] below meth c 7 D A cells slots (lw_Z below #[.ref b] s) (Mw ad2 cI cZ w ++ (Gw ad cI cZ u ++ Ow ao cL lf)) 739 [(0, .ref (b)), (1, .ref (ad 0)), (2, .ref (ad2 0)), (3, .ref (ao)), (4, .int (iZ i))] [] := by
  refine z_aload_n X 1 rfl dL_law_739 ?_
  refine z_aload_n X 0 rfl dL_law_740 ?_
  refine z_iload X 4 rfl dL_law_741 ?_
  refine z_iconst X dL_law_743 ?_
  refine z_iadd X dL_law_744 ?_
  refine z_sld X hX hbl hbA (by omega) (by omega) ⟨by omega, by omega⟩ dL_law_745 ?_
  refine z_top e1 ?_
  refine z_aload_n X 3 rfl dL_law_746 ?_
  obtain ⟨u1, lf1, hM, hR1, hv⟩ := H_went l hl D ad cI cZ cL ao lf hR g1 hz1
  refine z_calliW (ws' := Mw ad2 cI cZ w ++ (Gw ad cI cZ u1 ++ Ow ao cL lf1)) X hM (vx_cwSW 3 X.2.2.2.2.1 gL_law_L_went rfl rfl rfl (by decide +kernel) ⟨Nat.le_of_ble_eq_true rfl, Nat.le_of_ble_eq_true rfl⟩) rfl (Mw ad2 cI cZ w) [] (by rw [List.append_nil]) [] rfl (Nat.le_of_ble_eq_true rfl) dL_law_747 ⟨(by show cells + 1 ≤ 1069; omega), (by show slots + 6 ≤ 8600; omega)⟩ (by rw [List.append_nil]) ?_
  refine z_istore X [1, 2, 3, 4, 5, 0] [(0, .ref (b)), (1, .ref (ad 0)), (2, .ref (ad2 0)), (3, .ref (ao)), (4, .int (iZ i)), (5, .int (iZ (m_goesC (m_in g1 0 5) 1 1)))] rfl (Nat.le_of_ble_eq_true rfl) dL_law_750 ?_
  refine z_aload_n X 2 rfl dL_law_752 ?_
  refine z_aload_n X 0 rfl dL_law_753 ?_
  refine z_iload X 4 rfl dL_law_754 ?_
  refine z_iconst X dL_law_756 ?_
  refine z_iadd X dL_law_757 ?_
  refine z_sld X hX hbl hbA (by omega) (by omega) ⟨by omega, by omega⟩ dL_law_758 ?_
  refine z_top e1 ?_
  refine z_calli (ws' := Mw ad2 cI cZ (gV w 6 (m_goesC (m_in g1 0 5) 1 1)) ++ (Gw ad cI cZ u1 ++ Ow ao cL lf1)) X (c_X2_went l D ad2 cI cZ cL w g1 hz1 hR.bdm) (cwV 1 X.2.2.2.2.1 gL_law_X2_went rfl rfl rfl (by decide +kernel) ⟨Nat.le_of_ble_eq_true rfl, Nat.le_of_ble_eq_true rfl⟩) rfl [] (Gw ad cI cZ u1 ++ Ow ao cL lf1) rfl 2 0 rfl rfl [] rfl (Nat.le_of_ble_eq_true rfl) dL_law_759 ⟨(by show cells + 1 + 0 ≤ 1069; omega), (by show slots + 6 + 0 ≤ 8600; omega)⟩ rfl ?_
  refine z_istore X [1, 2, 3, 4, 5, 6, 0] [(0, .ref (b)), (1, .ref (ad 0)), (2, .ref (ad2 0)), (3, .ref (ao)), (4, .int (iZ i)), (5, .int (iZ (m_goesC (m_in g1 0 5) 1 1))), (6, .int (iZ (if m_goesC (m_in g1 0 5) 1 1 = 0 then w.1 12 g1 else 0)))] rfl (Nat.le_of_ble_eq_true rfl) dL_law_762 ?_
  refine z_aload_n X 2 rfl dL_law_764 ?_
  refine z_calli (ws' := Mw ad2 cI cZ (gV w 6 (m_goesC (m_in g1 0 5) 1 1)) ++ (Gw ad cI cZ u1 ++ Ow ao cL lf1)) X (c_X2_thrown l D ad2 cI cZ cL (gV w 6 (m_goesC (m_in g1 0 5) 1 1))) (cwV 0 X.2.2.2.2.1 gL_law_X2_thrown rfl rfl rfl (by decide +kernel) ⟨Nat.le_of_ble_eq_true rfl, Nat.le_of_ble_eq_true rfl⟩) rfl [] (Gw ad cI cZ u1 ++ Ow ao cL lf1) rfl 2 0 rfl rfl [] rfl (Nat.le_of_ble_eq_true rfl) dL_law_765 ⟨(by show cells + 1 + 0 + 0 ≤ 1069; omega), (by show slots + 6 + 0 + 0 ≤ 8600; omega)⟩ rfl ?_
  refine z_iload X 5 rfl dL_law_768 ?_
  refine z_icmpR_eq (tgt := 775) X (by decide) (congrArg iZ (gV_2s _ _ _)) dL_law_770 ?_
  refine z_iload X 5 rfl dL_law_775 ?_
  have hcb := (show 0 ≤ m_goesC (m_in g1 0 5) (1) (1) ∧ m_goesC (m_in g1 0 5) (1) (1) ≤ 3 by have := m_goes_sp (m_in g1 0 5) (1) (1); omega)
  refine z_if_ne (tgt := 792) X ⟨by omega, by omega⟩ (by decide) dL_law_777 (fun q1 => ?_) (fun q1 => ?_)
  · skip
    refine z_goto (tgt := 1108) X (by decide) dL_law_792 ?_
    refine z_sub (lv' := [(0, .ref (b)), (1, .ref (ad 0)), (2, .ref (ad2 0)), (3, .ref (ao)), (4, .int (iZ i))]) [0, 1, 2, 3, 4] rfl ?_
    refine z_iinc X 4 [1, 2, 3, 4, 0] [(0, .ref (b)), (1, .ref (ad 0)), (2, .ref (ad2 0)), (3, .ref (ao)), (4, .int (iZ (i + 4)))] rfl rfl (Nat.le_of_ble_eq_true rfl) dL_law_1108 ?_
    refine z_goto (tgt := 23) X (by decide) dL_law_1111 ?_
    refine z_widen (k := cells + 1) (n := slots + 6) (by omega) (by omega) ?_
    exact ih (i + 4) u1 (gV w 6 (m_goesC (m_in g1 0 5) 1 1)) lf1 (cells + 1) (slots + 6) hR1 (by omega) (by omega) (by omega) (by omega) (by omega)
  have q2 : m_goesC (m_in g1 0 5) 1 1 = 0 := (by omega)
  have hv1 := hv q2
  refine z_aload_n X 3 rfl dL_law_780 ?_
  refine z_iconst X dL_law_781 ?_
  refine z_lald X 34 2 rfl rfl (by omega) (by omega) ⟨by omega, by omega⟩ dL_law_782 ?_
  refine z_iload X 6 rfl dL_law_783 ?_
  refine z_i2l X dL_law_785 ?_
  refine z_lcmp X dL_law_786 ?_
  refine z_top (y := iZ 0) (by show lg_cmp (lf1 0) _ = iZ 0; rw [hv1]; exact lg_same _) ?_
  refine z_if_eq (tgt := 792) X ⟨by omega, by omega⟩ (by decide) dL_law_787 (fun q3 => ?_) (fun q3 => absurd rfl q3)
  refine z_goto (tgt := 1108) X (by decide) dL_law_792 ?_
  refine z_sub (lv' := [(0, .ref (b)), (1, .ref (ad 0)), (2, .ref (ad2 0)), (3, .ref (ao)), (4, .int (iZ i))]) [0, 1, 2, 3, 4] rfl ?_
  refine z_iinc X 4 [1, 2, 3, 4, 0] [(0, .ref (b)), (1, .ref (ad 0)), (2, .ref (ad2 0)), (3, .ref (ao)), (4, .int (iZ (i + 4)))] rfl rfl (Nat.le_of_ble_eq_true rfl) dL_law_1108 ?_
  refine z_goto (tgt := 23) X (by decide) dL_law_1111 ?_
  refine z_widen (k := cells + 1) (n := slots + 6) (by omega) (by omega) ?_
  exact ih (i + 4) u1 (gV w 6 (m_goesC (m_in g1 0 5) 1 1)) lf1 (cells + 1) (slots + 6) hR1 (by omega) (by omega) (by omega) (by omega) (by omega)
set_option maxHeartbeats 4000000 in
set_option maxRecDepth 100000 in
theorem law_13_flow {p : Program} (l : Launch) (hl : l.stackTraces = false) {e : Env} {s : State} {m : MethodId} {below : List Frame} {meth : Method} {c : Code} {A : Nat → Prop} {D : va_G} {cI cZ cL : ClassId} {b L : Nat} {xs : Nat → Int32} (ad ad2 : Nat → Nat) (ao : Nat) (X : zC p s m #[.ref b] c cL_law 7 RL wsL_law D (zT cI cZ cL) A) (hX : va_X b L xs s s.heap) (hbl : b < s.heap.size) (hbA : ¬ A b) (hL : L ≤ 2048) (n : Nat) (ih : ∀ (i : Int) (u w : GS) (lf : Nat → Int64) (cells slots : Nat), RR u w → 0 ≤ i → i ≤ L → (L : Int) - i ≤ 4 * n → cells + n ≤ 1069 → slots + 6 * n ≤ 8600 → zW p l e room_1 s m #[.ref b] below meth c 7 D A cells slots (lw_Z below #[.ref b] s) (Mw ad2 cI cZ w ++ (Gw ad cI cZ u ++ Ow ao cL lf)) 23 [(0, .ref (b)), (1, .ref (ad 0)), (2, .ref (ad2 0)), (3, .ref (ao)), (4, .int (iZ i))] []) (i : Int) (u w : GS) (lf : Nat → Int64) (cells slots : Nat) (hR : RR u w) (h0 : 0 ≤ i) (hi : i + 4 ≤ L) (hn : (L : Int) - i ≤ 4 * (n + 1 : Nat)) (hc : cells + (n + 1) ≤ 1069) (hs : slots + 6 * (n + 1) ≤ 8600) (g1 g2 g3 : Int) (e1 : xs (i + 1).toNat = iZ g1) (e2 : xs (i + 2).toNat = iZ g2) (e3 : xs (i + 3).toNat = iZ g3) (hz1 : zB g1) (hz2 : zB g2) (hz3 : zB g3) : zW p l e room_1 s m #[.ref b] below meth c 7 D A cells slots (lw_Z below #[.ref b] s) (Mw ad2 cI cZ w ++ (Gw ad cI cZ u ++ Ow ao cL lf)) 795 [(0, .ref (b)), (1, .ref (ad 0)), (2, .ref (ad2 0)), (3, .ref (ao)), (4, .int (iZ i))] [] := by
  refine z_aload_n X 1 rfl dL_law_795 ?_
  refine z_aload_n X 0 rfl dL_law_796 ?_
  refine z_iload X 4 rfl dL_law_797 ?_
  refine z_iconst X dL_law_799 ?_
  refine z_iadd X dL_law_800 ?_
  refine z_sld X hX hbl hbA (by omega) (by omega) ⟨by omega, by omega⟩ dL_law_801 ?_
  refine z_top e1 ?_
  refine z_aload_n X 3 rfl dL_law_802 ?_
  obtain ⟨u1, lf1, hM, hR1, hv⟩ := H_flow l hl D ad cI cZ cL ao lf hR g1 hz1
  refine z_calliW (ws' := Mw ad2 cI cZ w ++ (Gw ad cI cZ u1 ++ Ow ao cL lf1)) X hM (vx_cwSW 3 X.2.2.2.2.1 gL_law_L_flow rfl rfl rfl (by decide +kernel) ⟨Nat.le_of_ble_eq_true rfl, Nat.le_of_ble_eq_true rfl⟩) rfl (Mw ad2 cI cZ w) [] (by rw [List.append_nil]) [] rfl (Nat.le_of_ble_eq_true rfl) dL_law_803 ⟨(by show cells + 1 ≤ 1069; omega), (by show slots + 6 ≤ 8600; omega)⟩ (by rw [List.append_nil]) ?_
  refine z_istore X [1, 2, 3, 4, 5, 0] [(0, .ref (b)), (1, .ref (ad 0)), (2, .ref (ad2 0)), (3, .ref (ao)), (4, .int (iZ i)), (5, .int (iZ (m_goesC (m_in g1 0 4) 1 1)))] rfl (Nat.le_of_ble_eq_true rfl) dL_law_806 ?_
  refine z_aload_n X 2 rfl dL_law_808 ?_
  refine z_aload_n X 0 rfl dL_law_809 ?_
  refine z_iload X 4 rfl dL_law_810 ?_
  refine z_iconst X dL_law_812 ?_
  refine z_iadd X dL_law_813 ?_
  refine z_sld X hX hbl hbA (by omega) (by omega) ⟨by omega, by omega⟩ dL_law_814 ?_
  refine z_top e1 ?_
  refine z_calli (ws' := Mw ad2 cI cZ (gV w 6 (m_goesC (m_in g1 0 4) 1 1)) ++ (Gw ad cI cZ u1 ++ Ow ao cL lf1)) X (c_X2_flow l D ad2 cI cZ cL w g1 hz1 hR.bdm) (cwV 1 X.2.2.2.2.1 gL_law_X2_flow rfl rfl rfl (by decide +kernel) ⟨Nat.le_of_ble_eq_true rfl, Nat.le_of_ble_eq_true rfl⟩) rfl [] (Gw ad cI cZ u1 ++ Ow ao cL lf1) rfl 2 0 rfl rfl [] rfl (Nat.le_of_ble_eq_true rfl) dL_law_815 ⟨(by show cells + 1 + 0 ≤ 1069; omega), (by show slots + 6 + 0 ≤ 8600; omega)⟩ rfl ?_
  refine z_istore X [1, 2, 3, 4, 5, 6, 0] [(0, .ref (b)), (1, .ref (ad 0)), (2, .ref (ad2 0)), (3, .ref (ao)), (4, .int (iZ i)), (5, .int (iZ (m_goesC (m_in g1 0 4) 1 1))), (6, .int (iZ (if m_goesC (m_in g1 0 4) 1 1 = 0 then w.1 13 g1 else 0)))] rfl (Nat.le_of_ble_eq_true rfl) dL_law_818 ?_
  refine z_aload_n X 2 rfl dL_law_820 ?_
  refine z_calli (ws' := Mw ad2 cI cZ (gV w 6 (m_goesC (m_in g1 0 4) 1 1)) ++ (Gw ad cI cZ u1 ++ Ow ao cL lf1)) X (c_X2_thrown l D ad2 cI cZ cL (gV w 6 (m_goesC (m_in g1 0 4) 1 1))) (cwV 0 X.2.2.2.2.1 gL_law_X2_thrown rfl rfl rfl (by decide +kernel) ⟨Nat.le_of_ble_eq_true rfl, Nat.le_of_ble_eq_true rfl⟩) rfl [] (Gw ad cI cZ u1 ++ Ow ao cL lf1) rfl 2 0 rfl rfl [] rfl (Nat.le_of_ble_eq_true rfl) dL_law_821 ⟨(by show cells + 1 + 0 + 0 ≤ 1069; omega), (by show slots + 6 + 0 + 0 ≤ 8600; omega)⟩ rfl ?_
  refine z_iload X 5 rfl dL_law_824 ?_
  refine z_icmpR_eq (tgt := 831) X (by decide) (congrArg iZ (gV_2s _ _ _)) dL_law_826 ?_
  refine z_iload X 5 rfl dL_law_831 ?_
  have hcb := (show 0 ≤ m_goesC (m_in g1 0 4) (1) (1) ∧ m_goesC (m_in g1 0 4) (1) (1) ≤ 3 by have := m_goes_sp (m_in g1 0 4) (1) (1); omega)
  refine z_if_ne (tgt := 848) X ⟨by omega, by omega⟩ (by decide) dL_law_833 (fun q1 => ?_) (fun q1 => ?_)
  · skip
    refine z_goto (tgt := 1108) X (by decide) dL_law_848 ?_
    refine z_sub (lv' := [(0, .ref (b)), (1, .ref (ad 0)), (2, .ref (ad2 0)), (3, .ref (ao)), (4, .int (iZ i))]) [0, 1, 2, 3, 4] rfl ?_
    refine z_iinc X 4 [1, 2, 3, 4, 0] [(0, .ref (b)), (1, .ref (ad 0)), (2, .ref (ad2 0)), (3, .ref (ao)), (4, .int (iZ (i + 4)))] rfl rfl (Nat.le_of_ble_eq_true rfl) dL_law_1108 ?_
    refine z_goto (tgt := 23) X (by decide) dL_law_1111 ?_
    refine z_widen (k := cells + 1) (n := slots + 6) (by omega) (by omega) ?_
    exact ih (i + 4) u1 (gV w 6 (m_goesC (m_in g1 0 4) 1 1)) lf1 (cells + 1) (slots + 6) hR1 (by omega) (by omega) (by omega) (by omega) (by omega)
  have q2 : m_goesC (m_in g1 0 4) 1 1 = 0 := (by omega)
  have hv1 := hv q2
  refine z_aload_n X 3 rfl dL_law_836 ?_
  refine z_iconst X dL_law_837 ?_
  refine z_lald X 34 2 rfl rfl (by omega) (by omega) ⟨by omega, by omega⟩ dL_law_838 ?_
  refine z_iload X 6 rfl dL_law_839 ?_
  refine z_i2l X dL_law_841 ?_
  refine z_lcmp X dL_law_842 ?_
  refine z_top (y := iZ 0) (by show lg_cmp (lf1 0) _ = iZ 0; rw [hv1]; exact lg_same _) ?_
  refine z_if_eq (tgt := 848) X ⟨by omega, by omega⟩ (by decide) dL_law_843 (fun q3 => ?_) (fun q3 => absurd rfl q3)
  refine z_goto (tgt := 1108) X (by decide) dL_law_848 ?_
  refine z_sub (lv' := [(0, .ref (b)), (1, .ref (ad 0)), (2, .ref (ad2 0)), (3, .ref (ao)), (4, .int (iZ i))]) [0, 1, 2, 3, 4] rfl ?_
  refine z_iinc X 4 [1, 2, 3, 4, 0] [(0, .ref (b)), (1, .ref (ad 0)), (2, .ref (ad2 0)), (3, .ref (ao)), (4, .int (iZ (i + 4)))] rfl rfl (Nat.le_of_ble_eq_true rfl) dL_law_1108 ?_
  refine z_goto (tgt := 23) X (by decide) dL_law_1111 ?_
  refine z_widen (k := cells + 1) (n := slots + 6) (by omega) (by omega) ?_
  exact ih (i + 4) u1 (gV w 6 (m_goesC (m_in g1 0 4) 1 1)) lf1 (cells + 1) (slots + 6) hR1 (by omega) (by omega) (by omega) (by omega) (by omega)
set_option maxHeartbeats 4000000 in
set_option maxRecDepth 100000 in
theorem law_14_isMember {p : Program} (l : Launch) (hl : l.stackTraces = false) {e : Env} {s : State} {m : MethodId} {below : List Frame} {meth : Method} {c : Code} {A : Nat → Prop} {D : va_G} {cI cZ cL : ClassId} {b L : Nat} {xs : Nat → Int32} (ad ad2 : Nat → Nat) (ao : Nat) (X : zC p s m #[.ref b] c cL_law 7 RL wsL_law D (zT cI cZ cL) A) (hX : va_X b L xs s s.heap) (hbl : b < s.heap.size) (hbA : ¬ A b) (hL : L ≤ 2048) (n : Nat) (ih : ∀ (i : Int) (u w : GS) (lf : Nat → Int64) (cells slots : Nat), RR u w → 0 ≤ i → i ≤ L → (L : Int) - i ≤ 4 * n → cells + n ≤ 1069 → slots + 6 * n ≤ 8600 → zW p l e room_1 s m #[.ref b] below meth c 7 D A cells slots (lw_Z below #[.ref b] s) (Mw ad2 cI cZ w ++ (Gw ad cI cZ u ++ Ow ao cL lf)) 23 [(0, .ref (b)), (1, .ref (ad 0)), (2, .ref (ad2 0)), (3, .ref (ao)), (4, .int (iZ i))] []) (i : Int) (u w : GS) (lf : Nat → Int64) (cells slots : Nat) (hR : RR u w) (h0 : 0 ≤ i) (hi : i + 4 ≤ L) (hn : (L : Int) - i ≤ 4 * (n + 1 : Nat)) (hc : cells + (n + 1) ≤ 1069) (hs : slots + 6 * (n + 1) ≤ 8600) (g1 g2 g3 : Int) (e1 : xs (i + 1).toNat = iZ g1) (e2 : xs (i + 2).toNat = iZ g2) (e3 : xs (i + 3).toNat = iZ g3) (hz1 : zB g1) (hz2 : zB g2) (hz3 : zB g3) : zW p l e room_1 s m #[.ref b] below meth c 7 D A cells slots (lw_Z below #[.ref b] s) (Mw ad2 cI cZ w ++ (Gw ad cI cZ u ++ Ow ao cL lf)) 851 [(0, .ref (b)), (1, .ref (ad 0)), (2, .ref (ad2 0)), (3, .ref (ao)), (4, .int (iZ i))] [] := by
  refine z_aload_n X 1 rfl dL_law_851 ?_
  refine z_aload_n X 0 rfl dL_law_852 ?_
  refine z_iload X 4 rfl dL_law_853 ?_
  refine z_iconst X dL_law_855 ?_
  refine z_iadd X dL_law_856 ?_
  refine z_sld X hX hbl hbA (by omega) (by omega) ⟨by omega, by omega⟩ dL_law_857 ?_
  refine z_top e1 ?_
  refine z_aload_n X 3 rfl dL_law_858 ?_
  obtain ⟨u1, lf1, hM, hR1, hv⟩ := H_isMember l hl D ad cI cZ cL ao lf hR g1 hz1
  refine z_calliW (ws' := Mw ad2 cI cZ w ++ (Gw ad cI cZ u1 ++ Ow ao cL lf1)) X hM (vx_cwSW 3 X.2.2.2.2.1 gL_law_L_isMember rfl rfl rfl (by decide +kernel) ⟨Nat.le_of_ble_eq_true rfl, Nat.le_of_ble_eq_true rfl⟩) rfl (Mw ad2 cI cZ w) [] (by rw [List.append_nil]) [] rfl (Nat.le_of_ble_eq_true rfl) dL_law_859 ⟨(by show cells + 1 ≤ 1069; omega), (by show slots + 6 ≤ 8600; omega)⟩ (by rw [List.append_nil]) ?_
  refine z_istore X [1, 2, 3, 4, 5, 0] [(0, .ref (b)), (1, .ref (ad 0)), (2, .ref (ad2 0)), (3, .ref (ao)), (4, .int (iZ i)), (5, .int (iZ (m_goesC (m_in g1 0 5) 1 1)))] rfl (Nat.le_of_ble_eq_true rfl) dL_law_862 ?_
  refine z_aload_n X 2 rfl dL_law_864 ?_
  refine z_aload_n X 0 rfl dL_law_865 ?_
  refine z_iload X 4 rfl dL_law_866 ?_
  refine z_iconst X dL_law_868 ?_
  refine z_iadd X dL_law_869 ?_
  refine z_sld X hX hbl hbA (by omega) (by omega) ⟨by omega, by omega⟩ dL_law_870 ?_
  refine z_top e1 ?_
  refine z_calli (ws' := Mw ad2 cI cZ (gV w 6 (m_goesC (m_in g1 0 5) 1 1)) ++ (Gw ad cI cZ u1 ++ Ow ao cL lf1)) X (c_X2_isMember l D ad2 cI cZ cL w g1 hz1 hR.bdm) (cwV 1 X.2.2.2.2.1 gL_law_X2_isMember rfl rfl rfl (by decide +kernel) ⟨Nat.le_of_ble_eq_true rfl, Nat.le_of_ble_eq_true rfl⟩) rfl [] (Gw ad cI cZ u1 ++ Ow ao cL lf1) rfl 2 0 rfl rfl [] rfl (Nat.le_of_ble_eq_true rfl) dL_law_871 ⟨(by show cells + 1 + 0 ≤ 1069; omega), (by show slots + 6 + 0 ≤ 8600; omega)⟩ rfl ?_
  refine z_istore X [1, 2, 3, 4, 5, 6, 0] [(0, .ref (b)), (1, .ref (ad 0)), (2, .ref (ad2 0)), (3, .ref (ao)), (4, .int (iZ i)), (5, .int (iZ (m_goesC (m_in g1 0 5) 1 1))), (6, .int (iZ (if m_goesC (m_in g1 0 5) 1 1 = 0 ∧ w.1 7 g1 = 0 then 1 else 0)))] rfl (Nat.le_of_ble_eq_true rfl) dL_law_874 ?_
  refine z_aload_n X 2 rfl dL_law_876 ?_
  refine z_calli (ws' := Mw ad2 cI cZ (gV w 6 (m_goesC (m_in g1 0 5) 1 1)) ++ (Gw ad cI cZ u1 ++ Ow ao cL lf1)) X (c_X2_thrown l D ad2 cI cZ cL (gV w 6 (m_goesC (m_in g1 0 5) 1 1))) (cwV 0 X.2.2.2.2.1 gL_law_X2_thrown rfl rfl rfl (by decide +kernel) ⟨Nat.le_of_ble_eq_true rfl, Nat.le_of_ble_eq_true rfl⟩) rfl [] (Gw ad cI cZ u1 ++ Ow ao cL lf1) rfl 2 0 rfl rfl [] rfl (Nat.le_of_ble_eq_true rfl) dL_law_877 ⟨(by show cells + 1 + 0 + 0 ≤ 1069; omega), (by show slots + 6 + 0 + 0 ≤ 8600; omega)⟩ rfl ?_
  refine z_iload X 5 rfl dL_law_880 ?_
  refine z_icmpR_eq (tgt := 887) X (by decide) (congrArg iZ (gV_2s _ _ _)) dL_law_882 ?_
  refine z_iload X 5 rfl dL_law_887 ?_
  have hcb := (show 0 ≤ m_goesC (m_in g1 0 5) (1) (1) ∧ m_goesC (m_in g1 0 5) (1) (1) ≤ 3 by have := m_goes_sp (m_in g1 0 5) (1) (1); omega)
  refine z_if_ne (tgt := 911) X ⟨by omega, by omega⟩ (by decide) dL_law_889 (fun q1 => ?_) (fun q1 => ?_)
  · skip
    refine z_goto (tgt := 1108) X (by decide) dL_law_911 ?_
    refine z_sub (lv' := [(0, .ref (b)), (1, .ref (ad 0)), (2, .ref (ad2 0)), (3, .ref (ao)), (4, .int (iZ i))]) [0, 1, 2, 3, 4] rfl ?_
    refine z_iinc X 4 [1, 2, 3, 4, 0] [(0, .ref (b)), (1, .ref (ad 0)), (2, .ref (ad2 0)), (3, .ref (ao)), (4, .int (iZ (i + 4)))] rfl rfl (Nat.le_of_ble_eq_true rfl) dL_law_1108 ?_
    refine z_goto (tgt := 23) X (by decide) dL_law_1111 ?_
    refine z_widen (k := cells + 1) (n := slots + 6) (by omega) (by omega) ?_
    exact ih (i + 4) u1 (gV w 6 (m_goesC (m_in g1 0 5) 1 1)) lf1 (cells + 1) (slots + 6) hR1 (by omega) (by omega) (by omega) (by omega) (by omega)
  have q2 : m_goesC (m_in g1 0 5) 1 1 = 0 := (by omega)
  have hv1 := hv q2
  refine z_aload_n X 3 rfl dL_law_892 ?_
  refine z_iconst X dL_law_893 ?_
  refine z_lald X 34 2 rfl rfl (by omega) (by omega) ⟨by omega, by omega⟩ dL_law_894 ?_
  refine z_iload X 6 rfl dL_law_895 ?_
  have hans : (if m_goesC (m_in g1 0 5) 1 1 = 0 ∧ w.1 7 g1 = 0 then 1 else 0 : Int) = 0 ∨ (if m_goesC (m_in g1 0 5) 1 1 = 0 ∧ w.1 7 g1 = 0 then 1 else 0 : Int) = 1 := by split <;> omega
  refine z_if_eq (tgt := 904) X ⟨by omega, by omega⟩ (by decide) dL_law_897 (fun q3 => ?_) (fun q3 => ?_)
  · skip
    have hv2 : lf1 0 = 0 := hv1.trans (if_pos q3)
    refine z_lconst X (v := 0) rfl dL_law_904 ?_
    refine z_lcmp X dL_law_905 ?_
    refine z_top (y := iZ 0) (by show lg_cmp (lf1 0) 0 = iZ 0; rw [hv2]; exact lg_same _) ?_
    refine z_if_eq (tgt := 911) X ⟨by omega, by omega⟩ (by decide) dL_law_906 (fun q4 => ?_) (fun q4 => absurd rfl q4)
    refine z_goto (tgt := 1108) X (by decide) dL_law_911 ?_
    refine z_sub (lv' := [(0, .ref (b)), (1, .ref (ad 0)), (2, .ref (ad2 0)), (3, .ref (ao)), (4, .int (iZ i))]) [0, 1, 2, 3, 4] rfl ?_
    refine z_iinc X 4 [1, 2, 3, 4, 0] [(0, .ref (b)), (1, .ref (ad 0)), (2, .ref (ad2 0)), (3, .ref (ao)), (4, .int (iZ (i + 4)))] rfl rfl (Nat.le_of_ble_eq_true rfl) dL_law_1108 ?_
    refine z_goto (tgt := 23) X (by decide) dL_law_1111 ?_
    refine z_widen (k := cells + 1) (n := slots + 6) (by omega) (by omega) ?_
    exact ih (i + 4) u1 (gV w 6 (m_goesC (m_in g1 0 5) 1 1)) lf1 (cells + 1) (slots + 6) hR1 (by omega) (by omega) (by omega) (by omega) (by omega)
  · skip
    have hv2 : lf1 0 = 1 := hv1.trans (if_neg q3)
    refine z_lconst X (v := 1) rfl dL_law_900 ?_
    refine z_goto (tgt := 905) X (by decide) dL_law_901 ?_
    refine z_lcmp X dL_law_905 ?_
    refine z_top (y := iZ 0) (by show lg_cmp (lf1 0) 1 = iZ 0; rw [hv2]; exact lg_same _) ?_
    refine z_if_eq (tgt := 911) X ⟨by omega, by omega⟩ (by decide) dL_law_906 (fun q4 => ?_) (fun q4 => absurd rfl q4)
    refine z_goto (tgt := 1108) X (by decide) dL_law_911 ?_
    refine z_sub (lv' := [(0, .ref (b)), (1, .ref (ad 0)), (2, .ref (ad2 0)), (3, .ref (ao)), (4, .int (iZ i))]) [0, 1, 2, 3, 4] rfl ?_
    refine z_iinc X 4 [1, 2, 3, 4, 0] [(0, .ref (b)), (1, .ref (ad 0)), (2, .ref (ad2 0)), (3, .ref (ao)), (4, .int (iZ (i + 4)))] rfl rfl (Nat.le_of_ble_eq_true rfl) dL_law_1108 ?_
    refine z_goto (tgt := 23) X (by decide) dL_law_1111 ?_
    refine z_widen (k := cells + 1) (n := slots + 6) (by omega) (by omega) ?_
    exact ih (i + 4) u1 (gV w 6 (m_goesC (m_in g1 0 5) 1 1)) lf1 (cells + 1) (slots + 6) hR1 (by omega) (by omega) (by omega) (by omega) (by omega)
set_option maxHeartbeats 4000000 in
set_option maxRecDepth 100000 in
theorem law_15_stored {p : Program} (l : Launch) (hl : l.stackTraces = false) {e : Env} {s : State} {m : MethodId} {below : List Frame} {meth : Method} {c : Code} {A : Nat → Prop} {D : va_G} {cI cZ cL : ClassId} {b L : Nat} {xs : Nat → Int32} (ad ad2 : Nat → Nat) (ao : Nat) (X : zC p s m #[.ref b] c cL_law 7 RL wsL_law D (zT cI cZ cL) A) (hX : va_X b L xs s s.heap) (hbl : b < s.heap.size) (hbA : ¬ A b) (hL : L ≤ 2048) (n : Nat) (ih : ∀ (i : Int) (u w : GS) (lf : Nat → Int64) (cells slots : Nat), RR u w → 0 ≤ i → i ≤ L → (L : Int) - i ≤ 4 * n → cells + n ≤ 1069 → slots + 6 * n ≤ 8600 → zW p l e room_1 s m #[.ref b] below meth c 7 D A cells slots (lw_Z below #[.ref b] s) (Mw ad2 cI cZ w ++ (Gw ad cI cZ u ++ Ow ao cL lf)) 23 [(0, .ref (b)), (1, .ref (ad 0)), (2, .ref (ad2 0)), (3, .ref (ao)), (4, .int (iZ i))] []) (i : Int) (u w : GS) (lf : Nat → Int64) (cells slots : Nat) (hR : RR u w) (h0 : 0 ≤ i) (hi : i + 4 ≤ L) (hn : (L : Int) - i ≤ 4 * (n + 1 : Nat)) (hc : cells + (n + 1) ≤ 1069) (hs : slots + 6 * (n + 1) ≤ 8600) (g1 g2 g3 : Int) (e1 : xs (i + 1).toNat = iZ g1) (e2 : xs (i + 2).toNat = iZ g2) (e3 : xs (i + 3).toNat = iZ g3) (hz1 : zB g1) (hz2 : zB g2) (hz3 : zB g3) : zW p l e room_1 s m #[.ref b] below meth c 7 D A cells slots (lw_Z below #[.ref b] s) (Mw ad2 cI cZ w ++ (Gw ad cI cZ u ++ Ow ao cL lf)) 914 [(0, .ref (b)), (1, .ref (ad 0)), (2, .ref (ad2 0)), (3, .ref (ao)), (4, .int (iZ i))] [] := by
  refine z_aload_n X 1 rfl dL_law_914 ?_
  refine z_aload_n X 0 rfl dL_law_915 ?_
  refine z_iload X 4 rfl dL_law_916 ?_
  refine z_iconst X dL_law_918 ?_
  refine z_iadd X dL_law_919 ?_
  refine z_sld X hX hbl hbA (by omega) (by omega) ⟨by omega, by omega⟩ dL_law_920 ?_
  refine z_top e1 ?_
  refine z_aload_n X 3 rfl dL_law_921 ?_
  obtain ⟨u1, lf1, hM, hR1, hv⟩ := H_stored l hl D ad cI cZ cL ao lf hR g1 hz1
  refine z_calliW (ws' := Mw ad2 cI cZ w ++ (Gw ad cI cZ u1 ++ Ow ao cL lf1)) X hM (vx_cwSW 3 X.2.2.2.2.1 gL_law_L_stored rfl rfl rfl (by decide +kernel) ⟨Nat.le_of_ble_eq_true rfl, Nat.le_of_ble_eq_true rfl⟩) rfl (Mw ad2 cI cZ w) [] (by rw [List.append_nil]) [] rfl (Nat.le_of_ble_eq_true rfl) dL_law_922 ⟨(by show cells + 1 ≤ 1069; omega), (by show slots + 6 ≤ 8600; omega)⟩ (by rw [List.append_nil]) ?_
  refine z_istore X [1, 2, 3, 4, 5, 0] [(0, .ref (b)), (1, .ref (ad 0)), (2, .ref (ad2 0)), (3, .ref (ao)), (4, .int (iZ i)), (5, .int (iZ (m_goesC (m_in g1 0 5) 1 1)))] rfl (Nat.le_of_ble_eq_true rfl) dL_law_925 ?_
  refine z_aload_n X 2 rfl dL_law_927 ?_
  refine z_aload_n X 0 rfl dL_law_928 ?_
  refine z_iload X 4 rfl dL_law_929 ?_
  refine z_iconst X dL_law_931 ?_
  refine z_iadd X dL_law_932 ?_
  refine z_sld X hX hbl hbA (by omega) (by omega) ⟨by omega, by omega⟩ dL_law_933 ?_
  refine z_top e1 ?_
  refine z_calli (ws' := Mw ad2 cI cZ (gV w 6 (m_goesC (m_in g1 0 5) 1 1)) ++ (Gw ad cI cZ u1 ++ Ow ao cL lf1)) X (c_X2_stored l D ad2 cI cZ cL w g1 hz1 hR.bdm) (cwV 1 X.2.2.2.2.1 gL_law_X2_stored rfl rfl rfl (by decide +kernel) ⟨Nat.le_of_ble_eq_true rfl, Nat.le_of_ble_eq_true rfl⟩) rfl [] (Gw ad cI cZ u1 ++ Ow ao cL lf1) rfl 2 0 rfl rfl [] rfl (Nat.le_of_ble_eq_true rfl) dL_law_934 ⟨(by show cells + 1 + 0 ≤ 1069; omega), (by show slots + 6 + 0 ≤ 8600; omega)⟩ rfl ?_
  refine z_istore X [1, 2, 3, 4, 5, 6, 0] [(0, .ref (b)), (1, .ref (ad 0)), (2, .ref (ad2 0)), (3, .ref (ao)), (4, .int (iZ i)), (5, .int (iZ (m_goesC (m_in g1 0 5) 1 1))), (6, .int (iZ (if m_goesC (m_in g1 0 5) 1 1 = 0 then w.1 5 g1 else 0)))] rfl (Nat.le_of_ble_eq_true rfl) dL_law_937 ?_
  refine z_aload_n X 2 rfl dL_law_939 ?_
  refine z_calli (ws' := Mw ad2 cI cZ (gV w 6 (m_goesC (m_in g1 0 5) 1 1)) ++ (Gw ad cI cZ u1 ++ Ow ao cL lf1)) X (c_X2_thrown l D ad2 cI cZ cL (gV w 6 (m_goesC (m_in g1 0 5) 1 1))) (cwV 0 X.2.2.2.2.1 gL_law_X2_thrown rfl rfl rfl (by decide +kernel) ⟨Nat.le_of_ble_eq_true rfl, Nat.le_of_ble_eq_true rfl⟩) rfl [] (Gw ad cI cZ u1 ++ Ow ao cL lf1) rfl 2 0 rfl rfl [] rfl (Nat.le_of_ble_eq_true rfl) dL_law_940 ⟨(by show cells + 1 + 0 + 0 ≤ 1069; omega), (by show slots + 6 + 0 + 0 ≤ 8600; omega)⟩ rfl ?_
  refine z_iload X 5 rfl dL_law_943 ?_
  refine z_icmpR_eq (tgt := 950) X (by decide) (congrArg iZ (gV_2s _ _ _)) dL_law_945 ?_
  refine z_iload X 5 rfl dL_law_950 ?_
  have hcb := (show 0 ≤ m_goesC (m_in g1 0 5) (1) (1) ∧ m_goesC (m_in g1 0 5) (1) (1) ≤ 3 by have := m_goes_sp (m_in g1 0 5) (1) (1); omega)
  refine z_if_ne (tgt := 967) X ⟨by omega, by omega⟩ (by decide) dL_law_952 (fun q1 => ?_) (fun q1 => ?_)
  · skip
    refine z_goto (tgt := 1108) X (by decide) dL_law_967 ?_
    refine z_sub (lv' := [(0, .ref (b)), (1, .ref (ad 0)), (2, .ref (ad2 0)), (3, .ref (ao)), (4, .int (iZ i))]) [0, 1, 2, 3, 4] rfl ?_
    refine z_iinc X 4 [1, 2, 3, 4, 0] [(0, .ref (b)), (1, .ref (ad 0)), (2, .ref (ad2 0)), (3, .ref (ao)), (4, .int (iZ (i + 4)))] rfl rfl (Nat.le_of_ble_eq_true rfl) dL_law_1108 ?_
    refine z_goto (tgt := 23) X (by decide) dL_law_1111 ?_
    refine z_widen (k := cells + 1) (n := slots + 6) (by omega) (by omega) ?_
    exact ih (i + 4) u1 (gV w 6 (m_goesC (m_in g1 0 5) 1 1)) lf1 (cells + 1) (slots + 6) hR1 (by omega) (by omega) (by omega) (by omega) (by omega)
  have q2 : m_goesC (m_in g1 0 5) 1 1 = 0 := (by omega)
  have hv1 := hv q2
  refine z_aload_n X 3 rfl dL_law_955 ?_
  refine z_iconst X dL_law_956 ?_
  refine z_lald X 34 2 rfl rfl (by omega) (by omega) ⟨by omega, by omega⟩ dL_law_957 ?_
  refine z_iload X 6 rfl dL_law_958 ?_
  refine z_i2l X dL_law_960 ?_
  refine z_lcmp X dL_law_961 ?_
  refine z_top (y := iZ 0) (by show lg_cmp (lf1 0) _ = iZ 0; rw [hv1]; exact lg_same _) ?_
  refine z_if_eq (tgt := 967) X ⟨by omega, by omega⟩ (by decide) dL_law_962 (fun q3 => ?_) (fun q3 => absurd rfl q3)
  refine z_goto (tgt := 1108) X (by decide) dL_law_967 ?_
  refine z_sub (lv' := [(0, .ref (b)), (1, .ref (ad 0)), (2, .ref (ad2 0)), (3, .ref (ao)), (4, .int (iZ i))]) [0, 1, 2, 3, 4] rfl ?_
  refine z_iinc X 4 [1, 2, 3, 4, 0] [(0, .ref (b)), (1, .ref (ad 0)), (2, .ref (ad2 0)), (3, .ref (ao)), (4, .int (iZ (i + 4)))] rfl rfl (Nat.le_of_ble_eq_true rfl) dL_law_1108 ?_
  refine z_goto (tgt := 23) X (by decide) dL_law_1111 ?_
  refine z_widen (k := cells + 1) (n := slots + 6) (by omega) (by omega) ?_
  exact ih (i + 4) u1 (gV w 6 (m_goesC (m_in g1 0 5) 1 1)) lf1 (cells + 1) (slots + 6) hR1 (by omega) (by omega) (by omega) (by omega) (by omega)
set_option maxHeartbeats 4000000 in
set_option maxRecDepth 100000 in
theorem law_16_part {p : Program} (l : Launch) (hl : l.stackTraces = false) {e : Env} {s : State} {m : MethodId} {below : List Frame} {meth : Method} {c : Code} {A : Nat → Prop} {D : va_G} {cI cZ cL : ClassId} {b L : Nat} {xs : Nat → Int32} (ad ad2 : Nat → Nat) (ao : Nat) (X : zC p s m #[.ref b] c cL_law 7 RL wsL_law D (zT cI cZ cL) A) (hX : va_X b L xs s s.heap) (hbl : b < s.heap.size) (hbA : ¬ A b) (hL : L ≤ 2048) (n : Nat) (ih : ∀ (i : Int) (u w : GS) (lf : Nat → Int64) (cells slots : Nat), RR u w → 0 ≤ i → i ≤ L → (L : Int) - i ≤ 4 * n → cells + n ≤ 1069 → slots + 6 * n ≤ 8600 → zW p l e room_1 s m #[.ref b] below meth c 7 D A cells slots (lw_Z below #[.ref b] s) (Mw ad2 cI cZ w ++ (Gw ad cI cZ u ++ Ow ao cL lf)) 23 [(0, .ref (b)), (1, .ref (ad 0)), (2, .ref (ad2 0)), (3, .ref (ao)), (4, .int (iZ i))] []) (i : Int) (u w : GS) (lf : Nat → Int64) (cells slots : Nat) (hR : RR u w) (h0 : 0 ≤ i) (hi : i + 4 ≤ L) (hn : (L : Int) - i ≤ 4 * (n + 1 : Nat)) (hc : cells + (n + 1) ≤ 1069) (hs : slots + 6 * (n + 1) ≤ 8600) (g1 g2 g3 : Int) (e1 : xs (i + 1).toNat = iZ g1) (e2 : xs (i + 2).toNat = iZ g2) (e3 : xs (i + 3).toNat = iZ g3) (hz1 : zB g1) (hz2 : zB g2) (hz3 : zB g3) : zW p l e room_1 s m #[.ref b] below meth c 7 D A cells slots (lw_Z below #[.ref b] s) (Mw ad2 cI cZ w ++ (Gw ad cI cZ u ++ Ow ao cL lf)) 970 [(0, .ref (b)), (1, .ref (ad 0)), (2, .ref (ad2 0)), (3, .ref (ao)), (4, .int (iZ i))] [] := by
  refine z_aload_n X 1 rfl dL_law_970 ?_
  refine z_aload_n X 0 rfl dL_law_971 ?_
  refine z_iload X 4 rfl dL_law_972 ?_
  refine z_iconst X dL_law_974 ?_
  refine z_iadd X dL_law_975 ?_
  refine z_sld X hX hbl hbA (by omega) (by omega) ⟨by omega, by omega⟩ dL_law_976 ?_
  refine z_top e1 ?_
  refine z_aload_n X 3 rfl dL_law_977 ?_
  obtain ⟨u1, lf1, hM, hR1, hv⟩ := H_part l hl D ad cI cZ cL ao lf hR g1 hz1
  refine z_calliW (ws' := Mw ad2 cI cZ w ++ (Gw ad cI cZ u1 ++ Ow ao cL lf1)) X hM (vx_cwSW 3 X.2.2.2.2.1 gL_law_L_part rfl rfl rfl (by decide +kernel) ⟨Nat.le_of_ble_eq_true rfl, Nat.le_of_ble_eq_true rfl⟩) rfl (Mw ad2 cI cZ w) [] (by rw [List.append_nil]) [] rfl (Nat.le_of_ble_eq_true rfl) dL_law_978 ⟨(by show cells + 1 ≤ 1069; omega), (by show slots + 6 ≤ 8600; omega)⟩ (by rw [List.append_nil]) ?_
  refine z_istore X [1, 2, 3, 4, 5, 0] [(0, .ref (b)), (1, .ref (ad 0)), (2, .ref (ad2 0)), (3, .ref (ao)), (4, .int (iZ i)), (5, .int (iZ (m_goesC (m_in g1 0 5) 1 1)))] rfl (Nat.le_of_ble_eq_true rfl) dL_law_981 ?_
  refine z_aload_n X 2 rfl dL_law_983 ?_
  refine z_aload_n X 0 rfl dL_law_984 ?_
  refine z_iload X 4 rfl dL_law_985 ?_
  refine z_iconst X dL_law_987 ?_
  refine z_iadd X dL_law_988 ?_
  refine z_sld X hX hbl hbA (by omega) (by omega) ⟨by omega, by omega⟩ dL_law_989 ?_
  refine z_top e1 ?_
  refine z_calli (ws' := Mw ad2 cI cZ (gV w 6 (m_goesC (m_in g1 0 5) 1 1)) ++ (Gw ad cI cZ u1 ++ Ow ao cL lf1)) X (c_X2_part l D ad2 cI cZ cL w g1 hz1 hR.bdm) (cwV 1 X.2.2.2.2.1 gL_law_X2_part rfl rfl rfl (by decide +kernel) ⟨Nat.le_of_ble_eq_true rfl, Nat.le_of_ble_eq_true rfl⟩) rfl [] (Gw ad cI cZ u1 ++ Ow ao cL lf1) rfl 2 0 rfl rfl [] rfl (Nat.le_of_ble_eq_true rfl) dL_law_990 ⟨(by show cells + 1 + 0 ≤ 1069; omega), (by show slots + 6 + 0 ≤ 8600; omega)⟩ rfl ?_
  refine z_istore X [1, 2, 3, 4, 5, 6, 0] [(0, .ref (b)), (1, .ref (ad 0)), (2, .ref (ad2 0)), (3, .ref (ao)), (4, .int (iZ i)), (5, .int (iZ (m_goesC (m_in g1 0 5) 1 1))), (6, .int (iZ (if m_goesC (m_in g1 0 5) 1 1 = 0 then w.1 4 g1 else 0)))] rfl (Nat.le_of_ble_eq_true rfl) dL_law_993 ?_
  refine z_aload_n X 2 rfl dL_law_995 ?_
  refine z_calli (ws' := Mw ad2 cI cZ (gV w 6 (m_goesC (m_in g1 0 5) 1 1)) ++ (Gw ad cI cZ u1 ++ Ow ao cL lf1)) X (c_X2_thrown l D ad2 cI cZ cL (gV w 6 (m_goesC (m_in g1 0 5) 1 1))) (cwV 0 X.2.2.2.2.1 gL_law_X2_thrown rfl rfl rfl (by decide +kernel) ⟨Nat.le_of_ble_eq_true rfl, Nat.le_of_ble_eq_true rfl⟩) rfl [] (Gw ad cI cZ u1 ++ Ow ao cL lf1) rfl 2 0 rfl rfl [] rfl (Nat.le_of_ble_eq_true rfl) dL_law_996 ⟨(by show cells + 1 + 0 + 0 ≤ 1069; omega), (by show slots + 6 + 0 + 0 ≤ 8600; omega)⟩ rfl ?_
  refine z_iload X 5 rfl dL_law_999 ?_
  refine z_icmpR_eq (tgt := 1006) X (by decide) (congrArg iZ (gV_2s _ _ _)) dL_law_1001 ?_
  refine z_iload X 5 rfl dL_law_1006 ?_
  have hcb := (show 0 ≤ m_goesC (m_in g1 0 5) (1) (1) ∧ m_goesC (m_in g1 0 5) (1) (1) ≤ 3 by have := m_goes_sp (m_in g1 0 5) (1) (1); omega)
  refine z_if_ne (tgt := 1023) X ⟨by omega, by omega⟩ (by decide) dL_law_1008 (fun q1 => ?_) (fun q1 => ?_)
  · skip
    refine z_goto (tgt := 1108) X (by decide) dL_law_1023 ?_
    refine z_sub (lv' := [(0, .ref (b)), (1, .ref (ad 0)), (2, .ref (ad2 0)), (3, .ref (ao)), (4, .int (iZ i))]) [0, 1, 2, 3, 4] rfl ?_
    refine z_iinc X 4 [1, 2, 3, 4, 0] [(0, .ref (b)), (1, .ref (ad 0)), (2, .ref (ad2 0)), (3, .ref (ao)), (4, .int (iZ (i + 4)))] rfl rfl (Nat.le_of_ble_eq_true rfl) dL_law_1108 ?_
    refine z_goto (tgt := 23) X (by decide) dL_law_1111 ?_
    refine z_widen (k := cells + 1) (n := slots + 6) (by omega) (by omega) ?_
    exact ih (i + 4) u1 (gV w 6 (m_goesC (m_in g1 0 5) 1 1)) lf1 (cells + 1) (slots + 6) hR1 (by omega) (by omega) (by omega) (by omega) (by omega)
  have q2 : m_goesC (m_in g1 0 5) 1 1 = 0 := (by omega)
  have hv1 := hv q2
  refine z_aload_n X 3 rfl dL_law_1011 ?_
  refine z_iconst X dL_law_1012 ?_
  refine z_lald X 34 2 rfl rfl (by omega) (by omega) ⟨by omega, by omega⟩ dL_law_1013 ?_
  refine z_iload X 6 rfl dL_law_1014 ?_
  refine z_i2l X dL_law_1016 ?_
  refine z_lcmp X dL_law_1017 ?_
  refine z_top (y := iZ 0) (by show lg_cmp (lf1 0) _ = iZ 0; rw [hv1]; exact lg_same _) ?_
  refine z_if_eq (tgt := 1023) X ⟨by omega, by omega⟩ (by decide) dL_law_1018 (fun q3 => ?_) (fun q3 => absurd rfl q3)
  refine z_goto (tgt := 1108) X (by decide) dL_law_1023 ?_
  refine z_sub (lv' := [(0, .ref (b)), (1, .ref (ad 0)), (2, .ref (ad2 0)), (3, .ref (ao)), (4, .int (iZ i))]) [0, 1, 2, 3, 4] rfl ?_
  refine z_iinc X 4 [1, 2, 3, 4, 0] [(0, .ref (b)), (1, .ref (ad 0)), (2, .ref (ad2 0)), (3, .ref (ao)), (4, .int (iZ (i + 4)))] rfl rfl (Nat.le_of_ble_eq_true rfl) dL_law_1108 ?_
  refine z_goto (tgt := 23) X (by decide) dL_law_1111 ?_
  refine z_widen (k := cells + 1) (n := slots + 6) (by omega) (by omega) ?_
  exact ih (i + 4) u1 (gV w 6 (m_goesC (m_in g1 0 5) 1 1)) lf1 (cells + 1) (slots + 6) hR1 (by omega) (by omega) (by omega) (by omega) (by omega)
set_option maxHeartbeats 4000000 in
set_option maxRecDepth 100000 in
theorem law_17_bill {p : Program} (l : Launch) (hl : l.stackTraces = false) {e : Env} {s : State} {m : MethodId} {below : List Frame} {meth : Method} {c : Code} {A : Nat → Prop} {D : va_G} {cI cZ cL : ClassId} {b L : Nat} {xs : Nat → Int32} (ad ad2 : Nat → Nat) (ao : Nat) (X : zC p s m #[.ref b] c cL_law 7 RL wsL_law D (zT cI cZ cL) A) (hX : va_X b L xs s s.heap) (hbl : b < s.heap.size) (hbA : ¬ A b) (hL : L ≤ 2048) (n : Nat) (ih : ∀ (i : Int) (u w : GS) (lf : Nat → Int64) (cells slots : Nat), RR u w → 0 ≤ i → i ≤ L → (L : Int) - i ≤ 4 * n → cells + n ≤ 1069 → slots + 6 * n ≤ 8600 → zW p l e room_1 s m #[.ref b] below meth c 7 D A cells slots (lw_Z below #[.ref b] s) (Mw ad2 cI cZ w ++ (Gw ad cI cZ u ++ Ow ao cL lf)) 23 [(0, .ref (b)), (1, .ref (ad 0)), (2, .ref (ad2 0)), (3, .ref (ao)), (4, .int (iZ i))] []) (i : Int) (u w : GS) (lf : Nat → Int64) (cells slots : Nat) (hR : RR u w) (h0 : 0 ≤ i) (hi : i + 4 ≤ L) (hn : (L : Int) - i ≤ 4 * (n + 1 : Nat)) (hc : cells + (n + 1) ≤ 1069) (hs : slots + 6 * (n + 1) ≤ 8600) (g1 g2 g3 : Int) (e1 : xs (i + 1).toNat = iZ g1) (e2 : xs (i + 2).toNat = iZ g2) (e3 : xs (i + 3).toNat = iZ g3) (hz1 : zB g1) (hz2 : zB g2) (hz3 : zB g3) : zW p l e room_1 s m #[.ref b] below meth c 7 D A cells slots (lw_Z below #[.ref b] s) (Mw ad2 cI cZ w ++ (Gw ad cI cZ u ++ Ow ao cL lf)) 1026 [(0, .ref (b)), (1, .ref (ad 0)), (2, .ref (ad2 0)), (3, .ref (ao)), (4, .int (iZ i))] [] := by
  refine z_aload_n X 1 rfl dL_law_1026 ?_
  refine z_aload_n X 0 rfl dL_law_1027 ?_
  refine z_iload X 4 rfl dL_law_1028 ?_
  refine z_iconst X dL_law_1030 ?_
  refine z_iadd X dL_law_1031 ?_
  refine z_sld X hX hbl hbA (by omega) (by omega) ⟨by omega, by omega⟩ dL_law_1032 ?_
  refine z_top e1 ?_
  refine z_aload_n X 3 rfl dL_law_1033 ?_
  obtain ⟨u1, lf1, hM, hR1, hv⟩ := H_bill l hl D ad cI cZ cL ao lf hR g1 hz1
  refine z_calliW (ws' := Mw ad2 cI cZ w ++ (Gw ad cI cZ u1 ++ Ow ao cL lf1)) X hM (vx_cwSW 3 X.2.2.2.2.1 gL_law_L_bill rfl rfl rfl (by decide +kernel) ⟨Nat.le_of_ble_eq_true rfl, Nat.le_of_ble_eq_true rfl⟩) rfl (Mw ad2 cI cZ w) [] (by rw [List.append_nil]) [] rfl (Nat.le_of_ble_eq_true rfl) dL_law_1034 ⟨(by show cells + 1 ≤ 1069; omega), (by show slots + 6 ≤ 8600; omega)⟩ (by rw [List.append_nil]) ?_
  refine z_istore X [1, 2, 3, 4, 5, 0] [(0, .ref (b)), (1, .ref (ad 0)), (2, .ref (ad2 0)), (3, .ref (ao)), (4, .int (iZ i)), (5, .int (iZ (m_goesC (m_in g1 0 5) 1 1)))] rfl (Nat.le_of_ble_eq_true rfl) dL_law_1037 ?_
  refine z_aload_n X 2 rfl dL_law_1039 ?_
  refine z_aload_n X 0 rfl dL_law_1040 ?_
  refine z_iload X 4 rfl dL_law_1041 ?_
  refine z_iconst X dL_law_1043 ?_
  refine z_iadd X dL_law_1044 ?_
  refine z_sld X hX hbl hbA (by omega) (by omega) ⟨by omega, by omega⟩ dL_law_1045 ?_
  refine z_top e1 ?_
  refine z_calli (ws' := Mw ad2 cI cZ (gV w 6 (m_goesC (m_in g1 0 5) 1 1)) ++ (Gw ad cI cZ u1 ++ Ow ao cL lf1)) X (c_X2_bill l D ad2 cI cZ cL w g1 hz1 hR.bdm) (cwV 1 X.2.2.2.2.1 gL_law_X2_bill rfl rfl rfl (by decide +kernel) ⟨Nat.le_of_ble_eq_true rfl, Nat.le_of_ble_eq_true rfl⟩) rfl [] (Gw ad cI cZ u1 ++ Ow ao cL lf1) rfl 2 0 rfl rfl [] rfl (Nat.le_of_ble_eq_true rfl) dL_law_1046 ⟨(by show cells + 1 + 0 ≤ 1069; omega), (by show slots + 6 + 0 ≤ 8600; omega)⟩ rfl ?_
  refine z_istore X [1, 2, 3, 4, 5, 6, 0] [(0, .ref (b)), (1, .ref (ad 0)), (2, .ref (ad2 0)), (3, .ref (ao)), (4, .int (iZ i)), (5, .int (iZ (m_goesC (m_in g1 0 5) 1 1))), (6, .int (iZ (if m_goesC (m_in g1 0 5) 1 1 = 0 then w.1 6 g1 else 0)))] rfl (Nat.le_of_ble_eq_true rfl) dL_law_1049 ?_
  refine z_aload_n X 2 rfl dL_law_1051 ?_
  refine z_calli (ws' := Mw ad2 cI cZ (gV w 6 (m_goesC (m_in g1 0 5) 1 1)) ++ (Gw ad cI cZ u1 ++ Ow ao cL lf1)) X (c_X2_thrown l D ad2 cI cZ cL (gV w 6 (m_goesC (m_in g1 0 5) 1 1))) (cwV 0 X.2.2.2.2.1 gL_law_X2_thrown rfl rfl rfl (by decide +kernel) ⟨Nat.le_of_ble_eq_true rfl, Nat.le_of_ble_eq_true rfl⟩) rfl [] (Gw ad cI cZ u1 ++ Ow ao cL lf1) rfl 2 0 rfl rfl [] rfl (Nat.le_of_ble_eq_true rfl) dL_law_1052 ⟨(by show cells + 1 + 0 + 0 ≤ 1069; omega), (by show slots + 6 + 0 + 0 ≤ 8600; omega)⟩ rfl ?_
  refine z_iload X 5 rfl dL_law_1055 ?_
  refine z_icmpR_eq (tgt := 1062) X (by decide) (congrArg iZ (gV_2s _ _ _)) dL_law_1057 ?_
  refine z_iload X 5 rfl dL_law_1062 ?_
  have hcb := (show 0 ≤ m_goesC (m_in g1 0 5) (1) (1) ∧ m_goesC (m_in g1 0 5) (1) (1) ≤ 3 by have := m_goes_sp (m_in g1 0 5) (1) (1); omega)
  refine z_if_ne (tgt := 1079) X ⟨by omega, by omega⟩ (by decide) dL_law_1064 (fun q1 => ?_) (fun q1 => ?_)
  · skip
    refine z_goto (tgt := 1108) X (by decide) dL_law_1079 ?_
    refine z_sub (lv' := [(0, .ref (b)), (1, .ref (ad 0)), (2, .ref (ad2 0)), (3, .ref (ao)), (4, .int (iZ i))]) [0, 1, 2, 3, 4] rfl ?_
    refine z_iinc X 4 [1, 2, 3, 4, 0] [(0, .ref (b)), (1, .ref (ad 0)), (2, .ref (ad2 0)), (3, .ref (ao)), (4, .int (iZ (i + 4)))] rfl rfl (Nat.le_of_ble_eq_true rfl) dL_law_1108 ?_
    refine z_goto (tgt := 23) X (by decide) dL_law_1111 ?_
    refine z_widen (k := cells + 1) (n := slots + 6) (by omega) (by omega) ?_
    exact ih (i + 4) u1 (gV w 6 (m_goesC (m_in g1 0 5) 1 1)) lf1 (cells + 1) (slots + 6) hR1 (by omega) (by omega) (by omega) (by omega) (by omega)
  have q2 : m_goesC (m_in g1 0 5) 1 1 = 0 := (by omega)
  have hv1 := hv q2
  refine z_aload_n X 3 rfl dL_law_1067 ?_
  refine z_iconst X dL_law_1068 ?_
  refine z_lald X 34 2 rfl rfl (by omega) (by omega) ⟨by omega, by omega⟩ dL_law_1069 ?_
  refine z_iload X 6 rfl dL_law_1070 ?_
  refine z_i2l X dL_law_1072 ?_
  refine z_lcmp X dL_law_1073 ?_
  refine z_top (y := iZ 0) (by show lg_cmp (lf1 0) _ = iZ 0; rw [hv1]; exact lg_same _) ?_
  refine z_if_eq (tgt := 1079) X ⟨by omega, by omega⟩ (by decide) dL_law_1074 (fun q3 => ?_) (fun q3 => absurd rfl q3)
  refine z_goto (tgt := 1108) X (by decide) dL_law_1079 ?_
  refine z_sub (lv' := [(0, .ref (b)), (1, .ref (ad 0)), (2, .ref (ad2 0)), (3, .ref (ao)), (4, .int (iZ i))]) [0, 1, 2, 3, 4] rfl ?_
  refine z_iinc X 4 [1, 2, 3, 4, 0] [(0, .ref (b)), (1, .ref (ad 0)), (2, .ref (ad2 0)), (3, .ref (ao)), (4, .int (iZ (i + 4)))] rfl rfl (Nat.le_of_ble_eq_true rfl) dL_law_1108 ?_
  refine z_goto (tgt := 23) X (by decide) dL_law_1111 ?_
  refine z_widen (k := cells + 1) (n := slots + 6) (by omega) (by omega) ?_
  exact ih (i + 4) u1 (gV w 6 (m_goesC (m_in g1 0 5) 1 1)) lf1 (cells + 1) (slots + 6) hR1 (by omega) (by omega) (by omega) (by omega) (by omega)
set_option maxHeartbeats 4000000 in
set_option maxRecDepth 100000 in
theorem law_18_pool {p : Program} (l : Launch) (hl : l.stackTraces = false) {e : Env} {s : State} {m : MethodId} {below : List Frame} {meth : Method} {c : Code} {A : Nat → Prop} {D : va_G} {cI cZ cL : ClassId} {b L : Nat} {xs : Nat → Int32} (ad ad2 : Nat → Nat) (ao : Nat) (X : zC p s m #[.ref b] c cL_law 7 RL wsL_law D (zT cI cZ cL) A) (hX : va_X b L xs s s.heap) (hbl : b < s.heap.size) (hbA : ¬ A b) (hL : L ≤ 2048) (n : Nat) (ih : ∀ (i : Int) (u w : GS) (lf : Nat → Int64) (cells slots : Nat), RR u w → 0 ≤ i → i ≤ L → (L : Int) - i ≤ 4 * n → cells + n ≤ 1069 → slots + 6 * n ≤ 8600 → zW p l e room_1 s m #[.ref b] below meth c 7 D A cells slots (lw_Z below #[.ref b] s) (Mw ad2 cI cZ w ++ (Gw ad cI cZ u ++ Ow ao cL lf)) 23 [(0, .ref (b)), (1, .ref (ad 0)), (2, .ref (ad2 0)), (3, .ref (ao)), (4, .int (iZ i))] []) (i : Int) (u w : GS) (lf : Nat → Int64) (cells slots : Nat) (hR : RR u w) (h0 : 0 ≤ i) (hi : i + 4 ≤ L) (hn : (L : Int) - i ≤ 4 * (n + 1 : Nat)) (hc : cells + (n + 1) ≤ 1069) (hs : slots + 6 * (n + 1) ≤ 8600) (g1 g2 g3 : Int) (e1 : xs (i + 1).toNat = iZ g1) (e2 : xs (i + 2).toNat = iZ g2) (e3 : xs (i + 3).toNat = iZ g3) (hz1 : zB g1) (hz2 : zB g2) (hz3 : zB g3) : zW p l e room_1 s m #[.ref b] below meth c 7 D A cells slots (lw_Z below #[.ref b] s) (Mw ad2 cI cZ w ++ (Gw ad cI cZ u ++ Ow ao cL lf)) 1082 [(0, .ref (b)), (1, .ref (ad 0)), (2, .ref (ad2 0)), (3, .ref (ao)), (4, .int (iZ i))] [] := by
  refine z_aload_n X 1 rfl dL_law_1082 ?_
  refine z_calli (ws' := Mw ad2 cI cZ w ++ (Gw ad cI cZ u ++ Ow ao cL lf)) X (c_X1_pool l D ad cI cZ cL u) (cwV 0 X.2.2.2.2.1 gL_law_X1_pool rfl rfl rfl (by decide +kernel) ⟨Nat.le_of_ble_eq_true rfl, Nat.le_of_ble_eq_true rfl⟩) rfl (Mw ad2 cI cZ w) (Ow ao cL lf) rfl 1 16 rfl rfl [] rfl (Nat.le_of_ble_eq_true rfl) dL_law_1083 ⟨(by show cells + 0 ≤ 1069; omega), (by show slots + 0 ≤ 8600; omega)⟩ rfl ?_
  refine z_aload_n X 2 rfl dL_law_1086 ?_
  refine z_calli (ws' := Mw ad2 cI cZ (gV w 6 0) ++ (Gw ad cI cZ u ++ Ow ao cL lf)) X (c_X2_pool l D ad2 cI cZ cL w) (cwV 0 X.2.2.2.2.1 gL_law_X2_pool rfl rfl rfl (by decide +kernel) ⟨Nat.le_of_ble_eq_true rfl, Nat.le_of_ble_eq_true rfl⟩) rfl [] (Gw ad cI cZ u ++ Ow ao cL lf) rfl 2 0 rfl rfl [.int (iZ (u.2 2))] rfl (Nat.le_of_ble_eq_true rfl) dL_law_1087 ⟨(by show cells + 0 + 0 ≤ 1069; omega), (by show slots + 0 + 0 ≤ 8600; omega)⟩ rfl ?_
  refine z_icmpR_eq (tgt := 1108) X (by decide) (congrArg iZ (hR.2.2.2.2.1.2.2.2.2)) dL_law_1090 ?_
  refine z_sub (lv' := [(0, .ref (b)), (1, .ref (ad 0)), (2, .ref (ad2 0)), (3, .ref (ao)), (4, .int (iZ i))]) [0, 1, 2, 3, 4] rfl ?_
  refine z_iinc X 4 [1, 2, 3, 4, 0] [(0, .ref (b)), (1, .ref (ad 0)), (2, .ref (ad2 0)), (3, .ref (ao)), (4, .int (iZ (i + 4)))] rfl rfl (Nat.le_of_ble_eq_true rfl) dL_law_1108 ?_
  refine z_goto (tgt := 23) X (by decide) dL_law_1111 ?_
  refine z_widen (k := cells + 1) (n := slots + 6) (by omega) (by omega) ?_
  exact ih (i + 4) u (gV w 6 0) lf (cells + 1) (slots + 6) (RR_6 hR 0) (by omega) (by omega) (by omega) (by omega) (by omega)
set_option maxHeartbeats 4000000 in
set_option maxRecDepth 100000 in
theorem law_19_supplied {p : Program} (l : Launch) (hl : l.stackTraces = false) {e : Env} {s : State} {m : MethodId} {below : List Frame} {meth : Method} {c : Code} {A : Nat → Prop} {D : va_G} {cI cZ cL : ClassId} {b L : Nat} {xs : Nat → Int32} (ad ad2 : Nat → Nat) (ao : Nat) (X : zC p s m #[.ref b] c cL_law 7 RL wsL_law D (zT cI cZ cL) A) (hX : va_X b L xs s s.heap) (hbl : b < s.heap.size) (hbA : ¬ A b) (hL : L ≤ 2048) (n : Nat) (ih : ∀ (i : Int) (u w : GS) (lf : Nat → Int64) (cells slots : Nat), RR u w → 0 ≤ i → i ≤ L → (L : Int) - i ≤ 4 * n → cells + n ≤ 1069 → slots + 6 * n ≤ 8600 → zW p l e room_1 s m #[.ref b] below meth c 7 D A cells slots (lw_Z below #[.ref b] s) (Mw ad2 cI cZ w ++ (Gw ad cI cZ u ++ Ow ao cL lf)) 23 [(0, .ref (b)), (1, .ref (ad 0)), (2, .ref (ad2 0)), (3, .ref (ao)), (4, .int (iZ i))] []) (i : Int) (u w : GS) (lf : Nat → Int64) (cells slots : Nat) (hR : RR u w) (h0 : 0 ≤ i) (hi : i + 4 ≤ L) (hn : (L : Int) - i ≤ 4 * (n + 1 : Nat)) (hc : cells + (n + 1) ≤ 1069) (hs : slots + 6 * (n + 1) ≤ 8600) (g1 g2 g3 : Int) (e1 : xs (i + 1).toNat = iZ g1) (e2 : xs (i + 2).toNat = iZ g2) (e3 : xs (i + 3).toNat = iZ g3) (hz1 : zB g1) (hz2 : zB g2) (hz3 : zB g3) : zW p l e room_1 s m #[.ref b] below meth c 7 D A cells slots (lw_Z below #[.ref b] s) (Mw ad2 cI cZ w ++ (Gw ad cI cZ u ++ Ow ao cL lf)) 1095 [(0, .ref (b)), (1, .ref (ad 0)), (2, .ref (ad2 0)), (3, .ref (ao)), (4, .int (iZ i))] [] := by
  refine z_aload_n X 1 rfl dL_law_1095 ?_
  refine z_calli (ws' := Mw ad2 cI cZ w ++ (Gw ad cI cZ u ++ Ow ao cL lf)) X (c_X1_supplied l D ad cI cZ cL u) (cwV 0 X.2.2.2.2.1 gL_law_X1_supplied rfl rfl rfl (by decide +kernel) ⟨Nat.le_of_ble_eq_true rfl, Nat.le_of_ble_eq_true rfl⟩) rfl (Mw ad2 cI cZ w) (Ow ao cL lf) rfl 1 16 rfl rfl [] rfl (Nat.le_of_ble_eq_true rfl) dL_law_1096 ⟨(by show cells + 0 ≤ 1069; omega), (by show slots + 0 ≤ 8600; omega)⟩ rfl ?_
  refine z_aload_n X 2 rfl dL_law_1099 ?_
  refine z_calli (ws' := Mw ad2 cI cZ (gV w 6 0) ++ (Gw ad cI cZ u ++ Ow ao cL lf)) X (c_X2_supplied l D ad2 cI cZ cL w) (cwV 0 X.2.2.2.2.1 gL_law_X2_supplied rfl rfl rfl (by decide +kernel) ⟨Nat.le_of_ble_eq_true rfl, Nat.le_of_ble_eq_true rfl⟩) rfl [] (Gw ad cI cZ u ++ Ow ao cL lf) rfl 2 0 rfl rfl [.int (iZ (u.2 3))] rfl (Nat.le_of_ble_eq_true rfl) dL_law_1100 ⟨(by show cells + 0 + 0 ≤ 1069; omega), (by show slots + 0 + 0 ≤ 8600; omega)⟩ rfl ?_
  refine z_icmpR_eq (tgt := 1108) X (by decide) (congrArg iZ (hR.2.2.1.2.2.2.2.2.2.1)) dL_law_1103 ?_
  refine z_sub (lv' := [(0, .ref (b)), (1, .ref (ad 0)), (2, .ref (ad2 0)), (3, .ref (ao)), (4, .int (iZ i))]) [0, 1, 2, 3, 4] rfl ?_
  refine z_iinc X 4 [1, 2, 3, 4, 0] [(0, .ref (b)), (1, .ref (ad 0)), (2, .ref (ad2 0)), (3, .ref (ao)), (4, .int (iZ (i + 4)))] rfl rfl (Nat.le_of_ble_eq_true rfl) dL_law_1108 ?_
  refine z_goto (tgt := 23) X (by decide) dL_law_1111 ?_
  refine z_widen (k := cells + 1) (n := slots + 6) (by omega) (by omega) ?_
  exact ih (i + 4) u (gV w 6 0) lf (cells + 1) (slots + 6) (RR_6 hR 0) (by omega) (by omega) (by omega) (by omega) (by omega)
