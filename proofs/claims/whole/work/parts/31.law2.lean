theorem z_done {p : Program} {l : Launch} {e : Env} {s : State} {m : MethodId} {below : List Frame} {meth : Method} {c : Code} {A : Nat → Prop} {D : va_G} {tys : List (ClassId × FieldType)} {Ts : List Cond} {own : String} {b nL : Nat} {ws : va_W} {lv : List (Nat × Value)} {cells slots pc : Nat} (X : zC p s m #[.ref b] c code nL own Ts D tys A) (hret : meth.sig.returnType = ret) (hlk : meth.locks = false) (hA : ∀ q, A q → s.heap.size ≤ q) (h1 : cells ≤ 1069) (h2 : slots ≤ 8600) (d : decode code pc = .ok (.ireturn, 1)) : zW p l e room_1 s m #[.ref b] below meth c nL D A cells slots (lw_Z below #[.ref b] s) ws pc lv [.int (iZ 1)] :=
  fun H locs ls hP hD hS hv => va_forget (fun q hq => hA _ (hS.2.2 q hq)) (W.widen h1 h2 (lw_ret X.1 X.2.1 hret hlk d))
set_option maxHeartbeats 4000000 in
set_option maxRecDepth 100000 in
theorem law_loop {p : Program} (l : Launch) (hl : l.stackTraces = false) {e : Env} {s : State} {m : MethodId} {below : List Frame} {meth : Method} {c : Code} {A : Nat → Prop} {D : va_G} {cI cZ cL : ClassId} {b L : Nat} {xs : Nat → Int32} (ad ad2 : Nat → Nat) (ao : Nat) (X : zC p s m #[.ref b] c cL_law 7 RL wsL_law D (zT cI cZ cL) A) (hX : va_X b L xs s s.heap) (hbl : b < s.heap.size) (hbA : ¬ A b) (hL : L ≤ 2048) (hA : ∀ q, A q → s.heap.size ≤ q) (hret : meth.sig.returnType = ret) (hlk : meth.locks = false) : ∀ (n : Nat) (i : Int) (u w : GS) (lf : Nat → Int64) (cells slots : Nat), RR u w → 0 ≤ i → i ≤ L → (L : Int) - i ≤ 4 * n → cells + n ≤ 1069 → slots + 6 * n ≤ 8600 → zW p l e room_1 s m #[.ref b] below meth c 7 D A cells slots (lw_Z below #[.ref b] s) (Mw ad2 cI cZ w ++ (Gw ad cI cZ u ++ Ow ao cL lf)) 23 [(0, .ref (b)), (1, .ref (ad 0)), (2, .ref (ad2 0)), (3, .ref (ao)), (4, .int (iZ i))] [] := by
  intro n
  induction n with
  | zero =>
    intro i u w lf cells slots hR h0 hi hn hc hs
    refine z_iload X 4 rfl dL_law_23 ?_
    refine z_aload_n X 0 rfl dL_law_25 ?_
    refine z_slen X hX hbl hbA dL_law_26 ?_
    refine z_iconst X dL_law_27 ?_
    refine z_isub X dL_law_28 ?_
    refine z_icmp_gt (tgt := 1114) X ⟨by omega, by omega⟩ ⟨by omega, by omega⟩ (by decide) dL_law_29 (fun q1 => ?_) (fun q1 => absurd q1 (by omega))
    refine z_iconst X dL_law_1114 ?_
    exact z_done X hret hlk hA (by omega) (by omega) dL_law_1115
  | succ n ih =>
    intro i u w lf cells slots hR h0 hi hn hc hs
    refine z_iload X 4 rfl dL_law_23 ?_
    refine z_aload_n X 0 rfl dL_law_25 ?_
    refine z_slen X hX hbl hbA dL_law_26 ?_
    refine z_iconst X dL_law_27 ?_
    refine z_isub X dL_law_28 ?_
    refine z_icmp_gt (tgt := 1114) X ⟨by omega, by omega⟩ ⟨by omega, by omega⟩ (by decide) dL_law_29 (fun q1 => ?_) (fun q1 => ?_)
    · refine z_iconst X dL_law_1114 ?_
      exact z_done X hret hlk hA (by omega) (by omega) dL_law_1115
    · have e1 := iZ_of (xs (i + 1).toNat)
      have e2 := iZ_of (xs (i + 2).toNat)
      have e3 := iZ_of (xs (i + 3).toNat)
      have hz1 := iZ_bd (xs (i + 1).toNat)
      have hz2 := iZ_bd (xs (i + 2).toNat)
      have hz3 := iZ_bd (xs (i + 3).toNat)
      generalize (xs (i + 1).toNat).toInt = g1 at e1 hz1
      generalize (xs (i + 2).toNat).toInt = g2 at e2 hz2
      generalize (xs (i + 3).toNat).toInt = g3 at e3 hz3
      have hi4 : i + 4 ≤ L := by omega
      refine z_aload_n X 0 rfl dL_law_32 ?_
      refine z_iload X 4 rfl dL_law_33 ?_
      refine z_sld X hX hbl hbA (by omega) (by omega) ⟨by omega, by omega⟩ dL_law_35 ?_
      refine z_bipush X (by decide) dL_law_36 ?_
      refine z_iand X dL_law_38 ?_
      have ek := iZ_of (xs i.toNat &&& iZ 31)
      have hzk := iZ_bd (xs i.toNat &&& iZ 31)
      generalize (xs i.toNat &&& iZ 31).toInt = key at ek hzk
      refine z_top ek ?_
      by_cases hk : key < 0 ∨ 19 < key
      · refine z_tswO X 1108 hzk hk (by decide) dL_law_39 ?_
        refine z_iinc X 4 [1, 2, 3, 4, 0] [(0, .ref (b)), (1, .ref (ad 0)), (2, .ref (ad2 0)), (3, .ref (ao)), (4, .int (iZ (i + 4)))] rfl rfl (Nat.le_of_ble_eq_true rfl) dL_law_1108 ?_
        refine z_goto (tgt := 23) X (by decide) dL_law_1111 ?_
        refine z_widen (k := cells + 1) (n := slots + 6) (by omega) (by omega) ?_
        exact ih (i + 4) u w lf (cells + 1) (slots + 6) hR (by omega) (by omega) (by omega) (by omega) (by omega)
      · rcases (show key = 0 ∨ key = 1 ∨ key = 2 ∨ key = 3 ∨ key = 4 ∨ key = 5 ∨ key = 6 ∨ key = 7 ∨ key = 8 ∨ key = 9 ∨ key = 10 ∨ key = 11 ∨ key = 12 ∨ key = 13 ∨ key = 14 ∨ key = 15 ∨ key = 16 ∨ key = 17 ∨ key = 18 ∨ key = 19 by omega) with rfl | rfl | rfl | rfl | rfl | rfl | rfl | rfl | rfl | rfl | rfl | rfl | rfl | rfl | rfl | rfl | rfl | rfl | rfl | rfl
        · refine z_tsw X (93) 132 ⟨by decide, by decide⟩ (by decide) (by decide) rfl (by decide) dL_law_39 ?_
          exact law_0_forecast l hl ad ad2 ao X hX hbl hbA hL n ih i u w lf cells slots hR h0 hi4 hn (by omega) (by omega) g1 g2 g3 e1 e2 e3 hz1 hz2 hz3
        · refine z_tsw X (161) 200 ⟨by decide, by decide⟩ (by decide) (by decide) rfl (by decide) dL_law_39 ?_
          exact law_1_meter l hl ad ad2 ao X hX hbl hbA hL n ih i u w lf cells slots hR h0 hi4 hn (by omega) (by omega) g1 g2 g3 e1 e2 e3 hz1 hz2 hz3
        · refine z_tsw X (229) 268 ⟨by decide, by decide⟩ (by decide) (by decide) rfl (by decide) dL_law_39 ?_
          exact law_2_setPrice l hl ad ad2 ao X hX hbl hbA hL n ih i u w lf cells slots hR h0 hi4 hn (by omega) (by omega) g1 g2 g3 e1 e2 e3 hz1 hz2 hz3
        · refine z_tsw X (297) 336 ⟨by decide, by decide⟩ (by decide) (by decide) rfl (by decide) dL_law_39 ?_
          exact law_3_setLimit l hl ad ad2 ao X hX hbl hbA hL n ih i u w lf cells slots hR h0 hi4 hn (by omega) (by omega) g1 g2 g3 e1 e2 e3 hz1 hz2 hz3
        · refine z_tsw X (365) 404 ⟨by decide, by decide⟩ (by decide) (by decide) rfl (by decide) dL_law_39 ?_
          exact law_4_setSupplier l hl ad ad2 ao X hX hbl hbA hL n ih i u w lf cells slots hR h0 hi4 hn (by omega) (by omega) g1 g2 g3 e1 e2 e3 hz1 hz2 hz3
        · refine z_tsw X (413) 452 ⟨by decide, by decide⟩ (by decide) (by decide) rfl (by decide) dL_law_39 ?_
          exact law_5_rent l hl ad ad2 ao X hX hbl hbA hL n ih i u w lf cells slots hR h0 hi4 hn (by omega) (by omega) g1 g2 g3 e1 e2 e3 hz1 hz2 hz3
        · refine z_tsw X (493) 532 ⟨by decide, by decide⟩ (by decide) (by decide) rfl (by decide) dL_law_39 ?_
          exact law_6_leave l hl ad ad2 ao X hX hbl hbA hL n ih i u w lf cells slots hR h0 hi4 hn (by omega) (by omega) g1 g2 g3 e1 e2 e3 hz1 hz2 hz3
        · refine z_tsw X (549) 588 ⟨by decide, by decide⟩ (by decide) (by decide) rfl (by decide) dL_law_39 ?_
          exact law_7_clear l hl ad ad2 ao X hX hbl hbA hL n ih i u w lf cells slots hR h0 hi4 hn (by omega) (by omega) g1 g2 g3 e1 e2 e3 hz1 hz2 hz3
        · refine z_tsw X (593) 632 ⟨by decide, by decide⟩ (by decide) (by decide) rfl (by decide) dL_law_39 ?_
          exact law_8_quarter l hl ad ad2 ao X hX hbl hbA hL n ih i u w lf cells slots hR h0 hi4 hn (by omega) (by omega) g1 g2 g3 e1 e2 e3 hz1 hz2 hz3
        · refine z_tsw X (606) 645 ⟨by decide, by decide⟩ (by decide) (by decide) rfl (by decide) dL_law_39 ?_
          exact law_9_mostTradable l hl ad ad2 ao X hX hbl hbA hL n ih i u w lf cells slots hR h0 hi4 hn (by omega) (by omega) g1 g2 g3 e1 e2 e3 hz1 hz2 hz3
        · refine z_tsw X (619) 658 ⟨by decide, by decide⟩ (by decide) (by decide) rfl (by decide) dL_law_39 ?_
          exact law_10_trades l hl ad ad2 ao X hX hbl hbA hL n ih i u w lf cells slots hR h0 hi4 hn (by omega) (by omega) g1 g2 g3 e1 e2 e3 hz1 hz2 hz3
        · refine z_tsw X (632) 671 ⟨by decide, by decide⟩ (by decide) (by decide) rfl (by decide) dL_law_39 ?_
          exact law_11_ofTrade l hl ad ad2 ao X hX hbl hbA hL n ih i u w lf cells slots hR h0 hi4 hn (by omega) (by omega) g1 g2 g3 e1 e2 e3 hz1 hz2 hz3
        · refine z_tsw X (700) 739 ⟨by decide, by decide⟩ (by decide) (by decide) rfl (by decide) dL_law_39 ?_
          exact law_12_went l hl ad ad2 ao X hX hbl hbA hL n ih i u w lf cells slots hR h0 hi4 hn (by omega) (by omega) g1 g2 g3 e1 e2 e3 hz1 hz2 hz3
        · refine z_tsw X (756) 795 ⟨by decide, by decide⟩ (by decide) (by decide) rfl (by decide) dL_law_39 ?_
          exact law_13_flow l hl ad ad2 ao X hX hbl hbA hL n ih i u w lf cells slots hR h0 hi4 hn (by omega) (by omega) g1 g2 g3 e1 e2 e3 hz1 hz2 hz3
        · refine z_tsw X (812) 851 ⟨by decide, by decide⟩ (by decide) (by decide) rfl (by decide) dL_law_39 ?_
          exact law_14_isMember l hl ad ad2 ao X hX hbl hbA hL n ih i u w lf cells slots hR h0 hi4 hn (by omega) (by omega) g1 g2 g3 e1 e2 e3 hz1 hz2 hz3
        · refine z_tsw X (875) 914 ⟨by decide, by decide⟩ (by decide) (by decide) rfl (by decide) dL_law_39 ?_
          exact law_15_stored l hl ad ad2 ao X hX hbl hbA hL n ih i u w lf cells slots hR h0 hi4 hn (by omega) (by omega) g1 g2 g3 e1 e2 e3 hz1 hz2 hz3
        · refine z_tsw X (931) 970 ⟨by decide, by decide⟩ (by decide) (by decide) rfl (by decide) dL_law_39 ?_
          exact law_16_part l hl ad ad2 ao X hX hbl hbA hL n ih i u w lf cells slots hR h0 hi4 hn (by omega) (by omega) g1 g2 g3 e1 e2 e3 hz1 hz2 hz3
        · refine z_tsw X (987) 1026 ⟨by decide, by decide⟩ (by decide) (by decide) rfl (by decide) dL_law_39 ?_
          exact law_17_bill l hl ad ad2 ao X hX hbl hbA hL n ih i u w lf cells slots hR h0 hi4 hn (by omega) (by omega) g1 g2 g3 e1 e2 e3 hz1 hz2 hz3
        · refine z_tsw X (1043) 1082 ⟨by decide, by decide⟩ (by decide) (by decide) rfl (by decide) dL_law_39 ?_
          exact law_18_pool l hl ad ad2 ao X hX hbl hbA hL n ih i u w lf cells slots hR h0 hi4 hn (by omega) (by omega) g1 g2 g3 e1 e2 e3 hz1 hz2 hz3
        · refine z_tsw X (1056) 1095 ⟨by decide, by decide⟩ (by decide) (by decide) rfl (by decide) dL_law_39 ?_
          exact law_19_supplied l hl ad ad2 ao X hX hbl hbA hL n ih i u w lf cells slots hR h0 hi4 hn (by omega) (by omega) g1 g2 g3 e1 e2 e3 hz1 hz2 hz3
theorem zG_str {s : State} {args : Array Value} {own tx : String} {k cur : Nat} (hcur : s.vm.findClass own = some cur) (h : (Cond.stringRef own k tx).before args s = true) : ∃ a : Nat, vk_R own k tx a s := by
  have h2 : (Cond.stringRef own k tx).before #[] s = true := by simpa only [Cond.before, Cond.holds, Cond.value] using h
  obtain ⟨-, -, -, a, -, -, -, -, -, e⟩ := Cond.stringRef_spec hcur h2
  exact ⟨a, h2, e⟩
set_option maxRecDepth 100000 in
set_option maxHeartbeats 4000000 in
theorem zG_start {s : State} {args : Array Value} {cur : Nat} (hts : ∀ w ∈ lw_tbl, w.before args s = true) (hgv : (Jvm.Cond.and given_1 narrow_1).before args s = true) (hX1 : s.vm.findClass RX1 = some cur) : zG s :=
  ⟨va_Nw.of rfl (hts _ (by decide +kernel)), va_Nw.of rfl (hts _ (by decide +kernel)), va_Nw.of rfl (hts _ (by decide +kernel)), va_Nw.of rfl (hts _ (by decide +kernel)), va_Nw.of rfl (hts _ (by decide +kernel)), va_Nw.of rfl (hts _ (by decide +kernel)), va_Nw.of rfl (hts _ (by decide +kernel)), va_Nw.of rfl (hts _ (by decide +kernel)), va_Nw.of rfl (hts _ (by decide +kernel)), va_Nw.of rfl (hts _ (by decide +kernel)), va_Nw.of rfl (hts _ (by decide +kernel)), va_Nw.of rfl (hts _ (by decide +kernel)), va_Nw.of rfl (hts _ (by decide +kernel)), va_Nw.of rfl (hts _ (by decide +kernel)), va_Nw.of rfl (hts _ (by decide +kernel)), va_Nw.of rfl (hts _ (by decide +kernel)), va_Nw.of rfl (hts _ (by decide +kernel)), va_Nc.of (flat_of_before _ hgv _ (by decide +kernel)), va_Nc.of (flat_of_before _ hgv _ (by decide +kernel)), va_Nc.of (flat_of_before _ hgv _ (by decide +kernel)), va_Nc.of (flat_of_before _ hgv _ (by decide +kernel)), va_Nc.of (flat_of_before _ hgv _ (by decide +kernel)), va_Nc.of (flat_of_before _ hgv _ (by decide +kernel)), zG_str hX1 (hts _ (by decide +kernel)), zG_str hX1 (hts _ (by decide +kernel)), zG_str hX1 (hts _ (by decide +kernel)), zG_str hX1 (hts _ (by decide +kernel)), zG_str hX1 (hts _ (by decide +kernel)), zG_str hX1 (hts _ (by decide +kernel)), zG_str hX1 (hts _ (by decide +kernel)), zG_str hX1 (hts _ (by decide +kernel)), zG_str hX1 (hts _ (by decide +kernel)), zG_str hX1 (hts _ (by decide +kernel))⟩
set_option maxRecDepth 100000 in
set_option maxHeartbeats 4000000 in
theorem zH_start {s : State} {args : Array Value} {A : Nat → Prop} (hts : ∀ w ∈ lw_tbl, w.before args s = true) (hgv : (Jvm.Cond.and given_1 narrow_1).before args s = true) (hA : ∀ a : Nat, a < s.heap.size → ¬ A a) : zH A s s.heap :=
  ⟨vx_Zqof (hts _ (by decide +kernel)) (hts _ (by decide +kernel)) (flat_of_before _ hgv _ (by decide +kernel)) hA, vx_Zqof (hts _ (by decide +kernel)) (hts _ (by decide +kernel)) (flat_of_before _ hgv _ (by decide +kernel)) hA⟩
theorem va_arr {s : State} {args : Array Value} {ty : FieldType} (hn : ∀ C, ty ≠ .object C) (h : (Cond.arrayClass ty).before args s = true) : ∃ cA : ClassId, ArrOfT s cA ty ∧ va_RA s cA ty := by
  obtain ⟨cA, kA, comp, h1, h2, h3⟩ := Cond.arrayClass_spec h
  refine ⟨cA, fun n z => ⟨fun k h => (by cases h), kA, h2, comp, h3⟩, ?_⟩
  cases ty with
  | object C => exact absurd rfl (hn C)
  | _ => exact h1
theorem known_start {s : State} {args : Array Value} (hts : ∀ w ∈ lw_tbl, w.before args s = true) : ∃ (D : va_G) (cI cZ cL : ClassId), va_K D vwCl (zT cI cZ cL) s := by
  obtain ⟨c0, i0, k0⟩ := u_known (s := s) (args := args) (C := RX0) (T := TX0) (N := 6) (n := 6) hts inX0 (hts _ (wsL_law_in _ (by decide +kernel)))
  obtain ⟨c1, i1, k1⟩ := u_known (s := s) (args := args) (C := RX1) (T := TX1) (N := 17) (n := 17) hts inX1 (hts _ (wsL_law_in _ (by decide +kernel)))
  obtain ⟨c2, i2, k2⟩ := u_known (s := s) (args := args) (C := RX2) (T := TX2) (N := 22) (n := 22) hts inX2 (hts _ (wsL_law_in _ (by decide +kernel)))
  obtain ⟨cI, a1, b1⟩ := va_arr (s := s) (args := args) (ty := .int) (fun C q => by cases q) (hts _ (wsL_law_in _ (by decide +kernel)))
  obtain ⟨cZ, a2, b2⟩ := va_arr (s := s) (args := args) (ty := .boolean) (fun C q => by cases q) (hts _ (wsL_law_in _ (by decide +kernel)))
  obtain ⟨cL, a3, b3⟩ := va_arr (s := s) (args := args) (ty := .long) (fun C q => by cases q) (hts _ (wsL_law_in _ (by decide +kernel)))
  refine ⟨(fun k => match k with | 0 => c0 | 1 => c1 | _ => c2, fun k => match k with | 0 => i0 | 1 => i1 | _ => i2), cI, cZ, cL, fun k q hq => ?_, fun k q hq => ?_⟩
  · match k, hq with
    | 0, hq => cases hq; exact k0
    | 1, hq => cases hq; exact k1
    | 2, hq => cases hq; exact k2
    | k + 3, hq => exact absurd hq (by simp [vwCl])
  · match k, hq with
    | 0, hq => cases hq; exact ⟨a1, b1⟩
    | 1, hq => cases hq; exact ⟨a2, b2⟩
    | 2, hq => cases hq; exact ⟨a3, b3⟩
    | k + 3, hq => exact absurd hq (by simp [zT])
set_option maxHeartbeats 8000000 in
set_option maxRecDepth 100000 in
theorem whole_start {p : Program} {e : Env} {s : State} {m : MethodId} {below : List Frame} {meth : Method} {c : Code} (l : Launch) (hflags : l.flags = flags0) {b L : Nat} {xs : Nat → Int32} (hL : L ≤ 2048) (C0 : lw_At p s m meth c b L xs) : W p l e room_1 s m #[Value.ref b] below meth c s.heap [] 0 0 (lw_Z below #[Value.ref b] s) (entryFrame m ([Value.ref b] : List Value).toArray 7) := by
  obtain ⟨hx, hb, hret, hml, hown, hts, hX, hbl, hlk, hgv⟩ := C0
  have hl : l.stackTraces = false := by unfold Launch.stackTraces; rw [hflags]; decide +kernel
  obtain ⟨D, cI, cZ, cL, hK⟩ := known_start hts
  have hX1 := (hK.1 1 _ rfl).2.1
  have hA0 : ∀ a : Nat, a < s.heap.size → ¬ (s.heap.size ≤ a) := fun a h => by omega
  have X : zC p s m #[.ref b] c cL_law 7 RL wsL_law D (zT cI cZ cL) (fun q => s.heap.size ≤ q) := ⟨hx, hb, hml, hown, fun w hw => hts w (wsL_law_in w hw), hK, fun q h => h, zG_start hts hgv hX1, zH_start hts hgv hA0⟩
  have Z : zW p l e room_1 s m #[.ref b] below meth c 7 D (fun q => s.heap.size ≤ q) 0 0 (lw_Z below #[.ref b] s) [] 0 [(0, .ref b)] [] := by
    refine z_new (C := RX1) (T := TX1) (N := 17) X tyX1 1 tyX1_ok inlX1 (by decide +kernel) (by decide +kernel) (by decide +kernel) rfl [.null, .null, .null, .null, .null, .null, .null, .null, .null, .null, .null, .null, .int (iZ 0), .int (iZ 0), .int (iZ 0), .int (iZ 0), .int (iZ 0)] (by decide +kernel) ⟨Nat.le_of_ble_eq_true rfl, Nat.le_of_ble_eq_true rfl⟩ dL_law_0 (fun a1 => ?_)
    refine z_dup X rfl dL_law_3 ?_
    refine z_callIE X (c_X1_init l D cI cZ cL a1) (cwI 0 X.2.2.2.2.1 gL_law_X1_init rfl rfl rfl (X.2.2.2.2.1 _ (by decide +kernel)) (X.2.2.2.2.1 _ (by decide +kernel)) (X.2.2.2.2.1 _ (by decide +kernel)) rfl (by decide +kernel) ⟨Nat.le_of_ble_eq_true rfl, Nat.le_of_ble_eq_true rfl⟩) rfl [] [] rfl [.ref a1] rfl (Nat.le_of_ble_eq_true rfl) dL_law_4 ⟨Nat.le_of_ble_eq_true rfl, Nat.le_of_ble_eq_true rfl⟩ (fun w1 hw1 => ?_)
    obtain ⟨ad, rfl, rfl⟩ := hw1
    refine z_ws (ws' := Gw ad cI cZ f_new) (List.append_nil _) ?_
    refine z_astore_n X [1, 0] [(0, .ref b), (1, .ref (ad 0))] rfl (Nat.le_of_ble_eq_true rfl) dL_law_7 ?_
    refine z_new (C := RX2) (T := TX2) (N := 22) X tyX2 2 tyX2_ok inlX2 (by decide +kernel) (by decide +kernel) (by decide +kernel) rfl [.null, .null, .null, .null, .null, .null, .null, .null, .int (iZ 0), .int (iZ 0), .int (iZ 0), .int (iZ 0), .int (iZ 0), .null, .null, .null, .null, .int (iZ 0), .null, .null, .null, .int (iZ 0)] (by decide +kernel) ⟨Nat.le_of_ble_eq_true rfl, Nat.le_of_ble_eq_true rfl⟩ dL_law_8 (fun a2 => ?_)
    refine z_dup X rfl dL_law_11 ?_
    refine z_callIE X (c_X2_init l D cI cZ cL a2) (cwI 0 X.2.2.2.2.1 gL_law_X2_init rfl rfl rfl (X.2.2.2.2.1 _ (by decide +kernel)) (X.2.2.2.2.1 _ (by decide +kernel)) (X.2.2.2.2.1 _ (by decide +kernel)) rfl (by decide +kernel) ⟨Nat.le_of_ble_eq_true rfl, Nat.le_of_ble_eq_true rfl⟩) rfl (Gw ad cI cZ f_new) [] rfl [.ref a2] rfl (Nat.le_of_ble_eq_true rfl) dL_law_12 ⟨Nat.le_of_ble_eq_true rfl, Nat.le_of_ble_eq_true rfl⟩ (fun w2 hw2 => ?_)
    obtain ⟨ad2, rfl, rfl⟩ := hw2
    refine z_ws (ws' := Gw ad cI cZ f_new ++ Mw ad2 cI cZ m_new) (by rw [List.append_nil]) ?_
    refine z_astore_n X [1, 2, 0] [(0, .ref b), (1, .ref (ad 0)), (2, .ref (ad2 0))] rfl (Nat.le_of_ble_eq_true rfl) dL_law_15 ?_
    refine z_iconst X dL_law_16 ?_
    have uL : ∀ cA : ClassId, va_RA s cA .long → va_RA s cL .long → cA = cL := fun cA h1 h2 => Option.some.inj (Eq.trans (Eq.symm h1) h2)
    refine z_newa X (ty := .long) rfl (by decide +kernel) 2 rfl uL (a0 := (1, .inr (.inl (fun _ => 0)))) (N' := 1) (fun _ => rfl) (by decide) ⟨by decide, by decide⟩ rfl (Nat.le_of_ble_eq_true rfl) ⟨Nat.le_of_ble_eq_true rfl, Nat.le_of_ble_eq_true rfl⟩ dL_law_17 (fun ao => ?_)
    refine z_astore_n X [1, 2, 3, 0] [(0, .ref b), (1, .ref (ad 0)), (2, .ref (ad2 0)), (3, .ref ao)] rfl (Nat.le_of_ble_eq_true rfl) dL_law_19 ?_
    refine z_perm (ws' := Mw ad2 cI cZ m_new ++ (Gw ad cI cZ f_new ++ Ow ao cL (fun _ => 0))) [18, 19, 20, 21, 22, 23, 24, 25, 26, 27, 28, 29, 30, 31, 32, 33, 0, 1, 2, 3, 4, 5, 6, 7, 8, 9, 10, 11, 12, 13, 14, 15, 16, 17, 34] rfl rfl (by decide +kernel) ?_
    refine z_iconst X dL_law_20 ?_
    refine z_istore X [1, 2, 3, 4, 0] [(0, .ref b), (1, .ref (ad 0)), (2, .ref (ad2 0)), (3, .ref ao), (4, .int (iZ 0))] rfl (Nat.le_of_ble_eq_true rfl) dL_law_21 ?_
    exact law_loop l hl ad ad2 ao X hX hbl (hA0 b hbl) hL (fun q h => h) hret hlk 512 0 f_new m_new (fun _ => 0) _ _ RR_new (by omega) (by omega) (by omega) (Nat.le_of_ble_eq_true rfl) (Nat.le_of_ble_eq_true rfl)
  have hv := lv_entry ([Value.ref b] : List Value) (n := 7) (Nat.le_of_ble_eq_true rfl)
  rw [lg_entry_eq]
  exact Z s.heap [] _ (fun k q h => (by cases h)) ⟨fun i j p q h => (by cases h), fun k q h => (by cases h)⟩ va_S.rf hv
