/-- what the constructors leave -/
def z0 : Int → Int := fun _ => 0
def s_zero : GS := (fun _ _ => 0, fun j => match j with | 0 => 30 | 1 => 4 | _ => 0)
def f_newH : Int → GS → GS := fun h u => gA (gA (gA u 0 h 1) 3 h 10) 4 h 20
def f_newL : Int → GS → GS := fun k u => gA u 8 k 100
def f_new : GS := zfor 5 f_newL (zfor 6 f_newH s_zero)
def m_newH : Int → GS → GS := fun h u => gA (gA u 2 h 10) 4 h 20
def m_newL : Int → GS → GS := fun k u => gA u 3 k 100
def m_new : GS := zfor 5 m_newL (zfor 6 m_newH s_zero)
def ad18 (x0 x1 x2 x3 x4 x5 x6 x7 x8 x9 x10 x11 x12 x13 x14 x15 x16 x17 : Nat) : Nat → Nat := fun k => match k with
  | 0 => x0
  | 1 => x1
  | 2 => x2
  | 3 => x3
  | 4 => x4
  | 5 => x5
  | 6 => x6
  | 7 => x7
  | 8 => x8
  | 9 => x9
  | 10 => x10
  | 11 => x11
  | 12 => x12
  | 13 => x13
  | 14 => x14
  | 15 => x15
  | 16 => x16
  | _ => x17
def ad16 (x0 x1 x2 x3 x4 x5 x6 x7 x8 x9 x10 x11 x12 x13 x14 x15 : Nat) : Nat → Nat := fun k => match k with
  | 0 => x0
  | 1 => x1
  | 2 => x2
  | 3 => x3
  | 4 => x4
  | 5 => x5
  | 6 => x6
  | 7 => x7
  | 8 => x8
  | 9 => x9
  | 10 => x10
  | 11 => x11
  | 12 => x12
  | 13 => x13
  | 14 => x14
  | _ => x15
set_option maxHeartbeats 4000000 in
set_option maxRecDepth 100000 in
theorem c_X0_init (l : Launch) (D : va_G) (cI cZ cL : ClassId) (a : Nat) : zME l D (zT cI cZ cL) yX0_init wsX0_init ({ frames := 1, cells := 5, slots := 30, locals := 20 } : Room) [(a, .inr (0, [.null, .null, .null, .null, .null, .int (iZ 0)]))] [.ref a] (fun w => ∃ q1 q2 q3 q4 q5 : Nat, w = [(a, .inr (0, [.ref q1, .ref q2, .ref q3, .ref q4, .ref q5, .int (iZ 0)])), (q1, .inl (cI, 6, .inl (zF z0))), (q2, .inl (cI, 6, .inl (zF z0))), (q3, .inl (cI, 6, .inl (zF z0))), (q4, .inl (cI, 6, .inl (zF z0))), (q5, .inl (cI, 6, .inl (zF z0)))]) 5 30 := by
  refine z_me (cc := cX0_init) (maxL := 1) (ret := none) (by decide) rfl (Nat.le_of_ble_eq_true rfl) ?_
  intro p e s m below meth c A X hr hlk hin
  have hiX0 : ∀ w ∈ wsX00, w ∈ wsX0_init := by decide +kernel
  have uI : ∀ cA : ClassId, va_RA s cA .int → va_RA s cI .int → cA = cI := fun cA h1 h2 => Option.some.inj (Eq.trans (Eq.symm h1) h2)
  have uZ : ∀ cA : ClassId, va_RA s cA .boolean → va_RA s cZ .boolean → cA = cZ := fun cA h1 h2 => Option.some.inj (Eq.trans (Eq.symm h1) h2)
  refine z_sub (lv' := [(0, .ref a)]) [0] rfl ?_
  refine z_aload_n X 0 rfl dX0_init_0 ?_
  refine z_objInit X (by decide +kernel) (by decide +kernel) (by decide +kernel) ⟨Nat.le_of_ble_eq_true rfl, Nat.le_of_ble_eq_true rfl⟩ dX0_init_1 ?_
  refine z_aload_n X 0 rfl dX0_init_4 ?_
  refine z_bipush X (by decide) dX0_init_5 ?_
  refine z_newa X (ty := .int) rfl (by decide +kernel) 0 rfl uI (a0 := (6, .inl (zF z0))) (N' := 6) (fun _ => rfl) (by decide) ⟨by decide, by decide⟩ rfl (Nat.le_of_ble_eq_true rfl) ⟨Nat.le_of_ble_eq_true rfl, Nat.le_of_ble_eq_true rfl⟩ dX0_init_7 (fun q1 => ?_)
  refine z_putF (v := .ref q1) (ty := tyX0 0) X tyX0 0 0 0 ([(a, .inr (0, [.ref q1, .null, .null, .null, .null, .int (iZ 0)])), (q1, .inl (cI, 6, .inl (zF z0)))]) tyX0_ok nmX0 hiX0 rfl rfl (by decide) ⟨rfl, rfl, rfl, rfl⟩ (hin rfl) rfl (by decide +kernel) rfl rfl rfl (Nat.le_of_ble_eq_true rfl) rfl dX0_init_9 ?_
  refine z_aload_n X 0 rfl dX0_init_12 ?_
  refine z_bipush X (by decide) dX0_init_13 ?_
  refine z_newa X (ty := .int) rfl (by decide +kernel) 0 rfl uI (a0 := (6, .inl (zF z0))) (N' := 6) (fun _ => rfl) (by decide) ⟨by decide, by decide⟩ rfl (Nat.le_of_ble_eq_true rfl) ⟨Nat.le_of_ble_eq_true rfl, Nat.le_of_ble_eq_true rfl⟩ dX0_init_15 (fun q2 => ?_)
  refine z_putF (v := .ref q2) (ty := tyX0 1) X tyX0 0 0 1 ([(a, .inr (0, [.ref q1, .ref q2, .null, .null, .null, .int (iZ 0)])), (q1, .inl (cI, 6, .inl (zF z0))), (q2, .inl (cI, 6, .inl (zF z0)))]) tyX0_ok nmX0 hiX0 rfl rfl (by decide) ⟨rfl, rfl, rfl, rfl⟩ (hin rfl) rfl (by decide +kernel) rfl rfl rfl (Nat.le_of_ble_eq_true rfl) rfl dX0_init_17 ?_
  refine z_aload_n X 0 rfl dX0_init_20 ?_
  refine z_bipush X (by decide) dX0_init_21 ?_
  refine z_newa X (ty := .int) rfl (by decide +kernel) 0 rfl uI (a0 := (6, .inl (zF z0))) (N' := 6) (fun _ => rfl) (by decide) ⟨by decide, by decide⟩ rfl (Nat.le_of_ble_eq_true rfl) ⟨Nat.le_of_ble_eq_true rfl, Nat.le_of_ble_eq_true rfl⟩ dX0_init_23 (fun q3 => ?_)
  refine z_putF (v := .ref q3) (ty := tyX0 2) X tyX0 0 0 2 ([(a, .inr (0, [.ref q1, .ref q2, .ref q3, .null, .null, .int (iZ 0)])), (q1, .inl (cI, 6, .inl (zF z0))), (q2, .inl (cI, 6, .inl (zF z0))), (q3, .inl (cI, 6, .inl (zF z0)))]) tyX0_ok nmX0 hiX0 rfl rfl (by decide) ⟨rfl, rfl, rfl, rfl⟩ (hin rfl) rfl (by decide +kernel) rfl rfl rfl (Nat.le_of_ble_eq_true rfl) rfl dX0_init_25 ?_
  refine z_aload_n X 0 rfl dX0_init_28 ?_
  refine z_bipush X (by decide) dX0_init_29 ?_
  refine z_newa X (ty := .int) rfl (by decide +kernel) 0 rfl uI (a0 := (6, .inl (zF z0))) (N' := 6) (fun _ => rfl) (by decide) ⟨by decide, by decide⟩ rfl (Nat.le_of_ble_eq_true rfl) ⟨Nat.le_of_ble_eq_true rfl, Nat.le_of_ble_eq_true rfl⟩ dX0_init_31 (fun q4 => ?_)
  refine z_putF (v := .ref q4) (ty := tyX0 3) X tyX0 0 0 3 ([(a, .inr (0, [.ref q1, .ref q2, .ref q3, .ref q4, .null, .int (iZ 0)])), (q1, .inl (cI, 6, .inl (zF z0))), (q2, .inl (cI, 6, .inl (zF z0))), (q3, .inl (cI, 6, .inl (zF z0))), (q4, .inl (cI, 6, .inl (zF z0)))]) tyX0_ok nmX0 hiX0 rfl rfl (by decide) ⟨rfl, rfl, rfl, rfl⟩ (hin rfl) rfl (by decide +kernel) rfl rfl rfl (Nat.le_of_ble_eq_true rfl) rfl dX0_init_33 ?_
  refine z_aload_n X 0 rfl dX0_init_36 ?_
  refine z_bipush X (by decide) dX0_init_37 ?_
  refine z_newa X (ty := .int) rfl (by decide +kernel) 0 rfl uI (a0 := (6, .inl (zF z0))) (N' := 6) (fun _ => rfl) (by decide) ⟨by decide, by decide⟩ rfl (Nat.le_of_ble_eq_true rfl) ⟨Nat.le_of_ble_eq_true rfl, Nat.le_of_ble_eq_true rfl⟩ dX0_init_39 (fun q5 => ?_)
  refine z_putF (v := .ref q5) (ty := tyX0 4) X tyX0 0 0 4 ([(a, .inr (0, [.ref q1, .ref q2, .ref q3, .ref q4, .ref q5, .int (iZ 0)])), (q1, .inl (cI, 6, .inl (zF z0))), (q2, .inl (cI, 6, .inl (zF z0))), (q3, .inl (cI, 6, .inl (zF z0))), (q4, .inl (cI, 6, .inl (zF z0))), (q5, .inl (cI, 6, .inl (zF z0)))]) tyX0_ok nmX0 hiX0 rfl rfl (by decide) ⟨rfl, rfl, rfl, rfl⟩ (hin rfl) rfl (by decide +kernel) rfl rfl rfl (Nat.le_of_ble_eq_true rfl) rfl dX0_init_41 ?_
  refine z_aload_n X 0 rfl dX0_init_44 ?_
  refine z_iconst X dX0_init_45 ?_
  refine z_put (v := .int (iZ 0)) (ty := .int) X tyX0 0 0 5 ([(a, .inr (0, [.ref q1, .ref q2, .ref q3, .ref q4, .ref q5, .int (iZ 0)])), (q1, .inl (cI, 6, .inl (zF z0))), (q2, .inl (cI, 6, .inl (zF z0))), (q3, .inl (cI, 6, .inl (zF z0))), (q4, .inl (cI, 6, .inl (zF z0))), (q5, .inl (cI, 6, .inl (zF z0)))]) tyX0_ok nmX0 hiX0 rfl rfl (by decide) ⟨rfl, rfl, rfl, rfl⟩ (by decide +kernel) rfl rfl rfl (Nat.le_of_ble_eq_true rfl) rfl dX0_init_46 ?_
  exact z_vretE X hr hlk ⟨q1, q2, q3, q4, q5, rfl⟩ dX0_init_49
set_option maxHeartbeats 4000000 in
set_option maxRecDepth 100000 in
theorem c_X1_init (l : Launch) (D : va_G) (cI cZ cL : ClassId) (a : Nat) : zME l D (zT cI cZ cL) yX1_init wsX1_init ({ frames := 2, cells := 17, slots := 100, locals := 40 } : Room) [(a, .inr (1, [.null, .null, .null, .null, .null, .null, .null, .null, .null, .null, .null, .null, .int (iZ 0), .int (iZ 0), .int (iZ 0), .int (iZ 0), .int (iZ 0)]))] [.ref a] (fun w => ∃ ad : Nat → Nat, ad 0 = a ∧ w = Gw ad cI cZ f_new) 17 100 := by
  refine z_me (cc := cX1_init) (maxL := 2) (ret := none) (by decide) rfl (Nat.le_of_ble_eq_true rfl) ?_
  intro p e s m below meth c A X hr hlk hin
  have hiX0 : ∀ w ∈ wsX00, w ∈ wsX1_init := by decide +kernel
  have hiX1 : ∀ w ∈ wsX10, w ∈ wsX1_init := by decide +kernel
  have uI : ∀ cA : ClassId, va_RA s cA .int → va_RA s cI .int → cA = cI := fun cA h1 h2 => Option.some.inj (Eq.trans (Eq.symm h1) h2)
  have uZ : ∀ cA : ClassId, va_RA s cA .boolean → va_RA s cZ .boolean → cA = cZ := fun cA h1 h2 => Option.some.inj (Eq.trans (Eq.symm h1) h2)
  have K : ∀ ad : Nat → Nat, ad 0 = a → zW p l e ({ frames := 2, cells := 17, slots := 100, locals := 40 } : Room) s m ([.ref a] : List Value).toArray below meth c 2 D A 17 100 (MQ below (zPE D (zT cI cZ cL) (fun w => ∃ ad : Nat → Nat, ad 0 = a ∧ w = Gw ad cI cZ f_new) A) ([.ref a] : List Value).toArray s 17 100 A) (Gw ad cI cZ s_zero) 127 [(0, .ref (ad 0))] [] := by
    intro ad had
    refine z_iconst X dX1_init_127 ?_
    refine z_istore_n X [1, 0] [(0, .ref (ad 0)), (1, .int (iZ 0))] rfl (Nat.le_of_ble_eq_true rfl) dX1_init_128 ?_
    refine zfor_ind 6 6 (rfl) (f_newH) s_zero (fun (i_129 : Int) (a_129 : GS) => zW p l e ({ frames := 2, cells := 17, slots := 100, locals := 40 } : Room) s m ([.ref a] : List Value).toArray below meth c 2 D A 17 100 (MQ below (zPE D (zT cI cZ cL) (fun w => ∃ ad : Nat → Nat, ad 0 = a ∧ w = Gw ad cI cZ f_new) A) ([.ref a] : List Value).toArray s 17 100 A) (Gw ad cI cZ a_129) 129 [(0, .ref (ad 0)), (1, .int (iZ i_129))] []) ?_ ?_
    · intro a_129 ha_129
      refine z_iload_n X 1 rfl dX1_init_129 ?_
      refine z_bipush X (by decide) dX1_init_130 ?_
      refine z_icmp_ge (tgt := 164) X ⟨by omega, by omega⟩ ⟨by omega, by omega⟩ (by decide) dX1_init_132 (fun c_1 => ?_) (fun c_1 => ?_)
      · skip
        refine z_iconst X dX1_init_164 ?_
        refine z_istore_n X [1, 0] [(0, .ref (ad 0)), (1, .int (iZ 0))] rfl (Nat.le_of_ble_eq_true rfl) dX1_init_165 ?_
        refine zfor_ind 5 5 (rfl) (f_newL) a_129 (fun (i_166 : Int) (a_166 : GS) => zW p l e ({ frames := 2, cells := 17, slots := 100, locals := 40 } : Room) s m ([.ref a] : List Value).toArray below meth c 2 D A 17 100 (MQ below (zPE D (zT cI cZ cL) (fun w => ∃ ad : Nat → Nat, ad 0 = a ∧ w = Gw ad cI cZ f_new) A) ([.ref a] : List Value).toArray s 17 100 A) (Gw ad cI cZ a_166) 166 [(0, .ref (ad 0)), (1, .int (iZ i_166))] []) ?_ ?_
        · intro a_166 ha_166
          refine z_iload_n X 1 rfl dX1_init_166 ?_
          refine z_iconst X dX1_init_167 ?_
          refine z_icmp_ge (tgt := 185) X ⟨by omega, by omega⟩ ⟨by omega, by omega⟩ (by decide) dX1_init_168 (fun c_2 => ?_) (fun c_2 => ?_)
          · skip
            exact z_vretE X hr hlk ⟨ad, had, congrArg (Gw ad cI cZ) (by rw [ha_166, ha_129]; rfl)⟩ dX1_init_185
          · exact absurd c_2 (by omega)
        · intro i_166 k_166 a_166 hi_166 h0i_166 h1i_166 ha_166 hk_166
          refine z_iload_n X 1 rfl dX1_init_166 ?_
          refine z_iconst X dX1_init_167 ?_
          refine z_icmp_ge (tgt := 185) X ⟨by omega, by omega⟩ ⟨by omega, by omega⟩ (by decide) dX1_init_168 (fun c_3 => ?_) (fun c_3 => ?_)
          · exact absurd c_3 (by omega)
          · skip
            refine z_aload_n X 0 rfl dX1_init_171 ?_
            refine z_get (v := .ref (ad 9)) X 1 0 8 hiX1 rfl rfl (by decide) ⟨rfl, rfl, rfl⟩ (by decide +kernel) rfl dX1_init_172 ?_
            refine z_iload_n X 1 rfl dX1_init_175 ?_
            refine z_bipush X (by decide) dX1_init_176 ?_
            refine z_iast (g := a_166.1 8) X 9 0 (Gw ad cI cZ (gA a_166 8 i_166 100)) rfl rfl (by omega) (by omega) ⟨by omega, by omega⟩ rfl dX1_init_178 ?_
            refine z_iinc X 1 [1, 0] [(0, .ref (ad 0)), (1, .int (iZ (i_166 + 1)))] rfl rfl (Nat.le_of_ble_eq_true rfl) dX1_init_179 ?_
            refine z_goto (tgt := 166) X (by decide) dX1_init_182 ?_
            exact z_eq (congrArg (Gw ad cI cZ) (show f_newL i_166 a_166 = gA a_166 8 i_166 100 from rfl)) rfl hk_166
      · exact absurd c_1 (by omega)
    · intro i_129 k_129 a_129 hi_129 h0i_129 h1i_129 ha_129 hk_129
      refine z_iload_n X 1 rfl dX1_init_129 ?_
      refine z_bipush X (by decide) dX1_init_130 ?_
      refine z_icmp_ge (tgt := 164) X ⟨by omega, by omega⟩ ⟨by omega, by omega⟩ (by decide) dX1_init_132 (fun c_4 => ?_) (fun c_4 => ?_)
      · exact absurd c_4 (by omega)
      · skip
        refine z_aload_n X 0 rfl dX1_init_135 ?_
        refine z_get (v := .ref (ad 1)) X 1 0 0 hiX1 rfl rfl (by decide) ⟨rfl, rfl, rfl⟩ (by decide +kernel) rfl dX1_init_136 ?_
        refine z_iload_n X 1 rfl dX1_init_139 ?_
        refine z_iconst X dX1_init_140 ?_
        refine z_zast (g := a_129.1 0) X 1 1 (Gw ad cI cZ (gA a_129 0 i_129 1)) rfl rfl (by omega) (by omega) ⟨by omega, by omega⟩ (by omega) rfl dX1_init_141 ?_
        refine z_aload_n X 0 rfl dX1_init_142 ?_
        refine z_get (v := .ref (ad 4)) X 1 0 3 hiX1 rfl rfl (by decide) ⟨rfl, rfl, rfl⟩ (by decide +kernel) rfl dX1_init_143 ?_
        refine z_iload_n X 1 rfl dX1_init_146 ?_
        refine z_bipush X (by decide) dX1_init_147 ?_
        refine z_iast (g := a_129.1 3) X 4 0 (Gw ad cI cZ (gA (gA a_129 0 i_129 1) 3 i_129 10)) rfl rfl (by omega) (by omega) ⟨by omega, by omega⟩ rfl dX1_init_149 ?_
        refine z_aload_n X 0 rfl dX1_init_150 ?_
        refine z_get (v := .ref (ad 5)) X 1 0 4 hiX1 rfl rfl (by decide) ⟨rfl, rfl, rfl⟩ (by decide +kernel) rfl dX1_init_151 ?_
        refine z_iload_n X 1 rfl dX1_init_154 ?_
        refine z_bipush X (by decide) dX1_init_155 ?_
        refine z_iast (g := a_129.1 4) X 5 0 (Gw ad cI cZ (gA (gA (gA a_129 0 i_129 1) 3 i_129 10) 4 i_129 20)) rfl rfl (by omega) (by omega) ⟨by omega, by omega⟩ rfl dX1_init_157 ?_
        refine z_iinc X 1 [1, 0] [(0, .ref (ad 0)), (1, .int (iZ (i_129 + 1)))] rfl rfl (Nat.le_of_ble_eq_true rfl) dX1_init_158 ?_
        refine z_goto (tgt := 129) X (by decide) dX1_init_161 ?_
        exact z_eq (congrArg (Gw ad cI cZ) (show f_newH i_129 a_129 = gA (gA (gA a_129 0 i_129 1) 3 i_129 10) 4 i_129 20 from rfl)) rfl hk_129
  refine z_sub (lv' := [(0, .ref a)]) [0] rfl ?_
  refine z_aload_n X 0 rfl dX1_init_0 ?_
  refine z_objInit X (by decide +kernel) (by decide +kernel) (by decide +kernel) ⟨Nat.le_of_ble_eq_true rfl, Nat.le_of_ble_eq_true rfl⟩ dX1_init_1 ?_
  refine z_aload_n X 0 rfl dX1_init_4 ?_
  refine z_bipush X (by decide) dX1_init_5 ?_
  refine z_newa X (ty := .boolean) rfl (by decide +kernel) 1 rfl uZ (a0 := (6, .inl (zF z0))) (N' := 6) (fun _ => rfl) (by decide) ⟨by decide, by decide⟩ rfl (Nat.le_of_ble_eq_true rfl) ⟨Nat.le_of_ble_eq_true rfl, Nat.le_of_ble_eq_true rfl⟩ dX1_init_7 (fun q1 => ?_)
  refine z_putF (v := .ref q1) (ty := tyX1 0) X tyX1 1 0 0 ([(a, .inr (1, [.ref q1, .null, .null, .null, .null, .null, .null, .null, .null, .null, .null, .null, .int (iZ 0), .int (iZ 0), .int (iZ 0), .int (iZ 0), .int (iZ 0)])), (q1, .inl (cZ, 6, .inl (zF z0)))]) tyX1_ok nmX1 hiX1 rfl rfl (by decide) ⟨rfl, rfl, rfl, rfl⟩ (hin rfl) rfl (by decide +kernel) rfl rfl rfl (Nat.le_of_ble_eq_true rfl) rfl dX1_init_9 ?_
  refine z_aload_n X 0 rfl dX1_init_12 ?_
  refine z_bipush X (by decide) dX1_init_13 ?_
  refine z_newa X (ty := .int) rfl (by decide +kernel) 0 rfl uI (a0 := (6, .inl (zF z0))) (N' := 6) (fun _ => rfl) (by decide) ⟨by decide, by decide⟩ rfl (Nat.le_of_ble_eq_true rfl) ⟨Nat.le_of_ble_eq_true rfl, Nat.le_of_ble_eq_true rfl⟩ dX1_init_15 (fun q2 => ?_)
  refine z_putF (v := .ref q2) (ty := tyX1 1) X tyX1 1 0 1 ([(a, .inr (1, [.ref q1, .ref q2, .null, .null, .null, .null, .null, .null, .null, .null, .null, .null, .int (iZ 0), .int (iZ 0), .int (iZ 0), .int (iZ 0), .int (iZ 0)])), (q1, .inl (cZ, 6, .inl (zF z0))), (q2, .inl (cI, 6, .inl (zF z0)))]) tyX1_ok nmX1 hiX1 rfl rfl (by decide) ⟨rfl, rfl, rfl, rfl⟩ (hin rfl) rfl (by decide +kernel) rfl rfl rfl (Nat.le_of_ble_eq_true rfl) rfl dX1_init_17 ?_
  refine z_aload_n X 0 rfl dX1_init_20 ?_
  refine z_bipush X (by decide) dX1_init_21 ?_
  refine z_newa X (ty := .int) rfl (by decide +kernel) 0 rfl uI (a0 := (6, .inl (zF z0))) (N' := 6) (fun _ => rfl) (by decide) ⟨by decide, by decide⟩ rfl (Nat.le_of_ble_eq_true rfl) ⟨Nat.le_of_ble_eq_true rfl, Nat.le_of_ble_eq_true rfl⟩ dX1_init_23 (fun q3 => ?_)
  refine z_putF (v := .ref q3) (ty := tyX1 2) X tyX1 1 0 2 ([(a, .inr (1, [.ref q1, .ref q2, .ref q3, .null, .null, .null, .null, .null, .null, .null, .null, .null, .int (iZ 0), .int (iZ 0), .int (iZ 0), .int (iZ 0), .int (iZ 0)])), (q1, .inl (cZ, 6, .inl (zF z0))), (q2, .inl (cI, 6, .inl (zF z0))), (q3, .inl (cI, 6, .inl (zF z0)))]) tyX1_ok nmX1 hiX1 rfl rfl (by decide) ⟨rfl, rfl, rfl, rfl⟩ (hin rfl) rfl (by decide +kernel) rfl rfl rfl (Nat.le_of_ble_eq_true rfl) rfl dX1_init_25 ?_
  refine z_aload_n X 0 rfl dX1_init_28 ?_
  refine z_bipush X (by decide) dX1_init_29 ?_
  refine z_newa X (ty := .int) rfl (by decide +kernel) 0 rfl uI (a0 := (6, .inl (zF z0))) (N' := 6) (fun _ => rfl) (by decide) ⟨by decide, by decide⟩ rfl (Nat.le_of_ble_eq_true rfl) ⟨Nat.le_of_ble_eq_true rfl, Nat.le_of_ble_eq_true rfl⟩ dX1_init_31 (fun q4 => ?_)
  refine z_putF (v := .ref q4) (ty := tyX1 3) X tyX1 1 0 3 ([(a, .inr (1, [.ref q1, .ref q2, .ref q3, .ref q4, .null, .null, .null, .null, .null, .null, .null, .null, .int (iZ 0), .int (iZ 0), .int (iZ 0), .int (iZ 0), .int (iZ 0)])), (q1, .inl (cZ, 6, .inl (zF z0))), (q2, .inl (cI, 6, .inl (zF z0))), (q3, .inl (cI, 6, .inl (zF z0))), (q4, .inl (cI, 6, .inl (zF z0)))]) tyX1_ok nmX1 hiX1 rfl rfl (by decide) ⟨rfl, rfl, rfl, rfl⟩ (hin rfl) rfl (by decide +kernel) rfl rfl rfl (Nat.le_of_ble_eq_true rfl) rfl dX1_init_33 ?_
  refine z_aload_n X 0 rfl dX1_init_36 ?_
  refine z_bipush X (by decide) dX1_init_37 ?_
  refine z_newa X (ty := .int) rfl (by decide +kernel) 0 rfl uI (a0 := (6, .inl (zF z0))) (N' := 6) (fun _ => rfl) (by decide) ⟨by decide, by decide⟩ rfl (Nat.le_of_ble_eq_true rfl) ⟨Nat.le_of_ble_eq_true rfl, Nat.le_of_ble_eq_true rfl⟩ dX1_init_39 (fun q5 => ?_)
  refine z_putF (v := .ref q5) (ty := tyX1 4) X tyX1 1 0 4 ([(a, .inr (1, [.ref q1, .ref q2, .ref q3, .ref q4, .ref q5, .null, .null, .null, .null, .null, .null, .null, .int (iZ 0), .int (iZ 0), .int (iZ 0), .int (iZ 0), .int (iZ 0)])), (q1, .inl (cZ, 6, .inl (zF z0))), (q2, .inl (cI, 6, .inl (zF z0))), (q3, .inl (cI, 6, .inl (zF z0))), (q4, .inl (cI, 6, .inl (zF z0))), (q5, .inl (cI, 6, .inl (zF z0)))]) tyX1_ok nmX1 hiX1 rfl rfl (by decide) ⟨rfl, rfl, rfl, rfl⟩ (hin rfl) rfl (by decide +kernel) rfl rfl rfl (Nat.le_of_ble_eq_true rfl) rfl dX1_init_41 ?_
  refine z_aload_n X 0 rfl dX1_init_44 ?_
  refine z_bipush X (by decide) dX1_init_45 ?_
  refine z_newa X (ty := .int) rfl (by decide +kernel) 0 rfl uI (a0 := (6, .inl (zF z0))) (N' := 6) (fun _ => rfl) (by decide) ⟨by decide, by decide⟩ rfl (Nat.le_of_ble_eq_true rfl) ⟨Nat.le_of_ble_eq_true rfl, Nat.le_of_ble_eq_true rfl⟩ dX1_init_47 (fun q6 => ?_)
  refine z_putF (v := .ref q6) (ty := tyX1 5) X tyX1 1 0 5 ([(a, .inr (1, [.ref q1, .ref q2, .ref q3, .ref q4, .ref q5, .ref q6, .null, .null, .null, .null, .null, .null, .int (iZ 0), .int (iZ 0), .int (iZ 0), .int (iZ 0), .int (iZ 0)])), (q1, .inl (cZ, 6, .inl (zF z0))), (q2, .inl (cI, 6, .inl (zF z0))), (q3, .inl (cI, 6, .inl (zF z0))), (q4, .inl (cI, 6, .inl (zF z0))), (q5, .inl (cI, 6, .inl (zF z0))), (q6, .inl (cI, 6, .inl (zF z0)))]) tyX1_ok nmX1 hiX1 rfl rfl (by decide) ⟨rfl, rfl, rfl, rfl⟩ (hin rfl) rfl (by decide +kernel) rfl rfl rfl (Nat.le_of_ble_eq_true rfl) rfl dX1_init_49 ?_
  refine z_aload_n X 0 rfl dX1_init_52 ?_
  refine z_bipush X (by decide) dX1_init_53 ?_
  refine z_newa X (ty := .int) rfl (by decide +kernel) 0 rfl uI (a0 := (6, .inl (zF z0))) (N' := 6) (fun _ => rfl) (by decide) ⟨by decide, by decide⟩ rfl (Nat.le_of_ble_eq_true rfl) ⟨Nat.le_of_ble_eq_true rfl, Nat.le_of_ble_eq_true rfl⟩ dX1_init_55 (fun q7 => ?_)
  refine z_putF (v := .ref q7) (ty := tyX1 6) X tyX1 1 0 6 ([(a, .inr (1, [.ref q1, .ref q2, .ref q3, .ref q4, .ref q5, .ref q6, .ref q7, .null, .null, .null, .null, .null, .int (iZ 0), .int (iZ 0), .int (iZ 0), .int (iZ 0), .int (iZ 0)])), (q1, .inl (cZ, 6, .inl (zF z0))), (q2, .inl (cI, 6, .inl (zF z0))), (q3, .inl (cI, 6, .inl (zF z0))), (q4, .inl (cI, 6, .inl (zF z0))), (q5, .inl (cI, 6, .inl (zF z0))), (q6, .inl (cI, 6, .inl (zF z0))), (q7, .inl (cI, 6, .inl (zF z0)))]) tyX1_ok nmX1 hiX1 rfl rfl (by decide) ⟨rfl, rfl, rfl, rfl⟩ (hin rfl) rfl (by decide +kernel) rfl rfl rfl (Nat.le_of_ble_eq_true rfl) rfl dX1_init_57 ?_
  refine z_aload_n X 0 rfl dX1_init_60 ?_
  refine z_bipush X (by decide) dX1_init_61 ?_
  refine z_newa X (ty := .int) rfl (by decide +kernel) 0 rfl uI (a0 := (6, .inl (zF z0))) (N' := 6) (fun _ => rfl) (by decide) ⟨by decide, by decide⟩ rfl (Nat.le_of_ble_eq_true rfl) ⟨Nat.le_of_ble_eq_true rfl, Nat.le_of_ble_eq_true rfl⟩ dX1_init_63 (fun q8 => ?_)
  refine z_putF (v := .ref q8) (ty := tyX1 7) X tyX1 1 0 7 ([(a, .inr (1, [.ref q1, .ref q2, .ref q3, .ref q4, .ref q5, .ref q6, .ref q7, .ref q8, .null, .null, .null, .null, .int (iZ 0), .int (iZ 0), .int (iZ 0), .int (iZ 0), .int (iZ 0)])), (q1, .inl (cZ, 6, .inl (zF z0))), (q2, .inl (cI, 6, .inl (zF z0))), (q3, .inl (cI, 6, .inl (zF z0))), (q4, .inl (cI, 6, .inl (zF z0))), (q5, .inl (cI, 6, .inl (zF z0))), (q6, .inl (cI, 6, .inl (zF z0))), (q7, .inl (cI, 6, .inl (zF z0))), (q8, .inl (cI, 6, .inl (zF z0)))]) tyX1_ok nmX1 hiX1 rfl rfl (by decide) ⟨rfl, rfl, rfl, rfl⟩ (hin rfl) rfl (by decide +kernel) rfl rfl rfl (Nat.le_of_ble_eq_true rfl) rfl dX1_init_65 ?_
  refine z_aload_n X 0 rfl dX1_init_68 ?_
  refine z_iconst X dX1_init_69 ?_
  refine z_newa X (ty := .int) rfl (by decide +kernel) 0 rfl uI (a0 := (5, .inl (zF z0))) (N' := 5) (fun _ => rfl) (by decide) ⟨by decide, by decide⟩ rfl (Nat.le_of_ble_eq_true rfl) ⟨Nat.le_of_ble_eq_true rfl, Nat.le_of_ble_eq_true rfl⟩ dX1_init_70 (fun q9 => ?_)
  refine z_putF (v := .ref q9) (ty := tyX1 8) X tyX1 1 0 8 ([(a, .inr (1, [.ref q1, .ref q2, .ref q3, .ref q4, .ref q5, .ref q6, .ref q7, .ref q8, .ref q9, .null, .null, .null, .int (iZ 0), .int (iZ 0), .int (iZ 0), .int (iZ 0), .int (iZ 0)])), (q1, .inl (cZ, 6, .inl (zF z0))), (q2, .inl (cI, 6, .inl (zF z0))), (q3, .inl (cI, 6, .inl (zF z0))), (q4, .inl (cI, 6, .inl (zF z0))), (q5, .inl (cI, 6, .inl (zF z0))), (q6, .inl (cI, 6, .inl (zF z0))), (q7, .inl (cI, 6, .inl (zF z0))), (q8, .inl (cI, 6, .inl (zF z0))), (q9, .inl (cI, 5, .inl (zF z0)))]) tyX1_ok nmX1 hiX1 rfl rfl (by decide) ⟨rfl, rfl, rfl, rfl⟩ (hin rfl) rfl (by decide +kernel) rfl rfl rfl (Nat.le_of_ble_eq_true rfl) rfl dX1_init_72 ?_
  refine z_aload_n X 0 rfl dX1_init_75 ?_
  refine z_iconst X dX1_init_76 ?_
  refine z_newa X (ty := .int) rfl (by decide +kernel) 0 rfl uI (a0 := (5, .inl (zF z0))) (N' := 5) (fun _ => rfl) (by decide) ⟨by decide, by decide⟩ rfl (Nat.le_of_ble_eq_true rfl) ⟨Nat.le_of_ble_eq_true rfl, Nat.le_of_ble_eq_true rfl⟩ dX1_init_77 (fun q10 => ?_)
  refine z_putF (v := .ref q10) (ty := tyX1 9) X tyX1 1 0 9 ([(a, .inr (1, [.ref q1, .ref q2, .ref q3, .ref q4, .ref q5, .ref q6, .ref q7, .ref q8, .ref q9, .ref q10, .null, .null, .int (iZ 0), .int (iZ 0), .int (iZ 0), .int (iZ 0), .int (iZ 0)])), (q1, .inl (cZ, 6, .inl (zF z0))), (q2, .inl (cI, 6, .inl (zF z0))), (q3, .inl (cI, 6, .inl (zF z0))), (q4, .inl (cI, 6, .inl (zF z0))), (q5, .inl (cI, 6, .inl (zF z0))), (q6, .inl (cI, 6, .inl (zF z0))), (q7, .inl (cI, 6, .inl (zF z0))), (q8, .inl (cI, 6, .inl (zF z0))), (q9, .inl (cI, 5, .inl (zF z0))), (q10, .inl (cI, 5, .inl (zF z0)))]) tyX1_ok nmX1 hiX1 rfl rfl (by decide) ⟨rfl, rfl, rfl, rfl⟩ (hin rfl) rfl (by decide +kernel) rfl rfl rfl (Nat.le_of_ble_eq_true rfl) rfl dX1_init_79 ?_
  refine z_aload_n X 0 rfl dX1_init_82 ?_
  refine z_bipush X (by decide) dX1_init_83 ?_
  refine z_newa X (ty := .int) rfl (by decide +kernel) 0 rfl uI (a0 := (6, .inl (zF z0))) (N' := 6) (fun _ => rfl) (by decide) ⟨by decide, by decide⟩ rfl (Nat.le_of_ble_eq_true rfl) ⟨Nat.le_of_ble_eq_true rfl, Nat.le_of_ble_eq_true rfl⟩ dX1_init_85 (fun q11 => ?_)
  refine z_putF (v := .ref q11) (ty := tyX1 10) X tyX1 1 0 10 ([(a, .inr (1, [.ref q1, .ref q2, .ref q3, .ref q4, .ref q5, .ref q6, .ref q7, .ref q8, .ref q9, .ref q10, .ref q11, .null, .int (iZ 0), .int (iZ 0), .int (iZ 0), .int (iZ 0), .int (iZ 0)])), (q1, .inl (cZ, 6, .inl (zF z0))), (q2, .inl (cI, 6, .inl (zF z0))), (q3, .inl (cI, 6, .inl (zF z0))), (q4, .inl (cI, 6, .inl (zF z0))), (q5, .inl (cI, 6, .inl (zF z0))), (q6, .inl (cI, 6, .inl (zF z0))), (q7, .inl (cI, 6, .inl (zF z0))), (q8, .inl (cI, 6, .inl (zF z0))), (q9, .inl (cI, 5, .inl (zF z0))), (q10, .inl (cI, 5, .inl (zF z0))), (q11, .inl (cI, 6, .inl (zF z0)))]) tyX1_ok nmX1 hiX1 rfl rfl (by decide) ⟨rfl, rfl, rfl, rfl⟩ (hin rfl) rfl (by decide +kernel) rfl rfl rfl (Nat.le_of_ble_eq_true rfl) rfl dX1_init_87 ?_
  refine z_aload_n X 0 rfl dX1_init_90 ?_
  refine z_new X tyX0 0 tyX0_ok hiX0 (by decide +kernel) (by decide +kernel) (by decide +kernel) rfl [.null, .null, .null, .null, .null, .int (iZ 0)] (by decide +kernel) ⟨Nat.le_of_ble_eq_true rfl, Nat.le_of_ble_eq_true rfl⟩ dX1_init_91 (fun q12 => ?_)
  refine z_dup X rfl dX1_init_94 ?_
  refine z_callINE X (c_X0_init l D cI cZ cL q12) ⟨va_cnB 0 X.2.2.2.2.1 gX1_init_X0_init_n46 rfl rfl rfl X.2.2.2.2.2.2.2.1.m46 (X.2.2.2.2.1 _ (by decide +kernel)) (by decide +kernel) ⟨Nat.le_of_ble_eq_true rfl, Nat.le_of_ble_eq_true rfl⟩, rfl, X.2.2.2.2.1 _ (by decide +kernel)⟩ rfl [(a, .inr (1, [.ref q1, .ref q2, .ref q3, .ref q4, .ref q5, .ref q6, .ref q7, .ref q8, .ref q9, .ref q10, .ref q11, .null, .int (iZ 0), .int (iZ 0), .int (iZ 0), .int (iZ 0), .int (iZ 0)])), (q1, .inl (cZ, 6, .inl (zF z0))), (q2, .inl (cI, 6, .inl (zF z0))), (q3, .inl (cI, 6, .inl (zF z0))), (q4, .inl (cI, 6, .inl (zF z0))), (q5, .inl (cI, 6, .inl (zF z0))), (q6, .inl (cI, 6, .inl (zF z0))), (q7, .inl (cI, 6, .inl (zF z0))), (q8, .inl (cI, 6, .inl (zF z0))), (q9, .inl (cI, 5, .inl (zF z0))), (q10, .inl (cI, 5, .inl (zF z0))), (q11, .inl (cI, 6, .inl (zF z0)))] [] rfl [.ref q12, .ref a] rfl (Nat.le_of_ble_eq_true rfl) dX1_init_95 ⟨Nat.le_of_ble_eq_true rfl, Nat.le_of_ble_eq_true rfl⟩ (fun w hw => ?_)
  obtain ⟨b1, b2, b3, b4, b5, rfl⟩ := hw
  refine z_ws (ws' := [(a, .inr (1, [.ref q1, .ref q2, .ref q3, .ref q4, .ref q5, .ref q6, .ref q7, .ref q8, .ref q9, .ref q10, .ref q11, .null, .int (iZ 0), .int (iZ 0), .int (iZ 0), .int (iZ 0), .int (iZ 0)])), (q1, .inl (cZ, 6, .inl (zF z0))), (q2, .inl (cI, 6, .inl (zF z0))), (q3, .inl (cI, 6, .inl (zF z0))), (q4, .inl (cI, 6, .inl (zF z0))), (q5, .inl (cI, 6, .inl (zF z0))), (q6, .inl (cI, 6, .inl (zF z0))), (q7, .inl (cI, 6, .inl (zF z0))), (q8, .inl (cI, 6, .inl (zF z0))), (q9, .inl (cI, 5, .inl (zF z0))), (q10, .inl (cI, 5, .inl (zF z0))), (q11, .inl (cI, 6, .inl (zF z0))), (q12, .inr (0, [.ref b1, .ref b2, .ref b3, .ref b4, .ref b5, .int (iZ 0)])), (b1, .inl (cI, 6, .inl (zF z0))), (b2, .inl (cI, 6, .inl (zF z0))), (b3, .inl (cI, 6, .inl (zF z0))), (b4, .inl (cI, 6, .inl (zF z0))), (b5, .inl (cI, 6, .inl (zF z0)))]) rfl ?_
  refine z_putF (v := .ref q12) (ty := tyX1 11) X tyX1 1 0 11 ([(a, .inr (1, [.ref q1, .ref q2, .ref q3, .ref q4, .ref q5, .ref q6, .ref q7, .ref q8, .ref q9, .ref q10, .ref q11, .ref q12, .int (iZ 0), .int (iZ 0), .int (iZ 0), .int (iZ 0), .int (iZ 0)])), (q1, .inl (cZ, 6, .inl (zF z0))), (q2, .inl (cI, 6, .inl (zF z0))), (q3, .inl (cI, 6, .inl (zF z0))), (q4, .inl (cI, 6, .inl (zF z0))), (q5, .inl (cI, 6, .inl (zF z0))), (q6, .inl (cI, 6, .inl (zF z0))), (q7, .inl (cI, 6, .inl (zF z0))), (q8, .inl (cI, 6, .inl (zF z0))), (q9, .inl (cI, 5, .inl (zF z0))), (q10, .inl (cI, 5, .inl (zF z0))), (q11, .inl (cI, 6, .inl (zF z0))), (q12, .inr (0, [.ref b1, .ref b2, .ref b3, .ref b4, .ref b5, .int (iZ 0)])), (b1, .inl (cI, 6, .inl (zF z0))), (b2, .inl (cI, 6, .inl (zF z0))), (b3, .inl (cI, 6, .inl (zF z0))), (b4, .inl (cI, 6, .inl (zF z0))), (b5, .inl (cI, 6, .inl (zF z0)))]) tyX1_ok nmX1 hiX1 rfl rfl (by decide) ⟨rfl, rfl, rfl, rfl⟩ (hin rfl) rfl (by decide +kernel) rfl rfl rfl (Nat.le_of_ble_eq_true rfl) rfl dX1_init_98 ?_
  refine z_aload_n X 0 rfl dX1_init_101 ?_
  refine z_bipush X (by decide) dX1_init_102 ?_
  refine z_put (v := .int (iZ 30)) (ty := .int) X tyX1 1 0 12 ([(a, .inr (1, [.ref q1, .ref q2, .ref q3, .ref q4, .ref q5, .ref q6, .ref q7, .ref q8, .ref q9, .ref q10, .ref q11, .ref q12, .int (iZ 30), .int (iZ 0), .int (iZ 0), .int (iZ 0), .int (iZ 0)])), (q1, .inl (cZ, 6, .inl (zF z0))), (q2, .inl (cI, 6, .inl (zF z0))), (q3, .inl (cI, 6, .inl (zF z0))), (q4, .inl (cI, 6, .inl (zF z0))), (q5, .inl (cI, 6, .inl (zF z0))), (q6, .inl (cI, 6, .inl (zF z0))), (q7, .inl (cI, 6, .inl (zF z0))), (q8, .inl (cI, 6, .inl (zF z0))), (q9, .inl (cI, 5, .inl (zF z0))), (q10, .inl (cI, 5, .inl (zF z0))), (q11, .inl (cI, 6, .inl (zF z0))), (q12, .inr (0, [.ref b1, .ref b2, .ref b3, .ref b4, .ref b5, .int (iZ 0)])), (b1, .inl (cI, 6, .inl (zF z0))), (b2, .inl (cI, 6, .inl (zF z0))), (b3, .inl (cI, 6, .inl (zF z0))), (b4, .inl (cI, 6, .inl (zF z0))), (b5, .inl (cI, 6, .inl (zF z0)))]) tyX1_ok nmX1 hiX1 rfl rfl (by decide) ⟨rfl, rfl, rfl, rfl⟩ (by decide +kernel) rfl rfl rfl (Nat.le_of_ble_eq_true rfl) rfl dX1_init_104 ?_
  refine z_aload_n X 0 rfl dX1_init_107 ?_
  refine z_iconst X dX1_init_108 ?_
  refine z_put (v := .int (iZ 4)) (ty := .int) X tyX1 1 0 13 ([(a, .inr (1, [.ref q1, .ref q2, .ref q3, .ref q4, .ref q5, .ref q6, .ref q7, .ref q8, .ref q9, .ref q10, .ref q11, .ref q12, .int (iZ 30), .int (iZ 4), .int (iZ 0), .int (iZ 0), .int (iZ 0)])), (q1, .inl (cZ, 6, .inl (zF z0))), (q2, .inl (cI, 6, .inl (zF z0))), (q3, .inl (cI, 6, .inl (zF z0))), (q4, .inl (cI, 6, .inl (zF z0))), (q5, .inl (cI, 6, .inl (zF z0))), (q6, .inl (cI, 6, .inl (zF z0))), (q7, .inl (cI, 6, .inl (zF z0))), (q8, .inl (cI, 6, .inl (zF z0))), (q9, .inl (cI, 5, .inl (zF z0))), (q10, .inl (cI, 5, .inl (zF z0))), (q11, .inl (cI, 6, .inl (zF z0))), (q12, .inr (0, [.ref b1, .ref b2, .ref b3, .ref b4, .ref b5, .int (iZ 0)])), (b1, .inl (cI, 6, .inl (zF z0))), (b2, .inl (cI, 6, .inl (zF z0))), (b3, .inl (cI, 6, .inl (zF z0))), (b4, .inl (cI, 6, .inl (zF z0))), (b5, .inl (cI, 6, .inl (zF z0)))]) tyX1_ok nmX1 hiX1 rfl rfl (by decide) ⟨rfl, rfl, rfl, rfl⟩ (by decide +kernel) rfl rfl rfl (Nat.le_of_ble_eq_true rfl) rfl dX1_init_109 ?_
  refine z_aload_n X 0 rfl dX1_init_112 ?_
  refine z_iconst X dX1_init_113 ?_
  refine z_put (v := .int (iZ 0)) (ty := .int) X tyX1 1 0 14 ([(a, .inr (1, [.ref q1, .ref q2, .ref q3, .ref q4, .ref q5, .ref q6, .ref q7, .ref q8, .ref q9, .ref q10, .ref q11, .ref q12, .int (iZ 30), .int (iZ 4), .int (iZ 0), .int (iZ 0), .int (iZ 0)])), (q1, .inl (cZ, 6, .inl (zF z0))), (q2, .inl (cI, 6, .inl (zF z0))), (q3, .inl (cI, 6, .inl (zF z0))), (q4, .inl (cI, 6, .inl (zF z0))), (q5, .inl (cI, 6, .inl (zF z0))), (q6, .inl (cI, 6, .inl (zF z0))), (q7, .inl (cI, 6, .inl (zF z0))), (q8, .inl (cI, 6, .inl (zF z0))), (q9, .inl (cI, 5, .inl (zF z0))), (q10, .inl (cI, 5, .inl (zF z0))), (q11, .inl (cI, 6, .inl (zF z0))), (q12, .inr (0, [.ref b1, .ref b2, .ref b3, .ref b4, .ref b5, .int (iZ 0)])), (b1, .inl (cI, 6, .inl (zF z0))), (b2, .inl (cI, 6, .inl (zF z0))), (b3, .inl (cI, 6, .inl (zF z0))), (b4, .inl (cI, 6, .inl (zF z0))), (b5, .inl (cI, 6, .inl (zF z0)))]) tyX1_ok nmX1 hiX1 rfl rfl (by decide) ⟨rfl, rfl, rfl, rfl⟩ (by decide +kernel) rfl rfl rfl (Nat.le_of_ble_eq_true rfl) rfl dX1_init_114 ?_
  refine z_aload_n X 0 rfl dX1_init_117 ?_
  refine z_iconst X dX1_init_118 ?_
  refine z_put (v := .int (iZ 0)) (ty := .int) X tyX1 1 0 15 ([(a, .inr (1, [.ref q1, .ref q2, .ref q3, .ref q4, .ref q5, .ref q6, .ref q7, .ref q8, .ref q9, .ref q10, .ref q11, .ref q12, .int (iZ 30), .int (iZ 4), .int (iZ 0), .int (iZ 0), .int (iZ 0)])), (q1, .inl (cZ, 6, .inl (zF z0))), (q2, .inl (cI, 6, .inl (zF z0))), (q3, .inl (cI, 6, .inl (zF z0))), (q4, .inl (cI, 6, .inl (zF z0))), (q5, .inl (cI, 6, .inl (zF z0))), (q6, .inl (cI, 6, .inl (zF z0))), (q7, .inl (cI, 6, .inl (zF z0))), (q8, .inl (cI, 6, .inl (zF z0))), (q9, .inl (cI, 5, .inl (zF z0))), (q10, .inl (cI, 5, .inl (zF z0))), (q11, .inl (cI, 6, .inl (zF z0))), (q12, .inr (0, [.ref b1, .ref b2, .ref b3, .ref b4, .ref b5, .int (iZ 0)])), (b1, .inl (cI, 6, .inl (zF z0))), (b2, .inl (cI, 6, .inl (zF z0))), (b3, .inl (cI, 6, .inl (zF z0))), (b4, .inl (cI, 6, .inl (zF z0))), (b5, .inl (cI, 6, .inl (zF z0)))]) tyX1_ok nmX1 hiX1 rfl rfl (by decide) ⟨rfl, rfl, rfl, rfl⟩ (by decide +kernel) rfl rfl rfl (Nat.le_of_ble_eq_true rfl) rfl dX1_init_119 ?_
  refine z_aload_n X 0 rfl dX1_init_122 ?_
  refine z_iconst X dX1_init_123 ?_
  refine z_put (v := .int (iZ 0)) (ty := .int) X tyX1 1 0 16 ([(a, .inr (1, [.ref q1, .ref q2, .ref q3, .ref q4, .ref q5, .ref q6, .ref q7, .ref q8, .ref q9, .ref q10, .ref q11, .ref q12, .int (iZ 30), .int (iZ 4), .int (iZ 0), .int (iZ 0), .int (iZ 0)])), (q1, .inl (cZ, 6, .inl (zF z0))), (q2, .inl (cI, 6, .inl (zF z0))), (q3, .inl (cI, 6, .inl (zF z0))), (q4, .inl (cI, 6, .inl (zF z0))), (q5, .inl (cI, 6, .inl (zF z0))), (q6, .inl (cI, 6, .inl (zF z0))), (q7, .inl (cI, 6, .inl (zF z0))), (q8, .inl (cI, 6, .inl (zF z0))), (q9, .inl (cI, 5, .inl (zF z0))), (q10, .inl (cI, 5, .inl (zF z0))), (q11, .inl (cI, 6, .inl (zF z0))), (q12, .inr (0, [.ref b1, .ref b2, .ref b3, .ref b4, .ref b5, .int (iZ 0)])), (b1, .inl (cI, 6, .inl (zF z0))), (b2, .inl (cI, 6, .inl (zF z0))), (b3, .inl (cI, 6, .inl (zF z0))), (b4, .inl (cI, 6, .inl (zF z0))), (b5, .inl (cI, 6, .inl (zF z0)))]) tyX1_ok nmX1 hiX1 rfl rfl (by decide) ⟨rfl, rfl, rfl, rfl⟩ (by decide +kernel) rfl rfl rfl (Nat.le_of_ble_eq_true rfl) rfl dX1_init_124 ?_
  exact K (ad18 a q1 q2 q3 q4 q5 q6 q7 q8 q9 q10 q11 q12 b1 b2 b3 b4 b5) rfl
set_option maxHeartbeats 4000000 in
set_option maxRecDepth 100000 in
theorem c_X2_init (l : Launch) (D : va_G) (cI cZ cL : ClassId) (a : Nat) : zME l D (zT cI cZ cL) yX2_init wsX2_init ({ frames := 1, cells := 15, slots := 208, locals := 20 } : Room) [(a, .inr (2, [.null, .null, .null, .null, .null, .null, .null, .null, .int (iZ 0), .int (iZ 0), .int (iZ 0), .int (iZ 0), .int (iZ 0), .null, .null, .null, .null, .int (iZ 0), .null, .null, .null, .int (iZ 0)]))] [.ref a] (fun w => ∃ ad : Nat → Nat, ad 0 = a ∧ w = Mw ad cI cZ m_new) 15 208 := by
  refine z_me (cc := cX2_init) (maxL := 2) (ret := none) (by decide) rfl (Nat.le_of_ble_eq_true rfl) ?_
  intro p e s m below meth c A X hr hlk hin
  have hiX2 : ∀ w ∈ wsX20, w ∈ wsX2_init := by decide +kernel
  have uI : ∀ cA : ClassId, va_RA s cA .int → va_RA s cI .int → cA = cI := fun cA h1 h2 => Option.some.inj (Eq.trans (Eq.symm h1) h2)
  have uZ : ∀ cA : ClassId, va_RA s cA .boolean → va_RA s cZ .boolean → cA = cZ := fun cA h1 h2 => Option.some.inj (Eq.trans (Eq.symm h1) h2)
  have K : ∀ ad : Nat → Nat, ad 0 = a → zW p l e ({ frames := 1, cells := 15, slots := 208, locals := 20 } : Room) s m ([.ref a] : List Value).toArray below meth c 2 D A 15 208 (MQ below (zPE D (zT cI cZ cL) (fun w => ∃ ad : Nat → Nat, ad 0 = a ∧ w = Mw ad cI cZ m_new) A) ([.ref a] : List Value).toArray s 15 208 A) (Mw ad cI cZ s_zero) 133 [(0, .ref (ad 0))] [] := by
    intro ad had
    refine z_iconst X dX2_init_133 ?_
    refine z_istore_n X [1, 0] [(0, .ref (ad 0)), (1, .int (iZ 0))] rfl (Nat.le_of_ble_eq_true rfl) dX2_init_134 ?_
    refine zfor_ind 6 6 (rfl) (m_newH) s_zero (fun (i_135 : Int) (a_135 : GS) => zW p l e ({ frames := 1, cells := 15, slots := 208, locals := 20 } : Room) s m ([.ref a] : List Value).toArray below meth c 2 D A 15 208 (MQ below (zPE D (zT cI cZ cL) (fun w => ∃ ad : Nat → Nat, ad 0 = a ∧ w = Mw ad cI cZ m_new) A) ([.ref a] : List Value).toArray s 15 208 A) (Mw ad cI cZ a_135) 135 [(0, .ref (ad 0)), (1, .int (iZ i_135))] []) ?_ ?_
    · intro a_135 ha_135
      refine z_iload_n X 1 rfl dX2_init_135 ?_
      refine z_bipush X (by decide) dX2_init_136 ?_
      refine z_icmp_ge (tgt := 163) X ⟨by omega, by omega⟩ ⟨by omega, by omega⟩ (by decide) dX2_init_138 (fun c_1 => ?_) (fun c_1 => ?_)
      · skip
        refine z_iconst X dX2_init_163 ?_
        refine z_istore_n X [1, 0] [(0, .ref (ad 0)), (1, .int (iZ 0))] rfl (Nat.le_of_ble_eq_true rfl) dX2_init_164 ?_
        refine zfor_ind 5 5 (rfl) (m_newL) a_135 (fun (i_165 : Int) (a_165 : GS) => zW p l e ({ frames := 1, cells := 15, slots := 208, locals := 20 } : Room) s m ([.ref a] : List Value).toArray below meth c 2 D A 15 208 (MQ below (zPE D (zT cI cZ cL) (fun w => ∃ ad : Nat → Nat, ad 0 = a ∧ w = Mw ad cI cZ m_new) A) ([.ref a] : List Value).toArray s 15 208 A) (Mw ad cI cZ a_165) 165 [(0, .ref (ad 0)), (1, .int (iZ i_165))] []) ?_ ?_
        · intro a_165 ha_165
          refine z_iload_n X 1 rfl dX2_init_165 ?_
          refine z_iconst X dX2_init_166 ?_
          refine z_icmp_ge (tgt := 184) X ⟨by omega, by omega⟩ ⟨by omega, by omega⟩ (by decide) dX2_init_167 (fun c_2 => ?_) (fun c_2 => ?_)
          · skip
            exact z_vretE X hr hlk ⟨ad, had, congrArg (Mw ad cI cZ) (by rw [ha_165, ha_135]; rfl)⟩ dX2_init_184
          · exact absurd c_2 (by omega)
        · intro i_165 k_165 a_165 hi_165 h0i_165 h1i_165 ha_165 hk_165
          refine z_iload_n X 1 rfl dX2_init_165 ?_
          refine z_iconst X dX2_init_166 ?_
          refine z_icmp_ge (tgt := 184) X ⟨by omega, by omega⟩ ⟨by omega, by omega⟩ (by decide) dX2_init_167 (fun c_3 => ?_) (fun c_3 => ?_)
          · exact absurd c_3 (by omega)
          · skip
            refine z_aload_n X 0 rfl dX2_init_170 ?_
            refine z_get (v := .ref (ad 4)) X 2 0 3 hiX2 rfl rfl (by decide) ⟨rfl, rfl, rfl⟩ (by decide +kernel) rfl dX2_init_171 ?_
            refine z_iload_n X 1 rfl dX2_init_174 ?_
            refine z_bipush X (by decide) dX2_init_175 ?_
            refine z_iast (g := a_165.1 3) X 4 0 (Mw ad cI cZ (gA a_165 3 i_165 100)) rfl rfl (by omega) (by omega) ⟨by omega, by omega⟩ rfl dX2_init_177 ?_
            refine z_iinc X 1 [1, 0] [(0, .ref (ad 0)), (1, .int (iZ (i_165 + 1)))] rfl rfl (Nat.le_of_ble_eq_true rfl) dX2_init_178 ?_
            refine z_goto (tgt := 165) X (by decide) dX2_init_181 ?_
            exact z_eq (congrArg (Mw ad cI cZ) (show m_newL i_165 a_165 = gA a_165 3 i_165 100 from rfl)) rfl hk_165
      · exact absurd c_1 (by omega)
    · intro i_135 k_135 a_135 hi_135 h0i_135 h1i_135 ha_135 hk_135
      refine z_iload_n X 1 rfl dX2_init_135 ?_
      refine z_bipush X (by decide) dX2_init_136 ?_
      refine z_icmp_ge (tgt := 163) X ⟨by omega, by omega⟩ ⟨by omega, by omega⟩ (by decide) dX2_init_138 (fun c_4 => ?_) (fun c_4 => ?_)
      · exact absurd c_4 (by omega)
      · skip
        refine z_aload_n X 0 rfl dX2_init_141 ?_
        refine z_get (v := .ref (ad 3)) X 2 0 2 hiX2 rfl rfl (by decide) ⟨rfl, rfl, rfl⟩ (by decide +kernel) rfl dX2_init_142 ?_
        refine z_iload_n X 1 rfl dX2_init_145 ?_
        refine z_bipush X (by decide) dX2_init_146 ?_
        refine z_iast (g := a_135.1 2) X 3 0 (Mw ad cI cZ (gA a_135 2 i_135 10)) rfl rfl (by omega) (by omega) ⟨by omega, by omega⟩ rfl dX2_init_148 ?_
        refine z_aload_n X 0 rfl dX2_init_149 ?_
        refine z_get (v := .ref (ad 5)) X 2 0 4 hiX2 rfl rfl (by decide) ⟨rfl, rfl, rfl⟩ (by decide +kernel) rfl dX2_init_150 ?_
        refine z_iload_n X 1 rfl dX2_init_153 ?_
        refine z_bipush X (by decide) dX2_init_154 ?_
        refine z_iast (g := a_135.1 4) X 5 0 (Mw ad cI cZ (gA (gA a_135 2 i_135 10) 4 i_135 20)) rfl rfl (by omega) (by omega) ⟨by omega, by omega⟩ rfl dX2_init_156 ?_
        refine z_iinc X 1 [1, 0] [(0, .ref (ad 0)), (1, .int (iZ (i_135 + 1)))] rfl rfl (Nat.le_of_ble_eq_true rfl) dX2_init_157 ?_
        refine z_goto (tgt := 135) X (by decide) dX2_init_160 ?_
        exact z_eq (congrArg (Mw ad cI cZ) (show m_newH i_135 a_135 = gA (gA a_135 2 i_135 10) 4 i_135 20 from rfl)) rfl hk_135
  refine z_sub (lv' := [(0, .ref a)]) [0] rfl ?_
  refine z_aload_n X 0 rfl dX2_init_0 ?_
  refine z_objInit X (by decide +kernel) (by decide +kernel) (by decide +kernel) ⟨Nat.le_of_ble_eq_true rfl, Nat.le_of_ble_eq_true rfl⟩ dX2_init_1 ?_
  refine z_aload_n X 0 rfl dX2_init_4 ?_
  refine z_bipush X (by decide) dX2_init_5 ?_
  refine z_newa X (ty := .int) rfl (by decide +kernel) 0 rfl uI (a0 := (6, .inl (zF z0))) (N' := 6) (fun _ => rfl) (by decide) ⟨by decide, by decide⟩ rfl (Nat.le_of_ble_eq_true rfl) ⟨Nat.le_of_ble_eq_true rfl, Nat.le_of_ble_eq_true rfl⟩ dX2_init_7 (fun q1 => ?_)
  refine z_putF (v := .ref q1) (ty := tyX2 0) X tyX2 2 0 0 ([(a, .inr (2, [.ref q1, .null, .null, .null, .null, .null, .null, .null, .int (iZ 0), .int (iZ 0), .int (iZ 0), .int (iZ 0), .int (iZ 0), .null, .null, .null, .null, .int (iZ 0), .null, .null, .null, .int (iZ 0)])), (q1, .inl (cI, 6, .inl (zF z0)))]) tyX2_ok nmX2 hiX2 rfl rfl (by decide) ⟨rfl, rfl, rfl, rfl⟩ (hin rfl) rfl (by decide +kernel) rfl rfl rfl (Nat.le_of_ble_eq_true rfl) rfl dX2_init_9 ?_
  refine z_aload_n X 0 rfl dX2_init_12 ?_
  refine z_bipush X (by decide) dX2_init_13 ?_
  refine z_newa X (ty := .int) rfl (by decide +kernel) 0 rfl uI (a0 := (6, .inl (zF z0))) (N' := 6) (fun _ => rfl) (by decide) ⟨by decide, by decide⟩ rfl (Nat.le_of_ble_eq_true rfl) ⟨Nat.le_of_ble_eq_true rfl, Nat.le_of_ble_eq_true rfl⟩ dX2_init_15 (fun q2 => ?_)
  refine z_putF (v := .ref q2) (ty := tyX2 1) X tyX2 2 0 1 ([(a, .inr (2, [.ref q1, .ref q2, .null, .null, .null, .null, .null, .null, .int (iZ 0), .int (iZ 0), .int (iZ 0), .int (iZ 0), .int (iZ 0), .null, .null, .null, .null, .int (iZ 0), .null, .null, .null, .int (iZ 0)])), (q1, .inl (cI, 6, .inl (zF z0))), (q2, .inl (cI, 6, .inl (zF z0)))]) tyX2_ok nmX2 hiX2 rfl rfl (by decide) ⟨rfl, rfl, rfl, rfl⟩ (hin rfl) rfl (by decide +kernel) rfl rfl rfl (Nat.le_of_ble_eq_true rfl) rfl dX2_init_17 ?_
  refine z_aload_n X 0 rfl dX2_init_20 ?_
  refine z_bipush X (by decide) dX2_init_21 ?_
  refine z_newa X (ty := .int) rfl (by decide +kernel) 0 rfl uI (a0 := (6, .inl (zF z0))) (N' := 6) (fun _ => rfl) (by decide) ⟨by decide, by decide⟩ rfl (Nat.le_of_ble_eq_true rfl) ⟨Nat.le_of_ble_eq_true rfl, Nat.le_of_ble_eq_true rfl⟩ dX2_init_23 (fun q3 => ?_)
  refine z_putF (v := .ref q3) (ty := tyX2 2) X tyX2 2 0 2 ([(a, .inr (2, [.ref q1, .ref q2, .ref q3, .null, .null, .null, .null, .null, .int (iZ 0), .int (iZ 0), .int (iZ 0), .int (iZ 0), .int (iZ 0), .null, .null, .null, .null, .int (iZ 0), .null, .null, .null, .int (iZ 0)])), (q1, .inl (cI, 6, .inl (zF z0))), (q2, .inl (cI, 6, .inl (zF z0))), (q3, .inl (cI, 6, .inl (zF z0)))]) tyX2_ok nmX2 hiX2 rfl rfl (by decide) ⟨rfl, rfl, rfl, rfl⟩ (hin rfl) rfl (by decide +kernel) rfl rfl rfl (Nat.le_of_ble_eq_true rfl) rfl dX2_init_25 ?_
  refine z_aload_n X 0 rfl dX2_init_28 ?_
  refine z_iconst X dX2_init_29 ?_
  refine z_newa X (ty := .int) rfl (by decide +kernel) 0 rfl uI (a0 := (5, .inl (zF z0))) (N' := 5) (fun _ => rfl) (by decide) ⟨by decide, by decide⟩ rfl (Nat.le_of_ble_eq_true rfl) ⟨Nat.le_of_ble_eq_true rfl, Nat.le_of_ble_eq_true rfl⟩ dX2_init_30 (fun q4 => ?_)
  refine z_putF (v := .ref q4) (ty := tyX2 3) X tyX2 2 0 3 ([(a, .inr (2, [.ref q1, .ref q2, .ref q3, .ref q4, .null, .null, .null, .null, .int (iZ 0), .int (iZ 0), .int (iZ 0), .int (iZ 0), .int (iZ 0), .null, .null, .null, .null, .int (iZ 0), .null, .null, .null, .int (iZ 0)])), (q1, .inl (cI, 6, .inl (zF z0))), (q2, .inl (cI, 6, .inl (zF z0))), (q3, .inl (cI, 6, .inl (zF z0))), (q4, .inl (cI, 5, .inl (zF z0)))]) tyX2_ok nmX2 hiX2 rfl rfl (by decide) ⟨rfl, rfl, rfl, rfl⟩ (hin rfl) rfl (by decide +kernel) rfl rfl rfl (Nat.le_of_ble_eq_true rfl) rfl dX2_init_32 ?_
  refine z_aload_n X 0 rfl dX2_init_35 ?_
  refine z_bipush X (by decide) dX2_init_36 ?_
  refine z_newa X (ty := .int) rfl (by decide +kernel) 0 rfl uI (a0 := (6, .inl (zF z0))) (N' := 6) (fun _ => rfl) (by decide) ⟨by decide, by decide⟩ rfl (Nat.le_of_ble_eq_true rfl) ⟨Nat.le_of_ble_eq_true rfl, Nat.le_of_ble_eq_true rfl⟩ dX2_init_38 (fun q5 => ?_)
  refine z_putF (v := .ref q5) (ty := tyX2 4) X tyX2 2 0 4 ([(a, .inr (2, [.ref q1, .ref q2, .ref q3, .ref q4, .ref q5, .null, .null, .null, .int (iZ 0), .int (iZ 0), .int (iZ 0), .int (iZ 0), .int (iZ 0), .null, .null, .null, .null, .int (iZ 0), .null, .null, .null, .int (iZ 0)])), (q1, .inl (cI, 6, .inl (zF z0))), (q2, .inl (cI, 6, .inl (zF z0))), (q3, .inl (cI, 6, .inl (zF z0))), (q4, .inl (cI, 5, .inl (zF z0))), (q5, .inl (cI, 6, .inl (zF z0)))]) tyX2_ok nmX2 hiX2 rfl rfl (by decide) ⟨rfl, rfl, rfl, rfl⟩ (hin rfl) rfl (by decide +kernel) rfl rfl rfl (Nat.le_of_ble_eq_true rfl) rfl dX2_init_40 ?_
  refine z_aload_n X 0 rfl dX2_init_43 ?_
  refine z_bipush X (by decide) dX2_init_44 ?_
  refine z_newa X (ty := .int) rfl (by decide +kernel) 0 rfl uI (a0 := (6, .inl (zF z0))) (N' := 6) (fun _ => rfl) (by decide) ⟨by decide, by decide⟩ rfl (Nat.le_of_ble_eq_true rfl) ⟨Nat.le_of_ble_eq_true rfl, Nat.le_of_ble_eq_true rfl⟩ dX2_init_46 (fun q6 => ?_)
  refine z_putF (v := .ref q6) (ty := tyX2 5) X tyX2 2 0 5 ([(a, .inr (2, [.ref q1, .ref q2, .ref q3, .ref q4, .ref q5, .ref q6, .null, .null, .int (iZ 0), .int (iZ 0), .int (iZ 0), .int (iZ 0), .int (iZ 0), .null, .null, .null, .null, .int (iZ 0), .null, .null, .null, .int (iZ 0)])), (q1, .inl (cI, 6, .inl (zF z0))), (q2, .inl (cI, 6, .inl (zF z0))), (q3, .inl (cI, 6, .inl (zF z0))), (q4, .inl (cI, 5, .inl (zF z0))), (q5, .inl (cI, 6, .inl (zF z0))), (q6, .inl (cI, 6, .inl (zF z0)))]) tyX2_ok nmX2 hiX2 rfl rfl (by decide) ⟨rfl, rfl, rfl, rfl⟩ (hin rfl) rfl (by decide +kernel) rfl rfl rfl (Nat.le_of_ble_eq_true rfl) rfl dX2_init_48 ?_
  refine z_aload_n X 0 rfl dX2_init_51 ?_
  refine z_bipush X (by decide) dX2_init_52 ?_
  refine z_newa X (ty := .int) rfl (by decide +kernel) 0 rfl uI (a0 := (6, .inl (zF z0))) (N' := 6) (fun _ => rfl) (by decide) ⟨by decide, by decide⟩ rfl (Nat.le_of_ble_eq_true rfl) ⟨Nat.le_of_ble_eq_true rfl, Nat.le_of_ble_eq_true rfl⟩ dX2_init_54 (fun q7 => ?_)
  refine z_putF (v := .ref q7) (ty := tyX2 6) X tyX2 2 0 6 ([(a, .inr (2, [.ref q1, .ref q2, .ref q3, .ref q4, .ref q5, .ref q6, .ref q7, .null, .int (iZ 0), .int (iZ 0), .int (iZ 0), .int (iZ 0), .int (iZ 0), .null, .null, .null, .null, .int (iZ 0), .null, .null, .null, .int (iZ 0)])), (q1, .inl (cI, 6, .inl (zF z0))), (q2, .inl (cI, 6, .inl (zF z0))), (q3, .inl (cI, 6, .inl (zF z0))), (q4, .inl (cI, 5, .inl (zF z0))), (q5, .inl (cI, 6, .inl (zF z0))), (q6, .inl (cI, 6, .inl (zF z0))), (q7, .inl (cI, 6, .inl (zF z0)))]) tyX2_ok nmX2 hiX2 rfl rfl (by decide) ⟨rfl, rfl, rfl, rfl⟩ (hin rfl) rfl (by decide +kernel) rfl rfl rfl (Nat.le_of_ble_eq_true rfl) rfl dX2_init_56 ?_
  refine z_aload_n X 0 rfl dX2_init_59 ?_
  refine z_bipush X (by decide) dX2_init_60 ?_
  refine z_newa X (ty := .boolean) rfl (by decide +kernel) 1 rfl uZ (a0 := (6, .inl (zF z0))) (N' := 6) (fun _ => rfl) (by decide) ⟨by decide, by decide⟩ rfl (Nat.le_of_ble_eq_true rfl) ⟨Nat.le_of_ble_eq_true rfl, Nat.le_of_ble_eq_true rfl⟩ dX2_init_62 (fun q8 => ?_)
  refine z_putF (v := .ref q8) (ty := tyX2 7) X tyX2 2 0 7 ([(a, .inr (2, [.ref q1, .ref q2, .ref q3, .ref q4, .ref q5, .ref q6, .ref q7, .ref q8, .int (iZ 0), .int (iZ 0), .int (iZ 0), .int (iZ 0), .int (iZ 0), .null, .null, .null, .null, .int (iZ 0), .null, .null, .null, .int (iZ 0)])), (q1, .inl (cI, 6, .inl (zF z0))), (q2, .inl (cI, 6, .inl (zF z0))), (q3, .inl (cI, 6, .inl (zF z0))), (q4, .inl (cI, 5, .inl (zF z0))), (q5, .inl (cI, 6, .inl (zF z0))), (q6, .inl (cI, 6, .inl (zF z0))), (q7, .inl (cI, 6, .inl (zF z0))), (q8, .inl (cZ, 6, .inl (zF z0)))]) tyX2_ok nmX2 hiX2 rfl rfl (by decide) ⟨rfl, rfl, rfl, rfl⟩ (hin rfl) rfl (by decide +kernel) rfl rfl rfl (Nat.le_of_ble_eq_true rfl) rfl dX2_init_64 ?_
  refine z_aload_n X 0 rfl dX2_init_67 ?_
  refine z_bipush X (by decide) dX2_init_68 ?_
  refine z_put (v := .int (iZ 30)) (ty := .int) X tyX2 2 0 8 ([(a, .inr (2, [.ref q1, .ref q2, .ref q3, .ref q4, .ref q5, .ref q6, .ref q7, .ref q8, .int (iZ 30), .int (iZ 0), .int (iZ 0), .int (iZ 0), .int (iZ 0), .null, .null, .null, .null, .int (iZ 0), .null, .null, .null, .int (iZ 0)])), (q1, .inl (cI, 6, .inl (zF z0))), (q2, .inl (cI, 6, .inl (zF z0))), (q3, .inl (cI, 6, .inl (zF z0))), (q4, .inl (cI, 5, .inl (zF z0))), (q5, .inl (cI, 6, .inl (zF z0))), (q6, .inl (cI, 6, .inl (zF z0))), (q7, .inl (cI, 6, .inl (zF z0))), (q8, .inl (cZ, 6, .inl (zF z0)))]) tyX2_ok nmX2 hiX2 rfl rfl (by decide) ⟨rfl, rfl, rfl, rfl⟩ (by decide +kernel) rfl rfl rfl (Nat.le_of_ble_eq_true rfl) rfl dX2_init_70 ?_
  refine z_aload_n X 0 rfl dX2_init_73 ?_
  refine z_iconst X dX2_init_74 ?_
  refine z_put (v := .int (iZ 4)) (ty := .int) X tyX2 2 0 9 ([(a, .inr (2, [.ref q1, .ref q2, .ref q3, .ref q4, .ref q5, .ref q6, .ref q7, .ref q8, .int (iZ 30), .int (iZ 4), .int (iZ 0), .int (iZ 0), .int (iZ 0), .null, .null, .null, .null, .int (iZ 0), .null, .null, .null, .int (iZ 0)])), (q1, .inl (cI, 6, .inl (zF z0))), (q2, .inl (cI, 6, .inl (zF z0))), (q3, .inl (cI, 6, .inl (zF z0))), (q4, .inl (cI, 5, .inl (zF z0))), (q5, .inl (cI, 6, .inl (zF z0))), (q6, .inl (cI, 6, .inl (zF z0))), (q7, .inl (cI, 6, .inl (zF z0))), (q8, .inl (cZ, 6, .inl (zF z0)))]) tyX2_ok nmX2 hiX2 rfl rfl (by decide) ⟨rfl, rfl, rfl, rfl⟩ (by decide +kernel) rfl rfl rfl (Nat.le_of_ble_eq_true rfl) rfl dX2_init_75 ?_
  refine z_aload_n X 0 rfl dX2_init_78 ?_
  refine z_bipush X (by decide) dX2_init_79 ?_
  refine z_newa X (ty := .int) rfl (by decide +kernel) 0 rfl uI (a0 := (36, .inl (zF z0))) (N' := 36) (fun _ => rfl) (by decide) ⟨by decide, by decide⟩ rfl (Nat.le_of_ble_eq_true rfl) ⟨Nat.le_of_ble_eq_true rfl, Nat.le_of_ble_eq_true rfl⟩ dX2_init_81 (fun q9 => ?_)
  refine z_putF (v := .ref q9) (ty := tyX2 13) X tyX2 2 0 13 ([(a, .inr (2, [.ref q1, .ref q2, .ref q3, .ref q4, .ref q5, .ref q6, .ref q7, .ref q8, .int (iZ 30), .int (iZ 4), .int (iZ 0), .int (iZ 0), .int (iZ 0), .ref q9, .null, .null, .null, .int (iZ 0), .null, .null, .null, .int (iZ 0)])), (q1, .inl (cI, 6, .inl (zF z0))), (q2, .inl (cI, 6, .inl (zF z0))), (q3, .inl (cI, 6, .inl (zF z0))), (q4, .inl (cI, 5, .inl (zF z0))), (q5, .inl (cI, 6, .inl (zF z0))), (q6, .inl (cI, 6, .inl (zF z0))), (q7, .inl (cI, 6, .inl (zF z0))), (q8, .inl (cZ, 6, .inl (zF z0))), (q9, .inl (cI, 36, .inl (zF z0)))]) tyX2_ok nmX2 hiX2 rfl rfl (by decide) ⟨rfl, rfl, rfl, rfl⟩ (hin rfl) rfl (by decide +kernel) rfl rfl rfl (Nat.le_of_ble_eq_true rfl) rfl dX2_init_83 ?_
  refine z_aload_n X 0 rfl dX2_init_86 ?_
  refine z_bipush X (by decide) dX2_init_87 ?_
  refine z_newa X (ty := .int) rfl (by decide +kernel) 0 rfl uI (a0 := (36, .inl (zF z0))) (N' := 36) (fun _ => rfl) (by decide) ⟨by decide, by decide⟩ rfl (Nat.le_of_ble_eq_true rfl) ⟨Nat.le_of_ble_eq_true rfl, Nat.le_of_ble_eq_true rfl⟩ dX2_init_89 (fun q10 => ?_)
  refine z_putF (v := .ref q10) (ty := tyX2 14) X tyX2 2 0 14 ([(a, .inr (2, [.ref q1, .ref q2, .ref q3, .ref q4, .ref q5, .ref q6, .ref q7, .ref q8, .int (iZ 30), .int (iZ 4), .int (iZ 0), .int (iZ 0), .int (iZ 0), .ref q9, .ref q10, .null, .null, .int (iZ 0), .null, .null, .null, .int (iZ 0)])), (q1, .inl (cI, 6, .inl (zF z0))), (q2, .inl (cI, 6, .inl (zF z0))), (q3, .inl (cI, 6, .inl (zF z0))), (q4, .inl (cI, 5, .inl (zF z0))), (q5, .inl (cI, 6, .inl (zF z0))), (q6, .inl (cI, 6, .inl (zF z0))), (q7, .inl (cI, 6, .inl (zF z0))), (q8, .inl (cZ, 6, .inl (zF z0))), (q9, .inl (cI, 36, .inl (zF z0))), (q10, .inl (cI, 36, .inl (zF z0)))]) tyX2_ok nmX2 hiX2 rfl rfl (by decide) ⟨rfl, rfl, rfl, rfl⟩ (hin rfl) rfl (by decide +kernel) rfl rfl rfl (Nat.le_of_ble_eq_true rfl) rfl dX2_init_91 ?_
  refine z_aload_n X 0 rfl dX2_init_94 ?_
  refine z_bipush X (by decide) dX2_init_95 ?_
  refine z_newa X (ty := .int) rfl (by decide +kernel) 0 rfl uI (a0 := (36, .inl (zF z0))) (N' := 36) (fun _ => rfl) (by decide) ⟨by decide, by decide⟩ rfl (Nat.le_of_ble_eq_true rfl) ⟨Nat.le_of_ble_eq_true rfl, Nat.le_of_ble_eq_true rfl⟩ dX2_init_97 (fun q11 => ?_)
  refine z_putF (v := .ref q11) (ty := tyX2 15) X tyX2 2 0 15 ([(a, .inr (2, [.ref q1, .ref q2, .ref q3, .ref q4, .ref q5, .ref q6, .ref q7, .ref q8, .int (iZ 30), .int (iZ 4), .int (iZ 0), .int (iZ 0), .int (iZ 0), .ref q9, .ref q10, .ref q11, .null, .int (iZ 0), .null, .null, .null, .int (iZ 0)])), (q1, .inl (cI, 6, .inl (zF z0))), (q2, .inl (cI, 6, .inl (zF z0))), (q3, .inl (cI, 6, .inl (zF z0))), (q4, .inl (cI, 5, .inl (zF z0))), (q5, .inl (cI, 6, .inl (zF z0))), (q6, .inl (cI, 6, .inl (zF z0))), (q7, .inl (cI, 6, .inl (zF z0))), (q8, .inl (cZ, 6, .inl (zF z0))), (q9, .inl (cI, 36, .inl (zF z0))), (q10, .inl (cI, 36, .inl (zF z0))), (q11, .inl (cI, 36, .inl (zF z0)))]) tyX2_ok nmX2 hiX2 rfl rfl (by decide) ⟨rfl, rfl, rfl, rfl⟩ (hin rfl) rfl (by decide +kernel) rfl rfl rfl (Nat.le_of_ble_eq_true rfl) rfl dX2_init_99 ?_
  refine z_aload_n X 0 rfl dX2_init_102 ?_
  refine z_bipush X (by decide) dX2_init_103 ?_
  refine z_newa X (ty := .int) rfl (by decide +kernel) 0 rfl uI (a0 := (36, .inl (zF z0))) (N' := 36) (fun _ => rfl) (by decide) ⟨by decide, by decide⟩ rfl (Nat.le_of_ble_eq_true rfl) ⟨Nat.le_of_ble_eq_true rfl, Nat.le_of_ble_eq_true rfl⟩ dX2_init_105 (fun q12 => ?_)
  refine z_putF (v := .ref q12) (ty := tyX2 16) X tyX2 2 0 16 ([(a, .inr (2, [.ref q1, .ref q2, .ref q3, .ref q4, .ref q5, .ref q6, .ref q7, .ref q8, .int (iZ 30), .int (iZ 4), .int (iZ 0), .int (iZ 0), .int (iZ 0), .ref q9, .ref q10, .ref q11, .ref q12, .int (iZ 0), .null, .null, .null, .int (iZ 0)])), (q1, .inl (cI, 6, .inl (zF z0))), (q2, .inl (cI, 6, .inl (zF z0))), (q3, .inl (cI, 6, .inl (zF z0))), (q4, .inl (cI, 5, .inl (zF z0))), (q5, .inl (cI, 6, .inl (zF z0))), (q6, .inl (cI, 6, .inl (zF z0))), (q7, .inl (cI, 6, .inl (zF z0))), (q8, .inl (cZ, 6, .inl (zF z0))), (q9, .inl (cI, 36, .inl (zF z0))), (q10, .inl (cI, 36, .inl (zF z0))), (q11, .inl (cI, 36, .inl (zF z0))), (q12, .inl (cI, 36, .inl (zF z0)))]) tyX2_ok nmX2 hiX2 rfl rfl (by decide) ⟨rfl, rfl, rfl, rfl⟩ (hin rfl) rfl (by decide +kernel) rfl rfl rfl (Nat.le_of_ble_eq_true rfl) rfl dX2_init_107 ?_
  refine z_aload_n X 0 rfl dX2_init_110 ?_
  refine z_bipush X (by decide) dX2_init_111 ?_
  refine z_newa X (ty := .int) rfl (by decide +kernel) 0 rfl uI (a0 := (6, .inl (zF z0))) (N' := 6) (fun _ => rfl) (by decide) ⟨by decide, by decide⟩ rfl (Nat.le_of_ble_eq_true rfl) ⟨Nat.le_of_ble_eq_true rfl, Nat.le_of_ble_eq_true rfl⟩ dX2_init_113 (fun q13 => ?_)
  refine z_putF (v := .ref q13) (ty := tyX2 18) X tyX2 2 0 18 ([(a, .inr (2, [.ref q1, .ref q2, .ref q3, .ref q4, .ref q5, .ref q6, .ref q7, .ref q8, .int (iZ 30), .int (iZ 4), .int (iZ 0), .int (iZ 0), .int (iZ 0), .ref q9, .ref q10, .ref q11, .ref q12, .int (iZ 0), .ref q13, .null, .null, .int (iZ 0)])), (q1, .inl (cI, 6, .inl (zF z0))), (q2, .inl (cI, 6, .inl (zF z0))), (q3, .inl (cI, 6, .inl (zF z0))), (q4, .inl (cI, 5, .inl (zF z0))), (q5, .inl (cI, 6, .inl (zF z0))), (q6, .inl (cI, 6, .inl (zF z0))), (q7, .inl (cI, 6, .inl (zF z0))), (q8, .inl (cZ, 6, .inl (zF z0))), (q9, .inl (cI, 36, .inl (zF z0))), (q10, .inl (cI, 36, .inl (zF z0))), (q11, .inl (cI, 36, .inl (zF z0))), (q12, .inl (cI, 36, .inl (zF z0))), (q13, .inl (cI, 6, .inl (zF z0)))]) tyX2_ok nmX2 hiX2 rfl rfl (by decide) ⟨rfl, rfl, rfl, rfl⟩ (hin rfl) rfl (by decide +kernel) rfl rfl rfl (Nat.le_of_ble_eq_true rfl) rfl dX2_init_115 ?_
  refine z_aload_n X 0 rfl dX2_init_118 ?_
  refine z_iconst X dX2_init_119 ?_
  refine z_newa X (ty := .int) rfl (by decide +kernel) 0 rfl uI (a0 := (5, .inl (zF z0))) (N' := 5) (fun _ => rfl) (by decide) ⟨by decide, by decide⟩ rfl (Nat.le_of_ble_eq_true rfl) ⟨Nat.le_of_ble_eq_true rfl, Nat.le_of_ble_eq_true rfl⟩ dX2_init_120 (fun q14 => ?_)
  refine z_putF (v := .ref q14) (ty := tyX2 19) X tyX2 2 0 19 ([(a, .inr (2, [.ref q1, .ref q2, .ref q3, .ref q4, .ref q5, .ref q6, .ref q7, .ref q8, .int (iZ 30), .int (iZ 4), .int (iZ 0), .int (iZ 0), .int (iZ 0), .ref q9, .ref q10, .ref q11, .ref q12, .int (iZ 0), .ref q13, .ref q14, .null, .int (iZ 0)])), (q1, .inl (cI, 6, .inl (zF z0))), (q2, .inl (cI, 6, .inl (zF z0))), (q3, .inl (cI, 6, .inl (zF z0))), (q4, .inl (cI, 5, .inl (zF z0))), (q5, .inl (cI, 6, .inl (zF z0))), (q6, .inl (cI, 6, .inl (zF z0))), (q7, .inl (cI, 6, .inl (zF z0))), (q8, .inl (cZ, 6, .inl (zF z0))), (q9, .inl (cI, 36, .inl (zF z0))), (q10, .inl (cI, 36, .inl (zF z0))), (q11, .inl (cI, 36, .inl (zF z0))), (q12, .inl (cI, 36, .inl (zF z0))), (q13, .inl (cI, 6, .inl (zF z0))), (q14, .inl (cI, 5, .inl (zF z0)))]) tyX2_ok nmX2 hiX2 rfl rfl (by decide) ⟨rfl, rfl, rfl, rfl⟩ (hin rfl) rfl (by decide +kernel) rfl rfl rfl (Nat.le_of_ble_eq_true rfl) rfl dX2_init_122 ?_
  refine z_aload_n X 0 rfl dX2_init_125 ?_
  refine z_bipush X (by decide) dX2_init_126 ?_
  refine z_newa X (ty := .int) rfl (by decide +kernel) 0 rfl uI (a0 := (6, .inl (zF z0))) (N' := 6) (fun _ => rfl) (by decide) ⟨by decide, by decide⟩ rfl (Nat.le_of_ble_eq_true rfl) ⟨Nat.le_of_ble_eq_true rfl, Nat.le_of_ble_eq_true rfl⟩ dX2_init_128 (fun q15 => ?_)
  refine z_putF (v := .ref q15) (ty := tyX2 20) X tyX2 2 0 20 ([(a, .inr (2, [.ref q1, .ref q2, .ref q3, .ref q4, .ref q5, .ref q6, .ref q7, .ref q8, .int (iZ 30), .int (iZ 4), .int (iZ 0), .int (iZ 0), .int (iZ 0), .ref q9, .ref q10, .ref q11, .ref q12, .int (iZ 0), .ref q13, .ref q14, .ref q15, .int (iZ 0)])), (q1, .inl (cI, 6, .inl (zF z0))), (q2, .inl (cI, 6, .inl (zF z0))), (q3, .inl (cI, 6, .inl (zF z0))), (q4, .inl (cI, 5, .inl (zF z0))), (q5, .inl (cI, 6, .inl (zF z0))), (q6, .inl (cI, 6, .inl (zF z0))), (q7, .inl (cI, 6, .inl (zF z0))), (q8, .inl (cZ, 6, .inl (zF z0))), (q9, .inl (cI, 36, .inl (zF z0))), (q10, .inl (cI, 36, .inl (zF z0))), (q11, .inl (cI, 36, .inl (zF z0))), (q12, .inl (cI, 36, .inl (zF z0))), (q13, .inl (cI, 6, .inl (zF z0))), (q14, .inl (cI, 5, .inl (zF z0))), (q15, .inl (cI, 6, .inl (zF z0)))]) tyX2_ok nmX2 hiX2 rfl rfl (by decide) ⟨rfl, rfl, rfl, rfl⟩ (hin rfl) rfl (by decide +kernel) rfl rfl rfl (Nat.le_of_ble_eq_true rfl) rfl dX2_init_130 ?_
  exact K (ad16 a q1 q2 q3 q4 q5 q6 q7 q8 q9 q10 q11 q12 q13 q14 q15) rfl
