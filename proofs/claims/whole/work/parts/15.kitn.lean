/-! MAKING: arrays, objects, constructors; a world that grows; an end with some world of a kind -/
def zEndE (D : va_G) (tys : List (ClassId × FieldType)) (F : va_W → Prop) (A : Nat → Prop) : Unit → State → Prop := fun _ t => ∃ w : va_W, F w ∧ va_P D vwCl w t.heap ∧ va_K D vwCl tys t ∧ va_D A w
def zPE (D : va_G) (tys : List (ClassId × FieldType)) (F : va_W → Prop) (A : Nat → Prop) : Array Value → State → Outcome → State → Prop := va_Qv (fun (_ : Unit) => True) (zEndE D tys F A) A
def zME (l : Launch) (D : va_G) (tys : List (ClassId × FieldType)) (y : MethodName) (wsm : List Cond) (rm : Room) (wc : va_W) (av : List Value) (F : va_W → Prop) (mc ms : Nat) : Prop := ∀ sz : Nat, Met l y wsm rm (zPre D tys wc av sz) (zPE D tys F (va_A wc sz)) mc ms (va_A wc sz)
section ZN
variable {p : Program} {l : Launch} {e : Env} {R : Room} {s : State} {m : MethodId} {args : Array Value} {below : List Frame} {meth : Method} {c : Code} {cells slots : Nat} {Q : State → Prop}
variable {cc : ByteArray} {pc nL : Nat} {own : String} {Ts : List Cond} {D : va_G} {tys : List (ClassId × FieldType)} {A : Nat → Prop} {ws ws' : va_W} {lv lv' : List (Nat × Value)} {st rest : List Value}
theorem z_newa (X : zC p s m args c cc nL own Ts D tys A) {atype : ArrayType} {ty : FieldType} (hty : newarray.typeOf atype = ty) (harr : Cond.arrayClass ty ∈ Ts) (t0 : Nat) {cT : ClassId} (ht : tys[t0]? = some (cT, ty)) (huq : ∀ cA : ClassId, va_RA s cA ty → va_RA s cT ty → cA = cT) {n : Int} {N' : Nat} {a0 : vp_A} (ha : ∀ cA : ClassId, vp_cell cA a0 = arrV cA N' (fun _ => defaultValue ty)) (hn : 0 ≤ n) (hb : zB n) (hN : n.toNat = N') (hbytes : N' * componentBytes ty ≤ 536870912) (hf : cells + 1 ≤ R.cells ∧ slots + N' ≤ R.slots) (d : decode cc pc = .ok (.newarray atype, 2))
    (kk : ∀ q : Nat, zW p l e R s m args below meth c nL D A (cells + 1) (slots + N') Q (ws ++ [(q, .inl (cT, a0))]) (pc + 2) lv (.ref q :: rest)) : zW p l e R s m args below meth c nL D A cells slots Q ws pc lv (.int (iZ n) :: rest) := by
  intro H locs ls hP hD hS hv
  refine va_newa X.1 X.2.1 (by rw [hty]; exact X.2.2.2.2.1 _ harr) hty X.2.2.2.2.2.1 hP hD hS X.2.2.2.2.2.2.1 ha (fun q => by rw [← iZ_0, iZ_lt hb zB_0] at q; omega) (by rw [iZ_clamp hn hb]; exact hN) hbytes hf.1 hf.2 d (fun q cA H1 hK1 hP1 hD1 hS1 => ?_)
  have e : cA = cT := huq cA (hK1.2 tys.length (cA, ty) (by rw [List.getElem?_append_right (Nat.le_refl _), Nat.sub_self]; rfl)).2 (X.2.2.2.2.2.1.2 t0 _ ht).2
  subst e
  exact kk q H1 locs ls hP1 hD1 hS1 hv
theorem z_new (X : zC p s m args c cc nL own Ts D tys A) {C : String} {T : u_T} {N index : Nat} (ty : Nat → FieldType) (ci : Nat) (hty : ∀ k, k < N → parseFieldDescriptor (T k).2.2.1 = some (ty k)) (hin : ∀ w ∈ u_ws C T N, w ∈ Ts) (hcl : Cond.classLink own index C ∈ Ts) (hinst : Cond.instantiable C N ∈ Ts) (hini : Cond.initialized C ∈ Ts) (hc : vwCl[ci]? = some (C, T, N)) (fs : List Value) (hfs : ∀ j, j < N → defaultValue (ty j) = vp_V fs j) (hf : cells + 1 ≤ R.cells ∧ slots + N ≤ R.slots) (d : decode cc pc = .ok (.new index, 3))
    (kk : ∀ q : Nat, zW p l e R s m args below meth c nL D A (cells + 1) (slots + N) Q (ws ++ [(q, .inr (ci, fs))]) (pc + 3) lv (.ref q :: rest)) : zW p l e R s m args below meth c nL D A cells slots Q ws pc lv rest :=
  fun H locs ls hP hD hS hv => va_new X.1 X.2.1 X.2.2.2.2.1 hin ty hty X.2.2.2.1 (X.2.2.2.2.1 _ hcl) (X.2.2.2.2.1 _ hinst) (X.2.2.2.2.1 _ hini) X.2.2.2.2.2.1 hP hD hS X.2.2.2.2.2.2.1 hc hfs hf.1 hf.2 d (fun q H1 hP1 hD1 hS1 => kk q H1 locs ls hP1 hD1 hS1 hv)
theorem z_objInit (X : zC p s m args c cc nL own Ts D tys A) {idx a : Nat} (hlink : Cond.methodLink own idx Lib.objectInit ∈ Ts) (hinst : Cond.instanceMethod Lib.objectInit ∈ Ts) (hcode : Cond.code Lib.objectInit ⟨#[0xb1]⟩ 1 none ∈ Ts) (hR : 1 ≤ R.frames ∧ (rest.map fun v => v.category).sum + 12 ≤ R.locals) (d : decode cc pc = .ok (.invokespecial idx, 3))
    (kk : zW p l e R s m args below meth c nL D A cells slots Q ws (pc + 3) lv rest) : zW p l e R s m args below meth c nL D A cells slots Q ws pc lv (.ref a :: rest) :=
  fun H locs ls hP hD hS hv => W.objInit X.1 X.2.1 X.2.2.2.1 (X.2.2.2.2.1 _ hlink) (X.2.2.2.2.1 _ hinst) (X.2.2.2.2.1 _ hcode) rfl (hv.1.trans X.2.2.1.symm) rfl d hR.1 (by have := hR.2; show 2 * 0 + _ + 12 ≤ _; omega) (kk H locs ls hP hD hS hv)
theorem z_vretE (X : zC p s m args c cc nL own Ts D tys A) (hr : meth.sig.returnType = none) (hlocks : meth.locks = false) {F : va_W → Prop} (hw : F ws) (d : decode cc pc = .ok (.return_, 1)) : zW p l e R s m args below meth c nL D A cells slots (MQ below (zPE D tys F A) args s cells slots A) ws pc lv [] :=
  fun H locs ls hP hD hS hv => W.vret X.1 X.2.1 hr (fun t ht hW => ⟨⟨(), rfl, trivial, ws, hw, by rw [ht]; exact hP, va_K.moved hW.alike X.2.2.2.2.2.1, hD⟩, hS.F ht⟩) hS.2.2 d hlocks
section CallsN
variable {y : MethodName} {bytes : ByteArray} {maxL index n mc ms : Nat} {rm : Room} {wsm : List Cond} {wc w1 w2 : va_W} {b : Nat} {As : List Value} {F : va_W → Prop}
theorem z_callIE (X : zC p s m args c cc nL own Ts D tys A) (hM : zME l D tys y wsm rm wc (.ref b :: As) F mc ms) (cw : CallB R s args own index y bytes maxL none wsm rm mc ms n ∧ y.name = "<init>" ∧ (Cond.instanceMethod y).before args s = true) (hn : As.length = n) (w1 w2 : va_W) (hseg : ws = w1 ++ (wc ++ w2)) (rest : List Value) (hst : st = As.reverse ++ .ref b :: rest) (hcat : (rest.map fun v => v.category).sum ≤ 8) (d : decode cc pc = .ok (.invokespecial index, 3)) (hf : cells + mc ≤ R.cells ∧ slots + ms ≤ R.slots)
    (kk : ∀ w : va_W, F w → zW p l e R s m args below meth c nL D A (cells + mc) (slots + ms) Q (w1 ++ (w ++ w2)) (pc + 3) lv rest) : zW p l e R s m args below meth c nL D A cells slots Q ws pc lv st := by
  intro H locs ls hP hD hS hv
  subst hseg
  have hPc : va_P D vwCl wc H := hP.right.left
  have hDc : va_D A wc := hD.right.left
  have hF := z_free hD hS X.2.2.2.2.2.2.1
  refine va_callv (va_runI (As := As) (rest := rest) (z_fix X) (hM H.size) cw ⟨zPre_blind, fun U hU hW => ⟨rfl, by rw [hU], by rw [hU]; exact hPc, va_K.moved hW.alike X.2.2.2.2.2.1, hDc.weaken (fun _ _ _ _ => trivial), X.2.2.2.2.2.2.2.1.warm hW, by rw [hU]; exact X.2.2.2.2.2.2.2.2.to hS.2.1 hW.alike hF⟩⟩ rfl hn hv.1 hst (lv_room hcat) d hf) hS (fun q _ h => hF q h) hF (fun u t H1 locs1 ht hvm hr9 hB hz1 hk1 hS1 => ?_)
  obtain ⟨w, hFw, hP1, hK1, hD1⟩ := hB
  rw [ht] at hP1
  obtain ⟨hP2, hD2⟩ := z_join hP hD hk1 hF hP1 hD1
  exact kk w hFw H1 locs1 ls hP2 hD2 hS1 hv
theorem z_callINE {host : String} (X : zC p s m args c cc nL own Ts D tys A) (hM : zME l D tys y wsm rm wc (.ref b :: As) F mc ms) (cw : va_CN R s args own index y host bytes maxL none wsm rm mc ms n ∧ y.name = "<init>" ∧ (Cond.instanceMethod y).before args s = true) (hn : As.length = n) (w1 w2 : va_W) (hseg : ws = w1 ++ (wc ++ w2)) (rest : List Value) (hst : st = As.reverse ++ .ref b :: rest) (hcat : (rest.map fun v => v.category).sum ≤ 8) (d : decode cc pc = .ok (.invokespecial index, 3)) (hf : cells + mc ≤ R.cells ∧ slots + ms ≤ R.slots)
    (kk : ∀ w : va_W, F w → zW p l e R s m args below meth c nL D A (cells + mc) (slots + ms) Q (w1 ++ (w ++ w2)) (pc + 3) lv rest) : zW p l e R s m args below meth c nL D A cells slots Q ws pc lv st := by
  intro H locs ls hP hD hS hv
  subst hseg
  have hPc : va_P D vwCl wc H := hP.right.left
  have hDc : va_D A wc := hD.right.left
  have hF := z_free hD hS X.2.2.2.2.2.2.1
  refine va_callv (va_runIN (As := As) (rest := rest) (z_fix X) (hM H.size) cw ⟨zPre_blind, fun U hU hW => ⟨rfl, by rw [hU], by rw [hU]; exact hPc, va_K.moved hW.alike X.2.2.2.2.2.1, hDc.weaken (fun _ _ _ _ => trivial), X.2.2.2.2.2.2.2.1.warm hW, by rw [hU]; exact X.2.2.2.2.2.2.2.2.to hS.2.1 hW.alike hF⟩⟩ rfl hn hv.1 hst (lv_room hcat) d hf) hS (fun q _ h => hF q h) hF (fun u t H1 locs1 ht hvm hr9 hB hz1 hk1 hS1 => ?_)
  obtain ⟨w, hFw, hP1, hK1, hD1⟩ := hB
  rw [ht] at hP1
  obtain ⟨hP2, hD2⟩ := z_join hP hD hk1 hF hP1 hD1
  exact kk w hFw H1 locs1 ls hP2 hD2 hS1 hv
end CallsN
end ZN
theorem z_me {l : Launch} {y : MethodName} {ws ws' : List Cond} {rm : Room} {D : va_G} {tys : List (ClassId × FieldType)} {wc : va_W} {F : va_W → Prop} {av : List Value} {mc ms : Nat} {cc : ByteArray} {maxL : Nat} {ret : Option FieldType} (hy : plainName y.cls = true) (hw : ws = Cond.code y cc maxL ret :: ws') (hlen : (lg_sl av).length ≤ maxL)
    (body : ∀ (p : Program) (e : Env) (s : State) (m : MethodId) (below : List Frame) (meth : Method) (c : Code) (A : Nat → Prop), zC p s m av.toArray c cc maxL y.cls ws D tys A → meth.sig.returnType = ret → meth.locks = false → (y.name = "<init>" → meth.name = "<init>") → zW p l e rm s m av.toArray below meth c maxL D A 0 0 (MQ below (zPE D tys F A) av.toArray s mc ms A) wc 0 (lv_args 0 av) []) : zME l D tys y ws rm wc av F mc ms :=
  fun sz => z_body (Qc := fun A => zPE D tys F A) hy hw hlen body sz
