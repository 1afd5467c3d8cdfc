/-! THROWS: a contract of a call that throws, its ends, its catching -/
def zXC (D : va_G) (tys : List (ClassId × FieldType)) (wc : va_W) (E : String) (A : Nat → Prop) : String → State → State → Prop := vx_X (fun (_ : Unit) => True) (fun E9 _ t => E9 = E ∧ va_P D vwCl wc t.heap ∧ va_K D vwCl tys t ∧ va_D A wc) A
def zQxv (A : Nat → Prop) : Array Value → State → Outcome → State → Prop := va_Qv (fun (_ : Unit) => False) (fun _ _ => True) A
def zQxi (A : Nat → Prop) : Array Value → State → Outcome → State → Prop := va_Qi (fun (_ : Int32) (_ : Unit) => False) (fun _ _ => True) A
def zMxv (l : Launch) (D : va_G) (tys : List (ClassId × FieldType)) (y : MethodName) (wsm : List Cond) (rm : Room) (wc : va_W) (av : List Value) (E : String) : Prop := ∀ sz : Nat, vx_Met l y wsm rm (zPre D tys wc av sz) (zQxv (va_A wc sz)) (zXC D tys wc E (va_A wc sz)) 1 6 (va_A wc sz)
def zMxi (l : Launch) (D : va_G) (tys : List (ClassId × FieldType)) (y : MethodName) (wsm : List Cond) (rm : Room) (wc : va_W) (av : List Value) (E : String) : Prop := ∀ sz : Nat, vx_Met l y wsm rm (zPre D tys wc av sz) (zQxi (va_A wc sz)) (zXC D tys wc E (va_A wc sz)) 1 6 (va_A wc sz)
section ZX
variable {p : Program} {l : Launch} {e : Env} {R : Room} {s : State} {m : MethodId} {args : Array Value} {below : List Frame} {meth : Method} {c : Code} {cells slots : Nat} {Q : State → Prop}
variable {cc : ByteArray} {pc nL : Nat} {own : String} {Ts : List Cond} {D : va_G} {tys : List (ClassId × FieldType)} {A : Nat → Prop} {ws ws' : va_W} {lv lv' : List (Nat × Value)} {st rest : List Value} {E : String}
def zXW (p : Program) (l : Launch) (e : Env) (R : Room) (s : State) (m : MethodId) (args : Array Value) (below : List Frame) (meth : Method) (c : Code) (nL : Nat) (D : va_G) (A : Nat → Prop) (cells slots : Nat) (Q : State → Prop) (ws : va_W) (pc : Nat) (lv : List (Nat × Value)) (rest : List Value) (E : String) : Prop :=
  ∀ (H : Heap) (locs : List Loc) (ls : Array Slot) (q : Addr) (ce : Cell), va_P D vwCl ws H → va_D A ws → va_S A s.heap H locs → lv_has ls nL lv → H[q]? = some ce → ce.vm = .none → s.vm.findClass E = some ce.cls → vx_W p l e R s m args below meth c H locs cells slots Q (F0 m pc ls rest) q
theorem z_xout (hlk : meth.locks = false) (hnt : ∀ x ∈ c.exceptionTable.toList, False) (X : zC p s m args c cc nL own Ts D tys A) {Qc : Array Value → State → Outcome → State → Prop} {mc ms : Nat} (hc : cells ≤ mc ∧ slots ≤ ms) : zXW p l e R s m args below meth c nL D A cells slots (vx_MQ below Qc (zXC D tys ws E A) args s mc ms A) ws pc lv rest E :=
  fun H locs ls q ce hP hD hS hv h1 h2 h3 => vx_out (fun x hx => (hnt x hx).elim) hlk h1 h2 h3 (fun t ht hvm => ⟨(), trivial, ⟨rfl, by rw [ht]; exact hP, va_K.moved hvm X.2.2.2.2.2.1, hD⟩, hS.F ht⟩) hS.2.2 hc.1 hc.2
theorem z_xcatch (X : zC p s m args c cc nL own Ts D tys A) {name : String} (pre : List ExceptionTableEntry) (x : ExceptionTableEntry) (suf : List ExceptionTableEntry) (hsplit : c.exceptionTable.toList = pre ++ x :: suf) (hpass : ∀ z ∈ pre, z.catchType ≠ 0 ∧ ∃ nm : String, Cond.classLink own z.catchType nm ∈ Ts ∧ va_Nc E nm s) (hx : covers x pc = true) (h0 : x.catchType ≠ 0) (hlink : Cond.classLink own x.catchType name ∈ Ts) (hcast : va_Nw (.castable E name) s)
    (kk : ∀ q : Nat, zW p l e R s m args below meth c nL D A cells slots Q ws x.handlerPc lv [.ref q]) : zXW p l e R s m args below meth c nL D A cells slots Q ws pc lv rest E :=
  fun H locs ls q ce hP hD hS hv h1 h2 h3 => vx_catch X.2.2.2.1 pre x suf hsplit (fun z hz => Or.inr ⟨(hpass z hz).1, by obtain ⟨nm, a, b⟩ := (hpass z hz).2; exact ⟨nm, X.2.2.2.2.1 _ a, b⟩⟩) hx h0 (X.2.2.2.2.1 _ hlink) (va_Nw.use rfl hcast) h1 h2 h3 (kk q H locs ls hP hD hS hv)
theorem z_top {x y : Int32} (h : x = y) (kk : zW p l e R s m args below meth c nL D A cells slots Q ws pc lv (.int y :: st)) : zW p l e R s m args below meth c nL D A cells slots Q ws pc lv (.int x :: st) := h ▸ kk
theorem z_ishr (X : zC p s m args c cc nL own Ts D tys A) {x y : Int32} (d : decode cc pc = .ok (.ishr, 1))
    (kk : zW p l e R s m args below meth c nL D A cells slots Q ws (pc + 1) lv (.int (x >>> (y &&& 31)) :: st)) : zW p l e R s m args below meth c nL D A cells slots Q ws pc lv (.int y :: .int x :: st) :=
  fun H locs ls hP hD hS hv => lv_ishr X.1 X.2.1 d (kk H locs ls hP hD hS hv)
theorem z_iand (X : zC p s m args c cc nL own Ts D tys A) {x y : Int32} (d : decode cc pc = .ok (.iand, 1))
    (kk : zW p l e R s m args below meth c nL D A cells slots Q ws (pc + 1) lv (.int (x &&& y) :: st)) : zW p l e R s m args below meth c nL D A cells slots Q ws pc lv (.int y :: .int x :: st) :=
  fun H locs ls hP hD hS hv => lv_iand X.1 X.2.1 d (kk H locs ls hP hD hS hv)
theorem z_tsw (X : zC p s m args c cc nL own Ts D tys A) {a dflt lo hi : Int} {offs : Array Int} {len : Nat} (off : Int) (tgt : Nat) (hb : zB a) (h1 : lo ≤ a) (h2 : a ≤ hi) (ho : offs[(a - lo).toNat]? = some off) (ht : (pc : Int) + off = (tgt : Int)) (d : decode cc pc = .ok (.tableswitch dflt lo hi offs, len))
    (kk : zW p l e R s m args below meth c nL D A cells slots Q ws tgt lv st) : zW p l e R s m args below meth c nL D A cells slots Q ws pc lv (.int (iZ a) :: st) :=
  fun H locs ls hP hD hS hv => lv_tableIn X.1 X.2.1 d (by rw [iZ_toInt hb]; omega) (by rw [iZ_toInt hb]; omega) (by rw [iZ_toInt hb]; exact ho) ht (kk H locs ls hP hD hS hv)
theorem z_tswO (X : zC p s m args c cc nL own Ts D tys A) {a dflt lo hi : Int} {offs : Array Int} {len : Nat} (tgt : Nat) (hb : zB a) (h : a < lo ∨ hi < a) (ht : (pc : Int) + dflt = (tgt : Int)) (d : decode cc pc = .ok (.tableswitch dflt lo hi offs, len))
    (kk : zW p l e R s m args below meth c nL D A cells slots Q ws tgt lv st) : zW p l e R s m args below meth c nL D A cells slots Q ws pc lv (.int (iZ a) :: st) :=
  fun H locs ls hP hD hS hv => lv_tableOut X.1 X.2.1 d (by rw [iZ_toInt hb]; exact h) ht (kk H locs ls hP hD hS hv)
section CallsX
variable {y : MethodName} {bytes : ByteArray} {maxL index n : Nat} {rm : Room} {wsm : List Cond} {wc : va_W} {b : Nat} {As : List Value} {C : String} {T : u_T} {N : Nat} {fs : List Value} {ret : Option FieldType}
theorem z_callxvs (X : zC p s m args c cc nL own Ts D tys A) (hM : zMxv l D tys y wsm rm wc As E) (cw : CallB R s args own index y bytes maxL ret wsm rm 1 6 n ∧ (Cond.static y).before args s = true) (hn : As.length = n) (w1 w2 : va_W) (hseg : ws = w1 ++ (wc ++ w2)) (rest : List Value) (hst : st = As.reverse ++ rest) (hcat : (rest.map fun v => v.category).sum ≤ 8) (d : decode cc pc = .ok (.invokestatic index, 3)) (hf : cells + 1 ≤ R.cells ∧ slots + 6 ≤ R.slots)
    (kx : zXW p l e R s m args below meth c nL D A (cells + 1) (slots + 6) Q ws pc lv rest E) : zW p l e R s m args below meth c nL D A cells slots Q ws pc lv st := by
  intro H locs ls hP hD hS hv
  subst hseg
  have hPc : va_P D vwCl wc H := hP.right.left
  have hDc : va_D A wc := hD.right.left
  have hF := z_free hD hS X.2.2.2.2.2.2.1
  refine vx_callv (vx_runS (As := As) (rest := rest) (z_fix X) (hM H.size) cw ⟨zPre_blind, fun U hU hW => ⟨rfl, by rw [hU], by rw [hU]; exact hPc, va_K.moved hW.alike X.2.2.2.2.2.1, hDc.weaken (fun _ _ _ _ => trivial), X.2.2.2.2.2.2.2.1.warm hW, by rw [hU]; exact X.2.2.2.2.2.2.2.2.to hS.2.1 hW.alike hF⟩⟩ rfl hn hv.1 hst (lv_room hcat) d hf) hS (fun q _ h => hF q h) hF (fun q _ h => hF q h) (fun E9 ce q9 u t H1 locs1 ht hvm _ hB hz1 hk1 hS1 h1 h2 h3 => ?_) (fun u t H1 locs1 ht hvm hbad => hbad.elim)
  obtain ⟨rfl, hP1, hK1, hD1⟩ := hB
  rw [ht] at hP1
  obtain ⟨hP2, hD2⟩ := z_join hP hD hk1 hF hP1 hD1
  exact kx H1 locs1 ls q9 ce hP2 hD2 hS1 hv h1 h2 h3
theorem z_callxv (X : zC p s m args c cc nL own Ts D tys A) (hM : zMxv l D tys y wsm rm wc (.ref b :: As) E) (cw : CallW R s args own C index y bytes maxL ret wsm rm 1 6 n) (hn : As.length = n) (w1 w2 : va_W) (hseg : ws = w1 ++ (wc ++ w2)) (ci q0 : Nat) (hci : vwCl[ci]? = some (C, T, N)) (he : ws[q0]? = some (b, .inr (ci, fs))) (rest : List Value) (hst : st = As.reverse ++ .ref b :: rest) (hcat : (rest.map fun v => v.category).sum ≤ 8) (d : decode cc pc = .ok (.invokevirtual index, 3)) (hf : cells + 1 ≤ R.cells ∧ slots + 6 ≤ R.slots)
    (kx : zXW p l e R s m args below meth c nL D A (cells + 1) (slots + 6) Q ws pc lv rest E) : zW p l e R s m args below meth c nL D A cells slots Q ws pc lv st := by
  intro H locs ls hP hD hS hv
  have hrec := va_recv X.2.2.2.2.2.1 hP hci he
  subst hseg
  have hPc : va_P D vwCl wc H := hP.right.left
  have hDc : va_D A wc := hD.right.left
  have hF := z_free hD hS X.2.2.2.2.2.2.1
  refine vx_callv (vx_runV (As := As) (rest := rest) (z_fix X) (hM H.size) cw ⟨zPre_blind, hrec, fun U hU hW => ⟨rfl, by rw [hU], by rw [hU]; exact hPc, va_K.moved hW.alike X.2.2.2.2.2.1, hDc.weaken (fun _ _ _ _ => trivial), X.2.2.2.2.2.2.2.1.warm hW, by rw [hU]; exact X.2.2.2.2.2.2.2.2.to hS.2.1 hW.alike hF⟩⟩ rfl hn hv.1 hst (lv_room hcat) d hf) hS (fun q _ h => hF q h) hF (fun q _ h => hF q h) (fun E9 ce q9 u t H1 locs1 ht hvm _ hB hz1 hk1 hS1 h1 h2 h3 => ?_) (fun u t H1 locs1 ht hvm hbad => hbad.elim)
  obtain ⟨rfl, hP1, hK1, hD1⟩ := hB
  rw [ht] at hP1
  obtain ⟨hP2, hD2⟩ := z_join hP hD hk1 hF hP1 hD1
  exact kx H1 locs1 ls q9 ce hP2 hD2 hS1 hv h1 h2 h3
theorem z_callxi (X : zC p s m args c cc nL own Ts D tys A) (hM : zMxi l D tys y wsm rm wc (.ref b :: As) E) (cw : CallW R s args own C index y bytes maxL ret wsm rm 1 6 n) (hn : As.length = n) (w1 w2 : va_W) (hseg : ws = w1 ++ (wc ++ w2)) (ci q0 : Nat) (hci : vwCl[ci]? = some (C, T, N)) (he : ws[q0]? = some (b, .inr (ci, fs))) (rest : List Value) (hst : st = As.reverse ++ .ref b :: rest) (hcat : (rest.map fun v => v.category).sum ≤ 8) (d : decode cc pc = .ok (.invokevirtual index, 3)) (hf : cells + 1 ≤ R.cells ∧ slots + 6 ≤ R.slots)
    (kx : zXW p l e R s m args below meth c nL D A (cells + 1) (slots + 6) Q ws pc lv rest E) : zW p l e R s m args below meth c nL D A cells slots Q ws pc lv st := by
  intro H locs ls hP hD hS hv
  have hrec := va_recv X.2.2.2.2.2.1 hP hci he
  subst hseg
  have hPc : va_P D vwCl wc H := hP.right.left
  have hDc : va_D A wc := hD.right.left
  have hF := z_free hD hS X.2.2.2.2.2.2.1
  refine vx_calli (vx_runV (As := As) (rest := rest) (z_fix X) (hM H.size) cw ⟨zPre_blind, hrec, fun U hU hW => ⟨rfl, by rw [hU], by rw [hU]; exact hPc, va_K.moved hW.alike X.2.2.2.2.2.1, hDc.weaken (fun _ _ _ _ => trivial), X.2.2.2.2.2.2.2.1.warm hW, by rw [hU]; exact X.2.2.2.2.2.2.2.2.to hS.2.1 hW.alike hF⟩⟩ rfl hn hv.1 hst (lv_room hcat) d hf) hS (fun q _ h => hF q h) hF (fun q _ h => hF q h) (fun E9 ce q9 u t H1 locs1 ht hvm _ hB hz1 hk1 hS1 h1 h2 h3 => ?_) (fun r u t H1 locs1 ht hvm hbad => hbad.elim)
  obtain ⟨rfl, hP1, hK1, hD1⟩ := hB
  rw [ht] at hP1
  obtain ⟨hP2, hD2⟩ := z_join hP hD hk1 hF hP1 hD1
  exact kx H1 locs1 ls q9 ce hP2 hD2 hS1 hv h1 h2 h3
end CallsX
def zNm : List String := ["java/lang/RuntimeException", "java/lang/Exception"]
def zNg (cls : String) : List Cond := [.declares ⟨"java/lang/RuntimeException", "<init>", "(Ljava/lang/String;)V"⟩, .declares ⟨"java/lang/Exception", "<init>", "(Ljava/lang/String;)V"⟩, .declares ⟨"java/lang/Throwable", "<init>", "(Ljava/lang/String;)V"⟩, .castable cls cls]
theorem z_throw (hl : l.stackTraces = false) (hlk : meth.locks = false) (hnt : ∀ x ∈ c.exceptionTable.toList, False) (X : zC p s m args c cc nL own Ts D tys A) {Qc : Array Value → State → Outcome → State → Prop} {mc ms ik is ic : Nat} {cls text : String} (hcls : Bundle.fit cls = true ∧ ∀ n ∈ zNm, Bundle.fit n = true) (hk : Cond.classLink own ik cls ∈ Ts) (hini : Cond.initialized cls ∈ Ts) (hstr : ∃ a : Nat, vk_R own is text a s) (hcast : va_Nw (.castable cls cls) s) (hat : ∀ w ∈ (vx_atS own ic cls zNm).filter goodWord, w ∈ Ts) (hng : ∀ w ∈ (vx_atS own ic cls zNm).filter (fun w => !goodWord w), w ∈ zNg cls) (hgood : ∀ w ∈ Cond.classLink own ik cls :: Cond.initialized cls :: vx_atS own ic cls zNm, vx_ot w = true)
    (d0 : decode cc pc = .ok (.new ik, 3)) (d3 : decode cc (pc + 3) = .ok (.dup, 1)) (d4 : decode cc (pc + 4) = .ok (.ldc is, 2)) (d6 : decode cc (pc + 6) = .ok (.invokespecial ic, 3)) (d9 : decode cc (pc + 9) = .ok (.athrow, 1))
    (hR : 5 < R.frames ∧ (rest.map fun v => v.category).sum + 82 ≤ R.locals ∧ cells + 1 ≤ R.cells ∧ slots + 6 ≤ R.slots) (hc : cells + 1 ≤ mc ∧ slots + 6 ≤ ms) : zW p l e R s m args below meth c nL D A cells slots (vx_MQ below Qc (zXC D tys ws cls A) args s mc ms A) ws pc lv rest := by
  intro H locs ls hP hD hS hv
  obtain ⟨sa, hsa⟩ := hstr
  refine vx_throwS X.1 X.2.1 hl (names := zNm) X.2.2.2.1 hcls.1 hcls.2 (X.2.2.2.2.1 _ hk) (X.2.2.2.2.1 _ hini) hsa (vx_hat (fun w hw => X.2.2.2.2.1 _ (hat w hw)) hng ?_) hgood X.2.2.2.2.2.2.2.2.1 X.2.2.2.2.2.2.2.2.2 hS (hv.1.trans X.2.2.1.symm) d0 d3 d4 d6 d9 (fun x hx => (hnt x hx).elim) hR.1 hR.2.1 hR.2.2.1 hR.2.2.2 hlk (fun t hvm h1 h2 => ⟨(), trivial, ⟨rfl, hP.kept (fun k q hq => h2 q.1 (hP k q hq).lt), va_K.moved hvm X.2.2.2.2.2.1, hD⟩, Nat.le_trans hS.1 h1, fun q a b => (h2 q (Nat.lt_of_lt_of_le a hS.1)).trans (hS.2.1 q a b)⟩) hS.2.2 hc.1 hc.2
  exact vx_c (va_Nw.use rfl X.2.2.2.2.2.2.2.1.d0) (vx_c (va_Nw.use rfl X.2.2.2.2.2.2.2.1.d1) (vx_c (va_Nw.use rfl X.2.2.2.2.2.2.2.1.d2) (vx_c (va_Nw.use rfl hcast) vx_n)))
end ZX
theorem z_bodyX {l : Launch} {y : MethodName} {ws ws' : List Cond} {rm : Room} {D : va_G} {tys : List (ClassId × FieldType)} {wc : va_W} {av : List Value} {E : String} {Qc : (Nat → Prop) → Array Value → State → Outcome → State → Prop} {cc : ByteArray} {maxL : Nat} {ret : Option FieldType} (hy : plainName y.cls = true) (hw : ws = Cond.code y cc maxL ret :: ws') (hlen : (lg_sl av).length ≤ maxL)
    (body : ∀ (p : Program) (e : Env) (s : State) (m : MethodId) (below : List Frame) (meth : Method) (c : Code) (A : Nat → Prop), zC p s m av.toArray c cc maxL y.cls ws D tys A → meth.locks = false → (∀ x ∈ c.exceptionTable.toList, False) → zW p l e rm s m av.toArray below meth c maxL D A 0 0 (vx_MQ below (Qc A) (zXC D tys wc E A) av.toArray s 1 6 A) wc 0 (lv_args 0 av) []) (sz : Nat) : vx_Met l y ws rm (zPre D tys wc av sz) (Qc (va_A wc sz)) (zXC D tys wc E (va_A wc sz)) 1 6 (va_A wc sz) := by
  refine vx_ofW (cc := cc) (maxL := maxL) (ret := ret) hy hw ?_
  intro p e s m args below meth c s₁ B hml hnt hv
  obtain ⟨rfl, hsz, hP, hK, hD0, hG, hH⟩ := hv
  subst hsz
  have hA : ∀ q : Nat, s.heap.size ≤ q → va_A wc s.heap.size q := fun q h => Or.inr h
  have h := body p e s m below meth c (va_A wc s.heap.size) ⟨B.exec, B.bytes, hml, findClass_of_methodNamed B.named, atoms_spec (ws := ws) B.pre, hK, hA, hG, hH⟩ B.notSynchronized hnt
  have hl := lv_entry av hlen
  rw [lg_entry_eq]
  exact h s.heap [] _ hP hD0.self va_S.rf hl
theorem z_mxv {l : Launch} {y : MethodName} {ws ws' : List Cond} {rm : Room} {D : va_G} {tys : List (ClassId × FieldType)} {wc : va_W} {av : List Value} {E : String} {cc : ByteArray} {maxL : Nat} {ret : Option FieldType} (hy : plainName y.cls = true) (hw : ws = Cond.code y cc maxL ret :: ws') (hlen : (lg_sl av).length ≤ maxL)
    (body : ∀ (p : Program) (e : Env) (s : State) (m : MethodId) (below : List Frame) (meth : Method) (c : Code) (A : Nat → Prop), zC p s m av.toArray c cc maxL y.cls ws D tys A → meth.locks = false → (∀ x ∈ c.exceptionTable.toList, False) → zW p l e rm s m av.toArray below meth c maxL D A 0 0 (vx_MQ below (zQxv A) (zXC D tys wc E A) av.toArray s 1 6 A) wc 0 (lv_args 0 av) []) : zMxv l D tys y ws rm wc av E :=
  fun sz => z_bodyX (Qc := fun A => zQxv A) hy hw hlen body sz
theorem z_mxi {l : Launch} {y : MethodName} {ws ws' : List Cond} {rm : Room} {D : va_G} {tys : List (ClassId × FieldType)} {wc : va_W} {av : List Value} {E : String} {cc : ByteArray} {maxL : Nat} {ret : Option FieldType} (hy : plainName y.cls = true) (hw : ws = Cond.code y cc maxL ret :: ws') (hlen : (lg_sl av).length ≤ maxL)
    (body : ∀ (p : Program) (e : Env) (s : State) (m : MethodId) (below : List Frame) (meth : Method) (c : Code) (A : Nat → Prop), zC p s m av.toArray c cc maxL y.cls ws D tys A → meth.locks = false → (∀ x ∈ c.exceptionTable.toList, False) → zW p l e rm s m av.toArray below meth c maxL D A 0 0 (vx_MQ below (zQxi A) (zXC D tys wc E A) av.toArray s 1 6 A) wc 0 (lv_args 0 av) []) : zMxi l D tys y ws rm wc av E :=
  fun sz => z_bodyX (Qc := fun A => zQxi A) hy hw hlen body sz
/-- a method with a table of its own that returns -/
theorem z_miW {l : Launch} {y : MethodName} {ws ws' : List Cond} {rm : Room} {D : va_G} {tys : List (ClassId × FieldType)} {wc wc' : va_W} {av : List Value} {r : Int} {mc ms : Nat} {cc : ByteArray} {maxL : Nat} {ret : Option FieldType} {hh : List (Nat × Nat × Nat × Nat)} (hy : plainName y.cls = true) (hw : ws = Cond.codeWith y cc maxL ret hh :: ws') (hlen : (lg_sl av).length ≤ maxL)
    (body : ∀ (p : Program) (e : Env) (s : State) (m : MethodId) (below : List Frame) (meth : Method) (c : Code) (A : Nat → Prop), zC p s m av.toArray c cc maxL y.cls ws D tys A → meth.sig.returnType = ret → meth.locks = false → c.exceptionTable.toList = tableOf hh → zW p l e rm s m av.toArray below meth c maxL D A 0 0 (MQ below (zPi D tys wc' r A) av.toArray s mc ms A) wc 0 (lv_args 0 av) []) : zMi l D tys y ws rm wc av r wc' mc ms := by
  intro sz
  refine va_MetW (cc := cc) (maxL := maxL) (ret := ret) (hh := hh) hy hw ?_
  intro p e s m args below meth c s₁ B hml hv
  obtain ⟨rfl, hsz, hP, hK, hD0, hG, hH⟩ := hv
  subst hsz
  have hA : ∀ q : Nat, s.heap.size ≤ q → va_A wc s.heap.size q := fun q h => Or.inr h
  have hpre := atoms_spec (ws := ws) B.pre
  have h := body p e s m below meth c (va_A wc s.heap.size) ⟨B.exec, B.bytes, hml, findClass_of_methodNamed B.named, hpre, hK, hA, hG, hH⟩ B.returns B.notSynchronized (vx_table (x := y) B (hpre _ (by rw [hw]; exact List.mem_cons_self)))
  have hl := lv_entry av hlen
  rw [lg_entry_eq]
  exact h s.heap [] _ hP hD0.self va_S.rf hl
/-! the three classes of the document: what a throw of theirs asks of the tables -/
theorem zft_0 : Bundle.fit "java/lang/IndexOutOfBoundsException" = true ∧ ∀ n ∈ zNm, Bundle.fit n = true := by decide +kernel
theorem zng_0 : ∀ w ∈ (vx_atS RX1 143 "java/lang/IndexOutOfBoundsException" zNm).filter (fun w => !goodWord w), w ∈ zNg "java/lang/IndexOutOfBoundsException" := by decide +kernel
theorem zgo_0 : ∀ w ∈ Cond.classLink RX1 139 "java/lang/IndexOutOfBoundsException" :: Cond.initialized "java/lang/IndexOutOfBoundsException" :: vx_atS RX1 143 "java/lang/IndexOutOfBoundsException" zNm, vx_ot w = true := by decide +kernel
theorem zft_1 : Bundle.fit "java/lang/IllegalArgumentException" = true ∧ ∀ n ∈ zNm, Bundle.fit n = true := by decide +kernel
theorem zng_1 : ∀ w ∈ (vx_atS RX1 85 "java/lang/IllegalArgumentException" zNm).filter (fun w => !goodWord w), w ∈ zNg "java/lang/IllegalArgumentException" := by decide +kernel
theorem zgo_1 : ∀ w ∈ Cond.classLink RX1 81 "java/lang/IllegalArgumentException" :: Cond.initialized "java/lang/IllegalArgumentException" :: vx_atS RX1 85 "java/lang/IllegalArgumentException" zNm, vx_ot w = true := by decide +kernel
theorem zft_2 : Bundle.fit "java/lang/IllegalStateException" = true ∧ ∀ n ∈ zNm, Bundle.fit n = true := by decide +kernel
theorem zng_2 : ∀ w ∈ (vx_atS RX1 92 "java/lang/IllegalStateException" zNm).filter (fun w => !goodWord w), w ∈ zNg "java/lang/IllegalStateException" := by decide +kernel
theorem zgo_2 : ∀ w ∈ Cond.classLink RX1 88 "java/lang/IllegalStateException" :: Cond.initialized "java/lang/IllegalStateException" :: vx_atS RX1 92 "java/lang/IllegalStateException" zNm, vx_ot w = true := by decide +kernel
