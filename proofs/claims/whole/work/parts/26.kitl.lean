/-! WHAT THE LAW USES BESIDE: longs, its script, calls of its own helpers -/
section ZL
variable {p : Program} {l : Launch} {e : Env} {R : Room} {s : State} {m : MethodId} {args : Array Value} {below : List Frame} {meth : Method} {c : Code} {cells slots : Nat} {Q : State → Prop}
variable {cc : ByteArray} {pc nL : Nat} {own : String} {Ts : List Cond} {D : va_G} {tys : List (ClassId × FieldType)} {A : Nat → Prop} {ws ws' : va_W} {lv lv' : List (Nat × Value)} {st rest : List Value}
theorem z_i2l (X : zC p s m args c cc nL own Ts D tys A) {x : Int32} (d : decode cc pc = .ok (.i2l, 1))
    (kk : zW p l e R s m args below meth c nL D A cells slots Q ws (pc + 1) lv (.long x.toInt64 :: st)) : zW p l e R s m args below meth c nL D A cells slots Q ws pc lv (.int x :: st) :=
  fun H locs ls hP hD hS hv => lv_i2l X.1 X.2.1 d rfl (kk H locs ls hP hD hS hv)
theorem z_lconst (X : zC p s m args c cc nL own Ts D tys A) {n : Fin 2} {v : Int64} (hv1 : Int64.ofNat (n : Nat) = v) (d : decode cc pc = .ok (.lconst n, 1))
    (kk : zW p l e R s m args below meth c nL D A cells slots Q ws (pc + 1) lv (.long v :: st)) : zW p l e R s m args below meth c nL D A cells slots Q ws pc lv st :=
  fun H locs ls hP hD hS hv => lv_lconst X.1 X.2.1 d hv1 (kk H locs ls hP hD hS hv)
theorem z_lcmp (X : zC p s m args c cc nL own Ts D tys A) {x y : Int64} (d : decode cc pc = .ok (.lcmp, 1))
    (kk : zW p l e R s m args below meth c nL D A cells slots Q ws (pc + 1) lv (.int (lg_cmp x y) :: st)) : zW p l e R s m args below meth c nL D A cells slots Q ws pc lv (.long y :: .long x :: st) :=
  fun H locs ls hP hD hS hv => W.lcmp X.1 X.2.1 d (kk H locs ls hP hD hS hv)
theorem z_last (X : zC p s m args c cc nL own Ts D tys A) (q0 t0 : Nat) {a n : Nat} {cA : ClassId} {f : Nat → Int64} {v : Int64} {i : Int} (ws' : va_W) (ha : ws[q0]? = some (a, .inl (cA, n, .inr (.inl f)))) (ht : tys[t0]? = some (cA, .long)) (h0 : 0 ≤ i) (h1 : i < n) (hb : zB i) (hw : ws.set q0 (a, .inl (cA, n, .inr (.inl (vp_updL f (iZ i).toNatClampNeg v)))) = ws') (d : decode cc pc = .ok (.lastore, 1))
    (kk : zW p l e R s m args below meth c nL D A cells slots Q ws' (pc + 1) lv st) : zW p l e R s m args below meth c nL D A cells slots Q ws pc lv (.long v :: .int (iZ i) :: .ref a :: st) := by
  subst hw
  exact fun H locs ls hP hD hS hv => va_last X.1 X.2.1 X.2.2.2.2.2.1 hP hD hS q0 t0 ha ht (iZ_in h0 h1 hb) d (fun H1 locs1 hP1 hD1 hS1 => kk H1 locs1 ls hP1 hD1 hS1 hv)
theorem z_lald (X : zC p s m args c cc nL own Ts D tys A) (q0 t0 : Nat) {a n : Nat} {cA : ClassId} {f : Nat → Int64} {i : Int} (ha : ws[q0]? = some (a, .inl (cA, n, .inr (.inl f)))) (ht : tys[t0]? = some (cA, .long)) (h0 : 0 ≤ i) (h1 : i < n) (hb : zB i) (d : decode cc pc = .ok (.laload, 1))
    (kk : zW p l e R s m args below meth c nL D A cells slots Q ws (pc + 1) lv (.long (f (iZ i).toNatClampNeg) :: st)) : zW p l e R s m args below meth c nL D A cells slots Q ws pc lv (.int (iZ i) :: .ref a :: st) :=
  fun H locs ls hP hD hS hv => va_lald X.1 X.2.1 X.2.2.2.2.2.1 hP q0 t0 ha ht (iZ_in h0 h1 hb) d (kk H locs ls hP hD hS hv)
theorem z_sld (X : zC p s m args c cc nL own Ts D tys A) {b L : Nat} {xs : Nat → Int32} (hX : va_X b L xs s s.heap) (hbl : b < s.heap.size) (hbA : ¬ A b) {i : Int} (h0 : 0 ≤ i) (h1 : i < L) (hb : zB i) (d : decode cc pc = .ok (.iaload, 1))
    (kk : zW p l e R s m args below meth c nL D A cells slots Q ws (pc + 1) lv (.int (xs i.toNat) :: st)) : zW p l e R s m args below meth c nL D A cells slots Q ws pc lv (.int (iZ i) :: .ref b :: st) :=
  fun H locs ls hP hD hS hv => va_sld X.1 X.2.1 hX hbl hbA hS (iZ_in h0 h1 hb) d (by rw [iZ_clamp h0 hb]; exact kk H locs ls hP hD hS hv)
theorem z_slen (X : zC p s m args c cc nL own Ts D tys A) {b L : Nat} {xs : Nat → Int32} (hX : va_X b L xs s s.heap) (hbl : b < s.heap.size) (hbA : ¬ A b) (d : decode cc pc = .ok (.arraylength, 1))
    (kk : zW p l e R s m args below meth c nL D A cells slots Q ws (pc + 1) lv (.int (iZ (L : Int)) :: st)) : zW p l e R s m args below meth c nL D A cells slots Q ws pc lv (.ref b :: st) :=
  fun H locs ls hP hD hS hv => va_slen X.1 X.2.1 hX hbl hbA hS d (kk H locs ls hP hD hS hv)
theorem z_icmpR_eq (X : zC p s m args c cc nL own Ts D tys A) {x y : Int32} {off : Int} {tgt : Nat} (ht : (pc : Int) + off = (tgt : Int)) (hxy : x = y) (d : decode cc pc = .ok (.if_icmp .eq off, 3))
    (kt : zW p l e R s m args below meth c nL D A cells slots Q ws tgt lv st) : zW p l e R s m args below meth c nL D A cells slots Q ws pc lv (.int y :: .int x :: st) :=
  fun H locs ls hP hD hS hv => lv_icmp_eq X.1 X.2.1 d ht (fun _ => kt H locs ls hP hD hS hv) (fun q => absurd hxy q)
theorem z_perm (is : List Nat) (hs : is.filterMap (fun i => ws[i]?) = ws') (hm : is.map (fun i => ws[i]?) = ws'.map some) (hn : va_nd is = true) (kk : zW p l e R s m args below meth c nL D A cells slots Q ws' pc lv st) : zW p l e R s m args below meth c nL D A cells slots Q ws pc lv st :=
  fun H locs ls hP hD hS hv => kk H locs ls (hP.sub is hs) (hD.sub is hn hm) hS hv
section CallsW
variable {y : MethodName} {bytes : ByteArray} {maxL index n mc ms : Nat} {rm : Room} {wsm : List Cond} {wc wc' w1 w2 : va_W} {As : List Value} {r : Int} {ret : Option FieldType} {hh : List (Nat × Nat × Nat × Nat)}
theorem z_calliW (X : zC p s m args c cc nL own Ts D tys A) (hM : zMi l D tys y wsm rm wc As r wc' mc ms) (cw : vx_CSW R s args own index y bytes maxL ret hh wsm rm mc ms n) (hn : As.length = n) (w1 w2 : va_W) (hseg : ws = w1 ++ (wc ++ w2)) (rest : List Value) (hst : st = As.reverse ++ rest) (hcat : (rest.map fun v => v.category).sum ≤ 8) (d : decode cc pc = .ok (.invokestatic index, 3)) (hf : cells + mc ≤ R.cells ∧ slots + ms ≤ R.slots) (hw : w1 ++ (wc' ++ w2) = ws')
    (kk : zW p l e R s m args below meth c nL D A (cells + mc) (slots + ms) Q ws' (pc + 3) lv (.int (iZ r) :: rest)) : zW p l e R s m args below meth c nL D A cells slots Q ws pc lv st := by
  intro H locs ls hP hD hS hv
  subst hseg
  have hPc : va_P D vwCl wc H := hP.right.left
  have hDc : va_D A wc := hD.right.left
  have hF := z_free hD hS X.2.2.2.2.2.2.1
  refine va_calli (vx_runSW (As := As) (rest := rest) (z_fix X) (hM H.size) cw ⟨zPre_blind, fun U hU hW => ⟨rfl, by rw [hU], by rw [hU]; exact hPc, va_K.moved hW.alike X.2.2.2.2.2.1, hDc.weaken (fun _ _ _ _ => trivial), X.2.2.2.2.2.2.2.1.warm hW, by rw [hU]; exact X.2.2.2.2.2.2.2.2.to hS.2.1 hW.alike hF⟩⟩ rfl hn hv.1 hst (lv_room hcat) d hf) hS (fun q _ h => hF q h) hF (fun r9 u t H1 locs1 ht hvm hr9 hB hz1 hk1 hS1 => ?_)
  obtain ⟨hP1, hK1, hD1⟩ := hB
  rw [ht] at hP1
  obtain ⟨hP2, hD2⟩ := z_join hP hD hk1 hF hP1 hD1
  subst hw
  rw [hr9]
  exact kk H1 locs1 ls hP2 hD2 hS1 hv
end CallsW
end ZL
/-- the answer row -/
def Ow (ao : Nat) (cL : ClassId) (f : Nat → Int64) : va_W := [(ao, .inl (cL, 1, .inr (.inl f)))]
theorem Ow_s (f : Nat → Int64) (v : Int64) : vp_updL f (iZ 0).toNatClampNeg v 0 = v := by
  show (if (0 : Nat) = (iZ 0).toNatClampNeg then v else f 0) = v
  exact if_pos (by decide)
theorem lg_same (v : Int64) : lg_cmp v v = 0 := by
  unfold lg_cmp
  simp
