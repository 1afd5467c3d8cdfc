/-! THE KIT OF THIS CLAIM: numbers as Int, a judgement over a world, rows a line each -/
def iZ (x : Int) : Int32 := Int32.ofInt x
abbrev zB (x : Int) : Prop := -2147483648 ≤ x ∧ x ≤ 2147483647
theorem iZ_toInt {x : Int} (h : zB x) : (iZ x).toInt = x := Int32.toInt_ofInt_of_le (by have := h.1; omega) (by have := h.2; omega)
theorem iZ_lt {a b : Int} (ha : zB a) (hb : zB b) : iZ a < iZ b ↔ a < b := by rw [Int32.lt_iff_toInt_lt, iZ_toInt ha, iZ_toInt hb]
theorem iZ_le {a b : Int} (ha : zB a) (hb : zB b) : iZ a ≤ iZ b ↔ a ≤ b := by rw [Int32.le_iff_toInt_le, iZ_toInt ha, iZ_toInt hb]
theorem iZ_eq {a b : Int} (ha : zB a) (hb : zB b) : iZ a = iZ b ↔ a = b := by rw [← Int32.toInt_inj, iZ_toInt ha, iZ_toInt hb]
theorem iZ_add (a b : Int) : iZ a + iZ b = iZ (a + b) := (Int32.ofInt_add a b).symm
theorem iZ_sub (a b : Int) : iZ a - iZ b = iZ (a - b) := (Int32.ofInt_sub a b).symm
theorem iZ_mul (a b : Int) : iZ a * iZ b = iZ (a * b) := (Int32.ofInt_mul a b).symm
theorem iZ_neg (a : Int) : -iZ a = iZ (-a) := (Int32.ofInt_neg a).symm
theorem iZ_0 : iZ 0 = 0 := rfl
theorem zB_0 : zB 0 := ⟨by decide, by decide⟩
theorem iZ_clamp {a : Int} (h0 : 0 ≤ a) (h : zB a) : (iZ a).toNatClampNeg = a.toNat := Int32.toNatClampNeg_ofInt_of_le (by omega) (by have := h.2; omega)
theorem iZ_in {a : Int} {n : Nat} (h0 : 0 ≤ a) (h1 : a < n) (h : zB a) : vp_in (iZ a) n := vp_in_iff.mpr (by rw [iZ_toInt h]; exact ⟨h0, h1⟩)
theorem iZ_of (x : Int32) : x = iZ x.toInt := (Int32.ofInt_toInt x).symm
theorem iZ_bd (x : Int32) : zB x.toInt := ⟨by have := x.le_toInt; omega, by have := x.toInt_lt; omega⟩
theorem iZ_div {a b : Int} (ha : 0 ≤ a) (hb : zB a) (h0 : 0 < b) (h : zB b) : iZ a / iZ b = iZ (a / b) := by
  have e := Int32.ofInt_tdiv (a := a) (b := b) (by have := hb.1; exact this) (by have := hb.2; exact this) (by have := h.1; exact this) (by have := h.2; exact this)
  rw [Int.tdiv_eq_ediv_of_nonneg ha] at e
  exact e.symm
/-- a row of numbers -/
def zF (g : Int → Int) : Nat → Int32 := fun k => iZ (g (k : Int))
def updZ (f : Int → Int) (i x : Int) : Int → Int := fun j => if j = i then x else f j
theorem updZ_s (f : Int → Int) (i x : Int) : updZ f i x i = x := by simp [updZ]
theorem updZ_n (f : Int → Int) {i j : Int} (x : Int) (h : j ≠ i) : updZ f i x j = f j := by simp [updZ, h]
theorem zF_at (g : Int → Int) {a : Int} (h0 : 0 ≤ a) (h : zB a) : zF g (iZ a).toNatClampNeg = iZ (g a) := by
  rw [iZ_clamp h0 h]
  show iZ (g ((a.toNat : Nat) : Int)) = _
  rw [Int.toNat_of_nonneg h0]
theorem zF_upd (g : Int → Int) {i : Int} (x : Int) (h0 : 0 ≤ i) (h : zB i) : upd (zF g) (iZ i).toNatClampNeg (iZ x) = zF (updZ g i x) := by
  rw [iZ_clamp h0 h]
  funext k
  simp only [upd, zF, updZ]
  have e : (k = i.toNat) ↔ ((k : Int) = i) := by omega
  by_cases hk : k = i.toNat
  · rw [if_pos hk, if_pos (e.mp hk)]
  · rw [if_neg hk, if_neg (fun q => hk (e.mpr q))]
def zmin (a b : Int) : Int := if b < a then b else a
def zmax (a b : Int) : Int := if a < b then b else a
def zabs (a : Int) : Int := if 0 ≤ a then a else 0 - a
theorem zmin_sp (a b : Int) : (b < a ∧ zmin a b = b) ∨ (a ≤ b ∧ zmin a b = a) := by unfold zmin; split <;> omega
theorem zmax_sp (a b : Int) : (a < b ∧ zmax a b = b) ∨ (b ≤ a ∧ zmax a b = a) := by unfold zmax; split <;> omega
theorem zabs_sp (a : Int) : (0 ≤ a ∧ zabs a = a) ∨ (a < 0 ∧ zabs a = -a) := by unfold zabs; split <;> omega
/-- a state: rows by number, numbers by number -/
abbrev GS : Type := (Nat → Int → Int) × (Nat → Int)
def zup {α : Type} (f : Nat → α) (j : Nat) (v : α) : Nat → α := fun k => if k = j then v else f k
def gA (u : GS) (j : Nat) (i x : Int) : GS := (zup u.1 j (updZ (u.1 j) i x), u.2)
def gV (u : GS) (j : Nat) (x : Int) : GS := (u.1, zup u.2 j x)
/-! what is carried beside the words: links among nest mates, what a throw asks of the tables, the texts; none of it speaks of the heap -/
def zG (U : State) : Prop := va_Nw (.fieldLinkNest RX1 136 RX0 "count" "I" RX1) U ∧ va_Nw (.fieldLinkNest RX1 144 RX0 "sellers" "[I" RX1) U ∧ va_Nw (.fieldLinkNest RX1 147 RX0 "buyers" "[I" RX1) U ∧ va_Nw (.fieldLinkNest RX1 150 RX0 "units" "[I" RX1) U ∧ va_Nw (.fieldLinkNest RX1 153 RX0 "prices" "[I" RX1) U ∧ va_Nw (.fieldLinkNest RX1 190 RX0 "cuts" "[I" RX1) U ∧ va_Nw (.methodLinkNest RX1 166 yX0_empty RX1) U ∧ va_Nw (.methodLinkNest RX1 178 yX0_add RX1) U ∧ va_Nw (.methodLinkNest RX1 186 yX0_cutOver RX1) U ∧ va_Nw (.methodLinkNest RX1 193 yX0_flowOver RX1) U ∧ va_Nw (.methodLinkNest RX1 46 yX0_init RX1) U ∧ va_Nw (.declares ⟨"java/lang/RuntimeException", "<init>", "(Ljava/lang/String;)V"⟩) U ∧ va_Nw (.declares ⟨"java/lang/Exception", "<init>", "(Ljava/lang/String;)V"⟩) U ∧ va_Nw (.declares ⟨"java/lang/Throwable", "<init>", "(Ljava/lang/String;)V"⟩) U ∧ va_Nw (.castable "java/lang/IndexOutOfBoundsException" "java/lang/IndexOutOfBoundsException") U ∧ va_Nw (.castable "java/lang/IllegalArgumentException" "java/lang/IllegalArgumentException") U ∧ va_Nw (.castable "java/lang/IllegalStateException" "java/lang/IllegalStateException") U ∧ va_Nc "java/lang/IndexOutOfBoundsException" "java/lang/IllegalArgumentException" U ∧ va_Nc "java/lang/IndexOutOfBoundsException" "java/lang/IllegalStateException" U ∧ va_Nc "java/lang/IllegalArgumentException" "java/lang/IndexOutOfBoundsException" U ∧ va_Nc "java/lang/IllegalArgumentException" "java/lang/IllegalStateException" U ∧ va_Nc "java/lang/IllegalStateException" "java/lang/IndexOutOfBoundsException" U ∧ va_Nc "java/lang/IllegalStateException" "java/lang/IllegalArgumentException" U ∧ (∃ a : Nat, vk_R RX1 83 "both houses are the same" a U) ∧ (∃ a : Nat, vk_R RX1 90 "less room than stored" a U) ∧ (∃ a : Nat, vk_R RX1 97 "500 quarter hours were cleared" a U) ∧ (∃ a : Nat, vk_R RX1 141 "no such trade" a U) ∧ (∃ a : Nat, vk_R RX1 154 "no such what" a U) ∧ (∃ a : Nat, vk_R RX1 156 "no such way" a U) ∧ (∃ a : Nat, vk_R RX1 158 "no such house" a U) ∧ (∃ a : Nat, vk_R RX1 160 "no such stretch" a U) ∧ (∃ a : Nat, vk_R RX1 162 "out of range" a U) ∧ (∃ a : Nat, vk_R RX1 164 "no member" a U)
theorem zG.f136 {U : State} (h : zG U) : va_Nw (.fieldLinkNest RX1 136 RX0 "count" "I" RX1) U := h.1
theorem zG.f144 {U : State} (h : zG U) : va_Nw (.fieldLinkNest RX1 144 RX0 "sellers" "[I" RX1) U := h.2.1
theorem zG.f147 {U : State} (h : zG U) : va_Nw (.fieldLinkNest RX1 147 RX0 "buyers" "[I" RX1) U := h.2.2.1
theorem zG.f150 {U : State} (h : zG U) : va_Nw (.fieldLinkNest RX1 150 RX0 "units" "[I" RX1) U := h.2.2.2.1
theorem zG.f153 {U : State} (h : zG U) : va_Nw (.fieldLinkNest RX1 153 RX0 "prices" "[I" RX1) U := h.2.2.2.2.1
theorem zG.f190 {U : State} (h : zG U) : va_Nw (.fieldLinkNest RX1 190 RX0 "cuts" "[I" RX1) U := h.2.2.2.2.2.1
theorem zG.m166 {U : State} (h : zG U) : va_Nw (.methodLinkNest RX1 166 yX0_empty RX1) U := h.2.2.2.2.2.2.1
theorem zG.m178 {U : State} (h : zG U) : va_Nw (.methodLinkNest RX1 178 yX0_add RX1) U := h.2.2.2.2.2.2.2.1
theorem zG.m186 {U : State} (h : zG U) : va_Nw (.methodLinkNest RX1 186 yX0_cutOver RX1) U := h.2.2.2.2.2.2.2.2.1
theorem zG.m193 {U : State} (h : zG U) : va_Nw (.methodLinkNest RX1 193 yX0_flowOver RX1) U := h.2.2.2.2.2.2.2.2.2.1
theorem zG.m46 {U : State} (h : zG U) : va_Nw (.methodLinkNest RX1 46 yX0_init RX1) U := h.2.2.2.2.2.2.2.2.2.2.1
theorem zG.d0 {U : State} (h : zG U) : va_Nw (.declares ⟨"java/lang/RuntimeException", "<init>", "(Ljava/lang/String;)V"⟩) U := h.2.2.2.2.2.2.2.2.2.2.2.1
theorem zG.d1 {U : State} (h : zG U) : va_Nw (.declares ⟨"java/lang/Exception", "<init>", "(Ljava/lang/String;)V"⟩) U := h.2.2.2.2.2.2.2.2.2.2.2.2.1
theorem zG.d2 {U : State} (h : zG U) : va_Nw (.declares ⟨"java/lang/Throwable", "<init>", "(Ljava/lang/String;)V"⟩) U := h.2.2.2.2.2.2.2.2.2.2.2.2.2.1
theorem zG.c0 {U : State} (h : zG U) : va_Nw (.castable "java/lang/IndexOutOfBoundsException" "java/lang/IndexOutOfBoundsException") U := h.2.2.2.2.2.2.2.2.2.2.2.2.2.2.1
theorem zG.c1 {U : State} (h : zG U) : va_Nw (.castable "java/lang/IllegalArgumentException" "java/lang/IllegalArgumentException") U := h.2.2.2.2.2.2.2.2.2.2.2.2.2.2.2.1
theorem zG.c2 {U : State} (h : zG U) : va_Nw (.castable "java/lang/IllegalStateException" "java/lang/IllegalStateException") U := h.2.2.2.2.2.2.2.2.2.2.2.2.2.2.2.2.1
theorem zG.n01 {U : State} (h : zG U) : va_Nc "java/lang/IndexOutOfBoundsException" "java/lang/IllegalArgumentException" U := h.2.2.2.2.2.2.2.2.2.2.2.2.2.2.2.2.2.1
theorem zG.n02 {U : State} (h : zG U) : va_Nc "java/lang/IndexOutOfBoundsException" "java/lang/IllegalStateException" U := h.2.2.2.2.2.2.2.2.2.2.2.2.2.2.2.2.2.2.1
theorem zG.n10 {U : State} (h : zG U) : va_Nc "java/lang/IllegalArgumentException" "java/lang/IndexOutOfBoundsException" U := h.2.2.2.2.2.2.2.2.2.2.2.2.2.2.2.2.2.2.2.1
theorem zG.n12 {U : State} (h : zG U) : va_Nc "java/lang/IllegalArgumentException" "java/lang/IllegalStateException" U := h.2.2.2.2.2.2.2.2.2.2.2.2.2.2.2.2.2.2.2.2.1
theorem zG.n20 {U : State} (h : zG U) : va_Nc "java/lang/IllegalStateException" "java/lang/IndexOutOfBoundsException" U := h.2.2.2.2.2.2.2.2.2.2.2.2.2.2.2.2.2.2.2.2.2.1
theorem zG.n21 {U : State} (h : zG U) : va_Nc "java/lang/IllegalStateException" "java/lang/IllegalArgumentException" U := h.2.2.2.2.2.2.2.2.2.2.2.2.2.2.2.2.2.2.2.2.2.2.1
theorem zG.s83 {U : State} (h : zG U) : (∃ a : Nat, vk_R RX1 83 "both houses are the same" a U) := h.2.2.2.2.2.2.2.2.2.2.2.2.2.2.2.2.2.2.2.2.2.2.2.1
theorem zG.s90 {U : State} (h : zG U) : (∃ a : Nat, vk_R RX1 90 "less room than stored" a U) := h.2.2.2.2.2.2.2.2.2.2.2.2.2.2.2.2.2.2.2.2.2.2.2.2.1
theorem zG.s97 {U : State} (h : zG U) : (∃ a : Nat, vk_R RX1 97 "500 quarter hours were cleared" a U) := h.2.2.2.2.2.2.2.2.2.2.2.2.2.2.2.2.2.2.2.2.2.2.2.2.2.1
theorem zG.s141 {U : State} (h : zG U) : (∃ a : Nat, vk_R RX1 141 "no such trade" a U) := h.2.2.2.2.2.2.2.2.2.2.2.2.2.2.2.2.2.2.2.2.2.2.2.2.2.2.1
theorem zG.s154 {U : State} (h : zG U) : (∃ a : Nat, vk_R RX1 154 "no such what" a U) := h.2.2.2.2.2.2.2.2.2.2.2.2.2.2.2.2.2.2.2.2.2.2.2.2.2.2.2.1
theorem zG.s156 {U : State} (h : zG U) : (∃ a : Nat, vk_R RX1 156 "no such way" a U) := h.2.2.2.2.2.2.2.2.2.2.2.2.2.2.2.2.2.2.2.2.2.2.2.2.2.2.2.2.1
theorem zG.s158 {U : State} (h : zG U) : (∃ a : Nat, vk_R RX1 158 "no such house" a U) := h.2.2.2.2.2.2.2.2.2.2.2.2.2.2.2.2.2.2.2.2.2.2.2.2.2.2.2.2.2.1
theorem zG.s160 {U : State} (h : zG U) : (∃ a : Nat, vk_R RX1 160 "no such stretch" a U) := h.2.2.2.2.2.2.2.2.2.2.2.2.2.2.2.2.2.2.2.2.2.2.2.2.2.2.2.2.2.2.1
theorem zG.s162 {U : State} (h : zG U) : (∃ a : Nat, vk_R RX1 162 "out of range" a U) := h.2.2.2.2.2.2.2.2.2.2.2.2.2.2.2.2.2.2.2.2.2.2.2.2.2.2.2.2.2.2.2.1
theorem zG.s164 {U : State} (h : zG U) : (∃ a : Nat, vk_R RX1 164 "no member" a U) := h.2.2.2.2.2.2.2.2.2.2.2.2.2.2.2.2.2.2.2.2.2.2.2.2.2.2.2.2.2.2.2.2
theorem zG_castW {X Y : String} {s U : State} (hW : s.WarmedH U.vm) (hZ : va_Nw (.castable X Y) s) : va_Nw (.castable X Y) U := va_tabs rfl (rfl : (s.setVm U.vm).vm = U.vm) (by rw [Cond.castable_setVm hW.alike]; exact hZ)
theorem zG.warm {s U : State} (hW : s.WarmedH U.vm) (h : zG s) : zG U := ⟨va_Nw.warmF hW h.f136, va_Nw.warmF hW h.f144, va_Nw.warmF hW h.f147, va_Nw.warmF hW h.f150, va_Nw.warmF hW h.f153, va_Nw.warmF hW h.f190, va_Nw.warmM hW h.m166, va_Nw.warmM hW h.m178, va_Nw.warmM hW h.m186, va_Nw.warmM hW h.m193, va_Nw.warmM hW h.m46, va_Nw.warmD hW h.d0, va_Nw.warmD hW h.d1, va_Nw.warmD hW h.d2, zG_castW hW h.c0, zG_castW hW h.c1, zG_castW hW h.c2, va_Nc.moved hW.alike h.n01, va_Nc.moved hW.alike h.n02, va_Nc.moved hW.alike h.n10, va_Nc.moved hW.alike h.n12, va_Nc.moved hW.alike h.n20, va_Nc.moved hW.alike h.n21, (by obtain ⟨a, ha⟩ := h.s83; exact ⟨a, vk_R.warm hW ha⟩), (by obtain ⟨a, ha⟩ := h.s90; exact ⟨a, vk_R.warm hW ha⟩), (by obtain ⟨a, ha⟩ := h.s97; exact ⟨a, vk_R.warm hW ha⟩), (by obtain ⟨a, ha⟩ := h.s141; exact ⟨a, vk_R.warm hW ha⟩), (by obtain ⟨a, ha⟩ := h.s154; exact ⟨a, vk_R.warm hW ha⟩), (by obtain ⟨a, ha⟩ := h.s156; exact ⟨a, vk_R.warm hW ha⟩), (by obtain ⟨a, ha⟩ := h.s158; exact ⟨a, vk_R.warm hW ha⟩), (by obtain ⟨a, ha⟩ := h.s160; exact ⟨a, vk_R.warm hW ha⟩), (by obtain ⟨a, ha⟩ := h.s162; exact ⟨a, vk_R.warm hW ha⟩), (by obtain ⟨a, ha⟩ := h.s164; exact ⟨a, vk_R.warm hW ha⟩)⟩
theorem zG.same {s U : State} (e : s.vm = U.vm) (h : zG s) : zG U := ⟨va_Nw.same rfl e h.f136, va_Nw.same rfl e h.f144, va_Nw.same rfl e h.f147, va_Nw.same rfl e h.f150, va_Nw.same rfl e h.f153, va_Nw.same rfl e h.f190, va_Nw.same rfl e h.m166, va_Nw.same rfl e h.m178, va_Nw.same rfl e h.m186, va_Nw.same rfl e h.m193, va_Nw.same rfl e h.m46, va_Nw.same rfl e h.d0, va_Nw.same rfl e h.d1, va_Nw.same rfl e h.d2, va_Nw.same rfl e h.c0, va_Nw.same rfl e h.c1, va_Nw.same rfl e h.c2, va_Nc.moved (by rw [e]; exact Vm.Alike.refl _) h.n01, va_Nc.moved (by rw [e]; exact Vm.Alike.refl _) h.n02, va_Nc.moved (by rw [e]; exact Vm.Alike.refl _) h.n10, va_Nc.moved (by rw [e]; exact Vm.Alike.refl _) h.n12, va_Nc.moved (by rw [e]; exact Vm.Alike.refl _) h.n20, va_Nc.moved (by rw [e]; exact Vm.Alike.refl _) h.n21, (by obtain ⟨a, ha⟩ := h.s83; exact ⟨a, vk_R.same e.symm ha⟩), (by obtain ⟨a, ha⟩ := h.s90; exact ⟨a, vk_R.same e.symm ha⟩), (by obtain ⟨a, ha⟩ := h.s97; exact ⟨a, vk_R.same e.symm ha⟩), (by obtain ⟨a, ha⟩ := h.s141; exact ⟨a, vk_R.same e.symm ha⟩), (by obtain ⟨a, ha⟩ := h.s154; exact ⟨a, vk_R.same e.symm ha⟩), (by obtain ⟨a, ha⟩ := h.s156; exact ⟨a, vk_R.same e.symm ha⟩), (by obtain ⟨a, ha⟩ := h.s158; exact ⟨a, vk_R.same e.symm ha⟩), (by obtain ⟨a, ha⟩ := h.s160; exact ⟨a, vk_R.same e.symm ha⟩), (by obtain ⟨a, ha⟩ := h.s162; exact ⟨a, vk_R.same e.symm ha⟩), (by obtain ⟨a, ha⟩ := h.s164; exact ⟨a, vk_R.same e.symm ha⟩)⟩
/-- the two statics of Throwable that a throw reads -/
def zH (A : Nat → Prop) (U : State) (H : Heap) : Prop := vx_Zq Bundle.tN "UNASSIGNED_STACK" Bundle.steD A U H ∧ vx_Zq Bundle.tN "SUPPRESSED_SENTINEL" Bundle.listD A U H
theorem zH.to {A B : Nat → Prop} {s U : State} {H H1 : Heap} (h : zH A s H) (hq : ∀ a : Nat, a < H.size → ¬ A a → H1[a]? = H[a]?) (hvm : s.vm.Alike U.vm) (hAB : ∀ q, B q → A q) : zH B U H1 := ⟨((h.1.kept hq).moved hvm).narrow hAB, ((h.2.kept hq).moved hvm).narrow hAB⟩
section ZK
variable {p : Program} {l : Launch} {e : Env} {R : Room} {s : State} {m : MethodId} {args : Array Value} {below : List Frame} {meth : Method} {c : Code} {cells slots : Nat} {Q : State → Prop}
variable {cc : ByteArray} {pc nL : Nat} {own : String} {Ts : List Cond} {D : va_G} {tys : List (ClassId × FieldType)} {A : Nat → Prop} {ws ws' : va_W} {lv lv' : List (Nat × Value)} {st rest : List Value}
def zC (p : Program) (s : State) (m : MethodId) (args : Array Value) (c : Code) (cc : ByteArray) (nL : Nat) (own : String) (Ts : List Cond) (D : va_G) (tys : List (ClassId × FieldType)) (A : Nat → Prop) : Prop :=
  p.tables.exec = Jvm.exec ∧ c.code = cc ∧ c.maxLocals = nL ∧ s.vm.findClass own = some m.cls ∧ (∀ w ∈ Ts, w.before args s = true) ∧ va_K D vwCl tys s ∧ (∀ q, s.heap.size ≤ q → A q) ∧ zG s ∧ zH A s s.heap
def zW (p : Program) (l : Launch) (e : Env) (R : Room) (s : State) (m : MethodId) (args : Array Value) (below : List Frame) (meth : Method) (c : Code) (nL : Nat) (D : va_G) (A : Nat → Prop) (cells slots : Nat) (Q : State → Prop) (ws : va_W) (pc : Nat) (lv : List (Nat × Value)) (st : List Value) : Prop :=
  ∀ (H : Heap) (locs : List Loc) (ls : Array Slot), va_P D vwCl ws H → va_D A ws → va_S A s.heap H locs → lv_has ls nL lv → W p l e R s m args below meth c H locs cells slots Q (F0 m pc ls st)
theorem z_fix (X : zC p s m args c cc nL own Ts D tys A) : CallFix p m c cc nL s args Ts own := ⟨X.1, X.2.1, X.2.2.1, X.2.2.2.1, X.2.2.2.2.1⟩
theorem z_sub (ks : List Nat) (hk : lv_pick lv ks = lv') (kk : zW p l e R s m args below meth c nL D A cells slots Q ws pc lv' st) : zW p l e R s m args below meth c nL D A cells slots Q ws pc lv st := fun H locs ls hP hD hS hv => kk H locs ls hP hD hS (lv_sub hv ks hk)
theorem z_ws (h : ws = ws') (kk : zW p l e R s m args below meth c nL D A cells slots Q ws' pc lv st) : zW p l e R s m args below meth c nL D A cells slots Q ws pc lv st := h ▸ kk
theorem z_eq {ws2 : va_W} {lv2 : List (Nat × Value)} (h1 : ws2 = ws) (h2 : lv2 = lv) (kk : zW p l e R s m args below meth c nL D A cells slots Q ws2 pc lv2 st) : zW p l e R s m args below meth c nL D A cells slots Q ws pc lv st := by
  subst h1; subst h2; exact kk
theorem z_widen {k n : Nat} (h1 : cells ≤ k) (h2 : slots ≤ n) (kk : zW p l e R s m args below meth c nL D A k n Q ws pc lv st) : zW p l e R s m args below meth c nL D A cells slots Q ws pc lv st := fun H locs ls hP hD hS hv => W.widen h1 h2 (kk H locs ls hP hD hS hv)
theorem z_iload_n (X : zC p s m args c cc nL own Ts D tys A) {n : Fin 4} {x : Int32} (k : Nat) (hl : lv[k]? = some ((n : Nat), .int x)) (d : decode cc pc = .ok (.iload_n n, 1))
    (kk : zW p l e R s m args below meth c nL D A cells slots Q ws (pc + 1) lv (.int x :: st)) : zW p l e R s m args below meth c nL D A cells slots Q ws pc lv st :=
  fun H locs ls hP hD hS hv => lv_iload_n X.1 X.2.1 d rfl (lv_at hv k hl) (kk H locs ls hP hD hS hv)
theorem z_iload (X : zC p s m args c cc nL own Ts D tys A) {n : Nat} {x : Int32} (k : Nat) (hl : lv[k]? = some (n, .int x)) (d : decode cc pc = .ok (.iload n, 2))
    (kk : zW p l e R s m args below meth c nL D A cells slots Q ws (pc + 2) lv (.int x :: st)) : zW p l e R s m args below meth c nL D A cells slots Q ws pc lv st :=
  fun H locs ls hP hD hS hv => lv_iload X.1 X.2.1 d (lv_at hv k hl) (kk H locs ls hP hD hS hv)
theorem z_aload_n (X : zC p s m args c cc nL own Ts D tys A) {n : Fin 4} {x : Nat} (k : Nat) (hl : lv[k]? = some ((n : Nat), .ref x)) (d : decode cc pc = .ok (.aload_n n, 1))
    (kk : zW p l e R s m args below meth c nL D A cells slots Q ws (pc + 1) lv (.ref x :: st)) : zW p l e R s m args below meth c nL D A cells slots Q ws pc lv st :=
  fun H locs ls hP hD hS hv => lv_aload_n X.1 X.2.1 d rfl (lv_at hv k hl) (kk H locs ls hP hD hS hv)
theorem z_aload (X : zC p s m args c cc nL own Ts D tys A) {n : Nat} {x : Nat} (k : Nat) (hl : lv[k]? = some (n, .ref x)) (d : decode cc pc = .ok (.aload n, 2))
    (kk : zW p l e R s m args below meth c nL D A cells slots Q ws (pc + 2) lv (.ref x :: st)) : zW p l e R s m args below meth c nL D A cells slots Q ws pc lv st :=
  fun H locs ls hP hD hS hv => lv_aload X.1 X.2.1 d (lv_at hv k hl) (kk H locs ls hP hD hS hv)
theorem z_iconst (X : zC p s m args c cc nL own Ts D tys A) {n : Int} (d : decode cc pc = .ok (.iconst n, 1))
    (kk : zW p l e R s m args below meth c nL D A cells slots Q ws (pc + 1) lv (.int (iZ n) :: st)) : zW p l e R s m args below meth c nL D A cells slots Q ws pc lv st :=
  fun H locs ls hP hD hS hv => lv_iconst X.1 X.2.1 d rfl (kk H locs ls hP hD hS hv)
theorem z_bipush (X : zC p s m args c cc nL own Ts D tys A) {n : Int} (hn : (Int8.ofInt n).toInt32 = iZ n) (d : decode cc pc = .ok (.bipush n, 2))
    (kk : zW p l e R s m args below meth c nL D A cells slots Q ws (pc + 2) lv (.int (iZ n) :: st)) : zW p l e R s m args below meth c nL D A cells slots Q ws pc lv st :=
  fun H locs ls hP hD hS hv => lv_bipush X.1 X.2.1 d hn (kk H locs ls hP hD hS hv)
theorem z_sipush (X : zC p s m args c cc nL own Ts D tys A) {n : Int} (hn : (Int16.ofInt n).toInt32 = iZ n) (d : decode cc pc = .ok (.sipush n, 3))
    (kk : zW p l e R s m args below meth c nL D A cells slots Q ws (pc + 3) lv (.int (iZ n) :: st)) : zW p l e R s m args below meth c nL D A cells slots Q ws pc lv st :=
  fun H locs ls hP hD hS hv => lv_sipush X.1 X.2.1 d hn (kk H locs ls hP hD hS hv)
theorem z_istore_n (X : zC p s m args c cc nL own Ts D tys A) {n : Fin 4} {x : Int32} (ks : List Nat) (lv' : List (Nat × Value)) (hl : lv_pick (((n : Nat), Value.int x) :: lv.filter (fun q => !(q.1 == (n : Nat)) && !(q.1 + 1 == (n : Nat) && q.2.category == 2))) ks = lv') (hn : (n : Nat) < nL) (d : decode cc pc = .ok (.istore_n n, 1))
    (kk : zW p l e R s m args below meth c nL D A cells slots Q ws (pc + 1) lv' st) : zW p l e R s m args below meth c nL D A cells slots Q ws pc lv (.int x :: st) :=
  fun H locs ls hP hD hS hv => lv_istore_n X.1 X.2.1 d rfl hv hn rfl (fun ls' hv' => kk H locs ls' hP hD hS (lv_sub hv' ks hl))
theorem z_istore (X : zC p s m args c cc nL own Ts D tys A) {n : Nat} {x : Int32} (ks : List Nat) (lv' : List (Nat × Value)) (hl : lv_pick ((n, Value.int x) :: lv.filter (fun q => !(q.1 == n) && !(q.1 + 1 == n && q.2.category == 2))) ks = lv') (hn : n < nL) (d : decode cc pc = .ok (.istore n, 2))
    (kk : zW p l e R s m args below meth c nL D A cells slots Q ws (pc + 2) lv' st) : zW p l e R s m args below meth c nL D A cells slots Q ws pc lv (.int x :: st) :=
  fun H locs ls hP hD hS hv => lv_istore X.1 X.2.1 d hv hn rfl (fun ls' hv' => kk H locs ls' hP hD hS (lv_sub hv' ks hl))
theorem z_astore_n (X : zC p s m args c cc nL own Ts D tys A) {n : Fin 4} {x : Nat} (ks : List Nat) (lv' : List (Nat × Value)) (hl : lv_pick (((n : Nat), Value.ref x) :: lv.filter (fun q => !(q.1 == (n : Nat)) && !(q.1 + 1 == (n : Nat) && q.2.category == 2))) ks = lv') (hn : (n : Nat) < nL) (d : decode cc pc = .ok (.astore_n n, 1))
    (kk : zW p l e R s m args below meth c nL D A cells slots Q ws (pc + 1) lv' st) : zW p l e R s m args below meth c nL D A cells slots Q ws pc lv (.ref x :: st) :=
  fun H locs ls hP hD hS hv => lv_astore_n X.1 X.2.1 d rfl hv hn rfl (fun ls' hv' => kk H locs ls' hP hD hS (lv_sub hv' ks hl))
theorem z_astore (X : zC p s m args c cc nL own Ts D tys A) {n : Nat} {x : Nat} (ks : List Nat) (lv' : List (Nat × Value)) (hl : lv_pick ((n, Value.ref x) :: lv.filter (fun q => !(q.1 == n) && !(q.1 + 1 == n && q.2.category == 2))) ks = lv') (hn : n < nL) (d : decode cc pc = .ok (.astore n, 2))
    (kk : zW p l e R s m args below meth c nL D A cells slots Q ws (pc + 2) lv' st) : zW p l e R s m args below meth c nL D A cells slots Q ws pc lv (.ref x :: st) :=
  fun H locs ls hP hD hS hv => lv_astore X.1 X.2.1 d hv hn rfl (fun ls' hv' => kk H locs ls' hP hD hS (lv_sub hv' ks hl))
theorem z_iinc (X : zC p s m args c cc nL own Ts D tys A) {n : Nat} {i x : Int} (k : Nat) (ks : List Nat) (lv' : List (Nat × Value)) (hk : lv[k]? = some (n, .int (iZ x))) (hl : lv_pick ((n, Value.int (iZ (x + i))) :: lv.filter (fun q => !(q.1 == n) && !(q.1 + 1 == n && q.2.category == 2))) ks = lv') (hn : n < nL) (d : decode cc pc = .ok (.iinc n i, 3))
    (kk : zW p l e R s m args below meth c nL D A cells slots Q ws (pc + 3) lv' st) : zW p l e R s m args below meth c nL D A cells slots Q ws pc lv st :=
  fun H locs ls hP hD hS hv => lv_iinc X.1 X.2.1 d hv hk (iZ_add x i) hn rfl (fun ls' hv' => kk H locs ls' hP hD hS (lv_sub hv' ks hl))
theorem z_iadd (X : zC p s m args c cc nL own Ts D tys A) {a b : Int} (d : decode cc pc = .ok (.iadd, 1))
    (kk : zW p l e R s m args below meth c nL D A cells slots Q ws (pc + 1) lv (.int (iZ (a + b)) :: st)) : zW p l e R s m args below meth c nL D A cells slots Q ws pc lv (.int (iZ b) :: .int (iZ a) :: st) :=
  fun H locs ls hP hD hS hv => lv_iadd X.1 X.2.1 d (by rw [iZ_add]; exact kk H locs ls hP hD hS hv)
theorem z_isub (X : zC p s m args c cc nL own Ts D tys A) {a b : Int} (d : decode cc pc = .ok (.isub, 1))
    (kk : zW p l e R s m args below meth c nL D A cells slots Q ws (pc + 1) lv (.int (iZ (a - b)) :: st)) : zW p l e R s m args below meth c nL D A cells slots Q ws pc lv (.int (iZ b) :: .int (iZ a) :: st) :=
  fun H locs ls hP hD hS hv => lv_isub X.1 X.2.1 d (by rw [iZ_sub]; exact kk H locs ls hP hD hS hv)
theorem z_imul (X : zC p s m args c cc nL own Ts D tys A) {a b : Int} (d : decode cc pc = .ok (.imul, 1))
    (kk : zW p l e R s m args below meth c nL D A cells slots Q ws (pc + 1) lv (.int (iZ (a * b)) :: st)) : zW p l e R s m args below meth c nL D A cells slots Q ws pc lv (.int (iZ b) :: .int (iZ a) :: st) :=
  fun H locs ls hP hD hS hv => lv_imul X.1 X.2.1 d (by rw [iZ_mul]; exact kk H locs ls hP hD hS hv)
theorem z_ineg (X : zC p s m args c cc nL own Ts D tys A) {a : Int} (d : decode cc pc = .ok (.ineg, 1))
    (kk : zW p l e R s m args below meth c nL D A cells slots Q ws (pc + 1) lv (.int (iZ (-a)) :: st)) : zW p l e R s m args below meth c nL D A cells slots Q ws pc lv (.int (iZ a) :: st) :=
  fun H locs ls hP hD hS hv => lv_ineg X.1 X.2.1 d (by rw [iZ_neg]; exact kk H locs ls hP hD hS hv)
theorem z_idiv (X : zC p s m args c cc nL own Ts D tys A) {a b : Int} (ha : 0 ≤ a) (hb : zB a) (h0 : 0 < b) (h : zB b) (d : decode cc pc = .ok (.idiv, 1))
    (kk : zW p l e R s m args below meth c nL D A cells slots Q ws (pc + 1) lv (.int (iZ (a / b)) :: st)) : zW p l e R s m args below meth c nL D A cells slots Q ws pc lv (.int (iZ b) :: .int (iZ a) :: st) :=
  fun H locs ls hP hD hS hv => lv_idiv X.1 X.2.1 d (fun q => by rw [← iZ_0, iZ_eq h zB_0] at q; omega) (by rw [iZ_div ha hb h0 h]; exact kk H locs ls hP hD hS hv)
theorem z_dup (X : zC p s m args c cc nL own Ts D tys A) {v : Value} (hv1 : v.category = 1) (d : decode cc pc = .ok (.dup, 1))
    (kk : zW p l e R s m args below meth c nL D A cells slots Q ws (pc + 1) lv (v :: v :: st)) : zW p l e R s m args below meth c nL D A cells slots Q ws pc lv (v :: st) :=
  fun H locs ls hP hD hS hv => lv_dup X.1 X.2.1 d hv1 (kk H locs ls hP hD hS hv)
theorem z_dup2 (X : zC p s m args c cc nL own Ts D tys A) {v w : Value} (hv1 : v.category = 1) (hw1 : w.category = 1) (d : decode cc pc = .ok (.dup2, 1))
    (kk : zW p l e R s m args below meth c nL D A cells slots Q ws (pc + 1) lv (v :: w :: v :: w :: st)) : zW p l e R s m args below meth c nL D A cells slots Q ws pc lv (v :: w :: st) :=
  fun H locs ls hP hD hS hv => lv_dup2_11 X.1 X.2.1 d hv1 hw1 (kk H locs ls hP hD hS hv)
theorem z_goto (X : zC p s m args c cc nL own Ts D tys A) {off : Int} {tgt : Nat} (ht : (pc : Int) + off = (tgt : Int)) (d : decode cc pc = .ok (.goto off, 3))
    (kk : zW p l e R s m args below meth c nL D A cells slots Q ws tgt lv st) : zW p l e R s m args below meth c nL D A cells slots Q ws pc lv st :=
  fun H locs ls hP hD hS hv => lv_goto X.1 X.2.1 d ht (kk H locs ls hP hD hS hv)
theorem z_if_eq (X : zC p s m args c cc nL own Ts D tys A) {a : Int} {off : Int} {tgt : Nat} (h : zB a) (ht : (pc : Int) + off = (tgt : Int)) (d : decode cc pc = .ok (.ifCond .eq off, 3))
    (kt : a = 0 → zW p l e R s m args below meth c nL D A cells slots Q ws tgt lv st) (kf : ¬ a = 0 → zW p l e R s m args below meth c nL D A cells slots Q ws (pc + 3) lv st) : zW p l e R s m args below meth c nL D A cells slots Q ws pc lv (.int (iZ a) :: st) :=
  fun H locs ls hP hD hS hv => lv_if_eq X.1 X.2.1 d ht (fun q => kt (by rw [← iZ_0, iZ_eq h zB_0] at q; exact q) H locs ls hP hD hS hv) (fun q => kf (by rw [← iZ_0, iZ_eq h zB_0] at q; exact q) H locs ls hP hD hS hv)
theorem z_if_ne (X : zC p s m args c cc nL own Ts D tys A) {a : Int} {off : Int} {tgt : Nat} (h : zB a) (ht : (pc : Int) + off = (tgt : Int)) (d : decode cc pc = .ok (.ifCond .ne off, 3))
    (kt : ¬ a = 0 → zW p l e R s m args below meth c nL D A cells slots Q ws tgt lv st) (kf : a = 0 → zW p l e R s m args below meth c nL D A cells slots Q ws (pc + 3) lv st) : zW p l e R s m args below meth c nL D A cells slots Q ws pc lv (.int (iZ a) :: st) :=
  fun H locs ls hP hD hS hv => lv_if_ne X.1 X.2.1 d ht (fun q => kt (by rw [← iZ_0, iZ_eq h zB_0] at q; exact q) H locs ls hP hD hS hv) (fun q => kf (by rw [← iZ_0, iZ_eq h zB_0] at q; exact q) H locs ls hP hD hS hv)
theorem z_if_lt (X : zC p s m args c cc nL own Ts D tys A) {a : Int} {off : Int} {tgt : Nat} (h : zB a) (ht : (pc : Int) + off = (tgt : Int)) (d : decode cc pc = .ok (.ifCond .lt off, 3))
    (kt : a < 0 → zW p l e R s m args below meth c nL D A cells slots Q ws tgt lv st) (kf : ¬ a < 0 → zW p l e R s m args below meth c nL D A cells slots Q ws (pc + 3) lv st) : zW p l e R s m args below meth c nL D A cells slots Q ws pc lv (.int (iZ a) :: st) :=
  fun H locs ls hP hD hS hv => lv_if_lt X.1 X.2.1 d ht (fun q => kt (by rw [← iZ_0, iZ_lt h zB_0] at q; exact q) H locs ls hP hD hS hv) (fun q => kf (by rw [← iZ_0, iZ_lt h zB_0] at q; exact q) H locs ls hP hD hS hv)
theorem z_if_ge (X : zC p s m args c cc nL own Ts D tys A) {a : Int} {off : Int} {tgt : Nat} (h : zB a) (ht : (pc : Int) + off = (tgt : Int)) (d : decode cc pc = .ok (.ifCond .ge off, 3))
    (kt : 0 ≤ a → zW p l e R s m args below meth c nL D A cells slots Q ws tgt lv st) (kf : ¬ 0 ≤ a → zW p l e R s m args below meth c nL D A cells slots Q ws (pc + 3) lv st) : zW p l e R s m args below meth c nL D A cells slots Q ws pc lv (.int (iZ a) :: st) :=
  fun H locs ls hP hD hS hv => lv_if_ge X.1 X.2.1 d ht (fun q => kt (by rw [← iZ_0, iZ_le zB_0 h] at q; exact q) H locs ls hP hD hS hv) (fun q => kf (by rw [← iZ_0, iZ_le zB_0 h] at q; exact q) H locs ls hP hD hS hv)
theorem z_if_gt (X : zC p s m args c cc nL own Ts D tys A) {a : Int} {off : Int} {tgt : Nat} (h : zB a) (ht : (pc : Int) + off = (tgt : Int)) (d : decode cc pc = .ok (.ifCond .gt off, 3))
    (kt : 0 < a → zW p l e R s m args below meth c nL D A cells slots Q ws tgt lv st) (kf : ¬ 0 < a → zW p l e R s m args below meth c nL D A cells slots Q ws (pc + 3) lv st) : zW p l e R s m args below meth c nL D A cells slots Q ws pc lv (.int (iZ a) :: st) :=
  fun H locs ls hP hD hS hv => lv_if_gt X.1 X.2.1 d ht (fun q => kt (by rw [← iZ_0, iZ_lt zB_0 h] at q; exact q) H locs ls hP hD hS hv) (fun q => kf (by rw [← iZ_0, iZ_lt zB_0 h] at q; exact q) H locs ls hP hD hS hv)
theorem z_if_le (X : zC p s m args c cc nL own Ts D tys A) {a : Int} {off : Int} {tgt : Nat} (h : zB a) (ht : (pc : Int) + off = (tgt : Int)) (d : decode cc pc = .ok (.ifCond .le off, 3))
    (kt : a ≤ 0 → zW p l e R s m args below meth c nL D A cells slots Q ws tgt lv st) (kf : ¬ a ≤ 0 → zW p l e R s m args below meth c nL D A cells slots Q ws (pc + 3) lv st) : zW p l e R s m args below meth c nL D A cells slots Q ws pc lv (.int (iZ a) :: st) :=
  fun H locs ls hP hD hS hv => lv_if_le X.1 X.2.1 d ht (fun q => kt (by rw [← iZ_0, iZ_le h zB_0] at q; exact q) H locs ls hP hD hS hv) (fun q => kf (by rw [← iZ_0, iZ_le h zB_0] at q; exact q) H locs ls hP hD hS hv)
theorem z_icmp_eq (X : zC p s m args c cc nL own Ts D tys A) {a b : Int} {off : Int} {tgt : Nat} (h1 : zB a) (h2 : zB b) (ht : (pc : Int) + off = (tgt : Int)) (d : decode cc pc = .ok (.if_icmp .eq off, 3))
    (kt : a = b → zW p l e R s m args below meth c nL D A cells slots Q ws tgt lv st) (kf : ¬ a = b → zW p l e R s m args below meth c nL D A cells slots Q ws (pc + 3) lv st) : zW p l e R s m args below meth c nL D A cells slots Q ws pc lv (.int (iZ b) :: .int (iZ a) :: st) :=
  fun H locs ls hP hD hS hv => lv_icmp_eq X.1 X.2.1 d ht (fun q => kt (by rw [iZ_eq h1 h2] at q; exact q) H locs ls hP hD hS hv) (fun q => kf (by rw [iZ_eq h1 h2] at q; exact q) H locs ls hP hD hS hv)
theorem z_icmp_ne (X : zC p s m args c cc nL own Ts D tys A) {a b : Int} {off : Int} {tgt : Nat} (h1 : zB a) (h2 : zB b) (ht : (pc : Int) + off = (tgt : Int)) (d : decode cc pc = .ok (.if_icmp .ne off, 3))
    (kt : ¬ a = b → zW p l e R s m args below meth c nL D A cells slots Q ws tgt lv st) (kf : a = b → zW p l e R s m args below meth c nL D A cells slots Q ws (pc + 3) lv st) : zW p l e R s m args below meth c nL D A cells slots Q ws pc lv (.int (iZ b) :: .int (iZ a) :: st) :=
  fun H locs ls hP hD hS hv => lv_icmp_ne X.1 X.2.1 d ht (fun q => kt (by rw [iZ_eq h1 h2] at q; exact q) H locs ls hP hD hS hv) (fun q => kf (by rw [iZ_eq h1 h2] at q; exact q) H locs ls hP hD hS hv)
theorem z_icmp_lt (X : zC p s m args c cc nL own Ts D tys A) {a b : Int} {off : Int} {tgt : Nat} (h1 : zB a) (h2 : zB b) (ht : (pc : Int) + off = (tgt : Int)) (d : decode cc pc = .ok (.if_icmp .lt off, 3))
    (kt : a < b → zW p l e R s m args below meth c nL D A cells slots Q ws tgt lv st) (kf : ¬ a < b → zW p l e R s m args below meth c nL D A cells slots Q ws (pc + 3) lv st) : zW p l e R s m args below meth c nL D A cells slots Q ws pc lv (.int (iZ b) :: .int (iZ a) :: st) :=
  fun H locs ls hP hD hS hv => lv_icmp_lt X.1 X.2.1 d ht (fun q => kt (by rw [iZ_lt h1 h2] at q; exact q) H locs ls hP hD hS hv) (fun q => kf (by rw [iZ_lt h1 h2] at q; exact q) H locs ls hP hD hS hv)
theorem z_icmp_ge (X : zC p s m args c cc nL own Ts D tys A) {a b : Int} {off : Int} {tgt : Nat} (h1 : zB a) (h2 : zB b) (ht : (pc : Int) + off = (tgt : Int)) (d : decode cc pc = .ok (.if_icmp .ge off, 3))
    (kt : b ≤ a → zW p l e R s m args below meth c nL D A cells slots Q ws tgt lv st) (kf : ¬ b ≤ a → zW p l e R s m args below meth c nL D A cells slots Q ws (pc + 3) lv st) : zW p l e R s m args below meth c nL D A cells slots Q ws pc lv (.int (iZ b) :: .int (iZ a) :: st) :=
  fun H locs ls hP hD hS hv => lv_icmp_ge X.1 X.2.1 d ht (fun q => kt (by rw [iZ_le h2 h1] at q; exact q) H locs ls hP hD hS hv) (fun q => kf (by rw [iZ_le h2 h1] at q; exact q) H locs ls hP hD hS hv)
theorem z_icmp_gt (X : zC p s m args c cc nL own Ts D tys A) {a b : Int} {off : Int} {tgt : Nat} (h1 : zB a) (h2 : zB b) (ht : (pc : Int) + off = (tgt : Int)) (d : decode cc pc = .ok (.if_icmp .gt off, 3))
    (kt : b < a → zW p l e R s m args below meth c nL D A cells slots Q ws tgt lv st) (kf : ¬ b < a → zW p l e R s m args below meth c nL D A cells slots Q ws (pc + 3) lv st) : zW p l e R s m args below meth c nL D A cells slots Q ws pc lv (.int (iZ b) :: .int (iZ a) :: st) :=
  fun H locs ls hP hD hS hv => lv_icmp_gt X.1 X.2.1 d ht (fun q => kt (by rw [iZ_lt h2 h1] at q; exact q) H locs ls hP hD hS hv) (fun q => kf (by rw [iZ_lt h2 h1] at q; exact q) H locs ls hP hD hS hv)
theorem z_icmp_le (X : zC p s m args c cc nL own Ts D tys A) {a b : Int} {off : Int} {tgt : Nat} (h1 : zB a) (h2 : zB b) (ht : (pc : Int) + off = (tgt : Int)) (d : decode cc pc = .ok (.if_icmp .le off, 3))
    (kt : a ≤ b → zW p l e R s m args below meth c nL D A cells slots Q ws tgt lv st) (kf : ¬ a ≤ b → zW p l e R s m args below meth c nL D A cells slots Q ws (pc + 3) lv st) : zW p l e R s m args below meth c nL D A cells slots Q ws pc lv (.int (iZ b) :: .int (iZ a) :: st) :=
  fun H locs ls hP hD hS hv => lv_icmp_le X.1 X.2.1 d ht (fun q => kt (by rw [iZ_le h1 h2] at q; exact q) H locs ls hP hD hS hv) (fun q => kf (by rw [iZ_le h1 h2] at q; exact q) H locs ls hP hD hS hv)
/-! rows of numbers, fields -/
theorem z_iald (X : zC p s m args c cc nL own Ts D tys A) {a : Nat} (q0 t0 : Nat) {cA : ClassId} {n : Nat} {g : Int → Int} {i : Int} (ha : ws[q0]? = some (a, .inl (cA, n, .inl (zF g)))) (ht : tys[t0]? = some (cA, .int)) (h0 : 0 ≤ i) (h1 : i < n) (hb : zB i) (d : decode cc pc = .ok (.iaload, 1))
    (kk : zW p l e R s m args below meth c nL D A cells slots Q ws (pc + 1) lv (.int (iZ (g i)) :: st)) : zW p l e R s m args below meth c nL D A cells slots Q ws pc lv (.int (iZ i) :: .ref a :: st) :=
  fun H locs ls hP hD hS hv => va_iald X.1 X.2.1 X.2.2.2.2.2.1 hP q0 t0 ha ht (iZ_in h0 h1 hb) d (by rw [zF_at g h0 hb]; exact kk H locs ls hP hD hS hv)
theorem z_zald (X : zC p s m args c cc nL own Ts D tys A) {a : Nat} (q0 t0 : Nat) {cA : ClassId} {n : Nat} {g : Int → Int} {i : Int} (ha : ws[q0]? = some (a, .inl (cA, n, .inl (zF g)))) (ht : tys[t0]? = some (cA, .boolean)) (h0 : 0 ≤ i) (h1 : i < n) (hb : zB i) (d : decode cc pc = .ok (.baload, 1))
    (kk : zW p l e R s m args below meth c nL D A cells slots Q ws (pc + 1) lv (.int (iZ (g i)) :: st)) : zW p l e R s m args below meth c nL D A cells slots Q ws pc lv (.int (iZ i) :: .ref a :: st) :=
  fun H locs ls hP hD hS hv => va_zald X.1 X.2.1 X.2.2.2.2.2.1 hP q0 t0 ha ht (iZ_in h0 h1 hb) d (by rw [zF_at g h0 hb]; exact kk H locs ls hP hD hS hv)
theorem z_iast (X : zC p s m args c cc nL own Ts D tys A) {a : Nat} (q0 t0 : Nat) {cA : ClassId} {n : Nat} {g : Int → Int} {i x : Int} (ws' : va_W) (ha : ws[q0]? = some (a, .inl (cA, n, .inl (zF g)))) (ht : tys[t0]? = some (cA, .int)) (h0 : 0 ≤ i) (h1 : i < n) (hb : zB i) (hw : ws.set q0 (a, .inl (cA, n, .inl (zF (updZ g i x)))) = ws') (d : decode cc pc = .ok (.iastore, 1))
    (kk : zW p l e R s m args below meth c nL D A cells slots Q ws' (pc + 1) lv st) : zW p l e R s m args below meth c nL D A cells slots Q ws pc lv (.int (iZ x) :: .int (iZ i) :: .ref a :: st) :=
  fun H locs ls hP hD hS hv => va_iast X.1 X.2.1 X.2.2.2.2.2.1 hP hD hS q0 t0 ha ht (iZ_in h0 h1 hb) d (fun H1 locs1 hP1 hD1 hS1 => by
    rw [zF_upd g x h0 hb, hw] at hP1 hD1
    exact kk H1 locs1 ls hP1 hD1 hS1 hv)
theorem zn_bool {x : Int} (h : x = 0 ∨ x = 1) : vp_nar .boolean (iZ x) = iZ x := by
  rcases h with rfl | rfl <;> decide
theorem z_zast (X : zC p s m args c cc nL own Ts D tys A) {a : Nat} (q0 t0 : Nat) {cA : ClassId} {n : Nat} {g : Int → Int} {i x : Int} (ws' : va_W) (ha : ws[q0]? = some (a, .inl (cA, n, .inl (zF g)))) (ht : tys[t0]? = some (cA, .boolean)) (h0 : 0 ≤ i) (h1 : i < n) (hb : zB i) (hx : x = 0 ∨ x = 1) (hw : ws.set q0 (a, .inl (cA, n, .inl (zF (updZ g i x)))) = ws') (d : decode cc pc = .ok (.bastore, 1))
    (kk : zW p l e R s m args below meth c nL D A cells slots Q ws' (pc + 1) lv st) : zW p l e R s m args below meth c nL D A cells slots Q ws pc lv (.int (iZ x) :: .int (iZ i) :: .ref a :: st) :=
  fun H locs ls hP hD hS hv => va_zast X.1 X.2.1 X.2.2.2.2.2.1 hP hD hS q0 t0 ha ht (iZ_in h0 h1 hb) d (fun H1 locs1 hP1 hD1 hS1 => by
    rw [zn_bool hx, zF_upd g x h0 hb, hw] at hP1 hD1
    exact kk H1 locs1 ls hP1 hD1 hS1 hv)
theorem z_get (X : zC p s m args c cc nL own Ts D tys A) {C rf nm ds : String} {T : u_T} {N index a : Nat} {fs : List Value} {v : Value} (ci q0 k : Nat) (hin : ∀ w ∈ u_ws C T N, w ∈ Ts) (he : ws[q0]? = some (a, .inr (ci, fs))) (hc : vwCl[ci]? = some (C, T, N)) (hk : k < N) (hT : (T k).1 = rf ∧ (T k).2.1 = nm ∧ (T k).2.2.1 = ds) (hlink : Cond.fieldLink own index rf nm ds ∈ Ts) (hv : fs[k]? = some v) (d : decode cc pc = .ok (.getfield index, 3))
    (kk : zW p l e R s m args below meth c nL D A cells slots Q ws (pc + 3) lv (v :: st)) : zW p l e R s m args below meth c nL D A cells slots Q ws pc lv (.ref a :: st) := by
  obtain ⟨rfl, rfl, rfl⟩ := hT
  exact fun H locs ls hP hD hS hw => va_get X.1 X.2.1 X.2.2.2.2.1 hin X.2.2.2.1 X.2.2.2.2.2.1 hP q0 he hc k hk (X.2.2.2.2.1 _ hlink) (fun _ h9 => h9) hv d (kk H locs ls hP hD hS hw)
theorem z_getN (X : zC p s m args c cc nL own Ts D tys A) {C rf nm ds host : String} {T : u_T} {N index a : Nat} {fs : List Value} {v : Value} (ci q0 k : Nat) (hin : ∀ w ∈ u_ws C T N, w ∈ Ts) (he : ws[q0]? = some (a, .inr (ci, fs))) (hc : vwCl[ci]? = some (C, T, N)) (hk : k < N) (hT : (T k).1 = rf ∧ (T k).2.1 = nm ∧ (T k).2.2.1 = ds) (hlink : va_Nw (.fieldLinkNest own index rf nm ds host) s) (hv : fs[k]? = some v) (d : decode cc pc = .ok (.getfield index, 3))
    (kk : zW p l e R s m args below meth c nL D A cells slots Q ws (pc + 3) lv (v :: st)) : zW p l e R s m args below meth c nL D A cells slots Q ws pc lv (.ref a :: st) := by
  obtain ⟨rfl, rfl, rfl⟩ := hT
  exact fun H locs ls hP hD hS hw => va_getN X.1 X.2.1 X.2.2.2.2.1 hin X.2.2.2.1 X.2.2.2.2.2.1 hP q0 he hc k hk (va_Nw.use rfl hlink) (fun _ h9 => h9) hv d (kk H locs ls hP hD hS hw)
theorem z_put (X : zC p s m args c cc nL own Ts D tys A) {C rf nm ds : String} {T : u_T} {N index a : Nat} {fs : List Value} {v : Value} {ty : FieldType} (ty0 : Nat → FieldType) (ci q0 k : Nat) (ws' : va_W) (hty : ∀ k, k < N → parseFieldDescriptor (T k).2.2.1 = some (ty0 k)) (hnm : ∀ a, a < N → ∀ b, b < N → a ≠ b → (T a).2.1 ≠ (T b).2.1) (hin : ∀ w ∈ u_ws C T N, w ∈ Ts) (he : ws[q0]? = some (a, .inr (ci, fs))) (hc : vwCl[ci]? = some (C, T, N)) (hk : k < N) (hT : (T k).1 = rf ∧ (T k).2.1 = nm ∧ (T k).2.2.1 = ds ∧ (T k).2.2.2 = false) (hlink : Cond.fieldLink own index rf nm ds ∈ Ts) (hd : ty0 k = ty) (hn : narrow ty v = v) (hfit : fits ty v = true) (hl : k < fs.length) (hw : ws.set q0 (a, .inr (ci, fs.set k v)) = ws') (d : decode cc pc = .ok (.putfield index, 3))
    (kk : zW p l e R s m args below meth c nL D A cells slots Q ws' (pc + 3) lv st) : zW p l e R s m args below meth c nL D A cells slots Q ws pc lv (v :: .ref a :: st) := by
  obtain ⟨rfl, rfl, rfl, hf⟩ := hT
  subst hw
  exact fun H locs ls hP hD hS hw => va_put X.1 X.2.1 X.2.2.2.2.1 hin ty0 hty hnm X.2.2.2.1 X.2.2.2.2.2.1 hP hD hS q0 he hc k hk (X.2.2.2.2.1 _ hlink) (fun _ h9 => h9) hf (by rw [hty k hk, hd]) hn hfit hl d (fun H1 locs1 hP1 hD1 hS1 => kk H1 locs1 ls hP1 hD1 hS1 hw)
theorem z_putF (X : zC p s m args c cc nL own Ts D tys A) {C rf nm ds : String} {T : u_T} {N index a : Nat} {fs : List Value} {v : Value} {ty : FieldType} (ty0 : Nat → FieldType) (ci q0 k : Nat) (ws' : va_W) (hty : ∀ k, k < N → parseFieldDescriptor (T k).2.2.1 = some (ty0 k)) (hnm : ∀ a, a < N → ∀ b, b < N → a ≠ b → (T a).2.1 ≠ (T b).2.1) (hin : ∀ w ∈ u_ws C T N, w ∈ Ts) (he : ws[q0]? = some (a, .inr (ci, fs))) (hc : vwCl[ci]? = some (C, T, N)) (hk : k < N) (hT : (T k).1 = rf ∧ (T k).2.1 = nm ∧ (T k).2.2.1 = ds ∧ (T k).2.2.2 = true) (hin2 : meth.name = "<init>") (hdecl : rf = own) (hlink : Cond.fieldLink own index rf nm ds ∈ Ts) (hd : ty0 k = ty) (hn : narrow ty v = v) (hfit : fits ty v = true) (hl : k < fs.length) (hw : ws.set q0 (a, .inr (ci, fs.set k v)) = ws') (d : decode cc pc = .ok (.putfield index, 3))
    (kk : zW p l e R s m args below meth c nL D A cells slots Q ws' (pc + 3) lv st) : zW p l e R s m args below meth c nL D A cells slots Q ws pc lv (v :: .ref a :: st) := by
  obtain ⟨rfl, rfl, rfl, hf⟩ := hT
  subst hw
  exact fun H locs ls hP hD hS hw => va_putF X.1 X.2.1 X.2.2.2.2.1 hin ty0 hty hnm X.2.2.2.1 X.2.2.2.2.2.1 hP hD hS q0 he hc k hk (X.2.2.2.2.1 _ hlink) (fun _ h9 => h9) hf hin2 hdecl (by rw [hty k hk, hd]) hn hfit hl d (fun H1 locs1 hP1 hD1 hS1 => kk H1 locs1 ls hP1 hD1 hS1 hw)
/-! Math.min, max, abs -/
theorem z_min (X : zC p s m args c cc nL own Ts D tys A) {a b : Int} {index : Nat} (ha : zB a) (hb : zB b) (h1 : Cond.methodLink own index Lib.Math.min.name ∈ Ts) (h2 : Cond.static Lib.Math.min.name ∈ Ts) (h3 : Cond.initialized "java/lang/Math" ∈ Ts) (h4 : Cond.code Lib.Math.min.name Lib.Math.min.code 2 (some .int) ∈ Ts) (hR : 1 ≤ R.frames ∧ (st.map fun v => v.category).sum + 13 ≤ R.locals ∧ cells ≤ R.cells ∧ slots ≤ R.slots) (d : decode cc pc = .ok (.invokestatic index, 3))
    (kk : zW p l e R s m args below meth c nL D A cells slots Q ws (pc + 3) lv (.int (iZ (zmin a b)) :: st)) : zW p l e R s m args below meth c nL D A cells slots Q ws pc lv (.int (iZ b) :: .int (iZ a) :: st) :=
  fun H locs ls hP hD hS hv => va_mmin X.1 X.2.1 (X.2.2.1.trans hv.1.symm) X.2.2.2.1 (X.2.2.2.2.1 _ h1) (X.2.2.2.2.1 _ h2) (X.2.2.2.2.1 _ h3) (X.2.2.2.2.1 _ h4) hR.1 hR.2.1 hR.2.2.1 hR.2.2.2 d (by
    have h := kk H locs ls hP hD hS hv
    unfold zmin at h
    by_cases q : b < a
    · rw [if_pos ((iZ_lt hb ha).mpr q)]; rw [if_pos q] at h; exact h
    · rw [if_neg (fun z => q ((iZ_lt hb ha).mp z))]; rw [if_neg q] at h; exact h)
theorem z_max (X : zC p s m args c cc nL own Ts D tys A) {a b : Int} {index : Nat} (ha : zB a) (hb : zB b) (h1 : Cond.methodLink own index Lib.Math.max.name ∈ Ts) (h2 : Cond.static Lib.Math.max.name ∈ Ts) (h3 : Cond.initialized "java/lang/Math" ∈ Ts) (h4 : Cond.code Lib.Math.max.name Lib.Math.max.code 2 (some .int) ∈ Ts) (hR : 1 ≤ R.frames ∧ (st.map fun v => v.category).sum + 13 ≤ R.locals ∧ cells ≤ R.cells ∧ slots ≤ R.slots) (d : decode cc pc = .ok (.invokestatic index, 3))
    (kk : zW p l e R s m args below meth c nL D A cells slots Q ws (pc + 3) lv (.int (iZ (zmax a b)) :: st)) : zW p l e R s m args below meth c nL D A cells slots Q ws pc lv (.int (iZ b) :: .int (iZ a) :: st) :=
  fun H locs ls hP hD hS hv => va_mmax X.1 X.2.1 (X.2.2.1.trans hv.1.symm) X.2.2.2.1 (X.2.2.2.2.1 _ h1) (X.2.2.2.2.1 _ h2) (X.2.2.2.2.1 _ h3) (X.2.2.2.2.1 _ h4) hR.1 hR.2.1 hR.2.2.1 hR.2.2.2 d (by
    have h := kk H locs ls hP hD hS hv
    unfold zmax at h
    by_cases q : a < b
    · rw [if_pos ((iZ_lt ha hb).mpr q)]; rw [if_pos q] at h; exact h
    · rw [if_neg (fun z => q ((iZ_lt ha hb).mp z))]; rw [if_neg q] at h; exact h)
theorem z_abs (X : zC p s m args c cc nL own Ts D tys A) {a : Int} {index : Nat} (ha : zB a) (h1 : Cond.methodLink own index Lib.Math.abs.name ∈ Ts) (h2 : Cond.static Lib.Math.abs.name ∈ Ts) (h3 : Cond.initialized "java/lang/Math" ∈ Ts) (h4 : Cond.code Lib.Math.abs.name Lib.Math.abs.code 1 (some .int) ∈ Ts) (hR : 1 ≤ R.frames ∧ (st.map fun v => v.category).sum + 13 ≤ R.locals ∧ cells ≤ R.cells ∧ slots ≤ R.slots) (d : decode cc pc = .ok (.invokestatic index, 3))
    (kk : zW p l e R s m args below meth c nL D A cells slots Q ws (pc + 3) lv (.int (iZ (zabs a)) :: st)) : zW p l e R s m args below meth c nL D A cells slots Q ws pc lv (.int (iZ a) :: st) :=
  fun H locs ls hP hD hS hv => va_mabs X.1 X.2.1 (X.2.2.1.trans hv.1.symm) X.2.2.2.1 (X.2.2.2.2.1 _ h1) (X.2.2.2.2.1 _ h2) (X.2.2.2.2.1 _ h3) (X.2.2.2.2.1 _ h4) hR.1 hR.2.1 hR.2.2.1 hR.2.2.2 d (by
    have h := kk H locs ls hP hD hS hv
    unfold zabs at h
    by_cases q : 0 ≤ a
    · rw [if_pos (by rw [← iZ_0, iZ_le zB_0 ha]; exact q)]; rw [if_pos q] at h; exact h
    · rw [if_neg (by rw [← iZ_0, iZ_le zB_0 ha]; exact q), ← iZ_0, iZ_sub]; rw [if_neg q] at h; exact h)
/-! contracts: a start in a world, an end in a world -/
def zPre (D : va_G) (tys : List (ClassId × FieldType)) (wc : va_W) (av : List Value) (sz : Nat) : Array Value → State → Prop := va_Pc av (fun U => U.heap.size = sz ∧ va_P D vwCl wc U.heap ∧ va_K D vwCl tys U ∧ va_D (fun _ => True) wc ∧ zG U ∧ zH (va_A wc sz) U U.heap)
def zEnd (D : va_G) (tys : List (ClassId × FieldType)) (wc : va_W) (A : Nat → Prop) : Unit → State → Prop := fun _ t => va_P D vwCl wc t.heap ∧ va_K D vwCl tys t ∧ va_D A wc
def zPi (D : va_G) (tys : List (ClassId × FieldType)) (wc : va_W) (r : Int) (A : Nat → Prop) : Array Value → State → Outcome → State → Prop := va_Qi (fun (x : Int32) (_ : Unit) => x = iZ r) (zEnd D tys wc A) A
def zPv (D : va_G) (tys : List (ClassId × FieldType)) (wc : va_W) (A : Nat → Prop) : Array Value → State → Outcome → State → Prop := va_Qv (fun (_ : Unit) => True) (zEnd D tys wc A) A
def zMi (l : Launch) (D : va_G) (tys : List (ClassId × FieldType)) (y : MethodName) (wsm : List Cond) (rm : Room) (wc : va_W) (av : List Value) (r : Int) (wc' : va_W) (mc ms : Nat) : Prop := ∀ sz : Nat, Met l y wsm rm (zPre D tys wc av sz) (zPi D tys wc' r (va_A wc sz)) mc ms (va_A wc sz)
def zMv (l : Launch) (D : va_G) (tys : List (ClassId × FieldType)) (y : MethodName) (wsm : List Cond) (rm : Room) (wc : va_W) (av : List Value) (wc' : va_W) (mc ms : Nat) : Prop := ∀ sz : Nat, Met l y wsm rm (zPre D tys wc av sz) (zPv D tys wc' (va_A wc sz)) mc ms (va_A wc sz)
theorem zPre_blind {wc : va_W} {av : List Value} {sz : Nat} : FrameBlind (zPre D tys wc av sz) := fun a U g mk q => by
  obtain ⟨q0, q1, qP, qK, qD, qG, qH⟩ := q
  exact ⟨q0, q1, qP, va_K.moved (u := U) (U := U.calling g mk a) (Vm.Alike.refl U.vm) qK, qD, zG.same (s := U) (U := U.calling g mk a) rfl qG, zH.to (s := U) (U := U.calling g mk a) qH (fun _ _ _ => rfl) (Vm.Alike.refl U.vm) (fun _ h => h)⟩
theorem va_D.left {A : Nat → Prop} {w1 w2 : va_W} (h : va_D A (w1 ++ w2)) : va_D A w1 := by
  have up : ∀ (i : Nat) (p : Nat × va_E), w1[i]? = some p → (w1 ++ w2)[i]? = some p := fun i p hi => by
    rw [List.getElem?_append_left (List.getElem?_eq_some_iff.mp hi).1]; exact hi
  exact ⟨fun i j p q hi hj e => h.1 i j p q (up i p hi) (up j q hj) e, fun k q hk => h.2 k q (up k q hk)⟩
theorem va_D.right {A : Nat → Prop} {w1 w2 : va_W} (h : va_D A (w1 ++ w2)) : va_D A w2 := by
  have up : ∀ (i : Nat) (p : Nat × va_E), w2[i]? = some p → (w1 ++ w2)[w1.length + i]? = some p := fun i p hi => by
    rw [List.getElem?_append_right (Nat.le_add_right _ _), Nat.add_sub_cancel_left]; exact hi
  exact ⟨fun i j p q hi hj e => by have := h.1 _ _ p q (up i p hi) (up j q hj) e; omega, fun k q hk => h.2 _ q (up k q hk)⟩
theorem va_D.cross {A : Nat → Prop} {w1 w2 : va_W} (h : va_D A (w1 ++ w2)) : ∀ (i j : Nat) (p q : Nat × va_E), w1[i]? = some p → w2[j]? = some q → p.1 ≠ q.1 := by
  intro i j p q hi hj e
  have h1 := (List.getElem?_eq_some_iff.mp hi).1
  have := h.1 i (w1.length + j) p q (by rw [List.getElem?_append_left h1]; exact hi) (by rw [List.getElem?_append_right (Nat.le_add_right _ _), Nat.add_sub_cancel_left]; exact hj) e
  omega
theorem va_P.left {D : va_G} {w1 w2 : va_W} {H : Heap} (h : va_P D vwCl (w1 ++ w2) H) : va_P D vwCl w1 H := fun k q hk => h k q (by
    rw [List.getElem?_append_left (List.getElem?_eq_some_iff.mp hk).1]; exact hk)
theorem va_P.right {D : va_G} {w1 w2 : va_W} {H : Heap} (h : va_P D vwCl (w1 ++ w2) H) : va_P D vwCl w2 H := fun k q hk => h (w1.length + k) q (by
    rw [List.getElem?_append_right (Nat.le_add_right _ _), Nat.add_sub_cancel_left]; exact hk)
theorem z_join {A0 : Nat → Prop} {D : va_G} {w1 wc wc' w2 : va_W} {H H1 : Heap} (hP : va_P D vwCl (w1 ++ (wc ++ w2)) H) (hD : va_D A0 (w1 ++ (wc ++ w2))) (hk : ∀ q : Nat, q < H.size → ¬ va_A wc H.size q → H1[q]? = H[q]?) (hF : ∀ q, va_A wc H.size q → A0 q) (hP1 : va_P D vwCl wc' H1) (hD1 : va_D (va_A wc H.size) wc') : va_P D vwCl (w1 ++ (wc' ++ w2)) H1 ∧ va_D A0 (w1 ++ (wc' ++ w2)) := by
  have hPr := hP.right
  have hDr := hD.right
  have n1 : ∀ (i : Nat) (x : Nat × va_E), w1[i]? = some x → x.1 < H.size ∧ ¬ va_A wc H.size x.1 := by
    intro i x hx
    have hl := (hP.left i x hx).lt
    refine ⟨hl, fun h => ?_⟩
    rcases h with ⟨k, e, hk⟩ | h
    · exact hD.cross i k x (x.1, e) hx (by rw [List.getElem?_append_left (List.getElem?_eq_some_iff.mp hk).1]; exact hk) rfl
    · omega
  have n2 : ∀ (i : Nat) (x : Nat × va_E), w2[i]? = some x → x.1 < H.size ∧ ¬ va_A wc H.size x.1 := by
    intro i x hx
    have hl := (hPr.right i x hx).lt
    refine ⟨hl, fun h => ?_⟩
    rcases h with ⟨k, e, hk⟩ | h
    · exact hDr.cross k i (x.1, e) x hk hx rfl
    · omega
  have k1 : va_P D vwCl w1 H1 := fun i x hx => (hP.left i x hx).kept (hk x.1 (n1 i x hx).1 (n1 i x hx).2)
  have k2 : va_P D vwCl w2 H1 := fun i x hx => (hPr.right i x hx).kept (hk x.1 (n2 i x hx).1 (n2 i x hx).2)
  refine ⟨k1.app (hP1.app k2), hD.left.app ((hD1.weaken (fun k q _ h => hF q.1 h)).app hDr.right (fun i j x y hx hy e => ?_)) (fun i j x y hx hy e => ?_)⟩
  · exact (n2 j y hy).2 (by rw [← e]; exact hD1.2 i x hx)
  · by_cases hj : j < wc'.length
    · rw [List.getElem?_append_left hj] at hy
      exact (n1 i x hx).2 (by rw [e]; exact hD1.2 j y hy)
    · rw [List.getElem?_append_right (by omega)] at hy
      exact hD.cross i (wc.length + (j - wc'.length)) x y hx (by rw [List.getElem?_append_right (Nat.le_add_right _ _), Nat.add_sub_cancel_left]; exact hy) e
theorem z_free {A0 : Nat → Prop} {w1 wc w2 : va_W} {H0 H : Heap} {locs : List Loc} (hD : va_D A0 (w1 ++ (wc ++ w2))) (hS : va_S A0 H0 H locs) (hA : ∀ q, H0.size ≤ q → A0 q) : ∀ q, va_A wc H.size q → A0 q := by
  intro q h
  rcases h with ⟨k, e, h⟩ | h
  · exact hD.right.left.2 k (q, e) h
  · exact hA q (Nat.le_trans hS.1 h)
section Calls
variable {y : MethodName} {bytes : ByteArray} {maxL index n mc ms : Nat} {rm : Room} {wsm : List Cond} {wc wc' w1 w2 : va_W} {b : Nat} {As : List Value} {r : Int} {C : String} {T : u_T} {N : Nat} {fs : List Value} {ret : Option FieldType}
theorem z_calli (X : zC p s m args c cc nL own Ts D tys A) (hM : zMi l D tys y wsm rm wc (.ref b :: As) r wc' mc ms) (cw : CallW R s args own C index y bytes maxL ret wsm rm mc ms n) (hn : As.length = n) (w1 w2 : va_W) (hseg : ws = w1 ++ (wc ++ w2)) (ci q0 : Nat) (hci : vwCl[ci]? = some (C, T, N)) (he : ws[q0]? = some (b, .inr (ci, fs))) (rest : List Value) (hst : st = As.reverse ++ .ref b :: rest) (hcat : (rest.map fun v => v.category).sum ≤ 8) (d : decode cc pc = .ok (.invokevirtual index, 3)) (hf : cells + mc ≤ R.cells ∧ slots + ms ≤ R.slots) (hw : w1 ++ (wc' ++ w2) = ws')
    (kk : zW p l e R s m args below meth c nL D A (cells + mc) (slots + ms) Q ws' (pc + 3) lv (.int (iZ r) :: rest)) : zW p l e R s m args below meth c nL D A cells slots Q ws pc lv st := by
  intro H locs ls hP hD hS hv
  have hrec := va_recv X.2.2.2.2.2.1 hP hci he
  subst hseg
  have hPc : va_P D vwCl wc H := hP.right.left
  have hDc : va_D A wc := hD.right.left
  have hF := z_free hD hS X.2.2.2.2.2.2.1
  refine va_calli (va_runV (As := As) (rest := rest) (z_fix X) (hM H.size) cw ⟨zPre_blind, hrec, fun U hU hW => ⟨rfl, by rw [hU], by rw [hU]; exact hPc, va_K.moved hW.alike X.2.2.2.2.2.1, hDc.weaken (fun _ _ _ _ => trivial), X.2.2.2.2.2.2.2.1.warm hW, by rw [hU]; exact X.2.2.2.2.2.2.2.2.to hS.2.1 hW.alike hF⟩⟩ rfl hn hv.1 hst (lv_room hcat) d hf) hS (fun q _ h => hF q h) hF (fun r9 u t H1 locs1 ht hvm hr9 hB hz1 hk1 hS1 => ?_)
  obtain ⟨hP1, hK1, hD1⟩ := hB
  rw [ht] at hP1
  obtain ⟨hP2, hD2⟩ := z_join hP hD hk1 hF hP1 hD1
  subst hw
  rw [hr9]
  exact kk H1 locs1 ls hP2 hD2 hS1 hv
theorem z_callv (X : zC p s m args c cc nL own Ts D tys A) (hM : zMv l D tys y wsm rm wc (.ref b :: As) wc' mc ms) (cw : CallW R s args own C index y bytes maxL ret wsm rm mc ms n) (hn : As.length = n) (w1 w2 : va_W) (hseg : ws = w1 ++ (wc ++ w2)) (ci q0 : Nat) (hci : vwCl[ci]? = some (C, T, N)) (he : ws[q0]? = some (b, .inr (ci, fs))) (rest : List Value) (hst : st = As.reverse ++ .ref b :: rest) (hcat : (rest.map fun v => v.category).sum ≤ 8) (d : decode cc pc = .ok (.invokevirtual index, 3)) (hf : cells + mc ≤ R.cells ∧ slots + ms ≤ R.slots) (hw : w1 ++ (wc' ++ w2) = ws')
    (kk : zW p l e R s m args below meth c nL D A (cells + mc) (slots + ms) Q ws' (pc + 3) lv rest) : zW p l e R s m args below meth c nL D A cells slots Q ws pc lv st := by
  intro H locs ls hP hD hS hv
  have hrec := va_recv X.2.2.2.2.2.1 hP hci he
  subst hseg
  have hPc : va_P D vwCl wc H := hP.right.left
  have hDc : va_D A wc := hD.right.left
  have hF := z_free hD hS X.2.2.2.2.2.2.1
  refine va_callv (va_runV (As := As) (rest := rest) (z_fix X) (hM H.size) cw ⟨zPre_blind, hrec, fun U hU hW => ⟨rfl, by rw [hU], by rw [hU]; exact hPc, va_K.moved hW.alike X.2.2.2.2.2.1, hDc.weaken (fun _ _ _ _ => trivial), X.2.2.2.2.2.2.2.1.warm hW, by rw [hU]; exact X.2.2.2.2.2.2.2.2.to hS.2.1 hW.alike hF⟩⟩ rfl hn hv.1 hst (lv_room hcat) d hf) hS (fun q _ h => hF q h) hF (fun u t H1 locs1 ht hvm hr9 hB hz1 hk1 hS1 => ?_)
  obtain ⟨hP1, hK1, hD1⟩ := hB
  rw [ht] at hP1
  obtain ⟨hP2, hD2⟩ := z_join hP hD hk1 hF hP1 hD1
  subst hw
  exact kk H1 locs1 ls hP2 hD2 hS1 hv
theorem z_callis (X : zC p s m args c cc nL own Ts D tys A) (hM : zMi l D tys y wsm rm wc As r wc' mc ms) (cw : CallB R s args own index y bytes maxL ret wsm rm mc ms n ∧ (Cond.static y).before args s = true) (hn : As.length = n) (w1 w2 : va_W) (hseg : ws = w1 ++ (wc ++ w2)) (rest : List Value) (hst : st = As.reverse ++ rest) (hcat : (rest.map fun v => v.category).sum ≤ 8) (d : decode cc pc = .ok (.invokestatic index, 3)) (hf : cells + mc ≤ R.cells ∧ slots + ms ≤ R.slots) (hw : w1 ++ (wc' ++ w2) = ws')
    (kk : zW p l e R s m args below meth c nL D A (cells + mc) (slots + ms) Q ws' (pc + 3) lv (.int (iZ r) :: rest)) : zW p l e R s m args below meth c nL D A cells slots Q ws pc lv st := by
  intro H locs ls hP hD hS hv
  subst hseg
  have hPc : va_P D vwCl wc H := hP.right.left
  have hDc : va_D A wc := hD.right.left
  have hF := z_free hD hS X.2.2.2.2.2.2.1
  refine va_calli (va_runS (As := As) (rest := rest) (z_fix X) (hM H.size) cw ⟨zPre_blind, fun U hU hW => ⟨rfl, by rw [hU], by rw [hU]; exact hPc, va_K.moved hW.alike X.2.2.2.2.2.1, hDc.weaken (fun _ _ _ _ => trivial), X.2.2.2.2.2.2.2.1.warm hW, by rw [hU]; exact X.2.2.2.2.2.2.2.2.to hS.2.1 hW.alike hF⟩⟩ rfl hn hv.1 hst (lv_room hcat) d hf) hS (fun q _ h => hF q h) hF (fun r9 u t H1 locs1 ht hvm hr9 hB hz1 hk1 hS1 => ?_)
  obtain ⟨hP1, hK1, hD1⟩ := hB
  rw [ht] at hP1
  obtain ⟨hP2, hD2⟩ := z_join hP hD hk1 hF hP1 hD1
  subst hw
  rw [hr9]
  exact kk H1 locs1 ls hP2 hD2 hS1 hv
theorem z_callvs (X : zC p s m args c cc nL own Ts D tys A) (hM : zMv l D tys y wsm rm wc As wc' mc ms) (cw : CallB R s args own index y bytes maxL ret wsm rm mc ms n ∧ (Cond.static y).before args s = true) (hn : As.length = n) (w1 w2 : va_W) (hseg : ws = w1 ++ (wc ++ w2)) (rest : List Value) (hst : st = As.reverse ++ rest) (hcat : (rest.map fun v => v.category).sum ≤ 8) (d : decode cc pc = .ok (.invokestatic index, 3)) (hf : cells + mc ≤ R.cells ∧ slots + ms ≤ R.slots) (hw : w1 ++ (wc' ++ w2) = ws')
    (kk : zW p l e R s m args below meth c nL D A (cells + mc) (slots + ms) Q ws' (pc + 3) lv rest) : zW p l e R s m args below meth c nL D A cells slots Q ws pc lv st := by
  intro H locs ls hP hD hS hv
  subst hseg
  have hPc : va_P D vwCl wc H := hP.right.left
  have hDc : va_D A wc := hD.right.left
  have hF := z_free hD hS X.2.2.2.2.2.2.1
  refine va_callv (va_runS (As := As) (rest := rest) (z_fix X) (hM H.size) cw ⟨zPre_blind, fun U hU hW => ⟨rfl, by rw [hU], by rw [hU]; exact hPc, va_K.moved hW.alike X.2.2.2.2.2.1, hDc.weaken (fun _ _ _ _ => trivial), X.2.2.2.2.2.2.2.1.warm hW, by rw [hU]; exact X.2.2.2.2.2.2.2.2.to hS.2.1 hW.alike hF⟩⟩ rfl hn hv.1 hst (lv_room hcat) d hf) hS (fun q _ h => hF q h) hF (fun u t H1 locs1 ht hvm hr9 hB hz1 hk1 hS1 => ?_)
  obtain ⟨hP1, hK1, hD1⟩ := hB
  rw [ht] at hP1
  obtain ⟨hP2, hD2⟩ := z_join hP hD hk1 hF hP1 hD1
  subst hw
  exact kk H1 locs1 ls hP2 hD2 hS1 hv
theorem z_callNi {host : String} (X : zC p s m args c cc nL own Ts D tys A) (hM : zMi l D tys y wsm rm wc (.ref b :: As) r wc' mc ms) (cw : va_CN R s args own index y host bytes maxL ret wsm rm mc ms n ∧ (Cond.instanceMethod y).before args s = true ∧ (Cond.selects C y y).before args s = true) (hn : As.length = n) (w1 w2 : va_W) (hseg : ws = w1 ++ (wc ++ w2)) (ci q0 : Nat) (hci : vwCl[ci]? = some (C, T, N)) (he : ws[q0]? = some (b, .inr (ci, fs))) (rest : List Value) (hst : st = As.reverse ++ .ref b :: rest) (hcat : (rest.map fun v => v.category).sum ≤ 8) (d : decode cc pc = .ok (.invokevirtual index, 3)) (hf : cells + mc ≤ R.cells ∧ slots + ms ≤ R.slots) (hw : w1 ++ (wc' ++ w2) = ws')
    (kk : zW p l e R s m args below meth c nL D A (cells + mc) (slots + ms) Q ws' (pc + 3) lv (.int (iZ r) :: rest)) : zW p l e R s m args below meth c nL D A cells slots Q ws pc lv st := by
  intro H locs ls hP hD hS hv
  have hrec := va_recv X.2.2.2.2.2.1 hP hci he
  subst hseg
  have hPc : va_P D vwCl wc H := hP.right.left
  have hDc : va_D A wc := hD.right.left
  have hF := z_free hD hS X.2.2.2.2.2.2.1
  refine va_calli (va_runVN (As := As) (rest := rest) (z_fix X) (hM H.size) cw ⟨zPre_blind, hrec, fun U hU hW => ⟨rfl, by rw [hU], by rw [hU]; exact hPc, va_K.moved hW.alike X.2.2.2.2.2.1, hDc.weaken (fun _ _ _ _ => trivial), X.2.2.2.2.2.2.2.1.warm hW, by rw [hU]; exact X.2.2.2.2.2.2.2.2.to hS.2.1 hW.alike hF⟩⟩ rfl hn hv.1 hst (lv_room hcat) d hf) hS (fun q _ h => hF q h) hF (fun r9 u t H1 locs1 ht hvm hr9 hB hz1 hk1 hS1 => ?_)
  obtain ⟨hP1, hK1, hD1⟩ := hB
  rw [ht] at hP1
  obtain ⟨hP2, hD2⟩ := z_join hP hD hk1 hF hP1 hD1
  subst hw
  rw [hr9]
  exact kk H1 locs1 ls hP2 hD2 hS1 hv
theorem z_callNv {host : String} (X : zC p s m args c cc nL own Ts D tys A) (hM : zMv l D tys y wsm rm wc (.ref b :: As) wc' mc ms) (cw : va_CN R s args own index y host bytes maxL ret wsm rm mc ms n ∧ (Cond.instanceMethod y).before args s = true ∧ (Cond.selects C y y).before args s = true) (hn : As.length = n) (w1 w2 : va_W) (hseg : ws = w1 ++ (wc ++ w2)) (ci q0 : Nat) (hci : vwCl[ci]? = some (C, T, N)) (he : ws[q0]? = some (b, .inr (ci, fs))) (rest : List Value) (hst : st = As.reverse ++ .ref b :: rest) (hcat : (rest.map fun v => v.category).sum ≤ 8) (d : decode cc pc = .ok (.invokevirtual index, 3)) (hf : cells + mc ≤ R.cells ∧ slots + ms ≤ R.slots) (hw : w1 ++ (wc' ++ w2) = ws')
    (kk : zW p l e R s m args below meth c nL D A (cells + mc) (slots + ms) Q ws' (pc + 3) lv rest) : zW p l e R s m args below meth c nL D A cells slots Q ws pc lv st := by
  intro H locs ls hP hD hS hv
  have hrec := va_recv X.2.2.2.2.2.1 hP hci he
  subst hseg
  have hPc : va_P D vwCl wc H := hP.right.left
  have hDc : va_D A wc := hD.right.left
  have hF := z_free hD hS X.2.2.2.2.2.2.1
  refine va_callv (va_runVN (As := As) (rest := rest) (z_fix X) (hM H.size) cw ⟨zPre_blind, hrec, fun U hU hW => ⟨rfl, by rw [hU], by rw [hU]; exact hPc, va_K.moved hW.alike X.2.2.2.2.2.1, hDc.weaken (fun _ _ _ _ => trivial), X.2.2.2.2.2.2.2.1.warm hW, by rw [hU]; exact X.2.2.2.2.2.2.2.2.to hS.2.1 hW.alike hF⟩⟩ rfl hn hv.1 hst (lv_room hcat) d hf) hS (fun q _ h => hF q h) hF (fun u t H1 locs1 ht hvm hr9 hB hz1 hk1 hS1 => ?_)
  obtain ⟨hP1, hK1, hD1⟩ := hB
  rw [ht] at hP1
  obtain ⟨hP2, hD2⟩ := z_join hP hD hk1 hF hP1 hD1
  subst hw
  exact kk H1 locs1 ls hP2 hD2 hS1 hv
end Calls
/-! ends of a method -/
theorem z_iret (X : zC p s m args c cc nL own Ts D tys A) (hr : meth.sig.returnType = some .int) (hlocks : meth.locks = false) {wc' : va_W} {r x : Int} (hx : x = r) (hw : ws = wc') (d : decode cc pc = .ok (.ireturn, 1)) : zW p l e R s m args below meth c nL D A cells slots (MQ below (zPi D tys wc' r A) args s cells slots A) ws pc lv [.int (iZ x)] := by
  subst hx; subst hw
  exact fun H locs ls hP hD hS hv => W.iret X.1 X.2.1 hr (fun t ht hW => ⟨⟨iZ x, (), rfl, rfl, by rw [ht]; exact hP, va_K.moved hW.alike X.2.2.2.2.2.1, hD⟩, hS.F ht⟩) hS.2.2 d hlocks
theorem z_zret (X : zC p s m args c cc nL own Ts D tys A) (hr : meth.sig.returnType = some .boolean) (hlocks : meth.locks = false) {wc' : va_W} {r x : Int} (h01 : x = 0 ∨ x = 1) (hx : x = r) (hw : ws = wc') (d : decode cc pc = .ok (.ireturn, 1)) : zW p l e R s m args below meth c nL D A cells slots (MQ below (zPi D tys wc' r A) args s cells slots A) ws pc lv [.int (iZ x)] := by
  subst hx; subst hw
  exact fun H locs ls hP hD hS hv => W.zret X.1 X.2.1 hr (by rcases h01 with rfl | rfl <;> rfl) (fun t ht hW => ⟨⟨iZ x, (), rfl, rfl, by rw [ht]; exact hP, va_K.moved hW.alike X.2.2.2.2.2.1, hD⟩, hS.F ht⟩) hS.2.2 d hlocks
theorem z_vret (X : zC p s m args c cc nL own Ts D tys A) (hr : meth.sig.returnType = none) (hlocks : meth.locks = false) {wc' : va_W} (hw : ws = wc') (d : decode cc pc = .ok (.return_, 1)) : zW p l e R s m args below meth c nL D A cells slots (MQ below (zPv D tys wc' A) args s cells slots A) ws pc lv [] := by
  subst hw
  exact fun H locs ls hP hD hS hv => W.vret X.1 X.2.1 hr (fun t ht hW => ⟨⟨(), rfl, trivial, by rw [ht]; exact hP, va_K.moved hW.alike X.2.2.2.2.2.1, hD⟩, hS.F ht⟩) hS.2.2 d hlocks
end ZK
/-! bodies -/
theorem z_body {l : Launch} {y : MethodName} {ws ws' : List Cond} {rm : Room} {D : va_G} {tys : List (ClassId × FieldType)} {wc : va_W} {av : List Value} {Qc : (Nat → Prop) → Array Value → State → Outcome → State → Prop} {mc ms : Nat} {cc : ByteArray} {maxL : Nat} {ret : Option FieldType} (hy : plainName y.cls = true) (hw : ws = Cond.code y cc maxL ret :: ws') (hlen : (lg_sl av).length ≤ maxL)
    (body : ∀ (p : Program) (e : Env) (s : State) (m : MethodId) (below : List Frame) (meth : Method) (c : Code) (A : Nat → Prop), zC p s m av.toArray c cc maxL y.cls ws D tys A → meth.sig.returnType = ret → meth.locks = false → (y.name = "<init>" → meth.name = "<init>") → zW p l e rm s m av.toArray below meth c maxL D A 0 0 (MQ below (Qc A) av.toArray s mc ms A) wc 0 (lv_args 0 av) []) (sz : Nat) : Met l y ws rm (zPre D tys wc av sz) (Qc (va_A wc sz)) mc ms (va_A wc sz) := by
  refine Met.ofW (cc := cc) (maxL := maxL) (ret := ret) hy hw ?_
  intro p e s m args below meth c s₁ B hml hv
  obtain ⟨rfl, hsz, hP, hK, hD0, hG, hH⟩ := hv
  subst hsz
  have hA : ∀ q : Nat, s.heap.size ≤ q → va_A wc s.heap.size q := fun q h => Or.inr h
  have h := body p e s m below meth c (va_A wc s.heap.size) ⟨B.exec, B.bytes, hml, findClass_of_methodNamed B.named, atoms_spec (ws := ws) B.pre, hK, hA, hG, hH⟩ B.returns B.notSynchronized (fun hy => ((name_of_methodNamed B.named B.method).1).trans hy)
  have hl := lv_entry av hlen
  rw [lg_entry_eq]
  exact h s.heap [] _ hP hD0.self va_S.rf hl
theorem z_mi {l : Launch} {y : MethodName} {ws ws' : List Cond} {rm : Room} {D : va_G} {tys : List (ClassId × FieldType)} {wc wc' : va_W} {av : List Value} {r : Int} {mc ms : Nat} {cc : ByteArray} {maxL : Nat} {ret : Option FieldType} (hy : plainName y.cls = true) (hw : ws = Cond.code y cc maxL ret :: ws') (hlen : (lg_sl av).length ≤ maxL)
    (body : ∀ (p : Program) (e : Env) (s : State) (m : MethodId) (below : List Frame) (meth : Method) (c : Code) (A : Nat → Prop), zC p s m av.toArray c cc maxL y.cls ws D tys A → meth.sig.returnType = ret → meth.locks = false → (y.name = "<init>" → meth.name = "<init>") → zW p l e rm s m av.toArray below meth c maxL D A 0 0 (MQ below (zPi D tys wc' r A) av.toArray s mc ms A) wc 0 (lv_args 0 av) []) : zMi l D tys y ws rm wc av r wc' mc ms :=
  fun sz => z_body (Qc := fun A => zPi D tys wc' r A) hy hw hlen body sz
theorem z_mv {l : Launch} {y : MethodName} {ws ws' : List Cond} {rm : Room} {D : va_G} {tys : List (ClassId × FieldType)} {wc wc' : va_W} {av : List Value} {mc ms : Nat} {cc : ByteArray} {maxL : Nat} {ret : Option FieldType} (hy : plainName y.cls = true) (hw : ws = Cond.code y cc maxL ret :: ws') (hlen : (lg_sl av).length ≤ maxL)
    (body : ∀ (p : Program) (e : Env) (s : State) (m : MethodId) (below : List Frame) (meth : Method) (c : Code) (A : Nat → Prop), zC p s m av.toArray c cc maxL y.cls ws D tys A → meth.sig.returnType = ret → meth.locks = false → (y.name = "<init>" → meth.name = "<init>") → zW p l e rm s m av.toArray below meth c maxL D A 0 0 (MQ below (zPv D tys wc' A) av.toArray s mc ms A) wc 0 (lv_args 0 av) []) : zMv l D tys y ws rm wc av wc' mc ms :=
  fun sz => z_body (Qc := fun A => zPv D tys wc' A) hy hw hlen body sz
/-! loops with a counter: f 0, f 1 .. one behind the other -/
def zfor {α : Type} : Nat → (Int → α → α) → α → α
  | 0, _, a => a
  | n + 1, f, a => f (n : Int) (zfor n f a)
theorem zfor_ind {α : Type} (n : Nat) (N : Int) (hN : (n : Int) = N) (f : Int → α → α) (a0 : α) (P : Int → α → Prop) (hx : ∀ a, a = zfor n f a0 → P N a) (hs : ∀ (i : Int) (k : Nat) (a : α), i = (k : Int) → 0 ≤ i → i < N → a = zfor k f a0 → P (i + 1) (f i a) → P i a) : P 0 a0 := by
  subst hN
  have key : ∀ j k : Nat, k + j = n → P (k : Int) (zfor k f a0) := by
    intro j
    induction j with
    | zero => intro k hk; have e : k = n := by omega
              subst e; exact hx _ rfl
    | succ j ih =>
      intro k hk
      refine hs (k : Int) k _ rfl (by omega) (by omega) rfl ?_
      have h := ih (k + 1) (by omega)
      rw [show ((k + 1 : Nat) : Int) = (k : Int) + 1 by omega] at h
      exact h
  exact key n 0 (by omega)
