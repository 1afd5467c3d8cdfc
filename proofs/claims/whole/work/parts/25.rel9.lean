/-! THE OTHER CALLS keep the relation -/
theorem RR_6 {u w : GS} (h : RR u w) (k : Int) : RR u (gV w 6 k) := h
theorem RR_mem {u w : GS} (h : RR u w) {i : Int} (hi : 0 ≤ i ∧ i ≤ 5) : (w.1 7 i = 0 ∧ ¬ u.1 0 i = 0) ∨ (¬ w.1 7 i = 0 ∧ u.1 0 i = 0) := by
  have a := (h.2.2.1.2.2.2.1 i hi.1 hi.2).1
  have b := h.2.1.1.1 i
  omega
theorem upd_rg {f : Int → Int} {h x lo hi : Int} (hf : ∀ i, lo ≤ f i ∧ f i ≤ hi) (hx : lo ≤ x ∧ x ≤ hi) (i : Int) : lo ≤ updZ f h x i ∧ updZ f h x i ≤ hi := by
  have := hf i
  unfold updZ
  split <;> omega
theorem RR_fore {u w : GS} {h x : Int} (r : RR u w) (hx : -50 ≤ x ∧ x ≤ 50) (hm : w.1 7 h = 0) : RR (gA u 1 h x) (gA (gV w 6 0) 0 h x) := by
  obtain ⟨⟨⟨b0, b1, b2, b3, b8, b5, b4, bs⟩, bi, gl⟩, ⟨⟨z7, z0, z1, z2, z3, z5, z4⟩, mk, mo⟩, ⟨s1, s2, s3, s4, s5⟩, rb, re, l1, l2, q⟩ := r
  refine ⟨⟨⟨b0, upd_rg b1 hx, b2, b3, b8, b5, b4, bs⟩, bi, gl⟩, ⟨⟨z7, upd_rg z0 hx, z1, z2, z3, z5, z4⟩, mk, mo⟩, ⟨s1, s2, s3, fun i i0 i5 => ?_, s5⟩, rb, re, l1, l2, q⟩
  obtain ⟨t1, t2, t3⟩ := s4 i i0 i5
  refine ⟨t1, t2, ?_⟩
  show updZ (u.1 1) h x i = (if w.1 7 i = 0 then updZ (w.1 0) h x i else 0)
  unfold updZ
  by_cases e : i = h
  · rw [if_pos e, if_pos e, e, if_pos hm]
  · rw [if_neg e, if_neg e]; exact t3
theorem RR_meter {u w : GS} {h x : Int} (r : RR u w) (hx : -50 ≤ x ∧ x ≤ 50) (hm : w.1 7 h = 0) : RR (gA u 2 h x) (gA (gV w 6 0) 1 h x) := by
  obtain ⟨⟨⟨b0, b1, b2, b3, b8, b5, b4, bs⟩, bi, gl⟩, ⟨⟨z7, z0, z1, z2, z3, z5, z4⟩, mk, mo⟩, ⟨s1, s2, s3, s4, s5⟩, rb, re, l1, l2, q⟩ := r
  refine ⟨⟨⟨b0, b1, upd_rg b2 hx, b3, b8, b5, b4, bs⟩, bi, gl⟩, ⟨⟨z7, z0, upd_rg z1 hx, z2, z3, z5, z4⟩, mk, mo⟩, ⟨s1, s2, s3, fun i i0 i5 => ?_, s5⟩, rb, re, l1, l2, q⟩
  obtain ⟨t1, t2, t3⟩ := s4 i i0 i5
  refine ⟨t1, ?_, t3⟩
  show updZ (u.1 2) h x i = (if w.1 7 i = 0 then updZ (w.1 1) h x i else 0)
  unfold updZ
  by_cases e : i = h
  · rw [if_pos e, if_pos e, e, if_pos hm]
  · rw [if_neg e, if_neg e]; exact t2
theorem RR_price {u w : GS} {h x : Int} (r : RR u w) (hx : 0 ≤ x ∧ x ≤ 100) : RR (gA u 3 h x) (gA (gV w 6 0) 2 h x) := by
  obtain ⟨⟨⟨b0, b1, b2, b3, b8, b5, b4, bs⟩, bi, gl⟩, ⟨⟨z7, z0, z1, z2, z3, z5, z4⟩, mk, mo⟩, ⟨s1, s2⟩, rb, re, l1, l2, q⟩ := r
  refine ⟨⟨⟨b0, b1, b2, upd_rg b3 hx, b8, b5, b4, bs⟩, bi, gl⟩, ⟨⟨z7, z0, z1, upd_rg z2 hx, z3, z5, z4⟩, mk, mo⟩, ⟨?_, s2⟩, rb, re, l1, l2, q⟩
  show updZ (u.1 3) h x = updZ (w.1 2) h x
  rw [s1]
theorem RR_limit {u w : GS} {h x : Int} (r : RR u w) (hx : 0 ≤ x ∧ x ≤ 300) : RR (gA u 8 h x) (gA (gV w 6 0) 3 h x) := by
  obtain ⟨⟨⟨b0, b1, b2, b3, b8, b5, b4, bs⟩, bi, gl⟩, ⟨⟨z7, z0, z1, z2, z3, z5, z4⟩, mk, mo⟩, ⟨s1, s2, s3⟩, rb, re, l1, l2, q⟩ := r
  refine ⟨⟨⟨b0, b1, b2, b3, upd_rg b8 hx, b5, b4, bs⟩, bi, gl⟩, ⟨⟨z7, z0, z1, z2, upd_rg z3 hx, z5, z4⟩, mk, mo⟩, ⟨s1, ?_, s3⟩, rb, re, l1, l2, q⟩
  show updZ (u.1 8) h x = updZ (w.1 3) h x
  rw [s2]
theorem RR_sup {u w : GS} (a b : Int) (r : RR u w) : RR (gV (gV u 0 a) 1 b) (gV (gV (gV w 6 0) 0 a) 1 b) := by
  obtain ⟨g, m, ⟨s1, s2, s3, s4, s5, s6, s7, s8⟩, rb, re, l1, l2, q⟩ := r
  exact ⟨g, m, ⟨s1, s2, s3, s4, rfl, rfl, s7, s8⟩, rb, re, l1, l2, q⟩
theorem S6_upd (f : Int → Int) {i : Int} (hi : 0 ≤ i ∧ i ≤ 5) (y : Int) : S6 (updZ f i y) = S6 f + (y - f i) := by
  unfold S6 updZ
  rcases z05 hi with rfl | rfl | rfl | rfl | rfl | rfl <;> simp only [Int.reduceEq, if_false, if_true] <;> omega
theorem S6_ge {f : Int → Int} (hf : ∀ i, 0 ≤ f i) {i : Int} (hi : 0 ≤ i ∧ i ≤ 5) : f i ≤ S6 f := by
  have h0 := hf 0; have h1 := hf 1; have h2 := hf 2; have h3 := hf 3; have h4 := hf 4; have h5 := hf 5
  unfold S6
  rcases z05 hi with rfl | rfl | rfl | rfl | rfl | rfl <;> omega
theorem RR_rent {u w : GS} {h o x : Int} (r : RR u w) (hh : 0 ≤ h ∧ h ≤ 5) (ho : 0 ≤ o ∧ o ≤ 5) (hho : ¬ h = o) (hx : 1 ≤ x ∧ x ≤ 100) (hr : w.1 5 h ≤ w.1 4 h - x) : RR (f_rent u h o x) (m_rentW (gV w 6 0) h o x) := by
  obtain ⟨⟨⟨b0, b1, b2, b3, b8, b5, b4, bs⟩, bi, gl⟩, ⟨⟨z7, z0, z1, z2, z3, z5, z4⟩, mk, mo⟩, ⟨s1, s2, s3, s4⟩, rb, ⟨e1, e2⟩, l1, l2, q⟩ := r
  have eP : (f_rent u h o x).1 4 = updZ (updZ (w.1 4) h (w.1 4 h - x)) o (w.1 4 o + x) := by
    show updZ (updZ (u.1 4) h (u.1 4 h - x)) o (updZ (u.1 4) h (u.1 4 h - x) o + x) = _
    rw [s3, updZ_n _ _ (fun e => hho e.symm)]
  have eM : (m_rentW (gV w 6 0) h o x).1 4 = updZ (updZ (w.1 4) h (w.1 4 h - x)) o (w.1 4 o + x) := by
    show updZ (updZ (w.1 4) h (w.1 4 h - x)) o (updZ (w.1 4) h (w.1 4 h - x) o + x) = _
    rw [updZ_n _ _ (fun e => hho e.symm)]
  have h5 : ∀ i, 0 ≤ w.1 5 i ∧ w.1 5 i ≤ updZ (updZ (w.1 4) h (w.1 4 h - x)) o (w.1 4 o + x) i := by
    intro i
    have z := z5 i
    unfold updZ
    by_cases e : i = o
    · subst e; rw [if_pos rfl]; omega
    · rw [if_neg e]
      by_cases e2 : i = h
      · subst e2; rw [if_pos rfl]; omega
      · rw [if_neg e2]; exact z
  have hs : S6 (updZ (updZ (w.1 4) h (w.1 4 h - x)) o (w.1 4 o + x)) ≤ 120 := by
    rw [S6_upd _ ho, S6_upd _ hh, updZ_n _ _ (fun e => hho e.symm)]
    have : S6 (w.1 4) ≤ 120 := by rw [← s3]; exact bs
    omega
  have h4 : ∀ i, updZ (updZ (w.1 4) h (w.1 4 h - x)) o (w.1 4 o + x) i ≤ 120 := by
    intro i
    by_cases e : 0 ≤ i ∧ i ≤ 5
    · have := S6_ge (fun i => Int.le_trans (h5 i).1 (h5 i).2) e
      omega
    · rw [updZ_n _ _ (by omega), updZ_n _ _ (by omega)]; exact z4 i
  refine ⟨⟨⟨b0, b1, b2, b3, b8, ?_, ?_, ?_⟩, bi, gl⟩, ⟨⟨z7, z0, z1, z2, z3, ?_, ?_⟩, mk, mo⟩, ⟨s1, s2, eP.trans eM.symm, s4⟩, rb, ⟨e1, e2⟩, l1, l2, q⟩
  · rw [eP]
    show ∀ i, 0 ≤ u.1 5 i ∧ u.1 5 i ≤ _
    rw [e1]; exact h5
  · rw [eP]; exact h4
  · rw [eP]; exact hs
  · rw [eM]; exact h5
  · rw [eM]; exact h4
theorem RR_leave {u w : GS} {h : Int} (r : RR u w) (hh : 0 ≤ h ∧ h ≤ 5) : RR (f_leave u h) (m_leaveW (gV w 6 0) h) ∧ u.1 5 h * u.2 1 = w.1 5 h * w.2 1 := by
  obtain ⟨⟨⟨b0, b1, b2, b3, b8, b5, b4, bs⟩, bi, gl⟩, ⟨⟨z7, z0, z1, z2, z3, z5, z4⟩, mk, mo⟩, ⟨s1, s2, s3, s4, s5, s6, s7, s8⟩, rb, ⟨e1, e2, e3, e4, e5⟩, l1, l2, q⟩ := r
  have ew : u.1 5 h * u.2 1 = w.1 5 h * w.2 1 := by rw [e1, s6]
  refine ⟨?_, ew⟩
  have h5 : ∀ i, 0 ≤ updZ (w.1 5) h 0 i ∧ updZ (w.1 5) h 0 i ≤ updZ (w.1 4) h 0 i := by
    intro i
    have z := z5 i
    unfold updZ
    by_cases e : i = h
    · rw [if_pos e, if_pos e]; omega
    · rw [if_neg e, if_neg e]; exact z
  have h4 : ∀ i, updZ (w.1 4) h 0 i ≤ 120 := by
    intro i
    have z := z4 i
    unfold updZ
    split <;> omega
  have hs : S6 (updZ (w.1 4) h 0) ≤ 120 := by
    rw [S6_upd _ hh]
    have : S6 (w.1 4) ≤ 120 := by rw [← s3]; exact bs
    have := z5 h
    omega
  refine ⟨⟨⟨upd_rg b0 ⟨by omega, by omega⟩, upd_rg b1 ⟨by omega, by omega⟩, upd_rg b2 ⟨by omega, by omega⟩, b3, b8, ?_, ?_, ?_⟩, bi, gl⟩, ⟨⟨upd_rg z7 ⟨by omega, by omega⟩, z0, z1, z2, z3, h5, h4⟩, mk, mo⟩, ⟨s1, s2, ?_, fun i i0 i5 => ?_, s5, s6, s7, s8⟩, rb, ⟨?_, fun i i0 i5 => ?_, e3, e4, ?_⟩, l1, l2, q⟩
  · show ∀ i, 0 ≤ updZ (u.1 5) h 0 i ∧ updZ (u.1 5) h 0 i ≤ updZ (u.1 4) h 0 i
    rw [e1, s3]; exact h5
  · show ∀ i, updZ (u.1 4) h 0 i ≤ 120
    rw [s3]; exact h4
  · show S6 (updZ (u.1 4) h 0) ≤ 120
    rw [s3]; exact hs
  · show updZ (u.1 4) h 0 = updZ (w.1 4) h 0
    rw [s3]
  · obtain ⟨t1, t2, t3⟩ := s4 i i0 i5
    show updZ (u.1 0) h 0 i = 1 - updZ (w.1 7) h 1 i ∧ updZ (u.1 2) h 0 i = (if updZ (w.1 7) h 1 i = 0 then w.1 1 i else 0) ∧ updZ (u.1 1) h 0 i = (if updZ (w.1 7) h 1 i = 0 then w.1 0 i else 0)
    unfold updZ
    by_cases e : i = h
    · rw [if_pos e, if_pos e, if_pos e, if_pos e]
      exact ⟨by omega, by rw [if_neg (by omega)], by rw [if_neg (by omega)]⟩
    · rw [if_neg e, if_neg e, if_neg e, if_neg e]
      exact ⟨t1, t2, t3⟩
  · show updZ (u.1 5) h 0 = updZ (w.1 5) h 0
    rw [e1]
  · show updZ (u.1 6) h (u.1 6 h + -(u.1 5 h * u.2 1)) i = updZ (w.1 6) h (w.1 6 h - w.1 5 h * w.2 1) i
    rw [ew]
    unfold updZ
    by_cases e : i = h
    · rw [if_pos e, if_pos e, e2 h hh.1 hh.2]; omega
    · rw [if_neg e, if_neg e]; exact e2 i i0 i5
  · show u.2 2 + -(u.1 5 h * u.2 1) = w.2 2 - w.1 5 h * w.2 1
    rw [ew, e5]; omega
theorem fnew_val : (∀ i, f_new.1 0 i = if 0 ≤ i ∧ i < 6 then 1 else 0) ∧ (∀ i, f_new.1 3 i = if 0 ≤ i ∧ i < 6 then 10 else 0) ∧ (∀ i, f_new.1 4 i = if 0 ≤ i ∧ i < 6 then 20 else 0) ∧ (∀ i, f_new.1 8 i = if 0 ≤ i ∧ i < 5 then 100 else 0) ∧ (∀ j : Nat, j ≠ 0 → j ≠ 3 → j ≠ 4 → j ≠ 8 → f_new.1 j = z0) ∧ f_new.2 = s_zero.2 := by
  have a := zfor_inv f_newH s_zero (fun k a => (∀ i, a.1 0 i = if 0 ≤ i ∧ i < k then 1 else 0) ∧ (∀ i, a.1 3 i = if 0 ≤ i ∧ i < k then 10 else 0) ∧ (∀ i, a.1 4 i = if 0 ≤ i ∧ i < k then 20 else 0) ∧ (∀ j : Nat, j ≠ 0 → j ≠ 3 → j ≠ 4 → a.1 j = z0) ∧ a.2 = s_zero.2) 6 ⟨fun i => by rw [if_neg (by omega)]; rfl, fun i => by rw [if_neg (by omega)]; rfl, fun i => by rw [if_neg (by omega)]; rfl, fun j _ _ _ => rfl, rfl⟩ (fun k a h0 h1 h => by
    refine ⟨fun i => ?_, fun i => ?_, fun i => ?_, fun j j0 j3 j4 => ?_, h.2.2.2.2⟩
    · show updZ (a.1 0) k 1 i = _
      unfold updZ
      have := h.1 i
      by_cases e : i = k
      · rw [if_pos e, if_pos (by omega)]
      · rw [if_neg e, this]
        by_cases z : 0 ≤ i ∧ i < k
        · rw [if_pos z, if_pos (by omega)]
        · rw [if_neg z, if_neg (by omega)]
    · show updZ (a.1 3) k 10 i = _
      unfold updZ
      have := h.2.1 i
      by_cases e : i = k
      · rw [if_pos e, if_pos (by omega)]
      · rw [if_neg e, this]
        by_cases z : 0 ≤ i ∧ i < k
        · rw [if_pos z, if_pos (by omega)]
        · rw [if_neg z, if_neg (by omega)]
    · show updZ (a.1 4) k 20 i = _
      unfold updZ
      have := h.2.2.1 i
      by_cases e : i = k
      · rw [if_pos e, if_pos (by omega)]
      · rw [if_neg e, this]
        by_cases z : 0 ≤ i ∧ i < k
        · rw [if_pos z, if_pos (by omega)]
        · rw [if_neg z, if_neg (by omega)]
    · simp only [f_newH]
      rw [gA_1n _ _ _ j4, gA_1n _ _ _ j3, gA_1n _ _ _ j0]
      exact h.2.2.2.1 j j0 j3 j4) 6 (by omega)
  generalize hc : zfor 6 f_newH s_zero = c at a
  have e : f_new = zfor 5 f_newL c := by unfold f_new; rw [hc]
  have b := zfor_inv f_newL c (fun k b => (∀ i, b.1 8 i = if 0 ≤ i ∧ i < k then 100 else 0) ∧ (∀ j : Nat, j ≠ 8 → b.1 j = c.1 j) ∧ b.2 = c.2) 5 ⟨fun i => by rw [if_neg (by omega), a.2.2.2.1 8 (by decide) (by decide) (by decide)]; rfl, fun _ _ => rfl, rfl⟩ (fun k b h0 h1 h => by
    refine ⟨fun i => ?_, fun j j8 => ?_, h.2.2⟩
    · show updZ (b.1 8) k 100 i = _
      unfold updZ
      have := h.1 i
      by_cases e : i = k
      · rw [if_pos e, if_pos (by omega)]
      · rw [if_neg e, this]
        by_cases z : 0 ≤ i ∧ i < k
        · rw [if_pos z, if_pos (by omega)]
        · rw [if_neg z, if_neg (by omega)]
    · simp only [f_newL]
      rw [gA_1n _ _ _ j8]
      exact h.2.1 j j8) 5 (by omega)
  rw [← e] at b
  obtain ⟨b8, bj, b2⟩ := b
  refine ⟨?_, ?_, ?_, b8, fun j j0 j3 j4 j8 => ?_, ?_⟩
  · rw [bj 0 (by decide)]; exact a.1
  · rw [bj 3 (by decide)]; exact a.2.1
  · rw [bj 4 (by decide)]; exact a.2.2.1
  · rw [bj j j8]; exact a.2.2.2.1 j j0 j3 j4
  · rw [b2]; exact a.2.2.2.2
theorem mnew_val : (∀ i, m_new.1 2 i = if 0 ≤ i ∧ i < 6 then 10 else 0) ∧ (∀ i, m_new.1 4 i = if 0 ≤ i ∧ i < 6 then 20 else 0) ∧ (∀ i, m_new.1 3 i = if 0 ≤ i ∧ i < 5 then 100 else 0) ∧ (∀ j : Nat, j ≠ 2 → j ≠ 4 → j ≠ 3 → m_new.1 j = z0) ∧ m_new.2 = s_zero.2 := by
  have a := zfor_inv m_newH s_zero (fun k a => (∀ i, a.1 2 i = if 0 ≤ i ∧ i < k then 10 else 0) ∧ (∀ i, a.1 4 i = if 0 ≤ i ∧ i < k then 20 else 0) ∧ (∀ j : Nat, j ≠ 2 → j ≠ 4 → a.1 j = z0) ∧ a.2 = s_zero.2) 6 ⟨fun i => by rw [if_neg (by omega)]; rfl, fun i => by rw [if_neg (by omega)]; rfl, fun j _ _ => rfl, rfl⟩ (fun k a h0 h1 h => by
    refine ⟨fun i => ?_, fun i => ?_, fun j j3 j4 => ?_, h.2.2.2⟩
    · show updZ (a.1 2) k 10 i = _
      unfold updZ
      have := h.1 i
      by_cases e : i = k
      · rw [if_pos e, if_pos (by omega)]
      · rw [if_neg e, this]
        by_cases z : 0 ≤ i ∧ i < k
        · rw [if_pos z, if_pos (by omega)]
        · rw [if_neg z, if_neg (by omega)]
    · show updZ (a.1 4) k 20 i = _
      unfold updZ
      have := h.2.1 i
      by_cases e : i = k
      · rw [if_pos e, if_pos (by omega)]
      · rw [if_neg e, this]
        by_cases z : 0 ≤ i ∧ i < k
        · rw [if_pos z, if_pos (by omega)]
        · rw [if_neg z, if_neg (by omega)]
    · simp only [m_newH]
      rw [gA_1n _ _ _ j4, gA_1n _ _ _ j3]
      exact h.2.2.1 j j3 j4) 6 (by omega)
  generalize hc : zfor 6 m_newH s_zero = c at a
  have e : m_new = zfor 5 m_newL c := by unfold m_new; rw [hc]
  have b := zfor_inv m_newL c (fun k b => (∀ i, b.1 3 i = if 0 ≤ i ∧ i < k then 100 else 0) ∧ (∀ j : Nat, j ≠ 3 → b.1 j = c.1 j) ∧ b.2 = c.2) 5 ⟨fun i => by rw [if_neg (by omega), a.2.2.1 3 (by decide) (by decide)]; rfl, fun _ _ => rfl, rfl⟩ (fun k b h0 h1 h => by
    refine ⟨fun i => ?_, fun j j8 => ?_, h.2.2⟩
    · show updZ (b.1 3) k 100 i = _
      unfold updZ
      have := h.1 i
      by_cases e : i = k
      · rw [if_pos e, if_pos (by omega)]
      · rw [if_neg e, this]
        by_cases z : 0 ≤ i ∧ i < k
        · rw [if_pos z, if_pos (by omega)]
        · rw [if_neg z, if_neg (by omega)]
    · simp only [m_newL]
      rw [gA_1n _ _ _ j8]
      exact h.2.1 j j8) 5 (by omega)
  rw [← e] at b
  obtain ⟨b8, bj, b2⟩ := b
  refine ⟨?_, ?_, b8, fun j j0 j4 j8 => ?_, ?_⟩
  · rw [bj 2 (by decide)]; exact a.1
  · rw [bj 4 (by decide)]; exact a.2.1
  · rw [bj j j8]; exact a.2.2.1 j j0 j4
  · rw [b2]; exact a.2.2.2
/-- new objects are alike -/
theorem RR_new : RR f_new m_new := by
  obtain ⟨f0, f3, f4, f8, fj, f2⟩ := fnew_val
  obtain ⟨m2, m4, m3, mj, mn⟩ := mnew_val
  have e1 := fj 1 (by decide) (by decide) (by decide) (by decide)
  have e2 := fj 2 (by decide) (by decide) (by decide) (by decide)
  have e5 := fj 5 (by decide) (by decide) (by decide) (by decide)
  have e6 := fj 6 (by decide) (by decide) (by decide) (by decide)
  have e7 := fj 7 (by decide) (by decide) (by decide) (by decide)
  have e9 := fj 9 (by decide) (by decide) (by decide) (by decide)
  have e10 := fj 10 (by decide) (by decide) (by decide) (by decide)
  have e11 := fj 11 (by decide) (by decide) (by decide) (by decide)
  have e12 := fj 12 (by decide) (by decide) (by decide) (by decide)
  have e13 := fj 13 (by decide) (by decide) (by decide) (by decide)
  have e14 := fj 14 (by decide) (by decide) (by decide) (by decide)
  have e15 := fj 15 (by decide) (by decide) (by decide) (by decide)
  have k0 := mj 0 (by decide) (by decide) (by decide)
  have k1 := mj 1 (by decide) (by decide) (by decide)
  have k5 := mj 5 (by decide) (by decide) (by decide)
  have k6 := mj 6 (by decide) (by decide) (by decide)
  have k7 := mj 7 (by decide) (by decide) (by decide)
  have k8 := mj 8 (by decide) (by decide) (by decide)
  have k9 := mj 9 (by decide) (by decide) (by decide)
  have k10 := mj 10 (by decide) (by decide) (by decide)
  have k11 := mj 11 (by decide) (by decide) (by decide)
  have k12 := mj 12 (by decide) (by decide) (by decide)
  have k13 := mj 13 (by decide) (by decide) (by decide)
  have k14 := mj 14 (by decide) (by decide) (by decide)
  refine ⟨⟨⟨?_, ?_, ?_, ?_, ?_, ?_, ?_, ?_⟩, ?_, ?_⟩, ⟨⟨?_, ?_, ?_, ?_, ?_, ?_, ?_⟩, ?_, ?_⟩, ⟨?_, ?_, ?_, ?_, ?_, ?_, ?_, ?_⟩, ⟨?_, ?_, ?_, ?_, ?_⟩, ⟨?_, ?_, ?_, ?_, ?_⟩, ?_, ?_, ?_, ?_⟩
  · intro i; rw [f0]; split <;> omega
  · rw [e1]; intro i; show -50 ≤ (0 : Int) ∧ (0 : Int) ≤ 50; omega
  · rw [e2]; intro i; show -50 ≤ (0 : Int) ∧ (0 : Int) ≤ 50; omega
  · intro i; rw [f3]; split <;> omega
  · intro i; rw [f8]; split <;> omega
  · rw [e5]; intro i; rw [f4]; show 0 ≤ (0 : Int) ∧ (0 : Int) ≤ _; split <;> omega
  · intro i; rw [f4]; split <;> omega
  · rw [f4, f4, f4, f4, f4, f4]; decide
  · unfold BI; rw [f2, e11, e12, e13, e14]
    exact ⟨by decide, by decide, fun t => by show 0 ≤ (0 : Int) ∧ 0 ≤ (0 : Int) ∧ (0 : Int) + 0 ≤ 50 ∧ 0 ≤ (0 : Int) ∧ (0 : Int) ≤ 5 ∧ 0 ≤ (0 : Int) ∧ (0 : Int) ≤ 5; omega⟩
  · rw [e7]; intro i _; show -50 ≤ (0 : Int) ∧ (0 : Int) ≤ 50; omega
  · rw [k7]; intro i; show 0 ≤ (0 : Int) ∧ (0 : Int) ≤ 1; omega
  · rw [k0]; intro i; show -50 ≤ (0 : Int) ∧ (0 : Int) ≤ 50; omega
  · rw [k1]; intro i; show -50 ≤ (0 : Int) ∧ (0 : Int) ≤ 50; omega
  · intro i; rw [m2]; split <;> omega
  · intro i; rw [m3]; split <;> omega
  · rw [k5]; intro i; rw [m4]; show 0 ≤ (0 : Int) ∧ (0 : Int) ≤ _; split <;> omega
  · intro i; rw [m4]; split <;> omega
  · unfold MBk; rw [mn, k8, k9, k10]
    exact ⟨by decide, by decide, fun t => by show 0 ≤ (0 : Int) ∧ (0 : Int) ≤ 50 ∧ 0 ≤ (0 : Int) ∧ (0 : Int) ≤ 5 ∧ 0 ≤ (0 : Int) ∧ (0 : Int) ≤ 5; omega⟩
  · unfold MOut; rw [k14]; intro i _; show 0 ≤ (0 : Int) ∧ (0 : Int) ≤ 50; omega
  · funext i; rw [f3, m2]
  · funext i; rw [f8, m3]
  · funext i; rw [f4, m4]
  · intro i i0 i5
    rw [f0, if_pos ⟨i0, by omega⟩, k7, e2, e1, k1, k0]
    exact ⟨rfl, rfl, rfl⟩
  · rw [f2, mn]
  · rw [f2, mn]
  · rw [f2, mn]
  · rw [f2, mn]
  · rw [f2, mn]
  · rw [e11, k8]
  · rw [e12, k9]
  · rw [e13, k10]
  · rw [e15, k11]
  · rw [e5, k5]
  · intro i _ _; rw [e6, k6]
  · rw [e9, k13]
  · intro i; rw [e10, k12]
  · rw [f2, mn]
  · rw [e7]; intro i; show -1000 ≤ (0 : Int) ∧ (0 : Int) ≤ 1000; omega
  · rw [k14]; intro i; show 0 ≤ (0 : Int) ∧ (0 : Int) ≤ 1000; omega
  · rw [mn]; decide
  · rw [mn]; decide
