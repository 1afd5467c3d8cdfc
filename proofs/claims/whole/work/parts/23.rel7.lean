/-! A WHOLE CLEARING -/
theorem MOut_cut1 {x : GS} {lt y : Int} (hb : MBk x) (h : MOut x) : MOut (m_cut1 x lt y) := by
  intro i hi
  have b := hb.2.2 lt
  show 0 ≤ updZ (updZ (x.1 14) (x.1 8 lt) (x.1 14 (x.1 8 lt) + y)) (x.1 9 lt) (updZ (x.1 14) (x.1 8 lt) (x.1 14 (x.1 8 lt) + y) (x.1 9 lt) + y) i ∧ updZ (updZ (x.1 14) (x.1 8 lt) (x.1 14 (x.1 8 lt) + y)) (x.1 9 lt) (updZ (x.1 14) (x.1 8 lt) (x.1 14 (x.1 8 lt) + y) (x.1 9 lt) + y) i ≤ 50
  rw [updZ_n _ _ (show i ≠ x.1 9 lt by omega), updZ_n _ _ (show i ≠ x.1 8 lt by omega)]
  exact h i hi
theorem MOut_cutsL (k : Int) : ∀ (n : Nat) (y : Int × GS), MI2 y.2 → MOut y.2 → MOut (m_cutsL k n y).2 := by
  intro n
  induction n with
  | zero => intro y _ h; exact h
  | succ n ih =>
    intro y hI h
    simp only [m_cutsL]
    split
    · next hc =>
      obtain ⟨r1, r2, r3, r4, r5, r6⟩ := m_its_rg hI hc
      exact ih _ (MI2_cut1 hI ⟨r1, r3⟩ (by omega) r5) (MOut_cut1 hI.2.1 h)
    · exact h
theorem MOut_pass : ∀ (n : Nat) (y : Int × GS), MI2 y.2 → MOut y.2 → MOut (m_pass n y).2 := by
  intro n
  induction n with
  | zero => intro y _ h; exact h
  | succ n ih =>
    intro y hI h
    simp only [m_pass]
    refine ih _ (m_cuts_ok hI (n : Int)).1 ?_
    show MOut (m_cuts y.2 (n : Int)).2
    unfold m_cuts
    exact MOut_cutsL _ _ _ hI h
theorem MOut_cutAll : ∀ (n : Nat) (y : Int × GS), MI2 y.2 → MOut y.2 → MOut (m_cutAll n y) := by
  intro n
  induction n with
  | zero => intro y _ h; exact h
  | succ n ih =>
    intro y hI h
    simp only [m_cutAll]
    split
    · exact ih _ (MI2_went (m_pass_ok 5 (0, y.2) hI).1 _ _) (MOut_pass 5 (0, y.2) hI h)
    · exact h
theorem MOut_house {h : Int} (hh : 0 ≤ h ∧ h ≤ 5) {x : GS} (k : MOut x) : MOut (m_house h x) := by
  intro i hi
  have e : (m_house h x).1 14 i = x.1 14 i := by
    show (m_store x h).1 14 i = _
    unfold m_store
    split
    · exact (keeps_val x h).choose_spec.2.2.2.2.2.2 i (by omega)
    · split
      · exact updZ_n _ _ (by omega)
      · rfl
  rw [e]
  exact k i hi
theorem count_RH {v x : GS} (h : RC v x (CT v)) (hx : MBk x) : RH 0 (f_count v) (m_set x) := by
  obtain ⟨⟨s1, s2, s3, s4, s5, s6, s7, s8⟩, ⟨b1, b2, b3, b4, b5⟩, rk, r5, r9, r10, r1, q1, r6, r14, rp⟩ := h
  have c1 : ∀ j : Nat, j ≠ 9 → j ≠ 10 → (f_count v).1 j = v.1 j := fun j a b => f_count_1 v j a b
  have c2 : ∀ j : Nat, j ≠ 2 → (f_count v).2 j = v.2 j := fun j a => f_count_2 v j a
  have m1 : ∀ j : Nat, j ≠ 6 → j ≠ 12 → (m_set x).1 j = x.1 j := fun j a b => m_setk_1 x _ j a b
  have m2 : (m_set x).2 = x.2 := m_setk_2 x _
  have n1 := m1 1 (by decide) (by decide)
  have n7 := m1 7 (by decide) (by decide)
  obtain ⟨k10, kp, k9⟩ := count_val v
  obtain ⟨t6, t12⟩ := set_val x (fun t t0 t1 e => by
    have k := rk t t0 t1
    have := buyer_isel x _ k.2
    rw [e] at k
    exact k.1 this)
  refine ⟨?_, ⟨?_, ?_, ?_, ?_, ?_⟩, ?_, ?_, ?_, ?_, fun i i0 i5 => ⟨fun q => by omega, fun _ => ?_⟩⟩
  · unfold RS
    rw [c1 3 (by decide) (by decide), c1 8 (by decide) (by decide), c1 4 (by decide) (by decide), c1 0 (by decide) (by decide), c1 1 (by decide) (by decide), c1 2 (by decide) (by decide), c2 0 (by decide), c2 1 (by decide), c2 3 (by decide), c2 4 (by decide), m1 2 (by decide) (by decide), m1 3 (by decide) (by decide), m1 4 (by decide) (by decide), m1 0 (by decide) (by decide), n1, n7, m2]
    exact ⟨s1, s2, s3, s4, s5, s6, s7, s8⟩
  · rw [c2 5 (by decide), m2]; exact b1
  · rw [c1 11 (by decide) (by decide), m1 8 (by decide) (by decide)]; exact b2
  · rw [c1 12 (by decide) (by decide), m1 9 (by decide) (by decide)]; exact b3
  · rw [c1 13 (by decide) (by decide), m1 10 (by decide) (by decide)]; exact b4
  · rw [c1 15 (by decide) (by decide), m1 11 (by decide) (by decide)]; exact b5
  · intro t t0 t1
    rw [isel_congr n1 n7, buyer_congr n1 n7, m1 8 (by decide) (by decide), m1 9 (by decide) (by decide)]
    exact rk t t0 (by rw [m2] at t1; exact t1)
  · rw [c1 5 (by decide) (by decide), m1 5 (by decide) (by decide)]; exact r5
  · intro i
    rw [k10, t12]
    by_cases e : i = 0
    · rw [if_pos e, if_pos e, r10 0 (by omega), b1, b4]
    · rw [if_neg e, if_neg e]
      by_cases e1 : i = 1
      · rw [if_pos e1, e1, r1, q1]; omega
      · rw [if_neg e1]; exact r10 i e1
  · rw [kp, m2, r1, rp]; omega
  · obtain ⟨d1, d2, d3, d4⟩ := sums_congr (u := v) (v := f_count v) (fun j hj => c1 j (by omega) (by omega)) (c2 5 (by decide)) i
    rw [d1, d2, d3, d4, c1 6 (by decide) (by decide), c1 7 (by decide) (by decide), m1 14 (by decide) (by decide), buyer_congr n1 n7, isel_congr n1 n7]
    refine ⟨?_, r14 i i0 i5⟩
    rw [t6, r6 i i0 i5]
    have e1 : VS v i = SZ (x.2 5).toNat (fun t => if x.1 8 t = i then x.1 10 t * x.1 11 t else 0) := by unfold VS; rw [b1, b2, b4, b5]
    have e2 : VB v i = SZ (x.2 5).toNat (fun t => if x.1 9 t = i then x.1 10 t * x.1 11 t else 0) := by unfold VB; rw [b1, b3, b4, b5]
    rw [← e1, ← e2]
    omega
theorem houses_sim {v x : GS} (h : RH 0 v x) (g : GI3 0 v) : ∀ k : Nat, k ≤ 6 → RH (k : Int) (zfor k f_house v) (zfor k m_house x) ∧ (zfor k f_house v).1 9 = v.1 9 ∧ (zfor k m_house x).1 13 = x.1 13 ∧ (zfor k m_house x).1 8 = x.1 8 ∧ (zfor k m_house x).1 9 = x.1 9 ∧ (zfor k m_house x).1 10 = x.1 10 ∧ (zfor k m_house x).2 5 = x.2 5 := by
  intro k
  induction k with
  | zero => intro _; exact ⟨h, rfl, rfl, rfl, rfl, rfl, rfl⟩
  | succ k ih =>
    intro hk
    obtain ⟨i1, i2, i3, i4, i5, i6, i7⟩ := ih (by omega)
    have gk := GI3_housek g k (by omega)
    have m1 : ∀ j : Nat, j ≠ 5 → j ≠ 6 → j ≠ 12 → j ≠ 14 → (m_house (k : Int) (zfor k m_house x)).1 j = (zfor k m_house x).1 j := fun j a b c d => by
      show (m_fine (m_store _ _) _).1 j = _
      unfold m_fine
      rw [gV_1, gA_1n _ _ _ b]
      exact m_store_1 _ _ j a b c d
    refine ⟨?_, ?_, ?_, ?_, ?_, ?_, ?_⟩
    · rw [show ((k + 1 : Nat) : Int) = (k : Int) + 1 by omega]
      exact RH_house ⟨by omega, by omega⟩ i1 gk
    · exact (f_house_1 _ _ 9 (by decide) (by decide) (by decide) (by decide)).trans i2
    · exact (m1 13 (by decide) (by decide) (by decide) (by decide)).trans i3
    · exact (m1 8 (by decide) (by decide) (by decide) (by decide)).trans i4
    · exact (m1 9 (by decide) (by decide) (by decide) (by decide)).trans i5
    · exact (m1 10 (by decide) (by decide) (by decide) (by decide)).trans i6
    · show (m_fine (m_store _ _) _).2 5 = _
      unfold m_fine
      rw [gV_2n _ _ (by decide)]
      exact (m_store_2 _ _ 5 (by decide) (by decide)).trans i7
theorem nextf_val (u : GS) : (∀ j : Nat, j ≠ 1 → j ≠ 2 → (f_next u).1 j = u.1 j) ∧ (∀ i, (f_next u).1 1 i = if 0 ≤ i ∧ i < 6 then 0 else u.1 1 i) ∧ (∀ i, (f_next u).1 2 i = if 0 ≤ i ∧ i < 6 then 0 else u.1 2 i) ∧ (∀ j : Nat, j ≠ 4 → (f_next u).2 j = u.2 j) ∧ (f_next u).2 4 = u.2 4 + 1 := by
  have w := zfor_inv f_nextS u (fun k a => (∀ j : Nat, j ≠ 1 → j ≠ 2 → a.1 j = u.1 j) ∧ (∀ i, a.1 1 i = if 0 ≤ i ∧ i < k then 0 else u.1 1 i) ∧ (∀ i, a.1 2 i = if 0 ≤ i ∧ i < k then 0 else u.1 2 i) ∧ a.2 = u.2) 6 ⟨fun _ _ _ => rfl, fun i => by rw [if_neg (by omega)], fun i => by rw [if_neg (by omega)], rfl⟩ (fun k a h0 h1 h => ⟨fun j a1 a2 => by simp only [f_nextS]; rw [gA_1n _ _ _ a2, gA_1n _ _ _ a1]; exact h.1 j a1 a2, fun i => by
    show updZ (a.1 1) k 0 i = _
    unfold updZ
    by_cases e : i = k
    · rw [if_pos e, if_pos (by omega)]
    · rw [if_neg e, h.2.1 i]
      by_cases q : 0 ≤ i ∧ i < k
      · rw [if_pos q, if_pos (by omega)]
      · rw [if_neg q, if_neg (by omega)], fun i => by
    show updZ (a.1 2) k 0 i = _
    unfold updZ
    by_cases e : i = k
    · rw [if_pos e, if_pos (by omega)]
    · rw [if_neg e, h.2.2.1 i]
      by_cases q : 0 ≤ i ∧ i < k
      · rw [if_pos q, if_pos (by omega)]
      · rw [if_neg q, if_neg (by omega)], h.2.2.2⟩) 6 (by omega)
  obtain ⟨a1, a2, a3, a4⟩ := w
  have e : f_next u = gV (zfor 6 f_nextS u) 4 ((zfor 6 f_nextS u).2 4 + 1) := rfl
  generalize zfor 6 f_nextS u = c at a1 a2 a3 a4 e
  rw [e]
  exact ⟨a1, a2, a3, fun j hj => by rw [gV_2n _ _ hj, a4], by rw [gV_2s, a4]⟩
theorem nextm_val (u : GS) : (∀ j : Nat, j ≠ 0 → j ≠ 1 → (m_next u).1 j = u.1 j) ∧ (∀ i, (m_next u).1 0 i = if 0 ≤ i ∧ i < 6 then 0 else u.1 0 i) ∧ (∀ i, (m_next u).1 1 i = if 0 ≤ i ∧ i < 6 then 0 else u.1 1 i) ∧ (∀ j : Nat, j ≠ 4 → (m_next u).2 j = u.2 j) ∧ (m_next u).2 4 = u.2 4 + 1 := by
  have w := zfor_inv m_nextS u (fun k a => (∀ j : Nat, j ≠ 0 → j ≠ 1 → a.1 j = u.1 j) ∧ (∀ i, a.1 0 i = if 0 ≤ i ∧ i < k then 0 else u.1 0 i) ∧ (∀ i, a.1 1 i = if 0 ≤ i ∧ i < k then 0 else u.1 1 i) ∧ a.2 = u.2) 6 ⟨fun _ _ _ => rfl, fun i => by rw [if_neg (by omega)], fun i => by rw [if_neg (by omega)], rfl⟩ (fun k a h0 h1 h => ⟨fun j a1 a2 => by simp only [m_nextS]; rw [gA_1n _ _ _ a2, gA_1n _ _ _ a1]; exact h.1 j a1 a2, fun i => by
    show updZ (a.1 0) k 0 i = _
    unfold updZ
    by_cases e : i = k
    · rw [if_pos e, if_pos (by omega)]
    · rw [if_neg e, h.2.1 i]
      by_cases q : 0 ≤ i ∧ i < k
      · rw [if_pos q, if_pos (by omega)]
      · rw [if_neg q, if_neg (by omega)], fun i => by
    show updZ (a.1 1) k 0 i = _
    unfold updZ
    by_cases e : i = k
    · rw [if_pos e, if_pos (by omega)]
    · rw [if_neg e, h.2.2.1 i]
      by_cases q : 0 ≤ i ∧ i < k
      · rw [if_pos q, if_pos (by omega)]
      · rw [if_neg q, if_neg (by omega)], h.2.2.2⟩) 6 (by omega)
  obtain ⟨a1, a2, a3, a4⟩ := w
  have e : m_next u = gV (zfor 6 m_nextS u) 4 ((zfor 6 m_nextS u).2 4 + 1) := rfl
  generalize zfor 6 m_nextS u = c at a1 a2 a3 a4 e
  rw [e]
  exact ⟨a1, a2, a3, fun j hj => by rw [gV_2n _ _ hj, a4], by rw [gV_2s, a4]⟩
theorem flowF_val (x : GS) (i : Int) : (zfor 5 m_flowF x).1 13 i = if 0 ≤ i ∧ i < 5 then m_flow x i else x.1 13 i := by
  have fl : ∀ (a : GS) (k : Int), a.1 8 = x.1 8 → a.1 9 = x.1 9 → a.1 10 = x.1 10 → a.2 5 = x.2 5 → m_flow a k = m_flow x k := by
    intro a k h1 h2 h3 h4
    rw [flow_SZ, flow_SZ, h4]
    refine SZ_congr (fun t _ _ => ?_)
    show m_over a t k * a.1 10 t = m_over x t k * x.1 10 t
    unfold m_over m_high m_low
    rw [h1, h2, h3]
  have w := zfor_inv m_flowF x (fun k a => (∀ j : Nat, j ≠ 13 → a.1 j = x.1 j) ∧ a.2 = x.2 ∧ ∀ i, a.1 13 i = if 0 ≤ i ∧ i < k then m_flow x i else x.1 13 i) 5 ⟨fun _ _ => rfl, rfl, fun i => by rw [if_neg (by omega)]⟩ (fun k a h0 h1 h => ⟨fun j hj => by show (gA a 13 k (m_flow a k)).1 j = _; rw [gA_1n _ _ _ hj]; exact h.1 j hj, h.2.1, fun i => by
    show updZ (a.1 13) k (m_flow a k) i = _
    unfold updZ
    by_cases e : i = k
    · rw [if_pos e, e, if_pos (by omega), fl a k (h.1 8 (by decide)) (h.1 9 (by decide)) (h.1 10 (by decide)) (by rw [h.2.1])]
    · rw [if_neg e, h.2.2 i]
      by_cases q : 0 ≤ i ∧ i < k
      · rw [if_pos q, if_pos (by omega)]
      · rw [if_neg q, if_neg (by omega)]⟩) 5 (by omega)
  exact w.2.2 i
theorem clear_ok {u w : GS} (h : RR u w) (hq : w.2 4 < 500) : RR (f_clearU u) (m_clearU (gV w 6 0)) ∧ (f_clearU u).1 10 0 = (m_clearU (gV w 6 0)).1 12 0 := by
  obtain ⟨rc, g2, i2⟩ := clear_RC h
  have q4 : w.2 4 < 500 ∧ 0 ≤ w.2 4 := ⟨hq, h.2.2.2.2.2.2.2.1⟩
  have o2 : MOut (m_cutAll 302 (1, m_match (m_begin (gV w 6 0)))) := by
    have hb := (begin_RA h)
    have k := match_eq hb.1 hb.2
    have k8 : MI1 (m_match (m_begin (gV w 6 0))) := k.2.2.2.2.2.2.2
    generalize m_match (m_begin (gV w 6 0)) = x at k8 ⊢
    generalize (302 : Nat) = M
    exact MOut_cutAll M (1, x) k8.to2 (fun i _ => k8.2.2.1 i)
  have n4 : (m_cutAll 302 (1, m_match (m_begin (gV w 6 0)))).2 4 = w.2 4 := by
    have e1 := rc.1.2.2.2.2.2.2.2
    rw [← e1]
    have e2 : ∀ (n : Nat) (y : Int × GS), (f_pass n y).2.2 = y.2.2 := by
      intro n
      induction n with
      | zero => intro y; rfl
      | succ n ih => intro y; simp only [f_pass]; rw [ih]; exact f_cutU_2 _ _ _
    have e3 : ∀ (n : Nat) (y : Int × GS), (f_cutsL n y).2 = y.2.2 := by
      intro n
      induction n with
      | zero => intro y; rfl
      | succ n ih =>
        intro y
        simp only [f_cutsL]
        split
        · rw [ih, e2]
        · rfl
    have e4 : (f_match (f_begin u)).2 4 = u.2 4 := by
      have hb := (begin_RA h)
      have k := match_eq hb.1 hb.2
      have k1 := k.1.2.2.2.2.2.2.2
      rw [k1]
      have e5 : ∀ (b : Int) (n : Nat) (y : GS), (m_takesL b n y).2 4 = y.2 4 := by
        intro b n
        induction n with
        | zero => intro y; rfl
        | succ n ih =>
          intro y
          simp only [m_takesL]
          split
          · rw [ih]; rfl
          · rfl
      have e6 : ∀ (r i : Int) (y : GS), (m_matchI r i y).2 4 = y.2 4 := by
        intro r i y
        simp only [m_matchI]
        split
        · exact e5 _ _ _
        · rfl
      have e7 : ∀ (r : Int) (y : GS), (m_matchO r y).2 4 = y.2 4 := fun r y => zfor_inv (m_matchI r) y (fun _ a => a.2 4 = y.2 4) 6 rfl (fun i a _ _ q => (e6 r i a).trans q) 6 (by omega)
      have e8 : (m_match (m_begin (gV w 6 0))).2 4 = (m_begin (gV w 6 0)).2 4 := by
        unfold m_match
        exact zfor_inv m_matchO _ (fun _ a => a.2 4 = (m_begin (gV w 6 0)).2 4) 6 rfl (fun i a _ _ q => (e7 i a).trans q) 6 (by omega)
      rw [e8, m_begin_2]
      show w.2 4 = u.2 4
      exact h.2.2.1.2.2.2.2.2.2.2.symm
    have e9 : (f_cuts (f_match (f_begin u))).2 4 = u.2 4 := by
      unfold f_cuts
      generalize f_match (f_begin u) = vv at e4 ⊢
      rw [e3]
      exact e4
    rw [e9]
    exact h.2.2.1.2.2.2.2.2.2.2
  have eF : f_clearU u = f_next (zfor 6 f_house (f_count (f_cuts (f_match (f_begin u))))) := by unfold f_clearU; exact Eq.refl _
  have eM : m_clearU (gV w 6 0) = m_next (zfor 5 m_flowF (zfor 6 m_house (m_set (m_cutAll 302 (1, m_match (m_begin (gV w 6 0))))))) := by unfold m_clearU; exact Eq.refl _
  rw [eF, eM]
  generalize f_cuts (f_match (f_begin u)) = v2 at rc g2 ⊢
  generalize m_cutAll 302 (1, m_match (m_begin (gV w 6 0))) = x2 at rc i2 o2 n4 ⊢
  have hb := i2.2.1
  have rh := count_RH rc hb
  have g3 : GI2 (f_count v2) := GI2_congr (fun j _ h6 h9 h10 => f_count_1 _ j h9 h10) (f_count_2 _ 5 (by decide)) g2
  obtain ⟨s1, s9, s13, s8, sb9, s10, s5⟩ := houses_sim rh g3.to3 6 (by omega)
  have g4 := GI3_housek g3.to3 6 (by omega)
  have i3 : MI3 (m_set x2) := by
    have : MI2 (m_set x2) := MI2_setk i2 _
    exact this.to3
  have i4 := MI3_housek i3 6
  have o3 : MOut (m_set x2) := fun i hi => by
    have e : (m_set x2).1 14 = x2.1 14 := m_setk_1 x2 _ 14 (by decide) (by decide)
    rw [e]; exact o2 i hi
  have o4 : MOut (zfor 6 m_house (m_set x2)) := zfor_inv m_house (m_set x2) (fun _ a => MOut a) 6 o3 (fun i a h0 h1 q => MOut_house ⟨h0, by omega⟩ q) 6 (by omega)
  have c9 := (count_val v2).2.2
  have x3e8 : (m_set x2).1 8 = x2.1 8 := m_setk_1 x2 _ 8 (by decide) (by decide)
  have x3e9 : (m_set x2).1 9 = x2.1 9 := m_setk_1 x2 _ 9 (by decide) (by decide)
  have x3e10 : (m_set x2).1 10 = x2.1 10 := m_setk_1 x2 _ 10 (by decide) (by decide)
  have x3e13 : (m_set x2).1 13 = x2.1 13 := m_setk_1 x2 _ 13 (by decide) (by decide)
  have x3e5 : (m_set x2).2 = x2.2 := m_setk_2 x2 _
  have s4 : (zfor 6 m_house (m_set x2)).2 4 = w.2 4 := by
    have := zfor_inv m_house (m_set x2) (fun _ a => a.2 4 = w.2 4) 6 (by rw [x3e5]; exact n4) (fun i a _ _ q => by
      show (m_fine (m_store a i) i).2 4 = _
      unfold m_fine
      rw [gV_2n _ _ (by decide)]
      exact (m_store_2 a i 4 (by decide) (by decide)).trans q) 6 (by omega)
    exact this
  generalize zfor 6 f_house (f_count v2) = v4 at s1 s9 g4 ⊢
  generalize zfor 6 m_house (m_set x2) = x4 at s1 s13 s8 sb9 s10 s5 i4 o4 s4 ⊢
  have fl : ∀ k, m_flow x4 k = m_flow x2 k := by
    intro k
    rw [flow_SZ, flow_SZ, s5, x3e5]
    refine SZ_congr (fun t _ _ => ?_)
    show m_over x4 t k * x4.1 10 t = m_over x2 t k * x2.1 10 t
    unfold m_over m_high m_low
    rw [s8, sb9, s10, x3e8, x3e9, x3e10]
  have f13 := flowF_val x4
  have f1 := m_flowFk_1 x4 5
  have f2 := m_flowFk_2 x4 5
  have i5 := MI3_flowk i4 5
  generalize zfor 5 m_flowF x4 = x5 at f13 f1 f2 i5 ⊢
  obtain ⟨a1, a1a, a1b, a2, a2q⟩ := nextf_val v4
  obtain ⟨b1, b1a, b1b, b2, b2q⟩ := nextm_val x5
  obtain ⟨⟨t1, t2, t3, t4, t5, t6, t7, t8⟩, ⟨u1, u2, u3, u4, u5⟩, rk, r5, r10, rp, ri⟩ := s1
  have hm7 : (m_next x5).1 7 = x4.1 7 := (b1 7 (by decide) (by decide)).trans (f1 7 (by decide))
  have gq : GI (f_next v4) ∧ ∀ i, -1000 ≤ (f_next v4).1 7 i ∧ (f_next v4).1 7 i ≤ 1000 := by
    obtain ⟨w1, w2, w3, w4⟩ := g4
    obtain ⟨z0, z1, z2, z3, z8, z5, z4, zs⟩ := w1
    refine ⟨⟨?_, BI_congr (fun j _ _ => a1 j (by omega) (by omega)) (a2 5 (by decide)) w2, ?_⟩, ?_⟩
    · unfold Base
      rw [a1 0 (by decide) (by decide), a1 3 (by decide) (by decide), a1 8 (by decide) (by decide), a1 5 (by decide) (by decide), a1 4 (by decide) (by decide)]
      refine ⟨z0, fun i => ?_, fun i => ?_, z3, z8, z5, z4, zs⟩
      · rw [a1a]; have := z1 i; split <;> omega
      · rw [a1b]; have := z2 i; split <;> omega
    · rw [a1 7 (by decide) (by decide)]; exact w4
    · rw [a1 7 (by decide) (by decide)]; exact w3
  have mq : MI (m_next x5) ∧ ∀ i, 0 ≤ (m_next x5).1 14 i ∧ (m_next x5).1 14 i ≤ 1000 := by
    obtain ⟨w1, w2, w3⟩ := i5
    obtain ⟨z7, z0, z1, z2, z3, z5, z4⟩ := w1
    refine ⟨⟨?_, MBk_congr (fun j _ _ => b1 j (by omega) (by omega)) (b2 5 (by decide)) w2, ?_⟩, ?_⟩
    · unfold MBase
      rw [b1 7 (by decide) (by decide), b1 2 (by decide) (by decide), b1 3 (by decide) (by decide), b1 5 (by decide) (by decide), b1 4 (by decide) (by decide)]
      refine ⟨z7, fun i => ?_, fun i => ?_, z2, z3, z5, z4⟩
      · rw [b1a]; have := z0 i; split <;> omega
      · rw [b1b]; have := z1 i; split <;> omega
    · intro i hi
      rw [b1 14 (by decide) (by decide), f1 14 (by decide)]; exact o4 i hi
    · rw [b1 14 (by decide) (by decide)]; exact w3
  have ways : ∀ i, (f_next v4).1 10 i = (m_next x5).1 12 i := by
    intro i
    rw [a1 10 (by decide) (by decide), b1 12 (by decide) (by decide), f1 12 (by decide)]; exact r10 i
  refine ⟨⟨gq.1, mq.1, ⟨?_, ?_, ?_, ?_, ?_, ?_, ?_, ?_⟩, ⟨?_, ?_, ?_, ?_, ?_⟩, ⟨?_, ?_, ?_, ways, ?_⟩, gq.2, mq.2, ?_, ?_⟩, ways 0⟩
  · rw [a1 3 (by decide) (by decide), b1 2 (by decide) (by decide), f1 2 (by decide)]; exact t1
  · rw [a1 8 (by decide) (by decide), b1 3 (by decide) (by decide), f1 3 (by decide)]; exact t2
  · rw [a1 4 (by decide) (by decide), b1 4 (by decide) (by decide), f1 4 (by decide)]; exact t3
  · intro i h0 h1
    have hi : 0 ≤ i ∧ i < 6 := ⟨h0, by omega⟩
    have d1 := a1a i
    have d2 := a1b i
    have d3 := b1a i
    have d4 := b1b i
    rw [if_pos hi] at d1 d2 d3 d4
    rw [a1 0 (by decide) (by decide), hm7, d1, d2, d3, d4]
    refine ⟨(t4 i h0 h1).1, ?_, ?_⟩
    · by_cases z : x4.1 7 i = 0
      · rw [if_pos z]
      · rw [if_neg z]
    · by_cases z : x4.1 7 i = 0
      · rw [if_pos z]
      · rw [if_neg z]
  · rw [a2 0 (by decide), b2 0 (by decide), f2]; exact t5
  · rw [a2 1 (by decide), b2 1 (by decide), f2]; exact t6
  · rw [a2 3 (by decide), b2 3 (by decide), f2]; exact t7
  · rw [a2q, b2q, f2, t8]
  · rw [a2 5 (by decide), b2 5 (by decide), f2]; exact u1
  · rw [a1 11 (by decide) (by decide), b1 8 (by decide) (by decide), f1 8 (by decide)]; exact u2
  · rw [a1 12 (by decide) (by decide), b1 9 (by decide) (by decide), f1 9 (by decide)]; exact u3
  · rw [a1 13 (by decide) (by decide), b1 10 (by decide) (by decide), f1 10 (by decide)]; exact u4
  · rw [a1 15 (by decide) (by decide), b1 11 (by decide) (by decide), f1 11 (by decide)]; exact u5
  · rw [a1 5 (by decide) (by decide), b1 5 (by decide) (by decide), f1 5 (by decide)]; exact r5
  · intro i h0 h1
    rw [a1 6 (by decide) (by decide), b1 6 (by decide) (by decide), f1 6 (by decide)]
    exact (ri i h0 h1).1 (by omega)
  · rw [a1 9 (by decide) (by decide), b1 13 (by decide) (by decide), s9]
    funext i
    rw [c9, f13, fl, flow_eq rc.2.1, s13, x3e13]
    have := rc.2.2.2.2.1
    rw [this]
  · rw [a2 2 (by decide), b2 2 (by decide), f2]; exact rp
  · rw [b2q, f2, s4]; omega
  · rw [b2q, f2, s4]; omega
