/-! between the calls; a clearing begins -/
def RR (u w : GS) : Prop := GI u ∧ MI w ∧ RS u w ∧ RB u w ∧ RE u w ∧ (∀ i, -1000 ≤ u.1 7 i ∧ u.1 7 i ≤ 1000) ∧ (∀ i, 0 ≤ w.1 14 i ∧ w.1 14 i ≤ 1000) ∧ 0 ≤ w.2 4 ∧ w.2 4 ≤ 500
theorem RR.bd {u w : GS} (h : RR u w) : Bd u := Bd_of h.1.1 h.1.2.1 h.2.2.2.2.2.1
theorem RR.bdm {u w : GS} (h : RR u w) : Bdm w := Bdm_of h.2.1.1 h.2.1.2.1 h.2.2.2.2.2.2.1
theorem f_begin_10 (u : GS) (i : Int) : (f_begin u).1 10 i = if 0 ≤ i ∧ i < 6 then 0 else u.1 10 i := by
  have a := zfor_inv f_beginW (gV u 5 0) (fun k a => ∀ i, a.1 10 i = if 0 ≤ i ∧ i < k then 0 else u.1 10 i) 6 (fun i => by rw [if_neg (by omega)]; rfl) (fun k a h0 h1 h i => by
    show updZ (a.1 10) k 0 i = _
    unfold updZ
    split
    · next e => rw [e, if_pos (show 0 ≤ k ∧ k < k + 1 by omega)]
    · rw [h i]
      by_cases q : 0 ≤ i ∧ i < k
      · rw [if_pos q, if_pos (show 0 ≤ i ∧ i < k + 1 by omega)]
      · rw [if_neg q, if_neg (show ¬ (0 ≤ i ∧ i < k + 1) by omega)]) 6 (by omega)
  have b := zfor_inv f_beginL (zfor 6 f_beginW (gV u 5 0)) (fun _ a => a.1 10 = (zfor 6 f_beginW (gV u 5 0)).1 10) 6 rfl (fun k a _ _ h => h) 6 (by omega)
  show (zfor 6 f_beginL (zfor 6 f_beginW (gV u 5 0))).1 10 i = _
  rw [b]
  exact a i
theorem m_begin_12 (w : GS) (i : Int) : (m_begin w).1 12 i = if 0 ≤ i ∧ i < 6 then 0 else w.1 12 i := by
  have a := zfor_inv m_beginW (gV w 5 0) (fun k a => ∀ i, a.1 12 i = if 0 ≤ i ∧ i < k then 0 else w.1 12 i) 6 (fun i => by rw [if_neg (by omega)]; rfl) (fun k a h0 h1 h i => by
    show updZ (a.1 12) k 0 i = _
    unfold updZ
    split
    · next e => rw [e, if_pos (show 0 ≤ k ∧ k < k + 1 by omega)]
    · rw [h i]
      by_cases q : 0 ≤ i ∧ i < k
      · rw [if_pos q, if_pos (show 0 ≤ i ∧ i < k + 1 by omega)]
      · rw [if_neg q, if_neg (show ¬ (0 ≤ i ∧ i < k + 1) by omega)]) 6 (by omega)
  have b := zfor_inv m_beginL (zfor 6 m_beginW (gV w 5 0)) (fun _ a => a.1 12 = (zfor 6 m_beginW (gV w 5 0)).1 12) 6 rfl (fun k a _ _ h => h) 6 (by omega)
  show (zfor 6 m_beginL (zfor 6 m_beginW (gV w 5 0))).1 12 i = _
  rw [b]
  exact a i
theorem begin_RA {u w : GS} (h : RR u w) : RA (f_begin u) (m_begin (gV w 6 0)) ∧ (∀ i, 0 ≤ i → i ≤ 5 → m_buyer (m_begin (gV w 6 0)) i ≠ 0 → (f_begin u).1 7 i < 0) := by
  obtain ⟨hg, hm, ⟨s1, s2, s3, s4, s5, s6, s7, s8⟩, ⟨b1, b2, b3, b4, b5⟩, ⟨e1, e2, e3, e4, e5⟩, -, -, -, -⟩ := h
  have m1 : ∀ j : Nat, j ≠ 12 → j ≠ 14 → (m_begin (gV w 6 0)).1 j = w.1 j := fun j a b => m_begin_1 (gV w 6 0) j a b
  have k1 := m1 1 (by decide) (by decide)
  have k7 := m1 7 (by decide) (by decide)
  have fb : ∀ j : Nat, j ≠ 7 → j ≠ 10 → (f_begin u).1 j = u.1 j := fun j a b => f_begin_1 u j a b
  have L : ∀ i, 0 ≤ i → i ≤ 5 → (f_begin u).1 7 i = (if w.1 7 i = 0 then w.1 1 i else 0) ∧ (m_begin (gV w 6 0)).1 14 i = (if w.1 7 i = 0 then m_size (w.1 1 i) else 0) := by
    intro i h0 h1
    refine ⟨?_, ?_⟩
    · rw [f_begin_7, if_pos ⟨h0, by omega⟩]; exact (s4 i h0 h1).2.1
    · rw [m_begin_14, if_pos ⟨h0, by omega⟩]; rfl
  have hbu : ∀ i, m_buyer (m_begin (gV w 6 0)) i = m_buyer w i := buyer_congr k1 k7
  have his : ∀ i, m_isel (m_begin (gV w 6 0)) i = m_isel w i := isel_congr k1 k7
  refine ⟨⟨?_, ⟨?_, ?_, ?_, ?_, ?_⟩, ⟨?_, ?_, ?_, ?_, ?_⟩, ?_, ?_, ?_, GI1_begin hg, MI1_begin (w := gV w 6 0) hm⟩, ?_⟩
  · unfold RS
    rw [f_begin_2, m_begin_2, fb 3 (by decide) (by decide), fb 8 (by decide) (by decide), fb 4 (by decide) (by decide), fb 0 (by decide) (by decide), fb 1 (by decide) (by decide), fb 2 (by decide) (by decide), m1 2 (by decide) (by decide), m1 3 (by decide) (by decide), m1 4 (by decide) (by decide), k7, k1, m1 0 (by decide) (by decide)]
    exact ⟨s1, s2, s3, s4, s5, s6, s7, s8⟩
  · rw [f_begin_2, m_begin_2]; rfl
  · rw [fb 11 (by decide) (by decide), m1 8 (by decide) (by decide)]; exact b2
  · rw [fb 12 (by decide) (by decide), m1 9 (by decide) (by decide)]; exact b3
  · rw [fb 13 (by decide) (by decide), m1 10 (by decide) (by decide)]; exact b4
  · rw [fb 15 (by decide) (by decide), m1 11 (by decide) (by decide)]; exact b5
  · rw [fb 5 (by decide) (by decide), m1 5 (by decide) (by decide)]; exact e1
  · rw [fb 6 (by decide) (by decide), m1 6 (by decide) (by decide)]; exact e2
  · rw [fb 9 (by decide) (by decide), m1 13 (by decide) (by decide)]; exact e3
  · intro i
    rw [f_begin_10, m_begin_12, e4 i]; rfl
  · rw [f_begin_2, m_begin_2]; exact e5
  · intro i h0 h1
    obtain ⟨l1, l2⟩ := L i h0 h1
    rw [hbu, his, l1, l2]
    have p1 := m_buyer_sp w i
    have p2 := m_isel_sp w i
    have p3 := m_size_sp (w.1 1 i)
    by_cases g : w.1 7 i = 0
    · rw [if_pos g, if_pos g]; omega
    · rw [if_neg g, if_neg g]; omega
  · intro t h0 h1
    have e : (m_begin (gV w 6 0)).2 5 = 0 := by rw [m_begin_2]; rfl
    rw [e] at h1
    omega
  · intro t h0 h1
    have e : (f_begin u).2 5 = 0 := by rw [f_begin_2]; rfl
    rw [e] at h1
    omega
  · intro i h0 h1 h2
    obtain ⟨l1, -⟩ := L i h0 h1
    rw [hbu] at h2
    have p1 := m_buyer_sp w i
    rw [l1, if_pos (by omega)]
    omega
theorem f_serve_1 (b : Int) : ∀ (n : Nat) (u : GS) (j : Nat), j < 11 → j ≠ 7 → (f_serve b n u).1 j = u.1 j := by
  intro n
  induction n with
  | zero => intro u j _ _; rfl
  | succ n ih =>
    intro u j h h7
    simp only [f_serve]
    split
    · split
      · rfl
      · rw [ih _ j h h7, f_trade_1 _ _ _ j h h7]
    · rfl
theorem f_matchI_1 (r i : Int) (u : GS) (j : Nat) (h : j < 11) (h7 : j ≠ 7) : (f_matchI r i u).1 j = u.1 j := by
  simp only [f_matchI]
  split
  · exact f_serve_1 _ _ _ j h h7
  · rfl
theorem f_matchO_1 (r : Int) (u : GS) (j : Nat) (h : j < 11) (h7 : j ≠ 7) : (f_matchO r u).1 j = u.1 j := by
  have := zfor_inv (f_matchI r) u (fun _ b => b.1 j = u.1 j) 6 rfl (fun i b _ _ z => (f_matchI_1 r i b j h h7).trans z) 6 (by omega)
  exact this
theorem f_match_1 (u : GS) (j : Nat) (h : j < 11) (h7 : j ≠ 7) : (f_match u).1 j = u.1 j := by
  have := zfor_inv f_matchO u (fun _ b => b.1 j = u.1 j) 6 rfl (fun i b _ _ z => (f_matchO_1 i b j h h7).trans z) 6 (by omega)
  unfold f_match
  exact this
/-- where the cuts begin -/
theorem RA_RC {v x : GS} (h : RA v x) (hw : v.1 10 1 = 0) : RC v x (CT v) ∧ CT v = 0 := by
  obtain ⟨a1, a2, ⟨e1, e2, e3, e4, e5⟩, a4, a5, a6, a7, a8⟩ := h
  have z : CT v = 0 := SZ_zero (fun t h0 h1 => a6 t h0 (by omega))
  have zs : ∀ i, CS v i = 0 := fun i => SZ_zero (fun t h0 h1 => by
    show (if v.1 11 t = i then v.1 14 t else 0) = 0
    rw [a6 t h0 (by omega)]; split <;> rfl)
  have zb : ∀ i, CB v i = 0 := fun i => SZ_zero (fun t h0 h1 => by
    show (if v.1 12 t = i then v.1 14 t else 0) = 0
    rw [a6 t h0 (by omega)]; split <;> rfl)
  refine ⟨⟨a1, a2, a5, e1, e3, fun i _ => e4 i, hw, by rw [z, ← e4]; exact hw, fun i h0 h1 => by rw [zs, e2 i h0 h1]; omega, fun i h0 h1 => ?_, by rw [z, e5]; omega⟩, z⟩
  have l := a4 i h0 h1
  have p := m_size_sp (v.1 7 i)
  rw [zs, zb]
  omega
/-- behind the cuts -/
theorem clear_RC {u w : GS} (h : RR u w) : RC (f_cuts (f_match (f_begin u))) (m_cutAll 302 (1, m_match (m_begin (gV w 6 0)))) (CT (f_cuts (f_match (f_begin u)))) ∧ GI2 (f_cuts (f_match (f_begin u))) ∧ MI2 (m_cutAll 302 (1, m_match (m_begin (gV w 6 0)))) := by
  obtain ⟨h1, h2⟩ := begin_RA h
  have h3 := match_eq h1 h2
  have hw : (f_match (f_begin u)).1 10 1 = 0 := by rw [f_match_1 _ 10 (by decide) (by decide), f_begin_10]; rfl
  obtain ⟨h4, h5⟩ := RA_RC h3 hw
  have h6 : MI2 (m_match (m_begin (gV w 6 0))) := h3.2.2.2.2.2.2.2.to2
  have h7 : GI1 (f_match (f_begin u)) := h3.2.2.2.2.2.2.1
  have h8 := h7.to2
  have ec : f_cuts (f_match (f_begin u)) = f_cutsL 1000 (1, f_match (f_begin u)) := by unfold f_cuts; exact Eq.refl _
  rw [ec]
  generalize hN : (1000 : Nat) = N
  generalize hM : (302 : Nat) = M
  generalize f_match (f_begin u) = v at h4 h5 h8 ⊢
  generalize m_match (m_begin (gV w 6 0)) = x at h4 h6 ⊢
  refine ⟨?_, GI2_cutsL N (1, v) h8, m_cutAll_ok M (1, x) h6⟩
  exact cutAll_sim 300 N M 1 1 _ _ h4 h6 (by have := SU_rg h6.2.1; omega) (by omega) (by omega) (by decide) (by decide)
