/-! THE REFERENCE: what its small answers are -/
theorem m_in_sp (v a b : Int) : (a ≤ v ∧ v ≤ b ∧ m_in v a b = 1) ∨ (¬ (a ≤ v ∧ v ≤ b) ∧ m_in v a b = 0) := by unfold m_in; split <;> omega
theorem m_goes_sp (a b c : Int) : (a = 0 ∧ m_goesC a b c = 1 ∧ m_goesR a b c = 0) ∨ (a ≠ 0 ∧ b = 0 ∧ m_goesC a b c = 2 ∧ m_goesR a b c = 0) ∨ (a ≠ 0 ∧ b ≠ 0 ∧ c ≠ 0 ∧ m_goesC a b c = 0 ∧ m_goesR a b c = 1) ∨ (a ≠ 0 ∧ b ≠ 0 ∧ c = 0 ∧ m_goesC a b c = 3 ∧ m_goesR a b c = 0) := by
  unfold m_goesR m_goesC
  repeat' split
  all_goals omega
theorem m_belongs_sp (w : GS) (h : Int) : (0 ≤ h ∧ h ≤ 5 ∧ w.1 7 h = 0 ∧ m_belongs w h = 1) ∨ (¬ (0 ≤ h ∧ h ≤ 5 ∧ w.1 7 h = 0) ∧ m_belongs w h = 0) := by
  have := m_in_sp h 0 5
  unfold m_belongs
  split <;> omega
theorem m_lesser_sp (a b : Int) : (a < b ∧ m_lesser a b = a) ∨ (b ≤ a ∧ m_lesser a b = b) := by unfold m_lesser; split <;> omega
theorem m_size_sp (a : Int) : (a < 0 ∧ m_size a = -a) ∨ (0 ≤ a ∧ m_size a = a) := by unfold m_size; split <;> omega
theorem m_buyer_sp (w : GS) (h : Int) : (w.1 7 h = 0 ∧ w.1 1 h < 0 ∧ m_buyer w h = 1) ∨ (¬ (w.1 7 h = 0 ∧ w.1 1 h < 0) ∧ m_buyer w h = 0) := by unfold m_buyer; split <;> omega
theorem m_isel_sp (w : GS) (h : Int) : (w.1 7 h = 0 ∧ 0 < w.1 1 h ∧ m_isel w h = 1) ∨ (¬ (w.1 7 h = 0 ∧ 0 < w.1 1 h) ∧ m_isel w h = 0) := by unfold m_isel; split <;> omega
theorem m_turnk (w : GS) (h : Int) (k : Nat) (hk : k ≤ 6) : 0 ≤ zfor k (m_turnS w h) 0 ∧ zfor k (m_turnS w h) 0 ≤ 6 := by
  have := zfor_inv (m_turnS w h) 0 (fun i a => 0 ≤ a ∧ a ≤ i) 6 (by omega) (fun i a h0 h1 h => by simp only [m_turnS]; split <;> omega) k hk
  omega
theorem m_sellerk (w : GS) (b : Int) (k : Nat) (hk : k ≤ 6) : -1 ≤ zfor k (m_sellerS w b) (-1) ∧ zfor k (m_sellerS w b) (-1) ≤ 5 := by
  refine zfor_inv (m_sellerS w b) (-1) (fun _ a => -1 ≤ a ∧ a ≤ 5) 6 (by omega) (fun i a h0 h1 h => ?_) k hk
  simp only [m_sellerS]
  split <;> omega
theorem m_seller_spec (w : GS) (b : Int) : m_seller w b = -1 ∨ (0 ≤ m_seller w b ∧ m_seller w b ≤ 5 ∧ w.1 7 (m_seller w b) = 0 ∧ 0 < w.1 1 (m_seller w b) ∧ 0 < w.1 14 (m_seller w b) ∧ w.1 2 (m_seller w b) ≤ w.1 2 b) := by
  have := zfor_inv (m_sellerS w b) (-1) (fun i a => a = -1 ∨ (0 ≤ a ∧ a < i ∧ w.1 7 a = 0 ∧ 0 < w.1 1 a ∧ 0 < w.1 14 a ∧ w.1 2 a ≤ w.1 2 b)) 6 (Or.inl rfl) (fun i a h0 h1 h => by
    have hs := m_isel_sp w i
    simp only [m_sellerS]
    split
    · next hc => exact Or.inr ⟨h0, by omega, by omega, by omega, hc.2.1, hc.2.2.1⟩
    · rcases h with h | h
      · exact Or.inl h
      · exact Or.inr ⟨h.1, by omega, h.2.2⟩) 6 (by omega)
  rcases this with h | ⟨h1, h2, h3⟩
  · exact Or.inl h
  · exact Or.inr ⟨h1, by have : m_seller w b < ((6 : Nat) : Int) := h2
                         omega, h3⟩
theorem m_over_rg (w : GS) (t k : Int) : m_over w t k = 0 ∨ m_over w t k = 1 ∨ m_over w t k = -1 := by
  unfold m_over; repeat' (first | omega | split)
theorem m_flowk (w : GS) (k : Int) (hU : ∀ i, -1000 ≤ w.1 10 i ∧ w.1 10 i ≤ 1000) (n : Nat) (hn : n ≤ 6) : -6000 ≤ zfor n (m_flowS w k) 0 ∧ zfor n (m_flowS w k) 0 ≤ 6000 := by
  have := zfor_inv (m_flowS w k) 0 (fun i a => -(1000 * i) ≤ a ∧ a ≤ 1000 * i) 6 (by omega) (fun i a h0 h1 h => by
    simp only [m_flowS]
    have hu := hU i
    rcases m_over_rg w i k with e | e | e <;> rw [e] <;> omega) n hn
  omega
def sgn (x : Int) : Int := if 0 < x then 1 else -1
theorem m_latk (w : GS) (k fl : Int) (n : Nat) : (zfor n (m_latS w k fl) (-1) = -1 ∧ ∀ t : Int, 0 ≤ t → t < n → ¬ (0 < w.1 10 t ∧ m_over w t k = sgn fl)) ∨ (0 ≤ zfor n (m_latS w k fl) (-1) ∧ zfor n (m_latS w k fl) (-1) < n ∧ 0 < w.1 10 (zfor n (m_latS w k fl) (-1)) ∧ m_over w (zfor n (m_latS w k fl) (-1)) k = sgn fl) := by
  have := zfor_inv (m_latS w k fl) (-1) (fun i a => (a = -1 ∧ ∀ t : Int, 0 ≤ t → t < i → ¬ (0 < w.1 10 t ∧ m_over w t k = sgn fl)) ∨ (0 ≤ a ∧ a < i ∧ 0 < w.1 10 a ∧ m_over w a k = sgn fl)) n (Or.inl ⟨rfl, fun t a b => absurd b (by omega)⟩) (fun i a h0 h1 h => by
    show (_ ∨ _)
    have e : m_latS w k fl i a = if 0 < w.1 10 i ∧ m_over w i k = sgn fl then i else a := rfl
    rw [e]
    split
    · next hc => exact Or.inr ⟨h0, by omega, hc.1, hc.2⟩
    · next hc =>
      rcases h with ⟨h2, h3⟩ | ⟨h2, h3, h4⟩
      · refine Or.inl ⟨h2, fun t a b => ?_⟩
        by_cases q : t = i
        · rw [q]; exact hc
        · exact h3 t a (by omega)
      · exact Or.inr ⟨h2, by omega, h4⟩) n (by omega)
  exact this
theorem m_flow_sg (w : GS) (k s : Int) (hU : ∀ i, 0 ≤ w.1 10 i) (hs : s = 1 ∨ s = -1) (n : Nat) (h : ∀ t : Int, 0 ≤ t → t < n → ¬ (0 < w.1 10 t ∧ m_over w t k = s)) : s * zfor n (m_flowS w k) 0 ≤ 0 := by
  refine zfor_inv (m_flowS w k) 0 (fun _ a => s * a ≤ 0) n (by omega) (fun i a h0 h1 q => ?_) n (by omega)
  have hu := hU i
  have hi := h i h0 h1
  simp only [m_flowS]
  rcases hs with rfl | rfl <;> rcases m_over_rg w i k with e | e | e <;> rw [e] at hi ⊢ <;> omega
/-- where the flow is above the limit, there is a trade to cut -/
theorem m_lat_spec (w : GS) (k : Int) (hU : ∀ i, 0 ≤ w.1 10 i) (hl : 0 ≤ w.1 3 k) (hc : 0 ≤ w.2 5) (h : w.1 3 k < m_size (m_flow w k)) : 0 ≤ m_lat w k ∧ m_lat w k < w.2 5 ∧ 0 < w.1 10 (m_lat w k) ∧ m_over w (m_lat w k) k = sgn (m_flow w k) := by
  rcases m_latk w k (m_flow w k) (w.2 5).toNat with ⟨h1, h2⟩ | ⟨h1, h2, h3⟩
  · have h3 : sgn (m_flow w k) * m_flow w k ≤ 0 := m_flow_sg w k (sgn (m_flow w k)) hU (by unfold sgn; split <;> omega) _ h2
    have h4 := m_size_sp (m_flow w k)
    unfold sgn at h3
    split at h3 <;> omega
  · have e : ((w.2 5).toNat : Int) = w.2 5 := Int.toNat_of_nonneg hc
    rw [e] at h2
    exact ⟨h1, h2, h3⟩
def MBase (w : GS) : Prop := (∀ i, 0 ≤ w.1 7 i ∧ w.1 7 i ≤ 1) ∧ (∀ i, -50 ≤ w.1 0 i ∧ w.1 0 i ≤ 50) ∧ (∀ i, -50 ≤ w.1 1 i ∧ w.1 1 i ≤ 50) ∧ (∀ i, 0 ≤ w.1 2 i ∧ w.1 2 i ≤ 100) ∧ (∀ i, 0 ≤ w.1 3 i ∧ w.1 3 i ≤ 300) ∧ (∀ i, 0 ≤ w.1 5 i ∧ w.1 5 i ≤ w.1 4 i) ∧ (∀ i, w.1 4 i ≤ 120)
def MBk (w : GS) : Prop := 0 ≤ w.2 5 ∧ w.2 5 ≤ 6 ∧ ∀ t, 0 ≤ w.1 10 t ∧ w.1 10 t ≤ 50 ∧ 0 ≤ w.1 8 t ∧ w.1 8 t ≤ 5 ∧ 0 ≤ w.1 9 t ∧ w.1 9 t ≤ 5
def MOut (w : GS) : Prop := ∀ i, (i < 0 ∨ 6 ≤ i) → 0 ≤ w.1 14 i ∧ w.1 14 i ≤ 50
theorem Bdm_of {w : GS} (h1 : MBase w) (h2 : MBk w) (h3 : ∀ i, 0 ≤ w.1 14 i ∧ w.1 14 i ≤ 1000) : Bdm w := by
  obtain ⟨a7, a0, a1, a2, a3, a5, a4⟩ := h1
  obtain ⟨-, -, b⟩ := h2
  intro j hz i
  have e0 := a0 i; have e1 := a1 i; have e2 := a2 i; have e3 := a3 i; have e7 := a7 i; have e5 := a5 i; have e4 := a4 i; have e9 := h3 i
  have eb := b i
  match j, hz with
  | 0, _ => omega
  | 1, _ => omega
  | 2, _ => omega
  | 3, _ => omega
  | 4, _ => omega
  | 5, _ => omega
  | 6, hz => exact absurd hz (by decide)
  | 7, _ => omega
  | 8, _ => omega
  | 9, _ => omega
  | 10, _ => omega
  | 11, hz => exact absurd hz (by decide)
  | 12, hz => exact absurd hz (by decide)
  | 13, hz => exact absurd hz (by decide)
  | 14, _ => omega
  | k + 15, hz => exact absurd hz (by simp [zokM])
theorem MBase_congr {u v : GS} (h : ∀ j : Nat, j ≤ 7 → j ≠ 6 → v.1 j = u.1 j) (hb : MBase u) : MBase v := by
  unfold MBase
  rw [h 0 (by omega) (by omega), h 1 (by omega) (by omega), h 2 (by omega) (by omega), h 3 (by omega) (by omega), h 4 (by omega) (by omega), h 5 (by omega) (by omega), h 7 (by omega) (by omega)]
  exact hb
theorem MBk_congr {u v : GS} (h : ∀ j : Nat, 8 ≤ j → j ≤ 10 → v.1 j = u.1 j) (h5 : v.2 5 = u.2 5) (hb : MBk u) : MBk v := by
  unfold MBk
  rw [h5, h 8 (by omega) (by omega), h 9 (by omega) (by omega), h 10 (by omega) (by omega)]
  exact hb
theorem m_trade_1 (w : GS) (s b : Int) (j : Nat) (h : j < 8) : (m_trade w s b).1 j = w.1 j := by
  unfold m_trade
  rw [gA_1n _ _ _ (by omega), gA_1n _ _ _ (by omega), gV_1, gA_1n _ _ _ (by omega), gA_1n _ _ _ (by omega), gA_1n _ _ _ (by omega), gA_1n _ _ _ (by omega)]
theorem NZ_ge {f : Int → Int} {b : Int} (hb : 0 ≤ b ∧ b ≤ 5) : f b = 0 ∨ 1 ≤ NZ f := by
  have h0 := zc_rg (f 0); have h1 := zc_rg (f 1); have h2 := zc_rg (f 2); have h3 := zc_rg (f 3); have h4 := zc_rg (f 4); have h5 := zc_rg (f 5)
  by_cases h : f b = 0
  · exact Or.inl h
  · have e := zc_n h
    refine Or.inr ?_
    unfold NZ
    rcases z05 hb with rfl | rfl | rfl | rfl | rfl | rfl <;> omega
/-- while buyers take -/
def MI1 (w : GS) : Prop := MBase w ∧ MBk w ∧ (∀ i, 0 ≤ w.1 14 i ∧ w.1 14 i ≤ 50) ∧ w.2 5 + NZ (w.1 14) ≤ 6
theorem MI1.bd {w : GS} (h : MI1 w) : Bdm w := Bdm_of h.1 h.2.1 (fun i => by have := h.2.2.1 i; omega)
theorem MI1_trade {w : GS} {s b : Int} (h : MI1 w) (hs : 0 ≤ s ∧ s ≤ 5) (hb : 0 ≤ b ∧ b ≤ 5) (hsb : s ≠ b) (hL : 0 < w.1 14 s) (hLb : 0 < w.1 14 b) : MI1 (m_trade w s b) ∧ NZ ((m_trade w s b).1 14) + 1 ≤ NZ (w.1 14) := by
  obtain ⟨h1, ⟨c0, c6, hB⟩, h3, h4⟩ := h
  have hx := m_lesser_sp (w.1 14 b) (w.1 14 s)
  have e14 : (m_trade w s b).1 14 = updZ (updZ (w.1 14) b (w.1 14 b - m_lesser (w.1 14 b) (w.1 14 s))) s (updZ (w.1 14) b (w.1 14 b - m_lesser (w.1 14 b) (w.1 14 s)) s - m_lesser (w.1 14 b) (w.1 14 s)) := rfl
  have hN : NZ ((m_trade w s b).1 14) + 1 ≤ NZ (w.1 14) := by
    rw [e14]
    refine NZ_lt hs hb hsb (fun i a c => by rw [updZ_n _ _ a, updZ_n _ _ c]) (by omega) (by omega) ?_
    rw [updZ_s, updZ_n _ _ hsb, updZ_n _ _ (Ne.symm hsb), updZ_s]
    omega
  have hR := NZ_rg ((m_trade w s b).1 14)
  refine ⟨⟨MBase_congr (fun j a _ => m_trade_1 w s b j (by omega)) h1, ⟨?_, ?_, fun t => ?_⟩, fun i => ?_, ?_⟩, hN⟩
  · show 0 ≤ w.2 5 + 1; omega
  · show w.2 5 + 1 ≤ 6; omega
  · have ht := hB t
    have hls := h3 s
    have hlb := h3 b
    show 0 ≤ updZ (w.1 10) (w.2 5) (m_lesser (w.1 14 b) (w.1 14 s)) t ∧ updZ (w.1 10) (w.2 5) (m_lesser (w.1 14 b) (w.1 14 s)) t ≤ 50 ∧ 0 ≤ updZ (w.1 8) (w.2 5) s t ∧ updZ (w.1 8) (w.2 5) s t ≤ 5 ∧ 0 ≤ updZ (w.1 9) (w.2 5) b t ∧ updZ (w.1 9) (w.2 5) b t ≤ 5
    unfold updZ
    split <;> omega
  · rw [e14]
    have hi := h3 i
    have hls := h3 s
    have hlb := h3 b
    unfold updZ
    split
    · omega
    · split <;> omega
  · show w.2 5 + 1 + NZ ((m_trade w s b).1 14) ≤ 6
    omega
theorem m_takesL_ok {b : Int} (hb : 0 ≤ b ∧ b ≤ 5) : ∀ (n : Nat) (w : GS), MI1 w → m_buyer w b ≠ 0 → MI1 (m_takesL b n w) := by
  intro n
  induction n with
  | zero => intro w h _; exact h
  | succ n ih =>
    intro w h hbu
    have hsp := m_seller_spec w b
    have hbs := m_buyer_sp w b
    simp only [m_takesL]
    split
    · next hc =>
      rcases hsp with q | ⟨q1, q2, q3, q4, q5, q6⟩
      · exact absurd q hc.2
      · have hne : m_seller w b ≠ b := fun q => by rw [q] at q4; omega
        refine ih _ (MI1_trade h ⟨q1, q2⟩ hb hne q5 hc.1).1 ?_
        unfold m_buyer
        rw [m_trade_1 _ _ _ 7 (by decide), m_trade_1 _ _ _ 1 (by decide)]
        exact hbu
    · exact h
theorem MI1_matchI {r k : Int} (hk : 0 ≤ k ∧ k ≤ 5) {w : GS} (h : MI1 w) : MI1 (m_matchI r k w) := by
  simp only [m_matchI]
  split
  · next hc => exact m_takesL_ok hk 8 w h hc.1
  · exact h
theorem MI1_matchIk {r : Int} {w : GS} (hw : MI1 w) (k : Nat) (hk : k ≤ 6) : MI1 (zfor k (m_matchI r) w) := zfor_inv (m_matchI r) w (fun _ a => MI1 a) 6 hw (fun i a h0 h1 h => MI1_matchI ⟨h0, by omega⟩ h) k hk
theorem MI1_matchOk {w : GS} (hw : MI1 w) (k : Nat) (hk : k ≤ 6) : MI1 (zfor k m_matchO w) := zfor_inv m_matchO w (fun _ a => MI1 a) 6 hw (fun i a h0 h1 h => MI1_matchIk h 6 (by omega)) k hk
/-- all units that trades still have -/
def SU (w : GS) : Int := w.1 10 0 + w.1 10 1 + w.1 10 2 + w.1 10 3 + w.1 10 4 + w.1 10 5
def MI2 (w : GS) : Prop := MBase w ∧ MBk w ∧ ∀ i, 0 ≤ w.1 14 i ∧ w.1 14 i + 2 * SU w ≤ 650
theorem SU_rg {w : GS} (h : MBk w) : 0 ≤ SU w ∧ SU w ≤ 300 := by
  have h0 := h.2.2 0; have h1 := h.2.2 1; have h2 := h.2.2 2; have h3 := h.2.2 3; have h4 := h.2.2 4; have h5 := h.2.2 5
  unfold SU; omega
theorem MI2.bd {w : GS} (h : MI2 w) : Bdm w := Bdm_of h.1 h.2.1 (fun i => by have := h.2.2 i; have := SU_rg h.2.1; omega)
theorem MI1.to2 {w : GS} (h : MI1 w) : MI2 w := ⟨h.1, h.2.1, fun i => by have := h.2.2.1 i; have := SU_rg h.2.1; omega⟩
theorem m_cut1_1 (w : GS) (lt x : Int) (j : Nat) (h6 : j ≠ 6) (h10 : j ≠ 10) (h14 : j ≠ 14) : (m_cut1 w lt x).1 j = w.1 j := by
  unfold m_cut1 m_cutC m_cutB m_cutA
  rw [gV_1, gA_1n _ _ _ h6, gA_1n _ _ _ h14, gA_1n _ _ _ h14, gA_1n _ _ _ h10]
theorem m_cut1_2 (w : GS) (lt x : Int) (j : Nat) (h2 : j ≠ 2) : (m_cut1 w lt x).2 j = w.2 j := by
  unfold m_cut1 m_cutC
  rw [gV_2n _ _ h2]; rfl
theorem SU_cut {w : GS} {lt x : Int} (hl : 0 ≤ lt ∧ lt ≤ 5) : SU (m_cut1 w lt x) = SU w - x := by
  show updZ (w.1 10) lt (w.1 10 lt - x) 0 + updZ (w.1 10) lt (w.1 10 lt - x) 1 + updZ (w.1 10) lt (w.1 10 lt - x) 2 + updZ (w.1 10) lt (w.1 10 lt - x) 3 + updZ (w.1 10) lt (w.1 10 lt - x) 4 + updZ (w.1 10) lt (w.1 10 lt - x) 5 = _
  unfold SU updZ
  rcases z05 hl with rfl | rfl | rfl | rfl | rfl | rfl <;> simp only [Int.reduceEq, if_false, if_true] <;> omega
theorem MI2_cut1 {w : GS} (h : MI2 w) {lt x : Int} (hl : 0 ≤ lt ∧ lt ≤ 5) (h0 : 0 ≤ x) (h1 : x ≤ w.1 10 lt) : MI2 (m_cut1 w lt x) := by
  obtain ⟨a, b, c⟩ := h
  have hs := SU_cut (w := w) (lt := lt) (x := x) hl
  refine ⟨MBase_congr (fun j q1 q2 => m_cut1_1 w lt x j q2 (by omega) (by omega)) a, ⟨by rw [m_cut1_2 _ _ _ 5 (by decide)]; exact b.1, by rw [m_cut1_2 _ _ _ 5 (by decide)]; exact b.2.1, fun t => ?_⟩, fun i => ?_⟩
  · rw [m_cut1_1 _ _ _ 8 (by decide) (by decide) (by decide), m_cut1_1 _ _ _ 9 (by decide) (by decide) (by decide)]
    have hb := b.2.2 t
    have e : (m_cut1 w lt x).1 10 t = updZ (w.1 10) lt (w.1 10 lt - x) t := rfl
    rw [e]
    unfold updZ
    split
    · next q => subst q; omega
    · omega
  · rw [hs]
    have ci := c i
    have e : (m_cut1 w lt x).1 14 i = updZ (updZ (w.1 14) (w.1 8 lt) (w.1 14 (w.1 8 lt) + x)) (w.1 9 lt) (updZ (w.1 14) (w.1 8 lt) (w.1 14 (w.1 8 lt) + x) (w.1 9 lt) + x) i := rfl
    rw [e]
    have c8 := c (w.1 8 lt)
    have c9 := c (w.1 9 lt)
    unfold updZ
    split
    · split <;> omega
    · split <;> omega
theorem m_its_rg {w : GS} (h : MI2 w) {k : Int} (hq : w.1 3 k < m_size (m_flow w k)) : 0 ≤ m_lat w k ∧ m_lat w k < w.2 5 ∧ m_lat w k ≤ 5 ∧ 1 ≤ m_its w k ∧ m_its w k ≤ w.1 10 (m_lat w k) ∧ m_its w k ≤ 50 := by
  have := m_lat_spec w k (fun i => (h.2.1.2.2 i).1) (h.1.2.2.2.2.1 k).1 h.2.1.1 hq
  have hc := h.2.1.2.1
  have hu := h.2.1.2.2 (m_lat w k)
  have hz := m_lesser_sp (w.1 10 (m_lat w k)) (m_size (m_flow w k) - w.1 3 k)
  have e : m_its w k = m_lesser (w.1 10 (m_lat w k)) (m_size (m_flow w k) - w.1 3 k) := rfl
  omega
theorem SU_ge {w : GS} (h : MBk w) {t : Int} (ht : 0 ≤ t ∧ t ≤ 5) : w.1 10 t ≤ SU w := by
  have h0 := h.2.2 0; have h1 := h.2.2 1; have h2 := h.2.2 2; have h3 := h.2.2 3; have h4 := h.2.2 4; have h5 := h.2.2 5
  unfold SU
  rcases z05 ht with rfl | rfl | rfl | rfl | rfl | rfl <;> omega
theorem m_cut_ends {w : GS} (h : MI2 w) (hs : SU w ≤ 0) (k : Int) : m_size (m_flow w k) ≤ w.1 3 k := by
  by_cases q : w.1 3 k < m_size (m_flow w k)
  · obtain ⟨r1, r2, r3, r4, r5, r6⟩ := m_its_rg h q
    have := SU_ge h.2.1 ⟨r1, r3⟩
    omega
  · omega
theorem m_beginLk_1 (v : GS) (n : Nat) (j : Nat) (h : j ≠ 14) : (zfor n m_beginL v).1 j = v.1 j := zfor_inv m_beginL v (fun _ a => a.1 j = v.1 j) n rfl (fun i a _ _ q => by simp only [m_beginL]; rw [gA_1n _ _ _ h]; exact q) n (by omega)
theorem m_beginWk_1 (v : GS) (n : Nat) (j : Nat) (h : j ≠ 12) : (zfor n m_beginW v).1 j = v.1 j := zfor_inv m_beginW v (fun _ a => a.1 j = v.1 j) n rfl (fun i a _ _ q => by simp only [m_beginW]; rw [gA_1n _ _ _ h]; exact q) n (by omega)
theorem m_cutsL_ok (k : Int) : ∀ (n : Nat) (x : Int × GS), MI2 x.2 → MI2 (m_cutsL k n x).2 ∧ (m_cutsL k n x).1 + SU (m_cutsL k n x).2 = x.1 + SU x.2 ∧ x.1 ≤ (m_cutsL k n x).1 := by
  intro n
  induction n with
  | zero => intro x h; exact ⟨h, rfl, Int.le_refl _⟩
  | succ n ih =>
    intro x h
    simp only [m_cutsL]
    split
    · next hc =>
      obtain ⟨r1, r2, r3, r4, r5, r6⟩ := m_its_rg h hc
      have h2 := MI2_cut1 h ⟨r1, r3⟩ (by omega) r5
      have hs := SU_cut (w := x.2) (lt := m_lat x.2 k) (x := m_its x.2 k) ⟨r1, r3⟩
      obtain ⟨i1, i2, i3⟩ := ih (x.1 + m_its x.2 k, m_cut1 x.2 (m_lat x.2 k) (m_its x.2 k)) h2
      exact ⟨i1, by rw [i2]; show x.1 + m_its x.2 k + SU (m_cut1 x.2 (m_lat x.2 k) (m_its x.2 k)) = _; rw [hs]; omega, by have : x.1 + m_its x.2 k ≤ _ := i3; omega⟩
    · exact ⟨h, rfl, Int.le_refl _⟩
theorem m_cuts_ok {w : GS} (h : MI2 w) (k : Int) : MI2 (m_cuts w k).2 ∧ (m_cuts w k).1 + SU (m_cuts w k).2 = SU w ∧ 0 ≤ (m_cuts w k).1 := by
  obtain ⟨a, b, c⟩ := m_cutsL_ok k 301 (0, w) h
  exact ⟨a, by unfold m_cuts; rw [b]; show 0 + SU w = SU w; omega, c⟩
theorem m_pass_ok : ∀ (n : Nat) (x : Int × GS), MI2 x.2 → MI2 (m_pass n x).2 ∧ (m_pass n x).1 + SU (m_pass n x).2 = x.1 + SU x.2 ∧ x.1 ≤ (m_pass n x).1 := by
  intro n
  induction n with
  | zero => intro x h; exact ⟨h, rfl, Int.le_refl _⟩
  | succ n ih =>
    intro x h
    simp only [m_pass]
    obtain ⟨a, b, c⟩ := m_cuts_ok h (n : Int)
    obtain ⟨i1, i2, i3⟩ := ih (x.1 + (m_cuts x.2 (n : Int)).1, (m_cuts x.2 (n : Int)).2) a
    exact ⟨i1, by rw [i2]; show x.1 + (m_cuts x.2 (n : Int)).1 + SU (m_cuts x.2 (n : Int)).2 = _; omega, by have : x.1 + (m_cuts x.2 (n : Int)).1 ≤ _ := i3; omega⟩
theorem MI2_went {w : GS} (h : MI2 w) (i x : Int) : MI2 (gA w 12 i x) := h
theorem m_cutAll_ok : ∀ (n : Nat) (x : Int × GS), MI2 x.2 → MI2 (m_cutAll n x) := by
  intro n
  induction n with
  | zero => intro x h; exact h
  | succ n ih =>
    intro x h
    simp only [m_cutAll]
    split
    · exact ih _ (MI2_went (m_pass_ok 5 (0, x.2) h).1 _ _)
    · exact h
/-- while houses keep and draw -/
def MI3 (w : GS) : Prop := MBase w ∧ MBk w ∧ ∀ i, 0 ≤ w.1 14 i ∧ w.1 14 i ≤ 1000
theorem MI3.bd {w : GS} (h : MI3 w) : Bdm w := Bdm_of h.1 h.2.1 h.2.2
theorem MI2.to3 {w : GS} (h : MI2 w) : MI3 w := ⟨h.1, h.2.1, fun i => by have := h.2.2 i; have := SU_rg h.2.1; omega⟩
theorem MI3_congr {u v : GS} (h : ∀ j : Nat, j ≤ 14 → j ≠ 6 → j ≠ 11 → j ≠ 12 → j ≠ 13 → v.1 j = u.1 j) (h5 : v.2 5 = u.2 5) (hu : MI3 u) : MI3 v :=
  ⟨MBase_congr (fun j a b => h j (by omega) b (by omega) (by omega) (by omega)) hu.1, MBk_congr (fun j a b => h j (by omega) (by omega) (by omega) (by omega) (by omega)) h5 hu.2.1, by rw [h 14 (by omega) (by omega) (by omega) (by omega) (by omega)]; exact hu.2.2⟩
theorem MI3_store {w v : GS} {h x y : Int} (e : ∀ j : Nat, j ≤ 10 → j ≠ 5 → j ≠ 6 → v.1 j = w.1 j) (e5 : v.1 5 = updZ (w.1 5) h x) (e14 : v.1 14 = updZ (w.1 14) h y) (h5 : v.2 5 = w.2 5) (hx : 0 ≤ x ∧ x ≤ w.1 4 h) (hy : 0 ≤ y ∧ y ≤ 1000) (hw : MI3 w) : MI3 v := by
  obtain ⟨⟨a7, a0, a1, a2, a3, a5, a4⟩, hk, hl⟩ := hw
  refine ⟨?_, MBk_congr (fun j a b => e j b (by omega) (by omega)) h5 hk, fun i => ?_⟩
  · unfold MBase
    rw [e 0 (by omega) (by omega) (by omega), e 1 (by omega) (by omega) (by omega), e 2 (by omega) (by omega) (by omega), e 3 (by omega) (by omega) (by omega), e 4 (by omega) (by omega) (by omega), e 7 (by omega) (by omega) (by omega), e5]
    refine ⟨a7, a0, a1, a2, a3, fun i => ?_, a4⟩
    unfold updZ
    split
    · next q => rw [q]; exact hx
    · exact a5 i
  · rw [e14]
    unfold updZ
    split
    · exact hy
    · exact hl i
theorem m_keeps_1 (w : GS) (h : Int) (j : Nat) (h5 : j ≠ 5) (h6 : j ≠ 6) (h12 : j ≠ 12) (h14 : j ≠ 14) : (m_keeps w h).1 j = w.1 j := by
  unfold m_keeps m_keepD m_keepC m_keepB m_keepA
  rw [gV_1, gA_1n _ _ _ h6, gA_1n _ _ _ h12, gA_1n _ _ _ h12, gA_1n _ _ _ h14, gA_1n _ _ _ h5]
theorem m_keeps_2 (w : GS) (h : Int) (j : Nat) (h3 : j ≠ 3) : (m_keeps w h).2 j = w.2 j := by
  unfold m_keeps m_keepD
  rw [gV_2n _ _ h3]; rfl
theorem m_draws_1 (w : GS) (h : Int) (j : Nat) (h5 : j ≠ 5) (h6 : j ≠ 6) (h12 : j ≠ 12) (h14 : j ≠ 14) : (m_draws w h).1 j = w.1 j := by
  unfold m_draws m_drawZ m_drawF m_drawE m_drawD m_drawC m_drawB m_drawA
  rw [gV_1, gA_1n _ _ _ h6, gA_1n _ _ _ h12, gA_1n _ _ _ h12, gV_1, gA_1n _ _ _ h6, gA_1n _ _ _ h14, gA_1n _ _ _ h5]
theorem m_draws_2 (w : GS) (h : Int) (j : Nat) (h2 : j ≠ 2) (h3 : j ≠ 3) : (m_draws w h).2 j = w.2 j := by
  unfold m_draws m_drawZ m_drawF m_drawE m_drawD m_drawC m_drawB
  rw [gV_2n _ _ h3, gA_2, gA_2, gA_2, gV_2n _ _ h2]; rfl
theorem MI3_keeps {w : GS} (hw : MI3 w) (h : Int) : MI3 (m_keeps w h) := by
  have hb := hw.1.2.2.2.2.2.1 h
  have hl := hw.2.2 h
  have hz := m_lesser_sp (w.1 14 h) (w.1 4 h - w.1 5 h)
  have e : m_keepX w h = m_lesser (w.1 14 h) (w.1 4 h - w.1 5 h) := rfl
  exact MI3_store (w := w) (h := h) (x := w.1 5 h + m_keepX w h) (y := w.1 14 h - m_keepX w h) (fun j a b c => m_keeps_1 w h j b c (by omega) (by omega)) rfl rfl rfl (by omega) (by omega) hw
theorem MI3_draws {w : GS} (hw : MI3 w) (h : Int) : MI3 (m_draws w h) := by
  have hb := hw.1.2.2.2.2.2.1 h
  have hl := hw.2.2 h
  have hz := m_lesser_sp (w.1 14 h) (w.1 5 h)
  have e : m_drawX w h = m_lesser (w.1 14 h) (w.1 5 h) := rfl
  exact MI3_store (w := w) (h := h) (x := w.1 5 h - m_drawX w h) (y := w.1 14 h - m_drawX w h) (fun j a b c => m_draws_1 w h j b c (by omega) (by omega)) rfl rfl rfl (by omega) (by omega) hw
theorem MI3_storeH {w : GS} (hw : MI3 w) (k : Int) : MI3 (m_store w k) := by
  unfold m_store
  split
  · exact MI3_keeps hw k
  · split
    · exact MI3_draws hw k
    · exact hw
theorem MI3_house {w : GS} (hw : MI3 w) (k : Int) : MI3 (m_house k w) := MI3_congr (u := m_store w k) (v := m_house k w) (fun j a b c d f => by show (m_fine (m_store w k) k).1 j = _; unfold m_fine; rw [gV_1, gA_1n _ _ _ b]) rfl (MI3_storeH hw k)
theorem MI3_housek {w : GS} (hw : MI3 w) (k : Nat) : MI3 (zfor k m_house w) := zfor_inv m_house w (fun _ a => MI3 a) k hw (fun i a _ _ h => MI3_house h i) k (by omega)
theorem m_setk_1 (w : GS) (n : Nat) (j : Nat) (h6 : j ≠ 6) (h12 : j ≠ 12) : (zfor n m_setS w).1 j = w.1 j := zfor_inv m_setS w (fun _ a => a.1 j = w.1 j) n rfl (fun i a _ _ h => by show (m_setC i (m_setB i (m_setA i a))).1 j = _; unfold m_setC m_setB m_setA; rw [gA_1n _ _ _ h12, gA_1n _ _ _ h6, gA_1n _ _ _ h6]; exact h) n (by omega)
theorem m_setk_2 (w : GS) (n : Nat) : (zfor n m_setS w).2 = w.2 := zfor_inv m_setS w (fun _ a => a.2 = w.2) n rfl (fun i a _ _ h => h) n (by omega)
theorem MI2_setk {w : GS} (hw : MI2 w) (n : Nat) : MI2 (zfor n m_setS w) := by
  have e10 := m_setk_1 w n 10 (by decide) (by decide)
  refine ⟨MBase_congr (fun j a b => m_setk_1 w n j b (by omega)) hw.1, MBk_congr (fun j a b => m_setk_1 w n j (by omega) (by omega)) (by rw [m_setk_2]) hw.2.1, ?_⟩
  unfold SU
  rw [e10, m_setk_1 w n 14 (by decide) (by decide)]
  exact hw.2.2
theorem m_flowFk_1 (w : GS) (n : Nat) (j : Nat) (h : j ≠ 13) : (zfor n m_flowF w).1 j = w.1 j := zfor_inv m_flowF w (fun _ a => a.1 j = w.1 j) n rfl (fun i a _ _ q => by simp only [m_flowF]; rw [gA_1n _ _ _ h]; exact q) n (by omega)
theorem m_flowFk_2 (w : GS) (n : Nat) : (zfor n m_flowF w).2 = w.2 := zfor_inv m_flowF w (fun _ a => a.2 = w.2) n rfl (fun i a _ _ q => q) n (by omega)
theorem MI3_flowk {w : GS} (hw : MI3 w) (n : Nat) : MI3 (zfor n m_flowF w) := MI3_congr (fun j a b c d f => m_flowFk_1 w n j f) (by rw [m_flowFk_2]) hw
def MI (w : GS) : Prop := MBase w ∧ MBk w ∧ MOut w
theorem m_beginW_1 (w : GS) (j : Nat) (h12 : j ≠ 12) : (zfor 6 m_beginW (gV w 5 0)).1 j = w.1 j := zfor_inv m_beginW (gV w 5 0) (fun _ a => a.1 j = w.1 j) 6 rfl (fun i a _ _ h => by simp only [m_beginW]; rw [gA_1n _ _ _ h12]; exact h) 6 (by omega)
theorem m_beginW_2 (w : GS) : (zfor 6 m_beginW (gV w 5 0)).2 = (gV w 5 0).2 := zfor_inv m_beginW (gV w 5 0) (fun _ a => a.2 = (gV w 5 0).2) 6 rfl (fun i a _ _ h => h) 6 (by omega)
theorem m_begin_1 (w : GS) (j : Nat) (h12 : j ≠ 12) (h14 : j ≠ 14) : (m_begin w).1 j = w.1 j :=
  zfor_inv m_beginL (zfor 6 m_beginW (gV w 5 0)) (fun _ a => a.1 j = w.1 j) 6 (m_beginW_1 w j h12) (fun i a _ _ h => by simp only [m_beginL]; rw [gA_1n _ _ _ h14]; exact h) 6 (by omega)
theorem m_begin_2 (w : GS) : (m_begin w).2 = (gV w 5 0).2 :=
  zfor_inv m_beginL (zfor 6 m_beginW (gV w 5 0)) (fun _ a => a.2 = (gV w 5 0).2) 6 (m_beginW_2 w) (fun i a _ _ h => h) 6 (by omega)
theorem m_begin_14 (w : GS) (i : Int) : (m_begin w).1 14 i = if 0 ≤ i ∧ i < 6 then (if w.1 7 i = 0 then m_size (w.1 1 i) else 0) else w.1 14 i := by
  have b := zfor_inv m_beginL (zfor 6 m_beginW (gV w 5 0)) (fun k a => a.1 7 = w.1 7 ∧ a.1 1 = w.1 1 ∧ ∀ i, a.1 14 i = if 0 ≤ i ∧ i < k then (if w.1 7 i = 0 then m_size (w.1 1 i) else 0) else w.1 14 i) 6 ⟨m_beginW_1 w 7 (by decide), m_beginW_1 w 1 (by decide), fun i => by rw [m_beginW_1 w 14 (by decide), if_neg (by omega)]⟩ (fun k a h0 h1 h => ⟨h.1, h.2.1, fun i => by
    show updZ (a.1 14) k (if a.1 7 k = 0 then m_size (a.1 1 k) else 0) i = _
    unfold updZ
    split
    · next e => rw [e, if_pos (show 0 ≤ k ∧ k < k + 1 by omega), h.1, h.2.1]
    · rw [h.2.2 i]
      by_cases q : 0 ≤ i ∧ i < k
      · rw [if_pos q, if_pos (show 0 ≤ i ∧ i < k + 1 by omega)]
      · rw [if_neg q, if_neg (show ¬ (0 ≤ i ∧ i < k + 1) by omega)]⟩) 6 (by omega)
  exact b.2.2 i
theorem MI1_begin {w : GS} (h : MI w) : MI1 (m_begin w) := by
  obtain ⟨h1, ⟨-, -, h2⟩, h3⟩ := h
  refine ⟨MBase_congr (fun j a b => m_begin_1 w j (by omega) (by omega)) h1, ?_, fun i => ?_, ?_⟩
  · unfold MBk
    rw [m_begin_2, m_begin_1 w 8 (by decide) (by decide), m_begin_1 w 9 (by decide) (by decide), m_begin_1 w 10 (by decide) (by decide), gV_2s]
    exact ⟨by omega, by omega, h2⟩
  · rw [m_begin_14]
    have a := h1.2.2.1 i
    have b := h3 i
    have c := m_size_sp (w.1 1 i)
    repeat' split
    all_goals omega
  · rw [m_begin_2, gV_2s]
    have := NZ_rg ((m_begin w).1 14)
    omega
theorem m_tradk (w : GS) (x : Int) (hM : ∀ i, -50 ≤ w.1 1 i ∧ w.1 1 i ≤ 50) (k : Nat) (hk : k ≤ 6) : 0 ≤ zfor k (m_tradS w x) 0 ∧ zfor k (m_tradS w x) 0 ≤ 600 := by
  have := zfor_inv (m_tradS w x) 0 (fun i a => 0 ≤ a ∧ a ≤ 100 * i) 6 (by omega) (fun i a h0 h1 h => by
    have hm := hM i
    have hb := m_buyer_sp w i
    have hs := m_isel_sp w i
    simp only [m_tradS]
    repeat' split
    all_goals omega) k hk
  omega
theorem m_mostk (w : GS) (hM : ∀ i, -50 ≤ w.1 1 i ∧ w.1 1 i ≤ 50) (k : Nat) (hk : k ≤ 6) : 0 ≤ zfor k (m_mostS w) (m_trad w (-1)) ∧ zfor k (m_mostS w) (m_trad w (-1)) ≤ 600 := by
  refine zfor_inv (m_mostS w) (m_trad w (-1)) (fun i a => 0 ≤ a ∧ a ≤ 600) 6 (m_tradk w (-1) hM 6 (by omega)) (fun i a h0 h1 h => ?_) k hk
  have hb : 0 ≤ m_trad w (w.1 2 i) ∧ m_trad w (w.1 2 i) ≤ 600 := m_tradk w (w.1 2 i) hM 6 (by omega)
  have hz := m_lesser_sp a (m_trad w (w.1 2 i))
  simp only [m_mostS]
  split <;> omega
