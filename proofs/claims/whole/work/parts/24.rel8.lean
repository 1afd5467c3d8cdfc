/-! THE MOST THAT COULD BE TRADED: all sets of buyers against all prices of buyers -/
def TP (M P : Int → Int) (x : Int) : Int := S6 (fun k => (if M k < 0 ∧ x < P k then -(M k) else 0) + (if 0 < M k ∧ P k ≤ x then M k else 0))
theorem sellsL_iff (M P : Int → Int) (s set : Int) : ∀ (n : Nat) (h : Int), f_sellsL M P s set n h ≠ 0 ↔ ∃ k, h ≤ k ∧ k < h + n ∧ M k < 0 ∧ f_bit set k ≠ 0 ∧ P s ≤ P k := by
  intro n
  induction n with
  | zero =>
    intro h
    show ((0 : Int) ≠ 0 ↔ _)
    constructor
    · intro q; exact absurd rfl q
    · rintro ⟨k, h1, h2, -⟩; omega
  | succ n ih =>
    intro h
    simp only [f_sellsL]
    by_cases q : M h < 0 ∧ f_bit set h ≠ 0 ∧ P s ≤ P h
    · rw [if_pos q]
      exact ⟨fun _ => ⟨h, by omega, by omega, q⟩, fun _ => by omega⟩
    · rw [if_neg q, ih]
      constructor
      · rintro ⟨k, h1, h2, h3⟩; exact ⟨k, by omega, by omega, h3⟩
      · rintro ⟨k, h1, h2, h3⟩
        have : k ≠ h := fun e => q (by rw [← e]; exact h3)
        exact ⟨k, by omega, by omega, h3⟩
theorem sells_iff (M P : Int → Int) (s set : Int) : f_sells M P s set ≠ 0 ↔ ∃ k, 0 ≤ k ∧ k ≤ 5 ∧ M k < 0 ∧ f_bit set k ≠ 0 ∧ P s ≤ P k := by
  have := sellsL_iff M P s set 6 0
  unfold f_sells
  rw [this]
  constructor
  · rintro ⟨k, h1, h2, h3⟩; exact ⟨k, h1, by omega, h3⟩
  · rintro ⟨k, h1, h2, h3⟩; exact ⟨k, h1, by omega, h3⟩
def fB (M P : Int → Int) (set : Int) : Int → Int := fun h => (if M h < 0 ∧ f_bit set h = 0 then -(M h) else 0) + (if 0 < M h ∧ f_sells M P h set ≠ 0 then M h else 0)
theorem bound_eq (M P : Int → Int) (set : Int) : f_bound M P set = S6 (fB M P set) := by
  have s : ∀ h b, f_boundS M P set h b = b + fB M P set h := by
    intro h b
    unfold f_boundS f_boundA fB
    repeat' split
    all_goals omega
  have e : f_bound M P set = f_boundS M P set 5 (f_boundS M P set 4 (f_boundS M P set 3 (f_boundS M P set 2 (f_boundS M P set 1 (f_boundS M P set 0 0))))) := rfl
  rw [e]
  simp only [s]
  unfold S6
  omega
theorem max_of (P : Int → Int) (C : Int → Prop) : ∀ n : Nat, (∃ k, 0 ≤ k ∧ k < (n : Int) ∧ C k) → ∃ b, 0 ≤ b ∧ b < (n : Int) ∧ C b ∧ ∀ k, 0 ≤ k → k < (n : Int) → C k → P k ≤ P b := by
  intro n
  induction n with
  | zero => rintro ⟨k, h1, h2, -⟩; omega
  | succ n ih =>
    rintro ⟨k, h1, h2, h3⟩
    by_cases q : ∃ k, 0 ≤ k ∧ k < (n : Int) ∧ C k
    · obtain ⟨b, b1, b2, b3, b4⟩ := ih q
      by_cases z : C (n : Int) ∧ P b < P (n : Int)
      · refine ⟨(n : Int), by omega, by omega, z.1, fun j j0 j1 j2 => ?_⟩
        by_cases e : j = (n : Int)
        · rw [e]; exact Int.le_refl _
        · have := b4 j j0 (by omega) j2; omega
      · refine ⟨b, b1, by omega, b3, fun j j0 j1 j2 => ?_⟩
        by_cases e : j = (n : Int)
        · rw [e] at j2 ⊢
          by_cases w : P b < P (n : Int)
          · exact absurd ⟨j2, w⟩ z
          · omega
        · exact b4 j j0 (by omega) j2
    · have e : k = (n : Int) := by
        by_cases e : k = (n : Int)
        · exact e
        · exact absurd ⟨k, h1, by omega, h3⟩ q
      rw [e] at h3
      refine ⟨(n : Int), by omega, by omega, h3, fun j j0 j1 j2 => ?_⟩
      by_cases e2 : j = (n : Int)
      · rw [e2]; exact Int.le_refl _
      · exact absurd ⟨j, j0, by omega, j2⟩ q
/-- each set is bounded by a price -/
theorem set_price (M P : Int → Int) (hP : ∀ i, 0 ≤ P i) (set : Int) : ∃ x, (x = -1 ∨ ∃ b, 0 ≤ b ∧ b ≤ 5 ∧ M b < 0 ∧ x = P b) ∧ TP M P x ≤ f_bound M P set := by
  rw [bound_eq]
  by_cases q : ∃ k, 0 ≤ k ∧ k < ((6 : Nat) : Int) ∧ (M k < 0 ∧ f_bit set k ≠ 0)
  · obtain ⟨b, b1, b2, b3, b4⟩ := max_of P (fun k => M k < 0 ∧ f_bit set k ≠ 0) 6 q
    refine ⟨P b, Or.inr ⟨b, b1, by omega, b3.1, rfl⟩, S6_le (fun i i0 i5 => ?_)⟩
    show (if M i < 0 ∧ P b < P i then -(M i) else 0) + (if 0 < M i ∧ P i ≤ P b then M i else 0) ≤ (if M i < 0 ∧ f_bit set i = 0 then -(M i) else 0) + (if 0 < M i ∧ f_sells M P i set ≠ 0 then M i else 0)
    have k1 : M i < 0 ∧ P b < P i → M i < 0 ∧ f_bit set i = 0 := fun z => ⟨z.1, by
      by_cases w : f_bit set i = 0
      · exact w
      · have := b4 i i0 (by omega) ⟨z.1, w⟩; omega⟩
    have k2 : 0 < M i ∧ P i ≤ P b → 0 < M i ∧ f_sells M P i set ≠ 0 := fun z => ⟨z.1, (sells_iff M P i set).mpr ⟨b, b1, by omega, b3.1, b3.2, z.2⟩⟩
    by_cases z1 : M i < 0 ∧ P b < P i
    · rw [if_pos z1, if_pos (k1 z1), if_neg (by omega), if_neg (by omega)]; omega
    · rw [if_neg z1]
      by_cases z2 : 0 < M i ∧ P i ≤ P b
      · rw [if_pos z2, if_pos (k2 z2), if_neg (by omega)]; omega
      · rw [if_neg z2]
        repeat' split
        all_goals omega
  · refine ⟨-1, Or.inl rfl, S6_le (fun i i0 i5 => ?_)⟩
    show (if M i < 0 ∧ -1 < P i then -(M i) else 0) + (if 0 < M i ∧ P i ≤ -1 then M i else 0) ≤ (if M i < 0 ∧ f_bit set i = 0 then -(M i) else 0) + (if 0 < M i ∧ f_sells M P i set ≠ 0 then M i else 0)
    have hp := hP i
    by_cases z1 : M i < 0
    · have w : f_bit set i = 0 := by
        by_cases w : f_bit set i = 0
        · exact w
        · exact absurd ⟨i, i0, by omega, z1, w⟩ q
      rw [if_pos ⟨z1, by omega⟩, if_neg (by omega), if_pos ⟨z1, w⟩, if_neg (by omega)]; omega
    · rw [if_neg (by omega), if_neg (by omega)]
      repeat' split
      all_goals omega
/-- each price is bounded by a set -/
theorem price_set (M P : Int → Int) (x : Int) : ∃ set, 0 ≤ set ∧ set < 64 ∧ f_bound M P set ≤ TP M P x := by
  have r := fun k => zi_rg (M k < 0 ∧ P k ≤ x)
  generalize hz : (fun k => zi (M k < 0 ∧ P k ≤ x)) = z
  have ez : ∀ k, z k = zi (M k < 0 ∧ P k ≤ x) := fun k => by rw [← hz]
  have r0 := r 0; have r1 := r 1; have r2 := r 2; have r3 := r 3; have r4 := r 4; have r5 := r 5
  rw [← ez] at r0 r1 r2 r3 r4 r5
  refine ⟨z 0 + 2 * z 1 + 4 * z 2 + 8 * z 3 + 16 * z 4 + 32 * z 5, by omega, by omega, ?_⟩
  have bits : ∀ i, 0 ≤ i → i ≤ 5 → f_bit (z 0 + 2 * z 1 + 4 * z 2 + 8 * z 3 + 16 * z 4 + 32 * z 5) i = z i := by
    intro i i0 i5
    rcases z05 ⟨i0, i5⟩ with rfl | rfl | rfl | rfl | rfl | rfl
    · show (z 0 + 2 * z 1 + 4 * z 2 + 8 * z 3 + 16 * z 4 + 32 * z 5) / 1 % 2 = z 0; omega
    · show (z 0 + 2 * z 1 + 4 * z 2 + 8 * z 3 + 16 * z 4 + 32 * z 5) / 2 % 2 = z 1; omega
    · show (z 0 + 2 * z 1 + 4 * z 2 + 8 * z 3 + 16 * z 4 + 32 * z 5) / 4 % 2 = z 2; omega
    · show (z 0 + 2 * z 1 + 4 * z 2 + 8 * z 3 + 16 * z 4 + 32 * z 5) / 8 % 2 = z 3; omega
    · show (z 0 + 2 * z 1 + 4 * z 2 + 8 * z 3 + 16 * z 4 + 32 * z 5) / 16 % 2 = z 4; omega
    · show (z 0 + 2 * z 1 + 4 * z 2 + 8 * z 3 + 16 * z 4 + 32 * z 5) / 32 % 2 = z 5; omega
  generalize z 0 + 2 * z 1 + 4 * z 2 + 8 * z 3 + 16 * z 4 + 32 * z 5 = set at bits ⊢
  rw [bound_eq]
  refine S6_le (fun i i0 i5 => ?_)
  show (if M i < 0 ∧ f_bit set i = 0 then -(M i) else 0) + (if 0 < M i ∧ f_sells M P i set ≠ 0 then M i else 0) ≤ (if M i < 0 ∧ x < P i then -(M i) else 0) + (if 0 < M i ∧ P i ≤ x then M i else 0)
  have k1 : M i < 0 ∧ f_bit set i = 0 → M i < 0 ∧ x < P i := fun q => ⟨q.1, by
    have := q.2
    rw [bits i i0 i5, ez] at this
    by_cases w : P i ≤ x
    · rw [zi_t ⟨q.1, w⟩] at this; omega
    · omega⟩
  have k2 : 0 < M i ∧ f_sells M P i set ≠ 0 → 0 < M i ∧ P i ≤ x := fun q => ⟨q.1, by
    obtain ⟨k, k0, k5, kM, kb, kp⟩ := (sells_iff M P i set).mp q.2
    rw [bits k k0 k5, ez] at kb
    by_cases w : M k < 0 ∧ P k ≤ x
    · omega
    · rw [zi_f w] at kb; exact absurd rfl kb⟩
  by_cases z1 : M i < 0 ∧ f_bit set i = 0
  · rw [if_pos z1, if_pos (k1 z1), if_neg (by omega), if_neg (by omega)]; omega
  · rw [if_neg z1]
    by_cases z2 : 0 < M i ∧ f_sells M P i set ≠ 0
    · rw [if_pos z2, if_pos (k2 z2), if_neg (by omega)]; omega
    · rw [if_neg z2]
      repeat' split
      all_goals omega
theorem most_sp (M P : Int → Int) : (∀ set, 0 ≤ set → set < 64 → f_most M P ≤ f_bound M P set) ∧ ∃ set, f_most M P = f_bound M P set := by
  have w := zfor_inv (f_mostS M P) (f_bound M P 0) (fun k a => (∀ set, 0 ≤ set → set ≤ k → a ≤ f_bound M P set) ∧ ∃ set, a = f_bound M P set) 63 ⟨fun set h0 h1 => by rw [show set = 0 by omega]; exact Int.le_refl _, 0, rfl⟩ (fun k a h0 h1 h => by
    have hz := zmin_sp a (f_bound M P (k + 1))
    show (∀ set, 0 ≤ set → set ≤ k + 1 → zmin a (f_bound M P (k + 1)) ≤ f_bound M P set) ∧ ∃ set, zmin a (f_bound M P (k + 1)) = f_bound M P set
    refine ⟨fun set s0 s1 => ?_, ?_⟩
    · by_cases e : set = k + 1
      · rw [e]; omega
      · have := h.1 set s0 (by omega); omega
    · rcases hz with ⟨-, e⟩ | ⟨-, e⟩
      · exact ⟨k + 1, e⟩
      · obtain ⟨set, q⟩ := h.2
        exact ⟨set, e.trans q⟩) 63 (by omega)
  exact ⟨fun set h0 h1 => w.1 set h0 (by show set ≤ ((63 : Nat) : Int); omega), w.2⟩
theorem trad_TP {M P : Int → Int} {x : GS} (h : ∀ i, 0 ≤ i → i ≤ 5 → M i = (if x.1 7 i = 0 then x.1 1 i else 0)) (hP : P = x.1 2) (y : Int) : m_trad x y = TP M P y := by
  have s : ∀ k b, m_tradS x y k b = b + ((if m_buyer x k ≠ 0 ∧ y < x.1 2 k then -(x.1 1 k) else 0) + (if m_isel x k ≠ 0 ∧ x.1 2 k ≤ y then x.1 1 k else 0)) := by
    intro k b
    unfold m_tradS
    omega
  have e : m_trad x y = m_tradS x y 5 (m_tradS x y 4 (m_tradS x y 3 (m_tradS x y 2 (m_tradS x y 1 (m_tradS x y 0 0))))) := rfl
  have t : m_trad x y = S6 (fun k => (if m_buyer x k ≠ 0 ∧ y < x.1 2 k then -(x.1 1 k) else 0) + (if m_isel x k ≠ 0 ∧ x.1 2 k ≤ y then x.1 1 k else 0)) := by
    rw [e]
    simp only [s]
    unfold S6
    dsimp only
    omega
  rw [t]
  refine S6_eq (fun i i0 i5 => ?_)
  show (if m_buyer x i ≠ 0 ∧ y < x.1 2 i then -(x.1 1 i) else 0) + (if m_isel x i ≠ 0 ∧ x.1 2 i ≤ y then x.1 1 i else 0) = (if M i < 0 ∧ y < P i then -(M i) else 0) + (if 0 < M i ∧ P i ≤ y then M i else 0)
  rw [h i i0 i5, hP]
  have p1 := m_buyer_sp x i
  have p2 := m_isel_sp x i
  by_cases g : x.1 7 i = 0
  · rw [if_pos g]
    by_cases z1 : x.1 1 i < 0 ∧ y < x.1 2 i
    · rw [if_pos (show m_buyer x i ≠ 0 ∧ y < x.1 2 i by omega), if_pos z1, if_neg (by omega), if_neg (by omega)]
    · rw [if_neg (by omega), if_neg z1]
      by_cases z2 : 0 < x.1 1 i ∧ x.1 2 i ≤ y
      · rw [if_pos (show m_isel x i ≠ 0 ∧ x.1 2 i ≤ y by omega), if_pos z2]
      · rw [if_neg (by omega), if_neg z2]
  · rw [if_neg g, if_neg (by omega), if_neg (by omega), if_neg (by omega), if_neg (by omega)]
theorem mmost_sp (x : GS) : (m_most x ≤ m_trad x (-1) ∧ ∀ b, 0 ≤ b → b ≤ 5 → m_buyer x b ≠ 0 → m_most x ≤ m_trad x (x.1 2 b)) ∧ ∃ y, m_most x = m_trad x y := by
  have w := zfor_inv (m_mostS x) (m_trad x (-1)) (fun k a => (a ≤ m_trad x (-1) ∧ ∀ b, 0 ≤ b → b < k → m_buyer x b ≠ 0 → a ≤ m_trad x (x.1 2 b)) ∧ ∃ y, a = m_trad x y) 6 ⟨⟨Int.le_refl _, fun b h0 h1 => by omega⟩, -1, rfl⟩ (fun k a h0 h1 h => by
    have hz := m_lesser_sp a (m_trad x (x.1 2 k))
    by_cases q : m_buyer x k ≠ 0
    · have e : m_mostS x k a = m_lesser a (m_trad x (x.1 2 k)) := if_pos q
      rw [e]
      refine ⟨⟨by have := h.1.1; omega, fun b b0 b1 b2 => ?_⟩, ?_⟩
      · by_cases w : b = k
        · rw [w]; omega
        · have := h.1.2 b b0 (by omega) b2; omega
      · rcases hz with ⟨-, e⟩ | ⟨-, e⟩
        · obtain ⟨y, q⟩ := h.2
          exact ⟨y, e.trans q⟩
        · exact ⟨_, e⟩
    · have e : m_mostS x k a = a := if_neg q
      rw [e]
      refine ⟨⟨h.1.1, fun b b0 b1 b2 => ?_⟩, h.2⟩
      by_cases w : b = k
      · rw [w] at b2; exact absurd b2 q
      · exact h.1.2 b b0 (by omega) b2) 6 (by omega)
  exact ⟨⟨w.1.1, fun b b0 b5 => w.1.2 b b0 (by show b < ((6 : Nat) : Int); omega)⟩, w.2⟩
theorem most_ok {u w : GS} (h : RR u w) : f_most (u.1 2) (u.1 3) = m_most (gV w 6 0) := by
  obtain ⟨hg, hm, ⟨s1, s2, s3, s4, -⟩, -⟩ := h
  have hM : ∀ i, 0 ≤ i → i ≤ 5 → u.1 2 i = (if (gV w 6 0).1 7 i = 0 then (gV w 6 0).1 1 i else 0) := fun i h0 h1 => (s4 i h0 h1).2.1
  have hT := trad_TP (P := u.1 3) hM s1
  obtain ⟨a1, set, a2⟩ := most_sp (u.1 2) (u.1 3)
  obtain ⟨⟨b1, b2⟩, y, b3⟩ := mmost_sp (gV w 6 0)
  have le1 : f_most (u.1 2) (u.1 3) ≤ m_most (gV w 6 0) := by
    rw [b3, hT]
    obtain ⟨st, t0, t1, t2⟩ := price_set (u.1 2) (u.1 3) y
    have := a1 st t0 t1
    omega
  have le2 : m_most (gV w 6 0) ≤ f_most (u.1 2) (u.1 3) := by
    rw [a2]
    obtain ⟨x, hx, t2⟩ := set_price (u.1 2) (u.1 3) (fun i => (hg.1.2.2.2.1 i).1) set
    rcases hx with rfl | ⟨b, b0, b5, bM, rfl⟩
    · rw [hT] at b1; omega
    · have hb : m_buyer (gV w 6 0) b ≠ 0 := by
        have e := hM b b0 b5
        have p := m_buyer_sp (gV w 6 0) b
        rw [e] at bM
        split at bM <;> omega
      have := b2 b b0 b5 hb
      rw [hT] at this
      have e : (gV w 6 0).1 2 b = u.1 3 b := by rw [s1]; rfl
      rw [e] at this
      omega
  omega
