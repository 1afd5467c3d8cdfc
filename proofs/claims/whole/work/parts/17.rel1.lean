/-! THE RELATION of the class's state v and the reference's state x -/
def RS (v x : GS) : Prop := v.1 3 = x.1 2 ∧ v.1 8 = x.1 3 ∧ v.1 4 = x.1 4 ∧ (∀ i, 0 ≤ i → i ≤ 5 → v.1 0 i = 1 - x.1 7 i ∧ v.1 2 i = (if x.1 7 i = 0 then x.1 1 i else 0) ∧ v.1 1 i = (if x.1 7 i = 0 then x.1 0 i else 0)) ∧ v.2 0 = x.2 0 ∧ v.2 1 = x.2 1 ∧ v.2 3 = x.2 3 ∧ v.2 4 = x.2 4
def RB (v x : GS) : Prop := v.2 5 = x.2 5 ∧ v.1 11 = x.1 8 ∧ v.1 12 = x.1 9 ∧ v.1 13 = x.1 10 ∧ v.1 15 = x.1 11
def RE (v x : GS) : Prop := v.1 5 = x.1 5 ∧ (∀ i, 0 ≤ i → i ≤ 5 → v.1 6 i = x.1 6 i) ∧ v.1 9 = x.1 13 ∧ (∀ i, v.1 10 i = x.1 12 i) ∧ v.2 2 = x.2 2
def RLf (v x : GS) : Prop := ∀ i, 0 ≤ i → i ≤ 5 → (m_buyer x i ≠ 0 → v.1 7 i = -(x.1 14 i)) ∧ (m_buyer x i = 0 → v.1 7 i = x.1 14 i) ∧ 0 ≤ x.1 14 i ∧ (m_buyer x i = 0 → m_isel x i = 0 → x.1 14 i = 0)
def RK (x : GS) : Prop := ∀ t, 0 ≤ t → t < x.2 5 → m_isel x (x.1 8 t) ≠ 0 ∧ m_buyer x (x.1 9 t) ≠ 0
def CZ (v : GS) : Prop := ∀ t, 0 ≤ t → t < v.2 5 → v.1 14 t = 0
def RA (v x : GS) : Prop := RS v x ∧ RB v x ∧ RE v x ∧ RLf v x ∧ RK x ∧ CZ v ∧ GI1 v ∧ MI1 x
theorem buyer_congr {x y : GS} (h1 : y.1 1 = x.1 1) (h7 : y.1 7 = x.1 7) (i : Int) : m_buyer y i = m_buyer x i := by unfold m_buyer; rw [h1, h7]
theorem isel_congr {x y : GS} (h1 : y.1 1 = x.1 1) (h7 : y.1 7 = x.1 7) (i : Int) : m_isel y i = m_isel x i := by unfold m_isel; rw [h1, h7]
theorem buyer_isel (x : GS) (i : Int) : m_buyer x i ≠ 0 → m_isel x i = 0 := by
  have a := m_buyer_sp x i
  have b := m_isel_sp x i
  omega
theorem zfor_none {α : Type} (f : Int → α → α) (a : α) (n : Nat) (h : ∀ i : Int, 0 ≤ i → i < n → f i a = a) : zfor n f a = a := by
  induction n with
  | zero => rfl
  | succ n ih =>
    show f (n : Int) (zfor n f a) = a
    rw [ih (fun i h0 h1 => h i h0 (by omega))]
    exact h _ (by omega) (by omega)
theorem zfor_one {α : Type} (f : Int → α → α) (a : α) (n : Nat) (c : Int) (hc0 : 0 ≤ c) (hcn : c < n) (h : ∀ i : Int, 0 ≤ i → i < n → i ≠ c → f i a = a) (h2 : ∀ i : Int, 0 ≤ i → i < n → i ≠ c → f i (f c a) = f c a) : zfor n f a = f c a := by
  induction n with
  | zero => omega
  | succ n ih =>
    show f (n : Int) (zfor n f a) = f c a
    by_cases e : c = (n : Int)
    · rw [zfor_none f a n (fun i h0 h1 => h i h0 (by omega) (by omega)), e]
    · rw [ih (by omega) (fun i h0 h1 h3 => h i h0 (by omega) h3) (fun i h0 h1 h3 => h2 i h0 (by omega) h3)]
      exact h2 _ (by omega) (by omega) (fun q => e q.symm)
theorem zfor_congr {α : Type} (f g : Int → α → α) (a : α) (I : Int → α → Prop) (n : Nat) (h0 : I 0 a) (hs : ∀ (i : Int) (b : α), 0 ≤ i → i < n → I i b → f i b = g i b ∧ I (i + 1) (f i b)) : zfor n f a = zfor n g a := by
  have key : ∀ k : Nat, k ≤ n → zfor k f a = zfor k g a ∧ I (k : Int) (zfor k f a) := by
    intro k
    induction k with
    | zero => intro _; exact ⟨rfl, h0⟩
    | succ k ih =>
      intro hk
      obtain ⟨e, i1⟩ := ih (by omega)
      obtain ⟨a1, a2⟩ := hs (k : Int) _ (by omega) (by omega) i1
      refine ⟨?_, ?_⟩
      · show f (k : Int) (zfor k f a) = g (k : Int) (zfor k g a)
        rw [a1, e]
      · show I ((k + 1 : Nat) : Int) (f (k : Int) (zfor k f a))
        rw [show ((k + 1 : Nat) : Int) = (k : Int) + 1 by omega]
        exact a2
  exact (key n (Nat.le_refl _)).1
theorem updZ_same (f : Int → Int) (i : Int) : updZ f i (f i) = f := by
  funext j
  unfold updZ
  split
  · next e => rw [e]
  · rfl
/-! the best seller -/
theorem best_eq {v x : GS} {b : Int} (hP : v.1 3 = x.1 2) (hL : RLf v x) : f_best (v.1 7) (v.1 3) b = m_seller x b := by
  unfold f_best m_seller
  refine zfor_congr _ _ (-1) (fun _ a => -1 ≤ a) 6 (by omega) (fun i a h0 h1 h => ?_)
  have hl := hL i h0 (by omega)
  have hb := m_buyer_sp x i
  have hs := m_isel_sp x i
  have hbs := buyer_isel x i
  have z1 := zabs_sp (i - b)
  have z2 := zabs_sp (a - b)
  have y1 := m_size_sp (i - b)
  have y2 := m_size_sp (a - b)
  have c1 : (0 < v.1 7 i ∧ v.1 3 i ≤ v.1 3 b ∧ (a < 0 ∨ f_better (v.1 3) i a b ≠ 0)) ↔ (m_isel x i ≠ 0 ∧ 0 < x.1 14 i ∧ x.1 2 i ≤ x.1 2 b ∧ (a = -1 ∨ x.1 2 i < x.1 2 a ∨ (x.1 2 i = x.1 2 a ∧ m_size (i - b) < m_size (a - b)))) := by
    rw [hP]
    have e : f_better (x.1 2) i a b ≠ 0 ↔ (x.1 2 i < x.1 2 a ∨ (x.1 2 i = x.1 2 a ∧ m_size (i - b) < m_size (a - b))) := by
      unfold f_better
      repeat' split
      all_goals omega
    rw [e]
    constructor
    · intro q; refine ⟨by omega, by omega, q.2.1, ?_⟩
      rcases q.2.2 with q | q
      · exact Or.inl (by omega)
      · exact Or.inr q
    · intro q; refine ⟨by omega, q.2.2.1, ?_⟩
      rcases q.2.2.2 with q | q
      · exact Or.inl (by omega)
      · exact Or.inr q
  have e : f_bestS (v.1 7) (v.1 3) b i a = m_sellerS x b i a := by
    simp only [f_bestS, m_sellerS]
    by_cases q : 0 < v.1 7 i ∧ v.1 3 i ≤ v.1 3 b ∧ (a < 0 ∨ f_better (v.1 3) i a b ≠ 0)
    · rw [if_pos q, if_pos (c1.mp q)]
    · rw [if_neg q, if_neg (fun z => q (c1.mpr z))]
  refine ⟨e, ?_⟩
  show -1 ≤ f_bestS (v.1 7) (v.1 3) b i a
  simp only [f_bestS]
  split <;> omega
/-! one trade -/
theorem f_trade_eq {u : GS} {s b : Int} (h : u.2 5 < 6) : f_trade u s b = gV (gA (gA (gA (gA (gA (f_tradeL u s b) 11 (u.2 5) s) 12 (u.2 5) b) 13 (u.2 5) (zmin (u.1 7 s) (-(u.1 7 b)))) 14 (u.2 5) 0) 15 (u.2 5) ((u.1 3 s + u.1 3 b) / 2)) 5 (u.2 5 + 1) := if_neg (by show ¬ 6 ≤ u.2 5; omega)
theorem RA_trade {v x : GS} {s b : Int} (h : RA v x) (hs : 0 ≤ s ∧ s ≤ 5) (hb : 0 ≤ b ∧ b ≤ 5) (hsl : m_isel x s ≠ 0) (hbu : m_buyer x b ≠ 0) (hL : 0 < x.1 14 s) (hLb : 0 < x.1 14 b) : RA (f_trade v s b) (m_trade x s b) ∧ (∀ i, 0 ≤ i → i ≤ 5 → i ≠ b → m_buyer x i ≠ 0 → (f_trade v s b).1 7 i = v.1 7 i) := by
  obtain ⟨a1, ⟨b1, b2, b3, b4, b5⟩, a3, a4, a5, a6, a7, a8⟩ := h
  have hsb : s ≠ b := fun q => by have := buyer_isel x b hbu; rw [q] at hsl; omega
  have ls := a4 s hs.1 hs.2
  have lb := a4 b hb.1 hb.2
  have hs0 : m_buyer x s = 0 := by
    have p1 := m_buyer_sp x s
    have p2 := m_isel_sp x s
    omega
  have es := ls.2.1 hs0
  have eb := lb.1 hbu
  have g7 := GI1_trade a7 hs hb (by omega) (by omega)
  have g8 := (MI1_trade a8 hs hb hsb hL hLb).1
  have hc : v.2 5 < 6 := by
    have p1 := a7.2.2.2
    have p2 := NZ_ge (f := v.1 7) hb
    omega
  have hm : zmin (v.1 7 s) (-(v.1 7 b)) = m_lesser (x.1 14 b) (x.1 14 s) := by
    rw [es, eb]
    have p1 := zmin_sp (x.1 14 s) (- -(x.1 14 b))
    have p2 := m_lesser_sp (x.1 14 b) (x.1 14 s)
    omega
  have hml := m_lesser_sp (x.1 14 b) (x.1 14 s)
  have e := f_trade_eq (s := s) (b := b) hc
  have r7 : (f_trade v s b).1 7 = updZ (updZ (v.1 7) s (v.1 7 s - m_lesser (x.1 14 b) (x.1 14 s))) b (v.1 7 b + m_lesser (x.1 14 b) (x.1 14 s)) := by
    rw [f_trade_7, hm, updZ_n _ _ (Ne.symm hsb)]
  have r14 : (m_trade x s b).1 14 = updZ (updZ (x.1 14) b (x.1 14 b - m_lesser (x.1 14 b) (x.1 14 s))) s (x.1 14 s - m_lesser (x.1 14 b) (x.1 14 s)) := by
    show updZ (updZ (x.1 14) b (x.1 14 b - m_lesser (x.1 14 b) (x.1 14 s))) s (updZ (x.1 14) b (x.1 14 b - m_lesser (x.1 14 b) (x.1 14 s)) s - m_lesser (x.1 14 b) (x.1 14 s)) = _
    rw [updZ_n _ _ hsb]
  have n1 : (m_trade x s b).1 1 = x.1 1 := m_trade_1 x s b 1 (by decide)
  have n7 : (m_trade x s b).1 7 = x.1 7 := m_trade_1 x s b 7 (by decide)
  refine ⟨⟨?_, ?_, ?_, ?_, ?_, ?_, g7, g8⟩, ?_⟩
  · unfold RS
    rw [f_trade_1 v s b 3 (by decide) (by decide), f_trade_1 v s b 8 (by decide) (by decide), f_trade_1 v s b 4 (by decide) (by decide), f_trade_1 v s b 0 (by decide) (by decide), f_trade_1 v s b 1 (by decide) (by decide), f_trade_1 v s b 2 (by decide) (by decide), f_trade_2 v s b 0 (by decide), f_trade_2 v s b 1 (by decide), f_trade_2 v s b 3 (by decide), f_trade_2 v s b 4 (by decide)]
    exact a1
  · refine ⟨?_, ?_, ?_, ?_, ?_⟩
    · rw [e]; show v.2 5 + 1 = x.2 5 + 1; rw [b1]
    · rw [e]; show updZ (v.1 11) (v.2 5) s = updZ (x.1 8) (x.2 5) s; rw [b1, b2]
    · rw [e]; show updZ (v.1 12) (v.2 5) b = updZ (x.1 9) (x.2 5) b; rw [b1, b3]
    · rw [e]; show updZ (v.1 13) (v.2 5) (zmin (v.1 7 s) (-(v.1 7 b))) = updZ (x.1 10) (x.2 5) (m_lesser (x.1 14 b) (x.1 14 s)); rw [b1, b4, hm]
    · rw [e]; show updZ (v.1 15) (v.2 5) ((v.1 3 s + v.1 3 b) / 2) = updZ (x.1 11) (x.2 5) ((x.1 2 s + x.1 2 b) / 2); rw [b1, b5, a1.1]
  · unfold RE
    rw [f_trade_1 v s b 5 (by decide) (by decide), f_trade_1 v s b 6 (by decide) (by decide), f_trade_1 v s b 9 (by decide) (by decide), f_trade_1 v s b 10 (by decide) (by decide), f_trade_2 v s b 2 (by decide)]
    exact a3
  · intro i h0 h1
    rw [buyer_congr n1 n7, isel_congr n1 n7, r7, r14]
    have li := a4 i h0 h1
    unfold updZ
    by_cases q1 : i = b
    · subst q1
      rw [if_pos rfl, if_neg (Ne.symm hsb), if_pos rfl]
      omega
    · rw [if_neg q1]
      by_cases q2 : i = s
      · subst q2
        rw [if_pos rfl, if_pos rfl]
        omega
      · rw [if_neg q2, if_neg q2, if_neg q1]
        exact li
  · intro t h0 h1
    rw [isel_congr n1 n7, buyer_congr n1 n7]
    show m_isel x (updZ (x.1 8) (x.2 5) s t) ≠ 0 ∧ m_buyer x (updZ (x.1 9) (x.2 5) b t) ≠ 0
    have h1' : t < x.2 5 + 1 := h1
    unfold updZ
    by_cases q : t = x.2 5
    · rw [if_pos q, if_pos q]; exact ⟨hsl, hbu⟩
    · rw [if_neg q, if_neg q]; exact a5 t h0 (by omega)
  · intro t h0 h1
    rw [e] at h1 ⊢
    have h1' : t < v.2 5 + 1 := h1
    show updZ (v.1 14) (v.2 5) 0 t = 0
    unfold updZ
    by_cases q : t = v.2 5
    · rw [if_pos q]
    · rw [if_neg q]; exact a6 t h0 (by omega)
  · intro i h0 h1 hib hbi
    rw [r7, updZ_n _ _ hib]
    have his : i ≠ s := fun q => by have := buyer_isel x i hbi; rw [q] at this; exact hsl this
    rw [updZ_n _ _ his]
theorem NZ_RL {v x : GS} (h : RLf v x) : NZ (v.1 7) = NZ (x.1 14) := by
  have k : ∀ i, 0 ≤ i → i ≤ 5 → zc (v.1 7 i) = zc (x.1 14 i) := by
    intro i h0 h1
    have := h i h0 h1
    unfold zc
    by_cases q : m_buyer x i = 0
    · rw [this.2.1 q]
    · rw [this.1 q]
      split <;> split <;> omega
  unfold NZ
  rw [k 0 (by omega) (by omega), k 1 (by omega) (by omega), k 2 (by omega) (by omega), k 3 (by omega) (by omega), k 4 (by omega) (by omega), k 5 (by omega) (by omega)]
theorem serve_takes {b : Int} (hb : 0 ≤ b ∧ b ≤ 5) : ∀ (n m : Nat) (v x : GS), RA v x → m_buyer x b ≠ 0 → NZ (x.1 14) ≤ (n : Int) → NZ (x.1 14) ≤ (m : Int) → RA (f_serve b n v) (m_takesL b m x) ∧ (∀ i, 0 ≤ i → i ≤ 5 → i ≠ b → m_buyer x i ≠ 0 → (f_serve b n v).1 7 i = v.1 7 i) ∧ (f_serve b n v).1 3 = v.1 3 ∧ (m_takesL b m x).1 1 = x.1 1 ∧ (m_takesL b m x).1 7 = x.1 7 ∧ (m_takesL b m x).1 2 = x.1 2 := by
  intro n
  induction n with
  | zero =>
    intro m v x h hbu hn hm
    have p1 := NZ_ge (f := x.1 14) hb
    have e0 : x.1 14 b = 0 := by omega
    have e : m_takesL b m x = x := by
      cases m with
      | zero => rfl
      | succ m => simp only [m_takesL]; rw [if_neg (fun q => by omega)]
    rw [e]
    exact ⟨h, fun i _ _ _ _ => rfl, rfl, rfl, rfl, rfl⟩
  | succ n ih =>
    intro m v x h hbu hn hm
    have lb := (h.2.2.2.1 b hb.1 hb.2).1 hbu
    have lb0 := (h.2.2.2.1 b hb.1 hb.2).2.2.1
    have eb := best_eq (b := b) h.1.1 h.2.2.2.1
    have hsp := m_seller_spec x b
    simp only [f_serve]
    rw [eb]
    by_cases q : 0 < x.1 14 b ∧ m_seller x b ≠ -1
    · rcases hsp with z | ⟨z1, z2, z3, z4, z5, z6⟩
      · exact absurd z q.2
      · have hsl : m_isel x (m_seller x b) ≠ 0 := by have := m_isel_sp x (m_seller x b); omega
        have hne : m_seller x b ≠ b := fun w => by have := buyer_isel x b hbu; rw [w] at hsl; exact hsl this
        have p1 := NZ_ge (f := x.1 14) hb
        have hm' : ∃ m' : Nat, m = m' + 1 := ⟨m - 1, by omega⟩
        obtain ⟨m', rfl⟩ := hm'
        obtain ⟨t1, t2⟩ := RA_trade h ⟨z1, z2⟩ hb hsl hbu z5 q.1
        have nz := (MI1_trade h.2.2.2.2.2.2.2 ⟨z1, z2⟩ hb hne z5 q.1).2
        have n1 : (m_trade x (m_seller x b) b).1 1 = x.1 1 := m_trade_1 x _ b 1 (by decide)
        have n7 : (m_trade x (m_seller x b) b).1 7 = x.1 7 := m_trade_1 x _ b 7 (by decide)
        have n2 : (m_trade x (m_seller x b) b).1 2 = x.1 2 := m_trade_1 x _ b 2 (by decide)
        simp only [m_takesL]
        rw [if_pos (by omega), if_neg (by omega), if_pos q]
        obtain ⟨i1, i2, i3, i4, i5, i6⟩ := ih m' _ _ t1 (by rw [buyer_congr n1 n7]; exact hbu) (by omega) (by omega)
        refine ⟨i1, fun i h0 h1 h2 h3 => ?_, ?_, i4.trans n1, i5.trans n7, i6.trans n2⟩
        · rw [i2 i h0 h1 h2 (by rw [buyer_congr n1 n7]; exact h3)]
          exact t2 i h0 h1 h2 h3
        · rw [i3]; exact f_trade_1 v _ b 3 (by decide) (by decide)
    · have e : m_takesL b m x = x := by
        cases m with
        | zero => rfl
        | succ m => simp only [m_takesL]; rw [if_neg q]
      rw [e]
      have e2 : (if v.1 7 b < 0 then (if m_seller x b < 0 then v else f_serve b n (f_trade v (m_seller x b) b)) else v) = v := by
        split
        · rw [if_pos (by omega)]
        · rfl
      rw [e2]
      exact ⟨h, fun i _ _ _ _ => rfl, rfl, rfl, rfl, rfl⟩
