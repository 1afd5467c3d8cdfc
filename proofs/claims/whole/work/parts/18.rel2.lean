/-! THE ORDER of the buyers -/
def zi (q : Prop) [Decidable q] : Int := if q then 1 else 0
theorem zi_rg (q : Prop) [Decidable q] : 0 ≤ zi q ∧ zi q ≤ 1 := by unfold zi; split <;> omega
theorem zi_t {q : Prop} [Decidable q] (h : q) : zi q = 1 := if_pos h
theorem zi_f {q : Prop} [Decidable q] (h : ¬ q) : zi q = 0 := if_neg h
theorem zi_le {q r : Prop} [Decidable q] [Decidable r] (h : q → r) : zi q ≤ zi r := by
  by_cases a : q
  · rw [zi_t a, zi_t (h a)]; exact Int.le_refl _
  · rw [zi_f a]; exact (zi_rg r).1
theorem zi_eq {q r : Prop} [Decidable q] [Decidable r] (h : q ↔ r) : zi q = zi r := by
  have a := zi_le h.mp
  have b := zi_le h.mpr
  omega
/-- a stands before b -/
abbrev bf (P : Int → Int) (a b : Int) : Prop := P b < P a ∨ (P a = P b ∧ a < b)
theorem bf_irr (P : Int → Int) (a : Int) : ¬ bf P a a := by unfold bf; omega
theorem bf_trans {P : Int → Int} {a b c : Int} (h : bf P a b) (k : bf P b c) : bf P a c := by unfold bf at *; omega
theorem bf_tri (P : Int → Int) (a b : Int) : bf P a b ∨ a = b ∨ bf P b a := by unfold bf; omega
def S6 (f : Int → Int) : Int := f 0 + f 1 + f 2 + f 3 + f 4 + f 5
theorem S6_le {f g : Int → Int} (h : ∀ i, 0 ≤ i → i ≤ 5 → f i ≤ g i) : S6 f ≤ S6 g := by
  have h0 := h 0 (by omega) (by omega); have h1 := h 1 (by omega) (by omega); have h2 := h 2 (by omega) (by omega); have h3 := h 3 (by omega) (by omega); have h4 := h 4 (by omega) (by omega); have h5 := h 5 (by omega) (by omega)
  unfold S6; omega
theorem S6_eq {f g : Int → Int} (h : ∀ i, 0 ≤ i → i ≤ 5 → f i = g i) : S6 f = S6 g := by
  have h0 := h 0 (by omega) (by omega); have h1 := h 1 (by omega) (by omega); have h2 := h 2 (by omega) (by omega); have h3 := h 3 (by omega) (by omega); have h4 := h 4 (by omega) (by omega); have h5 := h 5 (by omega) (by omega)
  unfold S6; omega
theorem S6_lt {f g : Int → Int} (c : Int) (hc : 0 ≤ c ∧ c ≤ 5) (h : ∀ i, 0 ≤ i → i ≤ 5 → f i ≤ g i) (hl : f c + 1 ≤ g c) : S6 f + 1 ≤ S6 g := by
  have h0 := h 0 (by omega) (by omega); have h1 := h 1 (by omega) (by omega); have h2 := h 2 (by omega) (by omega); have h3 := h 3 (by omega) (by omega); have h4 := h 4 (by omega) (by omega); have h5 := h 5 (by omega) (by omega)
  unfold S6
  rcases z05 hc with rfl | rfl | rfl | rfl | rfl | rfl <;> omega
theorem S6_one {f g : Int → Int} (c : Int) (hc : 0 ≤ c ∧ c ≤ 5) (h : ∀ i, 0 ≤ i → i ≤ 5 → i ≠ c → f i = g i) (hl : f c + 1 = g c) : S6 f + 1 = S6 g := by
  unfold S6
  rcases z05 hc with rfl | rfl | rfl | rfl | rfl | rfl
  · have h1 := h 1 (by omega) (by omega) (by omega); have h2 := h 2 (by omega) (by omega) (by omega); have h3 := h 3 (by omega) (by omega) (by omega); have h4 := h 4 (by omega) (by omega) (by omega); have h5 := h 5 (by omega) (by omega) (by omega); omega
  · have h1 := h 0 (by omega) (by omega) (by omega); have h2 := h 2 (by omega) (by omega) (by omega); have h3 := h 3 (by omega) (by omega) (by omega); have h4 := h 4 (by omega) (by omega) (by omega); have h5 := h 5 (by omega) (by omega) (by omega); omega
  · have h1 := h 0 (by omega) (by omega) (by omega); have h2 := h 1 (by omega) (by omega) (by omega); have h3 := h 3 (by omega) (by omega) (by omega); have h4 := h 4 (by omega) (by omega) (by omega); have h5 := h 5 (by omega) (by omega) (by omega); omega
  · have h1 := h 0 (by omega) (by omega) (by omega); have h2 := h 1 (by omega) (by omega) (by omega); have h3 := h 2 (by omega) (by omega) (by omega); have h4 := h 4 (by omega) (by omega) (by omega); have h5 := h 5 (by omega) (by omega) (by omega); omega
  · have h1 := h 0 (by omega) (by omega) (by omega); have h2 := h 1 (by omega) (by omega) (by omega); have h3 := h 2 (by omega) (by omega) (by omega); have h4 := h 3 (by omega) (by omega) (by omega); have h5 := h 5 (by omega) (by omega) (by omega); omega
  · have h1 := h 0 (by omega) (by omega) (by omega); have h2 := h 1 (by omega) (by omega) (by omega); have h3 := h 2 (by omega) (by omega) (by omega); have h4 := h 3 (by omega) (by omega) (by omega); have h5 := h 4 (by omega) (by omega) (by omega); omega
theorem S6_rg (f : Int → Int) (h : ∀ i, 0 ≤ f i ∧ f i ≤ 1) : 0 ≤ S6 f ∧ S6 f ≤ 6 := by
  have h0 := h 0; have h1 := h 1; have h2 := h 2; have h3 := h 3; have h4 := h 4; have h5 := h 5
  unfold S6; omega
theorem f_rank_eq (P : Int → Int) (h : Int) : f_rank P h = S6 (fun k => zi (bf P k h)) := by
  have s : ∀ o r, f_rankS P h o r = r + zi (bf P o h) := by
    intro o r
    by_cases q : bf P o h
    · rw [zi_t q]; exact if_pos q
    · rw [zi_f q]; exact (if_neg q).trans (by omega)
  have e : f_rank P h = f_rankS P h 5 (f_rankS P h 4 (f_rankS P h 3 (f_rankS P h 2 (f_rankS P h 1 (f_rankS P h 0 0))))) := rfl
  rw [e]
  simp only [s]
  unfold S6
  dsimp only
  omega
theorem m_turn_eq (x : GS) (h : Int) : m_turn x h = S6 (fun k => zi (m_buyer x k ≠ 0 ∧ bf (x.1 2) k h)) := by
  have s : ∀ o r, m_turnS x h o r = r + zi (m_buyer x o ≠ 0 ∧ bf (x.1 2) o h) := by
    intro o r
    by_cases q : m_buyer x o ≠ 0 ∧ bf (x.1 2) o h
    · rw [zi_t q]; exact if_pos q
    · rw [zi_f q]; exact if_neg q
  have e : m_turn x h = m_turnS x h 5 (m_turnS x h 4 (m_turnS x h 3 (m_turnS x h 2 (m_turnS x h 1 (m_turnS x h 0 0))))) := rfl
  rw [e]
  simp only [s]
  unfold S6
  dsimp only
  omega
theorem rank_lt {P : Int → Int} {a b : Int} (ha : 0 ≤ a ∧ a ≤ 5) (h : bf P a b) : f_rank P a + 1 ≤ f_rank P b := by
  rw [f_rank_eq, f_rank_eq]
  refine S6_lt a ha (fun i _ _ => zi_le (fun q => bf_trans q h)) ?_
  show zi (bf P a a) + 1 ≤ zi (bf P a b)
  rw [zi_f (bf_irr P a), zi_t h]
  omega
theorem rank_iff {P : Int → Int} {a b : Int} (ha : 0 ≤ a ∧ a ≤ 5) (hb : 0 ≤ b ∧ b ≤ 5) : bf P a b ↔ f_rank P a < f_rank P b := by
  constructor
  · intro h; have := rank_lt ha h; omega
  · intro h
    rcases bf_tri P a b with q | q | q
    · exact q
    · rw [q] at h; omega
    · have := rank_lt hb q; omega
theorem rank_inj {P : Int → Int} {a b : Int} (ha : 0 ≤ a ∧ a ≤ 5) (hb : 0 ≤ b ∧ b ≤ 5) (h : f_rank P a = f_rank P b) : a = b := by
  rcases bf_tri P a b with q | q | q
  · have := rank_lt ha q; omega
  · exact q
  · have := rank_lt hb q; omega
theorem rank_rg (P : Int → Int) {a : Int} (ha : 0 ≤ a ∧ a ≤ 5) : 0 ≤ f_rank P a ∧ f_rank P a ≤ 5 := by
  have h1 : f_rank P a + 1 ≤ S6 (fun _ => 1) := by
    rw [f_rank_eq]
    refine S6_lt a ha (fun i _ _ => (zi_rg _).2) ?_
    show zi (bf P a a) + 1 ≤ 1
    rw [zi_f (bf_irr P a)]
    omega
  have h2 : S6 (fun _ => 1) = 6 := rfl
  have h3 : 0 ≤ f_rank P a := by rw [f_rank_eq]; exact (S6_rg _ (fun i => zi_rg _)).1
  omega
/-- how many buyers stand at ranks below r -/
def TT (x : GS) (r : Int) : Int := S6 (fun k => zi (m_buyer x k ≠ 0 ∧ f_rank (x.1 2) k < r))
theorem TT_rg (x : GS) (r : Int) : 0 ≤ TT x r ∧ TT x r ≤ 6 := S6_rg _ (fun i => zi_rg _)
theorem TT_0 (x : GS) : TT x 0 = 0 := by
  have : TT x 0 = S6 (fun _ => 0) := S6_eq (fun i h0 h1 => zi_f (fun q => by have := rank_rg (x.1 2) ⟨h0, h1⟩; omega))
  rw [this]; rfl
theorem turn_TT {x : GS} {h : Int} (hh : 0 ≤ h ∧ h ≤ 5) : m_turn x h = TT x (f_rank (x.1 2) h) := by
  rw [m_turn_eq]
  exact S6_eq (fun i h0 h1 => zi_eq ⟨fun q => ⟨q.1, (rank_iff ⟨h0, h1⟩ hh).mp q.2⟩, fun q => ⟨q.1, (rank_iff ⟨h0, h1⟩ hh).mpr q.2⟩⟩)
theorem TT_none {x : GS} {r : Int} (h : ∀ k, 0 ≤ k → k ≤ 5 → m_buyer x k ≠ 0 → f_rank (x.1 2) k ≠ r) : TT x (r + 1) = TT x r :=
  S6_eq (fun i h0 h1 => zi_eq ⟨fun q => ⟨q.1, by have := h i h0 h1 q.1; omega⟩, fun q => ⟨q.1, by omega⟩⟩)
theorem TT_one {x : GS} {c : Int} (hc : 0 ≤ c ∧ c ≤ 5) (hb : m_buyer x c ≠ 0) : TT x (f_rank (x.1 2) c) + 1 = TT x (f_rank (x.1 2) c + 1) := by
  refine S6_one c hc (fun i h0 h1 hi => zi_eq ⟨fun q => ⟨q.1, by omega⟩, fun q => ⟨q.1, ?_⟩⟩) ?_
  · have : f_rank (x.1 2) i ≠ f_rank (x.1 2) c := fun e => hi (rank_inj ⟨h0, h1⟩ hc e)
    omega
  · show zi (m_buyer x c ≠ 0 ∧ f_rank (x.1 2) c < f_rank (x.1 2) c) + 1 = zi (m_buyer x c ≠ 0 ∧ f_rank (x.1 2) c < f_rank (x.1 2) c + 1)
    rw [zi_f (fun q => by omega), zi_t ⟨hb, by omega⟩]
    omega
theorem TT_mono {x : GS} {r q : Int} (h : r ≤ q) : TT x r ≤ TT x q := S6_le (fun i _ _ => zi_le (fun z => ⟨z.1, by omega⟩))
theorem turn_congr {x y : GS} (h1 : y.1 1 = x.1 1) (h2 : y.1 2 = x.1 2) (h7 : y.1 7 = x.1 7) (h : Int) : m_turn y h = m_turn x h := by
  rw [m_turn_eq, m_turn_eq, h2]
  exact S6_eq (fun i _ _ => zi_eq (by rw [buyer_congr h1 h7]))
/-! all buyers, one behind the other -/
theorem match_eq {v0 x0 : GS} (h : RA v0 x0) (hn : ∀ i, 0 ≤ i → i ≤ 5 → m_buyer x0 i ≠ 0 → v0.1 7 i < 0) : RA (f_match v0) (m_match x0) := by
  have key : ∀ r : Nat, r ≤ 6 → RA (zfor r f_matchO v0) (zfor (TT x0 (r : Int)).toNat m_matchO x0) ∧ (∀ i, 0 ≤ i → i ≤ 5 → m_buyer x0 i ≠ 0 → (r : Int) ≤ f_rank (x0.1 2) i → (zfor r f_matchO v0).1 7 i < 0) ∧ (zfor (TT x0 (r : Int)).toNat m_matchO x0).1 1 = x0.1 1 ∧ (zfor (TT x0 (r : Int)).toNat m_matchO x0).1 2 = x0.1 2 ∧ (zfor (TT x0 (r : Int)).toNat m_matchO x0).1 7 = x0.1 7 := by
    intro r
    induction r with
    | zero =>
      intro _
      have e : (TT x0 ((0 : Nat) : Int)).toNat = 0 := by
        have : TT x0 ((0 : Nat) : Int) = 0 := TT_0 x0
        rw [this]; rfl
      rw [e]
      exact ⟨h, fun i h0 h1 h2 _ => hn i h0 h1 h2, rfl, rfl, rfl⟩
    | succ r ih =>
      intro hr
      obtain ⟨i1, i2, i3, i4, i5⟩ := ih (by omega)
      have er : ((r + 1 : Nat) : Int) = (r : Int) + 1 := by omega
      rw [er]
      generalize hv : zfor r f_matchO v0 = v at i1 i2
      generalize hx : zfor (TT x0 (r : Int)).toNat m_matchO x0 = x at i1 i3 i4 i5
      have ev : zfor (r + 1) f_matchO v0 = zfor 6 (f_matchI (r : Int)) v := by
        show f_matchO (r : Int) (zfor r f_matchO v0) = _
        rw [hv]; rfl
      rw [ev]
      have eP : v.1 3 = x0.1 2 := i1.1.1.trans i4
      have eB : ∀ i, m_buyer x i = m_buyer x0 i := buyer_congr i3 i5
      by_cases q : ∃ c, 0 ≤ c ∧ c ≤ 5 ∧ m_buyer x0 c ≠ 0 ∧ f_rank (x0.1 2) c = (r : Int)
      · obtain ⟨c, c0, c5, cb, cr⟩ := q
        have hT := TT_one ⟨c0, c5⟩ cb
        rw [cr] at hT
        have hTr := TT_rg x0 (r : Int)
        have hl := i2 c c0 c5 cb (by omega)
        have hNZ := NZ_rg (x.1 14)
        obtain ⟨s1, s2, s3, s4, s5, s6⟩ := serve_takes ⟨c0, c5⟩ 6 8 v x i1 (by rw [eB]; exact cb) (by omega) (by omega)
        have eact : f_matchI (r : Int) c v = f_serve c 6 v := by
          simp only [f_matchI]; rw [if_pos ⟨hl, by rw [eP]; exact cr⟩]
        have e1 : zfor 6 (f_matchI (r : Int)) v = f_serve c 6 v := by
          rw [zfor_one (f_matchI (r : Int)) v 6 c c0 (by omega) (fun i h0 h1 hi => ?_) (fun i h0 h1 hi => ?_), eact]
          · simp only [f_matchI]
            rw [if_neg (fun z => hi (rank_inj ⟨h0, by omega⟩ ⟨c0, c5⟩ (z.2.trans (by rw [eP]; exact cr.symm))))]
          · rw [eact]
            simp only [f_matchI]
            rw [if_neg (fun z => hi (rank_inj ⟨h0, by omega⟩ ⟨c0, c5⟩ (z.2.trans (by rw [s3, eP]; exact cr.symm))))]
        have mact : m_matchI (TT x0 (r : Int)) c x = m_takes x c := by
          simp only [m_matchI]
          rw [if_pos ⟨by rw [eB]; exact cb, by rw [turn_congr i3 i4 i5, turn_TT ⟨c0, c5⟩, cr]⟩]
        have uniq : ∀ i, 0 ≤ i → i ≤ 5 → i ≠ c → ¬ (m_buyer x0 i ≠ 0 ∧ m_turn x0 i = TT x0 (r : Int)) := by
          intro i h0 h1 hi z
          have t1 := turn_TT (x := x0) ⟨h0, h1⟩
          have t2 := TT_one ⟨h0, h1⟩ z.1
          by_cases w : f_rank (x0.1 2) i < (r : Int)
          · have := TT_mono (x := x0) (show f_rank (x0.1 2) i + 1 ≤ (r : Int) by omega)
            omega
          · have : f_rank (x0.1 2) i ≠ (r : Int) := fun e => hi (rank_inj ⟨h0, h1⟩ ⟨c0, c5⟩ (e.trans cr.symm))
            have := TT_mono (x := x0) (show (r : Int) + 1 ≤ f_rank (x0.1 2) i by omega)
            omega
        have e2 : zfor (TT x0 ((r : Int) + 1)).toNat m_matchO x0 = m_takes x c := by
          rw [show (TT x0 ((r : Int) + 1)).toNat = (TT x0 (r : Int)).toNat + 1 by omega]
          show m_matchO (((TT x0 (r : Int)).toNat : Nat) : Int) (zfor (TT x0 (r : Int)).toNat m_matchO x0) = _
          rw [hx, Int.toNat_of_nonneg hTr.1]
          show zfor 6 (m_matchI (TT x0 (r : Int))) x = _
          rw [zfor_one (m_matchI (TT x0 (r : Int))) x 6 c c0 (by omega) (fun i h0 h1 hi => ?_) (fun i h0 h1 hi => ?_), mact]
          · simp only [m_matchI]
            rw [if_neg (fun z => uniq i h0 (by omega) hi ⟨by rw [← eB]; exact z.1, by rw [← turn_congr i3 i4 i5]; exact z.2⟩)]
          · rw [mact]
            have k1 : (m_takes x c).1 1 = x0.1 1 := s4.trans i3
            have k7 : (m_takes x c).1 7 = x0.1 7 := s5.trans i5
            have k2 : (m_takes x c).1 2 = x0.1 2 := s6.trans i4
            simp only [m_matchI]
            rw [if_neg (fun z => uniq i h0 (by omega) hi ⟨by rw [← buyer_congr k1 k7]; exact z.1, by rw [← turn_congr k1 k2 k7]; exact z.2⟩)]
        rw [e1, e2]
        refine ⟨s1, fun i h0 h1 h2 h3 => ?_, s4.trans i3, s6.trans i4, s5.trans i5⟩
        have hic : i ≠ c := fun e => by rw [e, cr] at h3; omega
        rw [s2 i h0 h1 hic (by rw [eB]; exact h2)]
        exact i2 i h0 h1 h2 (by omega)
      · have hT : TT x0 ((r : Int) + 1) = TT x0 (r : Int) := TT_none (fun k k0 k5 kb kr => q ⟨k, k0, k5, kb, kr⟩)
        have e1 : zfor 6 (f_matchI (r : Int)) v = v := by
          refine zfor_none _ v 6 (fun i h0 h1 => ?_)
          simp only [f_matchI]
          rw [if_neg]
          intro z
          have hl := i1.2.2.2.1 i h0 (by omega)
          by_cases w : m_buyer x i = 0
          · have := hl.2.1 w; omega
          · exact q ⟨i, h0, by omega, by rw [← eB]; exact w, by rw [← eP]; exact z.2⟩
        rw [e1, hT, hx]
        exact ⟨i1, fun i h0 h1 h2 h3 => i2 i h0 h1 h2 (by omega), i3, i4, i5⟩
  obtain ⟨k1, -, k3, k4, k5⟩ := key 6 (by omega)
  have hT := TT_rg x0 ((6 : Nat) : Int)
  have hlast : ∀ n : Nat, (TT x0 ((6 : Nat) : Int)).toNat + n ≤ 6 → zfor ((TT x0 ((6 : Nat) : Int)).toNat + n) m_matchO x0 = zfor (TT x0 ((6 : Nat) : Int)).toNat m_matchO x0 := by
    intro n
    induction n with
    | zero => intro _; rfl
    | succ n ih =>
      intro hn'
      have e := ih (by omega)
      show m_matchO (((TT x0 ((6 : Nat) : Int)).toNat + n : Nat) : Int) (zfor ((TT x0 ((6 : Nat) : Int)).toNat + n) m_matchO x0) = _
      rw [e]
      refine zfor_none _ _ 6 (fun i h0 h1 => ?_)
      simp only [m_matchI]
      rw [if_neg]
      intro z
      have z1 : m_buyer x0 i ≠ 0 := by rw [← buyer_congr k3 k5]; exact z.1
      have z2 : m_turn x0 i = (((TT x0 ((6 : Nat) : Int)).toNat + n : Nat) : Int) := by rw [← turn_congr k3 k4 k5]; exact z.2
      have t1 := turn_TT (x := x0) (h := i) ⟨h0, by omega⟩
      have t2 := TT_one (x := x0) (c := i) ⟨h0, by omega⟩ z1
      have t3 := rank_rg (x0.1 2) (a := i) ⟨h0, by omega⟩
      have t4 := TT_mono (x := x0) (show f_rank (x0.1 2) i + 1 ≤ ((6 : Nat) : Int) by omega)
      omega
  have e := hlast (6 - (TT x0 ((6 : Nat) : Int)).toNat) (by omega)
  rw [show (TT x0 ((6 : Nat) : Int)).toNat + (6 - (TT x0 ((6 : Nat) : Int)).toNat) = 6 by omega] at e
  show RA (zfor 6 f_matchO v0) (zfor 6 m_matchO x0)
  rw [e]
  exact k1
