/-! invariants of the class's states -/
theorem z05 {i : Int} (h : 0 ≤ i ∧ i ≤ 5) : i = 0 ∨ i = 1 ∨ i = 2 ∨ i = 3 ∨ i = 4 ∨ i = 5 := by omega
def zc (x : Int) : Int := if x = 0 then 0 else 1
theorem zc_rg (x : Int) : 0 ≤ zc x ∧ zc x ≤ 1 := by unfold zc; split <;> omega
theorem zc_n {x : Int} (h : x ≠ 0) : zc x = 1 := if_neg h
def NZ (f : Int → Int) : Int := zc (f 0) + zc (f 1) + zc (f 2) + zc (f 3) + zc (f 4) + zc (f 5)
theorem NZ_rg (f : Int → Int) : 0 ≤ NZ f ∧ NZ f ≤ 6 := by
  have h0 := zc_rg (f 0); have h1 := zc_rg (f 1); have h2 := zc_rg (f 2); have h3 := zc_rg (f 3); have h4 := zc_rg (f 4); have h5 := zc_rg (f 5)
  unfold NZ; omega
theorem NZ_lt {f g : Int → Int} {s b : Int} (hs : 0 ≤ s ∧ s ≤ 5) (hb : 0 ≤ b ∧ b ≤ 5) (hsb : s ≠ b) (h : ∀ i, i ≠ s → i ≠ b → g i = f i) (h1 : f s ≠ 0) (h2 : f b ≠ 0) (h3 : g s = 0 ∨ g b = 0) : NZ g + 1 ≤ NZ f := by
  have e1 := zc_n h1
  have e2 := zc_n h2
  have r1 := zc_rg (g s)
  have r2 := zc_rg (g b)
  have e3 : zc (g s) + zc (g b) ≤ 1 := by
    rcases h3 with h3 | h3 <;> rw [h3] <;> simp only [zc, if_true] <;> (first | omega | (split <;> omega))
  have k : ∀ i, i ≠ s → i ≠ b → zc (g i) = zc (f i) := fun i a c => by rw [h i a c]
  unfold NZ
  rcases z05 hs with rfl | rfl | rfl | rfl | rfl | rfl <;> rcases z05 hb with rfl | rfl | rfl | rfl | rfl | rfl <;>
    first
    | exact absurd rfl hsb
    | (have k0 := k 0; have k1 := k 1; have k2 := k 2; have k3 := k 3; have k4 := k 4; have k5 := k 5
       simp only [ne_eq, Int.reduceEq, not_false_eq_true, not_true_eq_false, forall_const, false_implies, true_implies] at k0 k1 k2 k3 k4 k5
       omega)
theorem f_best_spec (L P : Int → Int) (b : Int) : f_best L P b = -1 ∨ (0 ≤ f_best L P b ∧ f_best L P b ≤ 5 ∧ 0 < L (f_best L P b) ∧ P (f_best L P b) ≤ P b) := by
  have := zfor_inv (f_bestS L P b) (-1) (fun i a => a = -1 ∨ (0 ≤ a ∧ a < i ∧ 0 < L a ∧ P a ≤ P b)) 6 (Or.inl rfl) (fun i a h0 h1 h => by
    simp only [f_bestS]
    split
    · next hc => exact Or.inr ⟨h0, by omega, hc.1, hc.2.1⟩
    · rcases h with h | h
      · exact Or.inl h
      · exact Or.inr ⟨h.1, by omega, h.2.2⟩) 6 (by omega)
  rcases this with h | ⟨h1, h2, h3, h4⟩
  · exact Or.inl h
  · exact Or.inr ⟨h1, by have : f_best L P b < ((6 : Nat) : Int) := h2
                         omega, h3, h4⟩
/-- what no clearing changes but at its end -/
def Base (u : GS) : Prop := (∀ i, 0 ≤ u.1 0 i ∧ u.1 0 i ≤ 1) ∧ (∀ i, -50 ≤ u.1 1 i ∧ u.1 1 i ≤ 50) ∧ (∀ i, -50 ≤ u.1 2 i ∧ u.1 2 i ≤ 50) ∧ (∀ i, 0 ≤ u.1 3 i ∧ u.1 3 i ≤ 100) ∧ (∀ i, 0 ≤ u.1 8 i ∧ u.1 8 i ≤ 300) ∧ (∀ i, 0 ≤ u.1 5 i ∧ u.1 5 i ≤ u.1 4 i) ∧ (∀ i, u.1 4 i ≤ 120) ∧ u.1 4 0 + u.1 4 1 + u.1 4 2 + u.1 4 3 + u.1 4 4 + u.1 4 5 ≤ 120
/-- the book -/
def BI (u : GS) : Prop := 0 ≤ u.2 5 ∧ u.2 5 ≤ 6 ∧ ∀ t, 0 ≤ u.1 13 t ∧ 0 ≤ u.1 14 t ∧ u.1 13 t + u.1 14 t ≤ 50 ∧ 0 ≤ u.1 11 t ∧ u.1 11 t ≤ 5 ∧ 0 ≤ u.1 12 t ∧ u.1 12 t ≤ 5
theorem Bd_of {u : GS} (h1 : Base u) (h2 : BI u) (h3 : ∀ i, -1000 ≤ u.1 7 i ∧ u.1 7 i ≤ 1000) : Bd u := by
  obtain ⟨a0, a1, a2, a3, a8, a5, a4, -⟩ := h1
  obtain ⟨-, -, b⟩ := h2
  intro j hz i
  have e0 := a0 i; have e1 := a1 i; have e2 := a2 i; have e3 := a3 i; have e8 := a8 i; have e5 := a5 i; have e4 := a4 i; have e7 := h3 i
  have eb := b i
  match j, hz with
  | 0, _ => omega
  | 1, _ => omega
  | 2, _ => omega
  | 3, _ => omega
  | 4, _ => omega
  | 5, _ => omega
  | 6, hz => exact absurd hz (by decide)
  | 7, _ => omega
  | 8, _ => omega
  | 9, hz => exact absurd hz (by decide)
  | 10, hz => exact absurd hz (by decide)
  | 11, _ => omega
  | 12, _ => omega
  | 13, _ => omega
  | 14, _ => omega
  | 15, hz => exact absurd hz (by decide)
  | k + 16, hz => exact absurd hz (by simp [zok])
theorem Base_congr {u v : GS} (h : ∀ j : Nat, j ≤ 8 → j ≠ 6 → j ≠ 7 → v.1 j = u.1 j) (hb : Base u) : Base v := by
  unfold Base
  rw [h 0 (by omega) (by omega) (by omega), h 1 (by omega) (by omega) (by omega), h 2 (by omega) (by omega) (by omega), h 3 (by omega) (by omega) (by omega), h 4 (by omega) (by omega) (by omega), h 5 (by omega) (by omega) (by omega), h 8 (by omega) (by omega) (by omega)]
  exact hb
theorem f_add_1 (u : GS) (s b x p : Int) (j : Nat) (h : j < 11) : (f_add u s b x p).1 j = u.1 j := by
  unfold f_add
  split
  · rfl
  · rw [gV_1, gA_1n _ _ _ (by omega), gA_1n _ _ _ (by omega), gA_1n _ _ _ (by omega), gA_1n _ _ _ (by omega), gA_1n _ _ _ (by omega)]
theorem f_add_2 (u : GS) (s b x p : Int) (j : Nat) (h : j ≠ 5) : (f_add u s b x p).2 j = u.2 j := by
  unfold f_add
  split
  · rfl
  · rw [gV_2n _ _ h]; rfl
theorem f_trade_1 (u : GS) (s b : Int) (j : Nat) (h : j < 11) (h7 : j ≠ 7) : (f_trade u s b).1 j = u.1 j := by
  unfold f_trade
  rw [f_add_1 _ _ _ _ _ _ h]
  unfold f_tradeL
  rw [gA_1n _ _ _ h7, gA_1n _ _ _ h7]
theorem f_trade_2 (u : GS) (s b : Int) (j : Nat) (h : j ≠ 5) : (f_trade u s b).2 j = u.2 j := by
  unfold f_trade
  rw [f_add_2 _ _ _ _ _ _ h]; rfl
theorem f_trade_7 (u : GS) (s b : Int) : (f_trade u s b).1 7 = updZ (updZ (u.1 7) s (u.1 7 s - zmin (u.1 7 s) (-(u.1 7 b)))) b (updZ (u.1 7) s (u.1 7 s - zmin (u.1 7 s) (-(u.1 7 b))) b + zmin (u.1 7 s) (-(u.1 7 b))) := by
  unfold f_trade
  rw [f_add_1 _ _ _ _ _ _ (by decide)]
  rfl
/-- while buyers are served: each trade leaves a zero more -/
def GI1 (u : GS) : Prop := Base u ∧ BI u ∧ (∀ i, -50 ≤ u.1 7 i ∧ u.1 7 i ≤ 50) ∧ u.2 5 + NZ (u.1 7) ≤ 6
theorem GI1.bd {u : GS} (h : GI1 u) : Bd u := Bd_of h.1 h.2.1 (fun i => by have := h.2.2.1 i; omega)
theorem GI1_trade {u : GS} {s b : Int} (h : GI1 u) (hs : 0 ≤ s ∧ s ≤ 5) (hb : 0 ≤ b ∧ b ≤ 5) (hL : 0 < u.1 7 s) (hLb : u.1 7 b < 0) : GI1 (f_trade u s b) := by
  obtain ⟨h1, ⟨c0, c6, hB⟩, h3, h4⟩ := h
  have hsb : s ≠ b := fun q => by rw [q] at hL; omega
  have hx := zmin_sp (u.1 7 s) (-(u.1 7 b))
  have h7 := f_trade_7 u s b
  have hN : NZ ((f_trade u s b).1 7) + 1 ≤ NZ (u.1 7) := by
    rw [h7]
    refine NZ_lt hs hb hsb (fun i a c => by rw [updZ_n _ _ c, updZ_n _ _ a]) (by omega) (by omega) ?_
    rw [updZ_n _ _ hsb, updZ_s, updZ_s, updZ_n _ _ (Ne.symm hsb)]
    omega
  have hR := NZ_rg ((f_trade u s b).1 7)
  have hc : ¬ 6 ≤ (f_tradeL u s b).2 5 := by
    show ¬ 6 ≤ u.2 5
    omega
  refine ⟨Base_congr (fun j a c d => f_trade_1 u s b j (by omega) d) h1, ?_, fun i => ?_, ?_⟩
  · have e : f_trade u s b = gV (gA (gA (gA (gA (gA (f_tradeL u s b) 11 (u.2 5) s) 12 (u.2 5) b) 13 (u.2 5) (zmin (u.1 7 s) (-(u.1 7 b)))) 14 (u.2 5) 0) 15 (u.2 5) ((u.1 3 s + u.1 3 b) / 2)) 5 (u.2 5 + 1) := by
      unfold f_trade f_add
      rw [if_neg hc]; rfl
    rw [e]
    refine ⟨?_, ?_, fun t => ?_⟩
    · show 0 ≤ u.2 5 + 1; omega
    · show u.2 5 + 1 ≤ 6; omega
    · have ht := hB t
      have hls := h3 s
      show 0 ≤ updZ (u.1 13) (u.2 5) (zmin (u.1 7 s) (-(u.1 7 b))) t ∧ 0 ≤ updZ (u.1 14) (u.2 5) 0 t ∧ updZ (u.1 13) (u.2 5) (zmin (u.1 7 s) (-(u.1 7 b))) t + updZ (u.1 14) (u.2 5) 0 t ≤ 50 ∧ 0 ≤ updZ (u.1 11) (u.2 5) s t ∧ updZ (u.1 11) (u.2 5) s t ≤ 5 ∧ 0 ≤ updZ (u.1 12) (u.2 5) b t ∧ updZ (u.1 12) (u.2 5) b t ≤ 5
      unfold updZ
      split <;> omega
  · rw [h7]
    have hi := h3 i
    have hls := h3 s
    have hlb := h3 b
    unfold updZ
    split
    · rw [if_neg (Ne.symm hsb)]; omega
    · split <;> omega
  · have e : (f_trade u s b).2 5 = u.2 5 + 1 := by
      unfold f_trade f_add
      rw [if_neg hc]; rfl
    rw [e]; omega
theorem GI1_serve {b : Int} (hb : 0 ≤ b ∧ b ≤ 5) : ∀ (n : Nat) (u : GS), GI1 u → GI1 (f_serve b n u) := by
  intro n
  induction n with
  | zero => intro u h; exact h
  | succ n ih =>
    intro u h
    simp only [f_serve]
    split
    · next h1 =>
      split
      · exact h
      · next h2 =>
        rcases f_best_spec (u.1 7) (u.1 3) b with q | ⟨q1, q2, q3, q4⟩
        · omega
        · exact ih _ (GI1_trade h ⟨q1, q2⟩ hb q3 h1)
    · exact h
theorem GI1_matchI {r h : Int} (hh : 0 ≤ h ∧ h ≤ 5) {u : GS} (hu : GI1 u) : GI1 (f_matchI r h u) := by
  simp only [f_matchI]
  split
  · exact GI1_serve hh 6 u hu
  · exact hu
theorem GI1_matchIk {r : Int} {u : GS} (hu : GI1 u) (k : Nat) (hk : k ≤ 6) : GI1 (zfor k (f_matchI r) u) := zfor_inv (f_matchI r) u (fun _ a => GI1 a) 6 hu (fun i a h0 h1 h => GI1_matchI ⟨h0, by omega⟩ h) k hk
theorem GI1_matchOk {u : GS} (hu : GI1 u) (k : Nat) (hk : k ≤ 6) : GI1 (zfor k f_matchO u) := zfor_inv f_matchO u (fun _ a => GI1 a) 6 hu (fun i a h0 h1 h => GI1_matchIk h 6 (by omega)) k hk
theorem GI1_match {u : GS} (hu : GI1 u) : GI1 (f_match u) := GI1_matchOk hu 6 (by omega)
