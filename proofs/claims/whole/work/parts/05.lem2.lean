/-! invariants of the class's states -/
theorem z05 {i : Int} (h : 0 ≤ i ∧ i ≤ 5) : i = 0 ∨ i = 1 ∨ i = 2 ∨ i = 3 ∨ i = 4 ∨ i = 5 := by omega
def zc (x : Int) : Int := if x = 0 then 0 else 1
theorem zc_rg (x : Int) : 0 ≤ zc x ∧ zc x ≤ 1 := by unfold zc; split <;> omega
theorem zc_n {x : Int} (h : x ≠ 0) : zc x = 1 := if_neg h
def NZ (f : Int → Int) : Int := zc (f 0) + zc (f 1) + zc (f 2) + zc (f 3) + zc (f 4) + zc (f 5)
theorem NZ_rg (f : Int → Int) : 0 ≤ NZ f ∧ NZ f ≤ 6 := by
  have h0 := zc_rg (f 0); have h1 := zc_rg (f 1); have h2 := zc_rg (f 2); have h3 := zc_rg (f 3); have h4 := zc_rg (f 4); have h5 := zc_rg (f 5)
  unfold NZ; omega
theorem NZ_lt {f g : Int → Int} {s b : Int} (hs : 0 ≤ s ∧ s ≤ 5) (hb : 0 ≤ b ∧ b ≤ 5) (hsb : s ≠ b) (h : ∀ i, i ≠ s → i ≠ b → g i = f i) (h1 : f s ≠ 0) (h2 : f b ≠ 0) (h3 : g s = 0 ∨ g b = 0) : NZ g + 1 ≤ NZ f := by
  have e1 := zc_n h1
  have e2 := zc_n h2
  have r1 := zc_rg (g s)
  have r2 := zc_rg (g b)
  have e3 : zc (g s) + zc (g b) ≤ 1 := by
    rcases h3 with h3 | h3 <;> rw [h3] <;> simp only [zc, if_true] <;> (first | omega | (split <;> omega))
  have k : ∀ i, i ≠ s → i ≠ b → zc (g i) = zc (f i) := fun i a c => by rw [h i a c]
  unfold NZ
  rcases z05 hs with rfl | rfl | rfl | rfl | rfl | rfl <;> rcases z05 hb with rfl | rfl | rfl | rfl | rfl | rfl <;>
    first
    | exact absurd rfl hsb
    | (have k0 := k 0; have k1 := k 1; have k2 := k 2; have k3 := k 3; have k4 := k 4; have k5 := k 5
       simp only [ne_eq, Int.reduceEq, not_false_eq_true, not_true_eq_false, forall_const, false_implies, true_implies] at k0 k1 k2 k3 k4 k5
       omega)
theorem f_best_spec (L P : Int → Int) (b : Int) : f_best L P b = -1 ∨ (0 ≤ f_best L P b ∧ f_best L P b ≤ 5 ∧ 0 < L (f_best L P b) ∧ P (f_best L P b) ≤ P b) := by
  have := zfor_inv (f_bestS L P b) (-1) (fun i a => a = -1 ∨ (0 ≤ a ∧ a < i ∧ 0 < L a ∧ P a ≤ P b)) 6 (Or.inl rfl) (fun i a h0 h1 h => by
    simp only [f_bestS]
    split
    · next hc => exact Or.inr ⟨h0, by omega, hc.1, hc.2.1⟩
    · rcases h with h | h
      · exact Or.inl h
      · exact Or.inr ⟨h.1, by omega, h.2.2⟩) 6 (by omega)
  rcases this with h | ⟨h1, h2, h3, h4⟩
  · exact Or.inl h
  · exact Or.inr ⟨h1, by have : f_best L P b < ((6 : Nat) : Int) := h2
                         omega, h3, h4⟩
/-- what no clearing changes but at its end -/
def Base (u : GS) : Prop := (∀ i, 0 ≤ u.1 0 i ∧ u.1 0 i ≤ 1) ∧ (∀ i, -50 ≤ u.1 1 i ∧ u.1 1 i ≤ 50) ∧ (∀ i, -50 ≤ u.1 2 i ∧ u.1 2 i ≤ 50) ∧ (∀ i, 0 ≤ u.1 3 i ∧ u.1 3 i ≤ 100) ∧ (∀ i, 0 ≤ u.1 8 i ∧ u.1 8 i ≤ 300) ∧ (∀ i, 0 ≤ u.1 5 i ∧ u.1 5 i ≤ u.1 4 i) ∧ (∀ i, u.1 4 i ≤ 120) ∧ u.1 4 0 + u.1 4 1 + u.1 4 2 + u.1 4 3 + u.1 4 4 + u.1 4 5 ≤ 120
/-- the book -/
def BI (u : GS) : Prop := 0 ≤ u.2 5 ∧ u.2 5 ≤ 6 ∧ ∀ t, 0 ≤ u.1 13 t ∧ 0 ≤ u.1 14 t ∧ u.1 13 t + u.1 14 t ≤ 50 ∧ 0 ≤ u.1 11 t ∧ u.1 11 t ≤ 5 ∧ 0 ≤ u.1 12 t ∧ u.1 12 t ≤ 5
theorem Bd_of {u : GS} (h1 : Base u) (h2 : BI u) (h3 : ∀ i, -1000 ≤ u.1 7 i ∧ u.1 7 i ≤ 1000) : Bd u := by
  obtain ⟨a0, a1, a2, a3, a8, a5, a4, -⟩ := h1
  obtain ⟨-, -, b⟩ := h2
  intro j hz i
  have e0 := a0 i; have e1 := a1 i; have e2 := a2 i; have e3 := a3 i; have e8 := a8 i; have e5 := a5 i; have e4 := a4 i; have e7 := h3 i
  have eb := b i
  match j, hz with
  | 0, _ => omega
  | 1, _ => omega
  | 2, _ => omega
  | 3, _ => omega
  | 4, _ => omega
  | 5, _ => omega
  | 6, hz => exact absurd hz (by decide)
  | 7, _ => omega
  | 8, _ => omega
  | 9, hz => exact absurd hz (by decide)
  | 10, hz => exact absurd hz (by decide)
  | 11, _ => omega
  | 12, _ => omega
  | 13, _ => omega
  | 14, _ => omega
  | 15, hz => exact absurd hz (by decide)
  | k + 16, hz => exact absurd hz (by simp [zok])
theorem Base_congr {u v : GS} (h : ∀ j : Nat, j ≤ 8 → j ≠ 6 → j ≠ 7 → v.1 j = u.1 j) (hb : Base u) : Base v := by
  unfold Base
  rw [h 0 (by omega) (by omega) (by omega), h 1 (by omega) (by omega) (by omega), h 2 (by omega) (by omega) (by omega), h 3 (by omega) (by omega) (by omega), h 4 (by omega) (by omega) (by omega), h 5 (by omega) (by omega) (by omega), h 8 (by omega) (by omega) (by omega)]
  exact hb
theorem f_add_1 (u : GS) (s b x p : Int) (j : Nat) (h : j < 11) : (f_add u s b x p).1 j = u.1 j := by
  unfold f_add
  split
  · rfl
  · rw [gV_1, gA_1n _ _ _ (by omega), gA_1n _ _ _ (by omega), gA_1n _ _ _ (by omega), gA_1n _ _ _ (by omega), gA_1n _ _ _ (by omega)]
theorem f_add_2 (u : GS) (s b x p : Int) (j : Nat) (h : j ≠ 5) : (f_add u s b x p).2 j = u.2 j := by
  unfold f_add
  split
  · rfl
  · rw [gV_2n _ _ h]; rfl
theorem f_trade_1 (u : GS) (s b : Int) (j : Nat) (h : j < 11) (h7 : j ≠ 7) : (f_trade u s b).1 j = u.1 j := by
  unfold f_trade
  rw [f_add_1 _ _ _ _ _ _ h]
  unfold f_tradeL
  rw [gA_1n _ _ _ h7, gA_1n _ _ _ h7]
theorem f_trade_2 (u : GS) (s b : Int) (j : Nat) (h : j ≠ 5) : (f_trade u s b).2 j = u.2 j := by
  unfold f_trade
  rw [f_add_2 _ _ _ _ _ _ h]; rfl
theorem f_trade_7 (u : GS) (s b : Int) : (f_trade u s b).1 7 = updZ (updZ (u.1 7) s (u.1 7 s - zmin (u.1 7 s) (-(u.1 7 b)))) b (updZ (u.1 7) s (u.1 7 s - zmin (u.1 7 s) (-(u.1 7 b))) b + zmin (u.1 7 s) (-(u.1 7 b))) := by
  unfold f_trade
  rw [f_add_1 _ _ _ _ _ _ (by decide)]
  rfl
/-- while buyers are served: each trade leaves a zero more -/
def GI1 (u : GS) : Prop := Base u ∧ BI u ∧ (∀ i, -50 ≤ u.1 7 i ∧ u.1 7 i ≤ 50) ∧ u.2 5 + NZ (u.1 7) ≤ 6
theorem GI1.bd {u : GS} (h : GI1 u) : Bd u := Bd_of h.1 h.2.1 (fun i => by have := h.2.2.1 i; omega)
theorem GI1_trade {u : GS} {s b : Int} (h : GI1 u) (hs : 0 ≤ s ∧ s ≤ 5) (hb : 0 ≤ b ∧ b ≤ 5) (hL : 0 < u.1 7 s) (hLb : u.1 7 b < 0) : GI1 (f_trade u s b) := by
  obtain ⟨h1, ⟨c0, c6, hB⟩, h3, h4⟩ := h
  have hsb : s ≠ b := fun q => by rw [q] at hL; omega
  have hx := zmin_sp (u.1 7 s) (-(u.1 7 b))
  have h7 := f_trade_7 u s b
  have hN : NZ ((f_trade u s b).1 7) + 1 ≤ NZ (u.1 7) := by
    rw [h7]
    refine NZ_lt hs hb hsb (fun i a c => by rw [updZ_n _ _ c, updZ_n _ _ a]) (by omega) (by omega) ?_
    rw [updZ_n _ _ hsb, updZ_s, updZ_s, updZ_n _ _ (Ne.symm hsb)]
    omega
  have hR := NZ_rg ((f_trade u s b).1 7)
  have hc : ¬ 6 ≤ (f_tradeL u s b).2 5 := by
    show ¬ 6 ≤ u.2 5
    omega
  refine ⟨Base_congr (fun j a c d => f_trade_1 u s b j (by omega) d) h1, ?_, fun i => ?_, ?_⟩
  · have e : f_trade u s b = gV (gA (gA (gA (gA (gA (f_tradeL u s b) 11 (u.2 5) s) 12 (u.2 5) b) 13 (u.2 5) (zmin (u.1 7 s) (-(u.1 7 b)))) 14 (u.2 5) 0) 15 (u.2 5) ((u.1 3 s + u.1 3 b) / 2)) 5 (u.2 5 + 1) := by
      unfold f_trade f_add
      rw [if_neg hc]; rfl
    rw [e]
    refine ⟨?_, ?_, fun t => ?_⟩
    · show 0 ≤ u.2 5 + 1; omega
    · show u.2 5 + 1 ≤ 6; omega
    · have ht := hB t
      have hls := h3 s
      show 0 ≤ updZ (u.1 13) (u.2 5) (zmin (u.1 7 s) (-(u.1 7 b))) t ∧ 0 ≤ updZ (u.1 14) (u.2 5) 0 t ∧ updZ (u.1 13) (u.2 5) (zmin (u.1 7 s) (-(u.1 7 b))) t + updZ (u.1 14) (u.2 5) 0 t ≤ 50 ∧ 0 ≤ updZ (u.1 11) (u.2 5) s t ∧ updZ (u.1 11) (u.2 5) s t ≤ 5 ∧ 0 ≤ updZ (u.1 12) (u.2 5) b t ∧ updZ (u.1 12) (u.2 5) b t ≤ 5
      unfold updZ
      split <;> omega
  · rw [h7]
    have hi := h3 i
    have hls := h3 s
    have hlb := h3 b
    unfold updZ
    split
    · rw [if_neg (Ne.symm hsb)]; omega
    · split <;> omega
  · have e : (f_trade u s b).2 5 = u.2 5 + 1 := by
      unfold f_trade f_add
      rw [if_neg hc]; rfl
    rw [e]; omega
theorem GI1_serve {b : Int} (hb : 0 ≤ b ∧ b ≤ 5) : ∀ (n : Nat) (u : GS), GI1 u → GI1 (f_serve b n u) := by
  intro n
  induction n with
  | zero => intro u h; exact h
  | succ n ih =>
    intro u h
    simp only [f_serve]
    split
    · next h1 =>
      split
      · exact h
      · next h2 =>
        rcases f_best_spec (u.1 7) (u.1 3) b with q | ⟨q1, q2, q3, q4⟩
        · omega
        · exact ih _ (GI1_trade h ⟨q1, q2⟩ hb q3 h1)
    · exact h
theorem GI1_matchI {r h : Int} (hh : 0 ≤ h ∧ h ≤ 5) {u : GS} (hu : GI1 u) : GI1 (f_matchI r h u) := by
  simp only [f_matchI]
  split
  · exact GI1_serve hh 6 u hu
  · exact hu
theorem GI1_matchIk {r : Int} {u : GS} (hu : GI1 u) (k : Nat) (hk : k ≤ 6) : GI1 (zfor k (f_matchI r) u) := zfor_inv (f_matchI r) u (fun _ a => GI1 a) 6 hu (fun i a h0 h1 h => GI1_matchI ⟨h0, by omega⟩ h) k hk
theorem GI1_matchOk {u : GS} (hu : GI1 u) (k : Nat) (hk : k ≤ 6) : GI1 (zfor k f_matchO u) := zfor_inv f_matchO u (fun _ a => GI1 a) 6 hu (fun i a h0 h1 h => GI1_matchIk h 6 (by omega)) k hk
theorem GI1_match {u : GS} (hu : GI1 u) : GI1 (f_match u) := GI1_matchOk hu 6 (by omega)
/-! cuts, settling: what stays, what is bounded -/
def zokb (j : Nat) : Bool := decide (11 ≤ j) && decide (j ≤ 14)
theorem BI.bd {u : GS} (h : BI u) : ∀ j : Nat, zokb j = true → ∀ i : Int, -1000 ≤ u.1 j i ∧ u.1 j i ≤ 1000 := by
  intro j hj i
  have hb := h.2.2 i
  simp only [zokb, Bool.and_eq_true, decide_eq_true_eq] at hj
  have : j = 11 ∨ j = 12 ∨ j = 13 ∨ j = 14 := by omega
  rcases this with rfl | rfl | rfl | rfl <;> omega
theorem BI_congr {u v : GS} (h1 : ∀ j : Nat, 11 ≤ j → j ≤ 14 → v.1 j = u.1 j) (h2 : v.2 5 = u.2 5) (h : BI u) : BI v := by
  unfold BI
  rw [h2, h1 11 (by omega) (by omega), h1 12 (by omega) (by omega), h1 13 (by omega) (by omega), h1 14 (by omega) (by omega)]
  exact h
theorem f_flow_bi (u : GS) (k : Int) (h : BI u) : -6000 ≤ f_flow u k ∧ f_flow u k ≤ 6000 := f_flowk _ _ _ k _ (by have := h.1; have := h.2.1; omega) (fun i => h.bd 13 rfl i)
theorem BI_cut {u : GS} (h : BI u) {t x : Int} (h0 : 0 ≤ x) (h1 : x ≤ u.1 13 t) : BI (gA (gA u 13 t (u.1 13 t - x)) 14 t (u.1 14 t + x)) := by
  refine ⟨h.1, h.2.1, fun i => ?_⟩
  have hi := h.2.2 i
  show 0 ≤ updZ (u.1 13) t (u.1 13 t - x) i ∧ 0 ≤ updZ (u.1 14) t (u.1 14 t + x) i ∧ updZ (u.1 13) t (u.1 13 t - x) i + updZ (u.1 14) t (u.1 14 t + x) i ≤ 50 ∧ 0 ≤ u.1 11 i ∧ u.1 11 i ≤ 5 ∧ 0 ≤ u.1 12 i ∧ u.1 12 i ≤ 5
  unfold updZ
  split
  · next e => subst e; omega
  · exact hi
theorem f_cutL_1 (k w : Int) : ∀ (n : Nat) (ab : Int) (u : GS) (j : Nat), j ≠ 13 → j ≠ 14 → (f_cutL k w n ab u).1 j = u.1 j := by
  intro n
  induction n with
  | zero => intro ab u j _ _; rfl
  | succ n ih =>
    intro ab u j h1 h2
    simp only [f_cutL]
    split
    · split
      · rw [ih _ _ j h1 h2, gA_1n _ _ _ h2, gA_1n _ _ _ h1]
      · exact ih _ _ j h1 h2
    · rfl
theorem f_cutL_2 (k w : Int) : ∀ (n : Nat) (ab : Int) (u : GS), (f_cutL k w n ab u).2 = u.2 := by
  intro n
  induction n with
  | zero => intro ab u; rfl
  | succ n ih =>
    intro ab u
    simp only [f_cutL]
    split
    · split
      · rw [ih]; rfl
      · exact ih _ _
    · rfl
theorem f_cutU_1 (u : GS) (k lim : Int) (j : Nat) (h1 : j ≠ 13) (h2 : j ≠ 14) : (f_cutU u k lim).1 j = u.1 j := by
  unfold f_cutU
  split
  · rfl
  · exact f_cutL_1 _ _ _ _ _ j h1 h2
theorem f_cutU_2 (u : GS) (k lim : Int) : (f_cutU u k lim).2 = u.2 := by
  unfold f_cutU
  split
  · rfl
  · exact f_cutL_2 _ _ _ _ _
theorem BI_cutL (k w : Int) : ∀ (n : Nat) (ab : Int) (u : GS), BI u → BI (f_cutL k w n ab u) := by
  intro n
  induction n with
  | zero => intro ab u h; exact h
  | succ n ih =>
    intro ab u h
    simp only [f_cutL]
    split
    · next hab =>
      split
      · have hz := zmin_sp (u.1 13 (n : Int)) ab
        have hu := h.2.2 (n : Int)
        exact ih _ _ (BI_cut h (by omega) (by omega))
      · exact ih _ _ h
    · exact h
theorem BI_cutU (u : GS) (k lim : Int) (h : BI u) : BI (f_cutU u k lim) := by
  unfold f_cutU
  split
  · exact h
  · exact BI_cutL _ _ _ _ _ h
/-- while trades are cut and settled -/
def GI2 (u : GS) : Prop := Base u ∧ BI u ∧ ∀ i, -50 ≤ u.1 7 i ∧ u.1 7 i ≤ 50
theorem GI2.bd {u : GS} (h : GI2 u) : Bd u := Bd_of h.1 h.2.1 (fun i => by have := h.2.2 i; omega)
theorem GI1.to2 {u : GS} (h : GI1 u) : GI2 u := ⟨h.1, h.2.1, h.2.2.1⟩
theorem GI2_congr {u v : GS} (h : ∀ j : Nat, j ≤ 14 → j ≠ 6 → j ≠ 9 → j ≠ 10 → v.1 j = u.1 j) (h5 : v.2 5 = u.2 5) (hu : GI2 u) : GI2 v :=
  ⟨Base_congr (fun j a b c => h j (by omega) b (by omega) (by omega)) hu.1, BI_congr (fun j a b => h j b (by omega) (by omega) (by omega)) h5 hu.2.1, by rw [h 7 (by omega) (by omega) (by omega) (by omega)]; exact hu.2.2⟩
theorem GI2_cutU {u : GS} (h : GI2 u) (k lim : Int) : GI2 (f_cutU u k lim) :=
  ⟨Base_congr (fun j a b c => f_cutU_1 u k lim j (by omega) (by omega)) h.1, BI_cutU u k lim h.2.1, by rw [f_cutU_1 u k lim 7 (by decide) (by decide)]; exact h.2.2⟩
theorem GI2_pass : ∀ (n : Nat) (x : Int × GS), GI2 x.2 → GI2 (f_pass n x).2 := by
  intro n
  induction n with
  | zero => intro x h; exact h
  | succ n ih => intro x h; simp only [f_pass]; exact ih _ (GI2_cutU h _ _)
theorem GI2_cutsL : ∀ (n : Nat) (x : Int × GS), GI2 x.2 → GI2 (f_cutsL n x) := by
  intro n
  induction n with
  | zero => intro x h; exact h
  | succ n ih =>
    intro x h
    simp only [f_cutsL]
    split
    · exact ih _ (GI2_pass 5 (0, x.2) h)
    · exact h
theorem f_begin_1 (u : GS) (j : Nat) (h7 : j ≠ 7) (h10 : j ≠ 10) : (f_begin u).1 j = u.1 j := by
  have a := zfor_inv f_beginW (gV u 5 0) (fun _ a => a.1 j = u.1 j) 6 rfl (fun i a _ _ h => by simp only [f_beginW]; rw [gA_1n _ _ _ h10]; exact h) 6 (by omega)
  exact zfor_inv f_beginL (zfor 6 f_beginW (gV u 5 0)) (fun _ a => a.1 j = u.1 j) 6 a (fun i a _ _ h => by simp only [f_beginL]; rw [gA_1n _ _ _ h7]; exact h) 6 (by omega)
theorem f_begin_2 (u : GS) : (f_begin u).2 = (gV u 5 0).2 := by
  have a := zfor_inv f_beginW (gV u 5 0) (fun _ a => a.2 = (gV u 5 0).2) 6 rfl (fun i a _ _ h => h) 6 (by omega)
  exact zfor_inv f_beginL (zfor 6 f_beginW (gV u 5 0)) (fun _ a => a.2 = (gV u 5 0).2) 6 a (fun i a _ _ h => h) 6 (by omega)
theorem f_countS_1 (t : Int) (u : GS) (j : Nat) (h : j ≠ 10) : (f_countS t u).1 j = u.1 j := by
  simp only [f_countS]; rw [gA_1n _ _ _ h, gA_1n _ _ _ h]
theorem f_countk_1 (u : GS) (n : Nat) (j : Nat) (h : j ≠ 10) : (zfor n f_countS u).1 j = u.1 j := zfor_inv f_countS u (fun _ a => a.1 j = u.1 j) n rfl (fun i a _ _ q => (f_countS_1 i a j h).trans q) n (by omega)
theorem f_countk_2 (u : GS) (n : Nat) : (zfor n f_countS u).2 = u.2 := zfor_inv f_countS u (fun _ a => a.2 = u.2) n rfl (fun i a _ _ q => q) n (by omega)
theorem f_countFk_1 (u : GS) (n : Nat) (j : Nat) (h : j ≠ 9) : (zfor n f_countF u).1 j = u.1 j := zfor_inv f_countF u (fun _ a => a.1 j = u.1 j) n rfl (fun i a _ _ q => by simp only [f_countF]; rw [gA_1n _ _ _ h]; exact q) n (by omega)
theorem f_countFk_2 (u : GS) (n : Nat) : (zfor n f_countF u).2 = u.2 := zfor_inv f_countF u (fun _ a => a.2 = u.2) n rfl (fun i a _ _ q => q) n (by omega)
theorem f_count_1 (u : GS) (j : Nat) (h9 : j ≠ 9) (h10 : j ≠ 10) : (f_count u).1 j = u.1 j := by
  unfold f_count
  rw [f_countFk_1 _ _ j h9]
  show (zfor (u.2 5).toNat f_countS u).1 j = u.1 j
  exact f_countk_1 u _ j h10
theorem f_count_2 (u : GS) (j : Nat) (h2 : j ≠ 2) : (f_count u).2 j = u.2 j := by
  unfold f_count
  rw [f_countFk_2]
  unfold f_countP
  rw [gV_2n _ _ h2, f_countk_2]
theorem f_settleS_1 (h t : Int) (u : GS) (j : Nat) (h6 : j ≠ 6) (h7 : j ≠ 7) : (f_settleS h t u).1 j = u.1 j := by
  simp only [f_settleS, f_settleA, f_settleB]
  repeat' split
  all_goals (first | rfl | (rw [gA_1n _ _ _ h7, gA_1n _ _ _ h6, gA_1n _ _ _ h7, gA_1n _ _ _ h6]) | (rw [gA_1n _ _ _ h7, gA_1n _ _ _ h6]))
theorem f_settleS_2 (h t : Int) (u : GS) : (f_settleS h t u).2 = u.2 := by
  simp only [f_settleS, f_settleA, f_settleB]
  repeat' split
  all_goals rfl
theorem f_settleA_1 (h t : Int) (u : GS) (j : Nat) (h6 : j ≠ 6) (h7 : j ≠ 7) : (f_settleA h t u).1 j = u.1 j := by
  unfold f_settleA
  split
  · rw [gA_1n _ _ _ h7, gA_1n _ _ _ h6]
  · rfl
theorem f_settleA_7 (h t : Int) (u : GS) (i : Int) : (f_settleA h t u).1 7 i = if i = h then u.1 7 h + (if u.1 11 t = h then u.1 14 t else 0) else u.1 7 i := by
  unfold f_settleA
  by_cases a : u.1 11 t = h
  · rw [if_pos a, if_pos a]
    rfl
  · rw [if_neg a, if_neg a]
    split
    · next e => rw [e]; omega
    · rfl
theorem f_settleB_7 (h t : Int) (u : GS) (i : Int) : (f_settleB h t u).1 7 i = if i = h then u.1 7 h - (if u.1 12 t = h then u.1 14 t else 0) else u.1 7 i := by
  unfold f_settleB
  by_cases a : u.1 12 t = h
  · rw [if_pos a, if_pos a]
    rfl
  · rw [if_neg a, if_neg a]
    split
    · next e => rw [e]; omega
    · rfl
theorem f_settleS_7 (h t : Int) (u : GS) (i : Int) : (f_settleS h t u).1 7 i = if i = h then u.1 7 h + (if u.1 11 t = h then u.1 14 t else 0) - (if u.1 12 t = h then u.1 14 t else 0) else u.1 7 i := by
  show (f_settleB h t (f_settleA h t u)).1 7 i = _
  rw [f_settleB_7, f_settleA_7, f_settleA_7, f_settleA_1 h t u 12 (by decide) (by decide), f_settleA_1 h t u 14 (by decide) (by decide), if_pos rfl]
  split
  · rfl
  · next e => rfl
theorem f_settlek_1 (h : Int) (u : GS) (n : Nat) (j : Nat) (h6 : j ≠ 6) (h7 : j ≠ 7) : (zfor n (f_settleS h) u).1 j = u.1 j := zfor_inv (f_settleS h) u (fun _ a => a.1 j = u.1 j) n rfl (fun i a _ _ q => (f_settleS_1 h i a j h6 h7).trans q) n (by omega)
theorem f_settlek_2 (h : Int) (u : GS) (n : Nat) : (zfor n (f_settleS h) u).2 = u.2 := zfor_inv (f_settleS h) u (fun _ a => a.2 = u.2) n rfl (fun i a _ _ q => (f_settleS_2 h i a).trans q) n (by omega)
theorem f_settlek_7 (h : Int) (u : GS) (hb : BI u) (n : Nat) : (∀ i, i ≠ h → (zfor n (f_settleS h) u).1 7 i = u.1 7 i) ∧ u.1 7 h - 50 * n ≤ (zfor n (f_settleS h) u).1 7 h ∧ (zfor n (f_settleS h) u).1 7 h ≤ u.1 7 h + 50 * n := by
  induction n with
  | zero => exact ⟨fun _ _ => rfl, by simp [zfor], by simp [zfor]⟩
  | succ n ih =>
    obtain ⟨h1, h2, h3⟩ := ih
    have hc := hb.2.2 (n : Int)
    have e : ∀ i, (zfor (n + 1) (f_settleS h) u).1 7 i = _ := fun i => f_settleS_7 h (n : Int) (zfor n (f_settleS h) u) i
    rw [f_settlek_1 h u n 11 (by decide) (by decide), f_settlek_1 h u n 12 (by decide) (by decide), f_settlek_1 h u n 14 (by decide) (by decide)] at e
    refine ⟨fun i hi => ?_, ?_⟩
    · rw [e i, if_neg hi]; exact h1 i hi
    · rw [e h, if_pos rfl]
      repeat' split
      all_goals omega
/-- before house h is settled -/
def GI3 (h : Int) (u : GS) : Prop := Base u ∧ BI u ∧ (∀ i, -1000 ≤ u.1 7 i ∧ u.1 7 i ≤ 1000) ∧ ∀ i, (i < 0 ∨ h ≤ i) → -50 ≤ u.1 7 i ∧ u.1 7 i ≤ 50
theorem GI3.bd {h : Int} {u : GS} (g : GI3 h u) : Bd u := Bd_of g.1 g.2.1 g.2.2.1
theorem GI2.to3 {u : GS} (h : GI2 u) : GI3 0 u := ⟨h.1, h.2.1, fun i => by have := h.2.2 i; omega, fun i _ => h.2.2 i⟩
theorem GI3_settlek {h : Int} (hh0 : 0 ≤ h) {u : GS} (g : GI3 h u) (n : Nat) (hn : n ≤ 6) : GI3 (h + 1) (zfor n (f_settleS h) u) ∧ Bd (zfor n (f_settleS h) u) := by
  obtain ⟨g1, g2, g3, g4⟩ := g
  obtain ⟨k1, k2, k3⟩ := f_settlek_7 h u g2 n
  have hh := g4 h (by omega)
  have q : GI3 (h + 1) (zfor n (f_settleS h) u) := by
    refine ⟨Base_congr (fun j a b c => f_settlek_1 h u n j b c) g1, BI_congr (fun j a b => f_settlek_1 h u n j (by omega) (by omega)) (by rw [f_settlek_2]) g2, fun i => ?_, fun i hi => ?_⟩
    · by_cases e : i = h
      · rw [e]; omega
      · rw [k1 i e]; exact g3 i
    · rw [k1 i (by omega)]; exact g4 i (by omega)
  exact ⟨q, q.bd⟩
theorem f_pay_1 (u : GS) (h x : Int) (j : Nat) (h6 : j ≠ 6) : (f_pay u h x).1 j = u.1 j := by
  unfold f_pay; rw [gV_1, gA_1n _ _ _ h6]
theorem f_pay_2 (u : GS) (h x : Int) (j : Nat) (h2 : j ≠ 2) : (f_pay u h x).2 j = u.2 j := by
  unfold f_pay; rw [gV_2n _ _ h2]; rfl
theorem f_takeA_1 (u : GS) (h x : Int) (j : Nat) (h5 : j ≠ 5) (h7 : j ≠ 7) (h10 : j ≠ 10) : (f_takeA u h x).1 j = u.1 j := by
  unfold f_takeA; rw [gA_1n _ _ _ h10, gA_1n _ _ _ h5, gA_1n _ _ _ h7]
theorem f_battery_1 (u : GS) (h : Int) (j : Nat) (h5 : j ≠ 5) (h6 : j ≠ 6) (h7 : j ≠ 7) (h10 : j ≠ 10) : (f_battery u h).1 j = u.1 j := by
  unfold f_battery
  split
  · unfold f_putIn; rw [gA_1n _ _ _ h10, gA_1n _ _ _ h5, gA_1n _ _ _ h7]
  · unfold f_takeOut
    split
    · rfl
    · rw [f_pay_1 _ _ _ j h6, f_takeA_1 _ _ _ j h5 h7 h10]
theorem f_battery_2 (u : GS) (h : Int) (j : Nat) (h2 : j ≠ 2) : (f_battery u h).2 j = u.2 j := by
  unfold f_battery
  split
  · rfl
  · unfold f_takeOut
    split
    · rfl
    · rw [f_pay_2 _ _ _ j h2]; rfl
theorem f_supplier_1 (u : GS) (h : Int) (j : Nat) (h6 : j ≠ 6) (h10 : j ≠ 10) : (f_supplier u h).1 j = u.1 j := by
  unfold f_supplier f_supPay
  split <;> rw [gA_1n _ _ _ h10, gV_1, gA_1n _ _ _ h6]
theorem f_supplier_2 (u : GS) (h : Int) (j : Nat) (h3 : j ≠ 3) : (f_supplier u h).2 j = u.2 j := by
  unfold f_supplier f_supPay
  split <;> (rw [gA_2, gV_2n _ _ h3]; rfl)
theorem GI3_congr {h : Int} {u v : GS} (e : ∀ j : Nat, j ≤ 14 → j ≠ 6 → j ≠ 9 → j ≠ 10 → v.1 j = u.1 j) (h5 : v.2 5 = u.2 5) (hu : GI3 h u) : GI3 h v :=
  ⟨Base_congr (fun j a b c => e j (by omega) b (by omega) (by omega)) hu.1, BI_congr (fun j a b => e j b (by omega) (by omega) (by omega)) h5 hu.2.1, by rw [e 7 (by omega) (by omega) (by omega) (by omega)]; exact hu.2.2.1, by rw [e 7 (by omega) (by omega) (by omega) (by omega)]; exact hu.2.2.2⟩
theorem Base_store {u v : GS} {h x : Int} (e : ∀ j : Nat, j ≤ 8 → j ≠ 5 → j ≠ 6 → j ≠ 7 → v.1 j = u.1 j) (e5 : v.1 5 = updZ (u.1 5) h x) (h0 : 0 ≤ x) (h1 : x ≤ u.1 4 h) (hb : Base u) : Base v := by
  obtain ⟨b0, b1, b2, b3, b8, b5, b4, bs⟩ := hb
  unfold Base
  rw [e 0 (by omega) (by omega) (by omega) (by omega), e 1 (by omega) (by omega) (by omega) (by omega), e 2 (by omega) (by omega) (by omega) (by omega), e 3 (by omega) (by omega) (by omega) (by omega), e 4 (by omega) (by omega) (by omega) (by omega), e 8 (by omega) (by omega) (by omega) (by omega), e5]
  refine ⟨b0, b1, b2, b3, b8, fun i => ?_, b4, bs⟩
  unfold updZ
  split
  · next q => rw [q]; exact ⟨h0, h1⟩
  · exact b5 i
theorem GI3_battery {h : Int} (hh0 : 0 ≤ h) {u : GS} (g : GI3 (h + 1) u) : GI3 (h + 1) (f_battery u h) := by
  obtain ⟨g1, g2, g3, g4⟩ := g
  have hb := g1.2.2.2.2.2.1 h
  have hl := g3 h
  have L : ∀ i, i ≠ h → (f_battery u h).1 7 i = u.1 7 i := by
    intro i hi
    unfold f_battery
    split
    · exact updZ_n _ _ hi
    · unfold f_takeOut
      split
      · rfl
      · rw [f_pay_1 _ _ _ 7 (by decide)]; exact updZ_n _ _ hi
  have Lh : -1000 ≤ (f_battery u h).1 7 h ∧ (f_battery u h).1 7 h ≤ 1000 ∧ Base (f_battery u h) := by
    unfold f_battery
    split
    · next q =>
      have hz := zmin_sp (u.1 7 h) (u.1 4 h - u.1 5 h)
      have e : (f_putIn u h (zmin (u.1 7 h) (u.1 4 h - u.1 5 h))).1 7 h = u.1 7 h - zmin (u.1 7 h) (u.1 4 h - u.1 5 h) := updZ_s _ _ _
      rw [e]
      exact ⟨by omega, by omega, Base_store (u := u) (h := h) (x := u.1 5 h + zmin (u.1 7 h) (u.1 4 h - u.1 5 h)) (fun j a b c d => by unfold f_putIn; rw [gA_1n _ _ _ (by omega), gA_1n _ _ _ b, gA_1n _ _ _ d]) rfl (by omega) (by omega) g1⟩
    · next q =>
      have hz := zmin_sp (-(u.1 7 h)) (u.1 5 h)
      unfold f_takeOut
      split
      · exact ⟨by omega, by omega, g1⟩
      · next q2 =>
        rw [f_pay_1 _ _ _ 7 (by decide)]
        have e : (f_takeA u h (zmin (-(u.1 7 h)) (u.1 5 h))).1 7 h = u.1 7 h + zmin (-(u.1 7 h)) (u.1 5 h) := updZ_s _ _ _
        rw [e]
        exact ⟨by omega, by omega, Base_store (u := u) (h := h) (x := u.1 5 h - zmin (-(u.1 7 h)) (u.1 5 h)) (fun j a b c d => by rw [f_pay_1 _ _ _ j c, f_takeA_1 _ _ _ j b d (by omega)]) (by rw [f_pay_1 _ _ _ 5 (by decide)]; rfl) (by omega) (by omega) g1⟩
  refine ⟨Lh.2.2, BI_congr (fun j a b => f_battery_1 u h j (by omega) (by omega) (by omega) (by omega)) (f_battery_2 u h 5 (by decide)) g2, fun i => ?_, fun i hi => ?_⟩
  · by_cases e : i = h
    · rw [e]; exact ⟨Lh.1, Lh.2.1⟩
    · rw [L i e]; exact g3 i
  · rw [L i (by omega)]; exact g4 i hi
theorem GI3_house {h : Int} (hh0 : 0 ≤ h) {u : GS} (g : GI3 h u) : GI3 (h + 1) (f_settle u h) ∧ GI3 (h + 1) (f_battery (f_settle u h) h) ∧ GI3 (h + 1) (f_supplier (f_battery (f_settle u h) h) h) ∧ GI3 (h + 1) (f_house h u) := by
  have a := (GI3_settlek hh0 g (u.2 5).toNat (by have := g.2.1.1; have := g.2.1.2.1; omega)).1
  have b := GI3_battery hh0 a
  have c : GI3 (h + 1) (f_supplier (f_battery (f_settle u h) h) h) := GI3_congr (fun j _ h6 _ h10 => f_supplier_1 _ h j h6 h10) (f_supplier_2 _ h 5 (by decide)) b
  exact ⟨a, b, c, GI3_congr (fun j _ h6 _ h10 => f_pay_1 _ h _ j h6) (f_pay_2 _ h _ 5 (by decide)) c⟩
theorem GI3_housek {u : GS} (g : GI3 0 u) (k : Nat) (hk : k ≤ 6) : GI3 (k : Int) (zfor k f_house u) := zfor_inv f_house u (fun i a => GI3 i a) 6 g (fun i a h0 h1 h => (GI3_house h0 h).2.2.2) k hk
/-- between the calls -/
def GI (u : GS) : Prop := Base u ∧ BI u ∧ ∀ i, (i < 0 ∨ 6 ≤ i) → -50 ≤ u.1 7 i ∧ u.1 7 i ≤ 50
theorem f_begin_7 (u : GS) (i : Int) : (f_begin u).1 7 i = if 0 ≤ i ∧ i < 6 then u.1 2 i else u.1 7 i := by
  have a : (zfor 6 f_beginW (gV u 5 0)).1 7 = u.1 7 ∧ (zfor 6 f_beginW (gV u 5 0)).1 2 = u.1 2 := zfor_inv f_beginW (gV u 5 0) (fun _ a => a.1 7 = u.1 7 ∧ a.1 2 = u.1 2) 6 ⟨rfl, rfl⟩ (fun i a _ _ h => h) 6 (by omega)
  have b := zfor_inv f_beginL (zfor 6 f_beginW (gV u 5 0)) (fun k a => a.1 2 = u.1 2 ∧ ∀ i, a.1 7 i = if 0 ≤ i ∧ i < k then u.1 2 i else u.1 7 i) 6 ⟨a.2, fun i => by rw [a.1, if_neg (by omega)]⟩ (fun k a h0 h1 h => ⟨h.1, fun i => by
    show updZ (a.1 7) k (a.1 2 k) i = _
    unfold updZ
    split
    · next e => rw [e, if_pos (by omega), h.1]
    · rw [h.2 i]
      by_cases q : 0 ≤ i ∧ i < k
      · rw [if_pos q, if_pos (by omega)]
      · rw [if_neg q, if_neg (by omega)]⟩) 6 (by omega)
  exact b.2 i
theorem GI1_begin {u : GS} (h : GI u) : GI1 (f_begin u) := by
  obtain ⟨h1, ⟨-, -, h2⟩, h3⟩ := h
  refine ⟨Base_congr (fun j a b c => f_begin_1 u j c (by omega)) h1, ?_, fun i => ?_, ?_⟩
  · unfold BI
    rw [f_begin_2, f_begin_1 u 11 (by decide) (by decide), f_begin_1 u 12 (by decide) (by decide), f_begin_1 u 13 (by decide) (by decide), f_begin_1 u 14 (by decide) (by decide), gV_2s]
    exact ⟨by omega, by omega, h2⟩
  · rw [f_begin_7]
    have a := h1.2.2.1 i
    have b := h3 i
    split <;> omega
  · rw [f_begin_2, gV_2s]
    have := NZ_rg ((f_begin u).1 7)
    omega
theorem f_cutR_rg (u : GS) (k lim : Int) : f_cutR u k lim = 0 ∨ f_cutR u k lim = 1 := by unfold f_cutR; split <;> omega
