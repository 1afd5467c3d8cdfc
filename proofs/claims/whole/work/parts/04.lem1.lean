/-! bounds that the walks ask for -/
theorem zfor_inv {α : Type} (f : Int → α → α) (a0 : α) (I : Int → α → Prop) (n : Nat) (h0 : I 0 a0) (hs : ∀ (i : Int) (a : α), 0 ≤ i → i < n → I i a → I (i + 1) (f i a)) : ∀ k : Nat, k ≤ n → I (k : Int) (zfor k f a0) := by
  intro k
  induction k with
  | zero => intro _; exact h0
  | succ k ih =>
    intro hk
    have h := hs (k : Int) _ (by omega) (by omega) (ih (by omega))
    rw [show ((k + 1 : Nat) : Int) = (k : Int) + 1 by omega]
    exact h
theorem f_better_rg (P : Int → Int) (h best b : Int) : f_better P h best b = 0 ∨ f_better P h best b = 1 := by
  unfold f_better; repeat' (first | omega | split)
theorem f_bestk (L P : Int → Int) (b : Int) (k : Nat) (hk : k ≤ 6) : -1 ≤ zfor k (f_bestS L P b) (-1) ∧ zfor k (f_bestS L P b) (-1) ≤ 5 := by
  refine zfor_inv (f_bestS L P b) (-1) (fun _ a => -1 ≤ a ∧ a ≤ 5) 6 (by omega) (fun i a h0 h1 h => ?_) k hk
  simp only [f_bestS]
  split <;> omega
theorem f_rankk (P : Int → Int) (h : Int) (k : Nat) (hk : k ≤ 6) : 0 ≤ zfor k (f_rankS P h) 0 ∧ zfor k (f_rankS P h) 0 ≤ 6 := by
  have := zfor_inv (f_rankS P h) 0 (fun i a => 0 ≤ a ∧ a ≤ i) 6 (by omega) (fun i a h0 h1 h => by simp only [f_rankS]; split <;> omega) k hk
  omega
theorem f_dir_rg (s b k : Int) : f_dir s b k = 0 ∨ f_dir s b k = 1 ∨ f_dir s b k = -1 := by
  unfold f_dir; repeat' (first | omega | split)
theorem f_flowk (S B U : Int → Int) (k : Int) (n : Nat) (hn : n ≤ 6) (hU : ∀ i, -1000 ≤ U i ∧ U i ≤ 1000) : -6000 ≤ zfor n (f_flowS S B U k) 0 ∧ zfor n (f_flowS S B U k) 0 ≤ 6000 := by
  have := zfor_inv (f_flowS S B U k) 0 (fun i a => -(1000 * i) ≤ a ∧ a ≤ 1000 * i) 6 (by omega) (fun i a h0 h1 h => by
    simp only [f_flowS]
    have hu := hU i
    rcases f_dir_rg (S i) (B i) k with e | e | e <;> rw [e] <;> omega) n hn
  omega
theorem f_flow_rg (u : GS) (k : Int) (h1 : u.2 5 ≤ 6) (hB : Bd u) : -6000 ≤ f_flow u k ∧ f_flow u k ≤ 6000 := f_flowk _ _ _ k _ (by omega) (fun i => hB 13 rfl i)
theorem Gp_congr {ad : Nat → Nat} {cI cZ : ClassId} {u v : GS} (h1 : ∀ j : Nat, j ≤ 10 → u.1 j = v.1 j) (h2 : ∀ j : Nat, j ≤ 4 → u.2 j = v.2 j) : Gp ad cI cZ u = Gp ad cI cZ v := by
  unfold Gp
  rw [h1 0 (by omega), h1 1 (by omega), h1 2 (by omega), h1 3 (by omega), h1 4 (by omega), h1 5 (by omega), h1 6 (by omega), h1 7 (by omega), h1 8 (by omega), h1 9 (by omega), h1 10 (by omega), h2 0 (by omega), h2 1 (by omega), h2 2 (by omega), h2 3 (by omega), h2 4 (by omega)]
theorem zup_n {α : Type} (f : Nat → α) {j k : Nat} (v : α) (h : k ≠ j) : zup f j v k = f k := by simp [zup, h]
theorem gA_1n (u : GS) {j k : Nat} (i x : Int) (h : k ≠ j) : (gA u j i x).1 k = u.1 k := zup_n _ _ h
theorem gA_1s (u : GS) (j : Nat) (i x : Int) : (gA u j i x).1 j = updZ (u.1 j) i x := by simp [gA, zup]
theorem gA_2 (u : GS) (j : Nat) (i x : Int) : (gA u j i x).2 = u.2 := rfl
theorem gV_1 (u : GS) (j : Nat) (x : Int) : (gV u j x).1 = u.1 := rfl
theorem gV_2n (u : GS) {j k : Nat} (x : Int) (h : k ≠ j) : (gV u j x).2 k = u.2 k := zup_n _ _ h
theorem gV_2s (u : GS) (j : Nat) (x : Int) : (gV u j x).2 j = x := by simp [gV, zup]
theorem f_bit_rg (set h : Int) : f_bit set h = 0 ∨ f_bit set h = 1 := by unfold f_bit; omega
theorem f_bit_ofNat : ∀ s : Fin 64, ∀ h : Fin 6, (iZ ((s.val : Nat) : Int) >>> (iZ ((h.val : Nat) : Int) &&& 31)) &&& iZ 1 = iZ (f_bit ((s.val : Nat) : Int) ((h.val : Nat) : Int)) := by decide +kernel
theorem f_bit_eq {set h : Int} (hs : 0 ≤ set ∧ set < 64) (hh : 0 ≤ h ∧ h ≤ 5) : (iZ set >>> (iZ h &&& 31)) &&& iZ 1 = iZ (f_bit set h) := by
  have e1 : ((set.toNat : Nat) : Int) = set := Int.toNat_of_nonneg hs.1
  have e2 : ((h.toNat : Nat) : Int) = h := Int.toNat_of_nonneg hh.1
  have := f_bit_ofNat ⟨set.toNat, by omega⟩ ⟨h.toNat, by omega⟩
  dsimp only at this
  rw [e1, e2] at this
  exact this
theorem f_sellsL_rg (M P : Int → Int) (s set : Int) : ∀ (n : Nat) (h : Int), f_sellsL M P s set n h = 0 ∨ f_sellsL M P s set n h = 1 := by
  intro n
  induction n with
  | zero => intro h; exact Or.inl rfl
  | succ n ih => intro h; simp only [f_sellsL]; split; exact Or.inr rfl; exact ih _
theorem f_boundk (M P : Int → Int) (set : Int) (hM : ∀ i, -1000 ≤ M i ∧ M i ≤ 1000) (k : Nat) (hk : k ≤ 6) : 0 ≤ zfor k (f_boundS M P set) 0 ∧ zfor k (f_boundS M P set) 0 ≤ 6000 := by
  have := zfor_inv (f_boundS M P set) 0 (fun i a => 0 ≤ a ∧ a ≤ 1000 * i) 6 (by omega) (fun i a h0 h1 h => by
    have hm := hM i
    simp only [f_boundS, f_boundA]
    repeat' split
    all_goals omega) k hk
  omega
theorem f_mostk (M P : Int → Int) (hM : ∀ i, -1000 ≤ M i ∧ M i ≤ 1000) (k : Nat) : 0 ≤ zfor k (f_mostS M P) (f_bound M P 0) ∧ zfor k (f_mostS M P) (f_bound M P 0) ≤ 6000 := by
  have := zfor_inv (f_mostS M P) (f_bound M P 0) (fun i a => 0 ≤ a ∧ a ≤ 6000) k (f_boundk M P 0 hM 6 (by omega)) (fun i a h0 h1 h => by
    have hb : 0 ≤ f_bound M P (i + 1) ∧ f_bound M P (i + 1) ≤ 6000 := f_boundk M P (i + 1) hM 6 (by omega)
    have hz := zmin_sp a (f_bound M P (i + 1))
    simp only [f_mostS]
    omega) k (by omega)
  exact this
