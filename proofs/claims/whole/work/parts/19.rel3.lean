/-! THE CUTS -/
def SZ (n : Nat) (G : Int → Int) : Int := zfor n (fun t a => a + G t) 0
theorem SZ_succ (n : Nat) (G : Int → Int) : SZ (n + 1) G = SZ n G + G (n : Int) := rfl
theorem SZ_congr {n : Nat} {G K : Int → Int} (h : ∀ t : Int, 0 ≤ t → t < n → G t = K t) : SZ n G = SZ n K := by
  induction n with
  | zero => rfl
  | succ n ih => rw [SZ_succ, SZ_succ, ih (fun t a b => h t a (by omega)), h _ (by omega) (by omega)]
theorem SZ_one {n : Nat} {G K : Int → Int} {c y : Int} (hc : 0 ≤ c) (hn : c < n) (h : ∀ t : Int, 0 ≤ t → t < n → t ≠ c → K t = G t) (hy : K c = G c + y) : SZ n K = SZ n G + y := by
  induction n with
  | zero => omega
  | succ n ih =>
    rw [SZ_succ, SZ_succ]
    by_cases e : c = (n : Int)
    · rw [← e, hy, SZ_congr (n := n) (G := K) (K := G) (fun t a b => h t a (by omega) (by omega))]
      omega
    · rw [ih (by omega) (fun t a b d => h t a (by omega) d), h (n : Int) (by omega) (by omega) (fun q => e q.symm)]
      omega
theorem SZ_zero {n : Nat} {G : Int → Int} (h : ∀ t : Int, 0 ≤ t → t < n → G t = 0) : SZ n G = 0 := by
  rw [SZ_congr (K := fun _ => 0) h]
  induction n with
  | zero => rfl
  | succ n ih => rw [SZ_succ, ih (fun t a b => h t a (by omega))]; rfl
/-- what is cut of a seller's, of a buyer's trades, of all -/
def CS (v : GS) (i : Int) : Int := SZ (v.2 5).toNat (fun t => if v.1 11 t = i then v.1 14 t else 0)
def CB (v : GS) (i : Int) : Int := SZ (v.2 5).toNat (fun t => if v.1 12 t = i then v.1 14 t else 0)
def CT (v : GS) : Int := SZ (v.2 5).toNat (fun t => v.1 14 t)
def RC (v x : GS) (q : Int) : Prop := RS v x ∧ RB v x ∧ RK x ∧ v.1 5 = x.1 5 ∧ v.1 9 = x.1 13 ∧ (∀ i, i ≠ 1 → v.1 10 i = x.1 12 i) ∧ v.1 10 1 = 0 ∧ x.1 12 1 = q ∧ (∀ i, 0 ≤ i → i ≤ 5 → x.1 6 i = v.1 6 i - CS v i) ∧ (∀ i, 0 ≤ i → i ≤ 5 → x.1 14 i = m_size (v.1 7 i) + CS v i + CB v i ∧ (m_buyer x i = 0 → 0 ≤ v.1 7 i) ∧ (m_buyer x i ≠ 0 → v.1 7 i ≤ 0) ∧ (m_buyer x i = 0 → m_isel x i = 0 → v.1 7 i = 0)) ∧ x.2 2 = v.2 2 - CT v
theorem dir_over (v x : GS) (h : RB v x) (t k : Int) : f_dir (v.1 11 t) (v.1 12 t) k = m_over x t k := by
  rw [h.2.1, h.2.2.1]
  have hl := m_lesser_sp (x.1 8 t) (x.1 9 t)
  unfold f_dir m_over m_high m_low
  repeat' (first | omega | split)
theorem flow_SZ (x : GS) (k : Int) : m_flow x k = SZ (x.2 5).toNat (fun t => m_over x t k * x.1 10 t) := rfl
theorem flow_eq {v x : GS} (h : RB v x) (k : Int) : f_flow v k = m_flow x k := by
  rw [flow_SZ]
  show SZ (v.2 5).toNat (fun t => f_dir (v.1 11 t) (v.1 12 t) k * v.1 13 t) = _
  rw [h.1]
  exact SZ_congr (fun t _ _ => by show f_dir (v.1 11 t) (v.1 12 t) k * v.1 13 t = _; rw [dir_over v x h, h.2.2.2.1])
theorem gA_same (u : GS) (j : Nat) (i : Int) : gA u j i (u.1 j i) = u := by
  refine Prod.ext ?_ rfl
  show zup u.1 j (updZ (u.1 j) i (u.1 j i)) = u.1
  rw [updZ_same]
  funext k
  unfold zup
  split
  · next e => rw [e]
  · rfl
/-- a cut in the class's book -/
def f_cut1 (v : GS) (t y : Int) : GS := gA (gA v 13 t (v.1 13 t - y)) 14 t (v.1 14 t + y)
theorem f_cut1_0 (v : GS) (t : Int) : f_cut1 v t 0 = v := by
  unfold f_cut1
  rw [Int.sub_zero, Int.add_zero, gA_same, gA_same]
theorem over_cut (x : GS) (lt y t k : Int) : m_over (m_cut1 x lt y) t k = m_over x t k := by
  have e8 : (m_cut1 x lt y).1 8 = x.1 8 := m_cut1_1 x lt y 8 (by decide) (by decide) (by decide)
  have e9 : (m_cut1 x lt y).1 9 = x.1 9 := m_cut1_1 x lt y 9 (by decide) (by decide) (by decide)
  unfold m_over m_high m_low
  rw [e8, e9]
theorem flow_cut (x : GS) {lt : Int} (y k : Int) (h0 : 0 ≤ lt) (h1 : lt < x.2 5) : m_flow (m_cut1 x lt y) k = m_flow x k - m_over x lt k * y := by
  rw [flow_SZ, flow_SZ]
  have e5 : (m_cut1 x lt y).2 5 = x.2 5 := m_cut1_2 x lt y 5 (by decide)
  rw [e5]
  have e10 : (m_cut1 x lt y).1 10 = updZ (x.1 10) lt (x.1 10 lt - y) := rfl
  have := SZ_one (n := (x.2 5).toNat) (G := fun t => m_over x t k * x.1 10 t) (K := fun t => m_over (m_cut1 x lt y) t k * (m_cut1 x lt y).1 10 t) (c := lt) (y := -(m_over x lt k * y)) h0 (by omega) (fun t a b d => by
    show m_over (m_cut1 x lt y) t k * (m_cut1 x lt y).1 10 t = m_over x t k * x.1 10 t
    rw [over_cut, e10, updZ_n _ _ d]) (by
    show m_over (m_cut1 x lt y) lt k * (m_cut1 x lt y).1 10 lt = m_over x lt k * x.1 10 lt + -(m_over x lt k * y)
    rw [over_cut, e10, updZ_s, Int.mul_sub]; omega)
  rw [this]; omega
theorem CS_cut (v : GS) {t0 : Int} (y i : Int) (h0 : 0 ≤ t0) (h1 : t0 < v.2 5) : CS (f_cut1 v t0 y) i = CS v i + (if v.1 11 t0 = i then y else 0) := by
  refine SZ_one (n := (v.2 5).toNat) (c := t0) h0 (by omega) (fun t a b d => ?_) ?_
  · show (if v.1 11 t = i then updZ (v.1 14) t0 (v.1 14 t0 + y) t else 0) = _
    rw [updZ_n _ _ d]
  · show (if v.1 11 t0 = i then updZ (v.1 14) t0 (v.1 14 t0 + y) t0 else 0) = _
    rw [updZ_s]
    show _ = (if v.1 11 t0 = i then v.1 14 t0 else 0) + _
    split <;> omega
theorem CB_cut (v : GS) {t0 : Int} (y i : Int) (h0 : 0 ≤ t0) (h1 : t0 < v.2 5) : CB (f_cut1 v t0 y) i = CB v i + (if v.1 12 t0 = i then y else 0) := by
  refine SZ_one (n := (v.2 5).toNat) (c := t0) h0 (by omega) (fun t a b d => ?_) ?_
  · show (if v.1 12 t = i then updZ (v.1 14) t0 (v.1 14 t0 + y) t else 0) = _
    rw [updZ_n _ _ d]
  · show (if v.1 12 t0 = i then updZ (v.1 14) t0 (v.1 14 t0 + y) t0 else 0) = _
    rw [updZ_s]
    show _ = (if v.1 12 t0 = i then v.1 14 t0 else 0) + _
    split <;> omega
theorem CT_cut (v : GS) {t0 : Int} (y : Int) (h0 : 0 ≤ t0) (h1 : t0 < v.2 5) : CT (f_cut1 v t0 y) = CT v + y := by
  refine SZ_one (n := (v.2 5).toNat) (c := t0) h0 (by omega) (fun t a b d => ?_) ?_
  · show updZ (v.1 14) t0 (v.1 14 t0 + y) t = _
    rw [updZ_n _ _ d]
  · show updZ (v.1 14) t0 (v.1 14 t0 + y) t0 = _
    rw [updZ_s]
theorem RC_cut {v x : GS} {q t0 y : Int} (h : RC v x q) (h0 : 0 ≤ t0) (h1 : t0 < x.2 5) : RC (f_cut1 v t0 y) (m_cut1 x t0 y) q := by
  obtain ⟨a1, ⟨b1, b2, b3, b4, b5⟩, a3, a4, a5, a6, a7, a8, a9, a10, a11⟩ := h
  have h1' : t0 < v.2 5 := by omega
  have n1 : (m_cut1 x t0 y).1 1 = x.1 1 := m_cut1_1 x t0 y 1 (by decide) (by decide) (by decide)
  have n7 : (m_cut1 x t0 y).1 7 = x.1 7 := m_cut1_1 x t0 y 7 (by decide) (by decide) (by decide)
  refine ⟨a1, ⟨b1, b2, b3, ?_, b5⟩, ?_, a4, a5, a6, a7, a8, ?_, ?_, ?_⟩
  · show updZ (v.1 13) t0 (v.1 13 t0 - y) = updZ (x.1 10) t0 (x.1 10 t0 - y)
    rw [b4]
  · intro t z0 z1
    rw [isel_congr n1 n7, buyer_congr n1 n7]
    exact a3 t z0 z1
  · intro i i0 i5
    rw [CS_cut v y i h0 h1']
    show updZ (x.1 6) (x.1 8 t0) (x.1 6 (x.1 8 t0) - y) i = v.1 6 i - _
    have := a9 i i0 i5
    rw [b2]
    unfold updZ
    by_cases e : i = x.1 8 t0
    · rw [if_pos e, if_pos e.symm, ← e]; omega
    · rw [if_neg e, if_neg (fun z => e z.symm)]; omega
  · intro i i0 i5
    rw [buyer_congr n1 n7, isel_congr n1 n7, CS_cut v y i h0 h1', CB_cut v y i h0 h1']
    obtain ⟨c1, c2⟩ := a10 i i0 i5
    refine ⟨?_, c2⟩
    show updZ (updZ (x.1 14) (x.1 8 t0) (x.1 14 (x.1 8 t0) + y)) (x.1 9 t0) (updZ (x.1 14) (x.1 8 t0) (x.1 14 (x.1 8 t0) + y) (x.1 9 t0) + y) i = m_size (v.1 7 i) + _ + _
    rw [b2, b3]
    have hne : x.1 8 t0 ≠ x.1 9 t0 := by
      have k := a3 t0 h0 h1
      intro e
      have := buyer_isel x _ k.2
      rw [e] at k
      exact k.1 this
    unfold updZ
    by_cases e : i = x.1 9 t0
    · subst e
      repeat' split
      all_goals omega
    · by_cases e2 : i = x.1 8 t0
      · subst e2
        repeat' split
        all_goals omega
      · repeat' split
        all_goals omega
  · rw [CT_cut v y h0 h1']
    show x.2 2 - y = v.2 2 - _
    omega
theorem zfor_last (C : Int → Prop) [DecidablePred C] (a0 : Int) : ∀ (N : Nat) (n : Int), 0 ≤ n → n < N → C n → (∀ t : Int, n < t → t < N → ¬ C t) → zfor N (fun t a => if C t then t else a) a0 = n := by
  intro N
  induction N with
  | zero => intro n h0 h1; omega
  | succ N ih =>
    intro n h0 h1 hc hl
    show (if C (N : Int) then (N : Int) else zfor N (fun t a => if C t then t else a) a0) = n
    by_cases e : n = (N : Int)
    · rw [if_pos (by rw [← e]; exact hc)]; exact e.symm
    · rw [if_neg (hl _ (by omega) (by omega))]
      exact ih n h0 (by omega) hc (fun t a b => hl t a (by omega))
theorem lat_last {x : GS} {k n : Int} (h0 : 0 ≤ n) (h1 : n < x.2 5) (hu : 0 < x.1 10 n) (hd : m_over x n k = sgn (m_flow x k)) (hl : ∀ t, n < t → t < x.2 5 → ¬ (0 < x.1 10 t ∧ m_over x t k = sgn (m_flow x k))) : m_lat x k = n :=
  zfor_last (fun t => 0 < x.1 10 t ∧ m_over x t k = sgn (m_flow x k)) (-1) (x.2 5).toNat n h0 (by omega) ⟨hu, hd⟩ (fun t a b => hl t a (by omega))
theorem cutsL_stop {k : Int} {x : GS} (a : Int) (n : Nat) (h : m_size (m_flow x k) ≤ x.1 3 k) : m_cutsL k n (a, x) = (a, x) := by
  cases n with
  | zero => rfl
  | succ n => simp only [m_cutsL]; rw [if_neg (by omega)]
theorem cutL_sim (k dir q : Int) : ∀ (n : Nat) (v x : GS) (ab a : Int) (fuel : Nat), RC v x q → MI2 x → (n : Int) ≤ x.2 5 → ab = m_size (m_flow x k) - x.1 3 k → (0 < ab → dir = sgn (m_flow x k)) → (0 < ab → ∀ t, (n : Int) ≤ t → t < x.2 5 → m_over x t k = dir → x.1 10 t = 0) → SU x ≤ (fuel : Int) →
    RC (f_cutL k dir n ab v) (m_cutsL k fuel (a, x)).2 q ∧ (m_cutsL k fuel (a, x)).1 = a + CT (f_cutL k dir n ab v) - CT v := by
  intro n
  induction n with
  | zero =>
    intro v x ab a fuel h hI hn hab hdir hz hf
    have hlim := (hI.1.2.2.2.2.1 k).1
    have hle : m_size (m_flow x k) ≤ x.1 3 k := by
      by_cases p : 0 < ab
      · have hd := hdir p
        have hs : dir = 1 ∨ dir = -1 := by rw [hd]; unfold sgn; split <;> omega
        have w := m_flow_sg x k dir (fun i => (hI.2.1.2.2 i).1) hs (x.2 5).toNat (fun t a b d => by have := hz p t (by omega) (by omega) d.2; omega)
        have w2 : dir * m_flow x k ≤ 0 := w
        have w3 := m_size_sp (m_flow x k)
        unfold sgn at hd
        split at hd
        · subst hd; omega
        · subst hd; omega
      · omega
    rw [cutsL_stop a fuel hle]
    exact ⟨h, by show a = a + CT v - CT v; omega⟩
  | succ n ih =>
    intro v x ab a fuel h hI hn hab hdir hz hf
    have hlim := (hI.1.2.2.2.2.1 k).1
    have hu0 := (hI.2.1.2.2 (n : Int)).1
    simp only [f_cutL]
    by_cases p : 0 < ab
    · rw [if_pos p]
      have hd := hdir p
      have hdo := dir_over v x h.2.1 (n : Int) k
      have e13 : v.1 13 = x.1 10 := h.2.1.2.2.2.1
      by_cases pd : f_dir (v.1 11 (n : Int)) (v.1 12 (n : Int)) k = dir
      · rw [if_pos pd]
        have po : m_over x (n : Int) k = dir := hdo.symm.trans pd
        have hmin := zmin_sp (v.1 13 (n : Int)) ab
        rw [e13] at hmin ⊢
        by_cases pu : 0 < x.1 10 (n : Int)
        · have hlat : m_lat x k = (n : Int) := lat_last (by omega) (by omega) pu (po.trans hd) (fun t t0 t1 z => by have := hz p t (by omega) t1 (z.2.trans hd.symm); omega)
          have hits : m_its x k = zmin (x.1 10 (n : Int)) ab := by
            unfold m_its
            rw [hlat]
            have := m_lesser_sp (x.1 10 (n : Int)) (m_size (m_flow x k) - x.1 3 k)
            omega
          have hge := SU_ge hI.2.1 (t := (n : Int)) ⟨by omega, by have := hI.2.1.2.1; omega⟩
          obtain ⟨f', rfl⟩ : ∃ f' : Nat, fuel = f' + 1 := ⟨fuel - 1, by omega⟩
          generalize hy : zmin (x.1 10 (n : Int)) ab = y at hmin hits ⊢
          have hmc : m_cutsL k (f' + 1) (a, x) = m_cutsL k f' (a + y, m_cut1 x (n : Int) y) := by
            simp only [m_cutsL]
            rw [if_pos (by omega), hits, hlat]
          have hrc := RC_cut (y := y) h (t0 := (n : Int)) (by omega) (by omega)
          have hmi : MI2 (m_cut1 x (n : Int) y) := MI2_cut1 hI ⟨by omega, by have := hI.2.1.2.1; omega⟩ (by omega) (by omega)
          have hfl := flow_cut x y k (lt := (n : Int)) (by omega) (by omega)
          have h5 : (m_cut1 x (n : Int) y).2 5 = x.2 5 := m_cut1_2 x _ y 5 (by decide)
          have h3 : (m_cut1 x (n : Int) y).1 3 = x.1 3 := m_cut1_1 x _ y 3 (by decide) (by decide) (by decide)
          have h10 : (m_cut1 x (n : Int) y).1 10 = updZ (x.1 10) (n : Int) (x.1 10 (n : Int) - y) := rfl
          have hsu := SU_cut (w := x) (lt := (n : Int)) (x := y) ⟨by omega, by have := hI.2.1.2.1; omega⟩
          have sz1 := m_size_sp (m_flow x k)
          have sz2 := m_size_sp (m_flow (m_cut1 x (n : Int) y) k)
          rw [po] at hfl
          have hd2 : (dir = 1 ∧ 0 < m_flow x k ∧ m_flow (m_cut1 x (n : Int) y) k = m_flow x k - y) ∨ (dir = -1 ∧ m_flow x k ≤ 0 ∧ m_flow (m_cut1 x (n : Int) y) k = m_flow x k + y) := by
            unfold sgn at hd
            split at hd
            · left; rw [hd] at hfl; exact ⟨hd, by omega, by omega⟩
            · right; rw [hd] at hfl; exact ⟨hd, by omega, by omega⟩
          have hct := CT_cut v y (t0 := (n : Int)) (by omega) (by have := h.2.1.1; omega)
          obtain ⟨r1, r2⟩ := ih (f_cut1 v (n : Int) y) (m_cut1 x (n : Int) y) (ab - y) (a + y) f' hrc hmi (by rw [h5]; omega) (by rw [h3]; omega) (fun p2 => by unfold sgn; split <;> omega) (fun p2 t t0 t1 to => by
            rw [over_cut] at to
            rw [h10]
            unfold updZ
            by_cases e : t = (n : Int)
            · rw [if_pos e]; omega
            · rw [if_neg e]; exact hz p t (by omega) (by rw [← h5]; exact t1) to) (by rw [hsu]; omega)
          rw [hmc]
          have ecut : gA (gA v 13 (n : Int) (x.1 10 (n : Int) - y)) 14 (n : Int) (v.1 14 (n : Int) + y) = f_cut1 v (n : Int) y := by unfold f_cut1; rw [e13]
          rw [ecut]
          refine ⟨r1, ?_⟩
          rw [r2, hct]; omega
        · have e0 : zmin (x.1 10 (n : Int)) ab = 0 := by omega
          rw [e0]
          have ecut : gA (gA v 13 (n : Int) (x.1 10 (n : Int) - 0)) 14 (n : Int) (v.1 14 (n : Int) + 0) = v := by rw [← e13]; exact f_cut1_0 v (n : Int)
          rw [ecut, Int.sub_zero]
          exact ih v x ab a fuel h hI (by omega) hab hdir (fun p2 t t0 t1 to => by
            by_cases e : t = (n : Int)
            · rw [e]; omega
            · exact hz p2 t (by omega) t1 to) hf
      · rw [if_neg pd]
        exact ih v x ab a fuel h hI (by omega) hab hdir (fun p2 t t0 t1 to => by
          by_cases e : t = (n : Int)
          · rw [e] at to; exact absurd (hdo.trans to) pd
          · exact hz p2 t (by omega) t1 to) hf
    · rw [if_neg p]
      rw [cutsL_stop a fuel (by omega)]
      exact ⟨h, by show a = a + CT v - CT v; omega⟩
theorem cutU_sim {v x : GS} {q k : Int} (h : RC v x q) (hI : MI2 x) : RC (f_cutU v k (v.1 8 k)) (m_cuts x k).2 q ∧ (m_cuts x k).1 = CT (f_cutU v k (v.1 8 k)) - CT v ∧ (f_cutR v k (v.1 8 k) ≠ 0 ↔ 0 < (m_cuts x k).1) := by
  have e8 : v.1 8 = x.1 3 := h.1.2.1
  have ef := flow_eq h.2.1 k
  have ez : zabs (m_flow x k) = m_size (m_flow x k) := by
    have a := zabs_sp (m_flow x k)
    have b := m_size_sp (m_flow x k)
    omega
  have e5 := h.2.1.1
  have c0 := hI.2.1.1
  have hs := SU_rg hI.2.1
  unfold f_cutU f_cutR m_cuts
  rw [ef, e8, ez]
  by_cases p : m_size (m_flow x k) - x.1 3 k ≤ 0
  · rw [if_pos p, if_pos p, cutsL_stop 0 301 (by omega)]
    exact ⟨h, by show (0 : Int) = CT v - CT v; omega, by show ((0 : Int) ≠ 0 ↔ 0 < (0 : Int)); omega⟩
  · rw [if_neg p, if_neg p]
    have ed : (if 0 < m_flow x k then (1 : Int) else -1) = sgn (m_flow x k) := rfl
    rw [ed, e5]
    obtain ⟨r1, r2⟩ := cutL_sim k (sgn (m_flow x k)) q (x.2 5).toNat v x (m_size (m_flow x k) - x.1 3 k) 0 301 h hI (by omega) rfl (fun _ => rfl) (fun _ t t0 t1 _ => by omega) (by omega)
    refine ⟨r1, by rw [r2]; omega, ?_⟩
    have hpos : 1 ≤ (m_cutsL k 301 (0, x)).1 := by
      obtain ⟨s1, s2, s3, s4, s5, s6⟩ := m_its_rg hI (k := k) (by omega)
      have e : m_cutsL k 301 (0, x) = m_cutsL k 300 (0 + m_its x k, m_cut1 x (m_lat x k) (m_its x k)) := by
        show (if x.1 3 k < m_size (m_flow x k) then _ else _) = _
        rw [if_pos (by omega)]
      have w := (m_cutsL_ok k 300 (0 + m_its x k, m_cut1 x (m_lat x k) (m_its x k)) (MI2_cut1 hI ⟨s1, s3⟩ (by omega) s5)).2.2
      rw [e]
      have w2 : 0 + m_its x k ≤ _ := w
      omega
    omega
theorem pass_sim {q : Int} : ∀ (n : Nat) (y z : Int × GS), RC y.2 z.2 q → MI2 z.2 → (y.1 ≠ 0 ↔ 0 < z.1) → 0 ≤ z.1 → RC (f_pass n y).2 (m_pass n z).2 q ∧ MI2 (m_pass n z).2 ∧ ((f_pass n y).1 ≠ 0 ↔ 0 < (m_pass n z).1) ∧ 0 ≤ (m_pass n z).1 ∧ (m_pass n z).1 = z.1 + CT (f_pass n y).2 - CT y.2 := by
  intro n
  induction n with
  | zero => intro y z h hI hf h0; exact ⟨h, hI, hf, h0, by show z.1 = z.1 + CT y.2 - CT y.2; omega⟩
  | succ n ih =>
    intro y z h hI hf h0
    simp only [f_pass, m_pass]
    obtain ⟨c1, c2, c3⟩ := cutU_sim (k := (n : Int)) h hI
    obtain ⟨o1, o2, o3⟩ := m_cuts_ok hI (n : Int)
    obtain ⟨r1, r2, r3, r4, r5⟩ := ih (if f_cutR y.2 (n : Int) (y.2.1 8 (n : Int)) ≠ 0 then 1 else y.1, f_cutU y.2 (n : Int) (y.2.1 8 (n : Int))) (z.1 + (m_cuts z.2 (n : Int)).1, (m_cuts z.2 (n : Int)).2) c1 o1 (by
      show ((if f_cutR y.2 (n : Int) (y.2.1 8 (n : Int)) ≠ 0 then (1 : Int) else y.1) ≠ 0 ↔ 0 < z.1 + (m_cuts z.2 (n : Int)).1)
      by_cases w : f_cutR y.2 (n : Int) (y.2.1 8 (n : Int)) ≠ 0
      · rw [if_pos w]; have := c3.mp w; omega
      · rw [if_neg w]
        have : ¬ 0 < (m_cuts z.2 (n : Int)).1 := fun w2 => w (c3.mpr w2)
        rw [hf]; omega) (by show 0 ≤ z.1 + (m_cuts z.2 (n : Int)).1; omega)
    refine ⟨r1, r2, r3, r4, ?_⟩
    rw [r5]
    show z.1 + (m_cuts z.2 (n : Int)).1 + _ - CT (f_cutU y.2 (n : Int) (y.2.1 8 (n : Int))) = _
    omega
theorem RC_q {v x : GS} {q y : Int} (h : RC v x q) : RC v (gA x 12 1 y) y := by
  obtain ⟨a1, a2, a3, a4, a5, a6, a7, a8, a9, a10, a11⟩ := h
  refine ⟨a1, a2, a3, a4, a5, fun i hi => ?_, a7, ?_, a9, a10, a11⟩
  · show v.1 10 i = updZ (x.1 12) 1 y i
    rw [updZ_n _ _ hi]; exact a6 i hi
  · show updZ (x.1 12) 1 y 1 = y
    exact updZ_s _ _ _
theorem cutAll_sim : ∀ (d N M : Nat) (fl s : Int) (v x : GS), RC v x (CT v) → MI2 x → SU x ≤ (d : Int) → d + 1 ≤ N → d + 1 ≤ M → fl ≠ 0 → 0 < s → RC (f_cutsL N (fl, v)) (m_cutAll M (s, x)) (CT (f_cutsL N (fl, v))) := by
  intro d
  induction d with
  | zero =>
    intro N M fl s v x h hI hs hN hM hfl hsp
    obtain ⟨N', rfl⟩ : ∃ N' : Nat, N = N' + 1 := ⟨N - 1, by omega⟩
    obtain ⟨M', rfl⟩ : ∃ M' : Nat, M = M' + 1 := ⟨M - 1, by omega⟩
    simp only [f_cutsL, m_cutAll]
    rw [if_pos hfl, if_pos hsp]
    obtain ⟨r1, r2, r3, r4, r5⟩ := pass_sim 5 (0, v) (0, x) h hI (by show ((0 : Int) ≠ 0 ↔ 0 < (0 : Int)); omega) (Int.le_refl _)
    obtain ⟨o1, o2, o3⟩ := m_pass_ok 5 (0, x) hI
    have o4 := SU_rg o1.2.1
    have o2' : (m_pass 5 (0, x)).1 + SU (m_pass 5 (0, x)).2 = 0 + SU x := o2
    have r5' : (m_pass 5 (0, x)).1 = 0 + CT (f_pass 5 (0, v)).2 - CT v := r5
    generalize f_pass 5 (0, v) = y at r1 r3 r5' ⊢
    generalize m_pass 5 (0, x) = z at r1 r2 r3 r4 o1 o2' o4 r5' ⊢
    have hz0 : z.1 = 0 := by omega
    have hy0 : y.1 = 0 := by
      by_cases w : y.1 = 0
      · exact w
      · have := r3.mp w; omega
    have e1 : f_cutsL N' y = y.2 := by
      cases N' with
      | zero => rfl
      | succ N' => simp only [f_cutsL]; rw [if_neg (by omega)]
    have e2 : m_cutAll M' (z.1, gA z.2 12 1 (z.2.1 12 1 + z.1)) = gA z.2 12 1 (z.2.1 12 1 + z.1) := by
      cases M' with
      | zero => rfl
      | succ M' => simp only [m_cutAll]; rw [if_neg (by omega)]
    rw [e1, e2]
    have e3 : z.2.1 12 1 + z.1 = CT y.2 := by
      have := r1.2.2.2.2.2.2.2.1
      omega
    rw [e3]
    exact RC_q r1
  | succ d ih =>
    intro N M fl s v x h hI hs hN hM hfl hsp
    obtain ⟨N', rfl⟩ : ∃ N' : Nat, N = N' + 1 := ⟨N - 1, by omega⟩
    obtain ⟨M', rfl⟩ : ∃ M' : Nat, M = M' + 1 := ⟨M - 1, by omega⟩
    simp only [f_cutsL, m_cutAll]
    rw [if_pos hfl, if_pos hsp]
    obtain ⟨r1, r2, r3, r4, r5⟩ := pass_sim 5 (0, v) (0, x) h hI (by show ((0 : Int) ≠ 0 ↔ 0 < (0 : Int)); omega) (Int.le_refl _)
    obtain ⟨o1, o2, o3⟩ := m_pass_ok 5 (0, x) hI
    have o4 := SU_rg o1.2.1
    have o2' : (m_pass 5 (0, x)).1 + SU (m_pass 5 (0, x)).2 = 0 + SU x := o2
    have r5' : (m_pass 5 (0, x)).1 = 0 + CT (f_pass 5 (0, v)).2 - CT v := r5
    generalize f_pass 5 (0, v) = y at r1 r3 r5' ⊢
    generalize m_pass 5 (0, x) = z at r1 r2 r3 r4 o1 o2' o4 r5' ⊢
    have e3 : z.2.1 12 1 + z.1 = CT y.2 := by
      have := r1.2.2.2.2.2.2.2.1
      omega
    rw [e3]
    by_cases hz0 : z.1 = 0
    · have hy0 : y.1 = 0 := by
        by_cases w : y.1 = 0
        · exact w
        · have := r3.mp w; omega
      have e1 : f_cutsL N' y = y.2 := by
        cases N' with
        | zero => rfl
        | succ N' => simp only [f_cutsL]; rw [if_neg (by omega)]
      have e2 : m_cutAll M' (z.1, gA z.2 12 1 (CT y.2)) = gA z.2 12 1 (CT y.2) := by
        cases M' with
        | zero => rfl
        | succ M' => simp only [m_cutAll]; rw [if_neg (by omega)]
      rw [e1, e2]
      exact RC_q r1
    · have hy1 : y.1 ≠ 0 := r3.mpr (by omega)
      exact ih N' M' y.1 z.1 y.2 (gA z.2 12 1 (CT y.2)) (RC_q r1) (MI2_went r2 _ _) (by show SU z.2 ≤ _; omega) (by omega) (by omega) hy1 (by omega)
