/-! SETTLING: the class house by house, the reference trade by trade -/
theorem SZ_add (n : Nat) (G K : Int → Int) : SZ n (fun t => G t + K t) = SZ n G + SZ n K := by
  induction n with
  | zero => rfl
  | succ n ih => rw [SZ_succ, SZ_succ, SZ_succ, ih]; omega
theorem f_settleS_6 (h t : Int) (u : GS) (i : Int) : (f_settleS h t u).1 6 i = if i = h then u.1 6 h - (if u.1 11 t = h then u.1 13 t * u.1 15 t + u.1 14 t else 0) + (if u.1 12 t = h then u.1 13 t * u.1 15 t else 0) else u.1 6 i := by
  have eA : ∀ i, (f_settleA h t u).1 6 i = if i = h then u.1 6 h - (if u.1 11 t = h then u.1 13 t * u.1 15 t + u.1 14 t else 0) else u.1 6 i := by
    intro i
    unfold f_settleA
    by_cases a : u.1 11 t = h
    · rw [if_pos a, if_pos a]; rfl
    · rw [if_neg a, if_neg a]
      split
      · next e => rw [e]; omega
      · rfl
  show (f_settleB h t (f_settleA h t u)).1 6 i = _
  have e12 := f_settleA_1 h t u 12 (by decide) (by decide)
  have e13 := f_settleA_1 h t u 13 (by decide) (by decide)
  have e15 := f_settleA_1 h t u 15 (by decide) (by decide)
  have eB : (f_settleB h t (f_settleA h t u)).1 6 i = if i = h then (f_settleA h t u).1 6 h + (if u.1 12 t = h then u.1 13 t * u.1 15 t else 0) else (f_settleA h t u).1 6 i := by
    unfold f_settleB
    rw [e12, e13, e15]
    by_cases a : u.1 12 t = h
    · rw [if_pos a, if_pos a]; rfl
    · rw [if_neg a, if_neg a]
      split
      · next e => rw [e]; omega
      · rfl
  rw [eB, eA, eA, if_pos rfl]
  split <;> rfl
/-- units times price, of a seller's, of a buyer's trades -/
def VS (v : GS) (i : Int) : Int := SZ (v.2 5).toNat (fun t => if v.1 11 t = i then v.1 13 t * v.1 15 t else 0)
def VB (v : GS) (i : Int) : Int := SZ (v.2 5).toNat (fun t => if v.1 12 t = i then v.1 13 t * v.1 15 t else 0)
theorem settle_val (v : GS) (h : Int) : (∀ i, (f_settle v h).1 7 i = if i = h then v.1 7 h + CS v h - CB v h else v.1 7 i) ∧ (∀ i, (f_settle v h).1 6 i = if i = h then v.1 6 h - VS v h - CS v h + VB v h else v.1 6 i) := by
  have key : ∀ n : Nat, (∀ i, (zfor n (f_settleS h) v).1 7 i = if i = h then v.1 7 h + SZ n (fun t => if v.1 11 t = h then v.1 14 t else 0) - SZ n (fun t => if v.1 12 t = h then v.1 14 t else 0) else v.1 7 i) ∧ (∀ i, (zfor n (f_settleS h) v).1 6 i = if i = h then v.1 6 h - SZ n (fun t => if v.1 11 t = h then v.1 13 t * v.1 15 t + v.1 14 t else 0) + SZ n (fun t => if v.1 12 t = h then v.1 13 t * v.1 15 t else 0) else v.1 6 i) := by
    intro n
    induction n with
    | zero =>
      refine ⟨fun i => ?_, fun i => ?_⟩
      · show v.1 7 i = if i = h then v.1 7 h + 0 - 0 else v.1 7 i
        split
        · next e => rw [e]; omega
        · rfl
      · show v.1 6 i = if i = h then v.1 6 h - 0 + 0 else v.1 6 i
        split
        · next e => rw [e]; omega
        · rfl
    | succ n ih =>
      obtain ⟨i1, i2⟩ := ih
      have k11 := f_settlek_1 h v n 11 (by decide) (by decide)
      have k12 := f_settlek_1 h v n 12 (by decide) (by decide)
      have k13 := f_settlek_1 h v n 13 (by decide) (by decide)
      have k14 := f_settlek_1 h v n 14 (by decide) (by decide)
      have k15 := f_settlek_1 h v n 15 (by decide) (by decide)
      refine ⟨fun i => ?_, fun i => ?_⟩
      · show (f_settleS h (n : Int) (zfor n (f_settleS h) v)).1 7 i = _
        rw [f_settleS_7, k11, k12, k14, i1 h, i1 i, SZ_succ, SZ_succ, if_pos rfl]
        split <;> omega
      · show (f_settleS h (n : Int) (zfor n (f_settleS h) v)).1 6 i = _
        rw [f_settleS_6, k11, k12, k13, k14, k15, i2 h, i2 i, SZ_succ, SZ_succ, if_pos rfl]
        split <;> omega
  obtain ⟨k1, k2⟩ := key (v.2 5).toNat
  refine ⟨k1, fun i => ?_⟩
  have := k2 i
  show (zfor (v.2 5).toNat (f_settleS h) v).1 6 i = _
  rw [this]
  have e : SZ (v.2 5).toNat (fun t => if v.1 11 t = h then v.1 13 t * v.1 15 t + v.1 14 t else 0) = VS v h + CS v h := by
    unfold VS CS
    rw [← SZ_add]
    refine SZ_congr (fun t _ _ => ?_)
    show (if v.1 11 t = h then v.1 13 t * v.1 15 t + v.1 14 t else 0) = (if v.1 11 t = h then v.1 13 t * v.1 15 t else 0) + (if v.1 11 t = h then v.1 14 t else 0)
    split <;> omega
  rw [e]
  have e2 : SZ (v.2 5).toNat (fun t => if v.1 12 t = h then v.1 13 t * v.1 15 t else 0) = VB v h := rfl
  rw [e2]
  split <;> omega
/-- the reference's settling -/
theorem set_val (x : GS) (hd : ∀ t, 0 ≤ t → t < x.2 5 → x.1 8 t ≠ x.1 9 t) : (∀ i, (m_set x).1 6 i = x.1 6 i - SZ (x.2 5).toNat (fun t => if x.1 8 t = i then x.1 10 t * x.1 11 t else 0) + SZ (x.2 5).toNat (fun t => if x.1 9 t = i then x.1 10 t * x.1 11 t else 0)) ∧ (∀ i, (m_set x).1 12 i = if i = 0 then x.1 12 0 + SZ (x.2 5).toNat (fun t => x.1 10 t) else x.1 12 i) := by
  have key : ∀ n : Nat, n ≤ (x.2 5).toNat → (∀ i, (zfor n m_setS x).1 6 i = x.1 6 i - SZ n (fun t => if x.1 8 t = i then x.1 10 t * x.1 11 t else 0) + SZ n (fun t => if x.1 9 t = i then x.1 10 t * x.1 11 t else 0)) ∧ (∀ i, (zfor n m_setS x).1 12 i = if i = 0 then x.1 12 0 + SZ n (fun t => x.1 10 t) else x.1 12 i) := by
    intro n
    induction n with
    | zero =>
      intro _
      refine ⟨fun i => ?_, fun i => ?_⟩
      · show x.1 6 i = x.1 6 i - 0 + 0; omega
      · show x.1 12 i = if i = 0 then x.1 12 0 + 0 else x.1 12 i
        split
        · next e => rw [e]; omega
        · rfl
    | succ n ih =>
      intro hn
      obtain ⟨i1, i2⟩ := ih (by omega)
      have hne := hd (n : Int) (by omega) (by omega)
      have k8 := m_setk_1 x n 8 (by decide) (by decide)
      have k9 := m_setk_1 x n 9 (by decide) (by decide)
      have k10 := m_setk_1 x n 10 (by decide) (by decide)
      have k11 := m_setk_1 x n 11 (by decide) (by decide)
      refine ⟨fun i => ?_, fun i => ?_⟩
      · show updZ (updZ ((zfor n m_setS x).1 6) ((zfor n m_setS x).1 9 (n : Int)) ((zfor n m_setS x).1 6 ((zfor n m_setS x).1 9 (n : Int)) + (zfor n m_setS x).1 10 (n : Int) * (zfor n m_setS x).1 11 (n : Int))) ((zfor n m_setS x).1 8 (n : Int)) (updZ ((zfor n m_setS x).1 6) ((zfor n m_setS x).1 9 (n : Int)) ((zfor n m_setS x).1 6 ((zfor n m_setS x).1 9 (n : Int)) + (zfor n m_setS x).1 10 (n : Int) * (zfor n m_setS x).1 11 (n : Int)) ((zfor n m_setS x).1 8 (n : Int)) - (zfor n m_setS x).1 10 (n : Int) * (zfor n m_setS x).1 11 (n : Int)) i = _
        rw [k8, k9, k10, k11, SZ_succ, SZ_succ]
        have w := i1 i
        generalize SZ n (fun t => if x.1 8 t = i then x.1 10 t * x.1 11 t else 0) = p1 at w ⊢
        generalize SZ n (fun t => if x.1 9 t = i then x.1 10 t * x.1 11 t else 0) = p2 at w ⊢
        generalize x.1 10 (n : Int) * x.1 11 (n : Int) = p3
        generalize (zfor n m_setS x).1 6 = f at w ⊢
        generalize x.1 8 (n : Int) = a at hne ⊢
        generalize x.1 9 (n : Int) = b at hne ⊢
        unfold updZ
        by_cases e : i = a
        · subst e
          repeat' split
          all_goals omega
        · by_cases e2 : i = b
          · subst e2
            repeat' split
            all_goals omega
          · repeat' split
            all_goals omega
      · show updZ ((zfor n m_setS x).1 12) 0 ((zfor n m_setS x).1 12 0 + (zfor n m_setS x).1 10 (n : Int)) i = _
        rw [k10, i2 0, if_pos rfl, SZ_succ]
        unfold updZ
        split
        · omega
        · next e => rw [i2 i, if_neg e]
  exact key (x.2 5).toNat (Nat.le_refl _)
/-! the class's counting -/
theorem count_val (v : GS) : (∀ i, (f_count v).1 10 i = if i = 0 then v.1 10 0 + SZ (v.2 5).toNat (fun t => v.1 13 t) else (if i = 1 then v.1 10 1 + CT v else v.1 10 i)) ∧ (f_count v).2 2 = v.2 2 - (v.1 10 1 + CT v) ∧ (∀ i, (f_count v).1 9 i = if 0 ≤ i ∧ i < 5 then f_flow v i else v.1 9 i) := by
  have key : ∀ n : Nat, ∀ i, (zfor n f_countS v).1 10 i = if i = 0 then v.1 10 0 + SZ n (fun t => v.1 13 t) else (if i = 1 then v.1 10 1 + SZ n (fun t => v.1 14 t) else v.1 10 i) := by
    intro n
    induction n with
    | zero =>
      intro i
      show v.1 10 i = if i = 0 then v.1 10 0 + 0 else (if i = 1 then v.1 10 1 + 0 else v.1 10 i)
      split
      · next e => rw [e]; omega
      · split
        · next e => rw [e]; omega
        · rfl
    | succ n ih =>
      intro i
      have k13 := f_countk_1 v n 13 (by decide)
      have k14 := f_countk_1 v n 14 (by decide)
      show updZ (updZ ((zfor n f_countS v).1 10) 0 ((zfor n f_countS v).1 10 0 + (zfor n f_countS v).1 13 (n : Int))) 1 (updZ ((zfor n f_countS v).1 10) 0 ((zfor n f_countS v).1 10 0 + (zfor n f_countS v).1 13 (n : Int)) 1 + (zfor n f_countS v).1 14 (n : Int)) i = _
      rw [k13, k14, SZ_succ, SZ_succ, updZ_n _ _ (show (1 : Int) ≠ 0 by omega)]
      have w0 := ih 0
      have w1 := ih 1
      have wi := ih i
      rw [if_pos rfl] at w0
      rw [if_neg (by omega), if_pos rfl] at w1
      rw [w0, w1]
      unfold updZ
      by_cases e : i = 1
      · rw [if_pos e, if_neg (by omega), if_pos e]; omega
      · rw [if_neg e]
        by_cases e2 : i = 0
        · rw [if_pos e2, if_pos e2]; omega
        · rw [if_neg e2, if_neg e2, if_neg e, wi, if_neg e2, if_neg e]
  have hP : f_count v = zfor 5 f_countF (f_countP (zfor (v.2 5).toNat f_countS v)) := rfl
  refine ⟨fun i => ?_, ?_, fun i => ?_⟩
  · rw [hP, f_countFk_1 _ _ 10 (by decide)]
    exact key (v.2 5).toNat i
  · rw [hP, f_countFk_2]
    show (zfor (v.2 5).toNat f_countS v).2 2 - (zfor (v.2 5).toNat f_countS v).1 10 1 = _
    rw [f_countk_2, key]
    rfl
  · have fl : ∀ (a b : GS) (k : Int), a.1 11 = b.1 11 → a.1 12 = b.1 12 → a.1 13 = b.1 13 → a.2 5 = b.2 5 → f_flow a k = f_flow b k := by
      intro a b k h1 h2 h3 h4; unfold f_flow; rw [h1, h2, h3, h4]
    have base : ∀ k : Int, f_flow (f_countP (zfor (v.2 5).toNat f_countS v)) k = f_flow v k := fun k => fl _ _ k (f_countk_1 v _ 11 (by decide)) (f_countk_1 v _ 12 (by decide)) (f_countk_1 v _ 13 (by decide)) (by show (zfor (v.2 5).toNat f_countS v).2 5 = _; rw [f_countk_2])
    have b9 : (f_countP (zfor (v.2 5).toNat f_countS v)).1 9 = v.1 9 := f_countk_1 v _ 9 (by decide)
    generalize f_countP (zfor (v.2 5).toNat f_countS v) = c at hP base b9
    have w := zfor_inv f_countF c (fun k a => (∀ j : Nat, j ≠ 9 → a.1 j = c.1 j) ∧ a.2 = c.2 ∧ ∀ i, a.1 9 i = if 0 ≤ i ∧ i < k then f_flow v i else v.1 9 i) 5 ⟨fun _ _ => rfl, rfl, fun i => by rw [if_neg (by omega), b9]⟩ (fun k a h0 h1 h => ⟨fun j hj => by show (gA a 9 k (f_flow a k)).1 j = _; rw [gA_1n _ _ _ hj]; exact h.1 j hj, h.2.1, fun i => by
      show updZ (a.1 9) k (f_flow a k) i = _
      unfold updZ
      split
      · next e =>
        rw [e, if_pos (show 0 ≤ k ∧ k < k + 1 by omega), fl a c k (h.1 11 (by decide)) (h.1 12 (by decide)) (h.1 13 (by decide)) (by rw [h.2.1]), base]
      · rw [h.2.2 i]
        by_cases q : 0 ≤ i ∧ i < k
        · rw [if_pos q, if_pos (show 0 ≤ i ∧ i < k + 1 by omega)]
        · rw [if_neg q, if_neg (show ¬ (0 ≤ i ∧ i < k + 1) by omega)]⟩) 5 (by omega)
    rw [hP]
    exact w.2.2 i
