/-! A MINUTE: what HEAT can be: blending, cooling -/
theorem qdn {x q : Int64} (hx : -1000000000000 ≤ x.toInt ∧ x.toInt ≤ 0) (hq : 0 ≤ q.toInt ∧ q.toInt ≤ 1000) : x.toInt ≤ (x * q / 1000).toInt ∧ (x * q / 1000).toInt ≤ 0 := by
  have e : Int64.toInt 1000 = 1000 := rfl
  have hb := mulN (a := -x.toInt) (b := q.toInt) (A := 1000000000000) (B := 1000) (by omega) (by omega) hq.1 hq.2
  have h2 : -x.toInt * q.toInt ≤ -x.toInt * 1000 := Int.mul_le_mul_of_nonneg_left hq.2 (by omega)
  have hn : x.toInt * q.toInt = -(-x.toInt * q.toInt) := by rw [Int.neg_mul, Int.neg_neg]
  have hm : (x * q).toInt = -(-x.toInt * q.toInt) := by rw [l_mul (by omega), hn]
  generalize hA : -x.toInt * q.toInt = A at *
  have hd : (x * q / 1000).toInt = -(A / 1000) := by
    rw [Int64.toInt_div, hm, e, Int.neg_tdiv, Int.tdiv_eq_ediv_of_nonneg hb.1, Int.bmod_def]
    split <;> omega
  rw [hd]; omega
theorem bl_ok {M : Int} {r : Nat → Int64} {m : Int64} (h : rOK M r) (hm : 0 ≤ m.toInt ∧ m.toInt ≤ 1000) : ∀ k, k ≤ 7 → rOK M (blS r m k) := by
  intro k
  induction k with
  | zero => intro _; exact h
  | succ k ih =>
    intro hk
    have hi := ih (by omega)
    have hl := rOK_le hi
    obtain ⟨h1, h2, h3⟩ := hi
    generalize hu : blS r m k = u at *
    have a0 := hl k (by omega)
    have a1 := hl (k + 1) (by omega)
    have sd : (u k - u (k + 1)).toInt = (u k).toInt - (u (k + 1)).toInt := l_sub (by omega)
    have gb : ((u k).toInt ≥ (u (k + 1)).toInt → 0 ≤ (blG u m k).toInt ∧ (blG u m k).toInt ≤ (u k).toInt - (u (k + 1)).toInt) ∧ ((u k).toInt ≤ (u (k + 1)).toInt → (u k).toInt - (u (k + 1)).toInt ≤ (blG u m k).toInt ∧ (blG u m k).toInt ≤ 0) := by
      refine ⟨fun c => ?_, fun c => ?_⟩
      · have := qd (x := u k - u (k + 1)) (q := m) (by omega) hm
        rw [sd] at this; exact this.2
      · have := qdn (x := u k - u (k + 1)) (q := m) (by omega) hm
        rw [sd] at this; exact this
    have s0 : (u k - blG u m k).toInt = (u k).toInt - (blG u m k).toInt := l_sub (by omega)
    have s1 : (u (k + 1) + blG u m k).toInt = (u (k + 1)).toInt + (blG u m k).toInt := l_add (by omega)
    have e : ∀ i, blS r m (k + 1) i = if i = k + 1 then u (k + 1) + blG u m k else if i = k then u k - blG u m k else u i := fun i => by rw [← hu]; rfl
    have E : ∀ i, (blS r m (k + 1) i).toInt = if i = k + 1 then (u (k + 1)).toInt + (blG u m k).toInt else if i = k then (u k).toInt - (blG u m k).toInt else (u i).toInt := by
      intro i
      rw [e i]
      by_cases a : i = k + 1
      · rw [if_pos a, if_pos a, s1]
      · rw [if_neg a, if_neg a]
        by_cases b : i = k
        · rw [if_pos b, if_pos b, s0]
        · rw [if_neg b, if_neg b]
    refine ⟨fun i hi => ?_, ?_, h3⟩
    · rw [E i]
      by_cases a : i = k + 1
      · rw [if_pos a]; omega
      · rw [if_neg a]
        by_cases b : i = k
        · rw [if_pos b]; omega
        · rw [if_neg b]; exact h1 i hi
    · unfold rS at h2 ⊢
      rw [E 0, E 1, E 2, E 3, E 4, E 5, E 6, E 7]
      have : k = 0 ∨ k = 1 ∨ k = 2 ∨ k = 3 ∨ k = 4 ∨ k = 5 ∨ k = 6 := by omega
      rcases this with rfl | rfl | rfl | rfl | rfl | rfl | rfl <;> simp <;> omega
theorem cl_ok {M : Int} {r : Nat → Int64} {T : Nat → Int} (h : rOK M r) (ok : okT T) : rOK M (fun k => r k - clG T r k) := by
  have hl := rOK_le h
  obtain ⟨h1, h2, h3⟩ := h
  have hs : 0 ≤ T 3 ∧ T 3 ≤ 1000 := ⟨(ok 3 (by decide)).1, Int.le_trans (ok 3 (by decide)).2 (by decide)⟩
  have g : ∀ k, k < 8 → 0 ≤ (clG T r k).toInt ∧ (clG T r k).toInt ≤ (r k).toInt := by
    intro k hk
    have := hl k hk
    unfold clG skQ
    by_cases a : k < (T 0).toNat
    · rw [if_pos a]; exact (qd (by omega) (by rw [o_i (by omega)]; omega)).2
    · rw [if_neg a]; exact (qd (by omega) (by rw [o_i (by omega)]; omega)).2
  have e : ∀ k, k < 8 → (r k - clG T r k).toInt = (r k).toInt - (clG T r k).toInt := fun k hk => by
    have := g k hk; have := hl k hk
    exact l_sub (by omega)
  refine ⟨fun i hi => ?_, ?_, h3⟩
  · show 0 ≤ (r i - clG T r i).toInt
    rw [e i hi]; have := g i hi; omega
  · unfold rS at h2 ⊢
    show (r 0 - clG T r 0).toInt + (r 1 - clG T r 1).toInt + (r 2 - clG T r 2).toInt + (r 3 - clG T r 3).toInt + (r 4 - clG T r 4).toInt + (r 5 - clG T r 5).toInt + (r 6 - clG T r 6).toInt + (r 7 - clG T r 7).toInt ≤ M
    rw [e 0 (by decide), e 1 (by decide), e 2 (by decide), e 3 (by decide), e 4 (by decide), e 5 (by decide), e 6 (by decide), e 7 (by decide)]
    have := g 0 (by decide)
    have := g 1 (by decide)
    have := g 2 (by decide)
    have := g 3 (by decide)
    have := g 4 (by decide)
    have := g 5 (by decide)
    have := g 6 (by decide)
    have := g 7 (by decide)
    omega
