/-! A MINUTE: what HEAT can be -/
theorem o_i {x : Int} (h : -9223372036854775808 ≤ x ∧ x < 9223372036854775808) : (Int64.ofInt x).toInt = x := Int64.toInt_ofInt_of_le (by omega) (by omega)
def rS (r : Nat → Int64) : Int := (r 0).toInt + (r 1).toInt + (r 2).toInt + (r 3).toInt + (r 4).toInt + (r 5).toInt + (r 6).toInt + (r 7).toInt
def rOK (M : Int) (r : Nat → Int64) : Prop := (∀ i, i < 8 → 0 ≤ (r i).toInt) ∧ rS r ≤ M ∧ M ≤ 1000000000000
theorem rOK_le {M : Int} {r : Nat → Int64} (h : rOK M r) : ∀ i, i < 8 → 0 ≤ (r i).toInt ∧ (r i).toInt ≤ M := by
  intro i hi
  obtain ⟨h1, h2, h3⟩ := h
  have a0 := h1 0 (by decide)
  have a1 := h1 1 (by decide)
  have a2 := h1 2 (by decide)
  have a3 := h1 3 (by decide)
  have a4 := h1 4 (by decide)
  have a5 := h1 5 (by decide)
  have a6 := h1 6 (by decide)
  have a7 := h1 7 (by decide)
  unfold rS at h2
  have : i = 0 ∨ i = 1 ∨ i = 2 ∨ i = 3 ∨ i = 4 ∨ i = 5 ∨ i = 6 ∨ i = 7 := by omega
  rcases this with rfl | rfl | rfl | rfl | rfl | rfl | rfl | rfl <;> omega
theorem qd {x q : Int64} (hx : 0 ≤ x.toInt ∧ x.toInt ≤ 1000000000000) (hq : 0 ≤ q.toInt ∧ q.toInt ≤ 1000) : (x * q / 1000).toInt = x.toInt * q.toInt / 1000 ∧ 0 ≤ (x * q / 1000).toInt ∧ (x * q / 1000).toInt ≤ x.toInt := by
  have e : Int64.toInt 1000 = 1000 := rfl
  have hb := mulN hx.1 hx.2 hq.1 hq.2
  have h2 : x.toInt * q.toInt ≤ x.toInt * 1000 := Int.mul_le_mul_of_nonneg_left hq.2 hx.1
  have hm : (x * q).toInt = x.toInt * q.toInt := l_mul (by omega)
  have hd : (x * q / 1000).toInt = x.toInt * q.toInt / 1000 := by rw [l_div (by rw [hm]; omega) (by rw [e]; decide), hm, e]
  rw [hd]
  exact ⟨rfl, by omega, by omega⟩
theorem upR_ok {M : Int} {r : Nat → Int64} {c : Nat} {B L : Int64} (h : rOK M r) (hB : 0 ≤ B.toInt ∧ B.toInt ≤ 1000) (hL : 0 ≤ L.toInt ∧ L.toInt ≤ 1000) : rOK M (upR r c B L) := by
  have hl := rOK_le h
  obtain ⟨h1, h2, h3⟩ := h
  have g : ∀ k, k < 8 → 0 ≤ (upG r c B L k).toInt ∧ (upG r c B L k).toInt ≤ (r k).toInt := by
    intro k hk
    have := hl k hk
    unfold upG
    by_cases a : k < c
    · rw [if_pos a]; exact (qd (by omega) hL).2
    · rw [if_neg a]; exact (qd (by omega) hB).2
  have e0 : (upR r c B L 0).toInt = (r 0).toInt - (upG r c B L 0).toInt := by
    have := g 0 (by decide); have := hl 0 (by decide)
    show (r 0 - upG r c B L 0).toInt = _
    rw [l_sub (by omega)]
  have e : ∀ k, k < 7 → (upR r c B L (k + 1)).toInt = (r (k + 1)).toInt - (upG r c B L (k + 1)).toInt + (upG r c B L k).toInt := by
    intro k hk
    have := g k (by omega); have := hl k (by omega); have := g (k + 1) (by omega); have := hl (k + 1) (by omega)
    unfold upR
    rw [if_neg (show ¬ k + 1 = 0 by omega), Nat.add_sub_cancel]
    have s : (r (k + 1) - upG r c B L (k + 1)).toInt = (r (k + 1)).toInt - (upG r c B L (k + 1)).toInt := l_sub (by omega)
    rw [l_add (by rw [s]; omega), s]
  refine ⟨fun i hi => ?_, ?_, h3⟩
  · by_cases a : i = 0
    · have := g 0 (by decide); rw [a, e0]; omega
    · have := e (i - 1) (by omega)
      rw [show i - 1 + 1 = i by omega] at this
      have := g i hi; have := g (i - 1) (by omega)
      omega
  · have := g 7 (by decide)
    have q0 : (upR r c B L 1).toInt = (r 1).toInt - (upG r c B L 1).toInt + (upG r c B L 0).toInt := e 0 (by decide)
    have q1 : (upR r c B L 2).toInt = (r 2).toInt - (upG r c B L 2).toInt + (upG r c B L 1).toInt := e 1 (by decide)
    have q2 : (upR r c B L 3).toInt = (r 3).toInt - (upG r c B L 3).toInt + (upG r c B L 2).toInt := e 2 (by decide)
    have q3 : (upR r c B L 4).toInt = (r 4).toInt - (upG r c B L 4).toInt + (upG r c B L 3).toInt := e 3 (by decide)
    have q4 : (upR r c B L 5).toInt = (r 5).toInt - (upG r c B L 5).toInt + (upG r c B L 4).toInt := e 4 (by decide)
    have q5 : (upR r c B L 6).toInt = (r 6).toInt - (upG r c B L 6).toInt + (upG r c B L 5).toInt := e 5 (by decide)
    have q6 : (upR r c B L 7).toInt = (r 7).toInt - (upG r c B L 7).toInt + (upG r c B L 6).toInt := e 6 (by decide)
    unfold rS at h2 ⊢
    omega
theorem dnR_ok {M : Int} {r : Nat → Int64} {c : Nat} {B L : Int64} (h : rOK M r) (h7 : c ≤ 6) (hB : 0 ≤ B.toInt ∧ B.toInt ≤ 1000) (hL : 0 ≤ L.toInt ∧ L.toInt ≤ B.toInt) : rOK M (dnR r c B L) := by
  have hl := rOK_le h
  obtain ⟨h1, h2, h3⟩ := h
  have g : ∀ k, k < 7 → 0 ≤ (dnG r c B L k).toInt ∧ (dnG r c B L k).toInt ≤ (r (k + 1)).toInt := by
    intro k hk
    have := hl (k + 1) (by omega)
    unfold dnG
    by_cases a : k < c
    · rw [if_pos a]; exact (qd (by omega) (by omega)).2
    · rw [if_neg a]; exact (qd (by omega) hB).2
  have gF : 0 ≤ (dnF r c B L).toInt ∧ (dnF r c B L).toInt ≤ (r 0).toInt := by
    have := hl 0 (by decide)
    unfold dnF
    by_cases a : c = 0
    · rw [if_pos a]; exact (qd (by omega) hB).2
    · rw [if_neg a]; exact (qd (by omega) (by omega)).2
  have gC : c ≠ 0 → 0 ≤ (dnC r c B L).toInt ∧ (dnC r c B L).toInt + (dnG r c B L (c - 1)).toInt ≤ (r c).toInt := by
    intro c0
    have hc := hl c (by omega)
    have sb : (B - L).toInt = B.toInt - L.toInt := l_sub (by omega)
    have a1 := qd (x := r c) (q := B - L) (by omega) (by rw [sb]; omega)
    have a2 := qd (x := r c) (q := L) (by omega) (by omega)
    have e1 : dnC r c B L = r c * (B - L) / 1000 := by unfold dnC; rw [if_neg c0]
    have e2 : dnG r c B L (c - 1) = r c * L / 1000 := by unfold dnG; rw [if_pos (show c - 1 < c by omega), show c - 1 + 1 = c by omega]
    rw [e1, e2]
    refine ⟨a1.2.1, ?_⟩
    rw [a1.1, a2.1, sb]
    have m1 : (r c).toInt * (B.toInt - L.toInt) + (r c).toInt * L.toInt = (r c).toInt * B.toInt := by
      rw [← Int.mul_add]; congr 1; omega
    have m2 : (r c).toInt * B.toInt ≤ (r c).toInt * 1000 := Int.mul_le_mul_of_nonneg_left hB.2 hc.1
    omega
  have e7 : ∀ i, i < 8 → (dnS r c B L 7 i).toInt = (r i).toInt - (if i = 0 then 0 else (dnG r c B L (i - 1)).toInt) + (if i < 7 then (dnG r c B L i).toInt else 0) := by
    intro i hi
    unfold dnS
    have := hl i hi
    by_cases a : i < 7
    · have := g i a
      have := hl (i + 1) (by omega)
      rw [if_pos a, if_pos a]
      by_cases b : i = 0
      · rw [if_pos b, if_pos b]
        subst b
        rw [l_add (by omega)]; omega
      · rw [if_neg b, if_neg b]
        have q1 := g (i - 1) (by omega)
        rw [show i - 1 + 1 = i by omega] at q1
        have s : (r i - dnG r c B L (i - 1)).toInt = (r i).toInt - (dnG r c B L (i - 1)).toInt := l_sub (by omega)
        have := hl (i + 1) (by omega)
        rw [l_add (by rw [s]; omega), s]
    · have b : i = 7 := by omega
      subst b
      rw [if_neg a, if_neg a, if_pos ⟨rfl, by decide⟩, if_neg (by decide)]
      have q1 : 0 ≤ (dnG r c B L (7 - 1)).toInt ∧ (dnG r c B L (7 - 1)).toInt ≤ (r 7).toInt := g 6 (by decide)
      rw [l_sub (by omega)]; omega
  have hC0 : c = 0 → (dnC r c B L).toInt = 0 := fun c0 => by unfold dnC; rw [if_pos c0]; rfl
  have b7 : ∀ i, i < 8 → 0 ≤ (dnS r c B L 7 i).toInt ∧ (dnS r c B L 7 i).toInt ≤ 3000000000000 := by
    intro i hi
    rw [e7 i hi]
    have := hl i hi
    by_cases a : i = 0
    · rw [if_pos a]
      by_cases b : i < 7
      · rw [if_pos b]; have := g i b; have := hl (i + 1) (by omega); omega
      · rw [if_neg b]; omega
    · rw [if_neg a]
      have q1 := g (i - 1) (by omega)
      rw [show i - 1 + 1 = i by omega] at q1
      by_cases b : i < 7
      · rw [if_pos b]; have := g i b; have := hl (i + 1) (by omega); omega
      · rw [if_neg b]; omega
  have bC : -1 ≤ (dnC r c B L).toInt ∧ (dnC r c B L).toInt ≤ 1000000000000 := by
    by_cases c0 : c = 0
    · rw [hC0 c0]; omega
    · have := gC c0; have := hl c (by omega); have := g (c - 1) (by omega); omega
  have e : ∀ i, i < 8 → (dnR r c B L i).toInt = (dnS r c B L 7 i).toInt - (if i = 0 then (dnF r c B L).toInt else 0) - (if i = c then (dnC r c B L).toInt else 0) := by
    intro i hi
    have q1 := b7 i hi
    have q2 := hl 0 (by decide)
    unfold dnR
    by_cases a : i = 0
    · rw [if_pos a, if_pos a, a]
      rw [a] at q1
      by_cases c0 : c = 0
      · rw [if_pos c0, if_pos c0.symm]
        have s : (dnS r c B L 7 0 - dnC r c B L).toInt = (dnS r c B L 7 0).toInt - (dnC r c B L).toInt := l_sub (by omega)
        rw [l_sub (by rw [s]; omega), s]; omega
      · rw [if_neg c0, if_neg (Ne.symm c0), l_sub (by omega)]; omega
    · rw [if_neg a, if_neg a]
      by_cases c0 : i = c
      · rw [if_pos c0, if_pos c0, l_sub (by omega)]; omega
      · rw [if_neg c0, if_neg c0]; omega
  refine ⟨fun i hi => ?_, ?_, h3⟩
  · rw [e i hi, e7 i hi]
    have := hl i hi
    by_cases a : i = 0
    · rw [if_pos a, if_pos a, if_pos (show i < 7 by omega)]
      have := g i (by omega)
      rw [a] at *
      by_cases c0 : (0 : Nat) = c
      · rw [if_pos c0, hC0 c0.symm]; omega
      · rw [if_neg c0]; omega
    · rw [if_neg a, if_neg a]
      have q1 := g (i - 1) (by omega)
      rw [show i - 1 + 1 = i by omega] at q1
      have q2 : 0 ≤ (if i < 7 then (dnG r c B L i).toInt else 0) := by
        by_cases b : i < 7
        · rw [if_pos b]; exact (g i b).1
        · rw [if_neg b]; omega
      by_cases c0 : i = c
      · rw [if_pos c0]
        have := gC (by omega)
        subst c0; omega
      · rw [if_neg c0]; omega
  · have q0 : (dnS r c B L 7 0).toInt = (r 0).toInt - 0 + (dnG r c B L 0).toInt := e7 0 (by decide)
    have q7 : (dnS r c B L 7 7).toInt = (r 7).toInt - (dnG r c B L 6).toInt + 0 := e7 7 (by decide)
    have q1 : (dnS r c B L 7 1).toInt = (r 1).toInt - (dnG r c B L 0).toInt + (dnG r c B L 1).toInt := e7 1 (by decide)
    have q2 : (dnS r c B L 7 2).toInt = (r 2).toInt - (dnG r c B L 1).toInt + (dnG r c B L 2).toInt := e7 2 (by decide)
    have q3 : (dnS r c B L 7 3).toInt = (r 3).toInt - (dnG r c B L 2).toInt + (dnG r c B L 3).toInt := e7 3 (by decide)
    have q4 : (dnS r c B L 7 4).toInt = (r 4).toInt - (dnG r c B L 3).toInt + (dnG r c B L 4).toInt := e7 4 (by decide)
    have q5 : (dnS r c B L 7 5).toInt = (r 5).toInt - (dnG r c B L 4).toInt + (dnG r c B L 5).toInt := e7 5 (by decide)
    have q6 : (dnS r c B L 7 6).toInt = (r 6).toInt - (dnG r c B L 5).toInt + (dnG r c B L 6).toInt := e7 6 (by decide)
    have le : ∀ i, i < 8 → (dnR r c B L i).toInt ≤ (dnS r c B L 7 i).toInt := by
      intro i hi
      rw [e i hi]
      have x1 : 0 ≤ (if i = 0 then (dnF r c B L).toInt else 0) := by
        by_cases a : i = 0
        · rw [if_pos a]; exact gF.1
        · rw [if_neg a]; omega
      have x2 : 0 ≤ (if i = c then (dnC r c B L).toInt else 0) := by
        by_cases a : i = c
        · rw [if_pos a]
          by_cases c0 : c = 0
          · rw [hC0 c0]; omega
          · exact (gC c0).1
        · rw [if_neg a]; omega
      omega
    have l0 := le 0 (by decide)
    have l1 := le 1 (by decide)
    have l2 := le 2 (by decide)
    have l3 := le 3 (by decide)
    have l4 := le 4 (by decide)
    have l5 := le 5 (by decide)
    have l6 := le 6 (by decide)
    have l7 := le 7 (by decide)
    unfold rS at h2 ⊢
    omega
