/-! A MINUTE: the bounds go over -/
def okM (m : Int) (W : Nat → Int64) : Prop := (∀ k, k < 8 → 0 ≤ (W (8 + k)).toInt) ∧ hSum W ≤ 8991 * (W 16).toInt ∧ (0 ≤ (W 16).toInt ∧ (W 16).toInt ≤ m) ∧ (0 ≤ (W 22).toInt ∧ (W 22).toInt ≤ 9) ∧ (0 ≤ (W 23).toInt ∧ (W 23).toInt ≤ 7) ∧ (0 ≤ (W 24).toInt ∧ (W 24).toInt ≤ 9) ∧ ((W 25).toInt = 0 ∨ (W 25).toInt = 1) ∧ (0 ≤ (W 26).toInt ∧ (W 26).toInt ≤ 8) ∧ (0 ≤ (W 27).toInt ∧ (W 27).toInt ≤ 8) ∧ (0 ≤ (W 28).toInt ∧ (W 28).toInt < 2147483648)
theorem okA_M {n : Nat} {W : Nat → Int64} : okA n W ↔ okM (1200 * (n : Int)) W := Iff.rfl
theorem okM_A {m : Int} {W : Nat → Int64} (h : okM m W) : okA (m.toNat / 1200 + 1) W := by
  obtain ⟨h1, h2, h3, h4⟩ := h
  exact ⟨h1, h2, ⟨h3.1, by omega⟩, h4⟩
theorem okM_mn {m : Int} {T : Nat → Int} {W : Nat → Int64} (h : okM m W) (ok : okT T) (hm : m ≤ 100000000) : okM (m + 1) (mnW T W) := by
  obtain ⟨h1, h2, h3, h4, h5⟩ := h
  have el1 : Int64.toInt 1 = 1 := rfl
  have el2 : Int64.toInt 2 = 2 := rfl
  obtain ⟨b0, b1, b2, b3, b4, b5, _⟩ := okT_b ok
  have b5 : 1 ≤ T 5 ∧ T 5 ≤ 999 := b5
  have bd := drW_b T W
  have r0 : rOK (8991 * (W 16).toInt) (fun k => W (8 + k)) := ⟨h1, h2, by omega⟩
  have hb := mulN (A := 700) (B := 100) (a := if drW T W < 0 then -drW T W else drW T W) (b := T 1) (by split <;> omega) (by split <;> omega) b1.1 b1.2
  have gB : (flB (drW T W)).toInt = if drW T W < 0 then -drW T W else drW T W := o_i (by split <;> omega)
  have gL : (flL T (drW T W)).toInt = (if drW T W < 0 then -drW T W else drW T W) * T 1 / 100 := o_i (by omega)
  have hB : 0 ≤ (flB (drW T W)).toInt ∧ (flB (drW T W)).toInt ≤ 1000 := by rw [gB]; split <;> omega
  have hL : 0 ≤ (flL T (drW T W)).toInt ∧ (flL T (drW T W)).toInt ≤ (flB (drW T W)).toInt := by
    rw [gL, gB]
    rw [gB] at hB
    generalize hx : (if drW T W < 0 then -drW T W else drW T W) = x at *
    have : x * T 1 ≤ x * 100 := Int.mul_le_mul_of_nonneg_left b1.2 hB.1
    omega
  have r1 : rOK (8991 * (W 16).toInt) (flR T (drW T W) (fun k => W (8 + k))) := by
    by_cases c : drW T W < 0
    · have e : flR T (drW T W) (fun k => W (8 + k)) = dnR (fun k => W (8 + k)) (T 0).toNat (flB (drW T W)) (flL T (drW T W)) := by
        funext i; unfold flR; rw [if_pos c]
      rw [e]; exact dnR_ok r0 (by omega) hB hL
    · have e : flR T (drW T W) (fun k => W (8 + k)) = upR (fun k => W (8 + k)) (T 0).toNat (flB (drW T W)) (flL T (drW T W)) := by
        funext i; unfold flR; rw [if_neg c]
      rw [e]; exact upR_ok r0 hB (by omega)
  have r2 : rOK (8991 * (W 16).toInt) (mnH T W) := bl_ok r1 (by rw [o_i (by omega)]; omega) 7 (by decide)
  have r3 := cl_ok r2 ok
  have hl := rOK_le r3
  have hw := mulN (A := 9) (B := 999) h4.1 h4.2 (show 0 ≤ T 5 by omega) b5.2
  have wa : (waQ T W).toInt = (W 22).toInt * T 5 := by
    unfold waQ
    rw [l_mul (by rw [o_i (by omega)]; omega), o_i (by omega)]
  have w2 : (waQ T W / 2).toInt = (W 22).toInt * T 5 / 2 := by rw [l_div (by omega) (by rw [el2]; decide), wa, el2]
  have w3 : (waQ T W - waQ T W / 2).toInt = (W 22).toInt * T 5 - (W 22).toInt * T 5 / 2 := by rw [l_sub (by rw [wa, w2]; omega), wa, w2]
  generalize hx : (W 22).toInt * T 5 = x at *
  have e5 : (buH T W (fun k => mnH T W k - clG T (mnH T W) k) 5).toInt = (mnH T W 5 - clG T (mnH T W) 5).toInt + (x - x / 2) := by
    show (mnH T W 5 - clG T (mnH T W) 5 + (waQ T W - waQ T W / 2)).toInt = _
    have : 0 ≤ (mnH T W 5 - clG T (mnH T W) 5).toInt ∧ (mnH T W 5 - clG T (mnH T W) 5).toInt ≤ 8991 * (W 16).toInt := hl 5 (by decide)
    rw [l_add (by rw [w3]; omega), w3]
  have e1 : (buH T W (fun k => mnH T W k - clG T (mnH T W) k) 1).toInt = (mnH T W 1 - clG T (mnH T W) 1).toInt + x / 2 := by
    show (mnH T W 1 - clG T (mnH T W) 1 + waQ T W / 2).toInt = _
    have : 0 ≤ (mnH T W 1 - clG T (mnH T W) 1).toInt ∧ (mnH T W 1 - clG T (mnH T W) 1).toInt ≤ 8991 * (W 16).toInt := hl 1 (by decide)
    rw [l_add (by rw [w2]; omega), w2]
  have en : ∀ i, i ≠ 5 → i ≠ 1 → buH T W (fun k => mnH T W k - clG T (mnH T W) k) i = mnH T W i - clG T (mnH T W) i := fun i z1 z2 => by unfold buH; rw [if_neg z1, if_neg z2]
  have emn : ∀ k, k < 8 → mnW T W (8 + k) = buH T W (fun k => mnH T W k - clG T (mnH T W) k) k := fun k hk => by
    unfold mnW; rw [if_neg (show ¬ 8 + k < 8 by omega), if_pos (show 8 + k < 16 by omega), Nat.add_sub_cancel_left]
  have e16 : (mnW T W 16).toInt = (W 16).toInt + 1 := by
    show (W 16 + 1).toInt = _
    rw [l_add (by rw [el1]; omega), el1]
  refine ⟨fun k hk => ?_, ?_, by rw [e16]; omega, h4, h5⟩
  · rw [emn k hk]
    have q : 0 ≤ (mnH T W k - clG T (mnH T W) k).toInt := r3.1 k hk
    by_cases a : k = 5
    · rw [a] at q ⊢; rw [e5]; omega
    · by_cases b : k = 1
      · rw [b] at q ⊢; rw [e1]; omega
      · rw [en k a b]; exact q
  · have hs := r3.2.1
    unfold rS at hs
    unfold hSum
    rw [e16, emn 0 (by decide), emn 1 (by decide), emn 2 (by decide), emn 3 (by decide), emn 4 (by decide), emn 5 (by decide), emn 6 (by decide), emn 7 (by decide), e1, e5, en 0 (by decide) (by decide), en 2 (by decide) (by decide), en 3 (by decide) (by decide), en 4 (by decide) (by decide), en 6 (by decide) (by decide), en 7 (by decide) (by decide)]
    simp only [] at hs
    omega
