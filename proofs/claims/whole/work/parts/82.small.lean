/-! THE SMALL PAIRS: the route, hides and pieces, what is gone -/
section
variable {d : Nat} {v : hV} {s s1 : hS}
/-- the route -/
def pD (s : hS) : Prop := ∃ R : Nat, R ≤ 24 ∧ (rI s 48 19) = nI R ∧ (rI s 145 52) = nI R ∧ ∀ k, k < R → ((rI s 131 k) = (rI s 179 k) ∧ 0 ≤ (rI s 179 k).toInt ∧ (rI s 179 k).toInt ≤ 30) ∧ (rI s 132 k) = (rI s 180 k) ∧ ((rI s 180 k).toInt = 0 ∨ (rI s 180 k).toInt = 1)
def fDr (c k : Nat) : Prop := (c = 48 ∧ k = 19) ∨ c = 131 ∨ c = 132 ∨ (c = 145 ∧ k = 52) ∨ c = 179 ∨ c = 180 ∨ c = 181
theorem th_stay (h : pD s) : prI fDr v (d + 1) 145 236 [] s pD := by
  obtain ⟨R, h1, h2, h3, h4⟩ := h
  refine st_S_stay ⟨(Fr.rf _ s).sI (Or.inl ⟨rfl, rfl⟩), st_M_stay ⟨?_, (Fr.rf _ _).sI (by unfold fDr; simp), 0, by decide, ?_, ?_, fun k hk => absurd hk (Nat.not_lt_zero k)⟩⟩
  · simp only [r_II, r_LL, r_LI, r_IL, r_IC, r_LC, r_ICL, r_LCI, Nat.reduceEqDiff, false_and, and_false, true_and, and_true, and_self, ↓reduceIte]; rw [h2, h3]
  · simp only [r_II, r_LL, r_LI, r_IL, r_IC, r_LC, r_ICL, r_LCI, Nat.reduceEqDiff, false_and, and_false, true_and, and_true, and_self, ↓reduceIte]; rfl
  · simp only [r_II, r_LL, r_LI, r_IL, r_IC, r_LC, r_ICL, r_LCI, Nat.reduceEqDiff, false_and, and_false, true_and, and_true, and_self, ↓reduceIte]; rfl
theorem th_month (h : pD s) (x y : Int32) (hy : y = 0 ∨ y = 1) : prI fDr v (d + 1) 144 235 [.int x, .int y] s pD := by
  have hs := h
  obtain ⟨R, h1, h2, h3, h4⟩ := h
  have el0 : Int64.toInt 0 = 0 := rfl
  have el30 : Int64.toInt 30 = 30 := rfl
  have hyi : y.toInt = 0 ∨ y.toInt = 1 := by rcases hy with rfl | rfl; exact Or.inl rfl; exact Or.inr rfl
  have eR : (nI R).toInt = R := nI_toInt (by omega)
  have O : ¬ (0 ≤ x.toInt ∧ x.toInt ≤ 30) → (Fr fDr s s ∧ pcI (d + 1) 235 [.ref 145, .int x, .int y] v s (fun x2 s2 => x2 = -1000000002 ∧ Fr fDr s s2 ∧ pD s2)) := fun hx => ⟨Fr.rf _ _, st_M_month (sp_in (fun _ => ⟨rfl, Fr.rf _ _, hs⟩) (fun z => absurd z hx))⟩
  refine st_S_month ⟨fun c => O (by omega), fun c => ⟨fun c2 => O (by omega), fun c2 => ?_⟩⟩
  rw [h2, eR, Int.toNat_natCast]
  refine ⟨fun c3 => ⟨by omega, ⟨by omega, hyi⟩, ?_⟩, fun c3 => ⟨Fr.rf _ _, st_M_month (sp_in (fun z => absurd (by rw [el0, el30]; omega) z) (fun _ => ⟨fun _ => ⟨rfl, Fr.rf _ _, hs⟩, fun c4 => absurd (by rw [h3, eR]; omega) c4⟩))⟩⟩
  have F : Fr fDr s (sI (sI (sI s 131 R x) 132 R y) 48 19 (nI R + 1)) := (((Fr.rf _ s).sI (by unfold fDr; simp)).sI (by unfold fDr; simp)).sI (by unfold fDr; simp)
  refine ⟨F, st_M_month (sp_in (fun z => absurd (by rw [el0, el30]; omega) z) (fun _ => ?_))⟩
  have e3 : rI (sI (sI (sI s 131 R x) 132 R y) 48 19 (nI R + 1)) 145 52 = nI R := by simp only [r_II, r_LL, r_LI, r_IL, r_IC, r_LC, r_ICL, r_LCI, Nat.reduceEqDiff, false_and, and_false, true_and, and_true, and_self, ↓reduceIte]; exact h3
  rw [e3, eR, Int.toNat_natCast, nI_1]
  refine ⟨fun c4 => absurd c4 (by omega), fun _ => ⟨by omega, ⟨by omega, hyi⟩, rfl, (((Fr.rf _ _).sI (by unfold fDr; simp)).sI (by unfold fDr; simp)).sI (by unfold fDr; simp), R + 1, by omega, ?_, ?_, fun k hk => ?_⟩⟩
  · simp only [r_II, r_LL, r_LI, r_IL, r_IC, r_LC, r_ICL, r_LCI, Nat.reduceEqDiff, false_and, and_false, true_and, and_true, and_self, ↓reduceIte]
  · simp only [r_II, r_LL, r_LI, r_IL, r_IC, r_LC, r_ICL, r_LCI, Nat.reduceEqDiff, false_and, and_false, true_and, and_true, and_self, ↓reduceIte]
  · simp only [r_II, r_LL, r_LI, r_IL, r_IC, r_LC, r_ICL, r_LCI, Nat.reduceEqDiff, false_and, and_false, true_and, and_true, and_self, ↓reduceIte]
    by_cases hk2 : k = R
    · rw [if_pos hk2, if_pos hk2, if_pos hk2, if_pos hk2]
      exact ⟨⟨rfl, by omega⟩, rfl, hyi⟩
    · rw [if_neg hk2, if_neg hk2, if_neg hk2, if_neg hk2]
      exact h4 k (by omega)
/-- hides and pieces -/
def pH (s : hS) : Prop := ∃ H P : Nat, H ≤ 8 ∧ P ≤ 8 ∧ (rI s 125 2) = nI H ∧ (rI s 145 44) = nI H ∧ (rI s 125 3) = nI P ∧ (rI s 145 46) = nI P ∧ (∀ k, k < H → (rI s 126 k) = (rI s 174 k) ∧ 1 ≤ (rI s 174 k).toInt ∧ (rI s 174 k).toInt ≤ 999) ∧ (∀ k, k < P → (rI s 127 k) = (rI s 175 k) ∧ 1 ≤ (rI s 175 k).toInt ∧ (rI s 175 k).toInt ≤ 999)
def fH (c k : Nat) : Prop := (125 ≤ c ∧ c ≤ 130) ∨ (c = 145 ∧ (k = 44 ∨ k = 46)) ∨ c = 174 ∨ c = 175 ∨ c = 176 ∨ c = 177 ∨ c = 178
/-- nothing is known of THE CUT -/
def pHn (s : hS) : Prop := (rI s 125 8) = 0
theorem th_scrap (h : pH s) : prI fH v (d + 1) 134 230 [] s (fun s2 => pH s2 ∧ pHn s2) := by
  obtain ⟨H, P, h1, h2, h3, h4, h5, h6, h7, h8⟩ := h
  refine st_S_scrap (st_Hides_empty ⟨(((Fr.rf _ s).sI (by unfold fH; simp)).sI (by unfold fH; simp)).sI (by unfold fH; simp), st_M_scrap ⟨?_, ((Fr.rf _ _).sI (by unfold fH; simp)).sI (by unfold fH; simp), ⟨0, 0, by decide, by decide, ?_, ?_, ?_, ?_, fun k hk => absurd hk (Nat.not_lt_zero k), fun k hk => absurd hk (Nat.not_lt_zero k)⟩, ?_⟩⟩)
  · simp only [r_II, r_LL, r_LI, r_IL, r_IC, r_LC, r_ICL, r_LCI, Nat.reduceEqDiff, false_and, and_false, true_and, and_true, and_self, ↓reduceIte]; rw [h3, h4, h5, h6]
  · simp only [r_II, r_LL, r_LI, r_IL, r_IC, r_LC, r_ICL, r_LCI, Nat.reduceEqDiff, false_and, and_false, true_and, and_true, and_self, ↓reduceIte]; rfl
  · simp only [r_II, r_LL, r_LI, r_IL, r_IC, r_LC, r_ICL, r_LCI, Nat.reduceEqDiff, false_and, and_false, true_and, and_true, and_self, ↓reduceIte]; rfl
  · simp only [r_II, r_LL, r_LI, r_IL, r_IC, r_LC, r_ICL, r_LCI, Nat.reduceEqDiff, false_and, and_false, true_and, and_true, and_self, ↓reduceIte]; rfl
  · simp only [r_II, r_LL, r_LI, r_IL, r_IC, r_LC, r_ICL, r_LCI, Nat.reduceEqDiff, false_and, and_false, true_and, and_true, and_self, ↓reduceIte]; rfl
  · unfold pHn; simp only [r_II, r_LL, r_LI, r_IL, r_IC, r_LC, r_ICL, r_LCI, Nat.reduceEqDiff, false_and, and_false, true_and, and_true, and_self, ↓reduceIte]
theorem th_hide (h : pH s) (x : Int32) : prI fH v (d + 1) 130 228 [.int x] s (fun s2 => pH s2 ∧ (s2 = s ∨ pHn s2)) := by
  have hs := h
  obtain ⟨H, P, h1, h2, h3, h4, h5, h6, h7, h8⟩ := h
  have el0 : Int64.toInt 1 = 1 := rfl
  have el30 : Int64.toInt 999 = 999 := rfl
  have eR : (nI H).toInt = H := nI_toInt (by omega)
  have O : ¬ (1 ≤ x.toInt ∧ x.toInt ≤ 999) → (Fr fH s s ∧ pcI (d + 1) 228 [.ref 145, .int x] v s (fun x2 s2 => x2 = -1000000002 ∧ Fr fH s s2 ∧ pH s2 ∧ (s2 = s ∨ pHn s2))) := fun hx => ⟨Fr.rf _ _, st_M_hide (sp_in (fun _ => ⟨rfl, Fr.rf _ _, hs, Or.inl rfl⟩) (fun z => absurd z hx))⟩
  refine st_S_hide ⟨fun c => O (by omega), fun c => ⟨fun c2 => O (by omega), fun c2 => ⟨fun c3 => ?_, fun c3 => ⟨Fr.rf _ _, st_M_hide (sp_in (fun z => absurd (by rw [el0, el30]; omega) z) (fun _ => ⟨fun _ => ⟨rfl, Fr.rf _ _, hs, Or.inl rfl⟩, fun c4 => absurd (by rw [h4, eR]; rw [h3, eR] at c3; omega) c4⟩))⟩⟩⟩⟩
  rw [h3, eR] at c3
  refine st_Hides_addHide ⟨fun _ => ?_, fun z => absurd (by rw [h3, eR]; omega) z⟩
  rw [h3, eR, Int.toNat_natCast, nI_1]
  refine ⟨by omega, (((Fr.rf _ s).sI (by unfold fH; simp)).sI (by unfold fH; simp)).sI (by unfold fH; simp), st_M_hide (sp_in (fun z => absurd (by rw [el0, el30]; omega) z) (fun _ => ?_))⟩
  have e3 : rI (sI (sI (sI s 125 8 0) 126 H x) 125 2 (nI (H + 1))) 145 44 = nI H := by simp only [r_II, r_LL, r_LI, r_IL, r_IC, r_LC, r_ICL, r_LCI, Nat.reduceEqDiff, false_and, and_false, true_and, and_true, and_self, ↓reduceIte]; exact h4
  rw [e3, eR, Int.toNat_natCast, nI_1]
  refine ⟨fun c4 => absurd c4 (by omega), fun _ => ⟨by omega, rfl, ((Fr.rf _ _).sI (by unfold fH; simp)).sI (by unfold fH; simp), ⟨H + 1, P, by omega, h2, ?_, ?_, ?_, ?_, fun k hk => ?_, fun k hk => ?_⟩, Or.inr ?_⟩⟩
  · simp only [r_II, r_LL, r_LI, r_IL, r_IC, r_LC, r_ICL, r_LCI, Nat.reduceEqDiff, false_and, and_false, true_and, and_true, and_self, ↓reduceIte]
  · simp only [r_II, r_LL, r_LI, r_IL, r_IC, r_LC, r_ICL, r_LCI, Nat.reduceEqDiff, false_and, and_false, true_and, and_true, and_self, ↓reduceIte]
  · simp only [r_II, r_LL, r_LI, r_IL, r_IC, r_LC, r_ICL, r_LCI, Nat.reduceEqDiff, false_and, and_false, true_and, and_true, and_self, ↓reduceIte]; exact h5
  · simp only [r_II, r_LL, r_LI, r_IL, r_IC, r_LC, r_ICL, r_LCI, Nat.reduceEqDiff, false_and, and_false, true_and, and_true, and_self, ↓reduceIte]; exact h6
  · simp only [r_II, r_LL, r_LI, r_IL, r_IC, r_LC, r_ICL, r_LCI, Nat.reduceEqDiff, false_and, and_false, true_and, and_true, and_self, ↓reduceIte]
    by_cases hk2 : k = H
    · rw [if_pos hk2, if_pos hk2]; exact ⟨rfl, by omega⟩
    · rw [if_neg hk2, if_neg hk2]; exact h7 k (by omega)
  · simp only [r_II, r_LL, r_LI, r_IL, r_IC, r_LC, r_ICL, r_LCI, Nat.reduceEqDiff, false_and, and_false, true_and, and_true, and_self, ↓reduceIte]; exact h8 k hk
  · unfold pHn; simp only [r_II, r_LL, r_LI, r_IL, r_IC, r_LC, r_ICL, r_LCI, Nat.reduceEqDiff, false_and, and_false, true_and, and_true, and_self, ↓reduceIte]
theorem th_piece (h : pH s) (x : Int32) : prI fH v (d + 1) 132 229 [.int x] s (fun s2 => pH s2 ∧ (s2 = s ∨ pHn s2)) := by
  have hs := h
  obtain ⟨H, P, h1, h2, h3, h4, h5, h6, h7, h8⟩ := h
  have el0 : Int64.toInt 1 = 1 := rfl
  have el30 : Int64.toInt 999 = 999 := rfl
  have eR : (nI P).toInt = P := nI_toInt (by omega)
  have O : ¬ (1 ≤ x.toInt ∧ x.toInt ≤ 999) → (Fr fH s s ∧ pcI (d + 1) 229 [.ref 145, .int x] v s (fun x2 s2 => x2 = -1000000002 ∧ Fr fH s s2 ∧ pH s2 ∧ (s2 = s ∨ pHn s2))) := fun hx => ⟨Fr.rf _ _, st_M_piece (sp_in (fun _ => ⟨rfl, Fr.rf _ _, hs, Or.inl rfl⟩) (fun z => absurd z hx))⟩
  refine st_S_piece ⟨fun c => O (by omega), fun c => ⟨fun c2 => O (by omega), fun c2 => ⟨fun c3 => ?_, fun c3 => ⟨Fr.rf _ _, st_M_piece (sp_in (fun z => absurd (by rw [el0, el30]; omega) z) (fun _ => ⟨fun _ => ⟨rfl, Fr.rf _ _, hs, Or.inl rfl⟩, fun c4 => absurd (by rw [h6, eR]; rw [h5, eR] at c3; omega) c4⟩))⟩⟩⟩⟩
  rw [h5, eR] at c3
  refine st_Hides_addPiece ⟨fun _ => ?_, fun z => absurd (by rw [h5, eR]; omega) z⟩
  rw [h5, eR, Int.toNat_natCast, nI_1]
  refine ⟨by omega, (((Fr.rf _ s).sI (by unfold fH; simp)).sI (by unfold fH; simp)).sI (by unfold fH; simp), st_M_piece (sp_in (fun z => absurd (by rw [el0, el30]; omega) z) (fun _ => ?_))⟩
  have e3 : rI (sI (sI (sI s 125 8 0) 127 P x) 125 3 (nI (P + 1))) 145 46 = nI P := by simp only [r_II, r_LL, r_LI, r_IL, r_IC, r_LC, r_ICL, r_LCI, Nat.reduceEqDiff, false_and, and_false, true_and, and_true, and_self, ↓reduceIte]; exact h6
  rw [e3, eR, Int.toNat_natCast, nI_1]
  refine ⟨fun c4 => absurd c4 (by omega), fun _ => ⟨by omega, rfl, ((Fr.rf _ _).sI (by unfold fH; simp)).sI (by unfold fH; simp), ⟨H, P + 1, h1, by omega, ?_, ?_, ?_, ?_, fun k hk => ?_, fun k hk => ?_⟩, Or.inr ?_⟩⟩
  · simp only [r_II, r_LL, r_LI, r_IL, r_IC, r_LC, r_ICL, r_LCI, Nat.reduceEqDiff, false_and, and_false, true_and, and_true, and_self, ↓reduceIte]; exact h3
  · simp only [r_II, r_LL, r_LI, r_IL, r_IC, r_LC, r_ICL, r_LCI, Nat.reduceEqDiff, false_and, and_false, true_and, and_true, and_self, ↓reduceIte]; exact h4
  · simp only [r_II, r_LL, r_LI, r_IL, r_IC, r_LC, r_ICL, r_LCI, Nat.reduceEqDiff, false_and, and_false, true_and, and_true, and_self, ↓reduceIte]
  · simp only [r_II, r_LL, r_LI, r_IL, r_IC, r_LC, r_ICL, r_LCI, Nat.reduceEqDiff, false_and, and_false, true_and, and_true, and_self, ↓reduceIte]
  · simp only [r_II, r_LL, r_LI, r_IL, r_IC, r_LC, r_ICL, r_LCI, Nat.reduceEqDiff, false_and, and_false, true_and, and_true, and_self, ↓reduceIte]; exact h7 k hk
  · simp only [r_II, r_LL, r_LI, r_IL, r_IC, r_LC, r_ICL, r_LCI, Nat.reduceEqDiff, false_and, and_false, true_and, and_true, and_self, ↓reduceIte]
    by_cases hk2 : k = P
    · rw [if_pos hk2, if_pos hk2]; exact ⟨rfl, by omega⟩
    · rw [if_neg hk2, if_neg hk2]; exact h8 k (by omega)
  · unfold pHn; simp only [r_II, r_LL, r_LI, r_IL, r_IC, r_LC, r_ICL, r_LCI, Nat.reduceEqDiff, false_and, and_false, true_and, and_true, and_self, ↓reduceIte]
/-- what is told of the latest STORM -/
def pG (s : hS) : Prop := ∃ N : Nat, N ≤ 32 ∧ (rI s 104 3) = nI N ∧ (rI s 145 26) = nI N ∧ ∀ i, i < N → ∃ g : Nat, g < 32 ∧ (rI s 161 i) = nI g ∧ (rI s 105 i) = nI (g / 16) ∧ (rI s 106 i) = nI (g % 16) ∧ (rI s 107 i) = (rL s 162 i).toInt32
def fG (c k : Nat) : Prop := (104 ≤ c ∧ c ≤ 107) ∨ c = 158 ∨ c = 159 ∨ c = 160 ∨ c = 161 ∨ c = 162 ∨ (c = 145 ∧ (k = 26 ∨ k = 27)) ∨ c = 163 ∨ c = 164
theorem th_gone (h : pG s) (i w : Int32) : prI fG v (d + 1) 109 212 [.int i, .int w] s (fun s2 => s2 = s) := by
  obtain ⟨N, h1, h2, h3, h4⟩ := h
  have el0 : Int64.toInt 0 = 0 := rfl
  have el2 : Int64.toInt 2 = 2 := rfl
  have e1 : Int32.toInt 1 = 1 := rfl
  have e16 : Int32.toInt 16 = 16 := rfl
  have eN : (nI N).toInt = N := nI_toInt (by omega)
  have eg : (((nI N) - 1).toInt64).toInt = N - 1 := by rw [i_64, i_sub (by rw [eN, e1]; omega), eN, e1]
  have O : ¬ (0 ≤ w.toInt ∧ w.toInt ≤ 2) → (Fr fG s s ∧ pcI (d + 1) 212 [.ref 145, .int i, .int w] v s (fun x2 s2 => x2 = -1000000002 ∧ Fr fG s s2 ∧ s2 = s)) := fun hx => ⟨Fr.rf _ _, st_M_gone (sp_in (fun _ => ⟨rfl, Fr.rf _ _, rfl⟩) (fun z => absurd z hx))⟩
  have O2 : (0 ≤ w.toInt ∧ w.toInt ≤ 2) → ¬ (0 ≤ i.toInt ∧ i.toInt < N) → (Fr fG s s ∧ pcI (d + 1) 212 [.ref 145, .int i, .int w] v s (fun x2 s2 => x2 = -1 ∧ Fr fG s s2 ∧ s2 = s)) := fun hw hx => ⟨Fr.rf _ _, st_M_gone (sp_in (fun z => absurd (by rw [el0, el2]; omega) z) (fun _ => sp_in (fun _ => ⟨rfl, Fr.rf _ _, rfl⟩) (fun z => absurd z (by rw [h3, eg, el0]; omega))))⟩
  refine st_S_gone ⟨fun c => O (by omega), fun c => ⟨fun c2 => O (by omega), fun c2 => ⟨fun c3 => O2 (by omega) (by omega), fun c3 => ?_⟩⟩⟩
  rw [h2, eN]
  refine ⟨fun c4 => ⟨fun c5 => ?_, fun c5 => absurd (by omega) c5⟩, fun c4 => O2 (by omega) (by omega)⟩
  have D : ∀ (K : Int32 → hS → Prop), (w.toInt = 0 → K (rI s 161 i.toInt.toNat / 16) s) → (w.toInt = 1 → K (rI s 161 i.toInt.toNat - rI s 161 i.toInt.toNat / 16 * 16) s) → (w.toInt = 2 → K (rL s 162 i.toInt.toNat).toInt32 s) → pcI (d + 1) 212 [.ref 145, .int i, .int w] v s K := by
    intro K k0 k1 k2
    refine st_M_gone (sp_in (fun z => absurd (by rw [el0, el2]; omega) z) (fun _ => sp_in (fun z => absurd (by rw [h3, eg, el0]; omega) z) (fun _ => ⟨fun z => ⟨by omega, k0 z⟩, fun z => ⟨fun z1 => ⟨by omega, k1 z1⟩, fun z1 => ⟨by omega, k2 (by omega)⟩⟩⟩)))
  obtain ⟨g, g1, g2, g3, g4, g5⟩ := h4 i.toInt.toNat (by omega)
  have eg1 : (nI g).toInt = g := nI_toInt (by omega)
  refine ⟨fun c6 => ⟨by omega, Fr.rf _ _, D _ (fun _ => ⟨?_, Fr.rf _ _, rfl⟩) (fun z => absurd z (by omega)) (fun z => absurd z (by omega))⟩, fun c6 => ⟨by omega, Fr.rf _ _, D _ (fun z => absurd z (by omega)) (fun _ => ⟨?_, Fr.rf _ _, rfl⟩) (fun z => absurd z (by omega))⟩, fun c6 => ⟨by omega, Fr.rf _ _, D _ (fun z => absurd (Or.inl z) c6) (fun z => absurd (Or.inr z) c6) (fun _ => ⟨g5.symm, Fr.rf _ _, rfl⟩)⟩⟩
  · rw [g3, g2]
    refine i_inj ?_
    rw [i_div (by omega) (by rw [e16]; decide), eg1, e16, nI_toInt (by omega)]; rfl
  · rw [g4, g2]
    refine i_inj ?_
    rw [i_rem (by omega) (by rw [e16]; decide), eg1, e16, nI_toInt (by omega)]; rfl
end
