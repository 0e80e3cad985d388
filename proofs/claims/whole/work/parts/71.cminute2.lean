/-! A MINUTE, in the class: burn, goMinute -/
def waQ (T : Nat → Int) (W : Nat → Int64) : Int64 := W 22 * Int64.ofInt (T 5)
def smQ (T : Nat → Int) (W : Nat → Int64) : Int64 := W 22 * Int64.ofInt (T 6) * (if (W 25).toInt = 1 then 2 else 1)
def buS (T : Nat → Int) (W : Nat → Int64) (r : Nat → Int64) (i : Nat) : Int64 := if i = 5 then r 5 + smQ T W else r i
def buH (T : Nat → Int) (W : Nat → Int64) (r : Nat → Int64) (i : Nat) : Int64 := if i = 5 then r 5 + (waQ T W - waQ T W / 2) else if i = 1 then r 1 + waQ T W / 2 else r i
/-- the rows behind a MINUTE -/
def mnS (T : Nat → Int) (W : Nat → Int64) : Nat → Int64 := blS (flR T (drW T W) (fun i => W i)) (Int64.ofInt (T 2)) 7
def mnH (T : Nat → Int) (W : Nat → Int64) : Nat → Int64 := blS (flR T (drW T W) (fun i => W (8 + i))) (Int64.ofInt (T 2)) 7
def mnW (T : Nat → Int) (W : Nat → Int64) (i : Nat) : Int64 :=
  if i < 8 then buS T W (mnS T W) i
  else if i < 16 then buH T W (fun k => mnH T W k - clG T (mnH T W) k) (i - 8)
  else if i = 16 then W 16 + 1
  else if i = 17 then W 17 + smQ T W
  else if i = 18 then W 18 + flO T (drW T W) (fun i => W i)
  else if i = 19 then W 19 + waQ T W
  else if i = 20 then W 20 + flO T (drW T W) (fun i => W (8 + i))
  else if i = 21 then lsS T (mnH T W) (W 21) 8
  else W i
def fMin (a c k : Nat) : Prop := c = a + 1 ∨ c = a + 2 ∨ (c = a ∧ 2 ≤ k ∧ k ≤ 7)
section
variable {d : Nat} {v : hV} {s s1 : hS} {r : Nat → Int64} {n : Nat} {T : Nat → Int} {W : Nat → Int64}
theorem tvC_fr {t : Nat} {F : Nat → Nat → Prop} (h : tvC t s T) (hf : Fr F s s1) (hw : ∀ k, k < 9 → ¬ F (t + 1) k) : tvC t s1 T := fun k hk => by rw [hf.i (hw k hk)]; exact h k hk
theorem tvM_fr {F : Nat → Nat → Prop} (h : tvM s T) (hf : Fr F s s1) (hw : ∀ k, k < 9 → ¬ F 148 k) : tvM s1 T := fun k hk => by rw [hf.i (hw k hk)]; exact h k hk
theorem sp_burn {t a : Nat} (ht : kT t) (ha : kA a) (hT : tvC t s T) {sm he : Nat → Int64} (hs : ∀ i, i < 8 → rL s (a + 1) i = sm i) (hh : ∀ i, i < 8 → rL s (a + 2) i = he i) (h22 : (rI s a 9).toInt64 = W 22) (h25 : (rI s a 12).toInt64 = W 25) (hw : (W 25).toInt = 0 ∨ (W 25).toInt = 1) {K : hS → Prop} (hK : ∀ s2, Fr (fun c k => c = a + 1 ∨ c = a + 2 ∨ (c = a ∧ (k = 2 ∨ k = 4))) s s2 → (∀ i, i < 8 → rL s2 (a + 1) i = buS T W sm i) → (∀ i, i < 8 → rL s2 (a + 2) i = buH T W he i) → rL s2 a 2 = rL s a 2 + smQ T W → rL s2 a 4 = rL s a 4 + waQ T W → K s2) : pcV (d + 1) 77 [.ref a, .ref t] v s K := by
  refine st_Air_burn ht ha (sp_of (k := 5) ht (by decide) hT (fun w1 h1 => sp_of (k := 6) ht (by decide) hT (fun w2 h2 => ?_)))
  have g1 : w1.toInt64 = Int64.ofInt (T 5) := l_of (by rw [i_64, h1])
  have g2 : w2.toInt64 = Int64.ofInt (T 6) := l_of (by rw [i_64, h2])
  have gw : (rI s a 12).toInt = (W 25).toInt := by rw [← h25, i_64]
  have F : ∀ z : Int64, z = smQ T W → K (sL (sL (sL (sL (sL s (a + 2) 1 ((rL s (a + 2) 1) + waQ T W / 2)) (a + 2) 5 ((rL s (a + 2) 5) + (waQ T W - waQ T W / 2))) (a + 1) 5 ((rL s (a + 1) 5) + z)) a 4 ((rL s a 4) + waQ T W)) a 2 ((rL s a 2) + z)) := by
    intro z hz
    subst hz
    refine hK _ ((((((Fr.rf (fun c k => c = a + 1 ∨ c = a + 2 ∨ (c = a ∧ (k = 2 ∨ k = 4))) s).sL (Or.inr (Or.inl rfl))).sL (Or.inr (Or.inl rfl))).sL (Or.inl rfl)).sL (Or.inr (Or.inr ⟨rfl, Or.inr rfl⟩))).sL (Or.inr (Or.inr ⟨rfl, Or.inl rfl⟩))) (fun i hi => ?_) (fun i hi => ?_) ?_ ?_
    · rw [r_LL, if_neg (by omega), r_LL, if_neg (by omega), r_LL, hs 5 (by decide)]
      unfold buS
      by_cases c : i = 5
      · rw [if_pos ⟨rfl, c⟩, if_pos c]
      · rw [if_neg (fun z => c z.2), if_neg c, r_LL, if_neg (by omega), r_LL, if_neg (by omega), hs i hi]
    · rw [r_LL, if_neg (by omega), r_LL, if_neg (by omega), r_LL, if_neg (by omega), r_LL, hh 5 (by decide)]
      unfold buH
      by_cases c : i = 5
      · rw [if_pos ⟨rfl, c⟩, if_pos c]
      · rw [if_neg (fun z => c z.2), if_neg c, r_LL, hh 1 (by decide)]
        by_cases c2 : i = 1
        · rw [if_pos ⟨rfl, c2⟩, if_pos c2]
        · rw [if_neg (fun z => c2 z.2), if_neg c2, hh i hi]
    · rw [r_LL, if_pos ⟨rfl, rfl⟩]
    · rw [r_LL, if_neg (by omega), r_LL, if_pos ⟨rfl, rfl⟩]
  rw [h22, g1, g2]
  refine ⟨fun c => F _ ?_, fun c => F _ ?_⟩
  · unfold smQ; rw [if_neg (by omega)]
  · unfold smQ; rw [if_pos (by omega)]
theorem sp_goMinute {t a : Nat} (ht : kT t) (ha : kA a) (hL : pLT s) (hT : tvC t s T) (ok : okT T) (hc : cVec a s W) (ho : okA n W) (hn : n ≤ 100000) {K : hS → Prop} (hK : ∀ s2, Fr (fMin a) s s2 → cVec a s2 (mnW T W) → K s2) : pcV (d + 4) 63 [.ref a, .ref t] v s K := by
  have hta : t + 1 ≠ a ∧ t + 1 ≠ a + 1 ∧ t + 1 ≠ a + 2 := by unfold kT kA at *; omega
  have hq1 : kQ (a + 1) := by unfold kQ kA at *; omega
  have hq2 : kQ (a + 2) := by unfold kQ kA at *; omega
  have e1 : Int32.toInt 1 = 1 := rfl
  have el1 : Int64.toInt 1 = 1 := rfl
  have b := drW_b T W
  have o16 := ho.2.2.1
  have o25 := ho.2.2.2.2.2.2.1
  have c16 : (rI s a 7).toInt64 = W 16 := hc 16 (by decide)
  have c17 : rL s a 2 = W 17 := hc 17 (by decide)
  have c18 : rL s a 3 = W 18 := hc 18 (by decide)
  have c19 : rL s a 4 = W 19 := hc 19 (by decide)
  have c20 : rL s a 5 = W 20 := hc 20 (by decide)
  have c21 : rL s a 6 = W 21 := hc 21 (by decide)
  have c22 : (rI s a 9).toInt64 = W 22 := hc 22 (by decide)
  have c25 : (rI s a 12).toInt64 = W 25 := hc 25 (by decide)
  refine st_Air_goMinute ht ha (sp_draw ht ha hL hT hc ho (fun w1 h1 => ?_))
  refine sp_flow (r := fun i => W i) ht hq1 hT ok hta.2.1 (by omega) (fun i hi => by rw [← cA_smoke a i s hi]; exact hc i (by omega)) (fun s2 f2 e2 => ?_)
  have F3 : Fr (fMin a) s (sL s2 a 3 (rL s a 3 + flO T w1.toInt (fun i => W i))) := (f2.mo (W' := fMin a) (fun c k z => Or.inl z)).sL (Or.inr (Or.inr ⟨rfl, by decide, by decide⟩))
  refine sp_flow (r := fun i => W (8 + i)) ht hq2 (tvC_fr hT F3 (fun k _ => by unfold fMin; omega)) ok hta.2.2 (by omega) (fun i hi => by rw [r_LL, if_neg (by omega), f2.l (by omega), ← cA_heat a i s hi]; exact hc _ (by omega)) (fun s3 f3 e3 => ?_)
  rw [f2.l (c := a) (k := 5) (by omega)]
  have F4 : Fr (fMin a) s (sL s3 a 5 (rL s a 5 + flO T w1.toInt (fun i => W (8 + i)))) := (F3.tr (f3.mo (W' := fMin a) (fun c k z => Or.inr (Or.inl z)))).sL (Or.inr (Or.inr ⟨rfl, by decide, by decide⟩))
  refine sp_of (k := 2) ht (by decide) (tvC_fr hT F4 (fun k _ => by unfold fMin; omega)) (fun w4 h4 => ?_)
  have g4 : w4.toInt64 = Int64.ofInt (T 2) := l_of (by rw [i_64, h4])
  refine sp_blend (r := flR T (drW T W) (fun i => W i)) hq1 (fun i hi => by rw [r_LL, if_neg (by omega), f3.l (by omega), r_LL, if_neg (by omega), e2 i hi, h1]) (fun s5 f5 e5 => ?_)
  refine sp_blend (r := flR T (drW T W) (fun i => W (8 + i))) hq2 (fun i hi => by rw [f5.l (by omega), r_LL, if_neg (by omega), e3 i hi, h1]) (fun s6 f6 e6 => ?_)
  rw [g4] at e5 e6
  have F6 : Fr (fMin a) s s6 := (F4.tr (f5.mo (W' := fMin a) (fun c k z => Or.inl z))).tr (f6.mo (W' := fMin a) (fun c k z => Or.inr (Or.inl z)))
  refine sp_cool (r := mnH T W) ht ha (tvC_fr hT F6 (fun k _ => by unfold fMin; omega)) ok e6 (fun s7 f7 e7 l7 => ?_)
  have F7 : Fr (fMin a) s s7 := F6.tr (f7.mo (W' := fMin a) (fun c k z => by unfold fMin; omega))
  have x : ∀ k, k ≠ 3 → k ≠ 5 → rL s6 a k = rL s a k := fun k z1 z2 => by
    rw [f6.l (by omega), f5.l (by omega), r_LL, if_neg (by omega), f3.l (by omega), r_LL, if_neg (by omega), f2.l (by omega)]
  have x3 : rL s6 a 3 = W 18 + flO T (drW T W) (fun i => W i) := by
    rw [f6.l (by omega), f5.l (by omega), r_LL, if_neg (by omega), f3.l (by omega), r_LL, if_pos ⟨rfl, rfl⟩, c18, h1]
  have x5 : rL s6 a 5 = W 20 + flO T (drW T W) (fun i => W (8 + i)) := by
    rw [f6.l (by omega), f5.l (by omega), r_LL, if_pos ⟨rfl, rfl⟩, c20, h1]
  refine sp_burn (W := W) (sm := mnS T W) (he := fun k => mnH T W k - clG T (mnH T W) k) ht ha (tvC_fr hT F7 (fun k _ => by unfold fMin; omega)) (fun i hi => by rw [f7.l (by omega), f6.l (by omega), e5 i hi]; rfl) e7 (by rw [F7.i (by unfold fMin; omega), c22]) (by rw [F7.i (by unfold fMin; omega), c25]) o25 (fun s8 f8 a8 b8 y8 z8 => ?_)
  have m8 : rI s8 a 7 = rI s a 7 := by
    rw [f8.i (by omega), f7.i (by omega), f6.i (by omega), f5.i (by omega), r_IL, f3.i (by omega), r_IL, f2.i (by omega)]
  have F9 : Fr (fMin a) s (sI s8 a 7 (rI s8 a 7 + 1)) := (F7.tr (f8.mo (W' := fMin a) (fun c k z => by unfold fMin; omega))).sI (Or.inr (Or.inr ⟨rfl, by decide, by decide⟩))
  refine hK _ F9 (fun i hi => ?_)
  unfold mnW
  by_cases i8 : i < 8
  · rw [if_pos i8, cA_smoke a i _ i8, r_LI]; exact a8 i i8
  rw [if_neg i8]
  by_cases i16 : i < 16
  · rw [if_pos i16]
    have : i = 8 + (i - 8) := by omega
    rw [this, cA_heat a (i - 8) _ (by omega), r_LI, Nat.add_sub_cancel_left]
    exact b8 _ (by omega)
  rw [if_neg i16]
  have hm : (W 16).toInt = (rI s a 7).toInt := by rw [← c16, i_64]
  by_cases c : i = 16
  · rw [if_pos c, c]
    show (rI (sI s8 a 7 (rI s8 a 7 + 1)) a 7).toInt64 = _
    rw [r_II, if_pos ⟨rfl, rfl⟩, m8, ← c16]
    refine l_inj ?_
    rw [i_64, i_add (by rw [e1]; omega), e1, l_add (by rw [i_64, el1]; omega), i_64, el1]
  rw [if_neg c]
  by_cases c : i = 17
  · rw [if_pos c, c]
    show rL s8 a 2 = _
    rw [y8, f7.l (by omega), x _ (by decide) (by decide), c17]
  rw [if_neg c]
  by_cases c : i = 18
  · rw [if_pos c, c]
    show rL s8 a 3 = _
    rw [f8.l (by omega), f7.l (by omega), x3]
  rw [if_neg c]
  by_cases c : i = 19
  · rw [if_pos c, c]
    show rL s8 a 4 = _
    rw [z8, f7.l (by omega), x _ (by decide) (by decide), c19]
  rw [if_neg c]
  by_cases c : i = 20
  · rw [if_pos c, c]
    show rL s8 a 5 = _
    rw [f8.l (by omega), f7.l (by omega), x5]
  rw [if_neg c]
  by_cases c : i = 21
  · rw [if_pos c, c]
    show rL s8 a 6 = _
    rw [f8.l (by omega), l7, x _ (by decide) (by decide), c21]
  rw [if_neg c, ← hc i hi]
  refine cA_fr F9 ?_
  have : ∀ i, i < 29 → 21 < i → aC i ≠ 1 ∧ aC i ≠ 2 ∧ (aC i = 0 → 7 < aK i) := by decide
  have := this i hi (by omega)
  unfold fMin; omega
end
