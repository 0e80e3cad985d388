/-! THE BEST SET, in the class -/
def vB (wa st we : Int64) (f a b i : Nat) : Int64 := if i = 22 then Int64.ofInt f else if i = 23 then wa else if i = 24 then st else if i = 25 then we else if i = 26 then Int64.ofInt a else if i = 27 then Int64.ofInt b else 0
def vS (wa st we y : Int64) (f a b i : Nat) : Int64 := if i = 28 then y else vB wa st we f a b i
section
variable (T : Nat → Int) (n : Nat) (w l : Int) (wa st we : Int64)
def reB (f s : Nat) : Nat → Int64 := itW T (vB wa st we f (s / 9) (s % 9)) n
def lowB (f s : Nat) : Int := lwW T (reB T n wa st we f s)
def okB (f s : Nat) : Prop := w ≤ wm (reB T n wa st we f s) ∧ l ≤ lowB T n wa st we f s
def bRes (F x y : Int) : Prop := (F = -1 ∧ x = -1 ∧ y = -1 ∧ ∀ f, f ≤ 9 → ∀ s, s < 81 → ¬ okB T n w l wa st we f s) ∨ ∃ f : Nat, f ≤ 9 ∧ F = f ∧ fbS (okB T n w l wa st we f) (lowB T n wa st we f) 81 x y ∧ 0 ≤ x ∧ ∀ f2, f2 < f → ∀ s, s < 81 → ¬ okB T n w l wa st we f2 s
def envB : Prop := (1 ≤ n ∧ n ≤ 60) ∧ (0 ≤ wa.toInt ∧ wa.toInt ≤ 7) ∧ (0 ≤ st.toInt ∧ st.toInt ≤ 9) ∧ (we.toInt = 0 ∨ we.toInt = 1)
def kiB (x : Nat) : Prop := x = 8 ∨ ∀ y, y < x → lf1 y wa.toInt st.toInt ≠ lf1 x wa.toInt st.toInt
def QB (s : Nat) : Prop := s / 9 ≤ s % 9 ∧ kiB wa st (s / 9) ∧ kiB wa st (s % 9)
end
theorem bRes_un {T : Nat → Int} {n : Nat} {w l : Int} {wa st we : Int64} {F x y F2 x2 y2 : Int} (h : bRes T n w l wa st we F x y) (h2 : bRes T n w l wa st we F2 x2 y2) : F = F2 ∧ x = x2 ∧ y = y2 := by
  have some : ∀ f x y, fbS (okB T n w l wa st we f) (lowB T n wa st we f) 81 x y → 0 ≤ x → ∃ s, s < 81 ∧ okB T n w l wa st we f s := fun f x y h hx => by
    rcases h with ⟨a, _⟩ | ⟨s, a1, _, _, a4, _⟩
    · omega
    · exact ⟨s, a1, a4⟩
  rcases h with ⟨a1, a2, a3, a4⟩ | ⟨f, f9, a1, a2, a3, a4⟩
  · rcases h2 with ⟨b1, b2, b3, _⟩ | ⟨f2, g9, b1, b2, b3, b4⟩
    · omega
    · obtain ⟨s, s1, s2⟩ := some f2 _ _ b2 b3
      exact absurd s2 (a4 f2 g9 s s1)
  · obtain ⟨s, s1, s2⟩ := some f _ _ a2 a3
    rcases h2 with ⟨b1, b2, b3, b4⟩ | ⟨f2, g9, b1, b2, b3, b4⟩
    · exact absurd s2 (b4 f f9 s s1)
    · obtain ⟨s', s1', s2'⟩ := some f2 _ _ b2 b3
      have : f = f2 := by
        rcases Nat.lt_trichotomy f f2 with c | c | c
        · exact absurd s2 (b4 f c s s1)
        · exact c
        · exact absurd s2' (a4 f2 c s' s1')
      subst this
      have := fbS_un a2 b2
      omega
theorem vS_sim {T : Nat → Int} {wa st we y : Int64} {f a b : Nat} : simW T (vS wa st we y f a b) (vB wa st we f a b) := by
  refine ⟨fun i hi => ?_, rfl, rfl, rfl, rfl⟩
  unfold vS; rw [if_neg (by omega)]
theorem vS_ok {wa st we y : Int64} {f a b : Nat} {n : Nat} (he : envB n wa st we) (hf : f ≤ 9) (ha : a ≤ 8) (hb : b ≤ 8) (hy : 0 ≤ y.toInt ∧ y.toInt < 2147483648) : okM 0 (vS wa st we y f a b) := by
  obtain ⟨_, h1, h2, h3⟩ := he
  have e0 : Int64.toInt 0 = 0 := rfl
  have z : ∀ i, i < 22 → vS wa st we y f a b i = 0 := fun i hi => by
    unfold vS vB
    rw [if_neg (by omega), if_neg (by omega), if_neg (by omega), if_neg (by omega), if_neg (by omega), if_neg (by omega), if_neg (by omega)]
  have e22 : (vS wa st we y f a b 22).toInt = f := o_i (by omega)
  have e26 : (vS wa st we y f a b 26).toInt = a := o_i (by omega)
  have e27 : (vS wa st we y f a b 27).toInt = b := o_i (by omega)
  unfold okM hSum
  rw [z 8 (by decide), z 9 (by decide), z 10 (by decide), z 11 (by decide), z 12 (by decide), z 13 (by decide), z 14 (by decide), z 15 (by decide), z 16 (by decide), e0, e22, e26, e27]
  exact ⟨fun k hk => by rw [z _ (by omega), e0]; exact Int.le_refl _, by omega, by omega, by omega, h1, h2, h3, by omega, by omega, hy⟩
section
variable {d : Nat} {v : hV} {s s1 : hS} {T : Nat → Int} {n : Nat} {w l : Int} {wa st we : Int64}
def fAt (c k : Nat) : Prop := c = 100 ∨ c = 101 ∨ c = 102 ∨ (c = 99 ∧ k ≤ 9) ∨ (c = 98 ∧ 1 ≤ k ∧ k ≤ 4)
/-- what the trial has of the wind, and what is asked -/
def triB (n : Nat) (w l : Int) (wa st we : Int64) (s : hS) : Prop := (rI s 99 10).toInt64 = wa ∧ (rI s 99 11).toInt64 = st ∧ (rI s 99 12).toInt64 = we ∧ (0 ≤ (rL s 99 13).toInt ∧ (rL s 99 13).toInt < 2147483648) ∧ rI s 98 6 = nI n ∧ (rI s 98 7).toInt = w ∧ (rI s 98 8).toInt = l
theorem triB_fr {F : Nat → Nat → Prop} (h : triB n w l wa st we s) (hf : Fr F s s1) (h1 : ∀ k, 10 ≤ k → ¬ F 99 k) (h2 : ∀ k, 6 ≤ k → ¬ F 98 k) : triB n w l wa st we s1 := by
  unfold triB
  rw [hf.i (h1 10 (by decide)), hf.i (h1 11 (by decide)), hf.i (h1 12 (by decide)), hf.l (h1 13 (by decide)), hf.i (h2 6 (by decide)), hf.i (h2 7 (by decide)), hf.i (h2 8 (by decide))]
  exact h
theorem sp_attempt {t : Nat} (ht : kT t) (hLT : pLT s) (hT : tvC t s T) (ok : okT T) (he : envB n wa st we) (hB : triB n w l wa st we s) {f a b : Nat} (hf : f ≤ 9) (ha : a ≤ 8) (hb : b ≤ 8) {K : hS → Prop} (hK : ∀ s2, Fr fAt s s2 → ((okB T n w l wa st we f (9 * a + b) ∧ (rI s 98 4).toInt < lowB T n wa st we f (9 * a + b)) → rI s2 98 1 = nI f ∧ rI s2 98 2 = nI a ∧ rI s2 98 3 = nI b ∧ (rI s2 98 4).toInt = lowB T n wa st we f (9 * a + b)) → (¬ (okB T n w l wa st we f (9 * a + b) ∧ (rI s 98 4).toInt < lowB T n wa st we f (9 * a + b)) → rI s2 98 1 = rI s 98 1 ∧ rI s2 98 2 = rI s 98 2 ∧ rI s2 98 3 = rI s 98 3 ∧ rI s2 98 4 = rI s 98 4) → K s2) : pcV (d + 5) 87 [.ref 98, .ref t, .int (nI f), .int (nI a), .int (nI b)] v s K := by
  have h9 : (9 * a + b) / 9 = a ∧ (9 * a + b) % 9 = b := by omega
  have hre : reB T n wa st we f (9 * a + b) = itW T (vB wa st we f a b) n := by unfold reB; rw [h9.1, h9.2]
  have ht2 : t + 1 < 98 := by unfold kT at ht; omega
  obtain ⟨b1, b2, b3, b4, b5, b6, b7⟩ := hB
  have ok0 := vS_ok (y := rL s 99 13) he hf ha hb b4
  have hsim := simW_lw (simW_it ok (vS_sim (T := T) (wa := wa) (st := st) (we := we) (y := rL s 99 13) (f := f) (a := a) (b := b)) n)
  generalize hW : vS wa st we (rL s 99 13) f a b = W at *
  refine st_Best_attempt ht (sp_airFreshen (Or.inr rfl) (fun s2 f2 z2 => ?_))
  have f3 : Fr fAt s (sI (sI (sI s2 99 9 (nI f)) 102 0 (nI a)) 102 1 (nI b)) := (((f2.mo (W' := fAt) (fun c k z => by unfold fFr at z; unfold fAt; omega)).sI (by unfold fAt; omega)).sI (by unfold fAt; omega)).sI (by unfold fAt; omega)
  have V0 : cVec 99 s2 (cA 99 s2) := fun i _ => rfl
  have V3 := cVec_I (j := 27) (x := nI b) (cVec_I (j := 26) (x := nI a) (cVec_I (j := 22) (x := nI f) V0 (by decide) rfl) (by decide) rfl) (by decide) rfl
  have c3 : cVec 99 (sI (sI (sI s2 99 9 (nI f)) 102 0 (nI a)) 102 1 (nI b)) W := by
    refine cVec_congr V3 (fun i hi => ?_)
    have zz := frZ_cA z2
    have k23 : ∀ j, j = 23 ∨ j = 24 ∨ j = 25 ∨ j = 28 → cA 99 s2 j = cA 99 s j := fun j hj => cA_fr f2 (by
      have h1 : ∀ j, j = 23 ∨ j = 24 ∨ j = 25 ∨ j = 28 → aC j = 0 ∧ 8 ≤ aK j := by
        intro j hj; rcases hj with rfl | rfl | rfl | rfl <;> decide
      have := h1 j hj
      unfold fFr; omega)
    rw [← hW]
    unfold stW vS vB
    by_cases i27 : i = 27
    · rw [if_pos i27, if_neg (show ¬ i = 28 by omega), if_neg (show ¬ i = 22 by omega), if_neg (show ¬ i = 23 by omega), if_neg (show ¬ i = 24 by omega), if_neg (show ¬ i = 25 by omega), if_neg (show ¬ i = 26 by omega), if_pos i27]
      exact l_of (by rw [i_64, nI_toInt (by omega)])
    rw [if_neg i27]
    by_cases i26 : i = 26
    · rw [if_pos i26, if_neg (show ¬ i = 28 by omega), if_neg (show ¬ i = 22 by omega), if_neg (show ¬ i = 23 by omega), if_neg (show ¬ i = 24 by omega), if_neg (show ¬ i = 25 by omega), if_pos i26]
      exact l_of (by rw [i_64, nI_toInt (by omega)])
    rw [if_neg i26]
    by_cases i22 : i = 22
    · rw [if_pos i22, if_neg (show ¬ i = 28 by omega), if_pos i22]
      exact l_of (by rw [i_64, nI_toInt (by omega)])
    rw [if_neg i22]
    by_cases i28 : i = 28
    · rw [if_pos i28, i28, k23 28 (by omega)]; rfl
    rw [if_neg i28, if_neg i22]
    by_cases i23 : i = 23
    · rw [if_pos i23, i23, k23 23 (by omega)]; exact b1
    rw [if_neg i23]
    by_cases i24 : i = 24
    · rw [if_pos i24, i24, k23 24 (by omega)]; exact b2
    rw [if_neg i24]
    by_cases i25 : i = 25
    · rw [if_pos i25, i25, k23 25 (by omega)]; exact b3
    rw [if_neg i25, if_neg i26, if_neg i27]
    exact zz i (by omega)
  have n98 : ∀ k, 5 ≤ k → ¬ fAt 98 k := fun k _ => by unfold fAt; omega
  have it := fun k : Nat => fun hk : k ≤ 60 => itW_ok ok0 ok k (by omega)
  obtain ⟨hn1, _⟩ := he
  have r4 : rI (sI (sI (sI s2 99 9 (nI f)) 102 0 (nI a)) 102 1 (nI b)) 98 4 = rI s 98 4 ∧ rI (sI (sI (sI s2 99 9 (nI f)) 102 0 (nI a)) 102 1 (nI b)) 98 1 = rI s 98 1 ∧ rI (sI (sI (sI s2 99 9 (nI f)) 102 0 (nI a)) 102 1 (nI b)) 98 2 = rI s 98 2 ∧ rI (sI (sI (sI s2 99 9 (nI f)) 102 0 (nI a)) 102 1 (nI b)) 98 3 = rI s 98 3 := by
    have n98b : ∀ k, ¬ fFr 99 98 k := fun k => by unfold fFr; omega
    refine ⟨?_, ?_, ?_, ?_⟩
    all_goals rw [r_II, if_neg (by omega), r_II, if_neg (by omega), r_II, if_neg (by omega)]; exact f2.i (n98b _)
  generalize sI (sI (sI s2 99 9 (nI f)) 102 0 (nI a)) 102 1 (nI b) = s3 at *
  have G : ∀ j i : Nat, i + j = n → ∀ s4 : hS, Fr (fMin 99) s3 s4 → cVec 99 s4 (itW T W i) → pgV (d + 5) 87 21 [.ref 98, .ref t, .int (nI f), .int (nI a), .int (nI b), .int (nI i)] [] v s4 K := by
    intro j
    induction j with
    | zero =>
      intro i hi s4 f4 c4
      have hi : i = n := by omega
      subst hi
      have F4 : Fr fAt s s4 := f3.tr (f4.mo (fun c k z => by unfold fMin at z; unfold fAt; omega))
      have k98 : ∀ k, rI s4 98 k = rI s3 98 k := fun k => f4.i (by unfold fMin; omega)
      have hl8 : lwW T (itW T W i) ≤ 8 := by have := lwF_le T (itW T W i) 8 0; unfold lwW; omega
      refine st_Best_attempt_21 ht ?_
      rw [F4.i (n98 6 (by decide)), b5]
      refine ⟨fun z => absurd z (by omega), fun _ => sp_low ht (Or.inr rfl) (tvC_fr hT F4 (fun k _ => by unfold fAt; omega)) c4 (st_Air_warmth (Or.inr rfl) ⟨by decide, ?_⟩)⟩
      have e9 : (rL s4 (99 + 2) (Int32.toInt 1).toNat / 20).toInt = wm (itW T W i) := by
        show (rL s4 (99 + 2) 1 / 20).toInt = _
        have : rL s4 (99 + 2) 1 = itW T W i 9 := by rw [← c4 9 (by decide)]; exact (cA_heat 99 1 s4 (by decide)).symm
        rw [this]; rfl
      have hlo : lowB T i wa st we f (9 * a + b) = lwW T (itW T W i) := by unfold lowB; rw [hre, hsim.1]
      have hok : okB T i w l wa st we f (9 * a + b) ↔ (w ≤ wm (itW T W i) ∧ l ≤ lwW T (itW T W i)) := by unfold okB; rw [hlo, hre, hsim.2]
      rw [hok, hlo] at hK
      have e7 : (rI s4 98 7).toInt = w := by rw [F4.i (n98 7 (by decide))]; exact b6
      have e8 : (rI s4 98 8).toInt = l := by rw [F4.i (n98 8 (by decide))]; exact b7
      have NO : ¬ ((w ≤ wm (itW T W i) ∧ l ≤ lwW T (itW T W i)) ∧ (rI s 98 4).toInt < lwW T (itW T W i)) → K s4 := fun hno => hK s4 F4 (fun z => absurd z hno) (fun _ => ⟨by rw [k98]; exact r4.2.1, by rw [k98]; exact r4.2.2.1, by rw [k98]; exact r4.2.2.2, by rw [k98]; exact r4.1⟩)
      rw [e9, i_64, e7, e8, nI_toInt (show lwW T (itW T W i) < 2147483648 by omega), k98, r4.1]
      refine ⟨fun z => NO (by omega), fun z1 => ⟨fun z => NO (by omega), fun z2 => ⟨fun z3 => ?_, fun z => NO (by omega)⟩⟩⟩
      refine hK _ ((((F4.sI (by unfold fAt; omega)).sI (by unfold fAt; omega)).sI (by unfold fAt; omega)).sI (by unfold fAt; omega)) (fun _ => ⟨?_, ?_, ?_, ?_⟩) (fun z => absurd ⟨⟨by omega, by omega⟩, z3⟩ z)
      · simp only [r_II, r_LL, r_LI, r_IL, r_IC, r_LC, r_ICL, r_LCI, Nat.reduceEqDiff, false_and, and_false, true_and, and_true, and_self, ↓reduceIte]
      · simp only [r_II, r_LL, r_LI, r_IL, r_IC, r_LC, r_ICL, r_LCI, Nat.reduceEqDiff, false_and, and_false, true_and, and_true, and_self, ↓reduceIte]
      · simp only [r_II, r_LL, r_LI, r_IL, r_IC, r_LC, r_ICL, r_LCI, Nat.reduceEqDiff, false_and, and_false, true_and, and_true, and_self, ↓reduceIte]
      · simp only [r_II, r_LL, r_LI, r_IL, r_IC, r_LC, r_ICL, r_LCI, Nat.reduceEqDiff, false_and, and_false, true_and, and_true, and_self, ↓reduceIte]; exact nI_toInt (by omega)
    | succ j ih =>
      intro i hi s4 f4 c4
      have F4 : Fr fAt s s4 := f3.tr (f4.mo (fun c k z => by unfold fMin at z; unfold fAt; omega))
      have q1 : nI i + 1 = nI (i + 1) := by rw [nI_1]
      refine st_Best_attempt_21 ht ?_
      rw [F4.i (n98 6 (by decide)), b5, nI_toInt (show i < 2147483648 by omega), nI_toInt (show n < 2147483648 by omega), q1]
      refine ⟨fun _ => sp_goMinute ht (Or.inr rfl) (pLT_fr hLT F4 (fun k _ => by unfold fAt; omega)) (tvC_fr hT F4 (fun k _ => by unfold fAt; omega)) ok c4 (okM_A (it i (by omega))) (by omega) (fun s5 f5 c5 => ih (i + 1) (by omega) s5 (f4.tr f5) c5), fun z => absurd (by omega) z⟩
  exact G n 0 (by omega) s3 (Fr.rf _ _) c3
theorem sp_isFirst (hLT : pLT s) (he : envB n wa st we) (hB : triB n w l wa st we s) {x : Nat} (hx : x ≤ 8) {K : Int32 → hS → Prop} (h1 : kiB wa st x → K 1 s) (h0 : ¬ kiB wa st x → K 0 s) : pcI (d + 3) 86 [.ref 98, .int (nI x)] v s K := by
  obtain ⟨b1, b2, b3, b4, b5, b6, b7⟩ := hB
  obtain ⟨_, e1, e2, e3⟩ := he
  -- the trial's air as it lies
  have LF : ∀ y : Nat, y ≤ 8 → ∀ Kc : Int32 → hS → Prop, (∀ r : Int32, r.toInt = lf1 y wa.toInt st.toInt → Kc r s) → pcI (d + 2) 69 [.ref 99, .int (nI y)] v s Kc := fun y hy Kc hk => by
    have g23 : (rI s 99 10).toInt = wa.toInt := by rw [← b1, i_64]
    have g24 : (rI s 99 11).toInt = st.toInt := by rw [← b2, i_64]
    have ey : (nI y).toInt = y := nI_toInt (by omega)
    have hr := rm8_of (x := nI y) (w := rI s 99 10) (by rw [ey]; omega) (by rw [g23]; omega)
    rw [ey, g23] at hr
    have hb := mul_b e2 (lbT_b ((y - wa.toInt) % 8).toNat)
    refine st_Air_liftOf (Or.inr rfl) ⟨fun c => hk 0 (by unfold lf1; rw [if_pos (by omega)]; rfl), fun c => ⟨fun c2 => absurd c2 (by rw [hr]; omega), fun _ => ⟨fun _ => ⟨by rw [hr]; omega, hk _ ?_⟩, fun c2 => absurd (by rw [hr]; omega) c2⟩⟩⟩
    rw [hr]
    have e5 : (rI s 5 ((y - wa.toInt) % 8).toNat).toInt = lbT ((y - wa.toInt) % 8).toNat := hLT _ (by omega)
    have g24 : (rI s 99 11).toInt = st.toInt := g24
    unfold lf1
    rw [if_neg (by omega), i_mul (by rw [e5, g24]; omega), e5, g24]
  have G : ∀ j i : Nat, i + j = x → (∀ y, y < i → x ≠ 8 → lf1 y wa.toInt st.toInt ≠ lf1 x wa.toInt st.toInt) → pgI (d + 3) 86 2 [.ref 98, .int (nI x), .int (nI i)] [] v s K := by
    intro j
    induction j with
    | zero =>
      intro i hi hy
      refine st_Best_isFirstOfItsKind_2 ?_
      rw [nI_toInt (show i < 2147483648 by omega), nI_toInt (show x < 2147483648 by omega)]
      refine ⟨fun z => absurd z (by omega), fun _ => h1 ?_⟩
      by_cases c : x = 8
      · exact Or.inl c
      · exact Or.inr (fun y hyx => hy y (by omega) c)
    | succ j ih =>
      intro i hi hy
      have q1 : nI i + 1 = nI (i + 1) := by rw [nI_1]
      refine st_Best_isFirstOfItsKind_2 ?_
      rw [nI_toInt (show i < 2147483648 by omega), nI_toInt (show x < 2147483648 by omega), q1]
      refine ⟨fun _ => ⟨fun z => h1 (Or.inl (by omega)), fun z => LF i (by omega) _ (fun r1 hr1 => LF x hx _ (fun r2 hr2 => ?_))⟩, fun z => absurd (by omega) z⟩
      rw [hr1, hr2]
      refine ⟨fun c => h0 (fun y => ?_), fun c => ih (i + 1) (by omega) (fun y hyi hx8 => ?_)⟩
      · rcases y with y | y
        · omega
        · exact y i (by omega) c
      · by_cases cy : y = i
        · rw [cy]; exact c
        · exact hy y (by omega) hx8
  exact st_Best_isFirstOfItsKind (G x 0 (by omega) (fun y hy => absurd hy (Nat.not_lt_zero y)))
/-- as found so far with the fire f -/
def fndB (f : Nat) (x y : Int) (s : hS) : Prop := (x = -1 ∧ y = -1 ∧ rI s 98 1 = -1 ∧ rI s 98 2 = -1 ∧ rI s 98 3 = -1 ∧ rI s 98 4 = -1) ∨ ∃ q : Nat, q < 81 ∧ x = q ∧ 0 ≤ y ∧ rI s 98 1 = nI f ∧ rI s 98 2 = nI (q / 9) ∧ rI s 98 3 = nI (q % 9) ∧ (rI s 98 4).toInt = y
theorem fndB_low {f : Nat} {x y : Int} (h : fndB f x y s) : (rI s 98 4).toInt = y := by
  rcases h with ⟨a1, a2, _, _, _, a⟩ | ⟨q, _, _, _, _, _, _, a⟩
  · rw [a, a2]; rfl
  · exact a
theorem fbS_skip {okk : Nat → Prop} {low : Nat → Int} {x y : Int} {N : Nat} (h : fbS okk low N x y) : ∀ N2, N ≤ N2 → (∀ s, N ≤ s → s < N2 → ¬ okk s) → fbS okk low N2 x y := by
  intro N2 h1 h2
  rcases h with ⟨a1, a2, a3⟩ | ⟨s, a1, a2, a3, a4, a5⟩
  · exact Or.inl ⟨a1, a2, fun s hs ho => by
      by_cases c : s < N
      · exact a3 s c ho
      · exact h2 s (by omega) hs ho⟩
  · exact Or.inr ⟨s, by omega, a2, a3, a4, fun s2 hs ho => by
      by_cases c : s2 < N
      · exact a5 s2 c ho
      · exact absurd ho (h2 s2 (by omega) hs)⟩
theorem fbS_top {okk : Nat → Prop} {low : Nat → Int} {x y : Int} {N : Nat} (h : fbS okk low N x y) (hy : 0 ≤ y) (hl : ∀ s, low s ≤ y) : ∀ N2, N ≤ N2 → fbS okk low N2 x y := by
  intro N2 h1
  rcases h with ⟨a1, a2, a3⟩ | ⟨s, a1, a2, a3, a4, a5⟩
  · omega
  · exact Or.inr ⟨s, by omega, a2, a3, a4, fun s2 hs ho => by
      by_cases c : s2 < N
      · exact a5 s2 c ho
      · have := hl s2; omega⟩
theorem lowB_b (f s : Nat) : 0 ≤ lowB T n wa st we f s ∧ lowB T n wa st we f s ≤ 8 := by
  have := lwF_le T (reB T n wa st we f s) 8 0
  unfold lowB lwW; omega
/-- each SET is stood for by one that comes no later -/
theorem rep_k (he : envB n wa st we) {x : Nat} (hx : x ≤ 8) : ∃ r, r ≤ x ∧ kiB wa st r ∧ (r = 8 ↔ x = 8) ∧ lf1 r wa.toInt st.toInt = lf1 x wa.toInt st.toInt := by
  by_cases c : x = 8
  · exact ⟨8, by omega, Or.inl rfl, by omega, by rw [c]⟩
  · obtain ⟨r, r1, r2, r3⟩ := least_ex (q := fun y => decide (lf1 (y : Nat) wa.toInt st.toInt = lf1 x wa.toInt st.toInt)) (n := x + 1) ⟨x, Nat.lt_succ_self x, decide_eq_true rfl⟩
    have r2 := of_decide_eq_true r2
    exact ⟨r, by omega, Or.inr (fun y hy => by have := of_decide_eq_false (r3 y hy); rw [r2]; exact this), by omega, r2⟩
theorem rep_s (ok : okT T) (he : envB n wa st we) {f : Nat} (hf : f ≤ 9) : ∀ s, s < 81 → okB T n w l wa st we f s → ∃ s2, s2 ≤ s ∧ okB T n w l wa st we f s2 ∧ QB wa st s2 ∧ lowB T n wa st we f s2 = lowB T n wa st we f s := by
  intro s hs ho
  obtain ⟨ra, a1, a2, a3, a4⟩ := rep_k he (show s / 9 ≤ 8 by omega)
  obtain ⟨rb, b1, b2, b3, b4⟩ := rep_k he (show s % 9 ≤ 8 by omega)
  have SIM : ∀ a b : Nat, a ≤ 8 → b ≤ 8 → (a = ra ∧ b = rb ∨ a = rb ∧ b = ra) → simW T (vB wa st we f a b) (vB wa st we f (s / 9) (s % 9)) := by
    intro a b ha hb hab
    have e26 : (vB wa st we f a b 26).toInt = a := o_i (by omega)
    have e27 : (vB wa st we f a b 27).toInt = b := o_i (by omega)
    have g26 : (vB wa st we f (s / 9) (s % 9) 26).toInt = (s / 9 : Nat) := o_i (by omega)
    have g27 : (vB wa st we f (s / 9) (s % 9) 27).toInt = (s % 9 : Nat) := o_i (by omega)
    refine ⟨fun i hi => ?_, rfl, rfl, ?_, ?_⟩
    · unfold vB
      rw [if_neg (show ¬ i = 22 by omega), if_neg (show ¬ i = 23 by omega), if_neg (show ¬ i = 24 by omega), if_neg (show ¬ i = 25 by omega), if_neg (show ¬ i = 26 by omega), if_neg (show ¬ i = 27 by omega), if_neg (show ¬ i = 22 by omega), if_neg (show ¬ i = 23 by omega), if_neg (show ¬ i = 24 by omega), if_neg (show ¬ i = 25 by omega), if_neg (show ¬ i = 26 by omega), if_neg (show ¬ i = 27 by omega)]
    · have t1 : lfW (vB wa st we f a b) = lf1 (vB wa st we f a b 26).toInt wa.toInt st.toInt + lf1 (vB wa st we f a b 27).toInt wa.toInt st.toInt := rfl
      have t2 : lfW (vB wa st we f (s / 9) (s % 9)) = lf1 (vB wa st we f (s / 9) (s % 9) 26).toInt wa.toInt st.toInt + lf1 (vB wa st we f (s / 9) (s % 9) 27).toInt wa.toInt st.toInt := rfl
      rw [t1, t2, e26, e27, g26, g27]
      rcases hab with ⟨h1, h2⟩ | ⟨h1, h2⟩
      · rw [h1, h2, a4, b4]
      · rw [h1, h2, a4, b4, Int.add_comm]
    · have : opN (vB wa st we f a b) = opN (vB wa st we f (s / 9) (s % 9)) := by
        unfold opN
        rw [e26, e27, g26, g27]
        by_cases ca : s / 9 = 8 <;> by_cases cb : s % 9 = 8
        all_goals
          rcases hab with ⟨h1, h2⟩ | ⟨h1, h2⟩
          all_goals repeat' split
          all_goals omega
      unfold opI
      rw [this]
  have FIN : ∀ a b : Nat, a ≤ 8 → b ≤ 8 → (a = ra ∧ b = rb ∨ a = rb ∧ b = ra) → 9 * a + b ≤ s → a ≤ b → ∃ s2, s2 ≤ s ∧ okB T n w l wa st we f s2 ∧ QB wa st s2 ∧ lowB T n wa st we f s2 = lowB T n wa st we f s := by
    intro a b ha hb hab hle hab2
    have h9 : (9 * a + b) / 9 = a ∧ (9 * a + b) % 9 = b := by omega
    have hs2 := simW_lw (simW_it ok (SIM a b ha hb hab) n)
    have hre : reB T n wa st we f (9 * a + b) = itW T (vB wa st we f a b) n := by unfold reB; rw [h9.1, h9.2]
    have hlo : lowB T n wa st we f (9 * a + b) = lowB T n wa st we f s := by
      unfold lowB; rw [hre, hs2.1]; rfl
    refine ⟨9 * a + b, hle, ⟨?_, by rw [hlo]; exact ho.2⟩, ?_, hlo⟩
    · rw [hre, hs2.2]; exact ho.1
    · unfold QB; rw [h9.1, h9.2]
      rcases hab with ⟨h1, h2⟩ | ⟨h1, h2⟩
      · rw [h1, h2]; exact ⟨by omega, a2, b2⟩
      · rw [h1, h2]; exact ⟨by omega, b2, a2⟩
  by_cases c : ra ≤ rb
  · exact FIN ra rb (by omega) (by omega) (Or.inl ⟨rfl, rfl⟩) (by omega) c
  · exact FIN rb ra (by omega) (by omega) (Or.inr ⟨rfl, rfl⟩) (by omega) (by omega)
end
