/-! A NIGHT by a RULE, in the reference -/
def fLm (c k : Nat) : Prop := (c = 146 ∧ k < 32) ∨ c = 156 ∨ c = 157
section
variable {d : Nat} {v : hV} {s s1 : hS} {m : Int} {T : Nat → Int} {W U : Nat → Int64} {X : rRow}
theorem mVec_se {j : Nat} {y : Int64} (hm : mVec 0 s W) : mVec 0 (sL s 146 j y) (stW W j y) := fun i hi => by
  rw [r_LL]; unfold stW
  by_cases c : i = j
  · rw [if_pos ⟨rfl, by omega⟩, if_pos c]
  · rw [if_neg (by omega), if_neg c]; exact hm i hi
theorem mVec_at (hm : mVec 0 s W) {i : Nat} (hi : i < 29) : rL s 146 i = W i := by have := hm i hi; rw [Nat.zero_add] at this; exact this
theorem mVec_fr {F : Nat → Nat → Prop} (hm : mVec 0 s W) (hf : Fr F s s1) (hw : ∀ k, k < 29 → ¬ F 146 k) : mVec 0 s1 W := fun i hi => by rw [hf.l (hw _ (by omega))]; exact hm i hi
def tMl (s : hS) (t : Nat → Int32) : Prop := ∀ k, k < 4 → rI s 157 k = t k
theorem tMl_fr {t : Nat → Int32} {F : Nat → Nat → Prop} (h : tMl s t) (hf : Fr F s s1) (hw : ∀ k, ¬ F 157 k) : tMl s1 t := fun k hk => by rw [hf.i (hw k)]; exact h k hk
theorem tMl_cg {t t2 : Nat → Int32} (h : tMl s t) (e : ∀ k, k < 4 → t k = t2 k) : tMl s t2 := fun k hk => by rw [h k hk, e k hk]
theorem sm_wm {j : Int32} (hj : j = 1) (hm : mVec 0 s W) {K : Int64 → hS → Prop} (hK : ∀ r : Int64, r.toInt = wm W → K r s) : pcL d 186 [.ref 145, .int 0, .int j] v s K := by
  subst hj
  refine st_M_warmth ⟨by decide, hK _ ?_⟩
  have e : ((0 : Int32) + 8 + 1).toInt.toNat = 9 := by decide
  rw [e, mVec_at hm (by decide)]; rfl
theorem oN {o : Nat} (ho : o ≤ 18) (k : Nat) (hk : k ≤ 5) : (nI o + nI k).toInt.toNat = o + k ∧ 0 ≤ (nI o + nI k).toInt ∧ (nI o + nI k).toInt < 24 := by
  rw [nI_add, nI_toInt (by omega)]; omega
theorem sm_look {o : Nat} (hoo : o ≤ 18) (hT : tvM s T) (hR : rM o s X) (hX : rrOK X) (hm : mVec 0 s W) (ho : okM m W) (hmm : m ≤ 100000000) {t : Nat → Int32} (ht : tMl s t) {K : hS → Prop} (hK : ∀ s2, Fr fLm s s2 → mVec 0 s2 (lkW T X W) → tMl s2 (fun i => if i = 0 then t 0 + lkN T X W else t i) → K s2) : pcV (d + 1) 199 [.ref 145, .int (nI o)] v s K := by
  have w0 := wm_0 ho
  have w9 := wm_lt ho hmm
  have e9 : Int64.toInt 9 = 9 := rfl
  have e4 : Int64.toInt 4 = 4 := rfl
  have e8 : Int64.toInt 8 = 8 := rfl
  have hl8 : lwW T W ≤ 8 := by have := lwF_le T W 8 0; unfold lwW; omega
  have h22 := ho.2.2.2.1
  have h23 := ho.2.2.2.2.1
  have hX2 := hX
  obtain ⟨_, x1, x2, x3⟩ := hX2
  unfold opOK at x2 x3
  have p1 : (nI o + 1).toInt.toNat = o + 1 ∧ 0 ≤ (nI o + 1).toInt ∧ (nI o + 1).toInt < 24 := oN hoo 1 (by decide)
  have p2 : (nI o + 2).toInt.toNat = o + 2 ∧ 0 ≤ (nI o + 2).toInt ∧ (nI o + 2).toInt < 24 := oN hoo 2 (by decide)
  have p3 : (nI o + 3).toInt.toNat = o + 3 ∧ 0 ≤ (nI o + 3).toInt ∧ (nI o + 3).toInt < 24 := oN hoo 3 (by decide)
  have p4 : (nI o + 4).toInt.toNat = o + 4 ∧ 0 ≤ (nI o + 4).toInt ∧ (nI o + 4).toInt < 24 := oN hoo 4 (by decide)
  have p5 : (nI o + 5).toInt.toNat = o + 5 ∧ 0 ≤ (nI o + 5).toInt ∧ (nI o + 5).toInt < 24 := oN hoo 5 (by decide)
  have Z : ∀ (s1 : hS) (V : Nat → Int64) (z2 z3 : Value), Fr fLm s s1 → mVec 0 s1 V → V 9 = W 9 → V 22 = W 22 → (∀ s2, Fr fLm s s2 → mVec 0 s2 (stW V 22 (Int64.ofInt (lkFi X W))) → (∀ k, rI s2 157 k = rI s1 157 k) → K s2) → pgV (d + 1) 199 46 [.ref 145, .int (nI o), z2, z3] [] v s1 K := by
    intro s1 V z2 z3 hf hv h9 hv22 hk
    have hR1 := rM_fr hR hf (fun k _ _ => by unfold fLm; omega)
    obtain ⟨u0, u1, u2, u3, u4, u5⟩ := hR1
    have g22 : rL s1 146 22 = W 22 := by rw [mVec_at hv (by decide), hv22]
    have sto : ∀ w : Int64, w.toInt = lkFi X W → K (sL s1 146 22 w) := by
      intro w hw
      rw [l_of hw]
      exact hk _ (hf.sL (Or.inl ⟨rfl, by decide⟩)) (mVec_se hv) (fun k => r_IL _ _ _ _ _ _)
    have nost : lkFi X W = (W 22).toInt → K s1 := by
      intro e
      refine hk s1 hf (mVec_congr hv (fun i hi => ?_)) (fun _ => rfl)
      unfold stW
      by_cases hi22 : i = 22
      · rw [if_pos hi22, hi22, hv22]; exact l_of e.symm
      · rw [if_neg hi22]
    -- the second half
    have Y : ∀ w1 : Int64, w1.toInt = wm W → ¬ wm W < X.2.2.1.1 → ∀ z3, pgV (d + 1) 199 102 [.ref 145, .int (nI o), .long w1, z3] [] v s1 K := by
      intro w1 hw1 a z3
      have es : (rL s1 146 22 - (rI s1 155 (o + 5)).toInt64).toInt = (W 22).toInt - X.2.2.2.2 := by
        rw [g22, l_sub (by rw [i_64, u5]; omega), i_64, u5]
      refine st_M_look_102 ?_
      rw [p4.1, p5.1, u4, i_64, u4, hw1, i_64, u5, g22]
      refine ⟨p4.2, fun c => nost ?_, fun c => ⟨p4.2, fun c2 => ⟨p5.2, fun c3 => st_M_look_149 ⟨by decide, sto 0 ?_⟩, fun c3 => ⟨p5.2, st_M_look_149 ⟨by decide, sto _ ?_⟩⟩⟩, fun c2 => nost ?_⟩⟩
      · unfold lkFi; rw [if_neg a, if_neg (by omega)]
      · unfold lkFi; rw [if_neg a, if_pos (by omega), if_pos c3]; rfl
      · rw [g22] at es; rw [es]; unfold lkFi; rw [if_neg a, if_pos (by omega), if_neg c3]
      · unfold lkFi; rw [if_neg a, if_neg (by omega)]
    refine st_M_look_46 (sm_wm rfl hv (fun w1 hw1 => ?_))
    have hw1 : w1.toInt = wm W := by rw [hw1]; unfold wm; rw [h9]
    have ea : (rL s1 146 22 + (rI s1 155 (o + 3)).toInt64).toInt = (W 22).toInt + X.2.2.1.2 := by
      rw [g22, l_add (by rw [i_64, u3]; omega), i_64, u3]
    rw [p2.1, p3.1, u2, i_64, u2, hw1, ea]
    refine ⟨p2.2, fun c => Y w1 hw1 (by omega) _, fun c => ⟨p2.2, fun c2 => ⟨p3.2, fun c3 => st_M_look_100 ⟨by decide, sto 9 ?_⟩, fun c3 => ⟨p3.2, st_M_look_100 ⟨by decide, sto _ ?_⟩⟩⟩, fun c2 => Y w1 hw1 c2 _⟩⟩
    · unfold lkFi; rw [if_pos c2, if_pos c3]; rfl
    · rw [ea]; unfold lkFi; rw [if_pos c2, if_neg c3]
  obtain ⟨u0, u1, _⟩ := hR
  have NO : ¬ (lwW T W : Int) < X.2.1 → ∀ z2 z3, pgV (d + 1) 199 46 [.ref 145, .int (nI o), z2, z3] [] v s K := by
    intro c z2 z3
    refine Z s W z2 z3 (Fr.rf _ _) hm rfl rfl (fun s2 f2 m2 t2 => hK s2 f2 ?_ (fun k hk => ?_))
    · unfold lkW lkV; rw [if_neg c]; exact m2
    · rw [t2, ht k hk]; unfold lkN; rw [if_neg c]
      show _ = if k = 0 then t 0 + 0 else t k
      by_cases k0 : k = 0
      · rw [if_pos k0, k0, i_a0]
      · rw [if_neg k0]
  refine st_M_look ?_
  rw [p1.1, u1]
  refine ⟨p1.2, fun c => NO (by omega) _ _, fun c => sm_low (X := 0) (by decide) hT hm ⟨p1.2, ?_⟩⟩
  rw [u1, nI_toInt (by omega)]
  refine ⟨fun c2 => ?_, fun c2 => NO c2 _ _⟩
  have ea : (rL s 146 23 + 4).toInt = (W 23).toInt + 4 := by rw [mVec_at hm (by decide), l_add (by rw [e4]; omega), e4]
  have er := l_rem (a := rL s 146 23 + 4) (b := 8) (by rw [ea]; omega) (by decide)
  rw [ea, e8] at er
  have M0 : mVec 0 (sI s 157 0 (rI s 157 0 + 1)) W := fun i hi => by rw [r_LI]; exact hm i hi
  refine st_M_look_27 ⟨fun _ => ⟨by decide, ?_⟩, fun z => absurd (by decide) z⟩
  refine st_M_look_27 ⟨fun _ => ⟨by decide, ?_⟩, fun z => absurd (by decide) z⟩
  refine st_M_look_27 ⟨fun z => absurd z (by decide), fun _ => ?_⟩
  have q0 : ((26 : Int32) + 0).toInt.toNat = 26 := by decide
  have q1 : ((26 : Int32) + (0 + 1)).toInt.toNat = 27 := by decide
  rw [q0, q1, r_LL, if_neg (by omega), r_LI, l_of er]
  refine Z _ _ _ _ ((((Fr.rf _ s).sI (Or.inr (Or.inr rfl))).sL (Or.inl ⟨rfl, by decide⟩)).sL (Or.inl ⟨rfl, by decide⟩)) (mVec_se (mVec_se M0)) rfl rfl (fun s2 f2 m2 t2 => hK s2 f2 ?_ (fun k hk => ?_))
  · unfold lkW lkV; rw [if_pos c2]; exact m2
  · rw [t2, r_IL, r_IL, r_II]
    unfold lkN; rw [if_pos c2]
    show _ = if k = 0 then t 0 + 1 else t k
    by_cases k0 : k = 0
    · rw [if_pos ⟨rfl, k0⟩, if_pos k0, ht 0 (by decide)]
    · rw [if_neg (fun z => k0 z.2), if_neg k0, ht k hk]
theorem sm_drawn {x : Int32} (hx : 0 < x.toInt) (hm : mVec 0 s W) (ho : okM m W) {K : Int32 → hS → Prop} (hK : ∀ (r : Int32) s2, Fr fLm s s2 → mVec 0 s2 (stW W 28 (Int64.ofInt (sdN (W 28).toInt))) → (∀ k, rI s2 157 k = rI s 157 k) → r.toInt = sdN (W 28).toInt / 65536 % x.toInt → K r s2) : pcI d 201 [.ref 145, .int x] v s K := by
  have e31 : Int64.toInt 2147483648 = 2147483648 := rfl
  have h28 : rL s 146 28 = W 28 := mVec_at hm (by decide)
  have o28 := ho.2.2.2.2.2.2.2.2.2
  refine st_M_drawn ⟨by rw [i_64]; omega, ?_⟩
  rw [h28]
  have e := l_sd o28
  have e2 := l_rem (a := W 28 * 1103515245 + 12345) (b := 2147483648) (by rw [e]; omega) (by decide)
  rw [e, e31] at e2
  have b := sdN_b (W 28).toInt
  have eq : W 28 * 1103515245 + 12345 - (W 28 * 1103515245 + 12345) / 2147483648 * 2147483648 = Int64.ofInt (sdN (W 28).toInt) := l_of (by rw [e2]; rfl)
  rw [eq]
  refine hK _ _ ((Fr.rf _ s).sL (Or.inl ⟨rfl, by decide⟩)) (mVec_se hm) (fun k => r_IL _ _ _ _ _ _) ?_
  rw [l_dr (by rw [o_i (by omega)]; exact b) (by rw [i_64]; exact hx), o_i (by omega), i_64]
theorem sm_gust {L : List nRow} (hN : eN 0 s L) (hL : nrOK L) {k : Nat} (hk : k < L.length) {x : Int32} (hx : 0 < x.toInt ∧ x.toInt ≤ 9) (hm : mVec 0 s W) (ho : okM m W) {K : hS → Prop} (hK : ∀ s2, Fr fLm s s2 → mVec 0 s2 (gsW (L.getD k (0, 0, 0, 0)) x.toInt W) → (∀ k, rI s2 157 k = rI s 157 k) → K s2) : pcV (d + 1) 200 [.ref 145, .int (nI (4 * k)), .int x] v s K := by
  have e1 : Int32.toInt 1 = 1 := rfl
  have e3 : Int32.toInt 3 = 3 := rfl
  have e8 : Int32.toInt 8 = 8 := rfl
  have hr := nr_get hL hk
  have hL12 := hL.1
  obtain ⟨a1, a2, _, _⟩ := hN k hk
  rw [Nat.zero_add] at a1 a2
  obtain ⟨r1, r2, _, _⟩ := hr
  generalize L.getD k (0, 0, 0, 0) = r at *
  have ex : (x + 1).toInt = x.toInt + 1 := by rw [i_add (by rw [e1]; omega), e1]
  have b1 := sdN_b (W 28).toInt
  have b2 := sdN_b (sdN (W 28).toInt)
  have c1 := Int.emod_nonneg (sdN (W 28).toInt / 65536) (show x.toInt + 1 ≠ 0 by omega)
  have c2 := Int.emod_lt_of_pos (sdN (W 28).toInt / 65536) (show 0 < x.toInt + 1 by omega)
  have p0 : (nI (4 * k)).toInt.toNat = 4 * k ∧ 0 ≤ (nI (4 * k)).toInt ∧ (nI (4 * k)).toInt < 96 := by rw [nI_toInt (by omega)]; omega
  have p1 : (nI (4 * k) + 1).toInt.toNat = 4 * k + 1 ∧ 0 ≤ (nI (4 * k) + 1).toInt ∧ (nI (4 * k) + 1).toInt < 96 := by
    rw [nI_1, nI_toInt (by omega)]; omega
  refine st_M_gust (sm_drawn (by rw [ex]; omega) hm ho (fun q s2 f2 m2 t2 hq => ?_))
  rw [ex] at hq
  have hS : okM m (stW W 28 (Int64.ofInt (sdN (W 28).toInt))) := okM_set ho (by decide) (by omega) (by omega) (by omega) (by omega) (by omega) (by omega) (fun _ => by rw [o_i (by omega)]; exact b1)
  refine sm_drawn (by decide) m2 hS (fun q3 s3 f3 m3 t3 hq3 => ?_)
  rw [stW_s, o_i (by omega)] at m3 hq3
  rw [e3] at hq3
  have F3 := f2.tr f3
  have n154 : ∀ k, ¬ fLm 154 k := fun k => by unfold fLm; omega
  have ew0 : (rI s3 154 (4 * k)).toInt = r.1 := by rw [F3.i (n154 _)]; exact a1
  have ew1 : (rI s3 154 (4 * k + 1)).toInt = r.2.1 := by rw [F3.i (n154 _)]; exact a2
  have ea : (rI s3 154 (4 * k + 1) + q).toInt = r.2.1 + sdN (W 28).toInt / 65536 % (x.toInt + 1) := by rw [i_add (by rw [ew1, hq]; omega), ew1, hq]
  have es : (q3 - 1).toInt = q3.toInt - 1 := by rw [i_sub (by rw [e1]; omega), e1]
  have es2 : (rI s3 154 (4 * k) + (q3 - 1)).toInt = r.1 + q3.toInt - 1 := by rw [i_add (by rw [ew0, es]; omega), ew0, es]; omega
  have es3 : (rI s3 154 (4 * k) + (q3 - 1) + 8).toInt = r.1 + q3.toInt + 7 := by rw [i_add (by rw [es2, e8]; omega), es2, e8]; omega
  have er := i_rem (a := rI s3 154 (4 * k) + (q3 - 1) + 8) (b := 8) (by rw [es3]; omega) (by decide)
  rw [es3, e8, hq3] at er
  have G : ∀ w : Int64, w = Int64.ofInt (if 9 < r.2.1 + sdN (W 28).toInt / 65536 % (x.toInt + 1) then 9 else r.2.1 + sdN (W 28).toInt / 65536 % (x.toInt + 1)) → K (sL (sL s3 146 24 w) 146 23 ((rI s3 154 (4 * k) + (q3 - 1) + 8 - (rI s3 154 (4 * k) + (q3 - 1) + 8) / 8 * 8).toInt64)) := by
    intro w hw
    refine hK _ ((F3.sL (Or.inl ⟨rfl, by decide⟩)).sL (Or.inl ⟨rfl, by decide⟩)) (mVec_congr (mVec_se (mVec_se m3)) (fun i hi => ?_)) (fun k => by rw [r_IL, r_IL, t3, t2])
    rw [l_of ((i_64 _).trans er), hw]
    unfold gsW stW
    by_cases i23 : i = 23
    · rw [if_pos i23, if_pos i23]
    · rw [if_neg i23, if_neg i23]
      by_cases i28 : i = 28
      · rw [if_pos i28, i28, if_neg (by decide), if_pos rfl]; rfl
      · rw [if_neg i28, if_neg i28, if_neg i28]
  rw [p0.1, p1.1]
  refine ⟨p1.2, fun c => ⟨p0.2, G 9 ?_⟩, fun c => ⟨p1.2, p0.2, G _ ?_⟩⟩
  · rw [ea] at c; rw [if_pos c]; rfl
  · rw [ea] at c; rw [if_neg c]; exact l_of ((i_64 _).trans ea)
end
