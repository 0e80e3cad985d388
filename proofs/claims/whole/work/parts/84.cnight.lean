/-! A NIGHT by a RULE, in the class -/
def fAi (c _k : Nat) : Prop := 92 ≤ c ∧ c ≤ 92 + 3
def fLc (c k : Nat) : Prop := fAi c k ∨ c = 103
section
variable {d : Nat} {v : hV} {s s1 : hS} {m : Int} {T : Nat → Int} {W U : Nat → Int64} {X : rRow}
theorem cVec_I {a j : Nat} {x : Int32} (hc : cVec a s W) (hj : j < 29) (hl : aL j = false) : cVec a (sI s (a + aC j) (aK j) x) (stW W j x.toInt64) := fun i hi => by
  rw [cA_I hi hj hl]; unfold stW; rw [hc i hi]
theorem cVec_L {a j : Nat} {x : Int64} (hc : cVec a s W) (hj : j < 29) (hl : aL j = true) : cVec a (sL s (a + aC j) (aK j) x) (stW W j x) := fun i hi => by
  rw [cA_L hi hj hl]; unfold stW; rw [hc i hi]
theorem cVec_congr {a : Nat} (hc : cVec a s W) (e : ∀ i, i < 29 → W i = U i) : cVec a s U := fun i hi => by rw [hc i hi, e i hi]
theorem cVec_fr {a : Nat} {F : Nat → Nat → Prop} (hc : cVec a s W) (hf : Fr F s s1) (hw : ∀ c k, a ≤ c → c ≤ a + 3 → ¬ F c k) : cVec a s1 W := fun i hi => by
  have := aC_le i hi
  rw [cA_fr hf (hw _ _ (by omega) (by omega))]; exact hc i hi
theorem sp_looksAt {u : Nat} (hu : kU u) (hU : dU u s X) (hX : rrOK X) {x : Int32} (hx : 0 ≤ x.toInt) {K : Int32 → hS → Prop} (h1 : x.toInt % X.1 = 0 → K 1 s) (h0 : ¬ x.toInt % X.1 = 0 → K 0 s) : pcI d 90 [.ref u, .int x] v s K := by
  have e0 : (rI s u 0).toInt = X.1 := hU.1
  have hx1 := hX.1
  have er := i_rem (a := x) (b := rI s u 0) hx (by rw [e0]; omega)
  rw [e0] at er
  exact st_Rule_looksAt hu ⟨fun c => absurd c (by rw [e0]; omega), fun _ => ⟨by rw [e0]; omega, fun c => h1 (by rw [← er]; exact c), fun c => h0 (by rw [← er]; exact c)⟩⟩
theorem sp_mind {t u : Nat} (ht : kT t) (hu : kU u) (hT : tvC t s T) (hU : dU u s X) (hX : rrOK X) (hc : cVec 92 s W) (ho : okM m W) (hm : m ≤ 100000000) {K : Int32 → hS → Prop} (hK : ∀ (r : Int32) s2, Fr fAi s s2 → cVec 92 s2 (lkW T X W) → ((lwW T W : Int) < X.2.1 → r = 1) → (¬ (lwW T W : Int) < X.2.1 → r = 0) → K r s2) : pcI (d + 2) 91 [.ref u, .ref 92, .ref t] v s K := by
  have w0 := wm_0 ho
  have w9 := wm_lt ho hm
  have e4 : Int32.toInt 4 = 4 := rfl
  have e8 : Int32.toInt 8 = 8 := rfl
  have e9 : Int32.toInt 9 = 9 := rfl
  have e0 : Int32.toInt 0 = 0 := rfl
  have hu2 : u < 92 ∨ 95 < u := by unfold kU at hu; omega
  have hl8 : lwW T W ≤ 8 := by have := lwF_le T W 8 0; unfold lwW; omega
  have h22 := ho.2.2.2.1
  have h23 := ho.2.2.2.2.1
  have hX2 := hX
  obtain ⟨_, x1, x2, x3⟩ := hX2
  unfold opOK at x2 x3
  -- the fire
  have Z : ∀ (x0 : Int32) (s1 : hS) (V : Nat → Int64), Fr fAi s s1 → cVec 92 s1 V → V 9 = W 9 → V 22 = W 22 → (∀ s2, Fr fAi s s2 → cVec 92 s2 (stW V 22 (Int64.ofInt (lkFi X W))) → K x0 s2) → pcL (d + 1) 65 [.ref 92, .int 1] v s1 (fun w8 s8 => (w8.toInt < ((rI s8 u 2).toInt64).toInt → pcI (d + 1) 92 [.int 9, .int ((rI s8 92 9) + (rI s8 u 4))] v s8 (fun w10 s10 => K x0 (sI s10 92 9 w10))) ∧ (¬ w8.toInt < ((rI s8 u 2).toInt64).toInt → ((rL s8 u 3).toInt < w8.toInt → pcI (d + 1) 93 [.int 0, .int ((rI s8 92 9) - (rI s8 u 5))] v s8 (fun w12 s12 => K x0 (sI s12 92 9 w12))) ∧ (¬ (rL s8 u 3).toInt < w8.toInt → K x0 s8))) := by
    intro x0 s1 V hf hv h9 hv22 hk
    have hU1 := dU_fr hU hf (fun k => by unfold fAi; omega)
    obtain ⟨u0, u1, u2, u3, u4, u5⟩ := hU1
    have g9 : (rL s1 (92 + 2) 1 / 20).toInt = wm W := by
      have : rL s1 (92 + 2) 1 = V 9 := by rw [← hv 9 (by decide)]; exact (cA_heat 92 1 s1 (by decide)).symm
      rw [this, h9]; rfl
    have g22 : (rI s1 92 9).toInt = (W 22).toInt := by
      have : (rI s1 92 9).toInt64 = V 22 := hv 22 (by decide)
      rw [← hv22, ← this, i_64]
    have sto : ∀ w : Int32, w.toInt = lkFi X W → K x0 (sI s1 92 9 w) := by
      intro w hw
      refine hk _ (hf.sI ⟨by decide, by decide⟩) (cVec_congr (cVec_I (j := 22) (x := w) hv (by decide) rfl) (fun i hi => ?_))
      rw [show w.toInt64 = Int64.ofInt (lkFi X W) from l_of (by rw [i_64, hw])]
    refine st_Air_warmth (Or.inl rfl) ⟨by decide, ?_⟩
    show ((rL s1 (92 + 2) 1 / 20).toInt < _ → _) ∧ (¬ (rL s1 (92 + 2) 1 / 20).toInt < _ → ((rL s1 u 3).toInt < (rL s1 (92 + 2) 1 / 20).toInt → _) ∧ (¬ (rL s1 u 3).toInt < (rL s1 (92 + 2) 1 / 20).toInt → _))
    rw [g9, i_64, u2, u4]
    have ea : ∀ y : Int32, (y.toInt = X.2.2.1.2) → (rI s1 92 9 + y).toInt = (W 22).toInt + X.2.2.1.2 := fun y hy => by rw [i_add (by rw [g22, hy]; omega), g22, hy]
    have es : ∀ y : Int32, (y.toInt = X.2.2.2.2) → (rI s1 92 9 - y).toInt = (W 22).toInt - X.2.2.2.2 := fun y hy => by rw [i_sub (by rw [g22, hy]; omega), g22, hy]
    have c1 : (wm W < if X.2.2.1.1 = -1 then 0 else X.2.2.1.1) ↔ wm W < X.2.2.1.1 := by split <;> omega
    have c2 : ((if X.2.2.2.1 = -1 then 1152921504606846976 else X.2.2.2.1) < wm W) ↔ (X.2.2.2.1 ≠ -1 ∧ X.2.2.2.1 < wm W) := by split <;> omega
    rw [c1, c2]
    refine ⟨fun a => st_Math_min ⟨fun b => sto _ ?_, fun b => sto _ ?_⟩, fun a => ⟨fun a2 => st_Math_max ⟨fun b => sto _ ?_, fun b => sto _ ?_⟩, fun a2 => hk _ hf (cVec_congr hv (fun i hi => ?_))⟩⟩
    · rw [ea _ u3] at b ⊢; rw [e9] at b; unfold lkFi; rw [if_pos a, if_neg (by omega)]
    · rw [ea _ u3, e9] at b; rw [e9]; unfold lkFi; rw [if_pos a]; split <;> omega
    · rw [es _ u5] at b ⊢; rw [e0] at b; unfold lkFi; rw [if_neg a, if_pos a2, if_neg (by omega)]
    · rw [es _ u5, e0] at b; rw [e0]; unfold lkFi; rw [if_neg a, if_pos a2]; split <;> omega
    · unfold stW
      by_cases hi22 : i = 22
      · rw [if_pos hi22, hi22, hv22]; unfold lkFi; rw [if_neg a, if_neg a2]; exact l_of rfl
      · rw [if_neg hi22]
  have u1 : (rI s u 1).toInt = (if X.2.1 = -1 then 0 else X.2.1) := hU.2.1
  refine st_Rule_mind ht hu (sp_low ht (Or.inl rfl) hT hc ?_)
  rw [nI_toInt (by omega), u1]
  have c0 : ((lwW T W : Int) < if X.2.1 = -1 then 0 else X.2.1) ↔ (lwW T W : Int) < X.2.1 := by split <;> omega
  rw [c0]
  have g23 : (rI s 92 10).toInt = (W 23).toInt := by
    have : (rI s 92 10).toInt64 = W 23 := hc 23 (by decide)
    rw [← this, i_64]
  refine ⟨fun c => ?_, fun c => ?_⟩
  · have e1 : (rI s 92 10 + 4).toInt = (W 23).toInt + 4 := by rw [i_add (by rw [g23, e4]; omega), g23, e4]
    have e2 := i_rem (a := rI s 92 10 + 4) (b := 8) (by rw [e1]; omega) (by decide)
    rw [e1, e8] at e2
    generalize hy : rI s 92 10 + 4 - (rI s 92 10 + 4) / 8 * 8 = y at *
    have ey : y.toInt64 = Int64.ofInt (((W 23).toInt + 4) % 8) := l_of (by rw [i_64, e2])
    have V1 := cVec_I (j := 26) (x := y) hc (by decide) rfl
    have V2 := cVec_I (j := 27) (x := y) V1 (by decide) rfl
    rw [ey] at V2
    refine Z 1 (sI (sI s 95 0 y) 95 1 y) _ (((Fr.rf _ s).sI ⟨by decide, by decide⟩).sI ⟨by decide, by decide⟩) V2 rfl rfl (fun s2 f2 h2 => hK 1 s2 f2 ?_ (fun _ => rfl) (fun z => absurd c z))
    unfold lkW lkV; rw [if_pos c]; exact h2
  · refine Z 0 s W (Fr.rf _ _) hc rfl rfl (fun s2 f2 h2 => hK 0 s2 f2 ?_ (fun z => absurd z c) (fun _ => rfl))
    unfold lkW lkV; rw [if_neg c]; exact h2
theorem l_and31 {y : Int64} (h : 0 ≤ y.toInt) : (y &&& 2147483647).toInt = y.toInt % 2147483648 := by
  have e : y = Int64.ofNat y.toInt.toNat := by
    have hr := l_rng y
    refine l_inj ?_
    rw [Int64.toInt_ofNat_of_lt (by omega)]; omega
  have hr := l_rng y
  have hb : (y &&& 2147483647) = Int64.ofNat (y.toInt.toNat &&& 2147483647) := by
    conv => lhs; rw [e]
    apply Int64.toBitVec_inj.mp
    show (BitVec.ofNat 64 _ &&& BitVec.ofNat 64 2147483647) = BitVec.ofNat 64 _
    rw [BitVec.ofNat_and]
  rw [hb, show (2147483647 : Nat) = 2 ^ 31 - 1 from rfl, Nat.and_two_pow_sub_one_eq_mod, Int64.toInt_ofNat_of_lt (by omega)]
  omega
theorem l_sd {y : Int64} (h : 0 ≤ y.toInt ∧ y.toInt < 2147483648) : (y * 1103515245 + 12345).toInt = y.toInt * 1103515245 + 12345 := by
  have e1 : Int64.toInt 1103515245 = 1103515245 := rfl
  have e2 : Int64.toInt 12345 = 12345 := rfl
  have e3 : (y * 1103515245).toInt = y.toInt * 1103515245 := by rw [l_mul (by rw [e1]; omega), e1]
  rw [l_add (by rw [e3, e2]; omega), e3, e2]
theorem l_dr {q x : Int64} (h : 0 ≤ q.toInt ∧ q.toInt < 2147483648) (hx : 0 < x.toInt) : ((q / 65536 - q / 65536 / x * x).toInt32).toInt = q.toInt / 65536 % x.toInt := by
  have e1 : Int64.toInt 65536 = 65536 := rfl
  have e2 : (q / 65536).toInt = q.toInt / 65536 := by rw [l_div h.1 (by rw [e1]; decide), e1]
  have e3 := l_rem (a := q / 65536) (b := x) (by rw [e2]; omega) hx
  have b1 := Int.emod_nonneg (q.toInt / 65536) (show x.toInt ≠ 0 by omega)
  have b3 := Int.emod_add_mul_ediv (q.toInt / 65536) x.toInt
  have b4 : 0 ≤ x.toInt * (q.toInt / 65536 / x.toInt) := Int.mul_nonneg (by omega) (Int.ediv_nonneg (by omega) (by omega))
  rw [l_32 (by rw [e3, e2]; omega), e3, e2]
theorem sp_drawn {x : Int32} (hx : 0 < x.toInt) (hc : cVec 92 s W) (ho : okM m W) {K : Int32 → hS → Prop} (hK : ∀ (r : Int32) s2, Fr fAi s s2 → cVec 92 s2 (stW W 28 (Int64.ofInt (sdN (W 28).toInt))) → r.toInt = sdN (W 28).toInt / 65536 % x.toInt → K r s2) : pcI d 96 [.ref 92, .int x] v s K := by
  have h28 : rL s 92 13 = W 28 := hc 28 (by decide)
  have o28 := ho.2.2.2.2.2.2.2.2.2
  refine st_Air_drawn (Or.inl rfl) ⟨fun c => absurd c (by omega), fun _ => ⟨by rw [i_64]; omega, ?_⟩⟩
  rw [h28]
  have e := l_sd o28
  have e2 := l_and31 (y := W 28 * 1103515245 + 12345) (by rw [e]; omega)
  rw [e] at e2
  have b := sdN_b (W 28).toInt
  have eq : W 28 * 1103515245 + 12345 &&& 2147483647 = Int64.ofInt (sdN (W 28).toInt) := l_of (by rw [e2]; rfl)
  rw [eq]
  refine hK _ _ ((Fr.rf _ s).sL ⟨by decide, by decide⟩) (cVec_L (j := 28) hc (by decide) rfl) ?_
  rw [l_dr (by rw [o_i (by omega)]; exact b) (by rw [i_64]; exact hx), o_i (by omega), i_64]
theorem sp_gust {n : Nat} (hn : kN n) {L : List nRow} (hN : dN n s L) (hL : nrOK L) {k : Nat} (hk : k < L.length) {x : Int32} (hx : 0 < x.toInt ∧ x.toInt ≤ 9) (hc : cVec 92 s W) (ho : okM m W) {K : hS → Prop} (hK : ∀ s2, Fr fAi s s2 → cVec 92 s2 (gsW (L.getD k (0, 0, 0, 0)) x.toInt W) → K s2) : pcV (d + 1) 95 [.ref n, .ref 92, .int (nI k), .int x] v s K := by
  have e1 : Int32.toInt 1 = 1 := rfl
  have e3 : Int32.toInt 3 = 3 := rfl
  have e9 : Int32.toInt 9 = 9 := rfl
  have hn2 : n + 4 < 92 := by unfold kN at hn; omega
  have hr := nr_get hL hk
  have hL12 := hL.1
  obtain ⟨_, _, hN3⟩ := hN
  obtain ⟨a1, a2, _, _⟩ := hN3 k hk
  obtain ⟨r1, r2, _, _⟩ := hr
  generalize L.getD k (0, 0, 0, 0) = r at *
  have ex : (x + 1).toInt = x.toInt + 1 := by rw [i_add (by rw [e1]; omega), e1]
  have b1 := sdN_b (W 28).toInt
  have b2 := sdN_b (sdN (W 28).toInt)
  refine st_Night_gust hn ?_
  rw [nI_toInt (by omega), Int.toNat_natCast]
  refine ⟨by omega, sp_drawn (by rw [ex]; omega) hc ho (fun q s2 f2 h2 hq => ?_)⟩
  rw [ex] at hq
  have c1 := Int.emod_nonneg (sdN (W 28).toInt / 65536) (show x.toInt + 1 ≠ 0 by omega)
  have c2 := Int.emod_lt_of_pos (sdN (W 28).toInt / 65536) (show 0 < x.toInt + 1 by omega)
  have hS : okM m (stW W 28 (Int64.ofInt (sdN (W 28).toInt))) := okM_set ho (by decide) (by omega) (by omega) (by omega) (by omega) (by omega) (by omega) (fun _ => by rw [o_i (by omega)]; exact b1)
  have ea : (rI s (n + 2) k + q).toInt = r.2.1 + sdN (W 28).toInt / 65536 % (x.toInt + 1) := by rw [i_add (by rw [a2, hq]; omega), a2, hq]
  have G : ∀ w : Int32, w.toInt = (if 9 < r.2.1 + sdN (W 28).toInt / 65536 % (x.toInt + 1) then 9 else r.2.1 + sdN (W 28).toInt / 65536 % (x.toInt + 1)) → (0 ≤ (k : Int) ∧ (k : Int) < 12) ∧ pcI d 96 [.ref 92, .int 3] v (sI s2 92 11 w) (fun w3 s3 => pcI d 97 [.int (((rI s2 (n + 1) k) + w3) - 1), .int 8] v s3 (fun w4 s4 => K (sI s4 92 10 w4))) := by
    intro w hw
    have hwb : 0 ≤ w.toInt ∧ w.toInt ≤ 9 := by rw [hw]; split <;> omega
    have V2 := cVec_I (j := 24) (x := w) h2 (by decide) rfl
    have hS2 : okM m (stW (stW W 28 (Int64.ofInt (sdN (W 28).toInt))) 24 w.toInt64) := okM_set hS (by decide) (by omega) (by omega) (fun _ => by rw [i_64]; exact hwb) (by omega) (by omega) (by omega) (by omega)
    refine ⟨by omega, sp_drawn (by decide) V2 hS2 (fun q3 s3 f3 h3 hq3 => ?_)⟩
    have e28 : stW (stW W 28 (Int64.ofInt (sdN (W 28).toInt))) 24 w.toInt64 28 = Int64.ofInt (sdN (W 28).toInt) := by rw [stW_n (by decide), stW_s]
    rw [e28, o_i (by omega)] at h3 hq3
    rw [e3] at hq3
    have ew : (rI s2 (n + 1) k).toInt = r.1 := by rw [f2.i (by unfold fAi; omega)]; exact a1
    have ea1 : (rI s2 (n + 1) k + q3).toInt = r.1 + q3.toInt := by rw [i_add (by rw [ew, hq3]; omega), ew]
    have ea2 : (rI s2 (n + 1) k + q3 - 1).toInt = r.1 + q3.toInt - 1 := by rw [i_sub (by rw [ea1, e1, hq3]; omega), ea1, e1]
    refine sp_floor8 (by rw [ea2, hq3]; omega) (fun z hz => ?_)
    rw [ea2, hq3] at hz
    have F : Fr fAi s (sI s3 92 10 z) := ((f2.sI (x := w) (c := 92) (k := 11) ⟨by decide, by decide⟩).tr f3).sI ⟨by decide, by decide⟩
    refine hK _ F (cVec_congr (cVec_I (j := 23) (x := z) h3 (by decide) rfl) (fun i hi => ?_))
    unfold gsW
    rw [show z.toInt64 = Int64.ofInt ((r.1 + sdN (sdN (W 28).toInt) / 65536 % 3 + 7) % 8) from l_of (by rw [i_64, hz]; omega), show w.toInt64 = Int64.ofInt (if 9 < r.2.1 + sdN (W 28).toInt / 65536 % (x.toInt + 1) then 9 else r.2.1 + sdN (W 28).toInt / 65536 % (x.toInt + 1)) from l_of (by rw [i_64, hw])]
    unfold stW
    by_cases i23 : i = 23
    · rw [if_pos i23, if_pos i23]
    · rw [if_neg i23, if_neg i23]
      by_cases i28 : i = 28
      · rw [if_pos i28, i28, if_neg (by decide), if_pos rfl]
      · rw [if_neg i28]
        by_cases i24 : i = 24
        · rw [if_pos i24, if_pos i24]
        · rw [if_neg i24, if_neg i24, if_neg i28, if_neg i28]
  refine st_Math_min ⟨fun c => G _ ?_, fun c => G _ ?_⟩
  · rw [ea]; rw [ea, e9] at c; rw [if_neg (by omega)]
  · rw [ea, e9] at c; rw [e9]; split <;> omega
/-- what is told of the NIGHT -/
def tCl (s : hS) (t : Nat → Int32) : Prop := ∀ k, k < 4 → rI s 103 k = t k
theorem sp_add {t : Nat → Int32} {j : Nat} (hj : j < 4) {y : Int32} (h : tCl s t) {K : hS → Prop} (hK : ∀ s2, Fr (fun c _ => c = 103) s s2 → tCl s2 (fun i => if i = j then t j + y else t i) → K s2) : pcV d 94 [.ref 103, .int (nI j), .int y] v s K := by
  have e : (nI j).toInt = j := nI_toInt (by omega)
  refine st_Night_add ⟨fun _ => ?_, fun c => absurd (by rw [e]; omega) c⟩
  rw [e, Int.toNat_natCast]
  refine ⟨by omega, by omega, hK _ ((Fr.rf _ s).sI rfl) (fun k hk => ?_)⟩
  rw [r_II, h j hj]
  show _ = if k = j then t j + y else t k
  by_cases c : k = j
  · rw [if_pos ⟨rfl, c⟩, if_pos c]
  · rw [if_neg (fun z => c z.2), if_neg c, h k hk]
end
