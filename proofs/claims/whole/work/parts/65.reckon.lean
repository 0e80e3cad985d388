/-! AIR: what is reckoned of it: LIFT, OPEN, DRAW, LOW -/
def lbT (d : Nat) : Int := match d with | 0 => -12 | 1 => -6 | 2 => 3 | 3 => 8 | 4 => 10 | 5 => 8 | 6 => 3 | _ => -6
theorem lbT_b (d : Nat) : -12 ≤ lbT d ∧ lbT d ≤ 10 := by
  unfold lbT; split <;> decide
theorem lbT_sym : ∀ t, t < 8 → 1 ≤ t → lbT (8 - t) = lbT t := by decide
def lf1 (e w g : Int) : Int := if e = 8 then 0 else g * lbT ((e - w) % 8).toNat
def lfW (W : Nat → Int64) : Int := lf1 (W 26).toInt (W 23).toInt (W 24).toInt + lf1 (W 27).toInt (W 23).toInt (W 24).toInt
theorem mul_b {g l : Int} (h : 0 ≤ g ∧ g ≤ 9) (hl : -12 ≤ l ∧ l ≤ 10) : -108 ≤ g * l ∧ g * l ≤ 90 := by
  have : g = 0 ∨ g = 1 ∨ g = 2 ∨ g = 3 ∨ g = 4 ∨ g = 5 ∨ g = 6 ∨ g = 7 ∨ g = 8 ∨ g = 9 := by omega
  rcases this with rfl | rfl | rfl | rfl | rfl | rfl | rfl | rfl | rfl | rfl <;> omega
theorem lf1_b (e w : Int) {g : Int} (h : 0 ≤ g ∧ g ≤ 9) : -108 ≤ lf1 e w g ∧ lf1 e w g ≤ 90 := by
  unfold lf1; split
  · omega
  · exact mul_b h (lbT_b _)
/-- the table of LIFTS, that nobody writes -/
def pLT (s : hS) : Prop := ∀ k, k < 8 → (rI s 5 k).toInt = lbT k
def cVec (a : Nat) (s : hS) (W : Nat → Int64) : Prop := ∀ i, i < 29 → cA a s i = W i
def mVec (x : Nat) (s : hS) (W : Nat → Int64) : Prop := ∀ i, i < 29 → rL s 146 (x + i) = W i
theorem l_of {y : Int64} {x : Int} (h : y.toInt = x) : y = Int64.ofInt x := by
  subst h; exact (Int64.ofInt_toInt y).symm
def flM (x : Int32) : Prop := ((x ^^^ 8).toInt < 0 → ((x - x / 8 * 8).toInt = 0 → (x - x / 8 * 8).toInt = x.toInt % 8) ∧ (¬ (x - x / 8 * 8).toInt = 0 → ((x - x / 8 * 8) + 8).toInt = x.toInt % 8)) ∧ (¬ (x ^^^ 8).toInt < 0 → (x - x / 8 * 8).toInt = x.toInt % 8)
theorem flM_all : ∀ n : Nat, n < 24 → flM (nI n - 8) := by unfold flM; decide +kernel
theorem flM_of {x : Int32} (h : -8 ≤ x.toInt ∧ x.toInt ≤ 15) : flM x := by
  have e8 : Int32.toInt 8 = 8 := rfl
  have : x = nI (x.toInt + 8).toNat - 8 := i_inj (by
    rw [i_sub (by rw [nI_toInt (by omega), e8]; omega), nI_toInt (by omega), e8]; omega)
  rw [this]; exact flM_all _ (by omega)
theorem rm8_all : ∀ n : Nat, n < 24 → (nI n - nI n / 8 * 8).toInt = (n : Int) % 8 := by decide +kernel
theorem rm8 {x : Int32} (h : 0 ≤ x.toInt ∧ x.toInt ≤ 23) : (x - x / 8 * 8).toInt = x.toInt % 8 := by
  have e : x = nI x.toInt.toNat := i_inj (by rw [nI_toInt (by omega)]; omega)
  have q := rm8_all x.toInt.toNat (by omega)
  rw [← e] at q; omega
/-- an eighth of the ring: y is x less w, and 8 (so never less than 0) -/
theorem rm8_of {x w : Int32} (hx : 0 ≤ x.toInt ∧ x.toInt ≤ 8) (hw : 0 ≤ w.toInt ∧ w.toInt ≤ 7) : (((x - w) + 8) - ((x - w) + 8) / 8 * 8).toInt = (x.toInt - w.toInt) % 8 := by
  have e8 : Int32.toInt 8 = 8 := rfl
  have e1 : (x - w).toInt = x.toInt - w.toInt := i_sub (by omega)
  have e2 : ((x - w) + 8).toInt = x.toInt - w.toInt + 8 := by rw [i_add (by rw [e1, e8]; omega), e1, e8]
  rw [rm8 (by rw [e2]; omega), e2]; omega
section
variable {d : Nat} {v : hV} {s s1 : hS} {n : Nat} {W : Nat → Int64}
theorem sp_floor8 {x : Int32} (h : -8 ≤ x.toInt ∧ x.toInt ≤ 15) {K : Int32 → hS → Prop} (hK : ∀ r : Int32, r.toInt = x.toInt % 8 → K r s) : pcI d 97 [.int x, .int 8] v s K := by
  have h8 := flM_of h
  exact st_Math_floorMod ⟨by decide, fun c => ⟨fun c2 => hK _ ((h8.1 c).1 c2), fun c2 => hK _ ((h8.1 c).2 c2)⟩, fun c => hK _ (h8.2 c)⟩
theorem sp_liftOf {a : Nat} (ha : kA a) {x : Int32} (hL : pLT s) (hc : cVec a s W) (ho : okA n W) (hx : 0 ≤ x.toInt ∧ x.toInt ≤ 8) {K : Int32 → hS → Prop} (hK : ∀ r : Int32, r.toInt = lf1 x.toInt (W 23).toInt (W 24).toInt → K r s) : pcI (d + 1) 69 [.ref a, .int x] v s K := by
  obtain ⟨o1, o2, o3, o4, o5, o6, o7⟩ := ho
  have h23 : (rI s a 10).toInt64 = W 23 := hc 23 (by decide)
  have h24 : (rI s a 11).toInt64 = W 24 := hc 24 (by decide)
  have g23 : (rI s a 10).toInt = (W 23).toInt := by rw [← h23, i_64]
  have g24 : (rI s a 11).toInt = (W 24).toInt := by rw [← h24, i_64]
  have hr := rm8_of hx (w := rI s a 10) (by rw [g23]; exact o5)
  rw [g23] at hr
  have hb := mul_b o6 (lbT_b ((x.toInt - (W 23).toInt) % 8).toNat)
  refine st_Air_liftOf ha ⟨fun c => hK 0 (by unfold lf1; rw [if_pos c]; rfl), fun c => ⟨fun c2 => absurd c2 (by rw [hr]; omega), fun _ => ⟨fun _ => ⟨by rw [hr]; omega, hK _ ?_⟩, fun c2 => absurd (by rw [hr]; omega) c2⟩⟩⟩
  rw [hr]
  have e5 : (rI s 5 ((x.toInt - (W 23).toInt) % 8).toNat).toInt = lbT ((x.toInt - (W 23).toInt) % 8).toNat := hL _ (by omega)
  unfold lf1
  rw [if_neg c, i_mul (by rw [e5, g24]; omega), e5, g24]
theorem sp_lift {a : Nat} (ha : kA a) (hL : pLT s) (hc : cVec a s W) (ho : okA n W) {K : Int32 → hS → Prop} (hK : ∀ r : Int32, r.toInt = lfW W → K r s) : pcI (d + 2) 68 [.ref a] v s K := by
  have h26 : (rI s (a + 3) 0).toInt64 = W 26 := hc 26 (by decide)
  have h27 : (rI s (a + 3) 1).toInt64 = W 27 := hc 27 (by decide)
  have g26 : (rI s (a + 3) 0).toInt = (W 26).toInt := by rw [← h26, i_64]
  have g27 : (rI s (a + 3) 1).toInt = (W 27).toInt := by rw [← h27, i_64]
  have o := ho
  obtain ⟨o1, o2, o3, o4, o5, o6, o7, o8, o9, o10⟩ := o
  refine st_Air_lift ha (sp_liftOf ha hL hc ho (by rw [g26]; exact o8) (fun r1 hr1 => sp_liftOf ha hL hc ho (by rw [g27]; exact o9) (fun r2 hr2 => hK _ ?_)))
  rw [g26] at hr1; rw [g27] at hr2
  have b1 := lf1_b (W 26).toInt (W 23).toInt o6
  have b2 := lf1_b (W 27).toInt (W 23).toInt o6
  unfold lfW
  rw [i_add (by omega), hr1, hr2]
theorem sm_lb {x0 x1 : Int32} (h0 : 0 ≤ x0.toInt ∧ x0.toInt ≤ 7) (h1 : 0 ≤ x1.toInt ∧ x1.toInt ≤ 7) {K : Int32 → hS → Prop} (hK : ∀ r : Int32, r.toInt = lbT ((x0.toInt - x1.toInt) % 8).toNat → K r s) : pcI d 189 [.int x0, .int x1] v s (fun w s1 => pcI d 190 [.int w] v s1 K) := by
  have e8 : Int32.toInt 8 = 8 := rfl
  have e10 : Int32.toInt (-12) = -12 := rfl
  have e11 : Int32.toInt (-6) = -6 := rfl
  have B : ∀ (w : Int32) (t : Nat), w.toInt = t → t ≤ 4 → lbT ((x0.toInt - x1.toInt) % 8).toNat = lbT t → pcI d 190 [.int w] v s K := by
    intro w t hw ht e
    refine st_M_liftBy ⟨fun c => hK _ ?_, fun c => hK _ ?_, fun c => hK _ ?_, fun c => hK _ ?_, fun c => hK _ ?_⟩
    · rw [e, show t = 0 by omega]; rfl
    · rw [e, show t = 1 by omega]; rfl
    · rw [e, show t = 2 by omega]; rfl
    · rw [e, show t = 3 by omega]; rfl
    · rw [e, show t = 4 by omega]; rfl
  have s1 : (x0 - x1).toInt = x0.toInt - x1.toInt := i_sub (by omega)
  have s2 : (x1 - x0).toInt = x1.toInt - x0.toInt := i_sub (by omega)
  have s3 : (8 - (x0 - x1)).toInt = 8 - (x0.toInt - x1.toInt) := by rw [i_sub (by rw [e8]; omega), e8, s1]
  have s4 : (8 - (x1 - x0)).toInt = 8 - (x1.toInt - x0.toInt) := by rw [i_sub (by rw [e8]; omega), e8, s2]
  refine st_M_apart ⟨fun c => ⟨fun c2 => ?_, fun c2 => ?_⟩, fun c => ⟨fun c2 => ?_, fun c2 => ?_⟩⟩
  · refine B _ (8 - (x0.toInt - x1.toInt).toNat) (by rw [s3]; omega) (by omega) ?_
    rw [lbT_sym _ (by omega) (by omega)]; congr 1; omega
  · exact B _ (x0.toInt - x1.toInt).toNat (by rw [s1]; omega) (by omega) (by congr 1; omega)
  · exact B _ (8 - (x1.toInt - x0.toInt).toNat) (by rw [s4]; omega) (by omega) (by congr 1; omega)
  · refine B _ (x1.toInt - x0.toInt).toNat (by rw [s2]; omega) (by omega) ?_
    by_cases c3 : x1.toInt = x0.toInt
    · congr 1; omega
    · rw [← lbT_sym (x1.toInt - x0.toInt).toNat (by omega) (by omega)]; congr 1; omega
theorem nX {X : Nat} (hX : X ≤ 96) (k : Nat) (hk : k ≤ 200) : (nI X + nI k).toInt = (X + k : Nat) ∧ (nI X + nI k).toInt.toNat = X + k := by
  rw [nI_add, nI_toInt (by omega)]; exact ⟨rfl, by omega⟩
theorem sm_lift {X : Nat} (hX : X ≤ 96) (hm : mVec X s W) (ho : okA n W) {K : Int64 → hS → Prop} (hK : ∀ r : Int64, r.toInt = lfW W → K r s) : pcL (d + 1) 188 [.ref 145, .int (nI X)] v s K := by
  obtain ⟨o1, o2, o3, o4, o5, o6, o7, o8, o9, o10⟩ := ho
  have e0 : Int64.toInt 0 = 0 := rfl
  have S : ∀ (i : Nat) (y : Int64) (z3 z5 : Value), i < 2 → -108 * i ≤ y.toInt ∧ y.toInt ≤ 90 * i → (∀ y2 : Int64, ∀ z3 z5 : Value, y2.toInt = y.toInt + lf1 (W (26 + i)).toInt (W 23).toInt (W 24).toInt → pgL (d + 1) 188 4 [.ref 145, .int (nI X), .long y2, z3, .int (nI (i + 1)), z5] [] v s K) → pgL (d + 1) 188 4 [.ref 145, .int (nI X), .long y, z3, .int (nI i), z5] [] v s K := by
    intro i y z3 z5 hi hy hn
    have he8 : 0 ≤ (W (26 + i)).toInt ∧ (W (26 + i)).toInt ≤ 8 := by
      have : i = 0 ∨ i = 1 := by omega
      rcases this with rfl | rfl
      · exact o8
      · exact o9
    have p1 : ((nI X + 26) + nI i).toInt.toNat = X + (26 + i) ∧ 0 ≤ ((nI X + 26) + nI i).toInt ∧ ((nI X + 26) + nI i).toInt < 128 := by
      rw [show (26 : Int32) = nI 26 from rfl, nI_add, nI_add, nI_toInt (by omega)]; omega
    have p2 : (nI X + 24).toInt.toNat = X + 24 ∧ 0 ≤ (nI X + 24).toInt ∧ (nI X + 24).toInt < 128 := by
      rw [show (24 : Int32) = nI 24 from rfl, nI_add, nI_toInt (by omega)]; omega
    have p3 : (nI X + 23).toInt.toNat = X + 23 ∧ 0 ≤ (nI X + 23).toInt ∧ (nI X + 23).toInt < 128 := by
      rw [show (23 : Int32) = nI 23 from rfl, nI_add, nI_toInt (by omega)]; omega
    refine st_M_liftOf_4 ⟨fun _ => ⟨p1.2, ?_⟩, fun c => absurd (by rw [nI_toInt (by omega)]; omega) c⟩
    rw [p1.1, p2.1, p3.1, hm _ (by omega : 26 + i < 29), hm 24 (by decide), hm 23 (by decide)]
    have t1 : (W (26 + i)).toInt32.toInt = (W (26 + i)).toInt := l_32 (by omega)
    have t2 : (W 23).toInt32.toInt = (W 23).toInt := l_32 (by omega)
    refine ⟨fun c => ?_, fun c => ⟨p2.2, p3.2, sm_lb (by omega) (by omega) (fun r hr => ?_)⟩⟩
    · rw [nI_1]
      refine hn _ _ _ ?_
      unfold lf1
      rw [t1] at c
      rw [if_pos c, l_add (by rw [e0]; omega), e0]
    · rw [nI_1]
      refine hn _ _ _ ?_
      rw [t1] at c
      rw [t1, t2] at hr
      have hb := mul_b o6 (lbT_b ((((W (26 + i)).toInt - (W 23).toInt) % 8).toNat))
      have em : (W 24 * r.toInt64).toInt = (W 24).toInt * lbT (((W (26 + i)).toInt - (W 23).toInt) % 8).toNat := by
        rw [l_mul (by rw [i_64, hr]; omega), i_64, hr]
      unfold lf1
      rw [if_neg c, l_add (by rw [em]; omega), em]
  have b1 := lf1_b (W 26).toInt (W 23).toInt o6
  refine st_M_liftOf (S 0 0 _ _ (by decide) (by rw [e0]; omega) (fun y1 z3 z5 h1 => S 1 y1 _ _ (by decide) (by rw [h1, e0, Nat.add_zero]; omega) (fun y2 z3 z5 h2 => st_M_liftOf_4 ⟨fun c => absurd c (by decide), fun _ => hK _ ?_⟩)))
  rw [h2, h1, e0]
  unfold lfW
  rw [Int.zero_add]
end
