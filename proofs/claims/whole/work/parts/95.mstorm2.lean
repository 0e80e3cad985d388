/-! A STORM, in the reference: all of it -/
section
variable {d : Nat} {v : hV} {s s1 : hS} {NP NG : Nat} {pl mg bs : Nat → Int} {rp : Int} {S : bSt} {H : Nat → Bool} {O : Nat → Int}
theorem sm_apartA {x0 x1 : Int32} {K : Int32 → hS → Prop} (hK : ∀ w : Int32, ((0 ≤ x0.toInt ∧ x0.toInt ≤ 7) → (0 ≤ x1.toInt ∧ x1.toInt ≤ 7) → w.toInt = apI (x0.toInt - x1.toInt)) → K w s) : pcI d 189 [.int x0, .int x1] v s K := by
  have e8 : Int32.toInt 8 = 8 := rfl
  have A1 : (0 ≤ x0.toInt ∧ x0.toInt ≤ 7) → (0 ≤ x1.toInt ∧ x1.toInt ≤ 7) → (x0 - x1).toInt = x0.toInt - x1.toInt := fun h0 h1 => i_sub (by omega)
  have A2 : (0 ≤ x0.toInt ∧ x0.toInt ≤ 7) → (0 ≤ x1.toInt ∧ x1.toInt ≤ 7) → (x1 - x0).toInt = x1.toInt - x0.toInt := fun h0 h1 => i_sub (by omega)
  have A3 : (0 ≤ x0.toInt ∧ x0.toInt ≤ 7) → (0 ≤ x1.toInt ∧ x1.toInt ≤ 7) → (8 - (x0 - x1)).toInt = 8 - (x0.toInt - x1.toInt) := fun h0 h1 => by rw [i_sub (by rw [e8, A1 h0 h1]; omega), e8, A1 h0 h1]
  have A4 : (0 ≤ x0.toInt ∧ x0.toInt ≤ 7) → (0 ≤ x1.toInt ∧ x1.toInt ≤ 7) → (8 - (x1 - x0)).toInt = 8 - (x1.toInt - x0.toInt) := fun h0 h1 => by rw [i_sub (by rw [e8, A2 h0 h1]; omega), e8, A2 h0 h1]
  refine st_M_apart ⟨fun c => ⟨fun c2 => hK _ (fun h0 h1 => ?_), fun c2 => hK _ (fun h0 h1 => ?_)⟩, fun c => ⟨fun c2 => hK _ (fun h0 h1 => ?_), fun c2 => hK _ (fun h0 h1 => ?_)⟩⟩
  · have := A1 h0 h1; rw [A3 h0 h1]; unfold apI; split <;> omega
  · have := A1 h0 h1; rw [A1 h0 h1]; unfold apI; split <;> omega
  · have := A2 h0 h1; rw [A4 h0 h1]; unfold apI; split <;> omega
  · have := A2 h0 h1; rw [A2 h0 h1]; unfold apI; split <;> omega
theorem sm_pressA {x : Int32} {K : Int32 → hS → Prop} (hK : ∀ w : Int32, (∀ t : Nat, x.toInt = t → t ≤ 4 → w.toInt = prT t) → K w s) : pcI d 205 [.int x] v s K := by
  refine st_M_pressBy ⟨fun c => hK _ (fun t h1 h2 => ?_), fun c => ⟨fun c1 => hK _ (fun t h1 h2 => ?_), fun c1 => ⟨fun c2 => hK _ (fun t h1 h2 => ?_), fun c2 => ⟨fun c3 => hK _ (fun t h1 h2 => ?_), fun c3 => hK _ (fun t h1 h2 => ?_)⟩⟩⟩⟩
  · rw [show t = 0 by omega]; rfl
  · rw [show t = 1 by omega]; rfl
  · rw [show t = 2 by omega]; rfl
  · rw [show t = 3 by omega]; rfl
  · rw [show t = 4 by omega]; rfl
theorem sm_pullA {x : Int32} {K : Int32 → hS → Prop} (hK : ∀ w : Int32, (∀ t : Nat, x.toInt = t → t ≤ 4 → w.toInt = puT t) → K w s) : pcI d 206 [.int x] v s K := by
  refine st_M_pullBy ⟨fun c => hK _ (fun t h1 h2 => ?_), fun c => ⟨fun c1 => hK _ (fun t h1 h2 => ?_), fun c1 => ⟨fun c2 => hK _ (fun t h1 h2 => ?_), fun c2 => ⟨fun c3 => hK _ (fun t h1 h2 => ?_), fun c3 => hK _ (fun t h1 h2 => ?_)⟩⟩⟩⟩
  · rw [show t = 0 by omega]; rfl
  · rw [show t = 1 by omega]; rfl
  · rw [show t = 2 by omega]; rfl
  · rw [show t = 3 by omega]; rfl
  · rw [show t = 4 by omega]; rfl
theorem sm_rounds (hr : rgS NP NG pl mg bs rp) : ∀ (f : Nat) (S : bSt) (s : hS) (x3 : Int32) (z1 z2 z4 z5 : Value) {K : hS → Prop}, okS NP NG bs S → mPl NP NG pl mg s → mHo S.1 s → mOn NP NG bs S.2.1 s → mTl S.2.2.1 S.2.2.2 s → (rI s 148 8).toInt = rp → x3.toInt = (wS mg bs rp S.1 S.2.1).1 → cn S.1 0 32 ≤ f → (∀ s2, Fr fSm s s2 → mHo (rnS pl mg bs rp f S).1 s2 → okS NP NG bs (rnS pl mg bs rp f S) → mTl (rnS pl mg bs rp f S).2.2.1 (rnS pl mg bs rp f S).2.2.2 s2 → K s2) → pgV (d + 4) 204 63 [.ref 145, z1, z2, .int x3, z4, z5] [] v s K := by
  intro f
  induction f with
  | zero =>
    intro S s x3 z1 z2 z4 z5 K h hP hH hO hL hT hx hf hK
    rcases wS_ok (mg := mg) (bs := bs) (rp := rp) S.1 S.2.1 with e | ⟨k, k1, k2, k3, e, k4⟩
    · rw [e] at hx
      have hx : x3.toInt = -1 := hx
      exact st_M_blowDown_63 ⟨fun _ => hK s (Fr.rf _ _) hH h hL, fun z => absurd (by omega) z⟩
    · have := cn_pos (a := 0) (n := 32) k1 (by omega) k3; omega
  | succ f ih =>
    intro S s x3 z1 z2 z4 z5 K h hP hH hO hL hT hx hf hK
    rcases wS_ok (mg := mg) (bs := bs) (rp := rp) S.1 S.2.1 with e | ⟨k, k1, k2, k3, e, k4⟩
    · have ec : (wS mg bs rp S.1 S.2.1).1 = -1 := by rw [e]
      have er : rnS pl mg bs rp (f + 1) S = S := if_pos ec
      rw [er] at hK
      exact st_M_blowDown_63 ⟨fun _ => hK s (Fr.rf _ _) hH h hL, fun z => absurd (by omega) z⟩
    · have ec : (wS mg bs rp S.1 S.2.1).1 = k := by rw [e]
      have ek : (wS mg bs rp S.1 S.2.1).1.toNat = k := by omega
      have er : rnS pl mg bs rp (f + 1) S = rnS pl mg bs rp f (nxS pl mg bs rp S k) := by
        show (if (wS mg bs rp S.1 S.2.1).1 = -1 then S else rnS pl mg bs rp f (nxS pl mg bs rp S (wS mg bs rp S.1 S.2.1).1.toNat)) = _
        rw [if_neg (by omega), ek]
      rw [er] at hK
      obtain ⟨n1, n2⟩ := nx_ok h hr k3 k4
      have hpos := cn_pos (a := 0) (n := 32) k1 (by omega) k3
      have h44 := h.2.2.2.1
      have hx3 : x3 = nI k := i_inj (by rw [hx, ec, nI_toInt (by omega)])
      subst hx3
      have em : (nI S.2.2.1).toInt = S.2.2.1 := nI_toInt (by omega)
      have hl := ld_b h hr k3
      have hmg := (hr.2.2.1 k (h.1 k k3)).2
      have hs := (hP.2.2 k (H0D_t.mpr (h.1 k k3))).2
      obtain ⟨hL1, hL2⟩ := hL
      refine st_M_blowDown_63 ⟨fun z => absurd z (by rw [nI_toInt (by omega)]; omega), fun _ => sm_load hr h hP hH hO hT k3 (fun w hw => ?_)⟩
      rw [hL1, em, Int.toNat_natCast, nI_toInt (show k < 2147483648 by omega), Int.toNat_natCast, nI_1]
      refine ⟨by omega, by omega, by omega, ?_⟩
      have ex : (w - (rI s 151 k).toInt64).toInt = exS mg bs rp S.1 S.2.1 k := by rw [l_sub (by rw [i_64, hs, hw]; omega), i_64, hs, hw]; rfl
      generalize hy : w - (rI s 151 k).toInt64 = y at ex
      have f1 : Fr (fun c j => c = 163 ∨ c = 164 ∨ (c = 145 ∧ j = 27)) s (sI (sL (sI s 163 S.2.2.1 (nI k)) 164 S.2.2.1 y) 145 27 (nI (S.2.2.1 + 1))) := (((Fr.rf _ s).sI (Or.inl rfl)).sL (Or.inr (Or.inl rfl))).sI (Or.inr (Or.inr ⟨rfl, rfl⟩))
      have L1 : mTl (S.2.2.1 + 1) (nxS pl mg bs rp S k).2.2.2 (sI (sL (sI s 163 S.2.2.1 (nI k)) 164 S.2.2.1 y) 145 27 (nI (S.2.2.1 + 1))) := by
        refine ⟨by rw [r_II, if_pos ⟨rfl, rfl⟩], fun i hi => ?_⟩
        show _ = nI (if i = S.2.2.1 then (k, exS mg bs rp S.1 S.2.1 k) else S.2.2.2 i).1 ∧ _ = (if i = S.2.2.1 then (k, exS mg bs rp S.1 S.2.1 k) else S.2.2.2 i).2
        rw [r_II, if_neg (by omega), r_IL, r_II, r_LI, r_LL, r_LI]
        by_cases ci : i = S.2.2.1
        · rw [if_pos ci, if_pos (show 163 = 163 ∧ i = S.2.2.1 from ⟨rfl, ci⟩), if_pos (show 164 = 164 ∧ i = S.2.2.1 from ⟨rfl, ci⟩)]; exact ⟨rfl, ex⟩
        · rw [if_neg ci, if_neg (show ¬ (163 = 163 ∧ i = S.2.2.1) from fun z => ci z.2), if_neg (show ¬ (164 = 164 ∧ i = S.2.2.1) from fun z => ci z.2)]; exact hL2 i (by omega)
      generalize sI (sL (sI s 163 S.2.2.1 (nI k)) 164 S.2.2.1 y) 145 27 (nI (S.2.2.1 + 1)) = s1 at f1 L1
      have P1 := mPl_fr hP f1 (fun j => ⟨by omega, by omega, by omega⟩)
      refine sm_lose hr P1 h k3 (mHo_fr hH f1 (fun j => by omega)) (mOn_fr hO f1 (fun j => ⟨by omega, by omega⟩)) hw (fun s2 f2 H2 O2 => ?_)
      have P2 := mPl_fr P1 f2 (fun j => ⟨by omega, by omega, by omega⟩)
      have T2 : (rI s2 148 8).toInt = rp := by rw [f2.i (by omega), f1.i (by omega)]; exact hT
      refine sm_worst (S := nxS pl mg bs rp S k) hr n1 P2 H2 O2 T2 (fun w2 hw2 => ?_)
      have F2 : Fr fSm s s2 := (f1.mo (fun c j z => by unfold fSm; omega)).tr (f2.mo (fun c j z => by unfold fSm; omega))
      refine ih (nxS pl mg bs rp S k) s2 w2 _ _ _ _ n1 P2 H2 O2 ⟨?_, fun i hi => ?_⟩ T2 hw2 (by omega) (fun s4 f4 => hK s4 (F2.tr f4))
      · rw [f2.i (by omega)]; exact L1.1
      · rw [f2.i (by omega), f2.l (by omega)]; exact L1.2 i hi
theorem sm_blowDown {x1 x2 : Int32} (h1 : 0 ≤ x1.toInt ∧ x1.toInt ≤ 7) (h2 : 0 ≤ x2.toInt ∧ x2.toInt ≤ 9) (hr : rgS NP NG pl mg (bsD pl x1.toInt x2.toInt) rp) (hP : mPl NP NG pl mg s) (hT : (rI s 148 8).toInt = rp) {K : hS → Prop} (hK : ∀ s2, Fr fSm s s2 → mHo (fnS NP NG pl mg rp x1.toInt x2.toInt).1 s2 → okS NP NG (bsD pl x1.toInt x2.toInt) (fnS NP NG pl mg rp x1.toInt x2.toInt) → mTl (fnS NP NG pl mg rp x1.toInt x2.toInt).2.2.1 (fnS NP NG pl mg rp x1.toInt x2.toInt).2.2.2 s2 → K s2) : pcV (d + 4) 204 [.ref 145, .int x1, .int x2] v s K := by
  have e16 : Int32.toInt 16 = 16 := rfl
  have e3 : Int32.toInt 3 = 3 := rfl
  have hN := hr.1
  have hsq := sq_b h2
  have G : ∀ j i : Nat, i + j = 32 → ∀ (s1 : hS) (z4 z5 : Value), Fr fSm s s1 → (∀ k, k < i → rI s1 160 k = (if H0D NP NG k = true then 1 else 0) ∧ (H0D NP NG k = true → (rL s1 159 k).toInt = 0 ∧ (rL s1 158 k).toInt = bsD pl x1.toInt x2.toInt k)) → pgV (d + 4) 204 2 [.ref 145, .int x1, .int x2, .int (nI i), z4, z5] [] v s1 K := by
    intro j
    induction j with
    | zero =>
      intro i hi s1 z4 z5 hf hq
      have hi : i = 32 := by omega
      subst hi
      have f2 : Fr fSm s (sI s1 145 27 0) := hf.sI (by unfold fSm; omega)
      have hok := S0_ok (NP := NP) (NG := NG) (bsD_b pl x1.toInt h2)
      have P2 := mPl_fr hP f2 (fun k => by unfold fSm; omega)
      have H2 : mHo (S0D NP NG).1 (sI s1 145 27 0) := fun k hk => by rw [r_II, if_neg (by omega)]; exact (hq k hk).1
      have O2 : mOn NP NG (bsD pl x1.toInt x2.toInt) (S0D NP NG).2.1 (sI s1 145 27 0) := fun k hk => by
        have : k < 32 := by have := H0D_t.mp hk; omega
        rw [r_LI, r_LI]; exact (hq k this).2 hk
      have T2 : (rI (sI s1 145 27 0) 148 8).toInt = rp := by rw [f2.i (by unfold fSm; omega)]; exact hT
      refine st_M_blowDown_2 ⟨fun z => absurd z (by decide), fun _ => sm_worst (S := S0D NP NG) hr hok P2 H2 O2 T2 (fun w hw => ?_)⟩
      refine sm_rounds hr 32 (S0D NP NG) _ w _ _ _ _ hok P2 H2 O2 ⟨by rw [r_II, if_pos ⟨rfl, rfl⟩]; rfl, fun i hi => absurd hi (Nat.not_lt_zero i)⟩ T2 hw (cn_le _ _ _) (fun s4 f4 => hK s4 (f2.tr f4))
    | succ j ih =>
      intro i hi s1 z4 z5 hf hq
      have hP1 := mPl_fr hP hf (fun k => by unfold fSm; omega)
      have ei : (nI i).toInt = i := nI_toInt (by omega)
      have ed : (nI i / 16).toInt = (i / 16 : Nat) := by rw [i_div (by omega) (by rw [e16]; decide), ei, e16]; omega
      have ed2 : (nI i / 16).toInt.toNat = i / 16 := by omega
      have er := i_rem (a := nI i) (b := 16) (by omega) (by decide)
      rw [ei, e16] at er
      have hm : (rI s1 152 (i / 16)).toInt = if i < 16 then NP else NG := by
        by_cases c : i < 16
        · rw [if_pos c, show i / 16 = 0 by omega, hP1.1, nI_toInt (by omega)]
        · rw [if_neg c, show i / 16 = 1 by omega, hP1.2.1, nI_toInt (by omega)]
      have hv : ((nI i - nI i / 16 * 16).toInt < (rI s1 152 (i / 16)).toInt) ↔ H0D NP NG i = true := by
        rw [er, hm, H0D_t]; split <;> omega
      -- one place
      have B : ∀ b : Int32, b = (if H0D NP NG i = true then 1 else 0) → (0 ≤ (i : Int) ∧ (i : Int) < 32) ∧ ((0 ≤ (i : Int) ∧ (i : Int) < 64) ∧ (pcI (d + 3) 189 [.int ((rI s1 150 i) / 3), .int x1] v (sI s1 160 i b) (fun w3 s3 => (0 ≤ (i : Int) ∧ (i : Int) < 32) ∧ (((i : Int) < 16 → pcI (d + 3) 205 [.int w3] v (sL s3 159 i 0) (fun w5 s5 => (0 ≤ (i : Int) ∧ (i : Int) < 32) ∧ (pgV (d + 4) 204 2 [.ref 145, .int x1, .int x2, .int (nI (i + 1)), .int w3, z5] [] v (sL s5 158 i ((x2.toInt64 * x2.toInt64) * w5.toInt64)) K))) ∧ (¬ (i : Int) < 16 → pcI (d + 3) 206 [.int w3] v (sL s3 159 i 0) (fun w6 s6 => (0 ≤ (i : Int) ∧ (i : Int) < 32) ∧ (pgV (d + 4) 204 2 [.ref 145, .int x1, .int x2, .int (nI (i + 1)), .int w3, z5] [] v (sL s6 158 i ((x2.toInt64 * x2.toInt64) * w6.toInt64)) K))))))) := by
        intro b hb
        refine ⟨by omega, by omega, sm_apartA (fun w3 hw3 => ?_)⟩
        have Z : ∀ w5 : Int32, (H0D NP NG i = true → w5.toInt = (if i < 16 then prT (apI (pl i / 3 - x1.toInt)) else puT (apI (pl i / 3 - x1.toInt)))) → pgV (d + 4) 204 2 [.ref 145, .int x1, .int x2, .int (nI (i + 1)), .int w3, z5] [] v (sL (sL (sI s1 160 i b) 159 i 0) 158 i ((x2.toInt64 * x2.toInt64) * w5.toInt64)) K := by
          intro w5 hw5
          refine ih (i + 1) (by omega) _ _ _ (((hf.sI (by unfold fSm; omega)).sL (by unfold fSm; omega)).sL (by unfold fSm; omega)) (fun k hk => ?_)
          simp only [r_II, r_LL, r_LI, r_IL, r_IC, r_LC, r_ICL, r_LCI, Nat.reduceEqDiff, false_and, and_false, true_and, and_true, and_self, ↓reduceIte]
          by_cases ck : k = i
          · subst ck; rw [if_pos rfl, if_pos rfl, if_pos rfl]
            refine ⟨hb, fun hH => ⟨rfl, ?_⟩⟩
            have em : (x2.toInt64 * x2.toInt64).toInt = x2.toInt * x2.toInt := by rw [l_mul (by rw [i_64]; omega), i_64]
            have hbb := bsD_b pl x1.toInt h2 k
            have : bsD pl x1.toInt x2.toInt k = x2.toInt * x2.toInt * w5.toInt := by rw [hw5 hH]; rfl
            rw [l_mul (by rw [em, i_64, ← this]; omega), em, i_64, this]
          · rw [if_neg ck, if_neg ck, if_neg ck]
            exact hq k (by omega)
        have A : H0D NP NG i = true → w3.toInt = apI (pl i / 3 - x1.toInt) ∧ apI (pl i / 3 - x1.toInt) ≤ 4 := by
          intro hH
          have hp := (hP1.2.2 i hH).1
          have hpb := (hr.2.2.1 i (H0D_t.mp hH)).1
          have e : (rI s1 150 i / 3).toInt = pl i / 3 := by rw [i_div (by omega) (by rw [e3]; decide), hp, e3]
          have := hw3 (by rw [e]; omega) h1
          rw [e] at this
          exact ⟨this, apI_b _⟩
        refine ⟨by omega, fun c => sm_pressA (fun w5 hw5 => ⟨by omega, Z w5 (fun hH => ?_)⟩), fun c => sm_pullA (fun w5 hw5 => ⟨by omega, Z w5 (fun hH => ?_)⟩)⟩
        · rw [if_pos (by omega)]; exact hw5 _ (A hH).1 (A hH).2
        · rw [if_neg (by omega)]; exact hw5 _ (A hH).1 (A hH).2
      refine st_M_blowDown_2 ?_
      rw [ed2, hv, ei, Int.toNat_natCast, nI_1]
      exact ⟨fun _ => ⟨by omega, fun c => B 1 (by rw [if_pos c]), fun c => B 0 (by rw [if_neg c])⟩, fun z => absurd (by omega) z⟩
  exact st_M_blowDown (G 32 0 rfl s _ _ (Fr.rf _ _) (fun k hk => absurd hk (Nat.not_lt_zero k)))
end
