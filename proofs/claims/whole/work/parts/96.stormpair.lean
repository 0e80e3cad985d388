/-! A STORM: the pairs storm(), weakest() -/
def plD (LP LG : rgL) (k : Nat) : Int := if k < 16 then (LP.getD k (0, 0)).1 else (LG.getD (k - 16) (0, 0)).1
def mgD (LP LG : rgL) (k : Nat) : Int := if k < 16 then (LP.getD k (0, 0)).2 else (LG.getD (k - 16) (0, 0)).2
theorem rg_get {L : rgL} (h : rgOK L) {i : Nat} (hi : i < L.length) : (0 ≤ (L.getD i (0, 0)).1 ∧ (L.getD i (0, 0)).1 ≤ 23) ∧ 1 ≤ (L.getD i (0, 0)).2 ∧ (L.getD i (0, 0)).2 ≤ 999 := by
  have e : L.getD i (0, 0) = L[i] := by simp [List.getD, hi]
  rw [e]; exact h.1 _ (List.getElem_mem hi)
theorem rg_inj {L : rgL} (h : rgOK L) {i j : Nat} (hi : i < L.length) (hj : j < L.length) (he : (L.getD i (0, 0)).1 = (L.getD j (0, 0)).1) : i = j := by
  have ei : L.getD i (0, 0) = L[i] := by simp [List.getD, hi]
  have ej : L.getD j (0, 0) = L[j] := by simp [List.getD, hj]
  rw [ei, ej] at he
  have P := List.pairwise_iff_getElem.mp h.2
  rcases Nat.lt_trichotomy i j with c | c | c
  · have := P i j (by simpa using hi) (by simpa using hj) c
    simp at this; exact absurd he this
  · exact c
  · have := P j i (by simpa using hj) (by simpa using hi) c
    simp at this; exact absurd he.symm this
section
variable {d : Nat} {v : hV} {s s1 : hS} {LP LG : rgL}
theorem rgS_of (hP : rgOK LP) (hG : rgOK LG) (l1 : LP.length ≤ 16) (l2 : LG.length ≤ 16) {rp a w : Int} (hr : 0 ≤ rp ∧ rp ≤ 999) (hw : 0 ≤ w ∧ w ≤ 9) : rgS LP.length LG.length (plD LP LG) (mgD LP LG) (bsD (plD LP LG) a w) rp := by
  refine ⟨⟨l1, l2⟩, fun k _ => bsD_b _ _ hw k, fun k hk => ?_, hr, fun i j hij he => ?_⟩
  · unfold plD mgD
    rcases hk with h | h
    · rw [if_pos (by omega), if_pos (by omega)]; exact rg_get hP h
    · rw [if_neg (by omega), if_neg (by omega)]; exact rg_get hG (by omega)
  · unfold plD at he
    rcases hij with h | h
    · rw [if_pos (by omega), if_pos (by omega)] at he; exact rg_inj hP h.1 h.2 he
    · rw [if_neg (by omega), if_neg (by omega)] at he
      have := rg_inj hG (i := i - 16) (j := j - 16) (by omega) (by omega) he
      omega
theorem tRg_of {t : Nat} (h1 : dR (t + 3) s LP) (h2 : dR (t + 9) s LG) : tRg t s LP LG (plD LP LG) (mgD LP LG) := by
  have l1 := h1.2.1
  refine ⟨h1, h2, fun i hi => ?_, fun i hi => ?_⟩
  · unfold plD mgD; rw [if_pos (by omega), if_pos (by omega)]; exact ⟨rfl, rfl⟩
  · unfold plD mgD; rw [if_neg (by omega), if_neg (by omega), Nat.add_sub_cancel_left]; exact ⟨rfl, rfl⟩
theorem mPl_of (h1 : dP 0 0 s LP) (h2 : dP 1 16 s LG) : mPl LP.length LG.length (plD LP LG) (mgD LP LG) s := by
  have l1 := h1.2.1
  refine ⟨h1.1, h2.1, fun k hk => ?_⟩
  unfold plD mgD
  rcases H0D_t.mp hk with h | h
  · rw [if_pos (by omega), if_pos (by omega)]
    have := h1.2.2 k h
    rw [Nat.zero_add] at this; exact this
  · rw [if_neg (by omega), if_neg (by omega)]
    have := h2.2.2 (k - 16) (by omega)
    rw [show 16 + (k - 16) = k by omega] at this; exact this
/-- what the pairs need of the tent -/
theorem pT_S (h : pT v s) : ∃ (T : Nat → Int) (LP LG : rgL), okT T ∧ tvC (vT v) s T ∧ tvM s T ∧ rgOK LP ∧ rgOK LG ∧ dR (vT v + 3) s LP ∧ dR (vT v + 9) s LG ∧ dP 0 0 s LP ∧ dP 1 16 s LG := by
  obtain ⟨D, h1, h2, h3, h4, h5, h6⟩ := h
  exact ⟨D.1, D.2.2.1, D.2.2.2, h1.1, fun k hk => (h2 k hk).1, fun k hk => (h2 k hk).2, h1.2.1, h1.2.2, h3, h4, h5, h6⟩
def fStm (v : hV) (c k : Nat) : Prop := fSt (vT v) 104 c k ∨ fSm c k ∨ c = 161 ∨ c = 162 ∨ (c = 145 ∧ k = 26)
theorem th_storm (hv : kT (vT v)) (hT : pT v s) (hP : pPR s) (a w : Int32) : prI (fStm v) v (d + 6) 99 203 [.int a, .int w] s (fun s2 => pG s2 ∨ s2 = s) := by
  obtain ⟨T, LP, LG, ok, k2, k3, gP, gG, r1, r2, m1, m2⟩ := pT_S hT
  have el0 : Int64.toInt 0 = 0 := rfl
  have el7 : Int64.toInt 7 = 7 := rfl
  have el9 : Int64.toInt 9 = 9 := rfl
  have O : ¬ ((0 ≤ a.toInt ∧ a.toInt ≤ 7) ∧ (0 ≤ w.toInt ∧ w.toInt ≤ 9)) → ∀ x : Int32, ¬ x.toInt = 0 → (x.toInt = 0 → pcV (d + 5) 100 [.ref 104, .ref (vT v), .int a, .int w] v s (fun s3 => Fr (fStm v) s s3 ∧ pcI (d + 6) 203 [.ref 145, .int a, .int w] v s3 (fun x2 s2 => x2 = rI s3 104 3 ∧ Fr (fStm v) s3 s2 ∧ (pG s2 ∨ s2 = s)))) ∧ (¬ x.toInt = 0 → (Fr (fStm v) s s ∧ pcI (d + 6) 203 [.ref 145, .int a, .int w] v s (fun x2 s2 => x2 = -1000000002 ∧ Fr (fStm v) s s2 ∧ (pG s2 ∨ s2 = s)))) := by
    intro hn x hx
    refine ⟨fun z => absurd z hx, fun _ => ⟨Fr.rf _ _, st_M_storm (sp_in (fun _ => ⟨rfl, Fr.rf _ _, Or.inr rfl⟩) (fun z1 => sp_in (fun _ => ⟨rfl, Fr.rf _ _, Or.inr rfl⟩) (fun z2 => absurd ⟨z1, z2⟩ hn)))⟩⟩
  refine st_S_storm hv (st_S_isNoWind ⟨fun c => O (by omega) 1 (by decide), fun c => ⟨fun c2 => ⟨fun c3 => O (by omega) 1 (by decide), fun c3 => ⟨fun c4 => O (by omega) 1 (by decide), fun c4 => ⟨fun _ => ?_, fun z => absurd rfl z⟩⟩⟩, fun c2 => O (by omega) 1 (by decide)⟩⟩)
  have ha : 0 ≤ a.toInt ∧ a.toInt ≤ 7 := by omega
  have hw : 0 ≤ w.toInt ∧ w.toInt ≤ 9 := by omega
  have h8 : 0 ≤ T 8 ∧ T 8 ≤ 999 := (okT_b ok).2.2.2.2.2.2.2.2
  have hr := rgS_of (a := a.toInt) gP gG r1.2.1 r2.2.1 h8 hw
  refine sp_blow hv (Or.inl rfl) ha hw hr (tRg_of r1 r2) k2 hP (fun s1 f1 g1 g2 _ => ?_)
  have hvv : 51 ≤ vT v ∧ vT v ≤ 66 := by unfold kT at hv; omega
  have f145 : ∀ c k, 145 ≤ c → ¬ fSt (vT v) 104 c k := fun c k hc => by unfold fSt fRs; omega
  refine ⟨f1.mo (fun c k z => Or.inl z), st_M_storm (sp_in (fun z => absurd (by rw [el0, el7]; exact ha) z) (fun _ => sp_in (fun z => absurd (by rw [el0, el9]; exact hw) z) (fun _ => ?_)))⟩
  refine sm_blowDown ha hw hr (mPl_fr (mPl_of m1 m2) f1 (fun k => ⟨f145 _ _ (by decide), f145 _ _ (by decide), f145 _ _ (by decide)⟩)) (by rw [f1.i (f145 _ _ (by decide))]; exact k3 8 (by decide)) (fun s2 f2 _ ok2 t2 => ?_)
  generalize fnS LP.length LG.length (plD LP LG) (mgD LP LG) (T 8) a.toInt w.toInt = S at g1 g2 ok2 t2
  have hm32 := ok2.2.2.2.1
  have h1 : rI s2 145 27 = nI S.2.2.1 := t2.1
  have eN : (nI S.2.2.1).toInt = S.2.2.1 := nI_toInt (by omega)
  have f3 : Fr (fun c k => fSm c k ∨ c = 161 ∨ c = 162 ∨ (c = 145 ∧ k = 26)) s1 (sI s2 145 26 (rI s2 145 27)) := (f2.mo (fun c k z => Or.inl z)).sI (Or.inr (Or.inr (Or.inr ⟨rfl, rfl⟩)))
  have G : ∀ j i : Nat, i + j = S.2.2.1 → ∀ (s3 : hS) (z1 z2 : Value), Fr (fun c k => fSm c k ∨ c = 161 ∨ c = 162 ∨ (c = 145 ∧ k = 26)) s1 s3 → rI s3 145 26 = nI S.2.2.1 → mTl S.2.2.1 S.2.2.2 s3 → (∀ k, k < i → rI s3 161 k = rI s3 163 k ∧ rL s3 162 k = rL s3 164 k) → pgI (d + 6) 203 24 [.ref 145, z1, z2, .int (nI i)] [] v s3 (fun x2 s2 => x2 = rI s1 104 3 ∧ Fr (fStm v) s1 s2 ∧ (pG s2 ∨ s2 = s)) := by
    intro j
    induction j with
    | zero =>
      intro i hi s3 z1 z2 hf hg ht hq
      have hi : i = S.2.2.1 := by omega
      refine st_M_storm_24 ?_
      rw [ht.1, hi, hg, g2]
      refine ⟨fun z => absurd z (by omega), fun _ => ⟨rfl, hf.mo (fun c k z => Or.inr z), Or.inl ⟨S.2.2.1, by omega, ?_, hg, fun q hq2 => ?_⟩⟩⟩
      · rw [hf.i (by unfold fSm; omega)]; exact g2
      · obtain ⟨a1, a2⟩ := hq q (by omega)
        obtain ⟨b1, b2⟩ := ht.2 q hq2
        obtain ⟨d1, d2, d3⟩ := g1 q hq2
        obtain ⟨o1, o2, o3⟩ := ok2.2.2.2.2 q hq2
        refine ⟨(S.2.2.2 q).1, o1, by rw [a1, b1], ?_, ?_, ?_⟩
        · rw [hf.i (by unfold fSm; omega)]; exact d1
        · rw [hf.i (by unfold fSm; omega)]; exact d2
        · rw [hf.i (by unfold fSm; omega), a2]
          refine i_inj ?_
          rw [l_32 (by rw [b2]; omega), b2]; exact d3
    | succ j ih =>
      intro i hi s3 z1 z2 hf hg ht hq
      refine st_M_storm_24 ?_
      rw [ht.1, eN, nI_toInt (by omega), Int.toNat_natCast, nI_1]
      refine ⟨fun _ => ⟨by omega, by omega, by omega, by omega, ?_⟩, fun z => absurd (by omega) z⟩
      refine ih (i + 1) (by omega) _ _ _ ((hf.sI (Or.inr (Or.inl rfl))).sL (Or.inr (Or.inr (Or.inl rfl)))) ?_ ⟨?_, fun q hq2 => ?_⟩ (fun k hk => ?_)
      · simp only [r_II, r_LL, r_LI, r_IL, r_IC, r_LC, r_ICL, r_LCI, Nat.reduceEqDiff, false_and, and_false, true_and, and_true, and_self, ↓reduceIte]; exact hg
      · simp only [r_II, r_LL, r_LI, r_IL, r_IC, r_LC, r_ICL, r_LCI, Nat.reduceEqDiff, false_and, and_false, true_and, and_true, and_self, ↓reduceIte]; exact ht.1
      · simp only [r_II, r_LL, r_LI, r_IL, r_IC, r_LC, r_ICL, r_LCI, Nat.reduceEqDiff, false_and, and_false, true_and, and_true, and_self, ↓reduceIte]; exact ht.2 q hq2
      · simp only [r_II, r_LL, r_LI, r_IL, r_IC, r_LC, r_ICL, r_LCI, Nat.reduceEqDiff, false_and, and_false, true_and, and_true, and_self, ↓reduceIte]
        by_cases ck : k = i
        · subst ck; rw [if_pos rfl, if_pos rfl]; exact ⟨rfl, rfl⟩
        · rw [if_neg ck, if_neg ck]; exact hq k (by omega)
  refine G S.2.2.1 0 (by omega) _ _ _ f3 (by rw [r_II, if_pos ⟨rfl, rfl⟩]; exact h1) ⟨?_, fun q hq2 => ?_⟩ (fun k hk => absurd hk (Nat.not_lt_zero k))
  · simp only [r_II, r_LL, r_LI, r_IL, r_IC, r_LC, r_ICL, r_LCI, Nat.reduceEqDiff, false_and, and_false, true_and, and_true, and_self, ↓reduceIte]; exact h1
  · simp only [r_II, r_LL, r_LI, r_IL, r_IC, r_LC, r_ICL, r_LCI, Nat.reduceEqDiff, false_and, and_false, true_and, and_true, and_self, ↓reduceIte]; exact t2.2 q hq2
/-- the first of i, i + 1 .. that P holds of -/
def wkF (P : Nat → Bool) : Nat → Nat → Int
  | 0, _ => -1
  | j + 1, i => if P i = true then (i : Int) else wkF P j (i + 1)
def fWk (v : hV) (c k : Nat) : Prop := fSt (vT v) 108 c k ∨ fSm c k
theorem th_weakest (hv : kT (vT v)) (hT : pT v s) (hP : pPR s) (a x : Int32) : prI (fWk v) v (d + 6) 110 213 [.int a, .int x] s (fun _ => True) := by
  obtain ⟨T, LP, LG, ok, k2, k3, gP, gG, r1, r2, m1, m2⟩ := pT_S hT
  have el0 : Int64.toInt 0 = 0 := rfl
  have el7 : Int64.toInt 7 = 7 := rfl
  have O : ¬ (0 ≤ a.toInt ∧ a.toInt ≤ 7) → (Fr (fWk v) s s ∧ pcI (d + 6) 213 [.ref 145, .int a, .int x] v s (fun x2 s2 => x2 = -1000000002 ∧ Fr (fWk v) s s2 ∧ True)) := fun hn => ⟨Fr.rf _ _, st_M_weakest (sp_in (fun _ => ⟨rfl, Fr.rf _ _, trivial⟩) (fun z => absurd z hn))⟩
  refine st_S_weakest ⟨fun c => O (by omega), fun c => ⟨fun c2 => ?_, fun c2 => O (by omega)⟩⟩
  have ha : 0 ≤ a.toInt ∧ a.toInt ≤ 7 := by omega
  have h8 : 0 ≤ T 8 ∧ T 8 ≤ 999 := (okT_b ok).2.2.2.2.2.2.2.2
  have hvv : 51 ≤ vT v ∧ vT v ≤ 66 := by unfold kT at hv; omega
  generalize hPP : (fun i : Nat => if x.toInt = 0 then decide (0 < (fnS LP.length LG.length (plD LP LG) (mgD LP LG) (T 8) a.toInt i).2.2.1) else decide (cn (fnS LP.length LG.length (plD LP LG) (mgD LP LG) (T 8) a.toInt i).1 0 16 < 3)) = P
  have hP0 : x.toInt = 0 → ∀ i, P i = decide (0 < (fnS LP.length LG.length (plD LP LG) (mgD LP LG) (T 8) a.toInt i).2.2.1) := fun z i => by rw [← hPP]; exact if_pos z
  have hP1 : ¬ x.toInt = 0 → ∀ i, P i = decide (cn (fnS LP.length LG.length (plD LP LG) (mgD LP LG) (T 8) a.toInt i).1 0 16 < 3) := fun z i => by rw [← hPP]; exact if_neg z
  -- the reference
  have MM : ∀ s1 : hS, Fr (fWk v) s s1 → ∀ (r : Int32), r.toInt = wkF P 10 0 → pcI (d + 6) 213 [.ref 145, .int a, .int x] v s1 (fun x2 s2 => x2 = r ∧ Fr (fWk v) s1 s2 ∧ True) := by
    intro s1 f1 r hrr
    have f147 : ∀ k, ¬ fWk v 152 k ∧ ¬ fWk v 150 k ∧ ¬ fWk v 151 k := fun k => by unfold fWk fSt fRs fSm; omega
    have n1 := mPl_fr (mPl_of m1 m2) f1 f147
    have n2 : (rI s1 148 8).toInt = T 8 := by rw [f1.i (by unfold fWk fSt fRs fSm; omega)]; exact k3 8 (by decide)
    have L : ∀ j i : Nat, i + j = 10 → ∀ s2 : hS, Fr fSm s1 s2 → wkF P j i = wkF P 10 0 → pgI (d + 6) 213 10 [.ref 145, .int a, .int x, .int (nI i)] [] v s2 (fun x2 s2 => x2 = r ∧ Fr (fWk v) s1 s2 ∧ True) := by
      intro j
      induction j with
      | zero =>
        intro i hi s2 f2 hw
        refine st_M_weakest_10 ⟨fun z => absurd z (by rw [nI_toInt (by omega)]; omega), fun _ => ⟨i_inj ?_, f2.mo (fun c k z => Or.inr z), trivial⟩⟩
        rw [hrr, ← hw]; rfl
      | succ j ih =>
        intro i hi s2 f2 hw
        have ei : (nI i).toInt = i := nI_toInt (by omega)
        have hwi : 0 ≤ (nI i).toInt ∧ (nI i).toInt ≤ 9 := by omega
        have hr := rgS_of (a := a.toInt) (w := (nI i).toInt) gP gG r1.2.1 r2.2.1 h8 hwi
        have n3 := mPl_fr n1 f2 (fun k => by unfold fSm; omega)
        have n4 : (rI s2 148 8).toInt = T 8 := by rw [f2.i (by unfold fSm; omega)]; exact n2
        refine st_M_weakest_10 ⟨fun _ => sm_blowDown ha hwi hr n3 n4 (fun s3 f3 H3 ok3 t3 => ?_), fun z => absurd (by omega) z⟩
        rw [ei] at H3 ok3 t3
        have w1 : wkF P (j + 1) i = if P i = true then (i : Int) else wkF P j (i + 1) := rfl
        rw [w1] at hw
        have F3 := f2.tr f3
        have Y : P i = true → (nI i = r ∧ Fr (fWk v) s1 s3 ∧ True) := fun c => ⟨i_inj (by rw [hrr, ← hw, if_pos c, ei]), F3.mo (fun c k z => Or.inr z), trivial⟩
        have N : ¬ P i = true → pgI (d + 6) 213 10 [.ref 145, .int a, .int x, .int (nI i + 1)] [] v s3 (fun x2 s2 => x2 = r ∧ Fr (fWk v) s1 s2 ∧ True) := fun c => by
          rw [nI_1]; exact ih (i + 1) (by omega) s3 F3 (by rw [if_neg c] at hw; exact hw)
        refine ⟨fun c0 => ?_, fun c0 => ?_⟩
        · have hp := hP0 c0 i
          rw [t3.1, nI_toInt (by have := ok3.2.2.2.1; omega)]
          exact ⟨fun c => Y (by rw [hp]; exact decide_eq_true (by omega)), fun c => N (by rw [hp]; exact fun z => c (by have := of_decide_eq_true z; omega))⟩
        · have hp := hP1 c0 i
          refine sm_holding (kn := 0) (N := LP.length) (NP := LP.length) (NG := LG.length) (Or.inl ⟨rfl, rfl⟩) ⟨r1.2.1, r2.2.1⟩ (mPl_fr n3 f3 (fun k => by unfold fSm; omega)) H3 ok3.1 ?_
          show ((nI (cn (fnS LP.length LG.length (plD LP LG) (mgD LP LG) (T 8) a.toInt i).1 (16 * 0) 16)).toInt < 3 → _) ∧ (¬ (nI (cn (fnS LP.length LG.length (plD LP LG) (mgD LP LG) (T 8) a.toInt i).1 (16 * 0) 16)).toInt < 3 → _)
          have hle := cn_le (fnS LP.length LG.length (plD LP LG) (mgD LP LG) (T 8) a.toInt i).1 0 16
          rw [Nat.mul_zero, nI_toInt (by omega)]
          exact ⟨fun c => Y (by rw [hp]; exact decide_eq_true (by omega)), fun c => N (by rw [hp]; exact fun z => c (by have := of_decide_eq_true z; omega))⟩
    exact st_M_weakest (sp_in (fun z => absurd (by rw [el0, el7]; exact ha) z) (fun _ => L 10 0 rfl s1 (Fr.rf _ _) rfl))
  -- the class
  have LC : ∀ j i : Nat, i + j = 10 → ∀ s1 : hS, Fr (fSt (vT v) 108) s s1 → wkF P j i = wkF P 10 0 → pgI (d + 6) 110 9 [.ref 48, .int a, .int x, .int (nI i)] [] v s1 (fun r s1 => Fr (fWk v) s s1 ∧ pcI (d + 6) 213 [.ref 145, .int a, .int x] v s1 (fun x2 s2 => x2 = r ∧ Fr (fWk v) s1 s2 ∧ True)) := by
    intro j
    induction j with
    | zero =>
      intro i hi s1 f1 hw
      refine st_S_weakest_9 hv ⟨fun _ => ⟨f1.mo (fun c k z => Or.inl z), MM s1 (f1.mo (fun c k z => Or.inl z)) (-1) (by rw [← hw]; rfl)⟩, fun z => absurd (by rw [nI_toInt (by omega)]; omega) z⟩
    | succ j ih =>
      intro i hi s1 f1 hw
      have ei : (nI i).toInt = i := nI_toInt (by omega)
      have hwi : 0 ≤ (nI i).toInt ∧ (nI i).toInt ≤ 9 := by omega
      have hr := rgS_of (a := a.toInt) (w := (nI i).toInt) gP gG r1.2.1 r2.2.1 h8 hwi
      have nf : ∀ c k, c < 108 → (c = vT v + 3 ∨ c = vT v + 9 → k ≠ 6) → c ≠ vT v + 6 → c ≠ vT v + 7 → c ≠ vT v + 8 → c ≠ vT v + 12 → c ≠ vT v + 13 → c ≠ vT v + 14 → ¬ fSt (vT v) 108 c k := fun c k _ _ _ _ _ _ _ _ => by unfold fSt fRs; omega
      have R1 := tRg_fr (tRg_of r1 r2) f1 ⟨by unfold fSt fRs; omega, by unfold fSt fRs; omega⟩ (fun k => ⟨by unfold fSt fRs; omega, by unfold fSt fRs; omega, by unfold fSt fRs; omega, by unfold fSt fRs; omega⟩)
      have T1 := tvC_fr k2 f1 (fun k _ => by unfold fSt fRs; omega)
      have P1 : pPR s1 := fun k hk => by rw [f1.i (by unfold fSt fRs; omega), f1.i (by unfold fSt fRs; omega)]; exact hP k hk
      refine st_S_weakest_9 hv ⟨fun z => absurd z (by omega), fun _ => sp_blow hv (Or.inr rfl) ha hwi hr R1 T1 P1 (fun s2 f2 g1 g2 g3 => ?_)⟩
      rw [ei] at g1 g2 g3
      have w1 : wkF P (j + 1) i = if P i = true then (i : Int) else wkF P j (i + 1) := rfl
      rw [w1] at hw
      have F2 := f1.tr f2
      have F2w : Fr (fWk v) s s2 := F2.mo (fun c k z => Or.inl z)
      have Y : P i = true → (Fr (fWk v) s s2 ∧ pcI (d + 6) 213 [.ref 145, .int a, .int x] v s2 (fun x2 s3 => x2 = nI i ∧ Fr (fWk v) s2 s3 ∧ True)) := fun c => ⟨F2w, MM s2 F2w (nI i) (by rw [← hw, if_pos c, ei])⟩
      have N : ¬ P i = true → pgI (d + 6) 110 9 [.ref 48, .int a, .int x, .int (nI i + 1)] [] v s2 (fun r s1 => Fr (fWk v) s s1 ∧ pcI (d + 6) 213 [.ref 145, .int a, .int x] v s1 (fun x2 s2 => x2 = r ∧ Fr (fWk v) s1 s2 ∧ True)) := fun c => by
        rw [nI_1]; exact ih (i + 1) (by omega) s2 F2 (by rw [if_neg c] at hw; exact hw)
      have okf := rn_ok (rgS_of (a := a.toInt) (w := (i : Int)) gP gG r1.2.1 r2.2.1 h8 (by omega)) 32 _ (S0_ok (NP := LP.length) (NG := LG.length) (bsD_b (plD LP LG) a.toInt (w := (i : Int)) (by omega)))
      have okf : okS LP.length LG.length (bsD (plD LP LG) a.toInt i) (fnS LP.length LG.length (plD LP LG) (mgD LP LG) (T 8) a.toInt i) := okf
      have hm32 := okf.2.2.2.1
      refine ⟨fun c0 => ?_, fun c0 => ?_⟩
      · have hp := hP0 c0 i
        rw [g2, nI_toInt (by omega)]
        exact ⟨fun c => Y (by rw [hp]; exact decide_eq_true (by omega)), fun c => N (by rw [hp]; exact fun z => c (by have := of_decide_eq_true z; omega))⟩
      · have hp := hP1 c0 i
        rw [g3]
        by_cases cc : cn (fnS LP.length LG.length (plD LP LG) (mgD LP LG) (T 8) a.toInt i).1 0 16 < 3
        · rw [if_pos cc]
          exact ⟨fun z => absurd z (by decide), fun _ => Y (by rw [hp]; exact decide_eq_true cc)⟩
        · rw [if_neg cc]
          exact ⟨fun _ => N (by rw [hp]; exact fun z => cc (of_decide_eq_true z)), fun z => absurd rfl z⟩
  exact LC 10 0 rfl s (Fr.rf _ _) rfl
end
