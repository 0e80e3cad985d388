/-! A NIGHT by a RULE, in the reference: all of it; the pair -/
section
variable {d : Nat} {v : hV} {s s1 : hS} {m : Int} {T : Nat → Int} {W U : Nat → Int64} {X : rRow}
def qM (s0 : hS) (S : lS) (s1 : hS) : Prop := Fr fLm s0 s1 ∧ mVec 0 s1 S.1 ∧ tMl s1 S.2
theorem eN_frm {o : Nat} {L : List nRow} {F : Nat → Nat → Prop} (h : eN o s L) (hf : Fr F s s1) (hw : ∀ k, ¬ F 154 k) : eN o s1 L := fun k hk => by
  rw [hf.i (hw _), hf.i (hw _), hf.i (hw _), hf.i (hw _)]; exact h k hk
theorem sm_one {x : Int32} {K : Int32 → hS → Prop} (h0 : x.toInt = 0 → K 0 s) (h1 : ¬ x.toInt = 0 → K 1 s) : pcI d 161 [.int x] v s K := st_M_one ⟨h0, h1⟩
theorem sm_live {r : Nat} (hr4 : r < 4) (hT : tvM s T) (ok : okT T) {L : List nRow} (hN : eN 0 s L) (hL : nrOK L) (hrm : rI s 145 16 = nI L.length) (hR : rM (6 * r) s X) (hX : rrOK X) {g : Int32} (hg : 0 ≤ g.toInt ∧ g.toInt ≤ 9) (hm : mVec 0 s W) (ho : okM m W) (hmm : m ≤ 1000000) (z4 z5 : Value) {K : Int32 → hS → Prop} (hK : ∀ s2, qM s (lvN T X L g.toInt (W, fun _ => 0) L.length) s2 → K (rI s2 157 0) s2) : pgI (d + 5) 198 22 [.ref 145, .int (nI r), .int g, .int 0, z4, z5] [] v s K := by
  have e1 : Int32.toInt 1 = 1 := rfl
  have e100 : Int64.toInt 100 = 100 := rfl
  have ft : ∀ k, ¬ fLm 148 k := fun k => by unfold fLm; omega
  have fr : ∀ k, ¬ fLm 155 k := fun k => by unfold fLm; omega
  have fn : ∀ k, ¬ fLm 154 k := fun k => by unfold fLm; omega
  have hl12 := hL.1
  have h6 : (6 : Int32) * nI r = nI (6 * r) := pk_mul 6 r
  have q6 : (nI (6 * r)).toInt.toNat = 6 * r ∧ 0 ≤ (nI (6 * r)).toInt ∧ (nI (6 * r)).toInt < 24 := by rw [nI_toInt (by omega)]; omega
  have h4 : (4 : Int32) * rI s 145 16 = nI (4 * L.length) := by rw [hrm]; exact pk_mul 4 _
  have fb : ∀ c k, fBl 0 c k → fLm c k := fun c k z => by unfold fBl fMn at z; unfold fLm; omega
  have nl : ∀ _ : Nat, ¬ 146 = 157 := fun _ z => by omega
  -- a MINUTE behind the gust
  have MD : ∀ (S : lS) (s1 : hS) (b : Int) (x3 x4 x5 : Int32), qM s S s1 → okM b S.1 → b ≤ 100000000 → (∀ s2, qM s (lvD T S) s2 → pgI (d + 5) 198 75 [.ref 145, .int (nI r), .int g, .int (x3 + 1), .int x4, .int (x5 + 1)] [] v s2 K) → pgI (d + 5) 198 103 [.ref 145, .int (nI r), .int g, .int x3, .int x4, .int x5] [] v s1 K := by
    intro S s1 b x3 x4 x5 hq hb hbb hk
    obtain ⟨q1, q2, q3⟩ := hq
    refine st_M_live_103 (sm_minute (X := 0) (by decide) (tvM_fr hT q1 (fun k _ => ft k)) ok q2 (okM_A hb) (fun s2 f2 m2 => ?_))
    have q2b : Fr fLm s s2 := q1.tr (f2.mo fb)
    have t2 := tMl_fr q3 f2 (fun k => by unfold fBl fMn; omega)
    have hb3 := okM_mn hb ok hbb
    have hl8 : lwW T (mnW T S.1) ≤ 8 := by have := lwF_le T (mnW T S.1) 8 0; unfold lwW; omega
    have e22 : mnW T S.1 22 = S.1 22 := rfl
    have E : ∀ (y z : Int32), (y = (if lwW T (mnW T S.1) < 3 then 1 else 0)) → z = (if wm (mnW T S.1) < 100 then 1 else 0) → ∀ s3 : hS, Fr fLm s s3 → mVec 0 s3 (mnW T S.1) → tMl s3 (fun i => if i = 1 then S.2 1 + y else S.2 i) → pgI (d + 5) 198 138 [.ref 145, .int (nI r), .int g, .int (x3 + 1), .int x4, .int x5] [.int z, .int (rI s3 157 2), .int 2, .ref 157] v s3 K := by
      intro y z hy hz s3 f3 m3 t3
      have G : pgI (d + 5) 198 75 [.ref 145, .int (nI r), .int g, .int (x3 + 1), .int x4, .int (x5 + 1)] [] v (sI (sI s3 157 2 (rI s3 157 2 + z)) 157 3 ((rI (sI s3 157 2 (rI s3 157 2 + z)) 157 3) + (rL s3 146 22).toInt32)) K := by
        refine hk _ ⟨(f3.sI (Or.inr (Or.inr rfl))).sI (Or.inr (Or.inr rfl)), fun i hi => by rw [r_LI, r_LI]; exact m3 i hi, fun k hk => ?_⟩
        have hk : k = 0 ∨ k = 1 ∨ k = 2 ∨ k = 3 := by omega
        have e := mVec_at m3 (i := 22) (by decide)
        rw [e, e22]
        rcases hk with rfl | rfl | rfl | rfl
        · rw [r_II, if_neg (by decide), r_II, if_neg (by decide)]; exact t3 0 (by decide)
        · rw [r_II, if_neg (by decide), r_II, if_neg (by decide), t3 1 (by decide), hy]; rfl
        · rw [r_II, if_neg (by decide), r_II, if_pos ⟨rfl, rfl⟩, t3 2 (by decide), hz]; rfl
        · rw [r_II, if_pos ⟨rfl, rfl⟩, r_II, if_neg (by decide), t3 3 (by decide)]; rfl
      refine st_M_live_138 ?_
      by_cases c : wm (mnW T S.1) < 100
      · rw [if_pos c] at hz; subst hz
        exact sm_one (fun z => absurd z (by decide)) (fun _ => ⟨by decide, G⟩)
      · rw [if_neg c] at hz; subst hz
        exact sm_one (fun _ => ⟨by decide, G⟩) (fun z => absurd rfl z)
    have M : ∀ (y : Int32), (y = (if lwW T (mnW T S.1) < 3 then 1 else 0)) → pgI (d + 5) 198 120 [.ref 145, .int (nI r), .int g, .int (x3 + 1), .int x4, .int x5] [.int y, .int (rI s2 157 1), .int 1, .ref 157] v s2 K := by
      intro y hy
      have f3 : Fr (fun c _ => c = 157) s2 (sI s2 157 1 (rI s2 157 1 + y)) := (Fr.rf _ s2).sI rfl
      have F3 : Fr fLm s (sI s2 157 1 (rI s2 157 1 + y)) := q2b.tr (f3.mo (fun c k z => Or.inr (Or.inr z)))
      have m3 := mVec_fr m2 f3 (fun k _ => nl k)
      have t3 : tMl (sI s2 157 1 (rI s2 157 1 + y)) (fun i => if i = 1 then S.2 1 + y else S.2 i) := fun k hk => by
        rw [r_II, t2 1 (by decide)]
        show _ = if k = 1 then S.2 1 + y else S.2 k
        by_cases c : k = 1
        · rw [if_pos ⟨rfl, c⟩, if_pos c]
        · rw [if_neg (fun z => c z.2), if_neg c, t2 k hk]
      have G : pcL (d + 4) 186 [.ref 145, .int 0, .int 1] v (sI s2 157 1 (rI s2 157 1 + y)) (fun w2 s3 => (w2.toInt < 100 → pgI (d + 5) 198 138 [.ref 145, .int (nI r), .int g, .int (x3 + 1), .int x4, .int x5] [.int 1, .int (rI (sI s2 157 1 (rI s2 157 1 + y)) 157 2), .int 2, .ref 157] v s3 K) ∧ (¬ w2.toInt < 100 → pgI (d + 5) 198 138 [.ref 145, .int (nI r), .int g, .int (x3 + 1), .int x4, .int x5] [.int 0, .int (rI (sI s2 157 1 (rI s2 157 1 + y)) 157 2), .int 2, .ref 157] v s3 K)) := by
        refine sm_wm rfl m3 (fun w2 hw2 => ?_)
        rw [hw2]
        exact ⟨fun c => E y 1 hy (by rw [if_pos c]) _ F3 m3 t3, fun c => E y 0 hy (by rw [if_neg c]) _ F3 m3 t3⟩
      refine st_M_live_120 ?_
      by_cases c : lwW T (mnW T S.1) < 3
      · rw [if_pos c] at hy; subst hy
        exact sm_one (fun z => absurd z (by decide)) (fun _ => ⟨by decide, G⟩)
      · rw [if_neg c] at hy; subst hy
        exact sm_one (fun _ => ⟨by decide, G⟩) (fun z => absurd rfl z)
    refine sm_low (X := 0) (by decide) (tvM_fr hT q2b (fun k _ => ft k)) m2 ?_
    rw [nI_toInt (by omega)]
    exact ⟨fun c => M 1 (by rw [if_pos (by omega)]), fun c => M 0 (by rw [if_neg (by omega)])⟩
  -- a whole MINUTE
  have ST : ∀ (S : lS) (s1 : hS) (b : Int) (i k : Int32) (q : Nat), qM s S s1 → okM b S.1 → b ≤ 100000000 → q < L.length → 0 ≤ i.toInt → k.toInt < (L.getD q (0, 0, 0, 0)).2.2.1 → (∀ s2, qM s (lvM T X (L.getD q (0, 0, 0, 0)) g.toInt i.toInt S) s2 → pgI (d + 5) 198 75 [.ref 145, .int (nI r), .int g, .int (i + 1), .int (nI (4 * q)), .int (k + 1)] [] v s2 K) → pgI (d + 5) 198 75 [.ref 145, .int (nI r), .int g, .int i, .int (nI (4 * q)), .int k] [] v s1 K := by
    intro S s1 b i k q hq hb hbb hqL hi0 hkk hk
    have hr := nr_get hL hqL
    have q1 := hq.1
    have N1 := eN_frm hN q1 fn
    have R1 := rM_fr hR q1 (fun k _ _ => fr k)
    have GG : ∀ (S : lS) (s1 : hS), qM s S s1 → okM b S.1 → (∀ s2, qM s (lvD T (lvG (L.getD q (0, 0, 0, 0)) g.toInt S)) s2 → pgI (d + 5) 198 75 [.ref 145, .int (nI r), .int g, .int (i + 1), .int (nI (4 * q)), .int (k + 1)] [] v s2 K) → pgI (d + 5) 198 97 [.ref 145, .int (nI r), .int g, .int i, .int (nI (4 * q)), .int k] [] v s1 K := by
      intro S s1 hq hb hk
      obtain ⟨q1, q2, q3⟩ := hq
      refine st_M_live_97 ⟨fun c => sm_gust (eN_frm hN q1 fn) hL hqL ⟨c, hg.2⟩ q2 hb (fun s2 f2 c2 t2 => ?_), fun c => ?_⟩
      · have e : lvG (L.getD q (0, 0, 0, 0)) g.toInt S = (gsW (L.getD q (0, 0, 0, 0)) g.toInt S.1, S.2) := by unfold lvG; rw [if_pos c]
        rw [e] at hk
        exact MD (gsW (L.getD q (0, 0, 0, 0)) g.toInt S.1, S.2) s2 b i (nI (4 * q)) k ⟨q1.tr f2, c2, fun k hk => by rw [t2]; exact q3 k hk⟩ (gsW_ok hb hr.2.1.1 c) hbb hk
      · have e : lvG (L.getD q (0, 0, 0, 0)) g.toInt S = S := by unfold lvG; rw [if_neg c]
        rw [e] at hk
        exact MD S s1 b i (nI (4 * q)) k ⟨q1, q2, q3⟩ hb hbb hk
    obtain ⟨_, _, a3, _⟩ := N1 q hqL
    rw [Nat.zero_add] at a3
    have p2 : (nI (4 * q) + 2).toInt.toNat = 4 * q + 2 ∧ 0 ≤ (nI (4 * q) + 2).toInt ∧ (nI (4 * q) + 2).toInt < 96 := by
      rw [show (2 : Int32) = nI 2 from rfl, nI_add, nI_toInt (by omega)]; omega
    have eX : (rI s1 155 (6 * r)).toInt = X.1 := R1.1
    have hX1 := hX.1
    have er := i_rem (a := i) (b := rI s1 155 (6 * r)) hi0 (by rw [eX]; omega)
    rw [eX] at er
    refine st_M_live_75 ?_
    rw [p2.1, a3, h6, q6.1, er]
    refine ⟨p2.2, fun _ => ⟨q6.2, by rw [eX]; omega, fun c => ?_, fun c => ?_⟩, fun z => absurd hkk z⟩
    · have e : lvK T X i.toInt S = (lkW T X S.1, fun i => if i = 0 then S.2 0 + lkN T X S.1 else S.2 i) := by unfold lvK; rw [if_pos c]
      have hk2 : ∀ s2, qM s (lvD T (lvG (L.getD q (0, 0, 0, 0)) g.toInt (lvK T X i.toInt S))) s2 → _ := hk
      rw [e] at hk2
      refine sm_look (o := 6 * r) (by omega) (tvM_fr hT q1 (fun k _ => ft k)) R1 hX hq.2.1 hb hbb hq.2.2 (fun s2 f2 m2 t2 => ?_)
      exact GG (lkW T X S.1, fun i => if i = 0 then S.2 0 + lkN T X S.1 else S.2 i) s2 ⟨q1.tr f2, m2, t2⟩ (lkW_ok hb hX) hk2
    · have e : lvK T X i.toInt S = S := by unfold lvK; rw [if_neg c]
      have hk2 : ∀ s2, qM s (lvD T (lvG (L.getD q (0, 0, 0, 0)) g.toInt (lvK T X i.toInt S))) s2 → _ := hk
      rw [e] at hk2
      exact GG S s1 hq hb hk2
  have RW : ∀ (j i : Nat) (S0 : lS) (s1 : hS) (b : Int) (q : Nat) (x6 : Int32), i + j = (L.getD q (0, 0, 0, 0)).2.2.1.toNat → q < L.length → x6.toInt = lvT L q + i → okM b S0.1 → b ≤ 10000000 → qM s (lvR T X (L.getD q (0, 0, 0, 0)) g.toInt (lvT L q) S0 i) s1 → (∀ s2 (y6 : Int32), y6.toInt = lvT L (q + 1) → qM s (lvR T X (L.getD q (0, 0, 0, 0)) g.toInt (lvT L q) S0 (L.getD q (0, 0, 0, 0)).2.2.1.toNat) s2 → ∀ z8, pgI (d + 5) 198 36 [.ref 145, .int (nI r), .int g, .int y6, .int (nI (4 * (q + 1))), z8] [] v s2 K) → pgI (d + 5) 198 75 [.ref 145, .int (nI r), .int g, .int x6, .int (nI (4 * q)), .int (nI i)] [] v s1 K := by
    intro j
    induction j with
    | zero =>
      intro i S0 s1 b q x6 hij hqL hx6 hb hbb hq hk
      have hi : i = (L.getD q (0, 0, 0, 0)).2.2.1.toNat := by omega
      have hr := nr_get hL hqL
      have r3 := hr.2.2.1
      obtain ⟨_, _, a3, _⟩ := eN_frm hN hq.1 fn q hqL
      rw [Nat.zero_add] at a3
      have p2 : (nI (4 * q) + 2).toInt.toNat = 4 * q + 2 ∧ 0 ≤ (nI (4 * q) + 2).toInt ∧ (nI (4 * q) + 2).toInt < 96 := by
        rw [show (2 : Int32) = nI 2 from rfl, nI_add, nI_toInt (by omega)]; omega
      refine st_M_live_75 ?_
      rw [p2.1, a3, nI_toInt (show i < 2147483648 by omega), show nI (4 * q) + 4 = nI (4 * (q + 1)) from by rw [show (4 : Int32) = nI 4 from rfl, nI_add]; congr 1]
      refine ⟨p2.2, fun z => absurd z (by omega), fun _ => hk s1 x6 ?_ (by rw [← hi]; exact hq) _⟩
      show _ = lvT L q + (L.getD q (0, 0, 0, 0)).2.2.1
      omega
    | succ j ih =>
      intro i S0 s1 b q x6 hij hqL hx6 hb hbb hq hk
      have hr := nr_get hL hqL
      have r3 := hr.2.2.1
      have hT0 := lvT_b hL q (by omega)
      refine ST _ s1 (b + i) x6 (nI i) q hq (lvR_ok hb ok hX hr i (by omega)) (by omega) hqL (by omega) (by rw [nI_toInt (by omega)]; omega) (fun s2 h2 => ?_)
      rw [nI_1]
      refine ih (i + 1) S0 s2 b q (x6 + 1) (by omega) hqL ?_ hb hbb ?_ hk
      · rw [i_add (by rw [e1]; omega), e1]; omega
      · rw [hx6] at h2; exact h2
  have NN : ∀ (j q : Nat) (s1 : hS) (x6 : Int32) (z8 : Value), q + j = L.length → x6.toInt = lvT L q → qM s (lvN T X L g.toInt (W, fun _ => 0) q) s1 → pgI (d + 5) 198 36 [.ref 145, .int (nI r), .int g, .int x6, .int (nI (4 * q)), z8] [] v s1 K := by
    intro j
    induction j with
    | zero =>
      intro q s1 x6 z8 hqj hx6 hq
      have hq0 : q = L.length := by omega
      refine st_M_live_36 ?_
      rw [hq.1.i (c := 145) (k := 16) (by unfold fLm; omega), h4, nI_toInt (by omega), nI_toInt (by omega)]
      exact ⟨fun z => absurd z (by omega), fun _ => hK s1 (by rw [← hq0]; exact hq)⟩
    | succ j ih =>
      intro q s1 x6 z8 hqj hx6 hq
      have hqL : q < L.length := by omega
      obtain ⟨a1, a2, a3, a4⟩ := eN_frm hN hq.1 fn q hqL
      rw [Nat.zero_add] at a1 a2 a3 a4
      have hr := nr_get hL hqL
      have hTq := lvT_b hL q (by omega)
      have oq := lvN_ok (g := g.toInt) (S := (W, fun _ => 0)) ho ok hX hL (by omega) q (by omega)
      have p0 : (nI (4 * q)).toInt.toNat = 4 * q ∧ 0 ≤ (nI (4 * q)).toInt ∧ (nI (4 * q)).toInt < 96 := by rw [nI_toInt (by omega)]; omega
      have p1 : (nI (4 * q) + 1).toInt.toNat = 4 * q + 1 ∧ 0 ≤ (nI (4 * q) + 1).toInt ∧ (nI (4 * q) + 1).toInt < 96 := by
        rw [show (1 : Int32) = nI 1 from rfl, nI_add, nI_toInt (by omega)]; omega
      have p3 : (nI (4 * q) + 3).toInt.toNat = 4 * q + 3 ∧ 0 ≤ (nI (4 * q) + 3).toInt ∧ (nI (4 * q) + 3).toInt < 96 := by
        rw [show (3 : Int32) = nI 3 from rfl, nI_add, nI_toInt (by omega)]; omega
      refine st_M_live_36 ?_
      rw [hq.1.i (c := 145) (k := 16) (by unfold fLm; omega), h4, nI_toInt (show 4 * L.length < 2147483648 by omega), p0.1]
      refine ⟨fun _ => ⟨p0.2, st_M_live_51 ?_⟩, fun z => absurd (by rw [nI_toInt (by omega)]; omega) z⟩
      rw [p1.1, r_IL]
      refine ⟨p1.2, st_M_live_62 ?_⟩
      rw [p3.1, r_IL, r_IL]
      refine ⟨p3.2, ?_⟩
      have V3 := mVec_se (j := 25) (y := (rI s1 154 (4 * q + 3)).toInt64) (mVec_se (j := 24) (y := (rI s1 154 (4 * q + 1)).toInt64) (mVec_se (j := 23) (y := (rI s1 154 (4 * q)).toInt64) hq.2.1))
      have F3 : Fr fLm s1 (sL (sL (sL s1 146 23 (rI s1 154 (4 * q)).toInt64) 146 24 (rI s1 154 (4 * q + 1)).toInt64) 146 25 (rI s1 154 (4 * q + 3)).toInt64) := (((Fr.rf _ s1).sL (Or.inl ⟨rfl, by decide⟩)).sL (Or.inl ⟨rfl, by decide⟩)).sL (Or.inl ⟨rfl, by decide⟩)
      refine RW (L.getD q (0, 0, 0, 0)).2.2.1.toNat 0 (lvB (L.getD q (0, 0, 0, 0)) (lvN T X L g.toInt (W, fun _ => 0) q)) _ (m + lvT L q) q x6 (by omega) hqL (by rw [hx6]; omega) (rwW_ok oq hr) (by omega) ⟨hq.1.tr F3, ?_, fun k hk => by rw [r_IL, r_IL, r_IL]; exact hq.2.2 k hk⟩ (fun s2 y6 hy6 h2 z8 => ih (q + 1) s2 y6 z8 (by omega) hy6 h2)
      rw [l_of ((i_64 _).trans a1), l_of ((i_64 _).trans a2), l_of ((i_64 _).trans a4)] at V3 ⊢
      exact V3
  have Z : ∀ (j i : Nat) (s1 : hS), i + j = 4 → Fr fLm s s1 → mVec 0 s1 W → (∀ k, k < i → rI s1 157 k = 0) → pgI (d + 5) 198 22 [.ref 145, .int (nI r), .int g, .int (nI i), z4, z5] [] v s1 K := by
    intro j
    induction j with
    | zero =>
      intro i s1 hij hf hv hz
      have hi : i = 4 := by omega
      subst hi
      exact st_M_live_22 ⟨fun z => absurd z (by decide), fun _ => NN L.length 0 s1 0 _ (by omega) rfl ⟨hf, hv, hz⟩⟩
    | succ j ih =>
      intro i s1 hij hf hv hz
      refine st_M_live_22 ⟨fun _ => ?_, fun z => absurd (by rw [nI_toInt (by omega)]; omega) z⟩
      rw [nI_toInt (by omega), Int.toNat_natCast, nI_1]
      refine ⟨by omega, ih (i + 1) _ (by omega) (hf.sI (Or.inr (Or.inr rfl))) (fun i hi => by rw [r_LI]; exact hv i hi) (fun k hk => ?_)⟩
      rw [r_II]
      by_cases c : k = i
      · rw [if_pos ⟨rfl, c⟩]
      · rw [if_neg (fun z => c z.2)]; exact hz k (by omega)
  exact Z 4 0 s (by decide) (Fr.rf _ _) hm (fun k hk => absurd hk (Nat.not_lt_zero k))
theorem th_live {n : Nat} (h : pNow n s) (hn : n ≤ 600) (hv : kV v) (hT : pT v s) (hLT : pLT s) (hN : pN v s) (hU : pU s) (x g : Int32) : prI (fun c k => fA0 c k ∨ fV c k) v (d + 7) 88 198 [.int x, .int g] s (fun s2 => pNow (n + 1) s2 ∧ pV s2 ∨ s2 = s) := by
  obtain ⟨T, ok, k2, k3⟩ := pT_T hT
  obtain ⟨L, hL, hN1, hN2, hN3⟩ := hN
  obtain ⟨R, hR4, r1, r2, r3⟩ := hU
  have hvT := hv.1.1
  have hvN := hv.2.1
  have el0 : Int64.toInt 0 = 0 := rfl
  have el9 : Int64.toInt 9 = 9 := rfl
  have e1 : Int32.toInt 1 = 1 := rfl
  have eR : (nI R).toInt = R := nI_toInt (by omega)
  have eg : (((rI s 145 18) - 1).toInt64).toInt = R - 1 := by rw [r2, i_64, i_sub (by rw [eR, e1]; omega), eR, e1]
  have O1 : ¬ (0 ≤ x.toInt ∧ x.toInt < R) → (Fr (fun c k => fA0 c k ∨ fV c k) s s ∧ pcI (d + 7) 198 [.ref 145, .int x, .int g] v s (fun x2 s2 => x2 = -1000000001 ∧ Fr (fun c k => fA0 c k ∨ fV c k) s s2 ∧ (pNow (n + 1) s2 ∧ pV s2 ∨ s2 = s))) := fun hx => ⟨Fr.rf _ _, st_M_live (sp_in (fun _ => ⟨rfl, Fr.rf _ _, Or.inr rfl⟩) (fun z => absurd z (by rw [eg, el0]; omega)))⟩
  have O2 : (0 ≤ x.toInt ∧ x.toInt < R) → ¬ (0 ≤ g.toInt ∧ g.toInt ≤ 9) → (Fr (fun c k => fA0 c k ∨ fV c k) s s ∧ pcI (d + 7) 198 [.ref 145, .int x, .int g] v s (fun x2 s2 => x2 = -1000000002 ∧ Fr (fun c k => fA0 c k ∨ fV c k) s s2 ∧ (pNow (n + 1) s2 ∧ pV s2 ∨ s2 = s))) := fun hx hg => ⟨Fr.rf _ _, st_M_live (sp_in (fun z => absurd (by rw [eg, el0]; omega) z) (fun _ => sp_in (fun _ => ⟨rfl, Fr.rf _ _, Or.inr rfl⟩) (fun z => absurd z hg)))⟩
  refine st_S_live hvT hvN ⟨fun c => O1 (by omega), fun c => ?_⟩
  rw [r1, eR]
  refine ⟨fun c2 => ⟨fun _ => ⟨fun c3 => O2 (by omega) (by omega), fun c3 => ⟨fun c4 => O2 (by omega) (by omega), fun c4 => ⟨by omega, ?_⟩⟩⟩, fun z => absurd (by omega) z⟩, fun c2 => O1 (by omega)⟩
  have hg : 0 ≤ g.toInt ∧ g.toInt ≤ 9 := by omega
  have hW := okA_M.mp (pNow_ok h)
  have hc := pNow_c h
  have P : ∀ r : Nat, r < R → x = nI r → kU (133 + r) → pcV (d + 6) 89 [.ref (vN v), .ref (133 + r), .int g, .ref 92, .ref (vT v), .ref 103] v s (fun s1 => Fr (fun c k => fA0 c k ∨ fV c k) s s1 ∧ pcI (d + 7) 198 [.ref 145, .int x, .int g] v s1 (fun x2 s2 => x2 = rI s1 103 0 ∧ Fr (fun c k => fA0 c k ∨ fV c k) s1 s2 ∧ (pNow (n + 1) s2 ∧ pV s2 ∨ s2 = s))) := by
    intro r hr hx hu
    obtain ⟨X, x1, x2, x3⟩ := r3 r hr
    subst hx
    refine sp_pass hvT hvN hu hLT k2 ok hN1 hL x2 x1 hg hc hW (by omega) (fun s1 q => ?_)
    obtain ⟨f1, c1, t1⟩ := q
    have F1 : Fr (fun c k => fA0 c k ∨ fV c k) s s1 := f1.mo (fun c k z => by unfold fLc fAi at z; unfold fA0 fV; omega)
    refine ⟨F1, st_M_live (sp_in (fun z => absurd ?_ z) (fun _ => sp_in (fun z => absurd (by rw [el0, el9]; exact hg) z) (fun _ => ?_)))⟩
    · rw [f1.i (c := 145) (k := 18) (by unfold fLc fAi; omega), eg, el0]; omega
    have m1 : mVec 0 s1 (fun i => rL s 146 i) := fun i hi => by rw [f1.l (by unfold fLc fAi; omega), Nat.zero_add]
    refine sm_live (r := r) (X := X) (L := L) (by omega) (tvM_fr k3 f1 (fun k _ => by unfold fLc fAi; omega)) ok (eN_frm hN2 f1 (fun k => by unfold fLc fAi; omega)) hL (by rw [f1.i (by unfold fLc fAi; omega)]; exact hN3) (rM_fr x3 f1 (fun k _ _ => by unfold fLc fAi; omega)) x1 hg m1 hW (by omega) _ _ (fun s2 q2 => ?_)
    obtain ⟨f2, m2, t2⟩ := q2
    refine ⟨by rw [t2 0 (by decide), t1 0 (by decide)], f2.mo (fun c k z => by unfold fLm at z; unfold fA0 fV; omega), Or.inl ⟨pNow_mk (fun i hi => ?_) ?_, fun k hk => ?_⟩⟩
    · rw [cA_fr f2 (by have := aC_le i hi; unfold fLm; omega), c1 i hi, mVec_at m2 hi]
    · have hb := lvT_b hL L.length (Nat.le_refl _)
      have hl12 := hL.1
      have ok2 := lvN_ok (g := g.toInt) (S := (fun i => rL s 146 i, fun _ => 0)) hW ok x1 hL (by omega) L.length (Nat.le_refl _)
      refine okA_congr (okA_M.mpr ?_) (fun i hi => mVec_at m2 hi)
      obtain ⟨y1, y2, y3, y4⟩ := ok2
      exact ⟨y1, y2, ⟨y3.1, by omega⟩, y4⟩
    · rw [f2.i (by unfold fLm; omega), t1 k hk, t2 k hk]
  have hx4 : x.toInt = 0 ∨ x.toInt = 1 ∨ x.toInt = 2 ∨ x.toInt = 3 := by omega
  have ex : x = nI x.toInt.toNat := i_of (by omega)
  refine ⟨fun c => P 0 (by omega) (by rw [ex, c]; rfl) (by unfold kU; omega), fun c => P 1 (by omega) (by rw [ex, c]; rfl) (by unfold kU; omega), fun c => P 2 (by omega) (by rw [ex, c]; rfl) (by unfold kU; omega), fun c => P 3 (by omega) (by rw [ex, c]; rfl) (by unfold kU; omega)⟩
end
