/-! THE TRIPOD: settled, in both -/
def lo3 (x y z : Int) : Int := mn2 x (mn2 y z)
def hi3 (x y z : Int) : Int := mx2 x (mx2 y z)
def mi3 (x y z : Int) : Int := x + y + z - lo3 x y z - hi3 x y z
theorem c3_ok {x y z : Int} (hx : 0 ≤ x ∧ x ≤ 23) (hy : 0 ≤ y ∧ y ≤ 23) (hz : 0 ≤ z ∧ z ≤ 23) (h1 : x ≠ y) (h2 : y ≠ z) (h3 : x ≠ z) : (0 ≤ lo3 x y z ∧ lo3 x y z < mi3 x y z ∧ mi3 x y z < hi3 x y z ∧ hi3 x y z ≤ 23) ∧ ∀ p : Int, (p = x ∨ p = y ∨ p = z) ↔ (p = lo3 x y z ∨ p = mi3 x y z ∨ p = hi3 x y z) := by
  unfold mi3 lo3 hi3 mn2 mx2
  refine ⟨?_, fun p => ?_⟩
  · repeat' split
    all_goals omega
  · repeat' split
    all_goals omega
section
variable {d : Nat} {v : hV} {s s1 : hS} {r a b c : Nat} {c0 c1 c2 : Int} {L : rgL} {M : Nat} {fk : Nat → Nat} {fa : Nat → Int} {o : Nat → Nat}
theorem sp_sort {x y z : Int} (hx : 0 ≤ x ∧ x ≤ 23) (hy : 0 ≤ y ∧ y ≤ 23) (hz : 0 ≤ z ∧ z ≤ 23) (h0 : (rI s 119 0).toInt = x) (h1 : (rI s 119 1).toInt = y) (h2 : (rI s 119 2).toInt = z) {K : hS → Prop} (hK : ∀ s2, Fr (fun c _ => c = 119) s s2 → (rI s2 119 0).toInt = lo3 x y z → (rI s2 119 1).toInt = mi3 x y z → (rI s2 119 2).toInt = hi3 x y z → K s2) : pcV (d + 1) 121 [.ref 117] v s K := by
  have E : ∀ w2 w4 : Int32, w2.toInt = lo3 x y z → w4.toInt = hi3 x y z → K (sI (sI (sI s 119 1 (((((rI s 119 0) + (rI s 119 1)) + (rI s 119 2)) - w2) - w4)) 119 0 w2) 119 2 w4) := by
    intro w2 w4 e2 e4
    have bl : 0 ≤ lo3 x y z ∧ lo3 x y z ≤ 23 ∧ 0 ≤ hi3 x y z ∧ hi3 x y z ≤ 23 := by
      unfold lo3 hi3 mn2 mx2
      repeat' split
      all_goals omega
    have a1 : (rI s 119 0 + rI s 119 1).toInt = x + y := by rw [i_add (by omega), h0, h1]
    have a2 : (rI s 119 0 + rI s 119 1 + rI s 119 2).toInt = x + y + z := by rw [i_add (by omega), a1, h2]
    have a3 : (rI s 119 0 + rI s 119 1 + rI s 119 2 - w2).toInt = x + y + z - lo3 x y z := by rw [i_sub (by omega), a2, e2]
    have a4 : (rI s 119 0 + rI s 119 1 + rI s 119 2 - w2 - w4).toInt = mi3 x y z := by rw [i_sub (by omega), a3, e4]; rfl
    refine hK _ ((((Fr.rf (fun c _ => c = 119) s).sI rfl).sI rfl).sI rfl) ?_ ?_ ?_
    · rw [r_II, if_neg (by decide), r_II, if_pos ⟨rfl, rfl⟩]; exact e2
    · rw [r_II, if_neg (by decide), r_II, if_neg (by decide), r_II, if_pos ⟨rfl, rfl⟩]; exact a4
    · rw [r_II, if_pos ⟨rfl, rfl⟩]; exact e4
  have E2 : ∀ w2 : Int32, w2.toInt = lo3 x y z → pcI d 93 [.int (rI s 119 1), .int (rI s 119 2)] v s (fun w3 s3 => pcI d 93 [.int (rI s 119 0), .int w3] v s3 (fun w4 s4 => K (sI (sI (sI s4 119 1 (((((rI s4 119 0) + (rI s4 119 1)) + (rI s4 119 2)) - w2) - w4)) 119 0 w2) 119 2 w4))) := by
    intro w2 e2
    have A : ∀ w3 : Int32, w3.toInt = mx2 y z → pcI d 93 [.int (rI s 119 0), .int w3] v s (fun w4 s4 => K (sI (sI (sI s4 119 1 (((((rI s4 119 0) + (rI s4 119 1)) + (rI s4 119 2)) - w2) - w4)) 119 0 w2) 119 2 w4)) := by
      intro w3 e3
      refine st_Math_max ⟨fun q => E w2 _ e2 ?_, fun q => E w2 _ e2 ?_⟩
      · rw [h0, e3] at q; rw [e3]; unfold hi3; conv => rhs; rw [mx2]
        rw [if_pos q]
      · rw [h0, e3] at q; rw [h0]; unfold hi3; conv => rhs; rw [mx2]
        rw [if_neg q]
    refine st_Math_max ⟨fun q => A _ ?_, fun q => A _ ?_⟩
    · rw [h1, h2] at q; rw [h2, mx2, if_pos q]
    · rw [h1, h2] at q; rw [h1, mx2, if_neg q]
  have A : ∀ w1 : Int32, w1.toInt = mn2 y z → pcI d 92 [.int (rI s 119 0), .int w1] v s (fun w2 s2 => pcI d 93 [.int (rI s2 119 1), .int (rI s2 119 2)] v s2 (fun w3 s3 => pcI d 93 [.int (rI s2 119 0), .int w3] v s3 (fun w4 s4 => K (sI (sI (sI s4 119 1 (((((rI s4 119 0) + (rI s4 119 1)) + (rI s4 119 2)) - w2) - w4)) 119 0 w2) 119 2 w4)))) := by
    intro w1 e1
    refine st_Math_min ⟨fun q => E2 _ ?_, fun q => E2 _ ?_⟩
    · rw [h0, e1] at q; rw [e1]; unfold lo3; conv => rhs; rw [mn2]
      rw [if_pos q]
    · rw [h0, e1] at q; rw [h0]; unfold lo3; conv => rhs; rw [mn2]
      rw [if_neg q]
  refine st_Bundle_sortBegins (st_Math_min ⟨fun q => A _ ?_, fun q => A _ ?_⟩)
  · rw [h1, h2] at q; rw [h2, mn2, if_pos q]
  · rw [h1, h2] at q; rw [h1, mn2, if_neg q]
/-- what stands of the bundle behind tripod() -/
def oK (L : rgL) (a b c : Nat) (c0 c1 c2 : Int) (s : hS) : Prop := (oL a b c L.length).length ≤ 8 → ∃ R : Nat → Int, (∀ set, set < 2 ^ (oL a b c L.length).length → eqR (oL a b c L.length).length (fkD L c0 c1 c2 (oD a b c L.length)) (faD L c0 c1 c2 (oD a b c L.length)) R set) ∧ (rI s 117 9).toInt = R 0 ∧ ∀ j, j < (oL a b c L.length).length → rI s 124 j = nI (oD a b c L.length (nxR (oL a b c L.length).length (fkD L c0 c1 c2 (oD a b c L.length)) (faD L c0 c1 c2 (oD a b c L.length)) R (inR (oL a b c L.length).length (fkD L c0 c1 c2 (oD a b c L.length)) (faD L c0 c1 c2 (oD a b c L.length)) R j)))
theorem sp_settle (hr : kR r) (hd : dR r s L) (hg : rgOK L) (hb : a < L.length ∧ b < L.length ∧ c < L.length) (hn : a ≠ b ∧ b ≠ c ∧ a ≠ c) (e0 : c0 = lo3 (L.getD a (0, 0)).1 (L.getD b (0, 0)).1 (L.getD c (0, 0)).1) (e1 : c1 = mi3 (L.getD a (0, 0)).1 (L.getD b (0, 0)).1 (L.getD c (0, 0)).1) (e2 : c2 = hi3 (L.getD a (0, 0)).1 (L.getD b (0, 0)).1 (L.getD c (0, 0)).1) {K : hS → Prop} (hK : ∀ s2, Fr fBu s s2 → lgS a b c c0 c1 c2 s2 → rI s2 117 2 = 1 → rI s2 117 3 = nI (oL a b c L.length).length → oK L a b c c0 c1 c2 s2 → K s2) : pcV (d + 3) 120 [.ref 117, .ref r, .int (nI a), .int (nI b), .int (nI c)] v s K := by
  have l16 := hd.2.1
  have hrr : 54 ≤ r ∧ r ≤ 75 := by unfold kR at hr; omega
  have ga := rg_get hg hb.1
  have gb := rg_get hg hb.2.1
  have gc := rg_get hg hb.2.2
  have na : (L.getD a (0, 0)).1 ≠ (L.getD b (0, 0)).1 := fun z => hn.1 (rg_inj hg hb.1 hb.2.1 z)
  have nb : (L.getD b (0, 0)).1 ≠ (L.getD c (0, 0)).1 := fun z => hn.2.1 (rg_inj hg hb.2.1 hb.2.2 z)
  have nc : (L.getD a (0, 0)).1 ≠ (L.getD c (0, 0)).1 := fun z => hn.2.2 (rg_inj hg hb.1 hb.2.2 z)
  have C3 := (c3_ok ga.1 gb.1 gc.1 na nb nc).1
  rw [← e0, ← e1, ← e2] at C3
  have qa := (hd.2.2 a hb.1).1
  have qb := (hd.2.2 b hb.2.1).1
  have qc := (hd.2.2 c hb.2.2).1
  have fw : ∀ c k, fBu c k → 117 ≤ c ∧ c ≤ 124 := fun c k z => z
  -- behind the legs
  have TL : ∀ s1 : hS, Fr fBu s s1 → rI s1 118 0 = nI a → rI s1 118 1 = nI b → rI s1 118 2 = nI c → (rI s1 119 0).toInt = (L.getD a (0, 0)).1 → (rI s1 119 1).toInt = (L.getD b (0, 0)).1 → (rI s1 119 2).toInt = (L.getD c (0, 0)).1 → pcV (d + 2) 121 [.ref 117] v s1 (fun s2 => pcV (d + 2) 122 [.ref 117, .ref r] v (sI s2 117 2 1) (fun s3 => (8 < (rI s3 117 3).toInt → K s3) ∧ (¬ 8 < (rI s3 117 3).toInt → pcV (d + 2) 124 [.ref 117] v s3 (fun s5 => pcV (d + 2) 127 [.ref 117] v s5 (fun s6 => K s6))))) := by
    intro s1 f1 l0 l1 l2 b0 b1 b2
    refine sp_sort ga.1 gb.1 gc.1 b0 b1 b2 (fun s2 f2 d0 d1 d2 => ?_)
    rw [← e0] at d0
    rw [← e1] at d1
    rw [← e2] at d2
    have f3 : Fr (fun c k => c = 119 ∨ (c = 117 ∧ k = 2)) s1 (sI s2 117 2 1) := (f2.mo (fun c k z => Or.inl z)).sI (Or.inr ⟨rfl, rfl⟩)
    have F3 : Fr fBu s (sI s2 117 2 1) := f1.tr (f3.mo (fun c k z => by unfold fBu; omega))
    have D3 : dR r (sI s2 117 2 1) L := dR_rs hd F3 (by unfold fBu; omega) (fun k => by unfold fBu; omega) (fun k => by unfold fBu; omega)
    have L3 : lgS a b c c0 c1 c2 (sI s2 117 2 1) := ⟨by rw [f3.i (by omega)]; exact l0, by rw [f3.i (by omega)]; exact l1, by rw [f3.i (by omega)]; exact l2, by rw [r_II, if_neg (by omega)]; exact d0, by rw [r_II, if_neg (by omega)]; exact d1, by rw [r_II, if_neg (by omega)]; exact d2⟩
    refine sp_gather hr D3 hg L3 (by omega) (by omega) (fun s4 f4 c4 => ?_)
    have F4 : Fr fBu s s4 := F3.tr (f4.mo (fun c k z => by unfold fBu; omega))
    have L4 : lgS a b c c0 c1 c2 s4 := by
      unfold lgS; rw [f4.i (by omega), f4.i (by omega), f4.i (by omega), f4.i (by omega), f4.i (by omega), f4.i (by omega)]; exact L3
    have st4 : rI s4 117 2 = 1 := by rw [f4.i (by omega), r_II, if_pos ⟨rfl, rfl⟩]
    have hlen := oL_len a b c L.length
    have o4 : rI s4 117 3 = nI (oL a b c L.length).length := c4.1
    rw [o4, nI_toInt (by omega)]
    refine ⟨fun q => hK s4 F4 L4 st4 o4 (fun z => absurd z (by omega)), fun q => ?_⟩
    have hfk : ∀ i, fkD L c0 c1 c2 (oD a b c L.length) i ≤ 2 := fun i => fkO_le _ _ _ _
    refine sp_weigh (by omega) c4 hfk (fun s5 f5 q5 k5 => ?_)
    have c5 := cBu_fr c4 f5 (by omega) (fun k => by omega)
    refine sp_layOut (by omega) c5 hfk q5 (fun s6 f6 q6 => ?_)
    have F6 : Fr fBu s s6 := (F4.tr (f5.mo (fun c k z => by unfold fBu; omega))).tr (f6.mo (fun c k z => by unfold fBu; omega))
    refine hK s6 F6 ?_ ?_ ?_ (fun _ => ⟨fun k => (rI s5 123 k).toInt, q5, ?_, q6⟩)
    · unfold lgS; rw [f6.i (by omega), f6.i (by omega), f6.i (by omega), f6.i (by omega), f6.i (by omega), f6.i (by omega), f5.i (by omega), f5.i (by omega), f5.i (by omega), f5.i (by omega), f5.i (by omega), f5.i (by omega)]; exact L4
    · rw [f6.i (by omega), f5.i (by omega)]; exact st4
    · rw [f6.i (by omega), f5.i (by omega)]; exact o4
    · rw [f6.i (by omega), k5]
  refine st_Bundle_settle hr ?_
  have G : ∀ j i : Nat, i + j = 3 → ∀ (s1 : hS) (z4 : Value), Fr fBu s s1 → rI s1 118 0 = nI a → rI s1 118 1 = nI b → rI s1 118 2 = nI c → (0 < i → (rI s1 119 0).toInt = (L.getD a (0, 0)).1) → (1 < i → (rI s1 119 1).toInt = (L.getD b (0, 0)).1) → (2 < i → (rI s1 119 2).toInt = (L.getD c (0, 0)).1) → ∀ z2 z3, pgV (d + 3) 120 17 [.ref 117, .ref r, z2, z3, z4, .int (nI i)] [] v s1 K := by
    intro j
    induction j with
    | zero =>
      intro i hi s1 z4 f1 l0 l1 l2 b0 b1 b2 z2 z3
      have hi : i = 3 := by omega
      subst hi
      exact st_Bundle_settle_17 hr ⟨fun z => absurd z (by decide), fun _ => TL s1 f1 l0 l1 l2 (b0 (by decide)) (b1 (by decide)) (b2 (by decide))⟩
    | succ j ih =>
      intro i hi s1 z4 f1 l0 l1 l2 b0 b1 b2 z2 z3
      have f1r : ∀ k, rI s1 (r + 1) k = rI s (r + 1) k := fun k => f1.i (by unfold fBu; omega)
      have hi3 : i = 0 ∨ i = 1 ∨ i = 2 := by omega
      have F : ∀ (p : Nat) (x : Int), p < L.length → rI s1 118 i = nI p → (rI s (r + 1) p).toInt = x → ((i = 0 → x = (L.getD a (0, 0)).1) ∧ (i = 1 → x = (L.getD b (0, 0)).1) ∧ (i = 2 → x = (L.getD c (0, 0)).1)) → pgV (d + 3) 120 17 [.ref 117, .ref r, z2, z3, z4, .int (nI i)] [] v s1 K := by
        intro p x hp hl hx hc
        refine st_Bundle_settle_17 hr ⟨fun _ => ?_, fun z => absurd (by rw [nI_toInt (by omega)]; omega) z⟩
        have hl : rI s1 118 i = nI p := hl
        rw [nI_toInt (by omega), Int.toNat_natCast, hl, nI_toInt (show p < 2147483648 by omega), Int.toNat_natCast, nI_1]
        have fs : Fr fBu s (sI s1 119 i (rI s1 (r + 1) p)) := f1.sI (by unfold fBu; omega)
        refine ⟨by omega, by omega, by omega, ih (i + 1) (by omega) _ _ fs ?_ ?_ ?_ (fun z => ?_) (fun z => ?_) (fun z => ?_) _ _⟩
        · rw [r_II, if_neg (by omega)]; exact l0
        · rw [r_II, if_neg (by omega)]; exact l1
        · rw [r_II, if_neg (by omega)]; exact l2
        · rw [r_II]
          by_cases ci : 0 = i
          · rw [if_pos ⟨rfl, ci⟩, f1r, hx]; exact hc.1 ci.symm
          · rw [if_neg (fun y => ci y.2)]; exact b0 (by omega)
        · rw [r_II]
          by_cases ci : 1 = i
          · rw [if_pos ⟨rfl, ci⟩, f1r, hx]; exact hc.2.1 ci.symm
          · rw [if_neg (fun y => ci y.2)]; exact b1 (by omega)
        · rw [r_II]
          by_cases ci : 2 = i
          · rw [if_pos ⟨rfl, ci⟩, f1r, hx]; exact hc.2.2 ci.symm
          · rw [if_neg (fun y => ci y.2)]; exact b2 (by omega)
      rcases hi3 with h | h | h
      · exact F a _ hb.1 (by rw [h]; exact l0) qa ⟨fun _ => rfl, fun z => absurd z (by omega), fun z => absurd z (by omega)⟩
      · exact F b _ hb.2.1 (by rw [h]; exact l1) qb ⟨fun z => absurd z (by omega), fun _ => rfl, fun z => absurd z (by omega)⟩
      · exact F c _ hb.2.2 (by rw [h]; exact l2) qc ⟨fun z => absurd z (by omega), fun z => absurd z (by omega), fun _ => rfl⟩
  refine G 3 0 rfl _ _ ((((Fr.rf _ s).sI (by unfold fBu; omega)).sI (by unfold fBu; omega)).sI (by unfold fBu; omega)) ?_ ?_ ?_ (fun z => absurd z (by decide)) (fun z => absurd z (by decide)) (fun z => absurd z (by decide)) _ _
  · simp only [r_II, r_LL, r_LI, r_IL, r_IC, r_LC, r_ICL, r_LCI, Nat.reduceEqDiff, false_and, and_false, true_and, and_true, and_self, ↓reduceIte]
  · simp only [r_II, r_LL, r_LI, r_IL, r_IC, r_LC, r_ICL, r_LCI, Nat.reduceEqDiff, false_and, and_false, true_and, and_true, and_self, ↓reduceIte]
  · simp only [r_II, r_LL, r_LI, r_IL, r_IC, r_LC, r_ICL, r_LCI, Nat.reduceEqDiff, false_and, and_false, true_and, and_true, and_self, ↓reduceIte]
/-! in the reference -/
theorem sm_tripod67 (hP : ∀ p, p < L.length → (rI s 150 p).toInt = (L.getD p (0, 0)).1) (l16 : L.length ≤ 16) (hb : a < L.length ∧ b < L.length ∧ c < L.length) (hC : 0 ≤ c0 ∧ c0 < c1 ∧ c1 < c2 ∧ c2 ≤ 23) (hA : ∀ p : Int, (p = (L.getD a (0, 0)).1 ∨ p = (L.getD b (0, 0)).1 ∨ p = (L.getD c (0, 0)).1) ↔ (p = c0 ∨ p = c1 ∨ p = c2)) {K : Int32 → hS → Prop} (hK : ∀ s2, Fr (fun c _ => c = 171) s s2 → (rI s2 171 0).toInt = c0 → (rI s2 171 1).toInt = c1 → (rI s2 171 2).toInt = c2 → K 1 s2) : pgI (d + 1) 220 67 [.ref 145, .int (nI a), .int (nI b), .int (nI c), .int 0, .int 0] [] v s K := by
  have G : ∀ j p : Nat, p + j = 24 → ∀ (n : Nat) (s1 : hS), Fr (fun c _ => c = 171) s s1 → n = (if c0 < p then 1 else 0) + (if c1 < p then 1 else 0) + (if c2 < p then 1 else 0) → (c0 < p → (rI s1 171 0).toInt = c0) → (c1 < p → (rI s1 171 1).toInt = c1) → (c2 < p → (rI s1 171 2).toInt = c2) → pgI (d + 1) 220 67 [.ref 145, .int (nI a), .int (nI b), .int (nI c), .int (nI n), .int (nI p)] [] v s1 K := by
    intro j
    induction j with
    | zero =>
      intro p hp n s1 hf hn h0 h1 h2
      refine st_M_tripod_67 ⟨fun z => absurd z (by rw [nI_toInt (by omega)]; omega), fun _ => hK s1 hf (h0 (by omega)) (h1 (by omega)) (h2 (by omega))⟩
    | succ j ih =>
      intro p hp n s1 hf hn h0 h1 h2
      have fp : ∀ k, rI s1 150 k = rI s 150 k := fun k => hf.i (by omega)
      have ep : (nI p).toInt = p := nI_toInt (by omega)
      have qa := hP a hb.1
      have qb := hP b hb.2.1
      have qc := hP c hb.2.2
      have n3 : n < 4 := by
        rw [hn]; repeat' split
        all_goals omega
      have q1 : nI p + 1 = nI (p + 1) := by rw [nI_1]
      have q2 : nI n + 1 = nI (n + 1) := by rw [nI_1]
      have AP := hA p
      have YES : ((p : Int) = c0 ∨ (p : Int) = c1 ∨ (p : Int) = c2) → (0 ≤ (n : Int) ∧ (n : Int) < 3) ∧ pgI (d + 1) 220 67 [.ref 145, .int (nI a), .int (nI b), .int (nI c), .int (nI (n + 1)), .int (nI (p + 1))] [] v (sI s1 171 n (nI p)) K := by
        intro hy
        have hn2 : ((p : Int) = c0 → n = 0) ∧ ((p : Int) = c1 → n = 1) ∧ ((p : Int) = c2 → n = 2) := by
          rw [hn]
          refine ⟨fun z => ?_, fun z => ?_, fun z => ?_⟩
          · rw [if_neg (by omega), if_neg (by omega), if_neg (by omega)]
          · rw [if_pos (by omega), if_neg (by omega), if_neg (by omega)]
          · rw [if_pos (by omega), if_pos (by omega), if_neg (by omega)]
        refine ⟨by omega, ih (p + 1) (by omega) (n + 1) _ (hf.sI rfl) ?_ (fun z => ?_) (fun z => ?_) (fun z => ?_)⟩
        · rcases hy with z | z | z
          · rw [hn2.1 z, if_pos (by omega), if_neg (by omega), if_neg (by omega)]
          · rw [hn2.2.1 z, if_pos (by omega), if_pos (by omega), if_neg (by omega)]
          · rw [hn2.2.2 z, if_pos (by omega), if_pos (by omega), if_pos (by omega)]
        · rw [r_II]
          by_cases cc : (p : Int) = c0
          · rw [if_pos ⟨rfl, by have := hn2.1 cc; omega⟩, ep]; exact cc
          · rw [if_neg (by omega)]; exact h0 (by omega)
        · rw [r_II]
          by_cases cc : (p : Int) = c1
          · rw [if_pos ⟨rfl, by have := hn2.2.1 cc; omega⟩, ep]; exact cc
          · rw [if_neg (by omega)]; exact h1 (by omega)
        · rw [r_II]
          by_cases cc : (p : Int) = c2
          · rw [if_pos ⟨rfl, by have := hn2.2.2 cc; omega⟩, ep]; exact cc
          · rw [if_neg (by omega)]; exact h2 (by omega)
      refine st_M_tripod_67 ?_
      rw [ep, nI_toInt (show a < 2147483648 by omega), nI_toInt (show b < 2147483648 by omega), nI_toInt (show c < 2147483648 by omega), nI_toInt (show n < 2147483648 by omega), Int.toNat_natCast, Int.toNat_natCast, Int.toNat_natCast, Int.toNat_natCast, fp, fp, fp, qa, qb, qc, q1, q2]
      refine ⟨fun _ => ⟨by omega, fun z => YES (AP.mp (Or.inl z.symm)), fun z1 => ⟨by omega, fun z => YES (AP.mp (Or.inr (Or.inl z.symm))), fun z2 => ⟨by omega, fun z => YES (AP.mp (Or.inr (Or.inr z.symm))), fun z3 => ?_⟩⟩⟩, fun z => absurd (by omega) z⟩
      have NO : ¬ ((p : Int) = c0 ∨ (p : Int) = c1 ∨ (p : Int) = c2) := fun z => by
        have := AP.mpr z; omega
      refine ih (p + 1) (by omega) n s1 hf ?_ (fun z => h0 (by omega)) (fun z => h1 (by omega)) (fun z => h2 (by omega))
      rw [hn]
      repeat' split
      all_goals omega
  exact G 24 0 rfl 0 s (Fr.rf _ _) (by rw [if_neg (by omega), if_neg (by omega), if_neg (by omega)]) (fun z => absurd z (by omega)) (fun z => absurd z (by omega)) (fun z => absurd z (by omega))
end
