/-! THE ORDER, in the reference -/
section
variable {d : Nat} {v : hV} {s s1 : hS} {a b c : Nat} {c0 c1 c2 : Int} {L : rgL} {M : Nat} {o : Nat → Nat} {R : Nat → Int}
/-- the corners and the places -/
def mCo (L : rgL) (c0 c1 c2 : Int) (s : hS) : Prop := ((rI s 171 0).toInt = c0 ∧ (rI s 171 1).toInt = c1 ∧ (rI s 171 2).toInt = c2) ∧ ∀ p, p < L.length → (rI s 150 p).toInt = (L.getD p (0, 0)).1
/-- what stays: corners rise, other poles stand at none of them -/
def sCo (L : rgL) (c0 c1 c2 : Int) (M : Nat) (o : Nat → Nat) : Prop := (0 ≤ c0 ∧ c0 < c1 ∧ c1 < c2 ∧ c2 ≤ 23) ∧ L.length ≤ 16 ∧ ∀ i, i < M → o i < L.length ∧ (0 ≤ (L.getD (o i) (0, 0)).1 ∧ (L.getD (o i) (0, 0)).1 ≤ 23) ∧ (L.getD (o i) (0, 0)).1 ≠ c0 ∧ (L.getD (o i) (0, 0)).1 ≠ c1 ∧ (L.getD (o i) (0, 0)).1 ≠ c2
theorem mCo_fr {F : Nat → Nat → Prop} (h : mCo L c0 c1 c2 s) (hf : Fr F s s1) (h1 : ∀ k, ¬ F 171 k ∧ ¬ F 150 k) : mCo L c0 c1 c2 s1 := by
  obtain ⟨g1, g2⟩ := h
  refine ⟨by rw [hf.i (h1 _).1, hf.i (h1 _).1, hf.i (h1 _).1]; exact g1, fun p hp => by rw [hf.i (h1 _).2]; exact g2 p hp⟩
theorem sm_forkOf1 {p : Nat} (hp : p < L.length) (l16 : L.length ≤ 16) (hC : 0 ≤ c0 ∧ c0 < c1 ∧ c1 < c2 ∧ c2 ≤ 23) (hn : (L.getD p (0, 0)).1 ≠ c0 ∧ (L.getD p (0, 0)).1 ≠ c1 ∧ (L.getD p (0, 0)).1 ≠ c2) (hm : mCo L c0 c1 c2 s) {K : Int32 → hS → Prop} (hK : K (nI (fkO c0 c1 c2 (L.getD p (0, 0)).1)) s) : pcI d 222 [.ref 145, .int (nI p)] v s K := by
  obtain ⟨⟨m0, m1, m2⟩, mp⟩ := hm
  have q := mp p hp
  refine st_M_forkOf ?_
  rw [nI_toInt (by omega), Int.toNat_natCast, q, m0, m1, m2]
  generalize (L.getD p (0, 0)).1 = x at *
  have E : ∀ (w : Int32) (t : Nat), fkO c0 c1 c2 x = t → w = nI t → K w s := fun w t h1 h2 => by rw [h2, ← h1]; exact hK
  refine ⟨by omega, fun y1 => ⟨fun y2 => E 0 0 ?_ rfl, fun y2 => ⟨fun y3 => ⟨fun y4 => E 1 1 ?_ rfl, fun y4 => E 2 2 ?_ rfl⟩, fun y3 => absurd (by omega) y3⟩⟩, fun y1 => ⟨fun y3 => absurd y3 (by omega), fun y3 => E 2 2 ?_ rfl⟩⟩
  · unfold fkO; rw [if_neg (by omega), if_neg (by omega), if_pos (by omega)]
  · unfold fkO; rw [if_neg (by omega), if_neg (by omega), if_neg (by omega)]
  · unfold fkO; rw [if_neg (by omega), if_pos (by omega)]
  · unfold fkO; rw [if_pos (by omega)]
theorem sm_fartherBy (hs : sCo L c0 c1 c2 M o) (hm : mCo L c0 c1 c2 s) {i : Nat} (hi : i < M) {K : Int32 → hS → Prop} (hK : ∀ w : Int32, w.toInt = faD L c0 c1 c2 o i → K w s) : pcI (d + 1) 226 [.ref 145, .int (nI (o i))] v s K := by
  obtain ⟨hC, l16, ho⟩ := hs
  obtain ⟨h1, h2, h3⟩ := ho i hi
  have e24 : Int32.toInt 24 = 24 := rfl
  have q := hm.2 _ h1
  have hle := fkO_le c0 c1 c2 (L.getD (o i) (0, 0)).1
  refine st_M_fartherBy ?_
  rw [nI_toInt (by omega), Int.toNat_natCast]
  refine ⟨by omega, sm_forkOf1 h1 l16 hC h3 hm ?_⟩
  rw [nI_toInt (by omega), Int.toNat_natCast]
  have hcor : (rI s 171 (fkO c0 c1 c2 (L.getD (o i) (0, 0)).1)).toInt = corO c0 c1 c2 (fkO c0 c1 c2 (L.getD (o i) (0, 0)).1) := by
    obtain ⟨b0, b1, b2⟩ := hm.1
    unfold corO
    have : fkO c0 c1 c2 (L.getD (o i) (0, 0)).1 = 0 ∨ fkO c0 c1 c2 (L.getD (o i) (0, 0)).1 = 1 ∨ fkO c0 c1 c2 (L.getD (o i) (0, 0)).1 = 2 := by omega
    rcases this with h | h | h <;> rw [h]
    · exact b0
    · exact b1
    · exact b2
  have hcb := corO_b (c0 := c0) (c1 := c1) (c2 := c2) (by omega) (fkO c0 c1 c2 (L.getD (o i) (0, 0)).1)
  have hcor : (rI s 171 (fkO c0 c1 c2 (L.getD (o i) (0, 0)).1)).toInt = corO c0 c1 c2 (fkO c0 c1 c2 (L.getD (o i) (0, 0)).1) := hcor
  have q : (rI s 150 (o i)).toInt = (L.getD (o i) (0, 0)).1 := q
  have fE : faD L c0 c1 c2 o i = ((L.getD (o i) (0, 0)).1 - corO c0 c1 c2 (fkO c0 c1 c2 (L.getD (o i) (0, 0)).1)) % 24 := rfl
  rw [fE] at hK
  generalize fkO c0 c1 c2 (L.getD (o i) (0, 0)).1 = f at *
  generalize (L.getD (o i) (0, 0)).1 = x at *
  generalize corO c0 c1 c2 f = y at *
  have s1 : (rI s 150 (o i) - rI s 171 f).toInt = x - y := by rw [i_sub (by rw [q, hcor]; omega), q, hcor]
  have s2 : (rI s 150 (o i) - rI s 171 f + 24).toInt = x - y + 24 := by rw [i_add (by rw [s1, e24]; omega), s1, e24]
  have er := i_rem (a := rI s 150 (o i) - rI s 171 f + 24) (b := 24) (by rw [s2]; omega) (by decide)
  rw [s2, e24] at er
  exact ⟨by omega, hK _ (by rw [er]; omega)⟩
/-- the other poles, as the reference has them -/
def mBu (M : Nat) (o : Nat → Nat) (s : hS) : Prop := rI s 145 41 = nI M ∧ ∀ i, i < M → rI s 172 i = nI (o i)
theorem mBu_fr {F : Nat → Nat → Prop} (h : mBu M o s) (hf : Fr F s s1) (h0 : ¬ F 145 41) (h1 : ∀ k, ¬ F 172 k) : mBu M o s1 := ⟨by rw [hf.i h0]; exact h.1, fun i hi => by rw [hf.i (h1 i)]; exact h.2 i hi⟩
theorem sm_has {set i : Nat} (hs : set < 2147483648) (hi : i < 31) {K : Int32 → hS → Prop} (h1 : set.testBit i = true → K 1 s) (h0 : set.testBit i = false → K 0 s) : pcI d 166 [.int (nI set), .int (nI i)] v s K := by
  refine st_M_has ?_
  rw [b_1 hs hi]
  exact ⟨h1, fun z => h0 (by cases hh : set.testBit i with | false => rfl | true => exact absurd hh z)⟩
theorem sm_inFork (hM : M ≤ 8) (hSC : sCo L c0 c1 c2 M o) (hm : mCo L c0 c1 c2 s) (hB : mBu M o s) {set f : Nat} (hs : set < 256) (hf : f ≤ 2) {K : Int32 → hS → Prop} (hK : K (nI (inF M (fkD L c0 c1 c2 o) set f)) s) : pcI (d + 1) 227 [.ref 145, .int (nI set), .int (nI f)] v s K := by
  have G : ∀ j i : Nat, i + j = M → pgI (d + 1) 227 4 [.ref 145, .int (nI set), .int (nI f), .int (nI (inF i (fkD L c0 c1 c2 o) set f)), .int (nI i)] [] v s K := by
    intro j
    induction j with
    | zero =>
      intro i hi
      refine st_M_inFork_4 ?_
      rw [show rI s 145 41 = nI M from hB.1, nI_toInt (by omega), nI_toInt (by omega)]
      refine ⟨fun z => absurd z (by omega), fun _ => ?_⟩
      rw [show i = M by omega]; exact hK
    | succ j ih =>
      intro i hi
      have h2 := ih (i + 1) (by omega)
      have e : inF (i + 1) (fkD L c0 c1 c2 o) set f = inF i (fkD L c0 c1 c2 o) set f + (if (set.testBit (0 + i) && decide (fkD L c0 c1 c2 o (0 + i) = f)) = true then 1 else 0) := rfl
      rw [Nat.zero_add] at e
      have q1 : nI i + 1 = nI (i + 1) := by rw [nI_1]
      obtain ⟨o1, o2, o3⟩ := hSC.2.2 i (by omega)
      have l16 := hSC.2.1
      have hle := fkO_le c0 c1 c2 (L.getD (o i) (0, 0)).1
      have fE : fkD L c0 c1 c2 o i = fkO c0 c1 c2 (L.getD (o i) (0, 0)).1 := rfl
      have hoi : rI s 172 i = nI (o i) := hB.2 i (by omega)
      have Z0 : (set.testBit i && decide (fkD L c0 c1 c2 o i = f)) = false → pcI d 161 [.int 0] v s (fun w4 s4 => pgI (d + 1) 227 4 [.ref 145, .int (nI set), .int (nI f), .int (nI (inF i (fkD L c0 c1 c2 o) set f) + w4), .int (nI (i + 1))] [] v s4 K) := fun z => sm_one (fun _ => by
        rw [z, if_neg (by decide), Nat.add_zero] at e
        rw [e] at h2; rw [i_a0]; exact h2) (fun z => absurd rfl z)
      have Z1 : (set.testBit i && decide (fkD L c0 c1 c2 o i = f)) = true → pcI d 161 [.int 1] v s (fun w4 s4 => pgI (d + 1) 227 4 [.ref 145, .int (nI set), .int (nI f), .int (nI (inF i (fkD L c0 c1 c2 o) set f) + w4), .int (nI (i + 1))] [] v s4 K) := fun z => sm_one (fun z => absurd z (by decide)) (fun _ => by
        rw [z, if_pos rfl] at e
        rw [e] at h2
        rw [nI_1]; exact h2)
      refine st_M_inFork_4 ?_
      rw [show rI s 145 41 = nI M from hB.1, nI_toInt (show i < 2147483648 by omega), nI_toInt (show M < 2147483648 by omega), Int.toNat_natCast, q1]
      refine ⟨fun _ => sm_has (by omega) (by omega) (fun t => ⟨fun z => absurd z (by decide), fun _ => ⟨by omega, ?_⟩⟩) (fun t => ⟨fun _ => Z0 (by rw [t]; rfl), fun z => absurd rfl z⟩), fun z => absurd (by omega) z⟩
      rw [hoi]
      refine sm_forkOf1 o1 l16 hSC.1 o3 hm ?_
      rw [nI_toInt (by omega), nI_toInt (show f < 2147483648 by omega)]
      exact ⟨fun z => Z1 (by rw [t, fE]; exact decide_eq_true (by omega)), fun z => Z0 (by rw [t, fE]; exact decide_eq_false (by omega))⟩
  exact st_M_inFork (G M 0 (by omega))
theorem sm_costOf (hM : M ≤ 8) (hSC : sCo L c0 c1 c2 M o) (hm : mCo L c0 c1 c2 s) (hB : mBu M o s) {set i0 : Nat} (hs : set < 2 ^ M) (hi0 : i0 < M) {K : Int32 → hS → Prop} (hK : ∀ w : Int32, w.toInt = coF M (fkD L c0 c1 c2 o) (faD L c0 c1 c2 o) set i0 → K w s) : pcI (d + 2) 225 [.ref 145, .int (nI set), .int (nI i0)] v s K := by
  have hp := pw8 hM
  have hs2 := or_lt hs hi0
  have e0 : Int32.toInt 0 = 0 := rfl
  have e1 : Int32.toInt 1 = 1 := rfl
  have eF : Int32.toInt 1000000 = 1000000 := rfl
  have l16 := hSC.2.1
  obtain ⟨u1, u2, u3⟩ := hSC.2.2 i0 hi0
  have hle0 := fkO_le c0 c1 c2 (L.getD (o i0) (0, 0)).1
  have fE0 : fkD L c0 c1 c2 o i0 = fkO c0 c1 c2 (L.getD (o i0) (0, 0)).1 := rfl
  have hoi0 : rI s 172 i0 = nI (o i0) := hB.2 i0 hi0
  -- the forks
  have T3 : ∀ (xc : Nat) (z3 z8 : Value), xc ≤ 8 → (∀ w : Int32, w.toInt = xc + spF (inF M (fkD L c0 c1 c2 o) (set ||| 2 ^ i0) 0) (inF M (fkD L c0 c1 c2 o) (set ||| 2 ^ i0) 1) (inF M (fkD L c0 c1 c2 o) (set ||| 2 ^ i0) 2) → K w s) → pgI (d + 2) 225 52 [.ref 145, .int (nI set), .int (nI i0), z3, .int (nI xc), .int 0, .int 1000000, .int 0, z8] [] v s K := by
    intro xc z3 z8 hxc hK
    have b0 := inF_b (fkD L c0 c1 c2 o) (set ||| 2 ^ i0) 0 M
    have b1 := inF_b (fkD L c0 c1 c2 o) (set ||| 2 ^ i0) 1 M
    have b2 := inF_b (fkD L c0 c1 c2 o) (set ||| 2 ^ i0) 2 M
    have S : ∀ (f : Nat) (x5 x6 : Int32) (z8 : Value), f < 3 → (∀ (y5 y6 : Int32) z8, y5.toInt = mx2 x5.toInt (inF M (fkD L c0 c1 c2 o) (set ||| 2 ^ i0) f) → y6.toInt = mn2 x6.toInt (inF M (fkD L c0 c1 c2 o) (set ||| 2 ^ i0) f) → pgI (d + 2) 225 52 [.ref 145, .int (nI set), .int (nI i0), z3, .int (nI xc), .int y5, .int y6, .int (nI (f + 1)), z8] [] v s K) → pgI (d + 2) 225 52 [.ref 145, .int (nI set), .int (nI i0), z3, .int (nI xc), .int x5, .int x6, .int (nI f), z8] [] v s K := by
      intro f x5 x6 z8 hf hn
      have q1 : nI f + 1 = nI (f + 1) := by rw [nI_1]
      have bf := inF_b (fkD L c0 c1 c2 o) (set ||| 2 ^ i0) f M
      refine st_M_costOf_52 ⟨fun _ => ?_, fun z => absurd (by rw [nI_toInt (by omega)]; omega) z⟩
      rw [b_or (by omega) (by omega), q1]
      refine sm_inFork hM hSC hm hB (by omega) (by omega) ?_
      have ex : (nI (inF M (fkD L c0 c1 c2 o) (set ||| 2 ^ i0) f)).toInt = inF M (fkD L c0 c1 c2 o) (set ||| 2 ^ i0) f := nI_toInt (by omega)
      refine ⟨fun y1 => ⟨fun y2 => hn _ _ _ ?_ ?_, fun y2 => hn _ _ _ ?_ ?_⟩, fun y1 => ⟨fun y2 => hn _ _ _ ?_ ?_, fun y2 => hn _ _ _ ?_ ?_⟩⟩
      · rw [ex] at y1 ⊢; rw [mx2, if_pos y1]
      · rw [ex] at y2 ⊢; rw [mn2, if_pos y2]
      · rw [ex] at y1 ⊢; rw [mx2, if_pos y1]
      · rw [ex] at y2; rw [mn2, if_neg y2]
      · rw [ex] at y1; rw [mx2, if_neg y1]
      · rw [ex] at y2 ⊢; rw [mn2, if_pos y2]
      · rw [ex] at y1; rw [mx2, if_neg y1]
      · rw [ex] at y2; rw [mn2, if_neg y2]
    refine S 0 0 1000000 z8 (by decide) (fun m1 n1 z8 p1 r1 => S 1 m1 n1 z8 (by decide) (fun m2 n2 z8 p2 r2 => S 2 m2 n2 z8 (by decide) (fun m3 n3 z8 p3 r3 => ?_)))
    rw [e0] at p1
    rw [eF] at r1
    rw [p1] at p2; rw [r1] at r2; rw [p2] at p3; rw [r2] at r3
    generalize inF M (fkD L c0 c1 c2 o) (set ||| 2 ^ i0) 0 = x0 at *
    generalize inF M (fkD L c0 c1 c2 o) (set ||| 2 ^ i0) 1 = x1 at *
    generalize inF M (fkD L c0 c1 c2 o) (set ||| 2 ^ i0) 2 = x2 at *
    have bb : (0 ≤ m3.toInt ∧ m3.toInt ≤ 8) ∧ (0 ≤ n3.toInt ∧ n3.toInt ≤ 8) ∧ (m3.toInt = mx2 (x0 : Int) (mx2 x1 x2)) ∧ n3.toInt = mn2 (x0 : Int) (mn2 x1 x2) := by
      rw [p3, r3]
      unfold mx2 mn2
      refine ⟨?_, ?_, ?_, ?_⟩
      all_goals repeat' split
      all_goals omega
    obtain ⟨bb1, bb2, bb3, bb4⟩ := bb
    clear p1 p2 p3 r1 r2 r3
    have s1 : (m3 - n3).toInt = m3.toInt - n3.toInt := i_sub (by omega)
    have ec : (nI xc).toInt = xc := nI_toInt (by omega)
    refine st_M_costOf_52 ⟨fun z => absurd z (by decide), fun _ => ?_⟩
    rw [s1]
    refine ⟨fun y => hK _ ?_, fun y => hK _ ?_⟩
    · have s2 : (m3 - n3 - 1).toInt = m3.toInt - n3.toInt - 1 := by rw [i_sub (by rw [s1, e1]; omega), s1, e1]
      rw [i_add (by rw [ec, s2]; omega), ec, s2]
      unfold spF
      rw [← bb3, ← bb4, mx2, if_pos (by omega)]
    · rw [i_a0, ec]
      unfold spF
      rw [← bb3, ← bb4, mx2]
      split <;> omega
  have G : ∀ j i : Nat, i + j = M → ∀ z6 z7 z8 : Value, pgI (d + 2) 225 9 [.ref 145, .int (nI set), .int (nI i0), .int (nI (o i0)), .int (nI (cn (fun j => set.testBit j && (decide (fkD L c0 c1 c2 o j = fkD L c0 c1 c2 o i0) && decide (faD L c0 c1 c2 o i0 < faD L c0 c1 c2 o j))) 0 i)), .int (nI i), z6, z7, z8] [] v s K := by
    intro j
    induction j with
    | zero =>
      intro i hi z6 z7 z8
      refine st_M_costOf_9 ?_
      rw [show rI s 145 41 = nI M from hB.1, nI_toInt (show i < 2147483648 by omega), nI_toInt (show M < 2147483648 by omega)]
      refine ⟨fun z => absurd z (by omega), fun _ => T3 _ _ _ (by have := cn_le (fun j => set.testBit j && (decide (fkD L c0 c1 c2 o j = fkD L c0 c1 c2 o i0) && decide (faD L c0 c1 c2 o i0 < faD L c0 c1 c2 o j))) 0 i; omega) (fun w hw => hK w ?_)⟩
      rw [hw, show i = M by omega]; rfl
    | succ j ih =>
      intro i hi z6 z7 z8
      have h2 := ih (i + 1) (by omega) z6 z7 z8
      have e : cn (fun j => set.testBit j && (decide (fkD L c0 c1 c2 o j = fkD L c0 c1 c2 o i0) && decide (faD L c0 c1 c2 o i0 < faD L c0 c1 c2 o j))) 0 (i + 1) = cn (fun j => set.testBit j && (decide (fkD L c0 c1 c2 o j = fkD L c0 c1 c2 o i0) && decide (faD L c0 c1 c2 o i0 < faD L c0 c1 c2 o j))) 0 i + (if (set.testBit (0 + i) && (decide (fkD L c0 c1 c2 o (0 + i) = fkD L c0 c1 c2 o i0) && decide (faD L c0 c1 c2 o i0 < faD L c0 c1 c2 o (0 + i)))) = true then 1 else 0) := rfl
      rw [Nat.zero_add] at e
      have q1 : nI i + 1 = nI (i + 1) := by rw [nI_1]
      obtain ⟨o1, o2, o3⟩ := hSC.2.2 i (by omega)
      have hle := fkO_le c0 c1 c2 (L.getD (o i) (0, 0)).1
      have fE : fkD L c0 c1 c2 o i = fkO c0 c1 c2 (L.getD (o i) (0, 0)).1 := rfl
      have hoi : rI s 172 i = nI (o i) := hB.2 i (by omega)
      generalize cn (fun j => set.testBit j && (decide (fkD L c0 c1 c2 o j = fkD L c0 c1 c2 o i0) && decide (faD L c0 c1 c2 o i0 < faD L c0 c1 c2 o j))) 0 i = X at *
      have Z0 : (set.testBit i && (decide (fkD L c0 c1 c2 o i = fkD L c0 c1 c2 o i0) && decide (faD L c0 c1 c2 o i0 < faD L c0 c1 c2 o i))) = false → pcI (d + 1) 161 [.int 0] v s (fun w4 s4 => pgI (d + 2) 225 9 [.ref 145, .int (nI set), .int (nI i0), .int (nI (o i0)), .int (nI X + w4), .int (nI (i + 1)), z6, z7, z8] [] v s4 K) := fun z => sm_one (fun _ => by
        rw [z, if_neg (by decide), Nat.add_zero] at e
        rw [e] at h2; rw [i_a0]; exact h2) (fun z => absurd rfl z)
      have Z1 : (set.testBit i && (decide (fkD L c0 c1 c2 o i = fkD L c0 c1 c2 o i0) && decide (faD L c0 c1 c2 o i0 < faD L c0 c1 c2 o i))) = true → pcI (d + 1) 161 [.int 1] v s (fun w4 s4 => pgI (d + 2) 225 9 [.ref 145, .int (nI set), .int (nI i0), .int (nI (o i0)), .int (nI X + w4), .int (nI (i + 1)), z6, z7, z8] [] v s4 K) := fun z => sm_one (fun z => absurd z (by decide)) (fun _ => by
        rw [z, if_pos rfl] at e
        rw [e] at h2
        rw [nI_1]; exact h2)
      refine st_M_costOf_9 ?_
      rw [show rI s 145 41 = nI M from hB.1, nI_toInt (show i < 2147483648 by omega), nI_toInt (show M < 2147483648 by omega), Int.toNat_natCast, q1]
      refine ⟨fun _ => sm_has (by omega) (by omega) (fun t => ⟨fun z => absurd z (by decide), fun _ => ⟨by omega, ?_⟩⟩) (fun t => ⟨fun _ => Z0 (by rw [t]; rfl), fun z => absurd rfl z⟩), fun z => absurd (by omega) z⟩
      rw [hoi]
      refine sm_forkOf1 o1 l16 hSC.1 o3 hm (sm_forkOf1 u1 l16 hSC.1 u3 hm ?_)
      rw [nI_toInt (show fkO c0 c1 c2 (L.getD (o i) (0, 0)).1 < 2147483648 by omega), nI_toInt (show fkO c0 c1 c2 (L.getD (o i0) (0, 0)).1 < 2147483648 by omega)]
      refine ⟨fun z => ⟨by omega, ?_⟩, fun z => Z0 (by rw [t, fE, fE0, decide_eq_false (by omega)]; rfl)⟩
      rw [hoi]
      refine sm_fartherBy hSC hm (by omega) (fun w8 hw8 => sm_fartherBy hSC hm hi0 (fun w9 hw9 => ?_))
      rw [hw8, hw9]
      exact ⟨fun y => Z1 (by rw [t, fE, fE0, decide_eq_true (show _ = _ by omega), decide_eq_true y]; rfl), fun y => Z0 (by rw [t, fE, fE0, decide_eq_true (show _ = _ by omega), decide_eq_false y]; rfl)⟩
  refine st_M_costOf ?_
  rw [nI_toInt (show i0 < 2147483648 by omega), Int.toNat_natCast, hoi0]
  exact ⟨by omega, G M 0 (by omega) _ _ _⟩
end
