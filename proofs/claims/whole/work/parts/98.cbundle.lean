/-! THE BUNDLE, in the class -/
theorem sN_n {n : Nat} (h : n < 2147483648) : sN (nI n) = n := by unfold sN; rw [nI_toInt h]; exact Int.toNat_natCast n
theorem b_t {set i : Nat} (hs : set < 2147483648) (hi : i < 31) : ((nI set >>> (nI i &&& 31)) &&& 1).toInt = if set.testBit i = true then 1 else 0 := by
  have e := i_bit (x := nI set) (m := nI i) (by rw [nI_toInt hs]; omega) (by rw [nI_toInt (by omega)]; omega)
  rw [sN_n hs, nI_toInt (by omega), Int.toNat_natCast] at e
  exact e
theorem b_0 {set i : Nat} (hs : set < 2147483648) (hi : i < 31) : (((nI set >>> (nI i &&& 31)) &&& 1).toInt = 0) ↔ set.testBit i = false := by
  rw [b_t hs hi]
  cases set.testBit i <;> decide
theorem b_1 {set i : Nat} (hs : set < 2147483648) (hi : i < 31) : (((nI set >>> (nI i &&& 31)) &&& 1).toInt = 1) ↔ set.testBit i = true := by
  rw [b_t hs hi]
  cases set.testBit i <;> decide
theorem b_or {set i : Nat} (hs : set < 2147483648) (hi : i < 31) : nI set ||| ((1 : Int32) <<< (nI i &&& 31)) = nI (set ||| 2 ^ i) := by
  have e := sN_or (x := nI set) (m := nI i) (by rw [nI_toInt hs]; omega) (by rw [nI_toInt (by omega)]; omega)
  rw [sN_n hs, nI_toInt (by omega), Int.toNat_natCast] at e
  exact e
theorem b_sh {i : Nat} (hi : i < 31) : ((1 : Int32) <<< (nI i &&& 31)) = nI (2 ^ i) := by
  have e := i_shl1n (m := nI i) (by rw [nI_toInt (by omega)]; omega)
  rw [nI_toInt (by omega), Int.toNat_natCast] at e
  exact e
def lgP (a b c p : Nat) : Bool := decide (p = a) || (decide (p = b) || decide (p = c))
def oL (a b c : Nat) : Nat → List Nat
  | 0 => []
  | n + 1 => if lgP a b c n = true then oL a b c n else oL a b c n ++ [n]
theorem oL_len (a b c : Nat) : ∀ n, (oL a b c n).length ≤ n := by
  intro n
  induction n with
  | zero => exact Nat.le_refl _
  | succ n ih =>
    show (if lgP a b c n = true then oL a b c n else oL a b c n ++ [n]).length ≤ n + 1
    split
    · omega
    · rw [List.length_append]; show _ + 1 ≤ _; omega
theorem oL_get (a b c : Nat) : ∀ n i, i < (oL a b c n).length → (oL a b c n).getD i 0 < n ∧ lgP a b c ((oL a b c n).getD i 0) = false := by
  intro n
  induction n with
  | zero => intro i h; exact absurd h (Nat.not_lt_zero i)
  | succ n ih =>
    intro i h
    have e : oL a b c (n + 1) = if lgP a b c n = true then oL a b c n else oL a b c n ++ [n] := rfl
    cases hl : lgP a b c n with
    | true =>
      rw [hl, if_pos rfl] at e
      rw [e] at h ⊢
      have := ih i h
      exact ⟨by omega, this.2⟩
    | false =>
      rw [hl, if_neg (by decide)] at e
      rw [e] at h ⊢
      rw [List.length_append] at h
      have h : i < (oL a b c n).length + 1 := h
      rw [getD_app h]
      split
      · exact ⟨by omega, hl⟩
      · have := ih i (by omega); exact ⟨by omega, this.2⟩
def fkO (c0 c1 c2 v : Int) : Nat := if v < c0 then 2 else if c2 < v then 2 else if v < c1 then 0 else 1
def corO (c0 c1 c2 : Int) (f : Nat) : Int := if f = 0 then c0 else if f = 1 then c1 else c2
theorem fkO_le (c0 c1 c2 v : Int) : fkO c0 c1 c2 v ≤ 2 := by
  unfold fkO
  repeat' split
  all_goals omega
theorem corO_b {c0 c1 c2 : Int} (hc : (0 ≤ c0 ∧ c0 ≤ 23) ∧ (0 ≤ c1 ∧ c1 ≤ 23) ∧ (0 ≤ c2 ∧ c2 ≤ 23)) (f : Nat) : 0 ≤ corO c0 c1 c2 f ∧ corO c0 c1 c2 f ≤ 23 := by
  unfold corO
  repeat' split
  all_goals omega
def fBu (c k : Nat) : Prop := 117 ≤ c ∧ c ≤ 124
section
variable {d : Nat} {v : hV} {s s1 : hS} {r a b c : Nat} {c0 c1 c2 : Int} {L : rgL} {M : Nat} {fk : Nat → Nat} {fa : Nat → Int} {o : Nat → Nat}
/-- the legs and where the forks begin -/
def lgS (a b c : Nat) (c0 c1 c2 : Int) (s : hS) : Prop := rI s 118 0 = nI a ∧ rI s 118 1 = nI b ∧ rI s 118 2 = nI c ∧ (rI s 119 0).toInt = c0 ∧ (rI s 119 1).toInt = c1 ∧ (rI s 119 2).toInt = c2
theorem sp_forkOf (hr : kR r) (hd : dR r s L) (hl : lgS a b c c0 c1 c2 s) (hb : a < 16 ∧ b < 16 ∧ c < 16) {p : Nat} (hp : p < L.length) {K : Int32 → hS → Prop} (h1 : lgP a b c p = true → K (-1) s) (h2 : lgP a b c p = false → K (nI (fkO c0 c1 c2 (L.getD p (0, 0)).1)) s) : pcI d 123 [.ref 117, .ref r, .int (nI p)] v s K := by
  obtain ⟨l0, l1, l2, b0, b1, b2⟩ := hl
  have hp16 := hd.2.1
  have q := (hd.2.2 p hp).1
  refine st_Bundle_forkOf hr ?_
  rw [l0, l1, l2, b0, b1, b2, nI_toInt (by omega), nI_toInt (by omega), nI_toInt (by omega), nI_toInt (by omega), Int.toNat_natCast, q]
  have T : (p = a ∨ p = b ∨ p = c) → lgP a b c p = true := fun z => by
    unfold lgP; rw [Bool.or_eq_true, Bool.or_eq_true, decide_eq_true_iff, decide_eq_true_iff, decide_eq_true_iff]; exact z
  refine ⟨fun z => h1 (T (by omega)), fun z1 => ⟨fun z => h1 (T (by omega)), fun z2 => ⟨fun z => h1 (T (by omega)), fun z3 => ⟨by omega, ?_⟩⟩⟩⟩
  have hF : lgP a b c p = false := by
    cases hh : lgP a b c p with
    | false => rfl
    | true =>
      unfold lgP at hh; rw [Bool.or_eq_true, Bool.or_eq_true, decide_eq_true_iff, decide_eq_true_iff, decide_eq_true_iff] at hh
      omega
  have h2 := h2 hF
  unfold fkO at h2
  refine ⟨fun z => ?_, fun z => ⟨fun y => ?_, fun y => ⟨fun x => ?_, fun x => ?_⟩⟩⟩
  · rw [if_pos z] at h2; exact h2
  · rw [if_neg z, if_pos y] at h2; exact h2
  · rw [if_neg z, if_neg y, if_pos x] at h2; exact h2
  · rw [if_neg z, if_neg y, if_neg x] at h2; exact h2
/-- the other poles, as the class has them -/
def cBu (M : Nat) (o fk : Nat → Nat) (fa : Nat → Int) (s : hS) : Prop := rI s 117 3 = nI M ∧ ∀ i, i < M → i < 8 → rI s 120 i = nI (o i) ∧ rI s 121 i = nI (fk i) ∧ (rI s 122 i).toInt = fa i
theorem cBu_fr {F : Nat → Nat → Prop} (h : cBu M o fk fa s) (hf : Fr F s s1) (h0 : ¬ F 117 3) (h1 : ∀ k, ¬ F 120 k ∧ ¬ F 121 k ∧ ¬ F 122 k) : cBu M o fk fa s1 := by
  refine ⟨by rw [hf.i h0]; exact h.1, fun i hi h8 => ?_⟩
  rw [hf.i (h1 i).1, hf.i (h1 i).2.1, hf.i (h1 i).2.2]; exact h.2 i hi h8
def fkD (L : rgL) (c0 c1 c2 : Int) (o : Nat → Nat) (i : Nat) : Nat := fkO c0 c1 c2 (L.getD (o i) (0, 0)).1
def faD (L : rgL) (c0 c1 c2 : Int) (o : Nat → Nat) (i : Nat) : Int := ((L.getD (o i) (0, 0)).1 - corO c0 c1 c2 (fkD L c0 c1 c2 o i)) % 24
def oD (a b c n i : Nat) : Nat := (oL a b c n).getD i 0
theorem sp_gather (hr : kR r) (hd : dR r s L) (hg : rgOK L) (hl : lgS a b c c0 c1 c2 s) (hb : a < 16 ∧ b < 16 ∧ c < 16) (hc : (0 ≤ c0 ∧ c0 ≤ 23) ∧ (0 ≤ c1 ∧ c1 ≤ 23) ∧ (0 ≤ c2 ∧ c2 ≤ 23)) {K : hS → Prop} (hK : ∀ s2, Fr (fun c k => (c = 117 ∧ k = 3) ∨ c = 120 ∨ c = 121 ∨ c = 122) s s2 → cBu (oL a b c L.length).length (oD a b c L.length) (fkD L c0 c1 c2 (oD a b c L.length)) (faD L c0 c1 c2 (oD a b c L.length)) s2 → K s2) : pcV (d + 1) 122 [.ref 117, .ref r] v s K := by
  have e1 : Int32.toInt 1 = 1 := rfl
  have hp16 := hd.2.1
  have hrr : 54 ≤ r ∧ r ≤ 75 := by unfold kR at hr; omega
  have G : ∀ j p : Nat, p + j = L.length → ∀ (s1 : hS) (z : Value), Fr (fun c k => (c = 117 ∧ k = 3) ∨ c = 120 ∨ c = 121 ∨ c = 122) s s1 → cBu (oL a b c p).length (oD a b c p) (fkD L c0 c1 c2 (oD a b c p)) (faD L c0 c1 c2 (oD a b c p)) s1 → pgV (d + 1) 122 5 [.ref 117, .ref r, .int (nI p), z] [] v s1 K := by
    intro j
    induction j with
    | zero =>
      intro p hp s1 z hf hq
      have hp : p = L.length := by omega
      have d1 : dR r s1 L := dR_rs hd hf (by omega) (fun k => by omega) (fun k => by omega)
      refine st_Bundle_gatherOthers_5 hr ?_
      rw [show rI s1 r 2 = nI L.length from d1.1, nI_toInt (by omega), nI_toInt (by omega)]
      refine ⟨fun z => absurd z (by omega), fun _ => hK s1 hf ?_⟩
      rw [hp] at hq; exact hq
    | succ j ih =>
      intro p hp s1 z hf hq
      have hpL : p < L.length := by omega
      have d1 : dR r s1 L := dR_rs hd hf (by omega) (fun k => by omega) (fun k => by omega)
      have l1 : lgS a b c c0 c1 c2 s1 := by
        unfold lgS; rw [hf.i (by omega), hf.i (by omega), hf.i (by omega), hf.i (by omega), hf.i (by omega), hf.i (by omega)]; exact hl
      have hlen := oL_len a b c p
      have eo : oL a b c (p + 1) = if lgP a b c p = true then oL a b c p else oL a b c p ++ [p] := rfl
      have qp := (d1.2.2 p hpL).1
      have pb := (rg_get hg hpL).1
      refine st_Bundle_gatherOthers_5 hr ?_
      rw [show rI s1 r 2 = nI L.length from d1.1, nI_toInt (by omega), nI_toInt (show L.length < 2147483648 by omega), Int.toNat_natCast, nI_1]
      refine ⟨fun _ => sp_forkOf hr d1 l1 hb hpL (fun hh => ⟨fun _ => ?_, fun z => absurd rfl z⟩) (fun hh => ⟨fun z => absurd z ?_, fun _ => ?_⟩), fun z => absurd (by omega) z⟩
      · rw [hh, if_pos rfl] at eo
        refine ih (p + 1) (by omega) s1 _ hf ?_
        have e2 : oD a b c (p + 1) = oD a b c p := by funext i; unfold oD; rw [eo]
        rw [eo, e2]; exact hq
      · have := fkO_le c0 c1 c2 (L.getD p (0, 0)).1
        rw [nI_toInt (by omega)]; have : Int32.toInt (-1) = -1 := rfl; omega
      · rw [hh, if_neg (by decide)] at eo
        have hfk := fkO_le c0 c1 c2 (L.getD p (0, 0)).1
        have hfo : rI s1 117 3 = nI (oL a b c p).length := hq.1
        generalize hN : (oL a b c p).length = N at *
        have eN : (nI N).toInt = N := nI_toInt (by omega)
        have ef : (nI (fkO c0 c1 c2 (L.getD p (0, 0)).1)).toInt = fkO c0 c1 c2 (L.getD p (0, 0)).1 := nI_toInt (by omega)
        have NX : ∀ s2 : hS, Fr (fun c k => (c = 117 ∧ k = 3) ∨ c = 120 ∨ c = 121 ∨ c = 122) s1 s2 → rI s2 117 3 = nI (N + 1) → (∀ i, i < N → i < 8 → rI s2 120 i = rI s1 120 i ∧ rI s2 121 i = rI s1 121 i ∧ rI s2 122 i = rI s1 122 i) → (N < 8 → rI s2 120 N = nI p ∧ rI s2 121 N = nI (fkO c0 c1 c2 (L.getD p (0, 0)).1) ∧ (rI s2 122 N).toInt = ((L.getD p (0, 0)).1 - corO c0 c1 c2 (fkO c0 c1 c2 (L.getD p (0, 0)).1)) % 24) → ∀ z, pgV (d + 1) 122 5 [.ref 117, .ref r, .int (nI (p + 1)), z] [] v s2 K := by
          intro s2 f2 h0 h1 h2 z
          refine ih (p + 1) (by omega) s2 z (hf.tr f2) ?_
          have hl2 : (oL a b c (p + 1)).length = N + 1 := by rw [eo, List.length_append, hN]; rfl
          rw [hl2]
          refine ⟨h0, fun i hi h8 => ?_⟩
          have hg : oD a b c (p + 1) i = if i = N then p else oD a b c p i := by
            unfold oD; rw [eo, getD_app (by omega), hN]
          by_cases ci : i = N
          · rw [if_pos ci] at hg
            unfold faD fkD
            rw [hg, ci]; exact h2 (by omega)
          · rw [if_neg ci] at hg
            obtain ⟨g1, g2, g3⟩ := h1 i (by omega) h8
            have := hq.2 i (by omega) h8
            unfold faD fkD at this ⊢
            rw [hg, g1, g2, g3]; exact this
        rw [hfo, eN, Int.toNat_natCast, ef, Int.toNat_natCast]
        refine ⟨fun c8 => ⟨by omega, by omega, by omega, by omega, ?_⟩, fun c8 => ?_⟩
        · have hcor : (rI s1 119 (fkO c0 c1 c2 (L.getD p (0, 0)).1)).toInt = corO c0 c1 c2 (fkO c0 c1 c2 (L.getD p (0, 0)).1) := by
            obtain ⟨_, _, _, b0, b1, b2⟩ := l1
            unfold corO
            have : fkO c0 c1 c2 (L.getD p (0, 0)).1 = 0 ∨ fkO c0 c1 c2 (L.getD p (0, 0)).1 = 1 ∨ fkO c0 c1 c2 (L.getD p (0, 0)).1 = 2 := by omega
            rcases this with h | h | h <;> rw [h]
            · exact b0
            · exact b1
            · exact b2
          have hcb := corO_b hc (fkO c0 c1 c2 (L.getD p (0, 0)).1)
          have es : (rI s1 (r + 1) p - rI s1 119 (fkO c0 c1 c2 (L.getD p (0, 0)).1)).toInt = (L.getD p (0, 0)).1 - corO c0 c1 c2 (fkO c0 c1 c2 (L.getD p (0, 0)).1) := by rw [i_sub (by rw [qp, hcor]; omega), qp, hcor]
          refine sp_floor24 (by rw [es]; omega) (fun w5 hw5 => ⟨by omega, ?_⟩)
          rw [es] at hw5
          refine NX _ ((((Fr.rf _ s1).sI (Or.inr (Or.inl rfl))).sI (Or.inr (Or.inr (Or.inl rfl)))).sI (Or.inr (Or.inr (Or.inr rfl))) |>.sI (Or.inl ⟨rfl, rfl⟩)) ?_ (fun i hi h8 => ?_) (fun h8 => ?_) _
          · simp only [r_II, r_LL, r_LI, r_IL, r_IC, r_LC, r_ICL, r_LCI, Nat.reduceEqDiff, false_and, and_false, true_and, and_true, and_self, ↓reduceIte]; rw [hfo, nI_1]
          · simp only [r_II, r_LL, r_LI, r_IL, r_IC, r_LC, r_ICL, r_LCI, Nat.reduceEqDiff, false_and, and_false, true_and, and_true, and_self, ↓reduceIte]
            rw [if_neg (by omega), if_neg (by omega), if_neg (by omega)]; exact ⟨rfl, rfl, rfl⟩
          · simp only [r_II, r_LL, r_LI, r_IL, r_IC, r_LC, r_ICL, r_LCI, Nat.reduceEqDiff, false_and, and_false, true_and, and_true, and_self, ↓reduceIte]
            exact hw5
        · rw [nI_1]
          refine NX _ ((Fr.rf _ s1).sI (Or.inl ⟨rfl, rfl⟩)) ?_ (fun i hi h8 => ?_) (fun h8 => absurd (by omega) c8) _
          · rw [r_II, if_pos ⟨rfl, rfl⟩]
          · rw [r_II, if_neg (by omega), r_II, if_neg (by omega), r_II, if_neg (by omega)]; exact ⟨rfl, rfl, rfl⟩
  refine st_Bundle_gatherOthers hr (G L.length 0 (by omega) _ _ ((Fr.rf _ s).sI (Or.inl ⟨rfl, rfl⟩)) ⟨by rw [r_II, if_pos ⟨rfl, rfl⟩]; rfl, fun i hi => absurd hi (Nat.not_lt_zero i)⟩)
theorem sp_manyIn (hM : M ≤ 8) (hB : cBu M o fk fa s) (hfk : ∀ i, fk i ≤ 2) {set f : Nat} (hs : set < 256) (hf : f ≤ 2) {K : Int32 → hS → Prop} (hK : K (nI (inF M fk set f)) s) : pcI d 126 [.ref 117, .int (nI set), .int (nI f)] v s K := by
  have G : ∀ j i : Nat, i + j = M → pgI d 126 4 [.ref 117, .int (nI set), .int (nI f), .int (nI (inF i fk set f)), .int (nI i)] [] v s K := by
    intro j
    induction j with
    | zero =>
      intro i hi
      refine st_Bundle_manyIn_4 ?_
      rw [show rI s 117 3 = nI M from hB.1, nI_toInt (by omega), nI_toInt (by omega)]
      refine ⟨fun z => absurd z (by omega), fun _ => ?_⟩
      rw [show i = M by omega]; exact hK
    | succ j ih =>
      intro i hi
      have hfi := hfk i
      have h2 := ih (i + 1) (by omega)
      have e : inF (i + 1) fk set f = inF i fk set f + (if (set.testBit (0 + i) && decide (fk (0 + i) = f)) = true then 1 else 0) := rfl
      rw [Nat.zero_add] at e
      have q1 : nI i + 1 = nI (i + 1) := by rw [nI_1]
      have q2 : nI (inF i fk set f) + 1 = nI (inF i fk set f + 1) := by rw [nI_1]
      refine st_Bundle_manyIn_4 ?_
      rw [show rI s 117 3 = nI M from hB.1, b_0 (by omega) (by omega), nI_toInt (show i < 2147483648 by omega), nI_toInt (show M < 2147483648 by omega), Int.toNat_natCast, q1, q2]
      have hi8 : i < 8 := by omega
      obtain ⟨_, g2, _⟩ := hB.2 i (by omega) hi8
      have g2 : rI s 121 i = nI (fk i) := g2
      rw [g2, nI_toInt (show fk i < 2147483648 by omega), nI_toInt (show f < 2147483648 by omega)]
      refine ⟨fun _ => ⟨fun c => ?_, fun c => ⟨by omega, fun c2 => ?_, fun c2 => ?_⟩⟩, fun z => absurd (by omega) z⟩
      · rw [c, Bool.false_and, if_neg (by decide), Nat.add_zero] at e
        rw [e] at h2; exact h2
      · have c : set.testBit i = true := by cases hh : set.testBit i with | true => rfl | false => exact absurd hh c
        rw [c, Bool.true_and, if_pos (decide_eq_true (by omega))] at e
        rw [e] at h2; exact h2
      · have c : set.testBit i = true := by cases hh : set.testBit i with | true => rfl | false => exact absurd hh c
        rw [c, Bool.true_and, if_neg (by rw [decide_eq_true_iff]; omega), Nat.add_zero] at e
        rw [e] at h2; exact h2
  exact st_Bundle_manyIn (G M 0 (by omega))
theorem inF_b (fk : Nat → Nat) (set f : Nat) (M : Nat) : inF M fk set f ≤ M := cn_le _ _ _
theorem sp_costOf (hM : M ≤ 8) (hB : cBu M o fk fa s) (hfk : ∀ i, fk i ≤ 2) {set i0 : Nat} (hs : set < 2 ^ M) (hi0 : i0 < M) {K : Int32 → hS → Prop} (hK : ∀ w : Int32, w.toInt = coF M fk fa set i0 → K w s) : pcI (d + 1) 125 [.ref 117, .int (nI set), .int (nI i0)] v s K := by
  have hp := pw8 hM
  have hs2 := or_lt hs hi0
  have e0 : Int32.toInt 0 = 0 := rfl
  have e1 : Int32.toInt 1 = 1 := rfl
  obtain ⟨_, k2, k3⟩ := hB.2 i0 hi0 (by omega)
  have k2 : rI s 121 i0 = nI (fk i0) := k2
  have k3 : (rI s 122 i0).toInt = fa i0 := k3
  have hfi0 := hfk i0
  have G : ∀ j i : Nat, i + j = M → ∀ z5 z6 z7 z8 z9 : Value, pgI (d + 1) 125 4 [.ref 117, .int (nI set), .int (nI i0), .int (nI (cn (fun j => set.testBit j && (decide (fk j = fk i0) && decide (fa i0 < fa j))) 0 i)), .int (nI i), z5, z6, z7, z8, z9] [] v s K := by
    intro j
    induction j with
    | zero =>
      intro i hi z5 z6 z7 z8 z9
      refine st_Bundle_costOf_4 ?_
      rw [show rI s 117 3 = nI M from hB.1, nI_toInt (show i < 2147483648 by omega), nI_toInt (show M < 2147483648 by omega), b_or (by omega) (by omega), show i = M by omega]
      have b0 := inF_b fk (set ||| 2 ^ i0) 0 M
      have b1 := inF_b fk (set ||| 2 ^ i0) 1 M
      have b2 := inF_b fk (set ||| 2 ^ i0) 2 M
      have bc := cn_le (fun j => set.testBit j && (decide (fk j = fk i0) && decide (fa i0 < fa j))) 0 M
      have t0 : (nI (inF M fk (set ||| 2 ^ i0) 0)).toInt = inF M fk (set ||| 2 ^ i0) 0 := nI_toInt (by omega)
      have t1 : (nI (inF M fk (set ||| 2 ^ i0) 1)).toInt = inF M fk (set ||| 2 ^ i0) 1 := nI_toInt (by omega)
      have t2 : (nI (inF M fk (set ||| 2 ^ i0) 2)).toInt = inF M fk (set ||| 2 ^ i0) 2 := nI_toInt (by omega)
      have tc : (nI (cn (fun j => set.testBit j && (decide (fk j = fk i0) && decide (fa i0 < fa j))) 0 M)).toInt = cn (fun j => set.testBit j && (decide (fk j = fk i0) && decide (fa i0 < fa j))) 0 M := nI_toInt (by omega)
      have coE : coF M fk fa set i0 = (cn (fun j => set.testBit j && (decide (fk j = fk i0) && decide (fa i0 < fa j))) 0 M : Int) + spF (inF M fk (set ||| 2 ^ i0) 0) (inF M fk (set ||| 2 ^ i0) 1) (inF M fk (set ||| 2 ^ i0) 2) := rfl
      rw [coE] at hK
      refine ⟨fun z => absurd z (by omega), fun _ => sp_manyIn (f := 0) hM hB hfk (by omega) (by decide) (sp_manyIn (f := 1) hM hB hfk (by omega) (by decide) (sp_manyIn (f := 2) hM hB hfk (by omega) (by decide) ?_))⟩
      generalize inF M fk (set ||| 2 ^ i0) 0 = x0 at *
      generalize inF M fk (set ||| 2 ^ i0) 1 = x1 at *
      generalize inF M fk (set ||| 2 ^ i0) 2 = x2 at *
      generalize cn (fun j => set.testBit j && (decide (fk j = fk i0) && decide (fa i0 < fa j))) 0 M = xc at *
      have E : ∀ (m1 m2 n1 n2 : Int32), m1.toInt = mx2 x1 x2 → m2.toInt = mx2 x0 (mx2 x1 x2) → n1.toInt = mn2 x1 x2 → n2.toInt = mn2 x0 (mn2 x1 x2) → pcI d 93 [.int 0, .int ((m2 - n2) - 1)] v s (fun w12 s12 => K (nI xc + w12) s12) := by
        intro m1 m2 n1 n2 q1 q2 q3 q4
        have bb : 0 ≤ mx2 (x0 : Int) (mx2 x1 x2) ∧ mx2 (x0 : Int) (mx2 x1 x2) ≤ 8 ∧ 0 ≤ mn2 (x0 : Int) (mn2 x1 x2) ∧ mn2 (x0 : Int) (mn2 x1 x2) ≤ 8 := by
          unfold mx2 mn2; repeat' split
          all_goals omega
        have s1 : (m2 - n2).toInt = mx2 (x0 : Int) (mx2 x1 x2) - mn2 (x0 : Int) (mn2 x1 x2) := by rw [i_sub (by omega), q2, q4]
        have s2 : (m2 - n2 - 1).toInt = mx2 (x0 : Int) (mx2 x1 x2) - mn2 (x0 : Int) (mn2 x1 x2) - 1 := by rw [i_sub (by rw [s1, e1]; omega), s1, e1]
        refine st_Math_max ⟨fun c => hK _ ?_, fun c => hK _ ?_⟩
        · rw [e0, s2] at c
          rw [i_add (by rw [tc, s2]; omega), tc, s2]
          unfold spF
          conv => rhs; rw [mx2]
          rw [if_pos c]
        · rw [e0, s2] at c
          rw [i_add (by rw [tc, e0]; omega), tc, e0]
          unfold spF
          conv => rhs; rw [mx2]
          rw [if_neg c]
      have E2 : ∀ (m1 m2 : Int32), m1.toInt = mx2 x1 x2 → m2.toInt = mx2 x0 (mx2 x1 x2) → pcI d 92 [.int (nI x1), .int (nI x2)] v s (fun w10 s10 => pcI d 92 [.int (nI x0), .int w10] v s10 (fun w11 s11 => pcI d 93 [.int 0, .int ((m2 - w11) - 1)] v s11 (fun w12 s12 => K (nI xc + w12) s12))) := by
        intro m1 m2 q1 q2
        have A : ∀ n1 : Int32, n1.toInt = mn2 x1 x2 → pcI d 92 [.int (nI x0), .int n1] v s (fun w11 s11 => pcI d 93 [.int 0, .int ((m2 - w11) - 1)] v s11 (fun w12 s12 => K (nI xc + w12) s12)) := by
          intro n1 q3
          refine st_Math_min ⟨fun c => E m1 m2 n1 _ q1 q2 q3 ?_, fun c => E m1 m2 n1 _ q1 q2 q3 ?_⟩
          · rw [q3, t0] at c; rw [q3]; conv => rhs; rw [mn2]
            rw [if_pos c]
          · rw [q3, t0] at c; rw [t0]; conv => rhs; rw [mn2]
            rw [if_neg c]
        refine st_Math_min ⟨fun c => A _ ?_, fun c => A _ ?_⟩
        · rw [t1, t2] at c; rw [t2, mn2, if_pos c]
        · rw [t1, t2] at c; rw [t1, mn2, if_neg c]
      have E3 : ∀ m1 : Int32, m1.toInt = mx2 x1 x2 → pcI d 93 [.int (nI x0), .int m1] v s (fun w9 s9 => pcI d 92 [.int (nI x1), .int (nI x2)] v s9 (fun w10 s10 => pcI d 92 [.int (nI x0), .int w10] v s10 (fun w11 s11 => pcI d 93 [.int 0, .int ((w9 - w11) - 1)] v s11 (fun w12 s12 => K (nI xc + w12) s12)))) := by
        intro m1 q1
        refine st_Math_max ⟨fun c => E2 m1 _ q1 ?_, fun c => E2 m1 _ q1 ?_⟩
        · rw [q1, t0] at c; rw [q1]; conv => rhs; rw [mx2]
          rw [if_pos c]
        · rw [q1, t0] at c; rw [t0]; conv => rhs; rw [mx2]
          rw [if_neg c]
      refine st_Math_max ⟨fun c => E3 _ ?_, fun c => E3 _ ?_⟩
      · rw [t1, t2] at c; rw [t2, mx2, if_pos c]
      · rw [t1, t2] at c; rw [t1, mx2, if_neg c]
    | succ j ih =>
      intro i hi z5 z6 z7 z8 z9
      have h2 := ih (i + 1) (by omega) z5 z6 z7 z8 z9
      have bc := cn_le (fun j => set.testBit j && (decide (fk j = fk i0) && decide (fa i0 < fa j))) 0 i
      have e : cn (fun j => set.testBit j && (decide (fk j = fk i0) && decide (fa i0 < fa j))) 0 (i + 1) = cn (fun j => set.testBit j && (decide (fk j = fk i0) && decide (fa i0 < fa j))) 0 i + (if (set.testBit (0 + i) && (decide (fk (0 + i) = fk i0) && decide (fa i0 < fa (0 + i)))) = true then 1 else 0) := rfl
      rw [Nat.zero_add] at e
      have q1 : nI i + 1 = nI (i + 1) := by rw [nI_1]
      generalize hX : cn (fun j => set.testBit j && (decide (fk j = fk i0) && decide (fa i0 < fa j))) 0 i = X at *
      have q2 : nI X + 1 = nI (X + 1) := by rw [nI_1]
      obtain ⟨_, g2, g3⟩ := hB.2 i (by omega) (by omega)
      have g2 : rI s 121 i = nI (fk i) := g2
      have g3 : (rI s 122 i).toInt = fa i := g3
      have hfi := hfk i
      refine st_Bundle_costOf_4 ?_
      rw [show rI s 117 3 = nI M from hB.1, b_0 (by omega) (by omega), nI_toInt (show i < 2147483648 by omega), nI_toInt (show M < 2147483648 by omega), nI_toInt (show i0 < 2147483648 by omega), Int.toNat_natCast, Int.toNat_natCast, q1, q2, g2, k2, nI_toInt (show fk i < 2147483648 by omega), nI_toInt (show fk i0 < 2147483648 by omega), k3, g3]
      refine ⟨fun _ => ⟨fun c => ?_, fun c => ?_⟩, fun z => absurd (by omega) z⟩
      · rw [c, Bool.false_and, if_neg (by decide), Nat.add_zero] at e
        rw [e] at h2; exact h2
      · have c : set.testBit i = true := by cases hh : set.testBit i with | true => rfl | false => exact absurd hh c
        rw [c, Bool.true_and] at e
        refine ⟨by omega, by omega, fun c2 => ⟨by omega, by omega, fun c3 => ?_, fun c3 => ?_⟩, fun c2 => ?_⟩
        · rw [decide_eq_true (show fk i = fk i0 by omega), Bool.true_and, if_pos (decide_eq_true c3)] at e
          rw [e] at h2; exact h2
        · rw [decide_eq_true (show fk i = fk i0 by omega), Bool.true_and, decide_eq_false c3, if_neg (by decide), Nat.add_zero] at e
          rw [e] at h2; exact h2
        · rw [decide_eq_false (show ¬ fk i = fk i0 by omega), Bool.false_and, if_neg (by decide), Nat.add_zero] at e
          rw [e] at h2; exact h2
  exact st_Bundle_costOf (G M 0 (by omega) _ _ _ _ _)
end
