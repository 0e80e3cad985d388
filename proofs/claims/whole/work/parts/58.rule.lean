/-! TEXTS: a rule's, what is read; both read so -/
def pOpt (B : Nat → Int) (N : Nat) (j : Nat) (lo hi : Int) (p : Nat) : Except (Nat × Nat) (Int × Nat) :=
  if mtb B N (xs cBl B N p) j = true then pNum B N lo hi (xs cBl B N p + wn j) else .ok (-1, xs cBl B N p)
def pOpt2 (B : Nat → Int) (N : Nat) (j : Nat) (p : Nat) : Except (Nat × Nat) ((Int × Int) × Nat) :=
  if mtb B N (xs cBl B N p) j = true then bnd (pNum B N 0 999 (xs cBl B N p + wn j)) fun x => bnd (pNum B N 1 9 x.2) fun y => .ok ((x.1, y.1), y.2) else .ok ((-1, 0), xs cBl B N p)
/-- every, smoke, cold (warmth, fire), warm (warmth, fire); -1: untold -/
abbrev rRow : Type := Int × Int × (Int × Int) × (Int × Int)
def pRule (B : Nat → Int) (N : Nat) : Except (Nat × Nat) rRow :=
  if ¬ mtb B N (xs cBl B N 0) 12 = true then .error (1, xs cBl B N 0)
  else bnd (pNum B N 1 60 (xs cBl B N 0 + wn 12)) fun n => bnd (pOpt B N 13 0 8 n.2) fun l => bnd (pOpt2 B N 14 l.2) fun c => bnd (pOpt2 B N 15 c.2) fun w =>
    if xs cBl B N w.2 < N then .error (1, xs cBl B N w.2) else .ok (n.1, l.1, c.1, w.1)
def opOK (x : Int × Int) : Prop := (x.1 = -1 ∧ x.2 = 0) ∨ ((0 ≤ x.1 ∧ x.1 ≤ 999) ∧ 1 ≤ x.2 ∧ x.2 ≤ 9)
def rrOK (X : rRow) : Prop := (1 ≤ X.1 ∧ X.1 ≤ 60) ∧ (X.2.1 = -1 ∨ (0 ≤ X.2.1 ∧ X.2.1 ≤ 8)) ∧ opOK X.2.2.1 ∧ opOK X.2.2.2
theorem pOpt2_ok {B : Nat → Int} {N j p : Nat} {x : (Int × Int) × Nat} (h : pOpt2 B N j p = .ok x) : opOK x.1 := by
  unfold pOpt2 at h
  by_cases c : mtb B N (xs cBl B N p) j = true
  · rw [if_pos c] at h
    obtain ⟨a, h1, h2⟩ := bnd_ok h
    obtain ⟨b, h3, h4⟩ := bnd_ok h2
    injection h4 with h4
    rw [← h4]; exact Or.inr ⟨pNum_rng h1, pNum_rng h3⟩
  · rw [if_neg c] at h
    injection h with h
    rw [← h]; exact Or.inl ⟨rfl, rfl⟩
theorem pRule_ok {B : Nat → Int} {N : Nat} {X : rRow} (h : pRule B N = .ok X) : rrOK X := by
  unfold pRule at h
  by_cases c : mtb B N (xs cBl B N 0) 12 = true
  · rw [if_neg (fun z => z c)] at h
    obtain ⟨n, h1, h2⟩ := bnd_ok h
    obtain ⟨l, h3, h4⟩ := bnd_ok h2
    obtain ⟨k, h5, h6⟩ := bnd_ok h4
    obtain ⟨w, h7, h8⟩ := bnd_ok h6
    by_cases c2 : xs cBl B N w.2 < N
    · rw [if_pos c2] at h8; cases h8
    · rw [if_neg c2] at h8
      injection h8 with h8
      rw [← h8]
      refine ⟨pNum_rng h1, ?_, pOpt2_ok h5, pOpt2_ok h7⟩
      unfold pOpt at h3
      by_cases c3 : mtb B N (xs cBl B N n.2) 13 = true
      · rw [if_pos c3] at h3; exact Or.inr (pNum_rng h3)
      · rw [if_neg c3] at h3; injection h3 with h3
        exact Or.inl (by rw [← h3])
  · rw [if_pos c] at h; cases h
/-- a rule in the class, in the cell u -/
def dU (u : Nat) (s : hS) (X : rRow) : Prop := (rI s u 0).toInt = X.1 ∧ (rI s u 1).toInt = (if X.2.1 = -1 then 0 else X.2.1) ∧ (rI s u 2).toInt = (if X.2.2.1.1 = -1 then 0 else X.2.2.1.1) ∧ (rI s u 4).toInt = X.2.2.1.2 ∧ (rL s u 3).toInt = (if X.2.2.2.1 = -1 then 1152921504606846976 else X.2.2.2.1) ∧ (rI s u 5).toInt = X.2.2.2.2
def cU2 (r : Except (Nat × Nat) rRow) (sb s2 : hS) (u : Nat) : Prop := match r with
  | .ok X => dU u sb X ∧ ∃ a, s2 = sI (sI (tS sb a 0 (-1)) 49 1 0) 49 2 0
  | .error (e, w) => 1 ≤ e ∧ e ≤ 4 ∧ w ≤ 300 ∧ ∃ a, s2 = sI (sI (tS sb a (nI e) (nI w)) 49 1 0) 49 2 0
section
variable {d : Nat} {v : hV} {s s1 : hS} {B : Nat → Int} {N : Nat}
theorem sp_ruleRead (h : tX s B N) {u : Nat} (hu : kU u) {K : hS → Prop} (hK : ∀ sb s2, Fr (fun c _ => c = u) s sb → cU2 (pRule B N) sb s2 u → K s2) : pcV (d + 5) 51 [.ref u, .ref 49] v s K := by
  have hk : 133 ≤ u ∧ u ≤ 136 := by unfold kU at hu; omega
  have hN := h.2.2.1
  have e0 : Int32.toInt 0 = 0 := rfl
  have e1 : Int32.toInt 1 = 1 := rfl
  have e8 : Int32.toInt 8 = 8 := rfl
  have e9 : Int32.toInt 9 = 9 := rfl
  have e60 : Int32.toInt 60 = 60 := rfl
  have e999 : Int32.toInt 999 = 999 := rfl
  -- a fault is there
  have E86 : ∀ (e w : Nat) (sb s3 : hS) (z0 z2 z3 : Value), pRule B N = .error (e, w) → Fr (fun c _ => c = u) s sb → cE sb N (.error (e, w)) s3 → pgV (d + 5) 51 86 [z0, .ref 49, z2, z3] [] v s3 K := by
    intro e w sb s3 z0 z2 z3 he hf hc
    refine st_Rule_read_86 ?_
    obtain ⟨f1, f2, f3, a, ha, rfl⟩ := hc
    exact st_Text_end (hK sb _ hf (by rw [he]; exact ⟨f1, f2, by omega, nI a, rfl⟩))
  have E77 : ∀ (e w : Nat) (sb s3 : hS) (z2 z3 : Value) (k1 : Int32), pRule B N = .error (e, w) → Fr (fun c _ => c = u) s sb → tX sb B N → cE sb N (.error (e, w)) s3 → pgV (d + 5) 51 77 [.ref u, .ref 49, z2, z3] [.int k1, .ref u] v s3 K := by
    intro e w sb s3 z2 z3 k1 he hf hx hc
    refine st_Rule_read_77 hu (ce_goesOn (tX_sI hx (by omega)) (ce_sI hc (by omega)) (fun p s4 hp _ _ => by cases hp) (fun s4 _ hc4 => ⟨fun _ => E86 e w _ s4 _ _ _ he (hf.sI rfl) hc4, fun z => absurd rfl z⟩))
  have E67 : ∀ (e w : Nat) (sb s3 : hS) (z2 : Value) (x3 : Int32) (k1 : Int64), pRule B N = .error (e, w) → Fr (fun c _ => c = u) s sb → tX sb B N → cE sb N (.error (e, w)) s3 → pgV (d + 5) 51 67 [.ref u, .ref 49, z2, .int x3] [.long k1, .ref u] v s3 K := by
    intro e w sb s3 z2 x3 k1 he hf hx hc
    exact st_Rule_read_67 hu ⟨fun _ => E77 e w _ _ _ _ _ he (hf.sL rfl) (tX_sL hx) (ce_sL hc), fun _ => ce_number (tX_sL hx) (ce_sL hc) (fun w2 s4 hc4 _ => E77 e w _ _ _ _ _ he (hf.sL rfl) (tX_sL hx) hc4)⟩
  have E52 : ∀ (e w : Nat) (sb s3 : hS) (z2 z3 : Value) (k1 : Int32), pRule B N = .error (e, w) → Fr (fun c _ => c = u) s sb → tX sb B N → cE sb N (.error (e, w)) s3 → pgV (d + 5) 51 52 [.ref u, .ref 49, z2, z3] [.int k1, .ref u] v s3 K := by
    intro e w sb s3 z2 z3 k1 he hf hx hc
    exact st_Rule_read_52 hu (ce_takes (tX_sI hx (by omega)) (ce_sI hc (by omega)) (j := 15) (by decide) (fun x s4 _ _ hc4 => ⟨fun _ => E67 e w _ _ _ _ _ he (hf.sI rfl) (tX_sI hx (by omega)) hc4, fun _ => ce_number (tX_sI hx (by omega)) hc4 (fun w3 s5 hc5 _ => E67 e w _ _ _ _ _ he (hf.sI rfl) (tX_sI hx (by omega)) hc5)⟩))
  have E42 : ∀ (e w : Nat) (sb s3 : hS) (x2 : Int32) (z3 : Value) (k1 : Int32), pRule B N = .error (e, w) → Fr (fun c _ => c = u) s sb → tX sb B N → cE sb N (.error (e, w)) s3 → pgV (d + 5) 51 42 [.ref u, .ref 49, .int x2, z3] [.int k1, .ref u] v s3 K := by
    intro e w sb s3 x2 z3 k1 he hf hx hc
    exact st_Rule_read_42 hu ⟨fun _ => E52 e w _ _ _ _ _ he (hf.sI rfl) (tX_sI hx (by omega)) (ce_sI hc (by omega)), fun _ => ce_number (tX_sI hx (by omega)) (ce_sI hc (by omega)) (fun w2 s4 hc4 _ => E52 e w _ _ _ _ _ he (hf.sI rfl) (tX_sI hx (by omega)) hc4)⟩
  have E28 : ∀ (e w : Nat) (sb s3 : hS) (z2 z3 : Value) (k1 : Int32), pRule B N = .error (e, w) → Fr (fun c _ => c = u) s sb → tX sb B N → cE sb N (.error (e, w)) s3 → pgV (d + 5) 51 28 [.ref u, .ref 49, z2, z3] [.int k1, .ref u] v s3 K := by
    intro e w sb s3 z2 z3 k1 he hf hx hc
    exact st_Rule_read_28 hu (ce_takes (tX_sI hx (by omega)) (ce_sI hc (by omega)) (j := 14) (by decide) (fun x s4 _ _ hc4 => ⟨fun _ => E42 e w _ _ _ _ _ he (hf.sI rfl) (tX_sI hx (by omega)) hc4, fun _ => ce_number (tX_sI hx (by omega)) hc4 (fun w3 s5 hc5 _ => E42 e w _ _ _ _ _ he (hf.sI rfl) (tX_sI hx (by omega)) hc5)⟩))
  have E11 : ∀ (e w : Nat) (sb s3 : hS) (z2 z3 : Value), pRule B N = .error (e, w) → Fr (fun c _ => c = u) s sb → tX sb B N → cE sb N (.error (e, w)) s3 → pgV (d + 5) 51 11 [.ref u, .ref 49, z2, z3] [] v s3 K := by
    intro e w sb s3 z2 z3 he hf hx hc
    exact st_Rule_read_11 hu (ce_number hx hc (fun w1 s4 hc4 _ => ce_takes (tX_sI hx (by omega)) (ce_sI hc4 (by omega)) (j := 13) (by decide) (fun x s5 _ _ hc5 => ⟨fun _ => E28 e w _ _ _ _ _ he (hf.sI rfl) (tX_sI hx (by omega)) hc5, fun _ => ce_number (tX_sI hx (by omega)) hc5 (fun w3 s6 hc6 _ => E28 e w _ _ _ _ _ he (hf.sI rfl) (tX_sI hx (by omega)) hc6)⟩)))
  -- no fault so far: from the end on
  have G77 : ∀ (n l : Int) (c w : Int × Int) (q : Nat) (sb s3 : hS) (z2 z3 : Value) (k1 : Int32), (pRule B N = if xs cBl B N q < N then .error (1, xs cBl B N q) else .ok (n, l, c, w)) → Fr (fun c _ => c = u) s sb → tX sb B N → cE sb N (.ok q) s3 → dU u (sI sb u 5 k1) (n, l, c, w) → pgV (d + 5) 51 77 [.ref u, .ref 49, z2, z3] [.int k1, .ref u] v s3 K := by
    intro n l c w q sb s3 z2 z3 k1 he hf hx hc hd
    have hx' := tX_sI (c := u) (k := 5) (x := k1) hx (by omega)
    refine st_Rule_read_77 hu (ce_goesOn hx' (ce_sI hc (by omega)) (fun p s4 hp hlt hc4 => ⟨fun z => absurd z (by decide), fun _ => ?_⟩) (fun s4 hlt hc4 => ⟨fun _ => ?_, fun z => absurd rfl z⟩))
    · injection hp with hp; subst hp
      rw [if_pos hlt] at he
      have ew : rI s4 49 2 = nI (xs cBl B N q) := by rw [hc4.2, tS_r]; rfl
      rw [ew]
      exact ce_blame (e := 1) hc4 (by decide) hc4.1 (fun s5 hc5 => E86 1 _ _ s5 _ _ _ he (hf.sI rfl) hc5)
    · rw [if_neg (hlt q rfl)] at he
      have hc4 : cE (sI sb u 5 k1) N (.ok (xs cBl B N q)) s4 := hc4
      refine st_Rule_read_86 (st_Text_end (hK (sI sb u 5 k1) _ (hf.sI rfl) ?_))
      rw [he]
      exact ⟨hd, nI (xs cBl B N q), by rw [hc4.2]⟩
  have G67 : ∀ (n l : Int) (c : Int × Int) (q : Nat) (sb s3 : hS) (z2 : Value) (x3 : Int32) (k1 : Int64) (b : Bool) (t : Int), (pRule B N = if b then bnd (pNum B N 1 9 q) fun y => if xs cBl B N y.2 < N then .error (1, xs cBl B N y.2) else .ok (n, l, c, (t, y.1)) else if xs cBl B N q < N then .error (1, xs cBl B N q) else .ok (n, l, c, (-1, 0))) → (x3.toInt = 0 ↔ b = false) → (k1.toInt = if b then t else 1152921504606846976) → (b = true → 0 ≤ t) → Fr (fun c _ => c = u) s sb → tX sb B N → cE sb N (.ok q) s3 → (∀ w, dU u (sI (sL sb u 3 k1) u 5 w) (n, l, c, (if b then t else -1, w.toInt))) → pgV (d + 5) 51 67 [.ref u, .ref 49, z2, .int x3] [.long k1, .ref u] v s3 K := by
    intro n l c q sb s3 z2 x3 k1 b t he hb hk1 ht hf hx hc hd
    refine st_Rule_read_67 hu ⟨fun z => ?_, fun z => ?_⟩
    · have hb0 := hb.mp z
      subst hb0
      exact G77 n l c (-1, 0) q _ _ _ _ 0 (by rw [he]; rfl) (hf.sL rfl) (tX_sL hx) (ce_sL hc) (hd 0)
    · have hb1 : b = true := by
        cases b with
        | true => rfl
        | false => exact absurd (hb.mpr rfl) z
      subst hb1
      have he : pRule B N = bnd (pNum B N 1 9 q) fun y => if xs cBl B N y.2 < N then .error (1, xs cBl B N y.2) else .ok (n, l, c, (t, y.1)) := he
      refine ce_number (tX_sL hx) (ce_sL hc) (fun w2 s4 hc4 hv4 => ?_)
      rw [e1, e9] at hc4 hv4
      have hc4 : cE (sL sb u 3 k1) N (bnd (pNum B N 1 9 q) fun y => .ok y.2) s4 := hc4
      cases e : pNum B N 1 9 q with
      | error y =>
        obtain ⟨f, w⟩ := y
        rw [e] at hc4 he
        exact E77 f w _ _ _ _ _ he (hf.sL rfl) (tX_sL hx) hc4
      | ok y =>
        have hvv := hv4 q y.1 y.2 rfl e
        rw [e] at hc4 he
        refine G77 n l c (t, y.1) y.2 _ _ _ _ w2 he (hf.sL rfl) (tX_sL hx) hc4 ?_
        have := hd w2
        rw [hvv] at this
        exact this
  have G52 : ∀ (n l : Int) (c : Int × Int) (q : Nat) (sb s3 : hS) (z2 z3 : Value) (k1 : Int32), (pRule B N = bnd (pOpt2 B N 15 q) fun w => if xs cBl B N w.2 < N then .error (1, xs cBl B N w.2) else .ok (n, l, c, w.1)) → Fr (fun c _ => c = u) s sb → tX sb B N → cE sb N (.ok q) s3 → (rI sb u 0).toInt = n → (rI sb u 1).toInt = (if l = -1 then 0 else l) → (rI sb u 2).toInt = (if c.1 = -1 then 0 else c.1) → k1.toInt = c.2 → pgV (d + 5) 51 52 [.ref u, .ref 49, z2, z3] [.int k1, .ref u] v s3 K := by
    intro n l c q sb s3 z2 z3 k1 he hf hx hc g1 g2 g3 g4
    have hx' := tX_sI (c := u) (k := 4) (x := k1) hx (by omega)
    have D : ∀ (k2 : Int64) (w : Int32) (t : Int), (k2.toInt = if t = -1 then 1152921504606846976 else t) → dU u (sI (sL (sI sb u 4 k1) u 3 k2) u 5 w) (n, l, c, (t, w.toInt)) := by
      intro k2 w t ht
      refine ⟨?_, ?_, ?_, ?_, ?_, ?_⟩
      · rw [r_II, if_neg (by omega), r_IL, r_II, if_neg (by omega)]; exact g1
      · rw [r_II, if_neg (by omega), r_IL, r_II, if_neg (by omega)]; exact g2
      · rw [r_II, if_neg (by omega), r_IL, r_II, if_neg (by omega)]; exact g3
      · rw [r_II, if_neg (by omega), r_IL, r_II, if_pos ⟨rfl, rfl⟩]; exact g4
      · rw [r_LI, r_LL, if_pos ⟨rfl, rfl⟩]; exact ht
      · rw [r_II, if_pos ⟨rfl, rfl⟩]
    refine st_Rule_read_52 hu (ce_takes hx' (ce_sI hc (by omega)) (j := 15) (by decide) (fun x s4 _ hxv hc4 => ?_))
    have hxv := hxv q rfl
    have hc4 : cE (sI sb u 4 k1) N (.ok (if mtb B N (xs cBl B N q) 15 = true then xs cBl B N q + wn 15 else xs cBl B N q)) s4 := hc4
    unfold pOpt2 at he
    by_cases hm : mtb B N (xs cBl B N q) 15 = true
    · rw [if_pos hm] at hxv hc4 he
      refine ⟨fun z => absurd z (by rw [hxv]; decide), fun _ => ce_number hx' hc4 (fun w3 s5 hc5 hv5 => ?_)⟩
      rw [e0, e999] at hc5 hv5
      have hc5 : cE (sI sb u 4 k1) N (bnd (pNum B N 0 999 (xs cBl B N q + wn 15)) fun y => .ok y.2) s5 := hc5
      cases e : pNum B N 0 999 (xs cBl B N q + wn 15) with
      | error y =>
        obtain ⟨f, w⟩ := y
        rw [e] at hc5 he
        exact E67 f w _ _ _ _ _ he (hf.sI rfl) hx' hc5
      | ok y =>
        have hvv := hv5 _ y.1 y.2 rfl e
        have hrng := pNum_rng e
        rw [e] at hc5 he
        refine G67 n l c y.2 _ _ _ _ _ true y.1 ?_ ⟨fun z => absurd z (by rw [hxv]; decide), fun z => by cases z⟩ (by rw [i_64, hvv]; rfl) (fun _ => hrng.1) (hf.sI rfl) hx' hc5 (fun w => D _ w y.1 (by rw [i_64, hvv, if_neg (by omega)]))
        rw [he]
        show bnd (bnd (pNum B N 1 9 y.2) _) _ = bnd (pNum B N 1 9 y.2) _
        cases pNum B N 1 9 y.2 <;> rfl
    · rw [if_neg hm] at hxv hc4 he
      refine ⟨fun _ => ?_, fun z => absurd (by rw [hxv]; rfl) z⟩
      exact G67 n l c (xs cBl B N q) _ _ _ _ _ false 0 he ⟨fun _ => rfl, fun _ => by rw [hxv]; rfl⟩ rfl (fun z => by cases z) (hf.sI rfl) hx' hc4 (fun w => D _ w (-1) rfl)
  have G42 : ∀ (n l : Int) (q : Nat) (sb s3 : hS) (x2 : Int32) (z3 : Value) (k1 : Int32) (b : Bool) (t : Int), (pRule B N = bnd (if b then bnd (pNum B N 1 9 q) fun y => .ok ((t, y.1), y.2) else .ok ((-1, 0), q)) fun c => bnd (pOpt2 B N 15 c.2) fun w => if xs cBl B N w.2 < N then .error (1, xs cBl B N w.2) else .ok (n, l, c.1, w.1)) → (x2.toInt = 0 ↔ b = false) → (k1.toInt = if b then t else 0) → (b = true → 0 ≤ t) → Fr (fun c _ => c = u) s sb → tX sb B N → cE sb N (.ok q) s3 → (rI sb u 0).toInt = n → (rI sb u 1).toInt = (if l = -1 then 0 else l) → pgV (d + 5) 51 42 [.ref u, .ref 49, .int x2, z3] [.int k1, .ref u] v s3 K := by
    intro n l q sb s3 x2 z3 k1 b t he hb hk1 ht hf hx hc g1 g2
    have hx' := tX_sI (c := u) (k := 2) (x := k1) hx (by omega)
    have g1' : (rI (sI sb u 2 k1) u 0).toInt = n := by rw [r_II, if_neg (by omega)]; exact g1
    have g2' : (rI (sI sb u 2 k1) u 1).toInt = (if l = -1 then 0 else l) := by rw [r_II, if_neg (by omega)]; exact g2
    refine st_Rule_read_42 hu ⟨fun z => ?_, fun z => ?_⟩
    · have hb0 := hb.mp z
      subst hb0
      refine G52 n l (-1, 0) q _ _ _ _ 0 he (hf.sI rfl) hx' (ce_sI hc (by omega)) g1' g2' ?_ rfl
      rw [r_II, if_pos ⟨rfl, rfl⟩, hk1]; rfl
    · have hb1 : b = true := by
        cases b with
        | true => rfl
        | false => exact absurd (hb.mpr rfl) z
      subst hb1
      have he : pRule B N = bnd (bnd (pNum B N 1 9 q) fun y => .ok ((t, y.1), y.2)) fun c => bnd (pOpt2 B N 15 c.2) fun w => if xs cBl B N w.2 < N then .error (1, xs cBl B N w.2) else .ok (n, l, c.1, w.1) := he
      refine ce_number hx' (ce_sI hc (by omega)) (fun w2 s4 hc4 hv4 => ?_)
      rw [e1, e9] at hc4 hv4
      have hc4 : cE (sI sb u 2 k1) N (bnd (pNum B N 1 9 q) fun y => .ok y.2) s4 := hc4
      cases e : pNum B N 1 9 q with
      | error y =>
        obtain ⟨f, w⟩ := y
        rw [e] at hc4 he
        exact E52 f w _ _ _ _ _ he (hf.sI rfl) hx' hc4
      | ok y =>
        have hvv := hv4 q y.1 y.2 rfl e
        rw [e] at hc4 he
        refine G52 n l (t, y.1) y.2 _ _ _ _ w2 he (hf.sI rfl) hx' hc4 g1' g2' ?_ hvv
        have := ht rfl
        show _ = if t = -1 then 0 else t
        rw [r_II, if_pos ⟨rfl, rfl⟩, hk1, if_pos rfl, if_neg (show ¬ t = -1 by omega)]
  have G28 : ∀ (n l : Int) (q : Nat) (sb s3 : hS) (z2 z3 : Value) (k1 : Int32), (pRule B N = bnd (pOpt2 B N 14 q) fun c => bnd (pOpt2 B N 15 c.2) fun w => if xs cBl B N w.2 < N then .error (1, xs cBl B N w.2) else .ok (n, l, c.1, w.1)) → k1.toInt = (if l = -1 then 0 else l) → Fr (fun c _ => c = u) s sb → tX sb B N → cE sb N (.ok q) s3 → (rI sb u 0).toInt = n → pgV (d + 5) 51 28 [.ref u, .ref 49, z2, z3] [.int k1, .ref u] v s3 K := by
    intro n l q sb s3 z2 z3 k1 he hk1 hf hx hc g1
    have hx' := tX_sI (c := u) (k := 1) (x := k1) hx (by omega)
    have g1' : (rI (sI sb u 1 k1) u 0).toInt = n := by rw [r_II, if_neg (by omega)]; exact g1
    have g2' : (rI (sI sb u 1 k1) u 1).toInt = (if l = -1 then 0 else l) := by rw [r_II, if_pos ⟨rfl, rfl⟩]; exact hk1
    refine st_Rule_read_28 hu (ce_takes hx' (ce_sI hc (by omega)) (j := 14) (by decide) (fun x s4 _ hxv hc4 => ?_))
    have hxv := hxv q rfl
    have hc4 : cE (sI sb u 1 k1) N (.ok (if mtb B N (xs cBl B N q) 14 = true then xs cBl B N q + wn 14 else xs cBl B N q)) s4 := hc4
    unfold pOpt2 at he
    by_cases hm : mtb B N (xs cBl B N q) 14 = true
    · rw [if_pos hm] at hxv hc4 he
      refine ⟨fun z => absurd z (by rw [hxv]; decide), fun _ => ce_number hx' hc4 (fun w3 s5 hc5 hv5 => ?_)⟩
      rw [e0, e999] at hc5 hv5
      have hc5 : cE (sI sb u 1 k1) N (bnd (pNum B N 0 999 (xs cBl B N q + wn 14)) fun y => .ok y.2) s5 := hc5
      cases e : pNum B N 0 999 (xs cBl B N q + wn 14) with
      | error y =>
        obtain ⟨f, w⟩ := y
        rw [e] at hc5 he
        exact E42 f w _ _ _ _ _ he (hf.sI rfl) hx' hc5
      | ok y =>
        have hvv := hv5 _ y.1 y.2 rfl e
        have hrng := pNum_rng e
        rw [e] at hc5 he
        exact G42 n l y.2 _ _ _ _ _ true y.1 he ⟨fun z => absurd z (by rw [hxv]; decide), fun z => by cases z⟩ hvv (fun _ => hrng.1) (hf.sI rfl) hx' hc5 g1' g2'
    · rw [if_neg hm] at hxv hc4 he
      refine ⟨fun _ => ?_, fun z => absurd (by rw [hxv]; rfl) z⟩
      exact G42 n l (xs cBl B N q) _ _ _ _ _ false 0 he ⟨fun _ => rfl, fun _ => by rw [hxv]; rfl⟩ rfl (fun z => by cases z) (hf.sI rfl) hx' hc4 g1' g2'
  refine st_Rule_read hu (st_Text_begin ?_)
  rw [tS_begin]
  refine ce_takes (r := .ok 0) h ⟨Nat.zero_le _, rfl⟩ (j := 12) (by decide) (fun x s2 _ hxv hc2 => ?_)
  have hxv := hxv 0 rfl
  have hc2 : cE s N (.ok (if mtb B N (xs cBl B N 0) 12 = true then xs cBl B N 0 + wn 12 else xs cBl B N 0)) s2 := hc2
  by_cases hm : mtb B N (xs cBl B N 0) 12 = true
  · rw [if_pos hm] at hxv hc2
    refine ⟨fun z => absurd z (by rw [hxv]; decide), fun _ => st_Rule_read_11 hu (ce_number h hc2 (fun w1 s3 hc3 hv3 => ?_))⟩
    have he : pRule B N = bnd (pNum B N 1 60 (xs cBl B N 0 + wn 12)) fun n => bnd (pOpt B N 13 0 8 n.2) fun l => bnd (pOpt2 B N 14 l.2) fun c => bnd (pOpt2 B N 15 c.2) fun w => if xs cBl B N w.2 < N then .error (1, xs cBl B N w.2) else .ok (n.1, l.1, c.1, w.1) := by
      unfold pRule; rw [if_neg (fun z => z hm)]
    rw [e1, e60] at hc3 hv3
    have hc3 : cE s N (bnd (pNum B N 1 60 (xs cBl B N 0 + wn 12)) fun y => .ok y.2) s3 := hc3
    have hx' := tX_sI (c := u) (k := 0) (x := w1) h (by omega)
    have hf' : Fr (fun c _ => c = u) s (sI s u 0 w1) := (Fr.rf (fun c _ => c = u) s).sI rfl
    cases e : pNum B N 1 60 (xs cBl B N 0 + wn 12) with
    | error y =>
      obtain ⟨f, w⟩ := y
      rw [e] at hc3 he
      exact ce_takes hx' (ce_sI hc3 (by omega)) (j := 13) (by decide) (fun x s4 _ _ hc4 => ⟨fun _ => E28 f w _ _ _ _ _ he hf' hx' hc4, fun _ => ce_number hx' hc4 (fun w3 s6 hc6 _ => E28 f w _ _ _ _ _ he hf' hx' hc6)⟩)
    | ok y =>
      have hvv := hv3 _ y.1 y.2 rfl e
      have g1 : (rI (sI s u 0 w1) u 0).toInt = y.1 := by rw [r_II, if_pos ⟨rfl, rfl⟩]; exact hvv
      rw [e] at hc3 he
      refine ce_takes hx' (ce_sI hc3 (by omega)) (j := 13) (by decide) (fun x s4 _ hxv hc4 => ?_)
      have hxv := hxv y.2 rfl
      have hc4 : cE (sI s u 0 w1) N (.ok (if mtb B N (xs cBl B N y.2) 13 = true then xs cBl B N y.2 + wn 13 else xs cBl B N y.2)) s4 := hc4
      have he : pRule B N = bnd (pOpt B N 13 0 8 y.2) fun l => bnd (pOpt2 B N 14 l.2) fun c => bnd (pOpt2 B N 15 c.2) fun w => if xs cBl B N w.2 < N then .error (1, xs cBl B N w.2) else .ok (y.1, l.1, c.1, w.1) := he
      unfold pOpt at he
      by_cases hm3 : mtb B N (xs cBl B N y.2) 13 = true
      · rw [if_pos hm3] at hxv hc4 he
        refine ⟨fun z => absurd z (by rw [hxv]; decide), fun _ => ce_number hx' hc4 (fun w4 s5 hc5 hv5 => ?_)⟩
        rw [e0, e8] at hc5 hv5
        have hc5 : cE (sI s u 0 w1) N (bnd (pNum B N 0 8 (xs cBl B N y.2 + wn 13)) fun y => .ok y.2) s5 := hc5
        cases e2 : pNum B N 0 8 (xs cBl B N y.2 + wn 13) with
        | error y2 =>
          obtain ⟨f, w⟩ := y2
          rw [e2] at hc5 he
          exact E28 f w _ _ _ _ _ he hf' hx' hc5
        | ok y2 =>
          have hv2 := hv5 _ y2.1 y2.2 rfl e2
          have hrng := pNum_rng e2
          rw [e2] at hc5 he
          exact G28 y.1 y2.1 y2.2 _ _ _ _ w4 he (by rw [hv2, if_neg (by omega)]) hf' hx' hc5 g1
      · rw [if_neg hm3] at hxv hc4 he
        refine ⟨fun _ => ?_, fun z => absurd (by rw [hxv]; rfl) z⟩
        exact G28 y.1 (-1) (xs cBl B N y.2) _ _ _ _ 0 he rfl hf' hx' hc4 g1
  · rw [if_neg hm] at hxv hc2
    refine ⟨fun _ => ?_, fun z => absurd (by rw [hxv]; rfl) z⟩
    have ew : rI s2 49 2 = nI (xs cBl B N 0) := by rw [hc2.2, tS_r]; rfl
    rw [ew]
    have he : pRule B N = .error (1, xs cBl B N 0) := by unfold pRule; rw [if_pos hm]
    exact ce_blame (e := 1) hc2 (by decide) hc2.1 (fun s3 hc3 => E11 1 _ s s3 _ _ he (Fr.rf _ _) h hc3)
end
