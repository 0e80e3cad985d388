/-! TEXTS: the reference reads a rule -/
def rM (o : Nat) (s : hS) (X : rRow) : Prop := (rI s 155 o).toInt = X.1 ∧ (rI s 155 (o + 1)).toInt = X.2.1 ∧ (rI s 155 (o + 2)).toInt = X.2.2.1.1 ∧ (rI s 155 (o + 3)).toInt = X.2.2.1.2 ∧ (rI s 155 (o + 4)).toInt = X.2.2.2.1 ∧ (rI s 155 (o + 5)).toInt = X.2.2.2.2
def fRd (o c k : Nat) : Prop := c = 155 ∧ o ≤ k ∧ k < o + 6
def fRe (o c k : Nat) : Prop := fRd o c k ∨ (c = 145 ∧ 8 ≤ k ∧ k ≤ 14)
def fRm (o c k : Nat) : Prop := fRe o c k ∨ (c = 145 ∧ k = 18)
section
variable {d : Nat} {v : hV} {s s1 : hS} {B : Nat → Int} {N : Nat}
theorem sm_rule (h : tM s B N) (hN80 : N ≤ 80) {r : Nat} (hr : r < 4) (hrm : rI s 145 18 = nI r) {K : Int32 → hS → Prop} (her : ∀ e w, pRule B N = .error (e, w) → 1 ≤ e → e ≤ 4 → w ≤ N → ∀ (x : Int32) s3, x.toInt = -10 - e → Fr (fRe (6 * r)) s s3 → rI s3 145 8 = 0 → rI s3 145 13 = nI w → K x s3) (hok : ∀ X, pRule B N = .ok X → ∀ s3, Fr (fRm (6 * r)) s s3 → rM (6 * r) s3 X → rI s3 145 18 = nI (r + 1) → rI s3 145 8 = 0 → rI s3 145 13 = -1 → K (nI r) s3) : pcI (d + 4) 172 [.ref 145] v s K := by
  have hN := h.2.1
  have e0 : Int32.toInt 0 = 0 := rfl
  have e1 : Int32.toInt 1 = 1 := rfl
  have e8 : Int32.toInt 8 = 8 := rfl
  have e9 : Int32.toInt 9 = 9 := rfl
  have e60 : Int32.toInt 60 = 60 := rfl
  have e999 : Int32.toInt 999 = 999 := rfl
  have nx : ∀ i : Nat, i ≤ 5 → 0 ≤ (nI (6 * r + i)).toInt ∧ (nI (6 * r + i)).toInt < 24 := fun i hi => by rw [nI_toInt (by omega)]; omega
  have nt : ∀ i : Nat, i ≤ 5 → (nI (6 * r + i)).toInt.toNat = 6 * r + i := fun i hi => by rw [nI_toInt (by omega)]; exact Int.toNat_natCast _
  have na : ∀ i : Nat, nI (6 * r) + nI i = nI (6 * r + i) := fun i => nI_add _ i
  have na1 : nI (6 * r) + 1 = nI (6 * r + 1) := na 1
  have na2 : nI (6 * r) + 2 = nI (6 * r + 2) := na 2
  have na3 : nI (6 * r) + 3 = nI (6 * r + 3) := na 3
  have na4 : nI (6 * r) + 4 = nI (6 * r + 4) := na 4
  have na5 : nI (6 * r) + 5 = nI (6 * r + 5) := na 5
  have fs : ∀ (sb : hS) (i : Nat) (x : Int32), i ≤ 5 → Fr (fRd (6 * r)) s sb → Fr (fRd (6 * r)) s (sI sb 155 (6 * r + i) x) := fun sb i x hi hf => hf.sI ⟨rfl, by omega, by omega⟩
  have ts : ∀ (sb : hS) (i : Nat) (x : Int32), tM sb B N → tM (sI sb 155 (6 * r + i) x) B N := fun sb i x hx => tM_sI hx (by omega) (by decide)
  have ms : ∀ (sb s3 : hS) (i : Nat) (x : Int32) (q : Except (Nat × Nat) Nat), mE sb N q s3 → mE (sI sb 155 (6 * r + i) x) N q (sI s3 155 (6 * r + i) x) := fun sb s3 i x q hc => me_sI hc (by omega)
  -- faults
  have E179 : ∀ (e w : Nat) (sb s3 : hS) (z1 z2 z3 : Value) (k0 : Int32), pRule B N = .error (e, w) → Fr (fRd (6 * r)) s sb → mE sb N (.error (e, w)) s3 → pgI (d + 4) 172 179 [.ref 145, z1, z2, z3] [.int k0] v s3 K := by
    intro e w sb s3 z1 z2 z3 k0 he hf hc
    refine st_M_rule_179 ?_
    obtain ⟨f1, f2, f3, a, fi, le, rfl⟩ := hc
    rw [m_faultOf, nI_toInt (by omega)]
    refine ⟨fun _ => her e w he f1 f2 f3 _ _ ?_ ?_ ?_ ?_, fun c => absurd (show (0 : Int) < e by omega) c⟩
    · have e10 : Int32.toInt (-10) = -10 := rfl
      have : (nI e).toInt = e := nI_toInt (by omega)
      rw [i_sub, e10, this]
      rw [e10, this]; omega
    · intro c k n
      have h1 : ¬ fRd (6 * r) c k := fun z => n (Or.inl z)
      have h2 : ¬ (c = 145 ∧ 8 ≤ k ∧ k ≤ 14) := fun z => n (Or.inr z)
      refine ⟨?_, ?_⟩
      · rw [r_II, if_neg (by omega), mS_ne _ _ _ _ _ _ (by omega)]; exact hf.i h1
      · exact hf.l h1
    · rw [r_II, if_pos ⟨rfl, rfl⟩]
    · rw [r_II, if_neg (by decide), mS_r, if_pos ⟨rfl, rfl⟩]
  have nof : ∀ (e w : Nat) (sb s3 : hS), mE sb N (.error (e, w)) s3 → ¬ (rI s3 145 12).toInt = 0 := fun e w sb s3 hc c => absurd ((me_fault hc).mp c) (fun ⟨p, e⟩ => by cases e)
  have nofS : ∀ (e w : Nat) (sb s3 : hS) (k : Nat) (x : Int32), mE sb N (.error (e, w)) s3 → ¬ (rI (sI s3 155 k x) 145 12).toInt = 0 := fun e w sb s3 k x hc => nof e w _ _ (me_sI (c := 155) (k := k) (x := x) hc (by omega))
  have E160 : ∀ (e w : Nat) (sb s3 : hS) (z1 z2 z3 : Value) (k2 : Int32), pRule B N = .error (e, w) → Fr (fRd (6 * r)) s sb → mE sb N (.error (e, w)) s3 → pgI (d + 4) 172 160 [.ref 145, z1, z2, z3] [.int k2, .int (nI (6 * r + 5)), .ref 155] v s3 K := by
    intro e w sb s3 z1 z2 z3 k2 he hf hc
    refine st_M_rule_160 ⟨nx 5 (by decide), fun c => absurd c (nof e w sb s3 hc), fun _ => st_M_rule_178 ?_⟩
    rw [nt 5 (by decide)]
    exact E179 e w _ _ _ _ _ _ he (fs _ 5 _ (by decide) hf) (ms _ _ 5 _ _ hc)
  have E146 : ∀ (e w : Nat) (sb s3 : hS) (x2 : Int32) (z3 : Value) (k2 : Int32), pRule B N = .error (e, w) → Fr (fRd (6 * r)) s sb → tM sb B N → mE sb N (.error (e, w)) s3 → pgI (d + 4) 172 146 [.ref 145, .int (nI (6 * r)), .int x2, z3] [.int k2, .int (nI (6 * r + 4)), .ref 155] v s3 K := by
    intro e w sb s3 x2 z3 k2 he hf hx hc
    refine st_M_rule_146 ?_
    rw [nt 4 (by decide), na5]
    exact ⟨nx 4 (by decide), fun _ => E160 e w _ _ _ _ _ _ he (fs _ 4 _ (by decide) hf) (ms _ _ 4 _ _ hc), fun _ => me_number (ts _ 4 _ hx) (ms _ _ 4 _ _ hc) (fun w2 s4 hc4 _ _ => E160 e w _ _ _ _ _ _ he (fs _ 4 _ (by decide) hf) hc4)⟩
  have E132 : ∀ (e w : Nat) (sb s3 : hS) (z2 z3 : Value) (k0 : Int32), pRule B N = .error (e, w) → Fr (fRd (6 * r)) s sb → tM sb B N → mE sb N (.error (e, w)) s3 → pgI (d + 4) 172 132 [.ref 145, .int (nI (6 * r)), z2, z3] [.int k0] v s3 K := by
    intro e w sb s3 z2 z3 k0 he hf hx hc
    refine st_M_rule_132 ?_
    rw [na4]
    exact ⟨fun _ => E146 e w _ _ _ _ _ he hf hx hc, fun _ => me_number hx hc (fun w2 s4 hc4 _ _ => E146 e w _ _ _ _ _ he hf hx hc4)⟩
  have E116 : ∀ (e w : Nat) (sb s3 : hS) (z2 z3 : Value) (k2 : Int32), pRule B N = .error (e, w) → Fr (fRd (6 * r)) s sb → tM sb B N → mE sb N (.error (e, w)) s3 → pgI (d + 4) 172 116 [.ref 145, .int (nI (6 * r)), z2, z3] [.int k2, .int (nI (6 * r + 3)), .ref 155] v s3 K := by
    intro e w sb s3 z2 z3 k2 he hf hx hc
    refine st_M_rule_116 ?_
    rw [nt 3 (by decide)]
    exact ⟨nx 3 (by decide), fun c => absurd c (nof e w sb s3 hc), fun _ => st_M_rule_131 (E132 e w _ _ _ _ _ he (fs _ 3 _ (by decide) hf) (ts _ 3 _ hx) (ms _ _ 3 _ _ hc))⟩
  have E102 : ∀ (e w : Nat) (sb s3 : hS) (x2 : Int32) (z3 : Value) (k2 : Int32), pRule B N = .error (e, w) → Fr (fRd (6 * r)) s sb → tM sb B N → mE sb N (.error (e, w)) s3 → pgI (d + 4) 172 102 [.ref 145, .int (nI (6 * r)), .int x2, z3] [.int k2, .int (nI (6 * r + 2)), .ref 155] v s3 K := by
    intro e w sb s3 x2 z3 k2 he hf hx hc
    refine st_M_rule_102 ?_
    rw [nt 2 (by decide), na3]
    exact ⟨nx 2 (by decide), fun _ => E116 e w _ _ _ _ _ he (fs _ 2 _ (by decide) hf) (ts _ 2 _ hx) (ms _ _ 2 _ _ hc), fun _ => me_number (ts _ 2 _ hx) (ms _ _ 2 _ _ hc) (fun w2 s4 hc4 _ _ => E116 e w _ _ _ _ _ he (fs _ 2 _ (by decide) hf) (ts _ 2 _ hx) hc4)⟩
  have E88 : ∀ (e w : Nat) (sb s3 : hS) (z2 z3 : Value) (k0 : Int32), pRule B N = .error (e, w) → Fr (fRd (6 * r)) s sb → tM sb B N → mE sb N (.error (e, w)) s3 → pgI (d + 4) 172 88 [.ref 145, .int (nI (6 * r)), z2, z3] [.int k0] v s3 K := by
    intro e w sb s3 z2 z3 k0 he hf hx hc
    refine st_M_rule_88 ?_
    rw [na2]
    exact ⟨fun _ => E102 e w _ _ _ _ _ he hf hx hc, fun _ => me_number hx hc (fun w2 s4 hc4 _ _ => E102 e w _ _ _ _ _ he hf hx hc4)⟩
  have E72 : ∀ (e w : Nat) (sb s3 : hS) (z2 z3 : Value) (k2 : Int32), pRule B N = .error (e, w) → Fr (fRd (6 * r)) s sb → tM sb B N → mE sb N (.error (e, w)) s3 → pgI (d + 4) 172 72 [.ref 145, .int (nI (6 * r)), z2, z3] [.int k2, .int (nI (6 * r + 1)), .ref 155] v s3 K := by
    intro e w sb s3 z2 z3 k2 he hf hx hc
    refine st_M_rule_72 ?_
    rw [nt 1 (by decide)]
    exact ⟨nx 1 (by decide), fun c => absurd c (nof e w sb s3 hc), fun _ => st_M_rule_87 (E88 e w _ _ _ _ _ he (fs _ 1 _ (by decide) hf) (ts _ 1 _ hx) (ms _ _ 1 _ _ hc))⟩
  have E58 : ∀ (e w : Nat) (sb s3 : hS) (z2 z3 : Value) (k0 : Int32), pRule B N = .error (e, w) → Fr (fRd (6 * r)) s sb → tM sb B N → mE sb N (.error (e, w)) s3 → pgI (d + 4) 172 58 [.ref 145, .int (nI (6 * r)), z2, z3] [.int k0] v s3 K := by
    intro e w sb s3 z2 z3 k0 he hf hx hc
    refine st_M_rule_58 ?_
    rw [na1]
    exact ⟨fun _ => E72 e w _ _ _ _ _ he hf hx hc, fun _ => me_number hx hc (fun w2 s4 hc4 _ _ => E72 e w _ _ _ _ _ he hf hx hc4)⟩
  have E43 : ∀ (e w : Nat) (sb s3 : hS) (z2 z3 : Value), pRule B N = .error (e, w) → Fr (fRd (6 * r)) s sb → tM sb B N → mE sb N (.error (e, w)) s3 → pgI (d + 4) 172 43 [.ref 145, .int (nI (6 * r)), z2, z3] [] v s3 K := by
    intro e w sb s3 z2 z3 he hf hx hc
    exact st_M_rule_43 ⟨fun c => absurd c (nof e w sb s3 hc), fun _ => st_M_rule_57 (E58 e w _ _ _ _ _ he hf hx hc)⟩
  -- no fault so far
  have RS : ∀ (sb : hS) (i j : Nat) (x : Int32), rI (sI sb 155 (6 * r + i) x) 155 (6 * r + j) = if j = i then x else rI sb 155 (6 * r + j) := fun sb i j x => by
    rw [r_II]
    by_cases e : j = i
    · rw [if_pos ⟨rfl, by omega⟩, if_pos e]
    · rw [if_neg (by omega), if_neg e]
  have G160 : ∀ (n l : Int) (c w : Int × Int) (q : Nat) (sb s3 : hS) (z1 z2 z3 : Value) (k2 : Int32), (pRule B N = if xs cBl B N q < N then .error (1, xs cBl B N q) else .ok (n, l, c, w)) → Fr (fRd (6 * r)) s sb → tM sb B N → mE sb N (.ok q) s3 → rM (6 * r) (sI sb 155 (6 * r + 5) k2) (n, l, c, w) → pgI (d + 4) 172 160 [.ref 145, z1, z2, z3] [.int k2, .int (nI (6 * r + 5)), .ref 155] v s3 K := by
    intro n l c w q sb s3 z1 z2 z3 k2 he hf hx hc hd
    have hx' := ts _ 5 k2 hx
    have hc' := ms _ _ 5 k2 _ hc
    have hf' := fs _ 5 k2 (by decide) hf
    refine st_M_rule_160 ?_
    rw [nt 5 (by decide)]
    refine ⟨nx 5 (by decide), fun _ => me_here hx' hc' (fun x s4 hxv hc4 => ?_), fun c2 => absurd ((me_fault hc).mpr ⟨q, rfl⟩) c2⟩
    have hqN := hc4.1
    by_cases hlt : xs cBl B N q < N
    · rw [if_pos hlt] at he
      have hx0 : ¬ x.toInt < 0 := by
        unfold bat at hxv; rw [if_pos hlt] at hxv
        have := (h.2.2 _ hlt).2.1
        omega
      refine ⟨fun z => absurd z hx0, fun _ => st_M_rule_171 ?_⟩
      obtain ⟨_, fi, le, rfl⟩ := hc4
      rw [m_at]
      exact sm_want0 (by decide) (fun z => absurd rfl z) (fun _ => ⟨fun _ => st_M_rule_178 (E179 1 _ _ _ _ _ _ _ he hf' ⟨by decide, by decide, hqN, _, _, _, rfl⟩), fun z => absurd rfl z⟩)
    · rw [if_neg hlt] at he
      have hx0 : x.toInt < 0 := by
        unfold bat at hxv; rw [if_neg hlt] at hxv; omega
      refine ⟨fun _ => st_M_rule_171 ?_, fun z => absurd hx0 z⟩
      have hrm4 : rI s4 145 18 = nI r := by rw [me_r hc4 (by decide), hf'.i (by unfold fRd; omega)]; exact hrm
      obtain ⟨_, fi, le, rfl⟩ := hc4
      rw [m_at]
      refine sm_want0 (by decide) (fun _ => ⟨fun z => absurd z (by decide), fun _ => st_M_rule_179 ?_⟩) (fun z => absurd z (by decide))
      rw [m_faultOf, hrm4]
      refine ⟨fun z => absurd z (by decide), fun _ => ?_⟩
      have ea : (nI r + 1 - 1 : Int32) = nI r := by
        rw [nI_1]; exact nI_pred r
      rw [ea]
      refine hok _ he _ ?_ ?_ ?_ ?_ ?_
      · intro c k nn
        have h1 : ¬ fRd (6 * r) c k := fun z => nn (Or.inl (Or.inl z))
        have h2 : ¬ (c = 145 ∧ 8 ≤ k ∧ k ≤ 14) := fun z => nn (Or.inl (Or.inr z))
        have h3 : ¬ (c = 145 ∧ k = 18) := fun z => nn (Or.inr z)
        refine ⟨?_, ?_⟩
        · rw [r_II, if_neg h3, r_II, if_neg (by omega), mS_ne _ _ _ _ _ _ (by omega)]; exact hf'.i h1
        · exact hf'.l h1
      · have key : ∀ j, rI (sI (sI (mS (sI sb 155 (6 * r + 5) k2) (nI (xs cBl B N q)) fi le 0 (-1)) 145 8 0) 145 18 (nI r + 1)) 155 j = rI (sI sb 155 (6 * r + 5) k2) 155 j := fun j => by
          rw [r_II, if_neg (by omega), r_II, if_neg (by omega), mS_ne _ _ _ _ _ _ (by omega)]
        unfold rM
        rw [key, key, key, key, key, key]
        exact hd
      · rw [r_II, if_pos ⟨rfl, rfl⟩, nI_1]
      · rw [r_II, if_neg (by decide), r_II, if_pos ⟨rfl, rfl⟩]
      · rw [r_II, if_neg (by decide), r_II, if_neg (by decide), mS_r, if_pos ⟨rfl, rfl⟩]
  have G132 : ∀ (n l : Int) (c : Int × Int) (q : Nat) (sb s3 : hS) (z2 z3 : Value) (k0 : Int32) (b : Bool), (pRule B N = bnd (if b then bnd (pNum B N 0 999 q) fun x => bnd (pNum B N 1 9 x.2) fun y => .ok ((x.1, y.1), y.2) else .ok ((-1, 0), q)) fun w => if xs cBl B N w.2 < N then .error (1, xs cBl B N w.2) else .ok (n, l, c, w.1)) → (k0.toInt = 0 ↔ b = false) → Fr (fRd (6 * r)) s sb → tM sb B N → mE sb N (.ok q) s3 → (rI sb 155 (6 * r + 0)).toInt = n → (rI sb 155 (6 * r + 1)).toInt = l → (rI sb 155 (6 * r + 2)).toInt = c.1 → (rI sb 155 (6 * r + 3)).toInt = c.2 → pgI (d + 4) 172 132 [.ref 145, .int (nI (6 * r)), z2, z3] [.int k0] v s3 K := by
    intro n l c q sb s3 z2 z3 k0 b he hb hf hx hc g0 g1 g2 g3
    have D : ∀ (x y : Int32) (t f : Int), x.toInt = t → y.toInt = f → rM (6 * r) (sI (sI sb 155 (6 * r + 4) x) 155 (6 * r + 5) y) (n, l, c, (t, f)) := by
      intro x y t f hxt hyf
      refine ⟨?_, ?_, ?_, ?_, ?_, ?_⟩
      · show (rI (sI (sI sb 155 (6 * r + 4) x) 155 (6 * r + 5) y) 155 (6 * r + 0)).toInt = n
        rw [RS, if_neg (by decide), RS, if_neg (by decide)]; exact g0
      · rw [RS, if_neg (by decide), RS, if_neg (by decide)]; exact g1
      · rw [RS, if_neg (by decide), RS, if_neg (by decide)]; exact g2
      · rw [RS, if_neg (by decide), RS, if_neg (by decide)]; exact g3
      · rw [RS, if_neg (by decide), RS, if_pos rfl]; exact hxt
      · rw [RS, if_pos rfl]; exact hyf
    refine st_M_rule_132 ?_
    rw [na4]
    refine ⟨fun z => ?_, fun z => ?_⟩
    · have hb0 := hb.mp z
      subst hb0
      refine st_M_rule_146 ?_
      rw [nt 4 (by decide), na5]
      exact ⟨nx 4 (by decide), fun _ => G160 n l c (-1, 0) q _ _ _ _ _ 0 he (fs _ 4 _ (by decide) hf) (ts _ 4 _ hx) (ms _ _ 4 _ _ hc) (D (-1) 0 (-1) 0 rfl rfl), fun z2 => absurd z z2⟩
    · have hb1 : b = true := by
        cases b with
        | true => rfl
        | false => exact absurd (hb.mpr rfl) z
      subst hb1
      have he : pRule B N = bnd (bnd (pNum B N 0 999 q) fun x => bnd (pNum B N 1 9 x.2) fun y => .ok ((x.1, y.1), y.2)) fun w => if xs cBl B N w.2 < N then .error (1, xs cBl B N w.2) else .ok (n, l, c, w.1) := he
      refine me_number hx hc (fun w2 s4 hc4 hv4 _ => ?_)
      rw [e0, e999] at hc4 hv4
      have hc4 : mE sb N (bnd (pNum B N 0 999 q) fun y => .ok y.2) s4 := hc4
      cases e : pNum B N 0 999 q with
      | error y =>
        obtain ⟨f, w⟩ := y
        rw [e] at hc4 he
        exact E146 f w _ _ _ _ _ he hf hx hc4
      | ok y =>
        have hv1 := hv4 q y.1 y.2 rfl e
        rw [e] at hc4 he
        have he : pRule B N = bnd (bnd (pNum B N 1 9 y.2) fun z => .ok ((y.1, z.1), z.2)) fun w => if xs cBl B N w.2 < N then .error (1, xs cBl B N w.2) else .ok (n, l, c, w.1) := he
        refine st_M_rule_146 ?_
        rw [nt 4 (by decide), na5]
        refine ⟨nx 4 (by decide), fun z2 => absurd z2 z, fun _ => me_number (ts _ 4 _ hx) (ms _ _ 4 _ _ hc4) (fun w5 s5 hc5 hv5 _ => ?_)⟩
        rw [e1, e9] at hc5 hv5
        have hc5 : mE (sI sb 155 (6 * r + 4) w2) N (bnd (pNum B N 1 9 y.2) fun y => .ok y.2) s5 := hc5
        cases e2 : pNum B N 1 9 y.2 with
        | error y2 =>
          obtain ⟨f, w⟩ := y2
          rw [e2] at hc5 he
          exact E160 f w _ _ _ _ _ _ he (fs _ 4 _ (by decide) hf) hc5
        | ok y2 =>
          have hv2 := hv5 y.2 y2.1 y2.2 rfl e2
          rw [e2] at hc5 he
          exact G160 n l c (y.1, y2.1) y2.2 _ _ _ _ _ w5 he (fs _ 4 _ (by decide) hf) (ts _ 4 _ hx) hc5 (D w2 w5 _ _ hv1 hv2)
  have G116 : ∀ (n l : Int) (c : Int × Int) (q : Nat) (sb s3 : hS) (z2 z3 : Value) (k2 : Int32), (pRule B N = bnd (pOpt2 B N 15 q) fun w => if xs cBl B N w.2 < N then .error (1, xs cBl B N w.2) else .ok (n, l, c, w.1)) → k2.toInt = c.2 → Fr (fRd (6 * r)) s sb → tM sb B N → mE sb N (.ok q) s3 → (rI sb 155 (6 * r + 0)).toInt = n → (rI sb 155 (6 * r + 1)).toInt = l → (rI sb 155 (6 * r + 2)).toInt = c.1 → pgI (d + 4) 172 116 [.ref 145, .int (nI (6 * r)), z2, z3] [.int k2, .int (nI (6 * r + 3)), .ref 155] v s3 K := by
    intro n l c q sb s3 z2 z3 k2 he hk2 hf hx hc g0 g1 g2
    have hx' := ts _ 3 k2 hx
    have hf' := fs _ 3 k2 (by decide) hf
    have q0 : (rI (sI sb 155 (6 * r + 3) k2) 155 (6 * r + 0)).toInt = n := by rw [RS, if_neg (by decide)]; exact g0
    have q1 : (rI (sI sb 155 (6 * r + 3) k2) 155 (6 * r + 1)).toInt = l := by rw [RS, if_neg (by decide)]; exact g1
    have q2 : (rI (sI sb 155 (6 * r + 3) k2) 155 (6 * r + 2)).toInt = c.1 := by rw [RS, if_neg (by decide)]; exact g2
    have q3 : (rI (sI sb 155 (6 * r + 3) k2) 155 (6 * r + 3)).toInt = c.2 := by rw [RS, if_pos rfl]; exact hk2
    refine st_M_rule_116 ?_
    rw [nt 3 (by decide)]
    refine ⟨nx 3 (by decide), fun _ => me_isNext hx' (ms _ _ 3 _ _ hc) (j := 15) (by decide) (by decide +kernel) (by decide +kernel) (by decide +kernel) (by decide +kernel) (by decide +kernel) (by decide +kernel) (fun s4 hc4 => ?_), fun z => absurd ((me_fault hc).mpr ⟨q, rfl⟩) z⟩
    unfold pOpt2 at he
    by_cases hm : mtb B N (xs cBl B N q) 15 = true
    · rw [if_pos hm] at hc4 he ⊢
      exact ⟨fun z => absurd z (by decide), fun _ => G132 n l c _ _ _ _ _ 1 true he ⟨fun z => absurd z (by decide), fun z => by cases z⟩ hf' hx' hc4 q0 q1 q2 q3⟩
    · rw [if_neg hm] at hc4 he ⊢
      exact ⟨fun _ => st_M_rule_131 (G132 n l c _ _ _ _ _ 0 false he ⟨fun _ => rfl, fun _ => rfl⟩ hf' hx' hc4 q0 q1 q2 q3), fun z => absurd rfl z⟩
  have G88 : ∀ (n l : Int) (q : Nat) (sb s3 : hS) (z2 z3 : Value) (k0 : Int32) (b : Bool), (pRule B N = bnd (if b then bnd (pNum B N 0 999 q) fun x => bnd (pNum B N 1 9 x.2) fun y => .ok ((x.1, y.1), y.2) else .ok ((-1, 0), q)) fun c => bnd (pOpt2 B N 15 c.2) fun w => if xs cBl B N w.2 < N then .error (1, xs cBl B N w.2) else .ok (n, l, c.1, w.1)) → (k0.toInt = 0 ↔ b = false) → Fr (fRd (6 * r)) s sb → tM sb B N → mE sb N (.ok q) s3 → (rI sb 155 (6 * r + 0)).toInt = n → (rI sb 155 (6 * r + 1)).toInt = l → pgI (d + 4) 172 88 [.ref 145, .int (nI (6 * r)), z2, z3] [.int k0] v s3 K := by
    intro n l q sb s3 z2 z3 k0 b he hb hf hx hc g0 g1
    have q0 : ∀ x, (rI (sI sb 155 (6 * r + 2) x) 155 (6 * r + 0)).toInt = n := fun x => by rw [RS, if_neg (by decide)]; exact g0
    have q1 : ∀ x, (rI (sI sb 155 (6 * r + 2) x) 155 (6 * r + 1)).toInt = l := fun x => by rw [RS, if_neg (by decide)]; exact g1
    have q2 : ∀ x, (rI (sI sb 155 (6 * r + 2) x) 155 (6 * r + 2)) = x := fun x => by rw [RS, if_pos rfl]
    refine st_M_rule_88 ?_
    rw [na2]
    refine ⟨fun z => ?_, fun z => ?_⟩
    · have hb0 := hb.mp z
      subst hb0
      refine st_M_rule_102 ?_
      rw [nt 2 (by decide), na3]
      exact ⟨nx 2 (by decide), fun _ => G116 n l (-1, 0) q _ _ _ _ 0 he rfl (fs _ 2 _ (by decide) hf) (ts _ 2 _ hx) (ms _ _ 2 _ _ hc) (q0 _) (q1 _) (by rw [q2]; rfl), fun z2 => absurd z z2⟩
    · have hb1 : b = true := by
        cases b with
        | true => rfl
        | false => exact absurd (hb.mpr rfl) z
      subst hb1
      have he : pRule B N = bnd (bnd (pNum B N 0 999 q) fun x => bnd (pNum B N 1 9 x.2) fun y => .ok ((x.1, y.1), y.2)) fun c => bnd (pOpt2 B N 15 c.2) fun w => if xs cBl B N w.2 < N then .error (1, xs cBl B N w.2) else .ok (n, l, c.1, w.1) := he
      refine me_number hx hc (fun w2 s4 hc4 hv4 _ => ?_)
      rw [e0, e999] at hc4 hv4
      have hc4 : mE sb N (bnd (pNum B N 0 999 q) fun y => .ok y.2) s4 := hc4
      cases e : pNum B N 0 999 q with
      | error y =>
        obtain ⟨f, w⟩ := y
        rw [e] at hc4 he
        exact E102 f w _ _ _ _ _ he hf hx hc4
      | ok y =>
        have hv1 := hv4 q y.1 y.2 rfl e
        rw [e] at hc4 he
        have he : pRule B N = bnd (bnd (pNum B N 1 9 y.2) fun z => .ok ((y.1, z.1), z.2)) fun c => bnd (pOpt2 B N 15 c.2) fun w => if xs cBl B N w.2 < N then .error (1, xs cBl B N w.2) else .ok (n, l, c.1, w.1) := he
        refine st_M_rule_102 ?_
        rw [nt 2 (by decide), na3]
        refine ⟨nx 2 (by decide), fun z2 => absurd z2 z, fun _ => me_number (ts _ 2 _ hx) (ms _ _ 2 _ _ hc4) (fun w5 s5 hc5 hv5 _ => ?_)⟩
        rw [e1, e9] at hc5 hv5
        have hc5 : mE (sI sb 155 (6 * r + 2) w2) N (bnd (pNum B N 1 9 y.2) fun y => .ok y.2) s5 := hc5
        cases e2 : pNum B N 1 9 y.2 with
        | error y2 =>
          obtain ⟨f, w⟩ := y2
          rw [e2] at hc5 he
          exact E116 f w _ _ _ _ _ he (fs _ 2 _ (by decide) hf) (ts _ 2 _ hx) hc5
        | ok y2 =>
          have hv2 := hv5 y.2 y2.1 y2.2 rfl e2
          rw [e2] at hc5 he
          exact G116 n l (y.1, y2.1) y2.2 _ _ _ _ w5 he hv2 (fs _ 2 _ (by decide) hf) (ts _ 2 _ hx) hc5 (q0 _) (q1 _) (by rw [q2]; exact hv1)
  have G72 : ∀ (n l : Int) (q : Nat) (sb s3 : hS) (z2 z3 : Value) (k2 : Int32), (pRule B N = bnd (pOpt2 B N 14 q) fun c => bnd (pOpt2 B N 15 c.2) fun w => if xs cBl B N w.2 < N then .error (1, xs cBl B N w.2) else .ok (n, l, c.1, w.1)) → k2.toInt = l → Fr (fRd (6 * r)) s sb → tM sb B N → mE sb N (.ok q) s3 → (rI sb 155 (6 * r + 0)).toInt = n → pgI (d + 4) 172 72 [.ref 145, .int (nI (6 * r)), z2, z3] [.int k2, .int (nI (6 * r + 1)), .ref 155] v s3 K := by
    intro n l q sb s3 z2 z3 k2 he hk2 hf hx hc g0
    have hx' := ts _ 1 k2 hx
    have hf' := fs _ 1 k2 (by decide) hf
    have q0 : (rI (sI sb 155 (6 * r + 1) k2) 155 (6 * r + 0)).toInt = n := by rw [RS, if_neg (by decide)]; exact g0
    have q1 : (rI (sI sb 155 (6 * r + 1) k2) 155 (6 * r + 1)).toInt = l := by rw [RS, if_pos rfl]; exact hk2
    refine st_M_rule_72 ?_
    rw [nt 1 (by decide)]
    refine ⟨nx 1 (by decide), fun _ => me_isNext hx' (ms _ _ 1 _ _ hc) (j := 14) (by decide) (by decide +kernel) (by decide +kernel) (by decide +kernel) (by decide +kernel) (by decide +kernel) (by decide +kernel) (fun s4 hc4 => ?_), fun z => absurd ((me_fault hc).mpr ⟨q, rfl⟩) z⟩
    unfold pOpt2 at he
    by_cases hm : mtb B N (xs cBl B N q) 14 = true
    · rw [if_pos hm] at hc4 he ⊢
      exact ⟨fun z => absurd z (by decide), fun _ => G88 n l _ _ _ _ _ 1 true he ⟨fun z => absurd z (by decide), fun z => by cases z⟩ hf' hx' hc4 q0 q1⟩
    · rw [if_neg hm] at hc4 he ⊢
      exact ⟨fun _ => st_M_rule_87 (G88 n l _ _ _ _ _ 0 false he ⟨fun _ => rfl, fun _ => rfl⟩ hf' hx' hc4 q0 q1), fun z => absurd rfl z⟩
  have G43 : ∀ (n : Int) (q : Nat) (sb s3 : hS) (z2 z3 : Value), (pRule B N = bnd (pOpt B N 13 0 8 q) fun l => bnd (pOpt2 B N 14 l.2) fun c => bnd (pOpt2 B N 15 c.2) fun w => if xs cBl B N w.2 < N then .error (1, xs cBl B N w.2) else .ok (n, l.1, c.1, w.1)) → Fr (fRd (6 * r)) s sb → tM sb B N → mE sb N (.ok q) s3 → (rI sb 155 (6 * r + 0)).toInt = n → pgI (d + 4) 172 43 [.ref 145, .int (nI (6 * r)), z2, z3] [] v s3 K := by
    intro n q sb s3 z2 z3 he hf hx hc g0
    refine st_M_rule_43 ⟨fun _ => me_isNext hx hc (j := 13) (by decide) (by decide +kernel) (by decide +kernel) (by decide +kernel) (by decide +kernel) (by decide +kernel) (by decide +kernel) (fun s4 hc4 => ?_), fun z => absurd ((me_fault hc).mpr ⟨q, rfl⟩) z⟩
    unfold pOpt at he
    by_cases hm : mtb B N (xs cBl B N q) 13 = true
    · rw [if_pos hm] at hc4 he ⊢
      refine ⟨fun z => absurd z (by decide), fun _ => st_M_rule_58 ?_⟩
      rw [na1]
      refine ⟨fun z => absurd z (by decide), fun _ => me_number hx hc4 (fun w2 s5 hc5 hv5 _ => ?_)⟩
      rw [e0, e8] at hc5 hv5
      have hc5 : mE sb N (bnd (pNum B N 0 8 (xs cBl B N q + wn 13)) fun y => .ok y.2) s5 := hc5
      cases e : pNum B N 0 8 (xs cBl B N q + wn 13) with
      | error y =>
        obtain ⟨f, w⟩ := y
        rw [e] at hc5 he
        exact E72 f w _ _ _ _ _ he hf hx hc5
      | ok y =>
        have hv1 := hv5 _ y.1 y.2 rfl e
        rw [e] at hc5 he
        exact G72 n y.1 y.2 _ _ _ _ w2 he hv1 hf hx hc5 g0
    · rw [if_neg hm] at hc4 he ⊢
      refine ⟨fun _ => st_M_rule_57 (st_M_rule_58 ?_), fun z => absurd rfl z⟩
      rw [na1]
      exact ⟨fun _ => G72 n (-1) _ _ _ _ _ (-1) he rfl hf hx hc4 g0, fun z => absurd rfl z⟩
  refine st_M_rule ?_
  rw [h.1, hrm, nI_toInt (by omega), nI_toInt (by omega)]
  refine ⟨fun z => absurd z (by omega), fun _ => ⟨fun z => absurd z (by omega), fun _ => st_M_beginReading ?_⟩⟩
  rw [mS_begin]
  have e6 : (6 : Int32) * nI r = nI (6 * r) := pk_mul 6 r
  have er : rI (mS s 0 (rI s 145 10) (rI s 145 11) 0 (-1)) 145 18 = nI r := by rw [mS_ne _ _ _ _ _ _ (by decide)]; exact hrm
  rw [er, e6]
  refine sm_takeWord (a := 0) h (Nat.zero_le _) ?_
  have hq := xs_le (P := cBl) (B := B) (Nat.zero_le N)
  generalize hgq : xs cBl B N 0 = q at hq
  refine sm_isWord h hq (j := 12) (by decide) (by decide +kernel) (by decide +kernel) (by decide +kernel) (by decide +kernel) (by decide +kernel) (by decide +kernel) ?_
  rw [m_first]
  by_cases hm : mtb B N q 12 = true
  · rw [if_pos hm]
    have hl := mtb_len (by decide) hm
    have he : pRule B N = bnd (pNum B N 1 60 (q + wn 12)) fun n => bnd (pOpt B N 13 0 8 n.2) fun l => bnd (pOpt2 B N 14 l.2) fun c => bnd (pOpt2 B N 15 c.2) fun w => if xs cBl B N w.2 < N then .error (1, xs cBl B N w.2) else .ok (n.1, l.1, c.1, w.1) := by
      unfold pRule; rw [hgq, if_neg (fun z => z hm)]
    refine sm_want0 (by decide) (fun _ => ⟨fun z => absurd z (by decide), fun _ => ?_⟩) (fun z => absurd z (by decide))
    have hc0 : mE s N (.ok (q + wn 12)) (mS s (nI (xs cL B N q)) (nI q) (nI (xs cL B N q - q)) 0 (-1)) := ⟨by rw [← hl]; exact xs_le hq, _, _, by rw [hl]⟩
    refine me_number h hc0 (fun w8 s8 hc8 hv8 _ => ?_)
    rw [e1, e60] at hc8 hv8
    have hc8 : mE s N (bnd (pNum B N 1 60 (q + wn 12)) fun y => .ok y.2) s8 := hc8
    have n0 := nx 0 (by decide)
    have t0 := nt 0 (by decide)
    rw [Nat.add_zero] at n0 t0
    rw [t0]
    refine ⟨n0, ?_⟩
    have f0 := fs s 0 w8 (by decide) (Fr.rf _ s)
    have x0 := ts s 0 w8 h
    have c0 := ms s s8 0 w8 _ hc8
    rw [Nat.add_zero] at f0 x0 c0
    cases e : pNum B N 1 60 (q + wn 12) with
    | error y =>
      obtain ⟨f, w⟩ := y
      rw [e] at c0 he
      exact E43 f w _ _ _ _ he f0 x0 c0
    | ok y =>
      have hv1 := hv8 _ y.1 y.2 rfl e
      rw [e] at c0 he
      refine G43 y.1 y.2 _ _ _ _ he f0 x0 c0 ?_
      rw [Nat.add_zero, r_II, if_pos ⟨rfl, rfl⟩]; exact hv1
  · rw [if_neg hm]
    have he : pRule B N = .error (1, q) := by unfold pRule; rw [hgq, if_pos hm]
    exact sm_want0 (by decide) (fun z => absurd rfl z) (fun _ => ⟨fun _ => E43 1 q s _ _ _ he (Fr.rf _ _) h ⟨by decide, by decide, hq, _, _, _, rfl⟩, fun z => absurd rfl z⟩)
end
