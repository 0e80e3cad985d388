/-! TEXTS: the class reads a tent -/
def loV (i : Nat) : Int := if i = 5 then 1 else 0
def hiV (i : Nat) : Int := match i with
  | 0 => 5
  | 1 => 100
  | 2 => 200
  | 3 => 200
  | 4 => 99
  | _ => 999
/-- the first value of a clause -/
def fvN (j : Nat) : Nat := match j with
  | 6 => 7
  | 7 => 8
  | 8 => 9
  | j => j
def unt (i : Nat) : Int := match i with
  | 0 => 2
  | 1 => 20
  | 2 => 40
  | 3 => 30
  | 4 => 10
  | 5 => 300
  | 6 => 60
  | 7 => 150
  | _ => 0
theorem tab1 : ∀ i, i < 9 → ((pe_ro 0 (fun _ => 0) 1).2.1 i).toInt = unt i := by decide +kernel
theorem tab2 : ∀ j, j < 9 → (pe_ro 0 (fun _ => 0) 2).2.1 j = nI (fvN j) := by decide +kernel
theorem tab3 : ∀ i, i < 9 → ((pe_ro 0 (fun _ => 0) 3).2.1 i).toInt = loV i := by decide +kernel
theorem tab4 : ∀ i, i < 9 → ((pe_ro 0 (fun _ => 0) 4).2.1 i).toInt = hiV i := by decide +kernel
def upZ {α : Type} (V : Nat → α) (i : Nat) (x : α) : Nat → α := fun k => if k = i then x else V k
abbrev rgL : Type := List (Int × Int)
/-- values, clauses that stand, POLES, PEGS -/
abbrev TD : Type := (Nat → Int) × (Nat → Bool) × rgL × rgL
def pRing (B : Nat → Int) (N : Nat) (L : rgL) (first p : Nat) : Except (Nat × Nat) (rgL × Nat) :=
  if 16 ≤ L.length then .error (3, first) else
  bnd (pNum B N 0 23 p) fun x =>
  if L.any (fun y => decide (y.1 = x.1)) = true then .error (4, xs cBl B N p) else
  bnd (pNum B N 1 999 x.2) fun y => bnd (pSign B N 59 y.2) fun q => .ok (L ++ [(x.1, y.1)], q)
def pVals (B : Nat → Int) (N : Nat) (V : Nat → Int) (j p : Nat) : Except (Nat × Nat) ((Nat → Int) × Nat) :=
  bnd (pNum B N (loV (fvN j)) (hiV (fvN j)) p) fun x =>
  if j = 5 then bnd (pNum B N (loV 6) (hiV 6) x.2) fun y => bnd (pSign B N 59 y.2) fun q => .ok (upZ (upZ V (fvN j) x.1) 6 y.1, q)
  else bnd (pSign B N 59 x.2) fun q => .ok (upZ V (fvN j) x.1, q)
/-- the first of the words that stands at p; 10: none -/
def pK (B : Nat → Int) (N p : Nat) : Nat → Nat → Nat
  | 0, _ => 10
  | f + 1, i => if mtb B N p i = true then i else pK B N p f (i + 1)
def pKind (B : Nat → Int) (N p : Nat) : Nat := pK B N p 10 0
def pClause (B : Nat → Int) (N : Nat) (D : TD) (p : Nat) : Except (Nat × Nat) (TD × Nat) :=
  if pKind B N p = 10 then .error (1, p)
  else if pKind B N p = 8 then bnd (pRing B N D.2.2.1 p (p + wn 8)) fun x => .ok ((D.1, D.2.1, x.1, D.2.2.2), x.2)
  else if pKind B N p = 9 then bnd (pRing B N D.2.2.2 p (p + wn 9)) fun x => .ok ((D.1, D.2.1, D.2.2.1, x.1), x.2)
  else if D.2.1 (pKind B N p) = true then .error (3, p)
  else bnd (pVals B N D.1 (pKind B N p) (p + wn (pKind B N p))) fun x => .ok ((x.1, upZ D.2.1 (pKind B N p) true, D.2.2.1, D.2.2.2), x.2)
def pTent (B : Nat → Int) (N : Nat) : Nat → TD → Nat → Nat → Except (Nat × Nat) (TD × Nat)
  | 0, D, _, n => .ok (D, n)
  | f + 1, D, p, n => if xs cBl B N p < N then bnd (pClause B N D (xs cBl B N p)) fun x => pTent B N f x.1 x.2 (n + 1) else .ok (D, n)
def pTent0 : TD := (unt, fun _ => false, [], [])
/-! the class's draft -/
def dR (r : Nat) (s : hS) (L : rgL) : Prop := rI s r 2 = nI L.length ∧ L.length ≤ 16 ∧ ∀ k, k < L.length → (rI s (r + 1) k).toInt = (L.getD k (0, 0)).1 ∧ (rI s (r + 2) k).toInt = (L.getD k (0, 0)).2
def fR (r c _k : Nat) : Prop := c = r ∨ c = r + 1 ∨ c = r + 2
theorem dR_fr {r : Nat} {s s1 : hS} {L : rgL} {W : Nat → Nat → Prop} (h : dR r s L) (hf : Fr W s s1) (hw : ∀ c k, fR r c k → ¬ W c k) : dR r s1 L := by
  obtain ⟨h1, h2, h3⟩ := h
  refine ⟨by rw [hf.i (hw _ _ (Or.inl rfl))]; exact h1, h2, fun k hk => ?_⟩
  rw [hf.i (hw _ _ (Or.inr (Or.inl rfl))), hf.i (hw _ _ (Or.inr (Or.inr rfl)))]
  exact h3 k hk
section
variable {d : Nat} {v : hV} {s s1 : hS} {B : Nat → Int} {N : Nat}
theorem sp_isTaken {rg : Nat} (hr : kR rg) {L : rgL} (hd : dR rg s L) {x : Int32} {K : Int32 → hS → Prop} (hK : K (if L.any (fun y => decide (y.1 = x.toInt)) = true then 1 else 0) s) : pcI d 42 [.ref rg, .int x] v s K := by
  obtain ⟨h1, h2, h3⟩ := hd
  refine st_Ring_isTaken hr ?_
  have G : ∀ m i : Nat, L.length - i ≤ m → i ≤ L.length → (∀ k, k < i → (L.getD k (0, 0)).1 ≠ x.toInt) → pgI d 42 2 [.ref rg, .int x, .int (nI i)] [] v s K := by
    intro m
    induction m with
    | zero =>
      intro i hm hi hk
      refine st_Ring_isTaken_2 hr ⟨fun c => absurd c ?_, fun _ => ?_⟩
      · rw [h1, nI_toInt (by omega), nI_toInt (by omega)]; omega
      · have hn : ¬ L.any (fun y => decide (y.1 = x.toInt)) = true := fun z => by
          obtain ⟨y, hy, he⟩ := List.any_eq_true.mp z
          obtain ⟨k, hk2, rfl⟩ := List.getElem_of_mem hy
          have := hk k (by omega)
          rw [List.getD_eq_getElem?_getD, List.getElem?_eq_getElem hk2] at this
          exact this (of_decide_eq_true he)
        rw [if_neg hn] at hK; exact hK
    | succ m ih =>
      intro i hm hi hk
      refine st_Ring_isTaken_2 hr ⟨fun c => ?_, fun c => ?_⟩
      · rw [h1, nI_toInt (by omega), nI_toInt (by omega)] at c
        have hil : i < L.length := by omega
        have h4 := (h3 i hil).1
        rw [nI_toInt (by omega), Int.toNat_natCast, h4, nI_1]
        refine ⟨by omega, fun c2 => ?_, fun c2 => ih (i + 1) (by omega) (by omega) (fun k hk2 => ?_)⟩
        · have hy : L.any (fun y => decide (y.1 = x.toInt)) = true := by
            refine List.any_eq_true.mpr ⟨L[i], List.getElem_mem hil, ?_⟩
            rw [List.getD_eq_getElem?_getD, List.getElem?_eq_getElem hil] at c2
            exact decide_eq_true c2
          rw [if_pos hy] at hK; exact hK
        · by_cases hki : k = i
          · rw [hki]; exact c2
          · exact hk k (by omega)
      · rw [h1, nI_toInt (by omega), nI_toInt (by omega)] at c
        have hn : ¬ L.any (fun y => decide (y.1 = x.toInt)) = true := fun z => by
          obtain ⟨y, hy, he⟩ := List.any_eq_true.mp z
          obtain ⟨k, hk2, rfl⟩ := List.getElem_of_mem hy
          have := hk k (by omega)
          rw [List.getD_eq_getElem?_getD, List.getElem?_eq_getElem hk2] at this
          exact this (of_decide_eq_true he)
        rw [if_neg hn] at hK; exact hK
  exact G _ 0 (Nat.le_refl _) (Nat.zero_le _) (fun k hk => absurd hk (Nat.not_lt_zero k))
theorem kR_in {rg : Nat} (h : kR rg) : 51 ≤ rg ∧ rg ≤ 80 := by unfold kR at h; omega
theorem sp_ringRead (h : tX s B N) {p first : Nat} (hf : first ≤ N) (hc : cE s N (.ok p) s1) {rg : Nat} (hr : kR rg) {L : rgL} (hd : dR rg s L) {K : hS → Prop} (hK : ∀ sb s2, Fr (fR rg) s sb → tX sb B N → cE sb N (bnd (pRing B N L first p) fun x => .ok x.2) s2 → (∀ x, pRing B N L first p = .ok x → dR rg sb x.1) → K s2) : pcV (d + 3) 39 [.ref rg, .ref 49, .int (nI first)] v s1 K := by
  have hk := kR_in hr
  have hp := hc.1
  refine st_Ring_read hr ?_
  rw [ce_r hc (by omega), hd.1, nI_toInt (by have := hd.2.1; omega)]
  refine ⟨fun c => ce_pass h hc (fun s2 hc2 => ?_), fun c => ?_⟩
  · have hL : ¬ 16 ≤ L.length := by omega
    have ew : rI s2 49 2 = nI (xs cBl B N p) := by rw [hc2.2, tS_r]; rfl
    rw [ew]
    have hwN : xs cBl B N p ≤ N := hc2.1
    refine ce_number h hc2 (fun w3 s3 hc3 hv3 => sp_isTaken hr (L := L) (dR_fr hd (W := fun c _ => c = 49) (fun c' k' n => ⟨ce_r hc3 n, ?_⟩) (fun c' k' z => by unfold fR at z; omega)) ?_)
    · revert hc3
      generalize (bnd (bnd (.ok p) fun p => .ok (xs cBl B N p)) fun p => bnd (pNum B N (Int32.toInt 0) (Int32.toInt 23) p) fun y => .ok y.2 : Except (Nat × Nat) Nat) = r3
      intro hc3
      match r3, hc3 with
      | .ok p, hc => obtain ⟨hp, rfl⟩ := hc; rfl
      | .error (f, w2), hc => obtain ⟨h2, h3, h4, a, ha, rfl⟩ := hc; rfl
    have e0 : Int32.toInt 0 = 0 := rfl
    have e23 : Int32.toInt 23 = 23 := rfl
    have e1 : Int32.toInt 1 = 1 := rfl
    have e999 : Int32.toInt 999 = 999 := rfl
    have e59 : Int32.toInt 59 = 59 := rfl
    have hc3' : cE s N (bnd (pNum B N 0 23 p) fun y => .ok y.2) s3 := by
      have := hc3
      rw [e0, e23] at this
      show cE s N (bnd (pNum B N 0 23 p) fun y => .ok y.2) s3
      rw [← pNum_xs]; exact this
    have hv : ∀ z q, pNum B N 0 23 p = .ok (z, q) → w3.toInt = z := fun z q e => by
      refine hv3 _ z q rfl ?_
      rw [e0, e23, pNum_xs]; exact e
    -- what is left behind the two numbers and the sign
    have T : ∀ (r4 : Except (Nat × Nat) Nat) (s4 : hS), cE s N r4 s4 → (∀ q, r4 = .ok q → ∃ z, pNum B N 0 23 p = .ok (z, q) ∧ ¬ L.any (fun y => decide (y.1 = z)) = true) → (bnd (pRing B N L first p) fun x => (.ok x.2 : Except (Nat × Nat) Nat)) = bnd r4 (fun q => bnd (pNum B N 1 999 q) fun y => pSign B N 59 y.2) → pcI (d + 2) 40 [.ref 49, .int 1, .int 999] v s4 (fun w6 s6 => pcV (d + 2) 43 [.ref 49, .int 59] v s6 (fun s7 => ((rI s7 49 3).toInt = 0 → (0 ≤ (rI s7 rg 2).toInt ∧ (rI s7 rg 2).toInt < 16) ∧ ((0 ≤ (rI s7 rg 2).toInt ∧ (rI s7 rg 2).toInt < 16) ∧ (K (sI (sI (sI s7 (rg + 1) (rI s7 rg 2).toInt.toNat w3) (rg + 2) (rI s7 rg 2).toInt.toNat w6) rg 2 ((rI s7 rg 2) + 1))))) ∧ (¬ (rI s7 49 3).toInt = 0 → K s7))) := by
      intro r4 s4 hc4 hok hre
      refine ce_number h hc4 (fun w6 s6 hc6 hv6 => ce_sign h hc6 (by decide) (fun s7 hc7 => ?_))
      rw [e1, e999] at hc7 hv6
      rw [e59] at hc7
      have hre7 : (bnd (bnd r4 fun p => bnd (pNum B N 1 999 p) fun y => (.ok y.2 : Except (Nat × Nat) Nat)) fun p => pSign B N 59 p) = bnd (pRing B N L first p) fun x => .ok x.2 := by
        rw [hre]
        cases r4 with
        | error e => rfl
        | ok q =>
          show bnd (bnd (pNum B N 1 999 q) fun y => .ok y.2) _ = bnd (pNum B N 1 999 q) _
          cases pNum B N 1 999 q with
          | error e => rfl
          | ok y => rfl
      rw [hre7] at hc7
      have hm : rI s7 rg 2 = nI L.length := by rw [ce_r hc7 (by omega)]; exact hd.1
      refine ⟨fun c7 => ?_, fun c7 => hK s s7 (Fr.rf _ _) h hc7 (fun x hx => absurd ((ce_fault hc7).mpr ⟨x.2, by rw [hx]; rfl⟩) c7)⟩
      obtain ⟨q7, hq7⟩ := (ce_fault hc7).mp c7
      rw [hm, nI_toInt (by omega), Int.toNat_natCast]
      refine ⟨by omega, by omega, ?_⟩
      have hrw : ∃ z4 q4 z6 q6 : _, pNum B N 0 23 p = .ok (z4, q4) ∧ ¬ L.any (fun y => decide (y.1 = z4)) = true ∧ r4 = .ok q4 ∧ pNum B N 1 999 q4 = .ok (z6, q6) := by
        rw [hre] at hq7
        cases r4 with
        | error e => cases hq7
        | ok q4 =>
          obtain ⟨z4, hz4, hn4⟩ := hok q4 rfl
          cases e6 : pNum B N 1 999 q4 with
          | error e => exact absurd hq7 (by show bnd (bnd (.ok q4) _) _ = _ → False; intro z; simp only [bnd, e6] at z; cases z)
          | ok y => exact ⟨z4, q4, y.1, y.2, hz4, hn4, rfl, e6⟩
      obtain ⟨z4, q4, z6, q6, a1, a2, a3, a4⟩ := hrw
      have v3 : w3.toInt = z4 := hv _ _ a1
      have v6 : w6.toInt = z6 := hv6 q4 _ _ a3 a4
      have hfr : Fr (fR rg) s (sI (sI (sI s (rg + 1) L.length w3) (rg + 2) L.length w6) rg 2 (nI L.length + 1)) := (((Fr.rf _ s).sI (by unfold fR; omega)).sI (by unfold fR; omega)).sI (by unfold fR; omega)
      refine hK (sI (sI (sI s (rg + 1) L.length w3) (rg + 2) L.length w6) rg 2 (nI L.length + 1)) _ hfr (tX_sI (tX_sI (tX_sI h (by omega)) (by omega)) (by omega)) (ce_sI (ce_sI (ce_sI hc7 (by omega)) (by omega)) (by omega)) ?_
      rintro ⟨L', q'⟩ hx
      have hL' : L' = L ++ [(z4, z6)] := by
        unfold pRing at hx
        rw [if_neg hL, a1] at hx
        simp only [bnd] at hx
        rw [if_neg a2, a4] at hx
        simp only [] at hx
        cases e9 : pSign B N 59 q6 with
        | error e => rw [e9] at hx; cases hx
        | ok q => rw [e9] at hx; injection hx with hx; injection hx with hx1 hx2; exact hx1.symm
      rw [hL']
      refine ⟨?_, by rw [List.length_append]; simp; omega, fun k hk2 => ?_⟩
      · rw [r_II, if_pos ⟨rfl, rfl⟩, nI_1, List.length_append]; rfl
      · rw [List.length_append] at hk2
        have hk2 : k < L.length + 1 := hk2
        have R1 : rI (sI (sI (sI s (rg + 1) L.length w3) (rg + 2) L.length w6) rg 2 (nI L.length + 1)) (rg + 1) k = if rg + 1 = rg + 1 ∧ k = L.length then w3 else rI s (rg + 1) k := by
          rw [r_II, if_neg (show ¬ (rg + 1 = rg ∧ k = 2) by omega), r_II, if_neg (show ¬ (rg + 1 = rg + 2 ∧ k = L.length) by omega), r_II]
        have R2 : rI (sI (sI (sI s (rg + 1) L.length w3) (rg + 2) L.length w6) rg 2 (nI L.length + 1)) (rg + 2) k = if rg + 2 = rg + 2 ∧ k = L.length then w6 else rI s (rg + 2) k := by
          rw [r_II, if_neg (show ¬ (rg + 2 = rg ∧ k = 2) by omega), r_II, r_II, if_neg (show ¬ (rg + 2 = rg + 1 ∧ k = L.length) by omega)]
        rw [R1, R2]
        by_cases hkl : k = L.length
        · rw [if_pos ⟨rfl, hkl⟩, if_pos ⟨rfl, hkl⟩, hkl, List.getD_eq_getElem?_getD, List.getElem?_append_right (Nat.le_refl _), Nat.sub_self]
          exact ⟨v3, v6⟩
        · rw [if_neg (fun z => hkl z.2), if_neg (fun z => hkl z.2), List.getD_eq_getElem?_getD, List.getElem?_append_left (by omega), ← List.getD_eq_getElem?_getD]
          exact hd.2.2 k (by omega)
    by_cases hany : L.any (fun y => decide (y.1 = w3.toInt)) = true
    · rw [if_pos hany]
      refine ⟨fun z => absurd z (by decide), fun _ => ?_⟩
      refine ce_blame (e := 4) hc3' (by omega) hwN (fun s9 hc9 => T _ s9 hc9 ?_ ?_)
      · intro q hq
        cases e : pNum B N 0 23 p with
        | error e2 => rw [e] at hq; cases hq
        | ok y => rw [e] at hq; cases hq
      · unfold pRing
        rw [if_neg hL]
        cases e : pNum B N 0 23 p with
        | error e2 => rfl
        | ok y =>
          obtain ⟨z, q⟩ := y
          have := hv z q e
          rw [this] at hany
          simp only [bnd]
          rw [if_pos hany]
    · rw [if_neg hany]
      refine ⟨fun _ => ?_, fun z => absurd rfl z⟩
      refine T _ s3 hc3' ?_ ?_
      · intro q hq
        cases e : pNum B N 0 23 p with
        | error e2 => rw [e] at hq; cases hq
        | ok y =>
          obtain ⟨z, q2⟩ := y
          rw [e] at hq
          injection hq with hq
          have := hv z q2 e
          rw [this] at hany
          exact ⟨z, by rw [← hq], hany⟩
      · unfold pRing
        rw [if_neg hL]
        cases e : pNum B N 0 23 p with
        | error e2 => rfl
        | ok y =>
          obtain ⟨z, q⟩ := y
          have := hv z q e
          rw [this] at hany
          simp only [bnd]
          rw [if_neg hany]
          cases pNum B N 1 999 q with
          | error e2 => rfl
          | ok y2 =>
            simp only []
            cases pSign B N 59 y2.2 <;> rfl
  · have hL : 16 ≤ L.length := by omega
    have e : pRing B N L first p = .error (3, first) := by unfold pRing; rw [if_pos hL]
    refine ce_blame (e := 3) hc (by omega) hf (fun s2 hc2 => hK s s2 (Fr.rf _ _) h ?_ (fun x hx => by rw [e] at hx; cases hx))
    rw [e]; exact hc2
end
