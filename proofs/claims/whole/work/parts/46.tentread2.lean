/-! TEXTS: the class reads a tent, clause by clause -/
def dT (t : Nat) (s : hS) (D : TD) : Prop := (∀ k, k < 9 → (rI s (t + 1) k).toInt = D.1 k) ∧ (∀ j, j < 8 → (rI s (t + 2) j).toInt = if D.2.1 j = true then 1 else 0) ∧ dR (t + 3) s D.2.2.1 ∧ dR (t + 9) s D.2.2.2
def fD (t c k : Nat) : Prop := c = t + 1 ∨ c = t + 2 ∨ fR (t + 3) c k ∨ fR (t + 9) c k
section
variable {d : Nat} {v : hV} {s s1 : hS} {B : Nat → Int} {N : Nat}
theorem kT_in {t : Nat} (h : kT t) : 51 ≤ t ∧ t ≤ 66 := by unfold kT at h; omega
theorem kT_r1 {t : Nat} (h : kT t) : kR (t + 3) := by unfold kT at h; unfold kR; omega
theorem kT_r2 {t : Nat} (h : kT t) : kR (t + 9) := by unfold kT at h; unfold kR; omega
theorem sp_wordOf {j : Nat} (hj : j < 10) {K : Nat → hS → Prop} (hK : K (8 + j) s) : pcR d 23 [.int (nI j)] v s K := by
  refine st_Tent_wordOf ?_
  rw [nI_toInt (by omega)]
  match j, hj, hK with
  | 0, _, hK => exact ⟨fun e => hK, fun e => absurd e (by decide), fun e => absurd e (by decide), fun e => absurd e (by decide), fun e => absurd e (by decide), fun e => absurd e (by decide), fun e => absurd e (by decide), fun e => absurd e (by decide), fun e => absurd e (by decide), fun e => absurd e (by decide)⟩
  | 1, _, hK => exact ⟨fun e => absurd e (by decide), fun e => hK, fun e => absurd e (by decide), fun e => absurd e (by decide), fun e => absurd e (by decide), fun e => absurd e (by decide), fun e => absurd e (by decide), fun e => absurd e (by decide), fun e => absurd e (by decide), fun e => absurd e (by decide)⟩
  | 2, _, hK => exact ⟨fun e => absurd e (by decide), fun e => absurd e (by decide), fun e => hK, fun e => absurd e (by decide), fun e => absurd e (by decide), fun e => absurd e (by decide), fun e => absurd e (by decide), fun e => absurd e (by decide), fun e => absurd e (by decide), fun e => absurd e (by decide)⟩
  | 3, _, hK => exact ⟨fun e => absurd e (by decide), fun e => absurd e (by decide), fun e => absurd e (by decide), fun e => hK, fun e => absurd e (by decide), fun e => absurd e (by decide), fun e => absurd e (by decide), fun e => absurd e (by decide), fun e => absurd e (by decide), fun e => absurd e (by decide)⟩
  | 4, _, hK => exact ⟨fun e => absurd e (by decide), fun e => absurd e (by decide), fun e => absurd e (by decide), fun e => absurd e (by decide), fun e => hK, fun e => absurd e (by decide), fun e => absurd e (by decide), fun e => absurd e (by decide), fun e => absurd e (by decide), fun e => absurd e (by decide)⟩
  | 5, _, hK => exact ⟨fun e => absurd e (by decide), fun e => absurd e (by decide), fun e => absurd e (by decide), fun e => absurd e (by decide), fun e => absurd e (by decide), fun e => hK, fun e => absurd e (by decide), fun e => absurd e (by decide), fun e => absurd e (by decide), fun e => absurd e (by decide)⟩
  | 6, _, hK => exact ⟨fun e => absurd e (by decide), fun e => absurd e (by decide), fun e => absurd e (by decide), fun e => absurd e (by decide), fun e => absurd e (by decide), fun e => absurd e (by decide), fun e => hK, fun e => absurd e (by decide), fun e => absurd e (by decide), fun e => absurd e (by decide)⟩
  | 7, _, hK => exact ⟨fun e => absurd e (by decide), fun e => absurd e (by decide), fun e => absurd e (by decide), fun e => absurd e (by decide), fun e => absurd e (by decide), fun e => absurd e (by decide), fun e => absurd e (by decide), fun e => hK, fun e => absurd e (by decide), fun e => absurd e (by decide)⟩
  | 8, _, hK => exact ⟨fun e => absurd e (by decide), fun e => absurd e (by decide), fun e => absurd e (by decide), fun e => absurd e (by decide), fun e => absurd e (by decide), fun e => absurd e (by decide), fun e => absurd e (by decide), fun e => absurd e (by decide), fun e => hK, fun e => absurd e (by decide)⟩
  | 9, _, hK => exact ⟨fun e => absurd e (by decide), fun e => absurd e (by decide), fun e => absurd e (by decide), fun e => absurd e (by decide), fun e => absurd e (by decide), fun e => absurd e (by decide), fun e => absurd e (by decide), fun e => absurd e (by decide), fun e => absurd e (by decide), fun e => hK⟩
  | j + 10, hj, _ => exact absurd hj (by omega)
theorem sp_takeWord (h : tX s B N) {p : Nat} (hc : cE s N (.ok p) s1) (hp : xs cBl B N p = p) {K : Int32 → hS → Prop} (h10 : pKind B N p = 10 → ∀ s2, cE s N (.ok p) s2 → K (-1) s2) (hj : ∀ j, j < 10 → pKind B N p = j → mtb B N p j = true → ∀ s2, cE s N (.ok (p + wn j)) s2 → K (nI j) s2) : pcI (d + 5) 22 [.ref 49] v s1 K := by
  refine st_Tent_takeWord ?_
  have L : ∀ f i : Nat, i + f = 10 → ∀ s1, cE s N (.ok p) s1 → (pK B N p f i = 10 → ∀ s2, cE s N (.ok p) s2 → K (-1) s2) → (∀ j, j < 10 → pK B N p f i = j → mtb B N p j = true → ∀ s2, cE s N (.ok (p + wn j)) s2 → K (nI j) s2) → pgI (d + 5) 22 2 [.ref 49, .int (nI i)] [] v s1 K := by
    intro f
    induction f with
    | zero =>
      intro i hi s1 hc k10 kj
      refine st_Tent_takeWord_2 ⟨fun c => absurd c ?_, fun _ => k10 rfl s1 hc⟩
      rw [nI_toInt (by omega)]; omega
    | succ f ih =>
      intro i hi s1 hc k10 kj
      refine st_Tent_takeWord_2 ⟨fun _ => sp_wordOf (by omega) (ce_takes h hc (by omega) (fun x s2 _ hx hc2 => ?_)), fun c => absurd ?_ c⟩
      · have hx := hx p rfl
        rw [hp] at hx
        have hc2 : cE s N (.ok (if mtb B N (xs cBl B N p) i = true then xs cBl B N p + wn i else xs cBl B N p)) s2 := hc2
        rw [hp] at hc2
        by_cases hm : mtb B N p i = true
        · rw [if_pos hm] at hx hc2
          refine ⟨fun z => absurd z (by rw [hx]; decide), fun _ => kj i (by omega) ?_ hm s2 hc2⟩
          show (if mtb B N p i = true then i else _) = i
          rw [if_pos hm]
        · rw [if_neg hm] at hx hc2
          have e : pK B N p (f + 1) i = pK B N p f (i + 1) := if_neg hm
          rw [e] at k10
          refine ⟨fun _ => ?_, fun z => absurd (by rw [hx]; rfl) z⟩
          rw [nI_1]
          exact ih (i + 1) (by omega) s2 hc2 k10 (fun j j1 j2 => kj j j1 (by rw [e]; exact j2))
      · rw [nI_toInt (by omega)]; omega
  exact L 10 0 rfl s1 hc h10 hj
theorem pK_le {B : Nat → Int} {N p : Nat} : ∀ f i, i + f = 10 → pK B N p f i ≤ 10 := by
  intro f
  induction f with
  | zero => intro i _; exact Nat.le_refl _
  | succ f ih =>
    intro i hi
    show (if mtb B N p i = true then i else pK B N p f (i + 1)) ≤ 10
    by_cases hm : mtb B N p i = true
    · rw [if_pos hm]; omega
    · rw [if_neg hm]; exact ih (i + 1) (by omega)
theorem rv_step (h : tX s B N) {r : Except (Nat × Nat) Nat} (hc : cE s N r s1) {t : Nat} (ht : kT t) {j i : Nat} (hj : j < 8) (hi : i < fvN (j + 1)) {K : hS → Prop} (hK : ∀ w s2, tX (sI s (t + 1) i w) B N → cE (sI s (t + 1) i w) N (bnd r fun p => bnd (pNum B N (loV i) (hiV i) p) fun y => .ok y.2) s2 → (∀ p z q, r = .ok p → pNum B N (loV i) (hiV i) p = .ok (z, q) → w.toInt = z) → pgV (d + 3) 44 4 [.ref t, .ref 49, .int (nI j), .int (nI (i + 1))] [] v s2 K) : pgV (d + 3) 44 4 [.ref t, .ref 49, .int (nI j), .int (nI i)] [] v s1 K := by
  have hk := kT_in ht
  have h9 : fvN (j + 1) ≤ 9 := by
    have : ∀ j, j < 8 → fvN (j + 1) ≤ 9 := by decide
    exact this j hj
  have e2 : rI s1 2 (j + 1) = nI (fvN (j + 1)) := by rw [ce_r hc (by decide), h.1 2 (by decide) (by decide)]; exact tab2 (j + 1) (by omega)
  have e3 : (rI s1 3 i).toInt = loV i := by rw [ce_r hc (by decide), h.1 3 (by decide) (by decide)]; exact tab3 i (by omega)
  have e4 : (rI s1 4 i).toInt = hiV i := by rw [ce_r hc (by decide), h.1 4 (by decide) (by decide)]; exact tab4 i (by omega)
  refine st_Tent_readValues_4 ht ?_
  rw [nI_1, nI_toInt (by omega), Int.toNat_natCast, e2, nI_toInt (by omega), nI_toInt (by omega), Int.toNat_natCast, nI_1]
  refine ⟨by omega, fun _ => ⟨by omega, by omega, ce_number h hc (fun w s2 hc2 hv => ⟨by omega, ?_⟩)⟩, fun c => absurd (show (i : Int) < fvN (j + 1) by omega) c⟩
  rw [e3, e4] at hc2 hv
  exact hK w _ (tX_sI h (by omega)) (ce_sI hc2 (by omega)) hv
theorem rv_end (h : tX s B N) {r : Except (Nat × Nat) Nat} (hc : cE s N r s1) {t : Nat} (ht : kT t) {j : Nat} (hj : j < 8) {K : hS → Prop} (hK : ∀ s2, cE s N (bnd r fun p => pSign B N 59 p) s2 → K s2) : pgV (d + 3) 44 4 [.ref t, .ref 49, .int (nI j), .int (nI (fvN (j + 1)))] [] v s1 K := by
  have hk := kT_in ht
  have h9 : fvN (j + 1) ≤ 9 := by
    have : ∀ j, j < 8 → fvN (j + 1) ≤ 9 := by decide
    exact this j hj
  have e2 : rI s1 2 (j + 1) = nI (fvN (j + 1)) := by rw [ce_r hc (by decide), h.1 2 (by decide) (by decide)]; exact tab2 (j + 1) (by omega)
  refine st_Tent_readValues_4 ht ?_
  rw [nI_1, nI_toInt (by omega), Int.toNat_natCast, e2]
  exact ⟨by omega, fun c => absurd c (Int.lt_irrefl _), fun _ => ce_sign h hc (by decide) hK⟩
theorem sp_readValues (h : tX s B N) {p : Nat} (hc : cE s N (.ok p) s1) {t : Nat} (ht : kT t) {j : Nat} (hj : j < 8) {V : Nat → Int} (hV : ∀ k, k < 9 → (rI s (t + 1) k).toInt = V k) {K : hS → Prop} (hK : ∀ sb s2, Fr (fun c _ => c = t + 1) s sb → tX sb B N → cE sb N (bnd (pVals B N V j p) fun x => .ok x.2) s2 → (∀ x, pVals B N V j p = .ok x → ∀ k, k < 9 → (rI sb (t + 1) k).toInt = x.1 k) → K s2) : pcV (d + 3) 44 [.ref t, .ref 49, .int (nI j)] v s1 K := by
  have e2 : rI s1 2 j = nI (fvN j) := by rw [ce_r hc (by decide), h.1 2 (by decide) (by decide)]; exact tab2 j (by omega)
  refine st_Tent_readValues ht ?_
  rw [nI_toInt (by omega), Int.toNat_natCast, e2]
  refine ⟨by omega, ?_⟩
  have hlt : fvN j < fvN (j + 1) ∧ (j ≠ 5 → fvN j + 1 = fvN (j + 1)) ∧ (j = 5 → fvN j = 5 ∧ fvN (j + 1) = 7) := by
    have : ∀ j, j < 8 → fvN j < fvN (j + 1) ∧ (j ≠ 5 → fvN j + 1 = fvN (j + 1)) ∧ (j = 5 → fvN j = 5 ∧ fvN (j + 1) = 7) := by decide
    exact this j hj
  refine rv_step h hc ht hj hlt.1 (fun w s2 hx2 hc2 hv2 => ?_)
  have hc2 : cE (sI s (t + 1) (fvN j) w) N (bnd (pNum B N (loV (fvN j)) (hiV (fvN j)) p) fun y => .ok y.2) s2 := hc2
  by_cases h5 : j = 5
  · subst h5
    refine rv_step (i := 6) hx2 hc2 ht hj (by decide) (fun w3 s3 hx3 hc3 hv3 => rv_end hx3 hc3 ht hj (fun s4 hc4 => ?_))
    refine hK _ s4 (((Fr.rf (fun c _ => c = t + 1) s).sI rfl).sI rfl) hx3 ?_ ?_
    · have e : (bnd (pVals B N V 5 p) fun x => (.ok x.2 : Except (Nat × Nat) Nat)) = bnd (bnd (bnd (pNum B N (loV (fvN 5)) (hiV (fvN 5)) p) fun y => .ok y.2) fun p => bnd (pNum B N (loV 6) (hiV 6) p) fun y => .ok y.2) fun p => pSign B N 59 p := by
        unfold pVals
        cases pNum B N (loV (fvN 5)) (hiV (fvN 5)) p with
        | error e => rfl
        | ok y =>
          simp only [bnd, if_pos]
          cases pNum B N (loV 6) (hiV 6) y.2 with
          | error e => rfl
          | ok y2 => simp only []; cases pSign B N 59 y2.2 <;> rfl
      rw [e]; exact hc4
    · intro x hx k hk
      unfold pVals at hx
      cases e1 : pNum B N (loV (fvN 5)) (hiV (fvN 5)) p with
      | error e => rw [e1] at hx; cases hx
      | ok y =>
        rw [e1] at hx
        simp only [bnd, if_pos] at hx
        cases e6 : pNum B N (loV 6) (hiV 6) y.2 with
        | error e => rw [e6] at hx; cases hx
        | ok y2 =>
          rw [e6] at hx
          simp only [] at hx
          cases e7 : pSign B N 59 y2.2 with
          | error e => rw [e7] at hx; cases hx
          | ok q =>
            rw [e7] at hx
            injection hx with hx
            rw [← hx]
            have v1 := hv2 p y.1 y.2 rfl e1
            have v2 := hv3 y.2 y2.1 y2.2 (by rw [e1]; rfl) e6
            show _ = if k = 6 then y2.1 else if k = 5 then y.1 else V k
            rw [r_II, r_II]
            by_cases k6 : k = 6
            · rw [if_pos ⟨rfl, k6⟩, if_pos k6]; exact v2
            · rw [if_neg (fun z => k6 z.2), if_neg k6]
              by_cases k5 : k = 5
              · rw [if_pos (show t + 1 = t + 1 ∧ k = fvN 5 from ⟨rfl, k5⟩), if_pos k5]; exact v1
              · rw [if_neg (show ¬ (t + 1 = t + 1 ∧ k = fvN 5) from fun z => k5 z.2), if_neg k5]; exact hV k hk
  · rw [hlt.2.1 h5]
    refine rv_end hx2 hc2 ht hj (fun s4 hc4 => ?_)
    refine hK _ s4 ((Fr.rf (fun c _ => c = t + 1) s).sI rfl) hx2 ?_ ?_
    · have e : (bnd (pVals B N V j p) fun x => (.ok x.2 : Except (Nat × Nat) Nat)) = bnd (bnd (pNum B N (loV (fvN j)) (hiV (fvN j)) p) fun y => .ok y.2) fun p => pSign B N 59 p := by
        unfold pVals
        cases pNum B N (loV (fvN j)) (hiV (fvN j)) p with
        | error e => rfl
        | ok y =>
          simp only [bnd]
          rw [if_neg h5]
          cases pSign B N 59 y.2 <;> rfl
      rw [e]; exact hc4
    · intro x hx k hk
      unfold pVals at hx
      cases e1 : pNum B N (loV (fvN j)) (hiV (fvN j)) p with
      | error e => rw [e1] at hx; cases hx
      | ok y =>
        rw [e1] at hx
        simp only [bnd] at hx
        rw [if_neg h5] at hx
        cases e7 : pSign B N 59 y.2 with
        | error e => rw [e7] at hx; cases hx
        | ok q =>
          rw [e7] at hx
          injection hx with hx
          rw [← hx]
          have v1 := hv2 p y.1 y.2 rfl e1
          show _ = if k = fvN j then y.1 else V k
          rw [r_II]
          by_cases k5 : k = fvN j
          · rw [if_pos ⟨rfl, k5⟩, if_pos k5]; exact v1
          · rw [if_neg (fun z => k5 z.2), if_neg k5]; exact hV k hk
theorem dT_fr {t : Nat} {D : TD} {s s1 : hS} {W : Nat → Nat → Prop} (h : dT t s D) (hf : Fr W s s1) (hw : ∀ c k, fD t c k → ¬ W c k) : dT t s1 D := by
  obtain ⟨h1, h2, h3, h4⟩ := h
  refine ⟨fun k hk => ?_, fun j hj => ?_, dR_fr h3 hf (fun c k z => hw c k (Or.inr (Or.inr (Or.inl z)))), dR_fr h4 hf (fun c k z => hw c k (Or.inr (Or.inr (Or.inr z))))⟩
  · rw [hf.i (hw _ _ (Or.inl rfl))]; exact h1 k hk
  · rw [hf.i (hw _ _ (Or.inr (Or.inl rfl)))]; exact h2 j hj
theorem sp_readClause (h : tX s B N) {p : Nat} (hc : cE s N (.ok p) s1) (hp : xs cBl B N p = p) {t : Nat} (ht : kT t) {D : TD} (hd : dT t s D) {K : hS → Prop} (hK : ∀ sb s2, Fr (fD t) s sb → tX sb B N → cE sb N (bnd (pClause B N D p) fun x => .ok x.2) s2 → (∀ x, pClause B N D p = .ok x → dT t sb x.1) → K s2) : pcV (d + 6) 21 [.ref t, .ref 49] v s1 K := by
  have hk := kT_in ht
  have hpN := hc.1
  have ew : rI s1 49 2 = nI p := by rw [hc.2, tS_r]; rfl
  obtain ⟨d1, d2, d3, d4⟩ := hd
  refine st_Tent_readClause ht ?_
  rw [ew]
  refine sp_takeWord h hc hp (fun hk10 s2 hc2 => ⟨fun _ => ?_, fun c => absurd rfl c⟩) (fun j hj hkj hm s2 hc2 => ?_)
  · refine ce_blame (e := 1) hc2 (by omega) hpN (fun s3 hc3 => ?_)
    have e : pClause B N D p = .error (1, p) := by unfold pClause; rw [if_pos hk10]
    exact hK s s3 (Fr.rf _ _) h (by rw [e]; exact hc3) (fun x hx => by rw [e] at hx; cases hx)
  · have n10 : ¬ j = 10 := by omega
    rw [nI_toInt (by omega)]
    refine ⟨fun c => absurd c (by omega), fun _ => ⟨fun c8 => ?_, fun c8 => ⟨fun c9 => ?_, fun c9 => ?_⟩⟩⟩
    · have hj8 : j = 8 := by omega
      subst hj8
      have e : pClause B N D p = bnd (pRing B N D.2.2.1 p (p + wn 8)) fun x => .ok ((D.1, D.2.1, x.1, D.2.2.2), x.2) := by
        unfold pClause; rw [hkj, if_neg (by decide), if_pos rfl]
      refine sp_ringRead h hpN hc2 (kT_r1 ht) d3 (fun sb s3 hf hx hc3 hl => hK sb s3 (hf.mo (fun c k z => Or.inr (Or.inr (Or.inl z)))) hx ?_ ?_)
      · rw [e]
        cases e2 : pRing B N D.2.2.1 p (p + wn 8) with
        | error y => rw [e2] at hc3; exact hc3
        | ok y => rw [e2] at hc3; exact hc3
      · intro x hx2
        rw [e] at hx2
        cases e2 : pRing B N D.2.2.1 p (p + wn 8) with
        | error y => rw [e2] at hx2; cases hx2
        | ok y =>
          rw [e2] at hx2
          injection hx2 with hx2
          rw [← hx2]
          refine ⟨fun k hk2 => ?_, fun j hj2 => ?_, hl y e2, dR_fr d4 hf (fun c k z => by unfold fR at z ⊢; omega)⟩
          · rw [hf.i (by unfold fR; omega)]; exact d1 k hk2
          · rw [hf.i (by unfold fR; omega)]; exact d2 j hj2
    · have hj9 : j = 9 := by omega
      subst hj9
      have e : pClause B N D p = bnd (pRing B N D.2.2.2 p (p + wn 9)) fun x => .ok ((D.1, D.2.1, D.2.2.1, x.1), x.2) := by
        unfold pClause; rw [hkj, if_neg (by decide), if_neg (by decide), if_pos rfl]
      refine sp_ringRead h hpN hc2 (kT_r2 ht) d4 (fun sb s3 hf hx hc3 hl => hK sb s3 (hf.mo (fun c k z => Or.inr (Or.inr (Or.inr z)))) hx ?_ ?_)
      · rw [e]
        cases e2 : pRing B N D.2.2.2 p (p + wn 9) with
        | error y => rw [e2] at hc3; exact hc3
        | ok y => rw [e2] at hc3; exact hc3
      · intro x hx2
        rw [e] at hx2
        cases e2 : pRing B N D.2.2.2 p (p + wn 9) with
        | error y => rw [e2] at hx2; cases hx2
        | ok y =>
          rw [e2] at hx2
          injection hx2 with hx2
          rw [← hx2]
          refine ⟨fun k hk2 => ?_, fun j hj2 => ?_, dR_fr d3 hf (fun c k z => by unfold fR at z ⊢; omega), hl y e2⟩
          · rw [hf.i (by unfold fR; omega)]; exact d1 k hk2
          · rw [hf.i (by unfold fR; omega)]; exact d2 j hj2
    · have hj8 : j < 8 := by omega
      have et : (rI s2 (t + 2) j).toInt = if D.2.1 j = true then 1 else 0 := by rw [ce_r hc2 (by omega)]; exact d2 j hj8
      rw [Int.toNat_natCast, et]
      refine ⟨by omega, fun c => ⟨by omega, ?_⟩, fun c => ?_⟩
      · have hf : ¬ D.2.1 j = true := fun z => by rw [if_pos z] at c; exact absurd c (by decide)
        have e : pClause B N D p = bnd (pVals B N D.1 j (p + wn j)) fun x => .ok ((x.1, upZ D.2.1 j true, D.2.2.1, D.2.2.2), x.2) := by
          unfold pClause; rw [hkj, if_neg n10, if_neg (by omega), if_neg (by omega), if_neg hf]
        refine sp_readValues (s := sI s (t + 2) j 1) (tX_sI h (by omega)) (ce_sI hc2 (by omega)) ht hj8 (V := D.1) (fun k hk2 => by rw [r_II, if_neg (by omega)]; exact d1 k hk2) (fun sb s3 hfr hx hc3 hl => hK sb s3 ?_ hx ?_ ?_)
        · exact (((Fr.rf _ s).sI (Or.inr (Or.inl rfl)))).tr (hfr.mo (fun c k z => Or.inl z))
        · rw [e]
          cases e2 : pVals B N D.1 j (p + wn j) with
          | error y => rw [e2] at hc3; exact hc3
          | ok y => rw [e2] at hc3; exact hc3
        · intro x hx2
          rw [e] at hx2
          cases e2 : pVals B N D.1 j (p + wn j) with
          | error y => rw [e2] at hx2; cases hx2
          | ok y =>
            rw [e2] at hx2
            injection hx2 with hx2
            rw [← hx2]
            have hf2 : Fr (fun c k => c = t + 1 ∨ c = t + 2) s sb := ((Fr.rf _ s).sI (Or.inr rfl)).tr (hfr.mo (fun c k z => Or.inl z))
            refine ⟨hl y e2, fun i hi => ?_, dR_fr d3 hf2 (fun c k z => by unfold fR at z; omega), dR_fr d4 hf2 (fun c k z => by unfold fR at z; omega)⟩
            rw [hfr.i (by omega), r_II]
            show _ = if (if i = j then true else D.2.1 i) = true then (1 : Int) else 0
            by_cases hij : i = j
            · rw [if_pos ⟨rfl, hij⟩, if_pos hij]; rfl
            · rw [if_neg (fun z => hij z.2), if_neg hij]; exact d2 i hi
      · have hf : D.2.1 j = true := by
          cases e : D.2.1 j with
          | true => rfl
          | false => rw [e] at c; exact absurd rfl c
        have e : pClause B N D p = .error (3, p) := by
          unfold pClause; rw [hkj, if_neg n10, if_neg (by omega), if_neg (by omega), if_pos hf]
        refine ce_blame (e := 3) hc2 (by omega) hpN (fun s3 hc3 => ?_)
        exact hK s s3 (Fr.rf _ _) h (by rw [e]; exact hc3) (fun x hx => by rw [e] at hx; cases hx)
theorem tS_begin (s : hS) : sI (sI (sI s 49 2 0) 49 3 0) 49 4 (-1) = tS s 0 0 (-1) := rfl
theorem tX_at {s : hS} (h : tX s B N) {k : Nat} {x : Int32} (hk : k = 2 ∨ k = 3 ∨ k = 4) : tX (sI s 49 k x) B N := by
  obtain ⟨h0, h1, h2, h3⟩ := h
  refine ⟨fun c c1 c2 k' => ?_, ?_, h2, fun i hi => ?_⟩
  · rw [r_II, if_neg (by omega)]; exact h0 c c1 c2 k'
  · rw [r_II, if_neg (by omega)]; exact h1
  · rw [r_II, if_neg (by omega)]; exact h3 i hi
theorem sp_forget (h : tX s B N) {t : Nat} (ht : kT t) {K : hS → Prop} (hK : ∀ sb, Fr (fD t) s sb → tX sb B N → dT t sb pTent0 → K sb) : pcV d 17 [.ref t] v s K := by
  have hk := kT_in ht
  refine st_Tent_forget ht ?_
  have L : ∀ m i : Nat, i + m = 8 → ∀ sb, Fr (fD t) s sb → tX sb B N → (∀ k, k < 9 → (rI sb (t + 1) k).toInt = unt k) → (∀ j, j < i → rI sb (t + 2) j = 0) → pgV d 17 9 [.ref t, .int (nI i)] [] v sb K := by
    intro m
    induction m with
    | zero =>
      intro i hi sb hf hx h1 h2
      refine st_Tent_forget_9 ht ⟨fun c => absurd c ?_, fun _ => ?_⟩
      · rw [nI_toInt (by omega)]; omega
      · refine hK _ ((hf.sI (by unfold fD fR; omega)).sI (by unfold fD fR; omega)) (tX_sI (tX_sI hx (by omega)) (by omega)) ⟨fun k hk2 => ?_, fun j hj => ?_, ⟨?_, by decide, fun k hk2 => absurd hk2 (Nat.not_lt_zero k)⟩, ⟨?_, by decide, fun k hk2 => absurd hk2 (Nat.not_lt_zero k)⟩⟩
        · rw [r_II, if_neg (by omega), r_II, if_neg (by omega)]; exact h1 k hk2
        · rw [r_II, if_neg (by omega), r_II, if_neg (by omega), h2 j (by omega)]; rfl
        · rw [r_II, if_neg (by omega), r_II, if_pos ⟨rfl, rfl⟩]; rfl
        · rw [r_II, if_pos ⟨rfl, rfl⟩]; rfl
    | succ m ih =>
      intro i hi sb hf hx h1 h2
      refine st_Tent_forget_9 ht ⟨fun _ => ?_, fun c => absurd ?_ c⟩
      · rw [nI_toInt (by omega), Int.toNat_natCast, nI_1]
        refine ⟨by omega, ih (i + 1) (by omega) _ (hf.sI (by unfold fD fR; omega)) (tX_sI hx (by omega)) (fun k hk2 => ?_) (fun j hj => ?_)⟩
        · rw [r_II, if_neg (by omega)]; exact h1 k hk2
        · rw [r_II]
          by_cases hji : j = i
          · rw [if_pos ⟨rfl, hji⟩]
          · rw [if_neg (fun z => hji z.2)]; exact h2 j (by omega)
      · rw [nI_toInt (by omega)]; omega
  refine L 8 0 rfl _ ((Fr.rf _ s).sCI (fun k _ => Or.inl rfl)) ?_ (fun k hk2 => ?_) (fun j hj => absurd hj (Nat.not_lt_zero j))
  · obtain ⟨h0, h1, h2, h3⟩ := h
    refine ⟨fun c c1 c2 k' => ?_, ?_, h2, fun i hi => ?_⟩
    · rw [r_IC, if_neg (by omega)]; exact h0 c c1 c2 k'
    · rw [r_IC, if_neg (by omega)]; exact h1
    · rw [r_IC, if_neg (by omega)]; exact h3 i hi
  · rw [r_IC, if_pos ⟨rfl, by omega, by omega⟩, show 0 + (k - 0) = k by omega, h.1 1 (by decide) (by decide)]
    exact tab1 k hk2
/-- how a text's reading ends: the base, the class's fault and place -/
def cF2 (r : Except (Nat × Nat) (TD × Nat)) (sb s2 : hS) (x : Int32) (t : Nat) : Prop := match r with
  | .ok (D, n) => dT t sb D ∧ x = nI n ∧ ∃ a, s2 = sI (sI (tS sb a 0 (-1)) 49 1 0) 49 2 0
  | .error (e, w) => 1 ≤ e ∧ e ≤ 4 ∧ w ≤ 300 ∧ ∃ a, s2 = sI (sI (tS sb a (nI e) (nI w)) 49 1 0) 49 2 0
theorem sp_tentRead (h : tX s B N) {t : Nat} (ht : kT t) {K : Int32 → hS → Prop} (hK : ∀ x sb s2, Fr (fD t) s sb → cF2 (pTent B N 300 pTent0 0 0) sb s2 x t → K x s2) : pcI (d + 7) 16 [.ref t, .ref 49] v s K := by
  have hN := h.2.2.1
  refine st_Tent_read ht (sp_forget h ht (fun sb hf hx hd => st_Text_begin ?_))
  rw [tS_begin]
  have L : ∀ m (n p : Nat) (D : TD) (sb s1 : hS), n + m = 300 → Fr (fD t) s sb → tX sb B N → dT t sb D → cE sb N (.ok p) s1 → (∀ x sb s2, Fr (fD t) s sb → cF2 (pTent B N m D p n) sb s2 x t → K x s2) → pgI (d + 7) 16 6 [.ref t, .ref 49, .int (nI n)] [] v s1 K := by
    intro m
    induction m with
    | zero =>
      intro n p D sb s1 hn hf hx hd hc hK
      refine st_Tent_read_6 ht ⟨fun c => absurd c ?_, fun _ => st_Text_end ?_⟩
      · rw [nI_toInt (by omega)]; omega
      · exact hK _ sb _ hf ⟨hd, rfl, nI p, by rw [hc.2]⟩
    | succ m ih =>
      intro n p D sb s1 hn hf hx hd hc hK
      refine st_Tent_read_6 ht ⟨fun _ => ce_goesOn hx hc (fun p2 s2 e hlt hc2 => ?_) (fun s2 hlt hc2 => ?_), fun c => absurd ?_ c⟩
      · injection e with e; subst e
        refine ⟨fun z => absurd z (by decide), fun _ => ?_⟩
        have e1 : pTent B N (m + 1) D p n = bnd (pClause B N D (xs cBl B N p)) fun x => pTent B N m x.1 x.2 (n + 1) := if_pos hlt
        rw [e1] at hK
        refine sp_readClause hx hc2 xs_xs ht hd (fun sb3 s3 hf3 hx3 hc3 hd3 => ?_)
        rw [nI_1]
        cases e2 : pClause B N D (xs cBl B N p) with
        | ok y =>
          rw [e2] at hc3 hK
          exact ih (n + 1) y.2 y.1 sb3 s3 (by omega) (hf.tr hf3) hx3 (hd3 y e2) hc3 hK
        | error y =>
          obtain ⟨f, w⟩ := y
          rw [e2] at hc3 hK
          have hc3 : cE sb3 N (.error (f, w)) s3 := hc3
          obtain ⟨f1, f2, f3, -⟩ := hc3
          -- the loop's next look finds the fault
          have Z : ∀ s4, cE sb3 N (.error (f, w)) s4 → pcV (d + 6) 45 [.ref 49] v s4 (fun s5 => K (nI (n + 1)) s5) := by
            intro s4 hc4
            obtain ⟨_, _, _, a, ha, rfl⟩ := hc4
            exact st_Text_end (hK _ sb3 _ (hf.tr hf3) ⟨f1, f2, by omega, nI a, rfl⟩)
          refine st_Tent_read_6 ht ⟨fun _ => ce_goesOn hx3 hc3 (fun p2 s2 e _ _ => by cases e) (fun s4 _ hc4 => ⟨fun _ => Z s4 hc4, fun z => absurd rfl z⟩), fun _ => Z s3 hc3⟩
      · refine ⟨fun _ => st_Text_end ?_, fun z => absurd rfl z⟩
        have hlt := hlt p rfl
        have e1 : pTent B N (m + 1) D p n = .ok (D, n) := if_neg hlt
        rw [e1] at hK
        have hc2 : cE sb N (.ok (xs cBl B N p)) s2 := hc2
        exact hK _ sb _ hf ⟨hd, rfl, nI (xs cBl B N p), by rw [hc2.2]⟩
      · rw [nI_toInt (by omega)]; omega
  exact L 300 0 0 pTent0 sb _ rfl hf hx hd ⟨Nat.zero_le _, rfl⟩ hK
end
