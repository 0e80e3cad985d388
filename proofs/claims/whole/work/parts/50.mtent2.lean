/-! TEXTS: the reference reads a tent, clause by clause -/
theorem wd_inj : ∀ j, j < 16 → ∀ i, i < 16 → wn j = wn i → (∀ k, k < wn j → wc j k = wc i k) → j = i := by decide +kernel
theorem mt_uniq {B : Nat → Int} {N p i j : Nat} (hi : i < 16) (hj : j < 16) (h1 : mtb B N p i = true) (h2 : mtb B N p j = true) : i = j := by
  have e1 := mtb_len hi h1
  have e2 := mtb_len hj h2
  obtain ⟨-, -, a⟩ := mtb_iff.mp h1
  obtain ⟨-, -, b⟩ := mtb_iff.mp h2
  exact wd_inj i hi j hj (by omega) (fun k hk => by rw [← a k hk, b k (by omega)])
theorem pK_of {B : Nat → Int} {N p j : Nat} (hj : j < 10) (h : mtb B N p j = true) : ∀ f i, i + f = 10 → i ≤ j → pK B N p f i = j := by
  intro f
  induction f with
  | zero => intro i h1 h2; omega
  | succ f ih =>
    intro i h1 h2
    show (if mtb B N p i = true then i else pK B N p f (i + 1)) = j
    by_cases hm : mtb B N p i = true
    · rw [if_pos hm]; exact mt_uniq (by omega) (by omega) hm h
    · rw [if_neg hm]
      refine ih (i + 1) (by omega) ?_
      have : i ≠ j := fun e => hm (e ▸ h)
      omega
theorem pKind_of {B : Nat → Int} {N p j : Nat} (hj : j < 10) (h : mtb B N p j = true) : pKind B N p = j := pK_of hj h 10 0 rfl (Nat.zero_le _)
theorem pKind_no {B : Nat → Int} {N p : Nat} (h : ∀ j, j < 10 → ¬ mtb B N p j = true) : pKind B N p = 10 := by
  have L : ∀ f i, i + f = 10 → pK B N p f i = 10 := by
    intro f
    induction f with
    | zero => intro i _; rfl
    | succ f ih =>
      intro i h1
      show (if mtb B N p i = true then i else pK B N p f (i + 1)) = 10
      rw [if_neg (h i (by omega))]; exact ih (i + 1) (by omega)
  exact L 10 0 rfl
theorem pSign_lt {B : Nat → Int} {N : Nat} {c : Int} {p q : Nat} (h : pSign B N c p = .ok q) : p < q := by
  unfold pSign at h
  have := xs_ge (P := cBl) (B := B) (N := N) (p := p)
  by_cases c1 : bat B N (xs cBl B N p) = c
  · rw [if_pos c1] at h; injection h with h; omega
  · rw [if_neg c1] at h; cases h
theorem pNum_le {B : Nat → Int} {N : Nat} {lo hi : Int} {p : Nat} {x : Int × Nat} (h : pNum B N lo hi p = .ok x) : p ≤ x.2 := by
  unfold pNum at h
  have h1 := xs_ge (P := cBl) (B := B) (N := N) (p := p)
  have h2 := xs_ge (P := cF) (B := B) (N := N) (p := xs cBl B N p)
  by_cases c1 : xs cF B N (xs cBl B N p) = xs cBl B N p
  · rw [if_pos c1] at h; cases h
  · rw [if_neg c1] at h
    by_cases c2 : 3 < xs cF B N (xs cBl B N p) - xs cBl B N p ∨ dv B (xs cBl B N p) (xs cF B N (xs cBl B N p) - xs cBl B N p) < lo ∨ hi < dv B (xs cBl B N p) (xs cF B N (xs cBl B N p) - xs cBl B N p)
    · rw [if_pos c2] at h; cases h
    · rw [if_neg c2] at h
      injection h with h
      rw [← h]; exact Nat.le_trans h1 h2
theorem bnd_ok {α β : Type} {r : Except (Nat × Nat) α} {f : α → Except (Nat × Nat) β} {y : β} (h : bnd r f = .ok y) : ∃ x, r = .ok x ∧ f x = .ok y := by
  cases r with
  | error e => cases h
  | ok x => exact ⟨x, rfl, h⟩
theorem pRing_lt {B : Nat → Int} {N : Nat} {L : rgL} {first p : Nat} {x : rgL × Nat} (h : pRing B N L first p = .ok x) : p < x.2 := by
  unfold pRing at h
  by_cases c : 16 ≤ L.length
  · rw [if_pos c] at h; cases h
  · rw [if_neg c] at h
    obtain ⟨y, h1, h2⟩ := bnd_ok h
    by_cases c2 : L.any (fun z => decide (z.1 = y.1)) = true
    · rw [if_pos c2] at h2; cases h2
    · rw [if_neg c2] at h2
      obtain ⟨z, h3, h4⟩ := bnd_ok h2
      obtain ⟨q, h5, h6⟩ := bnd_ok h4
      injection h6 with h6
      have a1 := pNum_le h1
      have a2 := pNum_le h3
      have a3 := pSign_lt h5
      rw [← h6]; show p < q; omega
theorem pVals_lt {B : Nat → Int} {N : Nat} {V : Nat → Int} {j p : Nat} {x : (Nat → Int) × Nat} (h : pVals B N V j p = .ok x) : p < x.2 := by
  unfold pVals at h
  obtain ⟨y, h1, h2⟩ := bnd_ok h
  have a1 := pNum_le h1
  by_cases c : j = 5
  · rw [if_pos c] at h2
    obtain ⟨z, h3, h4⟩ := bnd_ok h2
    obtain ⟨q, h5, h6⟩ := bnd_ok h4
    injection h6 with h6
    have a2 := pNum_le h3
    have a3 := pSign_lt h5
    rw [← h6]; show p < q; omega
  · rw [if_neg c] at h2
    obtain ⟨q, h5, h6⟩ := bnd_ok h2
    injection h6 with h6
    have a3 := pSign_lt h5
    rw [← h6]; show p < q; omega
theorem pClause_lt {B : Nat → Int} {N : Nat} {D : TD} {p : Nat} {x : TD × Nat} (h : pClause B N D p = .ok x) : p < x.2 := by
  unfold pClause at h
  by_cases c1 : pKind B N p = 10
  · rw [if_pos c1] at h; cases h
  rw [if_neg c1] at h
  by_cases c2 : pKind B N p = 8
  · rw [if_pos c2] at h
    obtain ⟨y, h1, h2⟩ := bnd_ok h
    injection h2 with h2
    have := pRing_lt h1
    rw [← h2]; show p < y.2; omega
  rw [if_neg c2] at h
  by_cases c3 : pKind B N p = 9
  · rw [if_pos c3] at h
    obtain ⟨y, h1, h2⟩ := bnd_ok h
    injection h2 with h2
    have := pRing_lt h1
    rw [← h2]; show p < y.2; omega
  rw [if_neg c3] at h
  by_cases c4 : D.2.1 (pKind B N p) = true
  · rw [if_pos c4] at h; cases h
  rw [if_neg c4] at h
  obtain ⟨y, h1, h2⟩ := bnd_ok h
  injection h2 with h2
  have := pVals_lt h1
  rw [← h2]; show p < y.2; omega
def mT (s : hS) (D : TD) : Prop := (∀ k, k < 9 → (rI s 149 k).toInt = D.1 k) ∧ (0 ≤ (rI s 145 14).toInt ∧ (rI s 145 14).toInt < 512 ∧ ∀ j, j < 8 → (sN (rI s 145 14)).testBit (fvN j) = D.2.1 j) ∧ dP 2 32 s D.2.2.1 ∧ dP 3 48 s D.2.2.2
def fM (c k : Nat) : Prop := c = 149 ∨ (c = 145 ∧ k = 14) ∨ fP 2 32 c k ∨ fP 3 48 c k
section
variable {d : Nat} {v : hV} {s s1 : hS} {B : Nat → Int} {N : Nat}
theorem sm_kindHere (h : tM s B N) {a : Int32} {p : Nat} (hp : p ≤ N) {K : Int32 → hS → Prop} (hK : K (if pKind B N p < 8 then nI (fvN (pKind B N p)) else -1) (mS s a (nI p) (nI (xs cL B N p - p)) 0 (-1))) : pcI (d + 1) 165 [.ref 145] v (mS s a (nI p) (nI (xs cL B N p - p)) 0 (-1)) K := by
  have hN := h.2.1
  have hq := xs_le (P := cL) (B := B) hp
  have U : ∀ j, j < 8 → ∀ x : Int32, x = nI (fvN j) → mtb B N p j = true → K x (mS s a (nI p) (nI (xs cL B N p - p)) 0 (-1)) := by
    intro j hj x hx hm
    rw [pKind_of (by omega) hm, if_pos hj] at hK
    rw [hx]; exact hK
  have Z : (∀ j, j < 8 → ¬ mtb B N p j = true) → K (-1) (mS s a (nI p) (nI (xs cL B N p - p)) 0 (-1)) := by
    intro hn
    rw [if_neg (fun z => ?_)] at hK
    · exact hK
    · by_cases h8 : mtb B N p 8 = true
      · rw [pKind_of (by decide) h8] at z; omega
      · by_cases h9 : mtb B N p 9 = true
        · rw [pKind_of (by decide) h9] at z; omega
        · rw [pKind_no (fun j hj => ?_)] at z
          · omega
          · by_cases hj8 : j < 8
            · exact hn j hj8
            · by_cases e : j = 8
              · rw [e]; exact h8
              · rw [show j = 9 by omega]; exact h9
  have W : ∀ j, j < 8 → ∀ {A C : hS → Prop} {x1 x2 x3 x4 x5 x6 : Int32}, x1.toInt = wn j → x2.toInt = wc j 0 → x3.toInt = wc j 1 → x4.toInt = wc j 2 → (3 < wn j → x5.toInt = wc j 3) → (4 < wn j → x6.toInt = wc j 4) → (¬ mtb B N p j = true → A (mS s a (nI p) (nI (xs cL B N p - p)) 0 (-1))) → (mtb B N p j = true → C (mS s a (nI p) (nI (xs cL B N p - p)) 0 (-1))) → pcI d 160 [.ref 145, .int x1, .int x2, .int x3, .int x4, .int x5, .int x6] v (mS s a (nI p) (nI (xs cL B N p - p)) 0 (-1)) (fun w2 s2 => (w2.toInt = 0 → A s2) ∧ (¬ w2.toInt = 0 → C s2)) := by
    intro j hj A C x1 x2 x3 x4 x5 x6 g1 g2 g3 g4 g5 g6 hA hC
    refine sm_isWord h hp (j := j) (by omega) g1 g2 g3 g4 g5 g6 ?_
    by_cases hm : mtb B N p j = true
    · rw [if_pos hm]; exact ⟨fun z => absurd z (by decide), fun _ => hC hm⟩
    · rw [if_neg hm]; exact ⟨fun _ => hA hm, fun z => absurd rfl z⟩
  have len : ∀ j, j < 8 → mtb B N p j = true → xs cL B N p - p = wn j := fun j hj hm => by
    have := mtb_len (by omega) hm
    omega
  have w5 : ∀ j, j < 8 → (wn j = 5 ↔ j = 0 ∨ j = 6) := by decide +kernel
  refine st_M_kindHere ?_
  rw [m_length, nI_toInt (by omega)]
  refine ⟨fun c => W 0 (by decide) (by decide +kernel) (by decide +kernel) (by decide +kernel) (by decide +kernel) (by decide +kernel) (by decide +kernel) (fun n0 => W 6 (by decide) (by decide +kernel) (by decide +kernel) (by decide +kernel) (by decide +kernel) (by decide +kernel) (by decide +kernel) (fun n6 => Z (fun j hj hm => ?_)) (fun m6 => U 6 (by decide) _ (by decide) m6)) (fun m0 => U 0 (by decide) _ (by decide) m0), fun c => ?_⟩
  · rcases (w5 j hj).mp (by rw [← len j hj hm]; omega) with e | e
    · rw [e] at hm; exact n0 hm
    · rw [e] at hm; exact n6 hm
  · refine W 1 (by decide) (by decide +kernel) (by decide +kernel) (by decide +kernel) (by decide +kernel) (by decide +kernel) (by decide +kernel) (fun n1 => W 2 (by decide) (by decide +kernel) (by decide +kernel) (by decide +kernel) (by decide +kernel) (by decide +kernel) (by decide +kernel) (fun n2 => W 3 (by decide) (by decide +kernel) (by decide +kernel) (by decide +kernel) (by decide +kernel) (by decide +kernel) (by decide +kernel) (fun n3 => W 4 (by decide) (by decide +kernel) (by decide +kernel) (by decide +kernel) (by decide +kernel) (by decide +kernel) (by decide +kernel) (fun n4 => W 5 (by decide) (by decide +kernel) (by decide +kernel) (by decide +kernel) (by decide +kernel) (by decide +kernel) (by decide +kernel) (fun n5 => W 7 (by decide) (by decide +kernel) (by decide +kernel) (by decide +kernel) (by decide +kernel) (by decide +kernel) (by decide +kernel) (fun n7 => Z (fun j hj hm => ?_)) (fun m => U 7 (by decide) _ (by decide) m)) (fun m => U 5 (by decide) _ (by decide) m)) (fun m => U 4 (by decide) _ (by decide) m)) (fun m => U 3 (by decide) _ (by decide) m)) (fun m => U 2 (by decide) _ (by decide) m)) (fun m => U 1 (by decide) _ (by decide) m)
    have h5 : ¬ (j = 0 ∨ j = 6) := fun e => c (by rw [len j hj hm]; exact congrArg Int.ofNat ((w5 j hj).mpr e))
    have : j = 1 ∨ j = 2 ∨ j = 3 ∨ j = 4 ∨ j = 5 ∨ j = 7 := by omega
    rcases this with e | e | e | e | e | e <;> rw [e] at hm
    · exact n1 hm
    · exact n2 hm
    · exact n3 hm
    · exact n4 hm
    · exact n5 hm
    · exact n7 hm
theorem sm_mostOf {i : Nat} (hi : i < 9) (h6 : i ≠ 6) {K : Int32 → hS → Prop} (hK : ∀ x : Int32, x.toInt = hiV i → K x s) : pcI d 167 [.int (nI i)] v s K := by
  refine st_M_mostOf ?_
  rw [nI_toInt (by omega)]
  refine ⟨fun e => hK _ ?_, fun e => hK _ ?_, fun e => hK _ ?_, fun e => hK _ ?_, fun e => hK _ ?_, fun e => hK _ ?_⟩
  · rw [show i = 0 by omega]; rfl
  · rw [show i = 1 by omega]; rfl
  · rw [show i = 2 by omega]; rfl
  · rw [show i = 3 by omega]; rfl
  · rw [show i = 4 by omega]; rfl
  · have : i = 5 ∨ i = 7 ∨ i = 8 := by omega
    rcases this with e | e | e <;> rw [e] <;> rfl
theorem sm_takeClause (h : tM s B N) {p : Nat} (hc : mE s N (.ok p) s1) (hp : xs cBl B N p = p) {D : TD} (hd : mT s D) {K : hS → Prop} (hK : ∀ sb s2, Fr fM s sb → tM sb B N → mE sb N (bnd (pClause B N D p) fun x => .ok x.2) s2 → (∀ x, pClause B N D p = .ok x → mT sb x.1) → K s2) : pcV (d + 4) 158 [.ref 145] v s1 K := by
  obtain ⟨hpN, fi, le, rfl⟩ := hc
  obtain ⟨d1, d2, d3, d4⟩ := hd
  have hq := xs_le (P := cL) (B := B) hpN
  have hN := h.2.1
  -- the end of a clause
  have E : ∀ (sb s3 : hS) (r : Except (Nat × Nat) Nat) (z1 : Value), Fr fM s sb → tM sb B N → mE sb N r s3 → (bnd (pClause B N D p) fun x => (.ok x.2 : Except (Nat × Nat) Nat)) = bnd r (fun p => pSign B N 59 p) → (∀ x, pClause B N D p = .ok x → mT sb x.1) → pgV (d + 4) 158 98 [.ref 145, z1] [] v s3 K := by
    intro sb s3 r z1 hf hx hc3 hr hl
    exact st_M_takeClause_98 (me_end hx hc3 (fun s4 hc4 => hK sb s4 hf hx (hr ▸ hc4) hl))
  refine st_M_takeClause (sm_takeWord h hpN ?_)
  rw [hp]
  have P1 : ∀ (kd : Nat), kd ≤ 1 → mtb B N p (8 + kd) = true → pgV (d + 4) 158 20 [.ref 145, .null] [] v (mS s (nI (xs cL B N p)) (nI p) (nI (xs cL B N p - p)) 0 (-1)) K := by
    intro kd hkd hm
    have hl := mtb_len (by omega) hm
    have hwk : wn (8 + kd) = 4 - kd := by
      have : kd = 0 ∨ kd = 1 := by omega
      rcases this with e | e <;> rw [e] <;> decide +kernel
    have R : ∀ x : Int32, x = nI kd → pgV (d + 4) 158 28 [.ref 145, .null] [.int x, .ref 145] v (mS s (nI (xs cL B N p)) (nI p) (nI (xs cL B N p - p)) 0 (-1)) K := by
      rintro x rfl
      refine st_M_takeClause_28 (st_M_one ?_)
      have C : pcV (d + 3) 162 [.ref 145, .int (nI kd)] v (mS s (nI (xs cL B N p)) (nI p) (nI (xs cL B N p - p)) 0 (-1)) (fun s2 => pgV (d + 4) 158 98 [.ref 145, .null] [] v s2 K) := by
        have hcase : kd = 0 ∨ kd = 1 := by omega
        rw [hl]
        rcases hcase with e0 | e0
        · subst e0
          have e : pClause B N D p = bnd (pRing B N D.2.2.1 p (p + wn 8)) fun x => .ok ((D.1, D.2.1, x.1, D.2.2.2), x.2) := by
            unfold pClause; rw [pKind_of (by decide) hm, if_neg (by decide), if_pos rfl]
          refine sm_takePost h hpN (by rw [← hl]; exact hq) (by decide) d3 (fun sb s2 hf hx hc2 hl2 => E sb s2 _ _ (hf.mo (fun c k z => Or.inr (Or.inr (Or.inl z)))) hx hc2 ?_ ?_)
          · rw [e, pRing_0]
            cases pRing0 B N D.2.2.1 p (p + wn 8) with
            | error y => rfl
            | ok y => simp only [bnd]; cases pSign B N 59 y.2 <;> rfl
          · intro x hx2
            rw [e, pRing_0] at hx2
            obtain ⟨y, h3, h4⟩ := bnd_ok hx2
            obtain ⟨y2, h5, h6⟩ := bnd_ok h3
            obtain ⟨q, h7, h8⟩ := bnd_ok h6
            injection h8 with h8
            injection h4 with h4
            rw [← h4, ← h8]
            refine ⟨fun k hk => by rw [hf.i (by unfold fP; omega)]; exact d1 k hk, ?_, hl2 y2 h5, dP_fr d4 hf (fun c k z => by unfold fP at z ⊢; omega)⟩
            rw [hf.i (by unfold fP; omega)]; exact d2
        · subst e0
          have e : pClause B N D p = bnd (pRing B N D.2.2.2 p (p + wn 9)) fun x => .ok ((D.1, D.2.1, D.2.2.1, x.1), x.2) := by
            unfold pClause; rw [pKind_of (by decide) hm, if_neg (by decide), if_neg (by decide), if_pos rfl]
          refine sm_takePost h hpN (by rw [← hl]; exact hq) (by decide) d4 (fun sb s2 hf hx hc2 hl2 => E sb s2 _ _ (hf.mo (fun c k z => Or.inr (Or.inr (Or.inr z)))) hx hc2 ?_ ?_)
          · rw [e, pRing_0]
            show _ = bnd (bnd (pRing0 B N D.2.2.2 p (p + wn 9)) _) _
            cases pRing0 B N D.2.2.2 p (p + wn 9) with
            | error y => rfl
            | ok y => simp only [bnd]; cases pSign B N 59 y.2 <;> rfl
          · intro x hx2
            rw [e, pRing_0] at hx2
            obtain ⟨y, h3, h4⟩ := bnd_ok hx2
            obtain ⟨y2, h5, h6⟩ := bnd_ok h3
            obtain ⟨q, h7, h8⟩ := bnd_ok h6
            injection h8 with h8
            injection h4 with h4
            rw [← h4, ← h8]
            refine ⟨fun k hk => by rw [hf.i (by unfold fP; omega)]; exact d1 k hk, ?_, dP_fr d3 hf (fun c k z => by unfold fP at z ⊢; omega), hl2 y2 h5⟩
            rw [hf.i (by unfold fP; omega)]; exact d2
      refine ⟨fun c => ?_, fun c => ?_⟩
      · rw [nI_toInt (by omega)] at c
        have : kd = 0 := by omega
        subst this; exact C
      · rw [nI_toInt (by omega)] at c
        have : kd = 1 := by omega
        subst this; exact C
    refine st_M_takeClause_20 ?_
    rw [m_length, nI_toInt (by omega)]
    refine ⟨fun c => R 1 ?_, fun c => R 0 ?_⟩
    · rw [show kd = 1 by omega]; rfl
    · rw [show kd = 0 by omega]; rfl
  refine sm_isWord h hpN (j := 8) (by decide) (by decide +kernel) (by decide +kernel) (by decide +kernel) (by decide +kernel) (by decide +kernel) (by decide +kernel) ?_
  by_cases h8 : mtb B N p 8 = true
  · rw [if_pos h8]
    exact ⟨fun z => absurd z (by decide), fun _ => P1 0 (by decide) h8⟩
  rw [if_neg h8]
  refine ⟨fun _ => sm_isWord h hpN (j := 9) (by decide) (by decide +kernel) (by decide +kernel) (by decide +kernel) (by decide +kernel) (by decide +kernel) (by decide +kernel) ?_, fun z => absurd rfl z⟩
  by_cases h9 : mtb B N p 9 = true
  · rw [if_pos h9]
    exact ⟨fun z => absurd z (by decide), fun _ => P1 1 (by decide) h9⟩
  rw [if_neg h9]
  refine ⟨fun _ => sm_kindHere h hpN ?_, fun z => absurd rfl z⟩
  by_cases hk8 : pKind B N p < 8
  · -- a clause that stands once
    rw [if_pos hk8]
    generalize hj : pKind B N p = j at *
    have hm : mtb B N p j = true := by
      have L : ∀ f i, i + f = 10 → pK B N p f i < 10 → mtb B N p (pK B N p f i) = true := by
        intro f
        induction f with
        | zero => intro i _ z; exact absurd z (Nat.lt_irrefl 10)
        | succ f ih =>
          intro i h1 h2
          by_cases hm : mtb B N p i = true
          · have e : pK B N p (f + 1) i = i := if_pos hm
            rw [e]; exact hm
          · have e : pK B N p (f + 1) i = pK B N p f (i + 1) := if_neg hm
            rw [e] at h2 ⊢; exact ih (i + 1) (by omega) h2
      have := L 10 0 rfl (by show pKind B N p < 10; omega)
      rw [show pK B N p 10 0 = j from hj] at this
      exact this
    have hl := mtb_len (by omega) hm
    have hfv : fvN j < 9 ∧ fvN j ≠ 6 := by
      have : ∀ j, j < 8 → fvN j < 9 ∧ fvN j ≠ 6 := by decide
      exact this j hk8
    have e5 : fvN j = 5 ↔ j = 5 := by
      have : ∀ j, j < 8 → (fvN j = 5 ↔ j = 5) := by decide
      exact this j hk8
    rw [nI_toInt (by omega)]
    refine ⟨fun z => absurd z (by omega), fun _ => st_M_takeClause_40 ?_⟩
    rw [m_first]
    refine sm_want0 (by decide) (fun _ => ⟨fun z => absurd z (by decide), fun _ => ?_⟩) (fun z => absurd z (by decide))
    have etk : rI (mS s (nI (xs cL B N p)) (nI p) (nI (xs cL B N p - p)) 0 (-1)) 145 14 = rI s 145 14 := mS_ne _ _ _ _ _ _ (by decide)
    rw [etk]
    have hb := i_bit (x := rI s 145 14) (m := nI (fvN j)) d2.1 (by rw [nI_toInt (by omega)]; omega)
    rw [nI_toInt (by omega), Int.toNat_natCast, d2.2.2 j hk8] at hb
    refine st_M_has ?_
    rw [hb]
    by_cases hD : D.2.1 j = true
    · rw [if_pos hD]
      refine ⟨fun _ => ⟨fun z => absurd z (by decide), fun _ => st_M_takeClause_54 ?_⟩, fun z => absurd rfl z⟩
      rw [m_first]
      refine sm_want0 (by decide) (fun z => absurd rfl z) (fun _ => ⟨fun _ => ?_, fun z => absurd rfl z⟩)
      have e : pClause B N D p = .error (3, p) := by
        unfold pClause; rw [hj, if_neg (by omega), if_neg (by omega), if_neg (by omega), if_pos hD]
      exact E s _ (.error (3, p)) _ (Fr.rf _ _) h ⟨by decide, by decide, hpN, _, _, _, rfl⟩ (by rw [e]; rfl) (fun x hx => by rw [e] at hx; cases hx)
    · rw [if_neg hD]
      refine ⟨fun z => absurd z (by decide), fun _ => ⟨fun _ => st_M_takeClause_54 ?_, fun z => absurd rfl z⟩⟩
      rw [m_first]
      refine sm_want0 (by decide) (fun _ => ⟨fun z => absurd z (by decide), fun _ => ?_⟩) (fun z => absurd z (by decide))
      rw [etk]
      have e : pClause B N D p = bnd (pVals B N D.1 j (p + wn j)) fun x => .ok ((x.1, upZ D.2.1 j true, D.2.2.1, D.2.2.2), x.2) := by
        unfold pClause; rw [hj, if_neg (by omega), if_neg (by omega), if_neg (by omega), if_neg hD]
      generalize hT : (rI s 145 14 ||| ((1 : Int32) <<< (nI (fvN j) &&& 31))) = T
      have hTe := sN_or (x := rI s 145 14) (m := nI (fvN j)) d2.1 (by rw [nI_toInt (by omega)]; omega)
      rw [nI_toInt (by omega), Int.toNat_natCast, hT] at hTe
      have hT9 : sN (rI s 145 14) ||| 2 ^ fvN j < 2 ^ 9 := Nat.or_lt_two_pow (by have := d2.1; have := d2.2.1; unfold sN; omega) (Nat.pow_lt_pow_right (by decide) (by omega))
      have hTi : T.toInt = (sN (rI s 145 14) ||| 2 ^ fvN j : Nat) := by rw [hTe, nI_toInt (by omega)]
      have hTs : sN T = sN (rI s 145 14) ||| 2 ^ fvN j := by
        show T.toInt.toNat = _
        rw [hTi]; exact Int.toNat_natCast _
      have d2' : 0 ≤ T.toInt ∧ T.toInt < 512 ∧ ∀ i, i < 8 → (sN T).testBit (fvN i) = (upZ D.2.1 j true) i := by
        refine ⟨by rw [hTi]; omega, by rw [hTi]; omega, fun i hi => ?_⟩
        rw [hTs, Nat.testBit_or, Nat.testBit_two_pow, d2.2.2 i hi]
        show _ = if i = j then true else D.2.1 i
        by_cases hij : i = j
        · rw [if_pos hij, hij]; simp
        · rw [if_neg hij]
          have : fvN j ≠ fvN i := by
            have : ∀ i, i < 8 → ∀ j, j < 8 → fvN j = fvN i → i = j := by decide
            exact fun z => hij (this i hi j hk8 z)
          rw [decide_eq_false this, Bool.or_false]
      have V : ∀ k3 : Int32, (k3.toInt = 0 → fvN j ≠ 5) → (¬ k3.toInt = 0 → fvN j = 5) → pgV (d + 4) 158 77 [.ref 145, .int (nI (fvN j))] [.int k3, .ref 145, .int (nI (fvN j)), .ref 149] v (sI (mS s (nI (xs cL B N p)) (nI p) (nI (xs cL B N p - p)) 0 (-1)) 145 14 T) K := by
        intro k3 hk0 hk1
        have G : ∀ w1 : Int32, w1.toInt = loV (fvN j) → pcI (d + 3) 167 [.int (nI (fvN j))] v (sI (mS s (nI (xs cL B N p)) (nI p) (nI (xs cL B N p - p)) 0 (-1)) 145 14 T) (fun w2 s2 => pcI (d + 3) 164 [.ref 145, .int w1, .int w2] v s2 (fun w3 s3 => (0 ≤ (nI (fvN j)).toInt ∧ (nI (fvN j)).toInt < 9) ∧ (((nI (fvN j)).toInt = 5 → pcI (d + 3) 164 [.ref 145, .int 0, .int 999] v (sI s3 149 (nI (fvN j)).toInt.toNat w3) (fun w5 s5 => pgV (d + 4) 158 97 [.ref 145, .int (nI (fvN j))] [.int w5, .int 6, .ref 149] v s5 K)) ∧ (¬ (nI (fvN j)).toInt = 5 → pgV (d + 4) 158 97 [.ref 145, .int (nI (fvN j))] [.int (rI (sI s3 149 (nI (fvN j)).toInt.toNat w3) 149 6), .int 6, .ref 149] v (sI s3 149 (nI (fvN j)).toInt.toNat w3) K)))) := by
          intro w1 hw1
          rw [mS_sI _ _ _ _ _ _ (by decide)]
          have h1 : tM (sI s 145 14 T) B N := tM_sI h (by decide) (by decide)
          refine sm_mostOf hfv.1 hfv.2 (fun w2 hw2 => ?_)
          have hc1 : mE (sI s 145 14 T) N (.ok (p + wn j)) (mS (sI s 145 14 T) (nI (xs cL B N p)) (nI p) (nI (xs cL B N p - p)) 0 (-1)) := ⟨by rw [← hl]; exact hq, _, _, by rw [hl]⟩
          refine me_number h1 hc1 (fun w3 s3 hc3 hv3 _ => ?_)
          rw [hw1, hw2] at hc3 hv3
          have hc3 : mE (sI s 145 14 T) N (bnd (pNum B N (loV (fvN j)) (hiV (fvN j)) (p + wn j)) fun y => .ok y.2) s3 := hc3
          rw [nI_toInt (by omega), Int.toNat_natCast]
          have hf0 : Fr fM s (sI (sI s 145 14 T) 149 (fvN j) w3) := ((Fr.rf _ s).sI (Or.inr (Or.inl ⟨rfl, rfl⟩))).sI (Or.inl rfl)
          refine ⟨by omega, fun c => ?_, fun c => st_M_takeClause_97 ⟨by decide, ?_⟩⟩
          · have hj5 : j = 5 := e5.mp (by omega)
            subst hj5
            have e0 : Int32.toInt 0 = 0 := rfl
            have e999 : Int32.toInt 999 = 999 := rfl
            refine me_number (tM_sI h1 (by decide) (by decide)) (me_sI hc3 (by decide)) (fun w5 s5 hc5 hv5 _ => st_M_takeClause_97 ⟨by decide, ?_⟩)
            rw [e0, e999] at hc5 hv5
            refine E _ _ _ _ (hf0.sI (Or.inl rfl)) (tM_sI (tM_sI h1 (by decide) (by decide)) (by decide) (by decide)) (me_sI hc5 (by decide)) ?_ ?_
            · rw [e]
              have l6 : loV 6 = 0 := rfl
              have h6 : hiV 6 = 999 := rfl
              unfold pVals
              cases pNum B N (loV (fvN 5)) (hiV (fvN 5)) (p + wn 5) with
              | error y => rfl
              | ok y =>
                simp only [bnd, if_pos, l6, h6]
                cases pNum B N 0 999 y.2 with
                | error y2 => rfl
                | ok y2 => simp only []; cases pSign B N 59 y2.2 <;> rfl
            · intro x hx2
              rw [e] at hx2
              obtain ⟨y, h3, h4⟩ := bnd_ok hx2
              unfold pVals at h3
              obtain ⟨y1, h5, h6⟩ := bnd_ok h3
              rw [if_pos rfl] at h6
              obtain ⟨y2, h7, h8⟩ := bnd_ok h6
              obtain ⟨q, h9, h10⟩ := bnd_ok h8
              injection h10 with h10
              injection h4 with h4
              have v1 := hv3 (p + wn 5) y1.1 y1.2 rfl h5
              have v2 := hv5 y1.2 y2.1 y2.2 (by show bnd (pNum B N (loV (fvN 5)) (hiV (fvN 5)) (p + wn 5)) _ = _; rw [h5]; rfl) h7
              rw [← h4, ← h10]
              refine ⟨fun k hk => ?_, ?_, dP_fr d3 (W := fun c k => c = 149 ∨ (c = 145 ∧ k = 14)) ((((Fr.rf _ s).sI (Or.inr ⟨rfl, rfl⟩)).sI (Or.inl rfl)).sI (Or.inl rfl)) (fun c k z => by unfold fP at z; omega), dP_fr d4 (W := fun c k => c = 149 ∨ (c = 145 ∧ k = 14)) ((((Fr.rf _ s).sI (Or.inr ⟨rfl, rfl⟩)).sI (Or.inl rfl)).sI (Or.inl rfl)) (fun c k z => by unfold fP at z; omega)⟩
              · show _ = if k = 6 then y2.1 else if k = 5 then y1.1 else D.1 k
                rw [r_II]
                by_cases k6 : k = 6
                · rw [if_pos ⟨rfl, k6⟩, if_pos k6]; exact v2
                · rw [if_neg (fun z => k6 z.2), if_neg k6, r_II]
                  by_cases k5 : k = 5
                  · rw [if_pos (show 149 = 149 ∧ k = fvN 5 from ⟨rfl, k5⟩), if_pos k5]; exact v1
                  · rw [if_neg (show ¬ (149 = 149 ∧ k = fvN 5) from fun z => k5 z.2), if_neg k5, r_II, if_neg (by omega)]; exact d1 k hk
              · rw [r_II, if_neg (by decide), r_II, if_neg (by decide), r_II, if_pos ⟨rfl, rfl⟩]; exact d2'
          · have hj5 : ¬ j = 5 := fun z => c (by have := e5.mpr z; omega)
            refine E _ _ _ _ (hf0.sI (Or.inl rfl)) (tM_sI (tM_sI h1 (by omega) (by decide)) (by omega) (by decide)) (me_sI (me_sI hc3 (by omega)) (by omega)) ?_ ?_
            · rw [e]
              unfold pVals
              cases pNum B N (loV (fvN j)) (hiV (fvN j)) (p + wn j) with
              | error y => rfl
              | ok y =>
                simp only [bnd]
                rw [if_neg hj5]
                cases pSign B N 59 y.2 <;> rfl
            · intro x hx2
              rw [e] at hx2
              obtain ⟨y, h3, h4⟩ := bnd_ok hx2
              unfold pVals at h3
              obtain ⟨y1, h5, h6⟩ := bnd_ok h3
              rw [if_neg hj5] at h6
              obtain ⟨q, h9, h10⟩ := bnd_ok h6
              injection h10 with h10
              injection h4 with h4
              have v1 := hv3 (p + wn j) y1.1 y1.2 rfl h5
              rw [← h4, ← h10]
              have e6 : rI (sI s3 149 (fvN j) w3) 149 6 = rI s 149 6 := by
                rw [r_II, if_neg (fun z => hfv.2 z.2.symm), me_r hc3 (by decide), r_II, if_neg (by decide)]
              rw [e6]
              refine ⟨fun k hk => ?_, ?_, dP_fr d3 (W := fun c k => c = 149 ∨ (c = 145 ∧ k = 14)) ((((Fr.rf _ s).sI (Or.inr ⟨rfl, rfl⟩)).sI (Or.inl rfl)).sI (Or.inl rfl)) (fun c k z => by unfold fP at z; omega), dP_fr d4 (W := fun c k => c = 149 ∨ (c = 145 ∧ k = 14)) ((((Fr.rf _ s).sI (Or.inr ⟨rfl, rfl⟩)).sI (Or.inl rfl)).sI (Or.inl rfl)) (fun c k z => by unfold fP at z; omega)⟩
              · show _ = if k = fvN j then y1.1 else D.1 k
                rw [r_II]
                by_cases k6 : k = 6
                · rw [if_pos ⟨rfl, k6⟩, k6, if_neg (fun z => hfv.2 z.symm)]; exact d1 6 (by decide)
                · rw [if_neg (fun z => k6 z.2), r_II]
                  by_cases k5 : k = fvN j
                  · rw [if_pos ⟨rfl, k5⟩, if_pos k5]; exact v1
                  · rw [if_neg (fun z => k5 z.2), if_neg k5, r_II, if_neg (by omega)]; exact d1 k hk
              · rw [r_II, if_neg (by omega), r_II, if_neg (by omega), r_II, if_pos ⟨rfl, rfl⟩]; exact d2'
        refine st_M_takeClause_77 (st_M_one ⟨fun c => G 0 ?_, fun c => G 1 ?_⟩)
        · unfold loV; rw [if_neg (hk0 c)]; rfl
        · unfold loV; rw [if_pos (hk1 c)]; rfl
      rw [nI_toInt (by omega)]
      exact ⟨fun c => V 1 (fun z => absurd z (by decide)) (fun _ => by omega), fun c => V 0 (fun _ => by omega) (fun z => absurd rfl z)⟩
  · rw [if_neg hk8]
    have hk10 : pKind B N p = 10 := by
      refine pKind_no (fun j hj hm => ?_)
      have := pKind_of hj hm
      have : j = 8 ∨ j = 9 := by omega
      rcases this with e | e <;> rw [e] at hm
      · exact h8 hm
      · exact h9 hm
    refine ⟨fun _ => st_M_takeClause_40 ?_, fun z => absurd (by decide) z⟩
    rw [m_first]
    refine sm_want0 (by decide) (fun z => absurd rfl z) (fun _ => ⟨fun _ => ?_, fun z => absurd rfl z⟩)
    have e : pClause B N D p = .error (1, p) := by unfold pClause; rw [if_pos hk10]
    exact E s _ (.error (1, p)) _ (Fr.rf _ _) h ⟨by decide, by decide, hpN, _, _, _, rfl⟩ (by rw [e]; rfl) (fun x hx => by rw [e] at hx; cases hx)
end
