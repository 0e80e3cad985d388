/-! TEXTS: the reference's tent(), whole -/
/-- what the reference changes behind a good reading -/
def fW (c k : Nat) : Prop := c = 148 ∨ (c = 150 ∧ k < 32) ∨ (c = 151 ∧ k < 32) ∨ (c = 152 ∧ k < 2) ∨ (c = 146 ∧ k < 22) ∨ (c = 145 ∧ (k = 26 ∨ k = 37))
def fMt (c k : Nat) : Prop := fM c k ∨ fW c k ∨ (c = 145 ∧ 8 ≤ k ∧ k ≤ 14)
def fMe (c k : Nat) : Prop := fM c k ∨ (c = 145 ∧ 8 ≤ k ∧ k ≤ 14)
def mFin (s s3 : hS) (D : TD) : Prop := Fr fMt s s3 ∧ (∀ k, k < 9 → (rI s3 148 k).toInt = D.1 k) ∧ dP 0 0 s3 D.2.2.1 ∧ dP 1 16 s3 D.2.2.2 ∧ rI s3 145 8 = 0 ∧ rI s3 145 13 = -1 ∧ rI s3 145 26 = 0 ∧ rI s3 145 37 = 0 ∧ ∀ k, k < 22 → rL s3 146 k = 0
section
variable {d : Nat} {v : hV} {s s1 : hS} {B : Nat → Int} {N : Nat}
theorem mS_begin (s : hS) : sI (sI (sI s 145 9 0) 145 12 0) 145 13 (-1) = mS s 0 (rI s 145 10) (rI s 145 11) 0 (-1) := by
  refine hS_ext (fun c k => ?_) (fun c k => rfl)
  rw [mS_r, r_II, r_II, r_II]
  by_cases h1 : c = 145 ∧ k = 13
  · rw [if_pos h1, if_pos h1]
  rw [if_neg h1, if_neg h1]
  by_cases h2 : c = 145 ∧ k = 12
  · rw [if_pos h2, if_pos h2]
  rw [if_neg h2, if_neg h2]
  by_cases h3 : c = 145 ∧ k = 11
  · rw [if_neg (by omega), if_pos h3, h3.1, h3.2]
  rw [if_neg h3]
  by_cases h4 : c = 145 ∧ k = 10
  · rw [if_neg (by omega), if_pos h4, h4.1, h4.2]
  rw [if_neg h4]
theorem sm_untold {i : Nat} (hi : i < 9) {K : Int32 → hS → Prop} (hK : ∀ x : Int32, x.toInt = unt i → K x s) : pcI d 152 [.int (nI i)] v s K := by
  refine st_M_untold ?_
  rw [nI_toInt (by omega)]
  refine ⟨fun e => hK _ ?_, fun e => hK _ ?_, fun e => hK _ ?_, fun e => hK _ ?_, fun e => hK _ ?_, fun e => hK _ ?_, fun e => hK _ ?_, fun e => hK _ ?_, fun e => hK _ ?_⟩
  · rw [show i = 0 by omega]; rfl
  · rw [show i = 1 by omega]; rfl
  · rw [show i = 2 by omega]; rfl
  · rw [show i = 3 by omega]; rfl
  · rw [show i = 4 by omega]; rfl
  · rw [show i = 5 by omega]; rfl
  · rw [show i = 6 by omega]; rfl
  · rw [show i = 7 by omega]; rfl
  · rw [show i = 8 by omega]; rfl
theorem sm_freshen {x : Nat} (hx : x ≤ 96) {K : hS → Prop} (hK : ∀ s2, Fr (fun c k => c = 146 ∧ x ≤ k ∧ k < x + 22) s s2 → (∀ k, k < 22 → rL s2 146 (x + k) = 0) → K s2) : pcV d 169 [.ref 145, .int (nI x)] v s K := by
  refine st_M_freshen ?_
  have L : ∀ m i : Nat, i + m = 22 → ∀ s1, Fr (fun c k => c = 146 ∧ x ≤ k ∧ k < x + 22) s s1 → (∀ k, k < i → rL s1 146 (x + k) = 0) → pgV d 169 2 [.ref 145, .int (nI x), .int (nI i)] [] v s1 K := by
    intro m
    induction m with
    | zero =>
      intro i hi s1 hf h1
      refine st_M_freshen_2 ⟨fun c => absurd c ?_, fun _ => hK s1 hf (fun k hk => h1 k (by omega))⟩
      rw [nI_toInt (by omega)]; omega
    | succ m ih =>
      intro i hi s1 hf h1
      refine st_M_freshen_2 ⟨fun _ => ?_, fun c => absurd ?_ c⟩
      · rw [nI_add, nI_toInt (by omega), Int.toNat_natCast, nI_1]
        refine ⟨by omega, ih (i + 1) (by omega) _ (hf.sL (by omega)) (fun k hk => ?_)⟩
        rw [r_LL]
        by_cases hki : k = i
        · rw [if_pos ⟨rfl, by omega⟩]
        · rw [if_neg (by omega)]; exact h1 k (by omega)
      · rw [nI_toInt (by omega)]; omega
  exact L 22 0 rfl s (Fr.rf _ _) (fun k hk => absurd hk (Nat.not_lt_zero k))
theorem sm_tent (h : tM s B N) {K : Int32 → hS → Prop} (her : ∀ e w, pTent B N 300 pTent0 0 0 = .error (e, w) → 1 ≤ e → e ≤ 4 → w ≤ N → ∀ (x : Int32) s3, x.toInt = -10 - e → Fr fMe s s3 → rI s3 145 8 = 0 → rI s3 145 13 = nI w → K x s3) (hok : ∀ D n, pTent B N 300 pTent0 0 0 = .ok (D, n) → ∀ s3, mFin s s3 D → K (nI n) s3) : pcI (d + 5) 155 [.ref 145] v s K := by
  have hN := h.2.1
  refine st_M_tent (st_M_beginReading ?_)
  rw [mS_begin, mS_sI _ _ _ _ _ _ (by decide), mS_sI _ _ _ _ _ _ (by decide), mS_sI _ _ _ _ _ _ (by decide)]
  have hMt : ∀ c k, fM c k → fMt c k := fun c k z => Or.inl z
  -- the first loop
  have L1 : ∀ m i : Nat, i + m = 9 → ∀ sb s1, Fr fM s sb → tM sb B N → mE sb N (.ok 0) s1 → (∀ k, k < i → (rI sb 149 k).toInt = unt k) → rI sb 145 14 = 0 → rI sb 152 2 = 0 → rI sb 152 3 = 0 → ∀ z2, (∀ sb s1 z2, Fr fM s sb → tM sb B N → mE sb N (.ok 0) s1 → mT sb pTent0 → pgI (d + 5) 155 30 [.ref 145, .int (nI 0), z2] [] v s1 K) → pgI (d + 5) 155 17 [.ref 145, .int (nI i), z2] [] v s1 K := by
    intro m
    induction m with
    | zero =>
      intro i hi sb s1 hf hx hc h1 h2 h3 h4 z2 hgo
      refine st_M_tent_17 ⟨fun c => absurd c ?_, fun _ => hgo sb s1 z2 hf hx hc ⟨fun k hk => h1 k (by omega), ?_, ⟨h3, by decide, fun k hk => absurd hk (Nat.not_lt_zero k)⟩, ⟨h4, by decide, fun k hk => absurd hk (Nat.not_lt_zero k)⟩⟩⟩
      · rw [nI_toInt (by omega)]; omega
      · rw [h2]
        exact ⟨by decide, by decide, fun j _ => by show (0 : Nat).testBit _ = false; exact Nat.zero_testBit _⟩
    | succ m ih =>
      intro i hi sb s1 hf hx hc h1 h2 h3 h4 z2 hgo
      refine st_M_tent_17 ⟨fun _ => sm_untold (by omega) (fun x hxv => ?_), fun c => absurd ?_ c⟩
      · rw [nI_toInt (by omega), Int.toNat_natCast, nI_1]
        refine ⟨by omega, ih (i + 1) (by omega) _ _ (hf.sI (Or.inl rfl)) (tM_sI hx (by omega) (by decide)) (me_sI hc (by omega)) (fun k hk => ?_) ?_ ?_ ?_ z2 hgo⟩
        · rw [r_II]
          by_cases hki : k = i
          · rw [if_pos ⟨rfl, hki⟩, hki]; exact hxv
          · rw [if_neg (fun z => hki z.2)]; exact h1 k (by omega)
        · rw [r_II, if_neg (by omega)]; exact h2
        · rw [r_II, if_neg (by omega)]; exact h3
        · rw [r_II, if_neg (by omega)]; exact h4
      · rw [nI_toInt (by omega)]; omega
  refine L1 9 0 rfl _ _ ((((Fr.rf _ s).sI (Or.inr (Or.inl ⟨rfl, rfl⟩))).sI (Or.inr (Or.inr (Or.inl (Or.inl ⟨rfl, rfl⟩))))).sI (Or.inr (Or.inr (Or.inr (Or.inl ⟨rfl, rfl⟩))))) (tM_sI (tM_sI (tM_sI h (by decide) (by decide)) (by decide) (by decide)) (by decide) (by decide)) ⟨Nat.zero_le _, _, _, rfl⟩ (fun k hk => absurd hk (Nat.not_lt_zero k)) rfl rfl rfl _ (fun sb s1 z2 hf hx hc hd => ?_)
  -- the clauses
  have E : ∀ (e w : Nat) (sb s1 : hS) (x1 : Int32) (z2 : Value), pTent B N 300 pTent0 0 0 = .error (e, w) → Fr fM s sb → mE sb N (.error (e, w)) s1 → (0 < (rI s1 145 12).toInt → K (-10 - rI s1 145 12) (sI s1 145 8 0)) ∧ (¬ 0 < (rI s1 145 12).toInt → pgI (d + 5) 155 53 [.ref 145, .int x1, .int 0] [] v (sI s1 145 8 0) K) := by
    intro e w sb s1 x1 z2 he hf hc
    obtain ⟨f1, f2, f3, a, fi, le, rfl⟩ := hc
    rw [m_faultOf, nI_toInt (by omega)]
    refine ⟨fun _ => her e w he f1 f2 f3 _ _ ?_ ?_ ?_ ?_, fun c => absurd (show (0 : Int) < e by omega) c⟩
    · have e10 : Int32.toInt (-10) = -10 := rfl
      have : (nI e).toInt = e := nI_toInt (by omega)
      rw [i_sub, e10, this]
      rw [e10, this]; omega
    · intro c k n
      have h1 : ¬ fM c k := fun z => n (Or.inl z)
      have h2 : ¬ (c = 145 ∧ 8 ≤ k ∧ k ≤ 14) := fun z => n (Or.inr z)
      refine ⟨?_, ?_⟩
      · rw [r_II, if_neg (by omega), mS_ne _ _ _ _ _ _ (by omega)]; exact hf.i h1
      · exact hf.l h1
    · rw [r_II, if_pos ⟨rfl, rfl⟩]
    · rw [r_II, if_neg (by decide), mS_r, if_pos ⟨rfl, rfl⟩]
  have F : ∀ (D : TD) (n p : Nat) (sb s1 : hS), pTent B N 300 pTent0 0 0 = .ok (D, n) → n < 1000 → Fr fM s sb → mE sb N (.ok p) s1 → mT sb D → pgI (d + 5) 155 53 [.ref 145, .int (nI n), .int (nI 0)] [] v (sI s1 145 8 0) K := by
    intro D n p sb s1 he hn hf hc hd
    obtain ⟨hpN, fi, le, rfl⟩ := hc
    obtain ⟨d1, d2, d3, d4⟩ := hd
    have hf4 : Fr fMt s (sI (mS sb (nI p) fi le 0 (-1)) 145 8 0) := fun c k n => by
      have h1 : ¬ fM c k := fun z => n (Or.inl z)
      have h2 : ¬ (c = 145 ∧ 8 ≤ k ∧ k ≤ 14) := fun z => n (Or.inr (Or.inr z))
      refine ⟨?_, ?_⟩
      · rw [r_II, if_neg (by omega), mS_ne _ _ _ _ _ _ (by omega)]; exact hf.i h1
      · exact hf.l h1
    generalize hs4 : sI (mS sb (nI p) fi le 0 (-1)) 145 8 0 = s4 at hf4
    have r4 : ∀ c k, c ≠ 145 → rI s4 c k = rI sb c k := fun c k hc => by
      rw [← hs4, r_II, if_neg (fun z => hc z.1), mS_ne _ _ _ _ _ _ (fun z => hc z.1)]
    have t4 : rI s4 145 8 = 0 := by rw [← hs4, r_II, if_pos ⟨rfl, rfl⟩]
    have f4 : rI s4 145 13 = -1 := by rw [← hs4, r_II, if_neg (by decide), mS_r, if_pos ⟨rfl, rfl⟩]
    have L3 : ∀ m i : Nat, i + m = 32 → ∀ s5, Fr fW s4 s5 → (∀ k, k < 9 → rI s5 148 k = rI s4 149 k) → (∀ k, k < i → rI s5 150 k = rI s4 150 (32 + k) ∧ rI s5 151 k = rI s4 151 (32 + k)) → pgI (d + 5) 155 68 [.ref 145, .int (nI n), .int (nI i)] [] v s5 K := by
      intro m
      induction m with
      | zero =>
        intro i hi s5 hf5 h1 h2
        refine st_M_tent_68 ⟨fun c => absurd c ?_, fun _ => sm_freshen (x := 0) (by decide) (fun s6 hf6 h6 => hok D n he _ ?_)⟩
        · rw [nI_toInt (by omega)]; omega
        · have hfa : Fr fW s5 (sI (sI s5 152 0 (rI s5 152 2)) 152 1 (rI s5 152 3)) := ((Fr.rf _ _).sI (by unfold fW; omega)).sI (by unfold fW; omega)
          have hfb : Fr fW s4 s6 := (hf5.tr hfa).tr (hf6.mo (fun c k z => by unfold fW; omega))
          have hfc : Fr fW s4 (sI (sI s6 145 26 0) 145 37 0) := (hfb.sI (by unfold fW; omega)).sI (by unfold fW; omega)
          have r6 : ∀ c k, c ≠ 145 → c ≠ 152 → c ≠ 146 → rI (sI (sI s6 145 26 0) 145 37 0) c k = rI s5 c k := fun c k hc hm hw => by
            rw [r_II, if_neg (fun z => hc z.1), r_II, if_neg (fun z => hc z.1), hf6.i (fun z => hw z.1), r_II, if_neg (fun z => hm z.1), r_II, if_neg (fun z => hm z.1)]
          have m6 : ∀ k, rI (sI (sI s6 145 26 0) 145 37 0) 152 k = rI (sI (sI s5 152 0 (rI s5 152 2)) 152 1 (rI s5 152 3)) 152 k := fun k => by
            rw [r_II, if_neg (by omega), r_II, if_neg (by omega), hf6.i (by omega)]
          refine ⟨hf4.tr (hfc.mo (fun c k z => Or.inr (Or.inl z))), fun k hk => ?_, ⟨?_, d3.2.1, fun k hk => ?_⟩, ⟨?_, d4.2.1, fun k hk => ?_⟩, ?_, ?_, ?_, ?_, fun k hk => ?_⟩
          · rw [r6 _ _ (by decide) (by decide) (by decide), h1 k hk, r4 _ _ (by decide)]; exact d1 k hk
          · rw [m6, r_II, if_neg (by omega), r_II, if_pos ⟨rfl, rfl⟩, hf5.i (by unfold fW; omega), r4 _ _ (by decide)]; exact d3.1
          · have := d3.2.1
            rw [r6 _ _ (by decide) (by decide) (by decide), r6 _ _ (by decide) (by decide) (by decide), Nat.zero_add, (h2 k (by omega)).1, (h2 k (by omega)).2, r4 _ _ (by decide), r4 _ _ (by decide)]
            exact d3.2.2 k hk
          · rw [m6, r_II, if_pos ⟨rfl, rfl⟩, hf5.i (by unfold fW; omega), r4 _ _ (by decide)]; exact d4.1
          · have := d4.2.1
            rw [r6 _ _ (by decide) (by decide) (by decide), r6 _ _ (by decide) (by decide) (by decide), (h2 (16 + k) (by omega)).1, (h2 (16 + k) (by omega)).2, r4 _ _ (by decide), r4 _ _ (by decide), show 32 + (16 + k) = 48 + k by omega]
            exact d4.2.2 k hk
          · rw [hfc.i (by unfold fW; omega)]; exact t4
          · rw [hfc.i (by unfold fW; omega)]; exact f4
          · rw [r_II, if_neg (by decide), r_II, if_pos ⟨rfl, rfl⟩]
          · rw [r_II, if_pos ⟨rfl, rfl⟩]
          · have := h6 k hk
            rw [Nat.zero_add] at this
            exact this
      | succ m ih =>
        intro i hi s5 hf5 h1 h2
        refine st_M_tent_68 ⟨fun _ => ?_, fun c => absurd ?_ c⟩
        · have e32 : (32 : Int32) + nI i = nI (32 + i) := nI_add 32 i
          rw [e32, nI_toInt (by omega), nI_toInt (by omega), Int.toNat_natCast, Int.toNat_natCast, nI_1]
          have hr : rI (sI s5 150 i (rI s5 150 (32 + i))) 151 (32 + i) = rI s5 151 (32 + i) := by rw [r_II, if_neg (by omega)]
          refine ⟨by omega, by omega, by omega, by omega, ih (i + 1) (by omega) _ ((hf5.sI (by unfold fW; omega)).sI (by unfold fW; omega)) (fun k hk => ?_) (fun k hk => ?_)⟩
          · rw [r_II, if_neg (by omega), r_II, if_neg (by omega)]; exact h1 k hk
          · rw [r_II, if_neg (by omega), r_II, r_II, r_II, if_neg (show ¬ (151 = 150 ∧ k = i) by omega)]
            by_cases hki : k = i
            · rw [if_pos ⟨rfl, hki⟩, if_pos ⟨rfl, hki⟩, hki]
              exact ⟨hf5.i (by unfold fW; omega), hf5.i (by unfold fW; omega)⟩
            · rw [if_neg (fun z => hki z.2), if_neg (fun z => hki z.2)]; exact h2 k (by omega)
        · rw [nI_toInt (by omega)]; omega
    have L2 : ∀ m i : Nat, i + m = 9 → ∀ s5, Fr fW s4 s5 → (∀ k, k < i → rI s5 148 k = rI s4 149 k) → pgI (d + 5) 155 53 [.ref 145, .int (nI n), .int (nI i)] [] v s5 K := by
      intro m
      induction m with
      | zero =>
        intro i hi s5 hf5 h1
        refine st_M_tent_53 ⟨fun c => absurd c ?_, fun _ => L3 32 0 rfl s5 hf5 (fun k hk => h1 k (by omega)) (fun k hk => absurd hk (Nat.not_lt_zero k))⟩
        rw [nI_toInt (by omega)]; omega
      | succ m ih =>
        intro i hi s5 hf5 h1
        refine st_M_tent_53 ⟨fun _ => ?_, fun c => absurd ?_ c⟩
        · rw [nI_toInt (by omega), Int.toNat_natCast, nI_1]
          refine ⟨by omega, by omega, ih (i + 1) (by omega) _ (hf5.sI (Or.inl rfl)) (fun k hk => ?_)⟩
          rw [r_II]
          by_cases hki : k = i
          · rw [if_pos ⟨rfl, hki⟩, hki, hf5.i (by unfold fW; omega)]
          · rw [if_neg (fun z => hki z.2)]; exact h1 k (by omega)
        · rw [nI_toInt (by omega)]; omega
    exact L2 9 0 rfl s4 (Fr.rf _ _) (fun k hk => absurd hk (Nat.not_lt_zero k))
  have G : ∀ f n p : Nat, n + f = 300 → n ≤ p → ∀ (D : TD) (sb s1 : hS) (z2 : Value), Fr fM s sb → tM sb B N → mE sb N (.ok p) s1 → mT sb D → pTent B N 300 pTent0 0 0 = pTent B N f D p n → pgI (d + 5) 155 30 [.ref 145, .int (nI n), z2] [] v s1 K := by
    intro f
    induction f with
    | zero =>
      intro n p hn hnp D sb s1 z2 hf hx hc hd he
      refine st_M_tent_30 ⟨fun _ => me_here hx hc (fun x s2 hxv hc2 => ⟨fun _ => ⟨fun c => absurd ((me_fault hc2).mpr ⟨_, rfl⟩) (by omega), fun _ => F D n _ sb s2 he (by omega) hf hc2 hd⟩, fun c => ?_⟩), fun c => absurd ((me_fault hc).mpr ⟨_, rfl⟩) c⟩
      have hxN := xs_ge (P := cBl) (B := B) (N := N) (p := p)
      unfold bat at hxv
      rw [if_neg (by omega)] at hxv
      omega
    | succ f ih =>
      intro n p hn hnp D sb s1 z2 hf hx hc hd he
      have hxN := xs_ge (P := cBl) (B := B) (N := N) (p := p)
      refine st_M_tent_30 ⟨fun _ => me_here hx hc (fun x s2 hxv hc2 => ⟨fun cx => ?_, fun cx => ?_⟩), fun c => absurd ((me_fault hc).mpr ⟨_, rfl⟩) c⟩
      · have hnl : ¬ xs cBl B N p < N := fun z => by
          unfold bat at hxv; rw [if_pos z] at hxv
          have := (h.2.2 _ z).2.1
          omega
        have e1 : pTent B N (f + 1) D p n = .ok (D, n) := if_neg hnl
        rw [e1] at he
        exact ⟨fun c => absurd ((me_fault hc2).mpr ⟨_, rfl⟩) (by omega), fun _ => F D n _ sb s2 he (by omega) hf hc2 hd⟩
      · have hlt : xs cBl B N p < N := by
          by_cases z : xs cBl B N p < N
          · exact z
          · unfold bat at hxv; rw [if_neg z] at hxv; omega
        have e1 : pTent B N (f + 1) D p n = bnd (pClause B N D (xs cBl B N p)) fun x => pTent B N f x.1 x.2 (n + 1) := if_pos hlt
        rw [e1] at he
        refine sm_takeClause hx hc2 xs_xs hd (fun sb3 s3 hf3 hx3 hc3 hd3 => ?_)
        rw [nI_1]
        cases e2 : pClause B N D (xs cBl B N p) with
        | ok y =>
          rw [e2] at hc3 he
          have := pClause_lt e2
          exact ih (n + 1) y.2 (by omega) (by omega) y.1 sb3 s3 z2 (hf.tr hf3) hx3 hc3 (hd3 y e2) he
        | error y =>
          obtain ⟨e, w⟩ := y
          rw [e2] at hc3 he
          exact st_M_tent_30 ⟨fun c => absurd ((me_fault hc3).mp c) (fun ⟨p, e⟩ => by cases e), fun _ => E e w sb3 s3 _ z2 he (hf.tr hf3) hc3⟩
  exact G 300 0 0 rfl (Nat.le_refl _) pTent0 sb s1 z2 hf hx hc hd rfl
end
